/-! the program's search: one slot, one set of those who have crossed -/
def ix (s g l : Nat) : Nat := (s * 256 + g) * 9 + l
theorem ix_inj {s g l s' g' l' : Nat} (hg : g < 256) (hg' : g' < 256) (hl : l < 9) (hl' : l' < 9) (h : ix s g l = ix s' g' l') : s = s' ∧ g = g' ∧ l = l' := by
  unfold ix at h
  omega
theorem e_index {p0 p1 p2 : Int32} {h : Hp} (s g l : Nat) (h0 : p0 = nI s) (h1 : p1 = nI g) (h2 : p2 = nI l) (Q : Int32 → Prop) : w_X2_index p0 p1 p2 h Q = Q (nI (ix s g l)) := by
  subst h0 h1 h2
  unfold w_X2_index ix
  rw [q256, q9, pk_mul, nI_add, pk_mul, nI_add]
def PS (h : Hp) (B : Br) (P : Pz) : Prop := CB h B ∧ RK B h ∧ h 44 14 = nI (pB P) ∧ h 44 15 = nI (pE P) ∧ h 44 16 = nI (pA P) ∧ (∀ s, s < pA P → ∃ x, x < 256 ∧ h 45 s = nI x ∧ ∀ k, k < 8 → x.testBit k = pM P s k) ∧
  (∀ s k, s < pA P → k < 8 → pM P s k = true → h 46 (s * 8 + k) = zI (pC P s k) ∧ h 47 (s * 8 + k) = zI (pD P s k) ∧ h 48 (s * 8 + k) = zI (pX P s k))
theorem PS.same {h h' : Hp} {B : Br} {P : Pz} (c : PS h B P) (e : ∀ q, q ≤ 48 ∨ q = 53 ∨ q = 54 → h' q = h q) : PS h' B P := by
  obtain ⟨a1, a2, a3, a4, a5, a6, a7⟩ := c
  refine ⟨a1.same (e 3 (by decide)) (e 4 (by decide)) (e 5 (by decide)) (e 6 (by decide)) (e 7 (by decide)), ?_, ?_, ?_, ?_, ?_, ?_⟩
  · unfold RK
    rw [e 53 (by decide), e 54 (by decide)]
    exact a2
  · rw [e 44 (by decide)]; exact a3
  · rw [e 44 (by decide)]; exact a4
  · rw [e 44 (by decide)]; exact a5
  · rw [e 45 (by decide)]; exact a6
  · rw [e 46 (by decide), e 47 (by decide), e 48 (by decide)]; exact a7
theorem e_reach {h : Hp} {B : Br} {P : Pz} (hP : PS h B P) (ho : okP P) {p1 : Int32} (s : Nat) (h1 : p1 = nI s) (hs : s ≤ 60) (Q : Int32 → Prop) : w_X2_shadeReaches p1 h Q = Q (if reachB B P s = true then 1 else 0) := by
  have hal := ho.al
  have he := ho.2.1
  have f13 : h 3 13 = nI (B.1 7) := hP.1.1.1.2.2.2.2.2.2.2.1
  have w7 := hP.1.2.2.2.2.2.2.2.2.1
  subst h1
  unfold w_X2_shadeReaches reachB
  rw [f13, hP.2.2.2.1, hP.2.2.2.2.1, b01]
  have h7 : B.1 7 = 0 ∨ B.1 7 = 1 := by omega
  rcases h7 with h7 | h7
  · rw [h7, wif_t (by decide)]
    rfl
  · rw [h7, wif_f (by decide)]
    by_cases c0 : s = 0
    · rw [c0, if_pos (by decide), b01]
      rfl
    · rw [if_neg (nI_ne0 (by omega) (by omega))]
      by_cases c1 : s = pE P
      · rw [if_pos (by rw [c1]), b01]
        simp [c1]
      · rw [if_neg (fun z => c1 ((nI_eq (by omega) (by omega)).mp z))]
        by_cases c2 : pA P ≤ s
        · rw [if_pos ((nI_leI (by omega) (by omega)).mpr c2), b01]
          simp [show ¬ s < pA P by omega]
        · rw [if_neg (fun z => c2 ((nI_leI (by omega) (by omega)).mp z)), b11]
          simp [c0, c1, show s < pA P by omega]
def TG (B : Br) (P : Pz) (h : Hp) (s g : Nat) : Prop := h 49 (ix s g 8) = zI (DI B P (pA P - s) g 8) ∧ (reachB B P s = true → ∀ last, last < 8 → g.testBit last = true → h 49 (ix s g last) = zI (DI B P (pA P - s) g last))
def TI (B : Br) (P : Pz) (h : Hp) (s : Nat) : Prop := ∀ g, g < 256 → sub8 g (pB P) → TG B P h s g
def restB (B : Br) (P : Pz) (s g k : Nat) : Int := pX P s k + DI B P (pA P - (s + 1)) (g ||| 2 ^ k) k
theorem DI_s {B : Br} {P : Pz} (r gone last : Nat) : DI B P (r + 1) gone last = mnk (canB P (pA P - (r + 1)) gone) (fun k => costB B P (pA P - (r + 1)) k (lastA P (pA P - (r + 1)) last) + DI B P r (gone ||| 2 ^ k) k) (DI B P r gone 8) 8 := rfl
theorem DI_succ {B : Br} {P : Pz} {s : Nat} (hs : s < pA P) (g last : Nat) : DI B P (pA P - s) g last = mnk (canB P s g) (fun k => costB B P s k (lastA P s last) + DI B P (pA P - (s + 1)) (g ||| 2 ^ k) k) (DI B P (pA P - (s + 1)) g 8) 8 := by
  have e : pA P - s = (pA P - (s + 1)) + 1 := by omega
  have e2 : pA P - (pA P - (s + 1) + 1) = s := by omega
  rw [e, DI_s, e2]
theorem canB_tb {P : Pz} (ho : okP P) {s g k : Nat} (hs : s < pA P) (hk : k < 8) (hc : canB P s g k = true) : pM P s k = true ∧ g.testBit k = false ∧ (pB P).testBit k = true := by
  unfold canB at hc
  simp at hc
  exact ⟨hc.1, hc.2, (ho.2.2.2.2.2 s k hs hk hc.1).1⟩
theorem e_restBehind {h : Hp} {B : Br} {P : Pz} (hP : PS h B P) (ho : okP P) {p1 p2 p3 : Int32} (s g k : Nat) (h1 : p1 = nI s) (h2 : p2 = nI g) (h3 : p3 = nI k) (hs : s < pA P) (hg : g < 256) (hsub : sub8 g (pB P)) (hk : k < 8) (hc : canB P s g k = true) (hT : TI B P h (s + 1)) (Q : Int32 → Prop) : w_X2_restBehind p1 p2 p3 h Q = Q (zI (restB B P s g k)) := by
  have hal := ho.al
  obtain ⟨hm, hgk, hbk⟩ := canB_tb ho hs hk hc
  have hT1 := hT (g ||| 2 ^ k) (or_lt hg hk) (or_sub hsub hbk)
  have hpx := (hP.2.2.2.2.2.2 s k hs hk hm).2.2
  have hog := or_lt hg hk
  subst h1 h2 h3
  unfold w_X2_restBehind
  rw [nI_1, e_reach hP ho (s + 1) rfl (by omega), wlet_e, e_at (by decide), q8, pk_mul, nI_add, rd_n (by omega) (by decide), hpx, or_bit g (by omega)]
  cases hr : reachB B P (s + 1) with
  | true =>
    rw [if_pos rfl, if_neg i10, e_index (s + 1) (g ||| 2 ^ k) k rfl rfl rfl, e_at (by decide), rd_n (by unfold ix; omega) (by decide), hT1.2 hr k hk (by rw [or_tb]; simp), zI_add]
    rfl
  | false =>
    rw [if_neg (show ¬ false = true by decide), if_pos rfl, e_index (s + 1) (g ||| 2 ^ k) 8 rfl rfl rfl, e_at (by decide), rd_n (by unfold ix; omega) (by decide), hT1.1, zI_add, ← DI_un (by omega) (by omega) hr _ k]
    rfl
theorem rest_b {B : Br} {P : Pz} (ho : okP P) {s g k : Nat} (hs : s < pA P) (hk : k < 8) (hm : pM P s k = true) : -600000 ≤ restB B P s g k ∧ restB B P s g k ≤ 9000000 := by
  have h1 := DI_b2 (B := B) ho (pA P - (s + 1)) (g ||| 2 ^ k) k (by omega)
  obtain ⟨_, _, _, _, _, h2, h3⟩ := ho.2.2.2.2.2 s k hs hk hm
  unfold restB
  omega
/-- the lists of the least, by rank -/
def LO (B : Br) (P : Pz) (s g n : Nat) (x : Int) : Prop := isMin x (DI B P (pA P - (s + 1)) g 8) (fun k => k < 8 ∧ canB P s g k = true ∧ rkB B k < n) (fun k => pD P s k + restB B P s g k)
def TA (B : Br) (P : Pz) (s g n : Nat) (x : Int) : Prop := isMin x (DI B P (pA P - (s + 1)) g 8) (fun k => k < 8 ∧ canB P s g k = true ∧ n ≤ rkB B k) (fun k => pC P s k + restB B P s g k)
theorem LO.b {B : Br} {P : Pz} (ho : okP P) {s g n : Nat} {x : Int} (hs : s < pA P) (h : LO B P s g n x) : -700000 ≤ x ∧ x ≤ 9100000 := by
  have h0 := DI_b2 (B := B) ho (pA P - (s + 1)) g 8 (by omega)
  rcases h.2.2 with e | ⟨k, ⟨hk, hc, _⟩, e⟩
  · omega
  · have hm := (canB_tb ho hs hk hc).1
    have h1 := rest_b (B := B) (g := g) ho hs hk hm
    have h2 := (ho.2.2.2.2.2 s k hs hk hm)
    have e : x = pD P s k + restB B P s g k := e
    omega
theorem TA.b {B : Br} {P : Pz} (ho : okP P) {s g n : Nat} {x : Int} (hs : s < pA P) (h : TA B P s g n x) : -700000 ≤ x ∧ x ≤ 9100000 := by
  have h0 := DI_b2 (B := B) ho (pA P - (s + 1)) g 8 (by omega)
  rcases h.2.2 with e | ⟨k, ⟨hk, hc, _⟩, e⟩
  · omega
  · have hm := (canB_tb ho hs hk hc).1
    have h1 := rest_b (B := B) (g := g) ho hs hk hm
    have h2 := (ho.2.2.2.2.2 s k hs hk hm)
    have e : x = pC P s k + restB B P s g k := e
    omega
def WG (B : Br) (P : Pz) (s g : Nat) (h' : Hp) : Prop := (∀ n, n ≤ 8 → ∃ x, h' 56 n = zI x ∧ LO B P s g n x) ∧ (∀ n, n ≤ 8 → ∃ x, h' 57 n = zI x ∧ TA B P s g n x)
theorem zI_min {a b : Int} (ha : -10000000 ≤ a ∧ a ≤ 10000000) (hb : -10000000 ≤ b ∧ b ≤ 10000000) : (if zI a < zI b then zI a else zI b) = zI (if a < b then a else b) := by
  by_cases c : a < b
  · rw [if_pos c, if_pos ((zI_lt (by omega) (by omega)).mpr c)]
  · rw [if_neg c, if_neg (fun z => c ((zI_lt (by omega) (by omega)).mp z))]
theorem s_weigh {h : Hp} {B : Br} {P : Pz} (hP : PS h B P) (ho : okP P) {p1 p2 : Int32} (s g : Nat) (h1 : p1 = nI s) (h2 : p2 = nI g) (hs : s < pA P) (hg : g < 256) (hsub : sub8 g (pB P)) (hT : TI B P h (s + 1)) (Q : Hp → Prop) (hQ : ∀ h', (∀ q, q ≠ 55 → q ≠ 56 → q ≠ 57 → h' q = h q) → WG B P s g h' → Q h') : w_X2_weigh p1 p2 h Q := by
  have hal := ho.al
  subst h1 h2
  obtain ⟨x, hx, hxe, hxb⟩ := hP.2.2.2.2.2.1 s hs
  have hT0 := (hT g hg hsub).1
  have hcan : ∀ k, k < 8 → ((andn x g).testBit k = canB P s g k) := fun k hk => by
    rw [andn_tb x g hk, hxb k hk]
    rfl
  have hb0 := DI_b2 (B := B) ho (pA P - (s + 1)) g 8 (by omega)
  have hPf : ∀ h1 : Hp, (∀ q, q ≠ 55 → q ≠ 56 → q ≠ 57 → h1 q = h q) → PS h1 B P := fun h1 hf => hP.same (fun q hq => hf q (by omega) (by omega) (by omega))
  have hTf : ∀ h1 : Hp, (∀ q, q ≠ 55 → q ≠ 56 → q ≠ 57 → h1 q = h q) → TI B P h1 (s + 1) := fun h1 hf => by
    unfold TI TG
    rw [hf 49 (by decide) (by decide) (by decide)]
    exact hT
  unfold w_X2_weigh
  rw [e_at (by decide), rd_n (by omega) (by decide), hxe, andn_i hx, wlet_e, nI_1, e_index (s + 1) g 8 rfl rfl q8, e_at (by decide), rd_n (by unfold ix; omega) (by decide), hT0, e_put (by decide), q0, wr_n (by decide) (by decide)]
  unfold w_X2_weigh_b44
  generalize hb : DI B P (pA P - (s + 1)) g 8 = b at hb0
  refine wl_run 8 (fun n (st : Int32 × Hp) => st.1 = nI n ∧ (∀ q, q ≠ 55 → q ≠ 56 → q ≠ 57 → st.2 q = h q) ∧ (∀ j, j ≤ n → ∃ x, st.2 56 j = zI x ∧ LO B P s g j x) ∧ (∀ k, k < 8 → canB P s g k = true → rkB B k < n → st.2 55 k = zI (restB B P s g k))) ?_ (Nat.zero_le _) ?_
  rotate_left
  · refine ⟨rfl, fun q h5 h6 h7 => hup_ne h6, fun j hj => ⟨b, ?_, ?_⟩, fun k _ _ hr => absurd hr (by omega)⟩
    · have : j = 0 := by omega
      subst this
      show hup h 56 0 (zI b) 56 0 = zI b
      exact hup_eq _ _ _ _
    · have : j = 0 := by omega
      subst this
      unfold LO
      rw [hb]
      exact isMin_base b _ (fun k hk => by omega)
  rintro n ⟨v5, h1⟩ K hn ⟨e5, hf, hlo, hre⟩ hK
  simp only at e5 hf hlo hre
  subst e5
  show w_X2_weigh_l44 (nI s) (nI g) (nI (andn x g)) (zI b) Q K (nI n) h1
  unfold w_X2_weigh_l44
  have hP1 := hPf h1 hf
  have hT1 := hTf h1 hf
  rw [q8]
  refine ⟨fun z => ?_, fun z => ?_⟩
  · -- the second way, from the highest on
    have hn8 : n = 8 := by
      have := (nI_leI (by omega) (by omega)).mp z
      omega
    subst hn8
    rw [e_put (by decide), wr_n (by decide) (by decide)]
    unfold w_X2_weigh_b165
    refine wl_run 8 (fun t (st : Int32 × Hp) => st.1 = zI (7 - t) ∧ (∀ q, q ≠ 55 → q ≠ 56 → q ≠ 57 → st.2 q = h q) ∧ st.2 56 = h1 56 ∧ st.2 55 = h1 55 ∧ (∀ j, 8 - t ≤ j → j ≤ 8 → ∃ x, st.2 57 j = zI x ∧ TA B P s g j x)) ?_ (Nat.zero_le _) ?_
    rotate_left
    · refine ⟨rfl, fun q h5 h6 h7 => ?_, ?_, ?_, fun j h8 h9 => ⟨b, ?_, ?_⟩⟩
      · show hup h1 57 8 _ q = h q
        rw [hup_ne h7]
        exact hf q h5 h6 h7
      · show hup h1 57 8 (zI b) 56 = h1 56
        exact hup_ne (by decide)
      · show hup h1 57 8 (zI b) 55 = h1 55
        exact hup_ne (by decide)
      · have : j = 8 := by omega
        subst this
        show hup h1 57 8 (zI b) 57 8 = zI b
        exact hup_eq _ _ _ _
      · have : j = 8 := by omega
        subst this
        unfold TA
        rw [hb]
        exact isMin_base b _ (fun k hk => by have := rk_b B hk.1; omega)
    rintro t ⟨v5, h2⟩ K2 ht ⟨e5, hf2, h56, h55, hta⟩ hK2
    simp only at e5 hf2 h56 h55 hta
    subst e5
    show w_X2_weigh_l165 (nI s) (nI g) (nI (andn x g)) Q K2 (zI (7 - t)) h2
    unfold w_X2_weigh_l165
    have hP2 := hPf h2 hf2
    refine ⟨fun z => ?_, fun z => ?_⟩
    · have ht8 : t = 8 := by
        rw [← zI_0] at z
        have := (zI_lt (by omega) (by omega)).mp z
        omega
      subst ht8
      refine hQ h2 hf2 ⟨?_, fun n hn => hta n (by omega) hn⟩
      rw [h56]
      exact hlo
    have ht8 : t < 8 := by
      refine Nat.lt_of_not_le fun q => z ?_
      rw [← zI_0]
      exact (zI_lt (by omega) (by omega)).mpr (by omega)
    obtain ⟨n, hn, hnt⟩ : ∃ n, n < 8 ∧ n = 7 - t := ⟨7 - t, by omega, rfl⟩
    have ezn : zI (7 - (t : Int)) = nI n := zI_nat (by omega)
    have ezm : nI n + -1 = zI (7 - ((t + 1 : Nat) : Int)) := by
      rw [← zI_n, show (-1 : Int32) = zI (-1) from rfl, zI_add]
      congr 1
      omega
    obtain ⟨k, hk, hkn⟩ := rk_sur B hn
    obtain ⟨y, hy, hyT⟩ := hta (n + 1) (by omega) (by omega)
    have hyb := hyT.b ho hs
    have hok := hP2.2.1.2 k hk
    rw [hkn] at hok
    rw [ezn, e_at (by decide), rd_n hn (by decide), hok, e_at (by decide), nI_1, rd_n (by omega) (by decide), hy, bit_t (by have := andn_lt (g := g) hx; omega) (by omega), hcan k hk]
    have fin : ∀ (v : Int) (h9 : Hp), h9 = h2 → TA B P s g n v → w_X2_weigh_b235 (nI s) (nI g) (nI (andn x g)) (nI n) (zI v) K2 h9 Q := by
      intro v h9 e9 hv
      subst e9
      unfold w_X2_weigh_b235
      rw [e_put (by decide), wr_n (by omega) (by decide), ezm]
      refine hK2 ht8 _ ⟨rfl, fun q h5 h6 h7 => ?_, ?_, ?_, fun j hj1 hj2 => ?_⟩
      · show hup h9 57 n (zI v) q = h q
        rw [hup_ne h7]
        exact hf2 q h5 h6 h7
      · show hup h9 57 n (zI v) 56 = _
        rw [hup_ne (by decide), h56]
      · show hup h9 57 n (zI v) 55 = _
        rw [hup_ne (by decide), h55]
      · by_cases ej : j = n
        · refine ⟨v, ?_, by rw [ej]; exact hv⟩
          show hup h9 57 n (zI v) 57 j = _
          rw [ej]
          exact hup_eq _ _ _ _
        · obtain ⟨x', hx1, hx2⟩ := hta j (by omega) hj2
          refine ⟨x', ?_, hx2⟩
          show hup h9 57 n (zI v) 57 j = _
          rw [hup_o (Or.inr ej)]
          exact hx1
    cases hc : canB P s g k with
    | false =>
      rw [if_neg (by decide)]
      refine wif_p (by decide) (fin y h2 rfl ?_)
      refine isMin_congr hyT (fun i => ⟨fun hi => ⟨hi.1, hi.2.1, by omega⟩, fun hi => ⟨hi.1, hi.2.1, ?_⟩⟩) (fun _ _ => rfl)
      have h9 : rkB B i ≠ n := fun e => by
        have := rk_inj hi.1 hk (e.trans hkn.symm)
        rw [this, hc] at hi
        exact Bool.noConfusion hi.2.1
      omega
    | true =>
      obtain ⟨hm, hgk, hbk⟩ := canB_tb ho hs hk hc
      have hrb := rest_b (B := B) (g := g) ho hs hk hm
      have hcb := ho.2.2.2.2.2 s k hs hk hm
      rw [if_pos rfl]
      refine wif_n (fun z => z rfl) ?_
      rw [e_at (by decide), q8, pk_mul, nI_add, rd_n (by omega) (by decide), (hP2.2.2.2.2.2.2 s k hs hk hm).1, e_at (by decide), rd_n hk (by decide), h55, hre k hk hc (rk_b B hk), zI_add, wlet_e, zI_min (by omega) (by omega)]
      refine fin _ h2 rfl ?_
      refine isMin_add hyT k (fun i => ⟨fun hi => ?_, fun hi => ?_⟩)
      · by_cases e : i = k
        · exact Or.inr e
        · refine Or.inl ⟨hi.1, hi.2.1, ?_⟩
          have h9 : rkB B i ≠ n := fun e2 => e (rk_inj hi.1 hk (e2.trans hkn.symm))
          have := hi.2.2
          omega
      · rcases hi with hi | hi
        · exact ⟨hi.1, hi.2.1, by have := hi.2.2; omega⟩
        · rw [hi]
          exact ⟨hk, hc, by omega⟩
  have hn8 : n < 8 := Nat.lt_of_not_le fun q => z ((nI_leI (by omega) (by omega)).mpr q)
  obtain ⟨k, hk, hkn⟩ := rk_sur B hn8
  obtain ⟨y, hy, hyT⟩ := hlo n (Nat.le_refl _)
  have hyb := LO.b ho hs hyT
  have hok := hP1.2.1.2 k hk
  rw [hkn] at hok
  rw [e_at (by decide), rd_n hn8 (by decide), hok, e_at (by decide), rd_n (by omega) (by decide), hy, bit_t (by have := andn_lt (g := g) hx; omega) (by omega), hcan k hk]
  have fin : ∀ (v : Int) (h9 : Hp), (∀ q, q ≠ 55 → h9 q = h1 q) → (∀ i, i < 8 → canB P s g i = true → rkB B i < n + 1 → h9 55 i = zI (restB B P s g i)) → LO B P s g (n + 1) v → w_X2_weigh_b131 (nI s) (nI g) (nI (andn x g)) (zI b) (nI n) (zI v) K h9 Q := by
    intro v h9 e9 hr9 hv
    unfold w_X2_weigh_b131
    rw [nI_1, e_put (by decide), wr_n (by omega) (by decide)]
    refine hK hn8 _ ⟨rfl, fun q h5 h6 h7 => ?_, fun j hj => ?_, fun i hi hci hri => ?_⟩
    · show hup h9 56 (n + 1) (zI v) q = h q
      rw [hup_ne h6, e9 q h5]
      exact hf q h5 h6 h7
    · by_cases ej : j = n + 1
      · refine ⟨v, ?_, by rw [ej]; exact hv⟩
        show hup h9 56 (n + 1) (zI v) 56 j = _
        rw [ej]
        exact hup_eq _ _ _ _
      · obtain ⟨x', hx1, hx2⟩ := hlo j (by omega)
        refine ⟨x', ?_, hx2⟩
        show hup h9 56 (n + 1) (zI v) 56 j = _
        rw [hup_o (Or.inr ej), e9 56 (by decide)]
        exact hx1
    · show hup h9 56 (n + 1) (zI v) 55 i = _
      rw [hup_ne (by decide)]
      exact hr9 i hi hci hri
  cases hc : canB P s g k with
  | false =>
    rw [if_neg (by decide)]
    refine wif_p (by decide) (fin y h1 (fun _ _ => rfl) (fun i hi hci hri => hre i hi hci ?_) ?_)
    · have h9 : rkB B i ≠ n := fun e => by
        have := rk_inj hi hk (e.trans hkn.symm)
        rw [this, hc] at hci
        exact Bool.noConfusion hci
      omega
    · refine isMin_congr hyT (fun i => ⟨fun hi => ⟨hi.1, hi.2.1, by have := hi.2.2; omega⟩, fun hi => ⟨hi.1, hi.2.1, ?_⟩⟩) (fun _ _ => rfl)
      have h9 : rkB B i ≠ n := fun e => by
        have := rk_inj hi.1 hk (e.trans hkn.symm)
        rw [this, hc] at hi
        exact Bool.noConfusion hi.2.1
      have := hi.2.2
      omega
  | true =>
    obtain ⟨hm, hgk, hbk⟩ := canB_tb ho hs hk hc
    have hrb := rest_b (B := B) (g := g) ho hs hk hm
    have hcb := ho.2.2.2.2.2 s k hs hk hm
    rw [if_pos rfl]
    refine wif_n (fun z => z rfl) ?_
    rw [e_restBehind hP1 ho s g k rfl rfl rfl hs hg hsub hk hc hT1, e_put (by decide), wr_n hk (by decide), e_at (by decide), pk_mul, nI_add, rd_n (by omega) (by decide), hup_ne (by decide), (hP1.2.2.2.2.2.2 s k hs hk hm).2.1, e_at (by decide), rd_n hk (by decide), hup_eq, zI_add, wlet_e, zI_min (by omega) (by omega)]
    refine fin _ _ (fun q hq => hup_ne hq) (fun i hi hci hri => ?_) ?_
    · rw [hup_at]
      by_cases e : i = k
      · rw [if_pos ⟨rfl, e⟩, e]
      · rw [if_neg (fun z => e z.2)]
        refine hre i hi hci ?_
        have h9 : rkB B i ≠ n := fun e2 => e (rk_inj hi hk (e2.trans hkn.symm))
        omega
    · refine isMin_add hyT k (fun i => ⟨fun hi => ?_, fun hi => ?_⟩)
      · by_cases e : i = k
        · exact Or.inr e
        · refine Or.inl ⟨hi.1, hi.2.1, ?_⟩
          have h9 : rkB B i ≠ n := fun e2 => e (rk_inj hi.1 hk (e2.trans hkn.symm))
          have := hi.2.2
          omega
      · rcases hi with hi | hi
        · exact ⟨hi.1, hi.2.1, by have := hi.2.2; omega⟩
        · rw [hi]
          exact ⟨hk, hc, by omega⟩
