/-! the model: the least from the last slot on -/
theorem mnk_ext {c : Nat → Bool} {v : Nat → Int} {b : Int} {n : Nat} : ∀ m, n ≤ m → (∀ k, n ≤ k → k < m → c k = false) → mnk c v b m = mnk c v b n
  | 0, h, _ => by
    have : n = 0 := by omega
    rw [this]
  | m + 1, h, hc => by
    by_cases e : n = m + 1
    · rw [e]
    · have ih := mnk_ext (c := c) (v := v) (b := b) m (by omega) (fun k h1 h2 => hc k h1 (by omega))
      show (if c m = true ∧ v m < mnk c v b m then v m else mnk c v b m) = _
      rw [hc m (by omega) (by omega), if_neg (fun z => Bool.noConfusion z.1), ih]
def goodL (B : Br) (l : Nat) : Prop := l = 8 ∨ l < B.1 0
theorem e_high {h : Hp} {B : Br} (hB : MB h B) {p1 : Int32} (k : Nat) (h1 : p1 = nI k) (hk : k < B.1 0) (Q : Int32 → Prop) : w_X9_high p1 h Q = Q (nI (stB B k)) := by
  have hw0 := hB.2.2.2.2.1
  subst h1
  unfold w_X9_high
  have v8 : vp_in (nI k) 8 = True := propext ⟨fun _ => trivial, fun _ => vp_in_nI (by omega) (by decide)⟩
  simp only [v8, v_0_7, v_5_7, true_and, cl0, cl5, Nat.one_mul]
  rw [nI_clamp (by omega), hB.2.2.2.1 k 0 hk (by decide), hB.2.2.2.1 k 5 hk (by decide), nI_add]
  rfl
theorem s_isDark {h : Hp} {B : Br} (hB : MB h B) {p1 p2 : Int32} (k l : Nat) (h1 : p1 = nI k) (h2 : p2 = nI l) (hk : k < B.1 0) (hl : l ≤ 8) (Q : Int32 → Prop) (hQ : ∀ z : Nat, z < 2 → (goodL B l → z = if isD B k l = true then 1 else 0) → Q (nI z)) : w_X9_isDark p1 p2 h Q := by
  have hw := hB.2.2.2.2
  have hw0 := hw.1
  have w7 := hw.2.2.2.2.2.2.1
  subst h1 h2
  unfold w_X9_isDark
  refine ⟨vl 7 11 (by decide) (by decide), ?_⟩
  rw [cl7, hB.1 7 (by decide)]
  refine ⟨fun z => hQ 0 (by decide) (fun _ => ?_), fun z => ⟨fun z2 => hQ 0 (by decide) (fun _ => ?_), fun z2 => ?_⟩⟩
  · have h9 : B.1 7 ≠ 1 := fun e => z (by rw [e]; rfl)
    unfold isD
    simp [h9]
  · rw [q8] at z2
    have h9 := (nI_leI (by omega) (by omega)).mp z2
    unfold isD
    simp [show ¬ l < 8 by omega]
  have hl8 : l < 8 := Nat.lt_of_not_le fun q => z2 (by rw [q8]; exact (nI_leI (by omega) (by omega)).mpr q)
  have h71 : B.1 7 = 1 := (nI_eq (b := 1) (by omega) (by omega)).mp (Classical.not_not.mp z)
  have b2 := st_b hw k
  by_cases hg : l < B.1 0
  · have b1 := st_b hw l
    rw [e_high hB l rfl hg, e_high hB k rfl hk]
    by_cases c : stB B k < stB B l
    · rw [if_neg (fun q => by have := (nI_leI (by omega) (by omega)).mp q; omega)]
      refine hQ 1 (by decide) (fun _ => ?_)
      unfold isD
      simp [h71, hl8, c]
    · rw [if_pos ((nI_leI (by omega) (by omega)).mpr (by omega))]
      refine hQ 0 (by decide) (fun _ => ?_)
      unfold isD
      simp [c]
  · unfold w_X9_high
    have v8 : vp_in (nI l) 8 = True := propext ⟨fun _ => trivial, fun _ => vp_in_nI (by omega) (by decide)⟩
    have v8k : vp_in (nI k) 8 = True := propext ⟨fun _ => trivial, fun _ => vp_in_nI (by omega) (by decide)⟩
    simp only [v8, v8k, v_0_7, v_5_7, true_and]
    split
    · exact hQ 0 (by decide) (fun q => by rcases q with q | q <;> omega)
    · exact hQ 1 (by decide) (fun q => by rcases q with q | q <;> omega)
theorem e_lastAt {h : Hp} {P : Pz} (h42 : h 92 42 = nI (pE P)) (hE : pE P ≤ 30) {p1 p2 : Int32} (s l : Nat) (h1 : p1 = nI s) (h2 : p2 = nI l) (hs : s < 100) (Q : Int32 → Prop) : w_X9_lastAt p1 p2 h Q = Q (nI (lastA P s l)) := by
  subst h1 h2
  unfold w_X9_lastAt lastA
  rw [h42]
  by_cases c : s = pE P
  · rw [if_neg (not_not_intro (by rw [c])), if_pos c]
    rfl
  · rw [if_pos (fun q => c ((nI_eq (by omega) (by omega)).mp q)), if_neg c]
theorem s_ones {p0 : Int32} {h : Hp} (x : Nat) (h0 : p0 = nI x) (hx : x < 256) (Q : Int32 → Prop) (hQ : Q (nI (onesN 8 x))) : w_X9_ones p0 h Q := by
  subst h0
  unfold w_X9_ones w_X9_ones_b4
  refine wl_run 9 (fun t (st : Int32 × Int32) => st.2 = nI t ∧ st.1 = nI (onesN t x)) ?_ (Nat.zero_le _) ⟨rfl, rfl⟩
  rintro t ⟨v1, v2⟩ K ht ⟨e2, e1⟩ hK
  simp only at e1 e2
  subst e1 e2
  show w_X9_ones_l4 (nI x) h Q K _ (nI t)
  unfold w_X9_ones_l4
  have e9 : onesN 9 x = onesN 8 x := by
    show onesN 8 x + (if x.testBit 8 then 1 else 0) = _
    rw [tb8 hx (by decide)]
    rfl
  refine ⟨fun z => ?_, fun z => ?_⟩
  · have e : t = 9 := by
      rw [q9] at z
      have := (nI_leI (by omega) (by omega)).mp z
      omega
    subst e
    rw [e9]
    exact hQ
  have ht9 : t < 9 := Nat.lt_of_not_le fun q => z (by rw [q9]; exact (nI_leI (by omega) (by omega)).mpr q)
  rw [bit_t (by omega) (by omega), wlet_e, nI_1]
  refine hK ht9 _ ⟨rfl, ?_⟩
  show nI (onesN t x) + _ = nI (onesN t x + (if x.testBit t then 1 else 0))
  cases x.testBit t with
  | true =>
    rw [if_pos rfl, if_pos rfl, nI_1]
  | false =>
    rw [if_neg (by decide), if_neg (by decide), q0, nI_add]
/-- the model's costs, and bits that are travellers -/
def MS (h : Hp) (B : Br) (P : Pz) : Prop := MB h B ∧ pE P = slN B ∧ h 92 42 = nI (pE P) ∧ h 92 43 = nI (pA P) ∧ (∀ s, s < pA P → MN B h P s) ∧ (∀ k, (pB P).testBit k = true → k < B.1 0) ∧ (∀ s k, s < pA P → pM P s k = ((pB P).testBit k && decide (B.2.2.2 k 2 ≤ smB B P s ∧ smB B P s ≤ B.2.2.2 k 3)))
theorem MS.same {h h' : Hp} {B : Br} {P : Pz} (c : MS h B P) (e : ∀ q, q < 1363 → q ≠ 92 → h' q = h q) (e42 : h' 92 42 = h 92 42) (e43 : h' 92 43 = h 92 43) (hA : pA P ≤ 60) : MS h' B P := by
  obtain ⟨a1, a2, a3, a4, a5, a6, a7⟩ := c
  refine ⟨a1.same (e 95 (by decide) (by decide)) (e 97 (by decide) (by decide)) (e 99 (by decide) (by decide)) (fun k hk => e _ (by omega) (by omega)), a2, e42.trans a3, e43.trans a4, fun s hs k hk => ?_, a6, a7⟩
  have hw0 := a1.2.2.2.2.1
  rw [e (1302 + s) (by omega) (by omega), e (761 + 9 * s + 1 + k) (by omega) (by omega), e (220 + 9 * s + 1 + k) (by omega) (by omega)]
  exact a5 s hs k hk
theorem e_canHave {h : Hp} {B : Br} {P : Pz} (hS : MS h B P) (hpb : pB P < 256) {p1 p2 p3 p4 : Int32} (s g k : Nat) (h1 : p1 = nI s) (h2 : p2 = nI (pB P)) (h3 : p3 = nI g) (h4 : p4 = nI k) (hs : s < pA P) (hs6 : s < 60) (hg : g < 256) (hk : k < B.1 0) (Q : Int32 → Prop) : w_X9_canHave p1 p2 p3 p4 h Q = Q (if canB P s g k = true then 1 else 0) := by
  have hw0 := hS.1.2.2.2.2.1
  subst h1 h2 h3 h4
  unfold w_X9_canHave
  rw [bit_t (by omega) (by omega), bit_t (by omega) (by omega)]
  have ec : canB P s g k = (((pB P).testBit k && decide (B.2.2.2 k 2 ≤ smB B P s ∧ smB B P s ≤ B.2.2.2 k 3)) && !g.testBit k) := by
    unfold canB
    rw [hS.2.2.2.2.2.2 s k hs]
  rw [ec]
  cases (pB P).testBit k with
  | false =>
    rw [if_neg (show ¬ false = true by decide), wif_t (by decide), b01]
    rfl
  | true =>
    rw [if_pos rfl, wif_f (fun z => z rfl)]
    cases g.testBit k with
    | true =>
      rw [if_pos rfl, wif_t i10, b01]
      simp
    | false =>
      rw [if_neg (show ¬ false = true by decide), wif_f (fun z => z rfl), and_t (vp_in_nI (n := s) (N := 60) hs6 (by decide)), and_t (vp_in_nI (n := k) (N := 8) (by omega) (by decide)), nI_clamp (n := s) (by omega), nI_clamp (n := k) (by omega), Nat.one_mul, (hS.2.2.2.2.1 s hs k hk).1]
      by_cases c : B.2.2.2 k 2 ≤ smB B P s ∧ smB B P s ≤ B.2.2.2 k 3
      · rw [if_pos c, if_neg i10, b11]
        simp [c]
      · rw [if_neg c, if_pos rfl, b01]
        rw [decide_eq_false c]
        rfl
/-- the table of one slot and one set -/
def TMg (B : Br) (P : Pz) (h : Hp) (s g : Nat) : Prop := ∀ l, l ≤ 8 → goodL B l → h (1363 + s) (9 * g + l) = zI (DI B P (pA P - s) g l)
def TM (B : Br) (P : Pz) (h : Hp) (s : Nat) : Prop := ∀ g, g < 256 → sub8 g (pB P) → TMg B P h s g
theorem can_tb {B : Br} {P : Pz} {h : Hp} (hS : MS h B P) {s g k : Nat} (hs : s < pA P) (hc : canB P s g k = true) : (pB P).testBit k = true ∧ g.testBit k = false ∧ (B.2.2.2 k 2 ≤ smB B P s ∧ smB B P s ≤ B.2.2.2 k 3) := by
  unfold canB at hc
  rw [hS.2.2.2.2.2.2 s k hs] at hc
  simp at hc
  exact ⟨hc.1.1, hc.2, hc.1.2⟩
theorem s_leastAt {h : Hp} {B : Br} {P : Pz} (hS : MS h B P) (ho : okP P) {p1 p2 p3 p4 : Int32} (s g l : Nat) (h1 : p1 = nI s) (h2 : p2 = nI (pB P)) (h3 : p3 = nI g) (h4 : p4 = nI l) (hs : s < pA P) (hg : g < 256) (hsub : sub8 g (pB P)) (hl : l ≤ 8) (hT : TM B P h (s + 1))
    (Q : Int32 → Prop) (hQ : ∀ v, (goodL B l → v = zI (mnk (canB P s g) (fun k => costB B P s k l + DI B P (pA P - (s + 1)) (g ||| 2 ^ k) k) (DI B P (pA P - (s + 1)) g 8) 8)) → Q v) : w_X9_leastAt p1 p2 p3 p4 h Q := by
  have hal := ho.al
  have hw0 := hS.1.2.2.2.2.1
  have hT0 := hT g hg hsub 8 (Nat.le_refl _) (Or.inl rfl)
  subst h1 h2 h3 h4
  have ve : mnk (canB P s g) (fun k => costB B P s k l + DI B P (pA P - (s + 1)) (g ||| 2 ^ k) k) (DI B P (pA P - (s + 1)) g 8) 8 = mnk (canB P s g) (fun k => costB B P s k l + DI B P (pA P - (s + 1)) (g ||| 2 ^ k) k) (DI B P (pA P - (s + 1)) g 8) (B.1 0) := by
    refine mnk_ext 8 hw0 (fun k h1 h2 => ?_)
    cases hc : canB P s g k with
    | false => rfl
    | true =>
      have := hS.2.2.2.2.2.1 k (can_tb hS hs hc).1
      omega
  unfold w_X9_leastAt
  rw [nI_1, show (9 : Int32) * nI g + 8 = nI (9 * g + 8) by rw [q9, pk_mul, q8, nI_add]]
  refine ⟨vp_in_nI (by omega) (by decide), vp_in_nI (by omega) (by decide), ?_⟩
  rw [wlet_e, nI_clamp (by omega), nI_clamp (by omega), Nat.one_mul, hT0]
  unfold w_X9_leastAt_b21
  refine wl_run (B.1 0) (fun t (st : Int32 × Int32) => st.2 = nI t ∧ (goodL B l → st.1 = zI (mnk (canB P s g) (fun k => costB B P s k l + DI B P (pA P - (s + 1)) (g ||| 2 ^ k) k) (DI B P (pA P - (s + 1)) g 8) t))) ?_ (Nat.zero_le _) ⟨rfl, fun _ => rfl⟩
  rintro t ⟨v5, v6⟩ K ht ⟨e6, e5⟩ hK
  simp only at e6 e5
  subst e6
  show w_X9_leastAt_l21 (nI s) (nI (pB P)) (nI g) (nI l) h Q K v5 (nI t)
  unfold w_X9_leastAt_l21 w_X9_leastAt_b105
  refine ⟨vl 0 11 (by decide) (by decide), ?_⟩
  rw [cl0, hS.1.1 0 (by decide)]
  refine ⟨fun z => ?_, fun z => ?_⟩
  · have e : t = B.1 0 := by
      have := (nI_leI (by omega) (by omega)).mp z
      omega
    subst e
    refine hQ v5 (fun hgl => ?_)
    rw [ve]
    exact e5 hgl
  have htn : t < B.1 0 := Nat.lt_of_not_le fun q => z ((nI_leI (by omega) (by omega)).mpr q)
  have hK1 := hK htn
  rw [e_canHave hS ho.1 s g t rfl rfl rfl rfl hs (by omega) hg htn, nI_1 s, nI_1 t]
  cases hc : canB P s g t with
  | false =>
    rw [if_neg (show ¬ false = true by decide)]
    refine wif_n (fun q => q rfl) (hK1 _ ⟨rfl, fun hgl => ?_⟩)
    show v5 = zI (if canB P s g t = true ∧ _ then _ else _)
    rw [hc, if_neg (fun q => Bool.noConfusion q.1)]
    exact e5 hgl
  | true =>
    obtain ⟨hbk, hgk, hmay⟩ := can_tb hS hs hc
    obtain ⟨_, hco⟩ := hS.2.2.2.2.1 s hs t htn
    obtain ⟨_, _, c0, c1⟩ := hco hmay
    have hT1 := hT (g ||| 2 ^ t) (or_lt hg (by omega)) (or_sub hsub hbk) t (by omega) (Or.inr htn)
    have hog := or_lt (k := t) hg (by omega)
    rw [if_pos rfl]
    refine wif_p i10 ⟨vp_in_nI (by omega) (by decide), vp_in_nI (by omega) (by decide), ?_⟩
    refine s_isDark hS.1 t l rfl rfl htn hl _ (fun zz hz2 hzg => ?_)
    rw [or_bit g (by omega), show (9 : Int32) * nI (g ||| 2 ^ t) + nI t = nI (9 * (g ||| 2 ^ t) + t) by rw [q9, pk_mul, nI_add]]
    refine ⟨vp_in_nI hz2 (by decide), vp_in_nI (by omega) (by decide), vp_in_nI (by omega) (by decide), ?_⟩
    rw [wlet_e, wlet_e, nI_clamp (n := s) (by omega), nI_clamp (n := t) (by omega), nI_clamp (n := zz) (by omega), nI_clamp (n := s + 1) (by omega), nI_clamp (n := 9 * (g ||| 2 ^ t) + t) (by omega), Nat.one_mul, Nat.one_mul, hT1]
    refine hK1 _ ⟨rfl, fun hgl => ?_⟩
    have e5v := e5 hgl
    have hz := hzg hgl
    have ecost : h (220 + 9 * s + 1 + t) zz = zI (costB B P s t l) := by
      unfold costB
      rw [hz]
      cases isD B t l with
      | true =>
        rw [if_pos rfl, if_pos rfl]
        exact c1
      | false =>
        rw [if_neg (by decide), if_neg (by decide)]
        exact c0
    have hm : pM P s t = true := (canB_tb ho hs (by omega) hc).1
    have hcb := ho.2.2.2.2.2 s t hs (by omega) hm
    have hDb := DI_b2 (B := B) ho (pA P - (s + 1)) (g ||| 2 ^ t) t (by omega)
    have hcc : -10000 ≤ costB B P s t l ∧ costB B P s t l ≤ 24000 := by
      unfold costB
      split <;> omega
    have hmm : -1000000 ≤ mnk (canB P s g) (fun k => costB B P s k l + DI B P (pA P - (s + 1)) (g ||| 2 ^ k) k) (DI B P (pA P - (s + 1)) g 8) t ∧ mnk (canB P s g) (fun k => costB B P s k l + DI B P (pA P - (s + 1)) (g ||| 2 ^ k) k) (DI B P (pA P - (s + 1)) g 8) t ≤ 10000000 := by
      have h0 := DI_b2 (B := B) ho (pA P - (s + 1)) g 8 (by omega)
      obtain ⟨a1, a2, a3⟩ := mnk_min (canB P s g) (fun k => costB B P s k l + DI B P (pA P - (s + 1)) (g ||| 2 ^ k) k) (DI B P (pA P - (s + 1)) g 8) t
      rcases a3 with e | ⟨i, ⟨hi, hci⟩, e⟩
      · omega
      · have hmi : pM P s i = true := (canB_tb ho hs (by omega) hci).1
        have hci2 := ho.2.2.2.2.2 s i hs (by omega) hmi
        have hDi := DI_b2 (B := B) ho (pA P - (s + 1)) (g ||| 2 ^ i) i (by omega)
        have hcc2 : -10000 ≤ costB B P s i l ∧ costB B P s i l ≤ 24000 := by
          unfold costB
          split <;> omega
        simp only at e
        omega
    show (if v5 ≤ _ then v5 else _) = zI (if canB P s g t = true ∧ _ then _ else _)
    rw [e5v, ecost, zI_add]
    generalize mnk (canB P s g) (fun k => costB B P s k l + DI B P (pA P - (s + 1)) (g ||| 2 ^ k) k) (DI B P (pA P - (s + 1)) g 8) t = mm at hmm ⊢
    simp only
    by_cases c : mm ≤ costB B P s t l + DI B P (pA P - (s + 1)) (g ||| 2 ^ t) t
    · rw [if_pos ((zI_le (by omega) (by omega)).mpr c), if_neg (by omega)]
    · rw [if_neg (fun q => c ((zI_le (by omega) (by omega)).mp q)), if_pos ⟨hc, by omega⟩]
