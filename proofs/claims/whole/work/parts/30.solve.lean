/-! the program's search: all slots -/
theorem hup_eq2 {α : Type} {a : α} {h : Hp} {p i : Nat} {v : Int32} : (a, hup h p i v).2 p i = v := hup_eq h p i v
theorem TG_of {h h' : Hp} {B : Br} {P : Pz} {s g : Nat} (c : TG B P h s g) (e : ∀ l, l < 9 → h' 49 (ix s g l) = h 49 (ix s g l)) : TG B P h' s g := by
  refine ⟨?_, fun hr last hl hg => ?_⟩
  · rw [e 8 (by decide)]
    exact c.1
  · rw [e last (by omega)]
    exact c.2 hr last hl hg
theorem cost_8 {B : Br} {P : Pz} {s k : Nat} : costB B P s k 8 = pC P s k + pX P s k := by
  have h1 : isD B k 8 = false := by
    unfold isD
    simp
  unfold costB
  rw [h1]
  rfl
theorem min_8 {B : Br} {P : Pz} {s g : Nat} {x : Int} (hs : s < pA P) (h : TA B P s g 0 x) : x = DI B P (pA P - s) g 8 := by
  rw [DI_succ hs]
  refine isMin_uniq ?_ (mnk_min _ _ _ 8)
  refine isMin_congr h (fun k => ⟨fun hk => ⟨hk.1, hk.2.1⟩, fun hk => ⟨hk.1, hk.2, Nat.zero_le _⟩⟩) (fun k hk => ?_)
  have e : lastA P s 8 = 8 := by
    unfold lastA
    split <;> rfl
  rw [e, cost_8]
  unfold restB
  omega
theorem min_last {B : Br} {P : Pz} {s g last : Nat} {x y : Int} (hs : s < pA P) (hr : reachB B P s = true) (hl : last < 8) (hx : LO B P s g (lowB B last) x) (hy : TA B P s g (lowB B last) y) : (if y < x then y else x) = DI B P (pA P - s) g last := by
  have hr2 : B.1 7 = 1 ∧ s ≠ pE P := by
    unfold reachB at hr
    simp at hr
    exact ⟨hr.1, hr.2.2.1⟩
  have e : lastA P s last = last := by
    unfold lastA
    rw [if_neg hr2.2]
  rw [DI_succ hs, e]
  refine isMin_uniq ?_ (mnk_min _ _ _ 8)
  have hD : ∀ k, isD B k last = decide (stB B k < stB B last) := fun k => by
    unfold isD
    simp [hr2.1, hl]
  refine isMin_two (v := fun k => costB B P s k last + DI B P (pA P - (s + 1)) (g ||| 2 ^ k) k) (isMin_congr hx (fun _ => Iff.rfl) (fun k hk => ?_)) (isMin_congr hy (fun _ => Iff.rfl) (fun k hk => ?_)) (fun k => ⟨fun hk => ?_, fun hk => ?_⟩) (fun _ _ => rfl)
  · have h2 : stB B k < stB B last := (rk_low hk.1).mp hk.2.2
    unfold costB restB
    rw [hD k, decide_eq_true h2, if_pos rfl]
    omega
  · have h2 : ¬ stB B k < stB B last := fun z => by
      have := (rk_low hk.1).mpr z
      have := hk.2.2
      omega
    unfold costB restB
    rw [hD k, decide_eq_false h2, if_neg (by decide)]
    omega
  · by_cases c : rkB B k < lowB B last
    · exact Or.inl ⟨hk.1, hk.2, c⟩
    · exact Or.inr ⟨hk.1, hk.2, by omega⟩
  · rcases hk with hk | hk
    · exact ⟨hk.1, hk.2.1⟩
    · exact ⟨hk.1, hk.2.1⟩
theorem s_solveFrom {h : Hp} {B : Br} {P : Pz} (hP : PS h B P) (ho : okP P) {p1 p2 : Int32} (s g : Nat) (h1 : p1 = nI s) (h2 : p2 = nI g) (hs : s < pA P) (hg : g < 256) (hsub : sub8 g (pB P)) (hT : TI B P h (s + 1)) (Q : Hp → Prop)
    (hQ : ∀ h', (∀ q, q ≠ 49 → q ≠ 55 → q ≠ 56 → q ≠ 57 → h' q = h q) → (∀ i, (∀ l, l < 9 → i ≠ ix s g l) → h' 49 i = h 49 i) → TG B P h' s g → Q h') : w_X2_solveFrom p1 p2 h Q := by
  have hal := ho.al
  subst h1 h2
  unfold w_X2_solveFrom
  refine s_weigh hP ho s g rfl rfl hs hg hsub hT _ (fun h1 hf hw => ?_)
  obtain ⟨x0, hx0, hx0T⟩ := hw.2 0 (by decide)
  have e0 := min_8 hs hx0T
  rw [e_index s g 8 rfl rfl q8, e_at (by decide), q0, rd_n (by decide) (by decide), hx0, e0, e_put (by decide), wr_n (by unfold ix; omega) (by decide)]
  have hP1 : PS h1 B P := hP.same (fun q hq => hf q (by omega) (by omega) (by omega))
  have hP2 : PS (hup h1 49 (ix s g 8) (zI (DI B P (pA P - s) g 8))) B P := hP1.same (fun q hq => hup_ne (by omega))
  rw [e_reach hP2 ho s rfl (by omega), ← q0]
  cases hr : reachB B P s with
  | false =>
    rw [if_neg (show ¬ false = true by decide)]
    refine wif_n (fun z => z rfl) (hQ _ (fun q a b c d => ?_) (fun i hi => ?_) ⟨hup_eq _ _ _ _, fun z => ?_⟩)
    · rw [hup_ne a]
      exact hf q b c d
    · rw [hup_o (Or.inr (hi 8 (by decide)))]
      rw [hf 49 (by decide) (by decide) (by decide)]
    · rw [hr] at z
      exact Bool.noConfusion z
  | true =>
    rw [if_pos rfl]
    refine wif_p i10 ?_
    unfold w_X2_solveFrom_b39
    refine wl_run 8 (fun t (st : Int32 × Hp) => st.1 = nI t ∧ (∀ q, q ≠ 49 → st.2 q = h1 q) ∧ (∀ i, (∀ l, l < 9 → i ≠ ix s g l) → st.2 49 i = h1 49 i) ∧ st.2 49 (ix s g 8) = zI (DI B P (pA P - s) g 8) ∧ (∀ last, last < t → g.testBit last = true → st.2 49 (ix s g last) = zI (DI B P (pA P - s) g last))) ?_ (Nat.zero_le _) ?_
    rotate_left
    · refine ⟨rfl, fun q hq => hup_ne hq, fun i hi => ?_, hup_eq2, fun last hl => absurd hl (by omega)⟩
      show hup h1 49 (ix s g 8) (zI (DI B P (pA P - s) g 8)) 49 i = h1 49 i
      rw [hup_o (Or.inr (hi 8 (by decide)))]
    rintro t ⟨v3, h2⟩ K ht ⟨e3, hf2, h49, h8, hla⟩ hK
    simp only at e3 hf2 h49 h8 hla
    subst e3
    show w_X2_solveFrom_l39 (nI s) (nI g) Q K (nI t) h2
    unfold w_X2_solveFrom_l39
    have hP3 : PS h2 B P := hP1.same (fun q hq => hf2 q (by omega))
    refine ⟨fun z => ?_, fun z => ?_⟩
    · have ht8 : t = 8 := by
        rw [q8] at z
        have := (nI_leI (by omega) (by omega)).mp z
        omega
      subst ht8
      refine hQ h2 (fun q a b c d => (hf2 q a).trans (hf q b c d)) (fun i hi => ?_) ⟨h8, fun _ last hl hgl => hla last hl hgl⟩
      rw [h49 i hi, hf 49 (by decide) (by decide) (by decide)]
    have ht8 : t < 8 := Nat.lt_of_not_le fun q => z (by rw [q8]; exact (nI_leI (by omega) (by omega)).mpr q)
    have hK1 := hK ht8
    rw [bit_t (by omega) (by omega)]
    unfold w_X2_solveFrom_b98
    cases hgt : g.testBit t with
    | false =>
      rw [if_neg (show ¬ false = true by decide), nI_1]
      refine wif_p (by decide) (hK1 _ ⟨rfl, hf2, h49, h8, fun last hl hgl => ?_⟩)
      refine hla last ?_ hgl
      have : last ≠ t := fun e => by
        rw [e, hgt] at hgl
        exact Bool.noConfusion hgl
      omega
    | true =>
      rw [if_pos rfl]
      refine wif_n (fun z => z rfl) ?_
      have hlow := low_b B t
      obtain ⟨x, hx, hxT⟩ := hw.1 (lowB B t) hlow
      obtain ⟨y, hy, hyT⟩ := hw.2 (lowB B t) hlow
      have hxb := hxT.b ho hs
      have hyb := hyT.b ho hs
      rw [e_at (by decide), rd_n ht8 (by decide), hP3.2.1.1 t ht8, e_index s g t rfl rfl rfl, e_at (by decide), rd_n (by omega) (by decide), hf2 56 (by decide), hx, e_at (by decide), rd_n (by omega) (by decide), hf2 57 (by decide), hy, zI_min (by omega) (by omega), min_last hs hr ht8 hxT hyT, e_put (by decide), wr_n (by unfold ix; omega) (by decide), nI_1]
      refine hK1 _ ⟨rfl, fun q hq => ?_, fun i hi => ?_, ?_, fun last hl hgl => ?_⟩
      · show hup h2 49 (ix s g t) (zI (DI B P (pA P - s) g t)) q = h1 q
        rw [hup_ne hq]
        exact hf2 q hq
      · show hup h2 49 (ix s g t) (zI (DI B P (pA P - s) g t)) 49 i = h1 49 i
        rw [hup_o (Or.inr (hi t (by omega)))]
        exact h49 i hi
      · show hup h2 49 (ix s g t) (zI (DI B P (pA P - s) g t)) 49 (ix s g 8) = _
        rw [hup_o (Or.inr (fun e => by have := (ix_inj hg hg (by decide) (by omega) e).2.2; omega))]
        exact h8
      · show hup h2 49 (ix s g t) (zI (DI B P (pA P - s) g t)) 49 (ix s g last) = _
        by_cases e : last = t
        · rw [e]
          exact hup_eq _ _ _ _
        · rw [hup_o (Or.inr (fun z => e (ix_inj hg hg (by omega) (by omega) z).2.2))]
          exact hla last (by omega) hgl
theorem bitc : ∀ n, n < 256 → ∀ (h : Hp) (Q : Int32 → Prop), w_J6_bitCount_0f7a4 (nI n) h Q = Q (nI (onesN 8 n)) := by
  intro n hn h Q
  unfold w_J6_bitCount_0f7a4
  simp only [wlet_e]
  congr 1
  revert n
  decide +kernel
theorem s_solve {h : Hp} {B : Br} {P : Pz} (hP : PS h B P) (ho : okP P) {p1 : Int32} (h1 : p1 = zI (pP P)) (Q : Hp → Prop) (hQ : ∀ h', (∀ q, q ≠ 49 → q ≠ 55 → q ≠ 56 → q ≠ 57 → h' q = h q) → (∀ s, s ≤ pA P → TI B P h' s) → Q h') : w_X2_solve p1 h Q := by
  have hal := ho.al
  have hpb := ho.1
  subst h1
  unfold w_X2_solve w_X2_solve_b2
  refine wl_run 256 (fun g (st : Int32 × Hp) => st.1 = nI g ∧ (∀ q, q ≠ 49 → st.2 q = h q) ∧ (∀ g', g' < g → st.2 49 (ix (pA P) g' 8) = zI (DI B P 0 g' 8))) ?_ (Nat.zero_le _) ⟨rfl, fun _ _ => rfl, fun g' hg' => absurd hg' (by omega)⟩
  rintro g ⟨v2, h1⟩ K hg ⟨e2, hf, ht⟩ hK
  simp only at e2 hf ht
  subst e2
  show w_X2_solve_l2 (zI (pP P)) Q K (nI g) h1
  unfold w_X2_solve_l2
  have hP1 : PS h1 B P := hP.same (fun q hq => hf q (by omega))
  rw [q256]
  refine ⟨fun z => ?_, fun z => ?_⟩
  rotate_left
  · have hg8 : g < 256 := Nat.lt_of_not_le fun q => z ((nI_leI (by omega) (by omega)).mpr q)
    rw [hP1.2.2.2.2.1, e_index (pA P) g 8 rfl rfl q8, hP1.2.2.1, andn_i hpb, bitc _ (andn_lt hpb), e_put (by decide), wr_n (by unfold ix; omega) (by decide), nI_1]
    refine hK hg8 _ ⟨rfl, fun q hq => ?_, fun g' hg' => ?_⟩
    · exact (hup_ne hq).trans (hf q hq)
    · by_cases e : g' = g
      · rw [e]
        refine hup_eq2.trans ?_
        rw [← zI_n, zI_mul]
        rfl
      · show hup h1 49 (ix (pA P) g 8) (zI (pP P) * nI (onesN 8 (andn (pB P) g))) 49 (ix (pA P) g' 8) = _
        rw [hup_o (Or.inr (fun z => e (ix_inj (by omega) hg8 (by decide) (by decide) z).2.1))]
        exact ht g' (by omega)
  have hg8 : g = 256 := by
    have := (nI_leI (by omega) (by omega)).mp z
    omega
  subst hg8
  rw [hP1.2.2.2.2.1, wlet_e, q1, nI_subZ]
  have hTa : ∀ hx : Hp, hx 49 = h1 49 → TI B P hx (pA P) := by
    intro hx e g' hg' _
    refine ⟨?_, fun hr => ?_⟩
    · rw [e, Nat.sub_self]
      exact ht g' hg'
    · unfold reachB at hr
      simp at hr
  unfold w_X2_solve_b52
  refine wl_run (pA P) (fun t (st : Int32 × Hp) => st.1 = zI ((pA P : Int) - (1 : Nat) - t) ∧ (∀ q, q ≠ 49 → q ≠ 55 → q ≠ 56 → q ≠ 57 → st.2 q = h q) ∧ (∀ s, pA P - t ≤ s → s ≤ pA P → TI B P st.2 s)) ?_ (Nat.zero_le _) ?_
  rotate_left
  · refine ⟨by show zI _ = zI _; congr 1; omega, fun q a b c d => hf q a, fun s a1 a2 => ?_⟩
    have : s = pA P := by omega
    subst this
    exact hTa h1 rfl
  rintro t ⟨v2, h2⟩ K2 ht2 ⟨e2, hf2, hT2⟩ hK2
  simp only at e2 hf2 hT2
  subst e2
  show w_X2_solve_l52 (zI (pP P)) Q K2 (zI ((pA P : Int) - (1 : Nat) - t)) h2
  unfold w_X2_solve_l52
  refine ⟨fun z => ?_, fun z => ?_⟩
  · have e : t = pA P := by
      rw [← zI_0] at z
      have := (zI_lt (by omega) (by omega)).mp z
      omega
    subst e
    exact hQ h2 hf2 (fun s hs => hT2 s (by omega) hs)
  have ht3 : t < pA P := by
    refine Nat.lt_of_not_le fun q => z ?_
    rw [← zI_0]
    exact (zI_lt (by omega) (by omega)).mpr (by omega)
  obtain ⟨s, hs, hst⟩ : ∃ s, s < pA P ∧ s = pA P - 1 - t := ⟨pA P - 1 - t, by omega, rfl⟩
  rw [show zI ((pA P : Int) - (1 : Nat) - t) = nI s from zI_nat (by omega)]
  unfold w_X2_solve_b58
  refine wl_run 256 (fun g (st : Int32 × Hp) => st.1 = nI g ∧ (∀ q, q ≠ 49 → q ≠ 55 → q ≠ 56 → q ≠ 57 → st.2 q = h q) ∧ (∀ s', s < s' → s' ≤ pA P → TI B P st.2 s') ∧ (∀ g', g' < g → sub8 g' (pB P) → TG B P st.2 s g')) ?_ (Nat.zero_le _) ⟨rfl, hf2, fun s' a b => hT2 s' (by omega) b, fun g' hg' => absurd hg' (by omega)⟩
  rintro g ⟨v3, h3⟩ K3 hg3 ⟨e3, hf3, hT3, hG3⟩ hK3
  simp only at e3 hf3 hT3 hG3
  subst e3
  show w_X2_solve_l58 (zI (pP P)) (nI s) K2 Q K3 (nI g) h3
  unfold w_X2_solve_l58
  have hP3 : PS h3 B P := hP.same (fun q hq => hf3 q (by omega) (by omega) (by omega) (by omega))
  refine ⟨fun z => ?_, fun z => ?_⟩
  · have hg8 : g = 256 := by
      rw [q256] at z
      have := (nI_leI (by omega) (by omega)).mp z
      omega
    subst hg8
    refine hK2 ht3 _ ⟨?_, hf3, fun s' a b => ?_⟩
    · show nI s + -1 = _
      rw [← zI_n, show (-1 : Int32) = zI (-1) from rfl, zI_add]
      congr 1
      omega
    · by_cases e : s' = s
      · rw [e]
        exact fun g' hg' hs' => hG3 g' hg' hs'
      · exact hT3 s' (by omega) b
  have hg8 : g < 256 := Nat.lt_of_not_le fun q => z (by rw [q256]; exact (nI_leI (by omega) (by omega)).mpr q)
  rw [hP3.2.2.1, andn_i hg8]
  unfold w_X2_solve_b82
  refine ⟨fun z2 => ?_, fun z2 => ?_⟩
  · rw [nI_1]
    refine hK3 hg8 _ ⟨rfl, hf3, hT3, fun g' a b => ?_⟩
    refine hG3 g' ?_ b
    have : g' ≠ g := fun e => z2 (by rw [← e, (andn_0 (by omega)).mpr b]; rfl)
    omega
  · have hsub : sub8 g (pB P) := by
      refine (andn_0 hg8).mp ?_
      have h9 := Classical.not_not.mp z2
      have h10 := andn_lt (a := g) (g := pB P) hg8
      exact (nI_eq (b := 0) (by omega) (by omega)).mp h9
    refine s_solveFrom hP3 ho s g rfl rfl hs hg8 hsub (hT3 (s + 1) (by omega) (by omega)) _ (fun h4 hf4 h49 hTG => ?_)
    rw [nI_1]
    refine hK3 hg8 _ ⟨rfl, fun q a b c d => (hf4 q a b c d).trans (hf3 q a b c d), fun s' a b g' hg' hs' => ?_, fun g' a b => ?_⟩
    · refine TG_of (hT3 s' a b g' hg' hs') (fun l hl => h49 _ (fun l' hl' e => ?_))
      have := (ix_inj hg' hg8 hl hl' e).1
      omega
    · by_cases e : g' = g
      · rw [e]
        exact hTG
      · refine TG_of (hG3 g' (by omega) b) (fun l hl => h49 _ (fun l' hl' e2 => ?_))
        exact e (ix_inj (by omega) hg8 hl hl' e2).2.1
