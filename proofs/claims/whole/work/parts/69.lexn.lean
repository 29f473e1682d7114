/-! words, signs and numbers, by the model -/
theorem e_isWordN {g : Hp} (h5 : g 92 5 ≠ 0) (p1 : Int64) (Q : Int32 → Hp → Prop) : w_X9_isWord p1 g Q = Q 0 g := by
  unfold w_X9_isWord
  rw [wif_t h5, b01]
theorem s_skipWord {g : Hp} {T : Nat → Int32} {L p : Nat} (c : MX g T L p) (Q : Hp → Prop) (hQ : ∀ h', fm g h' → MX h' T L (le T L p) → Q h') : w_X9_skipWord g Q := by
  have c2 := c.2.1
  unfold w_X9_skipWord w_X9_skipWord_b0
  refine wl_run 500 (fun n (u : Hp) => fm g u ∧ MX u T L (p + n) ∧ le T L p = le T L (p + n)) ?_ (Nat.zero_le _) ⟨fm.rf, c, rfl⟩
  rintro n u K hn ⟨fu, cu, es⟩ hK
  show w_X9_skipWord_l0 Q K u
  have hl := cu.2.2.2.1
  unfold w_X9_skipWord_l0
  rw [cu.2.2.1, e_byteAt cu rfl (by omega)]
  have stop : ¬ (p + n < L ∧ isLt (T (p + n)) = true) → Q u := fun q => by
    have e : le T L (p + n) = p + n := sc_no q
    refine hQ u fu ?_
    rw [es, e]
    exact cu
  by_cases q : p + n < L
  · rw [if_pos q]
    refine ⟨fun y => stop (fun z => (of_decide_eq_true z.2).1 y), fun y => ?_⟩
    rw [e_byteAt cu rfl (by omega), if_pos q]
    refine ⟨fun y2 => stop (fun z => (of_decide_eq_true z.2).2 y2), fun y2 => ?_⟩
    rw [nI_1, wlet_e]
    exact hK (by omega) _ ⟨fu.tr fm.up, cu.up fm.up (hup_eq _ _ _ _) (by omega), es.trans (sc_go q (decide_eq_true ⟨y, y2⟩))⟩
  · rw [if_neg q]
    exact wif_p (by decide) (stop (fun z => q z.1))
theorem s_eats {g : Hp} {T : Nat → Int32} {L p : Nat} (c : MX g T L p) (h5 : g 92 5 = 0) {w : List Nat} (hw : lets w) {p1 : Int64} (e1 : p1 = lz (codeW w : Nat)) (Q : Int32 → Hp → Prop) (h1 : ∀ h', fm g h' → isW T L w p = true → MX h' T L (le T L (sk T L p)) → Q 1 h') (h0 : ∀ h', fm g h' → isW T L w p = false → MX h' T L (sk T L p) → Q 0 h') : w_X9_eats p1 g Q := by
  unfold w_X9_eats
  refine s_isWord c h5 hw e1 _ (fun u fu cu => ?_)
  rw [b11, b01]
  by_cases y : isW T L w p = true
  · rw [if_pos y]
    exact wif_p i10 (s_skipWord cu _ (fun u2 f2 c2 => h1 u2 (fu.tr f2) y c2))
  · rw [if_neg y]
    refine wif_n (not_not_intro rfl) (h0 u fu ?_ cu)
    cases q : isW T L w p
    · rfl
    · exact absurd q y
theorem e_eatsN {g : Hp} (h5 : g 92 5 ≠ 0) (p1 : Int64) (Q : Int32 → Hp → Prop) : w_X9_eats p1 g Q = Q 0 g := by
  unfold w_X9_eats
  rw [e_isWordN h5, wif_f (not_not_intro rfl), b01]
theorem s_signM {g : Hp} {T : Nat → Int32} {L p : Nat} (c : MX g T L p) (h5 : g 92 5 = 0) {p1 : Int32} (hp : p1 ≠ -1) (Q : Hp → Prop) (h1 : ∀ h', fm g h' → sk T L p < L → T (sk T L p) = p1 → MX h' T L (sk T L p + 1) → Q h') (h0 : ∀ h', em g h' 1 (sk T L p) → ¬ (sk T L p < L ∧ T (sk T L p) = p1) → MX h' T L (sk T L p) → Q h') : w_X9_sign p1 g Q := by
  have c2 := c.2.1
  unfold w_X9_sign
  refine wif_p h5 (s_blanks c _ (fun u fu cu => ?_))
  have hl := cu.2.2.2.1
  rw [cu.2.2.1, e_byteAt cu rfl (by omega)]
  by_cases q : sk T L p < L ∧ T (sk T L p) = p1
  · rw [if_pos q.1]
    refine wif_n (not_not_intro q.2) ?_
    rw [nI_1, wlet_e]
    exact h1 _ (fu.tr fm.up) q.1 q.2 (cu.up fm.up (hup_eq _ _ _ _) (by omega))
  · refine wif_p ?_ (s_wrong q1 rfl ((fu.2 5 (by decide)).trans h5) _ (fun u2 e2 e4 => h0 u2 (em.fm fu e2) q (em.mx cu e2 e4)))
    by_cases y : sk T L p < L
    · rw [if_pos y]; exact fun z => q ⟨y, z⟩
    · rw [if_neg y]; exact fun z => hp z.symm
theorem e_signN {g : Hp} (h5 : g 92 5 ≠ 0) (p1 : Int32) (Q : Hp → Prop) : w_X9_sign p1 g Q = Q g := by
  unfold w_X9_sign
  rw [wif_f h5]
theorem s_signHere {g : Hp} {T : Nat → Int32} {L p : Nat} (c : MX g T L p) (h5 : g 92 5 = 0) (Q : Int32 → Hp → Prop) (hQ : ∀ h', fm g h' → MX h' T L (sk T L p) → Q (if sk T L p < L then T (sk T L p) else -1) h') : w_X9_signHere g Q := by
  have c2 := c.2.1
  unfold w_X9_signHere
  refine wif_p h5 (s_blanks c _ (fun u fu cu => ?_))
  have hl := cu.2.2.2.1
  rw [cu.2.2.1, e_byteAt cu rfl (by omega)]
  exact hQ u fu cu
theorem e_signHereN {g : Hp} (h5 : g 92 5 ≠ 0) (Q : Int32 → Hp → Prop) : w_X9_signHere g Q = Q (-1) g := by
  unfold w_X9_signHere
  rw [wif_f h5]
theorem e_digitM {x : Int32} {h : Hp} (Q : Int32 → Prop) : w_X9_isDigit x h Q = Q (if isDg x = true then 1 else 0) := by
  unfold w_X9_isDigit isDg
  congr 1
  by_cases a : x < 48
  · rw [if_pos a, if_neg (by simp [a]), b01]
  · by_cases b : 57 < x
    · rw [if_neg a, if_pos b, if_neg (by simp [b]), b01]
    · rw [if_neg a, if_neg b, if_pos (by simp [a, b]), b11]
theorem e_numN {g : Hp} (h5 : g 92 5 ≠ 0) (p1 p2 : Int32) (Q : Int32 → Hp → Prop) : w_X9_number p1 p2 g Q = Q 0 g := by
  unfold w_X9_number
  rw [wif_f h5]
theorem s_numMG {g : Hp} {T : Nat → Int32} {L p : Nat} (c : MX g T L p) (h5 : g 92 5 = 0) {p1 p2 : Int32} (lo hi : Nat) (hr : rng lo hi p1 p2) (Q : Int32 → Hp → Prop) (h1 : ∀ h', fm g h' → (numS T L lo hi p).1 = 0 → MX h' T L (numS T L lo hi p).2.2.1 → Q (nI (numS T L lo hi p).2.2.2) h') (h0 : ∀ h', (numS T L lo hi p).1 ≠ 0 → em g h' (numS T L lo hi p).1 (numS T L lo hi p).2.1 → (∃ q, MX h' T L q) → Q 0 h') : w_X9_number p1 p2 g Q := by
  have h3 := c.2.1
  unfold w_X9_number
  refine wif_p h5 (s_blanks c _ (fun u fu cu => ?_))
  have h2 := cu.2.2.2.1
  have hge : sk T L p ≤ de T L (sk T L p) := sc_ge isDg T L (sk T L p)
  have hlL : de T L (sk T L p) ≤ L := sc_le isDg T (L := L) h2
  obtain ⟨z, hz⟩ : ∃ z, sk T L p = z := ⟨_, rfl⟩
  rw [hz] at cu h2 hge hlL
  have es : numS T L lo hi p = if de T L z = z then (1, z, z, 0) else if nvN T z (de T L z - z) < lo ∨ hi < nvN T z (de T L z - z) then (2, z, de T L z, 0) else (0, 0, de T L z, nvN T z (de T L z - z)) := by
    unfold numS
    rw [hz]
  rw [cu.2.2.1, wlet_e, e_byteAt cu rfl (by omega), e_digitM]
  have u5 : u 92 5 = 0 := (fu.2 5 (by decide)).trans h5
  by_cases q0 : z < L ∧ isDg (T z) = true
  rotate_left
  · -- no digit: wrong, and the loop ends at once
    have ed : de T L z = z := sc_no q0
    have es2 : numS T L lo hi p = (1, z, z, 0) := by rw [es, if_pos ed]
    have nd : ¬ isDg (if z < L then T z else -1) = true := by
      by_cases y : z < L
      · rw [if_pos y]; exact fun w => q0 ⟨y, w⟩
      · rw [if_neg y]; decide
    rw [if_neg nd]
    refine wif_n (not_not_intro rfl) (s_wrong q1 rfl u5 _ (fun u2 er2 e4 => ?_))
    have cu2 : MX u2 T L z := ⟨(er2.2.1 2 (by decide) (by decide) (by decide)).trans cu.1, h3, e4.trans cu.2.2.1, h2, fun i hi => by rw [er2.1 93 (by decide)]; exact cu.2.2.2.2 i hi⟩
    have u25 : u2 92 5 ≠ 0 := by rw [er2.2.2.1]; decide
    have last : Q 0 u2 := h0 u2 (by rw [es2]; exact (by decide : (1 : Nat) ≠ 0)) (by rw [es2]; exact em.fm fu er2) ⟨_, cu2⟩
    unfold w_X9_number_b44
    refine wl_run 0 (fun n (st : Int32 × Hp) => st.2 = u2) ?_ (Nat.zero_le _) rfl
    rintro n ⟨v4, y⟩ K hn ey hK
    simp only at ey
    subst ey
    show w_X9_number_l44 p1 p2 (nI z) Q K v4 y
    unfold w_X9_number_l44
    rw [cu2.2.2.1, e_byteAt cu2 rfl (by omega), e_digitM, if_neg nd]
    refine wif_p rfl ?_
    unfold w_X9_in w_X9_number_b122
    rw [if_pos u25, e_wrongN u25]
    refine ⟨fun _ => last, fun _ => ?_⟩
    rw [if_pos u25]
    exact last
  have ed0 : isDg (if z < L then T z else -1) = true := by rw [if_pos q0.1]; exact q0.2
  rw [if_pos ed0]
  refine wif_p i10 ?_
  have hdz : de T L z ≠ z := by
    have e9 : de T L z = de T L (z + 1) := sc_go q0.1 q0.2
    have e8 : z + 1 ≤ de T L (z + 1) := sc_ge isDg T L (z + 1)
    omega
  unfold w_X9_number_b44
  refine wl_run 500 (fun n (st : Int32 × Hp) => fm g st.2 ∧ MX st.2 T L (z + n) ∧ de T L z = de T L (z + n) ∧ st.1 = nI (nvN T z n)) ?_ (Nat.zero_le _) ⟨fu, cu, rfl, rfl⟩
  rintro n ⟨v4, y⟩ K hn ⟨fy, cy, el, hv⟩ hK
  simp only at fy cy el hv
  subst hv
  show w_X9_number_l44 p1 p2 (nI z) Q K (nI (nvN T z n)) y
  unfold w_X9_number_l44
  have hl := cy.2.2.2.1
  have hb := nvN_b T z n
  rw [cy.2.2.1, e_byteAt cy rfl (by omega), e_digitM]
  by_cases q : z + n < L ∧ isDg (T (z + n)) = true
  rotate_left
  · have nd : ¬ isDg (if z + n < L then T (z + n) else -1) = true := by
      by_cases y : z + n < L
      · rw [if_pos y]; exact fun w => q ⟨y, w⟩
      · rw [if_neg y]; decide
    rw [if_neg nd]
    refine wif_p rfl ?_
    have e3 : de T L z = z + n := el.trans (sc_no q)
    have en : de T L z - z = n := by omega
    have y5 : y 92 5 = 0 := (fy.2 5 (by decide)).trans h5
    unfold w_X9_number_b122
    by_cases r : lo ≤ nvN T z n ∧ nvN T z n ≤ hi
    · have rr := (hr (nvN T z n) (by omega)).1.mpr r
      rw [e_in, if_pos ⟨Int32.le_iff_toInt_le.mpr (by have := (not_congr Int32.lt_iff_toInt_lt).mp rr.1; omega), rr.2⟩]
      refine wif_p i10 ?_
      have es2 : numS T L lo hi p = (0, 0, de T L z, nvN T z n) := by rw [es, if_neg hdz, en, if_neg (by omega)]
      have hq := h1 y fy (by rw [es2])
      rw [es2] at hq
      rw [if_neg (not_not_intro y5)]
      exact hq (by show MX y T L (de T L z); rw [e3]; exact cy)
    · rw [e_in, if_neg (fun w => r ((hr (nvN T z n) (by omega)).1.mp ⟨fun w2 => by have := Int32.lt_iff_toInt_lt.mp w2; have := Int32.le_iff_toInt_le.mp w.1; omega, w.2⟩))]
      have es2 : numS T L lo hi p = (2, z, de T L z, 0) := by rw [es, if_neg hdz, en, if_pos (by omega)]
      refine wif_n (not_not_intro rfl) (s_wrong q2 rfl y5 _ (fun u2 er2 e4 => ?_))
      have u25 : u2 92 5 ≠ 0 := by rw [er2.2.2.1]; decide
      rw [if_pos u25]
      exact h0 u2 (by rw [es2]; exact (by decide : (2 : Nat) ≠ 0)) (by rw [es2]; exact em.fm fy er2) ⟨_, em.mx cy er2 e4⟩
  · have ed : isDg (if z + n < L then T (z + n) else -1) = true := by rw [if_pos q.1]; exact q.2
    rw [if_pos ed]
    refine wif_n i10 ?_
    obtain ⟨d9, ev⟩ := dg_b q.2
    rw [e_byteAt cy rfl (by omega), if_pos q.1, ev, wlet_e, wlet_e, nI_1, wlet_e, q10, pk_mul, nI_add, show (48 : Int32) = nI 48 from rfl, pk_sub (by omega), show (100000 : Int32) = nI 100000 from rfl]
    refine hK (by omega) _ ⟨fy.tr fm.up, cy.up fm.up (show hup y 92 4 (nI (z + n + 1)) 92 4 = nI (z + (n + 1)) from hup_eq _ _ _ _) (by omega), el.trans (sc_go q.1 q.2), ?_⟩
    have env : nvN T z (n + 1) = if 10 * nvN T z n + dgV (T (z + n)) < 100000 then 10 * nvN T z n + dgV (T (z + n)) else 100000 := rfl
    show (if nI (10 * nvN T z n + (48 + dgV (T (z + n))) - 48) ≤ nI 100000 then nI (10 * nvN T z n + (48 + dgV (T (z + n))) - 48) else nI 100000) = nI (nvN T z (n + 1))
    rw [env, show 10 * nvN T z n + (48 + dgV (T (z + n))) - 48 = 10 * nvN T z n + dgV (T (z + n)) by omega]
    by_cases c9 : 10 * nvN T z n + dgV (T (z + n)) < 100000
    · rw [if_pos c9, if_pos ((nI_leI (by omega) (by omega)).mpr (by omega))]
    · rw [if_neg c9]
      by_cases c10 : 10 * nvN T z n + dgV (T (z + n)) = 100000
      · rw [c10, if_pos ((nI_leI (by omega) (by omega)).mpr (by omega))]
      · rw [if_neg (fun w => by have := (nI_leI (by omega) (by omega)).mp w; omega)]
theorem s_numM {g : Hp} {T : Nat → Int32} {L p : Nat} (c : MX g T L p) (h5 : g 92 5 = 0) {p1 p2 : Int32} (lo hi : Nat) (e1 : p1 = nI lo) (e2 : p2 = nI hi) (hlo : lo < 100000) (hhi : hi < 100000) (Q : Int32 → Hp → Prop) (h1 : ∀ h', fm g h' → (numS T L lo hi p).1 = 0 → MX h' T L (numS T L lo hi p).2.2.1 → Q (nI (numS T L lo hi p).2.2.2) h') (h0 : ∀ h', (numS T L lo hi p).1 ≠ 0 → em g h' (numS T L lo hi p).1 (numS T L lo hi p).2.1 → (∃ q, MX h' T L q) → Q 0 h') : w_X9_number p1 p2 g Q := s_numMG c h5 lo hi (rng_n e1 e2 hlo hhi) Q h1 h0
