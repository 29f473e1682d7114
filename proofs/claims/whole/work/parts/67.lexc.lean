/-! words and numbers, by the program -/
def wOf (r : Nat) : List Nat := bytL.getD r []
theorem e_letter {x : Int32} {h : Hp} (Q : Int32 → Prop) : w_X7_isLetter x h Q = Q (if isLt x = true then 1 else 0) := by
  unfold w_X7_isLetter isLt
  congr 1
  by_cases a : x < 97
  · rw [if_pos a, if_neg (by simp [a]), b01]
  · by_cases b : 122 < x
    · rw [if_neg a, if_pos b, if_neg (by simp [b]), b01]
    · rw [if_neg a, if_neg b, if_pos (by simp [a, b]), b11]
theorem e_digit {x : Int32} {h : Hp} (Q : Int32 → Prop) : w_X7_isDigit x h Q = Q (if isDg x = true then 1 else 0) := by
  unfold w_X7_isDigit isDg
  congr 1
  by_cases a : x < 48
  · rw [if_pos a, if_neg (by simp [a]), b01]
  · by_cases b : 57 < x
    · rw [if_neg a, if_pos b, if_neg (by simp [b]), b01]
    · rw [if_neg a, if_neg b, if_pos (by simp [a, b]), b11]
theorem s_word {r1 : Nat} {h : Hp} {T : Nat → Int32} {L p : Nat} (c : CT h T L p) (hw : (wOf r1).length < 30) (Q : Int32 → Hp → Prop) (h1 : ∀ h', fc h h' → isW T L (wOf r1) p = true → CT h' T L (le T L (sk T L p)) → Q 1 h') (h0 : ∀ h', fc h h' → isW T L (wOf r1) p = false → CT h' T L (sk T L p) → Q 0 h') : w_X7_word r1 h Q := by
  have esl : slen r1 = nI (wOf r1).length := rfl
  have ech : ∀ i, sch r1 i = nI ((wOf r1).getD i 0) := fun i => rfl
  have h3 := c.2.1
  unfold w_X7_word
  refine s_start c _ (fun g f g1 => ?_)
  have h2 := g1.2.2.2.1
  have hle := sc_ge isLt T L (sk T L p)
  have hlL := sc_le isLt T (L := L) h2
  unfold w_X7_word_b7
  refine wl_run 500 (fun n (st : Int32) => st = nI (sk T L p + n) ∧ sk T L p + n ≤ L ∧ le T L (sk T L p) = le T L (sk T L p + n)) ?_ (Nat.zero_le _) ⟨rfl, h2, rfl⟩
  rintro n st K hn ⟨rfl, hl, el⟩ hK
  unfold w_X7_word_l7
  rw [g1.1]
  have fin : le T L (sk T L p + n) = sk T L p + n → w_X7_word_b35 r1 (nI (sk T L p)) (nI (sk T L p + n)) g Q := by
    intro e
    unfold w_X7_word_b35
    rw [pk_sub (by omega), show sk T L p + n - sk T L p = n by omega, esl]
    have e2 : le T L (sk T L p) = sk T L p + n := el.trans e
    refine ⟨fun z => ?_, fun z => ?_⟩
    · have zn : n = (wOf r1).length := (nI_eq (by omega) (by omega)).mp z
      unfold w_X7_word_b50
      refine wl_run n (fun i (st : Int32) => st = nI i ∧ ∀ j, j < i → T (sk T L p + j) = nI ((wOf r1).getD j 0)) ?_ (Nat.zero_le _) ⟨rfl, fun j hj => absurd hj (by omega)⟩
      rintro i st K2 hi ⟨rfl, hm⟩ hK2
      unfold w_X7_word_l50
      rw [esl, ← zn]
      refine ⟨fun y => ?_, fun y => ?_⟩
      · have : i = n := by
          have := (nI_leI (by omega) (by omega)).mp y
          omega
        subst this
        rw [wlet_e, b11]
        refine h1 _ (f.tr fc.up) (decide_eq_true ⟨by omega, fun j hj => hm j (by omega)⟩) ?_
        rw [e2]
        exact g1.up fc.up (hup_eq _ _ _ _) hl
      · have hi1 : i < n := Nat.lt_of_not_le fun q => y ((nI_leI (by omega) (by omega)).mpr q)
        rw [nI_add, e_at (by decide), rd_n (by omega) (by decide), g1.2.2.2.2]
        refine ⟨vp_in_nI (by show i < (wOf r1).length; omega) (by show (wOf r1).length < 2 ^ 31; omega), ?_⟩
        rw [nI_clamp (by omega), ech, b01]
        refine ⟨fun q => ?_, fun q => ?_⟩
        · rw [nI_1]
          refine hK2 hi1 _ ⟨rfl, fun j hj => ?_⟩
          by_cases ej : j = i
          · rw [ej]; exact q
          · exact hm j (by omega)
        · refine h0 g f (decide_eq_false (fun w => q (w.2 i (by omega)))) g1
    · rw [b01]
      refine h0 g f (decide_eq_false (fun w => z ?_)) g1
      rw [show n = (wOf r1).length by omega]
  refine ⟨fun z => fin (sc_no (fun q => ?_)), fun z => ?_⟩
  · have := (nI_leI (by omega) (by omega)).mp z
    omega
  have hl1 : sk T L p + n < L := Nat.lt_of_not_le fun q => z ((nI_leI (by omega) (by omega)).mpr q)
  rw [e_at (by decide), rd_n (by omega) (by decide), g1.2.2.2.2, e_letter]
  by_cases q : isLt (T (sk T L p + n)) = true
  · rw [if_pos q]
    refine wif_n i10 ?_
    rw [nI_1]
    exact hK (by omega) _ ⟨rfl, by omega, el.trans (sc_go hl1 q)⟩
  · rw [if_neg q]
    exact wif_p rfl (fin (sc_no (fun y => q y.2)))
/-- the bounds as they stand, and as numbers; 0 and -1: none -/
def rng (lo hi : Nat) (p1 p2 : Int32) : Prop := ∀ v, v < 2000000 → ((¬ nI v < p1 ∧ nI v ≤ p2) ↔ (lo ≤ v ∧ v ≤ hi)) ∧ hi < 100000
theorem rng_n {lo hi : Nat} {p1 p2 : Int32} (e1 : p1 = nI lo) (e2 : p2 = nI hi) (hlo : lo < 100000) (hhi : hi < 100000) : rng lo hi p1 p2 := fun v hv => by
  subst e1 e2
  rw [nI_ltI (by omega) (by omega), nI_leI (by omega) (by omega)]
  omega
theorem s_numG {h : Hp} {T : Nat → Int32} {L p : Nat} (c : CT h T L p) {p1 p2 : Int32} (lo hi : Nat) (hr : rng lo hi p1 p2) (Q : Int32 → Hp → Prop) (h1 : ∀ h', fc h h' → (numS T L lo hi p).1 = 0 → CT h' T L (numS T L lo hi p).2.2.1 → Q (nI (numS T L lo hi p).2.2.2) h') (h0 : ∀ h', (numS T L lo hi p).1 ≠ 0 → er h h' (numS T L lo hi p).1 (numS T L lo hi p).2.1 → Q (-1) h') : w_X7_number p1 p2 h Q := by
  have h3 := c.2.1
  unfold w_X7_number
  refine s_start c _ (fun g f g1 => ?_)
  have h2 := g1.2.2.2.1
  have hge := sc_ge isDg T L (sk T L p)
  have hlL := sc_le isDg T (L := L) h2
  obtain ⟨z, hz⟩ : ∃ z, sk T L p = z := ⟨_, rfl⟩
  rw [hz] at g1 h2 hge hlL
  rw [hz]
  have es : numS T L lo hi p = if de T L z = z then (1, z, z, 0) else if nvN T z (de T L z - z) < lo ∨ hi < nvN T z (de T L z - z) then (2, z, de T L z, 0) else (0, 0, de T L z, nvN T z (de T L z - z)) := by
    unfold numS
    rw [hz]
  unfold w_X7_number_b8
  refine wl_run 500 (fun n (st : Int32 × Hp) => fc h st.2 ∧ CT st.2 T L (z + n) ∧ de T L z = de T L (z + n) ∧ ((st.1 = nI (nvN T z n) ∧ nvN T z n < 100000) ∨ (nvN T z n = 100000 ∧ ∃ w, 100000 ≤ w ∧ w < 2000000 ∧ st.1 = nI w))) ?_ (Nat.zero_le _) ⟨f, g1, rfl, Or.inl ⟨rfl, (by decide : (0 : Nat) < 100000)⟩⟩
  rintro n ⟨v4, u⟩ K hn ⟨fu, cu, el, hv⟩ hK
  simp only at fu cu el hv
  show w_X7_number_l8 p1 p2 (nI z) Q K v4 u
  unfold w_X7_number_l8
  have hl := cu.2.2.2.1
  rw [cu.1, cu.2.2.1]
  have fin : de T L (z + n) = z + n → w_X7_number_b78 p1 p2 (nI z) v4 u Q := by
    intro e
    have e2 : de T L z = z + n := el.trans e
    unfold w_X7_number_b78 w_X7_number_b107
    rw [cu.2.2.1]
    by_cases n0 : n = 0
    · have es2 : numS T L lo hi p = (1, z, z, 0) := by rw [es, if_pos (by omega)]
      refine wif_n (not_not_intro (by rw [n0]; rfl)) (s_fail q1 rfl _ (fun u2 er2 => ?_))
      refine h0 u2 (by rw [es2]; exact (by decide : (1 : Nat) ≠ 0)) ?_
      rw [es2]
      exact er.fc fu er2
    · refine wif_p (fun q => n0 (by have := (nI_eq (by omega) (by omega)).mp q; omega)) ?_
      have en : de T L z - z = n := by omega
      have hb := nvN_b T z n
      have range : (¬ v4 < p1 ∧ v4 ≤ p2) ↔ (lo ≤ nvN T z n ∧ nvN T z n ≤ hi) := by
        rcases hv with ⟨rfl, hv2⟩ | ⟨hv1, w, w1, w2, rfl⟩
        · exact (hr _ (by omega)).1
        · have := (hr w (by omega))
          rw [this.1]
          omega
      have bad : (nvN T z n < lo ∨ hi < nvN T z n) → w_X7_fail 2 (nI z) u (fun z1 h2 => Q (-1) h2) := by
        intro hb2
        have es2 : numS T L lo hi p = (2, z, de T L z, 0) := by rw [es, if_neg (by omega), en, if_pos hb2]
        refine s_fail q2 rfl _ (fun u2 er2 => ?_)
        refine h0 u2 (by rw [es2]; exact (by decide : (2 : Nat) ≠ 0)) ?_
        rw [es2]
        exact er.fc fu er2
      refine ⟨fun q => bad (by have x : ¬ (lo ≤ nvN T z n ∧ nvN T z n ≤ hi) := fun y => (range.mpr y).1 q; omega), fun q => ⟨fun q2 => ?_, fun q2 => bad (by have x : ¬ (lo ≤ nvN T z n ∧ nvN T z n ≤ hi) := fun y => q2 (range.mpr y).2; omega)⟩⟩
      have r2 := range.mp ⟨q, q2⟩
      have es2 : numS T L lo hi p = (0, 0, de T L z, nvN T z n) := by rw [es, if_neg (by omega), en, if_neg (by omega)]
      have hq := h1 u fu (by rw [es2])
      rw [es2] at hq
      rcases hv with ⟨rfl, hv2⟩ | ⟨hv1, w, w1, w2, rfl⟩
      · exact hq (by show CT u T L (de T L z); rw [e2]; exact cu)
      · have := (hr 0 (by omega)).2
        omega
  refine ⟨fun y => fin (sc_no (fun q => ?_)), fun y => ?_⟩
  · have := (nI_leI (by omega) (by omega)).mp y
    omega
  have hl1 : z + n < L := Nat.lt_of_not_le fun q => y ((nI_leI (by omega) (by omega)).mpr q)
  rw [e_at (by decide), rd_n (by omega) (by decide), cu.2.2.2.2, e_digit]
  by_cases q : isDg (T (z + n)) = true
  rotate_left
  · rw [if_neg q]
    exact wif_p rfl (fin (sc_no (fun y => q y.2)))
  rw [if_pos q]
  refine wif_n i10 ?_
  have enx : de T L z = de T L (z + (n + 1)) := el.trans (sc_go hl1 q)
  obtain ⟨d9, ed⟩ := dg_b q
  have nx : ∀ v, ((v = nI (nvN T z (n + 1)) ∧ nvN T z (n + 1) < 100000) ∨ (nvN T z (n + 1) = 100000 ∧ ∃ w, 100000 ≤ w ∧ w < 2000000 ∧ v = nI w)) → w_X7_number_b65 p1 p2 (nI z) v K u Q := by
    intro v hv2
    unfold w_X7_number_b65
    rw [cu.2.2.1, nI_1, wlet_e]
    exact hK (by omega) _ ⟨fu.tr fc.up, cu.up fc.up (show hup u 1 3 (nI (z + n + 1)) 1 3 = nI (z + (n + 1)) from hup_eq _ _ _ _) (by omega), enx, hv2⟩
  have env : nvN T z (n + 1) = if 10 * nvN T z n + dgV (T (z + n)) < 100000 then 10 * nvN T z n + dgV (T (z + n)) else 100000 := rfl
  have q5 : (100000 : Int32) = nI 100000 := rfl
  rw [q5]
  refine ⟨fun y2 => nx _ ?_, fun y2 => ?_⟩
  · rcases hv with ⟨rfl, hv2⟩ | ⟨hv1, w, w1, w2, rfl⟩
    · have := (nI_leI (by omega) (by omega)).mp y2
      omega
    · right
      refine ⟨?_, w, w1, w2, rfl⟩
      rw [env, hv1, if_neg (by omega)]
  · rcases hv with ⟨rfl, hv2⟩ | ⟨hv1, w, w1, w2, rfl⟩
    · rw [e_at (by decide), rd_n (by omega) (by decide), cu.2.2.2.2, ed, wlet_e, q10, pk_mul, nI_add, show (48 : Int32) = nI 48 from rfl, pk_sub (by omega)]
      refine nx _ ?_
      rw [env]
      by_cases c9 : 10 * nvN T z n + dgV (T (z + n)) < 100000
      · rw [if_pos c9]
        left
        exact ⟨by congr 1; omega, c9⟩
      · rw [if_neg c9]
        right
        exact ⟨rfl, _, by omega, by omega, rfl⟩
    · exact absurd ((nI_leI (by omega) (by omega)).mpr w1) y2
theorem s_num {h : Hp} {T : Nat → Int32} {L p : Nat} (c : CT h T L p) {p1 p2 : Int32} (lo hi : Nat) (e1 : p1 = nI lo) (e2 : p2 = nI hi) (hlo : lo < 100000) (hhi : hi < 100000) (Q : Int32 → Hp → Prop) (h1 : ∀ h', fc h h' → (numS T L lo hi p).1 = 0 → CT h' T L (numS T L lo hi p).2.2.1 → Q (nI (numS T L lo hi p).2.2.2) h') (h0 : ∀ h', (numS T L lo hi p).1 ≠ 0 → er h h' (numS T L lo hi p).1 (numS T L lo hi p).2.1 → Q (-1) h') : w_X7_number p1 p2 h Q := s_numG c lo hi (rng_n e1 e2 hlo hhi) Q h1 h0
