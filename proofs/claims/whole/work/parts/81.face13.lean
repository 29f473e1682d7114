/-! a bridge that was read well, kept by the model; the call -/
theorem s_keepM {g : Hp} {B : Br} (c : MC g B) (hw : WB B) {p1 : Int32} (Q : Int32 → Hp → Prop) (hQ : ∀ g', (∀ q, q ≠ 92 → q ≠ 95 → q ≠ 97 → q ≠ 99 → q ≠ 141 → q ≠ 142 → ¬ (110 ≤ q ∧ q ≤ 117) → g' q = g q) → (∀ i, i ≠ 30 → i ≠ 31 → i ≠ 32 → g' 92 i = g 92 i) → MB g' B → MRec g' r0 → g' 92 32 = 0 → Q (nI (B.1 0)) g') : w_X9_bridge_b110 p1 Q (0, g) := by
  have h8 := hw.1
  obtain ⟨m1, m2, m3, m4⟩ := c
  unfold w_X9_bridge_b110
  refine wl_run 11 (fun n (st : Int32 × Hp) => st.1 = nI n ∧ (∀ q, q ≠ 95 → st.2 q = g q) ∧ ∀ i, i < n → st.2 95 i = nI (B.1 i)) ?_ (Nat.zero_le _) ⟨rfl, fun _ _ => rfl, fun i hi => absurd hi (by omega)⟩
  rintro n ⟨v2, u⟩ K hn ⟨e2, uo, ui⟩ hK
  simp only at e2 uo ui
  subst e2
  show w_X9_bridge_l110 p1 Q K (nI n) u
  unfold w_X9_bridge_l110
  rw [q11]
  refine ⟨fun z => ?_, fun z => ?_⟩
  rotate_left
  · have hn1 : n < 11 := Nat.lt_of_not_le fun q => z ((nI_leI (by omega) (by omega)).mpr q)
    have vn : vp_in (nI n) 11 := vp_in_nI hn1 (by decide)
    refine ⟨vn, vn, ?_⟩
    rw [nI_clamp (by omega), wlet_e, nI_1, uo 94 (by decide), m1 n hn1]
    refine hK hn1 _ ⟨rfl, fun q hq => (hup_ne hq).trans (uo q hq), fun i hi => ?_⟩
    show hup u 95 n (nI (B.1 n)) 95 i = _
    by_cases e : i = n
    · rw [e, hup_eq]
    · rw [hup_o (Or.inr e)]
      exact ui i (by omega)
  have e11 : n = 11 := by
    have := (nI_leI (by omega) (by omega)).mp z
    omega
  subst e11
  unfold w_X9_bridge_b136
  refine wl_run 30 (fun n (st : Int32 × Hp) => st.1 = nI n ∧ (∀ q, q ≠ 97 → q ≠ 99 → q ≠ 142 → st.2 q = u q) ∧ ∀ d, d < n → st.2 97 d = g 96 d ∧ st.2 99 d = g 98 d ∧ st.2 142 d = -1) ?_ (Nat.zero_le _) ⟨rfl, fun _ _ _ _ => rfl, fun i hi => absurd hi (by omega)⟩
  rintro n ⟨v2, w⟩ K hn ⟨e2, wo, wi⟩ hK
  simp only at e2 wo wi
  subst e2
  show w_X9_bridge_l136 p1 Q K (nI n) w
  unfold w_X9_bridge_l136
  rw [q30]
  refine ⟨fun z => ?_, fun z => ?_⟩
  rotate_left
  · have hn1 : n < 30 := Nat.lt_of_not_le fun q => z ((nI_leI (by omega) (by omega)).mpr q)
    have vn : vp_in (nI n) 30 := vp_in_nI hn1 (by decide)
    refine ⟨vn, vn, ?_⟩
    rw [nI_clamp (by omega), wlet_e]
    refine ⟨vn, vn, ?_⟩
    rw [wlet_e]
    refine ⟨vn, ?_⟩
    rw [wlet_e, nI_1, hup_ne (show (98 : Nat) ≠ 97 by decide), wo 96 (by decide) (by decide) (by decide), uo 96 (by decide), wo 98 (by decide) (by decide) (by decide), uo 98 (by decide)]
    refine hK hn1 _ ⟨rfl, fun q x1 x2 x3 => (hup_ne x3).trans ((hup_ne x2).trans ((hup_ne x1).trans (wo q x1 x2 x3))), fun d hd => ?_⟩
    show hup (hup (hup w 97 n (g 96 n)) 99 n (g 98 n)) 142 n (-1) 97 d = g 96 d ∧ hup (hup (hup w 97 n (g 96 n)) 99 n (g 98 n)) 142 n (-1) 99 d = g 98 d ∧ hup (hup (hup w 97 n (g 96 n)) 99 n (g 98 n)) 142 n (-1) 142 d = -1
    by_cases e : d = n
    · subst e
      exact ⟨by rw [hup_ne (by decide), hup_ne (by decide), hup_eq], by rw [hup_ne (by decide), hup_eq], hup_eq _ _ _ _⟩
    · obtain ⟨y1, y2, y3⟩ := wi d (by omega)
      exact ⟨by rw [hup_ne (by decide), hup_ne (by decide), hup_o (Or.inr e)]; exact y1, by rw [hup_ne (by decide), hup_o (Or.inr e), hup_ne (by decide)]; exact y2, by rw [hup_o (Or.inr e), hup_ne (by decide), hup_ne (by decide)]; exact y3⟩
  have e30 : n = 30 := by
    have := (nI_leI (by omega) (by omega)).mp z
    omega
  subst e30
  unfold w_X9_bridge_b181
  refine wl_run 8 (fun n (st : Int32 × Hp) => st.1 = nI n ∧ (∀ q, ¬ (110 ≤ q ∧ q ≤ 117) → st.2 q = w q) ∧ ∀ k i, k < n → i < 7 → st.2 (110 + k) i = g (101 + k) i) ?_ (Nat.zero_le _) ⟨rfl, fun _ _ => rfl, fun k i hk => absurd hk (by omega)⟩
  rintro n ⟨v2, y⟩ K hn ⟨e2, yo, yi⟩ hK
  simp only at e2 yo yi
  subst e2
  show w_X9_bridge_l181 p1 Q K (nI n) y
  unfold w_X9_bridge_l181
  rw [q8]
  have base : ∀ q, q ≠ 95 → q ≠ 97 → q ≠ 99 → q ≠ 142 → ¬ (110 ≤ q ∧ q ≤ 117) → y q = g q := fun q x1 x2 x3 x4 x5 => (yo q x5).trans ((wo q x2 x3 x4).trans (uo q x1))
  refine ⟨fun z => ?_, fun z => ?_⟩
  · have : n = 8 := by
      have := (nI_leI (by omega) (by omega)).mp z
      omega
    subst this
    refine ⟨vl 0 2 (by decide) (by decide), ?_⟩
    rw [wlet_e, cl0, cl1]
    refine ⟨vl 1 2 (by decide) (by decide), ?_⟩
    rw [wlet_e, wlet_e, wlet_e, wlet_e]
    refine ⟨vl 0 11 (by decide) (by decide), ?_⟩
    have no : ∀ q, q ≠ 92 → q ≠ 141 → hup (hup (hup (hup (hup y 141 0 0) 141 1 0) 92 30 0) 92 31 0) 92 32 0 q = y q := fun q x1 x2 => by rw [hup_ne x1, hup_ne x1, hup_ne x1, hup_ne x2, hup_ne x2]
    have y95 : ∀ i, i < 11 → y 95 i = nI (B.1 i) := fun i hi => by rw [yo 95 (by decide), wo 95 (by decide) (by decide) (by decide)]; exact ui i hi
    have y97 : ∀ d, d < 30 → y 97 d = g 96 d ∧ y 99 d = g 98 d ∧ y 142 d = -1 := fun d hd => by rw [yo 97 (by decide), yo 99 (by decide), yo 142 (by decide)]; exact wi d hd
    rw [no 95 (by decide) (by decide), y95 0 (by decide)]
    refine hQ _ (fun q x0 x1 x2 x3 x4 x5 x6 => (no q x0 x4).trans (base q x1 x2 x3 x5 x6)) (fun i x1 x2 x3 => ?_) ⟨fun i hi => ?_, fun d hd => ?_, fun d hd => ?_, fun k i hk hi => ?_, hw⟩ ⟨?_, ?_, ?_, ?_, fun k hk => absurd (show k < 0 from hk) (Nat.not_lt_zero k), fun d hd => ?_, fun i hi => absurd (show i < 0 from hi) (Nat.not_lt_zero i)⟩ (hup_eq _ _ _ _)
    · rw [hup_o (Or.inr x3), hup_o (Or.inr x2), hup_o (Or.inr x1), hup_ne (by decide), hup_ne (by decide), base 92 (by decide) (by decide) (by decide) (by decide) (by decide)]
    · rw [no 95 (by decide) (by decide)]; exact y95 i hi
    · rw [no 97 (by decide) (by decide), (y97 d hd).1]; exact m2 d hd
    · rw [no 99 (by decide) (by decide), (y97 d hd).2.1]; exact m3 d hd
    · rw [no (110 + k) (by omega) (by omega), yi k i (by omega) hi]; exact m4 k i hk hi
    · rw [hup_o (Or.inr (by decide)), hup_o (Or.inr (by decide)), hup_eq]; rfl
    · rw [hup_o (Or.inr (by decide)), hup_eq]; rfl
    · rw [hup_ne (by decide), hup_ne (by decide), hup_ne (by decide), hup_o (Or.inr (by decide)), hup_eq]; rfl
    · rw [hup_ne (by decide), hup_ne (by decide), hup_ne (by decide), hup_eq]; rfl
    · rw [no 142 (by decide) (by decide), (y97 d hd).2.2]; rfl
  have hn1 : n < 8 := Nat.lt_of_not_le fun q => z ((nI_leI (by omega) (by omega)).mpr q)
  have vn : vp_in (nI n) 8 := vp_in_nI hn1 (by decide)
  unfold w_X9_bridge_b189
  refine wl_run 7 (fun j (st : Int32 × Hp) => st.1 = nI j ∧ (∀ q, q ≠ 110 + n → st.2 q = y q) ∧ ∀ i, i < j → st.2 (110 + n) i = g (101 + n) i) ?_ (Nat.zero_le _) ⟨rfl, fun _ _ => rfl, fun i hi => absurd hi (by omega)⟩
  rintro j ⟨v3, x⟩ K7 hj ⟨e3, xo, xi⟩ hK7
  simp only at e3 xo xi
  subst e3
  show w_X9_bridge_l189 p1 (nI n) K Q K7 (nI j) x
  unfold w_X9_bridge_l189
  rw [q7]
  refine ⟨fun z2 => ?_, fun z2 => ?_⟩
  · have : j = 7 := by
      have := (nI_leI (by omega) (by omega)).mp z2
      omega
    subst this
    rw [nI_1]
    refine hK hn1 _ ⟨rfl, fun q hq => (xo q (by omega)).trans (yo q hq), fun k i hk hi => ?_⟩
    show x (110 + k) i = _
    by_cases e : k = n
    · rw [e]; exact xi i hi
    · rw [xo (110 + k) (by omega)]
      exact yi k i (by omega) hi
  have hj1 : j < 7 := Nat.lt_of_not_le fun q => z2 ((nI_leI (by omega) (by omega)).mpr q)
  have vj : vp_in (nI j) 7 := vp_in_nI hj1 (by decide)
  refine ⟨vn, vn, vj, vj, ?_⟩
  rw [nI_clamp (n := n) (by omega), nI_clamp (n := j) (by omega), Nat.one_mul, wlet_e, nI_1, xo (101 + n) (by omega), base (101 + n) (by omega) (by omega) (by omega) (by omega) (by omega)]
  refine hK7 hj1 _ ⟨rfl, fun q hq => (hup_ne hq).trans (xo q hq), fun i hi => ?_⟩
  show hup x (110 + n) j (g (101 + n) j) (110 + n) i = _
  by_cases e : i = j
  · rw [e, hup_eq]
  · rw [hup_o (Or.inr e)]
    exact xi i (by omega)
