/-! a bridge that was read well: kept by the program -/
def r0 : Rc := ((0, 0, 0, 0), fun _ => 0, fun _ => 0, fun _ => -1, fun _ => 0, fun _ => 0)
theorem ok_r0 (tn : Nat) : okRc tn r0 := ⟨Or.inr rfl, Or.inr rfl, Nat.zero_le _, Nat.zero_le _, fun i hi => absurd (show i < 0 from hi) (Nat.not_lt_zero i)⟩
theorem bit01 {n : Nat} (h : n ≤ 1) : nI n &&& 1 = nI n := by
  have : n = 0 ∨ n = 1 := by omega
  rcases this with e | e <;> rw [e] <;> decide
theorem s_copy4 {h : Hp} {B : Br} (c : CS h B) (hw : WB B) (hn : ∀ d, d < 30 → h 10 d = nI (noonS B.2.1 d)) (Q : Hp → Prop) (hQ : ∀ h', (∀ q, q < 3 ∨ 7 < q → h' q = h q) → CB h' B → Q h') : w_X4_copy 3 8 h Q := by
  have t0 : tg 8 0 = 9 := by decide
  have t1 : tg 8 1 = 10 := by decide
  have t2 : tg 8 2 = 11 := by decide
  have t3 : tg 8 3 = 12 := by decide
  have u0 : tg 3 0 = 4 := by decide
  have u1 : tg 3 1 = 5 := by decide
  have u2 : tg 3 2 = 6 := by decide
  have u3 : tg 3 3 = 7 := by decide
  obtain ⟨c1, c2, c3, c4⟩ := c
  unfold w_X4_copy
  rw [t0, t1, t2, t3, u0, u1, u2, u3]
  refine s_copyRow (by decide) (by decide) _ (fun h1 a1 b1 => ?_)
  refine s_copyRow (by decide) (by decide) _ (fun h2 a2 b2 => ?_)
  refine s_copyRow (by decide) (by decide) _ (fun h3 a3 b3 => ?_)
  refine s_copyRow (by decide) (by decide) _ (fun h4 a4 b4 => ?_)
  have e8 : h4 8 = h 8 := by rw [a4 8 (by decide), a3 8 (by decide), a2 8 (by decide), a1 8 (by decide)]
  have f0 : h 8 4 = nI (B.1 0) := c1 0 (by decide)
  have f1 : h 8 5 = nI (B.1 1) := c1 1 (by decide)
  have f2 : h 8 6 = nI (B.1 2) := c1 2 (by decide)
  have f3 : h 8 7 = nI (B.1 3) := c1 3 (by decide)
  have f4 : h 8 8 = nI (B.1 4) := c1 4 (by decide)
  have f5 : h 8 9 = nI (B.1 5) := c1 5 (by decide)
  have f6 : h 8 10 = nI (B.1 6) := c1 6 (by decide)
  have f7 : h 8 13 = nI (B.1 7) := c1 7 (by decide)
  have f8 : h 8 14 = nI (B.1 8) := c1 8 (by decide)
  have f9 : h 8 11 = nI (B.1 9) := c1 9 (by decide)
  have f10 : h 8 12 = nI (B.1 10) := c1 10 (by decide)
  have g7 : nI (B.1 7) &&& 1 = nI (B.1 7) := bit01 hw.2.2.2.2.2.2.1
  have g8 : nI (B.1 8) &&& 1 = nI (B.1 8) := bit01 hw.2.2.2.2.2.2.2.1
  simp only [wlet_e, hup_ne (show (8 : Nat) ≠ 3 by decide), e8, f0, f1, f2, f3, f4, f5, f6, f7, f8, f9, f10, g7, g8]
  have n : ∀ q, q ≠ 3 → hup (hup (hup (hup (hup (hup (hup (hup (hup (hup (hup h4 3 4 (nI (B.1 0))) 3 5 (nI (B.1 1))) 3 6 (nI (B.1 2))) 3 7 (nI (B.1 3))) 3 8 (nI (B.1 4))) 3 9 (nI (B.1 5))) 3 10 (nI (B.1 6))) 3 11 (nI (B.1 9))) 3 12 (nI (B.1 10))) 3 13 (nI (B.1 7))) 3 14 (nI (B.1 8)) q = h4 q := fun q hq => by simp only [hup_ne hq]
  refine hQ _ (fun q hq => ?_) ⟨⟨?_, fun d hd => ?_, fun d hd => ?_, fun k i hk hi => ?_⟩, fun d hd => ?_, hw⟩
  · rw [n q (by omega), a4 q (by omega), a3 q (by omega), a2 q (by omega), a1 q (by omega)]
  · simp [hup_at]
  · show _ = nI (B.2.1 d)
    rw [n 4 (by decide), a4 4 (by decide), a3 4 (by decide), a2 4 (by decide), b1 d hd]
    exact c2 d hd
  · rw [n 6 (by decide), a4 6 (by decide), b3 d hd, a2 11 (by decide), a1 11 (by decide)]
    exact c3 d hd
  · rw [n 7 (by decide), b4 _ (by omega), a3 12 (by decide), a2 12 (by decide), a1 12 (by decide)]
    exact c4 k i hk hi
  · rw [n 5 (by decide), a4 5 (by decide), a3 5 (by decide), b2 d hd, a1 10 (by decide)]
    exact hn d hd
theorem s_clear {h : Hp} (Q : Hp → Prop) (hQ : ∀ h', (∀ q, q < 62 ∨ 68 < q → h' q = h q) → CRec 62 h' r0 → Q h') : w_X3_clear 62 h Q := by
  have t0 : tg 62 0 = 63 := by decide
  have t3 : tg 62 3 = 66 := by decide
  unfold w_X3_clear
  rw [t0, t3]
  refine s_fillRow (by decide) _ (fun h1 a1 b1 _ => ?_)
  refine s_fillRow (by decide) _ (fun h2 a2 b2 _ => ?_)
  rw [wlet_e, wlet_e]
  have n : ∀ q, q ≠ 62 → hup (hup h2 62 6 0) 62 7 0 q = h2 q := fun q hq => by rw [hup_ne hq, hup_ne hq]
  refine hQ _ (fun q hq => ?_) ⟨?_, ?_, ?_, ?_, fun k hk => absurd (show k < 0 from hk) (Nat.not_lt_zero k), fun d hd => ?_, fun i hi => absurd (show i < 0 from hi) (Nat.not_lt_zero i)⟩
  · rw [n q (by omega), a2 q (by omega), a1 q (by omega)]
  · rw [hup_o (Or.inr (by decide)), hup_eq]
    rfl
  · rw [hup_eq]
    rfl
  · rw [n 63 (by decide), a2 63 (by decide), b1 0 (by decide)]
    rfl
  · rw [n 63 (by decide), a2 63 (by decide), b1 1 (by decide)]
    rfl
  · rw [n 66 (by decide), b2 d hd]
    rfl
/-- and by the model: a blank one, and kept -/
theorem s_blank {h : Hp} (Q : Hp → Prop) (hQ : ∀ h', (∀ q, q ≠ 94 → q ≠ 96 → q ≠ 98 → h' q = h q) → MC h' B0 → Q h') : w_X9_blank 94 11 96 30 98 30 h Q := by
  unfold w_X9_blank w_X9_blank_b2
  refine wl_run 11 (fun n (st : Int32 × Hp) => st.1 = nI n ∧ (∀ q, q ≠ 94 → st.2 q = h q) ∧ ∀ i, i < n → st.2 94 i = nI (B0.1 i)) ?_ (Nat.zero_le _) ⟨rfl, fun _ _ => rfl, fun i hi => absurd hi (by omega)⟩
  rintro n ⟨v3, g⟩ K hn ⟨e3, fo, fi⟩ hK
  simp only at e3 fo fi
  subst e3
  show w_X9_blank_l2 94 11 96 30 98 30 Q K (nI n) g
  unfold w_X9_blank_l2 w_X9_blank_b52
  rw [q11]
  refine ⟨fun z => ?_, fun z => ?_⟩
  · have : n = 11 := by
      have := (nI_leI (by omega) (by omega)).mp z
      omega
    subst this
    unfold w_X9_blank_b61
    refine wl_run 30 (fun m (st : Int32 × Hp) => st.1 = nI m ∧ (∀ q, q ≠ 96 → q ≠ 98 → st.2 q = g q) ∧ ∀ i, i < m → st.2 96 i = -1 ∧ st.2 98 i = 0) ?_ (Nat.zero_le _) ⟨rfl, fun _ _ _ => rfl, fun i hi => absurd hi (by omega)⟩
    rintro m ⟨v3, u⟩ K61 hm ⟨e3, uo, ui⟩ hK61
    simp only at e3 uo ui
    subst e3
    show w_X9_blank_l61 94 11 96 30 98 30 Q K61 (nI m) u
    unfold w_X9_blank_l61
    rw [q30]
    refine ⟨fun z2 => ?_, fun z2 => ?_⟩
    · have : m = 30 := by
        have := (nI_leI (by omega) (by omega)).mp z2
        omega
      subst this
      refine hQ u (fun q x1 x2 x3 => (uo q x2 x3).trans (fo q x1)) ⟨fun i hi => ?_, fun d hd => ?_, fun d hd => ?_, fun k i hk _ => absurd (show k < 0 from hk) (Nat.not_lt_zero k)⟩
      · rw [uo 94 (by decide) (by decide)]; exact fi i hi
      · exact (ui d hd).1
      · exact (ui d hd).2
    have hm1 : m < 30 := Nat.lt_of_not_le fun q => z2 ((nI_leI (by omega) (by omega)).mpr q)
    have vm : vp_in (nI m) 30 := vp_in_nI hm1 (by decide)
    refine ⟨vm, ?_⟩
    rw [nI_clamp (by omega), wlet_e]
    refine ⟨vm, ?_⟩
    rw [wlet_e, nI_1]
    refine hK61 hm1 _ ⟨rfl, fun q x1 x2 => (hup_ne x2).trans ((hup_ne x1).trans (uo q x1 x2)), fun i hi => ?_⟩
    show hup (hup u 96 m (-1)) 98 m 0 96 i = -1 ∧ hup (hup u 96 m (-1)) 98 m 0 98 i = 0
    rw [hup_ne (show (96 : Nat) ≠ 98 by decide), hup_at, hup_at, hup_ne (show (98 : Nat) ≠ 96 by decide)]
    by_cases e : i = m
    · simp [e]
    · obtain ⟨y1, y2⟩ := ui i (by omega)
      simp [e, y1, y2]
  have hn1 : n < 11 := Nat.lt_of_not_le fun q => z ((nI_leI (by omega) (by omega)).mpr q)
  have vn : vp_in (nI n) 11 := vp_in_nI hn1 (by decide)
  have fin : ∀ v, v = nI (B0.1 n) → K (nI (n + 1), hup g 94 n v) := fun v hv => by
    refine hK hn1 _ ⟨rfl, fun q hq => (hup_ne hq).trans (fo q hq), fun i hi => ?_⟩
    show hup g 94 n v 94 i = _
    by_cases e : i = n
    · rw [e, hup_eq, hv]
    · rw [hup_o (Or.inr e)]
      exact fi i (by omega)
  rw [nI_clamp (by omega), nI_1]
  refine ⟨fun z1 => ⟨vn, ?_⟩, fun z1 => ⟨vn, ?_⟩⟩
  · rw [wlet_e]
    refine fin _ ?_
    have h11 : n = 0 ∨ n = 1 ∨ n = 2 ∨ n = 3 ∨ n = 4 ∨ 5 ≤ n := by omega
    rcases h11 with rfl | rfl | rfl | rfl | rfl | h5
    · decide
    · exact absurd rfl z1
    · decide
    · decide
    · decide
    · have hh : n = 5 ∨ n = 6 ∨ n = 7 ∨ n = 8 ∨ n = 9 ∨ n = 10 := by omega
      rcases hh with rfl | rfl | rfl | rfl | rfl | rfl <;> decide
  · rw [wlet_e]
    refine fin _ ?_
    have e1 : n = 1 := (nI_eq (b := 1) (by omega) (by decide)).mp (Classical.not_not.mp z1)
    subst e1
    rfl
