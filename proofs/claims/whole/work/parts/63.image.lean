/-! images: kept and brought back -/
theorem s_copyRow {a b n : Nat} (hab : a ≠ b) (hn : n < 2 ^ 31) {h : Hp} (Q : Hp → Prop) (hQ : ∀ h', (∀ q, q ≠ b → h' q = h q) → (∀ i, i < n → h' b i = h a i) → Q h') : w_X8_copyRow a n b n h Q := by
  unfold w_X8_copyRow w_X8_copyRow_b2
  refine wl_run n (fun k (st : Int32 × Hp) => st.1 = nI k ∧ (∀ q, q ≠ b → st.2 q = h q) ∧ ∀ i, i < k → st.2 b i = h a i) ?_ (Nat.zero_le _) ⟨rfl, fun _ _ => rfl, fun i hi => absurd hi (by omega)⟩
  rintro k ⟨v2, g⟩ K hk ⟨e2, fo, fb⟩ hK
  simp only at e2 fo fb
  subst e2
  show w_X8_copyRow_l2 a n b n Q K (nI k) g
  unfold w_X8_copyRow_l2
  refine ⟨fun z => ?_, fun z => ?_⟩
  · have : k = n := by
      have := (nI_leI hn (by omega)).mp z
      omega
    subst this
    exact hQ g fo fb
  have hkn : k < n := Nat.lt_of_not_le fun q => z ((nI_leI hn (by omega)).mpr q)
  have vk : vp_in (nI k) n := vp_in_nI hkn hn
  refine wif_n z ⟨vk, vk, ?_⟩
  rw [nI_clamp (by omega), wlet_e, nI_1, fo a hab]
  refine hK hkn _ ⟨rfl, fun q hq => (hup_ne hq).trans (fo q hq), fun i hi => ?_⟩
  show hup g b k (h a k) b i = h a i
  by_cases c : i = k
  · rw [c, hup_eq]
  · rw [hup_o (Or.inr c)]
    exact fb i (by omega)
def isRec (a : Nat) : Prop := a = 62 ∨ a = 70 ∨ a = 77 ∨ a = 84
theorem tgr {a : Nat} (h : isRec a) : tg a 0 = a + 1 ∧ tg a 1 = a + 2 ∧ tg a 2 = a + 3 ∧ tg a 3 = a + 4 ∧ tg a 4 = a + 5 ∧ tg a 5 = a + 6 := by
  rcases h with rfl | rfl | rfl | rfl <;> decide
theorem s_copy3 {a b : Nat} (ha : isRec a) (hb : isRec b) (hab : a ≠ b) {h : Hp} {r : Rc} (ho : r.1.2.2.1 ≤ 60 ∧ r.1.2.2.2 ≤ 10) (hc : CRec b h r) (Q : Hp → Prop) (hQ : ∀ h', (∀ q, q < a ∨ a + 6 < q → h' q = h q) → CRec a h' r → Q h') : w_X3_copy a b h Q := by
  obtain ⟨x0, x1, x2, x3, x4, x5⟩ := tgr ha
  obtain ⟨y0, y1, y2, y3, y4, y5⟩ := tgr hb
  have hap : a + 6 < b ∨ b + 6 < a := by
    unfold isRec at ha hb
    omega
  obtain ⟨c1, c2, c3, c4, c5, c6, c7⟩ := hc
  unfold w_X3_copy
  rw [x0, x1, x2, x3, x4, x5, y0, y1, y2, y3, y4, y5]
  refine s_copyRow (by omega) (by decide) _ (fun h1 f1 g1 => ?_)
  refine s_copyRow (by omega) (by decide) _ (fun h2 f2 g2 => ?_)
  refine s_copyRow (by omega) (by decide) _ (fun h3 f3 g3 => ?_)
  refine s_copyRow (by omega) (by decide) _ (fun h4 f4 g4 => ?_)
  refine s_copyRow (by omega) (by decide) _ (fun h5 f5 g5 => ?_)
  refine s_copyRow (by omega) (by decide) _ (fun h6 f6 g6 => ?_)
  rw [wlet_e, wlet_e]
  have fb : ∀ q, b ≤ q → q ≤ b + 6 → h6 q = h q := fun q q1 q2 => by rw [f6 q (by omega), f5 q (by omega), f4 q (by omega), f3 q (by omega), f2 q (by omega), f1 q (by omega)]
  have e1 : ∀ i, i < 2 → h6 (a + 1) i = h (b + 1) i := fun i hi => by rw [f6 _ (by omega), f5 _ (by omega), f4 _ (by omega), f3 _ (by omega), f2 _ (by omega)]; exact g1 i hi
  have e2 : ∀ i, i < 60 → h6 (a + 2) i = h (b + 2) i := fun i hi => by rw [f6 _ (by omega), f5 _ (by omega), f4 _ (by omega), f3 _ (by omega), g2 i hi, f1 _ (by omega)]
  have e3 : ∀ i, i < 60 → h6 (a + 3) i = h (b + 3) i := fun i hi => by rw [f6 _ (by omega), f5 _ (by omega), f4 _ (by omega), g3 i hi, f2 _ (by omega), f1 _ (by omega)]
  have e4 : ∀ i, i < 30 → h6 (a + 4) i = h (b + 4) i := fun i hi => by rw [f6 _ (by omega), f5 _ (by omega), g4 i hi, f3 _ (by omega), f2 _ (by omega), f1 _ (by omega)]
  have e5 : ∀ i, i < 10 → h6 (a + 5) i = h (b + 5) i := fun i hi => by rw [f6 _ (by omega), g5 i hi, f4 _ (by omega), f3 _ (by omega), f2 _ (by omega), f1 _ (by omega)]
  have e6 : ∀ i, i < 10 → h6 (a + 6) i = h (b + 6) i := fun i hi => by rw [g6 i hi, f5 _ (by omega), f4 _ (by omega), f3 _ (by omega), f2 _ (by omega), f1 _ (by omega)]
  have n : ∀ q, q ≠ a → hup (hup h6 a 6 (h6 b 6)) a 7 (hup h6 a 6 (h6 b 6) b 7) q = h6 q := fun q hq => by rw [hup_ne hq, hup_ne hq]
  refine hQ _ (fun q hq => ?_) ⟨?_, ?_, ?_, ?_, fun k hk => ?_, fun d hd => ?_, fun i hi => ?_⟩
  · rw [n q (by omega), f6 q (by omega), f5 q (by omega), f4 q (by omega), f3 q (by omega), f2 q (by omega), f1 q (by omega)]
  · rw [hup_o (Or.inr (by decide)), hup_eq, fb b (by omega) (by omega)]; exact c1
  · rw [hup_eq, hup_ne (by omega), fb b (by omega) (by omega)]; exact c2
  · rw [n _ (by omega), e1 0 (by decide)]; exact c3
  · rw [n _ (by omega), e1 1 (by decide)]; exact c4
  · rw [n _ (by omega), n _ (by omega), e2 k (by omega), e3 k (by omega)]; exact c5 k hk
  · rw [n _ (by omega), e4 d hd]; exact c6 d hd
  · rw [n _ (by omega), n _ (by omega), e5 i (by omega), e6 i (by omega)]; exact c7 i hi
/-- the cells in the order in which the model moves them -/
def cellP (c : Nat) : Nat := if c < 2 then 141 else if c < 4 then 92 else if c < 34 then 142 else if c < 154 then 144 + (c - 34) / 2 else 205 + (c - 154) / 2
def cellI (c : Nat) : Nat := if c < 2 then c else if c < 4 then c + 28 else if c < 34 then c - 4 else if c < 154 then (c - 34) % 2 else (c - 154) % 2
theorem cell_ne : ∀ c, c < 174 → cellP c ≠ 216 ∧ cellP c ≠ 217 ∧ cellP c ≠ 218 ∧ (cellP c = 92 → cellI c = 30 ∨ cellI c = 31) ∧ 92 ≤ cellP c ∧ cellP c ≤ 214 ∧ cellP c ≠ 143 ∧ cellP c ≠ 204 := by
  intro c hc
  unfold cellP cellI
  split
  · omega
  · split
    · omega
    · split
      · omega
      · split <;> omega
def cellN (p i : Nat) : Nat := if p = 141 then i else if p = 92 then i - 28 else if p = 142 then i + 4 else if p < 205 then 34 + 2 * (p - 144) + i else 154 + 2 * (p - 205) + i
theorem cell_N : ∀ c, c < 174 → cellN (cellP c) (cellI c) = c := by decide +kernel
theorem s_moves {j c : Nat} {h : Hp} {p2 p3 : Int32} (hj : j < 3) (hc : c < 174) (h36 : h 92 36 = nI c) (Q : Int32 → Hp → Prop) (q1 : p3 = 0 → Q p2 (hup (hup h (216 + j) c p2) 92 36 (nI (c + 1)))) (q2 : p3 ≠ 0 → Q (h (216 + j) c) (hup h 92 36 (nI (c + 1)))) : w_X9_moves (216 + j) 200 p2 p3 h Q := by
  have vc : vp_in (nI c) 200 := vp_in_nI (by omega) (by decide)
  unfold w_X9_moves w_X9_moves_b11
  rw [h36]
  refine ⟨fun z => ?_, fun z => ⟨vc, ?_⟩⟩
  · rw [wlet_e, hup_eq, nI_1, nI_pred]
    refine ⟨vc, ?_⟩
    rw [nI_clamp (by omega), hup_ne (by omega)]
    exact q2 z
  · rw [nI_clamp (by omega), wlet_e, wlet_e, hup_eq, hup_ne (show (92 : Nat) ≠ 216 + j by omega), h36, nI_1, nI_pred]
    refine ⟨vc, ?_⟩
    rw [nI_clamp (by omega), hup_ne (show 216 + j ≠ 92 by omega), hup_eq]
    exact q1 (Classical.not_not.mp z)
theorem s_movesAll {j : Nat} {h : Hp} {p2 : Int32} {J : Nat → Hp → Prop} (h0 : J 0 (hup h 92 36 0)) (hs : ∀ c g, c < 174 → J c g → ∀ (Q : Int32 → Hp → Prop), (∀ z g', J (c + 1) (hup g' (cellP c) (cellI c) z) → Q z g') → w_X9_moves (216 + j) 200 (g (cellP c) (cellI c)) p2 g Q) (Q : Hp → Prop) (hQ : ∀ h', J 174 h' → Q h') : w_X9_movesAll (216 + j) 200 p2 h Q := by
  have v02 : vp_in 0 2 := vl 0 2 (by decide) (by decide)
  have v12 : vp_in 1 2 := vl 1 2 (by decide) (by decide)
  unfold w_X9_movesAll
  rw [wlet_e, cl0, cl1]
  refine ⟨v02, hs 0 _ (by decide) h0 _ (fun z3 g3 j3 => ⟨v02, ?_⟩)⟩
  rw [wlet_e]
  refine ⟨v12, hs 1 _ (by decide) j3 _ (fun z4 g4 j4 => ⟨v12, ?_⟩)⟩
  rw [wlet_e]
  refine hs 2 _ (by decide) j4 _ (fun z5 g5 j5 => ?_)
  rw [wlet_e]
  refine hs 3 _ (by decide) j5 _ (fun z6 g6 j6 => ?_)
  rw [wlet_e]
  unfold w_X9_movesAll_b71
  refine wl_run 30 (fun n (st : Int32 × Hp) => st.1 = nI n ∧ J (4 + n) st.2) ?_ (Nat.zero_le _) ⟨rfl, j6⟩
  rintro n ⟨v3, g⟩ K71 hn ⟨e3, jg⟩ hK71
  simp only at e3 jg
  subst e3
  show w_X9_movesAll_l71 (216 + j) 200 p2 Q K71 (nI n) g
  unfold w_X9_movesAll_l71
  rw [q30]
  refine ⟨fun z => ?_, fun z => ?_⟩
  · have : n = 30 := by
      have := (nI_leI (by omega) (by omega)).mp z
      omega
    subst this
    unfold w_X9_movesAll_b103
    refine wl_run 60 (fun n (st : Int32 × Hp) => st.1 = nI n ∧ J (34 + 2 * n) st.2) ?_ (Nat.zero_le _) ⟨rfl, jg⟩
    rintro n ⟨v3, g⟩ K103 hn ⟨e3, jg⟩ hK103
    simp only at e3 jg
    subst e3
    show w_X9_movesAll_l103 (216 + j) 200 p2 Q K103 (nI n) g
    unfold w_X9_movesAll_l103
    rw [q60]
    refine ⟨fun z => ?_, fun z => ?_⟩
    · have : n = 60 := by
        have := (nI_leI (by omega) (by omega)).mp z
        omega
      subst this
      unfold w_X9_movesAll_b156
      refine wl_run 10 (fun n (st : Int32 × Hp) => st.1 = nI n ∧ J (154 + 2 * n) st.2) ?_ (Nat.zero_le _) ⟨rfl, jg⟩
      rintro n ⟨v3, g⟩ K156 hn ⟨e3, jg⟩ hK156
      simp only at e3 jg
      subst e3
      show w_X9_movesAll_l156 (216 + j) 200 p2 Q K156 (nI n) g
      unfold w_X9_movesAll_l156
      rw [q10]
      refine ⟨fun z => ?_, fun z => ?_⟩
      · have : n = 10 := by
          have := (nI_leI (by omega) (by omega)).mp z
          omega
        subst this
        exact hQ g jg
      have hn1 : n < 10 := Nat.lt_of_not_le fun q => z ((nI_leI (by omega) (by omega)).mpr q)
      have vn : vp_in (nI n) 10 := vp_in_nI hn1 (by decide)
      unfold w_X9_movesAll_b165
      refine wl_run 2 (fun i (st : Int32 × Hp) => st.1 = nI i ∧ J (154 + 2 * n + i) st.2) ?_ (Nat.zero_le _) ⟨rfl, jg⟩
      rintro i ⟨v4, u⟩ K165 hi ⟨e4, ju⟩ hK165
      simp only at e4 ju
      subst e4
      show w_X9_movesAll_l165 (216 + j) 200 p2 (nI n) K156 Q K165 (nI i) u
      unfold w_X9_movesAll_l165
      rw [q2]
      refine ⟨fun z2 => ?_, fun z2 => ?_⟩
      · have : i = 2 := by
          have := (nI_leI (by omega) (by omega)).mp z2
          omega
        subst this
        rw [nI_1]
        exact hK156 hn1 _ ⟨rfl, ju⟩
      have hi1 : i < 2 := Nat.lt_of_not_le fun q => z2 ((nI_leI (by omega) (by omega)).mpr q)
      have vi : vp_in (nI i) 2 := vp_in_nI hi1 (by decide)
      have cP : cellP (154 + 2 * n + i) = 205 + n := by
        unfold cellP
        rw [if_neg (by omega), if_neg (by omega), if_neg (by omega), if_neg (by omega)]
        omega
      have cI : cellI (154 + 2 * n + i) = i := by
        unfold cellI
        rw [if_neg (by omega), if_neg (by omega), if_neg (by omega), if_neg (by omega)]
        omega
      have st := hs (154 + 2 * n + i) u (by omega) ju
      rw [cP, cI] at st
      refine ⟨vn, vn, vi, ?_⟩
      rw [nI_clamp (n := n) (by omega), nI_clamp (n := i) (by omega), Nat.one_mul]
      refine st _ (fun z4 u5 j5 => ⟨vi, ?_⟩)
      rw [wlet_e, nI_1]
      exact hK165 hi1 _ ⟨rfl, j5⟩
    have hn1 : n < 60 := Nat.lt_of_not_le fun q => z ((nI_leI (by omega) (by omega)).mpr q)
    have vn : vp_in (nI n) 60 := vp_in_nI hn1 (by decide)
    unfold w_X9_movesAll_b112
    refine wl_run 2 (fun i (st : Int32 × Hp) => st.1 = nI i ∧ J (34 + 2 * n + i) st.2) ?_ (Nat.zero_le _) ⟨rfl, jg⟩
    rintro i ⟨v4, u⟩ K112 hi ⟨e4, ju⟩ hK112
    simp only at e4 ju
    subst e4
    show w_X9_movesAll_l112 (216 + j) 200 p2 (nI n) K103 Q K112 (nI i) u
    unfold w_X9_movesAll_l112
    rw [q2]
    refine ⟨fun z2 => ?_, fun z2 => ?_⟩
    · have : i = 2 := by
        have := (nI_leI (by omega) (by omega)).mp z2
        omega
      subst this
      rw [nI_1]
      exact hK103 hn1 _ ⟨rfl, ju⟩
    have hi1 : i < 2 := Nat.lt_of_not_le fun q => z2 ((nI_leI (by omega) (by omega)).mpr q)
    have vi : vp_in (nI i) 2 := vp_in_nI hi1 (by decide)
    have cP : cellP (34 + 2 * n + i) = 144 + n := by
      unfold cellP
      rw [if_neg (by omega), if_neg (by omega), if_neg (by omega), if_pos (by omega)]
      omega
    have cI : cellI (34 + 2 * n + i) = i := by
      unfold cellI
      rw [if_neg (by omega), if_neg (by omega), if_neg (by omega), if_pos (by omega)]
      omega
    have st := hs (34 + 2 * n + i) u (by omega) ju
    rw [cP, cI] at st
    refine ⟨vn, vn, vi, ?_⟩
    rw [nI_clamp (n := n) (by omega), nI_clamp (n := i) (by omega), Nat.one_mul]
    refine st _ (fun z4 u5 j5 => ⟨vi, ?_⟩)
    rw [wlet_e, nI_1]
    exact hK112 hi1 _ ⟨rfl, j5⟩
  have hn1 : n < 30 := Nat.lt_of_not_le fun q => z ((nI_leI (by omega) (by omega)).mpr q)
  have vn : vp_in (nI n) 30 := vp_in_nI hn1 (by decide)
  have cP : cellP (4 + n) = 142 := by
    unfold cellP
    rw [if_neg (by omega), if_neg (by omega), if_pos (by omega)]
  have cI : cellI (4 + n) = n := by
    unfold cellI
    rw [if_neg (by omega), if_neg (by omega), if_pos (by omega)]
    omega
  have st := hs (4 + n) g (by omega) jg
  rw [cP, cI] at st
  refine ⟨vn, ?_⟩
  rw [nI_clamp (n := n) (by omega)]
  refine st _ (fun z4 u5 j5 => ⟨vn, ?_⟩)
  rw [wlet_e, nI_1]
  exact hK71 hn1 _ ⟨rfl, j5⟩
