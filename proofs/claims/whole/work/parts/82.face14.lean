/-! the bridge: the call -/
theorem s_bridgeM {G : Hp} {T : Nat → Int32} {j tp : Nat} {p1 : Int32} (e1 : p1 = nI j) (hj : j ≤ tp) (ht : tp ≤ 500) (e92 : G 92 1 = nI tp) (eT : ∀ i, i < j → G 93 i = T i) {R : Res} (hR : clausesS T j 42 0 0 B0 = R) (QQ : Int32 → Hp → Prop)
    (ok : ∀ g', R.1 = 0 → (∀ q, q ≠ 92 → ¬ scr q → q ≠ 95 → q ≠ 97 → q ≠ 99 → q ≠ 141 → q ≠ 142 → ¬ (110 ≤ q ∧ q ≤ 117) → g' q = G q) → (∀ i, 8 < i → i ≠ 30 → i ≠ 31 → i ≠ 32 → g' 92 i = G 92 i) → g' 92 0 = 0 → g' 92 1 = 0 → g' 92 3 = -1 → MB g' R.2.2.2 → MRec g' r0 → g' 92 32 = 0 → QQ (nI (R.2.2.2.1 0)) g')
    (no : ∀ g', R.1 ≠ 0 → (∀ q, q ≠ 92 → ¬ scr q → g' q = G q) → (∀ i, 8 < i → g' 92 i = G 92 i) → g' 92 0 = 0 → g' 92 1 = 0 → g' 92 3 = nI R.2.1 → QQ (nI R.1 - 10) g') : w_X9_bridge p1 G QQ := by
  unfold w_X9_bridge
  rw [wlet_e, hup_o (show (92 : Nat) ≠ 92 ∨ (1 : Nat) ≠ 0 from Or.inr (by decide)), e92, in_t (p1 := 0) (lo := 0) (hi := tp) e1 rfl rfl (Nat.zero_le _) hj (by omega), c_not1, bad_f (thr0 _)]
  refine wif_p rfl ?_
  unfold w_X9_starts
  rw [wlet_e, wlet_e, wlet_e, wlet_e, wlet_e, wlet_e, wlet_e]
  generalize hm : hup (hup (hup (hup (hup (hup (hup (hup G 92 0 0) 92 1 0) 92 2 p1) 92 4 0) 92 5 0) 92 6 (-1)) 92 7 0) 92 8 0 = m
  have mq : ∀ q, q ≠ 92 → m q = G q := fun q hq => by rw [← hm]; simp only [hup_ne hq]
  have mi : ∀ i, 8 < i → m 92 i = G 92 i := fun i hi => by rw [← hm, hup_o (Or.inr (by omega)), hup_o (Or.inr (by omega)), hup_o (Or.inr (by omega)), hup_o (Or.inr (by omega)), hup_o (Or.inr (by omega)), hup_o (Or.inr (by omega)), hup_o (Or.inr (by omega)), hup_o (Or.inr (by omega))]
  have k0 : m 92 0 = 0 := by rw [← hm]; simp [hup_at]
  have k1 : m 92 1 = 0 := by rw [← hm]; simp [hup_at]
  have k2 : m 92 2 = nI j := by rw [← hm, e1]; simp [hup_at]
  have k4 : m 92 4 = nI 0 := by rw [← hm]; simp [hup_at]; rfl
  have k5 : m 92 5 = 0 := by rw [← hm]; simp [hup_at]
  have k6 : m 92 6 = -1 := by rw [← hm]; simp [hup_at]
  have k7 : m 92 7 = 0 := by rw [← hm]; simp [hup_at]
  refine s_blank _ (fun b bo bm => ?_)
  have b92 : b 92 = m 92 := bo 92 (by decide) (by decide) (by decide)
  have cb : MX b T j 0 := ⟨by rw [b92]; exact k2, by omega, by rw [b92]; exact k4, Nat.zero_le _, fun i hi => by rw [bo 93 (by decide) (by decide) (by decide), mq 93 (by decide)]; exact eT i hi⟩
  refine s_blanks cb _ (fun g fg cg => ?_)
  have eR : clausesS T j 42 0 (sk T j 0) B0 = R := by
    rw [← hR]
    exact clausesS_sk.2.2
  have g5 : g 92 5 = 0 := by rw [fg.2 5 (by decide), b92]; exact k5
  have g6 : g 92 6 = -1 := by rw [fg.2 6 (by decide), b92]; exact k6
  have g7 : g 92 7 = 0 := by rw [fg.2 7 (by decide), b92]; exact k7
  have sg : MC g B0 := bm.same (by decide) (fun q hq => fg.1 q (by unfold scr at hq; omega))
  have Gq : ∀ g', gs7 g g' → (∀ q, q ≠ 92 → ¬ scr q → g' q = G q) ∧ (∀ i, 8 < i → g' 92 i = G 92 i) ∧ g' 92 0 = 0 ∧ g' 92 1 = 0 := fun g' f => by
    refine ⟨fun q x1 x2 => ?_, fun i hi => ?_, ?_, ?_⟩
    · rw [f.1 q x1 x2, fg.1 q x1, bo q (by unfold scr at x2; omega) (by unfold scr at x2; omega) (by unfold scr at x2; omega), mq q x1]
    · rw [f.2 i (by omega) (by omega) (by omega) (by omega), fg.2 i (by omega), b92, mi i hi]
    · rw [f.2 0 (by decide) (by decide) (by decide) (by decide), fg.2 0 (by decide), b92, k0]
    · rw [f.2 1 (by decide) (by decide) (by decide) (by decide), fg.2 1 (by decide), b92, k1]
  refine s_bloop cg (sc_id isB T j 0) g5 g6 g7 sg eR (fun g' e f x5 x6 s w => ?_) (fun g' e f x5 x6 ne => ?_)
  · obtain ⟨o1, o2, o3, o4⟩ := Gq g' f
    unfold w_X9_bridge_b85
    rw [wlet_e, x6, hup_o (show (92 : Nat) ≠ 92 ∨ (5 : Nat) ≠ 3 from Or.inr (by decide))]
    refine wif_p x5 ?_
    refine s_keepM (s.same w.1 (fun q hq => hup_ne (by unfold scr at hq; omega))) w _ (fun g2 a b c d i => ?_)
    refine ok g2 e (fun q x1 x2 x3 x4 x5 x6 x7 x8 => ?_) (fun i hi y1 y2 y3 => ?_) ?_ ?_ ?_ c d i
    · rw [a q x1 x3 x4 x5 x6 x7 x8, hup_ne x1]; exact o1 q x1 x2
    · rw [b i y1 y2 y3, hup_o (Or.inr (by omega))]; exact o2 i hi
    · rw [b 0 (by decide) (by decide) (by decide), hup_o (Or.inr (by decide))]; exact o3
    · rw [b 1 (by decide) (by decide) (by decide), hup_o (Or.inr (by decide))]; exact o4
    · rw [b 3 (by decide) (by decide) (by decide), hup_eq]
  · obtain ⟨o1, o2, o3, o4⟩ := Gq g' f
    unfold w_X9_bridge_b85
    rw [wlet_e, x6, hup_o (show (92 : Nat) ≠ 92 ∨ (5 : Nat) ≠ 3 from Or.inr (by decide))]
    refine wif_n ne ?_
    rw [x5]
    exact no _ e (fun q x1 x2 => by rw [hup_ne x1]; exact o1 q x1 x2) (fun i hi => by rw [hup_o (Or.inr (by omega))]; exact o2 i hi) (by rw [hup_o (Or.inr (by decide))]; exact o3) (by rw [hup_o (Or.inr (by decide))]; exact o4) (hup_eq _ _ _ _)
