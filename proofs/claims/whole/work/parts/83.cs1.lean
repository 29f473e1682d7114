section F20
variable {h : Hp} {B : Br} {tn : Nat} {tl : Nat → List Row} {r : Rc} {K : Hp → Prop}
theorem cs1 {p1 : Int32} (hR : RA h B tn tl r) (hK : ∀ h', RR h' → K h') : w_L_bridge p1 h (fun v1 h1 => w_X9_bridge p1 h1 (MQQ K v1)) := by
  have a0 := KP.RA (KP.thr (h := h) (v := 0)) hR
  obtain ⟨c1, c2, ⟨l1, l2, l3, l4, l5, l6⟩, ⟨tp, t1, t2, t3, t4, t5⟩, ⟨ro, rc, rm⟩, ⟨ic, i1, i2, i3, i4⟩⟩ := id hR
  unfold w_L_bridge w_X8_bridge
  rw [t2]
  refine s_needBetween (lo := 0) (hi := tp) q0 rfl (by decide) (by omega) (fun j _ hj e1 => ?_) (fun hn => ⟨rfl, ?_⟩)
  · unfold w_X7_open
    rw [wlet_e, wlet_e, wlet_e, wlet_e, wlet_e]
    generalize hm : hup (hup (hup (hup (hup h 1 2 p1) 1 3 0) 1 4 0) 1 5 (-1)) 1 1 0 = m
    have mq : ∀ q, q ≠ 1 → m q = h q := fun q hq => by rw [← hm]; simp only [hup_ne hq]
    have n1 : m 1 1 = 0 := by rw [← hm]; simp [hup_at]
    have n2 : m 1 2 = nI j := by rw [← hm, e1]; simp [hup_at]
    have n3 : m 1 3 = nI 0 := by rw [← hm]; simp [hup_at]; rfl
    have n5 : m 1 5 = -1 := by rw [← hm]; simp [hup_at]
    have cm : CT m (h 2) j 0 := ⟨n2, by omega, n3, Nat.zero_le _, mq 2 (by decide)⟩
    obtain ⟨R, hRR⟩ : ∃ R, clausesS (h 2) j 42 0 0 B0 = R := ⟨_, rfl⟩
    refine s_clauses cm _ (fun g e f s w sn => ?_) (fun g e f => ?_)
    · rw [hRR] at e s w sn
      refine wif_p i10 ?_
      refine s_copy4 s w sn _ (fun g2 f2' cb => ?_)
      refine s_clear _ (fun g3 f3 rc3 => ?_)
      rw [wlet_e]
      try dsimp only
      rw [wlet_e]
      generalize hv : hup g3 0 15 0 3 4 = v
      generalize hG : hup (hup g3 0 15 0) 1457 0 v = G
      have G0 : ∀ i, i ≠ 15 → G 0 i = h 0 i := fun i hi => by rw [← hG, hup_ne (by decide), hup_o (Or.inr hi), f3 0 (by omega), f2' 0 (by omega), f.1 0 (by decide) (by omega), mq 0 (by decide)]
      have G015 : G 0 15 = 0 := by rw [← hG, hup_ne (by decide), hup_eq]
      have Gq : ∀ q, q ≠ 0 → q ≠ 1457 → (q < 62 ∨ 68 < q) → G q = g2 q := fun q x1 x2 x3 => by rw [← hG, hup_ne x2, hup_ne x1, f3 q x3]
      have Gh : ∀ q, q ≠ 0 → q ≠ 1 → q ≠ 1457 → (q < 3 ∨ 12 < q) → (q < 62 ∨ 68 < q) → G q = h q := fun q x0 x1 x2 x3 x4 => by rw [Gq q x0 x2 x4, f2' q (by omega), f.1 q x1 (by omega), mq q x1]
      have G1 : ∀ i, i ≠ 3 → G 1 i = m 1 i := fun i hi => by rw [Gq 1 (by decide) (by decide) (by omega), f2' 1 (by omega), f.2 i hi]
      have GCB : CB G R.2.2.2 := cb.same (Gq 3 (by decide) (by decide) (by omega)) (Gq 4 (by decide) (by decide) (by omega)) (Gq 5 (by decide) (by decide) (by omega)) (Gq 6 (by decide) (by decide) (by omega)) (Gq 7 (by decide) (by decide) (by omega))
      have Grc : CRec 62 G r0 := rc3.same (fun q x1 x2 => by rw [← hG, hup_ne (by omega), hup_ne (by omega)])
      have G1457 : G 1457 0 = v := by rw [← hG, hup_eq]
      have ev : v = nI (R.2.2.2.1 0) := by
        rw [← hv, hup_ne (by decide), f3 3 (by omega)]
        exact cb.1.1.1
      refine s_bridgeM e1 hj t1 (by rw [Gh 92 (by decide) (by decide) (by decide) (by omega) (by omega)]; exact t3) (T := h 2) (fun i hi => by rw [Gh 93 (by decide) (by decide) (by decide) (by omega) (by omega)]; exact (t4 i (by omega)).symm) hRR _ (fun g' e' a b x0 x1 x3 mb mr x32 => ?_) (fun g' e' => absurd e e')
      have a' : ∀ q, q ≠ 92 → ¬ scr q → q ≠ 95 → q ≠ 97 → q ≠ 99 → q ≠ 141 → q ≠ 142 → ¬ (110 ≤ q ∧ q ≤ 117) → g' q = G q := a
      have fin : ∀ q, q ≠ 0 → q ≠ 1 → (12 < q ∨ q = 2) → (q < 62 ∨ 68 < q) → q ≠ 1457 → q ≠ 92 → ¬ scr q → q ≠ 95 → q ≠ 97 → q ≠ 99 → q ≠ 141 → q ≠ 142 → ¬ (110 ≤ q ∧ q ≤ 117) → g' q = h q := fun q z0 z1 z2 z3 z4 z5 z6 z7 z8 z9 w1 w2 w3 => (a q z5 z6 z7 z8 z9 w1 w2 w3).trans (Gh q z0 z1 z4 (by omega) z3)
      have b' : ∀ i, 8 < i → i ≠ 30 → i ≠ 31 → i ≠ 32 → g' 92 i = h 92 i := fun i w1 w2 w3 w4 => by rw [b i w1 w2 w3 w4, Gh 92 (by decide) (by decide) (by decide) (by omega) (by omega)]
      have sm : ∀ q, q < 94 → q ≠ 92 → g' q = G q := fun q w1 w2 => a q w2 (by unfold scr; omega) (by omega) (by omega) (by omega) (by omega) (by omega) (by omega)
      have f3' : ∀ q, ((12 < q ∧ q < 62) ∨ (68 < q ∧ q < 92) ∨ q = 93 ∨ (118 ≤ q ∧ q ≤ 138)) → g' q = h q := fun q hq => fin q (by omega) (by omega) (by omega) (by omega) (by omega) (by omega) (by unfold scr; omega) (by omega) (by omega) (by omega) (by omega) (by omega) (by omega)
      refine mq_ok x0 ?_ (hK _ ⟨R.2.2.2, tn, tl, r0, ?_, mb, ⟨l1, ?_, (b' 18 (by decide) (by decide) (by decide) (by decide)).trans l3, fun t ht => ⟨(l4 t ht).1.same ?_ (f3' _ (by omega)), (l4 t ht).2.same (fun q hq => f3' q (by omega))⟩, ?_, (b' 48 (by decide) (by decide) (by decide) (by decide)).trans l6⟩, ⟨0, by decide, ?_, x1, fun q hq => absurd hq (by omega), ?_⟩, ⟨ok_r0 tn, ?_, mr⟩, ⟨0, by decide, ?_, x32, fun q hq => absurd hq (by omega)⟩⟩)
      · rw [a 1457 (by decide) (by unfold scr; omega) (by decide) (by decide) (by decide) (by decide) (by decide) (by omega), G1457, ev]
      · exact GCB.same (sm 3 (by decide) (by decide)) (sm 4 (by decide) (by decide)) (sm 5 (by decide) (by decide)) (sm 6 (by decide) (by decide)) (sm 7 (by decide) (by decide))
      · rw [sm 0 (by decide) (by decide), G0 14 (by decide)]; exact l2
      · rw [f3' (14 + 4 * t) (by omega)]
      · rw [f3' 34 (by omega)]; exact l5
      · rw [sm 1 (by decide) (by decide), G1 1 (by decide)]; exact n1
      · rw [sm 1 (by decide) (by decide), G1 5 (by decide), n5, x3]
      · exact Grc.same (fun q y1 y2 => sm q (by omega) (by omega))
      · rw [sm 0 (by decide) (by decide)]; exact G015
    · rw [hRR] at e f
      refine wif_n (not_not_intro rfl) ?_
      try dsimp only
      rw [wlet_e, f.2.2.1]
      generalize hG : hup g 1457 0 (nI R.1 - 10) = G
      have Gq : ∀ q, q ≠ 1457 → G q = g q := fun q hq => by rw [← hG, hup_ne hq]
      have Gh : ∀ q, q ≠ 1 → q ≠ 1457 → (q < 8 ∨ 12 < q) → G q = h q := fun q x1 x2 x3 => by rw [Gq q x2, f.1 q x1 x3, mq q x1]
      have G1 : ∀ i, i ≠ 3 → i ≠ 4 → i ≠ 5 → G 1 i = m 1 i := fun i w1 w2 w3 => by rw [Gq 1 (by decide), f.2.1 i w1 w2 w3]
      refine s_bridgeM e1 hj t1 (by rw [Gh 92 (by decide) (by decide) (by omega)]; exact t3) (T := h 2) (fun i hi => by rw [Gh 93 (by decide) (by decide) (by omega)]; exact (t4 i (by omega)).symm) hRR _ (fun g' e' => absurd e' e) (fun g' e' a b x0 x1 x3 => ?_)
      have sm : ∀ q, q ≠ 92 → ¬ scr q → g' q = G q := a
      have fin : ∀ q, q ≠ 1 → q ≠ 1457 → (q < 8 ∨ 12 < q) → q ≠ 92 → ¬ scr q → g' q = h q := fun q z1 z2 z3 z4 z5 => (a q z4 z5).trans (Gh q z1 z2 z3)
      have b' : ∀ i, 8 < i → g' 92 i = h 92 i := fun i w1 => by rw [b i w1, Gh 92 (by decide) (by decide) (by omega)]
      have k : ∀ q, q ≠ 1 → (q < 8 ∨ (12 < q ∧ q < 92) ∨ (92 < q ∧ q < 1457)) → ¬ scr q → g' q = h q := fun q z1 z2 z3 => fin q z1 (by omega) (by omega) (by omega) z3
      have ks : ∀ q, q ≠ 1 → (q < 8 ∨ (12 < q ∧ q < 92) ∨ q = 93 ∨ q = 95 ∨ q = 97 ∨ q = 99 ∨ (109 ≤ q ∧ q < 1457)) → g' q = h q := fun q z1 z2 => k q z1 (by omega) (by unfold scr; omega)
      refine mq_ok x0 ?_ (hK _ ⟨B, tn, tl, r, c1.same (ks 3 (by decide) (by omega)) (ks 4 (by decide) (by omega)) (ks 5 (by decide) (by omega)) (ks 6 (by decide) (by omega)) (ks 7 (by decide) (by omega)), c2.same (ks 95 (by decide) (by omega)) (ks 97 (by decide) (by omega)) (ks 99 (by decide) (by omega)) (fun i hi => ks _ (by omega) (by omega)), ⟨l1, ?_, (b' 18 (by decide)).trans l3, fun t ht => ⟨(l4 t ht).1.same ?_ (ks _ (by omega) (by omega)), (l4 t ht).2.same (fun q hq => ks q (by omega) (by omega))⟩, ?_, (b' 48 (by decide)).trans l6⟩, ⟨0, by decide, ?_, x1, fun q hq => absurd hq (by omega), ?_⟩, ⟨ro, rc.same (fun q y1 y2 => ks q (by omega) (by omega)), rm.same ⟨ro.2.2.1, ro.2.2.2.1⟩ (b' 30 (by decide)) (b' 31 (by decide)) (fun q y1 y2 => ks q (by omega) (by omega))⟩, ⟨ic, i1, ?_, (b' 32 (by decide)).trans i3, fun jj hjj => ?_⟩⟩)
      · rw [a 1457 (by decide) (by unfold scr; omega), ← hG, hup_eq]
      · rw [ks 0 (by decide) (by omega)]; exact l2
      · rw [ks (14 + 4 * t) (by omega) (by omega)]
      · rw [ks 34 (by decide) (by omega)]; exact l5
      · rw [a 1 (by decide) (by unfold scr; omega), G1 1 (by decide) (by decide) (by decide)]; exact n1
      · rw [a 1 (by decide) (by unfold scr; omega), Gq 1 (by decide), f.2.2.2, x3]
      · rw [ks 0 (by decide) (by omega)]; exact i2
      · obtain ⟨r2, y1, y2, y3⟩ := i4 jj hjj
        exact ⟨r2, y1, y2.same (fun q z1 z2 => ks q (by omega) (by omega)), y3.same (ks _ (by omega) (by omega))⟩
  · unfold w_X9_bridge
    try dsimp only
    rw [wlet_e, hup_o (show (92 : Nat) ≠ 92 ∨ (1 : Nat) ≠ 0 from Or.inr (by decide)), t3, in_f (p1 := 0) (lo := 0) (hi := tp) rfl rfl (by decide) (by omega) hn, c_not0, bad_t (thr0 _) (by decide)]
    exact wif_n i10 (mq_thr (hup_eq _ _ _ _) (by decide) (hK _ (KP.RR KP.thr a0.rr)))
end F20
