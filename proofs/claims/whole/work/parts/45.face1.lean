/-! calls that tell: the small ones -/
def MQQ (K : Hp → Prop) (v1 : Int32) : Int32 → Hp → Prop := fun v2 h2 => w_X9_thrown h2 (fun v3 => v3 = v1 ∧ (v1 = 0 → h2 1457 (Int32.toNatClampNeg 0) = v2) ∧ K h2)
theorem mq_ok {K : Hp → Prop} {v2 : Int32} {h2 : Hp} (h0 : h2 92 0 = 0) (h1 : h2 1457 0 = v2) (k : K h2) : MQQ K 0 v2 h2 := ⟨h0, fun _ => h1, k⟩
theorem mq_thr {K : Hp → Prop} {c v2 : Int32} {h2 : Hp} (h0 : h2 92 0 = c) (hc : c ≠ 0) (k : K h2) : MQQ K c v2 h2 := ⟨h0, fun z => absurd z hc, k⟩
theorem thr0 (h : Hp) : hup h 92 0 0 92 0 = 0 := hup_eq _ _ _ _
theorem n1 : ¬ ((1 : Int32) = 0) := by decide
theorem c_not1 : (if ¬ (1 : Int32) = 0 then (0 : Int32) else 1) = 0 := by decide
theorem c_not0 : (if ¬ (0 : Int32) = 0 then (0 : Int32) else 1) = 1 := by decide
section F1
variable {h : Hp} {B : Br} {tn : Nat} {tl : Nat → List Row} {r : Rc} {K : Hp → Prop}
theorem RA.rr (a : RA h B tn tl r) : RR h := ⟨B, tn, tl, r, a⟩
theorem cs3 (hR : RA h B tn tl r) (hK : ∀ h', RR h' → K h') : w_X8_fault h (fun v1 => w_X9_fault h (fun v2 h2 => v1 = v2 ∧ K h2)) := by
  obtain ⟨_, _, _, ⟨tp, _, _, _, _, t5⟩, _, _⟩ := id hR
  unfold w_X8_fault w_X9_fault
  dsimp only
  rw [wlet_e, hup_o (Or.inr (by decide))]
  exact ⟨t5, hK _ (KP.RR KP.thr hR.rr)⟩
theorem cs15 (hR : RA h B tn tl r) (hK : ∀ h', RR h' → K h') : w_X8_slots h (fun v1 => w_X9_slots h (fun v2 h2 => v1 = v2 ∧ K h2)) := by
  have a := KP.RA (KP.thr (h := h) (v := 0)) hR
  unfold w_X8_slots w_X9_slots
  rw [e_slotCount hR.1]
  dsimp only
  rw [wlet_e, e_slotsOf a.2.1]
  exact ⟨rfl, hK _ a.rr⟩
theorem cs4 {p1 : Int32} (hR : RA h B tn tl r) (hK : ∀ h', RR h' → K h') : w_L_told p1 h (fun v1 h1 => w_X9_told p1 h1 (MQQ K v1)) := by
  unfold w_L_told w_X8_told
  have hC := hR.1
  have w7 := hC.2.2.2.2.2.2.2.2.1
  have w8 := hC.2.2.2.2.2.2.2.2.2.1
  have bad : ¬ (∃ j, 0 ≤ j ∧ j ≤ 9 ∧ p1 = nI j) → w_X9_told p1 h (MQQ K 1) := by
    intro hn
    unfold w_X9_told
    try dsimp only
    rw [wlet_e, in_f (p1 := 0) (p2 := 9) (lo := 0) (hi := 9) rfl rfl (by decide) (by decide) hn, c_not0, bad_t (thr0 h) (by decide), wif_f i10]
    exact mq_thr (hup_eq _ _ _ _) (by decide) (hK _ (KP.RR (KP.tr KP.thr KP.thr) hR.rr))
  have ok : ∀ j, j ≤ 9 → p1 = nI j → ∀ v, v = (if j = 9 then nI tn else nI (B.1 j)) → wlet (hup h 1457 0 v) (fun h1 => w_X9_told p1 h1 (MQQ K 0)) := by
    intro j hj e v hv
    subst e
    rw [wlet_e]
    have a := KP.RA (KP.tr (KP.out KP.rf) KP.thr : KP h (hup (hup h 1457 0 v) 92 0 0)) hR
    unfold w_X9_told
    try dsimp only
    rw [wlet_e, in_t (p1 := 0) (p2 := 9) (lo := 0) (hi := 9) rfl rfl rfl (Nat.zero_le _) hj (by decide), c_not1, bad_f (thr0 _), wif_t rfl]
    have h1457 : hup (hup h 1457 0 v) 92 0 0 1457 0 = v := by
      rw [hup_ne (by decide), hup_eq]
    by_cases c : j = 9
    · refine wif_n (not_not_intro (by rw [c]; rfl)) (mq_ok (thr0 _) ?_ (hK _ a.rr))
      rw [h1457, a.2.2.1.2.2.1, hv, if_pos c]
    · refine wif_p (fun q => c ((nI_eq (b := 9) (by omega) (by omega)).mp q)) ⟨vp_in_nI (by omega) (by decide), mq_ok (thr0 _) ?_ (hK _ a.rr)⟩
      rw [h1457, nI_clamp (by omega), a.2.1.1 j (by omega), hv, if_neg c]
  obtain ⟨a0, a1, a2, a3, a4, a5, a6, a7, a8, _, _⟩ := hC.1.1
  have e7 : (if (h 3 13 &&& 1) = 0 then (0 : Int32) else 1) = nI (B.1 7) := by
    rw [a7]
    have : B.1 7 = 0 ∨ B.1 7 = 1 := by omega
    rcases this with e | e <;> rw [e] <;> decide
  have e8 : (if (h 3 14 &&& 1) = 0 then (0 : Int32) else 1) = nI (B.1 8) := by
    rw [a8]
    have : B.1 8 = 0 ∨ B.1 8 = 1 := by omega
    rcases this with e | e <;> rw [e] <;> decide
  refine ⟨fun z => ok 0 (by decide) z _ a0, fun z0 => ⟨fun z => ok 1 (by decide) z _ a1, fun z1 => ⟨fun z => ok 2 (by decide) z _ a2, fun z2 => ⟨fun z => ok 3 (by decide) z _ a3, fun z3 => ⟨fun z => ok 4 (by decide) z _ a4, fun z4 => ⟨fun z => ok 5 (by decide) z _ a5, fun z5 => ⟨fun z => ok 6 (by decide) z _ a6, fun z6 => ⟨fun z => ok 7 (by decide) z _ e7, fun z7 => ⟨fun z => ok 8 (by decide) z _ e8, fun z8 => ⟨fun z => ok 9 (by decide) z _ hR.2.2.1.2.1, fun z9 => ⟨rfl, bad ?_⟩⟩⟩⟩⟩⟩⟩⟩⟩⟩⟩
  rintro ⟨j, _, j2, e⟩
  have : j = 0 ∨ j = 1 ∨ j = 2 ∨ j = 3 ∨ j = 4 ∨ j = 5 ∨ j = 6 ∨ j = 7 ∨ j = 8 ∨ j = 9 := by omega
  rcases this with rfl | rfl | rfl | rfl | rfl | rfl | rfl | rfl | rfl | rfl
  · exact z0 e
  · exact z1 e
  · exact z2 e
  · exact z3 e
  · exact z4 e
  · exact z5 e
  · exact z6 e
  · exact z7 e
  · exact z8 e
  · exact z9 e
theorem cs5 {p1 p2 : Int32} (hR : RA h B tn tl r) (hK : ∀ h', RR h' → K h') : w_L_traveller p1 p2 h (fun v1 h1 => w_X9_traveller p1 p2 h1 (MQQ K v1)) := by
  have a0 := KP.RA (KP.thr (h := h) (v := 0)) hR
  have w0 := hR.1.2.2.1
  unfold w_L_traveller w_X8_traveller
  refine s_needTraveller hR.1 (fun k hk e1 => ?_) (fun hn => Or.inl ⟨rfl, ?_⟩)
  · refine s_needBetween (lo := 0) (hi := 6) q0 q6 (by decide) (by decide) (fun j _ hj e2 => ?_) (fun hn => Or.inr ⟨rfl, ?_⟩)
    · rw [e_trait hR.1 k j e1 e2 (by omega) (by omega)]
      try dsimp only
      rw [wlet_e]
      have a := KP.RA (KP.tr (KP.out KP.rf) KP.thr : KP h (hup (hup h 1457 0 (nI (B.2.2.2 k j))) 92 0 0)) hR
      unfold w_X9_traveller
      try dsimp only
      rw [wlet_e, isWho_t a.2.1 e1 hk, c_not1, bad_f (thr0 _), wif_f (not_not_intro rfl), in_t (p1 := 0) (p2 := 6) (lo := 0) (hi := 6) e2 rfl rfl (Nat.zero_le _) hj (by decide), c_not1, bad_f (thr0 _), wif_t rfl]
      subst e1 e2
      refine ⟨vp_in_nI (by omega) (by decide), vp_in_nI (by omega) (by decide), mq_ok (thr0 _) ?_ (hK _ a.rr)⟩
      rw [nI_clamp (by omega), nI_clamp (by omega), Nat.one_mul, a.2.1.2.2.2.1 k j hk (by omega), hup_ne (by decide), hup_eq]
    · unfold w_X9_traveller
      try dsimp only
      rw [wlet_e, isWho_t a0.2.1 e1 hk, c_not1, bad_f (thr0 _), wif_f (not_not_intro rfl), in_f (p1 := 0) (p2 := 6) (lo := 0) (hi := 6) rfl rfl (by decide) (by decide) hn, c_not0, bad_t (thr0 _) (by decide), wif_f i10]
      exact mq_thr (hup_eq _ _ _ _) (by decide) (hK _ (KP.RR KP.thr a0.rr))
  · unfold w_X9_traveller
    try dsimp only
    rw [wlet_e, isWho_f a0.2.1 hn, c_not0, bad_t (thr0 _) (by decide), wif_t i10]
    exact mq_thr (hup_eq _ _ _ _) (by decide) (hK _ (KP.RR KP.thr a0.rr))
theorem cs6 {p1 p2 : Int32} (hR : RA h B tn tl r) (hK : ∀ h', RR h' → K h') : w_L_day p1 p2 h (fun v1 h1 => w_X9_day p1 p2 h1 (MQQ K v1)) := by
  have a0 := KP.RA (KP.thr (h := h) (v := 0)) hR
  unfold w_L_day w_X8_day
  refine s_needDay (fun d hd e1 => ?_) (fun hn => ⟨rfl, ?_⟩)
  · refine s_needBetween (lo := 0) (hi := 1) q0 q1 (by decide) (by decide) (fun j _ hj e2 => ?_) (fun hn => ⟨rfl, ?_⟩)
    · have hv : ∀ v, v = (if j = 0 then nI (noonS B.2.1 d) else nI (B.2.2.1 d)) → wlet (hup h 1457 0 v) (fun h1 => w_X9_day p1 p2 h1 (MQQ K 0)) := by
        intro v hv
        rw [wlet_e]
        have a := KP.RA (KP.tr (KP.out KP.rf) KP.thr : KP h (hup (hup h 1457 0 v) 92 0 0)) hR
        unfold w_X9_day
        try dsimp only
        rw [wlet_e, isDay_t e1 hd, wif_f i10, in_t (p1 := 0) (p2 := 1) (lo := 0) (hi := 1) e2 rfl rfl (Nat.zero_le _) hj (by decide), c_not1, bad_f (thr0 _), wif_t rfl]
        have h1457 : hup (hup h 1457 0 v) 92 0 0 1457 0 = v := by
          rw [hup_ne (by decide), hup_eq]
        by_cases c : j = 0
        · rw [if_pos c] at hv
          refine wif_n (not_not_intro (by rw [e2, c]; rfl)) (s_noon a.2.1 d e1 hd _ (mq_ok (thr0 _) (by rw [h1457, hv]) (hK _ a.rr)))
        · rw [if_neg c] at hv
          subst e1
          refine wif_p (by rw [e2]; exact nI_ne0 (by omega) (by omega)) ⟨vp_in_nI hd (by decide), mq_ok (thr0 _) ?_ (hK _ a.rr)⟩
          rw [h1457, nI_clamp (by omega), a.2.1.2.2.1 d hd, hv]
      by_cases c : j = 0
      · refine wif_n (not_not_intro (by rw [e2, c]; rfl)) ?_
        rw [e_at (by decide), e1, rd_n hd (by decide), hR.1.2.1 d hd]
        rw [← e1]
        exact hv _ (by rw [if_pos c])
      · refine wif_p (by rw [e2]; exact nI_ne0 (by omega) (by omega)) ?_
        rw [e_at (by decide), e1, rd_n hd (by decide), show h 6 d = nI (B.2.2.1 d) from hR.1.1.2.2.1 d hd]
        rw [← e1]
        exact hv _ (by rw [if_neg c])
    · unfold w_X9_day
      try dsimp only
      rw [wlet_e, isDay_t e1 hd, wif_f i10, in_f (p1 := 0) (p2 := 1) (lo := 0) (hi := 1) rfl rfl (by decide) (by decide) hn, c_not0, bad_t (thr0 _) (by decide), wif_f i10]
      exact mq_thr (hup_eq _ _ _ _) (by decide) (hK _ (KP.RR KP.thr a0.rr))
  · unfold w_X9_day w_X9_day_b22 w_X9_day_b27
    try dsimp only
    rw [wlet_e, isDay_f hn, wif_t rfl, bad_t (thr0 _) (by decide), wif_f i10]
    exact mq_thr (hup_eq _ _ _ _) (by decide) (hK _ (KP.RR KP.thr a0.rr))
theorem cs7 {p1 p2 p3 : Int32} (hR : RA h B tn tl r) (hK : ∀ h', RR h' → K h') : w_L_altitude p1 p2 p3 h (fun v1 h1 => w_X9_altitude p1 p2 p3 h1 (MQQ K v1)) := by
  have a0 := KP.RA (KP.thr (h := h) (v := 0)) hR
  unfold w_L_altitude w_X8_altitude
  refine s_needBridge hR.1 (fun b hb hb2 e1 => ?_) (fun hn => Or.inl ⟨rfl, ?_⟩)
  · refine s_needDay (fun d hd e2 => ?_) (fun hn => Or.inr ⟨rfl, ?_⟩)
    · refine s_needMinute (fun m hm e3 => ?_) (fun hn => Or.inr ⟨rfl, ?_⟩)
      · rw [e_altitudeAt hR.1 b d m e1 e2 e3 hb2 hd hm]
        try dsimp only
        rw [wlet_e]
        have a := KP.RA (KP.tr (KP.out KP.rf) KP.thr : KP h (hup (hup h 1457 0 (nI (altB B b d m))) 92 0 0)) hR
        unfold w_X9_altitude
        try dsimp only
        rw [wlet_e, isBr_t a.2.1 e1 hb, c_not1, bad_f (thr0 _), wif_f (not_not_intro rfl), isDay_t e2 hd, wif_f i10, isMin_t e3 hm, c_not1, bad_f (thr0 _), wif_t rfl]
        refine s_altitudeOf a.2.1 b d m e1 e2 e3 hb2 hd hm _ (mq_ok (thr0 _) ?_ (hK _ a.rr))
        rw [hup_ne (by decide), hup_eq]
      · unfold w_X9_altitude
        try dsimp only
        rw [wlet_e, isBr_t a0.2.1 e1 hb, c_not1, bad_f (thr0 _), wif_f (not_not_intro rfl), isDay_t e2 hd, wif_f i10, isMin_f hn, c_not0, bad_t (thr0 _) (by decide), wif_f i10]
        exact mq_thr (hup_eq _ _ _ _) (by decide) (hK _ (KP.RR KP.thr a0.rr))
    · unfold w_X9_altitude w_X9_altitude_b41 w_X9_altitude_b46
      try dsimp only
      rw [wlet_e, isBr_t a0.2.1 e1 hb, c_not1, bad_f (thr0 _), wif_f (not_not_intro rfl), isDay_f hn, wif_t rfl, bad_t (thr0 _) (by decide), wif_f i10]
      exact mq_thr (hup_eq _ _ _ _) (by decide) (hK _ (KP.RR KP.thr a0.rr))
  · unfold w_X9_altitude
    try dsimp only
    rw [wlet_e, isBr_f a0.2.1 hn, c_not0, bad_t (thr0 _) (by decide), wif_t i10]
    exact mq_thr (hup_eq _ _ _ _) (by decide) (hK _ (KP.RR KP.thr a0.rr))
theorem cs8 {p1 p2 p3 p4 : Int32} (hR : RA h B tn tl r) (hK : ∀ h', RR h' → K h') : w_L_shadow p1 p2 p3 p4 h (fun v1 h1 => w_X9_shadow p1 p2 p3 p4 h1 (MQQ K v1)) := by
  have a0 := KP.RA (KP.thr (h := h) (v := 0)) hR
  unfold w_L_shadow w_X8_shadow
  refine s_needBridge hR.1 (fun b hb hb2 e1 => ?_) (fun hn => Or.inl ⟨rfl, ?_⟩)
  · refine s_needDay (fun d hd e2 => ?_) (fun hn => Or.inr ⟨rfl, ?_⟩)
    · refine s_needMinute (fun m hm e3 => ?_) (fun hn => Or.inr ⟨rfl, ?_⟩)
      · refine s_needBetween (lo := 1) (hi := 999) q1 q999 (by decide) (by decide) (fun j hj1 hj e4 => ?_) (fun hn => Or.inr ⟨rfl, ?_⟩)
        · rw [e_altitudeAt hR.1 b d m e1 e2 e3 hb2 hd hm, e_shadowOf j (altB B b d m) e4 rfl hj (altB_b hR.1.2.2 _ _ _)]
          try dsimp only
          rw [wlet_e]
          have a := KP.RA (KP.tr (KP.out KP.rf) KP.thr : KP h (hup (hup h 1457 0 (nI (shB j (altB B b d m)))) 92 0 0)) hR
          unfold w_X9_shadow
          try dsimp only
          rw [wlet_e, isBr_t a.2.1 e1 hb, c_not1, bad_f (thr0 _), wif_f (not_not_intro rfl), isDay_t e2 hd, wif_f i10, isMin_t e3 hm, wif_f i10, in_t (p1 := 1) (p2 := 999) (lo := 1) (hi := 999) e4 rfl rfl hj1 hj (by decide), c_not1, bad_f (thr0 _), wif_t rfl]
          refine s_shadowOfM a.2.1 b d m j e1 e2 e3 e4 hb2 hd hm hj _ (mq_ok (thr0 _) ?_ (hK _ a.rr))
          rw [hup_ne (by decide), hup_eq]
        · unfold w_X9_shadow
          try dsimp only
          rw [wlet_e, isBr_t a0.2.1 e1 hb, c_not1, bad_f (thr0 _), wif_f (not_not_intro rfl), isDay_t e2 hd, wif_f i10, isMin_t e3 hm, wif_f i10, in_f (p1 := 1) (p2 := 999) (lo := 1) (hi := 999) rfl rfl (by decide) (by decide) hn, c_not0, bad_t (thr0 _) (by decide), wif_f i10]
          exact mq_thr (hup_eq _ _ _ _) (by decide) (hK _ (KP.RR KP.thr a0.rr))
      · unfold w_X9_shadow w_X9_shadow_b53 w_X9_shadow_b58
        try dsimp only
        rw [wlet_e, isBr_t a0.2.1 e1 hb, c_not1, bad_f (thr0 _), wif_f (not_not_intro rfl), isDay_t e2 hd, wif_f i10, isMin_f hn, wif_t rfl, bad_t (thr0 _) (by decide), wif_f i10]
        exact mq_thr (hup_eq _ _ _ _) (by decide) (hK _ (KP.RR KP.thr a0.rr))
    · unfold w_X9_shadow w_X9_shadow_b53 w_X9_shadow_b58
      try dsimp only
      rw [wlet_e, isBr_t a0.2.1 e1 hb, c_not1, bad_f (thr0 _), wif_f (not_not_intro rfl), isDay_f hn, wif_t rfl, bad_t (thr0 _) (by decide), wif_f i10]
      exact mq_thr (hup_eq _ _ _ _) (by decide) (hK _ (KP.RR KP.thr a0.rr))
  · unfold w_X9_shadow
    try dsimp only
    rw [wlet_e, isBr_f a0.2.1 hn, c_not0, bad_t (thr0 _) (by decide), wif_t i10]
    exact mq_thr (hup_eq _ _ _ _) (by decide) (hK _ (KP.RR KP.thr a0.rr))
end F1
