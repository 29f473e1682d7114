/-! a crossing, what is written, counts -/
section F7
variable {h : Hp} {B : Br} {tn : Nat} {tl : Nat → List Row} {r : Rc} {K : Hp → Prop}
theorem cs20 {p1 p2 : Int32} (hR : RA h B tn tl r) (hK : ∀ h', RR h' → K h') : w_L_write p1 p2 h (fun v1 h1 => w_X9_write p1 p2 h1 (MQQ K v1)) := by
  have a0 := KP.RA (KP.thr (h := h) (v := 0)) hR
  obtain ⟨o, ⟨c1, c2, c3, c4, c5, c6, c7⟩, ⟨m1, m2, m3, m4, m5, m6, m7⟩⟩ := hR.2.2.2.2.1
  have o3 := o.2.2.1
  have o4 := o.2.2.2.1
  have ep1 : (p2 = -1 ∨ (∃ j, 0 ≤ j ∧ j ≤ 99999 ∧ p2 = nI j)) → w_X9_in p2 (-1) 99999 = fun g Q => Q 1 := by
    intro c
    funext g Q
    rw [e_in]
    congr 1
    rw [if_pos]
    rcases c with c | ⟨j, _, j2, c⟩
    · rw [c]; decide
    · rw [c]
      refine ⟨Int32.le_iff_toInt_le.mpr ?_, ?_⟩
      · rw [nI_toInt (by omega)]
        have h9 : (-1 : Int32).toInt = -1 := by decide
        omega
      · rw [q99999]; exact (nI_leI (by omega) (by decide)).mpr j2
  have ep0 : (¬ (p2 = -1 ∨ (∃ j, 0 ≤ j ∧ j ≤ 99999 ∧ p2 = nI j))) → w_X9_in p2 (-1) 99999 = fun g Q => Q 0 := by
    intro c
    funext g Q
    rw [e_in]
    congr 1
    rw [if_neg]
    rintro ⟨a, b⟩
    apply c
    by_cases h0 : p2 < 0
    · left
      have a1 := Int32.le_iff_toInt_le.mp a
      have a2 := Int32.lt_iff_toInt_lt.mp h0
      have h9 : (-1 : Int32).toInt = -1 := by decide
      have h8 : (0 : Int32).toInt = 0 := by decide
      refine Int32.toInt_inj.mp ?_
      omega
    · right
      obtain ⟨j, hj, rfl⟩ := nI_of h0
      rw [q99999] at b
      exact ⟨j, Nat.zero_le _, (nI_leI hj (by decide)).mp b, rfl⟩
  unfold w_L_write w_X8_write
  refine s_needDay (fun d hd e1 => ?_) (fun hn => ⟨rfl, ?_⟩)
  · have go : (p2 = -1 ∨ (∃ j, 0 ≤ j ∧ j ≤ 99999 ∧ p2 = nI j)) → w_X8_write_b17 p1 p2 h (fun r h1 => wlet (hup h1 1457 0 r) fun h2 => w_X9_write p1 p2 h2 (MQQ K 0)) (fun C h1 => C = "java/lang/IllegalArgumentException" ∧ w_X9_write p1 p2 h1 (MQQ K 1)) := by
      intro hp
      have c6d : h 66 d = r.2.2.2.1 d := c6 d hd
      unfold w_X8_write_b17
      rw [e_at (by decide), e1, rd_n hd (by decide), c6d, e_put (by decide), wr_n hd (by decide)]
      try dsimp only
      rw [wlet_e]
      generalize hg : hup (hup h 66 d p2) 1457 0 (r.2.2.2.1 d) = g
      have go : ∀ q, q ≠ 66 → q ≠ 1457 → g q = h q := fun q q1 q2 => by rw [← hg, hup_ne q2, hup_ne q1]
      unfold w_X9_write
      try dsimp only
      rw [wlet_e, isDay_t rfl hd, wif_f i10, ep1 hp]
      try dsimp only
      rw [c_not1, bad_f (thr0 _), wif_t rfl]
      have vd : vp_in (nI d) 30 := vp_in_nI hd (by decide)
      refine ⟨vd, ?_⟩
      have e142 : hup g 92 0 0 142 d = r.2.2.2.1 d := by
        rw [hup_ne (by decide), go 142 (by decide) (by decide)]
        exact m6 d hd
      rw [nI_clamp (by omega), e142, wlet_e]
      refine ⟨vd, ?_⟩
      rw [wlet_e]
      generalize hf : hup (hup g 92 0 0) 142 d p2 = f
      have fo : ∀ q, q ≠ 66 → q ≠ 1457 → q ≠ 142 → q ≠ 92 → f q = h q := fun q q1 q2 q3 q4 => by rw [← hf, hup_ne q3, hup_ne q4, go q q1 q2]
      have f92 : ∀ i, i ≠ 0 → f 92 i = h 92 i := fun i hi => by rw [← hf, hup_ne (by decide), hup_o (Or.inr hi), go 92 (by decide) (by decide)]
      have f66 : ∀ i, f 66 i = if i = d then p2 else h 66 i := fun i => by
        rw [← hf, hup_ne (by decide), hup_ne (by decide), ← hg, hup_ne (by decide), hup_at]
        simp
      have f142 : ∀ i, f 142 i = if i = d then p2 else h 142 i := fun i => by
        rw [← hf, hup_at, hup_ne (show (142 : Nat) ≠ 92 by decide), go 142 (by decide) (by decide)]
        simp
      refine mq_ok ?_ ?_ (hK _ ?_)
      · rw [← hf, hup_ne (by decide)]
        exact thr0 g
      · rw [← hf, hup_ne (by decide), hup_ne (by decide), ← hg, hup_eq]
      · refine RA.rr (RA.rc (r' := (r.1, r.2.1, r.2.2.1, upd r.2.2.2.1 d p2, r.2.2.2.2)) hR (fun q q1 q2 q3 q4 q5 => fo q (by omega) (by unfold kp at q1; omega) q4 (by unfold kp at q1; omega)) (fun i hi => f92 i (by omega)) ⟨o, ⟨?_, ?_, ?_, ?_, ?_, fun i hi => ?_, ?_⟩, ⟨?_, ?_, ?_, ?_, ?_, fun i hi => ?_, ?_⟩⟩)
        · rw [fo 62 (by decide) (by decide) (by decide) (by decide)]; exact c1
        · rw [fo 62 (by decide) (by decide) (by decide) (by decide)]; exact c2
        · show f 63 0 = _
          rw [fo 63 (by decide) (by decide) (by decide) (by decide)]; exact c3
        · show f 63 1 = _
          rw [fo 63 (by decide) (by decide) (by decide) (by decide)]; exact c4
        · show ∀ k, k < r.1.2.2.1 → f 64 k = _ ∧ f 65 k = _
          rw [fo 64 (by decide) (by decide) (by decide) (by decide), fo 65 (by decide) (by decide) (by decide) (by decide)]; exact c5
        · show f 66 i = upd r.2.2.2.1 d p2 i
          rw [f66]
          unfold upd
          by_cases ei : i = d
          · rw [if_pos ei, if_pos ei]
          · rw [if_neg ei, if_neg ei]; exact c6 i hi
        · show ∀ i, i < r.1.2.2.2 → f 67 i = _ ∧ f 68 i = _
          rw [fo 67 (by decide) (by decide) (by decide) (by decide), fo 68 (by decide) (by decide) (by decide) (by decide)]; exact c7
        · rw [f92 30 (by decide)]; exact m1
        · rw [f92 31 (by decide)]; exact m2
        · rw [fo 141 (by decide) (by decide) (by decide) (by decide)]; exact m3
        · rw [fo 141 (by decide) (by decide) (by decide) (by decide)]; exact m4
        · intro k hk
          have hk2 : k < r.1.2.2.1 := hk
          rw [fo (144 + k) (by omega) (by omega) (by omega) (by omega)]
          exact m5 k hk
        · show f 142 i = upd r.2.2.2.1 d p2 i
          rw [f142]
          unfold upd
          by_cases ei : i = d
          · rw [if_pos ei, if_pos ei]
          · rw [if_neg ei, if_neg ei]; exact m6 i hi
        · intro i hi
          have hi2 : i < r.1.2.2.2 := hi
          rw [fo (205 + i) (by omega) (by omega) (by omega) (by omega)]
          exact m7 i hi
    refine ⟨fun z => go (Or.inl z), fun z => s_needBetween (lo := 0) (hi := 99999) q0 q99999 (by decide) (by decide) (fun j j1 j2 e2 => go (Or.inr ⟨j, j1, j2, e2⟩)) (fun hn => ⟨rfl, ?_⟩)⟩
    unfold w_X9_write
    try dsimp only
    rw [wlet_e, isDay_t e1 hd, wif_f i10, ep0 (fun w => by rcases w with w | w; exact z w; exact hn w)]
    try dsimp only
    rw [c_not0, bad_t (thr0 _) (by decide), wif_f i10]
    exact mq_thr (hup_eq _ _ _ _) (by decide) (hK _ (KP.RR KP.thr a0.rr))
  · unfold w_X9_write w_X9_write_b24 w_X9_write_b29
    try dsimp only
    rw [wlet_e, isDay_f hn, wif_t rfl, bad_t (thr0 _) (by decide), wif_f i10]
    exact mq_thr (hup_eq _ _ _ _) (by decide) (hK _ (KP.RR KP.thr a0.rr))
theorem cs17 {p1 p2 p3 p4 : Int32} (hR : RA h B tn tl r) (hK : ∀ h', RR h' → K h') : w_L_cross p1 p2 p3 p4 h (fun v1 h1 => w_X9_cross p1 p2 p3 p4 h1 (MQQ K v1)) := by
  have a0 := KP.RA (KP.thr (h := h) (v := 0)) hR
  have w0 := hR.1.2.2.1
  have o3 := hR.2.2.2.2.1.1.2.2.1
  have o4 := hR.2.2.2.2.1.1.2.2.2.1
  have cc1 := hR.2.2.2.2.1.2.1.1
  unfold w_L_cross w_X8_cross
  refine s_needBridge hR.1 (fun b hb hb2 e1 => ?_) (fun hn => Or.inl ⟨rfl, ?_⟩)
  · refine s_needTraveller hR.1 (fun k hk e2 => ?_) (fun hn => Or.inr (Or.inl ⟨rfl, ?_⟩))
    · refine s_needDay (fun d hd e3 => ?_) (fun hn => Or.inr (Or.inr ⟨rfl, ?_⟩))
      · refine s_needMinute (fun m hm e4 => ?_) (fun hn => Or.inr (Or.inr ⟨rfl, ?_⟩))
        · rw [cc1]
          by_cases c : r.1.2.2.1 = 60
          · refine wif_n (by rw [c]; decide) ?_
            try dsimp only
            rw [wlet_e]
            have a := KP.RA (KP.tr (KP.out KP.rf) KP.thr : KP h (hup (hup h 1457 0 (-1)) 92 0 0)) hR
            have e30 := a.2.2.2.2.1.2.2.1
            unfold w_X9_cross
            try dsimp only
            rw [wlet_e, isBr_t a.2.1 e1 hb, c_not1, bad_f (thr0 _), wif_f (not_not_intro rfl), isWho_t a.2.1 e2 hk, c_not1, bad_f (thr0 _), wif_f (not_not_intro rfl), isDay_t e3 hd, wif_f i10, isMin_t e4 hm, c_not1, bad_f (thr0 _), wif_t rfl, e30, c]
            exact wif_n (fun z => z rfl) (mq_ok (thr0 _) (by rw [hup_ne (by decide), hup_eq]) (hK _ a.rr))
          refine wif_p (by rw [q60]; exact (nI_ltI (by omega) (by decide)).mpr (by omega)) ?_
          rw [e_isOpen hR.1 m e4 (by omega), e_mayCome hR.1 k m e2 e4 (by omega) (by omega)]
          have none2 : ¬ ((B.1 2 ≤ m ∧ m ≤ B.1 3) ∧ B.2.2.2 k 2 ≤ m ∧ m ≤ B.2.2.2 k 3) → wlet (hup h 1457 0 (-2)) (fun h2 => w_X9_cross p1 p2 p3 p4 h2 (MQQ K 0)) := by
            intro hnc
            rw [wlet_e]
            have a := KP.RA (KP.tr (KP.out KP.rf) KP.thr : KP h (hup (hup h 1457 0 (-2)) 92 0 0)) hR
            have e30 := a.2.2.2.2.1.2.2.1
            unfold w_X9_cross
            try dsimp only
            rw [wlet_e, isBr_t a.2.1 e1 hb, c_not1, bad_f (thr0 _), wif_f (not_not_intro rfl), isWho_t a.2.1 e2 hk, c_not1, bad_f (thr0 _), wif_f (not_not_intro rfl), isDay_t e3 hd, wif_f i10, isMin_t e4 hm, c_not1, bad_f (thr0 _), wif_t rfl, e30]
            refine wif_p (fun z => c ((nI_eq (b := 60) (by omega) (by decide)).mp z)) ?_
            rw [e_canCome a.2.1 k m e2 e4 hk (by omega), if_neg hnc]
            exact wif_n (fun z => z rfl) (mq_ok (thr0 _) (by rw [hup_ne (by decide), hup_eq]) (hK _ a.rr))
          by_cases co : B.1 2 ≤ m ∧ m ≤ B.1 3
          rotate_left
          · rw [if_neg co]
            exact wif_p rfl (none2 (fun z => co z.1))
          rw [if_pos co]
          refine wif_n i10 ?_
          by_cases cm : B.2.2.2 k 2 ≤ m ∧ m ≤ B.2.2.2 k 3
          rotate_left
          · rw [if_neg cm]
            exact wif_n (fun z => z rfl) (none2 (fun z => cm z.2))
          rw [if_pos cm]
          refine wif_p i10 ?_
          refine s_fareF hR b k d m false e1 e2 e3 e4 (by simp) hb2 (by omega) hd hm _ (fun h1 k1 => ?_)
          have a1 := KP.RA k1 hR
          obtain ⟨o, ⟨c1, c2, c3, c4, c5, c6, c7⟩, ⟨m1, m2, m3, m4, m5, m6, m7⟩⟩ := a1.2.2.2.2.1
          generalize hv : nI (fareB B (rowsOf tn tl (tb r b)) b k d m false) = v
          obtain ⟨n, hn⟩ : ∃ n, r.1.2.2.1 = n := ⟨_, rfl⟩
          have t1 : tg 62 1 = 64 := by decide
          have t2 : tg 62 2 = 65 := by decide
          unfold w_X3_addCrossing
          rw [c1, hn, e_put (by decide), wr_n (by omega) (by decide), t1, t2]
          try dsimp only
          rw [hup_ne (by decide), c1, hn, e_put (by decide), wr_n (by omega) (by decide)]
          try dsimp only
          rw [hup_ne (by decide), hup_ne (by decide), c1, hn, nI_1, wlet_e]
          try dsimp only
          rw [wlet_e]
          generalize hg : hup (hup (hup (hup h1 64 n p3) 65 n v) 62 6 (nI (n + 1))) 1457 0 v = g
          have go : ∀ q, q ≠ 64 → q ≠ 65 → q ≠ 62 → q ≠ 1457 → g q = h1 q := fun q q1 q2 q3 q4 => by rw [← hg, hup_ne q4, hup_ne q3, hup_ne q2, hup_ne q1]
          -- the model reads what it read before: its own part stands
          have gB : MB (hup g 92 0 0) B := a1.2.1.same (by rw [hup_ne (by decide), go 95 (by decide) (by decide) (by decide) (by decide)]) (by rw [hup_ne (by decide), go 97 (by decide) (by decide) (by decide) (by decide)]) (by rw [hup_ne (by decide), go 99 (by decide) (by decide) (by decide) (by decide)]) (fun i hi => by rw [hup_ne (by omega), go _ (by omega) (by omega) (by omega) (by omega)])
          have e30 : hup g 92 0 0 92 30 = nI n := by
            rw [hup_o (Or.inr (by decide)), go 92 (by decide) (by decide) (by decide) (by decide), m1, hn]
          unfold w_X9_cross
          try dsimp only
          rw [wlet_e, isBr_t gB e1 hb, c_not1, bad_f (thr0 _), wif_f (not_not_intro rfl), isWho_t gB e2 hk, c_not1, bad_f (thr0 _), wif_f (not_not_intro rfl), isDay_t e3 hd, wif_f i10, isMin_t e4 hm, c_not1, bad_f (thr0 _), wif_t rfl, e30]
          refine wif_p (fun z => c (by rw [hn]; exact (nI_eq (b := 60) (by omega) (by decide)).mp z)) ?_
          rw [e_canCome gB k m e2 e4 hk (by omega), if_pos ⟨co, cm⟩]
          have vn : vp_in (nI n) 60 := vp_in_nI (by omega) (by decide)
          refine wif_p i10 ⟨vn, vl 0 2 (by decide) (by decide), ?_⟩
          rw [wlet_e, nI_clamp (by omega), Nat.one_mul, cl0, cl1]
          generalize hg2 : hup (hup g 92 0 0) (144 + n) 0 p3 = g2
          have g2o : ∀ q, q ≠ 64 → q ≠ 65 → q ≠ 62 → q ≠ 1457 → q ≠ 92 → q ≠ 144 + n → g2 q = h1 q := fun q q1 q2 q3 q4 q5 q6 => by rw [← hg2, hup_ne q6, hup_ne q5, go q q1 q2 q3 q4]
          have g292 : ∀ i, i ≠ 0 → g2 92 i = h1 92 i := fun i hi => by rw [← hg2, hup_ne (by omega), hup_o (Or.inr hi), go 92 (by decide) (by decide) (by decide) (by decide)]
          rw [g292 30 (by decide), m1, hn]
          refine ⟨vn, ?_⟩
          have g2B : MB g2 B := a1.2.1.same (g2o 95 (by decide) (by decide) (by decide) (by decide) (by decide) (by omega)) (g2o 97 (by decide) (by decide) (by decide) (by decide) (by decide) (by omega)) (g2o 99 (by decide) (by decide) (by decide) (by decide) (by decide) (by omega)) (fun i hi => g2o _ (by omega) (by omega) (by omega) (by omega) (by omega) (by omega))
          have hmr : MR g2 (tb r b) (rowsOf tn tl (tb r b)) := (m_toll a1 b hb2).2.same ⟨g292 48 (by decide), g292 49 (by decide), g292 18 (by decide)⟩ (fun q x1 x2 => g2o q (by omega) (by omega) (by omega) (by omega) (by omega) (by omega))
          have h141 : g2 141 b = nI (tb r b) := by
            rw [g2o 141 (by decide) (by decide) (by decide) (by decide) (by decide) (by omega)]
            exact (m_toll a1 b hb2).1
          have htb := tb_b hR b
          have hl1 := hR.2.2.1.1
          refine s_coinsOf g2B hmr b k d m false (by omega) e1 e2 e3 e4 (by simp) h141 hb2 hk hd hm _ (fun g3 f3 => ?_)
          rw [hv, nI_clamp (by omega), Nat.one_mul]
          refine ⟨vl 1 2 (by decide) (by decide), ?_⟩
          rw [wlet_e]
          have e30c : hup g3 (144 + n) 1 v 92 30 = nI n := by
            rw [hup_ne (by omega), f3 92 (by decide) (by decide), g292 30 (by decide), m1, hn]
          rw [e30c, nI_1, wlet_e, hup_eq, nI_pred]
          refine ⟨vn, vl 1 2 (by decide) (by decide), ?_⟩
          rw [nI_clamp (by omega), Nat.one_mul]
          generalize hf : hup (hup g3 (144 + n) 1 v) 92 30 (nI (n + 1)) = f
          have fo : ∀ q, q ≠ 64 → q ≠ 65 → q ≠ 62 → q ≠ 1457 → q ≠ 92 → q ≠ 144 + n → q ≠ 139 → q ≠ 140 → f q = h1 q := fun q q1 q2 q3 q4 q5 q6 q7 q8 => by rw [← hf, hup_ne q5, hup_ne q6, f3 q q7 q8, g2o q q1 q2 q3 q4 q5 q6]
          have fg : ∀ q, q ≠ 92 → q ≠ 144 + n → q ≠ 139 → q ≠ 140 → f q = g q := fun q q5 q6 q7 q8 => by rw [← hf, hup_ne q5, hup_ne q6, f3 q q7 q8, ← hg2, hup_ne q6, hup_ne q5]
          have f92 : ∀ i, i ≠ 0 → i ≠ 30 → f 92 i = h1 92 i := fun i i1 i2 => by rw [← hf, hup_o (Or.inr i2), hup_ne (by omega), f3 92 (by decide) (by decide), g292 i i1]
          have ev : f (144 + n) 1 = v := by
            rw [← hf, hup_ne (by omega), hup_eq]
          rw [ev]
          have f64 : ∀ i, f 64 i = if i = n then p3 else h1 64 i := fun i => by rw [fg 64 (by decide) (by omega) (by decide) (by decide), ← hg, hup_ne (by decide), hup_ne (by decide), hup_ne (by decide), hup_at]; simp
          have f65 : ∀ i, f 65 i = if i = n then v else h1 65 i := fun i => by rw [fg 65 (by decide) (by omega) (by decide) (by decide), ← hg, hup_ne (by decide), hup_ne (by decide), hup_at, hup_ne (show (65 : Nat) ≠ 64 by decide)]; simp
          refine mq_ok ?_ ?_ (hK _ ?_)
          · rw [← hf, hup_o (Or.inr (by decide)), hup_ne (by omega), f3 92 (by decide) (by decide), ← hg2, hup_ne (by omega)]
            exact thr0 g
          · rw [fg 1457 (by decide) (by omega) (by decide) (by decide), ← hg, hup_eq]
          · refine RA.rr (RA.rc (r' := ((r.1.1, r.1.2.1, n + 1, r.1.2.2.2), upd r.2.1 n p3, upd r.2.2.1 n v, r.2.2.2)) a1 (fun q q1 q2 q3 q4 q5 => fo q (by omega) (by omega) (by omega) (by unfold kp at q1; omega) (by unfold kp at q1; omega) (by omega) (by unfold kp at q1; omega) (by unfold kp at q1; omega)) (fun i hi => f92 i (by omega) (by omega)) ⟨⟨o.1, o.2.1, by show n + 1 ≤ 60; omega, o.2.2.2⟩, ⟨?_, ?_, ?_, ?_, fun i hi => ?_, ?_, ?_⟩, ⟨?_, ?_, ?_, ?_, fun i hi => ?_, ?_, ?_⟩⟩)
            · rw [fg 62 (by decide) (by omega) (by decide) (by decide), ← hg, hup_ne (by decide), hup_eq]
            · rw [fg 62 (by decide) (by omega) (by decide) (by decide), ← hg, hup_ne (by decide), hup_o (Or.inr (by decide)), hup_ne (by decide), hup_ne (by decide)]; exact c2
            · show f 63 0 = _
              rw [fo 63 (by decide) (by decide) (by decide) (by decide) (by decide) (by omega) (by decide) (by decide)]; exact c3
            · show f 63 1 = _
              rw [fo 63 (by decide) (by decide) (by decide) (by decide) (by decide) (by omega) (by decide) (by decide)]; exact c4
            · have hi2 : i < n + 1 := hi
              show f 64 i = upd r.2.1 n p3 i ∧ f 65 i = upd r.2.2.1 n v i
              rw [f64, f65]
              unfold upd
              by_cases ei : i = n
              · rw [if_pos ei, if_pos ei, if_pos ei, if_pos ei]
                exact ⟨rfl, rfl⟩
              · rw [if_neg ei, if_neg ei, if_neg ei, if_neg ei]
                exact c5 i (by omega)
            · show ∀ d, d < 30 → f 66 d = _
              rw [fo 66 (by decide) (by decide) (by decide) (by decide) (by decide) (by omega) (by decide) (by decide)]; exact c6
            · show ∀ i, i < r.1.2.2.2 → f 67 i = _ ∧ f 68 i = _
              rw [fo 67 (by decide) (by decide) (by decide) (by decide) (by decide) (by omega) (by decide) (by decide), fo 68 (by decide) (by decide) (by decide) (by decide) (by decide) (by omega) (by decide) (by decide)]; exact c7
            · rw [← hf, hup_eq]
            · rw [f92 31 (by decide) (by decide)]; exact m2
            · rw [fo 141 (by decide) (by decide) (by decide) (by decide) (by decide) (by omega) (by decide) (by decide)]; exact m3
            · rw [fo 141 (by decide) (by decide) (by decide) (by decide) (by decide) (by omega) (by decide) (by decide)]; exact m4
            · have hi2 : i < n + 1 := hi
              show f (144 + i) 0 = upd r.2.1 n p3 i ∧ f (144 + i) 1 = upd r.2.2.1 n v i
              unfold upd
              by_cases ei : i = n
              · subst ei
                rw [if_pos rfl, if_pos rfl, ev, ← hf, hup_ne (by omega), hup_o (Or.inr (by decide)), f3 _ (by omega) (by omega), ← hg2, hup_eq]
                exact ⟨rfl, rfl⟩
              · rw [if_neg ei, if_neg ei, fo (144 + i) (by omega) (by omega) (by omega) (by omega) (by omega) (by omega) (by omega) (by omega)]
                exact m5 i (by omega)
            · rw [fo 142 (by decide) (by decide) (by decide) (by decide) (by decide) (by omega) (by decide) (by decide)]; exact m6
            · intro i hi
              have hi2 : i < r.1.2.2.2 := hi
              rw [fo (205 + i) (by omega) (by omega) (by omega) (by omega) (by omega) (by omega) (by omega) (by omega)]
              exact m7 i hi
        · unfold w_X9_cross
          try dsimp only
          rw [wlet_e, isBr_t a0.2.1 e1 hb, c_not1, bad_f (thr0 _), wif_f (not_not_intro rfl), isWho_t a0.2.1 e2 hk, c_not1, bad_f (thr0 _), wif_f (not_not_intro rfl), isDay_t e3 hd, wif_f i10, isMin_f hn, c_not0, bad_t (thr0 _) (by decide), wif_f i10]
          exact mq_thr (hup_eq _ _ _ _) (by decide) (hK _ (KP.RR KP.thr a0.rr))
      · unfold w_X9_cross w_X9_cross_b63 w_X9_cross_b68
        try dsimp only
        rw [wlet_e, isBr_t a0.2.1 e1 hb, c_not1, bad_f (thr0 _), wif_f (not_not_intro rfl), isWho_t a0.2.1 e2 hk, c_not1, bad_f (thr0 _), wif_f (not_not_intro rfl), isDay_f hn, wif_t rfl, bad_t (thr0 _) (by decide), wif_f i10]
        exact mq_thr (hup_eq _ _ _ _) (by decide) (hK _ (KP.RR KP.thr a0.rr))
    · unfold w_X9_cross
      try dsimp only
      rw [wlet_e, isBr_t a0.2.1 e1 hb, c_not1, bad_f (thr0 _), wif_f (not_not_intro rfl), isWho_f a0.2.1 hn, c_not0, bad_t (thr0 _) (by decide), wif_t i10]
      exact mq_thr (hup_eq _ _ _ _) (by decide) (hK _ (KP.RR KP.thr a0.rr))
  · unfold w_X9_cross
    try dsimp only
    rw [wlet_e, isBr_f a0.2.1 hn, c_not0, bad_t (thr0 _) (by decide), wif_t i10]
    exact mq_thr (hup_eq _ _ _ _) (by decide) (hK _ (KP.RR KP.thr a0.rr))
def dwr (r : Rc) : Nat → Nat
  | 0 => 0
  | n + 1 => if r.2.2.2.1 n = -1 then dwr r n else dwr r n + 1
theorem dwr_b (r : Rc) : ∀ n, dwr r n ≤ n
  | 0 => Nat.le_refl _
  | n + 1 => by
    have := dwr_b r n
    unfold dwr
    split <;> omega
theorem cs33 {p1 : Int32} (hR : RA h B tn tl r) (hK : ∀ h', RR h' → K h') : w_X8_count p1 h (fun v1 => w_X9_count p1 h (fun v2 h2 => v1 = v2 ∧ K h2)) := by
  have a := KP.RA (KP.thr (h := h) (v := 0)) hR
  obtain ⟨o, ⟨c1, c2, c3, c4, c5, c6, c7⟩, _⟩ := hR.2.2.2.2.1
  obtain ⟨_, _, ⟨m1, m2, m3, m4, m5, m6, m7⟩⟩ := a.2.2.2.2.1
  obtain ⟨tp, _, t2, t3, _, _⟩ := hR.2.2.2.1
  obtain ⟨ic, _, i2, i3, _⟩ := hR.2.2.2.2.2
  obtain ⟨tp', _, t2', t3', _, _⟩ := a.2.2.2.1
  obtain ⟨ic', _, i2', i3', _⟩ := a.2.2.2.2.2
  have t66 : tg 62 3 = 66 := by decide
  have model : ∀ v, (v = (if p1 = 0 then h 62 6 else if p1 = 1 then h 62 7 else if p1 = 2 then nI (dwr r 30) else if p1 = 3 then h 0 15 else if p1 = 4 then h 1 1 else -1)) → w_X9_count p1 h (fun v2 h2 => v = v2 ∧ K h2) := by
    intro v hv
    unfold w_X9_count
    rw [wlet_e]
    unfold w_X9_count_b9
    refine wl_run 30 (fun n (st : Int32 × Int32) => st.2 = nI n ∧ st.1 = nI (dwr r n)) ?_ (Nat.zero_le _) ⟨rfl, rfl⟩
    rintro n ⟨v2, v3⟩ K2 hn ⟨e3, e2⟩ hK2
    simp only at e2 e3
    subst e2 e3
    show w_X9_count_l9 p1 _ _ K2 _ (nI n)
    unfold w_X9_count_l9
    rw [q30]
    refine ⟨fun z => ?_, fun z => ?_⟩
    · have : n = 30 := by
        have := (nI_leI (by omega) (by omega)).mp z
        omega
      subst this
      have hk := hK _ a.rr
      have x1 : h 1 1 = hup h 92 0 0 92 1 := by rw [hup_o (Or.inr (by decide)), t2, t3]
      have x2 : h 0 15 = hup h 92 0 0 92 32 := by rw [hup_o (Or.inr (by decide)), i2, i3]
      rw [hv]
      refine ⟨fun z0 => ⟨by rw [if_pos z0, c1, m1], hk⟩, fun z0 => ⟨fun z1 => ⟨by rw [if_neg z0, if_pos z1, c2, m2], hk⟩, fun z1 => ⟨fun z2 => ⟨by rw [if_neg z0, if_neg z1, if_pos z2], hk⟩, fun z2 => ⟨fun z3 => ⟨by rw [if_neg z0, if_neg z1, if_neg z2, if_pos z3, x2], hk⟩, fun z3 => ⟨fun z4 => ⟨by rw [if_neg z0, if_neg z1, if_neg z2, if_neg z3, if_pos z4, x1], hk⟩, fun z4 => ⟨by rw [if_neg z0, if_neg z1, if_neg z2, if_neg z3, if_neg z4], hk⟩⟩⟩⟩⟩⟩
    have hn30 : n < 30 := Nat.lt_of_not_le fun q => z ((nI_leI (by omega) (by omega)).mpr q)
    refine ⟨vp_in_nI hn30 (by decide), ?_⟩
    rw [nI_clamp (by omega), m6 n hn30, wlet_e, nI_1]
    refine hK2 hn30 _ ⟨rfl, ?_⟩
    show nI (dwr r n) + _ = nI (if r.2.2.2.1 n = -1 then dwr r n else dwr r n + 1)
    by_cases c : r.2.2.2.1 n = -1
    · rw [if_neg (not_not_intro c), if_pos c, Int32.add_zero]
    · rw [if_pos c, if_neg c, nI_1]
  unfold w_X8_count
  refine ⟨fun z0 => model _ (by rw [if_pos z0]), fun z0 => ⟨fun z1 => model _ (by rw [if_neg z0, if_pos z1]), fun z1 => ⟨fun z2 => ?_, fun z2 => ⟨fun z3 => model _ (by rw [if_neg z0, if_neg z1, if_neg z2, if_pos z3]), fun z3 => ⟨fun z4 => model _ (by rw [if_neg z0, if_neg z1, if_neg z2, if_neg z3, if_pos z4]), fun z4 => model _ (by rw [if_neg z0, if_neg z1, if_neg z2, if_neg z3, if_neg z4])⟩⟩⟩⟩⟩
  unfold w_X3_daysWritten w_X3_daysWritten_b4
  refine wl_run 30 (fun n (st : Int32 × Int32) => st.2 = nI n ∧ st.1 = nI (dwr r n)) ?_ (Nat.zero_le _) ⟨rfl, rfl⟩
  rintro n ⟨v1, v2⟩ K2 hn ⟨e2, e1⟩ hK2
  simp only at e1 e2
  subst e1 e2
  show w_X3_daysWritten_l4 62 h _ K2 _ (nI n)
  unfold w_X3_daysWritten_l4 w_X3_daysWritten_b25
  rw [q30]
  refine ⟨fun z => ?_, fun z => ?_⟩
  · have : n = 30 := by
      have := (nI_leI (by omega) (by omega)).mp z
      omega
    subst this
    exact model _ (by rw [if_neg z0, if_neg z1, if_pos z2])
  have hn30 : n < 30 := Nat.lt_of_not_le fun q => z ((nI_leI (by omega) (by omega)).mpr q)
  have c6n : h 66 n = r.2.2.2.1 n := c6 n hn30
  rw [e_at (by decide), t66, rd_n hn30 (by decide), c6n, nI_1 n, nI_1 (dwr r n)]
  refine ⟨fun c => hK2 hn30 _ ⟨rfl, ?_⟩, fun c => hK2 hn30 _ ⟨rfl, ?_⟩⟩
  · show nI (dwr r n) = nI (if r.2.2.2.1 n = -1 then dwr r n else dwr r n + 1)
    rw [if_pos c]
  · show nI (dwr r n + 1) = nI (if r.2.2.2.1 n = -1 then dwr r n else dwr r n + 1)
    rw [if_neg c]
end F7
