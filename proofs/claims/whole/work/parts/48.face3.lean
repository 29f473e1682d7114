/-! calls over the records -/
theorem RA.rc {h h' : Hp} {B : Br} {tn : Nat} {tl : Nat → List Row} {r r' : Rc} (hR : RA h B tn tl r) (e : ∀ q, kp q → ¬ (62 ≤ q ∧ q ≤ 68) → q ≠ 141 → q ≠ 142 → ¬ (144 ≤ q ∧ q ≤ 214) → h' q = h q) (e92 : ∀ i, (i = 1 ∨ i = 3 ∨ i = 18 ∨ i = 32 ∨ i = 48) → h' 92 i = h 92 i) (hr : RC h' tn r') : RA h' B tn tl r' := by
  obtain ⟨c1, c2, ⟨l1, l2, l3, l4, l5, l6⟩, ⟨tp, t1, t2, t3, t4, t5⟩, _, ⟨ic, i1, i2, i3, i4⟩⟩ := hR
  have k : ∀ q, (q ≤ 15 ∨ q = 18 ∨ q = 19 ∨ q = 22 ∨ q = 23 ∨ q = 26 ∨ q = 27 ∨ q = 34 ∨ (69 ≤ q ∧ q ≤ 90) ∨ (93 ≤ q ∧ q ≤ 138) ∨ (215 ≤ q ∧ q ≤ 218)) → h' q = h q := fun q hq => e q (by unfold kp; omega) (by omega) (by omega) (by omega) (by omega)
  refine ⟨c1.same (k 3 (by omega)) (k 4 (by omega)) (k 5 (by omega)) (k 6 (by omega)) (k 7 (by omega)), c2.same (k 95 (by omega)) (k 97 (by omega)) (k 99 (by omega)) (fun i hi => k _ (by omega)), ⟨l1, ?_, (e92 18 (by decide)).trans l3, fun t ht => ⟨(l4 t ht).1.same ?_ (k _ (by omega)), (l4 t ht).2.same (fun q hq => k q (by omega))⟩, ?_, (e92 48 (by decide)).trans l6⟩, ⟨tp, t1, ?_, (e92 1 (by decide)).trans t3, ?_, ?_⟩, hr, ⟨ic, i1, ?_, (e92 32 (by decide)).trans i3, fun j hj => ?_⟩⟩
  · rw [k 0 (by omega)]; exact l2
  · rw [k (14 + 4 * t) (by omega)]
  · rw [k 34 (by omega)]; exact l5
  · rw [k 1 (by omega)]; exact t2
  · rw [k 2 (by omega), k 93 (by omega)]; exact t4
  · rw [k 1 (by omega), e92 3 (by decide)]; exact t5
  · rw [k 0 (by omega)]; exact i2
  · obtain ⟨r, r1, r2, r3⟩ := i4 j hj
    exact ⟨r, r1, r2.same (fun q q1 q2 => k q (by omega)), r3.same (k _ (by omega))⟩
theorem s_needToll {p : Int32} {tn : Nat} (ht : tn ≤ 4) {h : Hp} {Q : Prop} {Qx : String → Hp → Prop} (ok : ∀ j, j < tn → p = nI j → Q) (bad : ¬ (∃ j, j < tn ∧ p = nI j) → Qx "java/lang/IllegalArgumentException" h) : w_X8_needBetween p 0 (nI tn - 1) h Q Qx := by
  by_cases c : tn = 0
  · subst c
    unfold w_X8_needBetween
    refine ⟨fun _ => bad (by rintro ⟨j, j1, _⟩; omega), fun z => ⟨fun z2 => ?_, fun _ => bad (by rintro ⟨j, j1, _⟩; omega)⟩⟩
    exfalso
    refine z ?_
    have h1 := Int32.le_iff_toInt_le.mp z2
    have h2 : (nI 0 - 1).toInt = -1 := by decide
    refine Int32.lt_iff_toInt_lt.mpr ?_
    have h3 : (0 : Int32).toInt = 0 := by decide
    omega
  · rw [q1, pk_sub (by omega)]
    exact s_needBetween (lo := 0) (hi := tn - 1) q0 rfl (by decide) (by omega) (fun j _ j2 e => ok j (by omega) e) (fun hn => bad (by rintro ⟨j, j1, e⟩; exact hn ⟨j, by omega, by omega, e⟩))
theorem inToll_t {p : Int32} {tn j : Nat} (ht : tn ≤ 4) (hj : j < tn) (e : p = nI j) {h : Hp} (Q : Int32 → Prop) : w_X9_in p 0 (nI tn - 1) h Q = Q 1 := by
  rw [q1, pk_sub (by omega), ← q1, in_t (p1 := 0) (lo := 0) (hi := tn - 1) e rfl rfl (by omega) (by omega) (by omega)]
theorem inToll_f {p : Int32} {tn : Nat} (ht : tn ≤ 4) (hn : ¬ (∃ j, j < tn ∧ p = nI j)) {h : Hp} (Q : Int32 → Prop) : w_X9_in p 0 (nI tn - 1) h Q = Q 0 := by
  rw [e_in, if_neg]
  rintro ⟨a, b⟩
  have h0 : ¬ p < 0 := fun q => by
    have a1 := Int32.lt_iff_toInt_lt.mp q
    have a3 := Int32.le_iff_toInt_le.mp a
    have a2 : (0 : Int32).toInt = 0 := by decide
    omega
  obtain ⟨j, hj, rfl⟩ := nI_of h0
  rw [nI_sub1, ← zI_n] at b
  have := (zI_le (by omega) (by omega)).mp b
  exact hn ⟨j, by omega, rfl⟩
section F4
variable {h : Hp} {B : Br} {tn : Nat} {tl : Nat → List Row} {r : Rc} {K : Hp → Prop}
theorem cs9 {p1 p2 : Int32} (hR : RA h B tn tl r) (hK : ∀ h', RR h' → K h') : w_L_law p1 p2 h (fun v1 h1 => w_X9_law p1 p2 h1 (MQQ K v1)) := by
  have a0 := KP.RA (KP.thr (h := h) (v := 0)) hR
  obtain ⟨l1, l2, l3, _⟩ := hR.2.2.1
  unfold w_L_law w_X8_law
  rw [l2]
  refine s_needBridge hR.1 (fun b hb hb2 e1 => ?_) (fun hn => Or.inl ⟨rfl, ?_⟩)
  · refine s_needToll l1 (fun t ht e2 => ?_) (fun hn => Or.inr ⟨rfl, ?_⟩)
    · have a := KP.RA (KP.tr (KP.out KP.rf) KP.thr : KP h (hup (hup h 1457 0 (nI (tb r b))) 92 0 0)) hR
      obtain ⟨o, ⟨c1, c2, c3, c4, c5, c6, c7⟩, ⟨m1, m2, m3, m4, m5, m6, m7⟩⟩ := hR.2.2.2.2.1
      have e63 : h 63 b = nI (tb r b) := by
        unfold tb
        have : b = 0 ∨ b = 1 := by omega
        rcases this with rfl | rfl
        · exact c3
        · exact c4
      rw [e_at (by decide), e1, rd_n hb2 (by decide), e63, e_put (by decide), wr_n hb2 (by decide)]
      try dsimp only
      rw [wlet_e]
      generalize hg : hup (hup h 63 b p2) 1457 0 (nI (tb r b)) = g
      have go : ∀ q, q ≠ 63 → q ≠ 1457 → g q = h q := fun q q1 q2 => by rw [← hg, hup_ne q2, hup_ne q1]
      have gB : MB (hup g 92 0 0) B := a.2.1.same (by rw [hup_ne (by decide), go 95 (by decide) (by decide), hup_ne (by decide), hup_ne (by decide)]) (by rw [hup_ne (by decide), go 97 (by decide) (by decide), hup_ne (by decide), hup_ne (by decide)]) (by rw [hup_ne (by decide), go 99 (by decide) (by decide), hup_ne (by decide), hup_ne (by decide)]) (fun k hk => by rw [hup_ne (by omega), go _ (by omega) (by omega), hup_ne (by omega), hup_ne (by omega)])
      have g18 : hup g 92 0 0 92 18 = nI tn := by
        rw [hup_o (Or.inr (by decide)), go 92 (by decide) (by decide)]
        exact l3
      unfold w_X9_law
      try dsimp only
      rw [wlet_e, isBr_t gB rfl hb, c_not1, bad_f (thr0 _), wif_f (not_not_intro rfl), g18, inToll_t l1 ht e2, c_not1, bad_f (thr0 _), wif_t rfl]
      have vb : vp_in (nI b) 2 := vp_in_nI hb2 (by decide)
      refine ⟨vb, ?_⟩
      rw [nI_clamp (by omega)]
      try dsimp only
      rw [wlet_e]
      refine ⟨vb, ?_⟩
      rw [wlet_e]
      have g141 : hup g 92 0 0 141 = h 141 := by
        rw [hup_ne (by decide), go 141 (by decide) (by decide)]
      have e141 : hup g 92 0 0 141 b = nI (tb r b) := by
        rw [g141]
        exact (m_toll hR b hb2).1
      rw [e141]
      generalize hf : hup (hup g 92 0 0) 141 b p2 = f
      have fo : ∀ q, q ≠ 63 → q ≠ 1457 → q ≠ 141 → q ≠ 92 → f q = h q := fun q q1 q2 q3 q4 => by rw [← hf, hup_ne q3, hup_ne q4, go q q1 q2]
      have f92 : ∀ i, i ≠ 0 → f 92 i = h 92 i := fun i hi => by rw [← hf, hup_ne (by decide), hup_o (Or.inr hi), go 92 (by decide) (by decide)]
      have f63 : ∀ i, f 63 i = if i = b then p2 else h 63 i := fun i => by
        rw [← hf, hup_ne (by decide), hup_ne (by decide), ← hg, hup_ne (by decide), hup_at]
        simp
      have f141 : ∀ i, f 141 i = if i = b then p2 else h 141 i := fun i => by
        rw [← hf, hup_at, g141]
        simp
      refine mq_ok ?_ ?_ (hK _ ?_)
      · rw [← hf, hup_ne (by decide)]
        exact thr0 g
      · rw [← hf, hup_ne (by decide), hup_ne (by decide), ← hg, hup_eq]
      · refine RA.rr (RA.rc (r' := ((if b = 0 then t else r.1.1, if b = 1 then t else r.1.2.1, r.1.2.2), r.2)) hR (fun q q1 q2 q3 _ _ => fo q (by omega) (by unfold kp at q1; omega) q3 (by unfold kp at q1; omega)) (fun i hi => f92 i (by omega)) ⟨⟨?_, ?_, o.2.2⟩, ⟨?_, ?_, ?_, ?_, ?_, ?_, ?_⟩, ⟨?_, ?_, ?_, ?_, ?_, ?_, ?_⟩⟩)
        · show (if b = 0 then t else r.1.1) < tn ∨ (if b = 0 then t else r.1.1) = 0
          split
          · exact Or.inl ht
          · exact o.1
        · show (if b = 1 then t else r.1.2.1) < tn ∨ (if b = 1 then t else r.1.2.1) = 0
          split
          · exact Or.inl ht
          · exact o.2.1
        · rw [fo 62 (by decide) (by decide) (by decide) (by decide)]; exact c1
        · rw [fo 62 (by decide) (by decide) (by decide) (by decide)]; exact c2
        · show f 63 0 = nI (if b = 0 then t else r.1.1)
          rw [f63]
          by_cases c : b = 0
          · rw [if_pos c.symm, if_pos c]; exact e2
          · rw [if_neg (fun z => c z.symm), if_neg c]; exact c3
        · show f 63 1 = nI (if b = 1 then t else r.1.2.1)
          rw [f63]
          by_cases c : b = 1
          · rw [if_pos c.symm, if_pos c]; exact e2
          · rw [if_neg (fun z => c z.symm), if_neg c]; exact c4
        · show ∀ k, k < r.1.2.2.1 → f 64 k = _ ∧ f 65 k = _
          rw [fo 64 (by decide) (by decide) (by decide) (by decide), fo 65 (by decide) (by decide) (by decide) (by decide)]; exact c5
        · show ∀ d, d < 30 → f 66 d = _
          rw [fo 66 (by decide) (by decide) (by decide) (by decide)]; exact c6
        · show ∀ i, i < r.1.2.2.2 → f 67 i = _ ∧ f 68 i = _
          rw [fo 67 (by decide) (by decide) (by decide) (by decide), fo 68 (by decide) (by decide) (by decide) (by decide)]; exact c7
        · rw [f92 30 (by decide)]; exact m1
        · rw [f92 31 (by decide)]; exact m2
        · show f 141 0 = nI (if b = 0 then t else r.1.1)
          rw [f141]
          by_cases c : b = 0
          · rw [if_pos c.symm, if_pos c]; exact e2
          · rw [if_neg (fun z => c z.symm), if_neg c]; exact m3
        · show f 141 1 = nI (if b = 1 then t else r.1.2.1)
          rw [f141]
          by_cases c : b = 1
          · rw [if_pos c.symm, if_pos c]; exact e2
          · rw [if_neg (fun z => c z.symm), if_neg c]; exact m4
        · intro k hk
          have hk2 : k < r.1.2.2.1 := hk
          have := o.2.2.1
          rw [fo (144 + k) (by omega) (by omega) (by omega) (by omega)]
          exact m5 k hk
        · show ∀ d, d < 30 → f 142 d = _
          rw [fo 142 (by decide) (by decide) (by decide) (by decide)]; exact m6
        · intro i hi
          have hi2 : i < r.1.2.2.2 := hi
          have := o.2.2.2.1
          rw [fo (205 + i) (by omega) (by omega) (by omega) (by omega)]
          exact m7 i hi
    · unfold w_X9_law
      try dsimp only
      rw [wlet_e, isBr_t a0.2.1 e1 hb, c_not1, bad_f (thr0 _), wif_f (not_not_intro rfl), a0.2.2.1.2.2.1, inToll_f l1 hn, c_not0, bad_t (thr0 _) (by decide), wif_f i10]
      exact mq_thr (hup_eq _ _ _ _) (by decide) (hK _ (KP.RR KP.thr a0.rr))
  · unfold w_X9_law
    try dsimp only
    rw [wlet_e, isBr_f a0.2.1 hn, c_not0, bad_t (thr0 _) (by decide), wif_t i10]
    exact mq_thr (hup_eq _ _ _ _) (by decide) (hK _ (KP.RR KP.thr a0.rr))
theorem cs11 {p1 p2 p3 p4 : Int32} (hR : RA h B tn tl r) (hK : ∀ h', RR h' → K h') : w_L_best p1 p2 p3 p4 h (fun v1 h1 => w_X9_best p1 p2 p3 p4 h1 (MQQ K v1)) := by
  have a0 := KP.RA (KP.thr (h := h) (v := 0)) hR
  have w0 := hR.1.2.2.1
  have hw := hR.1.2.2
  unfold w_L_best w_X8_best
  refine s_needBridge hR.1 (fun b hb hb2 e1 => ?_) (fun hn => Or.inl ⟨rfl, ?_⟩)
  · refine s_needTraveller hR.1 (fun k hk e2 => ?_) (fun hn => Or.inr (Or.inl ⟨rfl, ?_⟩))
    · refine s_needDay (fun d hd e3 => ?_) (fun hn => Or.inr (Or.inr ⟨rfl, ?_⟩))
      · refine s_needBetween (lo := 0) (hi := 1) q0 q1 (by decide) (by decide) (fun j _ hj e4 => ?_) (fun hn => Or.inr (Or.inr ⟨rfl, ?_⟩))
        · have hbd : ∀ q, bstD B (rowsOf tn tl (tb r b)) b k d = some q → q.1 ≤ 1439 ∧ B.2.2.2 k 2 ≤ q.1 ∧ q.2 = costM B (rowsOf tn tl (tb r b)) b k d q.1 := fun q hq => by
            unfold bstD at hq
            obtain ⟨x1, x2, x3⟩ := bst_val hq
            have hwk := hw.who k
            have hw3 := hw.2.2.1
            refine ⟨?_, ?_, x3⟩
            · split at x2 <;> split at x2 <;> omega
            · split at x1 <;> omega
          -- what is told in the end
          have model : ∀ v, v = (if j = 0 then (enc (bstD B (rowsOf tn tl (tb r b)) b k d)).1 else match bstD B (rowsOf tn tl (tb r b)) b k d with
              | none => -1
              | some q => nI q.2) → ∀ h1, KP h h1 → wlet (hup h1 1457 0 v) (fun h2 => w_X9_best p1 p2 p3 p4 h2 (MQQ K 0)) := by
            intro v hv h1 k1
            rw [wlet_e]
            have a := KP.RA (KP.tr (KP.out k1) KP.thr : KP h (hup (hup h1 1457 0 v) 92 0 0)) hR
            have fin : ∀ g, mfr (hup (hup h1 1457 0 v) 92 0 0) g → MQQ K 0 v g := fun g hg => mq_ok (by rw [hg 92 (by decide) (by decide)]; exact thr0 _) (by rw [hg 1457 (by decide) (by decide), hup_ne (by decide), hup_eq]) (hK _ (KP.RR (KP_mfr hg) a.rr))
            unfold w_X9_best
            try dsimp only
            rw [wlet_e, isBr_t a.2.1 e1 hb, c_not1, bad_f (thr0 _), wif_f (not_not_intro rfl), isWho_t a.2.1 e2 hk, c_not1, bad_f (thr0 _), wif_f (not_not_intro rfl), isDay_t e3 hd, wif_f i10, in_t (p1 := 0) (p2 := 1) (lo := 0) (hi := 1) e4 rfl rfl (Nat.zero_le _) hj (by decide), c_not1, bad_f (thr0 _), wif_t rfl]
            refine s_bestMinuteM a b k d e1 e2 e3 hb2 hk hd _ (fun g hg => ?_)
            unfold w_X9_best_b99
            by_cases c : j = 0
            · rw [if_pos c] at hv
              refine wif_p (by rw [e4, c]; rfl) ?_
              rw [← hv]
              exact fin g hg
            · rw [if_neg c] at hv
              refine wif_n (by rw [e4]; exact nI_ne0 (by omega) (by omega)) ?_
              cases eb : bstD B (rowsOf tn tl (tb r b)) b k d with
              | none =>
                rw [eb] at hv
                refine wif_n (fun z => z rfl) ?_
                have hv2 : v = -1 := hv
                have h9 := fin g hg
                rw [hv2] at h9
                exact h9
              | some q =>
                rw [eb] at hv
                obtain ⟨x1, x2, x3⟩ := hbd q eb
                refine wif_p (nI_m1 (by omega)) ?_
                have ag := KP.RA (KP_mfr hg) a
                refine s_costOfM ag b k d q.1 e1 e2 e3 rfl rfl hb2 hk hd (by omega) x2 _ (fun g2 hg2 => ?_)
                rw [← x3]
                have hv2 : v = nI q.2 := hv
                have h9 := fin g2 (mfr.tr hg hg2)
                rw [hv2] at h9
                exact h9
          refine s_bestMinute hR b k d e1 e2 e3 hb2 (by omega) hd _ (fun h1 k1 => ?_)
          by_cases c : j = 0
          · refine wif_p (by rw [e4, c]; rfl) (model _ (by rw [if_pos c]) h1 k1)
          · refine wif_n (by rw [e4]; exact nI_ne0 (by omega) (by omega)) ?_
            cases eb : bstD B (rowsOf tn tl (tb r b)) b k d with
            | none => exact wif_n (fun z => z rfl) (model _ (by rw [if_neg c, eb]; rfl) h1 k1)
            | some q =>
              obtain ⟨x1, x2, x3⟩ := hbd q eb
              refine wif_p (nI_m1 (by omega)) ?_
              have a1 := KP.RA k1 hR
              refine s_expense a1 b k d q.1 e1 e2 e3 rfl hb2 (by omega) hd (by omega) x2 _ (fun h2 k2 => ?_)
              rw [← x3]
              exact model _ (by rw [if_neg c, eb]) h2 (KP.tr k1 k2)
        · unfold w_X9_best
          try dsimp only
          rw [wlet_e, isBr_t a0.2.1 e1 hb, c_not1, bad_f (thr0 _), wif_f (not_not_intro rfl), isWho_t a0.2.1 e2 hk, c_not1, bad_f (thr0 _), wif_f (not_not_intro rfl), isDay_t e3 hd, wif_f i10, in_f (p1 := 0) (p2 := 1) (lo := 0) (hi := 1) rfl rfl (by decide) (by decide) hn, c_not0, bad_t (thr0 _) (by decide), wif_f i10]
          exact mq_thr (hup_eq _ _ _ _) (by decide) (hK _ (KP.RR KP.thr a0.rr))
      · unfold w_X9_best w_X9_best_b65 w_X9_best_b70
        try dsimp only
        rw [wlet_e, isBr_t a0.2.1 e1 hb, c_not1, bad_f (thr0 _), wif_f (not_not_intro rfl), isWho_t a0.2.1 e2 hk, c_not1, bad_f (thr0 _), wif_f (not_not_intro rfl), isDay_f hn, wif_t rfl, bad_t (thr0 _) (by decide), wif_f i10]
        exact mq_thr (hup_eq _ _ _ _) (by decide) (hK _ (KP.RR KP.thr a0.rr))
    · unfold w_X9_best
      try dsimp only
      rw [wlet_e, isBr_t a0.2.1 e1 hb, c_not1, bad_f (thr0 _), wif_f (not_not_intro rfl), isWho_f a0.2.1 hn, c_not0, bad_t (thr0 _) (by decide), wif_t i10]
      exact mq_thr (hup_eq _ _ _ _) (by decide) (hK _ (KP.RR KP.thr a0.rr))
  · unfold w_X9_best
    try dsimp only
    rw [wlet_e, isBr_f a0.2.1 hn, c_not0, bad_t (thr0 _) (by decide), wif_t i10]
    exact mq_thr (hup_eq _ _ _ _) (by decide) (hK _ (KP.RR KP.thr a0.rr))
end F4
