/-! crossings, books, the ledger, counts: what changes -/
section F6
variable {h : Hp} {B : Br} {tn : Nat} {tl : Nat → List Row} {r : Rc} {K : Hp → Prop}
theorem cs18 (hR : RA h B tn tl r) (hK : ∀ h', RR h' → K h') : w_X8_undo h (fun v1 h1 => w_X9_undo h1 (fun v2 h2 => v1 = v2 ∧ K h2)) := by
  obtain ⟨o, ⟨c1, c2, c3, c4, c5, c6, c7⟩, ⟨m1, m2, m3, m4, m5, m6, m7⟩⟩ := hR.2.2.2.2.1
  have o3 := o.2.2.1
  unfold w_X8_undo w_X9_undo
  rw [c1]
  by_cases c : r.1.2.2.1 = 0
  · refine wif_n (by rw [c]; decide) ?_
    try dsimp only
    rw [wlet_e, hup_o (Or.inr (by decide)), m1, c]
    exact wif_n (fun z => z rfl) ⟨rfl, hK _ (KP.RR KP.thr hR.rr)⟩
  · refine wif_p (by rw [q0]; exact (nI_ltI (by decide) (by omega)).mpr (by omega)) ?_
    obtain ⟨n, hn⟩ : ∃ n, r.1.2.2.1 = n + 1 := ⟨r.1.2.2.1 - 1, by omega⟩
    rw [hn, nI_pred]
    try dsimp only
    rw [wlet_e, hup_eq, e_at (by decide), rd_n (by omega) (by decide), hup_ne (by decide), wlet_e]
    have hd := c5 n (by omega)
    have md := m5 n (by omega)
    have e65 : h 65 n = r.2.2.1 n := hd.2
    have e92 : hup (hup h 62 6 (nI n)) 92 0 0 92 30 = nI (n + 1) := by
      rw [hup_o (Or.inr (by decide)), hup_ne (by decide), m1, hn]
    rw [e65, e92]
    refine wif_p (nI_ne0 (by omega) (by omega)) ?_
    rw [nI_pred, wlet_e, hup_eq]
    refine ⟨vp_in_nI (by omega) (by decide), vl 1 2 (by decide) (by decide), ?_, hK _ ?_⟩
    · rw [nI_clamp (by omega), Nat.one_mul, cl1, hup_ne (by omega), hup_ne (by omega), hup_ne (by omega)]
      exact md.2.symm
    · generalize hf : hup (hup (hup h 62 6 (nI n)) 92 0 0) 92 30 (nI n) = f
      have fo : ∀ q, q ≠ 62 → q ≠ 92 → f q = h q := fun q q1 q2 => by rw [← hf, hup_ne q2, hup_ne q2, hup_ne q1]
      have f92 : ∀ i, i ≠ 0 → i ≠ 30 → f 92 i = h 92 i := fun i i1 i2 => by rw [← hf, hup_o (Or.inr i2), hup_o (Or.inr i1), hup_ne (by decide)]
      have f62 : ∀ i, i ≠ 6 → f 62 i = h 62 i := fun i i1 => by rw [← hf, hup_ne (by decide), hup_ne (by decide), hup_o (Or.inr i1)]
      refine RA.rr (RA.rc (r' := ((r.1.1, r.1.2.1, n, r.1.2.2.2), r.2)) hR (fun q q1 q2 _ _ _ => fo q (by omega) (by unfold kp at q1; omega)) (fun i hi => f92 i (by omega) (by omega)) ⟨⟨o.1, o.2.1, by show n ≤ 60; omega, o.2.2.2⟩, ⟨?_, ?_, ?_, ?_, ?_, ?_, ?_⟩, ⟨?_, ?_, ?_, ?_, ?_, ?_, ?_⟩⟩)
      · rw [← hf, hup_ne (by decide), hup_ne (by decide), hup_eq]
      · rw [f62 7 (by decide)]; exact c2
      · show f 63 0 = _
        rw [fo 63 (by decide) (by decide)]; exact c3
      · show f 63 1 = _
        rw [fo 63 (by decide) (by decide)]; exact c4
      · intro k hk
        have hk2 : k < n := hk
        show f 64 k = _ ∧ f 65 k = _
        rw [fo 64 (by decide) (by decide), fo 65 (by decide) (by decide)]; exact c5 k (by omega)
      · show ∀ d, d < 30 → f 66 d = _
        rw [fo 66 (by decide) (by decide)]; exact c6
      · show ∀ i, i < r.1.2.2.2 → f 67 i = _ ∧ f 68 i = _
        rw [fo 67 (by decide) (by decide), fo 68 (by decide) (by decide)]; exact c7
      · rw [← hf, hup_eq]
      · rw [f92 31 (by decide) (by decide)]; exact m2
      · rw [fo 141 (by decide) (by decide)]; exact m3
      · rw [fo 141 (by decide) (by decide)]; exact m4
      · intro k hk
        have hk2 : k < n := hk
        rw [fo (144 + k) (by omega) (by omega)]
        exact m5 k (by omega)
      · rw [fo 142 (by decide) (by decide)]; exact m6
      · intro i hi
        have hi2 : i < r.1.2.2.2 := hi
        have := o.2.2.2.1
        rw [fo (205 + i) (by omega) (by omega)]
        exact m7 i hi
theorem cs26 (hR : RA h B tn tl r) (hK : ∀ h', RR h' → K h') : w_X8_forget h (fun v1 h1 => w_X9_forget h1 (fun v2 h2 => v1 = v2 ∧ K h2)) := by
  obtain ⟨o, ⟨c1, c2, c3, c4, c5, c6, c7⟩, ⟨m1, m2, m3, m4, m5, m6, m7⟩⟩ := hR.2.2.2.2.1
  have o3 := o.2.2.1
  unfold w_X8_forget w_X9_forget
  rw [c2, wlet_e, wlet_e]
  try dsimp only
  rw [wlet_e]
  have e92 : hup (hup h 62 7 0) 92 0 0 92 31 = nI r.1.2.2.2 := by
    rw [hup_o (Or.inr (by decide)), hup_ne (by decide), m2]
  rw [e92, wlet_e, wlet_e]
  refine ⟨rfl, hK _ ?_⟩
  generalize hf : hup (hup (hup h 62 7 0) 92 0 0) 92 31 0 = f
  have fo : ∀ q, q ≠ 62 → q ≠ 92 → f q = h q := fun q q1 q2 => by rw [← hf, hup_ne q2, hup_ne q2, hup_ne q1]
  have f92 : ∀ i, i ≠ 0 → i ≠ 31 → f 92 i = h 92 i := fun i i1 i2 => by rw [← hf, hup_o (Or.inr i2), hup_o (Or.inr i1), hup_ne (by decide)]
  have f62 : ∀ i, i ≠ 7 → f 62 i = h 62 i := fun i i1 => by rw [← hf, hup_ne (by decide), hup_ne (by decide), hup_o (Or.inr i1)]
  refine RA.rr (RA.rc (r' := ((r.1.1, r.1.2.1, r.1.2.2.1, 0), r.2)) hR (fun q q1 q2 _ _ _ => fo q (by omega) (by unfold kp at q1; omega)) (fun i hi => f92 i (by omega) (by omega)) ⟨⟨o.1, o.2.1, o.2.2.1, by show 0 ≤ 10; omega, fun i hi => absurd hi (Nat.not_lt_zero i)⟩, ⟨?_, ?_, ?_, ?_, ?_, ?_, fun i hi => absurd hi (Nat.not_lt_zero i)⟩, ⟨?_, ?_, ?_, ?_, ?_, ?_, fun i hi => absurd hi (Nat.not_lt_zero i)⟩⟩)
  · rw [f62 6 (by decide)]; exact c1
  · rw [← hf, hup_ne (by decide), hup_ne (by decide), hup_eq]; rfl
  · show f 63 0 = _
    rw [fo 63 (by decide) (by decide)]; exact c3
  · show f 63 1 = _
    rw [fo 63 (by decide) (by decide)]; exact c4
  · show ∀ k, k < r.1.2.2.1 → f 64 k = _ ∧ f 65 k = _
    rw [fo 64 (by decide) (by decide), fo 65 (by decide) (by decide)]; exact c5
  · show ∀ d, d < 30 → f 66 d = _
    rw [fo 66 (by decide) (by decide)]; exact c6
  · rw [f92 30 (by decide) (by decide)]; exact m1
  · rw [← hf, hup_eq]; rfl
  · rw [fo 141 (by decide) (by decide)]; exact m3
  · rw [fo 141 (by decide) (by decide)]; exact m4
  · intro k hk
    have hk2 : k < r.1.2.2.1 := hk
    rw [fo (144 + k) (by omega) (by omega)]
    exact m5 k hk
  · rw [fo 142 (by decide) (by decide)]; exact m6
theorem cs25 {p1 p2 : Int32} (hR : RA h B tn tl r) (hK : ∀ h', RR h' → K h') : w_L_ledger p1 p2 h (fun v1 h1 => w_X9_ledger p1 p2 h1 (MQQ K v1)) := by
  have a0 := KP.RA (KP.thr (h := h) (v := 0)) hR
  obtain ⟨o, ⟨c1, c2, c3, c4, c5, c6, c7⟩, ⟨m1, m2, m3, m4, m5, m6, m7⟩⟩ := hR.2.2.2.2.1
  have o3 := o.2.2.1
  have o4 := o.2.2.2.1
  unfold w_L_ledger w_X8_ledger
  refine s_needMinute (fun m hm e1 => ?_) (fun hn => ⟨rfl, ?_⟩)
  · refine s_needBetween (lo := 0) (hi := 9999) q0 q9999 (by decide) (by decide) (fun j _ hj e2 => ?_) (fun hn => ⟨rfl, ?_⟩)
    · rw [c2]
      by_cases c : r.1.2.2.2 = 10
      · refine wif_n (by rw [c]; decide) ?_
        try dsimp only
        rw [wlet_e]
        have a := KP.RA (KP.tr (KP.out KP.rf) KP.thr : KP h (hup (hup h 1457 0 (-1)) 92 0 0)) hR
        have e31 := a.2.2.2.2.1.2.2.2.1
        unfold w_X9_ledger
        try dsimp only
        rw [wlet_e, isMin_t e1 hm, wif_f i10, in_t (p1 := 0) (p2 := 9999) (lo := 0) (hi := 9999) e2 rfl rfl (Nat.zero_le _) hj (by decide), c_not1, bad_f (thr0 _), wif_t rfl, e31, c]
        exact wif_n (fun z => z rfl) (mq_ok (thr0 _) (by rw [hup_ne (by decide), hup_eq]) (hK _ a.rr))
      · refine wif_p (by rw [q10]; exact (nI_ltI (by omega) (by decide)).mpr (by omega)) ?_
        obtain ⟨n, hn⟩ : ∃ n, r.1.2.2.2 = n := ⟨_, rfl⟩
        have t4 : tg 62 4 = 67 := by decide
        have t5 : tg 62 5 = 68 := by decide
        unfold w_X3_addLedgerRow
        rw [c2, hn, e_put (by decide), wr_n (by omega) (by decide), t4, t5]
        try dsimp only
        rw [hup_ne (by decide), c2, hn, e_put (by decide), wr_n (by omega) (by decide)]
        try dsimp only
        rw [hup_ne (by decide), hup_ne (by decide), c2, hn, nI_1, wlet_e, hup_eq]
        try dsimp only
        rw [wlet_e]
        generalize hg : hup (hup (hup (hup h 67 n p1) 68 n p2) 62 7 (nI (n + 1))) 1457 0 (nI (n + 1)) = g
        have go : ∀ q, q ≠ 67 → q ≠ 68 → q ≠ 62 → q ≠ 1457 → g q = h q := fun q q1 q2 q3 q4 => by rw [← hg, hup_ne q4, hup_ne q3, hup_ne q2, hup_ne q1]
        unfold w_X9_ledger
        try dsimp only
        rw [wlet_e, isMin_t e1 hm, wif_f i10, in_t (p1 := 0) (p2 := 9999) (lo := 0) (hi := 9999) e2 rfl rfl (Nat.zero_le _) hj (by decide), c_not1, bad_f (thr0 _), wif_t rfl]
        have e31 : hup g 92 0 0 92 31 = nI n := by
          rw [hup_o (Or.inr (by decide)), go 92 (by decide) (by decide) (by decide) (by decide), m2, hn]
        have vn : vp_in (nI n) 10 := vp_in_nI (by omega) (by decide)
        rw [e31]
        refine wif_p (fun z => c (by rw [hn]; exact (nI_eq (b := 10) (by omega) (by decide)).mp z)) ⟨vn, vl 0 2 (by decide) (by decide), ?_⟩
        rw [wlet_e, nI_clamp (by omega), Nat.one_mul, cl0, cl1, hup_ne (show (92 : Nat) ≠ 205 + n by omega), e31]
        refine ⟨vn, vl 1 2 (by decide) (by decide), ?_⟩
        rw [wlet_e, nI_clamp (by omega), Nat.one_mul]
        have e31b : hup (hup (hup g 92 0 0) (205 + n) 0 p1) (205 + n) 1 p2 92 31 = nI n := by
          rw [hup_ne (by omega), hup_ne (by omega), e31]
        rw [e31b, nI_1, wlet_e, hup_eq]
        generalize hf : hup (hup (hup (hup g 92 0 0) (205 + n) 0 p1) (205 + n) 1 p2) 92 31 (nI (n + 1)) = f
        have fo : ∀ q, q ≠ 67 → q ≠ 68 → q ≠ 62 → q ≠ 1457 → q ≠ 92 → q ≠ 205 + n → f q = h q := fun q q1 q2 q3 q4 q5 q6 => by rw [← hf, hup_ne q5, hup_ne q6, hup_ne q6, hup_ne q5, go q q1 q2 q3 q4]
        have fg : ∀ q, q ≠ 92 → q ≠ 205 + n → f q = g q := fun q q5 q6 => by rw [← hf, hup_ne q5, hup_ne q6, hup_ne q6, hup_ne q5]
        have f92 : ∀ i, i ≠ 0 → i ≠ 31 → f 92 i = h 92 i := fun i i1 i2 => by rw [← hf, hup_o (Or.inr i2), hup_ne (by omega), hup_ne (by omega), hup_o (Or.inr i1), go 92 (by decide) (by decide) (by decide) (by decide)]
        have f67 : ∀ i, f 67 i = if i = n then p1 else h 67 i := fun i => by rw [fg 67 (by decide) (by omega), ← hg, hup_ne (by decide), hup_ne (by decide), hup_ne (by decide), hup_at]; simp
        have f68 : ∀ i, f 68 i = if i = n then p2 else h 68 i := fun i => by rw [fg 68 (by decide) (by omega), ← hg, hup_ne (by decide), hup_ne (by decide), hup_at, hup_ne (show (68 : Nat) ≠ 67 by decide)]; simp
        refine mq_ok ?_ ?_ (hK _ ?_)
        · rw [← hf, hup_o (Or.inr (by decide)), hup_ne (by omega), hup_ne (by omega)]
          exact thr0 g
        · rw [fg 1457 (by decide) (by omega), ← hg, hup_eq]
        · refine RA.rr (RA.rc (r' := ((r.1.1, r.1.2.1, r.1.2.2.1, n + 1), r.2.1, r.2.2.1, r.2.2.2.1, upd r.2.2.2.2.1 n p1, upd r.2.2.2.2.2 n p2)) hR (fun q q1 q2 q3 q4 q5 => fo q (by omega) (by omega) (by omega) (by unfold kp at q1; omega) (by unfold kp at q1; omega) (by omega)) (fun i hi => f92 i (by omega) (by omega)) ⟨⟨o.1, o.2.1, o.2.2.1, by show n + 1 ≤ 10; omega, fun i hi => ?_⟩, ⟨?_, ?_, ?_, ?_, ?_, ?_, fun i hi => ?_⟩, ⟨?_, ?_, ?_, ?_, ?_, ?_, fun i hi => ?_⟩⟩)
          · have hi2 : i < n + 1 := hi
            show ∃ m, m < 1440 ∧ upd r.2.2.2.2.1 n p1 i = nI m
            unfold upd
            by_cases ei : i = n
            · rw [if_pos ei]
              exact ⟨m, hm, e1⟩
            · rw [if_neg ei]
              exact o.2.2.2.2 i (by omega)
          · rw [fg 62 (by decide) (by omega), ← hg, hup_ne (by decide), hup_o (Or.inr (by decide)), hup_ne (by decide), hup_ne (by decide)]; exact c1
          · rw [fg 62 (by decide) (by omega), ← hg, hup_ne (by decide), hup_eq]
          · show f 63 0 = _
            rw [fo 63 (by decide) (by decide) (by decide) (by decide) (by decide) (by omega)]; exact c3
          · show f 63 1 = _
            rw [fo 63 (by decide) (by decide) (by decide) (by decide) (by decide) (by omega)]; exact c4
          · show ∀ k, k < r.1.2.2.1 → f 64 k = _ ∧ f 65 k = _
            rw [fo 64 (by decide) (by decide) (by decide) (by decide) (by decide) (by omega), fo 65 (by decide) (by decide) (by decide) (by decide) (by decide) (by omega)]; exact c5
          · show ∀ d, d < 30 → f 66 d = _
            rw [fo 66 (by decide) (by decide) (by decide) (by decide) (by decide) (by omega)]; exact c6
          · have hi2 : i < n + 1 := hi
            show f 67 i = upd r.2.2.2.2.1 n p1 i ∧ f 68 i = upd r.2.2.2.2.2 n p2 i
            rw [f67, f68]
            unfold upd
            by_cases ei : i = n
            · rw [if_pos ei, if_pos ei, if_pos ei, if_pos ei]
              exact ⟨rfl, rfl⟩
            · rw [if_neg ei, if_neg ei, if_neg ei, if_neg ei]
              exact c7 i (by omega)
          · rw [f92 30 (by decide) (by decide)]; exact m1
          · rw [← hf, hup_eq]
          · rw [fo 141 (by decide) (by decide) (by decide) (by decide) (by decide) (by omega)]; exact m3
          · rw [fo 141 (by decide) (by decide) (by decide) (by decide) (by decide) (by omega)]; exact m4
          · intro k hk
            have hk2 : k < r.1.2.2.1 := hk
            rw [fo (144 + k) (by omega) (by omega) (by omega) (by omega) (by omega) (by omega)]
            exact m5 k hk
          · rw [fo 142 (by decide) (by decide) (by decide) (by decide) (by decide) (by omega)]; exact m6
          · have hi2 : i < n + 1 := hi
            show f (205 + i) 0 = upd r.2.2.2.2.1 n p1 i ∧ f (205 + i) 1 = upd r.2.2.2.2.2 n p2 i
            unfold upd
            by_cases ei : i = n
            · subst ei
              rw [if_pos rfl, if_pos rfl, ← hf, hup_ne (by omega), hup_o (Or.inr (by decide)), hup_eq, hup_eq]
              exact ⟨rfl, rfl⟩
            · rw [if_neg ei, if_neg ei, fo (205 + i) (by omega) (by omega) (by omega) (by omega) (by omega) (by omega)]
              exact m7 i (by omega)
    · unfold w_X9_ledger
      try dsimp only
      rw [wlet_e, isMin_t e1 hm, wif_f i10, in_f (p1 := 0) (p2 := 9999) (lo := 0) (hi := 9999) rfl rfl (by decide) (by decide) hn, c_not0, bad_t (thr0 _) (by decide), wif_f i10]
      exact mq_thr (hup_eq _ _ _ _) (by decide) (hK _ (KP.RR KP.thr a0.rr))
  · unfold w_X9_ledger w_X9_ledger_b24 w_X9_ledger_b29
    try dsimp only
    rw [wlet_e, isMin_f hn, wif_t rfl, bad_t (thr0 _) (by decide), wif_f i10]
    exact mq_thr (hup_eq _ _ _ _) (by decide) (hK _ (KP.RR KP.thr a0.rr))
end F6
