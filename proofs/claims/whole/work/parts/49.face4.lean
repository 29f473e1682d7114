/-! the week, crossings, books, the ledger, counts -/
def wst (g : Nat → Option (Nat × Nat)) : Nat → Option (Nat × Nat)
  | 0 => none
  | n + 1 => match g n with
    | none => wst g n
    | some q => match wst g n with
      | none => some (n, q.2)
      | some p => if q.2 < p.2 then some (n, q.2) else some p
theorem wst_b {g : Nat → Option (Nat × Nat)} {M : Nat} (hg : ∀ n q, g n = some q → q.2 ≤ M) : ∀ n p, wst g n = some p → p.1 < n ∧ p.2 ≤ M
  | 0, p, h => by simp [wst] at h
  | n + 1, p, h => by
    unfold wst at h
    cases e : g n with
    | none =>
      rw [e] at h
      have := wst_b hg n p h
      omega
    | some q =>
      rw [e] at h
      simp only at h
      have hq := hg n q e
      cases e2 : wst g n with
      | none =>
        rw [e2] at h
        have h1 := (Option.some.inj h).symm
        rw [h1]
        exact ⟨Nat.lt_succ_self n, hq⟩
      | some p0 =>
        rw [e2] at h
        simp only at h
        have hp0 := wst_b hg n p0 e2
        split at h
        · have h1 := (Option.some.inj h).symm
          rw [h1]
          exact ⟨Nat.lt_succ_self n, hq⟩
        · have h1 := (Option.some.inj h).symm
          rw [h1]
          omega
theorem wst_s (g : Nat → Option (Nat × Nat)) (n : Nat) : wst g (n + 1) = match g n with
    | none => wst g n
    | some q => match wst g n with
      | none => some (n, q.2)
      | some p => if q.2 < p.2 then some (n, q.2) else some p := rfl
section F5
variable {h : Hp} {B : Br} {tn : Nat} {tl : Nat → List Row} {r : Rc} {K : Hp → Prop}
theorem bstD_v (hw : WB B) {rs : List Row} {b k d : Nat} : ∀ q, bstD B rs b k d = some q → q.1 ≤ 1439 ∧ B.2.2.2 k 2 ≤ q.1 ∧ q.2 = costM B rs b k d q.1 ∧ q.2 ≤ 24000 := fun q hq => by
  unfold bstD at hq
  obtain ⟨x1, x2, x3⟩ := bst_val hq
  have hwk := hw.who k
  have hw3 := hw.2.2.1
  have hm : q.1 ≤ 1439 := by split at x2 <;> split at x2 <;> omega
  refine ⟨hm, by split at x1 <;> omega, x3, ?_⟩
  rw [x3]
  exact costM_b hw rs b k d hm
theorem cs12 {p1 p2 : Int32} (hR : RA h B tn tl r) (hK : ∀ h', RR h' → K h') : w_L_week p1 p2 h (fun v1 h1 => w_X9_week p1 p2 h1 (MQQ K v1)) := by
  have a0 := KP.RA (KP.thr (h := h) (v := 0)) hR
  have w0 := hR.1.2.2.1
  have hw := hR.1.2.2
  unfold w_L_week w_X8_week
  refine s_needBridge hR.1 (fun b hb hb2 e1 => ?_) (fun hn => Or.inl ⟨rfl, ?_⟩)
  · refine s_needTraveller hR.1 (fun k hk e2 => ?_) (fun hn => Or.inr ⟨rfl, ?_⟩)
    · have hWb := wst_b (g := fun d => bstD B (rowsOf tn tl (tb r b)) b k d) (M := 24000) (fun n q hq => (bstD_v hw q hq).2.2.2)
      generalize hG : wst (fun d => bstD B (rowsOf tn tl (tb r b)) b k d) = G at hWb
      have hGs : ∀ n, G (n + 1) = match bstD B (rowsOf tn tl (tb r b)) b k n with
          | none => G n
          | some q => match G n with
            | none => some (n, q.2)
            | some p => if q.2 < p.2 then some (n, q.2) else some p := fun n => by rw [← hG]; rfl
      have hG0 : G 0 = none := by rw [← hG]; rfl
      have model : ∀ h1, KP h h1 → wlet (hup h1 1457 0 (enc (G 30)).1) (fun h2 => w_X9_week p1 p2 h2 (MQQ K 0)) := by
        intro h1 k1
        rw [wlet_e]
        have a := KP.RA (KP.tr (KP.out k1) KP.thr : KP h (hup (hup h1 1457 0 (enc (G 30)).1) 92 0 0)) hR
        unfold w_X9_week
        try dsimp only
        rw [wlet_e, isBr_t a.2.1 e1 hb, c_not1, bad_f (thr0 _), wif_f (not_not_intro rfl), isWho_t a.2.1 e2 hk, c_not1, bad_f (thr0 _), wif_t rfl]
        unfold w_X9_week_b57
        refine wl_run 30 (fun d (st : Int32 × Int32 × Int32 × Hp) => st.2.2.1 = nI d ∧ (st.1, st.2.1) = enc (G d) ∧ mfr (hup (hup h1 1457 0 (enc (G 30)).1) 92 0 0) st.2.2.2) ?_ (Nat.zero_le _) ⟨rfl, by rw [hG0]; rfl, fun _ _ _ => rfl⟩
        rintro d ⟨v3, v4, v5, h2⟩ K2 hd ⟨e5, e34, kk⟩ hK2
        simp only at e5 e34 kk
        subst e5
        show w_X9_week_l57 p1 p2 _ K2 v3 v4 (nI d) h2
        unfold w_X9_week_l57
        have e3 := congrArg Prod.fst e34
        have e4 := congrArg Prod.snd e34
        simp only at e3 e4
        have a2 := KP.RA (KP_mfr kk) a
        rw [q30]
        refine ⟨fun z => ?_, fun z => ?_⟩
        · have : d = 30 := by
            have := (nI_leI (by omega) (by omega)).mp z
            omega
          subst this
          rw [e3]
          exact mq_ok (by rw [kk 92 (by decide) (by decide)]; exact thr0 _) (by rw [kk 1457 (by decide) (by decide), hup_ne (by decide), hup_eq]) (hK _ a2.rr)
        have hd30 : d < 30 := Nat.lt_of_not_le fun q => z ((nI_leI (by omega) (by omega)).mpr q)
        have hK3 := hK2 hd30
        unfold w_X9_week_b104 w_X9_week_b120
        rw [nI_1]
        have gs := hGs d
        refine s_bestMinuteM a2 b k d e1 e2 rfl hb2 hk hd30 _ (fun h3 f3 => ?_)
        have a3 := KP.RA (KP_mfr f3) a2
        cases eb : bstD B (rowsOf tn tl (tb r b)) b k d with
        | none =>
          rw [eb] at gs
          refine wif_p rfl (hK3 _ ⟨rfl, ?_, mfr.tr kk f3⟩)
          rw [gs]
          exact e34
        | some q =>
          rw [eb] at gs
          obtain ⟨x1, x2, x3, x4⟩ := bstD_v hw q eb
          refine wif_n (nI_m1 (by omega)) ?_
          cases eg : G d with
          | none =>
            rw [eg] at e3 e4 gs
            refine wif_p e3 (s_costOfM a3 b k d q.1 e1 e2 rfl rfl rfl hb2 hk hd30 (by omega) x2 _ (fun h4 f4 => ?_))
            rw [← x3]
            refine hK3 _ ⟨rfl, ?_, mfr.tr kk (mfr.tr f3 f4)⟩
            rw [gs]
            rfl
          | some p =>
            rw [eg] at e3 e4 gs
            have hpb := hWb d p eg
            have e3' : v3 = nI p.1 := e3
            have e4' : v4 = nI p.2 := e4
            refine wif_n (by rw [e3']; exact nI_m1 (by omega)) (s_costOfM a3 b k d q.1 e1 e2 rfl rfl rfl hb2 hk hd30 (by omega) x2 _ (fun h4 f4 => ?_))
            have a4 := KP.RA (KP_mfr f4) a3
            rw [← x3, e4']
            refine ⟨fun z2 => ?_, fun z2 => ?_⟩
            · have z3 := (nI_ltI (by omega) (by omega)).mp z2
              refine s_costOfM a4 b k d q.1 e1 e2 rfl rfl rfl hb2 hk hd30 (by omega) x2 _ (fun h5 f5 => ?_)
              rw [← x3]
              refine hK3 _ ⟨rfl, ?_, mfr.tr kk (mfr.tr f3 (mfr.tr f4 f5))⟩
              rw [gs]
              show (nI d, nI q.2) = enc (if q.2 < p.2 then some (d, q.2) else some p)
              rw [if_pos z3]
              rfl
            · have z3 : ¬ q.2 < p.2 := fun w => z2 ((nI_ltI (by omega) (by omega)).mpr w)
              refine hK3 _ ⟨rfl, ?_, mfr.tr kk (mfr.tr f3 f4)⟩
              rw [gs]
              show (v3, nI p.2) = enc (if q.2 < p.2 then some (d, q.2) else some p)
              rw [if_neg z3, e3']
              rfl
      unfold w_X8_week_b18
      refine wl_run 30 (fun d (st : Int32 × Int32 × Int32 × Hp) => st.2.2.1 = nI d ∧ (st.1, st.2.1) = enc (G d) ∧ KP h st.2.2.2) ?_ (Nat.zero_le _) ⟨rfl, by rw [hG0]; rfl, KP.rf⟩
      rintro d ⟨v3, v4, v5, h2⟩ K2 hd ⟨e5, e34, kk⟩ hK2
      simp only at e5 e34 kk
      subst e5
      show w_X8_week_l18 p1 p2 _ _ K2 v3 v4 (nI d) h2
      unfold w_X8_week_l18
      have e3 := congrArg Prod.fst e34
      have e4 := congrArg Prod.snd e34
      simp only at e3 e4
      have a2 := KP.RA kk hR
      rw [q30]
      refine ⟨fun z => ?_, fun z => ?_⟩
      · have : d = 30 := by
          have := (nI_leI (by omega) (by omega)).mp z
          omega
        subst this
        rw [e3]
        exact model h2 kk
      have hd30 : d < 30 := Nat.lt_of_not_le fun q => z ((nI_leI (by omega) (by omega)).mpr q)
      have hK3 := hK2 hd30
      have gs := hGs d
      refine s_bestMinute a2 b k d e1 e2 rfl hb2 (by omega) hd30 _ (fun h3 f3 => ?_)
      have a3 := KP.RA f3 a2
      unfold w_X8_week_b55 w_X8_week_b75 w_X8_week_b82
      rw [nI_1]
      cases eb : bstD B (rowsOf tn tl (tb r b)) b k d with
      | none =>
        rw [eb] at gs
        refine wif_n (fun q => q rfl) (wif_p rfl (hK3 _ ⟨rfl, ?_, KP.tr kk f3⟩))
        rw [gs]
        exact e34
      | some q =>
        rw [eb] at gs
        obtain ⟨x1, x2, x3, x4⟩ := bstD_v hw q eb
        refine wif_p (nI_m1 (by omega)) (s_expense a3 b k d q.1 e1 e2 rfl rfl hb2 (by omega) hd30 (by omega) x2 _ (fun h4 f4 => ?_))
        rw [← x3]
        refine wif_n (nI_m1 (by omega)) ?_
        cases eg : G d with
        | none =>
          rw [eg] at e3 e4 gs
          refine wif_p e3 (hK3 _ ⟨rfl, ?_, KP.tr kk (KP.tr f3 f4)⟩)
          rw [gs]
          rfl
        | some p =>
          rw [eg] at e3 e4 gs
          have hpb := hWb d p eg
          have e3' : v3 = nI p.1 := e3
          have e4' : v4 = nI p.2 := e4
          rw [e4']
          refine wif_n (by rw [e3']; exact nI_m1 (by omega)) ⟨fun z2 => ?_, fun z2 => ?_⟩
          · have z3 := (nI_leI (by omega) (by omega)).mp z2
            refine hK3 _ ⟨rfl, ?_, KP.tr kk (KP.tr f3 f4)⟩
            rw [gs]
            show (v3, nI p.2) = enc (if q.2 < p.2 then some (d, q.2) else some p)
            rw [if_neg (by omega), e3']
            rfl
          · have z3 : ¬ p.2 ≤ q.2 := fun w => z2 ((nI_leI (by omega) (by omega)).mpr w)
            refine hK3 _ ⟨rfl, ?_, KP.tr kk (KP.tr f3 f4)⟩
            rw [gs]
            show (nI d, nI q.2) = enc (if q.2 < p.2 then some (d, q.2) else some p)
            rw [if_pos (by omega)]
            rfl
    · unfold w_X9_week
      try dsimp only
      rw [wlet_e, isBr_t a0.2.1 e1 hb, c_not1, bad_f (thr0 _), wif_f (not_not_intro rfl), isWho_f a0.2.1 hn, c_not0, bad_t (thr0 _) (by decide), wif_f i10]
      exact mq_thr (hup_eq _ _ _ _) (by decide) (hK _ (KP.RR KP.thr a0.rr))
  · unfold w_X9_week
    try dsimp only
    rw [wlet_e, isBr_f a0.2.1 hn, c_not0, bad_t (thr0 _) (by decide), wif_t i10]
    exact mq_thr (hup_eq _ _ _ _) (by decide) (hK _ (KP.RR KP.thr a0.rr))
/-- what is taken, of a day or of all -/
def sumT (r : Rc) (p : Int32) : Nat → Int32
  | 0 => 0
  | n + 1 => if p = -1 ∨ r.2.1 n = p then sumT r p n + r.2.2.1 n else sumT r p n
theorem s_sumC (hR : RA h B tn tl r) (p : Int32) (Q : Int32 → Prop) (hQ : Q (sumT r p r.1.2.2.1)) : w_X3_sum 62 p h Q := by
  obtain ⟨o, ⟨c1, c2, c3, c4, c5, c6, c7⟩, _⟩ := hR.2.2.2.2.1
  have o3 := o.2.2.1
  have t1 : tg 62 1 = 64 := by decide
  have t2 : tg 62 2 = 65 := by decide
  unfold w_X3_sum w_X3_sum_b4
  refine wl_run r.1.2.2.1 (fun n (st : Int32 × Int32) => st.2 = nI n ∧ st.1 = sumT r p n) ?_ (Nat.zero_le _) ⟨rfl, rfl⟩
  rintro n ⟨v2, v3⟩ K2 hn ⟨e3, e2⟩ hK2
  simp only at e2 e3
  subst e2 e3
  show w_X3_sum_l4 62 p h Q K2 _ (nI n)
  unfold w_X3_sum_l4 w_X3_sum_b29 w_X3_sum_b40
  rw [c1]
  refine ⟨fun z => ?_, fun z => ?_⟩
  · have : n = r.1.2.2.1 := by
      have := (nI_leI (by omega) (by omega)).mp z
      omega
    subst this
    exact hQ
  have hlt : n < r.1.2.2.1 := Nat.lt_of_not_le fun q => z ((nI_leI (by omega) (by omega)).mpr q)
  have hK3 := hK2 hlt
  obtain ⟨d1, d2⟩ := c5 n hlt
  have d1' : h 64 n = r.2.1 n := d1
  have d2' : h 65 n = r.2.2.1 n := d2
  rw [e_at (by decide), rd_n (by omega) (by decide), t2, d2', nI_1]
  try dsimp only
  rw [wlet_e, e_at (by decide), rd_n (by omega) (by decide), t1, d1']
  have fin : ∀ v, v = sumT r p (n + 1) → K2 (v, nI (n + 1)) := fun v hv => hK3 _ ⟨rfl, hv⟩
  refine ⟨fun z2 => fin _ ?_, fun z2 => ⟨fun z3 => fin _ ?_, fun z3 => fin _ ?_⟩⟩
  · show _ = if p = -1 ∨ r.2.1 n = p then _ else _
    rw [if_pos (Or.inl z2)]
  · show _ = if p = -1 ∨ r.2.1 n = p then _ else _
    rw [if_neg (fun w => by rcases w with w | w; exact z2 w; exact z3 w)]
  · show _ = if p = -1 ∨ r.2.1 n = p then _ else _
    rw [if_pos (Or.inr (Classical.not_not.mp z3))]
theorem s_takenOf (hR : RA h B tn tl r) (p : Int32) (Q : Int32 → Prop) (hQ : Q (sumT r p r.1.2.2.1)) : w_X9_takenOf p h Q := by
  obtain ⟨o, _, ⟨c1, c2, c3, c4, c5, c6, c7⟩⟩ := hR.2.2.2.2.1
  have o3 := o.2.2.1
  unfold w_X9_takenOf w_X9_takenOf_b4
  refine wl_run r.1.2.2.1 (fun n (st : Int32 × Int32) => st.2 = nI n ∧ st.1 = sumT r p n) ?_ (Nat.zero_le _) ⟨rfl, rfl⟩
  rintro n ⟨v2, v3⟩ K2 hn ⟨e3, e2⟩ hK2
  simp only at e2 e3
  subst e2 e3
  show w_X9_takenOf_l4 p h Q K2 _ (nI n)
  unfold w_X9_takenOf_l4 w_X9_takenOf_b30 w_X9_takenOf_b42
  rw [c1]
  refine ⟨fun z => ?_, fun z => ?_⟩
  · have : n = r.1.2.2.1 := by
      have := (nI_leI (by omega) (by omega)).mp z
      omega
    subst this
    exact hQ
  have hlt : n < r.1.2.2.1 := Nat.lt_of_not_le fun q => z ((nI_leI (by omega) (by omega)).mpr q)
  have hK3 := hK2 hlt
  obtain ⟨d1, d2⟩ := c5 n hlt
  have vn : vp_in (nI n) 60 := vp_in_nI (by omega) (by decide)
  rw [nI_clamp (by omega), Nat.one_mul, cl0, cl1, d1, d2, nI_1]
  have fin : ∀ v, v = sumT r p (n + 1) → K2 (v, nI (n + 1)) := fun v hv => hK3 _ ⟨rfl, hv⟩
  refine ⟨fun z2 => ⟨vn, vl 1 2 (by decide) (by decide), wlet_i (fin _ ?_)⟩, fun z2 => ⟨vn, vl 0 2 (by decide) (by decide), fun z3 => wlet_i (fin _ ?_), fun z3 => ⟨vn, vl 1 2 (by decide) (by decide), wlet_i (fin _ ?_)⟩⟩⟩
  · show _ = if p = -1 ∨ r.2.1 n = p then _ else _
    rw [if_pos (Or.inl z2)]
  · show _ = if p = -1 ∨ r.2.1 n = p then _ else _
    rw [if_neg (fun w => by rcases w with w | w; exact z2 w; exact z3 w), Int32.add_zero]
  · show _ = if p = -1 ∨ r.2.1 n = p then _ else _
    rw [if_pos (Or.inr (Classical.not_not.mp z3))]
theorem cs19 {p1 : Int32} (hR : RA h B tn tl r) (hK : ∀ h', RR h' → K h') : w_L_taken p1 h (fun v1 h1 => w_X9_taken p1 h1 (MQQ K v1)) := by
  have a0 := KP.RA (KP.thr (h := h) (v := 0)) hR
  have a := KP.RA (KP.tr (KP.out KP.rf) KP.thr : KP h (hup (hup h 1457 0 (sumT r p1 r.1.2.2.1)) 92 0 0)) hR
  have fin : MQQ K 0 (sumT r p1 r.1.2.2.1) (hup (hup h 1457 0 (sumT r p1 r.1.2.2.1)) 92 0 0) := mq_ok (thr0 _) (by rw [hup_ne (by decide), hup_eq]) (hK _ a.rr)
  unfold w_L_taken w_X8_taken w_X8_taken_b9
  refine ⟨fun z => ?_, fun z => s_needDay (fun d hd e1 => ?_) (fun hn => ⟨rfl, ?_⟩)⟩
  · refine s_sumC hR p1 _ ?_
    try dsimp only
    rw [wlet_e]
    unfold w_X9_taken w_X9_taken_b22 w_X9_taken_b23
    try dsimp only
    rw [wlet_e]
    refine wif_p z ?_
    rw [bad_f (thr0 _), wif_t rfl]
    exact s_takenOf a p1 _ fin
  · refine s_sumC hR p1 _ ?_
    try dsimp only
    rw [wlet_e]
    unfold w_X9_taken
    try dsimp only
    rw [wlet_e]
    refine wif_n z ?_
    rw [isDay_t e1 hd, c_not1, bad_f (thr0 _), wif_t rfl]
    exact s_takenOf a p1 _ fin
  · unfold w_X9_taken
    try dsimp only
    rw [wlet_e]
    refine wif_n z ?_
    rw [isDay_f hn, c_not0, bad_t (thr0 _) (by decide), wif_f i10]
    exact mq_thr (hup_eq _ _ _ _) (by decide) (hK _ (KP.RR KP.thr a0.rr))
theorem cs21 {p1 : Int32} (hR : RA h B tn tl r) (hK : ∀ h', RR h' → K h') : w_L_stolen p1 h (fun v1 h1 => w_X9_stolen p1 h1 (MQQ K v1)) := by
  have a0 := KP.RA (KP.thr (h := h) (v := 0)) hR
  unfold w_L_stolen w_X8_stolen
  refine s_needDay (fun d hd e1 => ?_) (fun hn => ⟨rfl, ?_⟩)
  · have c6 : h 66 d = r.2.2.2.1 d := hR.2.2.2.2.1.2.1.2.2.2.2.2.1 d hd
    have model : ∀ v, v = (if r.2.2.2.1 d = -1 then 0 else sumT r p1 r.1.2.2.1 - r.2.2.2.1 d) → wlet (hup h 1457 0 v) (fun h1 => w_X9_stolen p1 h1 (MQQ K 0)) := by
      intro v hv
      rw [wlet_e]
      have a := KP.RA (KP.tr (KP.out KP.rf) KP.thr : KP h (hup (hup h 1457 0 v) 92 0 0)) hR
      have m6 := a.2.2.2.2.1.2.2.2.2.2.2.2.1 d hd
      have fin : MQQ K 0 v (hup (hup h 1457 0 v) 92 0 0) := mq_ok (thr0 _) (by rw [hup_ne (by decide), hup_eq]) (hK _ a.rr)
      unfold w_X9_stolen
      try dsimp only
      rw [wlet_e, isDay_t e1 hd, c_not1, bad_f (thr0 _), wif_t rfl]
      have vd : vp_in p1 30 := by rw [e1]; exact vp_in_nI hd (by decide)
      refine ⟨vd, ?_⟩
      have en : p1.toNatClampNeg = d := by rw [e1]; exact nI_clamp (by omega)
      rw [en, m6]
      refine ⟨fun z => s_takenOf a p1 _ ⟨vd, ?_⟩, fun z => ?_⟩
      · rw [if_neg z] at hv
        rw [← hv]
        exact fin
      · rw [if_pos (Classical.not_not.mp z)] at hv
        subst hv
        exact fin
    rw [e_at (by decide), e1, rd_n hd (by decide), c6, ← e1]
    refine ⟨fun z => s_sumC hR p1 _ (model _ (by rw [if_neg z])), fun z => model _ (by rw [if_pos (Classical.not_not.mp z)])⟩
  · unfold w_X9_stolen
    try dsimp only
    rw [wlet_e, isDay_f hn, c_not0, bad_t (thr0 _) (by decide), wif_f i10]
    exact mq_thr (hup_eq _ _ _ _) (by decide) (hK _ (KP.RR KP.thr a0.rr))
end F5
