/-! the most, and much -/
def mostV (B : Br) (R : List Row) (d : Nat) : Int32 := zI (-(DI B (negP (dayP B R [] (2 ^ B.1 0 - 1) d false 0)) (slN B) 0 8))
def muv (w : Nat → Int32) (M : Nat → Int32) : Nat → Nat → Int32
  | 0, _ => -1
  | n + 1, d => if w d = -1 ∨ w d ≤ M d then muv w M n (d + 1) else nI d
theorem muv_s (w : Nat → Int32) (M : Nat → Int32) (n d : Nat) : muv w M (n + 1) d = if w d = -1 ∨ w d ≤ M d then muv w M n (d + 1) else nI d := rfl
section F9
variable {h : Hp} {B : Br} {tn : Nat} {tl : Nat → List Row} {r : Rc} {K : Hp → Prop}
theorem s_mostC (hR : RA h B tn tl r) {p1 : Int32} (d : Nat) (e1 : p1 = nI d) (hd : d < 30) (Q : Int32 → Hp → Prop) (hQ : ∀ h', KP h h' → Q (mostV B (rowsOf tn tl (tb r 0)) d) h') : w_X8_mostOf p1 h Q := by
  have w0 := hR.1.2.2.1
  have hb8 := all_lt w0
  unfold w_X8_mostOf
  rw [e_everybody hR.1]
  refine s_begin hR.1 (2 ^ B.1 0 - 1) false rfl (by simp) _ (fun h2 f2 h14 h15 h16 hr => ?_)
  have k2 : KP h h2 := ⟨fun q hq => f2 q (by unfold kp at hq; omega) (by unfold kp at hq; omega) (by unfold kp at hq; omega), fun i hi => by rw [f2 92 (by decide) (by decide) (by decide)]⟩
  have a2 := k2.RA hR
  refine s_lawOf a2 0 rfl (by decide) _ (fun q3 l3 c3 => ?_)
  have l3' := l3
  unfold lawQ at l3'
  have okk := dayP_ok hR.1.2.2 (rowsOf tn tl (tb r 0)) [] hb8 d false (pen := 0) (by decide) (by decide)
  have hA : pA (dayP B (rowsOf tn tl (tb r 0)) [] (2 ^ B.1 0 - 1) d false 0) = slN B := rfl
  refine s_price l3 a2.1 c3 (P := dayP B (rowsOf tn tl (tb r 0)) [] (2 ^ B.1 0 - 1) d false 0) hb8 0 d rfl e1 (by decide) hd h14 h15 (dayP_v0 _ _ _ _ _ _ _) (fun s hs => absurd hs (by omega)) _ (fun h4 f4' hD => ?_)
  have k44 : h4 44 = h2 44 := f4' 44 (by omega) (by omega) (by decide) (by decide) (by decide) (by decide)
  have hB4 : CB h4 B := f4'.CB l3 a2.1
  have hr4 : RK B h4 := by
    unfold RK
    rw [f4' 53 (by omega) (by omega) (by decide) (by decide) (by decide) (by decide), f4' 54 (by omega) (by omega) (by decide) (by decide) (by decide) (by decide)]
    exact hr
  have hPS : PS h4 B (dayP B (rowsOf tn tl (tb r 0)) [] (2 ^ B.1 0 - 1) d false 0) := PS_of hB4 hr4 (by rw [k44]; exact h14) (by rw [k44]; exact h15) (by rw [k44]; exact h16) (fun s hs => hD s (by rw [hA] at hs; omega))
  refine s_greatest hPS okk _ (fun h6 f6 => ?_)
  refine hQ h6 (KP.tr k2 ⟨fun q hq => ?_, fun i hi => ?_⟩)
  · unfold kp at hq
    rw [f6 q (by omega), f4' q (by omega) (by omega) (by omega) (by omega) (by omega) (by omega)]
  · rw [f6 92 (by omega), f4' 92 (by omega) (by omega) (by omega) (by omega) (by omega) (by omega)]
theorem MT2_0 (hR : RA h B tn tl r) : MT2 h B (rowsOf tn tl (tb r 0)) [] false := by
  obtain ⟨t0, t1, a1, a2, a3, a4, a5, _⟩ := MT2_of hR true
  exact ⟨t0, t1, a1, a2, a3, a4, a5, fun z => Bool.noConfusion z⟩
theorem s_mostM (hR : RA h B tn tl r) {p1 : Int32} (d : Nat) (e1 : p1 = nI d) (hd : d < 30) (Q : Int32 → Hp → Prop) (hQ : ∀ h', mF h h' → Q (mostV B (rowsOf tn tl (tb r 0)) d) h') : w_X9_mostOf p1 h Q := s_mostOfM hR.2.1 d (MT2_0 hR) e1 hd _ hQ
theorem cs16 {p1 : Int32} (hR : RA h B tn tl r) (hK : ∀ h', RR h' → K h') : w_L_most p1 h (fun v1 h1 => w_X9_most p1 h1 (MQQ K v1)) := by
  have a0 := KP.RA (KP.thr (h := h) (v := 0)) hR
  unfold w_L_most w_X8_most
  refine s_needDay (fun d hd e1 => ?_) (fun hn => ⟨rfl, ?_⟩)
  · refine s_mostC hR d e1 hd _ (fun h1 k1 => ?_)
    try dsimp only
    rw [wlet_e]
    generalize hv : mostV B (rowsOf tn tl (tb r 0)) d = v
    have a := KP.RA (KP.tr (KP.out k1) KP.thr : KP h (hup (hup h1 1457 0 v) 92 0 0)) hR
    unfold w_X9_most
    try dsimp only
    rw [wlet_e, isDay_t e1 hd, c_not1, bad_f (thr0 _), wif_t rfl]
    refine s_mostM a d e1 hd _ (fun h2 f2 => ?_)
    rw [hv]
    exact mq_ok (by rw [f2.2 0 (by decide)]; exact thr0 _) (by rw [f2.1 1457 (by decide) (by decide) (by decide) (by decide), hup_ne (by decide), hup_eq]) (hK _ (KP.RR (KP_mF f2) a.rr))
  · unfold w_X9_most
    try dsimp only
    rw [wlet_e, isDay_f hn, c_not0, bad_t (thr0 _) (by decide), wif_f i10]
    exact mq_thr (hup_eq _ _ _ _) (by decide) (hK _ (KP.RR KP.thr a0.rr))
theorem cs22 (hR : RA h B tn tl r) (hK : ∀ h', RR h' → K h') : w_X8_much h (fun v1 h1 => w_X9_much h1 (fun v2 h2 => v1 = v2 ∧ K h2)) := by
  have t66 : tg 62 3 = 66 := by decide
  generalize hM : (fun d => mostV B (rowsOf tn tl (tb r 0)) d) = M
  have hM' : ∀ d, mostV B (rowsOf tn tl (tb r 0)) d = M d := fun d => by rw [← hM]
  have go : ∀ h1, KP h h1 → ∀ v, v = muv r.2.2.2.1 M 30 0 → w_X9_much h1 (fun v2 h2 => v = v2 ∧ K h2) := by
    intro h1 k1 v hv
    have a1 := KP.RA (KP.tr k1 KP.thr : KP h (hup h1 92 0 0)) hR
    unfold w_X9_much
    rw [wlet_e]
    unfold w_X9_much_b7
    refine wl_run 30 (fun n (st : Int32 × Hp) => st.1 = nI n ∧ mF (hup h1 92 0 0) st.2 ∧ muv r.2.2.2.1 M (30 - n) n = v) ?_ (Nat.zero_le _) ⟨rfl, ⟨fun _ _ _ _ _ => rfl, fun _ _ => rfl⟩, hv.symm⟩
    rintro n ⟨v1, g⟩ K2 hn ⟨e1, fg, hm⟩ hK2
    simp only at e1 fg hm
    subst e1
    show w_X9_much_l7 _ K2 (nI n) g
    unfold w_X9_much_l7 w_X9_much_b39
    have ag := (KP_mF fg).RA a1
    have m6 := ag.2.2.2.2.1.2.2.2.2.2.2.2.1
    rw [q30]
    refine ⟨fun z => ?_, fun z => ?_⟩
    · have : n = 30 := by
        have := (nI_leI (by omega) (by omega)).mp z
        omega
      subst this
      exact ⟨hm.symm, hK _ ag.rr⟩
    have hn30 : n < 30 := Nat.lt_of_not_le fun q => z ((nI_leI (by omega) (by omega)).mpr q)
    rw [show 30 - n = (30 - (n + 1)) + 1 by omega, muv_s] at hm
    refine ⟨vp_in_nI hn30 (by decide), ?_⟩
    rw [nI_clamp (by omega), m6 n hn30, nI_1]
    refine ⟨fun c => hK2 hn30 _ ⟨rfl, fg, by rw [if_pos (Or.inl c)] at hm; exact hm⟩, fun c => ⟨vp_in_nI hn30 (by decide), ?_⟩⟩
    refine s_mostM ag n rfl hn30 _ (fun g2 f2 => ?_)
    have e142 : g2 142 n = r.2.2.2.1 n := by rw [f2.1 142 (by decide) (by decide) (by decide) (by decide)]; exact m6 n hn30
    try rw [e142]
    rw [hM']
    refine ⟨fun c2 => hK2 hn30 _ ⟨rfl, fg.tr f2, by rw [if_pos (Or.inr c2)] at hm; exact hm⟩, fun c2 => ?_⟩
    rw [if_neg (by rintro (q | q); exact c q; exact c2 q)] at hm
    exact ⟨hm.symm, hK _ ((KP_mF f2).RR ag.rr)⟩
  unfold w_X8_much w_X8_much_b2
  refine wl_run 30 (fun n (st : Int32 × Hp) => st.1 = nI n ∧ KP h st.2 ∧ muv r.2.2.2.1 M (30 - n) n = muv r.2.2.2.1 M 30 0) ?_ (Nat.zero_le _) ⟨rfl, KP.rf, rfl⟩
  rintro n ⟨v1, g⟩ K2 hn ⟨e1, kg, hm⟩ hK2
  simp only at e1 kg hm
  subst e1
  show w_X8_much_l2 _ K2 (nI n) g
  unfold w_X8_much_l2 w_X8_much_b36
  have ag := kg.RA hR
  have c6 := ag.2.2.2.2.1.2.1.2.2.2.2.2.1
  rw [q30]
  refine ⟨fun z => ?_, fun z => ?_⟩
  · have : n = 30 := by
      have := (nI_leI (by omega) (by omega)).mp z
      omega
    subst this
    exact go g kg _ hm
  have hn30 : n < 30 := Nat.lt_of_not_le fun q => z ((nI_leI (by omega) (by omega)).mpr q)
  rw [show 30 - n = (30 - (n + 1)) + 1 by omega, muv_s] at hm
  have c6n : g 66 n = r.2.2.2.1 n := c6 n hn30
  rw [e_at (by decide), rd_n hn30 (by decide), c6n, nI_1]
  refine ⟨fun c => hK2 hn30 _ ⟨rfl, kg, by rw [if_pos (Or.inl c)] at hm; exact hm⟩, fun c => ?_⟩
  refine s_mostC ag n rfl hn30 _ (fun g2 k2 => ?_)
  rw [hM']
  refine ⟨fun c2 => hK2 hn30 _ ⟨rfl, kg.tr k2, by rw [if_pos (Or.inr c2)] at hm; exact hm⟩, fun c2 => ?_⟩
  rw [if_neg (by rintro (q | q); exact c q; exact c2 q)] at hm
  exact go g2 (kg.tr k2) _ hm
end F9
