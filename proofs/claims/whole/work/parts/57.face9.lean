/-! season and span -/
section F12
variable {h : Hp} {B : Br} {tn : Nat} {tl : Nat → List Row} {r : Rc} {K : Hp → Prop}
theorem fD_c (hw : WB B) {R : List Row} {d s : Nat} (c : fD B R d s ≠ 8) : fD B R d s < B.1 0 := by
  have hm := (hold_c (B := B) (P := plD B R d) (s := s) c).2
  unfold canB at hm
  rw [Bool.and_eq_true] at hm
  have hm2 : ((2 ^ B.1 0 - 1).testBit (fD B R d s) && decide (B.2.2.2 (fD B R d s) 2 ≤ slM B (if slN B ≤ s then s - slN B else s) ∧ slM B (if slN B ≤ s then s - slN B else s) ≤ B.2.2.2 (fD B R d s) 3)) = true := hm.1
  rw [Bool.and_eq_true, all_tb] at hm2
  exact of_decide_eq_true hm2.1
theorem pD_lo (R : List Row) {d s : Nat} (k : Nat) (hs : s < slN B) : pD (plD B R d) s k = ((fareB B R 0 k d (slM B s) true : Nat) : Int) ∧ pC (plD B R d) s k = ((fareB B R 0 k d (slM B s) false : Nat) : Int) := by
  have n : ¬ slN B ≤ s := by omega
  refine ⟨?_, ?_⟩
  · show ((fareB B (if slN B ≤ s then [] else R) (if slN B ≤ s then 1 else 0) k d (slM B (if slN B ≤ s then s - slN B else s)) true : Nat) : Int) = _
    rw [if_neg n, if_neg n, if_neg n]
  · show ((fareB B (if slN B ≤ s then [] else R) (if slN B ≤ s then 1 else 0) k d (slM B (if slN B ≤ s then s - slN B else s)) false : Nat) : Int) = _
    rw [if_neg n, if_neg n, if_neg n]
theorem s_seasonOf (hR : RA h B tn tl r) {p1 p2 p3 : Int32} (d0 n : Nat) (e1 : p1 = nI d0) (e2 : p2 = nI n) (hn : d0 + n ≤ 30) (h42 : h 92 42 = nI (slN B)) (hl : laid B (rowsOf tn tl (tb r 0)) d0 n h) (Q : Int32 → Hp → Prop) (hQ : ∀ h', mS2 h h' → Q (seaT B (rowsOf tn tl (tb r 0)) (nI (B.1 5)) p3 d0 n) h') : w_X9_seasonOf p1 p2 p3 h Q := by
  have w0 := hR.1.2.2.1
  have hb8 := all_lt w0
  have hsl := slN_b B
  have hw := hR.1.2.2
  subst e1 e2
  generalize hRR : rowsOf tn tl (tb r 0) = R at hQ hl
  unfold w_X9_seasonOf w_X9_seasonOf_b11
  rw [wlet_e]
  refine wl_run n (fun v (st : Int32 × Int32 × Hp) => st.2.1 = nI v ∧ st.1 = seaT B R (nI (B.1 5)) p3 d0 v ∧ mS2 h st.2.2 ∧ st.2.2 92 51 = sdv (nI (B.1 5)) p3 v) ?_ (Nat.zero_le _) ⟨rfl, rfl, ⟨fun q _ _ q3 => hup_ne q3, fun i hi => hup_o (p := 92) (q := 92) (j := i) (Or.inr hi)⟩, show hup h 92 51 p3 92 51 = p3 from hup_eq _ _ _ _⟩
  rintro v ⟨v4, v5, g⟩ K11 hv ⟨e5, e4, fg, e51⟩ hK11
  simp only at e4 e5 fg e51
  subst e4 e5
  show w_X9_seasonOf_l11 (nI d0) (nI n) p3 Q K11 _ (nI v) g
  unfold w_X9_seasonOf_l11
  have a := (KP_mS fg.mS).RA hR
  refine ⟨fun z => ?_, fun z => ?_⟩
  · have : v = n := by
      have := (nI_leI (by omega) (by omega)).mp z
      omega
    subst this
    exact hQ g fg
  have hvn : v < n := Nat.lt_of_not_le fun q => z ((nI_leI (by omega) (by omega)).mpr q)
  refine s_skyNow (c := nI (B.1 5)) (a.2.1.1 5 (by decide)) _ (fun g1 f1 f1' e1 => ?_)
  rw [e51] at e1
  rw [e51]
  generalize hb : bitsD (nI (B.1 5)) (sdv (nI (B.1 5)) p3 v) = bits
  have s1 : mS2 g g1 := ⟨fun q _ _ q3 => f1 q q3, f1'⟩
  unfold w_X9_seasonOf_b30
  refine wl_run (slN B) (fun s (st : Int32 × Int32 × Int32 × Hp) => st.2.2.1 = nI s ∧ st.1 = seaT B R (nI (B.1 5)) p3 d0 v + totI (fD B R (d0 + v)) (cst B R (d0 + v) bits) s ∧ st.2.1 = nI (pth B (plD B R (d0 + v)) s).2 ∧ mS2 h st.2.2.2 ∧ st.2.2.2 92 51 = sdv (nI (B.1 5)) p3 (v + 1)) ?_ (Nat.zero_le _) ⟨rfl, (Int32.add_zero _).symm, rfl, fg.tr s1, e1⟩
  rintro s ⟨t4, t7, t8, u⟩ K30 hs ⟨e8, e4, e7, fu, u51⟩ hK30
  simp only at e8 e4 e7 fu u51
  subst e8 e4 e7
  show w_X9_seasonOf_l30 (nI d0) (nI n) p3 (nI v) bits K11 Q K30 _ _ (nI s) u
  unfold w_X9_seasonOf_l30
  have au := (KP_mS fu.mS).RA hR
  have u42 : u 92 42 = nI (slN B) := by rw [fu.2 42 (by decide)]; exact h42
  rw [u42]
  refine ⟨fun z2 => ?_, fun z2 => ?_⟩
  · have : s = slN B := by
      have := (nI_leI (by omega) (by omega)).mp z2
      omega
    subst this
    rw [nI_1]
    refine hK11 hvn _ ⟨rfl, ?_, fu, u51⟩
    show _ = seaT B R (nI (B.1 5)) p3 d0 (v + 1)
    rw [seaT_s, hb]
  have hsE : s < slN B := Nat.lt_of_not_le fun q => z2 ((nI_leI (by omega) (by omega)).mpr q)
  refine ⟨vp_in_nI (by omega) (by decide), vp_in_nI (by omega) (by decide), ?_⟩
  have e14 : u (1427 + v) s = hasv (fD B R (d0 + v) s) := by
    rw [fu.1 _ (by omega) (by omega) (by omega)]
    exact hl v hvn s hsE
  have esm : smB B (plD B R (d0 + v)) s = slM B s := by
    show slM B (if slN B ≤ s then s - slN B else s) = _
    rw [if_neg (by omega)]
  rw [nI_clamp (n := v) (by omega), nI_clamp (n := s) (by omega), Nat.one_mul, e14, wlet_e, e_minuteOfM au.2.1 (P := plD B R (d0 + v)) rfl u42 s rfl (by omega), esm]
  have hp2 := pth_s B (plD B R (d0 + v)) s
  have f8 := fD_8 B R (d0 + v) s
  have fin : ∀ (t : Int32) (last : Int32) (g' : Hp), t = seaT B R (nI (B.1 5)) p3 d0 v + totI (fD B R (d0 + v)) (cst B R (d0 + v) bits) (s + 1) → last = nI (pth B (plD B R (d0 + v)) (s + 1)).2 → mS2 u g' → g' 92 51 = sdv (nI (B.1 5)) p3 (v + 1) → K30 (t, last, nI s + 1, g') := by
    intro t last g' ht hlast hg h51
    rw [nI_1]
    exact hK30 hsE _ ⟨rfl, ht, hlast, fu.tr hg, h51⟩
  by_cases c : fD B R (d0 + v) s = 8
  · have hv8 : hasv (fD B R (d0 + v) s) = -1 := (hasv_m1 f8).mpr c
    refine wif_p hv8 ?_
    unfold w_X9_seasonOf_b114
    rw [hv8, wlet_e]
    refine fin _ _ u (by rw [totI_s, if_pos c]) ?_ mS2.rf u51
    have hp3 : pth B (plD B R (d0 + v)) (s + 1) = ((pth B (plD B R (d0 + v)) s).1, 8) := hp2.trans (if_pos c)
    rw [hp3]
    rfl
  have hkt := fD_c hw c
  have hv8 : hasv (fD B R (d0 + v) s) = nI (fD B R (d0 + v) s) := by unfold hasv; rw [if_neg c]
  have hp3 : pth B (plD B R (d0 + v)) (s + 1) = ((pth B (plD B R (d0 + v)) s).1 ||| 2 ^ fD B R (d0 + v) s, fD B R (d0 + v) s) := hp2.trans (if_neg c)
  have hlast : (if ¬ nI (fD B R (d0 + v) s) = -1 then nI (fD B R (d0 + v) s) else 8) = nI (pth B (plD B R (d0 + v)) (s + 1)).2 := by
    rw [if_pos (nI_m1 (by omega)), hp3]
  obtain ⟨pd, pc⟩ := pD_lo (B := B) R (d := d0 + v) (s := s) (fD B R (d0 + v) s) hsE
  have hlA : lastA (plD B R (d0 + v)) s (pth B (plD B R (d0 + v)) s).2 = (pth B (plD B R (d0 + v)) s).2 := by
    unfold lastA
    exact if_neg (show ¬ s = slN B by omega)
  have hmins : slM B s < 1440 := by
    have := slM_b hw hsE
    have := hw.2.2.1
    omega
  have okk := dayP_ok hw R [] hb8 (d0 + v) false (pen := 1000000) (by decide) (by decide)
  have hpo := pth_ok (B := B) okk s (by show s ≤ slN B; omega)
  have hl8 : (pth B (plD B R (d0 + v)) s).2 ≤ 8 := by
    rcases hpo.2.2 with q | q
    · exact Nat.le_of_eq q
    · exact Nat.le_of_lt q.1
  have hgo : goodL B (pth B (plD B R (d0 + v)) s).2 := by
    rcases hpo.2.2 with q | q
    · exact Or.inl q
    · refine Or.inr (bits_lt (j := 2 ^ B.1 0 - 1) (by have := Nat.two_pow_pos (B.1 0); omega) (hpo.2.1 _ q.1 q.2))
  have hcn : cn B (plD B R (d0 + v)) s = if isD B (fD B R (d0 + v) s) (pth B (plD B R (d0 + v)) s).2 = true then pD (plD B R (d0 + v)) s (fD B R (d0 + v) s) else pC (plD B R (d0 + v)) s (fD B R (d0 + v) s) := by
    unfold cn
    rw [hlA]
    exact if_neg c
  refine wif_n (by rw [hv8]; exact nI_m1 (by omega)) ?_
  rw [hv8]
  refine s_isDark au.2.1 (fD B R (d0 + v) s) (pth B (plD B R (d0 + v)) s).2 rfl rfl hkt hl8 _ (fun zz hz2 hzg => ?_)
  have hz := hzg hgo
  have out : ∀ t g', t = cst B R (d0 + v) bits s → mfr u g' → wlet (seaT B R (nI (B.1 5)) p3 d0 v + totI (fD B R (d0 + v)) (cst B R (d0 + v) bits) s + t) (fun v4_3 => w_X9_seasonOf_b114 (nI d0) (nI n) p3 v4_3 (nI v) bits (nI s) (nI (fD B R (d0 + v) s)) K11 K30 g' Q) := by
    intro t g' ht hg
    unfold w_X9_seasonOf_b114
    rw [wlet_e, wlet_e, hlast]
    refine fin _ _ g' ?_ rfl (mfr_S2 hg) (by rw [hg 92 (by decide) (by decide), u51])
    rw [totI_s, if_neg c, ht, Int32.add_assoc]
  have hcd : dD B R (d0 + v) s = nI (fareB B R 0 (fD B R (d0 + v) s) (d0 + v) (slM B s) true) := by
    unfold dD
    rw [pd, zI_n]
  have hD : isD B (fD B R (d0 + v) s) (pth B (plD B R (d0 + v)) s).2 = true → cst B R (d0 + v) bits s = nI (fareB B R 0 (fD B R (d0 + v) s) (d0 + v) (slM B s) true) := by
    intro q
    unfold cst cD
    rw [hcn, if_pos q, pd, zI_n, hcd]
    exact ite_self _
  have hL : ¬ isD B (fD B R (d0 + v) s) (pth B (plD B R (d0 + v)) s).2 = true → cst B R (d0 + v) bits s = nI (fareB B R 0 (fD B R (d0 + v) s) (d0 + v) (slM B s) (decide (((bits >>> ((nI (slM B s) / 60) &&& 31)) &&& 1) = 1))) := by
    intro q
    unfold cst cD
    rw [hcn, if_neg q, pc, zI_n, hcd]
    by_cases w : ((bits >>> ((nI (slM B s) / 60) &&& 31)) &&& 1) = 1
    · rw [if_pos w, decide_eq_true w]
    · rw [if_neg w, decide_eq_false w]
  have hc8 : fD B R (d0 + v) s < 8 := by omega
  by_cases q : isD B (fD B R (d0 + v) s) (pth B (plD B R (d0 + v)) s).2 = true
  · rw [if_pos q] at hz
    refine wif_p (by rw [hz]; rfl) ?_
    unfold w_X9_seasonOf_b103 w_X9_seasonOf_b108
    rw [nI_add]
    refine s_coinsF au 0 (fD B R (d0 + v) s) (d0 + v) (slM B s) true rfl rfl rfl rfl (by decide) (by decide) hkt (by omega) hmins _ (fun g' fg' => ?_)
    have hR0 : rowsOf tn tl (tb r 0) = R := hRR
    rw [hR0]
    exact out _ g' (hD q).symm fg'
  · rw [if_neg q] at hz
    refine wif_n (by rw [hz]; decide) ?_
    rw [nI_add]
    refine s_coinsF au 0 (fD B R (d0 + v) s) (d0 + v) (slM B s) (decide (((bits >>> ((nI (slM B s) / 60) &&& 31)) &&& 1) = 1)) rfl rfl rfl rfl ?_ (by decide) hkt (by omega) hmins _ (fun g' fg' => ?_)
    · by_cases w : ((bits >>> ((nI (slM B s) / 60) &&& 31)) &&& 1) = 1
      · rw [if_neg (not_not_intro w), decide_eq_true w]
        exact ⟨fun z => absurd z i10, fun z => Bool.noConfusion z⟩
      · rw [if_pos w, decide_eq_false w]
        exact ⟨fun _ => rfl, fun _ => rfl⟩
    · rw [hRR]
      exact out _ g' (hL q).symm fg'
theorem areDays_t {g : Hp} {p1 p2 : Int32} {d n : Nat} (hd : d < 30) (e1 : p1 = nI d) (e2 : p2 = nI n) (h1 : 1 ≤ n) (h2 : n ≤ 30 - d) (Q : Int32 → Prop) : w_X9_areDays p1 p2 g Q = Q 1 := by
  unfold w_X9_areDays
  subst e1 e2
  rw [isDay_t rfl hd, wif_f i10, q30, pk_sub (by omega), in_t (p1 := 1) (lo := 1) (hi := 30 - d) rfl rfl rfl h1 h2 (by omega), if_neg i10, b11]
theorem areDays_f {g : Hp} {p1 p2 : Int32} (hn : ¬ ∃ d n, d < 30 ∧ p1 = nI d ∧ p2 = nI n ∧ 1 ≤ n ∧ n ≤ 30 - d) (Q : Int32 → Prop) : w_X9_areDays p1 p2 g Q = Q 0 := by
  unfold w_X9_areDays
  by_cases c : ∃ d, d < 30 ∧ p1 = nI d
  · obtain ⟨d, hd, rfl⟩ := id c
    rw [isDay_t rfl hd, wif_f i10, q30, pk_sub (by omega), in_f (p1 := 1) (lo := 1) (hi := 30 - d) rfl rfl (by decide) (by omega) (by rintro ⟨j, j1, j2, e⟩; exact hn ⟨d, j, hd, rfl, e, j1, j2⟩), if_pos rfl, b01]
  · rw [isDay_f c, wif_t rfl, b01]
theorem s_needDays {p1 p2 : Int32} {g : Hp} {Q : Prop} {Qx : String → Hp → Prop} (ok : ∀ d n, d < 30 → p1 = nI d → p2 = nI n → 1 ≤ n → n ≤ 30 - d → Q) (bad : (¬ ∃ d n, d < 30 ∧ p1 = nI d ∧ p2 = nI n ∧ 1 ≤ n ∧ n ≤ 30 - d) → Qx "java/lang/IllegalArgumentException" g) : w_X8_needDay p1 g (w_X8_needBetween p2 1 (30 - p1) g Q Qx) Qx := by
  refine s_needDay (fun d hd e1 => ?_) (fun hn => bad (by rintro ⟨d, n, hd, e1, _⟩; exact hn ⟨d, hd, e1⟩))
  refine s_needBetween (lo := 1) (hi := 30 - d) q1 (by rw [e1, q30, pk_sub (by omega)]) (by decide) (by omega) (fun n h1 h2 e2 => ok d n hd e1 e2 h1 h2) (fun hn => bad ?_)
  rintro ⟨d', n, hd', e1', e2', h1, h2⟩
  rw [e1] at e1'
  have := (nI_eq (by omega) (by omega)).mp e1'
  subst this
  exact hn ⟨n, h1, h2, e2'⟩
theorem cs29 {p1 p2 p3 : Int32} (hR : RA h B tn tl r) (hK : ∀ h', RR h' → K h') : w_L_season p1 p2 p3 h (fun v1 h1 => w_X9_season p1 p2 p3 h1 (MQQ K v1)) := by
  have a0 := KP.RA (KP.thr (h := h) (v := 0)) hR
  unfold w_L_season w_X8_season
  refine s_needDays (fun d n hd e1 e2 h1 h2 => ?_) (fun hn => ⟨rfl, ?_⟩)
  · refine s_planDays hR d n e1 e2 (by omega) _ (fun g1 k1 kd => ?_)
    have a1 := k1.RA hR
    refine s_takenUnder a1 d n e2 (by omega) kd _ (fun g2 f2 => ?_)
    try dsimp only
    rw [wlet_e]
    generalize hv : seaT B (rowsOf tn tl (tb r 0)) (nI (B.1 5)) p3 d n = v
    have a := KP.RA (KP.tr (KP.out (KP_58 f2)) KP.thr : KP g1 (hup (hup g2 1457 0 v) 92 0 0)) a1
    unfold w_X9_season
    try dsimp only
    rw [wlet_e, areDays_t hd e1 e2 h1 h2, c_not1, bad_f (thr0 _), wif_t rfl]
    refine s_layPlans a d n e1 e2 (by omega) h1 _ (fun g3 f3 l42 ll => ?_)
    have a3 := (KP_mS f3).RA a
    refine s_seasonOf a3 d n e1 e2 (by omega) l42 ll _ (fun g4 f4 => ?_)
    rw [hv]
    refine mq_ok ?_ ?_ (hK _ ((KP_mS f4.mS).RR a3.rr))
    · rw [f4.2 0 (by decide), f3.2 0 (by decide)]
      exact thr0 _
    · rw [f4.1 1457 (by decide) (by decide) (by decide), f3.1 1457 (by decide) (by decide) (by decide) (by decide), hup_ne (by decide), hup_eq]
  · unfold w_X9_season
    try dsimp only
    rw [wlet_e, areDays_f hn, c_not0, bad_t (thr0 _) (by decide), wif_f i10]
    exact mq_thr (hup_eq _ _ _ _) (by decide) (hK _ (KP.RR KP.thr a0.rr))
def spv (p5 : Int32) (S : Nat → Int32) : Nat → Int32
  | 0 => S 0
  | n + 1 => if ¬ p5 = 0 then (if S (n + 1) ≤ spv p5 S n then spv p5 S n else S (n + 1)) else (if spv p5 S n ≤ S (n + 1) then spv p5 S n else S (n + 1))
theorem spv_s (p5 : Int32) (S : Nat → Int32) (n : Nat) : spv p5 S (n + 1) = if ¬ p5 = 0 then (if S (n + 1) ≤ spv p5 S n then spv p5 S n else S (n + 1)) else (if spv p5 S n ≤ S (n + 1) then spv p5 S n else S (n + 1)) := rfl
theorem lt_le32 (a b : Int32) : a < b ↔ ¬ b ≤ a := by
  rw [Int32.lt_iff_toInt_lt, Int32.le_iff_toInt_le]
  omega
theorem min_e (a b : Int32) : (if b < a then b else a) = if a ≤ b then a else b := by
  by_cases c : a ≤ b
  · rw [if_pos c, if_neg (fun q => (lt_le32 b a).mp q c)]
  · rw [if_neg c, if_pos ((lt_le32 b a).mpr c)]
theorem max_e (a b : Int32) : (if a < b then b else a) = if b ≤ a then a else b := by
  by_cases c : b ≤ a
  · rw [if_pos c, if_neg (fun q => (lt_le32 a b).mp q c)]
  · rw [if_neg c, if_pos ((lt_le32 a b).mpr c)]
theorem cs30 {p1 p2 p3 p4 p5 : Int32} (hR : RA h B tn tl r) (hK : ∀ h', RR h' → K h') : w_L_span p1 p2 p3 p4 p5 h (fun v1 h1 => w_X9_span p1 p2 p3 p4 p5 h1 (MQQ K v1)) := by
  have a0 := KP.RA (KP.thr (h := h) (v := 0)) hR
  unfold w_L_span w_X8_span
  refine s_needDays (fun d n hd e1 e2 h1 h2 => ?_) (fun hn => ⟨rfl, ?_⟩)
  · refine s_needBetween (lo := 1) (hi := 50) q1 q50 (by decide) (by decide) (fun J j1 j2 e4 => ?_) (fun hn => ⟨rfl, ?_⟩)
    · refine s_needBetween (lo := 0) (hi := 1) q0 q1 (by decide) (by decide) (fun m _ m2 e5 => ?_) (fun hn => ⟨rfl, ?_⟩)
      · refine s_planDays hR d n e1 e2 (by omega) _ (fun g1 k1 kd => ?_)
        have a1 := k1.RA hR
        generalize hRR : rowsOf tn tl (tb r 0) = R at kd
        obtain ⟨S, hS⟩ : ∃ S : Nat → Int32, ∀ j, S j = seaT B R (nI (B.1 5)) (p3 + nI j) d n := ⟨fun j => seaT B R (nI (B.1 5)) (p3 + nI j) d n, fun _ => rfl⟩
        have hS0 : seaT B R (nI (B.1 5)) p3 d n = S 0 := by rw [hS 0, show nI 0 = (0 : Int32) from rfl, Int32.add_zero]
        refine s_takenUnder a1 d n e2 (by omega) kd _ (fun g2 f2 => ?_)
        rw [hS0]
        unfold w_X8_span_b48
        refine wl_run 50 (fun m (st : Int32 × Int32 × Hp) => m < J ∧ st.2.1 = nI (m + 1) ∧ st.1 = spv p5 S m ∧ ∀ q, q ≠ 58 → st.2.2 q = g1 q) ?_ (Nat.zero_le _) ⟨by omega, rfl, rfl, f2⟩
        rintro m ⟨v6, v7, g⟩ K48 hm ⟨hmJ, e7, e6, fo⟩ hK48
        simp only at e6 e7 fo
        subst e6 e7
        show w_X8_span_l48 p1 p2 p3 p4 p5 _ _ K48 _ (nI (m + 1)) g
        unfold w_X8_span_l48 w_X8_span_b91
        rw [e4]
        refine ⟨fun z => ?_, fun z => ?_⟩
        · have hmJ2 : m + 1 = J := by
            have := (nI_leI (by omega) (by omega)).mp z
            omega
          try dsimp only
          rw [wlet_e]
          generalize hv : spv p5 S m = v
          have a := KP.RA (KP.tr (KP.out (KP_58 fo)) KP.thr : KP g1 (hup (hup g 1457 0 v) 92 0 0)) a1
          unfold w_X9_span
          try dsimp only
          rw [wlet_e, areDays_t hd e1 e2 h1 h2, wif_f i10, in_t (p1 := 1) (p2 := 50) (lo := 1) (hi := 50) rfl rfl rfl j1 j2 (by decide), wif_f i10, in_t (p1 := 0) (p2 := 1) (lo := 0) (hi := 1) e5 rfl rfl (by omega) m2 (by decide), c_not1, bad_f (thr0 _), wif_t rfl]
          refine s_layPlans a d n e1 e2 (by omega) h1 _ (fun g3 f3 l42 ll => ?_)
          have a3 := (KP_mS f3).RA a
          refine s_seasonOf a3 d n e1 e2 (by omega) l42 ll _ (fun g4 f4 => ?_)
          rw [hRR, hS0]
          unfold w_X9_span_b68
          refine wl_run 50 (fun m (st : Int32 × Int32 × Hp) => m < J ∧ st.2.1 = nI (m + 1) ∧ st.1 = spv p5 S m ∧ mS2 g3 st.2.2) ?_ (Nat.zero_le _) ⟨by omega, rfl, rfl, f4⟩
          rintro i ⟨w6, w7, u⟩ K68 hi ⟨hiJ, e7, e6, fu⟩ hK68
          simp only at e6 e7 fu
          subst e6 e7
          show w_X9_span_l68 p1 p2 p3 (nI J) p5 _ K68 _ (nI (i + 1)) u
          unfold w_X9_span_l68
          have au := (KP_mS fu.mS).RA a3
          refine ⟨fun z3 => ?_, fun z3 => ?_⟩
          · have hi2 : i = m := by
              have := (nI_leI (by omega) (by omega)).mp z3
              omega
            subst hi2
            rw [hv]
            refine mq_ok ?_ ?_ (hK _ au.rr)
            · rw [fu.2 0 (by decide), f3.2 0 (by decide)]
              exact thr0 _
            · rw [fu.1 1457 (by decide) (by decide) (by decide), f3.1 1457 (by decide) (by decide) (by decide) (by decide), hup_ne (by decide), hup_eq]
          · have hi2 : i + 1 < J := Nat.lt_of_not_le fun q => z3 ((nI_leI (by omega) (by omega)).mpr q)
            refine s_seasonOf au d n e1 e2 (by omega) (by rw [fu.2 42 (by decide)]; exact l42) (fun v hv s hs => by rw [fu.1 _ (by omega) (by omega) (by omega)]; exact ll v hv s hs) _ (fun g5 f5 => ?_)
            rw [hRR, ← hS, wlet_e, nI_1]
            exact hK68 (by omega) _ ⟨hi2, rfl, rfl, fu.tr f5⟩
        · have hm2 : m + 1 < J := Nat.lt_of_not_le fun q => z ((nI_leI (by omega) (by omega)).mpr q)
          have ag := (KP_58 fo).RA a1
          refine s_takenUnder ag (R := R) d n e2 (by omega) (fun v hv k hk => by
            obtain ⟨x1, x2, x3⟩ := kd v hv k hk
            exact ⟨by rw [fo 59 (by decide)]; exact x1, by rw [fo 60 (by decide)]; exact x2, by rw [fo 61 (by decide)]; exact x3⟩) _ (fun g5 f5 => ?_)
          rw [← hS, nI_1]
          refine ⟨fun c => ?_, fun c => ?_⟩
          · rw [max_e]
            refine hK48 (by omega) _ ⟨hm2, rfl, ?_, fun q hq => (f5 q hq).trans (fo q hq)⟩
            show _ = spv p5 S (m + 1)
            rw [spv_s, if_pos c]
          · rw [min_e]
            refine hK48 (by omega) _ ⟨hm2, rfl, ?_, fun q hq => (f5 q hq).trans (fo q hq)⟩
            show _ = spv p5 S (m + 1)
            rw [spv_s, if_neg c]
      · unfold w_X9_span
        try dsimp only
        rw [wlet_e, areDays_t hd e1 e2 h1 h2, wif_f i10, in_t (p1 := 1) (p2 := 50) (lo := 1) (hi := 50) e4 rfl rfl j1 j2 (by decide), wif_f i10, in_f (p1 := 0) (p2 := 1) (lo := 0) (hi := 1) rfl rfl (by decide) (by decide) hn, c_not0, bad_t (thr0 _) (by decide), wif_f i10]
        exact mq_thr (hup_eq _ _ _ _) (by decide) (hK _ (KP.RR KP.thr a0.rr))
    · unfold w_X9_span w_X9_span_b36 w_X9_span_b41
      try dsimp only
      rw [wlet_e, areDays_t hd e1 e2 h1 h2, wif_f i10, in_f (p1 := 1) (p2 := 50) (lo := 1) (hi := 50) rfl rfl (by decide) (by decide) hn, wif_t rfl, bad_t (thr0 _) (by decide), wif_f i10]
      exact mq_thr (hup_eq _ _ _ _) (by decide) (hK _ (KP.RR KP.thr a0.rr))
  · unfold w_X9_span w_X9_span_b36 w_X9_span_b41
    try dsimp only
    rw [wlet_e, areDays_f hn, wif_t rfl, bad_t (thr0 _) (by decide), wif_f i10]
    exact mq_thr (hup_eq _ _ _ _) (by decide) (hK _ (KP.RR KP.thr a0.rr))
end F12
