/-! the plan and the slot -/
theorem subAll {p : Int32} {t : Nat} (ht : t ≤ 8) : (p &&& (nI (2 ^ t - 1) ^^^ -1)) = 0 ↔ ∃ j, j < 2 ^ t ∧ p = nI j := by
  have h8 : 2 ^ t ≤ 2 ^ 8 := Nat.pow_le_pow_right (by decide) ht
  constructor
  · intro hz
    have hb : p.toBitVec &&& (BitVec.ofNat 32 (2 ^ t - 1) ^^^ BitVec.allOnes 32) = 0#32 := congrArg Int32.toBitVec hz
    have hp : p = nI p.toBitVec.toNat := by
      apply Int32.toBitVec_inj.mp
      rw [nI_bv]
      simp
    refine ⟨p.toBitVec.toNat, Nat.lt_pow_two_of_testBit _ (fun i hi => ?_), hp⟩
    by_cases c : i < 32
    · have h1 := congrArg (fun v : BitVec 32 => v.getLsbD i) hb
      simp only [BitVec.getLsbD_and, BitVec.getLsbD_xor, BitVec.getLsbD_allOnes, BitVec.getLsbD_ofNat, BitVec.getLsbD_zero, all_tb] at h1
      rw [decide_eq_true c, decide_eq_false (by omega)] at h1
      have h2 : p.toBitVec.getLsbD i = false := by simpa using h1
      exact h2
    · exact BitVec.getLsbD_of_ge p.toBitVec i (by omega)
  · rintro ⟨j, hj, rfl⟩
    rw [andn_i (by omega)]
    have : andn j (2 ^ t - 1) = 0 := (andn_0 (by omega)).mpr (fun k hk hb => by
      rw [all_tb]
      by_cases c : k < t
      · exact decide_eq_true c
      · have h2 : 2 ^ t ≤ 2 ^ k := Nat.pow_le_pow_right (by decide) (by omega)
        rw [Nat.testBit_lt_two_pow (by omega)] at hb
        exact absurd hb (by decide))
    rw [this]
    rfl
def planOk (B : Br) (p1 p2 p3 : Int32) : Prop := (∃ j, j < 2 ^ B.1 0 ∧ p1 = nI j) ∧ (p3 = 0 ∨ B.1 8 = 1) ∧ ∃ d, d < 30 ∧ p2 = nI d
theorem bothOf (p3 : Int32) : ∃ both : Bool, p3 = 0 ↔ both = false := by
  by_cases c : p3 = 0
  · exact ⟨false, by simp [c]⟩
  · exact ⟨true, by simp [c]⟩
theorem s_needPlan {h : Hp} {B : Br} (hB : CB h B) {p1 p2 p3 : Int32} {Q : Prop} {Qx : String → Hp → Prop} (ok : planOk B p1 p2 p3 → Q) (bad : ¬ planOk B p1 p2 p3 → Qx "java/lang/IllegalArgumentException" h) : w_X8_needPlan p1 p2 p3 h Q Qx := by
  have w0 := hB.2.2.1
  have w8 := hB.2.2.2.2.2.2.2.2.2.1
  have f14 : h 3 14 = nI (B.1 8) := hB.1.1.2.2.2.2.2.2.2.2.1
  have e14 : h 3 14 &&& 1 = nI (B.1 8) := by
    rw [f14]
    have : B.1 8 = 0 ∨ B.1 8 = 1 := by omega
    rcases this with e | e <;> rw [e] <;> decide
  unfold w_X8_needPlan w_X8_needPlan_b50
  rw [e_everybody hB, e14]
  have day : (∃ j, j < 2 ^ B.1 0 ∧ p1 = nI j) → (p3 = 0 ∨ B.1 8 = 1) → w_X8_needDay p2 h Q Qx := fun x y => s_needDay (fun d hd e => ok ⟨x, y, d, hd, e⟩) (fun hn => bad (fun z => hn z.2.2))
  refine ⟨fun z => ⟨fun z3 => day ((subAll w0).mp z) (Or.inl z3), fun z3 => ⟨fun z8 => day ((subAll w0).mp z) (Or.inr ?_), fun z8 => bad (fun q => ?_)⟩⟩, fun z => bad (fun q => z ((subAll w0).mpr q.1))⟩
  · have : B.1 8 ≠ 0 := fun e => z8 (by rw [e]; rfl)
    omega
  · rcases q.2.1 with q | q
    · exact z3 q
    · exact z8 (by rw [q]; decide)
theorem isPlan_e {h : Hp} {B : Br} (hB : MB h B) {p1 p2 p3 : Int32} (Q : Int32 → Prop) : (planOk B p1 p2 p3 → w_X9_isPlan p1 p2 p3 h Q = Q 1) ∧ (¬ planOk B p1 p2 p3 → w_X9_isPlan p1 p2 p3 h Q = Q 0) := by
  have w0 := hB.2.2.2.2.1
  have w8 := hB.2.2.2.2.2.2.2.2.2.2.2.1
  have h8 : 2 ^ B.1 0 ≤ 2 ^ 8 := Nat.pow_le_pow_right (by decide) w0
  have h9 : 0 < 2 ^ B.1 0 := Nat.two_pow_pos _
  refine ⟨?_, ?_⟩
  · rintro ⟨⟨j, hj, e1⟩, e3, d, hd, e2⟩
    unfold w_X9_isPlan w_X9_isPlan_b34
    rw [e_everybodyM hB, in_t (p1 := 0) (lo := 0) (hi := 2 ^ B.1 0 - 1) e1 rfl rfl (by omega) (by omega) (by omega), wif_f i10, isDay_t e2 hd, wif_f i10]
    by_cases c : p3 = 0
    · rw [wif_t c, b11]
    · rw [wif_f c, v_8_11, true_and, cl8, hB.1 8 (by decide)]
      have e8 : B.1 8 = 1 := by
        rcases e3 with e | e
        · exact absurd e c
        · exact e
      rw [e8]
      exact congrArg Q (by decide)
  · intro hn
    unfold w_X9_isPlan w_X9_isPlan_b34
    rw [e_everybodyM hB]
    by_cases c1 : ∃ j, j < 2 ^ B.1 0 ∧ p1 = nI j
    · obtain ⟨j, hj, e1⟩ := id c1
      rw [in_t (p1 := 0) (lo := 0) (hi := 2 ^ B.1 0 - 1) e1 rfl rfl (by omega) (by omega) (by omega), wif_f i10]
      by_cases c2 : ∃ d, d < 30 ∧ p2 = nI d
      · obtain ⟨d, hd, e2⟩ := id c2
        rw [isDay_t e2 hd, wif_f i10, wif_f (fun z => hn ⟨c1, Or.inl z, c2⟩), v_8_11, true_and, cl8, hB.1 8 (by decide), if_pos, b01]
        intro e
        exact hn ⟨c1, Or.inr ((nI_eq (b := 1) (by omega) (by omega)).mp e), c2⟩
      · rw [isDay_f c2, wif_t rfl, b01]
    · rw [in_f (p1 := 0) (lo := 0) (hi := 2 ^ B.1 0 - 1) rfl rfl (by decide) (by omega) (by rintro ⟨j, _, j2, e⟩; exact c1 ⟨j, by omega, e⟩), wif_t rfl, b01]
theorem bits_lt {n j k : Nat} (hj : j < 2 ^ n) (hk : j.testBit k = true) : k < n := by
  by_cases c : k < n
  · exact c
  · have h2 : 2 ^ n ≤ 2 ^ k := Nat.pow_le_pow_right (by decide) (by omega)
    rw [Nat.testBit_lt_two_pow (by omega)] at hk
    exact absurd hk (by decide)
theorem KP_f57 {p p' : Nat} (hp : lawQ p) (hp' : lawQ p') {h h' : Hp} (a : f57 p p' h h') : KP h h' := by
  unfold lawQ at hp hp'
  exact ⟨fun q hq => a q (by unfold kp at hq; omega) (by unfold kp at hq; omega) (by unfold kp at hq; omega) (by unfold kp at hq; omega) (by unfold kp at hq; omega), fun i hi => by rw [a 92 (by omega) (by omega) (by omega) (by omega) (by omega)]⟩
def slv (f : Nat → Nat) (e k : Nat) : Nat → Nat → Int32
  | 0, _ => -1
  | n + 1, s => if f s = k then (if e ≤ s then 100 + nI s - nI e else nI s) else slv f e k n (s + 1)
section F8
variable {h : Hp} {B : Br} {tn : Nat} {tl : Nat → List Row} {r : Rc} {K : Hp → Prop}
def planV (B : Br) (P : Pz) (j : Nat) : Int32 := if j = 0 then nI (onesN 8 (andn (pB P) (pth B P (pA P)).1)) else if j = 1 then zI (tcs B P (pA P)) else if j = 2 then zI (ern B P 0 (pA P)) else if j = 3 then zI (ern B P 1 (pA P)) else nI (jmm B P (pA P))
theorem planV_pen {P : Pz} (ho : okP P) (hp : posP P) {p p' : Int} (h1 : 1000000 ≤ p) (h2 : 1000000 ≤ p') (j : Nat) : planV B (wp P p) j = planV B (wp P p') j := by
  obtain ⟨s1, s2, s3⟩ := sums_pen (B := B) ho hp h1 h2 (pA P) (Nat.le_refl _)
  have s4 := pth_pen (B := B) ho hp h1 h2 (pA P) (Nat.le_refl _)
  show (if j = 0 then nI (onesN 8 (andn (pB P) (pth B (wp P p) (pA P)).1)) else if j = 1 then zI (tcs B (wp P p) (pA P)) else if j = 2 then zI (ern B (wp P p) 0 (pA P)) else if j = 3 then zI (ern B (wp P p) 1 (pA P)) else nI (jmm B (wp P p) (pA P))) = (if j = 0 then nI (onesN 8 (andn (pB P) (pth B (wp P p') (pA P)).1)) else if j = 1 then zI (tcs B (wp P p') (pA P)) else if j = 2 then zI (ern B (wp P p') 0 (pA P)) else if j = 3 then zI (ern B (wp P p') 1 (pA P)) else nI (jmm B (wp P p') (pA P)))
  rw [s1, s2, s2, s3, s4]
theorem s_planC (hR : RA h B tn tl r) {p1 p2 p3 : Int32} (bits d : Nat) (both : Bool) (e1 : p1 = nI bits) (e2 : p2 = nI d) (e3 : p3 = 0 ↔ both = false) (hb : bits < 256) (hd : d < 30) (Q : Hp → Prop) (hQ : ∀ h', KP h h' → PR B (dayP B (rowsOf tn tl (tb r 0)) (rowsOf tn tl (tb r 1)) bits d both 1048576) h' → Q h') : w_X8_lawOf 0 h (fun q1 => w_X8_lawOf 1 h (fun q2 => w_X8_planFor p1 p2 p3 q1 q2 h Q)) := by
  refine s_lawOf hR 0 rfl (by decide) _ (fun q1 l1 c1 => ?_)
  refine s_lawOf hR 1 rfl (by decide) _ (fun q2 l2 c2 => ?_)
  exact s_planFor hR.1 l1 l2 c1 c2 bits d both e1 e2 e3 hb hd _ (fun h1 f1 hP => hQ h1 (KP_f57 l1 l2 f1) hP)
theorem s_planM (hR : RA h B tn tl r) {p1 p2 p3 : Int32} (bits d : Nat) (both : Bool) (e1 : p1 = nI bits) (e2 : p2 = nI d) (e3 : p3 = 0 ↔ both = false) (hb : bits < 2 ^ B.1 0) (hd : d < 30) (Q : Hp → Prop) (hQ : ∀ h', mF h h' → MPR B (dayP B (rowsOf tn tl (tb r 0)) (rowsOf tn tl (tb r 1)) bits d both 1000000) h' → Q h') : w_X9_findPlan p1 p2 p3 h Q := by
  have w0 := hR.1.2.2.1
  have h8 : 2 ^ B.1 0 ≤ 2 ^ 8 := Nat.pow_le_pow_right (by decide) w0
  exact s_findPlan hR.2.1 bits d both (MT2_of hR both) e1 e2 e3 (fun k hk => bits_lt hb hk) (by omega) hd _ hQ
theorem cs13 {p1 p2 p3 p4 : Int32} (hR : RA h B tn tl r) (hK : ∀ h', RR h' → K h') : w_L_plan p1 p2 p3 p4 h (fun v1 h1 => w_X9_plan p1 p2 p3 p4 h1 (MQQ K v1)) := by
  have a0 := KP.RA (KP.thr (h := h) (v := 0)) hR
  have w0 := hR.1.2.2.1
  have h8 : 2 ^ B.1 0 ≤ 2 ^ 8 := Nat.pow_le_pow_right (by decide) w0
  unfold w_L_plan w_X8_plan
  refine s_needPlan hR.1 (fun ok => ?_) (fun hn => ⟨rfl, ?_⟩)
  · obtain ⟨both, e3⟩ := bothOf p3
    obtain ⟨⟨bits, hb, e1⟩, e8, d, hd, e2⟩ := id ok
    refine s_needBetween (lo := 0) (hi := 4) q0 q4 (by decide) (by decide) (fun j _ hj e4 => ?_) (fun hn => ⟨rfl, ?_⟩)
    · refine s_planC hR bits d both e1 e2 e3 (by omega) hd _ (fun h1 k1 hP => ?_)
      have okk := dayP_ok hR.1.2.2 (rowsOf tn tl (tb r 0)) (rowsOf tn tl (tb r 1)) (show bits < 256 by omega) d both (pen := 1000000) (by decide) (by decide)
      have hpos := dayP_pos B (rowsOf tn tl (tb r 0)) (rowsOf tn tl (tb r 1)) bits d both 1000000
      have pv : ∀ j, planV B (dayP B (rowsOf tn tl (tb r 0)) (rowsOf tn tl (tb r 1)) bits d both 1048576) j = planV B (dayP B (rowsOf tn tl (tb r 0)) (rowsOf tn tl (tb r 1)) bits d both 1000000) j := fun j => planV_pen (B := B) okk hpos (p := 1048576) (p' := 1000000) (by decide) (by decide) j
      have go : ∀ v, v = planV B (dayP B (rowsOf tn tl (tb r 0)) (rowsOf tn tl (tb r 1)) bits d both 1048576) j → wlet (hup h1 1457 0 v) (fun h2 => w_X9_plan p1 p2 p3 p4 h2 (MQQ K 0)) := by
        intro v hv
        rw [pv] at hv
        rw [wlet_e]
        have a := KP.RA (KP.tr (KP.out k1) KP.thr : KP h (hup (hup h1 1457 0 v) 92 0 0)) hR
        unfold w_X9_plan
        try dsimp only
        rw [wlet_e, (isPlan_e a.2.1 _).1 ok, wif_f i10, in_t (p1 := 0) (p2 := 4) (lo := 0) (hi := 4) e4 rfl rfl (by omega) hj (by decide), c_not1, bad_f (thr0 _), wif_t rfl]
        refine s_planM a bits d both e1 e2 e3 hb hd _ (fun h2 f2 hM => ?_)
        obtain ⟨m1, m2, m3, m4, m5, m6, m7, m8⟩ := hM
        have out : ∀ u, u = planV B (dayP B (rowsOf tn tl (tb r 0)) (rowsOf tn tl (tb r 1)) bits d both 1000000) j → MQQ K 0 u h2 := fun u hu => mq_ok (by rw [f2.2 0 (by decide)]; exact thr0 _) (by rw [f2.1 1457 (by decide) (by decide) (by decide) (by decide), hup_ne (by decide), hup_eq, hv, hu]) (hK _ (KP.RR (KP_mF f2) a.rr))
        have hj5 : j = 0 ∨ j = 1 ∨ j = 2 ∨ j = 3 ∨ j = 4 := by omega
        rcases hj5 with rfl | rfl | rfl | rfl | rfl
        · rw [wif_f (show ¬ ¬ p4 = 0 from not_not_intro e4)]
          exact out _ m4
        · rw [wif_t (by rw [e4]; decide), wif_f (show ¬ ¬ p4 = 1 from not_not_intro e4)]
          exact out _ m5
        · rw [wif_t (by rw [e4]; decide), wif_t (by rw [e4]; decide), wif_t (by rw [e4]; decide), e4, show (nI 2 : Int32) - 2 = nI 0 by decide]
          exact ⟨vp_in_nI (by decide) (by decide), out _ m2⟩
        · rw [wif_t (by rw [e4]; decide), wif_t (by rw [e4]; decide), wif_t (by rw [e4]; decide), e4, show (nI 3 : Int32) - 2 = nI 1 by decide]
          exact ⟨vp_in_nI (by decide) (by decide), out _ m3⟩
        · rw [wif_t (by rw [e4]; decide), wif_t (by rw [e4]; decide), wif_f (show ¬ ¬ p4 = 4 from not_not_intro e4)]
          exact out _ m6
      obtain ⟨c1, c2, c3, c4, c5, c6, c7, c8, c9, c10⟩ := hP
      unfold w_X2_earnedAt
      have hj5 : j = 0 ∨ j = 1 ∨ j = 2 ∨ j = 3 ∨ j = 4 := by omega
      rcases hj5 with rfl | rfl | rfl | rfl | rfl
      · exact ⟨fun _ => go _ c7, fun z => absurd e4 z⟩
      · exact ⟨fun z => absurd (e4.symm.trans z) (by decide), fun _ => ⟨fun _ => go _ c5, fun z => absurd e4 z⟩⟩
      · refine ⟨fun z => absurd (e4.symm.trans z) (by decide), fun _ => ⟨fun z => absurd (e4.symm.trans z) (by decide), fun _ => ⟨fun _ => ?_, fun z => absurd e4 z⟩⟩⟩
        rw [e_at (by decide), q0, rd_n (by decide) (by decide)]
        exact go _ c3
      · refine ⟨fun z => absurd (e4.symm.trans z) (by decide), fun _ => ⟨fun z => absurd (e4.symm.trans z) (by decide), fun _ => ⟨fun z => absurd (e4.symm.trans z) (by decide), fun _ => ⟨fun _ => ?_, fun z => absurd e4 z⟩⟩⟩⟩
        rw [e_at (by decide), q1, rd_n (by decide) (by decide)]
        exact go _ c4
      · exact ⟨fun z => absurd (e4.symm.trans z) (by decide), fun _ => ⟨fun z => absurd (e4.symm.trans z) (by decide), fun _ => ⟨fun z => absurd (e4.symm.trans z) (by decide), fun _ => ⟨fun z => absurd (e4.symm.trans z) (by decide), fun _ => go _ c6⟩⟩⟩⟩
    · unfold w_X9_plan
      try dsimp only
      rw [wlet_e, (isPlan_e a0.2.1 _).1 ok, wif_f i10, in_f (p1 := 0) (p2 := 4) (lo := 0) (hi := 4) rfl rfl (by decide) (by decide) hn, c_not0, bad_t (thr0 _) (by decide), wif_f i10]
      exact mq_thr (hup_eq _ _ _ _) (by decide) (hK _ (KP.RR KP.thr a0.rr))
  · unfold w_X9_plan w_X9_plan_b26 w_X9_plan_b31
    try dsimp only
    rw [wlet_e, (isPlan_e a0.2.1 _).2 hn, wif_t rfl, bad_t (thr0 _) (by decide), wif_f i10]
    exact mq_thr (hup_eq _ _ _ _) (by decide) (hK _ (KP.RR KP.thr a0.rr))
theorem slv_s (f : Nat → Nat) (e k n s : Nat) : slv f e k (n + 1) s = if f s = k then (if e ≤ s then 100 + nI s - nI e else nI s) else slv f e k n (s + 1) := rfl
theorem cs14 {p1 p2 p3 p4 : Int32} (hR : RA h B tn tl r) (hK : ∀ h', RR h' → K h') : w_L_slot p1 p2 p3 p4 h (fun v1 h1 => w_X9_slot p1 p2 p3 p4 h1 (MQQ K v1)) := by
  have a0 := KP.RA (KP.thr (h := h) (v := 0)) hR
  have w0 := hR.1.2.2.1
  have h8 : 2 ^ B.1 0 ≤ 2 ^ 8 := Nat.pow_le_pow_right (by decide) w0
  unfold w_L_slot w_X8_slot
  refine s_needTraveller hR.1 (fun k hk e4 => ?_) (fun hn => Or.inl ⟨rfl, ?_⟩)
  · refine s_needPlan hR.1 (fun ok => ?_) (fun hn => Or.inr ⟨rfl, ?_⟩)
    · obtain ⟨both, e3⟩ := bothOf p3
      obtain ⟨⟨bits, hb, e1⟩, e8, d, hd, e2⟩ := id ok
      refine s_planC hR bits d both e1 e2 e3 (by omega) hd _ (fun h1 k1 hP => ?_)
      have okk := dayP_ok hR.1.2.2 (rowsOf tn tl (tb r 0)) (rowsOf tn tl (tb r 1)) (show bits < 256 by omega) d both (pen := 1000000) (by decide) (by decide)
      have hpos := dayP_pos B (rowsOf tn tl (tb r 0)) (rowsOf tn tl (tb r 1)) bits d both 1000000
      have hh : ∀ s, s < pA (dayP B (rowsOf tn tl (tb r 0)) (rowsOf tn tl (tb r 1)) bits d both 1000000) → hold B (dayP B (rowsOf tn tl (tb r 0)) (rowsOf tn tl (tb r 1)) bits d both 1048576) s = hold B (dayP B (rowsOf tn tl (tb r 0)) (rowsOf tn tl (tb r 1)) bits d both 1000000) s := fun s hs => hold_pen (B := B) okk hpos (p := 1048576) (p' := 1000000) (by decide) (by decide) hs
      have hal := okk.al
      obtain ⟨A, hA⟩ : ∃ A, pA (dayP B (rowsOf tn tl (tb r 0)) (rowsOf tn tl (tb r 1)) bits d both 1000000) = A := ⟨_, rfl⟩
      obtain ⟨E, hE⟩ : ∃ E, pE (dayP B (rowsOf tn tl (tb r 0)) (rowsOf tn tl (tb r 1)) bits d both 1000000) = E := ⟨_, rfl⟩
      have hAE : E ≤ 60 := by
        rw [← hE]
        have := (slN_b B)
        show slN B ≤ 60
        omega
      rw [hA] at hal hh
      obtain ⟨c1, c2, c3, c4, c5, c6, c7, c8, c9, c10⟩ := hP
      have c8' : h1 44 15 = nI E := by rw [← hE]; exact c8
      have c9' : h1 44 16 = nI A := by rw [← hA]; exact c9
      have c1' : ∀ s, s < A → h1 50 s = nI (hold B (dayP B (rowsOf tn tl (tb r 0)) (rowsOf tn tl (tb r 1)) bits d both 1000000) s) := fun s hs => by rw [c1 s (by show s < pA _; rw [← hA] at hs; exact hs), hh s hs]
      generalize hf : hold B (dayP B (rowsOf tn tl (tb r 0)) (rowsOf tn tl (tb r 1)) bits d both 1000000) = f at c1'
      have f8 : ∀ s, f s ≤ 8 := fun s => by rw [← hf]; exact hold_le _ _ s
      have go : wlet (hup h1 1457 0 (slv f E k A 0)) (fun h2 => w_X9_slot p1 p2 p3 p4 h2 (MQQ K 0)) := by
        rw [wlet_e]
        have a := KP.RA (KP.tr (KP.out k1) KP.thr : KP h (hup (hup h1 1457 0 (slv f E k A 0)) 92 0 0)) hR
        unfold w_X9_slot
        try dsimp only
        rw [wlet_e, isWho_t a.2.1 e4 hk, c_not1, bad_f (thr0 _), wif_f (not_not_intro rfl), (isPlan_e a.2.1 _).1 ok, c_not1, bad_f (thr0 _), wif_t rfl]
        refine s_planM a bits d both e1 e2 e3 hb hd _ (fun h2 f2 hM => ?_)
        obtain ⟨m1, m2, m3, m4, m5, m6, m7, m8⟩ := hM
        rw [hA, hf] at m1
        rw [hE] at m7
        rw [hA] at m8
        have out : MQQ K 0 (slv f E k A 0) h2 := mq_ok (by rw [f2.2 0 (by decide)]; exact thr0 _) (by rw [f2.1 1457 (by decide) (by decide) (by decide) (by decide), hup_ne (by decide), hup_eq]) (hK _ (KP.RR (KP_mF f2) a.rr))
        unfold w_X9_slot_b62
        refine wl_run A (fun n (st : Int32) => st = nI n ∧ slv f E k (A - n) n = slv f E k A 0) ?_ (Nat.zero_le _) ⟨rfl, rfl⟩
        rintro n st K2 hn ⟨rfl, hv⟩ hK2
        unfold w_X9_slot_l62
        rw [m8, m7]
        refine ⟨fun z => ?_, fun z => ?_⟩
        · have : n = A := by
            have := (nI_leI (by omega) (by omega)).mp z
            omega
          subst this
          rw [Nat.sub_self] at hv
          rw [show (-1 : Int32) = slv f E k 0 n from rfl, hv]
          exact out
        have hnA : n < A := Nat.lt_of_not_le fun q => z ((nI_leI (by omega) (by omega)).mpr q)
        rw [show A - n = (A - (n + 1)) + 1 by omega, slv_s] at hv
        refine ⟨vp_in_nI (by omega) (by decide), ?_⟩
        rw [nI_clamp (by omega), m1 n hnA]
        by_cases c : f n = k
        · rw [if_pos c] at hv
          refine wif_n (not_not_intro (by rw [c, e4]; unfold hasv; rw [if_neg (by omega)])) ?_
          have e : (if nI E ≤ nI n then 100 + nI n - nI E else nI n) = slv f E k A 0 := by
            rw [← hv]
            by_cases cE : E ≤ n
            · rw [if_pos cE, if_pos ((nI_leI (by omega) (by omega)).mpr cE)]
            · rw [if_neg cE, if_neg (fun q => cE ((nI_leI (by omega) (by omega)).mp q))]
          rw [e]
          exact out
        · rw [if_neg c] at hv
          refine wif_p (fun q => c ?_) ?_
          · rw [e4] at q
            unfold hasv at q
            by_cases c8 : f n = 8
            · rw [if_pos c8] at q
              exact absurd q.symm (nI_m1 (by omega))
            · rw [if_neg c8] at q
              have := f8 n
              exact (nI_eq (by omega) (by omega)).mp q
          · rw [nI_1 n]
            exact hK2 hnA _ ⟨rfl, hv⟩
      unfold w_X2_slotOf w_X2_slotOf_b2
      refine wl_run A (fun n (st : Int32) => st = nI n ∧ slv f E k (A - n) n = slv f E k A 0) ?_ (Nat.zero_le _) ⟨rfl, rfl⟩
      rintro n st K2 hn ⟨rfl, hv⟩ hK2
      unfold w_X2_slotOf_l2
      rw [c9', c8']
      refine ⟨fun z => ?_, fun z => ?_⟩
      · have : n = A := by
          have := (nI_leI (by omega) (by omega)).mp z
          omega
        subst this
        rw [Nat.sub_self] at hv
        rw [show (-1 : Int32) = slv f E k 0 n from rfl, hv]
        exact go
      have hnA : n < A := Nat.lt_of_not_le fun q => z ((nI_leI (by omega) (by omega)).mpr q)
      rw [show A - n = (A - (n + 1)) + 1 by omega, slv_s] at hv
      rw [e_at (by decide), rd_n (by omega) (by decide), c1' n hnA]
      have := f8 n
      by_cases c : f n = k
      · rw [if_pos c] at hv
        refine wif_n (not_not_intro (by rw [c, e4])) ?_
        have e : (if nI E ≤ nI n then 100 + nI n - nI E else nI n) = slv f E k A 0 := by
          rw [← hv]
          by_cases cE : E ≤ n
          · rw [if_pos cE, if_pos ((nI_leI (by omega) (by omega)).mpr cE)]
          · rw [if_neg cE, if_neg (fun q => cE ((nI_leI (by omega) (by omega)).mp q))]
        rw [e]
        exact go
      · rw [if_neg c] at hv
        refine wif_p (fun q => c ?_) ?_
        · rw [e4] at q
          exact (nI_eq (by omega) (by omega)).mp q
        · rw [nI_1 n]
          exact hK2 hnA _ ⟨rfl, hv⟩
    · unfold w_X9_slot
      try dsimp only
      rw [wlet_e, isWho_t a0.2.1 e4 hk, c_not1, bad_f (thr0 _), wif_f (not_not_intro rfl), (isPlan_e a0.2.1 _).2 hn, c_not0, bad_t (thr0 _) (by decide), wif_f i10]
      exact mq_thr (hup_eq _ _ _ _) (by decide) (hK _ (KP.RR KP.thr a0.rr))
  · unfold w_X9_slot
    try dsimp only
    rw [wlet_e, isWho_f a0.2.1 hn, c_not0, bad_t (thr0 _) (by decide), wif_t i10]
    exact mq_thr (hup_eq _ _ _ _) (by decide) (hK _ (KP.RR KP.thr a0.rr))
end F8
