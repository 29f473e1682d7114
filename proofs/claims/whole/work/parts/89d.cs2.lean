/-! a toll's text: both sides -/
theorem MT.same2 {t : Nat} {h h' : Hp} {rs : List Row} (c : MT t h rs) (e0 : h' 118 t = h 118 t) (e : ∀ q, q = 120 + t ∨ q = 125 + t ∨ q = 130 + t ∨ q = 135 + t → h' q = h q) : MT t h' rs := by
  obtain ⟨a, b, c, d⟩ := c
  refine ⟨by rw [e0]; exact a, b, c, fun i r hr => ?_⟩
  obtain ⟨x, y, z, h1, h2, h3, h4, h5, h6, h7⟩ := d i r hr
  rw [e (120 + t) (by omega), e (125 + t) (by omega), e (130 + t) (by omega), e (135 + t) (by omega)]
  exact ⟨x, y, z, h1, h2, h3, h4, h5, h6, h7⟩
theorem s_tollM {G : Hp} {T : Nat → Int32} {j tp tn m : Nat} {p1 : Int32} (e1 : p1 = nI j) (hj : j ≤ tp) (hp : tp ≤ 500) (e92 : G 92 1 = nI tp) (eT : ∀ i, i < j → G 93 i = T i) (e18 : G 92 18 = nI tn) (htn : tn ≤ 4) {R : TW} (hR : RwN T j m 0 0 R) (QQ : Int32 → Hp → Prop)
    (full : ∀ g', tn = 4 → (∀ q, q ≠ 92 → g' q = G q) → (∀ i, 8 < i → g' 92 i = G 92 i) → g' 92 0 = 0 → g' 92 1 = 0 → g' 92 3 = -1 → QQ (-1) g')
    (ok : ∀ g' rs, tn < 4 → R = .inl rs → (∀ q, q ≠ 92 → q ≠ 118 → q ≠ 120 + tn → q ≠ 125 + tn → q ≠ 130 + tn → q ≠ 135 + tn → g' q = G q) → (∀ i, i ≠ tn → g' 118 i = G 118 i) → (∀ i, 8 < i → i ≠ 18 → i ≠ 19 → i ≠ 20 → g' 92 i = G 92 i) → g' 92 18 = nI (tn + 1) → g' 92 0 = 0 → g' 92 1 = 0 → g' 92 3 = -1 → MT tn g' rs → QQ (nI tn) g')
    (no : ∀ g' k x, tn < 4 → R = .inr (k, x) → (∀ q, q ≠ 92 → q ≠ 120 + tn → q ≠ 125 + tn → q ≠ 130 + tn → q ≠ 135 + tn → g' q = G q) → (∀ i, 8 < i → i ≠ 19 → i ≠ 20 → g' 92 i = G 92 i) → g' 92 0 = 0 → g' 92 1 = 0 → g' 92 3 = nI x → QQ (nI k - 10) g') : w_X9_toll p1 G QQ := by
  unfold w_X9_toll
  rw [wlet_e, hup_o (show (92 : Nat) ≠ 92 ∨ (1 : Nat) ≠ 0 from Or.inr (by decide)), e92, in_t (p1 := 0) (lo := 0) (hi := tp) e1 rfl rfl (Nat.zero_le _) hj (by omega), c_not1, bad_f (thr0 _)]
  refine wif_p rfl ?_
  unfold w_X9_starts
  rw [wlet_e, wlet_e, wlet_e, wlet_e, wlet_e, wlet_e, wlet_e]
  try dsimp only
  rw [wlet_e]
  generalize hm : hup (hup (hup (hup (hup (hup (hup (hup (hup G 92 0 0) 92 1 0) 92 2 p1) 92 4 0) 92 5 0) 92 6 (-1)) 92 7 0) 92 8 0) 92 3 (-1) = m0
  have mq : ∀ q, q ≠ 92 → m0 q = G q := fun q hq => by rw [← hm]; simp only [hup_ne hq]
  have mi : ∀ i, 8 < i → m0 92 i = G 92 i := fun i hi => by rw [← hm, hup_o (Or.inr (by omega)), hup_o (Or.inr (by omega)), hup_o (Or.inr (by omega)), hup_o (Or.inr (by omega)), hup_o (Or.inr (by omega)), hup_o (Or.inr (by omega)), hup_o (Or.inr (by omega)), hup_o (Or.inr (by omega)), hup_o (Or.inr (by omega))]
  have k0 : m0 92 0 = 0 := by rw [← hm]; simp [hup_at]
  have k1 : m0 92 1 = 0 := by rw [← hm]; simp [hup_at]
  have k2 : m0 92 2 = nI j := by rw [← hm, e1]; simp [hup_at]
  have k3 : m0 92 3 = -1 := by rw [← hm]; simp [hup_at]
  have k4 : m0 92 4 = nI 0 := by rw [← hm]; simp [hup_at]; rfl
  have k5 : m0 92 5 = 0 := by rw [← hm]; simp [hup_at]
  have k6 : m0 92 6 = -1 := by rw [← hm]; simp [hup_at]
  have k8 : m0 92 8 = 0 := by rw [← hm]; simp [hup_at]
  rw [mi 18 (by decide), e18, q4]
  refine ⟨fun z => ?_, fun z => ?_⟩
  · have h4 : tn < 4 := by
      have : tn ≠ 4 := fun y => z (by rw [y])
      omega
    rw [wlet_e, wlet_e]
    generalize hm1 : hup (hup m0 92 19 0) 92 20 0 = m1
    have nq : ∀ q, q ≠ 92 → m1 q = G q := fun q hq => by rw [← hm1, hup_ne hq, hup_ne hq, mq q hq]
    have ni' : ∀ i, i ≠ 19 → i ≠ 20 → m1 92 i = m0 92 i := fun i x y => by rw [← hm1, hup_o (Or.inr y), hup_o (Or.inr x)]
    have c1 : MX m1 T j 0 := ⟨(ni' 2 (by decide) (by decide)).trans k2, by omega, (ni' 4 (by decide) (by decide)).trans k4, Nat.zero_le _, fun i hi => by rw [nq 93 (by decide)]; exact eT i hi⟩
    have x19 : m1 92 19 = 0 := by rw [← hm1]; simp [hup_at]
    have x20 : m1 92 20 = 0 := by rw [← hm1]; simp [hup_at]
    refine s_blanks c1 _ (fun g fg cg => ?_)
    have gi : ∀ i, i ≠ 4 → i ≠ 19 → i ≠ 20 → g 92 i = m0 92 i := fun i x y w => (fg.2 i x).trans (ni' i y w)
    have lg : LM tn g [] := ⟨by rw [gi 18 (by decide) (by decide) (by decide), mi 18 (by decide)]; exact e18, h4, (fg.2 19 (by decide)).trans x19, fun i hi => absurd hi (Nat.not_lt_zero i)⟩
    refine m_loop cg ((gi 5 (by decide) (by decide) (by decide)).trans k5) ((gi 8 (by decide) (by decide) (by decide)).trans k8) lg ((fg.2 20 (by decide)).trans x20) hR (fun g' rs cs a e y5 y6 l' r' hc => ?_) (fun g' k x a e y5 y6 n5 => ?_)
    · have g6 : g' 92 6 = -1 := y6.trans ((gi 6 (by decide) (by decide) (by decide)).trans k6)
      subst e
      obtain ⟨w1, w2, _⟩ := Rw_ok m 0 0 rs (Nat.zero_le _) (Nat.zero_le _) hR
      unfold w_X9_toll_b95
      rw [wlet_e, g6, hup_o (show (92 : Nat) ≠ 92 ∨ (5 : Nat) ≠ 3 from Or.inr (by decide))]
      refine wif_p y5 ?_
      rw [hup_o (show (92 : Nat) ≠ 92 ∨ (18 : Nat) ≠ 3 from Or.inr (by decide)), l'.1, hup_o (show (92 : Nat) ≠ 92 ∨ (20 : Nat) ≠ 3 from Or.inr (by decide)), r'.1]
      refine ⟨vp_in_nI h4 (by decide), ?_⟩
      rw [nI_clamp (by omega), wlet_e, hup_ne (show (92 : Nat) ≠ 118 by decide), hup_o (show (92 : Nat) ≠ 92 ∨ (18 : Nat) ≠ 3 from Or.inr (by decide)), l'.1, nI_1, wlet_e, hup_eq]
      have et : nI (tn + 1) - 1 = nI tn := by rw [q1, pk_sub (by omega)]; rfl
      rw [et]
      generalize hG : hup (hup (hup g' 92 3 (-1)) 118 tn (nI rs.length)) 92 18 (nI (tn + 1)) = G2
      have G2q : ∀ q, q ≠ 92 → q ≠ 118 → G2 q = g' q := fun q x y => by rw [← hG, hup_ne x, hup_ne y, hup_ne x]
      have G2i : ∀ i, i ≠ 3 → i ≠ 18 → G2 92 i = g' 92 i := fun i x y => by rw [← hG, hup_o (Or.inr y), hup_ne (by decide), hup_o (Or.inr x)]
      refine ok G2 rs h4 rfl (fun q x1 x2 x3 x4 x5 x6 => ?_) (fun i hi => ?_) (fun i hi z1 z2 z3 => ?_) ?_ ?_ ?_ ?_ ?_
      · rw [G2q q x1 x2, a.1 q x1 x3 x4 x5 x6, fg.1 q x1, nq q x1]
      · rw [← hG, hup_ne (by decide), hup_o (Or.inr hi), hup_ne (by decide), a.1 118 (by decide) (by omega) (by omega) (by omega) (by omega), fg.1 118 (by decide), nq 118 (by decide)]
      · rw [G2i i (by omega) z1, a.2 i (by omega) (by omega) (by omega) z2 z3, gi i (by omega) z2 z3, mi i hi]
      · rw [← hG, hup_eq]
      · rw [G2i 0 (by decide) (by decide), a.2 0 (by decide) (by decide) (by decide) (by decide) (by decide), gi 0 (by decide) (by decide) (by decide)]; exact k0
      · rw [G2i 1 (by decide) (by decide), a.2 1 (by decide) (by decide) (by decide) (by decide) (by decide), gi 1 (by decide) (by decide) (by decide)]; exact k1
      · rw [← hG, hup_o (Or.inr (by decide)), hup_ne (by decide), hup_eq]
      · refine r'.mt l' hc (by omega) w1 ?_ (fun q hq => G2q q (by omega) (by omega))
        rw [← hG, hup_ne (by decide), hup_eq]
    · unfold w_X9_toll_b95
      rw [wlet_e, y6, hup_o (show (92 : Nat) ≠ 92 ∨ (5 : Nat) ≠ 3 from Or.inr (by decide))]
      refine wif_n n5 ?_
      rw [y5]
      refine no _ k x h4 e (fun q x1 x3 x4 x5 x6 => ?_) (fun i hi z2 z3 => ?_) ?_ ?_ (hup_eq _ _ _ _)
      · rw [hup_ne x1, a.1 q x1 x3 x4 x5 x6, fg.1 q x1, nq q x1]
      · rw [hup_o (Or.inr (by omega)), a.2 i (by omega) (by omega) (by omega) z2 z3, gi i (by omega) z2 z3, mi i hi]
      · rw [hup_o (Or.inr (by decide)), a.2 0 (by decide) (by decide) (by decide) (by decide) (by decide), gi 0 (by decide) (by decide) (by decide)]; exact k0
      · rw [hup_o (Or.inr (by decide)), a.2 1 (by decide) (by decide) (by decide) (by decide) (by decide), gi 1 (by decide) (by decide) (by decide)]; exact k1
  · have h4 : tn = 4 := (nI_eq (b := 4) (by omega) (by decide)).mp (Classical.not_not.mp z)
    exact full m0 h4 mq mi k0 k1 k3
section F21
variable {h : Hp} {B : Br} {tn : Nat} {tl : Nat → List Row} {r : Rc} {K : Hp → Prop}
theorem cs2 {p1 : Int32} (hR : RA h B tn tl r) (hK : ∀ h', RR h' → K h') : w_L_toll p1 h (fun v1 h1 => w_X9_toll p1 h1 (MQQ K v1)) := by
  have a0 := KP.RA (KP.thr (h := h) (v := 0)) hR
  obtain ⟨c1, c2, ⟨l1, l2, l3, l4, l5, l6⟩, ⟨tp, t1, t2, t3, t4, t5⟩, ⟨ro, rc, rm⟩, ⟨ic, i1, i2, i3, i4⟩⟩ := id hR
  unfold w_L_toll w_X8_toll
  rw [t2]
  refine s_needBetween (lo := 0) (hi := tp) q0 rfl (by decide) (by omega) (fun j _ hj e1 => ?_) (fun hn => ⟨rfl, ?_⟩)
  · unfold w_X7_open
    rw [wlet_e, wlet_e, wlet_e, wlet_e, wlet_e]
    generalize hm : hup (hup (hup (hup (hup h 1 2 p1) 1 3 0) 1 4 0) 1 5 (-1)) 1 1 0 = m
    have mq : ∀ q, q ≠ 1 → m q = h q := fun q hq => by rw [← hm]; simp only [hup_ne hq]
    have n1 : m 1 1 = 0 := by rw [← hm]; simp [hup_at]
    have n2 : m 1 2 = nI j := by rw [← hm, e1]; simp [hup_at]
    have n3 : m 1 3 = nI 0 := by rw [← hm]; simp [hup_at]; rfl
    have n5 : m 1 5 = -1 := by rw [← hm]; simp [hup_at]
    have cm : CT m (h 2) j 0 := ⟨n2, by omega, n3, Nat.zero_le _, mq 2 (by decide)⟩
    obtain ⟨R, hRR⟩ := Rw_ex (T := h 2) (L := j) (j + 1) 0 0 (Nat.zero_le _) (by omega)
    rw [mq 0 (by decide), l2]
    refine wif_n (nI_pos (by omega)) ?_
    -- what a heap that keeps the four tolls makes of the relation
    have keep : ∀ (g' : Hp), (∀ q, q ≠ 1 → q ≠ 30 → q ≠ 31 → q ≠ 92 → q ≠ 1457 → (118 ≤ q → q ≤ 138 → ¬ (q = 120 + tn ∨ q = 125 + tn ∨ q = 130 + tn ∨ q = 135 + tn)) → g' q = h q) → (∀ i, 8 < i → i ≠ 19 → i ≠ 20 → g' 92 i = h 92 i) → g' 1 1 = 0 → g' 92 1 = 0 → g' 1 5 = g' 92 3 → RR g' := by
      intro g' a b y1 y2 y3
      have ks : ∀ q, q ≠ 1 → q ≠ 30 → q ≠ 31 → q ≠ 92 → q ≠ 1457 → (q < 119 ∨ 138 < q) → g' q = h q := fun q x1 x2 x3 x4 x5 x6 => a q x1 x2 x3 x4 x5 (fun w1 w2 => by omega)
      refine ⟨B, tn, tl, r, c1.same (ks 3 (by decide) (by decide) (by decide) (by decide) (by decide) (by omega)) (ks 4 (by decide) (by decide) (by decide) (by decide) (by decide) (by omega)) (ks 5 (by decide) (by decide) (by decide) (by decide) (by decide) (by omega)) (ks 6 (by decide) (by decide) (by decide) (by decide) (by decide) (by omega)) (ks 7 (by decide) (by decide) (by decide) (by decide) (by decide) (by omega)), c2.same (ks 95 (by decide) (by decide) (by decide) (by decide) (by decide) (by omega)) (ks 97 (by decide) (by decide) (by decide) (by decide) (by decide) (by omega)) (ks 99 (by decide) (by decide) (by decide) (by decide) (by decide) (by omega)) (fun i hi => ks _ (by omega) (by omega) (by omega) (by omega) (by omega) (by omega)), ⟨l1, ?_, (b 18 (by decide) (by decide) (by decide)).trans l3, fun t ht => ⟨(l4 t ht).1.same ?_ (ks _ (by omega) (by omega) (by omega) (by omega) (by omega) (by omega)), (l4 t ht).2.same2 ?_ (fun q hq => a q (by omega) (by omega) (by omega) (by omega) (by omega) (fun w1 w2 => by omega))⟩, ?_, (b 48 (by decide) (by decide) (by decide)).trans l6⟩, ⟨0, by decide, y1, y2, fun q hq => absurd hq (by omega), y3⟩, ⟨ro, rc.same (fun q z1 z2 => ks q (by omega) (by omega) (by omega) (by omega) (by omega) (by omega)), rm.same ⟨ro.2.2.1, ro.2.2.2.1⟩ (b 30 (by decide) (by decide) (by decide)) (b 31 (by decide) (by decide) (by decide)) (fun q z1 z2 => ks q (by omega) (by omega) (by omega) (by omega) (by omega) (by omega))⟩, ⟨ic, i1, ?_, (b 32 (by decide) (by decide) (by decide)).trans i3, fun jj hjj => ?_⟩⟩
      · rw [ks 0 (by decide) (by decide) (by decide) (by decide) (by decide) (by omega)]; exact l2
      · rw [ks (14 + 4 * t) (by omega) (by omega) (by omega) (by omega) (by omega) (by omega)]
      · rw [ks 118 (by decide) (by decide) (by decide) (by decide) (by decide) (by omega)]
      · rw [ks 34 (by decide) (by decide) (by decide) (by decide) (by decide) (by omega)]; exact l5
      · rw [ks 0 (by decide) (by decide) (by decide) (by decide) (by decide) (by omega)]; exact i2
      · obtain ⟨r2, z1, z2, z3⟩ := i4 jj hjj
        exact ⟨r2, z1, z2.same (fun q w1 w2 => ks q (by omega) (by omega) (by omega) (by omega) (by omega) (by omega)), z3.same (ks _ (by omega) (by omega) (by omega) (by omega) (by omega) (by omega))⟩
    rw [q4]
    refine ⟨fun z => ?_, fun z => ?_⟩
    · have h4 : tn < 4 := (nI_ltI (by omega) (by decide)).mp z
      refine p_rows cm hRR _ ⟨fun g rs e f l => ?_, fun g k x e f => ?_⟩
      · refine wif_p i10 ?_
        obtain ⟨w1, w2, w3⟩ := Rw_ok (j + 1) 0 0 rs (Nat.zero_le _) (Nat.zero_le _) (by rw [← e]; exact hRR)
        have fq : ∀ q, q ≠ 1 → q ≠ 30 → q ≠ 31 → g q = h q := fun q x y w => (f.1 q x y w).trans (mq q x)
        have e014 : g 0 14 = nI tn := by rw [fq 0 (by decide) (by decide) (by decide)]; exact l2
        rw [e014]
        refine ⟨vp_in_nI h4 (by decide), ?_⟩
        rw [nI_clamp (by omega)]
        have lq : lawQ (14 + 4 * tn) := by unfold lawQ; omega
        have tq := (tgl lq).1
        have t30 : tg 30 0 = 31 := by decide
        unfold w_X0_copy
        rw [tq, t30]
        refine s_copyRow (a := 31) (b := 14 + 4 * tn + 1) (by omega) (by decide) _ (fun g2 f2 b2 => ?_)
        rw [wlet_e]
        unfold w_X8_toll_b84
        try dsimp only
        rw [hup_ne (show (0 : Nat) ≠ 14 + 4 * tn by omega), f2 0 (by omega), e014, nI_1, wlet_e, hup_eq]
        try dsimp only
        rw [wlet_e]
        have et : nI (tn + 1) - 1 = nI tn := by rw [q1, pk_sub (by omega)]; rfl
        rw [et]
        have g30 : g2 30 3 = nI (flat rs).length := by rw [f2 30 (by omega)]; exact l.1
        rw [g30]
        generalize hG : hup (hup (hup g2 (14 + 4 * tn) 3 (nI (flat rs).length)) 0 14 (nI (tn + 1))) 1457 0 (nI tn) = G
        have Gq : ∀ q, q ≠ 0 → q ≠ 1457 → q ≠ 14 + 4 * tn → q ≠ 14 + 4 * tn + 1 → G q = g q := fun q x y z w => by rw [← hG, hup_ne y, hup_ne x, hup_ne z, f2 q w]
        have Gh : ∀ q, q ≠ 0 → q ≠ 1457 → q ≠ 14 + 4 * tn → q ≠ 14 + 4 * tn + 1 → q ≠ 1 → q ≠ 30 → q ≠ 31 → G q = h q := fun q x y z w a b c => (Gq q x y z w).trans (fq q a b c)
        have G0 : ∀ i, i ≠ 14 → G 0 i = h 0 i := fun i hi => by rw [← hG, hup_ne (by decide), hup_o (Or.inr hi), hup_ne (by omega), f2 0 (by omega), fq 0 (by decide) (by decide) (by decide)]
        have G014 : G 0 14 = nI (tn + 1) := by rw [← hG, hup_ne (by decide), hup_eq]
        have G1457 : G 1457 0 = nI tn := by rw [← hG, hup_eq]
        have G1 : ∀ i, i ≠ 3 → G 1 i = m 1 i := fun i hi => by rw [Gq 1 (by decide) (by decide) (by omega) (by omega), f.2 i hi]
        have GLC : LC (14 + 4 * tn) G rs := by
          refine ⟨?_, by omega, fun i hi => ?_, w1, by omega⟩
          · rw [← hG, hup_ne (by omega), hup_ne (by omega), hup_eq]
          · rw [← hG, hup_ne (by omega), hup_ne (by omega), hup_ne (by omega), b2 i (by omega)]
            exact l.2 i hi
        refine s_tollM (tn := tn) (T := h 2) e1 hj t1 (by rw [Gh 92 (by decide) (by decide) (by omega) (by omega) (by decide) (by decide) (by decide)]; exact t3) (fun i hi => by rw [Gh 93 (by decide) (by decide) (by omega) (by omega) (by decide) (by decide) (by decide)]; exact (t4 i (by omega)).symm) (by rw [Gh 92 (by decide) (by decide) (by omega) (by omega) (by decide) (by decide) (by decide)]; exact l3) l1 hRR _ (fun g' x4 => absurd x4 (by omega)) (fun g' rs' _ e' a a118 b e18 x0 x1 x3 mt => ?_) (fun g' k x _ e' => by rw [e] at e'; exact nomatch e')
        rw [e] at e'
        injection e' with e'
        subst e'
        have k : ∀ q, q ≠ 0 → q ≠ 1457 → q ≠ 14 + 4 * tn → q ≠ 14 + 4 * tn + 1 → q ≠ 1 → q ≠ 30 → q ≠ 31 → q ≠ 92 → q ≠ 118 → q ≠ 120 + tn → q ≠ 125 + tn → q ≠ 130 + tn → q ≠ 135 + tn → g' q = h q := fun q z1 z2 z3 z4 z5 z6 z7 z8 z9 y1 y2 y3 y4 => (a q z8 z9 y1 y2 y3 y4).trans (Gh q z1 z2 z3 z4 z5 z6 z7)
        have b' : ∀ i, 8 < i → i ≠ 18 → i ≠ 19 → i ≠ 20 → g' 92 i = h 92 i := fun i z1 z2 z3 z4 => by rw [b i z1 z2 z3 z4, Gh 92 (by decide) (by decide) (by omega) (by omega) (by decide) (by decide) (by decide)]
        have ks : ∀ q, 1 < q → q ≠ 30 → q ≠ 31 → q ≠ 92 → q ≠ 1457 → (q < 14 ∨ 29 < q) → (q < 118 ∨ 138 < q) → g' q = h q := fun q z1 z2 z3 z4 z5 z6 z7 => k q (by omega) z5 (by omega) (by omega) (by omega) z2 z3 z4 (by omega) (by omega) (by omega) (by omega) (by omega)
        have sm : ∀ q, q ≠ 92 → (q < 118 ∨ 138 < q) → g' q = G q := fun q z1 z2 => a q z1 (by omega) (by omega) (by omega) (by omega) (by omega)
        have up : ∀ {r' : Rc}, okRc tn r' → okRc (tn + 1) r' := fun o => ⟨by have := o.1; omega, by have := o.2.1; omega, o.2.2⟩
        refine mq_ok x0 ?_ (hK _ ⟨B, tn + 1, fun t => if t = tn then rs else tl t, r, c1.same (ks 3 (by decide) (by decide) (by decide) (by decide) (by decide) (by omega) (by omega)) (ks 4 (by decide) (by decide) (by decide) (by decide) (by decide) (by omega) (by omega)) (ks 5 (by decide) (by decide) (by decide) (by decide) (by decide) (by omega) (by omega)) (ks 6 (by decide) (by decide) (by decide) (by decide) (by decide) (by omega) (by omega)) (ks 7 (by decide) (by decide) (by decide) (by decide) (by decide) (by omega) (by omega)), c2.same (ks 95 (by decide) (by decide) (by decide) (by decide) (by decide) (by omega) (by omega)) (ks 97 (by decide) (by decide) (by decide) (by decide) (by decide) (by omega) (by omega)) (ks 99 (by decide) (by decide) (by decide) (by decide) (by decide) (by omega) (by omega)) (fun i hi => ks _ (by omega) (by omega) (by omega) (by omega) (by omega) (by omega) (by omega)), ⟨by omega, ?_, e18, fun t ht => ?_, ?_, (b' 48 (by decide) (by decide) (by decide) (by decide)).trans l6⟩, ⟨0, by decide, ?_, x1, fun q hq => absurd hq (by omega), ?_⟩, ⟨up ro, rc.same (fun q z1 z2 => ks q (by omega) (by omega) (by omega) (by omega) (by omega) (by omega) (by omega)), rm.same ⟨ro.2.2.1, ro.2.2.2.1⟩ (b' 30 (by decide) (by decide) (by decide) (by decide)) (b' 31 (by decide) (by decide) (by decide) (by decide)) (fun q z1 z2 => ks q (by omega) (by omega) (by omega) (by omega) (by omega) (by omega) (by omega))⟩, ⟨ic, i1, ?_, (b' 32 (by decide) (by decide) (by decide) (by decide)).trans i3, fun jj hjj => ?_⟩⟩)
        · rw [sm 1457 (by decide) (by omega)]; exact G1457
        · rw [sm 0 (by decide) (by omega)]; exact G014
        · by_cases c : t = tn
          · subst c
            show LC (14 + 4 * t) g' (if t = t then rs else tl t) ∧ MT t g' (if t = t then rs else tl t)
            rw [if_pos rfl]
            exact ⟨GLC.same (by rw [sm (14 + 4 * t) (by omega) (by omega)]) (sm _ (by omega) (by omega)), mt⟩
          · show LC (14 + 4 * t) g' (if t = tn then rs else tl t) ∧ MT t g' (if t = tn then rs else tl t)
            rw [if_neg c]
            have ht' : t < tn := by omega
            have kk : ∀ q, q = 14 + 4 * t ∨ q = 14 + 4 * t + 1 → g' q = h q := fun q hq => k q (by omega) (by omega) (by omega) (by omega) (by omega) (by omega) (by omega) (by omega) (by omega) (by omega) (by omega) (by omega) (by omega)
            refine ⟨(l4 t ht').1.same (by rw [kk (14 + 4 * t) (Or.inl rfl)]) (kk _ (Or.inr rfl)), (l4 t ht').2.same2 ?_ (fun q hq => k q (by omega) (by omega) (by omega) (by omega) (by omega) (by omega) (by omega) (by omega) (by omega) (by omega) (by omega) (by omega) (by omega))⟩
            rw [a118 t c, Gh 118 (by decide) (by decide) (by omega) (by omega) (by decide) (by decide) (by decide)]
        · rw [ks 34 (by decide) (by decide) (by decide) (by decide) (by decide) (by omega) (by omega)]; exact l5
        · rw [sm 1 (by decide) (by omega), G1 1 (by decide)]; exact n1
        · rw [sm 1 (by decide) (by omega), G1 5 (by decide), n5, x3]
        · rw [sm 0 (by decide) (by omega), G0 15 (by decide)]; exact i2
        · obtain ⟨r2, z1, z2, z3⟩ := i4 jj hjj
          exact ⟨r2, up z1, z2.same (fun q w1 w2 => ks q (by omega) (by omega) (by omega) (by omega) (by omega) (by omega) (by omega)), z3.same (ks _ (by omega) (by omega) (by omega) (by omega) (by omega) (by omega) (by omega))⟩
      · refine wif_n (not_not_intro rfl) ?_
        try dsimp only
        rw [wlet_e, f.2.2.1]
        generalize hG : hup g 1457 0 (nI k - 10) = G
        have Gq : ∀ q, q ≠ 1457 → G q = g q := fun q hq => by rw [← hG, hup_ne hq]
        have Gh : ∀ q, q ≠ 1457 → q ≠ 1 → q ≠ 30 → q ≠ 31 → G q = h q := fun q x y z w => by rw [Gq q x, f.1 q y z w, mq q y]
        have G1 : ∀ i, i ≠ 3 → i ≠ 4 → i ≠ 5 → G 1 i = m 1 i := fun i w1 w2 w3 => by rw [Gq 1 (by decide), f.2.1 i w1 w2 w3]
        refine s_tollM (tn := tn) (T := h 2) e1 hj t1 (by rw [Gh 92 (by decide) (by decide) (by decide) (by decide)]; exact t3) (fun i hi => by rw [Gh 93 (by decide) (by decide) (by decide) (by decide)]; exact (t4 i (by omega)).symm) (by rw [Gh 92 (by decide) (by decide) (by decide) (by decide)]; exact l3) l1 hRR _ (fun g' x4 => absurd x4 (by omega)) (fun g' rs' _ e' => by rw [e] at e'; exact nomatch e') (fun g' k' x' _ e' a b x0 x1 x3 => ?_)
        rw [e] at e'
        injection e' with e'
        injection e' with ea eb
        subst ea eb
        refine mq_ok x0 ?_ (hK _ (keep g' (fun q z1 z2 z3 z4 z5 z6 => ?_) (fun i z1 z2 z3 => ?_) ?_ x1 ?_))
        · rw [a 1457 (by decide) (by omega) (by omega) (by omega) (by omega), ← hG, hup_eq]
        · rw [a q z4 (by omega) (by omega) (by omega) (by omega), Gh q z5 z1 z2 z3]
        · rw [b i z1 z2 z3, Gh 92 (by decide) (by decide) (by decide) (by decide)]
        · rw [a 1 (by decide) (by omega) (by omega) (by omega) (by omega), G1 1 (by decide) (by decide) (by decide)]; exact n1
        · rw [a 1 (by decide) (by omega) (by omega) (by omega) (by omega), Gq 1 (by decide), f.2.2.2, x3]
    · have h4 : tn = 4 := by
        have : ¬ tn < 4 := fun y => z ((nI_ltI (by omega) (by decide)).mpr y)
        omega
      try dsimp only
      rw [wlet_e]
      generalize hG : hup m 1457 0 (-1) = G
      have Gq : ∀ q, q ≠ 1457 → G q = m q := fun q hq => by rw [← hG, hup_ne hq]
      refine s_tollM (tn := tn) (T := h 2) e1 hj t1 (by rw [Gq 92 (by decide), mq 92 (by decide)]; exact t3) (fun i hi => by rw [Gq 93 (by decide), mq 93 (by decide)]; exact (t4 i (by omega)).symm) (by rw [Gq 92 (by decide), mq 92 (by decide)]; exact l3) l1 hRR _ (fun g' _ a b x0 x1 x3 => ?_) (fun g' rs' x4 => absurd x4 (by omega)) (fun g' k' x' x4 => absurd x4 (by omega))
      refine mq_ok x0 ?_ (hK _ (keep g' (fun q z1 z2 z3 z4 z5 z6 => ?_) (fun i z1 z2 z3 => ?_) ?_ x1 ?_))
      · rw [a 1457 (by decide), ← hG, hup_eq]
      · rw [a q z4, Gq q z5, mq q z1]
      · rw [b i z1, Gq 92 (by decide), mq 92 (by decide)]
      · rw [a 1 (by decide), Gq 1 (by decide)]; exact n1
      · rw [a 1 (by decide), Gq 1 (by decide), n5, x3]
  · unfold w_X9_toll
    try dsimp only
    rw [wlet_e, hup_o (show (92 : Nat) ≠ 92 ∨ (1 : Nat) ≠ 0 from Or.inr (by decide)), t3, in_f (p1 := 0) (lo := 0) (hi := tp) rfl rfl (by decide) (by omega) hn, c_not0, bad_t (thr0 _) (by decide)]
    exact wif_n i10 (mq_thr (hup_eq _ _ _ _) (by decide) (hK _ (KP.RR KP.thr a0.rr)))
end F21
