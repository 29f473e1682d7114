/-! a toll's text, by the model: units, what is asked, words between -/
theorem FZ_unit (W : Nat → Hp → (Hp → Prop) → Prop) : FZ (fun h Q => w_X9_unit_o W h Q) := by
  intro g Q h5 hQ
  show w_X9_unit_o W g Q
  unfold w_X9_unit_o
  rw [e_signHereN h5]
  unfold w_X9_nameHere
  simp only [e_five]
  rw [e_isWordN h5]
  refine wif_p rfl ?_
  rw [e_isWordN h5]
  refine wif_p rfl ?_
  rw [e_isWordN h5]
  refine wif_p rfl ?_
  rw [e_isWordN h5]
  refine wif_p rfl ?_
  rw [e_isWordN h5]
  refine wif_p rfl ?_
  rw [e_isWordN h5]
  exact wif_n h5 hQ
section M2
variable {t : Nat} {T : Nat → Int32} {L w d : Nat}
theorem mkT {i : Nat} (hi : i < 11) {p p' : Nat} {g : Hp} (hs : sk T L p' = sk T L p) (c : MX g T L p') (h5 : g 92 5 = 0) {v : Int64} (e : v = lz (codeW (wOf (i + 13)) : Nat)) {G : Int32 → Hp → Prop} (h1 : ∀ g', fm g g' → isW T L (wOf (i + 13)) p = true → MX g' T L (sk T L p) → G 1 g') (h0 : ∀ g', fm g g' → isW T L (wOf (i + 13)) p = false → MX g' T L (sk T L p) → g' 92 5 = 0 → G 0 g') : w_X9_isWord v g G := by
  refine s_isWord c h5 (letsT hi) e _ (fun g' f c' => ?_)
  rw [hs] at c'
  rw [isW_sk hs]
  by_cases y : isW T L (wOf (i + 13)) p = true
  · rw [if_pos y]
    exact h1 g' f y c'
  · rw [if_neg y]
    refine h0 g' f ?_ c' ((f.2 5 (by decide)).trans h5)
    cases q : isW T L (wOf (i + 13)) p
    · rfl
    · exact absurd q y
theorem s_nameHere {g : Hp} {p : Nat} (c : MX g T L p) (h5 : g 92 5 = 0) (Q : Int32 → Hp → Prop) (hQ : ∀ g', fm g g' → MX g' T L (sk T L p) → Q (nI (nmS T L p)) g') : w_X9_nameHere g Q := by
  have ss : sk T L (sk T L p) = sk T L p := sc_id isB T L p
  have el : nmS T L p = nmN T L p 6 0 := rfl
  unfold w_X9_nameHere
  simp only [e_five]
  refine mkT (i := 1) (by decide) rfl c h5 tcode_shadow (fun g' f w c' => ?_) (fun g' f w0 c' z' => ?_)
  · have := hQ g' f c'
    rw [el, nm_t w] at this
    exact wif_n i10 this
  refine wif_p rfl ?_
  have f1 := f
  refine mkT (i := 2) (by decide) ss c' z' tcode_height (fun g' f w c' => ?_) (fun g' f w1 c' z' => ?_)
  · have := hQ g' (f1.tr f) c'
    rw [el, nm_f w0, nm_t w] at this
    exact wif_n i10 this
  refine wif_p rfl ?_
  have f2 := f1.tr f
  refine mkT (i := 3) (by decide) ss c' z' tcode_weight (fun g' f w c' => ?_) (fun g' f w2 c' z' => ?_)
  · have := hQ g' (f2.tr f) c'
    rw [el, nm_f w0, nm_f w1, nm_t w] at this
    exact wif_n i10 this
  refine wif_p rfl ?_
  have f3 := f2.tr f
  refine mkT (i := 4) (by decide) ss c' z' tcode_hour (fun g' f w c' => ?_) (fun g' f w3 c' z' => ?_)
  · have := hQ g' (f3.tr f) c'
    rw [el, nm_f w0, nm_f w1, nm_f w2, nm_t w] at this
    exact wif_n i10 this
  refine wif_p rfl ?_
  have f4 := f3.tr f
  refine mkT (i := 5) (by decide) ss c' z' tcode_day (fun g' f w c' => ?_) (fun g' f w4 c' z' => ?_)
  · have := hQ g' (f4.tr f) c'
    rw [el, nm_f w0, nm_f w1, nm_f w2, nm_f w3, nm_t w] at this
    exact wif_n i10 this
  refine wif_p rfl ?_
  have f5 := f4.tr f
  refine mkT (i := 6) (by decide) ss c' z' tcode_feast (fun g' f w c' => ?_) (fun g' f w5 c' z' => ?_)
  · have := hQ g' (f5.tr f) c'
    rw [el, nm_f w0, nm_f w1, nm_f w2, nm_f w3, nm_f w4, nm_t w] at this
    rw [if_neg i10]
    exact this
  · have := hQ g' (f5.tr f) c'
    rw [el, nm_f w0, nm_f w1, nm_f w2, nm_f w3, nm_f w4, nm_f w5] at this
    rw [if_pos rfl]
    exact this
theorem isW_let {p : Nat} {v : List Nat} (h : isW T L v p = true) (hv : 0 < v.length) (hp : p ≤ L) : sk T L p < L ∧ isLt (T (sk T L p)) = true := by
  have a := isW_le h
  have hs : sk T L p ≤ L := sc_le isB T hp
  have hl : le T L (sk T L p) ≤ L := sc_le isLt T hs
  exact ⟨by omega, sc_in isLt T L (sk T L p) _ (Nat.le_refl _) (by show sk T L p < le T L (sk T L p); omega)⟩
theorem lt_dg {x : Int32} (h : isLt x = true) : isDg x = false ∧ x ≠ 40 := by
  have h2 := of_decide_eq_true h
  refine ⟨decide_eq_false (fun z => ?_), fun z => ?_⟩
  · have a := (not_congr Int32.lt_iff_toInt_lt).mp h2.1
    have b := (not_congr Int32.lt_iff_toInt_lt).mp z.2
    have e1 : (97 : Int32).toInt = 97 := by decide
    have e2 : (57 : Int32).toInt = 57 := by decide
    omega
  · rw [z] at h2
    exact absurd h2 (by decide)
/-- the depth, counted up and down -/
theorem m_opens {g : Hp} {p1 : Int32} {p n j : Nat} {k : Nat} (h8 : g 92 8 = nI d) (hd : d < 6) (h4 : g 92 4 = nI p) (e1 : p1 = nI j) (Q : Hp → Prop) (hQ : ∀ g', (∀ q, q ≠ 92 → g' q = g q) → (∀ i, i ≠ 4 → i ≠ 8 → g' 92 i = g 92 i) → g' 92 4 = nI (p + j) → g' 92 8 = nI (d + 1) → Q g') : w_X9_opens p1 g Q := by
  unfold w_X9_opens w_X9_opens_b18
  rw [h8, q6]
  refine wif_p (fun z => by have := (nI_eq (by omega) (by decide)).mp z; omega) ?_
  rw [nI_1, wlet_e, hup_o (Or.inr (by decide)), h4, e1, nI_add, wlet_e]
  exact hQ _ (fun q hq => by rw [hup_ne hq, hup_ne hq]) (fun i h4 h8 => by rw [hup_o (Or.inr h4), hup_o (Or.inr h8)]) (hup_eq _ _ _ _) (by rw [hup_o (Or.inr (by decide)), hup_eq])
theorem m_opens6 {g : Hp} {p1 : Int32} {p j : Nat} (h8 : g 92 8 = nI 6) (h5 : g 92 5 = 0) (h4 : g 92 4 = nI p) (e1 : p1 = nI j) (Q : Hp → Prop) (hQ : ∀ g', (∀ q, q ≠ 92 → g' q = g q) → (∀ i, i ≠ 4 → i ≠ 5 → i ≠ 6 → i ≠ 8 → g' 92 i = g 92 i) → g' 92 4 = nI (p + j) → g' 92 5 = nI 3 → g' 92 6 = nI p → g' 92 8 = nI 7 → Q g') : w_X9_opens p1 g Q := by
  unfold w_X9_opens
  refine wif_n (not_not_intro (by rw [h8]; rfl)) (s_wrong q3 h4 h5 _ (fun g1 e e4 => ?_))
  unfold w_X9_opens_b18
  rw [e.2.1 8 (by decide) (by decide) (by decide), h8, nI_1, wlet_e, hup_o (Or.inr (by decide)), e4, h4, e1, nI_add, wlet_e]
  refine hQ _ (fun q hq => by rw [hup_ne hq, hup_ne hq, e.1 q hq]) (fun i h4 h5 h6 h8 => by rw [hup_o (Or.inr h4), hup_o (Or.inr h8), e.2.1 i h4 h5 h6]) (hup_eq _ _ _ _) ?_ ?_ ?_
  · rw [hup_o (Or.inr (by decide)), hup_o (Or.inr (by decide))]; exact e.2.2.1
  · rw [hup_o (Or.inr (by decide)), hup_o (Or.inr (by decide))]; exact e.2.2.2
  · rw [hup_o (Or.inr (by decide)), hup_eq]
/-- a bracket's text and its end -/
theorem m_clo {W : Hp → (Hp → Prop) → Prop} {U : Rl} {D : Nat} {b : Bool} {c : Int32} (hc : c ≠ -1) (hd : d < 6) (gU : Gd T L b D U) (hW : MSr t T L w (d + 1) W U) {g : Hp} {cs : List Int32} {p : Nat} {R1 : TR} {Q : Hp → Prop} {k : Int} (cx : MX g T L p) (hp : p < L) (h5 : g 92 5 = 0) (l : LM t g cs) (hb : 2 * (cs.length : Int) ≤ 3 * p + k) (hk : k ≤ 0) (h8 : g 92 8 = nI d) (hu : U (p + 1) R1) (o : outA t T L w k g cs (cloT T L c R1) Q) : w_X9_opens 1 g (fun h7 => W h7 (fun h8 => w_X9_sign c h8 (fun h9 => wlet (hup h9 92 8 ((h9 92 8) - 1)) (fun h10 => Q h10)))) := by
  refine m_opens (n := 0) (k := 0) h8 hd cx.2.2.1 q1 _ (fun g1 a1 a2 a4 a8 => ?_)
  have cx1 : MX g1 T L (p + 1) := ⟨(a2 2 (by decide) (by decide)).trans cx.1, cx.2.1, a4, hp, fun i hi => by rw [a1 93 (by decide)]; exact cx.2.2.2.2 i hi⟩
  have l1 : LM t g1 cs := l.same (a2 18 (by decide) (by decide)) (a2 19 (by decide) (by decide)) (a1 _ (by omega))
  have z5 : g1 92 5 = 0 := (a2 5 (by decide) (by decide)).trans h5
  have z6 : g1 92 6 = g 92 6 := a2 6 (by decide) (by decide)
  have back : ∀ (g2 g3 : Hp), gt t g1 g2 → g3 = hup g2 92 8 (g2 92 8 - 1) → gt t g g3 ∧ (∀ i, i ≠ 8 → g3 92 i = g2 92 i) ∧ ∀ q, q ≠ 92 → g3 q = g2 q := by
    intro g2 g3 f e
    subst e
    refine ⟨⟨fun q x y => by rw [hup_ne x, f.1 q x y, a1 q x], fun i x4 x5 x6 x19 => ?_⟩, fun i hi => hup_o (Or.inr hi), fun q hq => hup_ne hq⟩
    by_cases i8 : i = 8
    · subst i8
      rw [hup_eq, f.2 8 (by decide) (by decide) (by decide) (by decide), a8, h8, q1, pk_sub (by omega)]
      rfl
    · rw [hup_o (Or.inr i8), f.2 i x4 x5 x6 x19, a2 i x4 i8]
  refine hW g1 cs (p + 1) R1 _ (k - 3) cx1 z5 l1 (by omega) (by omega) a8 hu ⟨fun g2 q ts e f x5 x6 c2 l2 => ?_, fun g2 kk x e f x5 x6 fa => ?_⟩
  · subst e
    obtain ⟨y1, y2, y3, y4, y5, _⟩ := (gU _ hp).2.1 _ _ hu
    refine s_signM c2 x5 hc _ (fun g3 f3 w1 w2 c3 => ?_) (fun g3 e3 wn c3 => ?_)
    · rw [wlet_e]
      obtain ⟨b1, b2, b3⟩ := back g3 _ (f.tr f3.t) rfl
      refine o.1 _ (sk T L q + 1) ts (if_pos ⟨w1, w2⟩) b1 ?_ ?_ ?_ ?_
      · rw [b2 5 (by decide), f3.2 5 (by decide)]; exact x5
      · rw [b2 6 (by decide), f3.2 6 (by decide), x6, z6]
      · exact ⟨(b2 2 (by decide)).trans c3.1, c3.2.1, (b2 4 (by decide)).trans c3.2.2.1, c3.2.2.2.1, fun i hi => by rw [b3 93 (by decide)]; exact c3.2.2.2.2 i hi⟩
      · exact (l2.fm f3).same (b2 18 (by decide)) (b2 19 (by decide)) (b3 _ (by omega))
    · rw [wlet_e]
      obtain ⟨b1, b2, b3⟩ := back g3 _ (f.tr e3.t) rfl
      refine o.2 _ 1 (sk T L q) (if_neg wn) b1 ((b2 5 (by decide)).trans e3.2.2.1) ((b2 6 (by decide)).trans e3.2.2.2) ⟨?_, sk T L q, (cs ++ mcs ts).length, ?_, ?_, ?_, ?_⟩
      · rw [b2 5 (by decide), e3.2.2.1]; decide
      · exact (b2 4 (by decide)).trans c3.2.2.1
      · exact Nat.le_trans c3.2.2.2.1 (Nat.le_add_right _ _)
      · rw [b2 19 (by decide), e3.2.1 19 (by decide) (by decide) (by decide)]; exact l2.2.2.1
      · rw [List.length_append]; omega
  · subst e
    rw [e_signN fa.1, wlet_e]
    obtain ⟨b1, b2, b3⟩ := back g2 _ f rfl
    refine o.2 _ kk x rfl b1 ((b2 5 (by decide)).trans x5) ((b2 6 (by decide)).trans x6) ?_
    obtain ⟨v1, q, cc, v2, v3, v4, v5⟩ := fa
    exact ⟨by rw [b2 5 (by decide)]; exact v1, q, cc, (b2 4 (by decide)).trans v2, v3, (b2 19 (by decide)).trans v4, by omega⟩
theorem m_unit {W : Nat → Hp → (Hp → Prop) → Prop} {r : Nat} (hr : r ≤ 6) (hd : d = 6 - r) {N : Option Rl} (hN : ∀ N', N = some N' → 1 ≤ r ∧ (∃ D, Gd T L false D N') ∧ MSr t T L 0 (d + 1) (W 2) N') (hN0 : N = none → r = 0) (hF : FZ (W 2)) : MSr t T L 0 d (fun h Q => w_X9_unit_o W h Q) (UnT T L N) := by
  intro g cs p R Q k c h5 l hb hk h8 hu o
  have ss : sk T L (sk T L p) = sk T L p := sc_id isB T L p
  have hkp : p ≤ sk T L p := sc_ge isB T L p
  have hpL := c.2.2.2.1
  have hL := c.2.1
  have hs : sk T L p ≤ L := sc_le isB T hpL
  show w_X9_unit_o W g Q
  unfold w_X9_unit_o
  refine s_signHere c h5 _ (fun g1 f1 c1 => ?_)
  refine s_nameHere c1 ((f1.2 5 (by decide)).trans h5) _ (fun g2 f2 c2 => ?_)
  have enm : nmS T L (sk T L p) = nmS T L p := by
    have : ∀ m i, nmN T L (sk T L p) m i = nmN T L p m i := by
      intro m
      induction m with
      | zero => exact fun i => rfl
      | succ m ih =>
        intro i
        unfold nmN
        rw [isW_sk ss, ih]
    exact this 6 0
  rw [enm]
  rw [ss] at c2
  have F := f1.tr f2
  have z5 : g2 92 5 = 0 := (F.2 5 (by decide)).trans h5
  have l2 := l.fm F
  have o2 : outA t T L 0 k g2 cs R Q := o.to F.t (F.2 6 (by decide))
  have h82 : g2 92 8 = nI d := (F.2 8 (by decide)).trans h8
  have hb2 : 2 * (cs.length : Int) ≤ 3 * (sk T L p : Nat) + k := by omega
  refine wif_p z5 ?_
  rw [e_digitM]
  have dg : isDg (if sk T L p < L then T (sk T L p) else -1) = true → sk T L p < L ∧ isDg (T (sk T L p)) = true := by
    intro z
    by_cases y : sk T L p < L
    · rw [if_pos y] at z
      exact ⟨y, z⟩
    · rw [if_neg y] at z
      exact absurd z (by decide)
  have nml : nmS T L p ≠ 0 → sk T L p < L ∧ isLt (T (sk T L p)) = true := fun m => by
    obtain ⟨m1, m2⟩ := nmS_ok m
    exact isW_let m2 (wlen ⟨nmS T L p, by omega⟩ (Nat.pos_of_ne_zero m)) hpL
  unfold UnT at hu
  by_cases y : sk T L p < L ∧ T (sk T L p) = 40
  · rw [if_pos y] at hu
    have nm0 : nmS T L p = 0 := by
      by_cases m : nmS T L p = 0
      · exact m
      · exact absurd y.2 (lt_dg (nml m).2).2
    have d0 : ¬ isDg (if sk T L p < L then T (sk T L p) else -1) = true := fun z => by
      have := (dg z).2
      rw [y.2] at this
      exact absurd this (by decide)
    rw [if_neg d0, nm0]
    refine wif_p rfl (wif_p (by decide) (wif_n (not_not_intro (by rw [if_pos y.1]; exact y.2)) ?_))
    cases N with
    | none =>
      have r0 := hN0 rfl
      subst r0
      subst hd
      have hu2 : R = .inr (3, sk T L p) := hu
      refine m_opens6 h82 z5 c2.2.2.1 q1 _ (fun g3 a1 a2 a4 a5 a6 a8 => ?_)
      have n5 : g3 92 5 ≠ 0 := by rw [a5]; decide
      refine hF g3 _ n5 ?_
      rw [e_signN n5, wlet_e, a8]
      have e8 : nI 7 - 1 = nI 6 := rfl
      rw [e8]
      refine o2.2 _ 3 (sk T L p) hu2 ⟨fun q x _ => by rw [hup_ne x, a1 q x], fun i x4 x5 x6 x19 => ?_⟩ ?_ ?_ ⟨?_, sk T L p + 1, cs.length, ?_, y.1, ?_, ?_⟩
      · by_cases i8 : i = 8
        · subst i8
          rw [hup_eq]; exact h82.symm
        · rw [hup_o (Or.inr i8), a2 i x4 x5 x6 i8]
      · rw [hup_o (Or.inr (by decide))]; exact a5
      · rw [hup_o (Or.inr (by decide))]; exact a6
      · rw [hup_o (Or.inr (by decide))]; exact n5
      · rw [hup_o (Or.inr (by decide))]; exact a4
      · rw [hup_o (Or.inr (by decide)), a2 19 (by decide) (by decide) (by decide) (by decide)]; exact l2.2.2.1
      · omega
    | some N' =>
      obtain ⟨r1, ⟨D, gN⟩, hW⟩ := hN N' rfl
      obtain ⟨R1, u1, u2⟩ := (hu : ∃ R1, N' (sk T L p + 1) R1 ∧ R = cloT T L 41 R1)
      rw [u2] at o2
      exact m_clo (by decide) (by omega) gN hW c2 y.1 z5 l2 hb2 hk h82 u1 o2
  rw [if_neg y] at hu
  by_cases m : nmS T L p ≠ 0
  · rw [if_pos m] at hu
    obtain ⟨m1, m2⟩ := nmS_ok m
    obtain ⟨n1, n2⟩ := nml m
    have d0 : ¬ isDg (if sk T L p < L then T (sk T L p) else -1) = true := fun z => by
      have := (dg z).2
      rw [(lt_dg n2).1] at this
      exact absurd this (by decide)
    rw [if_neg d0]
    have m5 := (mc_nam ⟨nmS T L p, by omega⟩ (Nat.pos_of_ne_zero m)).1
    simp only at m5
    refine wif_p rfl (wif_n (fun z => ?_) ?_)
    · rw [q0] at z
      have := (nI_leI (by omega) (by omega)).mp z
      omega
    · refine s_skipWord c2 _ (fun g3 f3 c3 => ?_)
      refine s_tellsL (l2.fm f3) (by omega) _ (fun g4 b l4 => ?_)
      refine o2.1 g4 _ _ hu (f3.t.tr b.t) ?_ ?_ (c3.tl l.2.1 b) ?_
      · rw [b.2 5 (by decide), f3.2 5 (by decide)]; exact z5
      · rw [b.2 6 (by decide), f3.2 6 (by decide)]
      · have : mcs [-nI (nmS T L p)] = mc1 (-nI (nmS T L p)) ++ mcs [] := rfl
        rw [this, m5]
        exact l4
  rw [if_neg m] at hu
  have nm0 : nmS T L p = 0 := Classical.not_not.mp m
  rw [nm0]
  by_cases z : isDg (if sk T L p < L then T (sk T L p) else -1) = true
  · rw [if_pos z]
    have dg2 := dg z
    refine wif_n i10 ?_
    refine s_numM c2 z5 0 9999 rfl rfl (by decide) (by decide) _ (fun g3 f3 n0 c3 => ?_) (fun g3 n1 e3 mx => ?_)
    · rw [if_pos n0] at hu
      have n2 := numS_ok n0
      refine s_tellsL (l2.fm f3) (by omega) _ (fun g4 b l4 => ?_)
      refine s_tellsL l4 (by rw [List.length_append]; show _ + 1 < 800; omega) _ (fun g5 b' l5 => ?_)
      refine o2.1 g5 _ _ hu ((f3.t.tr b.t).tr b'.t) ?_ ?_ ((c3.tl l.2.1 b).tl l.2.1 b') ?_
      · rw [b'.2 5 (by decide), b.2 5 (by decide), f3.2 5 (by decide)]; exact z5
      · rw [b'.2 6 (by decide), b.2 6 (by decide), f3.2 6 (by decide)]
      · have : ∀ v, mcs [v] = mc1 v ++ mcs [] := fun v => rfl
        rw [this, (mc_num _ n2.2.1).2.1]
        rw [List.append_assoc] at l5
        exact l5
    · rw [if_neg n1] at hu
      obtain ⟨q, mq⟩ := mx
      have e18 : g3 92 18 = nI t := (e3.2.1 18 (by decide) (by decide) (by decide)).trans l2.1
      have e19 : g3 92 19 = nI cs.length := (e3.2.1 19 (by decide) (by decide) (by decide)).trans l2.2.2.1
      refine s_tells e18 l.2.1 e19 (by omega) _ (fun g4 b x1 _ _ => ?_)
      refine s_tells ((b.2 18 (by decide)).trans e18) l.2.1 x1 (by omega) _ (fun g5 b' x2 _ _ => ?_)
      have w5 : g5 92 5 = nI (numS T L 0 9999 (sk T L p)).1 := by rw [b'.2 5 (by decide), b.2 5 (by decide)]; exact e3.2.2.1
      have k3 : (numS T L 0 9999 (sk T L p)).1 ≤ 3 := by
        unfold numS
        split
        · exact (by decide : 1 ≤ 3)
        · split
          · exact (by decide : 2 ≤ 3)
          · exact (by decide : 0 ≤ 3)
      refine o2.2 g5 _ _ hu ((e3.t.tr b.t).tr b'.t) w5 ?_ ⟨?_, q, cs.length + 1 + 1, ?_, mq.2.2.2.1, x2, ?_⟩
      · rw [b'.2 6 (by decide), b.2 6 (by decide)]; exact e3.2.2.2
      · rw [w5]
        exact fun y => n1 ((nI_eq (b := 0) (by omega) (by decide)).mp y)
      · rw [b'.2 4 (by decide), b.2 4 (by decide)]; exact mq.2.2.1
      · omega
  · rw [if_neg z]
    have nd : ¬ (sk T L p < L ∧ isDg (T (sk T L p)) = true) := fun q => z (by rw [if_pos q.1]; exact q.2)
    have ed : de T L (sk T L p) = sk T L p := sc_no nd
    have en : numS T L 0 9999 (sk T L p) = (1, sk T L p, sk T L p, 0) := by
      unfold numS
      rw [ss, if_pos ed]
    rw [en, if_neg (by decide : ¬ (1 : Nat) = 0)] at hu
    refine wif_p rfl (wif_p (by decide) (wif_p (fun q => ?_) ?_))
    · by_cases hlt : sk T L p < L
      · rw [if_pos hlt] at q
        exact y ⟨hlt, q⟩
      · rw [if_neg hlt] at q
        exact absurd q (by decide)
    · refine s_wrong q1 c2.2.2.1 z5 _ (fun g3 e3 e4 => ?_)
      have n5 : g3 92 5 ≠ 0 := by rw [e3.2.2.1]; decide
      exact o2.2 g3 _ _ hu e3.t e3.2.2.1 e3.2.2.2 ⟨n5, sk T L p, cs.length, e4.trans c2.2.2.1, hs, (e3.2.1 19 (by decide) (by decide) (by decide)).trans l2.2.2.1, by omega⟩
end M2
