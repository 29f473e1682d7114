/-! a toll's numbers and conditions, by the program -/
def cnt (v : Int32) : Nat := (optT v).length
theorem cnt_0 : cnt 0 = 0 := rfl
theorem cnt_n {v : Int32} (h : v ≠ 0) : cnt v = 1 := by unfold cnt; rw [optT_n h]; rfl
section P4
variable {T : Nat → Int32} {L : Nat} {W : Nat → Int32 → Hp → (Int32 → Hp → Prop) → Prop} {p1 : Int32}
theorem opE_1 {c1 c2 t1 t2 : Int32} {p : Nat} (h1 : sk T L p < L) (h2 : T (sk T L p) = c1) : opE T L c1 c2 t1 t2 p = some (t1, sk T L p + 1) := if_pos ⟨h1, h2⟩
theorem opE_2 {c1 c2 t1 t2 : Int32} {p : Nat} (h0 : ¬ (sk T L p < L ∧ T (sk T L p) = c1)) (h1 : sk T L p < L) (h2 : T (sk T L p) = c2) : opE T L c1 c2 t1 t2 p = some (t2, sk T L p + 1) := by
  unfold opE
  rw [if_neg h0, if_pos ⟨h1, h2⟩]
theorem opE_0 {c1 c2 t1 t2 : Int32} {p : Nat} (h0 : ¬ (sk T L p < L ∧ T (sk T L p) = c1)) (h1 : ¬ (sk T L p < L ∧ T (sk T L p) = c2)) : opE T L c1 c2 t1 t2 p = none := by
  unfold opE
  rw [if_neg h0, if_neg h1]
/-- what waits is told, if there is some -/
theorem s_addO {h : Hp} {p : Nat} {toks : List Int32} (c : CT h T L p) (l : LL 30 h toks) {v : Int32} (hl : toks.length + cnt v ≤ 500) (K : Hp → Prop) (hQ : ∀ h', fl h h' → CT h' T L p → LL 30 h' (toks ++ optT v) → K h') : wif (v = 0) (K h) (w_X0_add 30 v h K) := by
  refine ⟨fun z => ?_, fun z => ?_⟩
  · subst z
    exact hQ h fl.rf c (by rw [optT_0, List.append_nil]; exact l)
  · rw [cnt_n z] at hl
    refine s_addT c l (by omega) K (fun h' f c' l' => hQ h' f c' (by rw [optT_n z]; exact l'))
def NInv (Ea Eb : Nat → Option (Int32 × Nat)) (U : Rl) (T : Nat → Int32) (L : Nat) (Q : Int32 → Hp → Prop) (n : Nat) (s : Int32 × Int32 × Int32 × Hp) : Prop := ∃ p toks Rf, CT s.2.2.2 T L p ∧ LL 30 s.2.2.2 toks ∧ toks.length + cnt s.1 + cnt s.2.1 ≤ p ∧ Rst T L Ea Eb U s.1 s.2.1 p Rf ∧ outT s.2.2.2 T L toks Rf Q ∧ n ≤ p ∧ s.2.2.1 = nI n
theorem p_b89 {U : Rl} {v4 : Int32} {K7 : Int32 × Int32 × Int32 × Hp → Prop} {g : Hp} {q n : Nat} {toks : List Int32} {R3 : TR} {Q : Int32 → Hp → Prop} (c : CT g T L q) (l : LL 30 g toks) (hl : toks.length ≤ q) (ht : Tl T L (E2 T L) (Ch T L (E1 T L) U) q R3) (o : outT g T L toks R3 Q) (hn : n ≤ q) (e4 : v4 = nI n) (hK : ∀ s', NInv (E1 T L) (E2 T L) U T L Q (n + 1) s' → K7 s') : w_X1_number_o_b89 W p1 0 v4 K7 g Q := by
  subst e4
  have hk : q ≤ sk T L q := sc_ge isB T L q
  have ss : sk T L (sk T L q) = sk T L q := sc_id isB T L q
  have go : ∀ (t : Int32) (g' : Hp), fl g g' → LL 30 g' toks → t ≠ 0 → E2 T L q = some (t, sk T L q + 1) → CT g' T L (sk T L q + 1) → K7 (t, 0, nI n + 1, g') := by
    intro t g' f l' h0 he c'
    rcases Tl_2 ht with ⟨e, _⟩ | ⟨t', q', e, hr⟩
    · rw [he] at e
      exact nomatch e
    · rw [he] at e
      injection e with e
      injection e with ea eb
      subst ea eb
      exact hK _ ⟨_, toks, R3, c', l', by simp only [cnt_0, cnt_n h0]; omega, hr h0, o.to f, by omega, nI_1 n⟩
  unfold w_X1_number_o_b89
  refine s_sign c 43 _ (fun g1 f1 y1 y2 c1 => ?_) (fun g1 f1 y0 c1 => ?_)
  · refine wif_n i10 ?_
    unfold w_X1_number_o_b124
    refine wif_p (by decide) ?_
    unfold w_X1_number_o_b131
    exact go (-7) g1 f1.fl (l.same f1.1) (by decide) (opE_1 y1 y2) c1
  · refine wif_p rfl ?_
    refine s_sign c1 45 _ (fun g2 f2 y1 y2 c2 => ?_) (fun g2 f2 y c2 => ?_)
    · rw [ss] at y1 y2 c2
      rw [if_neg i10, wlet_e]
      refine wif_p (by decide) ?_
      unfold w_X1_number_o_b131
      exact go (-8) g2 (f1.tr f2).fl (l.same (f1.tr f2).1) (by decide) (opE_2 y0 y1 y2) c2
    · rw [ss] at y c2
      rw [if_pos rfl, wlet_e]
      refine wif_n (not_not_intro rfl) ?_
      rw [b11]
      rcases Tl_2 ht with ⟨_, e⟩ | ⟨t', q', e, hr⟩
      · exact o.1 g2 (sk T L q) [] e (f1.tr f2).fl c2 (by rw [List.append_nil]; exact l.same (f1.tr f2).1)
      · have : E2 T L q = none := opE_0 y0 y
        rw [this] at e
        exact nomatch e
theorem p_b37 {U : Rl} {v2 v4 : Int32} {K7 : Int32 × Int32 × Int32 × Hp → Prop} {g : Hp} {q n : Nat} {toks : List Int32} {R1 R2 : TR} {Q : Int32 → Hp → Prop} (c : CT g T L q) (l : LL 30 g toks) (hl : toks.length + cnt v2 ≤ q) (ht : Tl T L (E1 T L) U q R1) (ha : Aft T L (E1 T L) (E2 T L) U v2 R1 R2) (o : outT g T L toks R2 Q) (hn : n ≤ q) (e4 : v4 = nI n) (hK : ∀ s', NInv (E1 T L) (E2 T L) U T L Q (n + 1) s' → K7 s') : w_X1_number_o_b37 W p1 v2 v4 K7 g Q := by
  have hk : q ≤ sk T L q := sc_ge isB T L q
  have ss : sk T L (sk T L q) = sk T L q := sc_id isB T L q
  have hqL : sk T L q ≤ L := sc_le isB T c.2.2.2.1
  have hL := c.2.1
  have go : ∀ (t : Int32) (g' : Hp), fl g g' → LL 30 g' toks → t ≠ 0 → E1 T L q = some (t, sk T L q + 1) → CT g' T L (sk T L q + 1) → K7 (v2, t, v4 + 1, g') := by
    intro t g' f l' h0 he c'
    subst e4
    rcases Tl_1 ht ha with ⟨e, _⟩ | ⟨t', q', e, hr⟩
    · rw [he] at e
      exact nomatch e
    · rw [he] at e
      injection e with e
      injection e with ea eb
      subst ea eb
      exact hK _ ⟨_, toks, R2, c', l', by simp only [cnt_n h0]; omega, hr h0, o.to f, by omega, nI_1 n⟩
  unfold w_X1_number_o_b37
  refine s_sign c 42 _ (fun g1 f1 y1 y2 c1 => ?_) (fun g1 f1 y0 c1 => ?_)
  · refine wif_n i10 ?_
    unfold w_X1_number_o_b72
    refine wif_p (by decide) ?_
    unfold w_X1_number_o_b131
    exact go (-9) g1 f1.fl (l.same f1.1) (by decide) (opE_1 y1 y2) c1
  · refine wif_p rfl ?_
    refine s_sign c1 47 _ (fun g2 f2 y1 y2 c2 => ?_) (fun g2 f2 y c2 => ?_)
    · rw [ss] at y1 y2 c2
      rw [if_neg i10, wlet_e]
      refine wif_p (by decide) ?_
      unfold w_X1_number_o_b131
      exact go (-10) g2 (f1.tr f2).fl (l.same (f1.tr f2).1) (by decide) (opE_2 y0 y1 y2) c2
    · rw [ss] at y c2
      rw [if_pos rfl, wlet_e]
      refine wif_n (not_not_intro rfl) ?_
      rcases Tl_1 ht ha with ⟨_, R3, t3, e3⟩ | ⟨t', q', e, hr⟩
      · subst e3
        refine s_addO c2 (l.same (f1.tr f2).1) (by omega) _ (fun g3 f3 c3 l3 => ?_)
        exact p_b89 c3 l3 (by rw [List.length_append]; show _ + cnt v2 ≤ _; omega) t3 ((o.pre).to ((f1.tr f2).fl.tr f3)) (by omega) e4 hK
      · have : E1 T L q = none := opE_0 y0 y
        rw [this] at e
        exact nomatch e
theorem p_number {U : Rl} {D : Nat} (gU : Gd T L false D U) (hU : PSR T L (fun h Q => W 0 p1 h Q) U) : PSR T L (fun h Q => w_X1_number_o W p1 h Q) (NNT T L U) := by
  intro h toks p R Q c l hl hu o
  have hL := c.2.1
  show w_X1_number_o W p1 h Q
  unfold w_X1_number_o w_X1_number_o_b7
  refine wl_run 500 (NInv (E1 T L) (E2 T L) U T L Q) ?_ (Nat.zero_le _) ⟨p, toks, R, c, l, by simp only [cnt_0]; omega, Rst_0 hu, o, Nat.zero_le _, rfl⟩
  rintro n ⟨v2, v3, v4, g⟩ K hn ⟨q, tk, Rf, cq, lq, hc, hr, oq, hnq, e4⟩ hK
  simp only at cq lq hc hr oq e4
  have hqL := cq.2.2.2.1
  show w_X1_number_o_l7 W p1 Q K v2 v3 v4 g
  unfold w_X1_number_o_l7
  refine wif_n (by rw [e4, q500, nI_ltI (by decide) (by omega)]; omega) ?_
  rcases hr with ⟨z, h1, h2⟩ | ⟨q1, ts, R1, R2, h1, h2, h3, h4⟩
  · refine hU g tk q _ _ cq lq (by omega) h1 ⟨(fun _ _ _ e => nomatch e), fun h' k x e f => ?_⟩
    refine wif_n (not_not_intro rfl) ?_
    rw [b01]
    refine oq.2 h' k x ?_ f
    rw [h2]
    exact e
  · obtain ⟨u1, u2, u3, u4, _⟩ := (gU q hqL).2.1 _ _ h1
    refine hU g tk q _ _ cq lq (by omega) h1 ⟨fun h' q' ts' e f c' l' => ?_, (fun _ _ _ e => nomatch e)⟩
    injection e with e
    injection e with ea eb
    subst ea eb
    refine wif_p i10 ?_
    subst h4
    refine s_addO c' l' (by rw [List.length_append]; omega) (fun g3 => w_X1_number_o_b37 W p1 v2 v4 K g3 Q) (fun g3 f3 c3 l3 => ?_)
    refine p_b37 c3 l3 (by rw [List.length_append, List.length_append]; show _ + _ + cnt v3 + _ ≤ _; omega) h2 h3 ?_ (by omega) e4 (hK ?_)
    · rw [List.append_assoc]
      exact (oq.pre).to (f.tr f3)
    · omega
theorem wdE_1 {i : Nat} {t : Int32} {p : Nat} (h : isW T L (wOf i) p = true) : wdE T L i t p = some (t, le T L (sk T L p)) := if_pos h
theorem wdE_0 {i : Nat} {t : Int32} {p : Nat} (h : isW T L (wOf i) p = false) : wdE T L i t p = none := if_neg (isW_no h)
def CIv (Ea Eb : Nat → Option (Int32 × Nat)) (U : Rl) (T : Nat → Int32) (L : Nat) (Q : Int32 → Hp → Prop) (n : Nat) (s : Int32 × Int32 × Int32 × Hp) : Prop := ∃ p toks Rf v2 v3, CT s.2.2.2 T L p ∧ LL 30 s.2.2.2 toks ∧ toks.length + cnt v2 + cnt v3 ≤ p ∧ Rst T L Ea Eb U v2 v3 p Rf ∧ outT s.2.2.2 T L toks Rf Q ∧ n ≤ p ∧ s.2.2.1 = nI n ∧ ((s.1 = 0 ∧ v2 = 0) ∨ (s.1 = 1 ∧ v2 = -16)) ∧ ((s.2.1 = 0 ∧ v3 = 0) ∨ (s.2.1 = 1 ∧ v3 = -15))
/-- a flag for what waits -/
theorem s_addF {h : Hp} {p : Nat} {toks : List Int32} (c : CT h T L p) (l : LL 30 h toks) {b v t : Int32} (hb : (b = 0 ∧ v = 0) ∨ (b = 1 ∧ v = t)) (hl : toks.length + cnt v ≤ 500) (ht : t ≠ 0) (K : Hp → Prop) (hQ : ∀ h', fl h h' → CT h' T L p → LL 30 h' (toks ++ optT v) → K h') : wif (b = 0) (K h) (w_X0_add 30 t h K) := by
  rcases hb with ⟨rfl, rfl⟩ | ⟨rfl, rfl⟩
  · exact wif_p rfl (hQ h fl.rf c (by rw [optT_0, List.append_nil]; exact l))
  · rw [cnt_n ht] at hl
    refine wif_n i10 (s_addT c l (by omega) K (fun h' f c' l' => hQ h' f c' (by rw [optT_n ht]; exact l')))
theorem p_b65 {U : Rl} {v4 : Int32} {K7 : Int32 × Int32 × Int32 × Hp → Prop} {g : Hp} {q n : Nat} {toks : List Int32} {R3 : TR} {Q : Int32 → Hp → Prop} (c : CT g T L q) (l : LL 30 g toks) (hl : toks.length ≤ q) (ht : Tl T L (E4 T L) (Ch T L (E3 T L) U) q R3) (o : outT g T L toks R3 Q) (hn : n ≤ q) (e4 : v4 = nI n) (hK : ∀ s', CIv (E3 T L) (E4 T L) U T L Q (n + 1) s' → K7 s') : w_X1_condition_o_b65 W p1 0 v4 K7 g Q := by
  subst e4
  have hk : q ≤ sk T L q := sc_ge isB T L q
  have hl9 : sk T L q ≤ le T L (sk T L q) := sc_ge isLt T L (sk T L q)
  unfold w_X1_condition_o_b65
  refine s_word c (by decide) _ (fun g1 f1 w c1 => ?_) (fun g1 f1 w c1 => ?_)
  · refine wif_p i10 ?_
    unfold w_X1_condition_o_b81
    have w1 := isW_le w
    have w2 : (wOf 23).length = 2 := by decide
    rcases Tl_2 ht with ⟨e, _⟩ | ⟨t', q', e, hr⟩
    · rw [show E4 T L q = some (-16, le T L (sk T L q)) from wdE_1 w] at e
      exact nomatch e
    · rw [show E4 T L q = some (-16, le T L (sk T L q)) from wdE_1 w] at e
      injection e with e
      injection e with ea eb
      subst ea eb
      have h0 : (-16 : Int32) ≠ 0 := by decide
      exact hK _ ⟨_, toks, R3, -16, 0, c1, l.same f1.1, by simp only [cnt_0, cnt_n h0]; omega, hr h0, o.to f1.fl, by omega, nI_1 n, Or.inr ⟨rfl, rfl⟩, Or.inl ⟨rfl, rfl⟩⟩
  · refine wif_n (not_not_intro rfl) ?_
    rw [b11]
    rcases Tl_2 ht with ⟨_, e⟩ | ⟨t', q', e, hr⟩
    · exact o.1 g1 (sk T L q) [] e f1.fl c1 (by rw [List.append_nil]; exact l.same f1.1)
    · rw [show E4 T L q = none from wdE_0 w] at e
      exact nomatch e
theorem p_b38 {U : Rl} {b2 v2 v4 : Int32} {K7 : Int32 × Int32 × Int32 × Hp → Prop} {g : Hp} {q n : Nat} {toks : List Int32} {R1 R2 : TR} {Q : Int32 → Hp → Prop} (hb : (b2 = 0 ∧ v2 = 0) ∨ (b2 = 1 ∧ v2 = -16)) (c : CT g T L q) (l : LL 30 g toks) (hl : toks.length + cnt v2 ≤ q) (ht : Tl T L (E3 T L) U q R1) (ha : Aft T L (E3 T L) (E4 T L) U v2 R1 R2) (o : outT g T L toks R2 Q) (hn : n ≤ q) (e4 : v4 = nI n) (hK : ∀ s', CIv (E3 T L) (E4 T L) U T L Q (n + 1) s' → K7 s') : w_X1_condition_o_b38 W p1 b2 v4 K7 g Q := by
  have hk : q ≤ sk T L q := sc_ge isB T L q
  have hl9 : sk T L q ≤ le T L (sk T L q) := sc_ge isLt T L (sk T L q)
  have hqL : sk T L q ≤ L := sc_le isB T c.2.2.2.1
  have hL := c.2.1
  unfold w_X1_condition_o_b38
  refine s_word c (by decide) _ (fun g1 f1 w c1 => ?_) (fun g1 f1 w c1 => ?_)
  · refine wif_p i10 ?_
    unfold w_X1_condition_o_b81
    have w1 := isW_le w
    have w2 : (wOf 22).length = 3 := by decide
    subst e4
    rcases Tl_1 ht ha with ⟨e, _⟩ | ⟨t', q', e, hr⟩
    · rw [show E3 T L q = some (-15, le T L (sk T L q)) from wdE_1 w] at e
      exact nomatch e
    · rw [show E3 T L q = some (-15, le T L (sk T L q)) from wdE_1 w] at e
      injection e with e
      injection e with ea eb
      subst ea eb
      have h0 : (-15 : Int32) ≠ 0 := by decide
      exact hK _ ⟨_, toks, R2, v2, -15, c1, l.same f1.1, by simp only [cnt_n h0]; omega, hr h0, o.to f1.fl, by omega, nI_1 n, hb, Or.inr ⟨rfl, rfl⟩⟩
  · refine wif_n (not_not_intro rfl) ?_
    rcases Tl_1 ht ha with ⟨_, R3, t3, e3⟩ | ⟨t', q', e, hr⟩
    · subst e3
      refine s_addF c1 (l.same f1.1) hb (by omega) (by decide) (fun g3 => w_X1_condition_o_b65 W p1 0 v4 K7 g3 Q) (fun g3 f3 c3 l3 => ?_)
      exact p_b65 c3 l3 (by rw [List.length_append]; show _ + cnt v2 ≤ _; omega) t3 ((o.pre).to (f1.fl.tr f3)) (by omega) e4 hK
    · rw [show E3 T L q = none from wdE_0 w] at e
      exact nomatch e
theorem p_cond {U : Rl} {D : Nat} (gU : Gd T L true D U) (hU : PSR T L (fun h Q => W 2 p1 h Q) U) : PSR T L (fun h Q => w_X1_condition_o W p1 h Q) (DDT T L U) := by
  intro h toks p R Q c l hl hu o
  have hL := c.2.1
  show w_X1_condition_o W p1 h Q
  unfold w_X1_condition_o w_X1_condition_o_b7
  refine wl_run 500 (CIv (E3 T L) (E4 T L) U T L Q) ?_ (Nat.zero_le _) ⟨p, toks, R, 0, 0, c, l, by simp only [cnt_0]; omega, Rst_0 hu, o, Nat.zero_le _, rfl, Or.inl ⟨rfl, rfl⟩, Or.inl ⟨rfl, rfl⟩⟩
  rintro n ⟨b2, b3, v4, g⟩ K hn ⟨q, tk, Rf, v2, v3, cq, lq, hc, hr, oq, hnq, e4, hb2, hb3⟩ hK
  simp only at cq lq hc hr oq e4 hb2 hb3
  have hqL := cq.2.2.2.1
  show w_X1_condition_o_l7 W p1 Q K b2 b3 v4 g
  unfold w_X1_condition_o_l7
  refine wif_n (by rw [e4, q500, nI_ltI (by decide) (by omega)]; omega) ?_
  rcases hr with ⟨z, h1, h2⟩ | ⟨q1, ts, R1, R2, h1, h2, h3, h4⟩
  · refine hU g tk q _ _ cq lq (by omega) h1 ⟨(fun _ _ _ e => nomatch e), fun h' k x e f => ?_⟩
    refine wif_n (not_not_intro rfl) ?_
    rw [b01]
    refine oq.2 h' k x ?_ f
    rw [h2]
    exact e
  · obtain ⟨u1, u2, u3, u4, _⟩ := (gU q hqL).2.1 _ _ h1
    refine hU g tk q _ _ cq lq (by omega) h1 ⟨fun h' q' ts' e f c' l' => ?_, (fun _ _ _ e => nomatch e)⟩
    injection e with e
    injection e with ea eb
    subst ea eb
    refine wif_p i10 ?_
    subst h4
    refine s_addF c' l' hb3 (by rw [List.length_append]; omega) (by decide) (fun g3 => w_X1_condition_o_b38 W p1 b2 v4 K g3 Q) (fun g3 f3 c3 l3 => ?_)
    refine p_b38 hb2 c3 l3 (by rw [List.length_append, List.length_append]; show _ + _ + cnt v3 + _ ≤ _; omega) h2 h3 ?_ (by omega) e4 (hK ?_)
    · rw [List.append_assoc]
      exact (oq.pre).to (f.tr f3)
    · omega
theorem p_b182 {h : Hp} {p : Nat} {toks : List Int32} {v : Int32} {N : Rl} {D : Nat} (gN : Gd T L false D N) (hN : PSR T L (fun h Q => W 1 p1 h Q) N) {R2 : TR} {Q : Int32 → Hp → Prop} (c : CT h T L p) (l : LL 30 h toks) (hl : toks.length + 1 ≤ p) (h2 : N p R2) (o : outT h T L toks (postT [v] R2) Q) : w_X1_clause_o_b182 W p1 v h Q := by
  have hL := c.2.1
  unfold w_X1_clause_o_b182
  refine hN h toks p R2 _ c l (by omega) h2 ⟨fun h' q ts e f c' l' => ?_, fun h' k x e f => ?_⟩
  · subst e
    obtain ⟨u1, u2, u3, u4, _⟩ := (gN p c.2.2.2.1).2.1 _ _ h2
    refine wif_p i10 (s_addT c' l' (by rw [List.length_append]; omega) _ (fun h3 f3 c3 l3 => ?_))
    rw [b11]
    exact o.1 h3 q (ts ++ [v]) rfl (f.tr f3) c3 (by rw [← List.append_assoc]; exact l3)
  · subst e
    refine wif_n (not_not_intro rfl) ?_
    rw [b01]
    exact o.2 h' k x rfl f
theorem p_clause {r : Nat} (hr : r ≤ 6) (e : p1 = nI (6 - r)) {Dc C : Option Rl} {N : Rl} {D : Nat} (gN : Gd T L false D N) (hN : PSR T L (fun h Q => W 1 p1 h Q) N) (gC : ∀ X, C = some X → ∃ b D, Gd T L b D X) (hC : ∀ X, C = some X → 1 ≤ r ∧ PSR T L (fun h Q => W 2 (p1 + 1) h Q) X) (hC0 : C = none → r = 0) (hD : ∀ X, Dc = some X → 1 ≤ r ∧ PSR T L (fun h Q => W 3 (p1 + 1) h Q) X) (hD0 : Dc = none → r = 0) : PSR T L (fun h Q => w_X1_clause_o W p1 h Q) (ClT T L Dc C N) := by
  intro h toks p R Q c l hl hu o
  have ss : sk T L (sk T L p) = sk T L p := sc_id isB T L p
  have hk : p ≤ sk T L p := sc_ge isB T L p
  have hpL := c.2.2.2.1
  have hL := c.2.1
  have hs : sk T L p ≤ L := sc_le isB T hpL
  have six : 1 ≤ r → p1 < 6 := fun r1 => by
    rw [e, q6]
    exact (nI_ltI (by omega) (by decide)).mpr (by omega)
  have six0 : r = 0 → ¬ p1 < 6 := fun r1 => by
    subst r1 e
    decide
  show w_X1_clause_o W p1 h Q
  unfold w_X1_clause_o
  refine s_start c _ (fun h1 f1 c1 => ?_)
  refine s_word c1 (by decide) _ (fun h2 f2 w c2 => ?_) (fun h2 f2 w c2 => ?_)
  · rw [isW_sk ss] at w
    rw [ss] at c2
    unfold ClT at hu
    rw [if_pos w] at hu
    have w1 := isW_le w
    have w2 : (wOf 21).length = 3 := by decide
    have f2' := f1.tr f2
    refine wif_n i10 ?_
    cases C with
    | none =>
      have hu2 : R = .inr (3, sk T L p) := hu
      refine wif_n (six0 (hC0 rfl)) (s_fail q3 rfl _ (fun h3 e3 => ?_))
      rw [b01]
      exact o.2 h3 _ _ hu2 (f2'.fl.fx e3.fx)
    | some X =>
      obtain ⟨r1, hW⟩ := hC X rfl
      obtain ⟨b, D', gX⟩ := gC X rfl
      obtain ⟨R1, u1, u2⟩ := (hu : ∃ R1, X (le T L (sk T L p)) R1 ∧ R = postT [-14] R1)
      refine wif_p (six r1) (hW h2 toks _ R1 _ c2 (l.same f2'.1) (by omega) u1 ⟨fun h' q ts e1 f c' l' => wif_p i10 ?_, fun h' k x e1 f => wif_n (not_not_intro rfl) ?_⟩)
      · subst e1
        obtain ⟨y1, y2, y3, y4, _⟩ := (gX _ c2.2.2.2.1).2.1 _ _ u1
        refine s_addT c' l' (by rw [List.length_append]; omega) _ (fun h3 f3 c3 l3 => ?_)
        rw [b11]
        exact o.1 h3 q (ts ++ [-14]) u2 ((f2'.fl.tr f).tr f3) c3 (by rw [← List.append_assoc]; exact l3)
      · subst e1
        rw [b01]
        exact o.2 h' k x u2 (f2'.fl.fx f)
  rw [isW_sk ss] at w
  rw [ss] at c2
  refine wif_p rfl ?_
  refine s_sign c2 91 _ (fun h3 f3 y1 y2 c3 => ?_) (fun h3 f3 y c3 => ?_)
  · rw [ss] at y1 y2 c3
    unfold ClT at hu
    rw [if_neg (isW_no w), if_pos ⟨y1, y2⟩] at hu
    have f2' := (f1.tr f2).tr f3
    refine wif_n i10 ?_
    cases Dc with
    | none =>
      have hu2 : R = .inr (3, sk T L p) := hu
      refine wif_n (six0 (hD0 rfl)) (s_fail q3 rfl _ (fun h3 e3 => ?_))
      rw [b01]
      exact o.2 h3 _ _ hu2 (f2'.fl.fx e3.fx)
    | some X =>
      obtain ⟨r1, hW⟩ := hD X rfl
      obtain ⟨R1, u1, u2⟩ := (hu : ∃ R1, X (sk T L p + 1) R1 ∧ R = cloT T L 93 R1)
      refine wif_p (six r1) (hW h3 toks _ R1 _ c3 (l.same f2'.1) (by omega) u1 ⟨fun h' q ts e1 f c' l' => wif_n i10 ?_, fun h' k x e1 f => wif_p rfl ?_⟩)
      · subst e1
        refine s_must c' 93 _ (fun h3 f3 w1 w2 c3 => ?_) (fun h3 f3 w => ?_)
        · rw [if_neg i10, b11]
          refine o.1 h3 _ ts ?_ ((f2'.fl.tr f).tr f3.fl) c3 (l'.same f3.1)
          rw [u2]
          exact if_pos ⟨w1, w2⟩
        · rw [if_pos rfl, b01]
          refine o.2 h3 1 (sk T L q) ?_ ((f2'.fl.tr f).fx f3.fx)
          rw [u2]
          exact if_neg w
      · subst e1
        rw [b01]
        exact o.2 h' k x u2 (f2'.fl.fx f)
  rw [ss] at y c3
  unfold ClT at hu
  rw [if_neg (isW_no w), if_neg y] at hu
  have f3' := (f1.tr f2).tr f3
  refine wif_p rfl ?_
  rcases hu with ⟨z, h1, hu⟩ | ⟨q1, ts, h1, hu⟩
  · refine hN h3 toks _ _ _ c3 (l.same f3'.1) (by omega) h1 ⟨(fun _ _ _ e => nomatch e), fun h' k x e f => wif_n (not_not_intro rfl) ?_⟩
    rw [b01]
    refine o.2 h' k x ?_ (f3'.fl.fx f)
    rw [hu]
    exact e
  · obtain ⟨y1, y2, y3, y4, _⟩ := (gN _ hs).2.1 _ _ h1
    have hk1 : q1 ≤ sk T L q1 := sc_ge isB T L q1
    have s1 : sk T L (sk T L q1) = sk T L q1 := sc_id isB T L q1
    refine hN h3 toks _ _ _ c3 (l.same f3'.1) (by omega) h1 ⟨fun h' q' ts' e f c' l' => wif_p i10 ?_, (fun _ _ _ e => nomatch e)⟩
    injection e with e
    injection e with ea eb
    subst ea eb
    have f4 := f3'.fl.tr f
    have go : ∀ (t : Int32) (g : Hp), fc h' g → CT g T L (sk T L q1 + 1) → sk T L q1 < L → cmpT (T (sk T L q1)) = t → t ≠ 0 → w_X1_clause_o_b182 W p1 t g Q := by
      intro t g fg cg z1 z2 z3
      subst z2
      rcases hu with ⟨_, _, R2, n2, hu⟩ | ⟨hu, _⟩
      · subst hu
        refine p_b182 gN hN cg (l'.same fg.1) (by rw [List.length_append]; omega) n2 ?_
        exact (o.to (f4.tr fg.fl)).pre
      · exact absurd ⟨z1, z3⟩ hu
    refine s_sign c' 60 _ (fun h4 f5 y1 y2 c4 => ?_) (fun h4 f5 y60 c4 => ?_)
    · refine wif_n i10 ?_
      unfold w_X1_clause_o_b161
      refine wif_p (by decide) (go (-11) h4 f5 c4 y1 ?_ (by decide))
      rw [y2]; rfl
    refine wif_p rfl ?_
    refine s_sign c4 62 _ (fun h5 f6 y1 y2 c5 => ?_) (fun h5 f6 y62 c5 => ?_)
    · rw [s1] at y1 y2 c5
      rw [if_neg i10, wlet_e]
      refine wif_p (by decide) (go (-12) h5 (f5.tr f6) c5 y1 ?_ (by decide))
      rw [y2]; rfl
    rw [s1] at y62 c5
    rw [if_pos rfl, wlet_e]
    refine wif_n (not_not_intro rfl) ?_
    refine s_must c5 61 _ (fun h6 f7 y1 y2 c6 => ?_) (fun h6 f7 y61 => ?_)
    · rw [s1] at y1 y2 c6
      refine wif_p i10 (go (-13) h6 ((f5.tr f6).tr f7) c6 y1 ?_ (by decide))
      rw [y2]; rfl
    · rw [s1] at y61 f7
      refine wif_n (not_not_intro rfl) ?_
      rw [b01]
      rcases hu with ⟨z1, z2, _⟩ | ⟨_, hu⟩
      · refine absurd ?_ z2
        unfold cmpT
        rw [if_neg (fun z => y60 ⟨z1, z⟩), if_neg (fun z => y62 ⟨z1, z⟩), if_neg (fun z => y61 ⟨z1, z⟩)]
      · exact o.2 h6 1 _ hu ((f4.tr (f5.tr f6).fl).fx f7.fx)
end P4
/-- all of it, by the depth left -/
theorem p_all {T : Nat → Int32} {L : Nat} : ∀ r, r ≤ 6 → (∀ d, 2 * r + 1 ≤ d → PSR T L (fun h Q => wR_X1 d 0 (nI (6 - r)) h Q) (U0 T L r)) ∧ (∀ d, 2 * r + 2 ≤ d → PSR T L (fun h Q => wR_X1 d 1 (nI (6 - r)) h Q) (NNT T L (U0 T L r))) ∧ (∀ d, 2 * r + 3 ≤ d → PSR T L (fun h Q => wR_X1 d 2 (nI (6 - r)) h Q) (C0 T L r)) ∧ (∀ d, 2 * r + 4 ≤ d → PSR T L (fun h Q => wR_X1 d 3 (nI (6 - r)) h Q) (DDT T L (C0 T L r)))
  | 0, h6 => by
    have hU : ∀ d, 2 * 0 + 1 ≤ d → PSR T L (fun h Q => wR_X1 d 0 (nI (6 - 0)) h Q) (U0 T L 0) := fun d hd => by
      obtain ⟨d, rfl⟩ : ∃ d', d = d' + 1 := ⟨d - 1, by omega⟩
      exact p_unit (by decide) rfl (fun N' h => nomatch h) (fun _ => rfl)
    have hN : ∀ d, 2 * 0 + 2 ≤ d → PSR T L (fun h Q => wR_X1 d 1 (nI (6 - 0)) h Q) (NNT T L (U0 T L 0)) := fun d hd => by
      obtain ⟨d, rfl⟩ : ∃ d', d = d' + 1 := ⟨d - 1, by omega⟩
      exact p_number (Gd_U0 0) (hU d (by omega))
    have hC : ∀ d, 2 * 0 + 3 ≤ d → PSR T L (fun h Q => wR_X1 d 2 (nI (6 - 0)) h Q) (C0 T L 0) := fun d hd => by
      obtain ⟨d, rfl⟩ : ∃ d', d = d' + 1 := ⟨d - 1, by omega⟩
      exact p_clause (by decide) rfl (Gd_N0 0) (hN d (by omega)) (fun X h => nomatch h) (fun X h => nomatch h) (fun _ => rfl) (fun X h => nomatch h) (fun _ => rfl)
    refine ⟨hU, hN, hC, fun d hd => ?_⟩
    obtain ⟨d, rfl⟩ : ∃ d', d = d' + 1 := ⟨d - 1, by omega⟩
    exact p_cond (Gd_C0 0) (hC d (by omega))
  | r + 1, h6 => by
    obtain ⟨aU, aN, aC, aD⟩ := p_all (T := T) (L := L) r (by omega)
    have e1 : nI (6 - (r + 1)) + 1 = nI (6 - r) := by
      rw [nI_1]
      exact congrArg nI (by omega)
    have hU : ∀ d, 2 * (r + 1) + 1 ≤ d → PSR T L (fun h Q => wR_X1 d 0 (nI (6 - (r + 1))) h Q) (U0 T L (r + 1)) := fun d hd => by
      obtain ⟨d, rfl⟩ : ∃ d', d = d' + 1 := ⟨d - 1, by omega⟩
      refine p_unit (r := r + 1) h6 rfl (fun N' h => ⟨by omega, ?_⟩) (fun h => nomatch h)
      injection h with h
      subst h
      rw [e1]
      exact aN d (by omega)
    have hN : ∀ d, 2 * (r + 1) + 2 ≤ d → PSR T L (fun h Q => wR_X1 d 1 (nI (6 - (r + 1))) h Q) (NNT T L (U0 T L (r + 1))) := fun d hd => by
      obtain ⟨d, rfl⟩ : ∃ d', d = d' + 1 := ⟨d - 1, by omega⟩
      exact p_number (Gd_U0 (r + 1)) (hU d (by omega))
    have hC : ∀ d, 2 * (r + 1) + 3 ≤ d → PSR T L (fun h Q => wR_X1 d 2 (nI (6 - (r + 1))) h Q) (C0 T L (r + 1)) := fun d hd => by
      obtain ⟨d, rfl⟩ : ∃ d', d = d' + 1 := ⟨d - 1, by omega⟩
      refine p_clause (r := r + 1) h6 rfl (Gd_N0 (r + 1)) (hN d (by omega)) (fun X h => ?_) (fun X h => ⟨by omega, ?_⟩) (fun h => nomatch h) (fun X h => ⟨by omega, ?_⟩) (fun h => nomatch h)
      · injection h with h
        subst h
        exact ⟨_, _, Gd_C0 r⟩
      · injection h with h
        subst h
        rw [e1]
        exact aC d (by omega)
      · injection h with h
        subst h
        rw [e1]
        exact aD d (by omega)
    refine ⟨hU, hN, hC, fun d hd => ?_⟩
    obtain ⟨d, rfl⟩ : ∃ d', d = d' + 1 := ⟨d - 1, by omega⟩
    exact p_cond (Gd_C0 (r + 1)) (hC d (by omega))
