/-! a toll's text, by the model: codes told, and chains -/
def LM (t : Nat) (g : Hp) (cs : List Int32) : Prop := g 92 18 = nI t ∧ t < 4 ∧ g 92 19 = nI cs.length ∧ ∀ j, j < cs.length → cs[j]? = some (g (135 + t) j)
def gt (t : Nat) (g g' : Hp) : Prop := (∀ q, q ≠ 92 → q ≠ 135 + t → g' q = g q) ∧ (∀ i, i ≠ 4 → i ≠ 5 → i ≠ 6 → i ≠ 19 → g' 92 i = g 92 i)
theorem gt.rf {t : Nat} {g : Hp} : gt t g g := ⟨fun _ _ _ => rfl, fun _ _ _ _ _ => rfl⟩
theorem gt.tr {t : Nat} {g g1 g2 : Hp} (a : gt t g g1) (b : gt t g1 g2) : gt t g g2 := ⟨fun q x y => (b.1 q x y).trans (a.1 q x y), fun i x y z w => (b.2 i x y z w).trans (a.2 i x y z w)⟩
theorem fm.t {t : Nat} {g g' : Hp} (a : fm g g') : gt t g g' := ⟨fun q x _ => a.1 q x, fun i x _ _ _ => a.2 i x⟩
theorem em.t {t : Nat} {g g' : Hp} {k x : Nat} (a : em g g' k x) : gt t g g' := ⟨fun q x _ => a.1 q x, fun i x y z _ => a.2.1 i x y z⟩
def tl1 (t : Nat) (g g' : Hp) : Prop := (∀ q, q ≠ 92 → q ≠ 135 + t → g' q = g q) ∧ (∀ i, i ≠ 19 → g' 92 i = g 92 i)
theorem tl1.t {t : Nat} {g g' : Hp} (a : tl1 t g g') : gt t g g' := ⟨a.1, fun i _ _ _ x => a.2 i x⟩
theorem MX.tl {t : Nat} {g g' : Hp} {T : Nat → Int32} {L p : Nat} (ht : t < 4) (c : MX g T L p) (a : tl1 t g g') : MX g' T L p := ⟨(a.2 2 (by decide)).trans c.1, c.2.1, (a.2 4 (by decide)).trans c.2.2.1, c.2.2.2.1, fun i hi => by rw [a.1 93 (by decide) (by omega)]; exact c.2.2.2.2 i hi⟩
theorem LM.same {t : Nat} {g g' : Hp} {cs : List Int32} (l : LM t g cs) (e1 : g' 92 18 = g 92 18) (e2 : g' 92 19 = g 92 19) (e3 : g' (135 + t) = g (135 + t)) : LM t g' cs := ⟨e1.trans l.1, l.2.1, e2.trans l.2.2.1, by rw [e3]; exact l.2.2.2⟩
theorem LM.fm {t : Nat} {g g' : Hp} {cs : List Int32} (l : LM t g cs) (a : fm g g') : LM t g' cs := l.same (a.2 18 (by decide)) (a.2 19 (by decide)) (a.1 _ (by omega))
theorem s_tells {t c : Nat} {g : Hp} {v : Int32} (e18 : g 92 18 = nI t) (ht : t < 4) (e19 : g 92 19 = nI c) (hc : c < 800) (Q : Hp → Prop) (hQ : ∀ g', tl1 t g g' → g' 92 19 = nI (c + 1) → g' (135 + t) c = v → (∀ i, i ≠ c → g' (135 + t) i = g (135 + t) i) → Q g') : w_X9_tells v g Q := by
  unfold w_X9_tells
  rw [e18, e19]
  refine ⟨vp_in_nI ht (by decide), vp_in_nI hc (by decide), ?_⟩
  rw [nI_clamp (by omega), nI_clamp (by omega), Nat.one_mul, wlet_e, hup_ne (q := 92) (by omega), e19, nI_1, wlet_e]
  refine hQ _ ⟨fun q x y => by rw [hup_ne x, hup_ne y], fun i x => by rw [hup_o (Or.inr x), hup_ne (by omega)]⟩ (hup_eq _ _ _ _) ?_ (fun i hi => ?_)
  · rw [hup_ne (by omega), hup_eq]
  · rw [hup_ne (by omega), hup_o (Or.inr hi)]
theorem s_tellsL {t : Nat} {g : Hp} {cs : List Int32} {v : Int32} (l : LM t g cs) (hc : cs.length < 800) (Q : Hp → Prop) (hQ : ∀ g', tl1 t g g' → LM t g' (cs ++ [v]) → Q g') : w_X9_tells v g Q := by
  refine s_tells l.1 l.2.1 l.2.2.1 hc Q (fun g' a e1 e2 e3 => hQ g' a ⟨(a.2 18 (by decide)).trans l.1, l.2.1, by rw [e1, List.length_append]; rfl, fun j hj => ?_⟩)
  rw [List.length_append] at hj
  have hj2 : j < cs.length + 1 := hj
  by_cases c : j = cs.length
  · subst c
    rw [e2]
    simp
  · rw [e3 j c, List.getElem?_append_left (by omega)]
    exact l.2.2.2 j (by omega)
/-- something is wrong: how far the text and the codes may be -/
def FA (L w : Nat) (k : Int) (g : Hp) : Prop := g 92 5 ≠ 0 ∧ ∃ q c : Nat, g 92 4 = nI q ∧ q ≤ L + w ∧ g 92 19 = nI c ∧ 2 * (c : Int) ≤ 3 * L + k + 1 + 2 * w
theorem FA.mono {L w : Nat} {k k' : Int} {g : Hp} (a : FA L w k g) (h : k ≤ k') : FA L w k' g := by
  obtain ⟨a1, q, c, a2, a3, a4, a5⟩ := a
  exact ⟨a1, q, c, a2, a3, a4, by omega⟩
def outA (t : Nat) (T : Nat → Int32) (L w : Nat) (k : Int) (g : Hp) (cs : List Int32) (R : TR) (Q : Hp → Prop) : Prop := (∀ g' q ts, R = .inl (q, ts) → gt t g g' → g' 92 5 = 0 → g' 92 6 = g 92 6 → MX g' T L q → LM t g' (cs ++ mcs ts) → Q g') ∧ (∀ g' kk x, R = .inr (kk, x) → gt t g g' → g' 92 5 = nI kk → g' 92 6 = nI x → FA L w k g' → Q g')
theorem outA.to {t : Nat} {T : Nat → Int32} {L w : Nat} {k : Int} {g g1 : Hp} {cs : List Int32} {R : TR} {Q : Hp → Prop} (o : outA t T L w k g cs R Q) (a : gt t g g1) (e6 : g1 92 6 = g 92 6) : outA t T L w k g1 cs R Q := ⟨fun g' q ts e f x5 x6 => o.1 g' q ts e (a.tr f) x5 (x6.trans e6), fun g' kk x e f => o.2 g' kk x e (a.tr f)⟩
theorem outA.pre {t : Nat} {T : Nat → Int32} {L w : Nat} {k : Int} {g : Hp} {cs l : List Int32} {R : TR} {Q : Hp → Prop} (o : outA t T L w k g cs (preT l R) Q) : outA t T L w k g (cs ++ mcs l) R Q := by
  refine ⟨fun g' q ts e f x5 x6 c s => ?_, fun g' kk x e f => o.2 g' kk x (by rw [e]; rfl) f⟩
  subst e
  exact o.1 g' q (l ++ ts) rfl f x5 x6 c (by rw [mcs_app, ← List.append_assoc]; exact s)
/-- what the model reads by X at depth d, when all is well -/
def MSr (t : Nat) (T : Nat → Int32) (L w d : Nat) (X : Hp → (Hp → Prop) → Prop) (U : Rl) : Prop := ∀ (g : Hp) (cs : List Int32) (p : Nat) (R : TR) (Q : Hp → Prop) (k : Int), MX g T L p → g 92 5 = 0 → LM t g cs → 2 * (cs.length : Int) ≤ 3 * p + k → k ≤ 0 → g 92 8 = nI d → U p R → outA t T L w k g cs R Q → X g Q
/-- once something is wrong: nothing; or a step and a code -/
def FZ (X : Hp → (Hp → Prop) → Prop) : Prop := ∀ (g : Hp) (Q : Hp → Prop), g 92 5 ≠ 0 → Q g → X g Q
def FO (t : Nat) (X : Hp → (Hp → Prop) → Prop) : Prop := ∀ (g : Hp) (Q : Hp → Prop) (q c : Nat), g 92 5 ≠ 0 → g 92 18 = nI t → t < 4 → g 92 4 = nI q → g 92 19 = nI c → c < 800 → (∀ g', gt t g g' → g' 92 5 = g 92 5 → g' 92 6 = g 92 6 → g' 92 4 = nI (q + 1) → g' 92 19 = nI (c + 1) → Q g') → X g Q
/-- one more code behind a fault -/
theorem s_tellsF {t : Nat} {L w w' : Nat} {k k' : Int} {g : Hp} {v : Int32} (e18 : g 92 18 = nI t) (ht : t < 4) (hL : L ≤ 500) (hw : w ≤ 1) (hk : k ≤ 0) (a : FA L w k g) (hww : w ≤ w') (hk' : k + 2 * w + 2 ≤ k' + 2 * w') (Q : Hp → Prop) (hQ : ∀ g', tl1 t g g' → FA L w' k' g' → Q g') : w_X9_tells v g Q := by
  obtain ⟨a1, q, c, a2, a3, a4, a5⟩ := a
  refine s_tells e18 ht a4 (by omega) Q (fun g' b e1 _ _ => hQ g' b ⟨by rw [b.2 5 (by decide)]; exact a1, q, c + 1, (b.2 4 (by decide)).trans a2, by omega, e1, by omega⟩)
/-! chains with a sign -/
def gch_b (A : Hp → (Hp → Prop) → Prop) (c1 t1 t2 v1 : Int32) (K : Int32 × Hp → Prop) (h : Hp) : Prop := wlet (hup h 92 4 ((h 92 4) + 1)) (fun h1 => A h1 (fun h2 => w_X9_tells (if ¬ v1 = c1 then t2 else t1) h2 (fun h4 => w_X9_signHere h4 (fun z5 h6 => K (z5, h6)))))
def gch_l (A : Hp → (Hp → Prop) → Prop) (c1 c2 t1 t2 : Int32) (Q : Hp → Prop) (K : Int32 × Hp → Prop) (v1 : Int32) (h : Hp) : Prop := wif (¬ (h 92 5) = 0) (Q h) (wif (v1 = c1) (gch_b A c1 t1 t2 v1 K h) (wif (¬ v1 = c2) (Q h) (gch_b A c1 t1 t2 v1 K h)))
def gch (A : Hp → (Hp → Prop) → Prop) (c1 c2 t1 t2 : Int32) (h : Hp) (Q : Hp → Prop) : Prop := A h (fun h1 => w_X9_signHere h1 (fun z2 h3 => wl (fun K (s : Int32 × Hp) => gch_l A c1 c2 t1 t2 Q K s.1 s.2) (z2, h3)))
theorem product_gch (W : Nat → Hp → (Hp → Prop) → Prop) (h : Hp) (Q : Hp → Prop) : w_X9_product_o W h Q = gch (W 0) 42 47 12 13 h Q := rfl
theorem sum_gch (W : Nat → Hp → (Hp → Prop) → Prop) (h : Hp) (Q : Hp → Prop) : w_X9_sum_o W h Q = gch (W 1) 43 45 10 11 h Q := rfl
def GInv (t : Nat) (T : Nat → Int32) (L w d : Nat) (E : Nat → Option (Int32 × Nat)) (U : Rl) (Q : Hp → Prop) (n : Nat) (s : Int32 × Hp) : Prop := (s.2 92 5 ≠ 0 ∧ Q s.2) ∨ ∃ p cs R k, MX s.2 T L (sk T L p) ∧ s.2 92 5 = 0 ∧ LM t s.2 cs ∧ 2 * (cs.length : Int) ≤ 3 * p + k + 1 ∧ k ≤ 0 ∧ s.2 92 8 = nI d ∧ s.1 = (if sk T L p < L then T (sk T L p) else -1) ∧ Tl T L E U p R ∧ outA t T L w k s.2 cs R Q ∧ n ≤ p ∧ p ≤ L
theorem g_FZ {A : Hp → (Hp → Prop) → Prop} {c1 c2 t1 t2 : Int32} (hA : FZ A) : FZ (gch A c1 c2 t1 t2) := by
  intro g Q h5 hQ
  unfold gch
  refine hA g _ h5 ?_
  rw [e_signHereN h5]
  exact wl_run 0 (fun _ (s : Int32 × Hp) => s.2 92 5 ≠ 0 ∧ Q s.2) (fun n s K _ hI _ => wif_p hI.1 hI.2) (Nat.le_refl _) ⟨h5, hQ⟩
section M1
variable {t : Nat} {T : Nat → Int32} {L w d : Nat}
theorem g_chain {A : Hp → (Hp → Prop) → Prop} {c1 c2 t1 t2 k1 k2 : Int32} {U : Rl} {D : Nat} (hw : w ≤ 1) (gU : Gd T L false D U) (hA : MSr t T L w d A U) (hE : Ek L false (opE T L c1 c2 k1 k2)) (m1 : mc1 k1 = [t1]) (m2 : mc1 k2 = [t2]) (hc1 : c1 ≠ -1) (hc2 : c2 ≠ -1) (hcc : c2 ≠ c1) : MSr t T L w d (gch A c1 c2 t1 t2) (Ch T L (opE T L c1 c2 k1 k2) U) := by
  intro g cs p R Q k c h5 l hb hk h8 hu o
  have hL := c.2.1
  have hpL := c.2.2.2.1
  unfold gch
  have fin : ∀ (z2 : Int32) (h3 : Hp), GInv t T L w d (opE T L c1 c2 k1 k2) U Q 0 (z2, h3) → wl (fun K (s : Int32 × Hp) => gch_l A c1 c2 t1 t2 Q K s.1 s.2) (z2, h3) := by
    intro z2 h3 hI
    refine wl_run 502 (GInv t T L w d (opE T L c1 c2 k1 k2) U Q) ?_ (Nat.zero_le _) hI
    clear hI hu o hb h8 l h5 c
    rintro n ⟨v1, u⟩ K hn hI hK
    show gch_l A c1 c2 t1 t2 Q K v1 u
    unfold gch_l
    rcases hI with ⟨h5, hq⟩ | ⟨p, cs, R, k, c, h5, l, hb, hk, h8, hv, ht, o, hnp, hpL⟩
    · exact wif_p h5 hq
    simp only at c h5 l h8 hv o
    have hp2 : p ≤ sk T L p := sc_ge isB T L p
    refine wif_n (not_not_intro h5) ?_
    have go : ∀ (ck tc : Int32), sk T L p < L → opE T L c1 c2 k1 k2 p = some (ck, sk T L p + 1) → mc1 ck = [tc] → (if ¬ v1 = c1 then t2 else t1) = tc → gch_b A c1 t1 t2 v1 K u := by
      intro ck tc hlt he hm hif
      unfold gch_b
      rw [c.2.2.1, nI_1, wlet_e, hif]
      have cg : MX (hup u 92 4 (nI (sk T L p + 1))) T L (sk T L p + 1) := c.up fm.up (hup_eq _ _ _ _) hlt
      have fg : fm u (hup u 92 4 (nI (sk T L p + 1))) := fm.up
      obtain ⟨n', ht⟩ := ht
      cases n' with
      | zero => exact ht.elim
      | succ n' =>
      rcases ht with ⟨e, _⟩ | ⟨t', q', e, ht⟩
      · rw [he] at e
        exact nomatch e
      rw [he] at e
      injection e with e
      injection e with ea eb
      subst ea eb
      rcases ht with ⟨z, a1, a2⟩ | ⟨q2, ts, R', a1, a2, a3⟩
      · refine hA _ cs _ _ _ (k - 2) cg ((fg.2 5 (by decide)).trans h5) (l.fm fg) (by omega) (by omega) ((fg.2 8 (by decide)).trans h8) a1 ⟨(fun _ _ _ e => nomatch e), fun g' kk x e f x5 x6 fa => ?_⟩
        injection e with e
        subst e
        have e18 : g' 92 18 = nI t := (f.2 18 (by decide) (by decide) (by decide) (by decide)).trans ((fg.2 18 (by decide)).trans l.1)
        refine s_tellsF e18 l.2.1 hL hw (by omega) fa (Nat.le_refl w) (k' := k) (by omega) _ (fun g2 b fa2 => ?_)
        rw [e_signHereN fa2.1]
        refine hK (by omega) _ (Or.inl ⟨fa2.1, ?_⟩)
        exact o.2 g2 kk x a2 ((fg.t.tr f).tr b.t) ((b.2 5 (by decide)).trans x5) ((b.2 6 (by decide)).trans x6) fa2
      · obtain ⟨y1, y2, y3, y4, y5, _⟩ := (gU _ hlt).2.1 _ _ a1
        have hlen : (mcs (ts ++ [ck])).length = (mcs ts).length + 1 := by
          rw [mcs_app, List.length_append]
          have : mcs [ck] = mc1 ck ++ mcs [] := rfl
          rw [this, hm]
          rfl
        refine hA _ cs _ _ _ (k - 2) cg ((fg.2 5 (by decide)).trans h5) (l.fm fg) (by omega) (by omega) ((fg.2 8 (by decide)).trans h8) a1 ⟨fun g' q3 ts' e f x5 x6 c' l' => ?_, (fun _ _ _ e => nomatch e)⟩
        injection e with e
        injection e with ea eb
        subst ea eb
        refine s_tellsL l' (by rw [List.length_append]; omega) _ (fun g2 b l2 => ?_)
        have c2 := c'.tl l.2.1 b
        have z5 : g2 92 5 = 0 := (b.2 5 (by decide)).trans x5
        refine s_signHere c2 z5 _ (fun g3 f3 c3 => ?_)
        have F := (fg.t.tr f).tr b.t
        refine hK (by omega) _ (Or.inr ⟨q2, cs ++ mcs (ts ++ [ck]), R', k, c3, (f3.2 5 (by decide)).trans z5, LM.fm ?_ f3, ?_, hk, ?_, rfl, ⟨n', a2⟩, ?_, by omega, y2⟩)
        · have : mcs (ts ++ [ck]) = mcs ts ++ [tc] := by
            rw [mcs_app]
            have : mcs [ck] = mc1 ck ++ mcs [] := rfl
            rw [this, hm]
            rfl
          rw [this, ← List.append_assoc]
          exact l2
        · rw [List.length_append, hlen]
          omega
        · show g3 92 8 = nI d
          rw [f3.2 8 (by decide), F.2 8 (by decide) (by decide) (by decide) (by decide)]
          exact h8
        · rw [a3] at o
          refine (o.pre).to (F.tr f3.t) ?_
          show g3 92 6 = u 92 6
          rw [f3.2 6 (by decide), b.2 6 (by decide), x6, fg.2 6 (by decide)]
    by_cases hlt : sk T L p < L
    · rw [if_pos hlt] at hv
      refine ⟨fun z => ?_, fun z => ⟨fun z2 => ?_, fun z2 => ?_⟩⟩
      · exact go k1 t1 hlt (opE_1 hlt (by rw [← hv]; exact z)) m1 (if_neg (not_not_intro z))
      · have e0 : opE T L c1 c2 k1 k2 p = none := opE_0 (fun y => z (by rw [hv]; exact y.2)) (fun y => z2 (by rw [hv]; exact y.2))
        obtain ⟨n', ht⟩ := ht
        cases n' with
        | zero => exact ht.elim
        | succ n' =>
        rcases ht with ⟨e, er⟩ | ⟨t', q', e, _⟩
        · exact o.1 u _ [] er gt.rf h5 rfl c (by rw [show mcs [] = [] from rfl, List.append_nil]; exact l)
        · rw [e0] at e
          exact nomatch e
      · have z3 : v1 = c2 := Classical.not_not.mp z2
        exact go k2 t2 hlt (opE_2 (fun y => z (by rw [hv]; exact y.2)) hlt (by rw [← hv]; exact z3)) m2 (if_pos z)
    · rw [if_neg hlt] at hv
      refine wif_n (by rw [hv]; exact fun y => hc1 y.symm) (wif_p (by rw [hv]; exact fun y => hc2 y.symm) ?_)
      have e0 : opE T L c1 c2 k1 k2 p = none := opE_0 (fun y => hlt y.1) (fun y => hlt y.1)
      obtain ⟨n', ht⟩ := ht
      cases n' with
      | zero => exact ht.elim
      | succ n' =>
      rcases ht with ⟨e, er⟩ | ⟨t', q', e, _⟩
      · exact o.1 u _ [] er gt.rf h5 rfl c (by rw [show mcs [] = [] from rfl, List.append_nil]; exact l)
      · rw [e0] at e
        exact nomatch e
  rcases hu with ⟨z, a1, a2⟩ | ⟨q, ts, R', a1, a2, a3⟩
  · refine hA g cs p _ _ k c h5 l hb hk h8 a1 ⟨(fun _ _ _ e => nomatch e), fun g' kk x e f x5 x6 fa => ?_⟩
    injection e with e
    subst e
    rw [e_signHereN fa.1]
    exact fin _ _ (Or.inl ⟨fa.1, o.2 g' kk x a2 f x5 x6 fa⟩)
  · obtain ⟨y1, y2, y3, y4, y5, _⟩ := (gU _ hpL).2.1 _ _ a1
    refine hA g cs p _ _ k c h5 l hb hk h8 a1 ⟨fun g' q3 ts' e f x5 x6 c' l' => ?_, (fun _ _ _ e => nomatch e)⟩
    injection e with e
    injection e with ea eb
    subst ea eb
    refine s_signHere c' x5 _ (fun g3 f3 c3 => ?_)
    refine fin _ _ (Or.inr ⟨q, cs ++ mcs ts, R', k, c3, (f3.2 5 (by decide)).trans x5, l'.fm f3, ?_, hk, ?_, rfl, a2, ?_, Nat.zero_le _, y2⟩)
    · rw [List.length_append]
      omega
    · show g3 92 8 = nI d
      rw [f3.2 8 (by decide), f.2 8 (by decide) (by decide) (by decide) (by decide)]
      exact h8
    · rw [a3] at o
      refine (o.pre).to (f.tr f3.t) ?_
      show g3 92 6 = g 92 6
      rw [f3.2 6 (by decide), x6]
end M1
