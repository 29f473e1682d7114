/-! a toll's text, by the model: words between, and what is asked -/
def gwd (A : Hp → (Hp → Prop) → Prop) (code : Int64) (tok : Int32) (h : Hp) (Q : Hp → Prop) : Prop := A h (fun h1 => wl (fun K s => w_X9_eats code s (fun z2 h3 => wif (z2 = 0) (Q h3) (A h3 (fun h4 => w_X9_tells tok h4 (fun h5 => K h5))))) h1)
theorem ors_gwd (W : Nat → Hp → (Hp → Prop) → Prop) (h : Hp) (Q : Hp → Prop) : w_X9_ors_o W h Q = gwd (W 4) (423 : Int64) 19 h Q := rfl
theorem ands_gwd (W : Nat → Hp → (Hp → Prop) → Prop) (h : Hp) (Q : Hp → Prop) : w_X9_ands_o W h Q = gwd (W 3) (fiv 1 14 4 0 0) 18 h Q := by
  have e : ∀ K s, w_X9_ands_o_l4 W Q K s = w_X9_eats (fiv 1 14 4 0 0) s (fun z2 h3 => wif (z2 = 0) (Q h3) (W 3 h3 (fun h4 => w_X9_tells 18 h4 (fun h5 => K h5)))) := by
    intro K s
    unfold w_X9_ands_o_l4
    rw [e_five]
  unfold w_X9_ands_o w_X9_ands_o_b4 gwd
  simp only [e]
theorem g_FO {t : Nat} {A : Hp → (Hp → Prop) → Prop} {code : Int64} {tok : Int32} (hA : FO t A) : FO t (gwd A code tok) := by
  intro g Q q c h5 h18 ht h4 h19 hc hQ
  unfold gwd
  refine hA g _ q c h5 h18 ht h4 h19 hc (fun g' a a5 a6 a4 a19 => ?_)
  have n5 : g' 92 5 ≠ 0 := by rw [a5]; exact h5
  refine wl_run 0 (fun _ s => s 92 5 ≠ 0 ∧ Q s) (fun n s K _ hI _ => ?_) (Nat.le_refl _) ⟨n5, hQ g' a a5 a6 a4 a19⟩
  rw [e_eatsN hI.1]
  exact wif_p rfl hI.2
theorem fo_up {t : Nat} {g g' : Hp} {v : Int32} (b : tl1 t (hup g 92 4 v) g') : gt t g g' ∧ g' 92 4 = v ∧ ∀ i, i ≠ 4 → i ≠ 19 → g' 92 i = g 92 i := by
  have h : ∀ i, i ≠ 4 → i ≠ 19 → g' 92 i = g 92 i := fun i x4 x19 => by rw [b.2 i x19, hup_o (Or.inr x4)]
  exact ⟨⟨fun q x y => by rw [b.1 q x y, hup_ne x], fun i x4 x5 x6 x19 => h i x4 x19⟩, by rw [b.2 4 (by decide), hup_eq], h⟩
theorem FO_asked {t : Nat} {W : Nat → Hp → (Hp → Prop) → Prop} (h2 : FZ (W 2)) : FO t (fun h Q => w_X9_asked_o W h Q) := by
  intro g Q q c h5 h18 ht h4 h19 hc hQ
  show w_X9_asked_o W g Q
  unfold w_X9_asked_o
  rw [e_five, e_isWordN h5]
  refine wif_p rfl ?_
  rw [e_signHereN h5]
  refine wif_p (by decide) ?_
  refine h2 g _ h5 ?_
  rw [e_signHereN h5]
  refine wif_p h5 ?_
  unfold w_X9_asked_o_b126
  rw [h4, nI_1, wlet_e]
  have u5 : hup g 92 4 (nI (q + 1)) 92 5 ≠ 0 := by rw [hup_o (Or.inr (by decide))]; exact h5
  refine h2 _ _ u5 ?_
  refine s_tells (t := t) (c := c) (by rw [hup_o (Or.inr (by decide))]; exact h18) ht (by rw [hup_o (Or.inr (by decide))]; exact h19) hc _ (fun g' b x1 _ _ => ?_)
  obtain ⟨b1, b2, b3⟩ := fo_up b
  exact hQ g' b1 (b3 5 (by decide) (by decide)) (b3 6 (by decide) (by decide)) b2 x1
theorem FZ_all : ∀ f, (1 ≤ f → FZ (wR_X9 f 0)) ∧ (2 ≤ f → FZ (wR_X9 f 1)) ∧ (3 ≤ f → FZ (wR_X9 f 2))
  | 0 => ⟨fun h => absurd h (by decide), fun h => absurd h (by decide), fun h => absurd h (by decide)⟩
  | f + 1 => by
    obtain ⟨a0, a1, a2⟩ := FZ_all f
    refine ⟨fun _ => FZ_unit (wR_X9 f), fun h g Q h5 hQ => ?_, fun h g Q h5 hQ => ?_⟩
    · show w_X9_product_o (wR_X9 f) g Q
      rw [product_gch]
      exact g_FZ (a0 (by omega)) g Q h5 hQ
    · show w_X9_sum_o (wR_X9 f) g Q
      rw [sum_gch]
      exact g_FZ (a1 (by omega)) g Q h5 hQ
theorem FO_all {t : Nat} : ∀ f, (4 ≤ f → FO t (wR_X9 f 3)) ∧ (5 ≤ f → FO t (wR_X9 f 4)) ∧ (6 ≤ f → FO t (wR_X9 f 5))
  | 0 => ⟨fun h => absurd h (by decide), fun h => absurd h (by decide), fun h => absurd h (by decide)⟩
  | f + 1 => by
    obtain ⟨a0, a1, a2⟩ := FO_all (t := t) f
    refine ⟨fun h => FO_asked ((FZ_all f).2.2 (by omega)), fun h g Q => ?_, fun h g Q => ?_⟩
    · show ∀ q c, _ → _ → _ → _ → _ → _ → _ → w_X9_ands_o (wR_X9 f) g Q
      rw [ands_gwd]
      exact g_FO (a0 (by omega)) g Q
    · show ∀ q c, _ → _ → _ → _ → _ → _ → _ → w_X9_ors_o (wR_X9 f) g Q
      rw [ors_gwd]
      exact g_FO (a1 (by omega)) g Q
section M3
variable {t : Nat} {T : Nat → Int32} {L d : Nat}
def DInv (t : Nat) (T : Nat → Int32) (L d : Nat) (E : Nat → Option (Int32 × Nat)) (U : Rl) (Q : Hp → Prop) (n : Nat) (s : Hp) : Prop := (s 92 5 ≠ 0 ∧ Q s) ∨ ∃ p cs R k, MX s T L p ∧ s 92 5 = 0 ∧ LM t s cs ∧ 2 * (cs.length : Int) ≤ 3 * p + k + 1 ∧ k ≤ 0 ∧ s 92 8 = nI d ∧ Tl T L E U p R ∧ outA t T L 1 k s cs R Q ∧ n ≤ p ∧ p ≤ L
theorem g_words {A : Hp → (Hp → Prop) → Prop} {code : Int64} {tok kt : Int32} {i : Nat} {U : Rl} {D : Nat} (hi : i < 11) (hcode : code = lz (codeW (wOf (i + 13)) : Nat)) (hlen : 0 < (wOf (i + 13)).length) (gU : Gd T L true D U) (hA : MSr t T L 1 d A U) (m1 : mc1 kt = [tok]) : MSr t T L 1 d (gwd A code tok) (Ch T L (wdE T L (i + 13) kt) U) := by
  intro g cs p R Q k c h5 l hb hk h8 hu o
  have hL := c.2.1
  have hpL := c.2.2.2.1
  unfold gwd
  have fin : ∀ (h3 : Hp), DInv t T L d (wdE T L (i + 13) kt) U Q 0 h3 → wl (fun K s => w_X9_eats code s (fun z2 h3 => wif (z2 = 0) (Q h3) (A h3 (fun h4 => w_X9_tells tok h4 (fun h5 => K h5))))) h3 := by
    intro h3 hI
    refine wl_run 502 (DInv t T L d (wdE T L (i + 13) kt) U Q) ?_ (Nat.zero_le _) hI
    clear hI hu o hb h8 l h5 c
    rintro n u K hn hI hK
    show w_X9_eats code u (fun z2 h3 => wif (z2 = 0) (Q h3) (A h3 (fun h4 => w_X9_tells tok h4 (fun h5 => K h5))))
    rcases hI with ⟨h5, hq⟩ | ⟨p, cs, R, k, c, h5, l, hb, hk, h8, ht, o, hnp, hpL⟩
    · rw [e_eatsN h5]
      exact wif_p rfl hq
    have hp2 : p ≤ sk T L p := sc_ge isB T L p
    have hp3 : sk T L p ≤ L := sc_le isB T hpL
    have hp4 : le T L (sk T L p) ≤ L := sc_le isLt T hp3
    refine s_eats c h5 (letsT hi) hcode _ (fun g1 f1 w c1 => ?_) (fun g1 f1 w c1 => ?_)
    · refine wif_n i10 ?_
      have w1 := isW_le w
      have z5 : g1 92 5 = 0 := (f1.2 5 (by decide)).trans h5
      have he : wdE T L (i + 13) kt p = some (kt, le T L (sk T L p)) := wdE_1 w
      obtain ⟨n', ht⟩ := ht
      cases n' with
      | zero => exact ht.elim
      | succ n' =>
      rcases ht with ⟨e, _⟩ | ⟨t', q', e, ht⟩
      · rw [he] at e
        exact nomatch e
      rw [he] at e
      injection e with e
      injection e with ea eb
      subst ea eb
      rcases ht with ⟨z, a1, a2⟩ | ⟨q2, ts, R', a1, a2, a3⟩
      · refine hA _ cs _ _ _ (k - 2) c1 z5 (l.fm f1) (by omega) (by omega) ((f1.2 8 (by decide)).trans h8) a1 ⟨(fun _ _ _ e => nomatch e), fun g' kk x e f x5 x6 fa => ?_⟩
        injection e with e
        subst e
        have e18 : g' 92 18 = nI t := (f.2 18 (by decide) (by decide) (by decide) (by decide)).trans ((f1.2 18 (by decide)).trans l.1)
        refine s_tellsF e18 l.2.1 hL (Nat.le_refl 1) (by omega) fa (Nat.le_refl 1) (k' := k) (by omega) _ (fun g2 b fa2 => ?_)
        refine hK (by omega) _ (Or.inl ⟨fa2.1, ?_⟩)
        exact o.2 g2 kk x a2 ((f1.t.tr f).tr b.t) ((b.2 5 (by decide)).trans x5) ((b.2 6 (by decide)).trans x6) fa2
      · obtain ⟨y1, y2, y3, y4, y5, _⟩ := (gU _ hp4).2.1 _ _ a1
        have hm : mcs [kt] = [tok] := by
          have : mcs [kt] = mc1 kt ++ mcs [] := rfl
          rw [this, m1]
          rfl
        refine hA _ cs _ _ _ (k - 2) c1 z5 (l.fm f1) (by omega) (by omega) ((f1.2 8 (by decide)).trans h8) a1 ⟨fun g' q3 ts' e f x5 x6 c' l' => ?_, (fun _ _ _ e => nomatch e)⟩
        injection e with e
        injection e with ea eb
        subst ea eb
        refine s_tellsL l' (by rw [List.length_append]; omega) _ (fun g2 b l2 => ?_)
        have c2 := c'.tl l.2.1 b
        have F := (f1.t.tr f).tr b.t
        have e2 : mcs (ts ++ [kt]) = mcs ts ++ [tok] := by rw [mcs_app, hm]
        refine hK (by omega) _ (Or.inr ⟨q2, cs ++ mcs (ts ++ [kt]), R', k, c2, (b.2 5 (by decide)).trans x5, ?_, ?_, hk, ?_, ⟨n', a2⟩, ?_, by omega, y2⟩)
        · rw [e2, ← List.append_assoc]
          exact l2
        · rw [e2, List.length_append, List.length_append]
          show 2 * ((cs.length + ((mcs ts).length + 1) : Nat) : Int) ≤ _
          omega
        · rw [F.2 8 (by decide) (by decide) (by decide) (by decide)]
          exact h8
        · rw [a3] at o
          refine (o.pre).to F ?_
          rw [b.2 6 (by decide), x6, f1.2 6 (by decide)]
    · refine wif_p rfl ?_
      have he : wdE T L (i + 13) kt p = none := wdE_0 w
      obtain ⟨n', ht⟩ := ht
      cases n' with
      | zero => exact ht.elim
      | succ n' =>
      rcases ht with ⟨e, er⟩ | ⟨t', q', e, _⟩
      · exact o.1 g1 _ [] er f1.t ((f1.2 5 (by decide)).trans h5) (f1.2 6 (by decide)) c1 (by rw [show mcs [] = [] from rfl, List.append_nil]; exact l.fm f1)
      · rw [he] at e
        exact nomatch e
  rcases hu with ⟨z, a1, a2⟩ | ⟨q, ts, R', a1, a2, a3⟩
  · refine hA g cs p _ _ k c h5 l hb hk h8 a1 ⟨(fun _ _ _ e => nomatch e), fun g' kk x e f x5 x6 fa => ?_⟩
    injection e with e
    subst e
    exact fin _ (Or.inl ⟨fa.1, o.2 g' kk x a2 f x5 x6 fa⟩)
  · obtain ⟨y1, y2, y3, y4, y5, _⟩ := (gU _ hpL).2.1 _ _ a1
    refine hA g cs p _ _ k c h5 l hb hk h8 a1 ⟨fun g' q3 ts' e f x5 x6 c' l' => ?_, (fun _ _ _ e => nomatch e)⟩
    injection e with e
    injection e with ea eb
    subst ea eb
    refine fin _ (Or.inr ⟨q, cs ++ mcs ts, R', k, c', x5, l', ?_, hk, ?_, a2, ?_, Nat.zero_le _, y2⟩)
    · rw [List.length_append]
      omega
    · rw [f.2 8 (by decide) (by decide) (by decide) (by decide)]
      exact h8
    · rw [a3] at o
      exact (o.pre).to f x6
theorem m_b126F {W : Nat → Hp → (Hp → Prop) → Prop} (hF : FZ (W 2)) {g : Hp} {v1 : Int32} {k : Int} (hL : L ≤ 500) (hk : k ≤ 0) (e18 : g 92 18 = nI t) (ht : t < 4) (fa : FA L 0 k g) (Q : Hp → Prop) (hQ : ∀ g', gt t g g' → g' 92 5 = g 92 5 → g' 92 6 = g 92 6 → FA L 1 k g' → Q g') : w_X9_asked_o_b126 W v1 g Q := by
  obtain ⟨a1, q, c, a2, a3, a4, a5⟩ := fa
  unfold w_X9_asked_o_b126
  rw [a2, nI_1, wlet_e]
  have u5 : hup g 92 4 (nI (q + 1)) 92 5 ≠ 0 := by rw [hup_o (Or.inr (by decide))]; exact a1
  refine hF _ _ u5 ?_
  refine s_tells (t := t) (c := c) (by rw [hup_o (Or.inr (by decide))]; exact e18) ht (by rw [hup_o (Or.inr (by decide))]; exact a4) (by omega) _ (fun g' b x1 _ _ => ?_)
  obtain ⟨b1, b2, b3⟩ := fo_up b
  exact hQ g' b1 (b3 5 (by decide) (by decide)) (b3 6 (by decide) (by decide)) ⟨by rw [b3 5 (by decide) (by decide)]; exact a1, q + 1, c + 1, b2, by omega, x1, by omega⟩
theorem cmp_mc {x : Int32} (h : cmpT x ≠ 0) : mc1 (cmpT x) = [if ¬ x = 60 then (if ¬ x = 62 then 16 else 15) else 14] ∧ (x = 60 ∨ x = 62 ∨ x = 61) := by
  have e : x = 60 ∨ x = 62 ∨ x = 61 := by
    unfold cmpT at h
    by_cases a : x = 60
    · exact Or.inl a
    · by_cases b : x = 62
      · exact Or.inr (Or.inl b)
      · by_cases c : x = 61
        · exact Or.inr (Or.inr c)
        · rw [if_neg a, if_neg b, if_neg c] at h
          exact absurd rfl h
  refine ⟨?_, e⟩
  rcases e with rfl | rfl | rfl <;> decide
theorem m_b126 {W : Nat → Hp → (Hp → Prop) → Prop} {N : Rl} {D : Nat} (gN : Gd T L false D N) (hN : MSr t T L 0 d (W 2) N) {g : Hp} {cs : List Int32} {p : Nat} {v1 : Int32} {k : Int} {R2 : TR} {Q : Hp → Prop} (c : MX g T L p) (hlt : p < L) (h5 : g 92 5 = 0) (l : LM t g cs) (hb : 2 * (cs.length : Int) ≤ 3 * p + k + 1) (hk : k ≤ 0) (h8 : g 92 8 = nI d) (hv : cmpT v1 ≠ 0) (h2 : N (p + 1) R2) (o : outA t T L 1 k g cs (postT [cmpT v1] R2) Q) : w_X9_asked_o_b126 W v1 g Q := by
  have hL := c.2.1
  unfold w_X9_asked_o_b126
  rw [c.2.2.1, nI_1, wlet_e]
  have fg : fm g (hup g 92 4 (nI (p + 1))) := fm.up
  have cg : MX (hup g 92 4 (nI (p + 1))) T L (p + 1) := c.up fg (hup_eq _ _ _ _) hlt
  have cm := (cmp_mc hv).1
  refine hN _ cs _ _ _ (k - 2) cg ((fg.2 5 (by decide)).trans h5) (l.fm fg) (by omega) (by omega) ((fg.2 8 (by decide)).trans h8) h2 ⟨fun g' q ts e f x5 x6 c' l' => ?_, fun g' kk x e f x5 x6 fa => ?_⟩
  · subst e
    obtain ⟨y1, y2, y3, y4, y5, _⟩ := (gN _ hlt).2.1 _ _ h2
    refine s_tellsL l' (by rw [List.length_append]; omega) _ (fun g2 b l2 => ?_)
    refine o.1 g2 q (ts ++ [cmpT v1]) rfl ((fg.t.tr f).tr b.t) ((b.2 5 (by decide)).trans x5) ?_ (c'.tl l.2.1 b) ?_
    · rw [b.2 6 (by decide), x6, fg.2 6 (by decide)]
    · have hm : mcs [cmpT v1] = mc1 (cmpT v1) ++ mcs [] := rfl
      rw [mcs_app, hm, cm, ← List.append_assoc]
      rw [show mcs [] = [] from rfl, List.append_nil]
      exact l2
  · subst e
    have e18 : g' 92 18 = nI t := (f.2 18 (by decide) (by decide) (by decide) (by decide)).trans ((fg.2 18 (by decide)).trans l.1)
    refine s_tellsF e18 l.2.1 hL (Nat.zero_le 1) (by omega) fa (Nat.zero_le 1) (k' := k) (by omega) _ (fun g2 b fa2 => ?_)
    exact o.2 g2 kk x rfl ((fg.t.tr f).tr b.t) ((b.2 5 (by decide)).trans x5) ((b.2 6 (by decide)).trans x6) fa2
theorem m_asked {W : Nat → Hp → (Hp → Prop) → Prop} {r : Nat} (hr : r ≤ 6) (hd : d = 6 - r) {Dc C : Option Rl} {N : Rl} {D : Nat} (gN : Gd T L false D N) (hN : MSr t T L 0 d (W 2) N) (hC : ∀ X, C = some X → 1 ≤ r ∧ (∃ D, Gd T L true D X) ∧ MSr t T L 1 (d + 1) (W 3) X) (hC0 : C = none → r = 0) (hD : ∀ X, Dc = some X → 1 ≤ r ∧ (∃ D, Gd T L true D X) ∧ MSr t T L 1 (d + 1) (W 5) X) (hD0 : Dc = none → r = 0) (hF2 : FZ (W 2)) (hF3 : FO t (W 3)) (hF5 : FO t (W 5)) : MSr t T L 1 d (fun h Q => w_X9_asked_o W h Q) (ClT T L Dc C N) := by
  intro g cs p R Q k c h5 l hb hk h8 hu o
  have ss : sk T L (sk T L p) = sk T L p := sc_id isB T L p
  have hkp : p ≤ sk T L p := sc_ge isB T L p
  have hpL := c.2.2.2.1
  have hL := c.2.1
  have hs : sk T L p ≤ L := sc_le isB T hpL
  have hll : le T L (sk T L p) ≤ L := sc_le isLt T hs
  show w_X9_asked_o W g Q
  unfold w_X9_asked_o
  rw [e_five]
  unfold ClT at hu
  refine mkT (i := 8) (by decide) rfl c h5 tcode_not (fun g2 F w c2 => ?_) (fun g2 f2 w c2 z5 => ?_)
  · have w' : isW T L (wOf 21) p = true := w
    rw [if_pos w'] at hu
    have w1 := isW_le w'
    have w2 : (wOf 21).length = 3 := by decide
    have z5 : g2 92 5 = 0 := (F.2 5 (by decide)).trans h5
    have l2 := l.fm F
    have o2 : outA t T L 1 k g2 cs R Q := o.to F.t (F.2 6 (by decide))
    have h82 : g2 92 8 = nI d := (F.2 8 (by decide)).trans h8
    refine wif_n i10 ?_
    cases C with
    | none =>
      have r0 := hC0 rfl
      subst r0
      subst hd
      have hu2 : R = .inr (3, sk T L p) := hu
      refine m_opens6 h82 z5 c2.2.2.1 q3 _ (fun g3 a1 a2 a4 a5 a6 a8 => ?_)
      have n5 : g3 92 5 ≠ 0 := by rw [a5]; decide
      refine hF3 g3 _ (sk T L p + 3) cs.length n5 ((a2 18 (by decide) (by decide) (by decide) (by decide)).trans l2.1) l.2.1 a4 ((a2 19 (by decide) (by decide) (by decide) (by decide)).trans l2.2.2.1) (by omega) (fun g4 f4 b5 b6 b4 b19 => ?_)
      have e18 : g4 92 18 = nI t := (f4.2 18 (by decide) (by decide) (by decide) (by decide)).trans ((a2 18 (by decide) (by decide) (by decide) (by decide)).trans l2.1)
      refine s_tells e18 l.2.1 b19 (by omega) _ (fun g5 b x1 _ _ => ?_)
      have e8 : g5 92 8 = nI 7 := by rw [b.2 8 (by decide), f4.2 8 (by decide) (by decide) (by decide) (by decide)]; exact a8
      rw [wlet_e, e8]
      have e8 : nI 7 - 1 = nI 6 := rfl
      rw [e8]
      refine o2.2 _ 3 (sk T L p) hu2 ⟨fun q x y => ?_, fun i x4 x5 x6 x19 => ?_⟩ ?_ ?_ ⟨?_, sk T L p + 3 + 1, cs.length + 1 + 1, ?_, by omega, ?_, by omega⟩
      · rw [hup_ne x, b.1 q x y, f4.1 q x y, a1 q x]
      · by_cases i8 : i = 8
        · subst i8
          rw [hup_eq]; exact h82.symm
        · rw [hup_o (Or.inr i8), b.2 i x19, f4.2 i x4 x5 x6 x19, a2 i x4 x5 x6 i8]
      · rw [hup_o (Or.inr (by decide)), b.2 5 (by decide), b5]; exact a5
      · rw [hup_o (Or.inr (by decide)), b.2 6 (by decide), b6]; exact a6
      · rw [hup_o (Or.inr (by decide)), b.2 5 (by decide), b5]; exact n5
      · rw [hup_o (Or.inr (by decide)), b.2 4 (by decide)]; exact b4
      · rw [hup_o (Or.inr (by decide))]; exact x1
    | some X =>
      obtain ⟨r1, ⟨D', gX⟩, hW⟩ := hC X rfl
      obtain ⟨R1, u1, u2⟩ := (hu : ∃ R1, X (le T L (sk T L p)) R1 ∧ R = postT [-14] R1)
      have ele : le T L (sk T L p) = sk T L p + 3 := by rw [w1, w2]
      refine m_opens (n := 0) (k := 0) h82 (by omega) c2.2.2.1 q3 _ (fun g3 a1 a2 a4 a8 => ?_)
      have cx1 : MX g3 T L (le T L (sk T L p)) := ⟨(a2 2 (by decide) (by decide)).trans c2.1, hL, by rw [ele]; exact a4, hll, fun i hi => by rw [a1 93 (by decide)]; exact c2.2.2.2.2 i hi⟩
      have l3 : LM t g3 cs := l2.same (a2 18 (by decide) (by decide)) (a2 19 (by decide) (by decide)) (a1 _ (by omega))
      have y5 : g3 92 5 = 0 := (a2 5 (by decide) (by decide)).trans z5
      have y6 : g3 92 6 = g2 92 6 := a2 6 (by decide) (by decide)
      have back : ∀ (g4 g5 g6 : Hp), gt t g3 g4 → tl1 t g4 g5 → g6 = hup g5 92 8 (g5 92 8 - 1) → gt t g2 g6 ∧ (∀ i, i ≠ 8 → g6 92 i = g5 92 i) ∧ ∀ q, q ≠ 92 → g6 q = g5 q := by
        intro g4 g5 g6 f b e
        subst e
        refine ⟨⟨fun q x y => by rw [hup_ne x, b.1 q x y, f.1 q x y, a1 q x], fun i x4 x5 x6 x19 => ?_⟩, fun i hi => hup_o (Or.inr hi), fun q hq => hup_ne hq⟩
        by_cases i8 : i = 8
        · subst i8
          rw [hup_eq, b.2 8 (by decide), f.2 8 (by decide) (by decide) (by decide) (by decide), a8, h82, q1, pk_sub (by omega)]
          rfl
        · rw [hup_o (Or.inr i8), b.2 i x19, f.2 i x4 x5 x6 x19, a2 i x4 i8]
      refine hW g3 cs _ R1 _ (k - 9) cx1 y5 l3 (by omega) (by omega) a8 u1 ⟨fun g4 q ts e f x5 x6 c4 l4 => ?_, fun g4 kk x e f x5 x6 fa => ?_⟩
      · subst e
        obtain ⟨v1, v2, v3, v4, v5, _⟩ := (gX _ hll).2.1 _ _ u1
        refine s_tellsL l4 (by rw [List.length_append]; omega) _ (fun g5 b l5 => ?_)
        rw [wlet_e]
        obtain ⟨b1, b2, b3⟩ := back g4 g5 _ f b rfl
        refine o2.1 _ q (ts ++ [-14]) u2 b1 ?_ ?_ ?_ ?_
        · rw [b2 5 (by decide), b.2 5 (by decide)]; exact x5
        · rw [b2 6 (by decide), b.2 6 (by decide), x6, y6]
        · have c5 := c4.tl l.2.1 b
          exact ⟨(b2 2 (by decide)).trans c5.1, hL, (b2 4 (by decide)).trans c5.2.2.1, c5.2.2.2.1, fun i hi => by rw [b3 93 (by decide)]; exact c5.2.2.2.2 i hi⟩
        · have : mcs (ts ++ [-14]) = mcs ts ++ [17] := by rw [mcs_app]; rfl
          rw [this, ← List.append_assoc]
          exact l5.same (b2 18 (by decide)) (b2 19 (by decide)) (b3 _ (by omega))
      · subst e
        have e18 : g4 92 18 = nI t := (f.2 18 (by decide) (by decide) (by decide) (by decide)).trans l3.1
        refine s_tellsF e18 l.2.1 hL (Nat.le_refl 1) (by omega) fa (Nat.le_refl 1) (k' := k) (by omega) _ (fun g5 b fa2 => ?_)
        rw [wlet_e]
        obtain ⟨b1, b2, b3⟩ := back g4 g5 _ f b rfl
        refine o2.2 _ kk x u2 b1 ?_ ?_ ?_
        · rw [b2 5 (by decide), b.2 5 (by decide)]; exact x5
        · rw [b2 6 (by decide), b.2 6 (by decide)]; exact x6
        · obtain ⟨v1, q, cc, v2, v3, v4, v5⟩ := fa2
          exact ⟨by rw [b2 5 (by decide)]; exact v1, q, cc, (b2 4 (by decide)).trans v2, v3, (b2 19 (by decide)).trans v4, v5⟩
  have w' : isW T L (wOf 21) p = false := w
  rw [if_neg (isW_no w')] at hu
  refine wif_p rfl ?_
  refine s_signHere c2 z5 _ (fun g3 f3 c3 => ?_)
  rw [ss] at c3
  rw [ss]
  have F := f2.tr f3
  have y5 : g3 92 5 = 0 := (f3.2 5 (by decide)).trans z5
  have l3 := l.fm F
  have o3 : outA t T L 1 k g3 cs R Q := o.to F.t (F.2 6 (by decide))
  have h83 : g3 92 8 = nI d := (F.2 8 (by decide)).trans h8
  have hb3 : 2 * (cs.length : Int) ≤ 3 * (sk T L p : Nat) + k := by omega
  by_cases y : sk T L p < L ∧ T (sk T L p) = 91
  · rw [if_pos y] at hu
    rw [if_pos y.1]
    refine wif_n (not_not_intro y.2) ?_
    cases Dc with
    | none =>
      have r0 := hD0 rfl
      subst r0
      subst hd
      have hu2 : R = .inr (3, sk T L p) := hu
      refine m_opens6 h83 y5 c3.2.2.1 q1 _ (fun g4 a1 a2 a4 a5 a6 a8 => ?_)
      have n5 : g4 92 5 ≠ 0 := by rw [a5]; decide
      refine hF5 g4 _ (sk T L p + 1) cs.length n5 ((a2 18 (by decide) (by decide) (by decide) (by decide)).trans l3.1) l.2.1 a4 ((a2 19 (by decide) (by decide) (by decide) (by decide)).trans l3.2.2.1) (by omega) (fun g5 f5 b5 b6 b4 b19 => ?_)
      have e8 : g5 92 8 = nI 7 := by rw [f5.2 8 (by decide) (by decide) (by decide) (by decide)]; exact a8
      rw [e_signN (by rw [b5]; exact n5), wlet_e, e8]
      have e8 : nI 7 - 1 = nI 6 := rfl
      rw [e8]
      refine o3.2 _ 3 (sk T L p) hu2 ⟨fun q x y => ?_, fun i x4 x5 x6 x19 => ?_⟩ ?_ ?_ ⟨?_, sk T L p + 1 + 1, cs.length + 1, ?_, by omega, ?_, by omega⟩
      · rw [hup_ne x, f5.1 q x y, a1 q x]
      · by_cases i8 : i = 8
        · subst i8
          rw [hup_eq]; exact h83.symm
        · rw [hup_o (Or.inr i8), f5.2 i x4 x5 x6 x19, a2 i x4 x5 x6 i8]
      · rw [hup_o (Or.inr (by decide)), b5]; exact a5
      · rw [hup_o (Or.inr (by decide)), b6]; exact a6
      · rw [hup_o (Or.inr (by decide)), b5]; exact n5
      · rw [hup_o (Or.inr (by decide))]; exact b4
      · rw [hup_o (Or.inr (by decide))]; exact b19
    | some X =>
      obtain ⟨r1, ⟨D', gX⟩, hW⟩ := hD X rfl
      obtain ⟨R1, u1, u2⟩ := (hu : ∃ R1, X (sk T L p + 1) R1 ∧ R = cloT T L 93 R1)
      rw [u2] at o3
      exact m_clo (by decide) (by omega) gX hW c3 y.1 y5 l3 hb3 hk h83 u1 o3
  rw [if_neg y] at hu
  refine wif_p (fun q => ?_) ?_
  · by_cases hlt : sk T L p < L
    · rw [if_pos hlt] at q
      exact y ⟨hlt, q⟩
    · rw [if_neg hlt] at q
      exact absurd q (by decide)
  rcases hu with ⟨z, a1, a2⟩ | ⟨q1', ts, a1, hu⟩
  · refine hN g3 cs _ _ _ k c3 y5 l3 hb3 hk h83 a1 ⟨(fun _ _ _ e => nomatch e), fun g4 kk x e f x5 x6 fa => ?_⟩
    injection e with e
    subst e
    rw [e_signHereN fa.1]
    refine wif_p fa.1 ?_
    have e18 : g4 92 18 = nI t := (f.2 18 (by decide) (by decide) (by decide) (by decide)).trans l3.1
    exact m_b126F hF2 hL hk e18 l.2.1 fa _ (fun g5 b b5 b6 fa2 => o3.2 g5 kk x a2 (f.tr b) (b5.trans x5) (b6.trans x6) fa2)
  · obtain ⟨v1, v2, v3, v4, v5, _⟩ := (gN _ hs).2.1 _ _ a1
    have hq1 : q1' ≤ sk T L q1' := sc_ge isB T L q1'
    have hq2 : sk T L q1' ≤ L := sc_le isB T v2
    refine hN g3 cs _ _ _ k c3 y5 l3 hb3 hk h83 a1 ⟨fun g4 q' ts' e f x5 x6 c4 l4 => ?_, (fun _ _ _ e => nomatch e)⟩
    injection e with e
    injection e with ea eb
    subst ea eb
    refine s_signHere c4 x5 _ (fun g5 f5 c5 => ?_)
    have w5 : g5 92 5 = 0 := (f5.2 5 (by decide)).trans x5
    have G := f.tr f5.t
    have l5 := l4.fm f5
    have h85 : g5 92 8 = nI d := by rw [f5.2 8 (by decide), f.2 8 (by decide) (by decide) (by decide) (by decide)]; exact h83
    have hb5 : 2 * ((cs ++ mcs ts).length : Int) ≤ 3 * (sk T L q1' : Nat) + k + 1 := by rw [List.length_append]; omega
    refine wif_n (not_not_intro w5) ?_
    rcases hu with ⟨b1, b2, R2, b3, b4⟩ | ⟨b1, b2⟩
    · rw [if_pos b1]
      rw [b4] at o3
      have o5 := (o3.pre).to G (by rw [f5.2 6 (by decide), x6])
      have main : w_X9_asked_o_b126 W (T (sk T L q1')) g5 Q := m_b126 gN hN c5 b1 w5 l5 hb5 hk h85 b2 b3 o5
      refine ⟨fun _ => main, fun n60 => ⟨fun _ => main, fun n62 => ⟨fun _ => main, fun n61 => ?_⟩⟩⟩
      rcases (cmp_mc b2).2 with e | e | e
      · exact absurd e n60
      · exact absurd e n62
      · exact absurd e n61
    · have nz : ∀ v : Int32, cmpT v ≠ 0 → v ≠ -1 → (if sk T L q1' < L then T (sk T L q1') else -1) ≠ v := by
        intro v hv hv1 e
        by_cases hlt : sk T L q1' < L
        · rw [if_pos hlt] at e
          exact b1 ⟨hlt, by rw [e]; exact hv⟩
        · rw [if_neg hlt] at e
          exact hv1 e.symm
      refine wif_n (nz 60 (by decide) (by decide)) (wif_n (nz 62 (by decide) (by decide)) (wif_n (nz 61 (by decide) (by decide)) ?_))
      refine s_wrong q1 c5.2.2.1 w5 _ (fun g6 e6 e4 => ?_)
      have n5 : g6 92 5 ≠ 0 := by rw [e6.2.2.1]; decide
      have e18 : g6 92 18 = nI t := (e6.2.1 18 (by decide) (by decide) (by decide)).trans l5.1
      refine m_b126F hF2 hL hk e18 l.2.1 (k := k) ⟨n5, sk T L q1', (cs ++ mcs ts).length, e4.trans c5.2.2.1, hq2, (e6.2.1 19 (by decide) (by decide) (by decide)).trans l5.2.2.1, by omega⟩ _ (fun g7 b b5 b6 fa2 => ?_)
      exact o3.2 g7 1 (sk T L q1') b2 ((G.tr e6.t).tr b) (b5.trans e6.2.2.1) (b6.trans e6.2.2.2) fa2
theorem m_all : ∀ r, r ≤ 6 → (∀ f, 3 * r + 4 ≤ f → MSr t T L 0 (6 - r) (wR_X9 f 0) (U0 T L r)) ∧ (∀ f, 3 * r + 6 ≤ f → MSr t T L 0 (6 - r) (wR_X9 f 2) (NNT T L (U0 T L r))) ∧ (∀ f, 3 * r + 7 ≤ f → MSr t T L 1 (6 - r) (wR_X9 f 3) (C0 T L r)) ∧ (∀ f, 3 * r + 9 ≤ f → MSr t T L 1 (6 - r) (wR_X9 f 5) (DDT T L (C0 T L r))) := by
  have chain : ∀ r, (∀ f, 3 * r + 4 ≤ f → MSr t T L 0 (6 - r) (wR_X9 f 0) (U0 T L r)) → ∀ f, 3 * r + 6 ≤ f → MSr t T L 0 (6 - r) (wR_X9 f 2) (NNT T L (U0 T L r)) := by
    intro r hU f hf
    obtain ⟨f, rfl⟩ : ∃ f', f = f' + 1 + 1 := ⟨f - 2, by omega⟩
    have h1 : MSr t T L 0 (6 - r) (wR_X9 (f + 1) 1) (Ch T L (E1 T L) (U0 T L r)) := g_chain (k1 := -9) (k2 := -10) (by decide) (Gd_U0 r) (hU f (by omega)) Ek1 (by decide) (by decide) (by decide) (by decide) (by decide)
    exact g_chain (k1 := -7) (k2 := -8) (A := wR_X9 (f + 1) 1) (by decide) (Gd_Ch Ek1 (Gd_U0 r)) h1 Ek2 (by decide) (by decide) (by decide) (by decide) (by decide)
  have conds : ∀ r, (∀ f, 3 * r + 7 ≤ f → MSr t T L 1 (6 - r) (wR_X9 f 3) (C0 T L r)) → ∀ f, 3 * r + 9 ≤ f → MSr t T L 1 (6 - r) (wR_X9 f 5) (DDT T L (C0 T L r)) := by
    intro r hC f hf
    obtain ⟨f, rfl⟩ : ∃ f', f = f' + 1 + 1 := ⟨f - 2, by omega⟩
    have h1 : MSr t T L 1 (6 - r) (wR_X9 (f + 1) 4) (Ch T L (E3 T L) (C0 T L r)) := by
      intro g cs p R Q k a b c d e f' g' h'
      show w_X9_ands_o (wR_X9 f) g Q
      rw [ands_gwd]
      exact g_words (i := 9) (kt := -15) (by decide) tcode_and (by decide) (Gd_C0 r) (hC f (by omega)) (by decide) g cs p R Q k a b c d e f' g' h'
    exact g_words (i := 10) (kt := -16) (A := wR_X9 (f + 1) 4) (by decide) tcode_or (by decide) (Gd_Ch Ek3 (Gd_C0 r)) h1 (by decide)
  intro r
  induction r with
  | zero =>
    intro h6
    have hU : ∀ f, 3 * 0 + 4 ≤ f → MSr t T L 0 (6 - 0) (wR_X9 f 0) (U0 T L 0) := fun f hf => by
      obtain ⟨f, rfl⟩ : ∃ f', f = f' + 1 := ⟨f - 1, by omega⟩
      exact m_unit (r := 0) (by decide) rfl (fun N' h => nomatch h) (fun _ => rfl) ((FZ_all f).2.2 (by omega))
    have hC : ∀ f, 3 * 0 + 7 ≤ f → MSr t T L 1 (6 - 0) (wR_X9 f 3) (C0 T L 0) := fun f hf => by
      obtain ⟨f, rfl⟩ : ∃ f', f = f' + 1 := ⟨f - 1, by omega⟩
      exact m_asked (r := 0) (by decide) rfl (Gd_N0 0) (chain 0 hU f (by omega)) (fun X h => nomatch h) (fun _ => rfl) (fun X h => nomatch h) (fun _ => rfl) ((FZ_all f).2.2 (by omega)) ((FO_all f).1 (by omega)) ((FO_all f).2.2 (by omega))
    exact ⟨hU, chain 0 hU, hC, conds 0 hC⟩
  | succ r ih =>
    intro h6
    obtain ⟨aU, aN, aC, aD⟩ := ih (by omega)
    have ed : 6 - (r + 1) + 1 = 6 - r := by omega
    have hU : ∀ f, 3 * (r + 1) + 4 ≤ f → MSr t T L 0 (6 - (r + 1)) (wR_X9 f 0) (U0 T L (r + 1)) := fun f hf => by
      obtain ⟨f, rfl⟩ : ∃ f', f = f' + 1 := ⟨f - 1, by omega⟩
      refine m_unit (r := r + 1) h6 rfl (fun N' h => ⟨by omega, ?_⟩) (fun h => nomatch h) ((FZ_all f).2.2 (by omega))
      injection h with h
      subst h
      rw [ed]
      exact ⟨⟨_, Gd_N0 r⟩, aN f (by omega)⟩
    have hC : ∀ f, 3 * (r + 1) + 7 ≤ f → MSr t T L 1 (6 - (r + 1)) (wR_X9 f 3) (C0 T L (r + 1)) := fun f hf => by
      obtain ⟨f, rfl⟩ : ∃ f', f = f' + 1 := ⟨f - 1, by omega⟩
      refine m_asked (r := r + 1) h6 rfl (Gd_N0 (r + 1)) (chain (r + 1) hU f (by omega)) (fun X h => ⟨by omega, ?_⟩) (fun h => nomatch h) (fun X h => ⟨by omega, ?_⟩) (fun h => nomatch h) ((FZ_all f).2.2 (by omega)) ((FO_all f).1 (by omega)) ((FO_all f).2.2 (by omega))
      · injection h with h
        subst h
        rw [ed]
        exact ⟨⟨_, Gd_C0 r⟩, aC f (by omega)⟩
      · injection h with h
        subst h
        rw [ed]
        exact ⟨⟨_, Gd_D0 r⟩, aD f (by omega)⟩
    exact ⟨hU, chain (r + 1) hU, hC, conds (r + 1) hC⟩
end M3
