/-! a toll's text, by the program: units and chains -/
theorem preT_pre (a b : List Int32) (R : TR) : preT a (preT b R) = preT (a ++ b) R := by
  cases R with
  | inl z => show (Sum.inl (z.1, a ++ (b ++ z.2)) : TR) = .inl (z.1, a ++ b ++ z.2); rw [List.append_assoc]
  | inr z => rfl
theorem preT_nil (R : TR) : preT [] R = R := by
  cases R with
  | inl z => rfl
  | inr z => rfl
def optT (v : Int32) : List Int32 := if v = 0 then [] else [v]
theorem optT_0 : optT 0 = [] := rfl
theorem optT_n {v : Int32} (h : v ≠ 0) : optT v = [v] := if_neg h
section P0
variable (T : Nat → Int32) (L : Nat) (Ea Eb : Nat → Option (Int32 × Nat)) (U : Rl)
/-- what is left when the first chain has ended in R1, v2 pending -/
def Aft (v2 : Int32) (R1 Rf : TR) : Prop := (∃ z, R1 = .inr z ∧ Rf = .inr z) ∨ ∃ q ts R3, R1 = .inl (q, ts) ∧ Tl T L Eb (Ch T L Ea U) q R3 ∧ Rf = preT (ts ++ optT v2) R3
/-- what is left at a part's start, v2 and v3 pending -/
def Rst (v2 v3 : Int32) (p : Nat) (Rf : TR) : Prop := (∃ z, U p (.inr z) ∧ Rf = .inr z) ∨ ∃ q ts R1 R2, U p (.inl (q, ts)) ∧ Tl T L Ea U q R1 ∧ Aft T L Ea Eb U v2 R1 R2 ∧ Rf = preT (ts ++ optT v3) R2
end P0
section P01
variable {T : Nat → Int32} {L : Nat} {Ea Eb : Nat → Option (Int32 × Nat)} {U : Rl}
theorem Aft_pre {v2 : Int32} {l : List Int32} {R' R2 : TR} (h : Aft T L Ea Eb U v2 (preT l R') R2) : ∃ R3, Aft T L Ea Eb U v2 R' R3 ∧ R2 = preT l R3 := by
  rcases h with ⟨z, h1, h2⟩ | ⟨q, ts, R3, h1, h2, h3⟩
  · have e := pre_bad h1.symm
    exact ⟨.inr z, Or.inl ⟨z, e, rfl⟩, h2⟩
  · obtain ⟨t1, e1, e2⟩ := pre_ok h1.symm
    refine ⟨preT (t1 ++ optT v2) R3, Or.inr ⟨q, t1, R3, e1, h2, rfl⟩, ?_⟩
    rw [h3, e2, preT_pre, List.append_assoc]
theorem Rst_of {v2 : Int32} {p : Nat} {RX Rf : TR} (h : Ch T L Ea U p RX) (a : Aft T L Ea Eb U v2 RX Rf) : Rst T L Ea Eb U v2 0 p Rf := by
  rcases h with ⟨z, h1, h2⟩ | ⟨q, ts, R', h1, h2, h3⟩
  · subst h2
    rcases a with ⟨z', e1, e2⟩ | ⟨_, _, _, e1, _⟩
    · injection e1 with e1
      subst e1
      exact Or.inl ⟨z, h1, e2⟩
    · exact nomatch e1
  · subst h3
    obtain ⟨R3, a1, a2⟩ := Aft_pre a
    exact Or.inr ⟨q, ts, R', R3, h1, h2, a1, by rw [a2, optT_0, List.append_nil]⟩
theorem Rst_0 {p : Nat} {R : TR} (h : Ch T L Eb (Ch T L Ea U) p R) : Rst T L Ea Eb U 0 0 p R := by
  rcases h with ⟨z, h1, h2⟩ | ⟨q, ts, R', h1, h2, h3⟩
  · exact Rst_of h1 (Or.inl ⟨z, rfl, h2⟩)
  · exact Rst_of h1 (Or.inr ⟨q, ts, R', rfl, h2, by rw [h3, optT_0, List.append_nil]⟩)
/-- the first chain's end, or one more part of it -/
theorem Tl_1 {p : Nat} {R1 R2 : TR} {v2 : Int32} (h : Tl T L Ea U p R1) (a : Aft T L Ea Eb U v2 R1 R2) : (Ea p = none ∧ ∃ R3, Tl T L Eb (Ch T L Ea U) (sk T L p) R3 ∧ R2 = preT (optT v2) R3) ∨ ∃ t q, Ea p = some (t, q) ∧ (t ≠ 0 → Rst T L Ea Eb U v2 t q R2) := by
  obtain ⟨n, h⟩ := h
  cases n with
  | zero => exact h.elim
  | succ n =>
    rcases h with ⟨e, h⟩ | ⟨t, q, e, h⟩
    · subst h
      rcases a with ⟨z, e1, e2⟩ | ⟨q, ts, R3, e1, e2, e3⟩
      · exact nomatch e1
      · injection e1 with e1
        injection e1 with ea eb
        subst ea eb
        exact Or.inl ⟨e, R3, e2, e3⟩
    · refine Or.inr ⟨t, q, e, fun ht => ?_⟩
      rcases h with ⟨z, h1, h2⟩ | ⟨q', ts, R', h1, h2, h3⟩
      · subst h2
        rcases a with ⟨z', e1, e2⟩ | ⟨_, _, _, e1, _⟩
        · injection e1 with e1
          subst e1
          exact Or.inl ⟨z, h1, e2⟩
        · exact nomatch e1
      · subst h3
        obtain ⟨R3, a1, a2⟩ := Aft_pre a
        exact Or.inr ⟨q', ts, R', R3, h1, ⟨n, h2⟩, a1, by rw [a2, optT_n ht]⟩
/-- the second chain's end, or one more part of it -/
theorem Tl_2 {p : Nat} {R : TR} (h : Tl T L Eb (Ch T L Ea U) p R) : (Eb p = none ∧ R = .inl (sk T L p, [])) ∨ ∃ t q, Eb p = some (t, q) ∧ (t ≠ 0 → Rst T L Ea Eb U t 0 q R) := by
  obtain ⟨n, h⟩ := h
  cases n with
  | zero => exact h.elim
  | succ n =>
    rcases h with ⟨e, h⟩ | ⟨t, q, e, h⟩
    · exact Or.inl ⟨e, h⟩
    · refine Or.inr ⟨t, q, e, fun ht => ?_⟩
      rcases h with ⟨z, h1, h2⟩ | ⟨q', ts, R', h1, h2, h3⟩
      · exact Rst_of h1 (Or.inl ⟨z, rfl, h2⟩)
      · exact Rst_of h1 (Or.inr ⟨q', ts, R', rfl, ⟨n, h2⟩, by rw [h3, optT_n ht]⟩)
end P01
/-! the program's scratch: what is read keeps all but the text's place and the scratch law -/
def fl (h h' : Hp) : Prop := (∀ q, q ≠ 1 → q ≠ 30 → q ≠ 31 → h' q = h q) ∧ (∀ i, i ≠ 3 → h' 1 i = h 1 i)
def fx (h h' : Hp) (k x : Nat) : Prop := (∀ q, q ≠ 1 → q ≠ 30 → q ≠ 31 → h' q = h q) ∧ (∀ i, i ≠ 3 → i ≠ 4 → i ≠ 5 → h' 1 i = h 1 i) ∧ h' 1 4 = nI k ∧ h' 1 5 = nI x
theorem fl.rf {h : Hp} : fl h h := ⟨fun _ _ _ _ => rfl, fun _ _ => rfl⟩
theorem fl.tr {h h1 h2 : Hp} (a : fl h h1) (b : fl h1 h2) : fl h h2 := ⟨fun q x y z => (b.1 q x y z).trans (a.1 q x y z), fun i hi => (b.2 i hi).trans (a.2 i hi)⟩
theorem fl.fx {h h1 h2 : Hp} {k x : Nat} (a : fl h h1) (b : fx h1 h2 k x) : fx h h2 k x := ⟨fun q x y z => (b.1 q x y z).trans (a.1 q x y z), fun i h3 h4 h5 => (b.2.1 i h3 h4 h5).trans (a.2 i h3), b.2.2⟩
theorem fc.fl {h h' : Hp} (a : fc h h') : fl h h' := ⟨fun q hq _ _ => a.1 q hq, a.2⟩
theorem er.fx {h h' : Hp} {k x : Nat} (a : er h h' k x) : fx h h' k x := ⟨fun q hq _ _ => a.1 q hq, a.2.1, a.2.2⟩
theorem LL.same {h h' : Hp} {l : List Int32} (c : LL 30 h l) (e : ∀ q, q ≠ 1 → h' q = h q) : LL 30 h' l := by
  unfold LL
  rw [e 30 (by decide), e (30 + 1) (by decide)]
  exact c
theorem CT.law {h h' : Hp} {T : Nat → Int32} {L p : Nat} (c : CT h T L p) (e : ∀ q, q ≠ 30 → q ≠ 31 → h' q = h q) : CT h' T L p := by
  unfold CT
  rw [e 1 (by decide) (by decide), e 2 (by decide) (by decide)]
  exact c
def outT (h : Hp) (T : Nat → Int32) (L : Nat) (toks : List Int32) (R : TR) (Q : Int32 → Hp → Prop) : Prop := (∀ h' q ts, R = .inl (q, ts) → fl h h' → CT h' T L q → LL 30 h' (toks ++ ts) → Q 1 h') ∧ (∀ h' k x, R = .inr (k, x) → fx h h' k x → Q 0 h')
section P2
variable {h h1 : Hp} {T : Nat → Int32} {L p : Nat} {toks l : List Int32} {R : TR} {Q : Int32 → Hp → Prop}
theorem outT.to (o : outT h T L toks R Q) (a : fl h h1) : outT h1 T L toks R Q := ⟨fun h' q ts e f => o.1 h' q ts e (a.tr f), fun h' k x e f => o.2 h' k x e (a.fx f)⟩
theorem outT.pre (o : outT h T L toks (preT l R) Q) : outT h T L (toks ++ l) R Q := by
  refine ⟨fun h' q ts e f c s => ?_, fun h' k x e f => o.2 h' k x (by rw [e]; rfl) f⟩
  subst e
  exact o.1 h' q (l ++ ts) rfl f c (by rw [← List.append_assoc]; exact s)
theorem s_addT (c : CT h T L p) (l : LL 30 h toks) (hl : toks.length < 500) {t : Int32} (K : Hp → Prop) (hQ : ∀ h', fl h h' → CT h' T L p → LL 30 h' (toks ++ [t]) → K h') : w_X0_add 30 t h K := by
  refine s_add (p := 30) (by unfold lawQ; omega) l hl t _ (fun h' a b l' => ?_)
  exact hQ h' ⟨fun q _ y z => a q y z, fun i _ => by rw [a 1 (by decide) (by decide)]⟩ (c.law a) l'
end P2
def PSR (T : Nat → Int32) (L : Nat) (X : Hp → (Int32 → Hp → Prop) → Prop) (U : Rl) : Prop := ∀ (h : Hp) (toks : List Int32) (p : Nat) (R : TR) (Q : Int32 → Hp → Prop), CT h T L p → LL 30 h toks → toks.length ≤ p → U p R → outT h T L toks R Q → X h Q
theorem isW_no {T : Nat → Int32} {L p : Nat} {w : List Nat} (h : isW T L w p = false) : ¬ isW T L w p = true := by rw [h]; decide
section P3
variable {T : Nat → Int32} {L : Nat} {W : Nat → Int32 → Hp → (Int32 → Hp → Prop) → Prop} {p1 : Int32}
theorem p_b200 {h : Hp} {q : Nat} {toks : List Int32} {v : Int32} {Q : Int32 → Hp → Prop} (c : CT h T L q) (l : LL 30 h toks) (hl : toks.length < 500) (o : outT h T L toks (.inl (q, [v])) Q) : w_X1_unit_o_b200 W p1 v h Q := by
  unfold w_X1_unit_o_b200
  refine s_addT c l hl _ (fun h' f c' l' => ?_)
  rw [b11]
  exact o.1 h' q [v] rfl f c' l'
theorem p_b166 {h : Hp} {q : Nat} {toks : List Int32} {v : Int32} {Q : Int32 → Hp → Prop} (hv : v ≠ 0) (c : CT h T L q) (l : LL 30 h toks) (hl : toks.length < 500) (o : outT h T L toks (.inl (q, [v])) Q) : w_X1_unit_o_b166 W p1 v h Q := by
  unfold w_X1_unit_o_b166 w_X1_unit_o_b186
  exact wif_p hv (wif_p hv (p_b200 c l hl o))
theorem nm_t {p n i : Nat} (h : isW T L (wOf (i + 14)) p = true) : nmN T L p (n + 1) i = i + 1 := if_pos h
theorem nm_f {p n i : Nat} (h : isW T L (wOf (i + 14)) p = false) : nmN T L p (n + 1) i = nmN T L p n (i + 1) := if_neg (isW_no h)
theorem p_unit {r : Nat} (hr : r ≤ 6) (e : p1 = nI (6 - r)) {N : Option Rl} (hN : ∀ N', N = some N' → 1 ≤ r ∧ PSR T L (fun h Q => W 1 (p1 + 1) h Q) N') (hN0 : N = none → r = 0) : PSR T L (fun h Q => w_X1_unit_o W p1 h Q) (UnT T L N) := by
  intro h toks p R Q c l hl hu o
  have ss : sk T L (sk T L p) = sk T L p := sc_id isB T L p
  have hk : p ≤ sk T L p := sc_ge isB T L p
  have hpL := c.2.2.2.1
  have hL := c.2.1
  have hs : sk T L p ≤ L := sc_le isB T hpL
  show w_X1_unit_o W p1 h Q
  unfold w_X1_unit_o
  refine s_start c _ (fun h1 f1 c1 => ?_)
  refine s_sign c1 40 _ (fun h2 f2 y1 y2 c2 => ?_) (fun h2 f2 y c2 => ?_)
  · rw [ss] at y1 y2 c2
    unfold UnT at hu
    rw [if_pos ⟨y1, y2⟩] at hu
    have f2' := (f1.tr f2).fl
    refine wif_n i10 ?_
    cases N with
    | none =>
      have r0 := hN0 rfl
      subst r0
      have hu2 : R = .inr (3, sk T L p) := hu
      subst e
      refine wif_n (by decide) (s_fail q3 rfl _ (fun h3 e3 => ?_))
      rw [b01]
      exact o.2 h3 _ _ hu2 (f2'.fx e3.fx)
    | some N' =>
      obtain ⟨r1, hW⟩ := hN N' rfl
      obtain ⟨R1, u1, u2⟩ := (hu : ∃ R1, N' (sk T L p + 1) R1 ∧ R = cloT T L 41 R1)
      have hp1 : p1 < 6 := by
        rw [e, q6]
        exact (nI_ltI (by omega) (by decide)).mpr (by omega)
      refine wif_p hp1 (hW h2 toks _ R1 _ c2 (l.same (f1.tr f2).1) (by omega) u1 ⟨fun h' q ts e1 f c' l' => wif_n i10 ?_, fun h' k x e1 f => wif_p rfl ?_⟩)
      · subst e1
        refine s_must c' 41 _ (fun h3 f3 w1 w2 c3 => ?_) (fun h3 f3 w => ?_)
        · rw [if_neg i10, b11]
          refine o.1 h3 _ ts ?_ ((f2'.tr f).tr f3.fl) c3 (l'.same f3.1)
          rw [u2]
          exact if_pos ⟨w1, w2⟩
        · rw [if_pos rfl, b01]
          refine o.2 h3 1 (sk T L q) ?_ ((f2'.tr f).fx f3.fx)
          rw [u2]
          exact if_neg w
      · subst e1
        rw [b01]
        exact o.2 h' k x u2 (f2'.fx f)
  · rw [ss] at y c2
    unfold UnT at hu
    rw [if_neg y] at hu
    refine wif_p rfl ?_
    have el : nmS T L p = nmN T L p 6 0 := rfl
    have name : ∀ m (g : Hp) (v : Int32), fl h g → CT g T L (le T L (sk T L p)) → (∀ q, q ≠ 1 → g q = h q) → isW T L (wOf (m + 14)) p = true → nmS T L p = m + 1 → v = -nI (m + 1) → outT g T L toks (.inl (le T L (sk T L p), [v])) Q ∧ toks.length < 500 := by
      intro m g v fg cg sg hw hm hv
      rw [if_pos (by omega), hm, ← hv] at hu
      subst hu
      refine ⟨o.to fg, ?_⟩
      have := isW_le hw
      have hlt : 0 < (wOf (m + 14)).length := by
        have hm6 := (nmS_ok (T := T) (L := L) (p := p) (by omega)).1
        exact wlen ⟨m + 1, by omega⟩ (by simp)
      have := cg.2.2.2.1
      omega
    refine s_word c2 (by decide) _ (fun h3 f3 w c3 => ?_) (fun h3 f3 w0 c3 => ?_)
    · rw [isW_sk ss] at w
      rw [ss] at c3
      obtain ⟨o1, o2⟩ := name 0 h3 (-1) ((f1.tr f2).tr f3).fl c3 ((f1.tr f2).tr f3).1 w (by rw [el, nm_t w]) (by decide)
      exact wif_n i10 (p_b166 (by decide) c3 (l.same ((f1.tr f2).tr f3).1) o2 o1)
    rw [isW_sk ss] at w0
    rw [ss] at c3
    refine wif_p rfl ?_
    have k3 := (f1.tr f2).tr f3
    refine s_word c3 (by decide) _ (fun h4 f4 w c4 => ?_) (fun h4 f4 w1 c4 => ?_)
    · rw [isW_sk ss] at w
      rw [ss] at c4
      obtain ⟨o1, o2⟩ := name 1 h4 (-2) (k3.tr f4).fl c4 (k3.tr f4).1 w (by rw [el, nm_f w0, nm_t w]) (by decide)
      exact wif_n i10 (p_b166 (by decide) c4 (l.same (k3.tr f4).1) o2 o1)
    rw [isW_sk ss] at w1
    rw [ss] at c4
    refine wif_p rfl ?_
    have k4 := k3.tr f4
    refine s_word c4 (by decide) _ (fun h5 f5 w c5 => ?_) (fun h5 f5 w2 c5 => ?_)
    · rw [isW_sk ss] at w
      rw [ss] at c5
      obtain ⟨o1, o2⟩ := name 2 h5 (-3) (k4.tr f5).fl c5 (k4.tr f5).1 w (by rw [el, nm_f w0, nm_f w1, nm_t w]) (by decide)
      exact wif_n i10 (p_b166 (by decide) c5 (l.same (k4.tr f5).1) o2 o1)
    rw [isW_sk ss] at w2
    rw [ss] at c5
    refine wif_p rfl ?_
    have k5 := k4.tr f5
    refine s_word c5 (by decide) _ (fun h6 f6 w c6 => ?_) (fun h6 f6 w3 c6 => ?_)
    · rw [isW_sk ss] at w
      rw [ss] at c6
      obtain ⟨o1, o2⟩ := name 3 h6 (-4) (k5.tr f6).fl c6 (k5.tr f6).1 w (by rw [el, nm_f w0, nm_f w1, nm_f w2, nm_t w]) (by decide)
      exact wif_n i10 (p_b166 (by decide) c6 (l.same (k5.tr f6).1) o2 o1)
    rw [isW_sk ss] at w3
    rw [ss] at c6
    refine wif_p rfl ?_
    have k6 := k5.tr f6
    refine s_word c6 (by decide) _ (fun h7 f7 w c7 => ?_) (fun h7 f7 w4 c7 => ?_)
    · rw [isW_sk ss] at w
      rw [ss] at c7
      obtain ⟨o1, o2⟩ := name 4 h7 (-5) (k6.tr f7).fl c7 (k6.tr f7).1 w (by rw [el, nm_f w0, nm_f w1, nm_f w2, nm_f w3, nm_t w]) (by decide)
      exact wif_n i10 (p_b166 (by decide) c7 (l.same (k6.tr f7).1) o2 o1)
    rw [isW_sk ss] at w4
    rw [ss] at c7
    refine wif_p rfl ?_
    have k7 := k6.tr f7
    refine s_word c7 (by decide) _ (fun h8 f8 w c8 => ?_) (fun h8 f8 w5 c8 => ?_)
    · rw [isW_sk ss] at w
      rw [ss] at c8
      obtain ⟨o1, o2⟩ := name 5 h8 (-6) (k7.tr f8).fl c8 (k7.tr f8).1 w (by rw [el, nm_f w0, nm_f w1, nm_f w2, nm_f w3, nm_f w4, nm_t w]) (by decide)
      rw [wlet_e, if_neg i10]
      unfold w_X1_unit_o_b186
      exact wif_p (by decide) (wif_p (by decide) (p_b200 c8 (l.same (k7.tr f8).1) o2 o1))
    rw [isW_sk ss] at w5
    rw [ss] at c8
    have k8 := k7.tr f8
    have nm0 : ¬ nmS T L p ≠ 0 := fun z => z (by rw [el, nm_f w0, nm_f w1, nm_f w2, nm_f w3, nm_f w4, nm_f w5]; rfl)
    rw [if_neg nm0] at hu
    rw [wlet_e, if_pos rfl]
    refine wif_n (not_not_intro rfl) ?_
    refine s_num c8 0 9999 rfl rfl (by decide) (by decide) _ (fun h9 f9 n0 c9 => ?_) (fun h9 n1 e9 => ?_)
    · rw [if_pos n0] at hu
      have n2 := numS_ok n0
      unfold w_X1_unit_o_b186
      refine wif_n (not_not_intro rfl) (wif_p (nI_m1 (by omega)) ?_)
      have g := (Gd_U (T := T) (L := L) (N := none) (D := 1) (by decide) (fun N' h => nomatch h) p hpL).2.1 (numS T L 0 9999 (sk T L p)).2.2.1 [nI (numS T L 0 9999 (sk T L p)).2.2.2] (by unfold UnT; rw [if_neg y, if_neg nm0, if_pos n0])
      refine p_b200 c9 (l.same (k8.tr f9).1) (by omega) ?_
      rw [← hu]
      exact o.to (k8.tr f9).fl
    · rw [if_neg n1] at hu
      unfold w_X1_unit_o_b186
      refine wif_n (not_not_intro rfl) (wif_n (not_not_intro rfl) ?_)
      rw [b01]
      exact o.2 h9 _ _ hu (k8.fl.fx e9.fx)
end P3
