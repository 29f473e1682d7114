/-! a toll's rows, purely, and by the program -/
abbrev TW := Sum (List Row) (Nat × Nat)
def consW (x : Row) : TW → TW
  | .inl l => .inl (x :: l)
  | .inr z => .inr z
def EndW (T : Nat → Int32) (L : Nat) (G : Nat → Nat → TW → Prop) (v q : Nat) (x : Row) (R : TW) : Prop := if sk T L q < L ∧ T (sk T L q) = 59 then ∃ R', G (v + 1) (sk T L q + 1) R' ∧ R = consW x R' else R = .inr (1, sk T L q)
def N6 (T : Nat → Int32) (L : Nat) : Rl := NNT T L (U0 T L 6)
def D6 (T : Nat → Int32) (L : Nat) : Rl := DDT T L (C0 T L 6)
def RwN (T : Nat → Int32) (L : Nat) : Nat → Nat → Nat → TW → Prop
  | 0 => fun _ _ _ => False
  | n + 1 => fun v p R =>
    if sk T L p < L then
      (if isW T L (wOf 13) p = true then
        (if 10 ≤ v then R = .inr (3, sk T L p)
        else (∃ z, N6 T L (le T L (sk T L p)) (.inr z) ∧ R = .inr z) ∨ ∃ q ts, N6 T L (le T L (sk T L p)) (.inl (q, ts)) ∧
          (if isW T L (wOf 20) q = true then (∃ z, D6 T L (le T L (sk T L q)) (.inr z) ∧ R = .inr z) ∨ ∃ q2 cs, D6 T L (le T L (sk T L q)) (.inl (q2, cs)) ∧ EndW T L (RwN T L n) v q2 (ts, some cs) R
          else EndW T L (RwN T L n) v q (ts, none) R))
      else R = .inr (1, sk T L p))
    else R = .inl []
section W1
variable {T : Nat → Int32} {L : Nat}
theorem gN6 : Gd T L false 15 (N6 T L) := Gd_N0 6
theorem gD6 : Gd T L true 18 (D6 T L) := Gd_D0 6
theorem End_ex {G : Nat → Nat → TW → Prop} {v q : Nat} (x : Row) (h : sk T L q < L → ∃ R, G (v + 1) (sk T L q + 1) R) : ∃ R, EndW T L G v q x R := by
  unfold EndW
  by_cases c : sk T L q < L ∧ T (sk T L q) = 59
  · obtain ⟨R, hR⟩ := h c.1
    exact ⟨_, by rw [if_pos c]; exact ⟨R, hR, rfl⟩⟩
  · exact ⟨_, by rw [if_neg c]⟩
theorem Rw_ex : ∀ n v p, p ≤ L → L < n + p → ∃ R, RwN T L n v p R
  | 0, v, p, h1, h2 => absurd h2 (by omega)
  | n + 1, v, p, h1, h2 => by
    have hk : p ≤ sk T L p := sc_ge isB T L p
    have hs : sk T L p ≤ L := sc_le isB T h1
    have hl : le T L (sk T L p) ≤ L := sc_le isLt T hs
    have hl2 : sk T L p ≤ le T L (sk T L p) := sc_ge isLt T L (sk T L p)
    unfold RwN
    by_cases c : sk T L p < L
    · simp only [if_pos c]
      by_cases w : isW T L (wOf 13) p = true
      · simp only [if_pos w]
        by_cases v10 : 10 ≤ v
        · simp only [if_pos v10]
          exact ⟨_, rfl⟩
        simp only [if_neg v10]
        obtain ⟨⟨R, hR⟩, u2, _⟩ := gN6 (T := T) _ hl
        cases R with
        | inr z => exact ⟨_, Or.inl ⟨z, hR, rfl⟩⟩
        | inl z =>
          obtain ⟨q, ts⟩ := z
          obtain ⟨y1, y2, _⟩ := u2 _ _ hR
          have hq : q ≤ sk T L q := sc_ge isB T L q
          have hq2 : sk T L q ≤ L := sc_le isB T y2
          have hq3 : le T L (sk T L q) ≤ L := sc_le isLt T hq2
          have hq4 : sk T L q ≤ le T L (sk T L q) := sc_ge isLt T L (sk T L q)
          by_cases wi : isW T L (wOf 20) q = true
          · obtain ⟨⟨R2, hR2⟩, u3, _⟩ := gD6 (T := T) _ hq3
            cases R2 with
            | inr z => exact ⟨_, Or.inr ⟨q, ts, hR, by rw [if_pos wi]; exact Or.inl ⟨z, hR2, rfl⟩⟩⟩
            | inl z =>
              obtain ⟨q2, cs⟩ := z
              obtain ⟨x1, x2, _⟩ := u3 _ _ hR2
              have hq5 : q2 ≤ sk T L q2 := sc_ge isB T L q2
              obtain ⟨R3, h3⟩ := End_ex (T := T) (L := L) (G := RwN T L n) (v := v) (q := q2) (ts, some cs) (fun z => Rw_ex n (v + 1) _ z (by omega))
              exact ⟨R3, Or.inr ⟨q, ts, hR, by rw [if_pos wi]; exact Or.inr ⟨q2, cs, hR2, h3⟩⟩⟩
          · obtain ⟨R3, h3⟩ := End_ex (T := T) (L := L) (G := RwN T L n) (v := v) (q := q) (ts, none) (fun z => Rw_ex n (v + 1) _ z (by omega))
            exact ⟨R3, Or.inr ⟨q, ts, hR, by rw [if_neg wi]; exact h3⟩⟩
      · simp only [if_neg w]
        exact ⟨_, rfl⟩
    · simp only [if_neg c]
      exact ⟨_, rfl⟩
theorem consW_ok {x : Row} {R' : TW} {rs : List Row} (h : .inl rs = consW x R') : ∃ r1, R' = .inl r1 ∧ rs = x :: r1 := by
  cases R' with
  | inr z => exact nomatch h
  | inl z =>
    injection h with h
    exact ⟨z, rfl, h⟩
theorem consW_bad {x : Row} {R' : TW} {z : Nat × Nat} (h : .inr z = consW x R') : R' = .inr z := by
  cases R' with
  | inl z => exact nomatch h
  | inr z =>
    injection h with h
    rw [h]
theorem End_ok {G : Nat → Nat → TW → Prop} {v q : Nat} {x : Row} {rs : List Row} (h : EndW T L G v q x (.inl rs)) : ∃ r1, sk T L q < L ∧ T (sk T L q) = 59 ∧ G (v + 1) (sk T L q + 1) (.inl r1) ∧ rs = x :: r1 := by
  unfold EndW at h
  split at h
  · rename_i c
    obtain ⟨R', h1, h2⟩ := h
    obtain ⟨r1, e1, e2⟩ := consW_ok h2
    subst e1
    exact ⟨r1, c.1, c.2, h1, e2⟩
  · exact nomatch h
theorem End_bad {G : Nat → Nat → TW → Prop} {v q : Nat} {x : Row} {z : Nat × Nat} (h : EndW T L G v q x (.inr z)) : (sk T L q < L ∧ G (v + 1) (sk T L q + 1) (.inr z)) ∨ z = (1, sk T L q) := by
  unfold EndW at h
  split at h
  · rename_i c
    obtain ⟨R', h1, h2⟩ := h
    have e := consW_bad h2
    subst e
    exact Or.inl ⟨c.1, h1⟩
  · injection h with h
    exact Or.inr h
theorem flat_cons (x : Row) (rs : List Row) : flat (x :: rs) = rowL x ++ flat rs := rfl
theorem Rw_ok : ∀ n v p rs, p ≤ L → v ≤ 10 → RwN T L n v p (.inl rs) → (∀ r ∈ rs, rowOk r) ∧ v + rs.length ≤ 10 ∧ p + (flat rs).length ≤ L
  | 0, v, p, rs, _, _, h => h.elim
  | n + 1, v, p, rs, h1, hv, h => by
    have hk : p ≤ sk T L p := sc_ge isB T L p
    have hs : sk T L p ≤ L := sc_le isB T h1
    have hl : le T L (sk T L p) ≤ L := sc_le isLt T hs
    unfold RwN at h
    split at h
    · split at h
      · rename_i w
        have w1 := isW_le w
        have w2 : (wOf 13).length = 3 := by decide
        split at h
        · exact nomatch h
        · rename_i v10
          rcases h with ⟨z, _, h⟩ | ⟨q, ts, h2, h⟩
          · exact nomatch h
          · obtain ⟨y1, y2, y3, y4, y5, y6⟩ := (gN6 (T := T) _ hl).2.1 _ _ h2
            have hq : q ≤ sk T L q := sc_ge isB T L q
            have hq2 : sk T L q ≤ L := sc_le isB T y2
            have hq3 : le T L (sk T L q) ≤ L := sc_le isLt T hq2
            have hq4 : sk T L q ≤ le T L (sk T L q) := sc_ge isLt T L (sk T L q)
            have t1 : tyl ts [] = some [false] := y6 [] (by decide)
            split at h
            · rename_i wi
              rcases h with ⟨z, _, h⟩ | ⟨q2, cs, h3, h⟩
              · exact nomatch h
              · obtain ⟨x1, x2, x3, x4, x5, x6⟩ := (gD6 (T := T) _ hq3).2.1 _ _ h3
                obtain ⟨r1, c1, c2, c3, c4⟩ := End_ok h
                have hq5 : q2 ≤ sk T L q2 := sc_ge isB T L q2
                obtain ⟨a1, a2, a3⟩ := Rw_ok n (v + 1) _ r1 c1 (by omega) c3
                subst c4
                refine ⟨fun r hr => ?_, by rw [List.length_cons]; omega, ?_⟩
                · rcases List.mem_cons.mp hr with e | hr
                  · subst e
                    refine ⟨t1, fun c hc => ?_⟩
                    injection hc with hc
                    subst hc
                    exact ⟨fun z => by rw [z] at x3; exact absurd x3 (by decide), x6 [] (by decide), x6 [false] (by decide)⟩
                  · exact a1 r hr
                · rw [flat_cons]
                  show p + ((ts ++ (cs ++ [-18])) ++ flat r1).length ≤ L
                  simp only [List.length_append, List.length_cons, List.length_nil]
                  omega
            · obtain ⟨r1, c1, c2, c3, c4⟩ := End_ok h
              obtain ⟨a1, a2, a3⟩ := Rw_ok n (v + 1) _ r1 c1 (by omega) c3
              subst c4
              refine ⟨fun r hr => ?_, by rw [List.length_cons]; omega, ?_⟩
              · rcases List.mem_cons.mp hr with e | hr
                · subst e
                  exact ⟨t1, fun c hc => nomatch hc⟩
                · exact a1 r hr
              · rw [flat_cons]
                show p + ((ts ++ [-17]) ++ flat r1).length ≤ L
                simp only [List.length_append, List.length_cons, List.length_nil]
                omega
      · exact nomatch h
    · injection h with h
      subst h
      exact ⟨fun r hr => (List.not_mem_nil hr).elim, hv, h1⟩
theorem Rw_bad : ∀ n v p k x, p ≤ L → RwN T L n v p (.inr (k, x)) → 1 ≤ k ∧ k ≤ 3 ∧ x ≤ L
  | 0, v, p, k, x, _, h => h.elim
  | n + 1, v, p, k, x, h1, h => by
    have hs : sk T L p ≤ L := sc_le isB T h1
    have hl : le T L (sk T L p) ≤ L := sc_le isLt T hs
    have fin : ∀ {q : Nat} {y : Row}, q ≤ L → EndW T L (RwN T L n) v q y (.inr (k, x)) → 1 ≤ k ∧ k ≤ 3 ∧ x ≤ L := by
      intro q y hq hE
      have hq2 : sk T L q ≤ L := sc_le isB T hq
      rcases End_bad hE with ⟨c, e⟩ | e
      · exact Rw_bad n _ _ k x c e
      · injection e with ea eb
        subst ea eb
        exact ⟨Nat.le_refl _, by decide, hq2⟩
    unfold RwN at h
    split at h
    · split at h
      · split at h
        · injection h with h
          injection h with ha hb
          subst ha hb
          exact ⟨by decide, by decide, hs⟩
        · rcases h with ⟨z, h2, h⟩ | ⟨q, ts, h2, h⟩
          · injection h with h
            subst h
            exact (gN6 (T := T) _ hl).2.2 _ _ h2
          · obtain ⟨y1, y2, _⟩ := (gN6 (T := T) _ hl).2.1 _ _ h2
            have hq2 : sk T L q ≤ L := sc_le isB T y2
            have hq3 : le T L (sk T L q) ≤ L := sc_le isLt T hq2
            split at h
            · rcases h with ⟨z, h3, h⟩ | ⟨q2, cs, h3, h⟩
              · injection h with h
                subst h
                exact (gD6 (T := T) _ hq3).2.2 _ _ h3
              · obtain ⟨x1, x2, _⟩ := (gD6 (T := T) _ hq3).2.1 _ _ h3
                exact fin x2 h
            · exact fin y2 h
      · injection h with h
        injection h with ha hb
        subst ha hb
        exact ⟨by decide, by decide, hs⟩
    · exact nomatch h
def outW (h : Hp) (toks : List Int32) (R : TW) (Q : Int32 → Hp → Prop) : Prop := (∀ h' rs, R = .inl rs → fl h h' → LL 30 h' (toks ++ flat rs) → Q 1 h') ∧ (∀ h' k x, R = .inr (k, x) → fx h h' k x → Q 0 h')
theorem outW.to {h h1 : Hp} {toks : List Int32} {R : TW} {Q : Int32 → Hp → Prop} (o : outW h toks R Q) (a : fl h h1) : outW h1 toks R Q := ⟨fun h' rs e f => o.1 h' rs e (a.tr f), fun h' k x e f => o.2 h' k x e (a.fx f)⟩
theorem outW.cons {h : Hp} {toks : List Int32} {x : Row} {R : TW} {Q : Int32 → Hp → Prop} (o : outW h toks (consW x R) Q) : outW h (toks ++ rowL x) R Q := by
  refine ⟨fun h' rs e f s => ?_, fun h' k y e f => o.2 h' k y (by rw [e]; rfl) f⟩
  subst e
  exact o.1 h' (x :: rs) rfl f (by rw [flat_cons, ← List.append_assoc]; exact s)
def WInv (T : Nat → Int32) (L : Nat) (Q : Int32 → Hp → Prop) (n : Nat) (s : Int32 × Hp) : Prop := s.1 = nI n ∧ ∃ p toks R m, CT s.2 T L p ∧ LL 30 s.2 toks ∧ toks.length ≤ p ∧ RwN T L m n p R ∧ outW s.2 toks R Q
theorem p_end {h : Hp} {q n m : Nat} {toks : List Int32} {x : Row} {t v1 v3 : Int32} {ts : List Int32} {R : TW} {K9 : Int32 × Hp → Prop} {Q : Int32 → Hp → Prop} (e1 : v1 = nI n) (e3 : (if v3 = 0 then (-17 : Int32) else -18) = t) (c : CT h T L q) (l : LL 30 h (toks ++ ts)) (hl : (toks ++ ts).length + 1 ≤ q) (hx : ts ++ [t] = rowL x) (hE : EndW T L (RwN T L m) n q x R) (o : outW h toks R Q) (hK : ∀ s', WInv T L Q (n + 1) s' → K9 s') : w_X1_rows_b105 v1 v3 K9 h Q := by
  have hL := c.2.1
  have hqL := c.2.2.2.1
  have hk : q ≤ sk T L q := sc_ge isB T L q
  unfold w_X1_rows_b105
  rw [e3]
  refine s_addT c l (by omega) _ (fun h2 f2 c2 l2 => ?_)
  rw [List.append_assoc, hx] at l2
  have hlen : (toks ++ rowL x).length = (toks ++ ts).length + 1 := by
    rw [← hx, ← List.append_assoc, List.length_append]
    rfl
  unfold EndW at hE
  refine s_must c2 59 _ (fun h3 f3 y1 y2 c3 => ?_) (fun h3 e3 y => ?_)
  · rw [if_pos ⟨y1, y2⟩] at hE
    obtain ⟨R', a1, a2⟩ := hE
    subst a2
    refine wif_p i10 ?_
    rw [e1, nI_1]
    exact hK _ ⟨rfl, sk T L q + 1, toks ++ rowL x, R', m, c3, l2.same f3.1, by omega, a1, (o.cons).to (f2.tr f3.fl)⟩
  · rw [if_neg y] at hE
    refine wif_n (not_not_intro rfl) ?_
    rw [b01]
    exact o.2 h3 1 (sk T L q) hE (f2.fx e3.fx)
theorem p_rows {h : Hp} {R : TW} {m : Nat} (c : CT h T L 0) (hR : RwN T L m 0 0 R) (Q : Int32 → Hp → Prop) (o : outW h [] R Q) : w_X1_rows h Q := by
  unfold w_X1_rows w_X0_empty
  rw [wlet_e]
  unfold w_X1_rows_b9
  have f0 : fl h (hup h 30 3 0) := ⟨fun q _ y _ => hup_ne y, fun i _ => by rw [hup_ne (by decide)]⟩
  have l0 : LL 30 (hup h 30 3 0) [] := ⟨hup_eq _ _ _ _, fun i hi => absurd hi (Nat.not_lt_zero i)⟩
  refine wl_run 10 (WInv T L Q) ?_ (Nat.zero_le _) ⟨rfl, 0, [], R, m, c.law (fun q x _ => hup_ne x), l0, Nat.le_refl _, hR, o.to f0⟩
  clear o hR c f0 l0
  rintro n ⟨v1, g⟩ K hn ⟨e1, p, toks, R, m, c, l, hl, hR, o⟩ hK
  simp only at e1 c l o
  have hpL := c.2.2.2.1
  have hL := c.2.1
  have hs : sk T L p ≤ L := sc_le isB T hpL
  have hk : p ≤ sk T L p := sc_ge isB T L p
  have hll : le T L (sk T L p) ≤ L := sc_le isLt T hs
  have ss : sk T L (sk T L p) = sk T L p := sc_id isB T L p
  cases m with
  | zero => exact hR.elim
  | succ m =>
  show w_X1_rows_l9 Q K v1 g
  unfold w_X1_rows_l9
  refine wif_n (by rw [e1, q10, nI_ltI (by decide) (by omega)]; omega) ?_
  unfold RwN at hR
  refine s_more c _ (fun h2 f2 c2 => ?_)
  by_cases sl : sk T L p < L
  · rw [if_pos sl] at hR
    rw [if_pos sl]
    refine wif_n i10 ?_
    refine s_start c2 _ (fun h3 f3 c3 => ?_)
    rw [ss] at c3
    rw [ss]
    refine s_word c3 (by decide) _ (fun h4 f4 w c4 => ?_) (fun h4 f4 w c4 => ?_)
    · rw [isW_sk ss] at w
      rw [ss] at c4
      rw [if_pos w] at hR
      have w1 := isW_le w
      have w2 : (wOf 13).length = 3 := by decide
      have F4 := (f2.tr f3).tr f4
      refine wif_p i10 ?_
      rw [e1, q10]
      refine ⟨fun z => ?_, fun z => ?_⟩
      · have n10 : n < 10 := (nI_ltI (by omega) (by decide)).mp z
        rw [if_neg (by omega)] at hR
        have hPN : PSR T L (fun h Q => w_X1_number 0 h Q) (N6 T L) := (p_all (T := T) (L := L) 6 (by decide)).2.1 60 (by decide)
        have hPD : PSR T L (fun h Q => w_X1_condition 0 h Q) (D6 T L) := (p_all (T := T) (L := L) 6 (by decide)).2.2.2 60 (by decide)
        rcases hR with ⟨z', a1, a2⟩ | ⟨q, ts, a1, hR⟩
        · refine hPN h4 toks _ _ _ c4 (l.same F4.1) (by omega) a1 ⟨(fun _ _ _ e => nomatch e), fun h' k x e f => wif_n (not_not_intro rfl) ?_⟩
          rw [b01]
          refine o.2 h' k x ?_ (F4.fl.fx f)
          rw [a2]
          injection e with e
          rw [e]
        · obtain ⟨y1, y2, y3, y4, _⟩ := (gN6 (T := T) _ hll).2.1 _ _ a1
          have hq : q ≤ sk T L q := sc_ge isB T L q
          have hq2 : sk T L q ≤ L := sc_le isB T y2
          have hq3 : le T L (sk T L q) ≤ L := sc_le isLt T hq2
          have hq4 : sk T L q ≤ le T L (sk T L q) := sc_ge isLt T L (sk T L q)
          have sq : sk T L (sk T L q) = sk T L q := sc_id isB T L q
          refine hPN h4 toks _ _ _ c4 (l.same F4.1) (by omega) a1 ⟨fun h5 q' ts' e f5 c5 l5 => wif_p i10 ?_, (fun _ _ _ e => nomatch e)⟩
          injection e with e
          injection e with ea eb
          subst ea eb
          have F5 := F4.fl.tr f5
          refine s_word c5 (by decide) _ (fun h6 f6 wi c6 => ?_) (fun h6 f6 wi c6 => ?_)
          · rw [if_pos wi] at hR
            refine wif_n i10 ?_
            rcases hR with ⟨z', b1, b2⟩ | ⟨q2, cs, b1, hE⟩
            · refine hPD h6 (toks ++ ts) _ _ _ c6 (l5.same f6.1) (by rw [List.length_append]; omega) b1 ⟨(fun _ _ _ e => nomatch e), fun h' k x e f => wif_n (not_not_intro rfl) ?_⟩
              rw [b01]
              refine o.2 h' k x ?_ ((F5.tr f6.fl).fx f)
              rw [b2]
              injection e with e
              rw [e]
            · obtain ⟨x1, x2, x3, x4, _⟩ := (gD6 (T := T) _ hq3).2.1 _ _ b1
              refine hPD h6 (toks ++ ts) _ _ _ c6 (l5.same f6.1) (by rw [List.length_append]; omega) b1 ⟨fun h7 q' ts' e f7 c7 l7 => wif_p i10 ?_, (fun _ _ _ e => nomatch e)⟩
              injection e with e
              injection e with ea eb
              subst ea eb
              rw [List.append_assoc] at l7
              refine p_end (x := (ts, some cs)) rfl (if_neg i10) c7 l7 ?_ (List.append_assoc ts cs [-18]) hE (o.to ((F5.tr f6.fl).tr f7)) (hK (by omega))
              simp only [List.length_append]
              omega
          · rw [if_neg (isW_no wi)] at hR
            refine wif_p rfl ?_
            refine p_end (x := (ts, none)) rfl (if_pos rfl) c6 (l5.same f6.1) ?_ rfl (R := R) (m := m) ?_ (o.to (F5.tr f6.fl)) (hK (by omega))
            · rw [List.length_append]; omega
            · unfold EndW at hR ⊢
              rw [sq]
              exact hR
      · have n10 : ¬ n < 10 := fun y => z ((nI_ltI (by omega) (by decide)).mpr y)
        rw [if_pos (by omega)] at hR
        refine s_fail q3 rfl _ (fun h5 e5 => ?_)
        rw [b01]
        exact o.2 h5 _ _ hR (F4.fl.fx e5.fx)
    · rw [isW_sk ss] at w
      rw [if_neg (isW_no w)] at hR
      refine wif_n (not_not_intro rfl) (s_fail q1 rfl _ (fun h5 e5 => ?_))
      rw [b01]
      exact o.2 h5 _ _ hR (((f2.tr f3).tr f4).fl.fx e5.fx)
  · rw [if_neg sl] at hR
    rw [if_neg sl]
    refine wif_p rfl ?_
    rw [b11]
    exact o.1 h2 [] hR f2.fl (by rw [show flat [] = [] from rfl, List.append_nil]; exact l.same f2.1)
end W1
