/-! a toll's text, purely: what stands from p on, as a relation -/
abbrev TR := Sum (Nat × List Int32) (Nat × Nat)
abbrev Rl := Nat → TR → Prop
def preT (l : List Int32) : TR → TR
  | .inl z => .inl (z.1, l ++ z.2)
  | .inr z => .inr z
def postT (l : List Int32) : TR → TR
  | .inl z => .inl (z.1, z.2 ++ l)
  | .inr z => .inr z
def cloT (T : Nat → Int32) (L : Nat) (c : Int32) : TR → TR
  | .inl z => if sk T L z.1 < L ∧ T (sk T L z.1) = c then .inl (sk T L z.1 + 1, z.2) else .inr (1, sk T L z.1)
  | .inr z => .inr z
/-- what follows one part: a sign or a word of E, and another part, and so on -/
def TlN (T : Nat → Int32) (L : Nat) (E : Nat → Option (Int32 × Nat)) (U : Rl) : Nat → Rl
  | 0 => fun _ _ => False
  | n + 1 => fun p R => (E p = none ∧ R = .inl (sk T L p, [])) ∨ ∃ t q, E p = some (t, q) ∧ ((∃ z, U q (.inr z) ∧ R = .inr z) ∨ ∃ q' ts R', U q (.inl (q', ts)) ∧ TlN T L E U n q' R' ∧ R = preT (ts ++ [t]) R')
def Tl (T : Nat → Int32) (L : Nat) (E : Nat → Option (Int32 × Nat)) (U : Rl) : Rl := fun p R => ∃ n, TlN T L E U n p R
def Ch (T : Nat → Int32) (L : Nat) (E : Nat → Option (Int32 × Nat)) (U : Rl) : Rl := fun p R => (∃ z, U p (.inr z) ∧ R = .inr z) ∨ ∃ q ts R', U p (.inl (q, ts)) ∧ Tl T L E U q R' ∧ R = preT ts R'
def opE (T : Nat → Int32) (L : Nat) (c1 c2 t1 t2 : Int32) (p : Nat) : Option (Int32 × Nat) := if sk T L p < L ∧ T (sk T L p) = c1 then some (t1, sk T L p + 1) else if sk T L p < L ∧ T (sk T L p) = c2 then some (t2, sk T L p + 1) else none
def wdE (T : Nat → Int32) (L : Nat) (i : Nat) (t : Int32) (p : Nat) : Option (Int32 × Nat) := if isW T L (wOf i) p = true then some (t, le T L (sk T L p)) else none
def UnT (T : Nat → Int32) (L : Nat) (N : Option Rl) : Rl := fun p R =>
  if sk T L p < L ∧ T (sk T L p) = 40 then (match N with
    | none => R = .inr (3, sk T L p)
    | some N => ∃ R1, N (sk T L p + 1) R1 ∧ R = cloT T L 41 R1)
  else if nmS T L p ≠ 0 then R = .inl (le T L (sk T L p), [-nI (nmS T L p)])
  else if (numS T L 0 9999 (sk T L p)).1 = 0 then R = .inl ((numS T L 0 9999 (sk T L p)).2.2.1, [nI (numS T L 0 9999 (sk T L p)).2.2.2])
  else R = .inr ((numS T L 0 9999 (sk T L p)).1, (numS T L 0 9999 (sk T L p)).2.1)
def cmpT (x : Int32) : Int32 := if x = 60 then -11 else if x = 62 then -12 else if x = 61 then -13 else 0
def ClT (T : Nat → Int32) (L : Nat) (D C : Option Rl) (N : Rl) : Rl := fun p R =>
  if isW T L (wOf 21) p = true then (match C with
    | none => R = .inr (3, sk T L p)
    | some C => ∃ R1, C (le T L (sk T L p)) R1 ∧ R = postT [-14] R1)
  else if sk T L p < L ∧ T (sk T L p) = 91 then (match D with
    | none => R = .inr (3, sk T L p)
    | some D => ∃ R1, D (sk T L p + 1) R1 ∧ R = cloT T L 93 R1)
  else (∃ z, N (sk T L p) (.inr z) ∧ R = .inr z) ∨ ∃ q ts, N (sk T L p) (.inl (q, ts)) ∧ ((sk T L q < L ∧ cmpT (T (sk T L q)) ≠ 0 ∧ ∃ R2, N (sk T L q + 1) R2 ∧ R = preT ts (postT [cmpT (T (sk T L q))] R2)) ∨ (¬ (sk T L q < L ∧ cmpT (T (sk T L q)) ≠ 0) ∧ R = .inr (1, sk T L q)))
def E1 (T : Nat → Int32) (L : Nat) := opE T L 42 47 (-9) (-10)
def E2 (T : Nat → Int32) (L : Nat) := opE T L 43 45 (-7) (-8)
def E3 (T : Nat → Int32) (L : Nat) := wdE T L 22 (-15)
def E4 (T : Nat → Int32) (L : Nat) := wdE T L 23 (-16)
def NNT (T : Nat → Int32) (L : Nat) (U : Rl) : Rl := Ch T L (E2 T L) (Ch T L (E1 T L) U)
def DDT (T : Nat → Int32) (L : Nat) (U : Rl) : Rl := Ch T L (E4 T L) (Ch T L (E3 T L) U)
def U0 (T : Nat → Int32) (L : Nat) : Nat → Rl
  | 0 => UnT T L none
  | r + 1 => UnT T L (some (NNT T L (U0 T L r)))
def C0 (T : Nat → Int32) (L : Nat) : Nat → Rl
  | 0 => ClT T L none none (NNT T L (U0 T L 0))
  | r + 1 => ClT T L (some (DDT T L (C0 T L r))) (some (C0 T L r)) (NNT T L (U0 T L (r + 1)))
/-! what they keep -/
def Gd (T : Nat → Int32) (L : Nat) (b : Bool) (D : Nat) (U : Rl) : Prop := ∀ p, p ≤ L → (∃ R, U p R) ∧ (∀ q ts, U p (.inl (q, ts)) → p < q ∧ q ≤ L ∧ 1 ≤ ts.length ∧ p + ts.length ≤ q ∧ 2 * (mcs ts).length ≤ 3 * (q - p) + 1 ∧ ∀ s : List Bool, s.length + D ≤ 60 → tyl ts s = some (b :: s)) ∧ ∀ k x, U p (.inr (k, x)) → 1 ≤ k ∧ k ≤ 3 ∧ x ≤ L
def Ek (L : Nat) (b : Bool) (E : Nat → Option (Int32 × Nat)) : Prop := ∀ p t q, p ≤ L → E p = some (t, q) → p < q ∧ q ≤ L ∧ t ≠ 0 ∧ (mc1 t).length = 1 ∧ ∀ s, ty1 t (b :: b :: s) = some (b :: s)
theorem Gd.mono {T : Nat → Int32} {L : Nat} {b : Bool} {D D' : Nat} {U : Rl} (g : Gd T L b D U) (h : D ≤ D') : Gd T L b D' U := fun p hp => by
  obtain ⟨a, c, d⟩ := g p hp
  refine ⟨a, fun q ts hu => ?_, d⟩
  obtain ⟨c1, c2, c3, c4, c5, c6⟩ := c q ts hu
  exact ⟨c1, c2, c3, c4, c5, fun s hs => c6 s (by omega)⟩
theorem mcs_app (l m : List Int32) : mcs (l ++ m) = mcs l ++ mcs m := List.flatMap_append
theorem ty_one {t : Int32} {s s' : List Bool} (h : ty1 t s = some s') : tyl [t] s = some s' := by
  unfold tyl
  rw [h]
  rfl
section G1
variable {T : Nat → Int32} {L : Nat} {b : Bool} {D : Nat} {E : Nat → Option (Int32 × Nat)} {U : Rl}
theorem Tl_ex (hE : Ek L b E) (hU : Gd T L b D U) : ∀ n p, p ≤ L → L < n + p → ∃ R, TlN T L E U n p R
  | 0, p, h1, h2 => absurd h2 (by omega)
  | n + 1, p, h1, h2 => by
    cases e : E p with
    | none => exact ⟨_, Or.inl ⟨e, rfl⟩⟩
    | some v =>
      obtain ⟨t, q⟩ := v
      obtain ⟨e1, e2, _⟩ := hE p t q h1 e
      obtain ⟨⟨R, hR⟩, u2, _⟩ := hU q e2
      cases R with
      | inr z => exact ⟨_, Or.inr ⟨t, q, e, Or.inl ⟨z, hR, rfl⟩⟩⟩
      | inl z =>
        obtain ⟨y1, y2, _⟩ := u2 z.1 z.2 hR
        obtain ⟨R', hR'⟩ := Tl_ex hE hU n z.1 y2 (by omega)
        exact ⟨_, Or.inr ⟨t, q, e, Or.inr ⟨z.1, z.2, R', hR, hR', rfl⟩⟩⟩
theorem Tl_ok (hE : Ek L b E) (hU : Gd T L b D U) : ∀ n p q ts, p ≤ L → TlN T L E U n p (.inl (q, ts)) → p ≤ q ∧ q ≤ L ∧ p + ts.length ≤ q ∧ 2 * (mcs ts).length ≤ 3 * (q - p) ∧ ∀ s : List Bool, s.length + 1 + D ≤ 60 → tyl ts (b :: s) = some (b :: s)
  | 0, p, q, ts, _, h2 => h2.elim
  | n + 1, p, q, ts, h1, h2 => by
    rcases h2 with ⟨e, h2⟩ | ⟨t, q1, e, h2⟩
    · injection h2 with h2
      injection h2 with ha hb
      subst ha hb
      exact ⟨sc_ge isB T L p, sc_le isB T h1, sc_ge isB T L p, Nat.zero_le _, fun s _ => rfl⟩
    · obtain ⟨e1, e2, _, e3, e4⟩ := hE p t q1 h1 e
      obtain ⟨_, u2, _⟩ := hU q1 e2
      rcases h2 with ⟨z, _, h2⟩ | ⟨q2, t2, R', hu, ht, h2⟩
      · exact nomatch h2
      · cases R' with
        | inr z => exact nomatch h2
        | inl z =>
          obtain ⟨z1, z2⟩ := z
          obtain ⟨y1, y2, y3, y4, y5, y6⟩ := u2 _ _ hu
          obtain ⟨w1, w2, w3, w4, w5⟩ := Tl_ok hE hU n q2 z1 z2 y2 ht
          injection h2 with h2
          injection h2 with ha hb
          simp only at ha hb
          subst ha hb
          refine ⟨by omega, w2, ?_, ?_, fun s hs => ?_⟩
          · simp only [List.length_append, List.length_cons, List.length_nil]
            omega
          · rw [mcs_app, mcs_app]
            have : mcs [t] = mc1 t ++ mcs [] := rfl
            rw [this]
            have : (mcs []).length = 0 := rfl
            simp only [List.length_append]
            omega
          · rw [tyl_app _ _ _ (b :: s)]
            · exact w5 s hs
            · rw [tyl_app _ _ _ (b :: b :: s) (y6 (b :: s) (by simpa using hs))]
              exact ty_one (e4 s)
theorem Tl_bad (hE : Ek L b E) (hU : Gd T L b D U) : ∀ n p k x, p ≤ L → TlN T L E U n p (.inr (k, x)) → 1 ≤ k ∧ k ≤ 3 ∧ x ≤ L
  | 0, p, q, ts, _, h2 => h2.elim
  | n + 1, p, k, x, h1, h2 => by
    rcases h2 with ⟨e, h2⟩ | ⟨t, q1, e, h2⟩
    · exact nomatch h2
    · obtain ⟨e1, e2, _⟩ := hE p t q1 h1 e
      obtain ⟨_, u2, u3⟩ := hU q1 e2
      rcases h2 with ⟨z, hz, h2⟩ | ⟨q2, t2, R', hu, ht, h2⟩
      · injection h2 with h2
        subst h2
        exact u3 k x hz
      · cases R' with
        | inl z => exact nomatch h2
        | inr z =>
          obtain ⟨y1, y2, _⟩ := u2 _ _ hu
          injection h2 with h2
          subst h2
          exact Tl_bad hE hU n q2 k x y2 ht
theorem Gd_Ch (hE : Ek L b E) (hU : Gd T L b D U) : Gd T L b (D + 1) (Ch T L E U) := fun p hp => by
  obtain ⟨⟨R, hR⟩, u2, u3⟩ := hU p hp
  refine ⟨?_, fun q ts h => ?_, fun k x h => ?_⟩
  · cases R with
    | inr z => exact ⟨_, Or.inl ⟨z, hR, rfl⟩⟩
    | inl z =>
      obtain ⟨y1, y2, _⟩ := u2 z.1 z.2 hR
      obtain ⟨R', hR'⟩ := Tl_ex hE hU (L + 1) z.1 y2 (by omega)
      exact ⟨_, Or.inr ⟨z.1, z.2, R', hR, ⟨_, hR'⟩, rfl⟩⟩
  · rcases h with ⟨z, _, h⟩ | ⟨q1, t1, R', hu, ⟨n, ht⟩, h⟩
    · exact nomatch h
    · cases R' with
      | inr z => exact nomatch h
      | inl z =>
        obtain ⟨z1, z2⟩ := z
        obtain ⟨y1, y2, y3, y4, y5, y6⟩ := u2 _ _ hu
        obtain ⟨w1, w2, w3, w4, w5⟩ := Tl_ok hE hU n q1 z1 z2 y2 ht
        injection h with h
        injection h with ha hb
        simp only at ha hb
        subst ha hb
        refine ⟨by omega, w2, ?_, ?_, ?_, fun s hs => ?_⟩
        · rw [List.length_append]; omega
        · rw [List.length_append]; omega
        · rw [mcs_app, List.length_append]; omega
        · rw [tyl_app _ _ _ (b :: s) (y6 s (by omega))]
          exact w5 s (by omega)
  · rcases h with ⟨z, hz, h⟩ | ⟨q1, t1, R', hu, ⟨n, ht⟩, h⟩
    · injection h with h
      subst h
      exact u3 k x hz
    · cases R' with
      | inl z => exact nomatch h
      | inr z =>
        obtain ⟨y1, y2, _⟩ := u2 _ _ hu
        injection h with h
        subst h
        exact Tl_bad hE hU n q1 k x y2 ht
theorem clo_ok {c : Int32} {R1 : TR} {q : Nat} {ts : List Int32} (h : .inl (q, ts) = cloT T L c R1) : ∃ q1, R1 = .inl (q1, ts) ∧ q = sk T L q1 + 1 ∧ sk T L q1 < L := by
  cases R1 with
  | inr z => exact nomatch h
  | inl z =>
    have h' : (Sum.inl (q, ts) : TR) = if sk T L z.1 < L ∧ T (sk T L z.1) = c then .inl (sk T L z.1 + 1, z.2) else .inr (1, sk T L z.1) := h
    by_cases y : sk T L z.1 < L ∧ T (sk T L z.1) = c
    · rw [if_pos y] at h'
      injection h' with h'
      injection h' with ha hb
      exact ⟨z.1, by rw [hb], ha, y.1⟩
    · rw [if_neg y] at h'
      exact nomatch h'
theorem clo_bad {c : Int32} {R1 : TR} {k x : Nat} (h : .inr (k, x) = cloT T L c R1) : R1 = .inr (k, x) ∨ (k = 1 ∧ ∃ q1 ts, R1 = .inl (q1, ts) ∧ x = sk T L q1) := by
  cases R1 with
  | inr z =>
    have h' : (Sum.inr (k, x) : TR) = .inr z := h
    exact Or.inl h'.symm
  | inl z =>
    have h' : (Sum.inr (k, x) : TR) = if sk T L z.1 < L ∧ T (sk T L z.1) = c then .inl (sk T L z.1 + 1, z.2) else .inr (1, sk T L z.1) := h
    by_cases y : sk T L z.1 < L ∧ T (sk T L z.1) = c
    · rw [if_pos y] at h'
      exact nomatch h'
    · rw [if_neg y] at h'
      injection h' with h'
      injection h' with ha hb
      exact Or.inr ⟨ha, z.1, z.2, rfl, hb⟩
end G1
section G2
variable {T : Nat → Int32} {L : Nat}
theorem Ek_op {b : Bool} {c1 c2 t1 t2 : Int32} (h1 : t1 ≠ 0 ∧ (mc1 t1).length = 1 ∧ ∀ s, ty1 t1 (b :: b :: s) = some (b :: s)) (h2 : t2 ≠ 0 ∧ (mc1 t2).length = 1 ∧ ∀ s, ty1 t2 (b :: b :: s) = some (b :: s)) : Ek L b (opE T L c1 c2 t1 t2) := fun p t q hp e => by
  have hk : p ≤ sk T L p := sc_ge isB T L p
  unfold opE at e
  split at e
  · rename_i y
    injection e with e
    injection e with ea eb
    subst ea eb
    exact ⟨Nat.lt_succ_of_le hk, y.1, h1⟩
  · split at e
    · rename_i y
      injection e with e
      injection e with ea eb
      subst ea eb
      exact ⟨Nat.lt_succ_of_le hk, y.1, h2⟩
    · exact nomatch e
theorem isW_le {w : List Nat} {p : Nat} (h : isW T L w p = true) : le T L (sk T L p) = sk T L p + w.length := (of_decide_eq_true h).1
theorem Ek_wd {b : Bool} {i : Nat} {t1 : Int32} (hw : 0 < (wOf i).length) (h1 : t1 ≠ 0 ∧ (mc1 t1).length = 1 ∧ ∀ s, ty1 t1 (b :: b :: s) = some (b :: s)) : Ek L b (wdE T L i t1) := fun p t q hp e => by
  have hk : p ≤ sk T L p := sc_ge isB T L p
  have hs : sk T L p ≤ L := sc_le isB T hp
  have hl : le T L (sk T L p) ≤ L := sc_le isLt T hs
  unfold wdE at e
  split at e
  · rename_i y
    injection e with e
    injection e with ea eb
    subst ea eb
    have := isW_le y
    exact ⟨by omega, hl, h1⟩
  · exact nomatch e
theorem Ek1 : Ek L false (E1 T L) := Ek_op ⟨by decide, by decide, fun s => rfl⟩ ⟨by decide, by decide, fun s => rfl⟩
theorem Ek2 : Ek L false (E2 T L) := Ek_op ⟨by decide, by decide, fun s => rfl⟩ ⟨by decide, by decide, fun s => rfl⟩
theorem Ek3 : Ek L true (E3 T L) := Ek_wd (by decide) ⟨by decide, by decide, fun s => rfl⟩
theorem Ek4 : Ek L true (E4 T L) := Ek_wd (by decide) ⟨by decide, by decide, fun s => rfl⟩
theorem Gd_NN {D : Nat} {U : Rl} (h : Gd T L false D U) : Gd T L false (D + 2) (NNT T L U) := Gd_Ch Ek2 (Gd_Ch Ek1 h)
theorem Gd_DD {D : Nat} {U : Rl} (h : Gd T L true D U) : Gd T L true (D + 2) (DDT T L U) := Gd_Ch Ek4 (Gd_Ch Ek3 h)
theorem nmN_ok {p : Nat} : ∀ n i, i + n = 6 → nmN T L p n i ≠ 0 → nmN T L p n i ≤ 6 ∧ isW T L (wOf (nmN T L p n i + 13)) p = true
  | 0, i, _, h => absurd rfl h
  | n + 1, i, h6, h => by
    unfold nmN at h ⊢
    split
    · rename_i y
      refine ⟨by omega, ?_⟩
      exact y
    · rename_i y
      rw [if_neg y] at h
      exact nmN_ok n (i + 1) (by omega) h
theorem nmS_ok {p : Nat} (h : nmS T L p ≠ 0) : nmS T L p ≤ 6 ∧ isW T L (wOf (nmS T L p + 13)) p = true := nmN_ok 6 0 rfl h
theorem wlen : ∀ i : Fin 7, 0 < i.val → 0 < (wOf (i.val + 13)).length := by decide
theorem mc_num : ∀ v, v ≤ 9999 → (mc1 (nI v)).length = 2 ∧ mc1 (nI v) = [0, nI v] ∧ ¬ nI v < -6 := fun v hv => by
  have e : (nI v).toInt = v := nI_toInt (by omega)
  have h1 : ¬ nI v < -6 := fun z => by
    have := Int32.lt_iff_toInt_lt.mp z
    have h4 : (-6 : Int32).toInt = -6 := by decide
    omega
  have h2 : ¬ nI v < 0 := fun z => by
    have := Int32.lt_iff_toInt_lt.mp z
    have h4 : (0 : Int32).toInt = 0 := by decide
    omega
  unfold mc1
  rw [if_neg h1, if_neg h2]
  exact ⟨rfl, rfl, h1⟩
theorem mc_nam : ∀ m : Fin 7, 0 < m.val → mc1 (-nI m.val) = [nI m.val] ∧ ¬ -nI m.val < -6 := by decide
theorem ty_push {t : Int32} {s : List Bool} (h : ¬ t < -6) (hs : s.length < 60) : tyl [t] s = some (false :: s) := by
  refine ty_one ?_
  unfold ty1
  rw [if_neg h, if_pos hs]
theorem Gd_U {N : Option Rl} {D : Nat} (hD : 1 ≤ D) (hN : ∀ N', N = some N' → Gd T L false D N') : Gd T L false D (UnT T L N) := fun p hp => by
  have hk : p ≤ sk T L p := sc_ge isB T L p
  have hs : sk T L p ≤ L := sc_le isB T hp
  have hl : le T L (sk T L p) ≤ L := sc_le isLt T hs
  have ss : sk T L (sk T L p) = sk T L p := sc_id isB T L p
  unfold UnT
  by_cases y : sk T L p < L ∧ T (sk T L p) = 40
  · simp only [if_pos y]
    cases N with
    | none => exact ⟨⟨_, rfl⟩, (fun q ts h => nomatch h), fun k x h => by injection h with h; injection h with ha hb; omega⟩
    | some N' =>
      obtain ⟨⟨R, hR⟩, u2, u3⟩ := hN N' rfl (sk T L p + 1) y.1
      refine ⟨⟨_, R, hR, rfl⟩, fun q ts h => ?_, fun k x h => ?_⟩
      · obtain ⟨R1, h1, h2⟩ := h
        obtain ⟨q1, e1, e2, e3⟩ := clo_ok h2
        subst e1 e2
        obtain ⟨y1, y2, y3, y4, y5, y6⟩ := u2 _ _ h1
        have hq : q1 ≤ sk T L q1 := sc_ge isB T L q1
        exact ⟨by omega, e3, y3, by omega, by omega, y6⟩
      · obtain ⟨R1, h1, h2⟩ := h
        rcases clo_bad h2 with e | ⟨e, q1, ts, e2, e3⟩
        · subst e
          exact u3 k x h1
        · subst e2 e
          obtain ⟨y1, y2, _⟩ := u2 _ _ h1
          have y9 : sk T L q1 ≤ L := sc_le isB T y2
          omega
  simp only [if_neg y]
  by_cases m : nmS T L p ≠ 0
  · simp only [if_pos m]
    obtain ⟨m1, m2⟩ := nmS_ok m
    have m3 := isW_le m2
    have m4 := wlen ⟨nmS T L p, by omega⟩ (Nat.pos_of_ne_zero m)
    have m5 := mc_nam ⟨nmS T L p, by omega⟩ (Nat.pos_of_ne_zero m)
    simp only at m4 m5
    refine ⟨⟨_, rfl⟩, fun q ts h => ?_, fun k x h => nomatch h⟩
    injection h with h
    injection h with ha hb
    subst ha hb
    refine ⟨by omega, hl, Nat.le_refl 1, by simp only [List.length_cons, List.length_nil]; omega, ?_, fun s hs => ty_push m5.2 (by omega)⟩
    have : mcs [-nI (nmS T L p)] = mc1 (-nI (nmS T L p)) ++ mcs [] := rfl
    rw [this, m5.1]
    show 2 * 1 ≤ _
    omega
  simp only [if_neg m]
  by_cases c : (numS T L 0 9999 (sk T L p)).1 = 0
  · simp only [if_pos c]
    have n1 := numS_ok c
    obtain ⟨n2, n3, n4⟩ := mc_num _ n1.2.1
    have n5 : sk T L p < (numS T L 0 9999 (sk T L p)).2.2.1 ∧ (numS T L 0 9999 (sk T L p)).2.2.1 ≤ L := by
      have h1 : sk T L p ≤ de T L (sk T L p) := sc_ge isDg T L (sk T L p)
      have h2 : de T L (sk T L p) ≤ L := sc_le isDg T hs
      unfold numS at c ⊢
      rw [ss] at c ⊢
      split
      · rename_i d
        rw [if_pos d] at c
        exact absurd c (by decide : ¬ (1 : Nat) = 0)
      · rename_i d
        rw [if_neg d] at c
        split
        · rename_i e
          rw [if_pos e] at c
          exact absurd c (by decide : ¬ (2 : Nat) = 0)
        · exact ⟨Nat.lt_of_le_of_ne h1 (Ne.symm d), h2⟩
    refine ⟨⟨_, rfl⟩, fun q ts h => ?_, fun k x h => nomatch h⟩
    injection h with h
    injection h with ha hb
    subst ha hb
    refine ⟨by omega, n5.2, Nat.le_refl 1, by simp only [List.length_cons, List.length_nil]; omega, ?_, fun s hs => ty_push n4 (by omega)⟩
    have : ∀ v, mcs [v] = mc1 v ++ mcs [] := fun v => rfl
    rw [this, n3]
    show 2 * 2 ≤ _
    omega
  simp only [if_neg c]
  refine ⟨⟨_, rfl⟩, fun q ts h => (nomatch h), fun k x h => ?_⟩
  injection h with h
  injection h with ha hb
  subst ha hb
  unfold numS at c ⊢
  rw [ss] at c ⊢
  split
  · exact ⟨(by decide : 1 ≤ 1), (by decide : 1 ≤ 3), hs⟩
  · rename_i d
    rw [if_neg d] at c
    split
    · exact ⟨(by decide : 1 ≤ 2), (by decide : 2 ≤ 3), hs⟩
    · rename_i e
      rw [if_neg e] at c
      exact absurd rfl c
theorem cmp_ty (x : Int32) (h : cmpT x ≠ 0) : (mc1 (cmpT x)).length = 1 ∧ ∀ s, ty1 (cmpT x) (false :: false :: s) = some (true :: s) := by
  unfold cmpT at h ⊢
  split
  · exact ⟨by decide, fun s => rfl⟩
  · split
    · exact ⟨by decide, fun s => rfl⟩
    · split
      · exact ⟨by decide, fun s => rfl⟩
      · rename_i a b c
        rw [if_neg a, if_neg b, if_neg c] at h
        exact absurd rfl h
theorem post_ok {l : List Int32} {R1 : TR} {q : Nat} {ts : List Int32} (h : .inl (q, ts) = postT l R1) : ∃ t1, R1 = .inl (q, t1) ∧ ts = t1 ++ l := by
  cases R1 with
  | inr z => exact nomatch h
  | inl z =>
    injection h with h
    injection h with ha hb
    exact ⟨z.2, by rw [ha], hb⟩
theorem post_bad {l : List Int32} {R1 : TR} {k x : Nat} (h : .inr (k, x) = postT l R1) : R1 = .inr (k, x) := by
  cases R1 with
  | inl z => exact nomatch h
  | inr z =>
    injection h with h
    rw [h]
theorem pre_ok {l : List Int32} {R1 : TR} {q : Nat} {ts : List Int32} (h : .inl (q, ts) = preT l R1) : ∃ t1, R1 = .inl (q, t1) ∧ ts = l ++ t1 := by
  cases R1 with
  | inr z => exact nomatch h
  | inl z =>
    injection h with h
    injection h with ha hb
    exact ⟨z.2, by rw [ha], hb⟩
theorem pre_bad {l : List Int32} {R1 : TR} {k x : Nat} (h : .inr (k, x) = preT l R1) : R1 = .inr (k, x) := by
  cases R1 with
  | inl z => exact nomatch h
  | inr z =>
    injection h with h
    rw [h]
theorem Gd_C {Dc C : Option Rl} {N : Rl} {D D' : Nat} (hN : Gd T L false D' N) (hD : D' + 1 ≤ D) (hDc : ∀ X, Dc = some X → Gd T L true D X) (hC : ∀ X, C = some X → Gd T L true D X) : Gd T L true D (ClT T L Dc C N) := fun p hp => by
  have hk : p ≤ sk T L p := sc_ge isB T L p
  have hs : sk T L p ≤ L := sc_le isB T hp
  have hl : le T L (sk T L p) ≤ L := sc_le isLt T hs
  unfold ClT
  by_cases w : isW T L (wOf 21) p = true
  · simp only [if_pos w]
    have w1 := isW_le w
    have w2 : (wOf 21).length = 3 := by decide
    cases C with
    | none => exact ⟨⟨_, rfl⟩, (fun q ts h => nomatch h), fun k x h => by injection h with h; injection h with ha hb; omega⟩
    | some C' =>
      obtain ⟨⟨R, hR⟩, u2, u3⟩ := hC C' rfl (le T L (sk T L p)) hl
      refine ⟨⟨_, R, hR, rfl⟩, fun q ts h => ?_, fun k x h => ?_⟩
      · obtain ⟨R1, h1, h2⟩ := h
        obtain ⟨t1, e1, e2⟩ := post_ok h2
        subst e1 e2
        obtain ⟨y1, y2, y3, y4, y5, y6⟩ := u2 _ _ h1
        refine ⟨by omega, y2, ?_, ?_, ?_, fun s hs => ?_⟩
        · rw [List.length_append]; omega
        · rw [List.length_append]; show _ + (_ + 1) ≤ _; omega
        · rw [mcs_app, List.length_append]; show 2 * (_ + 1) ≤ _; omega
        · rw [tyl_app _ _ _ _ (y6 s hs)]
          rfl
      · obtain ⟨R1, h1, h2⟩ := h
        have e := post_bad h2
        subst e
        exact u3 k x h1
  simp only [if_neg w]
  by_cases y : sk T L p < L ∧ T (sk T L p) = 91
  · simp only [if_pos y]
    cases Dc with
    | none => exact ⟨⟨_, rfl⟩, (fun q ts h => nomatch h), fun k x h => by injection h with h; injection h with ha hb; omega⟩
    | some N' =>
      obtain ⟨⟨R, hR⟩, u2, u3⟩ := hDc N' rfl (sk T L p + 1) y.1
      refine ⟨⟨_, R, hR, rfl⟩, fun q ts h => ?_, fun k x h => ?_⟩
      · obtain ⟨R1, h1, h2⟩ := h
        obtain ⟨q1, e1, e2, e3⟩ := clo_ok h2
        subst e1 e2
        obtain ⟨y1, y2, y3, y4, y5, y6⟩ := u2 _ _ h1
        have hq : q1 ≤ sk T L q1 := sc_ge isB T L q1
        exact ⟨by omega, e3, y3, by omega, by omega, y6⟩
      · obtain ⟨R1, h1, h2⟩ := h
        rcases clo_bad h2 with e | ⟨e, q1, ts, e2, e3⟩
        · subst e
          exact u3 k x h1
        · subst e2 e
          obtain ⟨y1, y2, _⟩ := u2 _ _ h1
          have y9 : sk T L q1 ≤ L := sc_le isB T y2
          omega
  simp only [if_neg y]
  obtain ⟨⟨R, hR⟩, u2, u3⟩ := hN (sk T L p) hs
  refine ⟨?_, fun q ts h => ?_, fun k x h => ?_⟩
  · cases R with
    | inr z => exact ⟨_, Or.inl ⟨z, hR, rfl⟩⟩
    | inl z =>
      obtain ⟨z1, z2⟩ := z
      by_cases c : sk T L z1 < L ∧ cmpT (T (sk T L z1)) ≠ 0
      · obtain ⟨⟨R2, hR2⟩, _⟩ := hN (sk T L z1 + 1) c.1
        exact ⟨_, Or.inr ⟨z1, z2, hR, Or.inl ⟨c.1, c.2, R2, hR2, rfl⟩⟩⟩
      · exact ⟨_, Or.inr ⟨z1, z2, hR, Or.inr ⟨c, rfl⟩⟩⟩
  · rcases h with ⟨z, _, h⟩ | ⟨q1, t1, h1, ⟨c1, c2, R2, h2, h⟩ | ⟨_, h⟩⟩
    · exact nomatch h
    · obtain ⟨t3, e1, e2⟩ := pre_ok h
      obtain ⟨t4, e3, e4⟩ := post_ok e1.symm
      subst e3 e4 e2
      obtain ⟨y1, y2, y3, y4, y5, y6⟩ := u2 _ _ h1
      obtain ⟨w1, w2, w3, w4, w5, w6⟩ := (hN _ c1).2.1 _ _ h2
      obtain ⟨v1, v2⟩ := cmp_ty _ c2
      have hq : q1 ≤ sk T L q1 := sc_ge isB T L q1
      refine ⟨by omega, w2, ?_, ?_, ?_, fun s hs => ?_⟩
      · rw [List.length_append]; omega
      · simp only [List.length_append, List.length_cons, List.length_nil]; omega
      · have : ∀ v, mcs [v] = mc1 v ++ mcs [] := fun v => rfl
        rw [mcs_app, mcs_app, this]
        have : (mcs []).length = 0 := rfl
        simp only [List.length_append]
        omega
      · rw [tyl_app _ _ _ _ (y6 s (by omega)), tyl_app _ _ _ _ (w6 (false :: s) (by simp only [List.length_cons]; omega))]
        exact ty_one (v2 s)
    · exact nomatch h
  · rcases h with ⟨z, h1, h⟩ | ⟨q1, t1, h1, ⟨c1, c2, R2, h2, h⟩ | ⟨_, h⟩⟩
    · injection h with h
      subst h
      exact u3 k x h1
    · have e1 := pre_bad h
      have e2 := post_bad e1.symm
      subst e2
      exact (hN _ c1).2.2 k x h2
    · obtain ⟨y1, y2, _⟩ := u2 _ _ h1
      have y9 : sk T L q1 ≤ L := sc_le isB T y2
      injection h with h
      injection h with ha hb
      omega
theorem Gd_U0 : ∀ r, Gd T L false (2 * r + 1) (U0 T L r)
  | 0 => Gd_U (by decide) (fun N' h => nomatch h)
  | r + 1 => Gd_U (by omega) (fun N' h => by injection h with h; subst h; exact (Gd_NN (Gd_U0 r)))
theorem Gd_N0 (r : Nat) : Gd T L false (2 * r + 3) (NNT T L (U0 T L r)) := Gd_NN (Gd_U0 r)
theorem Gd_C0 : ∀ r, Gd T L true (2 * r + 4) (C0 T L r)
  | 0 => Gd_C (Gd_N0 0) (by decide) (fun X h => nomatch h) (fun X h => nomatch h)
  | r + 1 => Gd_C (Gd_N0 (r + 1)) (by omega) (fun N' h => by injection h with h; subst h; exact (Gd_DD (Gd_C0 r))) (fun N' h => by injection h with h; subst h; exact (Gd_C0 r).mono (by omega))
theorem Gd_D0 (r : Nat) : Gd T L true (2 * r + 6) (DDT T L (C0 T L r)) := Gd_DD (Gd_C0 r)
end G2
