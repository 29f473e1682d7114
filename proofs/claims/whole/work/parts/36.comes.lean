/-! the model: a toll's rows -/
def mc1 (t : Int32) : List Int32 := if t < -6 then [3 - t] else if t < 0 then [0 - t] else [0, t]
def mcs (l : List Int32) : List Int32 := l.flatMap mc1
theorem mcs_cons (t : Int32) (l : List Int32) : mcs (t :: l) = mc1 t ++ mcs l := rfl
def SG (g : Nat → Int32) (a : Nat) (l : List Int32) : Prop := ∀ j, j < l.length → l[j]? = some (g (a + j))
theorem SG.tail {g : Nat → Int32} {a : Nat} {l m : List Int32} (h : SG g a (l ++ m)) : SG g (a + l.length) m := by
  intro j hj
  have h1 := h (l.length + j) (by rw [List.length_append]; omega)
  rw [List.getElem?_append_right (by omega), Nat.add_sub_cancel_left] at h1
  rw [h1, Nat.add_assoc]
theorem SG.head {g : Nat → Int32} {a : Nat} {x : Int32} {l : List Int32} (h : SG g a (x :: l)) : g a = x := by
  have h1 := h 0 (by simp)
  simp at h1
  exact h1.symm
def MT (t : Nat) (h : Hp) (rs : List Row) : Prop := h 118 t = nI rs.length ∧ rs.length ≤ 10 ∧ (∀ r ∈ rs, rowOk r) ∧ ∀ i r, rs[i]? = some r → ∃ a b c, h (120 + t) i = nI a ∧ h (125 + t) i = nI b ∧ h (130 + t) i = nI c ∧ b = a + (mcs r.1).length ∧ c ≤ 800 ∧ SG (h (135 + t)) a (mcs r.1) ∧
  (match r.2 with
    | none => c = b
    | some l => c = b + (mcs l).length ∧ SG (h (135 + t)) b (mcs l))
/-- kinds hold of the values -/
def tys : List Bool → List Int32 → Prop
  | [], [] => True
  | k :: ks, a :: s => (k = true → a = 0 ∨ a = 1) ∧ tys ks s
  | _, _ => False
theorem tys_len : ∀ {ks : List Bool} {s : List Int32}, tys ks s → ks.length = s.length
  | [], [], _ => rfl
  | k :: ks, a :: s, h => by
    show ks.length + 1 = s.length + 1
    rw [tys_len h.2]
  | [], _ :: _, h => h.elim
  | _ :: _, [], h => h.elim
theorem bool_if (c : Prop) [Decidable c] : (if c then (0 : Int32) else 1) = 0 ∨ (if c then (0 : Int32) else 1) = 1 := by
  split
  · exact Or.inl rfl
  · exact Or.inr rfl
theorem lt_code {t : Int32} (h : ¬ t < -6) : -6 ≤ t.toInt := by
  have h4 : (-6 : Int32).toInt = -6 := by decide
  have h3 : ¬ t.toInt < (-6 : Int32).toInt := fun z => h (Int32.lt_iff_toInt_lt.mpr z)
  omega
/-- one joining step by the model, for codes that joined two -/
theorem both_ok {t : Int32} {k1 k2 : Bool} {kr ks' : List Bool} {x y : Int32} (ht : t < -6) (hn : t ≠ -14) (h : ty1 t (k1 :: k2 :: kr) = some ks') (hy : k1 = true → y = 0 ∨ y = 1) (hx : k2 = true → x = 0 ∨ x = 1) :
    7 ≤ 3 - t ∧ 3 - t ≠ 17 ∧ (∀ (h0 : Hp) (Q : Int32 → Prop), w_X9_both (3 - t) x y h0 Q = Q (jn t x y)) ∧ ∃ z, ks' = z :: kr ∧ (z = true → jn t x y = 0 ∨ jn t x y = 1) := by
  unfold ty1 at h
  rw [if_pos ht, if_neg hn] at h
  by_cases c1 : t = -15 ∨ t = -16
  · rw [if_pos c1] at h
    cases k1 with
    | false => simp at h
    | true =>
    cases k2 with
    | false => simp at h
    | true =>
    have h := (Option.some.inj h).symm
    have hxx := hx rfl
    have hyy := hy rfl
    rcases c1 with rfl | rfl
    · refine ⟨by decide, by decide, fun h0 Q => ?_, true, h, fun _ => ?_⟩
      · unfold w_X9_both
        simp only [wsw, wif_e]
        rcases hxx with rfl | rfl <;> rcases hyy with rfl | rfl <;> rfl
      · rcases hxx with rfl | rfl <;> rcases hyy with rfl | rfl <;> decide
    · refine ⟨by decide, by decide, fun h0 Q => ?_, true, h, fun _ => ?_⟩
      · unfold w_X9_both
        simp only [wsw, wif_e]
        rcases hxx with rfl | rfl <;> rcases hyy with rfl | rfl <;> rfl
      · rcases hxx with rfl | rfl <;> rcases hyy with rfl | rfl <;> decide
  · rw [if_neg c1] at h
    by_cases c2 : t = -11 ∨ t = -12 ∨ t = -13
    · rw [if_pos c2] at h
      cases k1 with
      | true => simp at h
      | false =>
      cases k2 with
      | true => simp at h
      | false =>
      have h := (Option.some.inj h).symm
      rcases c2 with rfl | rfl | rfl
      · refine ⟨by decide, by decide, fun h0 Q => ?_, true, h, fun _ => bool_if _⟩
        unfold w_X9_both
        simp only [wsw, wif_e]
        rfl
      · refine ⟨by decide, by decide, fun h0 Q => ?_, true, h, fun _ => bool_if _⟩
        unfold w_X9_both
        simp only [wsw, wif_e]
        rfl
      · refine ⟨by decide, by decide, fun h0 Q => ?_, true, h, fun _ => bool_if _⟩
        unfold w_X9_both
        simp only [wsw, wif_e]
        rfl
    · rw [if_neg c2] at h
      by_cases c3 : t = -7 ∨ t = -8 ∨ t = -9 ∨ t = -10
      · rw [if_pos c3] at h
        cases k1 with
        | true => simp at h
        | false =>
        cases k2 with
        | true => simp at h
        | false =>
        have h := (Option.some.inj h).symm
        rcases c3 with rfl | rfl | rfl | rfl
        · refine ⟨by decide, by decide, fun h0 Q => ?_, false, h, fun z => Bool.noConfusion z⟩
          unfold w_X9_both
          simp only [wsw, wif_e]
          rfl
        · refine ⟨by decide, by decide, fun h0 Q => ?_, false, h, fun z => Bool.noConfusion z⟩
          unfold w_X9_both
          simp only [wsw, wif_e]
          rfl
        · refine ⟨by decide, by decide, fun h0 Q => ?_, false, h, fun z => Bool.noConfusion z⟩
          unfold w_X9_both
          simp only [wsw, wif_e]
          rfl
        · refine ⟨by decide, by decide, fun h0 Q => ?_, false, h, fun z => Bool.noConfusion z⟩
          have e : jn (-10) x y = if ¬ y = 0 then x / y else 0 := rfl
          rw [e]
          have e2 : w_X9_both (3 - -10) x y h0 Q = wif (¬ y = 0) (¬ y = 0 ∧ Q (x / y)) (Q 0) := by
            unfold w_X9_both
            simp only [wsw]
            rw [wif_f (by decide), wif_f (by decide), wif_f (by decide), wif_t (by decide)]
          rw [e2, wif_e]
          by_cases c : y = 0
          · rw [if_neg (not_not_intro c), if_neg (not_not_intro c)]
          · rw [if_pos c, if_pos c, and_t c]
      · rw [if_neg c3] at h
        simp at h
theorem hup_eq2b {α β : Type} {a : α} {b : β} {h : Hp} {p i : Nat} {v : Int32} : (a, b, hup h p i v).2.2 p i = v := hup_eq h p i v
theorem tys_ev {f : Nat → Int32} : ∀ (l : List Int32) {ks ks' : List Bool} {s : List Int32}, tyl l ks = some ks' → tys ks s → tys ks' (evl f l s)
  | [], ks, ks', s, h, hs => by
    have h1 : ks = ks' := by simpa [tyl] using h
    rw [← h1]
    exact hs
  | t :: l, ks, ks', s, h, hs => by
    simp only [tyl] at h
    cases h7 : ty1 t ks with
    | none => rw [h7] at h; simp at h
    | some k1 =>
      rw [h7] at h
      refine tys_ev l h ?_
      by_cases clt : t < -6
      · by_cases cnot : t = -14
        · unfold ty1 at h7
          rw [if_pos clt, if_pos cnot] at h7
          match ks, h7 with
          | true :: kr, h7 =>
          match s, hs with
          | x :: r, hs =>
          have h7 := (Option.some.inj h7).symm
          unfold ev1
          rw [if_pos clt, if_pos cnot, h7]
          refine ⟨fun _ => ?_, hs.2⟩
          rcases hs.1 rfl with rfl | rfl
          · exact Or.inr (by decide)
          · exact Or.inl (by decide)
        · have main : ∃ x y r, ks = x :: y :: r := by
            unfold ty1 at h7
            rw [if_pos clt, if_neg cnot] at h7
            split at h7
            · split at h7
              · exact ⟨_, _, _, rfl⟩
              · simp at h7
            · split at h7
              · split at h7
                · exact ⟨_, _, _, rfl⟩
                · simp at h7
              · split at h7
                · split at h7
                  · exact ⟨_, _, _, rfl⟩
                  · simp at h7
                · simp at h7
          obtain ⟨k2, k3, kr, rfl⟩ := main
          match s, hs with
          | y :: x :: r, hs =>
          obtain ⟨_, _, _, z, b4, b5⟩ := both_ok clt cnot h7 hs.1 hs.2.1
          unfold ev1
          rw [if_pos clt, if_neg cnot, b4]
          exact ⟨b5, hs.2.2⟩
      · unfold ty1 at h7
        rw [if_neg clt] at h7
        split at h7
        · have h7 := (Option.some.inj h7).symm
          unfold ev1
          rw [if_neg clt, h7]
          exact ⟨fun z => Bool.noConfusion z, hs⟩
        · simp at h7
theorem tys_fin {f : Nat → Int32} (L : List Int32) {kf : Bool} (h : tyl L [] = some [kf]) (hk : kf = true) {v : Int32} (hv : evl f L [] = [v]) : v = 0 ∨ v = 1 := by
  have h1 := tys_ev (f := f) L (s := []) h trivial
  rw [hv] at h1
  exact h1.1 hk
def CInv (h : Hp) (r1 e : Nat) (f : Nat → Int32) (L : List Int32) (fin : List Int32) (i : Nat) (st : Int32 × Int32 × Hp) : Prop :=
  ∃ (s : List Int32) (ks : List Bool) (pos : Nat), st.1 = nI s.length ∧ st.2.1 = nI pos ∧ (∀ q, q ≠ 139 → st.2.2 q = h q) ∧ stk (st.2.2 139) s ∧ tys ks s ∧ s.length ≤ 60 ∧ (∃ kf, tyl (L.drop i) ks = some [kf]) ∧ evl f (L.drop i) s = fin ∧ SG (h r1) pos (mcs (L.drop i)) ∧ pos + (mcs (L.drop i)).length = e
theorem s_comes {h : Hp} {r1 : Nat} (hr1 : r1 ≠ 139) {L : List Int32} {kf : Bool} (hty : tyl L [] = some [kf]) {a : Nat} (hsg : SG (h r1) a (mcs L)) (he : a + (mcs L).length ≤ 800) {p2 p3 : Int32} (e2 : p2 = nI a) (e3 : p3 = nI (a + (mcs L).length))
    (Q : Int32 → Hp → Prop) (hQ : ∀ h', (∀ q, q ≠ 139 → h' q = h q) → (kf = true → (evl (h 140) L []).headD 0 = 0 ∨ (evl (h 140) L []).headD 0 = 1) → Q ((evl (h 140) L []).headD 0) h') : w_X9_comes r1 800 p2 p3 h Q := by
  subst e2 e3
  unfold w_X9_comes w_X9_comes_b6
  generalize hE : a + (mcs L).length = E at he
  refine wl_run L.length (CInv h r1 E (h 140) L (evl (h 140) L [])) ?_ (Nat.zero_le _) ⟨[], [], a, rfl, rfl, fun _ _ => rfl, trivial, trivial, by decide, ⟨kf, hty⟩, rfl, hsg, hE⟩
  rintro i ⟨v4, v5, h1⟩ K hi ⟨s, ks, pos, e4, e5, hf, hst, hks, hs60, ⟨kg, hkg⟩, hev, hsg1, hpe⟩ hK
  simp only at e4 e5 hf hst
  subst e4 e5
  show w_X9_comes_l6 r1 800 (nI a) (nI E) Q K (nI s.length) (nI pos) h1
  unfold w_X9_comes_l6
  by_cases hie : i = L.length
  · subst hie
    rw [List.drop_length] at hkg hev hsg1 hpe
    have hk1 : ks = [kg] := by simpa [tyl] using hkg
    have hpe2 : pos = E := by simpa [mcs] using hpe
    subst hk1 hpe2
    match s, hks with
    | [v], hks =>
    have hv : h1 139 0 = v := hst.1
    refine wif_p ((nI_leI (by omega) (by omega)).mpr (Nat.le_refl _)) ⟨vl 0 800 (by decide) (by decide), ?_⟩
    rw [cl0, hv]
    have hev2 : evl (h 140) L [] = [v] := hev.symm
    have hkk := evl_frame (f := h 140) L (s := []) [] hty rfl
    have e9 : (evl (h 140) L []).headD 0 = v := by rw [hev2]; rfl
    rw [← e9]
    refine hQ h1 hf (fun z => ?_)
    rw [e9]
    have hty2 : tyl L [] = some [kf] := hty
    exact tys_fin L hty2 z hev2
  have hlt : i < L.length := by omega
  obtain ⟨t, ht⟩ : ∃ t, L[i]? = some t := ⟨L[i], List.getElem?_eq_getElem hlt⟩
  have hd := drop_at ht
  rw [hd] at hkg hev hsg1 hpe
  rw [mcs_cons] at hsg1 hpe
  have hl1 : 1 ≤ (mc1 t).length := by
    unfold mc1
    split
    · simp
    · split <;> simp
  rw [List.length_append] at hpe
  have hposE : pos < E := by omega
  have hpos8 : pos < 800 := by omega
  refine wif_n (fun z => by have := (nI_leI (by omega) (by omega)).mp z; omega) ⟨vp_in_nI hpos8 (by decide), ?_⟩
  rw [nI_clamp (by omega), hf r1 hr1]
  have hK1 := hK hlt
  have hsg2 := hsg1.tail
  simp only [tyl] at hkg
  cases h7 : ty1 t ks with
  | none => rw [h7] at hkg; simp at hkg
  | some ks' =>
  rw [h7] at hkg
  simp only at hkg
  have hlen := tys_len hks
  have hfr := ev1_frame (f := h 140) [] h7 hlen
  replace hev : evl (h 140) (L.drop (i + 1)) (ev1 (h 140) t s) = evl (h 140) L [] := hev
  by_cases clt : t < -6
  · have em : mc1 t = [3 - t] := by
      unfold mc1
      rw [if_pos clt]
    rw [em] at hsg1 hsg2 hpe
    have hcode : h r1 pos = 3 - t := SG.head hsg1
    rw [hcode]
    have hpe1 : pos + 1 + (mcs (L.drop (i + 1))).length = E := by
      have : [3 - t].length = 1 := rfl
      omega
    unfold w_X9_comes_b145
    by_cases cnot : t = -14
    · refine wif_p (by rw [cnot]; decide) ⟨vp_in_nI hpos8 (by decide), wif_n (by rw [cnot]; decide) ?_⟩
      unfold ty1 at h7
      rw [if_pos clt, if_pos cnot] at h7
      match ks, h7 with
      | true :: kr, h7 =>
      match s, hks with
      | x :: r, hks =>
      have h7 := (Option.some.inj h7).symm
      have hx : h1 139 r.length = x := hst.1
      have ev : nI (x :: r).length - 1 = nI r.length := nI_pred _
      have hr60 : r.length < 60 := by simp at hs60; omega
      have eS : ev1 (h 140) t (x :: r) = (1 - x) :: r := by
        unfold ev1
        rw [if_pos clt, if_pos cnot]
      rw [eS] at hev
      rw [ev]
      refine ⟨vp_in_nI (by omega) (by decide), vp_in_nI (by omega) (by decide), ?_⟩
      rw [nI_clamp (by omega), hx, wlet_e, nI_1]
      refine hK1 _ ⟨(1 - x) :: r, ks', pos + 1, rfl, rfl, fun q hq => (hup_ne hq).trans (hf q hq), ⟨hup_eq2b, ?_⟩, ?_, by simp; omega, ⟨kg, hkg⟩, hev, hsg2, hpe1⟩
      · show stk (hup h1 139 r.length (1 - x) 139) r
        rw [hup_self]
        exact stk_up r _ (Nat.le_refl _) hst.2
      · rw [h7]
        refine ⟨fun _ => ?_, hks.2⟩
        rcases hks.1 rfl with rfl | rfl
        · exact Or.inr (by decide)
        · exact Or.inl (by decide)
    · have main : ∃ x y r, ks = x :: y :: r := by
        unfold ty1 at h7
        rw [if_pos clt, if_neg cnot] at h7
        split at h7
        · split at h7
          · exact ⟨_, _, _, rfl⟩
          · simp at h7
        · split at h7
          · split at h7
            · exact ⟨_, _, _, rfl⟩
            · simp at h7
          · split at h7
            · split at h7
              · exact ⟨_, _, _, rfl⟩
              · simp at h7
            · simp at h7
      obtain ⟨k1, k2, kr, rfl⟩ := main
      match s, hks with
      | y :: x :: r, hks =>
      obtain ⟨b1, b2, b3, z, b4, b5⟩ := both_ok clt cnot h7 hks.1 hks.2.1
      have hy : h1 139 (r.length + 1) = y := hst.1
      have hx : h1 139 r.length = x := hst.2.1
      have hr60 : r.length < 60 := by simp at hs60; omega
      have ev : nI (y :: x :: r).length + -1 = nI (r.length + 1) := pk_m1 _
      have ev2 : nI (r.length + 1) - 1 = nI r.length := nI_pred _
      have eS : ev1 (h 140) t (y :: x :: r) = jn t x y :: r := by
        unfold ev1
        rw [if_pos clt, if_neg cnot]
      rw [eS] at hev
      refine wif_p b1 ⟨vp_in_nI hpos8 (by decide), wif_p b2 ⟨vp_in_nI hpos8 (by decide), ?_⟩⟩
      rw [ev, ev2]
      refine ⟨vp_in_nI (by omega) (by decide), vp_in_nI (by omega) (by decide), ?_⟩
      rw [nI_clamp (by omega), nI_clamp (by omega), hx, hy, b3]
      refine ⟨vp_in_nI (by omega) (by decide), ?_⟩
      rw [wlet_e, nI_1]
      refine hK1 _ ⟨jn t x y :: r, ks', pos + 1, rfl, rfl, fun q hq => (hup_ne hq).trans (hf q hq), ⟨hup_eq2b, ?_⟩, ?_, by simp; omega, ⟨kg, hkg⟩, hev, hsg2, hpe1⟩
      · show stk (hup h1 139 r.length (jn t x y) 139) r
        rw [hup_self]
        exact stk_up r _ (Nat.le_refl _) hst.2.2
      · rw [b4]
        exact ⟨b5, hks.2.2⟩
  · have hlen60 : s.length < 60 ∧ ks' = false :: ks := by
      unfold ty1 at h7
      rw [if_neg clt] at h7
      split at h7
      · exact ⟨by omega, (Option.some.inj h7).symm⟩
      · simp at h7
    have hgo : ∀ (v : Int32) (P5 : Nat), ev1 (h 140) t s = v :: s → pos + (mc1 t).length = P5 + 1 → (h r1 pos = 0 → P5 = pos + 1) → (h r1 pos ≠ 0 → P5 = pos) → w_X9_comes_b54 r1 800 (nI a) (nI E) (nI s.length) (nI pos) v (nI s.length) K h1 Q := by
      intro v P5 eS hP h0 h1'
      rw [eS] at hev
      unfold w_X9_comes_b54 w_X9_comes_b145
      refine ⟨vp_in_nI (by omega) (by decide), ?_⟩
      rw [wlet_e, nI_clamp (by omega)]
      refine ⟨vp_in_nI hpos8 (by decide), ?_⟩
      rw [nI_clamp (by omega), hup_ne hr1, hf r1 hr1, wlet_e]
      have e5 : nI pos + (if ¬ h r1 pos = 0 then (0 : Int32) else 1) + 1 = nI (P5 + 1) := by
        by_cases c : h r1 pos = 0
        · rw [if_neg (not_not_intro c), nI_1, nI_1, h0 c]
        · rw [if_pos c, q0, nI_add, nI_1, h1' c]
      rw [e5, nI_1]
      refine hK1 _ ⟨v :: s, ks', P5 + 1, rfl, rfl, fun q hq => (hup_ne hq).trans (hf q hq), ⟨hup_eq2b, ?_⟩, ?_, by simp; omega, ⟨kg, hkg⟩, hev, ?_, by omega⟩
      · show stk (hup h1 139 s.length v 139) s
        rw [hup_self]
        exact stk_up s _ (Nat.le_refl _) hst
      · rw [hlen60.2]
        exact ⟨fun z => Bool.noConfusion z, hks⟩
      · rw [← hP]
        exact hsg2
    by_cases cneg : t < 0
    · obtain ⟨j, hj, ej, ec⟩ := m1_fact clt cneg
      have em : mc1 t = [0 - t] := by
        unfold mc1
        rw [if_neg clt, if_pos cneg]
      have hcode : h r1 pos = 0 - t := by
        rw [em] at hsg1
        exact SG.head hsg1
      have ecode : 0 - t = nI (j + 1) := by
        have : (0 : Int32) - t = (-1 - t) + 1 := by
          rw [← zI_of t, show (-1 : Int32) = zI (-1) from rfl, show (1 : Int32) = zI 1 from rfl, ← zI_0, zI_sub, zI_sub, zI_add]
          exact congrArg zI (by omega)
        rw [this, ej, nI_1]
      have e1 : nI (j + 1) - 1 = nI j := nI_pred j
      rw [hcode, ecode]
      refine wif_n (fun z => by rw [q7] at z; have := (nI_leI (by omega) (by omega)).mp z; omega) ⟨vp_in_nI hpos8 (by decide), wif_p (nI_ne0 (by omega) (by omega)) ⟨vp_in_nI hpos8 (by decide), ?_⟩⟩
      rw [e1]
      refine ⟨vp_in_nI hj (by decide), ?_⟩
      rw [nI_clamp (by omega), hf 140 (by decide)]
      refine hgo _ pos ?_ (by rw [em]; rfl) (fun z => ?_) (fun _ => rfl)
      · unfold ev1
        rw [if_neg clt, if_pos cneg, ec]
      · rw [hcode, ecode] at z
        exact absurd z (nI_ne0 (by omega) (by omega))
    · have em : mc1 t = [0, t] := by
        unfold mc1
        rw [if_neg clt, if_neg cneg]
      rw [em] at hsg1 hpe
      have hcode : h r1 pos = 0 := SG.head hsg1
      have hval : h r1 (pos + 1) = t := by
        have h9 := hsg1 1 (by simp)
        simp at h9
        exact h9.symm
      have hp1 : pos + 1 < 800 := by
        have : [0, t].length = 2 := rfl
        omega
      rw [hcode]
      refine wif_n (by decide) ⟨vp_in_nI hpos8 (by decide), wif_n (fun z => z rfl) ?_⟩
      rw [nI_1]
      refine ⟨vp_in_nI hp1 (by decide), ?_⟩
      rw [nI_clamp (by omega), hval]
      refine hgo _ (pos + 1) ?_ (by rw [em]; rfl) (fun _ => rfl) (fun z => absurd hcode z)
      unfold ev1
      rw [if_neg clt, if_neg cneg]
