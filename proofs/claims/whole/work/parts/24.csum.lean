/-! the program's sum of a toll -/
def lz (a : Int) : Int64 := Int64.ofInt a
theorem lz_toInt {a : Int} (h1 : -2 ^ 62 ≤ a) (h2 : a ≤ 2 ^ 62) : (lz a).toInt = a := Int64.toInt_ofInt_of_le (by omega) (by omega)
theorem lz_lt {a b : Int} (ha : -2 ^ 62 ≤ a ∧ a ≤ 2 ^ 62) (hb : -2 ^ 62 ≤ b ∧ b ≤ 2 ^ 62) : lz a < lz b ↔ a < b := by
  rw [Int64.lt_iff_toInt_lt, lz_toInt ha.1 ha.2, lz_toInt hb.1 hb.2]
theorem lz_32 (a : Int) : (lz a).toInt32 = zI a := Int64.toInt32_ofInt
theorem lz_add (a b : Int) : lz a + lz b = lz (a + b) := (Int64.ofInt_add a b).symm
theorem lz_i (x : Int32) : x.toInt64 = lz x.toInt := (Int64.ofInt_int32ToInt x).symm
theorem clamp64 {a : Int} (h1 : -2 ^ 62 ≤ a) (h2 : a ≤ 2 ^ 62) : Int64.toInt32 (if (if lz a < (9999 : Int64) then lz a else (9999 : Int64)) < (0 : Int64) then (0 : Int64) else (if lz a < (9999 : Int64) then lz a else (9999 : Int64))) = nI (clampN a) := by
  have e9 : (9999 : Int64) = lz 9999 := rfl
  have e0 : (0 : Int64) = lz 0 := rfl
  rw [e9, e0]
  unfold clampN
  by_cases c1 : a < 9999
  · rw [if_pos ((lz_lt ⟨h1, h2⟩ (by omega)).mpr c1)]
    by_cases c2 : a < 0
    · rw [if_pos ((lz_lt ⟨h1, h2⟩ (by omega)).mpr c2), if_pos c2, lz_32]
      rfl
    · rw [if_neg (fun z => c2 ((lz_lt ⟨h1, h2⟩ (by omega)).mp z)), if_neg c2, if_pos c1, lz_32]
      exact zI_nat (by omega)
  · rw [if_neg (fun z => c1 ((lz_lt ⟨h1, h2⟩ (by omega)).mp z)), if_neg (fun z => absurd ((lz_lt (by omega) (by omega)).mp z) (by omega)), if_neg (by omega), if_neg c1, lz_32]
    rfl
theorem pk_m2 (n : Nat) : nI (n + 2) + (-2) = nI n := by
  rw [show n + 2 = (n + 1) + 1 from rfl, nI_succ, nI_succ]
  have e : (-2 : Int32) = -(1 : Int32) + -(1 : Int32) := by decide
  rw [e]
  simp [Int32.add_assoc, ← Int32.sub_eq_add_neg]
theorem m1_fact {t : Int32} (h1 : ¬ t < -6) (h2 : t < 0) : ∃ j, j < 6 ∧ -1 - t = nI j ∧ (-1 - t).toNatClampNeg = j := by
  have a1 : -6 ≤ t.toInt := by
    have h3 : ¬ t.toInt < (-6 : Int32).toInt := fun z => h1 (Int32.lt_iff_toInt_lt.mpr z)
    have h4 : (-6 : Int32).toInt = -6 := by decide
    omega
  have a2 : t.toInt < 0 := by
    have h3 := Int32.lt_iff_toInt_lt.mp h2
    have h4 : (0 : Int32).toInt = 0 := by decide
    omega
  have e1 : -1 - t = nI (-1 - t.toInt).toNat := by
    rw [zI_eta (x := t) rfl, show (-1 : Int32) = zI (-1) from rfl, zI_sub]
    have e2 : (zI t.toInt).toInt = t.toInt := by rw [zI_of]
    rw [e2]
    exact zI_nat (by omega)
  refine ⟨(-1 - t.toInt).toNat, by omega, e1, ?_⟩
  rw [e1]
  exact nI_clamp (by omega)
def SumInv (p : Nat) (h : Hp) (f : Nat → Int32) (F : List Int32) (tot : Int) (i : Nat) (st : Int64 × Int32 × Int32 × Hp) : Prop :=
  ∃ (a : Int) (s : List Int32) (ks : List Bool), st.1 = lz a ∧ st.2.1 = nI s.length ∧ st.2.2.1 = nI i ∧ (∀ q, q ≠ p + 3 → st.2.2.2 q = h q) ∧ stk (st.2.2.2 (p + 3)) s ∧ ks.length = s.length ∧ s.length ≤ 60 ∧ tyf (F.drop i) ks ∧ cv f (F.drop i) (a, s) = (tot, []) ∧ -(i * 2 ^ 31) ≤ a ∧ a ≤ i * 2 ^ 31
theorem drop_at {α : Type} {F : List α} {i : Nat} {x : α} (h : F[i]? = some x) : F.drop i = x :: F.drop (i + 1) := by
  obtain ⟨hi, rfl⟩ := List.getElem?_eq_some_iff.mp h
  exact List.drop_eq_getElem_cons hi
theorem s_sum {p : Nat} (hp : lawQ p) {h : Hp} {rs : List Row} (hc : LC p h rs) (Q : Int32 → Hp → Prop) (hQ : ∀ h', (∀ q, q ≠ p + 3 → h' q = h q) → Q (nI (payR rs (h (p + 2)))) h') : w_X0_sum p h Q := by
  obtain ⟨t0, t1, t2⟩ := tgl hp
  obtain ⟨c1, c2, c3, c4, c5⟩ := hc
  unfold w_X0_sum w_X0_sum_b7
  refine wl_run (flat rs).length (SumInv p h (h (p + 2)) (flat rs) (rowsV (h (p + 2)) rs)) ?_ (Nat.zero_le _) ?_
  · rintro i ⟨v1, v3, v4, h1⟩ K hi ⟨a, s, ks, e1, e3, e4, hf, hst, hks, hs60, hty, hcv, ha1, ha2⟩ hK
    simp only at e1 e3 e4 hf hst
    subst e1 e3 e4
    have hi5 : (i : Int) * 2 ^ 31 ≤ 500 * 2 ^ 31 := Int.mul_le_mul_of_nonneg_right (by omega) (by decide)
    show w_X0_sum_l7 p Q K (lz a) (nI s.length) (nI i) h1
    unfold w_X0_sum_l7
    have e0 : h1 p 3 = nI (flat rs).length := by rw [hf p (by omega)]; exact c1
    rw [e0]
    have hend : i = (flat rs).length → w_X0_sum_b218 p (lz a) h1 Q := by
      intro hie
      subst hie
      rw [List.drop_length] at hcv
      have h5 : a = rowsV (h (p + 2)) rs := congrArg Prod.fst hcv
      unfold w_X0_sum_b218
      rw [clamp64 (by omega) (by omega), h5]
      exact hQ h1 hf
    refine ⟨fun z => hend ?_, fun z => ⟨fun z2 => ?_, fun z2 => ?_⟩⟩
    · have := (nI_leI (by omega) (by omega)).mp z
      omega
    · rw [q500] at z2
      have h6 := (nI_leI (by omega) (by omega)).mp z2
      exact hend (by omega)
    have hlt : i < (flat rs).length := by
      refine Nat.lt_of_not_le fun q => z ((nI_leI (by omega) (by omega)).mpr q)
    refine ⟨vp_in_nI (n := i) (N := 500) (by omega) (by decide), wlet_i ?_⟩
    have hti := c3 i hlt
    rw [t0, nI_clamp (by omega), hf (p + 1) (by omega)]
    generalize h (p + 1) i = t at hti
    have hd := drop_at hti
    rw [hd] at hty hcv
    unfold tyf at hty
    rw [cv_cons] at hcv
    have hK1 := hK hlt
    rw [t2, t1]
    by_cases cpay : t = -17
    · rw [if_pos cpay] at hty hcv
      subst cpay
      rw [wif_t (by decide), wif_t (by decide), wif_f (by decide)]
      match ks, hty with
      | [false], hty =>
      match s, hks with
      | [v], _ =>
      have hv : h1 (p + 3) 0 = v := hst.1
      have ev : nI [v].length + -1 = nI 0 := pk_m1 0
      rw [ev, e_at (by decide), rd_n (by decide) (by decide), hv, wlet_e, lz_i, lz_add]
      unfold w_X0_sum_b212
      have hvb := v.toInt_lt
      have hvc := v.le_toInt
      exact hK1 _ ⟨a + v.toInt, [], [], rfl, rfl, nI_1 i, hf, trivial, rfl, by decide, hty, hcv, by push_cast; omega, by push_cast; omega⟩
    · rw [if_neg cpay] at hty hcv
      by_cases cif : t = -18
      · rw [if_pos cif] at hty hcv
        subst cif
        rw [wif_t (by decide), wif_t (by decide), wif_t (by decide), wif_f (by decide)]
        match ks, hty with
        | [true, false], hty =>
        match s, hks with
        | [c, v], _ =>
        have hv : h1 (p + 3) 0 = v := hst.2.1
        have hcc : h1 (p + 3) 1 = c := hst.1
        have ev : nI [c, v].length + -2 = nI 0 := pk_m2 0
        rw [ev, e_at (by decide), nI_1, rd_n (by decide) (by decide), hcc, wif_e]
        have hvb := v.toInt_lt
        have hvc := v.le_toInt
        replace hcv : cv (h (p + 2)) (List.drop (i + 1) (flat rs)) (a + (if c = 0 then 0 else v.toInt), []) = (rowsV (h (p + 2)) rs, []) := hcv
        by_cases cc : c = 0
        · rw [if_neg (not_not_intro cc)]
          unfold w_X0_sum_b171 w_X0_sum_b212
          rw [wlet_e, show lz a + (0 : Int64) = lz (a + 0) from lz_add a 0]
          rw [if_pos cc] at hcv
          exact hK1 _ ⟨a + 0, [], [], rfl, rfl, nI_1 i, hf, trivial, rfl, by decide, hty, hcv, by push_cast; omega, by push_cast; omega⟩
        · rw [if_pos cc, e_at (by decide), rd_n (by decide) (by decide), hv, lz_i]
          unfold w_X0_sum_b171 w_X0_sum_b212
          rw [wlet_e, lz_add]
          rw [if_neg cc] at hcv
          exact hK1 _ ⟨a + v.toInt, [], [], rfl, rfl, nI_1 i, hf, trivial, rfl, by decide, hty, hcv, by push_cast; omega, by push_cast; omega⟩
      · rw [if_neg cif] at hty hcv
        cases h7 : ty1 t ks with
        | none => rw [h7] at hty; exact hty.elim
        | some ks' =>
        rw [h7] at hty
        simp only at hty
        have hfr := ev1_frame (f := h (p + 2)) [] h7 hks
        unfold ty1 at h7
        by_cases clt : t < -6
        · rw [wif_t clt]
          rw [if_pos clt] at h7
          by_cases cnot : t = -14
          · rw [wif_f (not_not_intro cnot)]
            rw [if_pos cnot] at h7
            match ks, h7 with
            | true :: kr, h7 =>
            match s, hks with
            | x :: r, hks =>
            have hx : h1 (p + 3) r.length = x := hst.1
            have hr60 : r.length < 60 := by simp at hs60; omega
            have ev : nI (x :: r).length - 1 = nI r.length := nI_pred _
            have eS : ev1 (h (p + 2)) t (x :: r) = (1 - x) :: r := by
              unfold ev1
              rw [if_pos clt, if_pos cnot]
            rw [eS] at hcv hfr
            rw [ev, e_at (by decide), rd_n (by omega) (by decide), hx, e_put (by decide), wr_n (by omega) (by decide)]
            unfold w_X0_sum_b212
            refine hK1 _ ⟨a, (1 - x) :: r, ks', rfl, rfl, nI_1 i, fun q hq => ?_, ⟨?_, ?_⟩, hfr.2.symm, by simp; omega, hty, hcv, by push_cast; omega, by push_cast; omega⟩
            · show hup h1 (p + 3) r.length (1 - x) q = h q
              rw [hup_ne hq, hf q hq]
            · show hup h1 (p + 3) r.length (1 - x) (p + 3) r.length = 1 - x
              exact hup_eq _ _ _ _
            · show stk (hup h1 (p + 3) r.length (1 - x) (p + 3)) r
              rw [hup_self]
              exact stk_up r _ (Nat.le_refl _) hst.2
          · rw [wif_t cnot, wif_t cpay, wif_t cif]
            rw [if_neg cnot] at h7
            have main : ∃ x y r, ks = x :: y :: r := by
              split at h7
              · split at h7
                · exact ⟨_, _, _, rfl⟩
                · simp at h7
              · split at h7
                · split at h7
                  · exact ⟨_, _, _, rfl⟩
                  · simp at h7
                · split at h7
                  · split at h7
                    · exact ⟨_, _, _, rfl⟩
                    · simp at h7
                  · simp at h7
            obtain ⟨k1, k2, kr, rfl⟩ := main
            match s, hks with
            | y :: x :: r, hks =>
            have hy : h1 (p + 3) (r.length + 1) = y := hst.1
            have hx : h1 (p + 3) r.length = x := hst.2.1
            have hr60 : r.length < 60 := by simp at hs60; omega
            have ev : nI (y :: x :: r).length + -1 = nI (r.length + 1) := pk_m1 _
            have ev2 : nI (r.length + 1) - 1 = nI r.length := nI_pred _
            have eS : ev1 (h (p + 2)) t (y :: x :: r) = jn t x y :: r := by
              unfold ev1
              rw [if_pos clt, if_neg cnot]
            rw [eS] at hcv hfr
            rw [ev, ev2, e_at (by decide), rd_n (by omega) (by decide), hx, e_at (by decide), rd_n (by omega) (by decide), hy, e_joined, e_put (by decide), wr_n (by omega) (by decide)]
            unfold w_X0_sum_b212
            refine hK1 _ ⟨a, jn t x y :: r, ks', rfl, rfl, nI_1 i, fun q hq => ?_, ⟨?_, ?_⟩, hfr.2.symm, by simp; omega, hty, hcv, by push_cast; omega, by push_cast; omega⟩
            · show hup h1 (p + 3) r.length (jn t x y) q = h q
              rw [hup_ne hq, hf q hq]
            · show hup h1 (p + 3) r.length (jn t x y) (p + 3) r.length = jn t x y
              exact hup_eq _ _ _ _
            · show stk (hup h1 (p + 3) r.length (jn t x y) (p + 3)) r
              rw [hup_self]
              exact stk_up r _ (Nat.le_refl _) hst.2.2
        · rw [wif_f clt]
          rw [if_neg clt] at h7
          have hlen : ks.length < 60 := by
            refine Nat.lt_of_not_le fun q => ?_
            rw [if_neg (by omega)] at h7
            simp at h7
          have hgo : ∀ v : Int32, ev1 (h (p + 2)) t s = v :: s → w_X0_sum_b68 p (lz a) (nI s.length) (nI i) v (nI s.length) K h1 Q := by
            intro v eS
            rw [eS] at hcv hfr
            unfold w_X0_sum_b68 w_X0_sum_b212
            rw [t2, e_put (by decide), wr_n (by omega) (by decide)]
            refine hK1 _ ⟨a, v :: s, ks', rfl, nI_1 _, nI_1 i, fun q hq => ?_, ⟨?_, ?_⟩, hfr.2.symm, by simp; omega, hty, hcv, by push_cast; omega, by push_cast; omega⟩
            · show hup h1 (p + 3) s.length v q = h q
              rw [hup_ne hq, hf q hq]
            · show hup h1 (p + 3) s.length v (p + 3) s.length = v
              exact hup_eq _ _ _ _
            · show stk (hup h1 (p + 3) s.length v (p + 3)) s
              rw [hup_self]
              exact stk_up s _ (Nat.le_refl _) hst
          by_cases cneg : t < 0
          · obtain ⟨j, hj, ej, ec⟩ := m1_fact clt cneg
            rw [wif_t cneg, ej, e_at (by decide), rd_n hj (by decide), hf (p + 2) (by omega)]
            refine hgo _ ?_
            unfold ev1
            rw [if_neg clt, if_pos cneg, ec]
          · rw [wif_f cneg]
            refine hgo _ ?_
            unfold ev1
            rw [if_neg clt, if_neg cneg]
  · refine ⟨0, [], [], rfl, rfl, rfl, fun _ _ => rfl, trivial, rfl, by decide, ?_, ?_, by omega, by omega⟩
    · exact tyf_flat rs c4
    · show cv (h (p + 2)) (flat rs) (0, []) = _
      rw [cv_flat rs 0 c4, Int.zero_add]
