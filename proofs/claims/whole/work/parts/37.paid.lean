/-! the model: what one pays -/
def lineRows (a b : Nat) : List Row := [([-1, nI a, -9, 100, -10], none), ([-3, nI b, -9, 10, -10], none)]
def MR (h : Hp) (t : Nat) (rs : List Row) : Prop := (h 92 48 = -1 ∧ ∃ tn, tn ≤ 4 ∧ h 92 18 = nI tn ∧ ((t < tn ∧ MT t h rs) ∨ (tn ≤ t ∧ rs = []))) ∨ (∃ a b, a < 10 ∧ b < 10 ∧ h 92 48 = nI a ∧ h 92 49 = nI b ∧ rs = lineRows a b)
theorem lz_cmp1 {a b : Int} (ha : -2 ^ 62 ≤ a ∧ a ≤ 2 ^ 62) (hb : -2 ^ 62 ≤ b ∧ b ≤ 2 ^ 62) : 0 ≤ lg_cmp (lz a) (lz b) ↔ b ≤ a := by
  unfold lg_cmp
  by_cases c1 : lz a > lz b
  · rw [if_pos c1]
    have := (lz_lt hb ha).mp c1
    exact ⟨fun _ => by omega, fun _ => by decide⟩
  · rw [if_neg c1]
    have h1 : ¬ b < a := fun z => c1 ((lz_lt hb ha).mpr z)
    by_cases c2 : lz a = lz b
    · rw [if_pos c2]
      have h2 := congrArg Int64.toInt c2
      rw [lz_toInt ha.1 ha.2, lz_toInt hb.1 hb.2] at h2
      exact ⟨fun _ => by omega, fun _ => by decide⟩
    · rw [if_neg c2]
      have h2 : a ≠ b := fun z => c2 (by rw [z])
      exact ⟨fun z => absurd z (by decide), fun z => by omega⟩
theorem lz_cmp2 {a b : Int} (ha : -2 ^ 62 ≤ a ∧ a ≤ 2 ^ 62) (hb : -2 ^ 62 ≤ b ∧ b ≤ 2 ^ 62) : lg_cmp (lz a) (lz b) ≤ 0 ↔ a ≤ b := by
  unfold lg_cmp
  by_cases c1 : lz a > lz b
  · rw [if_pos c1]
    have := (lz_lt hb ha).mp c1
    exact ⟨fun z => absurd z (by decide), fun z => by omega⟩
  · rw [if_neg c1]
    have h1 : ¬ b < a := fun z => c1 ((lz_lt hb ha).mpr z)
    refine ⟨fun _ => by omega, fun _ => ?_⟩
    by_cases c2 : lz a = lz b
    · rw [if_pos c2]
      decide
    · rw [if_neg c2]
      decide
theorem ev1_num {f : Nat → Int32} {n : Nat} (hn : n < 2 ^ 31) (s : List Int32) : ev1 f (nI n) s = nI n :: s := by
  have h0 : ¬ nI n < 0 := nI_pos hn
  have h1 : ¬ nI n < -6 := fun z => by
    have h2 := Int32.lt_iff_toInt_lt.mp z
    rw [nI_toInt hn] at h2
    have h3 : (-6 : Int32).toInt = -6 := by decide
    omega
  unfold ev1
  rw [if_neg h1, if_neg h0]
theorem lineV {f : Nat → Int32} {a b sh w : Nat} (ha : a < 10) (hb : b < 10) (h0 : f 0 = nI sh) (h2 : f 2 = nI w) (hs : sh ≤ 9999) (hw : w ≤ 1998) : rowsV f (lineRows a b) = ((sh * a / 100 + w * b / 10 : Nat) : Int) := by
  have m1 : sh * a ≤ 9999 * 9 := Nat.mul_le_mul hs (by omega)
  have m2 : w * b ≤ 1998 * 9 := Nat.mul_le_mul hw (by omega)
  have e1 : evl f [-1, nI a, -9, 100, -10] [] = [nI (sh * a / 100)] := by
    show ev1 f (-10) (ev1 f 100 (ev1 f (-9) (ev1 f (nI a) (ev1 f (-1) [])))) = _
    rw [show ev1 f (-1) [] = [f 0] from rfl, ev1_num (by omega), h0, show ev1 f (-9) [nI a, nI sh] = [nI sh * nI a] from rfl, pk_mul, show (100 : Int32) = nI 100 from rfl, ev1_num (by decide), show ev1 f (-10) [nI 100, nI (sh * a)] = [nI (sh * a) / nI 100] from rfl, pk_div (by omega) (by decide) (by decide)]
  have e2 : evl f [-3, nI b, -9, 10, -10] [] = [nI (w * b / 10)] := by
    show ev1 f (-10) (ev1 f 10 (ev1 f (-9) (ev1 f (nI b) (ev1 f (-3) [])))) = _
    rw [show ev1 f (-3) [] = [f 2] from rfl, ev1_num (by omega), h2, show ev1 f (-9) [nI b, nI w] = [nI w * nI b] from rfl, pk_mul, show ev1 f 10 [nI (w * b)] = [nI 10, nI (w * b)] from ev1_num (n := 10) (by decide) _, show ev1 f (-10) [nI 10, nI (w * b)] = [nI (w * b) / nI 10] from rfl, pk_div (by omega) (by decide) (by decide)]
  show ((evl f [-1, nI a, -9, 100, -10] []).headD 0).toInt + (((evl f [-3, nI b, -9, 10, -10] []).headD 0).toInt + 0) = _
  rw [e1, e2]
  show (nI (sh * a / 100)).toInt + ((nI (w * b / 10)).toInt + 0) = _
  rw [nI_toInt (by omega), nI_toInt (by omega)]
  omega
theorem s_clampM {p1 p2 p3 p4 p5 p6 p7 : Int32} {h : Hp} {a : Int} (ha : -2 ^ 62 ≤ a ∧ a ≤ 2 ^ 62) (Q : Int32 → Hp → Prop) (hQ : Q (nI (clampN a)) h) : w_X9_paid_b245 p1 p2 p3 p4 p5 p6 p7 (lz a) h Q := by
  have e9 : (9999 : Int64) = lz 9999 := rfl
  have e0 : (0 : Int64) = lz 0 := rfl
  unfold w_X9_paid_b245
  rw [e9, e0]
  unfold clampN at hQ
  refine ⟨fun z => ?_, fun z => ?_⟩
  · have h1 := (lz_cmp1 ha (by decide)).mp z
    rw [if_neg (by omega)] at hQ
    by_cases c : a ≤ 9999
    · rw [if_pos ((lz_cmp2 ha (by decide)).mpr c), lz_32]
      by_cases c2 : a < 9999
      · rw [if_pos c2] at hQ
        rw [zI_nat (n := a.toNat) (by omega)]
        exact hQ
      · rw [if_neg c2] at hQ
        rw [zI_nat (n := 9999) (by omega)]
        exact hQ
    · rw [if_neg (fun z => c ((lz_cmp2 ha (by decide)).mp z))]
      rw [if_neg (by omega)] at hQ
      exact hQ
  · have h1 : ¬ 0 ≤ a := fun q => z ((lz_cmp1 ha (by decide)).mpr q)
    rw [if_pos (by omega)] at hQ
    exact hQ
theorem MT.same {t : Nat} {h h' : Hp} {rs : List Row} (c : MT t h rs) (e : ∀ q, q = 118 ∨ q = 120 + t ∨ q = 125 + t ∨ q = 130 + t ∨ q = 135 + t → h' q = h q) : MT t h' rs := by
  obtain ⟨a, b, c, d⟩ := c
  refine ⟨by rw [e 118 (Or.inl rfl)]; exact a, b, c, fun i r hr => ?_⟩
  obtain ⟨x, y, z, h1, h2, h3, h4, h5, h6, h7⟩ := d i r hr
  rw [e (120 + t) (Or.inr (Or.inl rfl)), e (125 + t) (Or.inr (Or.inr (Or.inl rfl))), e (130 + t) (Or.inr (Or.inr (Or.inr (Or.inl rfl)))), e (135 + t) (Or.inr (Or.inr (Or.inr (Or.inr rfl))))]
  exact ⟨x, y, z, h1, h2, h3, h4, h5, h6, h7⟩
theorem MR.same {t : Nat} {h h' : Hp} {rs : List Row} (c : MR h t rs) (e92 : h' 92 48 = h 92 48 ∧ h' 92 49 = h 92 49 ∧ h' 92 18 = h 92 18) (e : ∀ q, 118 ≤ q → q ≤ 138 → h' q = h q) : MR h' t rs := by
  rcases c with ⟨a, tn, b, c, d⟩ | ⟨a, b, c, d, e1, e2, e3⟩
  · refine Or.inl ⟨by rw [e92.1]; exact a, tn, b, by rw [e92.2.2]; exact c, ?_⟩
    rcases d with ⟨d1, d2⟩ | d
    · exact Or.inl ⟨d1, d2.same (fun q hq => e q (by omega) (by omega))⟩
    · exact Or.inr d
  · exact Or.inr ⟨a, b, c, d, by rw [e92.1]; exact e1, by rw [e92.2.1]; exact e2, e3⟩
theorem rowV_b (f : Nat → Int32) (r : Row) : -2 ^ 31 ≤ rowV f r ∧ rowV f r < 2 ^ 31 := by
  obtain ⟨E, C⟩ := r
  have h1 := ((evl f E []).headD 0).toInt_lt
  have h2 := ((evl f E []).headD 0).le_toInt
  cases C with
  | none => exact ⟨h2, h1⟩
  | some c =>
    show -2 ^ 31 ≤ (if _ then (0 : Int) else _) ∧ (if _ then (0 : Int) else _) < 2 ^ 31
    split
    · exact ⟨by decide, by decide⟩
    · exact ⟨h2, h1⟩
theorem s_paidRows {g : Hp} {f : Nat → Int32} (hf : ∀ i, i < 6 → g 140 i = f i) {t : Nat} {rs : List Row} (hR : MR g t rs) {sum0 : Int} {p1 p2 p3 p4 p5 p6 p7 : Int32} (e1 : p1 = nI t) (ht : t < 2 ^ 20) (h0 : (g 92 48 = -1 ∧ sum0 = 0) ∨ (g 92 48 ≠ -1 ∧ sum0 = rowsV f rs))
    (Q : Int32 → Hp → Prop) (hQ : ∀ h', (∀ q, q ≠ 139 → h' q = g q) → Q (nI (payR rs f)) h') : w_X9_paid_b110 p1 p2 p3 p4 p5 p6 p7 (lz sum0) g Q := by
  unfold w_X9_paid_b110 w_X9_paid_b113
  rcases h0 with ⟨hl, hs0⟩ | ⟨hl, hs0⟩
  rotate_left
  · -- two lines: no row is read
    refine ⟨1, ?_⟩
    show w_X9_paid_l113 p1 p2 p3 p4 p5 p6 p7 Q _ (lz sum0) 0 g
    unfold w_X9_paid_l113
    refine wif_p hl ?_
    have hb : -2 ^ 62 ≤ sum0 ∧ sum0 ≤ 2 ^ 62 := by
      rw [hs0]
      rcases hR with ⟨a, _⟩ | ⟨a, b, _, _, _, _, e⟩
      · exact absurd a hl
      · rw [e]
        have q1 := rowV_b f ([-1, nI a, -9, 100, -10], none)
        have q2 := rowV_b f ([-3, nI b, -9, 10, -10], none)
        show _ ≤ rowV f ([-1, nI a, -9, 100, -10], none) + (rowV f ([-3, nI b, -9, 10, -10], none) + 0) ∧ rowV f ([-1, nI a, -9, 100, -10], none) + (rowV f ([-3, nI b, -9, 10, -10], none) + 0) ≤ _
        omega
    refine s_clampM hb Q ?_
    rw [hs0]
    exact hQ g (fun _ _ => rfl)
  have hR1 : ∃ tn, tn ≤ 4 ∧ g 92 18 = nI tn ∧ ((t < tn ∧ MT t g rs) ∨ (tn ≤ t ∧ rs = [])) := by
    rcases hR with ⟨_, h⟩ | ⟨a, b, c, _, e, _⟩
    · exact h
    · rw [hl] at e
      have h9 := congrArg Int32.toInt e
      rw [nI_toInt (by omega)] at h9
      have h8 : (-1 : Int32).toInt = -1 := by decide
      omega
  obtain ⟨tn, htn, h18, hR2⟩ := hR1
  subst e1 hs0
  rcases hR2 with ⟨htt, hT⟩ | ⟨htt, hrs⟩
  rotate_left
  · refine ⟨1, ?_⟩
    show w_X9_paid_l113 (nI t) p2 p3 p4 p5 p6 p7 Q _ (lz 0) 0 g
    unfold w_X9_paid_l113
    rw [h18, hl]
    refine wif_n (fun z => z rfl) (wif_p ((nI_leI (by omega) (by omega)).mpr htt) (s_clampM (by decide) Q ?_))
    have e : payR rs f = clampN 0 := by
      rw [hrs]
      rfl
    rw [← e]
    exact hQ g (fun _ _ => rfl)
  obtain ⟨h118, hlen, hok, hrow⟩ := hT
  refine wl_run rs.length (fun i (st : Int64 × Int32 × Hp) => ∃ acc : Int, st.1 = lz acc ∧ st.2.1 = nI i ∧ (∀ q, q ≠ 139 → st.2.2 q = g q) ∧ acc + rowsV f (rs.drop i) = rowsV f rs ∧ -(i * 2 ^ 31) ≤ acc ∧ acc ≤ i * 2 ^ 31) ?_ (Nat.zero_le _) ⟨0, rfl, rfl, fun _ _ => rfl, by simp, by omega, by omega⟩
  rintro i ⟨v8, v10, h1⟩ K hi ⟨acc, e8, e10, hfr, hac, hb1, hb2⟩ hK
  simp only at e8 e10 hfr
  subst e8 e10
  show w_X9_paid_l113 (nI t) p2 p3 p4 p5 p6 p7 Q K (lz acc) (nI i) h1
  unfold w_X9_paid_l113
  have hi5 : (i : Int) * 2 ^ 31 ≤ 10 * 2 ^ 31 := Int.mul_le_mul_of_nonneg_right (by omega) (by decide)
  have vt : vp_in (nI t) 4 := vp_in_nI (by omega) (by decide)
  rw [hfr 92 (by decide), hl, h18, nI_clamp (n := t) (by omega), hfr 118 (by decide), h118]
  refine wif_n (fun z => z rfl) (wif_n (fun z => by have := (nI_leI (by omega) (by omega)).mp z; omega) ⟨vt, ?_⟩)
  refine ⟨fun z => ?_, fun z => ?_⟩
  · have hie : i = rs.length := by
      have := (nI_leI (by omega) (by omega)).mp z
      omega
    subst hie
    rw [List.drop_length] at hac
    have hac2 : acc = rowsV f rs := by
      have h9 : acc + 0 = rowsV f rs := hac
      omega
    refine s_clampM (by omega) Q ?_
    rw [hac2]
    exact hQ h1 hfr
  have hlt : i < rs.length := Nat.lt_of_not_le fun q => z ((nI_leI (by omega) (by omega)).mpr q)
  have hK1 := hK hlt
  have vi : vp_in (nI i) 10 := vp_in_nI (by omega) (by decide)
  refine ⟨vt, vi, vt, vi, ?_⟩
  obtain ⟨r, hr⟩ : ∃ r, rs[i]? = some r := ⟨rs[i], List.getElem?_eq_getElem hlt⟩
  obtain ⟨a, b, c, ha, hb, hc, hab, hc8, hsg, hC⟩ := hrow i r hr
  have hrok := hok r (List.mem_of_getElem? hr)
  have hd := drop_at hr
  rw [hd] at hac
  replace hac : acc + (rowV f r + rowsV f (rs.drop (i + 1))) = rowsV f rs := hac
  have hrb := rowV_b f r
  have hbc : b ≤ c := by
    revert hC
    cases r.2 with
    | none =>
      intro hC
      have hC : c = b := hC
      omega
    | some l =>
      intro hC
      have hC : c = b + (mcs l).length ∧ _ := hC
      omega
  have ef : ∀ h2 : Hp, (∀ q, q ≠ 139 → h2 q = g q) → h2 (120 + 1 * t) i = nI a ∧ h2 (125 + 1 * t) i = nI b ∧ h2 (130 + 1 * t) i = nI c ∧ h2 (135 + 1 * t) = g (135 + t) ∧ (∀ i, i < 6 → h2 140 i = f i) := fun h2 hh => by
    rw [Nat.one_mul, hh (120 + t) (by omega), hh (125 + t) (by omega), hh (130 + t) (by omega), hh (135 + t) (by omega), hh 140 (by decide)]
    exact ⟨ha, hb, hc, rfl, hf⟩
  obtain ⟨f1, f2, f3, f4, f5⟩ := ef h1 hfr
  rw [nI_clamp (n := i) (by omega), f2, f3]
  -- the row's E
  have goE : ∀ h2 : Hp, (∀ q, q ≠ 139 → h2 q = g q) → (rowV f r = ((evl f r.1 []).headD 0).toInt) → w_X9_comes (135 + 1 * t) 800 (h2 (120 + 1 * t) i) (h2 (125 + 1 * t) i) h2 (fun z6 h7 => wlet (lz acc + (Int32.toInt64 z6)) (fun v8_8 => w_X9_paid_b239 (nI t) p2 p3 p4 p5 p6 p7 v8_8 (nI i) K h7 Q)) := by
    intro h2 hh hv
    obtain ⟨k1, k2, k3, k4, k5⟩ := ef h2 hh
    rw [k1, k2]
    refine s_comes (by omega) hrok.1 (by rw [k4]; exact hsg) (by omega) rfl (by rw [hab]) _ (fun h3 h3f _ => ?_)
    rw [evl_congr k5, lz_i, lz_add, wlet_e, ← hv]
    unfold w_X9_paid_b239
    rw [nI_1]
    exact hK1 _ ⟨acc + rowV f r, rfl, rfl, fun q hq => (h3f q hq).trans (hh q hq), by omega, by push_cast; omega, by push_cast; omega⟩
  obtain ⟨E, C⟩ := r
  cases C with
  | none =>
    have hC : c = b := hC
    refine wif_p (by rw [hC]) ?_
    unfold w_X9_paid_b193 w_X9_paid_b198
    rw [nI_clamp (n := t) (by omega), nI_clamp (n := i) (by omega)]
    exact wif_n i10 ⟨vt, vt, vi, vt, vi, goE h1 hfr rfl⟩
  | some l =>
    have hC : c = b + (mcs l).length ∧ SG (g (135 + t)) b (mcs l) := hC
    have hl2 := hrok.2 l rfl
    have hpos : 0 < (mcs l).length := by
      cases l with
      | nil => exact absurd rfl hl2.1
      | cons x l =>
        rw [mcs_cons, List.length_append]
        have : 1 ≤ (mc1 x).length := by
          unfold mc1
          split
          · simp
          · split <;> simp
        omega
    refine wif_n (fun z => by have := (nI_eq (by omega) (by omega)).mp z; omega) ⟨vt, vt, vi, vt, vi, ?_⟩
    refine s_comes (by omega) hl2.2.1 (by rw [f4]; exact hC.2) (by omega) rfl (by rw [hC.1]) _ (fun h2 h2f hbool => ?_)
    have hh : ∀ q, q ≠ 139 → h2 q = g q := fun q hq => (h2f q hq).trans (hfr q hq)
    rw [evl_congr f5] at hbool ⊢
    rw [wlet_e]
    have hv : rowV f (E, some l) = if (evl f l []).headD 0 = 0 then 0 else ((evl f E []).headD 0).toInt := rfl
    rcases hbool rfl with h01 | h01
    · rw [h01] at hv ⊢
      rw [if_pos (by decide)]
      refine wif_p rfl ?_
      unfold w_X9_paid_b239
      rw [nI_1]
      rw [if_pos rfl] at hv
      exact hK1 _ ⟨acc, rfl, rfl, hh, by omega, by push_cast; omega, by push_cast; omega⟩
    · rw [h01] at hv ⊢
      rw [if_neg (by decide)]
      rw [if_neg (by decide)] at hv
      exact wif_n i10 ⟨vt, vt, vi, vt, vi, goE h2 hh hv⟩
theorem s_paid {h : Hp} {B : Br} (hB : MB h B) {t : Nat} {rs : List Row} (hR : MR h t rs) {p1 p2 p3 p4 p5 p6 p7 : Int32} (b d m hh w : Nat) (dark : Bool) (e1 : p1 = nI t) (ht : t < 2 ^ 20) (e2 : p2 = nI b) (e3 : p3 = nI d) (e4 : p4 = nI m) (e5 : p5 = nI hh) (e6 : p6 = nI w) (e7 : p7 = 0 ↔ dark = false) (hb : b < 2) (hd : d < 30) (hm : m < 1440) (hhb : hh ≤ 999) (hw : w ≤ 1998)
    (Q : Int32 → Hp → Prop) (hQ : ∀ h', (∀ q, q ≠ 139 → q ≠ 140 → h' q = h q) → Q (nI (chargeB B rs (if dark then 0 else altB B b d m) hh w d m)) h') : w_X9_paid p1 p2 p3 p4 p5 p6 p7 h Q := by
  have main : ∀ sh : Nat, sh = shB hh (if dark then 0 else altB B b d m) → w_X9_paid_b24 p1 p2 p3 p4 p5 p6 p7 (nI sh) 0 h Q := by
    intro sh hsh
    have hshb : sh ≤ 9999 := by
      rw [hsh]
      exact shB_b _ _
    unfold w_X9_paid_b24
    simp only [v_0_6, v_1_6, v_2_6, v_3_6, v_4_6, v_5_6, true_and, wlet_e, cl0, cl1, cl2, cl3, cl4, cl5]
    subst e3 e4 e5 e6
    have vd : vp_in (nI d) 30 := vp_in_nI hd (by decide)
    refine ⟨vd, ?_⟩
    rw [nI_clamp (n := d) (by omega)]
    have e60 : nI m / 60 = nI (m / 60) := by
      rw [q60, pk_div (by omega) (by omega) (by omega)]
    have e99 : hup (hup (hup (hup (hup h 140 0 (nI sh)) 140 1 (nI hh)) 140 2 (nI w)) 140 3 (nI (m / 60))) 140 4 (nI d) 99 d = nI (B.2.2.1 d) := by
      rw [hup_ne (by decide), hup_ne (by decide), hup_ne (by decide), hup_ne (by decide), hup_ne (by decide), hB.2.2.1 d hd]
    rw [e60, e99]
    generalize hg : hup (hup (hup (hup (hup (hup h 140 0 (nI sh)) 140 1 (nI hh)) 140 2 (nI w)) 140 3 (nI (m / 60))) 140 4 (nI d)) 140 5 (nI (B.2.2.1 d)) = g
    have hgo : ∀ q, q ≠ 140 → g q = h q := by
      intro q hq
      rw [← hg, hup_ne hq, hup_ne hq, hup_ne hq, hup_ne hq, hup_ne hq, hup_ne hq]
    have hgf : ∀ i, i < 6 → g 140 i = fcts sh hh w (m / 60) d (B.2.2.1 d) i := by
      intro i hi
      rw [← hg]
      have h6 : i = 0 ∨ i = 1 ∨ i = 2 ∨ i = 3 ∨ i = 4 ∨ i = 5 := by omega
      rcases h6 with rfl | rfl | rfl | rfl | rfl | rfl <;> simp [hup_at, fcts]
    have hR2 : MR g t rs := hR.same ⟨by rw [hgo 92 (by decide)], by rw [hgo 92 (by decide)], by rw [hgo 92 (by decide)]⟩ (fun q h1 h2 => hgo q (by omega))
    have fin : ∀ h', (∀ q, q ≠ 139 → h' q = g q) → Q (nI (payR rs (fcts sh hh w (m / 60) d (B.2.2.1 d)))) h' := by
      intro h' hf
      have h9 := hQ h' (fun q a b => (hf q a).trans (hgo q b))
      unfold chargeB at h9
      rw [← hsh] at h9
      exact h9
    refine ⟨fun z => ?_, fun z => ?_⟩
    · exact s_paidRows hgf hR2 (sum0 := 0) e1 ht (Or.inl ⟨z, rfl⟩) Q fin
    · rcases hR2 with ⟨a, _⟩ | ⟨a, b9, ha, hb9, k1, k2, k3⟩
      · exact absurd a z
      · have m1 : sh * a ≤ 9999 * 9 := Nat.mul_le_mul hshb (by omega)
        have m2 : w * b9 ≤ 1998 * 9 := Nat.mul_le_mul hw (by omega)
        have e0 : g 140 0 = nI sh := hgf 0 (by decide)
        rw [e0, k1, k2, pk_mul, pk_mul, show (100 : Int32) = nI 100 from rfl, show (10 : Int32) = nI 10 from rfl, pk_div (by omega) (by decide) (by decide), pk_div (by omega) (by decide) (by decide), nI_add, lz_i, nI_toInt (by omega)]
        refine s_paidRows hgf (Or.inr ⟨a, b9, ha, hb9, k1, k2, k3⟩) e1 ht (Or.inr ⟨z, ?_⟩) Q fin
        rw [k3, lineV ha hb9 (sh := sh) (w := w) rfl rfl hshb hw]
  unfold w_X9_paid
  by_cases c : p7 = 0
  · refine wif_p c (s_shadowOfM hB b d m hh e2 e3 e4 e5 hb hd hm hhb _ (main _ ?_))
    rw [e7.mp c]
    rfl
  · have h1 : dark = true := by
      cases dark with
      | false => exact absurd (e7.mpr rfl) c
      | true => rfl
    refine wif_n c (main 0 ?_)
    rw [h1]
    rfl
def mfr (h h' : Hp) : Prop := ∀ q, q ≠ 139 → q ≠ 140 → h' q = h q
theorem mfr.tr {h h1 h2 : Hp} (a : mfr h h1) (b : mfr h1 h2) : mfr h h2 := fun q h1 h2 => (b q h1 h2).trans (a q h1 h2)
theorem mfr.MB {h h' : Hp} {B : Br} (a : mfr h h') (c : MB h B) : MB h' B := c.same (a 95 (by decide) (by decide)) (a 97 (by decide) (by decide)) (a 99 (by decide) (by decide)) (fun k hk => a _ (by omega) (by omega))
theorem mfr.MR {h h' : Hp} {t : Nat} {rs : List Row} (a : mfr h h') (c : MR h t rs) : MR h' t rs := c.same ⟨by rw [a 92 (by decide) (by decide)], by rw [a 92 (by decide) (by decide)], by rw [a 92 (by decide) (by decide)]⟩ (fun q h1 h2 => a q (by omega) (by omega))
theorem s_coinsOf {h : Hp} {B : Br} (hB : MB h B) {t : Nat} {rs : List Row} (hR : MR h t rs) {p1 p2 p3 p4 p5 : Int32} (b k d m : Nat) (dark : Bool) (ht : t < 2 ^ 20) (e1 : p1 = nI b) (e2 : p2 = nI k) (e3 : p3 = nI d) (e4 : p4 = nI m) (e5 : p5 = 0 ↔ dark = false) (h141 : h 141 b = nI t) (hb : b < 2) (hk : k < B.1 0) (hd : d < 30) (hm : m < 1440)
    (Q : Int32 → Hp → Prop) (hQ : ∀ h', mfr h h' → Q (nI (fareB B rs b k d m dark)) h') : w_X9_coinsOf p1 p2 p3 p4 p5 h Q := by
  have hw0 := hB.2.2.2.2.1
  have hw := hB.2.2.2.2.who k
  have ho := hB.2.2.2.1 k
  subst e1 e2
  unfold w_X9_coinsOf
  refine ⟨vp_in_nI (by omega) (by decide), vp_in_nI hb (by decide), vl 0 7 (by decide) (by decide), vl 5 7 (by decide) (by decide), vl 1 7 (by decide) (by decide), ?_⟩
  rw [nI_clamp (n := b) (by omega), nI_clamp (n := k) (by omega), Nat.one_mul, cl0, cl5, cl1, ho 0 hk (by decide), ho 5 hk (by decide), ho 1 hk (by decide), h141, nI_add]
  refine s_paid hB hR b d m (stB B k) (B.2.2.2 k 1) dark rfl ht rfl e3 e4 rfl rfl e5 hb hd hm (by unfold stB; omega) (by omega) _ (fun h1 f1 => ?_)
  have hB1 := mfr.MB f1 hB
  have hR1 := mfr.MR f1 hR
  have ho1 := hB1.2.2.2.1 k
  refine ⟨vl 6 7 (by decide) (by decide), ?_⟩
  rw [cl6, ho1 6 hk (by decide)]
  have e : fareB B rs b k d m dark = if B.2.2.2 k 6 = 0 then chargeB B rs (if dark then 0 else altB B b d m) (stB B k) (B.2.2.2 k 1) d m else if chargeB B rs (if dark then 0 else altB B b d m) (B.2.2.2 k 6) (2 * B.2.2.2 k 1) d m < chargeB B rs (if dark then 0 else altB B b d m) (stB B k) (B.2.2.2 k 1) d m then chargeB B rs (if dark then 0 else altB B b d m) (B.2.2.2 k 6) (2 * B.2.2.2 k 1) d m else chargeB B rs (if dark then 0 else altB B b d m) (stB B k) (B.2.2.2 k 1) d m := rfl
  by_cases c0 : B.2.2.2 k 6 = 0
  · rw [c0]
    rw [if_pos c0] at e
    rw [← e]
    exact wif_n (fun z => z rfl) (hQ h1 f1)
  · rw [if_neg c0] at e
    refine wif_p (nI_ne0 (by omega) (by omega)) ⟨vp_in_nI hb (by decide), vl 6 7 (by decide) (by decide), vl 1 7 (by decide) (by decide), ?_⟩
    rw [ho1 1 hk (by decide), q2, pk_mul, f1 141 (by decide) (by decide), h141]
    refine s_paid hB1 hR1 b d m (B.2.2.2 k 6) (2 * B.2.2.2 k 1) dark rfl ht rfl e3 e4 rfl rfl e5 hb hd hm (by omega) (by omega) _ (fun h2 f2 => ?_)
    have b1 : chargeB B rs (if dark then 0 else altB B b d m) (B.2.2.2 k 6) (2 * B.2.2.2 k 1) d m ≤ 9999 := payR_b _ _
    have b2 : chargeB B rs (if dark then 0 else altB B b d m) (stB B k) (B.2.2.2 k 1) d m ≤ 9999 := payR_b _ _
    have e9 : (if nI (chargeB B rs (if dark then 0 else altB B b d m) (stB B k) (B.2.2.2 k 1) d m) ≤ nI (chargeB B rs (if dark then 0 else altB B b d m) (B.2.2.2 k 6) (2 * B.2.2.2 k 1) d m) then nI (chargeB B rs (if dark then 0 else altB B b d m) (stB B k) (B.2.2.2 k 1) d m) else nI (chargeB B rs (if dark then 0 else altB B b d m) (B.2.2.2 k 6) (2 * B.2.2.2 k 1) d m)) = nI (fareB B rs b k d m dark) := by
      rw [e]
      by_cases cl : chargeB B rs (if dark then 0 else altB B b d m) (B.2.2.2 k 6) (2 * B.2.2.2 k 1) d m < chargeB B rs (if dark then 0 else altB B b d m) (stB B k) (B.2.2.2 k 1) d m
      · rw [if_pos cl, if_neg (fun z => by have := (nI_leI (by omega) (by omega)).mp z; omega)]
      · rw [if_neg cl, if_pos ((nI_leI (by omega) (by omega)).mpr (by omega))]
    rw [e9]
    exact hQ h2 (mfr.tr f1 f2)
