/-! the model: literals; tests and small methods -/
theorem vl (n N : Nat) (h : n < N) (hN : N < 2 ^ 31) : vp_in (nI n) N := vp_in_nI h hN
theorem v_0_11 : vp_in 0 11 = True := propext ⟨fun _ => trivial, fun _ => vl 0 11 (by decide) (by decide)⟩
theorem v_1_11 : vp_in 1 11 = True := propext ⟨fun _ => trivial, fun _ => vl 1 11 (by decide) (by decide)⟩
theorem v_2_11 : vp_in 2 11 = True := propext ⟨fun _ => trivial, fun _ => vl 2 11 (by decide) (by decide)⟩
theorem v_3_11 : vp_in 3 11 = True := propext ⟨fun _ => trivial, fun _ => vl 3 11 (by decide) (by decide)⟩
theorem v_4_11 : vp_in 4 11 = True := propext ⟨fun _ => trivial, fun _ => vl 4 11 (by decide) (by decide)⟩
theorem v_5_11 : vp_in 5 11 = True := propext ⟨fun _ => trivial, fun _ => vl 5 11 (by decide) (by decide)⟩
theorem v_6_11 : vp_in 6 11 = True := propext ⟨fun _ => trivial, fun _ => vl 6 11 (by decide) (by decide)⟩
theorem v_7_11 : vp_in 7 11 = True := propext ⟨fun _ => trivial, fun _ => vl 7 11 (by decide) (by decide)⟩
theorem v_8_11 : vp_in 8 11 = True := propext ⟨fun _ => trivial, fun _ => vl 8 11 (by decide) (by decide)⟩
theorem v_9_11 : vp_in 9 11 = True := propext ⟨fun _ => trivial, fun _ => vl 9 11 (by decide) (by decide)⟩
theorem v_10_11 : vp_in 10 11 = True := propext ⟨fun _ => trivial, fun _ => vl 10 11 (by decide) (by decide)⟩
theorem v_0_7 : vp_in 0 7 = True := propext ⟨fun _ => trivial, fun _ => vl 0 7 (by decide) (by decide)⟩
theorem v_1_7 : vp_in 1 7 = True := propext ⟨fun _ => trivial, fun _ => vl 1 7 (by decide) (by decide)⟩
theorem v_2_7 : vp_in 2 7 = True := propext ⟨fun _ => trivial, fun _ => vl 2 7 (by decide) (by decide)⟩
theorem v_3_7 : vp_in 3 7 = True := propext ⟨fun _ => trivial, fun _ => vl 3 7 (by decide) (by decide)⟩
theorem v_4_7 : vp_in 4 7 = True := propext ⟨fun _ => trivial, fun _ => vl 4 7 (by decide) (by decide)⟩
theorem v_5_7 : vp_in 5 7 = True := propext ⟨fun _ => trivial, fun _ => vl 5 7 (by decide) (by decide)⟩
theorem v_6_7 : vp_in 6 7 = True := propext ⟨fun _ => trivial, fun _ => vl 6 7 (by decide) (by decide)⟩
theorem v_0_2 : vp_in 0 2 = True := propext ⟨fun _ => trivial, fun _ => vl 0 2 (by decide) (by decide)⟩
theorem v_1_2 : vp_in 1 2 = True := propext ⟨fun _ => trivial, fun _ => vl 1 2 (by decide) (by decide)⟩
theorem v_0_8 : vp_in 0 8 = True := propext ⟨fun _ => trivial, fun _ => vl 0 8 (by decide) (by decide)⟩
theorem v_0_61 : vp_in 0 61 = True := propext ⟨fun _ => trivial, fun _ => vl 0 61 (by decide) (by decide)⟩
theorem v_8_2304 : vp_in 8 2304 = True := propext ⟨fun _ => trivial, fun _ => vl 8 2304 (by decide) (by decide)⟩
theorem v_0_800 : vp_in 0 800 = True := propext ⟨fun _ => trivial, fun _ => vl 0 800 (by decide) (by decide)⟩
theorem v_0_6 : vp_in 0 6 = True := propext ⟨fun _ => trivial, fun _ => vl 0 6 (by decide) (by decide)⟩
theorem v_1_6 : vp_in 1 6 = True := propext ⟨fun _ => trivial, fun _ => vl 1 6 (by decide) (by decide)⟩
theorem v_2_6 : vp_in 2 6 = True := propext ⟨fun _ => trivial, fun _ => vl 2 6 (by decide) (by decide)⟩
theorem v_3_6 : vp_in 3 6 = True := propext ⟨fun _ => trivial, fun _ => vl 3 6 (by decide) (by decide)⟩
theorem v_4_6 : vp_in 4 6 = True := propext ⟨fun _ => trivial, fun _ => vl 4 6 (by decide) (by decide)⟩
theorem v_5_6 : vp_in 5 6 = True := propext ⟨fun _ => trivial, fun _ => vl 5 6 (by decide) (by decide)⟩
theorem cl0 : Int32.toNatClampNeg 0 = 0 := by decide
theorem cl1 : Int32.toNatClampNeg 1 = 1 := by decide
theorem cl2 : Int32.toNatClampNeg 2 = 2 := by decide
theorem cl3 : Int32.toNatClampNeg 3 = 3 := by decide
theorem cl4 : Int32.toNatClampNeg 4 = 4 := by decide
theorem cl5 : Int32.toNatClampNeg 5 = 5 := by decide
theorem cl6 : Int32.toNatClampNeg 6 = 6 := by decide
theorem cl7 : Int32.toNatClampNeg 7 = 7 := by decide
theorem cl8 : Int32.toNatClampNeg 8 = 8 := by decide
theorem cl9 : Int32.toNatClampNeg 9 = 9 := by decide
theorem cl10 : Int32.toNatClampNeg 10 = 10 := by decide

def MB (h : Hp) (B : Br) : Prop := (∀ i, i < 11 → h 95 i = nI (B.1 i)) ∧ (∀ d, d < 30 → h 97 d = if B.2.1 d = 0 then -1 else nI (B.2.1 d)) ∧ (∀ d, d < 30 → h 99 d = nI (B.2.2.1 d)) ∧ (∀ k i, k < B.1 0 → i < 7 → h (110 + k) i = nI (B.2.2.2 k i)) ∧ WB B
theorem MB.same {h h' : Hp} {B : Br} (c : MB h B) (e95 : h' 95 = h 95) (e97 : h' 97 = h 97) (e99 : h' 99 = h 99) (ew : ∀ k, k < 8 → h' (110 + k) = h (110 + k)) : MB h' B := by
  obtain ⟨a1, a2, a3, a4, a5⟩ := c
  refine ⟨by rw [e95]; exact a1, by rw [e97]; exact a2, by rw [e99]; exact a3, fun k i hk hi => ?_, a5⟩
  rw [ew k (by have := a5.1; omega)]
  exact a4 k i hk hi
theorem e_in {p0 p1 p2 : Int32} {h : Hp} (Q : Int32 → Prop) : w_X9_in p0 p1 p2 h Q = Q (if p1 ≤ p0 ∧ p0 ≤ p2 then 1 else 0) := by
  unfold w_X9_in
  congr 1
  by_cases c1 : p0 < p1
  · rw [if_pos c1, if_neg (fun z => by have h1 := Int32.le_iff_toInt_le.mp z.1; have h2 := Int32.lt_iff_toInt_lt.mp c1; omega), b01]
  · rw [if_neg c1]
    have h1 : ¬ p0.toInt < p1.toInt := fun z => c1 (Int32.lt_iff_toInt_lt.mpr z)
    by_cases c2 : p2 < p0
    · rw [if_pos c2, if_neg (fun z => by have h1 := Int32.le_iff_toInt_le.mp z.2; have h2 := Int32.lt_iff_toInt_lt.mp c2; omega), b01]
    · have h2 : ¬ p2.toInt < p0.toInt := fun z => c2 (Int32.lt_iff_toInt_lt.mpr z)
      rw [if_neg c2, if_pos ⟨Int32.le_iff_toInt_le.mpr (by omega), Int32.le_iff_toInt_le.mpr (by omega)⟩, b11]
theorem e_inN {a b c : Nat} (ha : a < 2 ^ 31) (hb : b < 2 ^ 31) (hc : c < 2 ^ 31) {h : Hp} (Q : Int32 → Prop) : w_X9_in (nI a) (nI b) (nI c) h Q = Q (if b ≤ a ∧ a ≤ c then 1 else 0) := by
  rw [e_in]
  congr 1
  by_cases c1 : b ≤ a ∧ a ≤ c
  · rw [if_pos c1, if_pos ⟨(nI_leI hb ha).mpr c1.1, (nI_leI ha hc).mpr c1.2⟩]
  · rw [if_neg c1, if_neg (fun z => c1 ⟨(nI_leI hb ha).mp z.1, (nI_leI ha hc).mp z.2⟩)]
theorem s_noon {h : Hp} {B : Br} (hB : MB h B) {p1 : Int32} (d : Nat) (h1 : p1 = nI d) (hd : d < 30) (Q : Int32 → Prop) (hQ : Q (nI (noonS B.2.1 d))) : w_X9_noon p1 h Q := by
  subst h1
  unfold w_X9_noon w_X9_noon_b6
  refine wl_run (d + 1) (fun t (st : Int32 × Int32) => st.2 = nI t ∧ st.1 = nI (if t = 0 then 2700 else noonS B.2.1 (t - 1))) ?_ (Nat.zero_le _) ⟨rfl, rfl⟩
  rintro t ⟨v2, v3⟩ K ht ⟨e3, e2⟩ hK
  simp only at e2 e3
  subst e2 e3
  show w_X9_noon_l6 (nI d) h Q K _ (nI t)
  unfold w_X9_noon_l6
  refine ⟨fun z => ?_, fun z => ?_⟩
  · have e : t = d + 1 := by
      have := (nI_ltI (by omega) (by omega)).mp z
      omega
    subst e
    rw [if_neg (by omega)]
    exact hQ
  have htd : t < d + 1 := by
    refine Nat.lt_of_not_le fun q => z ((nI_ltI (by omega) (by omega)).mpr (by omega))
  refine ⟨vp_in_nI (by omega) (by decide), ?_⟩
  have hs := hB.2.1 t (by omega)
  have hb := hB.2.2.2.2.2.2.2.2.2.2.2.2.2.2.1 t
  rw [nI_clamp (by omega), hs]
  unfold w_X9_noon_b31
  rw [nI_1]
  have en : noonS B.2.1 t = if B.2.1 t = 0 then (if t = 0 then 2700 else noonS B.2.1 (t - 1)) else B.2.1 t := by
    cases t with
    | zero => rfl
    | succ t => rfl
  by_cases c : B.2.1 t = 0
  · rw [if_pos c]
    refine wif_n (fun z => z rfl) (hK htd _ ⟨rfl, ?_⟩)
    show nI (if t = 0 then 2700 else noonS B.2.1 (t - 1)) = nI (if t + 1 = 0 then 2700 else noonS B.2.1 (t + 1 - 1))
    rw [if_neg (show ¬ t + 1 = 0 by omega), Nat.add_sub_cancel, en, if_pos c]
  · rw [if_neg c]
    have hm : nI (B.2.1 t) ≠ -1 := fun z => by
      have := congrArg Int32.toInt z
      rw [nI_toInt (by omega)] at this
      have h9 : (-1 : Int32).toInt = -1 := by decide
      omega
    refine wif_p hm ⟨vp_in_nI (by omega) (by decide), hK htd _ ⟨rfl, ?_⟩⟩
    show nI (B.2.1 t) = nI (if t + 1 = 0 then 2700 else noonS B.2.1 (t + 1 - 1))
    rw [if_neg (show ¬ t + 1 = 0 by omega), Nat.add_sub_cancel, en, if_neg c]
theorem e_amount {p0 : Int32} {h : Hp} (Q : Int32 → Prop) : w_X9_amount p0 h Q = Q (if 0 ≤ p0 then p0 else (0 - p0)) := rfl
theorem s_altitudeOf {h : Hp} {B : Br} (hB : MB h B) {p1 p2 p3 : Int32} (b d m : Nat) (h1 : p1 = nI b) (h2 : p2 = nI d) (h3 : p3 = nI m) (hb : b < 2) (hd : d < 30) (hm : m < 1440) (Q : Int32 → Prop) (hQ : Q (nI (altB B b d m))) : w_X9_altitudeOf p1 p2 p3 h Q := by
  have hB0 := hB
  obtain ⟨t1, _, _, _, hw⟩ := hB
  obtain ⟨_, w1, _, _, _, w6, _, _, w9, _, w11, _⟩ := hw
  have hn := noonS_b w11 d
  have f1 := t1 1 (by decide)
  have f6 := t1 6 (by decide)
  have f9 := t1 9 (by decide)
  subst h1 h2 h3
  unfold w_X9_altitudeOf
  refine s_noon hB0 d rfl hd _ ?_
  have main : ∀ e : Int32, e = nI (if b = 0 then 0 else B.1 9) → w_X9_altitudeOf_b32 (nI b) (nI d) (nI m) e (nI m - 720) (nI (B.1 1)) (nI (noonS B.2.1 d)) h Q := by
    intro e he
    subst he
    unfold w_X9_altitudeOf_b32
    rw [e_amount, q720]
    have hE : (if b = 0 then 0 else B.1 9) ≤ 60 := by
      split <;> omega
    have e0 : altB B b d m = (let x := noonS B.2.1 d - B.1 1 * ((m - (720 - (if b = 0 then 0 else B.1 9))) + ((720 - (if b = 0 then 0 else B.1 9)) - m)); if x = 0 then B.1 6 else x) := by
      unfold altB
      by_cases hb0 : b = 0
      · rw [if_pos hb0, if_pos hb0]
      · rw [if_neg hb0, if_neg hb0]
    rw [e0] at hQ
    simp only at hQ
    generalize (if b = 0 then 0 else B.1 9) = E at hE hQ ⊢
    have e2 : (if 0 ≤ nI m - nI 720 + nI E then nI m - nI 720 + nI E else 0 - (nI m - nI 720 + nI E)) = nI ((m - (720 - E)) + ((720 - E) - m)) := by
      rw [nI_subZ, ← zI_n E, zI_add, ← zI_0]
      by_cases hc : 720 - E ≤ m
      · rw [if_pos ((zI_le (by omega) (by omega)).mpr (by omega))]
        exact zI_nat (by omega)
      · rw [if_neg (fun z => hc (by have := (zI_le (by omega) (by omega)).mp z; omega)), zI_sub]
        exact zI_nat (by omega)
    rw [e2, pk_mul, nI_subZ, wlet_e]
    have hdist : (m - (720 - E)) + ((720 - E) - m) ≤ 1440 := by omega
    have hprod : B.1 1 * ((m - (720 - E)) + ((720 - E) - m)) ≤ 9 * 1440 := Nat.mul_le_mul w1.2 hdist
    generalize hD : B.1 1 * ((m - (720 - E)) + ((720 - E) - m)) = D at hprod hQ ⊢
    generalize noonS B.2.1 d = n9 at hn hQ ⊢
    rw [q1, ← zI_n 1]
    refine ⟨fun z => ?_, fun z => ?_⟩
    · have := (zI_le (by omega) (by omega)).mp z
      rw [if_neg (by omega)] at hQ
      rw [zI_nat (n := n9 - D) (by omega)]
      exact hQ
    · have : ¬ ((1 : Nat) : Int) ≤ (n9 : Int) - D := fun q => z ((zI_le (by omega) (by omega)).mpr q)
      rw [if_pos (by omega)] at hQ
      refine ⟨vl 6 11 (by decide) (by decide), ?_⟩
      rw [cl6, f6]
      exact hQ
  refine ⟨vl 1 11 (by decide) (by decide), ?_⟩
  rw [cl1, f1]
  refine ⟨fun z => main 0 ?_, fun z => ⟨vl 9 11 (by decide) (by decide), ?_⟩⟩
  · have : b = 0 := by
      have h9 : b ≠ 1 := fun e => z (by rw [e]; rfl)
      omega
    rw [if_pos this]
    rfl
  · have : b = 1 := (nI_eq (b := 1) (by omega) (by omega)).mp (Classical.not_not.mp z)
    refine main _ ?_
    rw [cl9, f9, if_neg (by omega)]
theorem s_shadowOfM {h : Hp} {B : Br} (hB : MB h B) {p1 p2 p3 p4 : Int32} (b d m hh : Nat) (h1 : p1 = nI b) (h2 : p2 = nI d) (h3 : p3 = nI m) (h4 : p4 = nI hh) (hb : b < 2) (hd : d < 30) (hm : m < 1440) (hhb : hh ≤ 999) (Q : Int32 → Prop) (hQ : Q (nI (shB hh (altB B b d m)))) : w_X9_shadowOf p1 p2 p3 p4 h Q := by
  have ha := altB_b hB.2.2.2.2 b d m
  unfold w_X9_shadowOf
  refine s_altitudeOf hB b d m h1 h2 h3 hb hd hm _ ?_
  generalize altB B b d m = a at ha hQ
  unfold shB at hQ
  subst h4
  by_cases hc : a = 0
  · subst hc
    rw [if_pos rfl] at hQ
    exact wif_n (fun z => z rfl) hQ
  · have h3 : hh * (5400 - a) ≤ 999 * 5400 := Nat.mul_le_mul hhb (by omega)
    have h4 : hh * (5400 - a) / a ≤ hh * (5400 - a) := Nat.div_le_self _ _
    have hne := nI_ne0 (n := a) (by omega) (by omega)
    refine wif_p hne ⟨hne, ?_⟩
    rw [if_neg hc] at hQ
    rw [wlet_e, q5400, pk_sub ha, pk_mul, pk_div (by omega) (by omega) (by omega), q9999]
    by_cases h1 : hh * (5400 - a) / a < 9999
    · rw [if_pos h1] at hQ
      rw [if_pos ((nI_leI (by omega) (by omega)).mpr (by omega))]
      exact hQ
    · rw [if_neg h1] at hQ
      by_cases h9 : hh * (5400 - a) / a ≤ 9999
      · rw [if_pos ((nI_leI (by omega) (by omega)).mpr h9), show hh * (5400 - a) / a = 9999 by omega]
        exact hQ
      · rw [if_neg (fun z => h9 ((nI_leI (by omega) (by omega)).mp z))]
        exact hQ
theorem e_canCome {h : Hp} {B : Br} (hB : MB h B) {p1 p2 : Int32} (k m : Nat) (h1 : p1 = nI k) (h2 : p2 = nI m) (hk : k < B.1 0) (hm : m < 2 ^ 30) (Q : Int32 → Prop) : w_X9_canCome p1 p2 h Q = Q (if (B.1 2 ≤ m ∧ m ≤ B.1 3) ∧ (B.2.2.2 k 2 ≤ m ∧ m ≤ B.2.2.2 k 3) then 1 else 0) := by
  obtain ⟨t1, _, _, wo, hw⟩ := hB
  have hwk := hw.who k
  have hw0 := hw.1
  have hw3 := hw.2.2.1
  subst h1 h2
  have vk : vp_in (nI k) 8 = True := propext ⟨fun _ => trivial, fun _ => vp_in_nI (by omega) (by decide)⟩
  unfold w_X9_canCome
  simp only [v_2_11, v_3_11, v_2_7, v_3_7, vk, true_and, cl2, cl3, Nat.one_mul]
  rw [t1 2 (by decide), t1 3 (by decide), e_inN (by omega) (by omega) (by omega), nI_clamp (by omega), wo k 2 hk (by decide), wo k 3 hk (by decide), e_inN (by omega) (by omega) (by omega)]
  by_cases c1 : B.1 2 ≤ m ∧ m ≤ B.1 3
  · rw [if_pos c1, wif_f i10]
    by_cases c2 : B.2.2.2 k 2 ≤ m ∧ m ≤ B.2.2.2 k 3
    · rw [if_pos c2, if_neg i10, if_pos ⟨c1, c2⟩, b11]
    · rw [if_neg c2, if_pos rfl, if_neg (fun z => c2 z.2), b01]
  · rw [if_neg c1, wif_t rfl, if_neg (fun z => c1 z.1), b01]
