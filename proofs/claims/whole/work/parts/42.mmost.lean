/-! the model: the plan whole, and the most -/
def mF (h h' : Hp) : Prop := (∀ q, q ≠ 139 → q ≠ 140 → q ≠ 92 → (q < 220 ∨ 1425 < q) → h' q = h q) ∧ (∀ i, (i < 42 ∨ 46 < i) → h' 92 i = h 92 i)
theorem mF.tr {h h1 h2 : Hp} (a : mF h h1) (b : mF h1 h2) : mF h h2 := ⟨fun q h1 h2 h3 h4 => (b.1 q h1 h2 h3 h4).trans (a.1 q h1 h2 h3 h4), fun i h1 => (b.2 i h1).trans (a.2 i h1)⟩
theorem mF.MB {h h' : Hp} {B : Br} (a : mF h h') (c : MB h B) : MB h' B := c.same (a.1 95 (by decide) (by decide) (by decide) (by decide)) (a.1 97 (by decide) (by decide) (by decide) (by decide)) (a.1 99 (by decide) (by decide) (by decide) (by decide)) (fun k hk => a.1 _ (by omega) (by omega) (by omega) (by omega))
theorem mF.MR {h h' : Hp} {t : Nat} {rs : List Row} (a : mF h h') (c : MR h t rs) : MR h' t rs := c.same ⟨a.2 48 (by decide), a.2 49 (by decide), a.2 18 (by decide)⟩ (fun q h1 h2 => a.1 q (by omega) (by omega) (by omega) (by omega))
theorem mF.MT2 {h h' : Hp} {B : Br} {R0 R1 : List Row} {both : Bool} (a : mF h h') (c : MT2 h B R0 R1 both) : MT2 h' B R0 R1 both := by
  obtain ⟨t0, t1, a1, a2, a3, a4, a5, a6⟩ := c
  have e : h' 141 = h 141 := a.1 141 (by decide) (by decide) (by decide) (by decide)
  exact ⟨t0, t1, a1, a2, by rw [e]; exact a3, by rw [e]; exact a4, mF.MR a a5, fun z => mF.MR a (a6 z)⟩
theorem lfrM.mF {h h' : Hp} (a : lfrM h h') : mF h h' := ⟨fun q h1 h2 h3 h4 => a.1 q h1 h2 h3 (by omega), fun i h1 => a.2 i (by omega) (by omega)⟩
theorem f63.mF {h h' : Hp} (a : f63 h h') : mF h h' := ⟨fun q _ _ _ h4 => a q (by omega), fun i _ => by rw [a 92 (by decide)]⟩
theorem e_everybodyM {h : Hp} {B : Br} (hB : MB h B) (Q : Int32 → Prop) : w_X9_everybody h Q = Q (nI (2 ^ B.1 0 - 1)) := by
  have w0 := hB.2.2.2.2.1
  unfold w_X9_everybody
  rw [v_0_11, true_and, cl0, hB.1 0 (by decide), all_bits _ (by omega)]
theorem all_lt {n : Nat} (h : n ≤ 8) : 2 ^ n - 1 < 256 := by
  have h1 : 2 ^ n ≤ 2 ^ 8 := Nat.pow_le_pow_right (by decide) h
  have h2 : 0 < 2 ^ n := Nat.two_pow_pos n
  omega
theorem all_tb (n i : Nat) : (2 ^ n - 1).testBit i = decide (i < n) := Nat.testBit_two_pow_sub_one n i
theorem dayP_pos (B : Br) (R0 R1 : List Row) (bits d : Nat) (both : Bool) (pen : Int) : posP (dayP B R0 R1 bits d both pen) := fun s k _ _ _ => ⟨Int.natCast_nonneg _, Int.natCast_nonneg _⟩
def MPR (B : Br) (P : Pz) (h : Hp) : Prop := (∀ s, s < pA P → h 1424 s = hasv (hold B P s)) ∧ h 1425 0 = zI (ern B P 0 (pA P)) ∧ h 1425 1 = zI (ern B P 1 (pA P)) ∧ h 92 44 = nI (onesN 8 (andn (pB P) (pth B P (pA P)).1)) ∧ h 92 45 = zI (tcs B P (pA P)) ∧ h 92 46 = nI (jmm B P (pA P)) ∧ h 92 42 = nI (pE P) ∧ h 92 43 = nI (pA P)
theorem MS_of {h : Hp} {B : Br} {R0 R1 : List Row} {bits d : Nat} {both : Bool} {pen : Int} (hB : MB h B) (h42 : h 92 42 = nI (slN B)) (h43 : h 92 43 = nI (pA (dayP B R0 R1 bits d both pen))) (hN : ∀ s, s < pA (dayP B R0 R1 bits d both pen) → MN B h (dayP B R0 R1 bits d both pen) s) (hb : ∀ k, bits.testBit k = true → k < B.1 0) : MS h B (dayP B R0 R1 bits d both pen) :=
  ⟨hB, rfl, h42, h43, hN, hb, fun s k _ => (dayP_eq (B := B) (R0 := R0) (R1 := R1) (bits := bits) (d := d) (both := both) (pen := pen) s k).2.2.2⟩
theorem s_findPlan {h : Hp} {B : Br} (hB : MB h B) {R0 R1 : List Row} {p1 p2 p3 : Int32} (bits d : Nat) (both : Bool) (hR : MT2 h B R0 R1 both) (e1 : p1 = nI bits) (e2 : p2 = nI d) (e3 : p3 = 0 ↔ both = false) (hb : ∀ k, bits.testBit k = true → k < B.1 0) (hb8 : bits < 256) (hd : d < 30)
    (Q : Hp → Prop) (hQ : ∀ h', mF h h' → MPR B (dayP B R0 R1 bits d both 1000000) h' → Q h') : w_X9_findPlan p1 p2 p3 h Q := by
  have okk := dayP_ok hB.2.2.2.2 R0 R1 hb8 d both (pen := 1000000) (by decide) (by decide)
  have hpos := dayP_pos B R0 R1 bits d both 1000000
  have hal := okk.al
  unfold w_X9_findPlan
  refine s_layCoins hB (R0 := R0) (R1 := R1) bits d both (pen := 1000000) hR e2 e3 hd _ (fun h1 f1 h42 h43 hN => ?_)
  have hB1 := lfrM.MB f1 hB
  have hS1 : MS h1 B (dayP B R0 R1 bits d both 1000000) := MS_of hB1 h42 h43 hN hb
  have hmay := dayP_may B R0 R1 bits d both 1000000
  have hval := plan_val (B := B) okk hpos
  have hwp : wp (dayP B R0 R1 bits d both 1000000) 1000000 = dayP B R0 R1 bits d both 1000000 := rfl
  rw [hwp] at hval
  have hpen : pP (dayP B R0 R1 bits d both 1000000) = 1000000 := rfl
  have hbt : pB (dayP B R0 R1 bits d both 1000000) = bits := rfl
  generalize dayP B R0 R1 bits d both 1000000 = P at *
  refine s_layLeast hS1 okk hpen (by rw [e1, hbt]) _ (fun h2 f2 hT => ?_)
  have hS2 := f63.MS f2 hal hS1
  have hT0 := hT 0 (Nat.zero_le _) 0 (by decide) (fun k _ hk => by rw [Nat.zero_testBit] at hk; exact Bool.noConfusion hk) 8 (by decide) (Or.inl rfl)
  have hT0' : h2 1363 8 = zI (DI B P (pA P) 0 8) := hT0
  refine ⟨vl 0 61 (by decide) (by decide), vl 8 2304 (by decide) (by decide), ?_⟩
  simp only [cl0, cl8, wlet_e, v_0_61, v_8_2304, v_0_2, v_1_2, true_and, cl1, Nat.mul_zero, Nat.add_zero]
  rw [hup_ne (show (1363 : Nat) ≠ 92 by decide), hT0', hval.2.2]
  have hL := onesN_le 8 (andn (pB P) (pth B P (pA P)).1)
  obtain ⟨C, hC⟩ : ∃ C : Nat, tcs B P (pA P) = (C : Int) := ⟨(tcs B P (pA P)).toNat, by omega⟩
  have hCb : C ≤ 184400 := by omega
  generalize hLL : onesN 8 (andn (pB P) (pth B P (pA P)).1) = L at hL
  have hX : (1000000 : Int) * (L : Int) + (C : Int) = ((1000000 * L + C : Nat) : Int) := by omega
  have ez : (1000000 : Int32) = nI 1000000 := rfl
  rw [hC, hX, zI_n, ez, pk_div (by omega) (by decide) (by decide), show (1000000 * L + C) / 1000000 = L by omega, pk_mul, pk_sub (by omega), show 1000000 * L + C - L * 1000000 = C by omega]
  generalize hg : hup (hup (hup (hup (hup h2 92 44 (nI L)) 92 45 (nI C)) 92 46 0) 1425 0 0) 1425 1 0 = g
  have g92 : ∀ i, i ≠ 44 → i ≠ 45 → i ≠ 46 → g 92 i = h2 92 i := fun i a b c => by
    rw [← hg, hup_ne (by decide), hup_ne (by decide), hup_o (Or.inr c), hup_o (Or.inr b), hup_o (Or.inr a)]
  have go : ∀ q, q ≠ 92 → q ≠ 1425 → g q = h2 q := fun q a b => by
    rw [← hg, hup_ne b, hup_ne b, hup_ne a, hup_ne a, hup_ne a]
  have hSg : MS g B P := hS2.same (fun q a b => go q b (by omega)) (g92 42 (by decide) (by decide) (by decide)) (g92 43 (by decide) (by decide) (by decide)) hal
  have hTg : ∀ s, s ≤ pA P → TM B P g s := fun s hs g' hg' hs' l hl hgl => by
    rw [go (1363 + s) (by omega) (by omega)]
    exact hT s hs g' hg' hs' l hl hgl
  refine s_seatM hSg okk hmay hTg (by rw [e1, hbt]) ?_ ?_ ?_ Q (fun h3 hSF => ?_)
  · rw [← hg, hup_o (Or.inr (by decide)), hup_eq]
  · rw [← hg, hup_eq]
  · rw [← hg, hup_ne (by decide), hup_ne (by decide), hup_eq]
  · obtain ⟨a1, a2, a3, a5, a6, a8⟩ := hSF
    refine hQ h3 ⟨fun q b1 b2 b3 b4 => ?_, fun i hi => ?_⟩ ⟨a3, a5, a6, ?_, ?_, a8, ?_, ?_⟩
    · rw [a1 q b3 (by omega) (by omega), go q b3 (by omega), f2 q (by omega), f1.1 q b1 b2 b3 (by omega)]
    · rw [a2 i (by omega), g92 i (by omega) (by omega) (by omega), f2 92 (by decide), f1.2 i (by omega) (by omega)]
    · rw [a2 44 (by decide), hLL, ← hg, hup_ne (by decide), hup_ne (by decide), hup_o (Or.inr (by decide)), hup_o (Or.inr (by decide)), hup_eq]
    · rw [a2 45 (by decide), hC, zI_n, ← hg, hup_ne (by decide), hup_ne (by decide), hup_o (Or.inr (by decide)), hup_eq]
    · rw [a2 42 (by decide)]
      exact hSg.2.2.1
    · rw [a2 43 (by decide)]
      exact hSg.2.2.2.1
theorem mnk_s (c : Nat → Bool) (v : Nat → Int) (b : Int) (n : Nat) : mnk c v b (n + 1) = if c n = true ∧ v n < mnk c v b n then v n else mnk c v b n := rfl
/-- the most -/
theorem s_mostOfM {h : Hp} {B : Br} (hB : MB h B) {R0 : List Row} {p1 : Int32} (d : Nat) (hR : MT2 h B R0 [] false) (e1 : p1 = nI d) (hd : d < 30)
    (Q : Int32 → Hp → Prop) (hQ : ∀ h', mF h h' → Q (zI (-(DI B (negP (dayP B R0 [] (2 ^ B.1 0 - 1) d false 0)) (slN B) 0 8))) h') : w_X9_mostOf p1 h Q := by
  have hw0 := hB.2.2.2.2.1
  have hb8 := all_lt hw0
  have okk := dayP_ok hB.2.2.2.2 R0 [] hb8 d false (pen := 0) (by decide) (by decide)
  have hal := okk.al
  have okn := negP_ok okk
  have hbt : ∀ k, (2 ^ B.1 0 - 1).testBit k = true → k < B.1 0 := fun k hk => by
    rw [all_tb] at hk
    exact of_decide_eq_true hk
  unfold w_X9_mostOf
  refine s_layCoins hB (R0 := R0) (R1 := []) (2 ^ B.1 0 - 1) d false (pen := 0) hR e1 (by decide) hd _ (fun h1 f1 h42 h43 hN => ?_)
  have hB1 := lfrM.MB f1 hB
  have hS1 : MS h1 B (dayP B R0 [] (2 ^ B.1 0 - 1) d false 0) := MS_of hB1 h42 h43 hN hbt
  have hPA : pA (dayP B R0 [] (2 ^ B.1 0 - 1) d false 0) = slN B := rfl
  have hPE : pE (dayP B R0 [] (2 ^ B.1 0 - 1) d false 0) = slN B := rfl
  have hPB : pB (dayP B R0 [] (2 ^ B.1 0 - 1) d false 0) = 2 ^ B.1 0 - 1 := rfl
  rw [← hPA] at hQ
  have hEA : pE (dayP B R0 [] (2 ^ B.1 0 - 1) d false 0) = pA (dayP B R0 [] (2 ^ B.1 0 - 1) d false 0) := rfl
  generalize dayP B R0 [] (2 ^ B.1 0 - 1) d false 0 = P at *
  have hPA' : pA (negP P) = pA P := rfl
  unfold w_X9_mostOf_b8
  refine wl_run 2304 (fun x (st : Int32 × Hp) => st.1 = nI x ∧ f63 h1 st.2 ∧ (∀ y, y < x → st.2 (1363 + pA P) y = 0)) ?_ (Nat.zero_le _) ⟨rfl, fun _ _ => rfl, fun y hy => absurd hy (by omega)⟩
  rintro x ⟨v2, h2⟩ K hx ⟨e2, hf, ht⟩ hK
  simp only at e2 hf ht
  subst e2
  show w_X9_mostOf_l8 p1 Q K (nI x) h2
  unfold w_X9_mostOf_l8
  have hS2 := f63.MS hf hal hS1
  rw [hS2.2.2.2.1]
  refine ⟨fun z => ?_, fun z => ?_⟩
  rotate_left
  · have hx2 : x < 2304 := Nat.lt_of_not_le fun q => z (by rw [q2304]; exact (nI_leI (by omega) (by omega)).mpr q)
    refine ⟨vp_in_nI (by omega) (by decide), vp_in_nI (by omega) (by decide), ?_⟩
    rw [wlet_e, nI_clamp (n := pA P) (by omega), nI_clamp (n := x) (by omega), Nat.one_mul, nI_1]
    refine hK hx2 _ ⟨rfl, fun q hq => (hup_ne (by omega)).trans (hf q hq), fun y hy => ?_⟩
    show hup h2 (1363 + pA P) x 0 (1363 + pA P) y = 0
    by_cases e : y = x
    · rw [e]
      exact hup_eq _ _ _ _
    · rw [hup_o (Or.inr e)]
      exact ht y (by omega)
  have hx2 : x = 2304 := by
    rw [q2304] at z
    have := (nI_leI (by omega) (by omega)).mp z
    omega
  subst hx2
  rw [wlet_e, q1, nI_subZ]
  unfold w_X9_mostOf_b40
  refine wl_run (pA P) (fun t (st : Int32 × Hp) => st.1 = zI ((pA P : Int) - (1 : Nat) - t) ∧ f63 h1 st.2 ∧ (∀ s, pA P - t ≤ s → s ≤ pA P → ∀ g l, g < 256 → l ≤ 8 → goodL B l → st.2 (1363 + s) (9 * g + l) = zI (-(DI B (negP P) (pA P - s) g l)))) ?_ (Nat.zero_le _) ?_
  rotate_left
  · refine ⟨by show zI _ = zI _; congr 1; omega, hf, fun s a1 a2 g l hg hl hgl => ?_⟩
    have : s = pA P := by omega
    subst this
    rw [Nat.sub_self]
    show h2 (1363 + pA P) (9 * g + l) = zI (-((0 : Int) * _))
    rw [ht _ (by omega), Int.zero_mul]
    rfl
  rintro t ⟨v2, h3⟩ K2 ht2 ⟨e2, hf3, hT3⟩ hK2
  simp only at e2 hf3 hT3
  subst e2
  show w_X9_mostOf_l40 p1 Q K2 (zI ((pA P : Int) - (1 : Nat) - t)) h3
  unfold w_X9_mostOf_l40
  refine ⟨fun z => ?_, fun z => ?_⟩
  · have e : t = pA P := by
      rw [← zI_0] at z
      have := (zI_lt (by omega) (by omega)).mp z
      omega
    subst e
    refine ⟨vl 0 61 (by decide) (by decide), vl 8 2304 (by decide) (by decide), ?_⟩
    have h9 := hT3 0 (by omega) (Nat.zero_le _) 0 8 (by decide) (by decide) (Or.inl rfl)
    have h10 : h3 (1363 + 1 * Int32.toNatClampNeg 0) (Int32.toNatClampNeg 8) = zI (-(DI B (negP P) (pA P) 0 8)) := h9
    rw [h10]
    exact hQ h3 (mF.tr (lfrM.mF f1) (f63.mF hf3))
  have ht3 : t < pA P := by
    refine Nat.lt_of_not_le fun q => z ?_
    rw [← zI_0]
    exact (zI_lt (by omega) (by omega)).mpr (by omega)
  obtain ⟨s, hs, hst⟩ : ∃ s, s < pA P ∧ s = pA P - 1 - t := ⟨pA P - 1 - t, by omega, rfl⟩
  rw [show zI ((pA P : Int) - (1 : Nat) - t) = nI s from zI_nat (by omega)]
  have elA : ∀ l, lastA (negP P) s l = l := fun l => by
    unfold lastA
    rw [if_neg]
    show s ≠ pE P
    omega
  unfold w_X9_mostOf_b46
  refine wl_run 2304 (fun x (st : Int32 × Hp) => st.1 = nI x ∧ f63 h1 st.2 ∧ (∀ s', s < s' → s' ≤ pA P → ∀ g l, g < 256 → l ≤ 8 → goodL B l → st.2 (1363 + s') (9 * g + l) = zI (-(DI B (negP P) (pA P - s') g l))) ∧ (∀ g l, 9 * g + l < x → l ≤ 8 → goodL B l → st.2 (1363 + s) (9 * g + l) = zI (-(DI B (negP P) (pA P - s) g l)))) ?_ (Nat.zero_le _) ⟨rfl, hf3, fun s' a b => hT3 s' (by omega) b, fun g l h9 => absurd h9 (by omega)⟩
  rintro x ⟨v3, h4⟩ K3 hx3 ⟨e3, hf4, hT4, hX4⟩ hK3
  simp only at e3 hf4 hT4 hX4
  subst e3
  show w_X9_mostOf_l46 p1 (nI s) K2 Q K3 (nI x) h4
  unfold w_X9_mostOf_l46
  refine ⟨fun z => ?_, fun z => ?_⟩
  · have e : x = 2304 := by
      rw [q2304] at z
      have := (nI_leI (by omega) (by omega)).mp z
      omega
    subst e
    refine hK2 ht3 _ ⟨?_, hf4, fun s' a b g l hg hl hgl => ?_⟩
    · show nI s + -1 = _
      rw [← zI_n, show (-1 : Int32) = zI (-1) from rfl, zI_add]
      congr 1
      omega
    · by_cases e : s' = s
      · rw [e]
        exact hX4 g l (by omega) hl hgl
      · exact hT4 s' (by omega) b g l hg hl hgl
  have hx2 : x < 2304 := Nat.lt_of_not_le fun q => z (by rw [q2304]; exact (nI_leI (by omega) (by omega)).mpr q)
  obtain ⟨g, l, hg, hl, hxg⟩ : ∃ g l, g < 256 ∧ l ≤ 8 ∧ x = 9 * g + l := ⟨x / 9, x % 9, by omega, by omega, by omega⟩
  have eg : nI x / 9 = nI g := by
    rw [q9, pk_div (by omega) (by decide) (by decide)]
    congr 1
    omega
  have el : nI x - nI g * 9 = nI l := by
    rw [q9, pk_mul, pk_sub (by omega)]
    congr 1
    omega
  rw [eg, wlet_e, el, wlet_e, nI_1 s, show (9 : Int32) * nI g + 8 = nI (9 * g + 8) by rw [q9, pk_mul, q8, nI_add]]
  refine ⟨vp_in_nI (by omega) (by decide), vp_in_nI (by omega) (by decide), ?_⟩
  have hS4 := f63.MS hf4 hal hS1
  rw [wlet_e, nI_clamp (n := s + 1) (by omega), nI_clamp (n := 9 * g + 8) (by omega), Nat.one_mul, hT4 (s + 1) (by omega) (by omega) g 8 hg (by decide) (Or.inl rfl)]
  unfold w_X9_mostOf_b87
  refine wl_run (B.1 0) (fun t (st : Int32 × Int32) => st.2 = nI t ∧ (goodL B l → st.1 = zI (-(mnk (canB (negP P) s g) (fun k => costB B (negP P) s k l + DI B (negP P) (pA P - (s + 1)) (g ||| 2 ^ k) k) (DI B (negP P) (pA P - (s + 1)) g 8) t)))) ?_ (Nat.zero_le _) ⟨rfl, fun _ => rfl⟩
  rintro t ⟨v6, v7⟩ K4 ht4 ⟨e7, e6⟩ hK4
  simp only at e6 e7
  subst e7
  show w_X9_mostOf_l87 p1 (nI s) (nI x) (nI g) (nI l) K2 K3 h4 Q K4 v6 (nI t)
  unfold w_X9_mostOf_l87 w_X9_mostOf_b176
  refine ⟨vl 0 11 (by decide) (by decide), ?_⟩
  rw [cl0, hS4.1.1 0 (by decide)]
  have ve : mnk (canB (negP P) s g) (fun k => costB B (negP P) s k l + DI B (negP P) (pA P - (s + 1)) (g ||| 2 ^ k) k) (DI B (negP P) (pA P - (s + 1)) g 8) 8 = mnk (canB (negP P) s g) (fun k => costB B (negP P) s k l + DI B (negP P) (pA P - (s + 1)) (g ||| 2 ^ k) k) (DI B (negP P) (pA P - (s + 1)) g 8) (B.1 0) := by
    refine mnk_ext 8 hw0 (fun k h1 h2 => ?_)
    cases hc : canB (negP P) s g k with
    | false => rfl
    | true =>
      have := hS4.2.2.2.2.2.1 k (can_tb hS4 hs (hc : canB P s g k = true)).1
      omega
  refine ⟨fun z => ?_, fun z => ?_⟩
  · have e : t = B.1 0 := by
      have := (nI_leI (by omega) (by omega)).mp z
      omega
    subst e
    refine ⟨vp_in_nI (by omega) (by decide), vp_in_nI (by omega) (by decide), ?_⟩
    rw [wlet_e, nI_clamp (n := s) (by omega), nI_clamp (n := x) (by omega), Nat.one_mul, nI_1]
    refine hK3 hx2 _ ⟨rfl, fun q hq => (hup_ne (by omega)).trans (hf4 q hq), fun s' a b g' l' hg' hl' hgl' => ?_, fun g' l' hx' hl' hgl' => ?_⟩
    · show hup h4 (1363 + s) x v6 (1363 + s') (9 * g' + l') = _
      rw [hup_o (Or.inl (by omega))]
      exact hT4 s' a b g' l' hg' hl' hgl'
    · show hup h4 (1363 + s) x v6 (1363 + s) (9 * g' + l') = _
      by_cases e : 9 * g' + l' = x
      · have e1 : g' = g := by omega
        have e2 : l' = l := by omega
        rw [e, hup_eq, e1, e2]
        rw [e2] at hgl'
        rw [e6 hgl', ← ve, ← hPA', DI_succ (P := negP P) (s := s) hs, elA]
      · rw [hup_o (Or.inr e)]
        exact hX4 g' l' (by omega) hl' hgl'
  have htn : t < B.1 0 := Nat.lt_of_not_le fun q => z ((nI_leI (by omega) (by omega)).mpr q)
  have hK5 := hK4 htn
  rw [e_everybodyM hS4.1, e_canHave hS4 okk.1 s g t rfl (by rw [hPB]) rfl rfl hs (by omega) hg htn, nI_1 s, nI_1 t]
  cases hc : canB P s g t with
  | false =>
    rw [if_neg (show ¬ false = true by decide)]
    refine wif_n (fun q => q rfl) (hK5 _ ⟨rfl, fun hgl => ?_⟩)
    have hcn : ¬ canB (negP P) s g t = true := fun q => by
      have q2 : canB P s g t = true := q
      rw [hc] at q2
      exact Bool.noConfusion q2
    show v6 = zI (-(mnk _ _ _ (t + 1)))
    rw [mnk_s, if_neg (fun q => hcn q.1)]
    exact e6 hgl
  | true =>
    obtain ⟨hbk, hgk, hmay⟩ := can_tb hS4 hs hc
    obtain ⟨_, hco⟩ := hS4.2.2.2.2.1 s hs t htn
    obtain ⟨c0, c1, _, _⟩ := hco hmay
    have hog := or_lt (k := t) hg (by omega)
    have hT1 := hT4 (s + 1) (by omega) (by omega) (g ||| 2 ^ t) t hog (by omega) (Or.inr htn)
    rw [if_pos rfl]
    refine wif_p i10 ⟨vp_in_nI (by omega) (by decide), vp_in_nI (by omega) (by decide), ?_⟩
    refine s_isDark hS4.1 t l rfl rfl htn hl _ (fun zz hz2 hzg => ?_)
    rw [or_bit g (by omega), show (9 : Int32) * nI (g ||| 2 ^ t) + nI t = nI (9 * (g ||| 2 ^ t) + t) by rw [q9, pk_mul, nI_add]]
    refine ⟨vp_in_nI hz2 (by decide), vp_in_nI (by omega) (by decide), vp_in_nI (by omega) (by decide), ?_⟩
    rw [wlet_e, wlet_e, nI_clamp (n := s) (by omega), nI_clamp (n := t) (by omega), nI_clamp (n := zz) (by omega), nI_clamp (n := s + 1) (by omega), nI_clamp (n := 9 * (g ||| 2 ^ t) + t) (by omega), Nat.one_mul, Nat.one_mul, hT1]
    refine hK5 _ ⟨rfl, fun hgl => ?_⟩
    have e6v := e6 hgl
    have hz := hzg hgl
    have ecost : h4 (761 + 9 * s + 1 + t) zz = zI (-(costB B (negP P) s t l)) := by
      show _ = zI (-((if isD B t l = true then -pD P s t else -pC P s t) + 0))
      rw [hz]
      cases isD B t l with
      | true =>
        rw [if_pos rfl, if_pos rfl, Int.add_zero, Int.neg_neg]
        exact c1
      | false =>
        rw [if_neg (by decide), if_neg (by decide), Int.add_zero, Int.neg_neg]
        exact c0
    have hm : pM P s t = true := (canB_tb okk hs (by omega) hc).1
    have hcb := okn.2.2.2.2.2 s t hs (by omega) hm
    have hDb := DI_b2 (B := B) okn (pA P - (s + 1)) (g ||| 2 ^ t) t (by rw [hPA']; omega)
    have hcc : -10000 ≤ costB B (negP P) s t l ∧ costB B (negP P) s t l ≤ 24000 := by
      unfold costB
      split <;> omega
    have hmm : -1000000 ≤ mnk (canB (negP P) s g) (fun k => costB B (negP P) s k l + DI B (negP P) (pA P - (s + 1)) (g ||| 2 ^ k) k) (DI B (negP P) (pA P - (s + 1)) g 8) t ∧ mnk (canB (negP P) s g) (fun k => costB B (negP P) s k l + DI B (negP P) (pA P - (s + 1)) (g ||| 2 ^ k) k) (DI B (negP P) (pA P - (s + 1)) g 8) t ≤ 10000000 := by
      have h0 := DI_b2 (B := B) okn (pA P - (s + 1)) g 8 (by rw [hPA']; omega)
      obtain ⟨a1, a2, a3⟩ := mnk_min (canB (negP P) s g) (fun k => costB B (negP P) s k l + DI B (negP P) (pA P - (s + 1)) (g ||| 2 ^ k) k) (DI B (negP P) (pA P - (s + 1)) g 8) t
      rcases a3 with e | ⟨i, ⟨hi, hci⟩, e⟩
      · omega
      · have hmi : pM P s i = true := (canB_tb okk hs (by omega) (hci : canB P s g i = true)).1
        have hci2 := okn.2.2.2.2.2 s i hs (by omega) hmi
        have hDi := DI_b2 (B := B) okn (pA P - (s + 1)) (g ||| 2 ^ i) i (by rw [hPA']; omega)
        have hcc2 : -10000 ≤ costB B (negP P) s i l ∧ costB B (negP P) s i l ≤ 24000 := by
          unfold costB
          split <;> omega
        simp only at e
        omega
    have hcn : canB (negP P) s g t = true := hc
    show (if _ ≤ v6 then v6 else _) = zI (-(mnk _ _ _ (t + 1)))
    rw [mnk_s, e6v, ecost, zI_add]
    generalize mnk (canB (negP P) s g) (fun k => costB B (negP P) s k l + DI B (negP P) (pA P - (s + 1)) (g ||| 2 ^ k) k) (DI B (negP P) (pA P - (s + 1)) g 8) t = mm at hmm ⊢
    by_cases c : costB B (negP P) s t l + DI B (negP P) (pA P - (s + 1)) (g ||| 2 ^ t) t < mm
    · rw [if_neg (fun q => by have := (zI_le (by omega) (by omega)).mp q; omega), if_pos ⟨hcn, c⟩]
      exact congrArg zI (by omega)
    · rw [if_pos ((zI_le (by omega) (by omega)).mpr (by omega)), if_neg (fun q => c q.2)]
