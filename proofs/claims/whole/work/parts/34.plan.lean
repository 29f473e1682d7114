/-! the plan of a day, and the most, by the program -/
def dayP (B : Br) (R0 R1 : List Row) (bits d : Nat) (both : Bool) (pen : Int) : Pz :=
  (bits, slN B, if both = true then 2 * slN B else slN B,
    fun s k => bits.testBit k && decide (B.2.2.2 k 2 ≤ slM B (if slN B ≤ s then s - slN B else s) ∧ slM B (if slN B ≤ s then s - slN B else s) ≤ B.2.2.2 k 3),
    fun s k => ((fareB B (if slN B ≤ s then R1 else R0) (if slN B ≤ s then 1 else 0) k d (slM B (if slN B ≤ s then s - slN B else s)) false : Nat) : Int),
    fun s k => ((fareB B (if slN B ≤ s then R1 else R0) (if slN B ≤ s then 1 else 0) k d (slM B (if slN B ≤ s then s - slN B else s)) true : Nat) : Int),
    fun s k => ((extraB B (if slN B ≤ s then 1 else 0) k (slM B (if slN B ≤ s then s - slN B else s)) : Nat) : Int), pen)
theorem dayP_sl {B : Br} {R0 R1 : List Row} {bits d : Nat} {both : Bool} {pen : Int} (hw : WB B) {s : Nat} (hs : s < pA (dayP B R0 R1 bits d both pen)) : slM B (if slN B ≤ s then s - slN B else s) ≤ B.1 3 := by
  have h1 : s < 2 * slN B := by
    have h2 : pA (dayP B R0 R1 bits d both pen) = if both = true then 2 * slN B else slN B := rfl
    rw [h2] at hs
    split at hs <;> omega
  refine slM_b hw ?_
  split <;> omega
theorem dayP_ok {B : Br} (hw : WB B) (R0 R1 : List Row) {bits : Nat} (hb : bits < 256) (d : Nat) (both : Bool) {pen : Int} (h0 : 0 ≤ pen) (h1 : pen ≤ 2 ^ 20) : okP (dayP B R0 R1 bits d both pen) := by
  refine ⟨hb, slN_b B, ?_, h0, h1, fun s k hs hk hm => ?_⟩
  · show (if both = true then 2 * slN B else slN B) = slN B ∨ (if both = true then 2 * slN B else slN B) = 2 * slN B
    split
    · exact Or.inr rfl
    · exact Or.inl rfl
  · have hsl := dayP_sl hw hs
    have h3 := hw.2.2.1
    have hx := extraB_b hw (if slN B ≤ s then 1 else 0) k (m := slM B (if slN B ≤ s then s - slN B else s)) (by omega)
    have hc := fareB_b B (if slN B ≤ s then R1 else R0) (if slN B ≤ s then 1 else 0) k d (slM B (if slN B ≤ s then s - slN B else s)) false
    have hd := fareB_b B (if slN B ≤ s then R1 else R0) (if slN B ≤ s then 1 else 0) k d (slM B (if slN B ≤ s then s - slN B else s)) true
    have hm2 : bits.testBit k = true := by
      have hm3 : (bits.testBit k && decide (B.2.2.2 k 2 ≤ slM B (if slN B ≤ s then s - slN B else s) ∧ slM B (if slN B ≤ s then s - slN B else s) ≤ B.2.2.2 k 3)) = true := hm
      rw [Bool.and_eq_true] at hm3
      exact hm3.1
    refine ⟨hm2, ?_, ?_, ?_, ?_, ?_, ?_⟩
    · show -10000 ≤ ((fareB B _ _ _ _ _ false : Nat) : Int)
      omega
    · show ((fareB B _ _ _ _ _ false : Nat) : Int) ≤ 10000
      omega
    · show -10000 ≤ ((fareB B _ _ _ _ _ true : Nat) : Int)
      omega
    · show ((fareB B _ _ _ _ _ true : Nat) : Int) ≤ 10000
      omega
    · show 0 ≤ ((extraB B _ _ _ : Nat) : Int)
      omega
    · show ((extraB B _ _ _ : Nat) : Int) ≤ 13050
      omega
theorem dayP_may (B : Br) (R0 R1 : List Row) (bits d : Nat) (both : Bool) (pen : Int) : mayOk B (dayP B R0 R1 bits d both pen) := by
  refine ⟨rfl, fun s k hs hk hm => ?_⟩
  have hm3 : (bits.testBit k && decide (B.2.2.2 k 2 ≤ slM B (if slN B ≤ s then s - slN B else s) ∧ slM B (if slN B ≤ s then s - slN B else s) ≤ B.2.2.2 k 3)) = true := hm
  rw [Bool.and_eq_true] at hm3
  exact (of_decide_eq_true hm3.2).1
theorem dayP_v0 (B : Br) (R0 R1 : List Row) (bits d : Nat) (both : Bool) (pen : Int) : PV B (dayP B R0 R1 bits d both pen) R0 0 d := by
  intro s hs k hk
  have e : ¬ slN B ≤ 0 * slN B + s := by omega
  have e2 : 0 * slN B + s = s := by omega
  refine ⟨?_, ?_, ?_, ?_⟩
  · show (bits.testBit k && decide (B.2.2.2 k 2 ≤ slM B (if slN B ≤ 0 * slN B + s then _ else _) ∧ slM B (if slN B ≤ 0 * slN B + s then _ else _) ≤ B.2.2.2 k 3)) = _
    rw [if_neg e, e2]
    rfl
  · show ((fareB B (if slN B ≤ 0 * slN B + s then _ else _) (if slN B ≤ 0 * slN B + s then _ else _) k d (slM B (if slN B ≤ 0 * slN B + s then _ else _)) false : Nat) : Int) = _
    rw [if_neg e, if_neg e, if_neg e, e2]
  · show ((fareB B (if slN B ≤ 0 * slN B + s then _ else _) (if slN B ≤ 0 * slN B + s then _ else _) k d (slM B (if slN B ≤ 0 * slN B + s then _ else _)) true : Nat) : Int) = _
    rw [if_neg e, if_neg e, if_neg e, e2]
  · show ((extraB B (if slN B ≤ 0 * slN B + s then _ else _) k (slM B (if slN B ≤ 0 * slN B + s then _ else _)) : Nat) : Int) = _
    rw [if_neg e, if_neg e, e2]
theorem dayP_v1 (B : Br) (R0 R1 : List Row) (bits d : Nat) (both : Bool) (pen : Int) : PV B (dayP B R0 R1 bits d both pen) R1 1 d := by
  intro s hs k hk
  have e : slN B ≤ 1 * slN B + s := by omega
  have e2 : 1 * slN B + s - slN B = s := by omega
  refine ⟨?_, ?_, ?_, ?_⟩
  · show (bits.testBit k && decide (B.2.2.2 k 2 ≤ slM B (if slN B ≤ 1 * slN B + s then _ else _) ∧ slM B (if slN B ≤ 1 * slN B + s then _ else _) ≤ B.2.2.2 k 3)) = _
    rw [if_pos e, e2]
    rfl
  · show ((fareB B (if slN B ≤ 1 * slN B + s then _ else _) (if slN B ≤ 1 * slN B + s then _ else _) k d (slM B (if slN B ≤ 1 * slN B + s then _ else _)) false : Nat) : Int) = _
    rw [if_pos e, if_pos e, if_pos e, e2]
  · show ((fareB B (if slN B ≤ 1 * slN B + s then _ else _) (if slN B ≤ 1 * slN B + s then _ else _) k d (slM B (if slN B ≤ 1 * slN B + s then _ else _)) true : Nat) : Int) = _
    rw [if_pos e, if_pos e, if_pos e, e2]
  · show ((extraB B (if slN B ≤ 1 * slN B + s then _ else _) k (slM B (if slN B ≤ 1 * slN B + s then _ else _)) : Nat) : Int) = _
    rw [if_pos e, if_pos e, e2]
theorem s_begin {h : Hp} {B : Br} (hB : CB h B) {p1 p2 : Int32} (bits : Nat) (both : Bool) (e1 : p1 = nI bits) (e2 : p2 = 0 ↔ both = false) (Q : Hp → Prop) (hQ : ∀ h', (∀ q, q ≠ 44 → q ≠ 53 → q ≠ 54 → h' q = h q) → h' 44 14 = nI bits → h' 44 15 = nI (slN B) → h' 44 16 = nI (if both = true then 2 * slN B else slN B) → RK B h' → Q h') : w_X2_begin p1 p2 h Q := by
  subst e1
  unfold w_X2_begin
  have s44 : ∀ (g : Hp) (i : Nat) (v : Int32), CB g B → CB (hup g 44 i v) B := fun g i v c => c.same (hup_ne (by decide)) (hup_ne (by decide)) (hup_ne (by decide)) (hup_ne (by decide)) (hup_ne (by decide))
  have hB1 := s44 h 14 (nI bits) hB
  have hB2 := s44 _ 15 (nI (slN B)) hB1
  rw [wlet_e, e_slotCount hB1, wlet_e, hup_eq, wlet_e]
  have e3 : (if p2 = 0 then nI (slN B) else 2 * nI (slN B)) = nI (if both = true then 2 * slN B else slN B) := by
    cases both with
    | false => rw [if_pos (e2.mpr rfl), if_neg (by decide)]
    | true => rw [if_neg (fun z => Bool.noConfusion (e2.mp z)), if_pos rfl, q2, pk_mul]
  rw [e3]
  refine s_rank (s44 _ 16 _ hB2) _ (fun h' hf hr => hQ h' (fun q a b c => ?_) ?_ ?_ ?_ hr)
  · rw [hf q b c, hup_ne a, hup_ne a, hup_ne a]
  · rw [hf 44 (by decide) (by decide), hup_o (Or.inr (by decide)), hup_o (Or.inr (by decide)), hup_eq]
  · rw [hf 44 (by decide) (by decide), hup_o (Or.inr (by decide)), hup_eq]
  · rw [hf 44 (by decide) (by decide), hup_eq]
theorem PS_of {h : Hp} {B : Br} {P : Pz} (hB : CB h B) (hr : RK B h) (h14 : h 44 14 = nI (pB P)) (h15 : h 44 15 = nI (pE P)) (h16 : h 44 16 = nI (pA P)) (hD : ∀ s, s < pA P → DN h P s) : PS h B P :=
  ⟨hB, hr, h14, h15, h16, fun s hs => (hD s hs).1, fun s k hs hk hm => (hD s hs).2 k hk hm⟩
/-- what stands behind a plan -/
def PR (B : Br) (P : Pz) (h : Hp) : Prop := (∀ s, s < pA P → h 50 s = nI (hold B P s)) ∧ (∀ s, s < pA P → hold B P s ≠ 8 → h 51 s = zI (cn B P s)) ∧ h 52 0 = zI (ern B P 0 (pA P)) ∧ h 52 1 = zI (ern B P 1 (pA P)) ∧ h 44 18 = zI (tcs B P (pA P)) ∧ h 44 19 = nI (jmm B P (pA P)) ∧ h 44 17 = nI (onesN 8 (andn (pB P) (pth B P (pA P)).1)) ∧ h 44 15 = nI (pE P) ∧ h 44 16 = nI (pA P) ∧ (∀ s k, s < pA P → k < 8 → pM P s k = true → h 47 (s * 8 + k) = zI (pD P s k))
def f57 (p p' : Nat) (h h' : Hp) : Prop := ∀ q, q ≠ p + 2 → q ≠ p + 3 → q ≠ p' + 2 → q ≠ p' + 3 → q < 44 ∨ 57 < q → h' q = h q
theorem f57.CB {p p' : Nat} (hp : lawQ p) (hp' : lawQ p') {h h' : Hp} {B : Br} (a : f57 p p' h h') (c : CB h B) : CB h' B := by
  have := hp.ge
  have := hp'.ge
  exact c.same (a 3 (by omega) (by omega) (by omega) (by omega) (by omega)) (a 4 (by omega) (by omega) (by omega) (by omega) (by omega)) (a 5 (by omega) (by omega) (by omega) (by omega) (by omega)) (a 6 (by omega) (by omega) (by omega) (by omega) (by omega)) (a 7 (by omega) (by omega) (by omega) (by omega) (by omega))
theorem s_planFor {h : Hp} {B : Br} (hB : CB h B) {r4 r5 : Nat} (hp : lawQ r4) (hp' : lawQ r5) {R0 R1 : List Row} (hc : LC r4 h R0) (hc' : LC r5 h R1) {p1 p2 p3 : Int32} (bits d : Nat) (both : Bool) (e1 : p1 = nI bits) (e2 : p2 = nI d) (e3 : p3 = 0 ↔ both = false) (hb : bits < 256) (hd : d < 30)
    (Q : Hp → Prop) (hQ : ∀ h', f57 r4 r5 h h' → PR B (dayP B R0 R1 bits d both 1048576) h' → Q h') : w_X8_planFor p1 p2 p3 r4 r5 h Q := by
  have hg := hp.ge
  have hg' := hp'.ge
  have hsl := slN_b B
  subst e2
  unfold w_X8_planFor
  refine s_begin hB bits both e1 e3 _ (fun h1 f1 h14 h15 h16 hr => ?_)
  have hB1 : CB h1 B := hB.same (f1 3 (by decide) (by decide) (by decide)) (f1 4 (by decide) (by decide) (by decide)) (f1 5 (by decide) (by decide) (by decide)) (f1 6 (by decide) (by decide) (by decide)) (f1 7 (by decide) (by decide) (by decide))
  have hLC1 : ∀ {p rs}, lawQ p → LC p h rs → LC p h1 rs := fun {p rs} hq c => by
    have := hq.ge
    exact c.same (by rw [f1 p (by omega) (by omega) (by omega)]) (f1 _ (by omega) (by omega) (by omega))
  refine s_price hp hB1 (hLC1 hp hc) (P := dayP B R0 R1 bits d both 1048576) hb 0 d rfl rfl (by decide) hd h14 h15 (dayP_v0 _ _ _ _ _ _ _) (fun s hs => absurd hs (by omega)) _ (fun h2 f2 hD2 => ?_)
  have k44 : h2 44 = h1 44 := f2 44 (by omega) (by omega) (by decide) (by decide) (by decide) (by decide)
  have hB2 : CB h2 B := f2.CB hp hB1
  have hr2 : RK B h2 := by
    unfold RK
    rw [f2 53 (by omega) (by omega) (by decide) (by decide) (by decide) (by decide), f2 54 (by omega) (by omega) (by decide) (by decide) (by decide) (by decide)]
    exact hr
  have okk := dayP_ok hB.2.2 R0 R1 hb d both (pen := 1048576) (by decide) (by decide)
  have fin : ∀ h3, (∀ q, q ≠ r4 + 2 → q ≠ r4 + 3 → q ≠ r5 + 2 → q ≠ r5 + 3 → q ≠ 45 → q ≠ 46 → q ≠ 47 → q ≠ 48 → h3 q = h1 q) → CB h3 B → RK B h3 → (∀ s, s < pA (dayP B R0 R1 bits d both 1048576) → DN h3 (dayP B R0 R1 bits d both 1048576) s) → w_X8_planFor_b35 p1 (nI d) p3 r4 r5 h3 Q := by
    intro h3 f3 hB3 hr3 hD3
    have k443 : h3 44 = h1 44 := f3 44 (by omega) (by omega) (by omega) (by omega) (by decide) (by decide) (by decide) (by decide)
    have hPS : PS h3 B (dayP B R0 R1 bits d both 1048576) := PS_of hB3 hr3 (by rw [k443]; exact h14) (by rw [k443]; exact h15) (by rw [k443]; exact h16) hD3
    unfold w_X8_planFor_b35
    refine s_solve hPS okk (show (1048576 : Int32) = zI 1048576 by decide) _ (fun h4 f4 hT4 => ?_)
    have hPS4 : PS h4 B (dayP B R0 R1 bits d both 1048576) := hPS.same (fun q hq => f4 q (by omega) (by omega) (by omega) (by omega))
    refine s_seat hPS4 okk (dayP_may _ _ _ _ _ _ _) hT4 _ (fun h5 hS h517 => ?_)
    obtain ⟨a1, a2, a3, a4, a5, a6, a7, a8⟩ := hS
    refine hQ h5 (fun q b1 b2 b3 b4 b5 => ?_) ⟨a3, a4, a5, a6, a7, a8, h517, ?_, ?_, fun s k hs hk hm => ?_⟩
    · rw [a1 q (by omega) (by omega) (by omega) (by omega), f4 q (by omega) (by omega) (by omega) (by omega), f3 q b1 b2 b3 b4 (by omega) (by omega) (by omega) (by omega), f1 q (by omega) (by omega) (by omega)]
    · rw [a2 15 (by decide) (by decide) (by decide)]
      exact hPS4.2.2.2.1
    · rw [a2 16 (by decide) (by decide) (by decide)]
      exact hPS4.2.2.2.2.1
    · rw [a1 47 (by decide) (by decide) (by decide) (by decide)]
      exact (hPS4.2.2.2.2.2.2 s k hs hk hm).2.1
  have hA : pA (dayP B R0 R1 bits d both 1048576) = if both = true then 2 * slN B else slN B := rfl
  cases both with
  | false =>
    refine wif_p (e3.mpr rfl) (fin h2 (fun q a b _ _ c d e f => f2 q a b c d e f) hB2 hr2 (fun s hs => hD2 s ?_))
    rw [hA, if_neg (by decide)] at hs
    omega
  | true =>
    refine wif_n (fun z => Bool.noConfusion (e3.mp z)) ?_
    refine s_price hp' hB2 (f2.LC hp hp' (hLC1 hp' hc')) (P := dayP B R0 R1 bits d true 1048576) hb 1 d rfl rfl (by decide) hd (by rw [k44]; exact h14) (by rw [k44]; exact h15) (dayP_v1 _ _ _ _ _ _ _) (fun s hs => hD2 s (by omega)) _ (fun h3 f3 hD3 => ?_)
    refine fin h3 (fun q a b c d e f g i => (f3 q c d e f g i).trans (f2 q a b e f g i)) (f3.CB hp' hB2) ?_ (fun s hs => hD3 s ?_)
    · unfold RK
      rw [f3 53 (by omega) (by omega) (by decide) (by decide) (by decide) (by decide), f3 54 (by omega) (by omega) (by decide) (by decide) (by decide) (by decide)]
      exact hr2
    · rw [hA, if_pos rfl] at hs
      omega
/-- the same day with coins below 0 and nothing else -/
def negP (P : Pz) : Pz := (pB P, pE P, pA P, pM P, fun s k => -pC P s k, fun s k => -pD P s k, fun _ _ => 0, 0)
theorem negP_ok {P : Pz} (h : okP P) : okP (negP P) := by
  obtain ⟨a, b, c, d, e, f⟩ := h
  refine ⟨a, b, c, Int.le_refl _, (by decide : (0 : Int) ≤ 2 ^ 20), fun s k hs hk hm => ?_⟩
  obtain ⟨x1, x2, x3, x4, x5, x6, x7⟩ := f s k hs hk hm
  refine ⟨x1, ?_, ?_, ?_, ?_, Int.le_refl _, (by decide : (0 : Int) ≤ 13050)⟩
  · show -10000 ≤ -pC P s k
    omega
  · show -pC P s k ≤ 10000
    omega
  · show -10000 ≤ -pD P s k
    omega
  · show -pD P s k ≤ 10000
    omega
theorem s_greatest {h : Hp} {B : Br} {P : Pz} (hP : PS h B P) (ho : okP P) (Q : Int32 → Hp → Prop) (hQ : ∀ h', (∀ q, q < 46 ∨ 57 < q → h' q = h q) → Q (zI (-(DI B (negP P) (pA P) 0 8))) h') : w_X2_greatestTaking h Q := by
  have hal := ho.al
  unfold w_X2_greatestTaking w_X2_greatestTaking_b2
  refine wl_run (pA P * 8) (fun t (st : Int32 × Hp) => st.1 = nI t ∧ (∀ q, q ≠ 46 → q ≠ 47 → q ≠ 48 → st.2 q = h q) ∧ (∀ i, i < t → st.2 46 i = 0 - h 46 i ∧ st.2 47 i = 0 - h 47 i ∧ st.2 48 i = 0) ∧ (∀ i, t ≤ i → st.2 46 i = h 46 i ∧ st.2 47 i = h 47 i)) ?_ (Nat.zero_le _) ⟨rfl, fun _ _ _ _ => rfl, fun i hi => absurd hi (by omega), fun _ _ => ⟨rfl, rfl⟩⟩
  rintro t ⟨v1, h1⟩ K ht ⟨e1, hf, hd, hr⟩ hK
  simp only at e1 hf hd hr
  subst e1
  show w_X2_greatestTaking_l2 Q K (nI t) h1
  unfold w_X2_greatestTaking_l2
  have k44 : h1 44 = h 44 := hf 44 (by decide) (by decide) (by decide)
  rw [k44, hP.2.2.2.2.1, q8, pk_mul]
  refine ⟨fun z => ?_, fun z => ?_⟩
  · have e : t = pA P * 8 := by
      have := (nI_leI (by omega) (by omega)).mp z
      omega
    subst e
    have hPS : PS h1 B (negP P) := by
      obtain ⟨a1, a2, a3, a4, a5, a6, a7⟩ := hP
      refine ⟨a1.same (hf 3 (by decide) (by decide) (by decide)) (hf 4 (by decide) (by decide) (by decide)) (hf 5 (by decide) (by decide) (by decide)) (hf 6 (by decide) (by decide) (by decide)) (hf 7 (by decide) (by decide) (by decide)), ?_, ?_, ?_, ?_, ?_, fun s k hs hk hm => ?_⟩
      · unfold RK
        rw [hf 53 (by decide) (by decide) (by decide), hf 54 (by decide) (by decide) (by decide)]
        exact a2
      · rw [k44]; exact a3
      · rw [k44]; exact a4
      · rw [k44]; exact a5
      · rw [hf 45 (by decide) (by decide) (by decide)]; exact a6
      · have hs2 : s < pA P := hs
        obtain ⟨b1, b2, b3⟩ := hd (s * 8 + k) (by omega)
        obtain ⟨c1, c2, c3⟩ := a7 s k hs hk hm
        refine ⟨?_, ?_, b3⟩
        · rw [b1, c1, ← zI_0, zI_sub]
          show zI (0 - pC P s k) = zI (-pC P s k)
          rw [Int.zero_sub]
        · rw [b2, c2, ← zI_0, zI_sub]
          show zI (0 - pD P s k) = zI (-pD P s k)
          rw [Int.zero_sub]
    refine s_solve hPS (negP_ok ho) rfl _ (fun h2 f2 hT => ?_)
    have h0 := (hT 0 (Nat.zero_le _) 0 (by decide) (fun k _ hk => by rw [Nat.zero_testBit] at hk; exact Bool.noConfusion hk)).1
    rw [e_index 0 0 8 q0 q0 rfl, e_at (by decide), rd_n (by decide) (by decide), h0, ← zI_0, zI_sub, Int.zero_sub]
    exact hQ h2 (fun q hq => (f2 q (by omega) (by omega) (by omega) (by omega)).trans (hf q (by omega) (by omega) (by omega)))
  have htn : t < pA P * 8 := Nat.lt_of_not_le fun q => z ((nI_leI (by omega) (by omega)).mpr q)
  obtain ⟨r1, r2⟩ := hr t (Nat.le_refl _)
  rw [e_at (by decide), rd_n (by omega) (by decide), e_put (by decide), wr_n (by omega) (by decide), e_at (by decide), rd_n (by omega) (by decide), e_put (by decide), wr_n (by omega) (by decide), e_put (by decide), wr_n (by omega) (by decide), nI_1]
  rw [hup_ne (by decide), r1, r2]
  refine hK htn _ ⟨rfl, fun q a b c => ?_, fun i hi => ?_, fun i hi => ?_⟩
  · exact (hup_ne c).trans ((hup_ne b).trans ((hup_ne a).trans (hf q a b c)))
  · show hup (hup (hup h1 46 t (0 - h 46 t)) 47 t (0 - h 47 t)) 48 t 0 46 i = _ ∧ hup (hup (hup h1 46 t (0 - h 46 t)) 47 t (0 - h 47 t)) 48 t 0 47 i = _ ∧ hup (hup (hup h1 46 t (0 - h 46 t)) 47 t (0 - h 47 t)) 48 t 0 48 i = _
    rw [hup_ne (by decide), hup_ne (by decide), hup_at, hup_ne (by decide), hup_at, hup_ne (show (47 : Nat) ≠ 46 by decide), hup_at, hup_ne (show (48 : Nat) ≠ 47 by decide), hup_ne (show (48 : Nat) ≠ 46 by decide)]
    by_cases e : i = t
    · rw [e]
      simp
    · obtain ⟨b1, b2, b3⟩ := hd i (by omega)
      simp [e, b1, b2, b3]
  · show hup (hup (hup h1 46 t (0 - h 46 t)) 47 t (0 - h 47 t)) 48 t 0 46 i = _ ∧ hup (hup (hup h1 46 t (0 - h 46 t)) 47 t (0 - h 47 t)) 48 t 0 47 i = _
    obtain ⟨b1, b2⟩ := hr i (by omega)
    have e : i ≠ t := by omega
    rw [hup_ne (by decide), hup_ne (by decide), hup_o (Or.inr e), hup_ne (by decide), hup_o (Or.inr e), hup_ne (by decide)]
    exact ⟨b1, b2⟩
