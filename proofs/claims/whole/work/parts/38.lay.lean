/-! the model: a day's costs laid out, and the least from the last slot on -/
theorem e_slotsOf {h : Hp} {B : Br} (hB : MB h B) (Q : Int32 → Prop) : w_X9_slotsOf h Q = Q (nI (slN B)) := by
  obtain ⟨t1, _, _, _, hw⟩ := hB
  obtain ⟨_, _, hw3, hw4, _⟩ := hw
  unfold w_X9_slotsOf
  simp only [v_3_11, v_2_11, v_4_11, true_and, cl2, cl3, cl4, wlet_e]
  rw [t1 2 (by decide), t1 3 (by decide), t1 4 (by decide), and_t (nI_ne0 (by omega) (by omega)), pk_sub (by omega), pk_div (by omega) (by omega) (by omega), q30]
  have h9 : (B.1 3 - B.1 2) / B.1 4 ≤ B.1 3 - B.1 2 := Nat.div_le_self _ _
  congr 1
  unfold slN
  by_cases h1 : (B.1 3 - B.1 2) / B.1 4 < 30
  · rw [if_pos ((nI_leI (by omega) (by omega)).mpr (by omega)), if_pos h1]
  · rw [if_neg h1]
    by_cases h2 : (B.1 3 - B.1 2) / B.1 4 ≤ 30
    · rw [if_pos ((nI_leI (by omega) (by omega)).mpr h2), show (B.1 3 - B.1 2) / B.1 4 = 30 by omega]
    · rw [if_neg (fun z => h2 ((nI_leI (by omega) (by omega)).mp z))]
theorem e_minuteOfM {h : Hp} {B : Br} (hB : MB h B) {P : Pz} (hE : pE P = slN B) (h42 : h 92 42 = nI (pE P)) {p1 : Int32} (s : Nat) (h1 : p1 = nI s) (hs : s < 100) (Q : Int32 → Prop) : w_X9_minuteOf p1 h Q = Q (nI (smB B P s)) := by
  obtain ⟨t1, _, _, _, hw⟩ := hB
  have hsl := slN_b B
  subst h1
  unfold w_X9_minuteOf
  simp only [v_2_11, v_4_11, true_and, cl2, cl4]
  rw [t1 2 (by decide), t1 4 (by decide), h42]
  have e : (if nI (pE P) ≤ nI s then nI s - nI (pE P) else nI s) = nI (if pE P ≤ s then s - pE P else s) := by
    by_cases c : pE P ≤ s
    · rw [if_pos c, if_pos ((nI_leI (by omega) (by omega)).mpr c), pk_sub c]
    · rw [if_neg c, if_neg (fun z => c ((nI_leI (by omega) (by omega)).mp z))]
  rw [e, pk_mul, nI_add]
  unfold smB slM
  rw [Nat.mul_comm]
/-- what one slot holds in the model -/
def MN (B : Br) (h : Hp) (P : Pz) (s : Nat) : Prop := ∀ k, k < B.1 0 → h (1302 + s) k &&& 1 = (if B.2.2.2 k 2 ≤ smB B P s ∧ smB B P s ≤ B.2.2.2 k 3 then 1 else 0) ∧ ((B.2.2.2 k 2 ≤ smB B P s ∧ smB B P s ≤ B.2.2.2 k 3) → h (761 + 9 * s + 1 + k) 0 = zI (pC P s k) ∧ h (761 + 9 * s + 1 + k) 1 = zI (pD P s k) ∧ h (220 + 9 * s + 1 + k) 0 = zI (pC P s k + pX P s k) ∧ h (220 + 9 * s + 1 + k) 1 = zI (pD P s k + pX P s k))
/-- places that laying out a day's costs may change; of place 92 only two fields -/
def lfrM (h h' : Hp) : Prop := (∀ q, q ≠ 139 → q ≠ 140 → q ≠ 92 → (q < 220 ∨ 1361 < q) → h' q = h q) ∧ (∀ i, i ≠ 42 → i ≠ 43 → h' 92 i = h 92 i)
theorem lfrM.tr {h h1 h2 : Hp} (a : lfrM h h1) (b : lfrM h1 h2) : lfrM h h2 := ⟨fun q h1 h2 h3 h4 => (b.1 q h1 h2 h3 h4).trans (a.1 q h1 h2 h3 h4), fun i h1 h2 => (b.2 i h1 h2).trans (a.2 i h1 h2)⟩
theorem lfrM.MB {h h' : Hp} {B : Br} (a : lfrM h h') (c : MB h B) : MB h' B := c.same (a.1 95 (by decide) (by decide) (by decide) (by decide)) (a.1 97 (by decide) (by decide) (by decide) (by decide)) (a.1 99 (by decide) (by decide) (by decide) (by decide)) (fun k hk => a.1 _ (by omega) (by omega) (by omega) (by omega))
theorem lfrM.MR {h h' : Hp} {t : Nat} {rs : List Row} (a : lfrM h h') (c : MR h t rs) : MR h' t rs := c.same ⟨a.2 48 (by decide) (by decide), a.2 49 (by decide) (by decide), a.2 18 (by decide) (by decide)⟩ (fun q h1 h2 => a.1 q (by omega) (by omega) (by omega) (by omega))
/-- the tolls of both bridges, as the model reads them -/
def MT2 (h : Hp) (B : Br) (R0 R1 : List Row) (both : Bool) : Prop := ∃ t0 t1, t0 < 2 ^ 20 ∧ t1 < 2 ^ 20 ∧ h 141 0 = nI t0 ∧ h 141 1 = nI t1 ∧ MR h t0 R0 ∧ (both = true → MR h t1 R1)
theorem lfrM.MT2 {h h' : Hp} {B : Br} {R0 R1 : List Row} {both : Bool} (a : lfrM h h') (c : MT2 h B R0 R1 both) : MT2 h' B R0 R1 both := by
  obtain ⟨t0, t1, a1, a2, a3, a4, a5, a6⟩ := c
  have e : h' 141 = h 141 := a.1 141 (by decide) (by decide) (by decide) (by decide)
  exact ⟨t0, t1, a1, a2, by rw [e]; exact a3, by rw [e]; exact a4, lfrM.MR a a5, fun z => lfrM.MR a (a6 z)⟩
theorem dayP_eq {B : Br} {R0 R1 : List Row} {bits d : Nat} {both : Bool} {pen : Int} (s k : Nat) :
    pC (dayP B R0 R1 bits d both pen) s k = (fareB B (if slN B ≤ s then R1 else R0) (if slN B ≤ s then 1 else 0) k d (smB B (dayP B R0 R1 bits d both pen) s) false : Nat) ∧ pD (dayP B R0 R1 bits d both pen) s k = (fareB B (if slN B ≤ s then R1 else R0) (if slN B ≤ s then 1 else 0) k d (smB B (dayP B R0 R1 bits d both pen) s) true : Nat) ∧ pX (dayP B R0 R1 bits d both pen) s k = (extraB B (if slN B ≤ s then 1 else 0) k (smB B (dayP B R0 R1 bits d both pen) s) : Nat) ∧ pM (dayP B R0 R1 bits d both pen) s k = (bits.testBit k && decide (B.2.2.2 k 2 ≤ smB B (dayP B R0 R1 bits d both pen) s ∧ smB B (dayP B R0 R1 bits d both pen) s ≤ B.2.2.2 k 3)) := ⟨rfl, rfl, rfl, rfl⟩
theorem s_layCoins {h : Hp} {B : Br} (hB : MB h B) {R0 R1 : List Row} {p1 p2 : Int32} (bits d : Nat) (both : Bool) {pen : Int} (hR : MT2 h B R0 R1 both) (e1 : p1 = nI d) (e2 : p2 = 0 ↔ both = false) (hd : d < 30)
    (Q : Hp → Prop) (hQ : ∀ h', lfrM h h' → h' 92 42 = nI (slN B) → h' 92 43 = nI (pA (dayP B R0 R1 bits d both pen)) → (∀ s, s < pA (dayP B R0 R1 bits d both pen) → MN B h' (dayP B R0 R1 bits d both pen) s) → Q h') : w_X9_layCoins p1 p2 h Q := by
  subst e1
  have hw := hB.2.2.2.2
  have hw0 := hw.1
  have hw3 := hw.2.2.1
  have hsl := slN_b B
  unfold w_X9_layCoins
  rw [e_slotsOf hB, wlet_e, wlet_e, hup_eq]
  have e3 : (if p2 = 0 then nI (slN B) else 2 * nI (slN B)) = nI (pA (dayP B R0 R1 bits d both pen)) := by
    show _ = nI (if both = true then 2 * slN B else slN B)
    cases both with
    | false => rw [if_pos (e2.mpr rfl), if_neg (by decide)]
    | true => rw [if_neg (fun z => Bool.noConfusion (e2.mp z)), if_pos rfl, q2, pk_mul]
  rw [e3]
  generalize hP : dayP B R0 R1 bits d both pen = P at hQ ⊢
  have hPE : pE P = slN B := by rw [← hP]; rfl
  have hA2 : pA P ≤ 2 * slN B := by
    rw [← hP]
    show (if both = true then 2 * slN B else slN B) ≤ _
    split <;> omega
  have hboth : ∀ s, s < pA P → slN B ≤ s → both = true := fun s hs hsl => by
    cases both with
    | true => rfl
    | false =>
      rw [← hP] at hs
      have : pA (dayP B R0 R1 bits d false pen) = slN B := rfl
      omega
  have hPC : ∀ s k, pC P s k = (fareB B (if slN B ≤ s then R1 else R0) (if slN B ≤ s then 1 else 0) k d (smB B P s) false : Nat) ∧ pD P s k = (fareB B (if slN B ≤ s then R1 else R0) (if slN B ≤ s then 1 else 0) k d (smB B P s) true : Nat) ∧ pX P s k = (extraB B (if slN B ≤ s then 1 else 0) k (smB B P s) : Nat) := fun s k => by
    have h9 := dayP_eq (B := B) (R0 := R0) (R1 := R1) (bits := bits) (d := d) (both := both) (pen := pen) s k
    rw [hP] at h9
    exact ⟨h9.1, h9.2.1, h9.2.2.1⟩
  have hf0 : lfrM h (hup (hup h 92 42 (nI (slN B))) 92 43 (nI (pA P))) := ⟨fun q _ _ h3 _ => by rw [hup_ne h3, hup_ne h3], fun i h1 h2 => by rw [hup_o (Or.inr h2), hup_o (Or.inr h1)]⟩
  unfold w_X9_layCoins_b31
  refine wl_run (pA P) (fun t (st : Int32 × Hp) => st.1 = nI t ∧ lfrM h st.2 ∧ st.2 92 42 = nI (slN B) ∧ st.2 92 43 = nI (pA P) ∧ (∀ s, s < t → MN B st.2 P s)) ?_ (Nat.zero_le _) ⟨rfl, hf0, by show hup (hup h 92 42 (nI (slN B))) 92 43 (nI (pA P)) 92 42 = _; rw [hup_o (Or.inr (by decide)), hup_eq], hup_eq2, fun s hs => absurd hs (by omega)⟩
  rintro s ⟨v3, h1⟩ K ht ⟨e3, hf, h42, h43, hMN⟩ hK
  simp only at e3 hf h42 h43 hMN
  subst e3
  show w_X9_layCoins_l31 (nI d) p2 Q K (nI s) h1
  unfold w_X9_layCoins_l31
  rw [h43, h42]
  refine ⟨fun z => ?_, fun z => ?_⟩
  · have e : s = pA P := by
      have := (nI_leI (by omega) (by omega)).mp z
      omega
    subst e
    exact hQ h1 hf h42 h43 hMN
  have hs : s < pA P := Nat.lt_of_not_le fun q => z ((nI_leI (by omega) (by omega)).mpr q)
  have hK1 := hK hs
  have hB1 := lfrM.MB hf hB
  have hsm := smB_b hw hPE (by omega : pA P ≤ 2 * pE P) hs
  rw [wlet_e, e_minuteOfM hB1 hPE (by rw [h42, hPE]) s rfl (by omega)]
  have eb : (if nI (slN B) ≤ nI s then (1 : Int32) else 0) = nI (if slN B ≤ s then 1 else 0) := by
    by_cases c : slN B ≤ s
    · rw [if_pos c, if_pos ((nI_leI (by omega) (by omega)).mpr c)]
      rfl
    · rw [if_neg c, if_neg (fun z => c ((nI_leI (by omega) (by omega)).mp z))]
      rfl
  rw [eb]
  have hb2 : (if slN B ≤ s then 1 else 0) < 2 := by split <;> omega
  have hR0 : ∀ g : Hp, lfrM h g → ∃ t, t < 2 ^ 20 ∧ g 141 (if slN B ≤ s then 1 else 0) = nI t ∧ MR g t (if slN B ≤ s then R1 else R0) := by
    intro g hg
    obtain ⟨t0, t1, a1, a2, a3, a4, a5, a6⟩ := lfrM.MT2 hg hR
    by_cases c : slN B ≤ s
    · rw [if_pos c, if_pos c]
      exact ⟨t1, a2, a4, a6 (hboth s hs c)⟩
    · rw [if_neg c, if_neg c]
      exact ⟨t0, a1, a3, a5⟩
  generalize hbb : (if slN B ≤ s then 1 else 0) = b at hb2 hR0
  generalize hrr : (if slN B ≤ s then R1 else R0) = rs at hR0
  have hPs : ∀ k, pC P s k = (fareB B rs b k d (smB B P s) false : Nat) ∧ pD P s k = (fareB B rs b k d (smB B P s) true : Nat) ∧ pX P s k = (extraB B b k (smB B P s) : Nat) := fun k => by
    have h9 := hPC s k
    rw [hbb, hrr] at h9
    exact h9
  unfold w_X9_layCoins_b64
  refine wl_run (B.1 0) (fun k (st : Int32 × Hp) => st.1 = nI k ∧ lfrM h st.2 ∧ st.2 92 42 = nI (slN B) ∧ st.2 92 43 = nI (pA P) ∧ (∀ s', s' < s → MN B st.2 P s') ∧ (∀ i, i < k → st.2 (1302 + s) i &&& 1 = (if B.2.2.2 i 2 ≤ smB B P s ∧ smB B P s ≤ B.2.2.2 i 3 then 1 else 0) ∧ ((B.2.2.2 i 2 ≤ smB B P s ∧ smB B P s ≤ B.2.2.2 i 3) → st.2 (761 + 9 * s + 1 + i) 0 = zI (pC P s i) ∧ st.2 (761 + 9 * s + 1 + i) 1 = zI (pD P s i) ∧ st.2 (220 + 9 * s + 1 + i) 0 = zI (pC P s i + pX P s i) ∧ st.2 (220 + 9 * s + 1 + i) 1 = zI (pD P s i + pX P s i)))) ?_ (Nat.zero_le _) ⟨rfl, hf, h42, h43, hMN, fun i hi => absurd hi (by omega)⟩
  rintro k ⟨v6, h2⟩ K2 hk ⟨e6, hf2, h422, h432, hMN2, hen⟩ hK2
  simp only at e6 hf2 h422 h432 hMN2 hen
  subst e6
  show w_X9_layCoins_l64 (nI d) p2 (nI s) (nI b) (nI (smB B P s)) K Q K2 (nI k) h2
  unfold w_X9_layCoins_l64
  have hB2 := lfrM.MB hf2 hB
  refine ⟨vl 0 11 (by decide) (by decide), ?_⟩
  rw [cl0, hB2.1 0 (by decide)]
  refine ⟨fun z => ?_, fun z => ?_⟩
  · have e : k = B.1 0 := by
      have := (nI_leI (by omega) (by omega)).mp z
      omega
    subst e
    rw [nI_1]
    refine hK1 _ ⟨rfl, hf2, h422, h432, fun s' hs' => ?_⟩
    by_cases e : s' = s
    · rw [e]
      exact fun i hi => hen i hi
    · exact hMN2 s' (by omega)
  have hkn : k < B.1 0 := Nat.lt_of_not_le fun q => z ((nI_leI (by omega) (by omega)).mpr q)
  have hK3 := hK2 hkn
  have v60 : vp_in (nI s) 60 := vp_in_nI (by omega) (by decide)
  have v8 : vp_in (nI k) 8 := vp_in_nI (by omega) (by decide)
  refine ⟨v60, ?_⟩
  rw [e_canCome hB2 k (smB B P s) rfl rfl hkn (by omega)]
  refine ⟨v8, ?_⟩
  rw [nI_clamp (n := s) (by omega), nI_clamp (n := k) (by omega), Nat.one_mul, wlet_e]
  have ecc : (if (B.1 2 ≤ smB B P s ∧ smB B P s ≤ B.1 3) ∧ B.2.2.2 k 2 ≤ smB B P s ∧ smB B P s ≤ B.2.2.2 k 3 then (1 : Int32) else 0) = if B.2.2.2 k 2 ≤ smB B P s ∧ smB B P s ≤ B.2.2.2 k 3 then 1 else 0 := by
    by_cases c : B.2.2.2 k 2 ≤ smB B P s ∧ smB B P s ≤ B.2.2.2 k 3
    · rw [if_pos c, if_pos ⟨hsm, c⟩]
    · rw [if_neg c, if_neg (fun q => c q.2)]
  rw [ecc]
  -- what two rounds put
  have hfin : ∀ g : Hp, lfrM h g → g 92 42 = nI (slN B) → g 92 43 = nI (pA P) → (∀ q, (220 ≤ q ∧ q ≤ 1361) → q ≠ 1302 + s → q ≠ 761 + 9 * s + 1 + k → q ≠ 220 + 9 * s + 1 + k → g q = h2 q) → (∀ i, i ≠ k → g (1302 + s) i = h2 (1302 + s) i) → (g (1302 + s) k &&& 1 = (if B.2.2.2 k 2 ≤ smB B P s ∧ smB B P s ≤ B.2.2.2 k 3 then 1 else 0)) → ((B.2.2.2 k 2 ≤ smB B P s ∧ smB B P s ≤ B.2.2.2 k 3) → g (761 + 9 * s + 1 + k) 0 = zI (pC P s k) ∧ g (761 + 9 * s + 1 + k) 1 = zI (pD P s k) ∧ g (220 + 9 * s + 1 + k) 0 = zI (pC P s k + pX P s k) ∧ g (220 + 9 * s + 1 + k) 1 = zI (pD P s k + pX P s k)) → K2 (nI (k + 1), g) := by
    intro g hg g42 g43 go gm gk gv
    refine hK3 _ ⟨rfl, hg, g42, g43, fun s' hs' i hi => ?_, fun i hi => ?_⟩
    · show g (1302 + s') i &&& 1 = _ ∧ (_ → g (761 + 9 * s' + 1 + i) 0 = _ ∧ g (761 + 9 * s' + 1 + i) 1 = _ ∧ g (220 + 9 * s' + 1 + i) 0 = _ ∧ g (220 + 9 * s' + 1 + i) 1 = _)
      rw [go (1302 + s') (by omega) (by omega) (by omega) (by omega), go (761 + 9 * s' + 1 + i) (by omega) (by omega) (by omega) (by omega), go (220 + 9 * s' + 1 + i) (by omega) (by omega) (by omega) (by omega)]
      exact hMN2 s' hs' i hi
    · show g (1302 + s) i &&& 1 = _ ∧ (_ → g (761 + 9 * s + 1 + i) 0 = _ ∧ g (761 + 9 * s + 1 + i) 1 = _ ∧ g (220 + 9 * s + 1 + i) 0 = _ ∧ g (220 + 9 * s + 1 + i) 1 = _)
      by_cases e : i = k
      · rw [e]
        exact ⟨gk, gv⟩
      · rw [gm i e, go (761 + 9 * s + 1 + i) (by omega) (by omega) (by omega) (by omega), go (220 + 9 * s + 1 + i) (by omega) (by omega) (by omega) (by omega)]
        exact hen i (by omega)
  generalize hg0 : hup h2 (1302 + s) k (if B.2.2.2 k 2 ≤ smB B P s ∧ smB B P s ≤ B.2.2.2 k 3 then 1 else 0) = g0
  have g0o : ∀ q, q ≠ 1302 + s → g0 q = h2 q := fun q hq => by
    rw [← hg0]
    exact hup_ne hq
  have g0m : ∀ i, i ≠ k → g0 (1302 + s) i = h2 (1302 + s) i := fun i hi => by
    rw [← hg0]
    exact hup_o (Or.inr hi)
  have g0k : g0 (1302 + s) k &&& 1 = (if B.2.2.2 k 2 ≤ smB B P s ∧ smB B P s ≤ B.2.2.2 k 3 then 1 else 0) := by
    rw [← hg0, hup_eq]
    split
    · exact b11
    · exact b01
  have hfg0 : lfrM h g0 := lfrM.tr hf2 ⟨fun q a b c d => g0o q (by omega), fun i a b => by rw [g0o 92 (by omega)]⟩
  unfold w_X9_layCoins_b95
  refine wl_run 2 (fun t (st : Int32 × Hp) => st.1 = nI t ∧ lfrM h st.2 ∧ st.2 92 42 = nI (slN B) ∧ st.2 92 43 = nI (pA P) ∧ (∀ q, (220 ≤ q ∧ q ≤ 1361) → q ≠ 1302 + s → q ≠ 761 + 9 * s + 1 + k → q ≠ 220 + 9 * s + 1 + k → st.2 q = h2 q) ∧ (st.2 (1302 + s) = g0 (1302 + s)) ∧ ((B.2.2.2 k 2 ≤ smB B P s ∧ smB B P s ≤ B.2.2.2 k 3) → (0 < t → st.2 (761 + 9 * s + 1 + k) 0 = zI (pC P s k) ∧ st.2 (220 + 9 * s + 1 + k) 0 = zI (pC P s k + pX P s k)) ∧ (1 < t → st.2 (761 + 9 * s + 1 + k) 1 = zI (pD P s k) ∧ st.2 (220 + 9 * s + 1 + k) 1 = zI (pD P s k + pX P s k)))) ?_ (Nat.zero_le _) ⟨rfl, hfg0, by show g0 92 42 = _; rw [g0o 92 (by omega)]; exact h422, by show g0 92 43 = _; rw [g0o 92 (by omega)]; exact h432, fun q a b c d => g0o q b, rfl, fun _ => ⟨fun z => absurd z (by omega), fun z => absurd z (by omega)⟩⟩
  rintro t ⟨v7, h3⟩ K4 ht3 ⟨e7, hf3, h423, h433, ho3, hm3, hv3⟩ hK4
  simp only at e7 hf3 h423 h433 ho3 hm3 hv3
  subst e7
  show w_X9_layCoins_l95 (nI d) p2 (nI s) (nI b) (nI (smB B P s)) (nI k) K K2 Q K4 (nI t) h3
  unfold w_X9_layCoins_l95 w_X9_layCoins_b218
  rw [nI_1]
  have hB3 := lfrM.MB hf3 hB
  refine ⟨fun z => ?_, fun z => ?_⟩
  · have e : t = 2 := by
      rw [q2] at z
      have := (nI_leI (by omega) (by omega)).mp z
      omega
    subst e
    refine hfin h3 hf3 h423 h433 ho3 (fun i hi => by rw [hm3]; exact g0m i hi) (by rw [hm3]; exact g0k) (fun hc => ?_)
    obtain ⟨x1, x2⟩ := hv3 hc
    exact ⟨(x1 (by decide)).1, (x2 (by decide)).1, (x1 (by decide)).2, (x2 (by decide)).2⟩
  have ht2 : t < 2 := Nat.lt_of_not_le fun q => z (by rw [q2]; exact (nI_leI (by omega) (by omega)).mpr q)
  refine ⟨v60, v8, ?_⟩
  rw [nI_clamp (n := s) (by omega), nI_clamp (n := k) (by omega), Nat.one_mul, hm3, g0k]
  by_cases hc : B.2.2.2 k 2 ≤ smB B P s ∧ smB B P s ≤ B.2.2.2 k 3
  rotate_left
  · rw [if_neg hc]
    exact wif_p rfl (hfin h3 hf3 h423 h433 ho3 (fun i hi => by rw [hm3]; exact g0m i hi) (by rw [hm3]; exact g0k) (fun q => absurd q hc))
  rw [if_pos hc]
  refine wif_n i10 ⟨v60, v8, ?_⟩
  obtain ⟨tt, htt, h141, hMR⟩ := hR0 h3 hf3
  have vt2 : vp_in (nI t) 2 := vp_in_nI ht2 (by decide)
  refine s_coinsOf hB3 hMR b k d (smB B P s) (decide (t = 1)) htt rfl rfl rfl rfl ?_ h141 hb2 hkn hd (by omega) _ (fun h4 f4 => ⟨vt2, ?_⟩)
  · rw [q1, decide_eq_false_iff_not]
    constructor
    · intro q r
      rw [r, if_neg (not_not_intro rfl)] at q
      exact absurd q (by decide)
    · intro q
      rw [if_pos (fun r => q ((nI_eq (by omega) (by omega)).mp r))]
  rw [nI_clamp (n := t) (by omega), Nat.one_mul, wlet_e]
  generalize hfa : fareB B rs b k d (smB B P s) (decide (t = 1)) = fa
  generalize hg4 : hup h4 (761 + 9 * s + 1 + k) t (nI fa) = g4
  have hf4 : lfrM h h4 := lfrM.tr hf3 ⟨fun q a1 a2 _ _ => f4 q a1 a2, fun i _ _ => by rw [f4 92 (by decide) (by decide)]⟩
  have hfg4 : lfrM h g4 := lfrM.tr hf4 ⟨fun q a b c d => by rw [← hg4]; exact hup_ne (by omega), fun i a b => by rw [← hg4]; exact hup_o (Or.inl (by omega))⟩
  have hB4 := lfrM.MB hfg4 hB
  have g4o : ∀ q, q ≠ 139 → q ≠ 140 → q ≠ 761 + 9 * s + 1 + k → g4 q = h3 q := fun q a b c => by
    rw [← hg4, hup_ne c]
    exact f4 q a b
  have w1 := hB4.2.2.2.1 k 4 hkn (by decide)
  have w2 := hB4.2.2.2.1 k 2 hkn (by decide)
  refine ⟨v60, v8, v60, v8, vt2, v8, vl 4 7 (by decide) (by decide), v8, vl 2 7 (by decide) (by decide), ?_⟩
  rw [cl4, cl2, w1, w2]
  have egv : g4 (761 + 9 * s + 1 + k) t = nI fa := by
    rw [← hg4]
    exact hup_eq _ _ _ _
  rw [egv, pk_sub hc.1, pk_mul, nI_add]
  unfold w_X9_layCoins_b210
  have hend : ∀ x : Nat, x = (if b = 0 then 0 else B.1 10) → wlet (hup g4 (220 + 9 * s + 1 + k) t (nI (fa + B.2.2.2 k 4 * (smB B P s - B.2.2.2 k 2)) + nI x)) (fun h2 => K4 (nI t + 1, h2)) := by
    intro x hx
    have ex : fa + B.2.2.2 k 4 * (smB B P s - B.2.2.2 k 2) + x = fa + extraB B b k (smB B P s) := by
      unfold extraB
      rw [hx]
      omega
    rw [nI_add, ex, wlet_e, nI_1]
    generalize hg5 : hup g4 (220 + 9 * s + 1 + k) t (nI (fa + extraB B b k (smB B P s))) = g5
    have g5o : ∀ q, q ≠ 220 + 9 * s + 1 + k → g5 q = g4 q := fun q hq => by
      rw [← hg5]
      exact hup_ne hq
    have g5c : ∀ i, g5 (761 + 9 * s + 1 + k) i = if i = t then nI fa else h3 (761 + 9 * s + 1 + k) i := fun i => by
      rw [g5o _ (by omega), ← hg4, hup_at, f4 _ (by omega) (by omega)]
      simp
    have g5x : ∀ i, g5 (220 + 9 * s + 1 + k) i = if i = t then nI (fa + extraB B b k (smB B P s)) else h3 (220 + 9 * s + 1 + k) i := fun i => by
      rw [← hg5, hup_at, g4o _ (by omega) (by omega) (by omega)]
      simp
    refine hK4 ht2 _ ⟨rfl, lfrM.tr hfg4 ⟨fun q a b c d => g5o q (by omega), fun i a b => congrFun (g5o 92 (by omega)) i⟩, ?_, ?_, fun q a1 a2 a3 a4 => ?_, ?_, fun _ => ⟨fun _ => ?_, fun h1t => ?_⟩⟩
    · show g5 92 42 = _
      rw [g5o 92 (by omega), g4o 92 (by decide) (by decide) (by omega)]
      exact h423
    · show g5 92 43 = _
      rw [g5o 92 (by omega), g4o 92 (by decide) (by decide) (by omega)]
      exact h433
    · show g5 q = h2 q
      rw [g5o q a4, g4o q (by omega) (by omega) a3]
      exact ho3 q a1 a2 a3 a4
    · show g5 (1302 + s) = _
      rw [g5o _ (by omega), g4o _ (by omega) (by omega) (by omega)]
      exact hm3
    · show g5 _ 0 = _ ∧ g5 _ 0 = _
      rw [g5c, g5x]
      by_cases e : 0 = t
      · rw [if_pos e, if_pos e]
        have ef : decide (t = 1) = false := decide_eq_false (by omega)
        rw [ef] at hfa
        rw [(hPs k).1, (hPs k).2.2, hfa, zI_n]
        exact ⟨rfl, (zI_n _).symm⟩
      · rw [if_neg e, if_neg e]
        exact (hv3 hc).1 (by omega)
    · have e : t = 1 := by omega
      show g5 _ 1 = _ ∧ g5 _ 1 = _
      rw [g5c, g5x, if_pos e.symm, if_pos e.symm]
      have ef : decide (t = 1) = true := decide_eq_true e
      rw [ef] at hfa
      rw [(hPs k).2.1, (hPs k).2.2, hfa, zI_n]
      exact ⟨rfl, (zI_n _).symm⟩
  refine ⟨fun q => ⟨vt2, ?_⟩, fun q => ⟨vl 10 11 (by decide) (by decide), vt2, ?_⟩⟩
  · rw [nI_clamp (n := t) (by omega)]
    refine hend 0 ?_
    have : b ≠ 1 := fun e => q (by rw [e]; rfl)
    rw [if_pos (by omega)]
  · rw [nI_clamp (n := t) (by omega), cl10, hB4.1 10 (by decide)]
    have : b = 1 := (nI_eq (b := 1) (by omega) (by omega)).mp (Classical.not_not.mp q)
    exact hend _ (by rw [if_neg (by omega)])
