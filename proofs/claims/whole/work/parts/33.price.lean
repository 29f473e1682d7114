/-! prices of a day, and the plan, by the program -/
def DN (h : Hp) (P : Pz) (s : Nat) : Prop := (∃ x, x < 256 ∧ h 45 s = nI x ∧ ∀ k, k < 8 → x.testBit k = pM P s k) ∧ (∀ k, k < 8 → pM P s k = true → h 46 (s * 8 + k) = zI (pC P s k) ∧ h 47 (s * 8 + k) = zI (pD P s k) ∧ h 48 (s * 8 + k) = zI (pX P s k))
def f4 (p : Nat) (h h' : Hp) : Prop := ∀ q, q ≠ p + 2 → q ≠ p + 3 → q ≠ 45 → q ≠ 46 → q ≠ 47 → q ≠ 48 → h' q = h q
theorem f4.CB {p : Nat} (hp : lawQ p) {h h' : Hp} {B : Br} (a : f4 p h h') (c : CB h B) : CB h' B := by
  have := hp.ge
  exact c.same (a 3 (by omega) (by omega) (by omega) (by omega) (by omega) (by omega)) (a 4 (by omega) (by omega) (by omega) (by omega) (by omega) (by omega)) (a 5 (by omega) (by omega) (by omega) (by omega) (by omega) (by omega)) (a 6 (by omega) (by omega) (by omega) (by omega) (by omega) (by omega)) (a 7 (by omega) (by omega) (by omega) (by omega) (by omega) (by omega))
theorem lawQ.apart {p p' : Nat} (hp : lawQ p) (hp' : lawQ p') : p' ≠ p + 2 ∧ p' ≠ p + 3 ∧ p' + 1 ≠ p + 2 ∧ p' + 1 ≠ p + 3 := by
  rcases hp with rfl | rfl | rfl | rfl | rfl | rfl | rfl <;> rcases hp' with rfl | rfl | rfl | rfl | rfl | rfl | rfl <;> decide
theorem f4.LC {p p' : Nat} (hp : lawQ p) (hp' : lawQ p') {h h' : Hp} {rs : List Row} (a : f4 p h h') (c : LC p' h rs) : LC p' h' rs := by
  obtain ⟨a1, a2, a3, a4⟩ := hp.apart hp'
  have := hp'.ge
  exact c.same (by rw [a p' a1 a2 (by omega) (by omega) (by omega) (by omega)]) (a _ a3 a4 (by omega) (by omega) (by omega) (by omega))
/-- what the priced day holds for one bridge -/
def PV (B : Br) (P : Pz) (rs : List Row) (b d : Nat) : Prop := ∀ s, s < slN B → ∀ k, k < 8 →
  pM P (b * slN B + s) k = ((pB P).testBit k && decide (B.2.2.2 k 2 ≤ slM B s ∧ slM B s ≤ B.2.2.2 k 3)) ∧ pC P (b * slN B + s) k = (fareB B rs b k d (slM B s) false : Nat) ∧ pD P (b * slN B + s) k = (fareB B rs b k d (slM B s) true : Nat) ∧ pX P (b * slN B + s) k = (extraB B b k (slM B s) : Nat)
theorem s_price {p : Nat} (hp : lawQ p) {h : Hp} {B : Br} (hB : CB h B) {rs : List Row} (hc : LC p h rs) {P : Pz} (hpb : pB P < 256) {p2 p3 : Int32} (b d : Nat) (e2 : p2 = nI b) (e3 : p3 = nI d) (hb : b < 2) (hd : d < 30) (h14 : h 44 14 = nI (pB P)) (h15 : h 44 15 = nI (slN B)) (hV : PV B P rs b d) (hN : ∀ s, s < b * slN B → DN h P s)
    (Q : Hp → Prop) (hQ : ∀ h', f4 p h h' → (∀ s, s < b * slN B + slN B → DN h' P s) → Q h') : w_X2_price p p2 p3 h Q := by
  have hpg := hp.ge
  have hsl := slN_b B
  have hw := hB.2.2
  have hbs : b * slN B + slN B ≤ 60 := by
    have : b * slN B ≤ 1 * slN B := Nat.mul_le_mul_right _ (by omega)
    omega
  subst e2 e3
  unfold w_X2_price w_X2_price_b3
  refine wl_run (slN B) (fun t (st : Int32 × Hp) => st.1 = nI t ∧ f4 p h st.2 ∧ (∀ s, s < b * slN B + t → DN st.2 P s)) ?_ (Nat.zero_le _) ⟨rfl, fun _ _ _ _ _ _ _ => rfl, fun s hs => hN s (by omega)⟩
  rintro t ⟨v4, h1⟩ K ht ⟨e4, hf, hDN⟩ hK
  simp only at e4 hf hDN
  subst e4
  show w_X2_price_l3 p (nI b) (nI d) Q K (nI t) h1
  unfold w_X2_price_l3
  have e44 : h1 44 = h 44 := hf 44 (by omega) (by omega) (by decide) (by decide) (by decide) (by decide)
  rw [e44, h15]
  refine ⟨fun z => ?_, fun z => ?_⟩
  · have e : t = slN B := by
      have := (nI_leI (by omega) (by omega)).mp z
      omega
    subst e
    exact hQ h1 hf hDN
  have htn : t < slN B := Nat.lt_of_not_le fun q => z ((nI_leI (by omega) (by omega)).mpr q)
  have hm : slM B t ≤ 1439 := by
    have := slM_b hw htn
    have := hw.2.2.1
    omega
  have hK1 := hK htn
  have hB1 : CB h1 B := hf.CB hp hB
  rw [e_slotMinute hB1 t rfl, pk_mul, nI_add, wlet_e]
  obtain ⟨s, hs⟩ : ∃ s, s = b * slN B + t := ⟨_, rfl⟩
  have hs60 : s < 60 := by omega
  have hVs := hV t htn
  rw [← hs] at hVs hDN ⊢
  unfold w_X2_price_b40
  refine wl_run 8 (fun k (st : Int32 × Int32 × Hp) => st.2.1 = nI k ∧ f4 p h st.2.2 ∧ (∀ s', s' < s → DN st.2.2 P s') ∧ (∃ x, x < 256 ∧ st.1 = nI x ∧ ∀ i, i < 8 → x.testBit i = (decide (i < k) && pM P s i)) ∧ (∀ i, i < k → pM P s i = true → st.2.2 46 (s * 8 + i) = zI (pC P s i) ∧ st.2.2 47 (s * 8 + i) = zI (pD P s i) ∧ st.2.2 48 (s * 8 + i) = zI (pX P s i))) ?_ (Nat.zero_le _) ⟨rfl, hf, hDN, ⟨0, by decide, rfl, fun i hi => by rw [Nat.zero_testBit]; simp⟩, fun i hi => absurd hi (by omega)⟩
  rintro k ⟨v7, v8, h2⟩ K2 hk ⟨e8, hf2, hDN2, ⟨x, hx, e7, hxb⟩, hen⟩ hK2
  simp only at e8 hf2 hDN2 e7 hen
  subst e8 e7
  show w_X2_price_l40 p (nI b) (nI d) (nI t) (nI (slM B t)) (nI s) K Q K2 (nI x) (nI k) h2
  unfold w_X2_price_l40
  have hB2 : CB h2 B := hf2.CB hp hB
  have hc2 : LC p h2 rs := hf2.LC hp hp hc
  have e442 : h2 44 = h 44 := hf2 44 (by omega) (by omega) (by decide) (by decide) (by decide) (by decide)
  refine ⟨fun z => ?_, fun z => ?_⟩
  · have e : k = 8 := by
      rw [q8] at z
      have := (nI_leI (by omega) (by omega)).mp z
      omega
    subst e
    rw [e_put (by decide), wr_n hs60 (by decide), nI_1]
    refine hK1 _ ⟨rfl, fun q a1 a2 a3 a4 a5 a6 => (hup_ne a3).trans (hf2 q a1 a2 a3 a4 a5 a6), fun s' hs' => ?_⟩
    have hs2 : s' < s + 1 := by
      rw [← Nat.add_assoc, ← hs] at hs'
      exact hs'
    by_cases e : s' = s
    · subst e
      refine ⟨⟨x, hx, hup_eq2, fun i hi => ?_⟩, fun i hi hpm => ?_⟩
      · rw [hxb i hi]
        simp [hi]
      · show hup h2 45 s' (nI x) 46 _ = _ ∧ hup h2 45 s' (nI x) 47 _ = _ ∧ hup h2 45 s' (nI x) 48 _ = _
        rw [hup_ne (by decide), hup_ne (by decide), hup_ne (by decide)]
        exact hen i hi hpm
    · obtain ⟨⟨y, hy, hye, hyb⟩, hyy⟩ := hDN2 s' (by omega)
      refine ⟨⟨y, hy, ?_, hyb⟩, fun i hi hpm => ?_⟩
      · show hup h2 45 s (nI x) 45 s' = _
        rw [hup_o (Or.inr e)]
        exact hye
      · show hup h2 45 s (nI x) 46 _ = _ ∧ hup h2 45 s (nI x) 47 _ = _ ∧ hup h2 45 s (nI x) 48 _ = _
        rw [hup_ne (by decide), hup_ne (by decide), hup_ne (by decide)]
        exact hyy i hi hpm
  have hk8 : k < 8 := Nat.lt_of_not_le fun q => z (by rw [q8]; exact (nI_leI (by omega) (by omega)).mpr q)
  have hK3 := hK2 hk8
  obtain ⟨v1, v2, v3, v4⟩ := hVs k hk8
  unfold w_X2_price_b170
  rw [e442, h14, bit_t (by omega) (by omega), nI_1]
  have skip : pM P s k = false → K2 (nI x, nI (k + 1), h2) := by
    intro hpm
    refine hK3 _ ⟨rfl, hf2, hDN2, ⟨x, hx, rfl, fun i hi => ?_⟩, fun i hi hi2 => ?_⟩
    · rw [hxb i hi]
      by_cases e : i = k
      · rw [e, hpm]
        simp
      · have e2 : decide (i < k + 1) = decide (i < k) := by
          by_cases c : i < k
          · rw [decide_eq_true c, decide_eq_true (by omega)]
          · rw [decide_eq_false c, decide_eq_false (by omega)]
        rw [e2]
    · refine hen i ?_ hi2
      have : i ≠ k := fun e => by rw [e, hpm] at hi2; exact Bool.noConfusion hi2
      omega
  cases hbk : (pB P).testBit k with
  | false =>
    rw [if_neg (show ¬ false = true by decide)]
    exact wif_p (by decide) (skip (by rw [v1, hbk]; rfl))
  | true =>
    rw [if_pos rfl]
    refine wif_n (fun z => z rfl) ?_
    rw [e_mayCome hB2 k (slM B t) rfl rfl hk8 (by omega)]
    by_cases hmay : B.2.2.2 k 2 ≤ slM B t ∧ slM B t ≤ B.2.2.2 k 3
    · rw [if_pos hmay]
      refine wif_n i10 ?_
      have hpm : pM P s k = true := by
        rw [v1, hbk, decide_eq_true hmay]
        rfl
      rw [wlet_e, or_bit _ (by omega)]
      refine s_fare hp hB2 hc2 b k d (slM B t) false rfl rfl rfl rfl (by simp) hb hk8 hd (by omega) _ (fun h3 l3 => ?_)
      rw [q8, pk_mul, nI_add, e_put (by decide), wr_n (by omega) (by decide)]
      have hf3 : f4 p h (hup h3 46 (s * 8 + k) (nI (fareB B rs b k d (slM B t) false))) := fun q a1 a2 a3 a4 a5 a6 => (hup_ne a4).trans ((l3 q a1 a2).trans (hf2 q a1 a2 a3 a4 a5 a6))
      refine s_fare hp (hf3.CB hp hB) (hf3.LC hp hp hc) b k d (slM B t) true rfl rfl rfl rfl (by simp) hb hk8 hd (by omega) _ (fun h5 l5 => ?_)
      rw [e_put (by decide), wr_n (by omega) (by decide)]
      have hf5 : f4 p h (hup h5 47 (s * 8 + k) (nI (fareB B rs b k d (slM B t) true))) := fun q a1 a2 a3 a4 a5 a6 => (hup_ne a5).trans ((l5 q a1 a2).trans (hf3 q a1 a2 a3 a4 a5 a6))
      rw [e_extra (hf5.CB hp hB) b k (slM B t) rfl rfl rfl hb hk8 hmay.1, e_put (by decide), wr_n (by omega) (by decide)]
      generalize hg : hup (hup h5 47 (s * 8 + k) (nI (fareB B rs b k d (slM B t) true))) 48 (s * 8 + k) (nI (extraB B b k (slM B t))) = g
      have g45 : g 45 = h2 45 := by
        rw [← hg, hup_ne (by decide), hup_ne (by decide), l5 45 (by omega) (by omega), hup_ne (by decide), l3 45 (by omega) (by omega)]
      have g46 : ∀ i, g 46 i = if i = s * 8 + k then zI (pC P s k) else h2 46 i := fun i => by
        rw [← hg, hup_ne (by decide), hup_ne (by decide), l5 46 (by omega) (by omega), hup_at, l3 46 (by omega) (by omega), v2, zI_n]
        simp
      have g47 : ∀ i, g 47 i = if i = s * 8 + k then zI (pD P s k) else h2 47 i := fun i => by
        rw [← hg, hup_ne (by decide), hup_at, l5 47 (by omega) (by omega), hup_ne (by decide), l3 47 (by omega) (by omega), v3, zI_n]
        simp
      have g48 : ∀ i, g 48 i = if i = s * 8 + k then zI (pX P s k) else h2 48 i := fun i => by
        rw [← hg, hup_at, hup_ne (by decide), l5 48 (by omega) (by omega), hup_ne (by decide), l3 48 (by omega) (by omega), v4, zI_n]
        simp
      refine hK3 _ ⟨rfl, ?_, fun s' hs' => ?_, ⟨x ||| 2 ^ k, or_lt hx hk8, rfl, fun i hi => ?_⟩, fun i hi hi2 => ?_⟩
      · intro q a1 a2 a3 a4 a5 a6
        show g q = h q
        rw [← hg, hup_ne a6]
        exact hf5 q a1 a2 a3 a4 a5 a6
      · obtain ⟨⟨y, hy, hye, hyb⟩, hyy⟩ := hDN2 s' hs'
        refine ⟨⟨y, hy, ?_, hyb⟩, fun i hi hpm2 => ?_⟩
        · show g 45 s' = _
          rw [g45]
          exact hye
        · show g 46 _ = _ ∧ g 47 _ = _ ∧ g 48 _ = _
          rw [g46, g47, g48, if_neg (by omega), if_neg (by omega), if_neg (by omega)]
          exact hyy i hi hpm2
      · rw [or_tb, hxb i hi]
        by_cases e : k = i
        · subst e
          simp [hpm]
        · have e2 : decide (i < k + 1) = decide (i < k) := by
            by_cases c : i < k
            · rw [decide_eq_true c, decide_eq_true (by omega)]
            · rw [decide_eq_false c, decide_eq_false (by omega)]
          simp [e, e2]
      · show g 46 _ = _ ∧ g 47 _ = _ ∧ g 48 _ = _
        rw [g46, g47, g48]
        by_cases e : i = k
        · rw [e, if_pos rfl, if_pos rfl, if_pos rfl]
          exact ⟨rfl, rfl, rfl⟩
        · rw [if_neg (by omega), if_neg (by omega), if_neg (by omega)]
          exact hen i (by omega) hi2
    · rw [if_neg hmay]
      refine wif_p rfl (skip ?_)
      rw [v1, hbk, decide_eq_false hmay]
      rfl
