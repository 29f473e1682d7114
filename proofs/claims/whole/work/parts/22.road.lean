/-! the road's small methods -/
theorem tg_30 : tg 3 0 = 4 := by decide
theorem tg_31 : tg 3 1 = 5 := by decide
theorem tg_32 : tg 3 2 = 6 := by decide
theorem tg_33 : tg 3 3 = 7 := by decide
def CBr (r : Nat) (h : Hp) (B : Br) : Prop :=
  (h r 4 = nI (B.1 0) ∧ h r 5 = nI (B.1 1) ∧ h r 6 = nI (B.1 2) ∧ h r 7 = nI (B.1 3) ∧ h r 8 = nI (B.1 4) ∧ h r 9 = nI (B.1 5) ∧ h r 10 = nI (B.1 6) ∧ h r 13 = nI (B.1 7) ∧ h r 14 = nI (B.1 8) ∧ h r 11 = nI (B.1 9) ∧ h r 12 = nI (B.1 10)) ∧
  (∀ d, d < 30 → h (r + 1) d = nI (B.2.1 d)) ∧ (∀ d, d < 30 → h (r + 3) d = nI (B.2.2.1 d)) ∧ (∀ k i, k < 8 → i < 7 → h (r + 4) (k * 7 + i) = nI (B.2.2.2 k i))
def CB (h : Hp) (B : Br) : Prop := CBr 3 h B ∧ (∀ d, d < 30 → h 5 d = nI (noonS B.2.1 d)) ∧ WB B
theorem CB.same {h h' : Hp} {B : Br} (c : CB h B) (e3 : h' 3 = h 3) (e4 : h' 4 = h 4) (e5 : h' 5 = h 5) (e6 : h' 6 = h 6) (e7 : h' 7 = h 7) : CB h' B := by
  obtain ⟨⟨a, b, c, d⟩, e, f⟩ := c
  refine ⟨⟨?_, ?_, ?_, ?_⟩, ?_, f⟩
  · rw [e3]; exact a
  · show ∀ d, d < 30 → h' 4 d = _
    rw [e4]; exact b
  · show ∀ d, d < 30 → h' 6 d = _
    rw [e6]; exact c
  · show ∀ k i, k < 8 → i < 7 → h' 7 _ = _
    rw [e7]; exact d
  · rw [e5]; exact e
theorem e_trait {h : Hp} {B : Br} (hB : CB h B) {p q : Int32} (k i : Nat) (hp : p = nI k) (hq : q = nI i) (hk : k < 8) (hi : i < 7) (Q : Int32 → Prop) : w_X4_trait 3 p q h Q = Q (nI (B.2.2.2 k i)) := by
  subst hp hq
  unfold w_X4_trait
  rw [e_at (by decide)]
  have e : nI k * 7 + nI i = nI (k * 7 + i) := by rw [q7, pk_mul, nI_add]
  rw [e, rd_n (by omega) (by decide), tg_33]
  exact congrArg Q (hB.1.2.2.2 k i hk hi)
theorem e_standing {h : Hp} {B : Br} (hB : CB h B) {p : Int32} (k : Nat) (hp : p = nI k) (hk : k < 8) (Q : Int32 → Prop) : w_X4_standing 3 p h Q = Q (nI (stB B k)) := by
  unfold w_X4_standing
  rw [e_trait hB k 0 hp q0 hk (by decide), e_trait hB k 5 hp q5 hk (by decide), nI_add]
  rfl
theorem e_mayCome {h : Hp} {B : Br} (hB : CB h B) {p q : Int32} (k m : Nat) (hp : p = nI k) (hq : q = nI m) (hk : k < 8) (hm : m < 2 ^ 30) (Q : Int32 → Prop) : w_X4_mayCome 3 p q h Q = Q (if B.2.2.2 k 2 ≤ m ∧ m ≤ B.2.2.2 k 3 then 1 else 0) := by
  have hw := hB.2.2.who k
  unfold w_X4_mayCome
  rw [e_trait hB k 2 hp q2 hk (by decide), e_trait hB k 3 hp q3 hk (by decide), wif_e, hq, bit_if]
  by_cases h1 : m < B.2.2.2 k 2
  · rw [if_pos ((nI_ltI (by omega) (by omega)).mpr h1), if_neg (by omega), b01]
  · rw [if_neg (fun z => h1 ((nI_ltI (by omega) (by omega)).mp z))]
    by_cases h2 : B.2.2.2 k 3 < m
    · rw [if_pos ((nI_ltI (by omega) (by omega)).mpr h2), if_neg (by omega)]
    · rw [if_neg (fun z => h2 ((nI_ltI (by omega) (by omega)).mp z)), if_pos (by omega)]
theorem e_isOpen {h : Hp} {B : Br} (hB : CB h B) {q : Int32} (m : Nat) (hq : q = nI m) (hm : m < 2 ^ 30) (Q : Int32 → Prop) : w_X4_isOpen 3 q h Q = Q (if B.1 2 ≤ m ∧ m ≤ B.1 3 then 1 else 0) := by
  have hw := hB.2.2.2.2.1
  have h6 : h 3 6 = nI (B.1 2) := hB.1.1.2.2.1
  have h7 : h 3 7 = nI (B.1 3) := hB.1.1.2.2.2.1
  unfold w_X4_isOpen
  rw [hq, h6, h7]
  congr 1
  by_cases h1 : m < B.1 2
  · rw [if_pos ((nI_ltI (by omega) (by omega)).mpr h1), if_neg (by omega)]
    exact b01
  · rw [if_neg (fun z => h1 ((nI_ltI (by omega) (by omega)).mp z))]
    by_cases h2 : B.1 3 < m
    · rw [if_pos ((nI_ltI (by omega) (by omega)).mpr h2), if_neg (by omega)]
      exact b01
    · rw [if_neg (fun z => h2 ((nI_ltI (by omega) (by omega)).mp z)), if_pos (by omega)]
      exact b11
theorem e_slotCount {h : Hp} {B : Br} (hB : CB h B) (Q : Int32 → Prop) : w_X4_slotCount 3 h Q = Q (nI (slN B)) := by
  obtain ⟨_, _, hw3, hw4, _⟩ := hB.2.2
  have h6 : h 3 6 = nI (B.1 2) := hB.1.1.2.2.1
  have h7 : h 3 7 = nI (B.1 3) := hB.1.1.2.2.2.1
  have h8 : h 3 8 = nI (B.1 4) := hB.1.1.2.2.2.2.1
  unfold w_X4_slotCount
  rw [h6, h7, h8, q1, wif_t ((nI_leI (by omega) (by omega)).mpr hw4.1), and_t (nI_ne0 (by omega) (by omega)), pk_sub (by omega), pk_div (by omega) (by omega) (by omega), q30]
  have h9 : (B.1 3 - B.1 2) / B.1 4 ≤ B.1 3 - B.1 2 := Nat.div_le_self _ _
  unfold slN
  by_cases h1 : (B.1 3 - B.1 2) / B.1 4 < 30
  · rw [if_pos ((nI_ltI (by omega) (by omega)).mpr h1), if_pos h1]
  · rw [if_neg (fun z => h1 ((nI_ltI (by omega) (by omega)).mp z)), if_neg h1]
theorem e_slotMinute {h : Hp} {B : Br} (hB : CB h B) {p : Int32} (s : Nat) (hp : p = nI s) (Q : Int32 → Prop) : w_X4_slotMinute 3 p h Q = Q (nI (slM B s)) := by
  have h6 : h 3 6 = nI (B.1 2) := hB.1.1.2.2.1
  have h8 : h 3 8 = nI (B.1 4) := hB.1.1.2.2.2.2.1
  unfold w_X4_slotMinute
  rw [h6, h8, hp, pk_mul, nI_add]
  rfl
theorem zI_nat {z : Int} {n : Nat} (h : z = n) : zI z = nI n := by rw [h, zI_n]
theorem nI_subZ (a b : Nat) : nI a - nI b = zI ((a : Int) - b) := by rw [← zI_n, ← zI_n, zI_sub]
theorem nI_mulZ (a : Nat) (b : Int) : nI a * zI b = zI (a * b) := by rw [← zI_n, zI_mul]
theorem e_altitudeAt {h : Hp} {B : Br} (hB : CB h B) {p1 p2 p3 : Int32} (b d m : Nat) (h1 : p1 = nI b) (h2 : p2 = nI d) (h3 : p3 = nI m) (hb : b < 2) (hd : d < 30) (hm : m < 1440) (Q : Int32 → Prop) : w_X4_altitudeAt 3 p1 p2 p3 h Q = Q (nI (altB B b d m)) := by
  obtain ⟨_, w1, _, _, _, w6, _, _, w9, _, w11, _⟩ := hB.2.2
  have hn := noonS_b w11 d
  have f5 : h 3 5 = nI (B.1 1) := hB.1.1.2.1
  have f10 : h 3 10 = nI (B.1 6) := hB.1.1.2.2.2.2.2.2.1
  have f11 : h 3 11 = nI (B.1 9) := hB.1.1.2.2.2.2.2.2.2.2.2.1
  subst h1 h2 h3
  unfold w_X4_altitudeAt
  rw [wlet_e, e_at (by decide), wlet_e, rd_n hd (by decide), tg_31, hB.2.1 d hd, f5, f10, f11]
  have e1 : (if ¬ nI b = 0 then (720 : Int32) - nI (B.1 9) else 720) = nI (if b = 0 then 720 else 720 - B.1 9) := by
    by_cases hb0 : b = 0
    · subst hb0
      rw [if_neg (fun z => z rfl), if_pos rfl]
      rfl
    · rw [if_pos (nI_ne0 (by omega) (by omega)), if_neg hb0, q720, pk_sub (by omega)]
  rw [e1]
  generalize hN : (if b = 0 then 720 else 720 - B.1 9) = N
  have hNb : N ≤ 720 := by
    rw [← hN]
    split <;> omega
  have e2 : (if 0 ≤ nI m - nI N then nI m - nI N else 0 - (nI m - nI N)) = nI ((m - N) + (N - m)) := by
    rw [nI_subZ, ← zI_0]
    by_cases hc : N ≤ m
    · rw [if_pos ((zI_le (by omega) (by omega)).mpr (by omega))]
      exact zI_nat (by omega)
    · rw [if_neg (fun z => hc (by have := (zI_le (by omega) (by omega)).mp z; omega)), zI_sub]
      exact zI_nat (by omega)
  rw [e2, pk_mul, nI_subZ]
  have hdist : (m - N) + (N - m) ≤ 1440 := by omega
  have hprod : B.1 1 * ((m - N) + (N - m)) ≤ 9 * 1440 := Nat.mul_le_mul w1.2 hdist
  have e3 : altB B b d m = (let x := noonS B.2.1 d - B.1 1 * ((m - N) + (N - m)); if x = 0 then B.1 6 else x) := by
    unfold altB
    rw [hN]
  rw [e3]
  simp only
  generalize hD : B.1 1 * ((m - N) + (N - m)) = D at hprod ⊢
  generalize noonS B.2.1 d = n9 at hn ⊢
  congr 1
  rw [q1, ← zI_n 1]
  by_cases hc : D < n9
  · rw [if_pos ((zI_le (by omega) (by omega)).mpr (by omega)), if_neg (by omega)]
    exact zI_nat (by omega)
  · rw [if_neg (fun z => hc (by have := (zI_le (by omega) (by omega)).mp z; omega)), if_pos (by omega)]
theorem e_extra {h : Hp} {B : Br} (hB : CB h B) {p1 p2 p3 : Int32} (b k m : Nat) (h1 : p1 = nI b) (h2 : p2 = nI k) (h3 : p3 = nI m) (hb : b < 2) (hk : k < 8) (hm : B.2.2.2 k 2 ≤ m) (Q : Int32 → Prop) : w_X4_extra 3 p1 p2 p3 h Q = Q (nI (extraB B b k m)) := by
  have f12 : h 3 12 = nI (B.1 10) := hB.1.1.2.2.2.2.2.2.2.2.2.2
  subst h1 h2 h3
  unfold w_X4_extra
  rw [e_trait hB k 4 rfl q4 hk (by decide), e_trait hB k 2 rfl q2 hk (by decide), f12, pk_sub hm, pk_mul]
  congr 1
  have e1 : (if ¬ nI b = 0 then nI (B.1 10) else 0) = nI (if b = 0 then 0 else B.1 10) := by
    by_cases hb0 : b = 0
    · subst hb0
      rw [if_neg (fun z => z rfl), if_pos rfl]
      rfl
    · rw [if_pos (nI_ne0 (by omega) (by omega)), if_neg hb0]
  rw [e1, nI_add]
  rfl
theorem e_shadowOf {h : Hp} {p0 p1 : Int32} (hh a : Nat) (h0 : p0 = nI hh) (h1 : p1 = nI a) (hb : hh ≤ 999) (ha : a ≤ 5400) (Q : Int32 → Prop) : w_X8_shadowOf p0 p1 h Q = Q (nI (shB hh a)) := by
  subst h0 h1
  unfold w_X8_shadowOf shB
  by_cases hc : a = 0
  · subst hc
    rw [wif_f (by decide), if_pos rfl]
    rfl
  · have h3 : hh * (5400 - a) ≤ 999 * 5400 := Nat.mul_le_mul hb (by omega)
    have h4 : hh * (5400 - a) / a ≤ hh * (5400 - a) := Nat.div_le_self _ _
    rw [q0, wif_t ((nI_ltI (by omega) (by omega)).mpr (by omega)), ← q0, and_t (nI_ne0 (by omega) (by omega)), if_neg hc, q5400, pk_sub ha, pk_mul, pk_div (by omega) (by omega) (by omega), q9999]
    by_cases h1 : hh * (5400 - a) / a < 9999
    · rw [if_pos ((nI_ltI (by omega) (by omega)).mpr h1), if_pos h1]
    · rw [if_neg (fun z => h1 ((nI_ltI (by omega) (by omega)).mp z)), if_neg h1]
theorem all_bits : ∀ n, n < 9 → (1 : Int32) <<< (nI n &&& 31) - 1 = nI (2 ^ n - 1) := by decide +kernel
theorem e_everybody {h : Hp} {B : Br} (hB : CB h B) (Q : Int32 → Prop) : w_X4_everybody 3 h Q = Q (nI (2 ^ B.1 0 - 1)) := by
  have f4 : h 3 4 = nI (B.1 0) := hB.1.1.1
  have w0 := hB.2.2.1
  unfold w_X4_everybody
  rw [f4, all_bits _ (by omega)]
