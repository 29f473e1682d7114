/-! bits of small numbers -/
theorem s5 : ∀ n, n < 32 → ((nI n &&& 31).toBitVec.smod 32).toNat = n := by decide +kernel
theorem bit_t {x k : Nat} (hx : x < 2 ^ 31) (hk : k < 32) : (nI x >>> (nI k &&& 31)) &&& 1 = if x.testBit k then 1 else 0 := by
  have h1 : x / 2 ^ k < 2 ^ 32 := Nat.lt_of_le_of_lt (Nat.div_le_self _ _) (by omega)
  rw [pk_shrN hx _ k (s5 k hk), pk_andN h1 1 (by decide), Nat.testBit_eq_decide_div_mod_eq]
  by_cases c : x / 2 ^ k % 2 = 1
  · rw [if_pos (by simpa using c), show x / 2 ^ k % 2 ^ 1 = 1 from c]
    rfl
  · rw [if_neg (by simpa using c), show x / 2 ^ k % 2 ^ 1 = 0 from by omega]
    rfl
theorem nI_bv (n : Nat) : (nI n).toBitVec = BitVec.ofNat 32 n := rfl
theorem nx_and2 (a b : Nat) : nI a &&& nI b = nI (a &&& b) := by
  apply Int32.toBitVec_inj.mp
  rw [Int32.toBitVec_and, nI_bv, nI_bv, nI_bv, BitVec.ofNat_and]
theorem nx_or2 (a b : Nat) : nI a ||| nI b = nI (a ||| b) := by
  apply Int32.toBitVec_inj.mp
  rw [Int32.toBitVec_or, nI_bv, nI_bv, nI_bv, BitVec.ofNat_or]
theorem shl1 : ∀ k, k < 31 → (1 : Int32) <<< (nI k &&& 31) = nI (2 ^ k) := by decide +kernel
theorem or_bit (g : Nat) {k : Nat} (hk : k < 31) : nI g ||| ((1 : Int32) <<< (nI k &&& 31)) = nI (g ||| 2 ^ k) := by rw [shl1 k hk, nx_or2]
theorem tb8 {g i : Nat} (hg : g < 256) (hi : 8 ≤ i) : g.testBit i = false :=
  Nat.testBit_lt_two_pow (Nat.lt_of_lt_of_le hg (Nat.pow_le_pow_right (by decide) hi : 2 ^ 8 ≤ 2 ^ i))
/-- a without those of g -/
def andn (a g : Nat) : Nat := a &&& (g ^^^ 255)
theorem andn_lt {a g : Nat} (ha : a < 256) : andn a g < 256 := Nat.lt_of_le_of_lt Nat.and_le_left ha
theorem tb255 (i : Nat) : (255 : Nat).testBit i = decide (i < 8) := Nat.testBit_two_pow_sub_one 8 i
theorem andn_tb (a g : Nat) {i : Nat} (hi : i < 8) : (andn a g).testBit i = (a.testBit i && !g.testBit i) := by
  unfold andn
  rw [Nat.testBit_and, Nat.testBit_xor, tb255]
  simp [hi]
theorem andn_i {a g : Nat} (ha : a < 256) : nI a &&& (nI g ^^^ -1) = nI (andn a g) := by
  apply Int32.toBitVec_inj.mp
  apply BitVec.eq_of_getLsbD_eq
  intro i hi
  have h1 : ((-1 : Int32)).toBitVec = BitVec.allOnes 32 := by decide
  rw [Int32.toBitVec_and, Int32.toBitVec_xor, nI_bv, nI_bv, nI_bv, h1, BitVec.getLsbD_and, BitVec.getLsbD_xor, BitVec.getLsbD_ofNat, BitVec.getLsbD_ofNat, BitVec.getLsbD_ofNat, BitVec.getLsbD_allOnes]
  unfold andn
  rw [Nat.testBit_and, Nat.testBit_xor, tb255]
  by_cases h8 : i < 8
  · simp [h8, hi]
  · rw [tb8 ha (by omega)]
    simp
def onesN : Nat → Nat → Nat
  | 0, _ => 0
  | n + 1, x => onesN n x + (if x.testBit n then 1 else 0)
def sub8 (g b : Nat) : Prop := ∀ k, k < 8 → g.testBit k = true → b.testBit k = true
theorem andn_0 {g b : Nat} (hg : g < 256) : andn g b = 0 ↔ sub8 g b := by
  constructor
  · intro h k hk hgk
    have h1 := andn_tb g b hk
    rw [h, hgk, Nat.zero_testBit] at h1
    cases h2 : b.testBit k with
    | true => rfl
    | false => rw [h2] at h1; simp at h1
  · intro h
    apply Nat.eq_of_testBit_eq
    intro i
    rw [Nat.zero_testBit]
    by_cases h8 : i < 8
    · rw [andn_tb g b h8]
      cases h1 : g.testBit i with
      | false => rfl
      | true => rw [h i h8 h1]; rfl
    · exact tb8 (andn_lt hg) (by omega)
theorem or_lt {g k : Nat} (hg : g < 256) (hk : k < 8) : g ||| 2 ^ k < 256 := by
  have h1 : 2 ^ k < 2 ^ 8 := Nat.pow_lt_pow_right (by decide) hk
  exact Nat.or_lt_two_pow (n := 8) hg h1
theorem or_tb (g k i : Nat) : (g ||| 2 ^ k).testBit i = (g.testBit i || decide (k = i)) := by
  rw [Nat.testBit_or, Nat.testBit_two_pow]
theorem or_sub {g b k : Nat} (h : sub8 g b) (hk : b.testBit k = true) : sub8 (g ||| 2 ^ k) b := by
  intro i hi h1
  rw [or_tb] at h1
  by_cases h2 : k = i
  · rw [← h2]; exact hk
  · simp [h2] at h1
    exact h i hi h1
theorem onesN_le : ∀ (n x : Nat), onesN n x ≤ n
  | 0, _ => Nat.le_refl _
  | n + 1, x => by
    have := onesN_le n x
    unfold onesN
    split <;> omega
theorem onesN_congr {x y : Nat} : ∀ (n : Nat), (∀ i, i < n → x.testBit i = y.testBit i) → onesN n x = onesN n y
  | 0, _ => rfl
  | n + 1, h => by
    unfold onesN
    rw [onesN_congr n (fun i hi => h i (by omega)), h n (by omega)]
/-- one bit less -/
theorem onesN_less {b g k : Nat} (hb : b.testBit k = true) (hg : g.testBit k = false) : ∀ (n : Nat), n ≤ 8 → onesN n (andn b g) = onesN n (andn b (g ||| 2 ^ k)) + (if k < n then 1 else 0)
  | 0, _ => by simp [onesN]
  | n + 1, hn => by
    have ih := onesN_less hb hg n (by omega)
    unfold onesN
    rw [andn_tb b g (by omega), andn_tb b _ (by omega), or_tb]
    by_cases h1 : k = n
    · subst h1
      rw [ih, hb, hg]
      simp
    · have e1 : decide (k = n) = false := by simpa using h1
      rw [ih, e1, Bool.or_false]
      by_cases h2 : k < n
      · rw [if_pos h2, if_pos (show k < n + 1 by omega)]
        omega
      · rw [if_neg h2, if_neg (show ¬ k < n + 1 by omega)]
        rw [Nat.add_zero, Nat.add_zero]
