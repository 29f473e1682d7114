/-! the words of a toll's text -/
theorem letsT_w : ∀ i : Fin 11, (wOf (i.val + 13)).length ≤ 9 ∧ ∀ j : Fin 9, j.val < (wOf (i.val + 13)).length → 97 ≤ (wOf (i.val + 13)).getD j.val 0 ∧ (wOf (i.val + 13)).getD j.val 0 ≤ 122 := by decide +kernel
theorem letsT {i : Nat} (h : i < 11) : lets (wOf (i + 13)) := ⟨(letsT_w ⟨i, h⟩).1, fun j hj => (letsT_w ⟨i, h⟩).2 ⟨j, by have := (letsT_w ⟨i, h⟩).1; show j < 9; simp only at this; omega⟩ hj⟩
theorem tcode_pay : fiv 16 1 25 0 0 = lz (codeW (wOf 13) : Nat) := by decide +kernel
theorem tcode_shadow : (27 : Int64) * (fiv 19 8 1 4 15) + (23 : Int64) = lz (codeW (wOf 14) : Nat) := by decide +kernel
theorem tcode_height : (27 : Int64) * (fiv 8 5 9 7 8) + (20 : Int64) = lz (codeW (wOf 15) : Nat) := by decide +kernel
theorem tcode_weight : (27 : Int64) * (fiv 23 5 9 7 8) + (20 : Int64) = lz (codeW (wOf 16) : Nat) := by decide +kernel
theorem tcode_hour : fiv 8 15 21 18 0 = lz (codeW (wOf 17) : Nat) := by decide +kernel
theorem tcode_day : fiv 4 1 25 0 0 = lz (codeW (wOf 18) : Nat) := by decide +kernel
theorem tcode_feast : fiv 6 5 1 19 20 = lz (codeW (wOf 19) : Nat) := by decide +kernel
theorem tcode_if : (249 : Int64) = lz (codeW (wOf 20) : Nat) := by decide +kernel
theorem tcode_not : fiv 14 15 20 0 0 = lz (codeW (wOf 21) : Nat) := by decide +kernel
theorem tcode_and : fiv 1 14 4 0 0 = lz (codeW (wOf 22) : Nat) := by decide +kernel
theorem tcode_or : (423 : Int64) = lz (codeW (wOf 23) : Nat) := by decide +kernel
/-- which name stands at p: 1 to 6, or 0 -/
def nmN (T : Nat → Int32) (L p : Nat) : Nat → Nat → Nat
  | 0, _ => 0
  | n + 1, i => if isW T L (wOf (i + 14)) p = true then i + 1 else nmN T L p n (i + 1)
def nmS (T : Nat → Int32) (L p : Nat) : Nat := nmN T L p 6 0
