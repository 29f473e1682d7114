/-! the words that the printed proofs use, by their places in lw_tbl; constants; kinds of places -/
theorem w_101 : Cond.initialized RX8 ∈ TT := tt_in 101 (by decide +kernel) (by decide +kernel)
theorem w_114 : Cond.initialized "java/lang/IllegalArgumentException" ∈ TT := tt_in 114 (by decide +kernel) (by decide +kernel)
theorem w_176 : Cond.fieldLink RX4 15 RX4 "noons" "[I" ∈ TT := tt_in 176 (by decide +kernel) (by decide +kernel)
theorem w_181 : Cond.fieldLink RX4 21 RX4 "people" "[I" ∈ TT := tt_in 181 (by decide +kernel) (by decide +kernel)
theorem w_185 : Cond.fieldLink RX4 35 RX4 "falls" "I" ∈ TT := tt_in 185 (by decide +kernel) (by decide +kernel)
theorem w_201 : Cond.fieldLink RX4 50 RX4 "lamp" "I" ∈ TT := tt_in 201 (by decide +kernel) (by decide +kernel)
theorem w_204 : Cond.fieldLink RX4 53 RX4 "early" "I" ∈ TT := tt_in 204 (by decide +kernel) (by decide +kernel)
theorem w_518 : Cond.static yX8_at ∈ TT := tt_in 518 (by decide +kernel) (by decide +kernel)
theorem w_519 : Cond.code yX8_at cX8_at 2 (some .int) ∈ TT := tt_in 519 (by decide +kernel) (by decide +kernel)
theorem w_549 : Cond.methodLinkNest RX4 70 yX8_at RX8 ∈ TT := tt_in 549 (by decide +kernel) (by decide +kernel)
theorem w_579 : Cond.methodLink RX4 87 yJ9_abs_0f7a4 ∈ TT := tt_in 579 (by decide +kernel) (by decide +kernel)
theorem w_706 : Cond.classLink RX8 169 "java/lang/IllegalArgumentException" ∈ TT := tt_in 706 (by decide +kernel) (by decide +kernel)
theorem kb_30 : (Int8.ofInt (30)).toInt32 = (30 : Int32) := by decide +kernel
theorem kb_7 : (Int8.ofInt (7)).toInt32 = (7 : Int32) := by decide +kernel
theorem ki_0 : Int32.ofInt (0) = (0 : Int32) := by decide +kernel
theorem ki_1 : Int32.ofInt (1) = (1 : Int32) := by decide +kernel
theorem ks_720 : (Int16.ofInt (720)).toInt32 = (720 : Int32) := by decide +kernel
