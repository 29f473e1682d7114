/-! the words that the printed proofs use, by their places in lw_tbl; constants; kinds of places -/
theorem in_t1 : ∀ w ∈ tables_1_1, w ∈ lw_tbl := by
  intro w hw
  refine List.mem_append_right _ ?_
  simp only [tables_1, List.mem_append]
  simp only [hw, true_or, or_true]
theorem tt_1 {w : Cond} (h : w ∈ tables_1_1) (hc : cry w = true) : w ∈ TT := List.mem_filter.mpr ⟨in_t1 w h, hc⟩
theorem in_t2 : ∀ w ∈ tables_1_2, w ∈ lw_tbl := by
  intro w hw
  refine List.mem_append_right _ ?_
  simp only [tables_1, List.mem_append]
  simp only [hw, true_or, or_true]
theorem tt_2 {w : Cond} (h : w ∈ tables_1_2) (hc : cry w = true) : w ∈ TT := List.mem_filter.mpr ⟨in_t2 w h, hc⟩
theorem in_t3 : ∀ w ∈ tables_1_3, w ∈ lw_tbl := by
  intro w hw
  refine List.mem_append_right _ ?_
  simp only [tables_1, List.mem_append]
  simp only [hw, true_or, or_true]
theorem tt_3 {w : Cond} (h : w ∈ tables_1_3) (hc : cry w = true) : w ∈ TT := List.mem_filter.mpr ⟨in_t3 w h, hc⟩
theorem in_t4 : ∀ w ∈ tables_1_4, w ∈ lw_tbl := by
  intro w hw
  refine List.mem_append_right _ ?_
  simp only [tables_1, List.mem_append]
  simp only [hw, true_or, or_true]
theorem tt_4 {w : Cond} (h : w ∈ tables_1_4) (hc : cry w = true) : w ∈ TT := List.mem_filter.mpr ⟨in_t4 w h, hc⟩
theorem in_t5 : ∀ w ∈ tables_1_5, w ∈ lw_tbl := by
  intro w hw
  refine List.mem_append_right _ ?_
  simp only [tables_1, List.mem_append]
  simp only [hw, true_or, or_true]
theorem tt_5 {w : Cond} (h : w ∈ tables_1_5) (hc : cry w = true) : w ∈ TT := List.mem_filter.mpr ⟨in_t5 w h, hc⟩
theorem in_t6 : ∀ w ∈ tables_1_6, w ∈ lw_tbl := by
  intro w hw
  refine List.mem_append_right _ ?_
  simp only [tables_1, List.mem_append]
  simp only [hw, true_or, or_true]
theorem tt_6 {w : Cond} (h : w ∈ tables_1_6) (hc : cry w = true) : w ∈ TT := List.mem_filter.mpr ⟨in_t6 w h, hc⟩
theorem in_t7 : ∀ w ∈ tables_1_7, w ∈ lw_tbl := by
  intro w hw
  refine List.mem_append_right _ ?_
  simp only [tables_1, List.mem_append]
  simp only [hw, true_or, or_true]
theorem tt_7 {w : Cond} (h : w ∈ tables_1_7) (hc : cry w = true) : w ∈ TT := List.mem_filter.mpr ⟨in_t7 w h, hc⟩
theorem in_t8 : ∀ w ∈ tables_1_8, w ∈ lw_tbl := by
  intro w hw
  refine List.mem_append_right _ ?_
  simp only [tables_1, List.mem_append]
  simp only [hw, true_or, or_true]
theorem tt_8 {w : Cond} (h : w ∈ tables_1_8) (hc : cry w = true) : w ∈ TT := List.mem_filter.mpr ⟨in_t8 w h, hc⟩
theorem w_0 : Cond.selects RX4 yX4_beUntold yX4_beUntold ∈ TT := tt_in 0 (by decide +kernel) (by decide +kernel)
theorem w_1 : Cond.selects RX3 yX3_clear yX3_clear ∈ TT := tt_in 1 (by decide +kernel) (by decide +kernel)
theorem w_2 : Cond.selects RX8 yX8_mostOf yX8_mostOf ∈ TT := tt_in 2 (by decide +kernel) (by decide +kernel)
theorem w_3 : Cond.selects RX2 yX2_rank yX2_rank ∈ TT := tt_in 3 (by decide +kernel) (by decide +kernel)
theorem w_4 : Cond.selects RX8 yX8_lawOf yX8_lawOf ∈ TT := tt_in 4 (by decide +kernel) (by decide +kernel)
theorem w_5 : Cond.selects RX8 yX8_lawAt yX8_lawAt ∈ TT := tt_in 5 (by decide +kernel) (by decide +kernel)
theorem w_6 : Cond.selects RX2 yX2_solveFrom yX2_solveFrom ∈ TT := tt_in 6 (by decide +kernel) (by decide +kernel)
theorem w_7 : Cond.selects RX2 yX2_weigh yX2_weigh ∈ TT := tt_in 7 (by decide +kernel) (by decide +kernel)
theorem w_8 : Cond.selects RX2 yX2_restBehind yX2_restBehind ∈ TT := tt_in 8 (by decide +kernel) (by decide +kernel)
theorem w_9 : Cond.selects RX2 yX2_shadeReaches yX2_shadeReaches ∈ TT := tt_in 9 (by decide +kernel) (by decide +kernel)
theorem w_10 : Cond.selects RX6 yX6_nextSky yX6_nextSky ∈ TT := tt_in 10 (by decide +kernel) (by decide +kernel)
theorem w_11 : Cond.selects RX8 yX8_keptAt yX8_keptAt ∈ TT := tt_in 11 (by decide +kernel) (by decide +kernel)
theorem w_13 : Cond.selects RX5 yX5_clause yX5_clause ∈ TT := tt_in 13 (by decide +kernel) (by decide +kernel)
theorem w_14 : Cond.selects RX5 yX5_clauseWord yX5_clauseWord ∈ TT := tt_in 14 (by decide +kernel) (by decide +kernel)
theorem w_15 : Cond.selects RX5 yX5_parts yX5_parts ∈ TT := tt_in 15 (by decide +kernel) (by decide +kernel)
theorem w_16 : Cond.selects RX5 yX5_sun yX5_sun ∈ TT := tt_in 16 (by decide +kernel) (by decide +kernel)
theorem w_17 : Cond.selects RX5 yX5_keeper yX5_keeper ∈ TT := tt_in 17 (by decide +kernel) (by decide +kernel)
theorem w_18 : Cond.selects RX5 yX5_traits yX5_traits ∈ TT := tt_in 18 (by decide +kernel) (by decide +kernel)
theorem w_19 : Cond.selects RX5 yX5_trait yX5_trait ∈ TT := tt_in 19 (by decide +kernel) (by decide +kernel)
theorem w_20 : Cond.selects RX5 yX5_secondBridge yX5_secondBridge ∈ TT := tt_in 20 (by decide +kernel) (by decide +kernel)
theorem w_21 : Cond.selects RX5 yX5_single yX5_single ∈ TT := tt_in 21 (by decide +kernel) (by decide +kernel)
theorem w_22 : Cond.selects RX1 yX1_number yX1_number ∈ TT := tt_in 22 (by decide +kernel) (by decide +kernel)
theorem w_23 : Cond.selects RX1 yX1_unit yX1_unit ∈ TT := tt_in 23 (by decide +kernel) (by decide +kernel)
theorem w_24 : Cond.selects RX1 yX1_condition yX1_condition ∈ TT := tt_in 24 (by decide +kernel) (by decide +kernel)
theorem w_25 : Cond.selects RX1 yX1_clause yX1_clause ∈ TT := tt_in 25 (by decide +kernel) (by decide +kernel)
theorem w_26 : Cond.selects RX8 yX8_needTraveller yX8_needTraveller ∈ TT := tt_in 26 (by decide +kernel) (by decide +kernel)
theorem w_27 : Cond.selects RX8 yX8_needBridge yX8_needBridge ∈ TT := tt_in 27 (by decide +kernel) (by decide +kernel)
theorem w_28 : Cond.selects RX8 yX8_bestMinute yX8_bestMinute ∈ TT := tt_in 28 (by decide +kernel) (by decide +kernel)
theorem w_29 : Cond.selects RX8 yX8_expense yX8_expense ∈ TT := tt_in 29 (by decide +kernel) (by decide +kernel)
theorem w_30 : Cond.selects RX8 yX8_needPlan yX8_needPlan ∈ TT := tt_in 30 (by decide +kernel) (by decide +kernel)
theorem w_31 : Cond.selects RX8 yX8_planFor yX8_planFor ∈ TT := tt_in 31 (by decide +kernel) (by decide +kernel)
theorem w_32 : Cond.selects RX2 yX2_forgetSums yX2_forgetSums ∈ TT := tt_in 32 (by decide +kernel) (by decide +kernel)
theorem w_33 : Cond.selects RX2 yX2_holderOf yX2_holderOf ∈ TT := tt_in 33 (by decide +kernel) (by decide +kernel)
theorem w_34 : Cond.selects RX2 yX2_coinsIn yX2_coinsIn ∈ TT := tt_in 34 (by decide +kernel) (by decide +kernel)
theorem w_35 : Cond.selects RX2 yX2_addUp yX2_addUp ∈ TT := tt_in 35 (by decide +kernel) (by decide +kernel)
theorem w_36 : Cond.selects RX2 yX2_minuteOf yX2_minuteOf ∈ TT := tt_in 36 (by decide +kernel) (by decide +kernel)
theorem w_37 : Cond.selects RX0 yX0_addLine yX0_addLine ∈ TT := tt_in 37 (by decide +kernel) (by decide +kernel)
theorem w_38 : Cond.selects RX8 yX8_reckonTakings yX8_reckonTakings ∈ TT := tt_in 38 (by decide +kernel) (by decide +kernel)
theorem w_39 : Cond.selects RX8 yX8_bestReply yX8_bestReply ∈ TT := tt_in 39 (by decide +kernel) (by decide +kernel)
theorem w_40 : Cond.selects RX8 yX8_paysLedger yX8_paysLedger ∈ TT := tt_in 40 (by decide +kernel) (by decide +kernel)
theorem w_41 : Cond.selects RX8 yX8_planDays yX8_planDays ∈ TT := tt_in 41 (by decide +kernel) (by decide +kernel)
theorem w_42 : Cond.selects RX9 yX9_bad yX9_bad ∈ TT := tt_in 42 (by decide +kernel) (by decide +kernel)
theorem w_43 : Cond.selects RX9 yX9_starts yX9_starts ∈ TT := tt_in 43 (by decide +kernel) (by decide +kernel)
theorem w_44 : Cond.selects RX9 yX9_blanks yX9_blanks ∈ TT := tt_in 44 (by decide +kernel) (by decide +kernel)
theorem w_45 : Cond.selects RX9 yX9_byteAt yX9_byteAt ∈ TT := tt_in 45 (by decide +kernel) (by decide +kernel)
theorem w_46 : Cond.selects RX9 yX9_clause yX9_clause ∈ TT := tt_in 46 (by decide +kernel) (by decide +kernel)
theorem w_47 : Cond.selects RX9 yX9_kindHere yX9_kindHere ∈ TT := tt_in 47 (by decide +kernel) (by decide +kernel)
theorem w_48 : Cond.selects RX9 yX9_isWord yX9_isWord ∈ TT := tt_in 48 (by decide +kernel) (by decide +kernel)
theorem w_49 : Cond.selects RX9 yX9_wordHere yX9_wordHere ∈ TT := tt_in 49 (by decide +kernel) (by decide +kernel)
theorem w_50 : Cond.selects RX9 yX9_wrong yX9_wrong ∈ TT := tt_in 50 (by decide +kernel) (by decide +kernel)
theorem w_51 : Cond.selects RX9 yX9_skipWord yX9_skipWord ∈ TT := tt_in 51 (by decide +kernel) (by decide +kernel)
theorem w_52 : Cond.selects RX9 yX9_reads yX9_reads ∈ TT := tt_in 52 (by decide +kernel) (by decide +kernel)
theorem w_53 : Cond.selects RX9 yX9_number yX9_number ∈ TT := tt_in 53 (by decide +kernel) (by decide +kernel)
theorem w_54 : Cond.selects RX9 yX9_readsWho yX9_readsWho ∈ TT := tt_in 54 (by decide +kernel) (by decide +kernel)
theorem w_55 : Cond.selects RX9 yX9_sign yX9_sign ∈ TT := tt_in 55 (by decide +kernel) (by decide +kernel)
theorem w_56 : Cond.selects RX9 yX9_pays yX9_pays ∈ TT := tt_in 56 (by decide +kernel) (by decide +kernel)
theorem w_57 : Cond.selects RX9 yX9_sum yX9_sum ∈ TT := tt_in 57 (by decide +kernel) (by decide +kernel)
theorem w_58 : Cond.selects RX9 yX9_product yX9_product ∈ TT := tt_in 58 (by decide +kernel) (by decide +kernel)
theorem w_59 : Cond.selects RX9 yX9_unit yX9_unit ∈ TT := tt_in 59 (by decide +kernel) (by decide +kernel)
theorem w_60 : Cond.selects RX9 yX9_signHere yX9_signHere ∈ TT := tt_in 60 (by decide +kernel) (by decide +kernel)
theorem w_61 : Cond.selects RX9 yX9_nameHere yX9_nameHere ∈ TT := tt_in 61 (by decide +kernel) (by decide +kernel)
theorem w_62 : Cond.selects RX9 yX9_tells yX9_tells ∈ TT := tt_in 62 (by decide +kernel) (by decide +kernel)
theorem w_63 : Cond.selects RX9 yX9_opens yX9_opens ∈ TT := tt_in 63 (by decide +kernel) (by decide +kernel)
theorem w_64 : Cond.selects RX9 yX9_eats yX9_eats ∈ TT := tt_in 64 (by decide +kernel) (by decide +kernel)
theorem w_65 : Cond.selects RX9 yX9_ors yX9_ors ∈ TT := tt_in 65 (by decide +kernel) (by decide +kernel)
theorem w_66 : Cond.selects RX9 yX9_ands yX9_ands ∈ TT := tt_in 66 (by decide +kernel) (by decide +kernel)
theorem w_67 : Cond.selects RX9 yX9_asked yX9_asked ∈ TT := tt_in 67 (by decide +kernel) (by decide +kernel)
theorem w_68 : Cond.selects RX9 yX9_isWho yX9_isWho ∈ TT := tt_in 68 (by decide +kernel) (by decide +kernel)
theorem w_69 : Cond.selects RX9 yX9_noon yX9_noon ∈ TT := tt_in 69 (by decide +kernel) (by decide +kernel)
theorem w_70 : Cond.selects RX9 yX9_isBridge yX9_isBridge ∈ TT := tt_in 70 (by decide +kernel) (by decide +kernel)
theorem w_71 : Cond.selects RX9 yX9_altitudeOf yX9_altitudeOf ∈ TT := tt_in 71 (by decide +kernel) (by decide +kernel)
theorem w_72 : Cond.selects RX9 yX9_shadowOf yX9_shadowOf ∈ TT := tt_in 72 (by decide +kernel) (by decide +kernel)
theorem w_73 : Cond.selects RX9 yX9_coinsOf yX9_coinsOf ∈ TT := tt_in 73 (by decide +kernel) (by decide +kernel)
theorem w_74 : Cond.selects RX9 yX9_paid yX9_paid ∈ TT := tt_in 74 (by decide +kernel) (by decide +kernel)
theorem w_75 : Cond.selects RX9 yX9_comes yX9_comes ∈ TT := tt_in 75 (by decide +kernel) (by decide +kernel)
theorem w_76 : Cond.selects RX9 yX9_bestMinute yX9_bestMinute ∈ TT := tt_in 76 (by decide +kernel) (by decide +kernel)
theorem w_77 : Cond.selects RX9 yX9_canCome yX9_canCome ∈ TT := tt_in 77 (by decide +kernel) (by decide +kernel)
theorem w_78 : Cond.selects RX9 yX9_costOf yX9_costOf ∈ TT := tt_in 78 (by decide +kernel) (by decide +kernel)
theorem w_79 : Cond.selects RX9 yX9_slotsOf yX9_slotsOf ∈ TT := tt_in 79 (by decide +kernel) (by decide +kernel)
theorem w_80 : Cond.selects RX9 yX9_isPlan yX9_isPlan ∈ TT := tt_in 80 (by decide +kernel) (by decide +kernel)
theorem w_81 : Cond.selects RX9 yX9_everybody yX9_everybody ∈ TT := tt_in 81 (by decide +kernel) (by decide +kernel)
theorem w_82 : Cond.selects RX9 yX9_findPlan yX9_findPlan ∈ TT := tt_in 82 (by decide +kernel) (by decide +kernel)
theorem w_83 : Cond.selects RX9 yX9_layCoins yX9_layCoins ∈ TT := tt_in 83 (by decide +kernel) (by decide +kernel)
theorem w_84 : Cond.selects RX9 yX9_minuteOf yX9_minuteOf ∈ TT := tt_in 84 (by decide +kernel) (by decide +kernel)
theorem w_85 : Cond.selects RX9 yX9_layLeast yX9_layLeast ∈ TT := tt_in 85 (by decide +kernel) (by decide +kernel)
theorem w_86 : Cond.selects RX9 yX9_lastAt yX9_lastAt ∈ TT := tt_in 86 (by decide +kernel) (by decide +kernel)
theorem w_87 : Cond.selects RX9 yX9_leastAt yX9_leastAt ∈ TT := tt_in 87 (by decide +kernel) (by decide +kernel)
theorem w_88 : Cond.selects RX9 yX9_canHave yX9_canHave ∈ TT := tt_in 88 (by decide +kernel) (by decide +kernel)
theorem w_89 : Cond.selects RX9 yX9_isDark yX9_isDark ∈ TT := tt_in 89 (by decide +kernel) (by decide +kernel)
theorem w_90 : Cond.selects RX9 yX9_high yX9_high ∈ TT := tt_in 90 (by decide +kernel) (by decide +kernel)
theorem w_91 : Cond.selects RX9 yX9_mostOf yX9_mostOf ∈ TT := tt_in 91 (by decide +kernel) (by decide +kernel)
theorem w_92 : Cond.selects RX9 yX9_takenOf yX9_takenOf ∈ TT := tt_in 92 (by decide +kernel) (by decide +kernel)
theorem w_93 : Cond.selects RX9 yX9_answers yX9_answers ∈ TT := tt_in 93 (by decide +kernel) (by decide +kernel)
theorem w_94 : Cond.selects RX9 yX9_skyNow yX9_skyNow ∈ TT := tt_in 94 (by decide +kernel) (by decide +kernel)
theorem w_95 : Cond.selects RX9 yX9_areDays yX9_areDays ∈ TT := tt_in 95 (by decide +kernel) (by decide +kernel)
theorem w_96 : Cond.selects RX9 yX9_layPlans yX9_layPlans ∈ TT := tt_in 96 (by decide +kernel) (by decide +kernel)
theorem w_97 : Cond.selects RX9 yX9_seasonOf yX9_seasonOf ∈ TT := tt_in 97 (by decide +kernel) (by decide +kernel)
theorem w_98 : Cond.selects RX9 yX9_movesAll yX9_movesAll ∈ TT := tt_in 98 (by decide +kernel) (by decide +kernel)
theorem w_99 : Cond.selects RX9 yX9_moves yX9_moves ∈ TT := tt_in 99 (by decide +kernel) (by decide +kernel)
set_option maxRecDepth 8000 in
theorem w_101 : Cond.initialized RX8 ∈ TT := tt_1 (List.mem_of_getElem? (i := 1) rfl) rfl
set_option maxRecDepth 8000 in
theorem w_102 : Cond.initialized RX7 ∈ TT := tt_1 (List.mem_of_getElem? (i := 2) rfl) rfl
set_option maxRecDepth 8000 in
theorem w_103 : Cond.initialized RX4 ∈ TT := tt_1 (List.mem_of_getElem? (i := 3) rfl) rfl
set_option maxRecDepth 8000 in
theorem w_104 : Cond.initialized RX0 ∈ TT := tt_1 (List.mem_of_getElem? (i := 4) rfl) rfl
set_option maxRecDepth 8000 in
theorem w_105 : Cond.initialized RX5 ∈ TT := tt_1 (List.mem_of_getElem? (i := 5) rfl) rfl
set_option maxRecDepth 8000 in
theorem w_106 : Cond.initialized RX1 ∈ TT := tt_1 (List.mem_of_getElem? (i := 6) rfl) rfl
set_option maxRecDepth 8000 in
theorem w_107 : Cond.initialized RX2 ∈ TT := tt_1 (List.mem_of_getElem? (i := 7) rfl) rfl
set_option maxRecDepth 8000 in
theorem w_108 : Cond.initialized RX6 ∈ TT := tt_1 (List.mem_of_getElem? (i := 8) rfl) rfl
set_option maxRecDepth 8000 in
theorem w_109 : Cond.initialized RX3 ∈ TT := tt_1 (List.mem_of_getElem? (i := 9) rfl) rfl
set_option maxRecDepth 8000 in
theorem w_110 : Cond.initialized RX9 ∈ TT := tt_1 (List.mem_of_getElem? (i := 10) rfl) rfl
set_option maxRecDepth 8000 in
theorem w_114 : Cond.initialized "java/lang/IllegalArgumentException" ∈ TT := tt_1 (List.mem_of_getElem? (i := 14) rfl) rfl
set_option maxRecDepth 8000 in
theorem w_120 : Cond.initialized "java/lang/IndexOutOfBoundsException" ∈ TT := tt_1 (List.mem_of_getElem? (i := 20) rfl) rfl
set_option maxRecDepth 8000 in
theorem w_122 : Cond.initialized RJ6 ∈ TT := tt_1 (List.mem_of_getElem? (i := 22) rfl) rfl
set_option maxRecDepth 8000 in
theorem w_123 : Cond.initialized "java/lang/IllegalStateException" ∈ TT := tt_1 (List.mem_of_getElem? (i := 23) rfl) rfl
set_option maxRecDepth 8000 in
theorem w_138 : Cond.fieldLink RX7 9 RX7 "bytes" "[I" ∈ TT := tt_1 (List.mem_of_getElem? (i := 38) rfl) rfl
set_option maxRecDepth 8000 in
theorem w_139 : Cond.fieldLink RX7 19 RX7 "fed" "I" ∈ TT := tt_1 (List.mem_of_getElem? (i := 39) rfl) rfl
set_option maxRecDepth 8000 in
theorem w_140 : Cond.fieldLinkNest RX8 102 RX7 "fed" "I" RX8 ∈ TT := tt_1 (List.mem_of_getElem? (i := 40) rfl) rfl
set_option maxRecDepth 8000 in
theorem w_141 : Cond.fieldLink RX7 26 RX7 "end" "I" ∈ TT := tt_1 (List.mem_of_getElem? (i := 41) rfl) rfl
set_option maxRecDepth 8000 in
theorem w_142 : Cond.fieldLink RX7 29 RX7 "spot" "I" ∈ TT := tt_1 (List.mem_of_getElem? (i := 42) rfl) rfl
set_option maxRecDepth 8000 in
theorem w_143 : Cond.fieldLinkNest RX8 117 RX7 "fault" "I" RX8 ∈ TT := tt_1 (List.mem_of_getElem? (i := 43) rfl) rfl
set_option maxRecDepth 8000 in
theorem w_144 : Cond.fieldLink RX7 32 RX7 "fault" "I" ∈ TT := tt_1 (List.mem_of_getElem? (i := 44) rfl) rfl
set_option maxRecDepth 8000 in
theorem w_145 : Cond.fieldLink RX7 15 RX7 "place" "I" ∈ TT := tt_1 (List.mem_of_getElem? (i := 45) rfl) rfl
set_option maxRecDepth 8000 in
theorem w_146 : Cond.fieldLinkNest RX8 141 RX7 "place" "I" RX8 ∈ TT := tt_1 (List.mem_of_getElem? (i := 46) rfl) rfl
set_option maxRecDepth 8000 in
theorem w_169 : Cond.instanceMethod yX4_beUntold ∈ TT := tt_1 (List.mem_of_getElem? (i := 69) rfl) rfl
set_option maxRecDepth 8000 in
theorem w_170 : Cond.code yX4_beUntold cX4_beUntold 1 none ∈ TT := tt_1 (List.mem_of_getElem? (i := 70) rfl) rfl
set_option maxRecDepth 8000 in
theorem w_171 : Cond.methodLinkNest RX4 27 yX8_fillRow RX8 ∈ TT := tt_1 (List.mem_of_getElem? (i := 71) rfl) rfl
set_option maxRecDepth 8000 in
theorem w_172 : Cond.static yX8_fillRow ∈ TT := tt_1 (List.mem_of_getElem? (i := 72) rfl) rfl
set_option maxRecDepth 8000 in
theorem w_173 : Cond.code yX8_fillRow cX8_fillRow 3 none ∈ TT := tt_1 (List.mem_of_getElem? (i := 73) rfl) rfl
set_option maxRecDepth 8000 in
theorem w_174 : Cond.fieldLink RX4 9 RX4 "suns" "[I" ∈ TT := tt_1 (List.mem_of_getElem? (i := 74) rfl) rfl
set_option maxRecDepth 8000 in
theorem w_175 : Cond.fieldLinkNest RX5 132 RX4 "suns" "[I" RX8 ∈ TT := tt_1 (List.mem_of_getElem? (i := 75) rfl) rfl
set_option maxRecDepth 8000 in
theorem w_176 : Cond.fieldLink RX4 15 RX4 "noons" "[I" ∈ TT := tt_1 (List.mem_of_getElem? (i := 76) rfl) rfl
set_option maxRecDepth 8000 in
theorem w_177 : Cond.fieldLinkNest RX8 186 RX4 "noons" "[I" RX8 ∈ TT := tt_1 (List.mem_of_getElem? (i := 77) rfl) rfl
set_option maxRecDepth 8000 in
theorem w_178 : Cond.fieldLink RX4 18 RX4 "feasts" "[I" ∈ TT := tt_1 (List.mem_of_getElem? (i := 78) rfl) rfl
set_option maxRecDepth 8000 in
theorem w_179 : Cond.fieldLinkNest RX5 119 RX4 "feasts" "[I" RX8 ∈ TT := tt_1 (List.mem_of_getElem? (i := 79) rfl) rfl
set_option maxRecDepth 8000 in
theorem w_180 : Cond.fieldLinkNest RX8 193 RX4 "feasts" "[I" RX8 ∈ TT := tt_1 (List.mem_of_getElem? (i := 80) rfl) rfl
set_option maxRecDepth 8000 in
theorem w_181 : Cond.fieldLink RX4 21 RX4 "people" "[I" ∈ TT := tt_1 (List.mem_of_getElem? (i := 81) rfl) rfl
set_option maxRecDepth 8000 in
theorem w_182 : Cond.fieldLink RX4 31 RX4 "travellers" "I" ∈ TT := tt_1 (List.mem_of_getElem? (i := 82) rfl) rfl
set_option maxRecDepth 8000 in
theorem w_183 : Cond.fieldLinkNest RX5 48 RX4 "travellers" "I" RX8 ∈ TT := tt_1 (List.mem_of_getElem? (i := 83) rfl) rfl
set_option maxRecDepth 8000 in
theorem w_184 : Cond.fieldLinkNest RX8 129 RX4 "travellers" "I" RX8 ∈ TT := tt_1 (List.mem_of_getElem? (i := 84) rfl) rfl
set_option maxRecDepth 8000 in
theorem w_185 : Cond.fieldLink RX4 35 RX4 "falls" "I" ∈ TT := tt_1 (List.mem_of_getElem? (i := 85) rfl) rfl
set_option maxRecDepth 8000 in
theorem w_186 : Cond.fieldLinkNest RX8 144 RX4 "falls" "I" RX8 ∈ TT := tt_1 (List.mem_of_getElem? (i := 86) rfl) rfl
set_option maxRecDepth 8000 in
theorem w_187 : Cond.fieldLinkNest RX5 115 RX4 "falls" "I" RX8 ∈ TT := tt_1 (List.mem_of_getElem? (i := 87) rfl) rfl
set_option maxRecDepth 8000 in
theorem w_188 : Cond.fieldLink RX4 38 RX4 "opens" "I" ∈ TT := tt_1 (List.mem_of_getElem? (i := 88) rfl) rfl
set_option maxRecDepth 8000 in
theorem w_189 : Cond.fieldLinkNest RX8 147 RX4 "opens" "I" RX8 ∈ TT := tt_1 (List.mem_of_getElem? (i := 89) rfl) rfl
set_option maxRecDepth 8000 in
theorem w_190 : Cond.fieldLinkNest RX5 135 RX4 "opens" "I" RX8 ∈ TT := tt_1 (List.mem_of_getElem? (i := 90) rfl) rfl
set_option maxRecDepth 8000 in
theorem w_191 : Cond.fieldLink RX4 41 RX4 "closes" "I" ∈ TT := tt_1 (List.mem_of_getElem? (i := 91) rfl) rfl
set_option maxRecDepth 8000 in
theorem w_192 : Cond.fieldLinkNest RX8 150 RX4 "closes" "I" RX8 ∈ TT := tt_1 (List.mem_of_getElem? (i := 92) rfl) rfl
set_option maxRecDepth 8000 in
theorem w_193 : Cond.fieldLinkNest RX5 138 RX4 "closes" "I" RX8 ∈ TT := tt_1 (List.mem_of_getElem? (i := 93) rfl) rfl
set_option maxRecDepth 8000 in
theorem w_194 : Cond.fieldLink RX4 44 RX4 "takes" "I" ∈ TT := tt_1 (List.mem_of_getElem? (i := 94) rfl) rfl
set_option maxRecDepth 8000 in
theorem w_195 : Cond.fieldLinkNest RX8 153 RX4 "takes" "I" RX8 ∈ TT := tt_1 (List.mem_of_getElem? (i := 95) rfl) rfl
set_option maxRecDepth 8000 in
theorem w_196 : Cond.fieldLinkNest RX5 117 RX4 "takes" "I" RX8 ∈ TT := tt_1 (List.mem_of_getElem? (i := 96) rfl) rfl
set_option maxRecDepth 8000 in
theorem w_197 : Cond.fieldLink RX4 47 RX4 "clouds" "I" ∈ TT := tt_1 (List.mem_of_getElem? (i := 97) rfl) rfl
set_option maxRecDepth 8000 in
theorem w_198 : Cond.fieldLinkNest RX6 38 RX4 "clouds" "I" RX8 ∈ TT := tt_1 (List.mem_of_getElem? (i := 98) rfl) rfl
set_option maxRecDepth 8000 in
theorem w_199 : Cond.fieldLinkNest RX8 156 RX4 "clouds" "I" RX8 ∈ TT := tt_1 (List.mem_of_getElem? (i := 99) rfl) rfl
set_option maxRecDepth 8000 in
theorem w_200 : Cond.fieldLinkNest RX5 127 RX4 "clouds" "I" RX8 ∈ TT := tt_1 (List.mem_of_getElem? (i := 100) rfl) rfl
set_option maxRecDepth 8000 in
theorem w_201 : Cond.fieldLink RX4 50 RX4 "lamp" "I" ∈ TT := tt_1 (List.mem_of_getElem? (i := 101) rfl) rfl
set_option maxRecDepth 8000 in
theorem w_202 : Cond.fieldLinkNest RX8 159 RX4 "lamp" "I" RX8 ∈ TT := tt_1 (List.mem_of_getElem? (i := 102) rfl) rfl
set_option maxRecDepth 8000 in
theorem w_203 : Cond.fieldLinkNest RX5 130 RX4 "lamp" "I" RX8 ∈ TT := tt_1 (List.mem_of_getElem? (i := 103) rfl) rfl
set_option maxRecDepth 8000 in
theorem w_204 : Cond.fieldLink RX4 53 RX4 "early" "I" ∈ TT := tt_1 (List.mem_of_getElem? (i := 104) rfl) rfl
set_option maxRecDepth 8000 in
theorem w_205 : Cond.fieldLinkNest RX5 145 RX4 "early" "I" RX8 ∈ TT := tt_1 (List.mem_of_getElem? (i := 105) rfl) rfl
set_option maxRecDepth 8000 in
theorem w_206 : Cond.fieldLink RX4 56 RX4 "way" "I" ∈ TT := tt_1 (List.mem_of_getElem? (i := 106) rfl) rfl
set_option maxRecDepth 8000 in
theorem w_207 : Cond.fieldLinkNest RX5 148 RX4 "way" "I" RX8 ∈ TT := tt_1 (List.mem_of_getElem? (i := 107) rfl) rfl
set_option maxRecDepth 8000 in
theorem w_208 : Cond.fieldLink RX4 59 RX4 "shades" "Z" ∈ TT := tt_1 (List.mem_of_getElem? (i := 108) rfl) rfl
set_option maxRecDepth 8000 in
theorem w_209 : Cond.fieldLinkNest RX5 100 RX4 "shades" "Z" RX8 ∈ TT := tt_1 (List.mem_of_getElem? (i := 109) rfl) rfl
set_option maxRecDepth 8000 in
theorem w_210 : Cond.fieldLinkNest RX8 162 RX4 "shades" "Z" RX8 ∈ TT := tt_1 (List.mem_of_getElem? (i := 110) rfl) rfl
set_option maxRecDepth 8000 in
theorem w_211 : Cond.fieldLinkNest RX2 134 RX4 "shades" "Z" RX8 ∈ TT := tt_1 (List.mem_of_getElem? (i := 111) rfl) rfl
set_option maxRecDepth 8000 in
theorem w_212 : Cond.fieldLink RX4 63 RX4 "second" "Z" ∈ TT := tt_1 (List.mem_of_getElem? (i := 112) rfl) rfl
set_option maxRecDepth 8000 in
theorem w_213 : Cond.fieldLinkNest RX8 166 RX4 "second" "Z" RX8 ∈ TT := tt_1 (List.mem_of_getElem? (i := 113) rfl) rfl
set_option maxRecDepth 8000 in
theorem w_214 : Cond.fieldLinkNest RX5 151 RX4 "second" "Z" RX8 ∈ TT := tt_1 (List.mem_of_getElem? (i := 114) rfl) rfl
set_option maxRecDepth 8000 in
theorem w_253 : Cond.fieldLink RX0 9 RX0 "steps" "[I" ∈ TT := tt_1 (List.mem_of_getElem? (i := 153) rfl) rfl
set_option maxRecDepth 8000 in
theorem w_254 : Cond.fieldLink RX0 15 RX0 "facts" "[I" ∈ TT := tt_1 (List.mem_of_getElem? (i := 154) rfl) rfl
set_option maxRecDepth 8000 in
theorem w_255 : Cond.fieldLink RX0 18 RX0 "stack" "[I" ∈ TT := tt_1 (List.mem_of_getElem? (i := 155) rfl) rfl
set_option maxRecDepth 8000 in
theorem w_256 : Cond.fieldLink RX0 21 RX0 "length" "I" ∈ TT := tt_1 (List.mem_of_getElem? (i := 156) rfl) rfl
set_option maxRecDepth 8000 in
theorem w_272 : Cond.fieldLink RX5 9 RX5 "text" "LShadowTolls$Text;" ∈ TT := tt_1 (List.mem_of_getElem? (i := 172) rfl) rfl
set_option maxRecDepth 8000 in
theorem w_273 : Cond.fieldLink RX5 15 RX5 "road" "LShadowTolls$Road;" ∈ TT := tt_1 (List.mem_of_getElem? (i := 173) rfl) rfl
set_option maxRecDepth 8000 in
theorem w_285 : Cond.fieldLink RX1 9 RX1 "text" "LShadowTolls$Text;" ∈ TT := tt_1 (List.mem_of_getElem? (i := 185) rfl) rfl
set_option maxRecDepth 8000 in
theorem w_286 : Cond.fieldLink RX1 15 RX1 "law" "LShadowTolls$Law;" ∈ TT := tt_1 (List.mem_of_getElem? (i := 186) rfl) rfl
set_option maxRecDepth 8000 in
theorem w_299 : Cond.fieldLink RX2 52 RX2 "road" "LShadowTolls$Road;" ∈ TT := tt_1 (List.mem_of_getElem? (i := 199) rfl) rfl
set_option maxRecDepth 8000 in
theorem w_300 : Cond.fieldLink RX2 9 RX2 "comers" "[I" ∈ TT := tt_1 (List.mem_of_getElem? (i := 200) rfl) rfl
set_option maxRecDepth 8000 in
theorem w_301 : Cond.fieldLink RX2 15 RX2 "clear" "[I" ∈ TT := tt_1 (List.mem_of_getElem? (i := 201) rfl) rfl
set_option maxRecDepth 8000 in
theorem w_302 : Cond.fieldLink RX2 18 RX2 "dark" "[I" ∈ TT := tt_1 (List.mem_of_getElem? (i := 202) rfl) rfl
set_option maxRecDepth 8000 in
theorem w_303 : Cond.fieldLinkNest RX6 63 RX2 "dark" "[I" RX8 ∈ TT := tt_1 (List.mem_of_getElem? (i := 203) rfl) rfl
set_option maxRecDepth 8000 in
theorem w_304 : Cond.fieldLink RX2 21 RX2 "extras" "[I" ∈ TT := tt_1 (List.mem_of_getElem? (i := 204) rfl) rfl
set_option maxRecDepth 8000 in
theorem w_305 : Cond.fieldLink RX2 25 RX2 "least" "[I" ∈ TT := tt_1 (List.mem_of_getElem? (i := 205) rfl) rfl
set_option maxRecDepth 8000 in
theorem w_306 : Cond.fieldLink RX2 28 RX2 "holders" "[I" ∈ TT := tt_1 (List.mem_of_getElem? (i := 206) rfl) rfl
set_option maxRecDepth 8000 in
theorem w_307 : Cond.fieldLink RX2 31 RX2 "paid" "[I" ∈ TT := tt_1 (List.mem_of_getElem? (i := 207) rfl) rfl
set_option maxRecDepth 8000 in
theorem w_308 : Cond.fieldLinkNest RX6 56 RX2 "paid" "[I" RX8 ∈ TT := tt_1 (List.mem_of_getElem? (i := 208) rfl) rfl
set_option maxRecDepth 8000 in
theorem w_309 : Cond.fieldLink RX2 34 RX2 "earned" "[I" ∈ TT := tt_1 (List.mem_of_getElem? (i := 209) rfl) rfl
set_option maxRecDepth 8000 in
theorem w_310 : Cond.fieldLink RX2 37 RX2 "order" "[I" ∈ TT := tt_1 (List.mem_of_getElem? (i := 210) rfl) rfl
set_option maxRecDepth 8000 in
theorem w_311 : Cond.fieldLink RX2 40 RX2 "lower" "[I" ∈ TT := tt_1 (List.mem_of_getElem? (i := 211) rfl) rfl
set_option maxRecDepth 8000 in
theorem w_312 : Cond.fieldLink RX2 43 RX2 "rests" "[I" ∈ TT := tt_1 (List.mem_of_getElem? (i := 212) rfl) rfl
set_option maxRecDepth 8000 in
theorem w_313 : Cond.fieldLink RX2 46 RX2 "lowers" "[I" ∈ TT := tt_1 (List.mem_of_getElem? (i := 213) rfl) rfl
set_option maxRecDepth 8000 in
theorem w_314 : Cond.fieldLink RX2 49 RX2 "tallers" "[I" ∈ TT := tt_1 (List.mem_of_getElem? (i := 214) rfl) rfl
set_option maxRecDepth 8000 in
theorem w_315 : Cond.fieldLink RX2 56 RX2 "bits" "I" ∈ TT := tt_1 (List.mem_of_getElem? (i := 215) rfl) rfl
set_option maxRecDepth 8000 in
theorem w_316 : Cond.fieldLink RX2 66 RX2 "each" "I" ∈ TT := tt_1 (List.mem_of_getElem? (i := 216) rfl) rfl
set_option maxRecDepth 8000 in
theorem w_317 : Cond.fieldLink RX2 69 RX2 "all" "I" ∈ TT := tt_1 (List.mem_of_getElem? (i := 217) rfl) rfl
set_option maxRecDepth 8000 in
theorem w_318 : Cond.fieldLink RX2 150 RX2 "leftOut" "I" ∈ TT := tt_1 (List.mem_of_getElem? (i := 218) rfl) rfl
set_option maxRecDepth 8000 in
theorem w_319 : Cond.fieldLinkNest RX8 239 RX2 "leftOut" "I" RX8 ∈ TT := tt_1 (List.mem_of_getElem? (i := 219) rfl) rfl
set_option maxRecDepth 8000 in
theorem w_320 : Cond.fieldLink RX2 153 RX2 "costs" "I" ∈ TT := tt_1 (List.mem_of_getElem? (i := 220) rfl) rfl
set_option maxRecDepth 8000 in
theorem w_321 : Cond.fieldLinkNest RX8 242 RX2 "costs" "I" RX8 ∈ TT := tt_1 (List.mem_of_getElem? (i := 221) rfl) rfl
set_option maxRecDepth 8000 in
theorem w_322 : Cond.fieldLink RX2 160 RX2 "jam" "I" ∈ TT := tt_1 (List.mem_of_getElem? (i := 222) rfl) rfl
set_option maxRecDepth 8000 in
theorem w_323 : Cond.fieldLinkNest RX8 249 RX2 "jam" "I" RX8 ∈ TT := tt_1 (List.mem_of_getElem? (i := 223) rfl) rfl
set_option maxRecDepth 8000 in
theorem w_371 : Cond.fieldLink RX6 21 RX6 "road" "LShadowTolls$Road;" ∈ TT := tt_2 (List.mem_of_getElem? (i := 31) rfl) rfl
set_option maxRecDepth 8000 in
theorem w_372 : Cond.fieldLink RX6 25 RX6 "planner" "LShadowTolls$Planner;" ∈ TT := tt_2 (List.mem_of_getElem? (i := 32) rfl) rfl
set_option maxRecDepth 8000 in
theorem w_373 : Cond.fieldLink RX6 9 RX6 "hours" "[I" ∈ TT := tt_2 (List.mem_of_getElem? (i := 33) rfl) rfl
set_option maxRecDepth 8000 in
theorem w_374 : Cond.fieldLink RX6 15 RX6 "clear" "[I" ∈ TT := tt_2 (List.mem_of_getElem? (i := 34) rfl) rfl
set_option maxRecDepth 8000 in
theorem w_375 : Cond.fieldLink RX6 18 RX6 "clouded" "[I" ∈ TT := tt_2 (List.mem_of_getElem? (i := 35) rfl) rfl
set_option maxRecDepth 8000 in
theorem w_376 : Cond.fieldLink RX6 29 RX6 "seed" "I" ∈ TT := tt_2 (List.mem_of_getElem? (i := 36) rfl) rfl
set_option maxRecDepth 8000 in
theorem w_398 : Cond.instanceMethod yX3_clear ∈ TT := tt_2 (List.mem_of_getElem? (i := 58) rfl) rfl
set_option maxRecDepth 8000 in
theorem w_399 : Cond.code yX3_clear cX3_clear 1 none ∈ TT := tt_2 (List.mem_of_getElem? (i := 59) rfl) rfl
set_option maxRecDepth 8000 in
theorem w_400 : Cond.methodLinkNest RX3 33 yX8_fillRow RX8 ∈ TT := tt_2 (List.mem_of_getElem? (i := 60) rfl) rfl
set_option maxRecDepth 8000 in
theorem w_401 : Cond.fieldLink RX3 9 RX3 "tollOf" "[I" ∈ TT := tt_2 (List.mem_of_getElem? (i := 61) rfl) rfl
set_option maxRecDepth 8000 in
theorem w_402 : Cond.fieldLinkNest RX8 209 RX3 "tollOf" "[I" RX8 ∈ TT := tt_2 (List.mem_of_getElem? (i := 62) rfl) rfl
set_option maxRecDepth 8000 in
theorem w_403 : Cond.fieldLink RX3 15 RX3 "crossDays" "[I" ∈ TT := tt_2 (List.mem_of_getElem? (i := 63) rfl) rfl
set_option maxRecDepth 8000 in
theorem w_404 : Cond.fieldLink RX3 18 RX3 "crossCoins" "[I" ∈ TT := tt_2 (List.mem_of_getElem? (i := 64) rfl) rfl
set_option maxRecDepth 8000 in
theorem w_405 : Cond.fieldLinkNest RX8 276 RX3 "crossCoins" "[I" RX8 ∈ TT := tt_2 (List.mem_of_getElem? (i := 65) rfl) rfl
set_option maxRecDepth 8000 in
theorem w_406 : Cond.fieldLink RX3 21 RX3 "written" "[I" ∈ TT := tt_2 (List.mem_of_getElem? (i := 66) rfl) rfl
set_option maxRecDepth 8000 in
theorem w_407 : Cond.fieldLinkNest RX8 283 RX3 "written" "[I" RX8 ∈ TT := tt_2 (List.mem_of_getElem? (i := 67) rfl) rfl
set_option maxRecDepth 8000 in
theorem w_408 : Cond.fieldLink RX3 24 RX3 "ledgerMinutes" "[I" ∈ TT := tt_2 (List.mem_of_getElem? (i := 68) rfl) rfl
set_option maxRecDepth 8000 in
theorem w_409 : Cond.fieldLinkNest RX8 390 RX3 "ledgerMinutes" "[I" RX8 ∈ TT := tt_2 (List.mem_of_getElem? (i := 69) rfl) rfl
set_option maxRecDepth 8000 in
theorem w_410 : Cond.fieldLink RX3 27 RX3 "ledgerCoins" "[I" ∈ TT := tt_2 (List.mem_of_getElem? (i := 70) rfl) rfl
set_option maxRecDepth 8000 in
theorem w_411 : Cond.fieldLinkNest RX8 397 RX3 "ledgerCoins" "[I" RX8 ∈ TT := tt_2 (List.mem_of_getElem? (i := 71) rfl) rfl
set_option maxRecDepth 8000 in
theorem w_412 : Cond.fieldLink RX3 37 RX3 "crossings" "I" ∈ TT := tt_2 (List.mem_of_getElem? (i := 72) rfl) rfl
set_option maxRecDepth 8000 in
theorem w_413 : Cond.fieldLinkNest RX8 262 RX3 "crossings" "I" RX8 ∈ TT := tt_2 (List.mem_of_getElem? (i := 73) rfl) rfl
set_option maxRecDepth 8000 in
theorem w_414 : Cond.fieldLink RX3 41 RX3 "ledgerRows" "I" ∈ TT := tt_2 (List.mem_of_getElem? (i := 74) rfl) rfl
set_option maxRecDepth 8000 in
theorem w_415 : Cond.fieldLinkNest RX8 303 RX3 "ledgerRows" "I" RX8 ∈ TT := tt_2 (List.mem_of_getElem? (i := 75) rfl) rfl
set_option maxRecDepth 8000 in
theorem w_434 : Cond.fieldLink RX8 10 RX8 "text" "LShadowTolls$Text;" ∈ TT := tt_2 (List.mem_of_getElem? (i := 94) rfl) rfl
set_option maxRecDepth 8000 in
theorem w_435 : Cond.fieldLink RX8 19 RX8 "road" "LShadowTolls$Road;" ∈ TT := tt_2 (List.mem_of_getElem? (i := 95) rfl) rfl
set_option maxRecDepth 8000 in
theorem w_436 : Cond.fieldLink RX8 23 RX8 "draft" "LShadowTolls$Road;" ∈ TT := tt_2 (List.mem_of_getElem? (i := 96) rfl) rfl
set_option maxRecDepth 8000 in
theorem w_437 : Cond.fieldLink RX8 28 RX8 "laws" "[LShadowTolls$Law;" ∈ TT := tt_2 (List.mem_of_getElem? (i := 97) rfl) rfl
set_option maxRecDepth 8000 in
theorem w_438 : Cond.fieldLink RX8 33 RX8 "lawDraft" "LShadowTolls$Law;" ∈ TT := tt_2 (List.mem_of_getElem? (i := 98) rfl) rfl
set_option maxRecDepth 8000 in
theorem w_439 : Cond.fieldLink RX8 37 RX8 "freeLaw" "LShadowTolls$Law;" ∈ TT := tt_2 (List.mem_of_getElem? (i := 99) rfl) rfl
set_option maxRecDepth 8000 in
theorem w_440 : Cond.fieldLink RX8 40 RX8 "lineLaw" "LShadowTolls$Law;" ∈ TT := tt_2 (List.mem_of_getElem? (i := 100) rfl) rfl
set_option maxRecDepth 8000 in
theorem w_441 : Cond.fieldLink RX8 48 RX8 "roadReader" "LShadowTolls$RoadReader;" ∈ TT := tt_2 (List.mem_of_getElem? (i := 101) rfl) rfl
set_option maxRecDepth 8000 in
theorem w_442 : Cond.fieldLink RX8 57 RX8 "lawReader" "LShadowTolls$LawReader;" ∈ TT := tt_2 (List.mem_of_getElem? (i := 102) rfl) rfl
set_option maxRecDepth 8000 in
theorem w_443 : Cond.fieldLink RX8 66 RX8 "planner" "LShadowTolls$Planner;" ∈ TT := tt_2 (List.mem_of_getElem? (i := 103) rfl) rfl
set_option maxRecDepth 8000 in
theorem w_444 : Cond.fieldLink RX8 75 RX8 "months" "LShadowTolls$Season;" ∈ TT := tt_2 (List.mem_of_getElem? (i := 104) rfl) rfl
set_option maxRecDepth 8000 in
theorem w_445 : Cond.fieldLink RX8 82 RX8 "records" "LShadowTolls$Records;" ∈ TT := tt_2 (List.mem_of_getElem? (i := 105) rfl) rfl
set_option maxRecDepth 8000 in
theorem w_446 : Cond.fieldLink RX8 86 RX8 "kept" "[LShadowTolls$Records;" ∈ TT := tt_2 (List.mem_of_getElem? (i := 106) rfl) rfl
set_option maxRecDepth 8000 in
theorem w_447 : Cond.fieldLink RX8 90 RX8 "takings" "[I" ∈ TT := tt_2 (List.mem_of_getElem? (i := 107) rfl) rfl
set_option maxRecDepth 8000 in
theorem w_448 : Cond.fieldLink RX8 132 RX8 "tolls" "I" ∈ TT := tt_2 (List.mem_of_getElem? (i := 108) rfl) rfl
set_option maxRecDepth 8000 in
theorem w_449 : Cond.fieldLink RX8 126 RX8 "keptCount" "I" ∈ TT := tt_2 (List.mem_of_getElem? (i := 109) rfl) rfl
set_option maxRecDepth 8000 in
theorem w_487 : Cond.methodLink RX8 94 yX7_hasRoom ∈ TT := tt_2 (List.mem_of_getElem? (i := 147) rfl) rfl
set_option maxRecDepth 8000 in
theorem w_488 : Cond.instanceMethod yX7_hasRoom ∈ TT := tt_2 (List.mem_of_getElem? (i := 148) rfl) rfl
set_option maxRecDepth 8000 in
theorem w_489 : Cond.selects RX7 yX7_hasRoom yX7_hasRoom ∈ TT := tt_2 (List.mem_of_getElem? (i := 149) rfl) rfl
set_option maxRecDepth 8000 in
theorem w_490 : Cond.code yX7_hasRoom cX7_hasRoom 2 (some .boolean) ∈ TT := tt_2 (List.mem_of_getElem? (i := 150) rfl) rfl
set_option maxRecDepth 8000 in
theorem w_491 : Cond.methodLink RX8 98 yX7_add ∈ TT := tt_2 (List.mem_of_getElem? (i := 151) rfl) rfl
set_option maxRecDepth 8000 in
theorem w_492 : Cond.instanceMethod yX7_add ∈ TT := tt_2 (List.mem_of_getElem? (i := 152) rfl) rfl
set_option maxRecDepth 8000 in
theorem w_493 : Cond.selects RX7 yX7_add yX7_add ∈ TT := tt_2 (List.mem_of_getElem? (i := 153) rfl) rfl
set_option maxRecDepth 8000 in
theorem w_494 : Cond.code yX7_add cX7_add 3 none ∈ TT := tt_2 (List.mem_of_getElem? (i := 154) rfl) rfl
set_option maxRecDepth 8000 in
theorem w_495 : Cond.methodLinkNest RX7 22 yX8_put RX8 ∈ TT := tt_2 (List.mem_of_getElem? (i := 155) rfl) rfl
set_option maxRecDepth 8000 in
theorem w_496 : Cond.static yX8_put ∈ TT := tt_2 (List.mem_of_getElem? (i := 156) rfl) rfl
set_option maxRecDepth 8000 in
theorem w_497 : Cond.code yX8_put cX8_put 3 none ∈ TT := tt_2 (List.mem_of_getElem? (i := 157) rfl) rfl
set_option maxRecDepth 8000 in
theorem w_506 : Cond.methodLink RX8 255 yX4_slotCount ∈ TT := tt_2 (List.mem_of_getElem? (i := 166) rfl) rfl
set_option maxRecDepth 8000 in
theorem w_507 : Cond.instanceMethod yX4_slotCount ∈ TT := tt_2 (List.mem_of_getElem? (i := 167) rfl) rfl
set_option maxRecDepth 8000 in
theorem w_508 : Cond.selects RX4 yX4_slotCount yX4_slotCount ∈ TT := tt_2 (List.mem_of_getElem? (i := 168) rfl) rfl
set_option maxRecDepth 8000 in
theorem w_509 : Cond.code yX4_slotCount cX4_slotCount 1 (some .int) ∈ TT := tt_2 (List.mem_of_getElem? (i := 169) rfl) rfl
set_option maxRecDepth 8000 in
theorem w_510 : Cond.methodLink RX4 82 yJ9_min_7cf53 ∈ TT := tt_2 (List.mem_of_getElem? (i := 170) rfl) rfl
set_option maxRecDepth 8000 in
theorem w_517 : Cond.methodLink RX8 189 yX8_at ∈ TT := tt_2 (List.mem_of_getElem? (i := 177) rfl) rfl
set_option maxRecDepth 8000 in
theorem w_518 : Cond.static yX8_at ∈ TT := tt_2 (List.mem_of_getElem? (i := 178) rfl) rfl
set_option maxRecDepth 8000 in
theorem w_519 : Cond.code yX8_at cX8_at 2 (some .int) ∈ TT := tt_2 (List.mem_of_getElem? (i := 179) rfl) rfl
set_option maxRecDepth 8000 in
theorem w_524 : Cond.methodLink RX8 259 yX8_mostOf ∈ TT := tt_2 (List.mem_of_getElem? (i := 184) rfl) rfl
set_option maxRecDepth 8000 in
theorem w_526 : Cond.instanceMethod yX8_mostOf ∈ TT := tt_2 (List.mem_of_getElem? (i := 186) rfl) rfl
set_option maxRecDepth 8000 in
theorem w_527 : Cond.code yX8_mostOf cX8_mostOf 2 (some .int) ∈ TT := tt_2 (List.mem_of_getElem? (i := 187) rfl) rfl
set_option maxRecDepth 8000 in
theorem w_528 : Cond.methodLink RX8 289 yX4_everybody ∈ TT := tt_2 (List.mem_of_getElem? (i := 188) rfl) rfl
set_option maxRecDepth 8000 in
theorem w_529 : Cond.instanceMethod yX4_everybody ∈ TT := tt_2 (List.mem_of_getElem? (i := 189) rfl) rfl
set_option maxRecDepth 8000 in
theorem w_530 : Cond.selects RX4 yX4_everybody yX4_everybody ∈ TT := tt_2 (List.mem_of_getElem? (i := 190) rfl) rfl
set_option maxRecDepth 8000 in
theorem w_531 : Cond.code yX4_everybody cX4_everybody 1 (some .int) ∈ TT := tt_2 (List.mem_of_getElem? (i := 191) rfl) rfl
set_option maxRecDepth 8000 in
theorem w_532 : Cond.methodLink RX8 366 yX2_begin ∈ TT := tt_2 (List.mem_of_getElem? (i := 192) rfl) rfl
set_option maxRecDepth 8000 in
theorem w_533 : Cond.instanceMethod yX2_begin ∈ TT := tt_2 (List.mem_of_getElem? (i := 193) rfl) rfl
set_option maxRecDepth 8000 in
theorem w_534 : Cond.selects RX2 yX2_begin yX2_begin ∈ TT := tt_2 (List.mem_of_getElem? (i := 194) rfl) rfl
set_option maxRecDepth 8000 in
theorem w_535 : Cond.code yX2_begin cX2_begin 3 none ∈ TT := tt_2 (List.mem_of_getElem? (i := 195) rfl) rfl
set_option maxRecDepth 8000 in
theorem w_536 : Cond.methodLink RX2 60 yX4_slotCount ∈ TT := tt_2 (List.mem_of_getElem? (i := 196) rfl) rfl
set_option maxRecDepth 8000 in
theorem w_537 : Cond.methodLink RX2 72 yX2_rank ∈ TT := tt_2 (List.mem_of_getElem? (i := 197) rfl) rfl
set_option maxRecDepth 8000 in
theorem w_539 : Cond.instanceMethod yX2_rank ∈ TT := tt_2 (List.mem_of_getElem? (i := 199) rfl) rfl
set_option maxRecDepth 8000 in
theorem w_540 : Cond.code yX2_rank cX2_rank 5 none ∈ TT := tt_2 (List.mem_of_getElem? (i := 200) rfl) rfl
set_option maxRecDepth 8000 in
theorem w_541 : Cond.methodLink RX2 75 yX4_standing ∈ TT := tt_2 (List.mem_of_getElem? (i := 201) rfl) rfl
set_option maxRecDepth 8000 in
theorem w_542 : Cond.instanceMethod yX4_standing ∈ TT := tt_2 (List.mem_of_getElem? (i := 202) rfl) rfl
set_option maxRecDepth 8000 in
theorem w_543 : Cond.selects RX4 yX4_standing yX4_standing ∈ TT := tt_2 (List.mem_of_getElem? (i := 203) rfl) rfl
set_option maxRecDepth 8000 in
theorem w_544 : Cond.code yX4_standing cX4_standing 2 (some .int) ∈ TT := tt_2 (List.mem_of_getElem? (i := 204) rfl) rfl
set_option maxRecDepth 8000 in
theorem w_545 : Cond.methodLink RX4 78 yX4_trait ∈ TT := tt_2 (List.mem_of_getElem? (i := 205) rfl) rfl
set_option maxRecDepth 8000 in
theorem w_546 : Cond.instanceMethod yX4_trait ∈ TT := tt_2 (List.mem_of_getElem? (i := 206) rfl) rfl
set_option maxRecDepth 8000 in
theorem w_547 : Cond.selects RX4 yX4_trait yX4_trait ∈ TT := tt_2 (List.mem_of_getElem? (i := 207) rfl) rfl
set_option maxRecDepth 8000 in
theorem w_548 : Cond.code yX4_trait cX4_trait 3 (some .int) ∈ TT := tt_2 (List.mem_of_getElem? (i := 208) rfl) rfl
set_option maxRecDepth 8000 in
theorem w_549 : Cond.methodLinkNest RX4 70 yX8_at RX8 ∈ TT := tt_2 (List.mem_of_getElem? (i := 209) rfl) rfl
set_option maxRecDepth 8000 in
theorem w_550 : Cond.methodLinkNest RX2 79 yX8_put RX8 ∈ TT := tt_2 (List.mem_of_getElem? (i := 210) rfl) rfl
set_option maxRecDepth 8000 in
theorem w_551 : Cond.methodLink RX8 216 yX8_lawOf ∈ TT := tt_2 (List.mem_of_getElem? (i := 211) rfl) rfl
set_option maxRecDepth 8000 in
theorem w_553 : Cond.instanceMethod yX8_lawOf ∈ TT := tt_2 (List.mem_of_getElem? (i := 213) rfl) rfl
set_option maxRecDepth 8000 in
theorem w_554 : Cond.code yX8_lawOf cX8_lawOf 2 (some (.object RX0)) ∈ TT := tt_2 (List.mem_of_getElem? (i := 214) rfl) rfl
set_option maxRecDepth 8000 in
theorem w_555 : Cond.methodLink RX8 309 yX8_lawAt ∈ TT := tt_2 (List.mem_of_getElem? (i := 215) rfl) rfl
set_option maxRecDepth 8000 in
theorem w_557 : Cond.instanceMethod yX8_lawAt ∈ TT := tt_2 (List.mem_of_getElem? (i := 217) rfl) rfl
set_option maxRecDepth 8000 in
theorem w_558 : Cond.code yX8_lawAt cX8_lawAt 3 (some (.object RX0)) ∈ TT := tt_2 (List.mem_of_getElem? (i := 218) rfl) rfl
set_option maxRecDepth 8000 in
theorem w_559 : Cond.methodLink RX8 370 yX2_price ∈ TT := tt_2 (List.mem_of_getElem? (i := 219) rfl) rfl
set_option maxRecDepth 8000 in
theorem w_560 : Cond.instanceMethod yX2_price ∈ TT := tt_2 (List.mem_of_getElem? (i := 220) rfl) rfl
set_option maxRecDepth 8000 in
theorem w_561 : Cond.selects RX2 yX2_price yX2_price ∈ TT := tt_2 (List.mem_of_getElem? (i := 221) rfl) rfl
set_option maxRecDepth 8000 in
theorem w_562 : Cond.code yX2_price cX2_price 9 none ∈ TT := tt_2 (List.mem_of_getElem? (i := 222) rfl) rfl
set_option maxRecDepth 8000 in
theorem w_563 : Cond.methodLink RX2 83 yX4_slotMinute ∈ TT := tt_2 (List.mem_of_getElem? (i := 223) rfl) rfl
set_option maxRecDepth 8000 in
theorem w_564 : Cond.instanceMethod yX4_slotMinute ∈ TT := tt_2 (List.mem_of_getElem? (i := 224) rfl) rfl
set_option maxRecDepth 8000 in
theorem w_565 : Cond.selects RX4 yX4_slotMinute yX4_slotMinute ∈ TT := tt_2 (List.mem_of_getElem? (i := 225) rfl) rfl
set_option maxRecDepth 8000 in
theorem w_566 : Cond.code yX4_slotMinute cX4_slotMinute 2 (some .int) ∈ TT := tt_2 (List.mem_of_getElem? (i := 226) rfl) rfl
set_option maxRecDepth 8000 in
theorem w_567 : Cond.methodLink RX2 86 yX4_mayCome ∈ TT := tt_2 (List.mem_of_getElem? (i := 227) rfl) rfl
set_option maxRecDepth 8000 in
theorem w_568 : Cond.instanceMethod yX4_mayCome ∈ TT := tt_2 (List.mem_of_getElem? (i := 228) rfl) rfl
set_option maxRecDepth 8000 in
theorem w_569 : Cond.selects RX4 yX4_mayCome yX4_mayCome ∈ TT := tt_2 (List.mem_of_getElem? (i := 229) rfl) rfl
set_option maxRecDepth 8000 in
theorem w_570 : Cond.code yX4_mayCome cX4_mayCome 3 (some .boolean) ∈ TT := tt_2 (List.mem_of_getElem? (i := 230) rfl) rfl
set_option maxRecDepth 8000 in
theorem w_571 : Cond.methodLink RX2 90 yX4_fare ∈ TT := tt_2 (List.mem_of_getElem? (i := 231) rfl) rfl
set_option maxRecDepth 8000 in
theorem w_572 : Cond.instanceMethod yX4_fare ∈ TT := tt_2 (List.mem_of_getElem? (i := 232) rfl) rfl
set_option maxRecDepth 8000 in
theorem w_573 : Cond.selects RX4 yX4_fare yX4_fare ∈ TT := tt_2 (List.mem_of_getElem? (i := 233) rfl) rfl
set_option maxRecDepth 8000 in
theorem w_574 : Cond.code yX4_fare cX4_fare 10 (some .int) ∈ TT := tt_2 (List.mem_of_getElem? (i := 234) rfl) rfl
set_option maxRecDepth 8000 in
theorem w_575 : Cond.methodLink RX4 104 yX4_altitudeAt ∈ TT := tt_2 (List.mem_of_getElem? (i := 235) rfl) rfl
set_option maxRecDepth 8000 in
theorem w_576 : Cond.instanceMethod yX4_altitudeAt ∈ TT := tt_2 (List.mem_of_getElem? (i := 236) rfl) rfl
set_option maxRecDepth 8000 in
theorem w_577 : Cond.selects RX4 yX4_altitudeAt yX4_altitudeAt ∈ TT := tt_2 (List.mem_of_getElem? (i := 237) rfl) rfl
set_option maxRecDepth 8000 in
theorem w_578 : Cond.code yX4_altitudeAt cX4_altitudeAt 6 (some .int) ∈ TT := tt_2 (List.mem_of_getElem? (i := 238) rfl) rfl
set_option maxRecDepth 8000 in
theorem w_579 : Cond.methodLink RX4 87 yJ9_abs_0f7a4 ∈ TT := tt_2 (List.mem_of_getElem? (i := 239) rfl) rfl
set_option maxRecDepth 8000 in
theorem w_582 : Cond.methodLink RX4 108 yX4_standing ∈ TT := tt_3 (List.mem_of_getElem? (i := 2) rfl) rfl
set_option maxRecDepth 8000 in
theorem w_583 : Cond.methodLink RX4 111 yX4_charge ∈ TT := tt_3 (List.mem_of_getElem? (i := 3) rfl) rfl
set_option maxRecDepth 8000 in
theorem w_584 : Cond.instanceMethod yX4_charge ∈ TT := tt_3 (List.mem_of_getElem? (i := 4) rfl) rfl
set_option maxRecDepth 8000 in
theorem w_585 : Cond.selects RX4 yX4_charge yX4_charge ∈ TT := tt_3 (List.mem_of_getElem? (i := 5) rfl) rfl
set_option maxRecDepth 8000 in
theorem w_586 : Cond.code yX4_charge cX4_charge 7 (some .int) ∈ TT := tt_3 (List.mem_of_getElem? (i := 6) rfl) rfl
set_option maxRecDepth 8000 in
theorem w_587 : Cond.methodLinkNest RX4 93 yX8_shadowOf RX8 ∈ TT := tt_3 (List.mem_of_getElem? (i := 7) rfl) rfl
set_option maxRecDepth 8000 in
theorem w_588 : Cond.static yX8_shadowOf ∈ TT := tt_3 (List.mem_of_getElem? (i := 8) rfl) rfl
set_option maxRecDepth 8000 in
theorem w_589 : Cond.code yX8_shadowOf cX8_shadowOf 2 (some .int) ∈ TT := tt_3 (List.mem_of_getElem? (i := 9) rfl) rfl
set_option maxRecDepth 8000 in
theorem w_590 : Cond.methodLink RX8 325 yJ9_min_7cf53 ∈ TT := tt_3 (List.mem_of_getElem? (i := 10) rfl) rfl
set_option maxRecDepth 8000 in
theorem w_591 : Cond.methodLink RX4 96 yX0_learn ∈ TT := tt_3 (List.mem_of_getElem? (i := 11) rfl) rfl
set_option maxRecDepth 8000 in
theorem w_592 : Cond.instanceMethod yX0_learn ∈ TT := tt_3 (List.mem_of_getElem? (i := 12) rfl) rfl
set_option maxRecDepth 8000 in
theorem w_593 : Cond.selects RX0 yX0_learn yX0_learn ∈ TT := tt_3 (List.mem_of_getElem? (i := 13) rfl) rfl
set_option maxRecDepth 8000 in
theorem w_594 : Cond.code yX0_learn cX0_learn 3 none ∈ TT := tt_3 (List.mem_of_getElem? (i := 14) rfl) rfl
set_option maxRecDepth 8000 in
theorem w_595 : Cond.methodLinkNest RX0 25 yX8_put RX8 ∈ TT := tt_3 (List.mem_of_getElem? (i := 15) rfl) rfl
set_option maxRecDepth 8000 in
theorem w_596 : Cond.methodLink RX4 100 yX0_sum ∈ TT := tt_3 (List.mem_of_getElem? (i := 16) rfl) rfl
set_option maxRecDepth 8000 in
theorem w_597 : Cond.instanceMethod yX0_sum ∈ TT := tt_3 (List.mem_of_getElem? (i := 17) rfl) rfl
set_option maxRecDepth 8000 in
theorem w_598 : Cond.selects RX0 yX0_sum yX0_sum ∈ TT := tt_3 (List.mem_of_getElem? (i := 18) rfl) rfl
set_option maxRecDepth 8000 in
theorem w_599 : Cond.code yX0_sum cX0_sum 6 (some .int) ∈ TT := tt_3 (List.mem_of_getElem? (i := 19) rfl) rfl
set_option maxRecDepth 8000 in
theorem w_600 : Cond.methodLinkNest RX0 44 yX8_at RX8 ∈ TT := tt_3 (List.mem_of_getElem? (i := 20) rfl) rfl
set_option maxRecDepth 8000 in
theorem w_601 : Cond.methodLink RX0 48 yX0_joined ∈ TT := tt_3 (List.mem_of_getElem? (i := 21) rfl) rfl
set_option maxRecDepth 8000 in
theorem w_602 : Cond.static yX0_joined ∈ TT := tt_3 (List.mem_of_getElem? (i := 22) rfl) rfl
set_option maxRecDepth 8000 in
theorem w_603 : Cond.code yX0_joined cX0_joined 3 (some .int) ∈ TT := tt_3 (List.mem_of_getElem? (i := 23) rfl) rfl
set_option maxRecDepth 8000 in
theorem w_604 : Cond.constantLong RX0 52 9999 ∈ TT := tt_3 (List.mem_of_getElem? (i := 24) rfl) rfl
set_option maxRecDepth 8000 in
theorem w_605 : Cond.methodLink RX0 54 yJ9_min_f86c9 ∈ TT := tt_3 (List.mem_of_getElem? (i := 25) rfl) rfl
set_option maxRecDepth 8000 in
theorem w_608 : Cond.methodLink RX0 60 yJ9_max_f86c9 ∈ TT := tt_3 (List.mem_of_getElem? (i := 28) rfl) rfl
set_option maxRecDepth 8000 in
theorem w_611 : Cond.methodLink RX2 94 yX4_extra ∈ TT := tt_3 (List.mem_of_getElem? (i := 31) rfl) rfl
set_option maxRecDepth 8000 in
theorem w_612 : Cond.instanceMethod yX4_extra ∈ TT := tt_3 (List.mem_of_getElem? (i := 32) rfl) rfl
set_option maxRecDepth 8000 in
theorem w_613 : Cond.selects RX4 yX4_extra yX4_extra ∈ TT := tt_3 (List.mem_of_getElem? (i := 33) rfl) rfl
set_option maxRecDepth 8000 in
theorem w_614 : Cond.code yX4_extra cX4_extra 4 (some .int) ∈ TT := tt_3 (List.mem_of_getElem? (i := 34) rfl) rfl
set_option maxRecDepth 8000 in
theorem w_615 : Cond.methodLink RX8 381 yX2_greatestTaking ∈ TT := tt_3 (List.mem_of_getElem? (i := 35) rfl) rfl
set_option maxRecDepth 8000 in
theorem w_616 : Cond.instanceMethod yX2_greatestTaking ∈ TT := tt_3 (List.mem_of_getElem? (i := 36) rfl) rfl
set_option maxRecDepth 8000 in
theorem w_617 : Cond.selects RX2 yX2_greatestTaking yX2_greatestTaking ∈ TT := tt_3 (List.mem_of_getElem? (i := 37) rfl) rfl
set_option maxRecDepth 8000 in
theorem w_618 : Cond.code yX2_greatestTaking cX2_greatestTaking 2 (some .int) ∈ TT := tt_3 (List.mem_of_getElem? (i := 38) rfl) rfl
set_option maxRecDepth 8000 in
theorem w_619 : Cond.methodLinkNest RX2 98 yX8_at RX8 ∈ TT := tt_3 (List.mem_of_getElem? (i := 39) rfl) rfl
set_option maxRecDepth 8000 in
theorem w_620 : Cond.methodLink RX2 102 yX2_solve ∈ TT := tt_3 (List.mem_of_getElem? (i := 40) rfl) rfl
set_option maxRecDepth 8000 in
theorem w_621 : Cond.instanceMethod yX2_solve ∈ TT := tt_3 (List.mem_of_getElem? (i := 41) rfl) rfl
set_option maxRecDepth 8000 in
theorem w_622 : Cond.selects RX2 yX2_solve yX2_solve ∈ TT := tt_3 (List.mem_of_getElem? (i := 42) rfl) rfl
set_option maxRecDepth 8000 in
theorem w_623 : Cond.code yX2_solve cX2_solve 4 none ∈ TT := tt_3 (List.mem_of_getElem? (i := 43) rfl) rfl
set_option maxRecDepth 8000 in
theorem w_624 : Cond.methodLink RX2 106 yX2_index ∈ TT := tt_3 (List.mem_of_getElem? (i := 44) rfl) rfl
set_option maxRecDepth 8000 in
theorem w_625 : Cond.static yX2_index ∈ TT := tt_3 (List.mem_of_getElem? (i := 45) rfl) rfl
set_option maxRecDepth 8000 in
theorem w_626 : Cond.code yX2_index cX2_index 3 (some .int) ∈ TT := tt_3 (List.mem_of_getElem? (i := 46) rfl) rfl
set_option maxRecDepth 8000 in
theorem w_627 : Cond.methodLink RX2 109 yJ6_bitCount_0f7a4 ∈ TT := tt_3 (List.mem_of_getElem? (i := 47) rfl) rfl
set_option maxRecDepth 8000 in
theorem w_628 : Cond.static yJ6_bitCount_0f7a4 ∈ TT := tt_3 (List.mem_of_getElem? (i := 48) rfl) rfl
set_option maxRecDepth 8000 in
theorem w_629 : Cond.code yJ6_bitCount_0f7a4 cJ6_bitCount_0f7a4 1 (some .int) ∈ TT := tt_3 (List.mem_of_getElem? (i := 49) rfl) rfl
set_option maxRecDepth 8000 in
theorem w_630 : Cond.constant RJ6 265 1431655765 ∈ TT := tt_3 (List.mem_of_getElem? (i := 50) rfl) rfl
set_option maxRecDepth 8000 in
theorem w_631 : Cond.constant RJ6 266 858993459 ∈ TT := tt_3 (List.mem_of_getElem? (i := 51) rfl) rfl
set_option maxRecDepth 8000 in
theorem w_632 : Cond.constant RJ6 267 252645135 ∈ TT := tt_3 (List.mem_of_getElem? (i := 52) rfl) rfl
set_option maxRecDepth 8000 in
theorem w_633 : Cond.methodLink RX2 114 yX2_solveFrom ∈ TT := tt_3 (List.mem_of_getElem? (i := 53) rfl) rfl
set_option maxRecDepth 8000 in
theorem w_635 : Cond.instanceMethod yX2_solveFrom ∈ TT := tt_3 (List.mem_of_getElem? (i := 55) rfl) rfl
set_option maxRecDepth 8000 in
theorem w_636 : Cond.code yX2_solveFrom cX2_solveFrom 5 none ∈ TT := tt_3 (List.mem_of_getElem? (i := 56) rfl) rfl
set_option maxRecDepth 8000 in
theorem w_637 : Cond.methodLink RX2 118 yX2_weigh ∈ TT := tt_3 (List.mem_of_getElem? (i := 57) rfl) rfl
set_option maxRecDepth 8000 in
theorem w_639 : Cond.instanceMethod yX2_weigh ∈ TT := tt_3 (List.mem_of_getElem? (i := 59) rfl) rfl
set_option maxRecDepth 8000 in
theorem w_640 : Cond.code yX2_weigh cX2_weigh 8 none ∈ TT := tt_3 (List.mem_of_getElem? (i := 60) rfl) rfl
set_option maxRecDepth 8000 in
theorem w_641 : Cond.methodLink RX2 131 yX2_restBehind ∈ TT := tt_3 (List.mem_of_getElem? (i := 61) rfl) rfl
set_option maxRecDepth 8000 in
theorem w_643 : Cond.instanceMethod yX2_restBehind ∈ TT := tt_3 (List.mem_of_getElem? (i := 63) rfl) rfl
set_option maxRecDepth 8000 in
theorem w_644 : Cond.code yX2_restBehind cX2_restBehind 5 (some .int) ∈ TT := tt_3 (List.mem_of_getElem? (i := 64) rfl) rfl
set_option maxRecDepth 8000 in
theorem w_645 : Cond.methodLink RX2 121 yX2_shadeReaches ∈ TT := tt_3 (List.mem_of_getElem? (i := 65) rfl) rfl
set_option maxRecDepth 8000 in
theorem w_647 : Cond.instanceMethod yX2_shadeReaches ∈ TT := tt_3 (List.mem_of_getElem? (i := 67) rfl) rfl
set_option maxRecDepth 8000 in
theorem w_648 : Cond.code yX2_shadeReaches cX2_shadeReaches 2 (some .boolean) ∈ TT := tt_3 (List.mem_of_getElem? (i := 68) rfl) rfl
set_option maxRecDepth 8000 in
theorem w_649 : Cond.methodLink RX2 125 yJ9_min_7cf53 ∈ TT := tt_3 (List.mem_of_getElem? (i := 69) rfl) rfl
set_option maxRecDepth 8000 in
theorem w_658 : Cond.methodLink RX8 316 yX6_skyOf ∈ TT := tt_3 (List.mem_of_getElem? (i := 78) rfl) rfl
set_option maxRecDepth 8000 in
theorem w_659 : Cond.instanceMethod yX6_skyOf ∈ TT := tt_3 (List.mem_of_getElem? (i := 79) rfl) rfl
set_option maxRecDepth 8000 in
theorem w_660 : Cond.selects RX6 yX6_skyOf yX6_skyOf ∈ TT := tt_3 (List.mem_of_getElem? (i := 80) rfl) rfl
set_option maxRecDepth 8000 in
theorem w_661 : Cond.code yX6_skyOf cX6_skyOf 2 (some .int) ∈ TT := tt_3 (List.mem_of_getElem? (i := 81) rfl) rfl
set_option maxRecDepth 8000 in
theorem w_662 : Cond.methodLink RX6 33 yX6_nextSky ∈ TT := tt_3 (List.mem_of_getElem? (i := 82) rfl) rfl
set_option maxRecDepth 8000 in
theorem w_664 : Cond.instanceMethod yX6_nextSky ∈ TT := tt_3 (List.mem_of_getElem? (i := 84) rfl) rfl
set_option maxRecDepth 8000 in
theorem w_665 : Cond.code yX6_nextSky cX6_nextSky 3 (some .int) ∈ TT := tt_3 (List.mem_of_getElem? (i := 85) rfl) rfl
set_option maxRecDepth 8000 in
theorem w_666 : Cond.constant RX6 37 1103515245 ∈ TT := tt_3 (List.mem_of_getElem? (i := 86) rfl) rfl
set_option maxRecDepth 8000 in
theorem w_671 : Cond.methodLink RX8 333 yX8_keptAt ∈ TT := tt_3 (List.mem_of_getElem? (i := 91) rfl) rfl
set_option maxRecDepth 8000 in
theorem w_673 : Cond.instanceMethod yX8_keptAt ∈ TT := tt_3 (List.mem_of_getElem? (i := 93) rfl) rfl
set_option maxRecDepth 8000 in
theorem w_674 : Cond.code yX8_keptAt cX8_keptAt 2 (some (.object RX3)) ∈ TT := tt_3 (List.mem_of_getElem? (i := 94) rfl) rfl
set_option maxRecDepth 8000 in
theorem w_675 : Cond.methodLink RX8 337 yX3_copy ∈ TT := tt_3 (List.mem_of_getElem? (i := 95) rfl) rfl
set_option maxRecDepth 8000 in
theorem w_676 : Cond.instanceMethod yX3_copy ∈ TT := tt_3 (List.mem_of_getElem? (i := 96) rfl) rfl
set_option maxRecDepth 8000 in
theorem w_677 : Cond.selects RX3 yX3_copy yX3_copy ∈ TT := tt_3 (List.mem_of_getElem? (i := 97) rfl) rfl
set_option maxRecDepth 8000 in
theorem w_678 : Cond.code yX3_copy cX3_copy 2 none ∈ TT := tt_3 (List.mem_of_getElem? (i := 98) rfl) rfl
set_option maxRecDepth 8000 in
theorem w_679 : Cond.methodLinkNest RX3 44 yX8_copyRow RX8 ∈ TT := tt_3 (List.mem_of_getElem? (i := 99) rfl) rfl
set_option maxRecDepth 8000 in
theorem w_680 : Cond.static yX8_copyRow ∈ TT := tt_3 (List.mem_of_getElem? (i := 100) rfl) rfl
set_option maxRecDepth 8000 in
theorem w_681 : Cond.code yX8_copyRow cX8_copyRow 3 none ∈ TT := tt_3 (List.mem_of_getElem? (i := 101) rfl) rfl
set_option maxRecDepth 8000 in
theorem w_690 : Cond.methodLink RX8 340 yX3_daysWritten ∈ TT := tt_3 (List.mem_of_getElem? (i := 110) rfl) rfl
set_option maxRecDepth 8000 in
theorem w_691 : Cond.instanceMethod yX3_daysWritten ∈ TT := tt_3 (List.mem_of_getElem? (i := 111) rfl) rfl
set_option maxRecDepth 8000 in
theorem w_692 : Cond.selects RX3 yX3_daysWritten yX3_daysWritten ∈ TT := tt_3 (List.mem_of_getElem? (i := 112) rfl) rfl
set_option maxRecDepth 8000 in
theorem w_693 : Cond.code yX3_daysWritten cX3_daysWritten 3 (some .int) ∈ TT := tt_3 (List.mem_of_getElem? (i := 113) rfl) rfl
set_option maxRecDepth 8000 in
theorem w_694 : Cond.methodLinkNest RX3 52 yX8_at RX8 ∈ TT := tt_3 (List.mem_of_getElem? (i := 114) rfl) rfl
set_option maxRecDepth 8000 in
theorem w_703 : Cond.methodLink RX8 106 yX8_needBetween ∈ TT := tt_3 (List.mem_of_getElem? (i := 123) rfl) rfl
set_option maxRecDepth 8000 in
theorem w_704 : Cond.static yX8_needBetween ∈ TT := tt_3 (List.mem_of_getElem? (i := 124) rfl) rfl
set_option maxRecDepth 8000 in
theorem w_705 : Cond.code yX8_needBetween cX8_needBetween 3 none ∈ TT := tt_3 (List.mem_of_getElem? (i := 125) rfl) rfl
set_option maxRecDepth 8000 in
theorem w_706 : Cond.classLink RX8 169 "java/lang/IllegalArgumentException" ∈ TT := tt_3 (List.mem_of_getElem? (i := 126) rfl) rfl
set_option maxRecDepth 8000 in
theorem w_775 : Cond.methodLink RX8 110 yX7_open ∈ TT := tt_3 (List.mem_of_getElem? (i := 195) rfl) rfl
set_option maxRecDepth 8000 in
theorem w_776 : Cond.instanceMethod yX7_open ∈ TT := tt_3 (List.mem_of_getElem? (i := 196) rfl) rfl
set_option maxRecDepth 8000 in
theorem w_777 : Cond.selects RX7 yX7_open yX7_open ∈ TT := tt_3 (List.mem_of_getElem? (i := 197) rfl) rfl
set_option maxRecDepth 8000 in
theorem w_778 : Cond.code yX7_open cX7_open 2 none ∈ TT := tt_3 (List.mem_of_getElem? (i := 198) rfl) rfl
set_option maxRecDepth 8000 in
theorem w_779 : Cond.methodLink RX8 113 yX5_clauses ∈ TT := tt_3 (List.mem_of_getElem? (i := 199) rfl) rfl
set_option maxRecDepth 8000 in
theorem w_780 : Cond.instanceMethod yX5_clauses ∈ TT := tt_3 (List.mem_of_getElem? (i := 200) rfl) rfl
set_option maxRecDepth 8000 in
theorem w_781 : Cond.selects RX5 yX5_clauses yX5_clauses ∈ TT := tt_3 (List.mem_of_getElem? (i := 201) rfl) rfl
set_option maxRecDepth 8000 in
theorem w_782 : Cond.code yX5_clauses cX5_clauses 2 (some .boolean) ∈ TT := tt_3 (List.mem_of_getElem? (i := 202) rfl) rfl
set_option maxRecDepth 8000 in
theorem w_783 : Cond.methodLinkNest RX5 19 yX4_beUntold RX8 ∈ TT := tt_3 (List.mem_of_getElem? (i := 203) rfl) rfl
set_option maxRecDepth 8000 in
theorem w_784 : Cond.methodLink RX5 24 yX7_more ∈ TT := tt_3 (List.mem_of_getElem? (i := 204) rfl) rfl
set_option maxRecDepth 8000 in
theorem w_785 : Cond.instanceMethod yX7_more ∈ TT := tt_3 (List.mem_of_getElem? (i := 205) rfl) rfl
set_option maxRecDepth 8000 in
theorem w_786 : Cond.selects RX7 yX7_more yX7_more ∈ TT := tt_3 (List.mem_of_getElem? (i := 206) rfl) rfl
set_option maxRecDepth 8000 in
theorem w_787 : Cond.code yX7_more cX7_more 1 (some .boolean) ∈ TT := tt_3 (List.mem_of_getElem? (i := 207) rfl) rfl
set_option maxRecDepth 8000 in
theorem w_788 : Cond.methodLink RX7 35 yX7_start ∈ TT := tt_3 (List.mem_of_getElem? (i := 208) rfl) rfl
set_option maxRecDepth 8000 in
theorem w_789 : Cond.instanceMethod yX7_start ∈ TT := tt_3 (List.mem_of_getElem? (i := 209) rfl) rfl
set_option maxRecDepth 8000 in
theorem w_790 : Cond.selects RX7 yX7_start yX7_start ∈ TT := tt_3 (List.mem_of_getElem? (i := 210) rfl) rfl
set_option maxRecDepth 8000 in
theorem w_791 : Cond.code yX7_start cX7_start 1 (some .int) ∈ TT := tt_3 (List.mem_of_getElem? (i := 211) rfl) rfl
set_option maxRecDepth 8000 in
theorem w_792 : Cond.methodLink RX5 30 yX5_clause ∈ TT := tt_3 (List.mem_of_getElem? (i := 212) rfl) rfl
set_option maxRecDepth 8000 in
theorem w_794 : Cond.instanceMethod yX5_clause ∈ TT := tt_3 (List.mem_of_getElem? (i := 214) rfl) rfl
set_option maxRecDepth 8000 in
theorem w_795 : Cond.code yX5_clause cX5_clause 4 (some .boolean) ∈ TT := tt_3 (List.mem_of_getElem? (i := 215) rfl) rfl
set_option maxRecDepth 8000 in
theorem w_796 : Cond.methodLink RX5 37 yX7_start ∈ TT := tt_3 (List.mem_of_getElem? (i := 216) rfl) rfl
set_option maxRecDepth 8000 in
theorem w_797 : Cond.methodLink RX5 41 yX5_clauseWord ∈ TT := tt_3 (List.mem_of_getElem? (i := 217) rfl) rfl
set_option maxRecDepth 8000 in
theorem w_799 : Cond.instanceMethod yX5_clauseWord ∈ TT := tt_3 (List.mem_of_getElem? (i := 219) rfl) rfl
set_option maxRecDepth 8000 in
theorem w_800 : Cond.code yX5_clauseWord cX5_clauseWord 1 (some .int) ∈ TT := tt_3 (List.mem_of_getElem? (i := 220) rfl) rfl
set_option maxRecDepth 8000 in
theorem w_802 : Cond.methodLink RX5 60 yX7_word ∈ TT := tt_3 (List.mem_of_getElem? (i := 222) rfl) rfl
set_option maxRecDepth 8000 in
theorem w_803 : Cond.instanceMethod yX7_word ∈ TT := tt_3 (List.mem_of_getElem? (i := 223) rfl) rfl
set_option maxRecDepth 8000 in
theorem w_804 : Cond.selects RX7 yX7_word yX7_word ∈ TT := tt_3 (List.mem_of_getElem? (i := 224) rfl) rfl
set_option maxRecDepth 8000 in
theorem w_805 : Cond.code yX7_word cX7_word 5 (some .boolean) ∈ TT := tt_3 (List.mem_of_getElem? (i := 225) rfl) rfl
set_option maxRecDepth 8000 in
theorem w_806 : Cond.methodLinkNest RX7 39 yX8_at RX8 ∈ TT := tt_3 (List.mem_of_getElem? (i := 226) rfl) rfl
set_option maxRecDepth 8000 in
theorem w_807 : Cond.methodLink RX7 51 yX7_isLetter ∈ TT := tt_3 (List.mem_of_getElem? (i := 227) rfl) rfl
set_option maxRecDepth 8000 in
theorem w_808 : Cond.static yX7_isLetter ∈ TT := tt_3 (List.mem_of_getElem? (i := 228) rfl) rfl
set_option maxRecDepth 8000 in
theorem w_809 : Cond.code yX7_isLetter cX7_isLetter 1 (some .boolean) ∈ TT := tt_3 (List.mem_of_getElem? (i := 229) rfl) rfl
set_option maxRecDepth 8000 in
theorem w_810 : Cond.methodLink RX7 54 yJ0_length_8abf5 ∈ TT := tt_3 (List.mem_of_getElem? (i := 230) rfl) rfl
set_option maxRecDepth 8000 in
theorem w_820 : Cond.methodLink RX7 59 yJ0_charAt_5068e ∈ TT := tt_4 (List.mem_of_getElem? (i := 0) rfl) rfl
set_option maxRecDepth 8000 in
theorem w_869 : Cond.methodLink RX5 44 yX7_fail ∈ TT := tt_4 (List.mem_of_getElem? (i := 49) rfl) rfl
set_option maxRecDepth 8000 in
theorem w_870 : Cond.instanceMethod yX7_fail ∈ TT := tt_4 (List.mem_of_getElem? (i := 50) rfl) rfl
set_option maxRecDepth 8000 in
theorem w_871 : Cond.selects RX7 yX7_fail yX7_fail ∈ TT := tt_4 (List.mem_of_getElem? (i := 51) rfl) rfl
set_option maxRecDepth 8000 in
theorem w_872 : Cond.code yX7_fail cX7_fail 3 (some .boolean) ∈ TT := tt_4 (List.mem_of_getElem? (i := 52) rfl) rfl
set_option maxRecDepth 8000 in
theorem w_873 : Cond.methodLink RX5 52 yX5_parts ∈ TT := tt_4 (List.mem_of_getElem? (i := 53) rfl) rfl
set_option maxRecDepth 8000 in
theorem w_875 : Cond.instanceMethod yX5_parts ∈ TT := tt_4 (List.mem_of_getElem? (i := 55) rfl) rfl
set_option maxRecDepth 8000 in
theorem w_876 : Cond.code yX5_parts cX5_parts 2 (some .boolean) ∈ TT := tt_4 (List.mem_of_getElem? (i := 56) rfl) rfl
set_option maxRecDepth 8000 in
theorem w_877 : Cond.methodLink RX5 86 yX5_sun ∈ TT := tt_4 (List.mem_of_getElem? (i := 57) rfl) rfl
set_option maxRecDepth 8000 in
theorem w_879 : Cond.instanceMethod yX5_sun ∈ TT := tt_4 (List.mem_of_getElem? (i := 59) rfl) rfl
set_option maxRecDepth 8000 in
theorem w_880 : Cond.code yX5_sun cX5_sun 3 (some .boolean) ∈ TT := tt_4 (List.mem_of_getElem? (i := 60) rfl) rfl
set_option maxRecDepth 8000 in
theorem w_881 : Cond.methodLink RX5 111 yX7_number ∈ TT := tt_4 (List.mem_of_getElem? (i := 61) rfl) rfl
set_option maxRecDepth 8000 in
theorem w_882 : Cond.instanceMethod yX7_number ∈ TT := tt_4 (List.mem_of_getElem? (i := 62) rfl) rfl
set_option maxRecDepth 8000 in
theorem w_883 : Cond.selects RX7 yX7_number yX7_number ∈ TT := tt_4 (List.mem_of_getElem? (i := 63) rfl) rfl
set_option maxRecDepth 8000 in
theorem w_884 : Cond.code yX7_number cX7_number 5 (some .int) ∈ TT := tt_4 (List.mem_of_getElem? (i := 64) rfl) rfl
set_option maxRecDepth 8000 in
theorem w_885 : Cond.methodLink RX7 63 yX7_isDigit ∈ TT := tt_4 (List.mem_of_getElem? (i := 65) rfl) rfl
set_option maxRecDepth 8000 in
theorem w_886 : Cond.static yX7_isDigit ∈ TT := tt_4 (List.mem_of_getElem? (i := 66) rfl) rfl
set_option maxRecDepth 8000 in
theorem w_887 : Cond.code yX7_isDigit cX7_isDigit 1 (some .boolean) ∈ TT := tt_4 (List.mem_of_getElem? (i := 67) rfl) rfl
set_option maxRecDepth 8000 in
theorem w_888 : Cond.constant RX7 66 100000 ∈ TT := tt_4 (List.mem_of_getElem? (i := 68) rfl) rfl
set_option maxRecDepth 8000 in
theorem w_889 : Cond.methodLink RX7 47 yX7_fail ∈ TT := tt_4 (List.mem_of_getElem? (i := 69) rfl) rfl
set_option maxRecDepth 8000 in
theorem w_890 : Cond.methodLinkNest RX5 123 yX8_put RX8 ∈ TT := tt_4 (List.mem_of_getElem? (i := 70) rfl) rfl
set_option maxRecDepth 8000 in
theorem w_891 : Cond.methodLink RX5 88 yX5_keeper ∈ TT := tt_4 (List.mem_of_getElem? (i := 71) rfl) rfl
set_option maxRecDepth 8000 in
theorem w_893 : Cond.instanceMethod yX5_keeper ∈ TT := tt_4 (List.mem_of_getElem? (i := 73) rfl) rfl
set_option maxRecDepth 8000 in
theorem w_894 : Cond.code yX5_keeper cX5_keeper 3 (some .boolean) ∈ TT := tt_4 (List.mem_of_getElem? (i := 74) rfl) rfl
set_option maxRecDepth 8000 in
theorem w_895 : Cond.methodLink RX5 90 yX5_traits ∈ TT := tt_4 (List.mem_of_getElem? (i := 75) rfl) rfl
set_option maxRecDepth 8000 in
theorem w_897 : Cond.instanceMethod yX5_traits ∈ TT := tt_4 (List.mem_of_getElem? (i := 77) rfl) rfl
set_option maxRecDepth 8000 in
theorem w_898 : Cond.code yX5_traits cX5_traits 7 (some .boolean) ∈ TT := tt_4 (List.mem_of_getElem? (i := 78) rfl) rfl
set_option maxRecDepth 8000 in
theorem w_899 : Cond.methodLink RX5 141 yX4_setTrait ∈ TT := tt_4 (List.mem_of_getElem? (i := 79) rfl) rfl
set_option maxRecDepth 8000 in
theorem w_900 : Cond.instanceMethod yX4_setTrait ∈ TT := tt_4 (List.mem_of_getElem? (i := 80) rfl) rfl
set_option maxRecDepth 8000 in
theorem w_901 : Cond.selects RX4 yX4_setTrait yX4_setTrait ∈ TT := tt_4 (List.mem_of_getElem? (i := 81) rfl) rfl
set_option maxRecDepth 8000 in
theorem w_902 : Cond.code yX4_setTrait cX4_setTrait 4 none ∈ TT := tt_4 (List.mem_of_getElem? (i := 82) rfl) rfl
set_option maxRecDepth 8000 in
theorem w_903 : Cond.methodLinkNest RX4 74 yX8_put RX8 ∈ TT := tt_4 (List.mem_of_getElem? (i := 83) rfl) rfl
set_option maxRecDepth 8000 in
theorem w_904 : Cond.methodLink RX5 93 yX5_trait ∈ TT := tt_4 (List.mem_of_getElem? (i := 84) rfl) rfl
set_option maxRecDepth 8000 in
theorem w_906 : Cond.instanceMethod yX5_trait ∈ TT := tt_4 (List.mem_of_getElem? (i := 86) rfl) rfl
set_option maxRecDepth 8000 in
theorem w_907 : Cond.code yX5_trait cX5_trait 6 (some .boolean) ∈ TT := tt_4 (List.mem_of_getElem? (i := 87) rfl) rfl
set_option maxRecDepth 8000 in
theorem w_908 : Cond.methodLink RX5 97 yX5_secondBridge ∈ TT := tt_4 (List.mem_of_getElem? (i := 88) rfl) rfl
set_option maxRecDepth 8000 in
theorem w_910 : Cond.instanceMethod yX5_secondBridge ∈ TT := tt_4 (List.mem_of_getElem? (i := 90) rfl) rfl
set_option maxRecDepth 8000 in
theorem w_911 : Cond.code yX5_secondBridge cX5_secondBridge 3 (some .boolean) ∈ TT := tt_4 (List.mem_of_getElem? (i := 91) rfl) rfl
set_option maxRecDepth 8000 in
theorem w_912 : Cond.methodLink RX5 104 yX5_single ∈ TT := tt_4 (List.mem_of_getElem? (i := 92) rfl) rfl
set_option maxRecDepth 8000 in
theorem w_914 : Cond.instanceMethod yX5_single ∈ TT := tt_4 (List.mem_of_getElem? (i := 94) rfl) rfl
set_option maxRecDepth 8000 in
theorem w_915 : Cond.code yX5_single cX5_single 4 (some .boolean) ∈ TT := tt_4 (List.mem_of_getElem? (i := 95) rfl) rfl
set_option maxRecDepth 8000 in
theorem w_916 : Cond.methodLink RX5 107 yX5_greatest ∈ TT := tt_4 (List.mem_of_getElem? (i := 96) rfl) rfl
set_option maxRecDepth 8000 in
theorem w_917 : Cond.static yX5_greatest ∈ TT := tt_4 (List.mem_of_getElem? (i := 97) rfl) rfl
set_option maxRecDepth 8000 in
theorem w_918 : Cond.code yX5_greatest cX5_greatest 1 (some .int) ∈ TT := tt_4 (List.mem_of_getElem? (i := 98) rfl) rfl
set_option maxRecDepth 8000 in
theorem w_919 : Cond.methodLink RX5 55 yX7_must ∈ TT := tt_4 (List.mem_of_getElem? (i := 99) rfl) rfl
set_option maxRecDepth 8000 in
theorem w_920 : Cond.instanceMethod yX7_must ∈ TT := tt_4 (List.mem_of_getElem? (i := 100) rfl) rfl
set_option maxRecDepth 8000 in
theorem w_921 : Cond.selects RX7 yX7_must yX7_must ∈ TT := tt_4 (List.mem_of_getElem? (i := 101) rfl) rfl
set_option maxRecDepth 8000 in
theorem w_922 : Cond.code yX7_must cX7_must 2 (some .boolean) ∈ TT := tt_4 (List.mem_of_getElem? (i := 102) rfl) rfl
set_option maxRecDepth 8000 in
theorem w_923 : Cond.methodLink RX7 43 yX7_sign ∈ TT := tt_4 (List.mem_of_getElem? (i := 103) rfl) rfl
set_option maxRecDepth 8000 in
theorem w_924 : Cond.instanceMethod yX7_sign ∈ TT := tt_4 (List.mem_of_getElem? (i := 104) rfl) rfl
set_option maxRecDepth 8000 in
theorem w_925 : Cond.selects RX7 yX7_sign yX7_sign ∈ TT := tt_4 (List.mem_of_getElem? (i := 105) rfl) rfl
set_option maxRecDepth 8000 in
theorem w_926 : Cond.code yX7_sign cX7_sign 3 (some .boolean) ∈ TT := tt_4 (List.mem_of_getElem? (i := 106) rfl) rfl
set_option maxRecDepth 8000 in
theorem w_927 : Cond.methodLink RX5 34 yX4_spreadSuns ∈ TT := tt_4 (List.mem_of_getElem? (i := 107) rfl) rfl
set_option maxRecDepth 8000 in
theorem w_928 : Cond.instanceMethod yX4_spreadSuns ∈ TT := tt_4 (List.mem_of_getElem? (i := 108) rfl) rfl
set_option maxRecDepth 8000 in
theorem w_929 : Cond.selects RX4 yX4_spreadSuns yX4_spreadSuns ∈ TT := tt_4 (List.mem_of_getElem? (i := 109) rfl) rfl
set_option maxRecDepth 8000 in
theorem w_930 : Cond.code yX4_spreadSuns cX4_spreadSuns 3 none ∈ TT := tt_4 (List.mem_of_getElem? (i := 110) rfl) rfl
set_option maxRecDepth 8000 in
theorem w_931 : Cond.methodLink RX8 120 yX4_copy ∈ TT := tt_4 (List.mem_of_getElem? (i := 111) rfl) rfl
set_option maxRecDepth 8000 in
theorem w_932 : Cond.instanceMethod yX4_copy ∈ TT := tt_4 (List.mem_of_getElem? (i := 112) rfl) rfl
set_option maxRecDepth 8000 in
theorem w_933 : Cond.selects RX4 yX4_copy yX4_copy ∈ TT := tt_4 (List.mem_of_getElem? (i := 113) rfl) rfl
set_option maxRecDepth 8000 in
theorem w_934 : Cond.code yX4_copy cX4_copy 2 none ∈ TT := tt_4 (List.mem_of_getElem? (i := 114) rfl) rfl
set_option maxRecDepth 8000 in
theorem w_935 : Cond.methodLinkNest RX4 66 yX8_copyRow RX8 ∈ TT := tt_4 (List.mem_of_getElem? (i := 115) rfl) rfl
set_option maxRecDepth 8000 in
theorem w_936 : Cond.methodLinkNest RX8 123 yX3_clear RX8 ∈ TT := tt_4 (List.mem_of_getElem? (i := 116) rfl) rfl
set_option maxRecDepth 8000 in
theorem w_944 : Cond.methodLink RX8 135 yX1_rows ∈ TT := tt_4 (List.mem_of_getElem? (i := 124) rfl) rfl
set_option maxRecDepth 8000 in
theorem w_945 : Cond.instanceMethod yX1_rows ∈ TT := tt_4 (List.mem_of_getElem? (i := 125) rfl) rfl
set_option maxRecDepth 8000 in
theorem w_946 : Cond.selects RX1 yX1_rows yX1_rows ∈ TT := tt_4 (List.mem_of_getElem? (i := 126) rfl) rfl
set_option maxRecDepth 8000 in
theorem w_947 : Cond.code yX1_rows cX1_rows 4 (some .boolean) ∈ TT := tt_4 (List.mem_of_getElem? (i := 127) rfl) rfl
set_option maxRecDepth 8000 in
theorem w_948 : Cond.methodLink RX1 19 yX0_empty ∈ TT := tt_4 (List.mem_of_getElem? (i := 128) rfl) rfl
set_option maxRecDepth 8000 in
theorem w_949 : Cond.instanceMethod yX0_empty ∈ TT := tt_4 (List.mem_of_getElem? (i := 129) rfl) rfl
set_option maxRecDepth 8000 in
theorem w_950 : Cond.selects RX0 yX0_empty yX0_empty ∈ TT := tt_4 (List.mem_of_getElem? (i := 130) rfl) rfl
set_option maxRecDepth 8000 in
theorem w_951 : Cond.code yX0_empty cX0_empty 1 none ∈ TT := tt_4 (List.mem_of_getElem? (i := 131) rfl) rfl
set_option maxRecDepth 8000 in
theorem w_952 : Cond.methodLink RX1 24 yX7_more ∈ TT := tt_4 (List.mem_of_getElem? (i := 132) rfl) rfl
set_option maxRecDepth 8000 in
theorem w_953 : Cond.methodLink RX1 30 yX7_start ∈ TT := tt_4 (List.mem_of_getElem? (i := 133) rfl) rfl
set_option maxRecDepth 8000 in
theorem w_955 : Cond.methodLink RX1 36 yX7_word ∈ TT := tt_4 (List.mem_of_getElem? (i := 135) rfl) rfl
set_option maxRecDepth 8000 in
theorem w_956 : Cond.methodLink RX1 40 yX7_fail ∈ TT := tt_4 (List.mem_of_getElem? (i := 136) rfl) rfl
set_option maxRecDepth 8000 in
theorem w_957 : Cond.methodLink RX1 44 yX1_number ∈ TT := tt_4 (List.mem_of_getElem? (i := 137) rfl) rfl
set_option maxRecDepth 8000 in
theorem w_959 : Cond.instanceMethod yX1_number ∈ TT := tt_4 (List.mem_of_getElem? (i := 139) rfl) rfl
set_option maxRecDepth 8000 in
theorem w_960 : Cond.code yX1_number cX1_number 5 (some .boolean) ∈ TT := tt_4 (List.mem_of_getElem? (i := 140) rfl) rfl
set_option maxRecDepth 8000 in
theorem w_961 : Cond.methodLink RX1 72 yX1_unit ∈ TT := tt_4 (List.mem_of_getElem? (i := 141) rfl) rfl
set_option maxRecDepth 8000 in
theorem w_963 : Cond.instanceMethod yX1_unit ∈ TT := tt_4 (List.mem_of_getElem? (i := 143) rfl) rfl
set_option maxRecDepth 8000 in
theorem w_964 : Cond.code yX1_unit cX1_unit 5 (some .boolean) ∈ TT := tt_4 (List.mem_of_getElem? (i := 144) rfl) rfl
set_option maxRecDepth 8000 in
theorem w_965 : Cond.methodLink RX1 69 yX7_sign ∈ TT := tt_4 (List.mem_of_getElem? (i := 145) rfl) rfl
set_option maxRecDepth 8000 in
theorem w_966 : Cond.methodLink RX1 57 yX7_must ∈ TT := tt_4 (List.mem_of_getElem? (i := 146) rfl) rfl
set_option maxRecDepth 8000 in
theorem w_973 : Cond.methodLink RX1 87 yX7_number ∈ TT := tt_4 (List.mem_of_getElem? (i := 153) rfl) rfl
set_option maxRecDepth 8000 in
theorem w_974 : Cond.methodLink RX1 53 yX0_add ∈ TT := tt_4 (List.mem_of_getElem? (i := 154) rfl) rfl
set_option maxRecDepth 8000 in
theorem w_975 : Cond.instanceMethod yX0_add ∈ TT := tt_4 (List.mem_of_getElem? (i := 155) rfl) rfl
set_option maxRecDepth 8000 in
theorem w_976 : Cond.selects RX0 yX0_add yX0_add ∈ TT := tt_4 (List.mem_of_getElem? (i := 156) rfl) rfl
set_option maxRecDepth 8000 in
theorem w_977 : Cond.code yX0_add cX0_add 2 none ∈ TT := tt_4 (List.mem_of_getElem? (i := 157) rfl) rfl
set_option maxRecDepth 8000 in
theorem w_979 : Cond.methodLink RX1 50 yX1_condition ∈ TT := tt_4 (List.mem_of_getElem? (i := 159) rfl) rfl
set_option maxRecDepth 8000 in
theorem w_981 : Cond.instanceMethod yX1_condition ∈ TT := tt_4 (List.mem_of_getElem? (i := 161) rfl) rfl
set_option maxRecDepth 8000 in
theorem w_982 : Cond.code yX1_condition cX1_condition 5 (some .boolean) ∈ TT := tt_4 (List.mem_of_getElem? (i := 162) rfl) rfl
set_option maxRecDepth 8000 in
theorem w_983 : Cond.methodLink RX1 60 yX1_clause ∈ TT := tt_4 (List.mem_of_getElem? (i := 163) rfl) rfl
set_option maxRecDepth 8000 in
theorem w_985 : Cond.instanceMethod yX1_clause ∈ TT := tt_4 (List.mem_of_getElem? (i := 165) rfl) rfl
set_option maxRecDepth 8000 in
theorem w_986 : Cond.code yX1_clause cX1_clause 4 (some .boolean) ∈ TT := tt_4 (List.mem_of_getElem? (i := 166) rfl) rfl
set_option maxRecDepth 8000 in
theorem w_990 : Cond.methodLink RX8 138 yX0_copy ∈ TT := tt_4 (List.mem_of_getElem? (i := 170) rfl) rfl
set_option maxRecDepth 8000 in
theorem w_991 : Cond.instanceMethod yX0_copy ∈ TT := tt_4 (List.mem_of_getElem? (i := 171) rfl) rfl
set_option maxRecDepth 8000 in
theorem w_992 : Cond.selects RX0 yX0_copy yX0_copy ∈ TT := tt_4 (List.mem_of_getElem? (i := 172) rfl) rfl
set_option maxRecDepth 8000 in
theorem w_993 : Cond.code yX0_copy cX0_copy 2 none ∈ TT := tt_4 (List.mem_of_getElem? (i := 173) rfl) rfl
set_option maxRecDepth 8000 in
theorem w_994 : Cond.methodLinkNest RX0 29 yX8_copyRow RX8 ∈ TT := tt_4 (List.mem_of_getElem? (i := 174) rfl) rfl
set_option maxRecDepth 8000 in
theorem w_1011 : Cond.methodLink RX8 176 yX8_needTraveller ∈ TT := tt_4 (List.mem_of_getElem? (i := 191) rfl) rfl
set_option maxRecDepth 8000 in
theorem w_1013 : Cond.instanceMethod yX8_needTraveller ∈ TT := tt_4 (List.mem_of_getElem? (i := 193) rfl) rfl
set_option maxRecDepth 8000 in
theorem w_1014 : Cond.code yX8_needTraveller cX8_needTraveller 2 none ∈ TT := tt_4 (List.mem_of_getElem? (i := 194) rfl) rfl
set_option maxRecDepth 8000 in
theorem w_1015 : Cond.classLink RX8 354 "java/util/NoSuchElementException" ∈ TT := tt_4 (List.mem_of_getElem? (i := 195) rfl) rfl
set_option maxRecDepth 8000 in
theorem w_1031 : Cond.methodLink RX8 179 yX4_trait ∈ TT := tt_4 (List.mem_of_getElem? (i := 211) rfl) rfl
set_option maxRecDepth 8000 in
theorem w_1039 : Cond.methodLink RX8 183 yX8_needDay ∈ TT := tt_4 (List.mem_of_getElem? (i := 219) rfl) rfl
set_option maxRecDepth 8000 in
theorem w_1040 : Cond.static yX8_needDay ∈ TT := tt_4 (List.mem_of_getElem? (i := 220) rfl) rfl
set_option maxRecDepth 8000 in
theorem w_1041 : Cond.code yX8_needDay cX8_needDay 1 none ∈ TT := tt_4 (List.mem_of_getElem? (i := 221) rfl) rfl
set_option maxRecDepth 8000 in
theorem w_1051 : Cond.methodLink RX8 196 yX8_needBridge ∈ TT := tt_4 (List.mem_of_getElem? (i := 231) rfl) rfl
set_option maxRecDepth 8000 in
theorem w_1053 : Cond.instanceMethod yX8_needBridge ∈ TT := tt_4 (List.mem_of_getElem? (i := 233) rfl) rfl
set_option maxRecDepth 8000 in
theorem w_1054 : Cond.code yX8_needBridge cX8_needBridge 2 none ∈ TT := tt_4 (List.mem_of_getElem? (i := 234) rfl) rfl
set_option maxRecDepth 8000 in
theorem w_1055 : Cond.classLink RX8 349 "java/lang/IndexOutOfBoundsException" ∈ TT := tt_4 (List.mem_of_getElem? (i := 235) rfl) rfl
set_option maxRecDepth 8000 in
theorem w_1071 : Cond.methodLink RX8 199 yX8_needMinute ∈ TT := tt_5 (List.mem_of_getElem? (i := 11) rfl) rfl
set_option maxRecDepth 8000 in
theorem w_1072 : Cond.static yX8_needMinute ∈ TT := tt_5 (List.mem_of_getElem? (i := 12) rfl) rfl
set_option maxRecDepth 8000 in
theorem w_1073 : Cond.code yX8_needMinute cX8_needMinute 1 none ∈ TT := tt_5 (List.mem_of_getElem? (i := 13) rfl) rfl
set_option maxRecDepth 8000 in
theorem w_1075 : Cond.methodLink RX8 202 yX4_altitudeAt ∈ TT := tt_5 (List.mem_of_getElem? (i := 15) rfl) rfl
set_option maxRecDepth 8000 in
theorem w_1083 : Cond.methodLink RX8 206 yX8_shadowOf ∈ TT := tt_5 (List.mem_of_getElem? (i := 23) rfl) rfl
set_option maxRecDepth 8000 in
theorem w_1091 : Cond.methodLink RX8 212 yX8_put ∈ TT := tt_5 (List.mem_of_getElem? (i := 31) rfl) rfl
set_option maxRecDepth 8000 in
theorem w_1099 : Cond.methodLink RX8 220 yX4_fare ∈ TT := tt_5 (List.mem_of_getElem? (i := 39) rfl) rfl
set_option maxRecDepth 8000 in
theorem w_1107 : Cond.methodLink RX8 224 yX8_bestMinute ∈ TT := tt_5 (List.mem_of_getElem? (i := 47) rfl) rfl
set_option maxRecDepth 8000 in
theorem w_1109 : Cond.instanceMethod yX8_bestMinute ∈ TT := tt_5 (List.mem_of_getElem? (i := 49) rfl) rfl
set_option maxRecDepth 8000 in
theorem w_1110 : Cond.code yX8_bestMinute cX8_bestMinute 10 (some .int) ∈ TT := tt_5 (List.mem_of_getElem? (i := 50) rfl) rfl
set_option maxRecDepth 8000 in
theorem w_1111 : Cond.methodLink RX8 330 yJ9_max_7cf53 ∈ TT := tt_5 (List.mem_of_getElem? (i := 51) rfl) rfl
set_option maxRecDepth 8000 in
theorem w_1114 : Cond.methodLink RX8 227 yX8_expense ∈ TT := tt_5 (List.mem_of_getElem? (i := 54) rfl) rfl
set_option maxRecDepth 8000 in
theorem w_1116 : Cond.instanceMethod yX8_expense ∈ TT := tt_5 (List.mem_of_getElem? (i := 56) rfl) rfl
set_option maxRecDepth 8000 in
theorem w_1117 : Cond.code yX8_expense cX8_expense 5 (some .int) ∈ TT := tt_5 (List.mem_of_getElem? (i := 57) rfl) rfl
set_option maxRecDepth 8000 in
theorem w_1118 : Cond.methodLink RX8 363 yX4_extra ∈ TT := tt_5 (List.mem_of_getElem? (i := 58) rfl) rfl
set_option maxRecDepth 8000 in
theorem w_1133 : Cond.methodLink RX8 231 yX8_needPlan ∈ TT := tt_5 (List.mem_of_getElem? (i := 73) rfl) rfl
set_option maxRecDepth 8000 in
theorem w_1135 : Cond.instanceMethod yX8_needPlan ∈ TT := tt_5 (List.mem_of_getElem? (i := 75) rfl) rfl
set_option maxRecDepth 8000 in
theorem w_1136 : Cond.code yX8_needPlan cX8_needPlan 4 none ∈ TT := tt_5 (List.mem_of_getElem? (i := 76) rfl) rfl
set_option maxRecDepth 8000 in
theorem w_1139 : Cond.methodLink RX8 235 yX8_planFor ∈ TT := tt_5 (List.mem_of_getElem? (i := 79) rfl) rfl
set_option maxRecDepth 8000 in
theorem w_1141 : Cond.instanceMethod yX8_planFor ∈ TT := tt_5 (List.mem_of_getElem? (i := 81) rfl) rfl
set_option maxRecDepth 8000 in
theorem w_1142 : Cond.code yX8_planFor cX8_planFor 6 none ∈ TT := tt_5 (List.mem_of_getElem? (i := 82) rfl) rfl
set_option maxRecDepth 8000 in
theorem w_1143 : Cond.constant RX8 374 1048576 ∈ TT := tt_5 (List.mem_of_getElem? (i := 83) rfl) rfl
set_option maxRecDepth 8000 in
theorem w_1144 : Cond.methodLink RX8 375 yX2_solve ∈ TT := tt_5 (List.mem_of_getElem? (i := 84) rfl) rfl
set_option maxRecDepth 8000 in
theorem w_1145 : Cond.methodLink RX8 378 yX2_seat ∈ TT := tt_5 (List.mem_of_getElem? (i := 85) rfl) rfl
set_option maxRecDepth 8000 in
theorem w_1146 : Cond.instanceMethod yX2_seat ∈ TT := tt_5 (List.mem_of_getElem? (i := 86) rfl) rfl
set_option maxRecDepth 8000 in
theorem w_1147 : Cond.selects RX2 yX2_seat yX2_seat ∈ TT := tt_5 (List.mem_of_getElem? (i := 87) rfl) rfl
set_option maxRecDepth 8000 in
theorem w_1148 : Cond.code yX2_seat cX2_seat 5 none ∈ TT := tt_5 (List.mem_of_getElem? (i := 88) rfl) rfl
set_option maxRecDepth 8000 in
theorem w_1149 : Cond.methodLink RX2 138 yX2_forgetSums ∈ TT := tt_5 (List.mem_of_getElem? (i := 89) rfl) rfl
set_option maxRecDepth 8000 in
theorem w_1151 : Cond.instanceMethod yX2_forgetSums ∈ TT := tt_5 (List.mem_of_getElem? (i := 91) rfl) rfl
set_option maxRecDepth 8000 in
theorem w_1152 : Cond.code yX2_forgetSums cX2_forgetSums 1 none ∈ TT := tt_5 (List.mem_of_getElem? (i := 92) rfl) rfl
set_option maxRecDepth 8000 in
theorem w_1153 : Cond.methodLinkNest RX2 156 yX8_fillRow RX8 ∈ TT := tt_5 (List.mem_of_getElem? (i := 93) rfl) rfl
set_option maxRecDepth 8000 in
theorem w_1154 : Cond.methodLink RX2 141 yX2_holderOf ∈ TT := tt_5 (List.mem_of_getElem? (i := 94) rfl) rfl
set_option maxRecDepth 8000 in
theorem w_1156 : Cond.instanceMethod yX2_holderOf ∈ TT := tt_5 (List.mem_of_getElem? (i := 96) rfl) rfl
set_option maxRecDepth 8000 in
theorem w_1157 : Cond.code yX2_holderOf cX2_holderOf 7 (some .int) ∈ TT := tt_5 (List.mem_of_getElem? (i := 97) rfl) rfl
set_option maxRecDepth 8000 in
theorem w_1158 : Cond.methodLink RX2 144 yX2_coinsIn ∈ TT := tt_5 (List.mem_of_getElem? (i := 98) rfl) rfl
set_option maxRecDepth 8000 in
theorem w_1160 : Cond.instanceMethod yX2_coinsIn ∈ TT := tt_5 (List.mem_of_getElem? (i := 100) rfl) rfl
set_option maxRecDepth 8000 in
theorem w_1161 : Cond.code yX2_coinsIn cX2_coinsIn 5 (some .int) ∈ TT := tt_5 (List.mem_of_getElem? (i := 101) rfl) rfl
set_option maxRecDepth 8000 in
theorem w_1162 : Cond.methodLink RX2 147 yX2_addUp ∈ TT := tt_5 (List.mem_of_getElem? (i := 102) rfl) rfl
set_option maxRecDepth 8000 in
theorem w_1164 : Cond.instanceMethod yX2_addUp ∈ TT := tt_5 (List.mem_of_getElem? (i := 104) rfl) rfl
set_option maxRecDepth 8000 in
theorem w_1165 : Cond.code yX2_addUp cX2_addUp 5 none ∈ TT := tt_5 (List.mem_of_getElem? (i := 105) rfl) rfl
set_option maxRecDepth 8000 in
theorem w_1166 : Cond.methodLink RX2 163 yX2_minuteOf ∈ TT := tt_5 (List.mem_of_getElem? (i := 106) rfl) rfl
set_option maxRecDepth 8000 in
theorem w_1168 : Cond.instanceMethod yX2_minuteOf ∈ TT := tt_5 (List.mem_of_getElem? (i := 108) rfl) rfl
set_option maxRecDepth 8000 in
theorem w_1169 : Cond.code yX2_minuteOf cX2_minuteOf 2 (some .int) ∈ TT := tt_5 (List.mem_of_getElem? (i := 109) rfl) rfl
set_option maxRecDepth 8000 in
theorem w_1170 : Cond.methodLink RX2 166 yX4_trait ∈ TT := tt_5 (List.mem_of_getElem? (i := 110) rfl) rfl
set_option maxRecDepth 8000 in
theorem w_1171 : Cond.methodLink RX2 169 yJ9_max_7cf53 ∈ TT := tt_5 (List.mem_of_getElem? (i := 111) rfl) rfl
set_option maxRecDepth 8000 in
theorem w_1172 : Cond.methodLink RX8 245 yX2_earnedAt ∈ TT := tt_5 (List.mem_of_getElem? (i := 112) rfl) rfl
set_option maxRecDepth 8000 in
theorem w_1173 : Cond.instanceMethod yX2_earnedAt ∈ TT := tt_5 (List.mem_of_getElem? (i := 113) rfl) rfl
set_option maxRecDepth 8000 in
theorem w_1174 : Cond.selects RX2 yX2_earnedAt yX2_earnedAt ∈ TT := tt_5 (List.mem_of_getElem? (i := 114) rfl) rfl
set_option maxRecDepth 8000 in
theorem w_1175 : Cond.code yX2_earnedAt cX2_earnedAt 2 (some .int) ∈ TT := tt_5 (List.mem_of_getElem? (i := 115) rfl) rfl
set_option maxRecDepth 8000 in
theorem w_1183 : Cond.methodLink RX8 252 yX2_slotOf ∈ TT := tt_5 (List.mem_of_getElem? (i := 123) rfl) rfl
set_option maxRecDepth 8000 in
theorem w_1184 : Cond.instanceMethod yX2_slotOf ∈ TT := tt_5 (List.mem_of_getElem? (i := 124) rfl) rfl
set_option maxRecDepth 8000 in
theorem w_1185 : Cond.selects RX2 yX2_slotOf yX2_slotOf ∈ TT := tt_5 (List.mem_of_getElem? (i := 125) rfl) rfl
set_option maxRecDepth 8000 in
theorem w_1186 : Cond.code yX2_slotOf cX2_slotOf 3 (some .int) ∈ TT := tt_5 (List.mem_of_getElem? (i := 126) rfl) rfl
set_option maxRecDepth 8000 in
theorem w_1201 : Cond.methodLink RX8 265 yX4_isOpen ∈ TT := tt_5 (List.mem_of_getElem? (i := 141) rfl) rfl
set_option maxRecDepth 8000 in
theorem w_1202 : Cond.instanceMethod yX4_isOpen ∈ TT := tt_5 (List.mem_of_getElem? (i := 142) rfl) rfl
set_option maxRecDepth 8000 in
theorem w_1203 : Cond.selects RX4 yX4_isOpen yX4_isOpen ∈ TT := tt_5 (List.mem_of_getElem? (i := 143) rfl) rfl
set_option maxRecDepth 8000 in
theorem w_1204 : Cond.code yX4_isOpen cX4_isOpen 2 (some .boolean) ∈ TT := tt_5 (List.mem_of_getElem? (i := 144) rfl) rfl
set_option maxRecDepth 8000 in
theorem w_1205 : Cond.methodLink RX8 268 yX4_mayCome ∈ TT := tt_5 (List.mem_of_getElem? (i := 145) rfl) rfl
set_option maxRecDepth 8000 in
theorem w_1206 : Cond.methodLink RX8 272 yX3_addCrossing ∈ TT := tt_5 (List.mem_of_getElem? (i := 146) rfl) rfl
set_option maxRecDepth 8000 in
theorem w_1207 : Cond.instanceMethod yX3_addCrossing ∈ TT := tt_5 (List.mem_of_getElem? (i := 147) rfl) rfl
set_option maxRecDepth 8000 in
theorem w_1208 : Cond.selects RX3 yX3_addCrossing yX3_addCrossing ∈ TT := tt_5 (List.mem_of_getElem? (i := 148) rfl) rfl
set_option maxRecDepth 8000 in
theorem w_1209 : Cond.code yX3_addCrossing cX3_addCrossing 3 none ∈ TT := tt_5 (List.mem_of_getElem? (i := 149) rfl) rfl
set_option maxRecDepth 8000 in
theorem w_1210 : Cond.methodLinkNest RX3 48 yX8_put RX8 ∈ TT := tt_5 (List.mem_of_getElem? (i := 150) rfl) rfl
set_option maxRecDepth 8000 in
theorem w_1218 : Cond.methodLink RX8 279 yX3_sum ∈ TT := tt_5 (List.mem_of_getElem? (i := 158) rfl) rfl
set_option maxRecDepth 8000 in
theorem w_1219 : Cond.instanceMethod yX3_sum ∈ TT := tt_5 (List.mem_of_getElem? (i := 159) rfl) rfl
set_option maxRecDepth 8000 in
theorem w_1220 : Cond.selects RX3 yX3_sum yX3_sum ∈ TT := tt_5 (List.mem_of_getElem? (i := 160) rfl) rfl
set_option maxRecDepth 8000 in
theorem w_1221 : Cond.code yX3_sum cX3_sum 4 (some .int) ∈ TT := tt_5 (List.mem_of_getElem? (i := 161) rfl) rfl
set_option maxRecDepth 8000 in
theorem w_1229 : Cond.constant RX8 282 99999 ∈ TT := tt_5 (List.mem_of_getElem? (i := 169) rfl) rfl
set_option maxRecDepth 8000 in
theorem w_1244 : Cond.methodLink RX8 286 yX0_beTwoLines ∈ TT := tt_5 (List.mem_of_getElem? (i := 184) rfl) rfl
set_option maxRecDepth 8000 in
theorem w_1245 : Cond.instanceMethod yX0_beTwoLines ∈ TT := tt_5 (List.mem_of_getElem? (i := 185) rfl) rfl
set_option maxRecDepth 8000 in
theorem w_1246 : Cond.selects RX0 yX0_beTwoLines yX0_beTwoLines ∈ TT := tt_5 (List.mem_of_getElem? (i := 186) rfl) rfl
set_option maxRecDepth 8000 in
theorem w_1247 : Cond.code yX0_beTwoLines cX0_beTwoLines 3 none ∈ TT := tt_5 (List.mem_of_getElem? (i := 187) rfl) rfl
set_option maxRecDepth 8000 in
theorem w_1248 : Cond.methodLink RX0 33 yX0_empty ∈ TT := tt_5 (List.mem_of_getElem? (i := 188) rfl) rfl
set_option maxRecDepth 8000 in
theorem w_1249 : Cond.methodLink RX0 36 yX0_addLine ∈ TT := tt_5 (List.mem_of_getElem? (i := 189) rfl) rfl
set_option maxRecDepth 8000 in
theorem w_1251 : Cond.instanceMethod yX0_addLine ∈ TT := tt_5 (List.mem_of_getElem? (i := 191) rfl) rfl
set_option maxRecDepth 8000 in
theorem w_1252 : Cond.code yX0_addLine cX0_addLine 4 none ∈ TT := tt_5 (List.mem_of_getElem? (i := 192) rfl) rfl
set_option maxRecDepth 8000 in
theorem w_1253 : Cond.methodLink RX0 40 yX0_add ∈ TT := tt_5 (List.mem_of_getElem? (i := 193) rfl) rfl
set_option maxRecDepth 8000 in
theorem w_1262 : Cond.classLink RX8 292 "java/lang/IllegalStateException" ∈ TT := tt_5 (List.mem_of_getElem? (i := 202) rfl) rfl
set_option maxRecDepth 8000 in
theorem w_1278 : Cond.methodLink RX8 297 yX8_reckonTakings ∈ TT := tt_5 (List.mem_of_getElem? (i := 218) rfl) rfl
set_option maxRecDepth 8000 in
theorem w_1280 : Cond.instanceMethod yX8_reckonTakings ∈ TT := tt_5 (List.mem_of_getElem? (i := 220) rfl) rfl
set_option maxRecDepth 8000 in
theorem w_1281 : Cond.code yX8_reckonTakings cX8_reckonTakings 4 none ∈ TT := tt_5 (List.mem_of_getElem? (i := 221) rfl) rfl
set_option maxRecDepth 8000 in
theorem w_1282 : Cond.methodLink RX8 387 yX8_takingsIndex ∈ TT := tt_5 (List.mem_of_getElem? (i := 222) rfl) rfl
set_option maxRecDepth 8000 in
theorem w_1283 : Cond.static yX8_takingsIndex ∈ TT := tt_5 (List.mem_of_getElem? (i := 223) rfl) rfl
set_option maxRecDepth 8000 in
theorem w_1284 : Cond.code yX8_takingsIndex cX8_takingsIndex 3 (some .int) ∈ TT := tt_5 (List.mem_of_getElem? (i := 224) rfl) rfl
set_option maxRecDepth 8000 in
theorem w_1285 : Cond.methodLink RX8 300 yX8_bestReply ∈ TT := tt_5 (List.mem_of_getElem? (i := 225) rfl) rfl
set_option maxRecDepth 8000 in
theorem w_1287 : Cond.instanceMethod yX8_bestReply ∈ TT := tt_5 (List.mem_of_getElem? (i := 227) rfl) rfl
set_option maxRecDepth 8000 in
theorem w_1288 : Cond.code yX8_bestReply cX8_bestReply 5 (some .int) ∈ TT := tt_5 (List.mem_of_getElem? (i := 228) rfl) rfl
set_option maxRecDepth 8000 in
theorem w_1296 : Cond.methodLink RX8 306 yX3_addLedgerRow ∈ TT := tt_5 (List.mem_of_getElem? (i := 236) rfl) rfl
set_option maxRecDepth 8000 in
theorem w_1297 : Cond.instanceMethod yX3_addLedgerRow ∈ TT := tt_5 (List.mem_of_getElem? (i := 237) rfl) rfl
set_option maxRecDepth 8000 in
theorem w_1298 : Cond.selects RX3 yX3_addLedgerRow yX3_addLedgerRow ∈ TT := tt_5 (List.mem_of_getElem? (i := 238) rfl) rfl
set_option maxRecDepth 8000 in
theorem w_1299 : Cond.code yX3_addLedgerRow cX3_addLedgerRow 3 none ∈ TT := tt_5 (List.mem_of_getElem? (i := 239) rfl) rfl
set_option maxRecDepth 8000 in
theorem w_1307 : Cond.methodLink RX8 312 yX8_paysLedger ∈ TT := tt_6 (List.mem_of_getElem? (i := 7) rfl) rfl
set_option maxRecDepth 8000 in
theorem w_1309 : Cond.instanceMethod yX8_paysLedger ∈ TT := tt_6 (List.mem_of_getElem? (i := 9) rfl) rfl
set_option maxRecDepth 8000 in
theorem w_1310 : Cond.code yX8_paysLedger cX8_paysLedger 8 (some .boolean) ∈ TT := tt_6 (List.mem_of_getElem? (i := 10) rfl) rfl
set_option maxRecDepth 8000 in
theorem w_1311 : Cond.methodLink RX8 393 yX4_charge ∈ TT := tt_6 (List.mem_of_getElem? (i := 11) rfl) rfl
set_option maxRecDepth 8000 in
theorem w_1319 : Cond.methodLink RX8 319 yX8_planDays ∈ TT := tt_6 (List.mem_of_getElem? (i := 19) rfl) rfl
set_option maxRecDepth 8000 in
theorem w_1321 : Cond.instanceMethod yX8_planDays ∈ TT := tt_6 (List.mem_of_getElem? (i := 21) rfl) rfl
set_option maxRecDepth 8000 in
theorem w_1322 : Cond.code yX8_planDays cX8_planDays 4 none ∈ TT := tt_6 (List.mem_of_getElem? (i := 22) rfl) rfl
set_option maxRecDepth 8000 in
theorem w_1323 : Cond.methodLink RX8 384 yX6_keep ∈ TT := tt_6 (List.mem_of_getElem? (i := 23) rfl) rfl
set_option maxRecDepth 8000 in
theorem w_1324 : Cond.instanceMethod yX6_keep ∈ TT := tt_6 (List.mem_of_getElem? (i := 24) rfl) rfl
set_option maxRecDepth 8000 in
theorem w_1325 : Cond.selects RX6 yX6_keep yX6_keep ∈ TT := tt_6 (List.mem_of_getElem? (i := 25) rfl) rfl
set_option maxRecDepth 8000 in
theorem w_1326 : Cond.code yX6_keep cX6_keep 6 none ∈ TT := tt_6 (List.mem_of_getElem? (i := 26) rfl) rfl
set_option maxRecDepth 8000 in
theorem w_1327 : Cond.methodLink RX6 43 yX2_slotOf ∈ TT := tt_6 (List.mem_of_getElem? (i := 27) rfl) rfl
set_option maxRecDepth 8000 in
theorem w_1328 : Cond.methodLink RX6 49 yX4_slotMinute ∈ TT := tt_6 (List.mem_of_getElem? (i := 28) rfl) rfl
set_option maxRecDepth 8000 in
theorem w_1329 : Cond.methodLinkNest RX6 52 yX8_put RX8 ∈ TT := tt_6 (List.mem_of_getElem? (i := 29) rfl) rfl
set_option maxRecDepth 8000 in
theorem w_1330 : Cond.methodLinkNest RX6 59 yX8_at RX8 ∈ TT := tt_6 (List.mem_of_getElem? (i := 30) rfl) rfl
set_option maxRecDepth 8000 in
theorem w_1331 : Cond.methodLink RX8 322 yX6_takenUnder ∈ TT := tt_6 (List.mem_of_getElem? (i := 31) rfl) rfl
set_option maxRecDepth 8000 in
theorem w_1332 : Cond.instanceMethod yX6_takenUnder ∈ TT := tt_6 (List.mem_of_getElem? (i := 32) rfl) rfl
set_option maxRecDepth 8000 in
theorem w_1333 : Cond.selects RX6 yX6_takenUnder yX6_takenUnder ∈ TT := tt_6 (List.mem_of_getElem? (i := 33) rfl) rfl
set_option maxRecDepth 8000 in
theorem w_1334 : Cond.code yX6_takenUnder cX6_takenUnder 9 (some .int) ∈ TT := tt_6 (List.mem_of_getElem? (i := 34) rfl) rfl
set_option maxRecDepth 8000 in
theorem w_1354 : Cond.methodLink RX9 107 yX9_blank ∈ TT := tt_6 (List.mem_of_getElem? (i := 54) rfl) rfl
set_option maxRecDepth 8000 in
theorem w_1355 : Cond.static yX9_blank ∈ TT := tt_6 (List.mem_of_getElem? (i := 55) rfl) rfl
set_option maxRecDepth 8000 in
theorem w_1356 : Cond.code yX9_blank cX9_blank 4 none ∈ TT := tt_6 (List.mem_of_getElem? (i := 56) rfl) rfl
set_option maxRecDepth 8000 in
theorem w_1357 : Cond.fieldLink RX9 111 RX9 "thrown" "I" ∈ TT := tt_6 (List.mem_of_getElem? (i := 57) rfl) rfl
set_option maxRecDepth 8000 in
theorem w_1358 : Cond.fieldLink RX9 114 RX9 "tape" "I" ∈ TT := tt_6 (List.mem_of_getElem? (i := 58) rfl) rfl
set_option maxRecDepth 8000 in
theorem w_1359 : Cond.fieldLink RX9 117 RX9 "size" "I" ∈ TT := tt_6 (List.mem_of_getElem? (i := 59) rfl) rfl
set_option maxRecDepth 8000 in
theorem w_1360 : Cond.fieldLink RX9 9 RX9 "place" "I" ∈ TT := tt_6 (List.mem_of_getElem? (i := 60) rfl) rfl
set_option maxRecDepth 8000 in
theorem w_1361 : Cond.fieldLink RX9 120 RX9 "at" "I" ∈ TT := tt_6 (List.mem_of_getElem? (i := 61) rfl) rfl
set_option maxRecDepth 8000 in
theorem w_1362 : Cond.fieldLink RX9 127 RX9 "fault" "I" ∈ TT := tt_6 (List.mem_of_getElem? (i := 62) rfl) rfl
set_option maxRecDepth 8000 in
theorem w_1363 : Cond.fieldLink RX9 130 RX9 "faultAt" "I" ∈ TT := tt_6 (List.mem_of_getElem? (i := 63) rfl) rfl
set_option maxRecDepth 8000 in
theorem w_1364 : Cond.fieldLink RX9 169 RX9 "clauses" "I" ∈ TT := tt_6 (List.mem_of_getElem? (i := 64) rfl) rfl
set_option maxRecDepth 8000 in
theorem w_1365 : Cond.fieldLink RX9 166 RX9 "open" "I" ∈ TT := tt_6 (List.mem_of_getElem? (i := 65) rfl) rfl
set_option maxRecDepth 8000 in
theorem w_1366 : Cond.fieldLink RX9 13 RX9 "fed" "[I" ∈ TT := tt_6 (List.mem_of_getElem? (i := 66) rfl) rfl
set_option maxRecDepth 8000 in
theorem w_1367 : Cond.fieldLink RX9 17 RX9 "readTold" "[I" ∈ TT := tt_6 (List.mem_of_getElem? (i := 67) rfl) rfl
set_option maxRecDepth 8000 in
theorem w_1368 : Cond.fieldLink RX9 20 RX9 "told" "[I" ∈ TT := tt_6 (List.mem_of_getElem? (i := 68) rfl) rfl
set_option maxRecDepth 8000 in
theorem w_1369 : Cond.fieldLink RX9 23 RX9 "readSun" "[I" ∈ TT := tt_6 (List.mem_of_getElem? (i := 69) rfl) rfl
set_option maxRecDepth 8000 in
theorem w_1370 : Cond.fieldLink RX9 26 RX9 "sun" "[I" ∈ TT := tt_6 (List.mem_of_getElem? (i := 70) rfl) rfl
set_option maxRecDepth 8000 in
theorem w_1371 : Cond.fieldLink RX9 29 RX9 "readFeast" "[I" ∈ TT := tt_6 (List.mem_of_getElem? (i := 71) rfl) rfl
set_option maxRecDepth 8000 in
theorem w_1372 : Cond.fieldLink RX9 32 RX9 "feast" "[I" ∈ TT := tt_6 (List.mem_of_getElem? (i := 72) rfl) rfl
set_option maxRecDepth 8000 in
theorem w_1373 : Cond.fieldLink RX9 37 RX9 "readWho" "[[I" ∈ TT := tt_6 (List.mem_of_getElem? (i := 73) rfl) rfl
set_option maxRecDepth 8000 in
theorem w_1374 : Cond.fieldLink RX9 40 RX9 "who" "[[I" ∈ TT := tt_6 (List.mem_of_getElem? (i := 74) rfl) rfl
set_option maxRecDepth 8000 in
theorem w_1375 : Cond.fieldLink RX9 221 RX9 "tolls" "I" ∈ TT := tt_6 (List.mem_of_getElem? (i := 75) rfl) rfl
set_option maxRecDepth 8000 in
theorem w_1376 : Cond.fieldLink RX9 224 RX9 "codes" "I" ∈ TT := tt_6 (List.mem_of_getElem? (i := 76) rfl) rfl
set_option maxRecDepth 8000 in
theorem w_1377 : Cond.fieldLink RX9 266 RX9 "readRows" "I" ∈ TT := tt_6 (List.mem_of_getElem? (i := 77) rfl) rfl
set_option maxRecDepth 8000 in
theorem w_1378 : Cond.fieldLink RX9 43 RX9 "tollRows" "[I" ∈ TT := tt_6 (List.mem_of_getElem? (i := 78) rfl) rfl
set_option maxRecDepth 8000 in
theorem w_1379 : Cond.fieldLink RX9 46 RX9 "rowFrom" "[[I" ∈ TT := tt_6 (List.mem_of_getElem? (i := 79) rfl) rfl
set_option maxRecDepth 8000 in
theorem w_1380 : Cond.fieldLink RX9 49 RX9 "rowIf" "[[I" ∈ TT := tt_6 (List.mem_of_getElem? (i := 80) rfl) rfl
set_option maxRecDepth 8000 in
theorem w_1381 : Cond.fieldLink RX9 52 RX9 "rowTo" "[[I" ∈ TT := tt_6 (List.mem_of_getElem? (i := 81) rfl) rfl
set_option maxRecDepth 8000 in
theorem w_1382 : Cond.fieldLink RX9 55 RX9 "code" "[[I" ∈ TT := tt_6 (List.mem_of_getElem? (i := 82) rfl) rfl
set_option maxRecDepth 8000 in
theorem w_1383 : Cond.fieldLink RX9 58 RX9 "stack" "[I" ∈ TT := tt_6 (List.mem_of_getElem? (i := 83) rfl) rfl
set_option maxRecDepth 8000 in
theorem w_1384 : Cond.fieldLink RX9 61 RX9 "names" "[I" ∈ TT := tt_6 (List.mem_of_getElem? (i := 84) rfl) rfl
set_option maxRecDepth 8000 in
theorem w_1385 : Cond.fieldLink RX9 64 RX9 "law" "[I" ∈ TT := tt_6 (List.mem_of_getElem? (i := 85) rfl) rfl
set_option maxRecDepth 8000 in
theorem w_1386 : Cond.fieldLink RX9 67 RX9 "written" "[I" ∈ TT := tt_6 (List.mem_of_getElem? (i := 86) rfl) rfl
set_option maxRecDepth 8000 in
theorem w_1387 : Cond.fieldLink RX9 212 RX9 "crossings" "I" ∈ TT := tt_6 (List.mem_of_getElem? (i := 87) rfl) rfl
set_option maxRecDepth 8000 in
theorem w_1388 : Cond.fieldLink RX9 215 RX9 "rows" "I" ∈ TT := tt_6 (List.mem_of_getElem? (i := 88) rfl) rfl
set_option maxRecDepth 8000 in
theorem w_1389 : Cond.fieldLink RX9 218 RX9 "images" "I" ∈ TT := tt_6 (List.mem_of_getElem? (i := 89) rfl) rfl
set_option maxRecDepth 8000 in
theorem w_1390 : Cond.fieldLink RX9 70 RX9 "crossing" "[[I" ∈ TT := tt_6 (List.mem_of_getElem? (i := 90) rfl) rfl
set_option maxRecDepth 8000 in
theorem w_1391 : Cond.fieldLink RX9 73 RX9 "row" "[[I" ∈ TT := tt_6 (List.mem_of_getElem? (i := 91) rfl) rfl
set_option maxRecDepth 8000 in
theorem w_1392 : Cond.fieldLink RX9 76 RX9 "kept" "[[I" ∈ TT := tt_6 (List.mem_of_getElem? (i := 92) rfl) rfl
set_option maxRecDepth 8000 in
theorem w_1393 : Cond.fieldLink RX9 415 RX9 "spot" "I" ∈ TT := tt_6 (List.mem_of_getElem? (i := 93) rfl) rfl
set_option maxRecDepth 8000 in
theorem w_1394 : Cond.fieldLink RX9 81 RX9 "cost" "[[[I" ∈ TT := tt_6 (List.mem_of_getElem? (i := 94) rfl) rfl
set_option maxRecDepth 8000 in
theorem w_1395 : Cond.fieldLink RX9 84 RX9 "coin" "[[[I" ∈ TT := tt_6 (List.mem_of_getElem? (i := 95) rfl) rfl
set_option maxRecDepth 8000 in
theorem w_1396 : Cond.fieldLink RX9 89 RX9 "may" "[[Z" ∈ TT := tt_6 (List.mem_of_getElem? (i := 96) rfl) rfl
set_option maxRecDepth 8000 in
theorem w_1397 : Cond.fieldLink RX9 92 RX9 "least" "[[I" ∈ TT := tt_6 (List.mem_of_getElem? (i := 97) rfl) rfl
set_option maxRecDepth 8000 in
theorem w_1398 : Cond.fieldLink RX9 95 RX9 "has" "[I" ∈ TT := tt_6 (List.mem_of_getElem? (i := 98) rfl) rfl
set_option maxRecDepth 8000 in
theorem w_1399 : Cond.fieldLink RX9 333 RX9 "firstSlots" "I" ∈ TT := tt_6 (List.mem_of_getElem? (i := 99) rfl) rfl
set_option maxRecDepth 8000 in
theorem w_1400 : Cond.fieldLink RX9 336 RX9 "allSlots" "I" ∈ TT := tt_6 (List.mem_of_getElem? (i := 100) rfl) rfl
set_option maxRecDepth 8000 in
theorem w_1401 : Cond.fieldLink RX9 369 RX9 "planLeft" "I" ∈ TT := tt_6 (List.mem_of_getElem? (i := 101) rfl) rfl
set_option maxRecDepth 8000 in
theorem w_1402 : Cond.fieldLink RX9 372 RX9 "planCost" "I" ∈ TT := tt_6 (List.mem_of_getElem? (i := 102) rfl) rfl
set_option maxRecDepth 8000 in
theorem w_1403 : Cond.fieldLink RX9 375 RX9 "planJam" "I" ∈ TT := tt_6 (List.mem_of_getElem? (i := 103) rfl) rfl
set_option maxRecDepth 8000 in
theorem w_1404 : Cond.fieldLink RX9 98 RX9 "earned" "[I" ∈ TT := tt_6 (List.mem_of_getElem? (i := 104) rfl) rfl
set_option maxRecDepth 8000 in
theorem w_1405 : Cond.fieldLink RX9 101 RX9 "lineA" "I" ∈ TT := tt_6 (List.mem_of_getElem? (i := 105) rfl) rfl
set_option maxRecDepth 8000 in
theorem w_1406 : Cond.fieldLink RX9 303 RX9 "lineB" "I" ∈ TT := tt_6 (List.mem_of_getElem? (i := 106) rfl) rfl
set_option maxRecDepth 8000 in
theorem w_1407 : Cond.fieldLink RX9 104 RX9 "seasonHas" "[[I" ∈ TT := tt_6 (List.mem_of_getElem? (i := 107) rfl) rfl
set_option maxRecDepth 8000 in
theorem w_1408 : Cond.fieldLink RX9 399 RX9 "seed" "I" ∈ TT := tt_6 (List.mem_of_getElem? (i := 108) rfl) rfl
set_option maxRecDepth 8000 in
theorem w_1527 : Cond.methodLink RX9 145 yX9_in ∈ TT := tt_6 (List.mem_of_getElem? (i := 227) rfl) rfl
set_option maxRecDepth 8000 in
theorem w_1528 : Cond.static yX9_in ∈ TT := tt_6 (List.mem_of_getElem? (i := 228) rfl) rfl
set_option maxRecDepth 8000 in
theorem w_1529 : Cond.code yX9_in cX9_in 3 (some .boolean) ∈ TT := tt_6 (List.mem_of_getElem? (i := 229) rfl) rfl
set_option maxRecDepth 8000 in
theorem w_1530 : Cond.methodLink RX9 202 yX9_bad ∈ TT := tt_6 (List.mem_of_getElem? (i := 230) rfl) rfl
set_option maxRecDepth 8000 in
theorem w_1532 : Cond.instanceMethod yX9_bad ∈ TT := tt_6 (List.mem_of_getElem? (i := 232) rfl) rfl
set_option maxRecDepth 8000 in
theorem w_1533 : Cond.code yX9_bad cX9_bad 3 (some .boolean) ∈ TT := tt_6 (List.mem_of_getElem? (i := 233) rfl) rfl
set_option maxRecDepth 8000 in
theorem w_1534 : Cond.methodLink RX9 206 yX9_starts ∈ TT := tt_6 (List.mem_of_getElem? (i := 234) rfl) rfl
set_option maxRecDepth 8000 in
theorem w_1536 : Cond.instanceMethod yX9_starts ∈ TT := tt_6 (List.mem_of_getElem? (i := 236) rfl) rfl
set_option maxRecDepth 8000 in
theorem w_1537 : Cond.code yX9_starts cX9_starts 2 none ∈ TT := tt_6 (List.mem_of_getElem? (i := 237) rfl) rfl
set_option maxRecDepth 8000 in
theorem w_1538 : Cond.methodLink RX9 133 yX9_blanks ∈ TT := tt_6 (List.mem_of_getElem? (i := 238) rfl) rfl
set_option maxRecDepth 8000 in
theorem w_1540 : Cond.instanceMethod yX9_blanks ∈ TT := tt_7 (List.mem_of_getElem? (i := 0) rfl) rfl
set_option maxRecDepth 8000 in
theorem w_1541 : Cond.code yX9_blanks cX9_blanks 1 none ∈ TT := tt_7 (List.mem_of_getElem? (i := 1) rfl) rfl
set_option maxRecDepth 8000 in
theorem w_1542 : Cond.methodLink RX9 123 yX9_byteAt ∈ TT := tt_7 (List.mem_of_getElem? (i := 2) rfl) rfl
set_option maxRecDepth 8000 in
theorem w_1544 : Cond.instanceMethod yX9_byteAt ∈ TT := tt_7 (List.mem_of_getElem? (i := 4) rfl) rfl
set_option maxRecDepth 8000 in
theorem w_1545 : Cond.code yX9_byteAt cX9_byteAt 2 (some .int) ∈ TT := tt_7 (List.mem_of_getElem? (i := 5) rfl) rfl
set_option maxRecDepth 8000 in
theorem w_1546 : Cond.methodLink RX9 209 yX9_clause ∈ TT := tt_7 (List.mem_of_getElem? (i := 6) rfl) rfl
set_option maxRecDepth 8000 in
theorem w_1548 : Cond.instanceMethod yX9_clause ∈ TT := tt_7 (List.mem_of_getElem? (i := 8) rfl) rfl
set_option maxRecDepth 8000 in
theorem w_1549 : Cond.code yX9_clause cX9_clause 2 none ∈ TT := tt_7 (List.mem_of_getElem? (i := 9) rfl) rfl
set_option maxRecDepth 8000 in
theorem w_1550 : Cond.methodLink RX9 184 yX9_kindHere ∈ TT := tt_7 (List.mem_of_getElem? (i := 10) rfl) rfl
set_option maxRecDepth 8000 in
theorem w_1552 : Cond.instanceMethod yX9_kindHere ∈ TT := tt_7 (List.mem_of_getElem? (i := 12) rfl) rfl
set_option maxRecDepth 8000 in
theorem w_1553 : Cond.code yX9_kindHere cX9_kindHere 1 (some .int) ∈ TT := tt_7 (List.mem_of_getElem? (i := 13) rfl) rfl
set_option maxRecDepth 8000 in
theorem w_1554 : Cond.methodLink RX9 172 yX9_five ∈ TT := tt_7 (List.mem_of_getElem? (i := 14) rfl) rfl
set_option maxRecDepth 8000 in
theorem w_1555 : Cond.static yX9_five ∈ TT := tt_7 (List.mem_of_getElem? (i := 15) rfl) rfl
set_option maxRecDepth 8000 in
theorem w_1556 : Cond.code yX9_five cX9_five 7 (some .long) ∈ TT := tt_7 (List.mem_of_getElem? (i := 16) rfl) rfl
set_option maxRecDepth 8000 in
theorem w_1557 : Cond.constantLong RX9 149 27 ∈ TT := tt_7 (List.mem_of_getElem? (i := 17) rfl) rfl
set_option maxRecDepth 8000 in
theorem w_1558 : Cond.methodLink RX9 159 yX9_isWord ∈ TT := tt_7 (List.mem_of_getElem? (i := 18) rfl) rfl
set_option maxRecDepth 8000 in
theorem w_1560 : Cond.instanceMethod yX9_isWord ∈ TT := tt_7 (List.mem_of_getElem? (i := 20) rfl) rfl
set_option maxRecDepth 8000 in
theorem w_1561 : Cond.code yX9_isWord cX9_isWord 3 (some .boolean) ∈ TT := tt_7 (List.mem_of_getElem? (i := 21) rfl) rfl
set_option maxRecDepth 8000 in
theorem w_1562 : Cond.methodLink RX9 155 yX9_wordHere ∈ TT := tt_7 (List.mem_of_getElem? (i := 22) rfl) rfl
set_option maxRecDepth 8000 in
theorem w_1564 : Cond.instanceMethod yX9_wordHere ∈ TT := tt_7 (List.mem_of_getElem? (i := 24) rfl) rfl
set_option maxRecDepth 8000 in
theorem w_1565 : Cond.code yX9_wordHere cX9_wordHere 4 (some .long) ∈ TT := tt_7 (List.mem_of_getElem? (i := 25) rfl) rfl
set_option maxRecDepth 8000 in
theorem w_1566 : Cond.constantLong RX9 151 97 ∈ TT := tt_7 (List.mem_of_getElem? (i := 26) rfl) rfl
set_option maxRecDepth 8000 in
theorem w_1567 : Cond.constantLong RX9 153 (-1) ∈ TT := tt_7 (List.mem_of_getElem? (i := 27) rfl) rfl
set_option maxRecDepth 8000 in
theorem w_1568 : Cond.constantLong RX9 176 18 ∈ TT := tt_7 (List.mem_of_getElem? (i := 28) rfl) rfl
set_option maxRecDepth 8000 in
theorem w_1569 : Cond.constantLong RX9 178 12 ∈ TT := tt_7 (List.mem_of_getElem? (i := 29) rfl) rfl
set_option maxRecDepth 8000 in
theorem w_1570 : Cond.constantLong RX9 180 5 ∈ TT := tt_7 (List.mem_of_getElem? (i := 30) rfl) rfl
set_option maxRecDepth 8000 in
theorem w_1571 : Cond.constantLong RX9 182 4 ∈ TT := tt_7 (List.mem_of_getElem? (i := 31) rfl) rfl
set_option maxRecDepth 8000 in
theorem w_1572 : Cond.methodLink RX9 140 yX9_wrong ∈ TT := tt_7 (List.mem_of_getElem? (i := 32) rfl) rfl
set_option maxRecDepth 8000 in
theorem w_1574 : Cond.instanceMethod yX9_wrong ∈ TT := tt_7 (List.mem_of_getElem? (i := 34) rfl) rfl
set_option maxRecDepth 8000 in
theorem w_1575 : Cond.code yX9_wrong cX9_wrong 3 none ∈ TT := tt_7 (List.mem_of_getElem? (i := 35) rfl) rfl
set_option maxRecDepth 8000 in
theorem w_1576 : Cond.methodLink RX9 163 yX9_skipWord ∈ TT := tt_7 (List.mem_of_getElem? (i := 36) rfl) rfl
set_option maxRecDepth 8000 in
theorem w_1578 : Cond.instanceMethod yX9_skipWord ∈ TT := tt_7 (List.mem_of_getElem? (i := 38) rfl) rfl
set_option maxRecDepth 8000 in
theorem w_1579 : Cond.code yX9_skipWord cX9_skipWord 1 none ∈ TT := tt_7 (List.mem_of_getElem? (i := 39) rfl) rfl
set_option maxRecDepth 8000 in
theorem w_1580 : Cond.methodLink RX9 188 yX9_reads ∈ TT := tt_7 (List.mem_of_getElem? (i := 40) rfl) rfl
set_option maxRecDepth 8000 in
theorem w_1582 : Cond.instanceMethod yX9_reads ∈ TT := tt_7 (List.mem_of_getElem? (i := 42) rfl) rfl
set_option maxRecDepth 8000 in
theorem w_1583 : Cond.code yX9_reads cX9_reads 5 none ∈ TT := tt_7 (List.mem_of_getElem? (i := 43) rfl) rfl
set_option maxRecDepth 8000 in
theorem w_1584 : Cond.methodLink RX9 195 yX9_number ∈ TT := tt_7 (List.mem_of_getElem? (i := 44) rfl) rfl
set_option maxRecDepth 8000 in
theorem w_1586 : Cond.instanceMethod yX9_number ∈ TT := tt_7 (List.mem_of_getElem? (i := 46) rfl) rfl
set_option maxRecDepth 8000 in
theorem w_1587 : Cond.code yX9_number cX9_number 5 (some .int) ∈ TT := tt_7 (List.mem_of_getElem? (i := 47) rfl) rfl
set_option maxRecDepth 8000 in
theorem w_1588 : Cond.methodLink RX9 136 yX9_isDigit ∈ TT := tt_7 (List.mem_of_getElem? (i := 48) rfl) rfl
set_option maxRecDepth 8000 in
theorem w_1589 : Cond.static yX9_isDigit ∈ TT := tt_7 (List.mem_of_getElem? (i := 49) rfl) rfl
set_option maxRecDepth 8000 in
theorem w_1590 : Cond.code yX9_isDigit cX9_isDigit 1 (some .boolean) ∈ TT := tt_7 (List.mem_of_getElem? (i := 50) rfl) rfl
set_option maxRecDepth 8000 in
theorem w_1591 : Cond.constant RX9 144 100000 ∈ TT := tt_7 (List.mem_of_getElem? (i := 51) rfl) rfl
set_option maxRecDepth 8000 in
theorem w_1592 : Cond.methodLink RX9 199 yX9_readsWho ∈ TT := tt_7 (List.mem_of_getElem? (i := 52) rfl) rfl
set_option maxRecDepth 8000 in
theorem w_1594 : Cond.instanceMethod yX9_readsWho ∈ TT := tt_7 (List.mem_of_getElem? (i := 54) rfl) rfl
set_option maxRecDepth 8000 in
theorem w_1595 : Cond.code yX9_readsWho cX9_readsWho 2 none ∈ TT := tt_7 (List.mem_of_getElem? (i := 55) rfl) rfl
set_option maxRecDepth 8000 in
theorem w_1596 : Cond.methodLink RX9 192 yX9_sign ∈ TT := tt_7 (List.mem_of_getElem? (i := 56) rfl) rfl
set_option maxRecDepth 8000 in
theorem w_1598 : Cond.instanceMethod yX9_sign ∈ TT := tt_7 (List.mem_of_getElem? (i := 58) rfl) rfl
set_option maxRecDepth 8000 in
theorem w_1599 : Cond.code yX9_sign cX9_sign 2 none ∈ TT := tt_7 (List.mem_of_getElem? (i := 59) rfl) rfl
set_option maxRecDepth 8000 in
theorem w_1604 : Cond.methodLink RX9 271 yX9_pays ∈ TT := tt_7 (List.mem_of_getElem? (i := 64) rfl) rfl
set_option maxRecDepth 8000 in
theorem w_1606 : Cond.instanceMethod yX9_pays ∈ TT := tt_7 (List.mem_of_getElem? (i := 66) rfl) rfl
set_option maxRecDepth 8000 in
theorem w_1607 : Cond.code yX9_pays cX9_pays 1 none ∈ TT := tt_7 (List.mem_of_getElem? (i := 67) rfl) rfl
set_option maxRecDepth 8000 in
theorem w_1608 : Cond.methodLink RX9 249 yX9_sum ∈ TT := tt_7 (List.mem_of_getElem? (i := 68) rfl) rfl
set_option maxRecDepth 8000 in
theorem w_1610 : Cond.instanceMethod yX9_sum ∈ TT := tt_7 (List.mem_of_getElem? (i := 70) rfl) rfl
set_option maxRecDepth 8000 in
theorem w_1611 : Cond.code yX9_sum cX9_sum 2 none ∈ TT := tt_7 (List.mem_of_getElem? (i := 71) rfl) rfl
set_option maxRecDepth 8000 in
theorem w_1612 : Cond.methodLink RX9 227 yX9_product ∈ TT := tt_7 (List.mem_of_getElem? (i := 72) rfl) rfl
set_option maxRecDepth 8000 in
theorem w_1614 : Cond.instanceMethod yX9_product ∈ TT := tt_7 (List.mem_of_getElem? (i := 74) rfl) rfl
set_option maxRecDepth 8000 in
theorem w_1615 : Cond.code yX9_product cX9_product 2 none ∈ TT := tt_7 (List.mem_of_getElem? (i := 75) rfl) rfl
set_option maxRecDepth 8000 in
theorem w_1616 : Cond.methodLink RX9 236 yX9_unit ∈ TT := tt_7 (List.mem_of_getElem? (i := 76) rfl) rfl
set_option maxRecDepth 8000 in
theorem w_1618 : Cond.instanceMethod yX9_unit ∈ TT := tt_7 (List.mem_of_getElem? (i := 78) rfl) rfl
set_option maxRecDepth 8000 in
theorem w_1619 : Cond.code yX9_unit cX9_unit 4 none ∈ TT := tt_7 (List.mem_of_getElem? (i := 79) rfl) rfl
set_option maxRecDepth 8000 in
theorem w_1620 : Cond.methodLink RX9 230 yX9_signHere ∈ TT := tt_7 (List.mem_of_getElem? (i := 80) rfl) rfl
set_option maxRecDepth 8000 in
theorem w_1622 : Cond.instanceMethod yX9_signHere ∈ TT := tt_7 (List.mem_of_getElem? (i := 82) rfl) rfl
set_option maxRecDepth 8000 in
theorem w_1623 : Cond.code yX9_signHere cX9_signHere 1 (some .int) ∈ TT := tt_7 (List.mem_of_getElem? (i := 83) rfl) rfl
set_option maxRecDepth 8000 in
theorem w_1624 : Cond.methodLink RX9 243 yX9_nameHere ∈ TT := tt_7 (List.mem_of_getElem? (i := 84) rfl) rfl
set_option maxRecDepth 8000 in
theorem w_1626 : Cond.instanceMethod yX9_nameHere ∈ TT := tt_7 (List.mem_of_getElem? (i := 86) rfl) rfl
set_option maxRecDepth 8000 in
theorem w_1627 : Cond.code yX9_nameHere cX9_nameHere 1 (some .int) ∈ TT := tt_7 (List.mem_of_getElem? (i := 87) rfl) rfl
set_option maxRecDepth 8000 in
theorem w_1628 : Cond.constantLong RX9 239 23 ∈ TT := tt_7 (List.mem_of_getElem? (i := 88) rfl) rfl
set_option maxRecDepth 8000 in
theorem w_1629 : Cond.constantLong RX9 241 20 ∈ TT := tt_7 (List.mem_of_getElem? (i := 89) rfl) rfl
set_option maxRecDepth 8000 in
theorem w_1630 : Cond.methodLink RX9 233 yX9_tells ∈ TT := tt_7 (List.mem_of_getElem? (i := 90) rfl) rfl
set_option maxRecDepth 8000 in
theorem w_1632 : Cond.instanceMethod yX9_tells ∈ TT := tt_7 (List.mem_of_getElem? (i := 92) rfl) rfl
set_option maxRecDepth 8000 in
theorem w_1633 : Cond.code yX9_tells cX9_tells 2 none ∈ TT := tt_7 (List.mem_of_getElem? (i := 93) rfl) rfl
set_option maxRecDepth 8000 in
theorem w_1634 : Cond.methodLink RX9 246 yX9_opens ∈ TT := tt_7 (List.mem_of_getElem? (i := 94) rfl) rfl
set_option maxRecDepth 8000 in
theorem w_1636 : Cond.instanceMethod yX9_opens ∈ TT := tt_7 (List.mem_of_getElem? (i := 96) rfl) rfl
set_option maxRecDepth 8000 in
theorem w_1637 : Cond.code yX9_opens cX9_opens 2 none ∈ TT := tt_7 (List.mem_of_getElem? (i := 97) rfl) rfl
set_option maxRecDepth 8000 in
theorem w_1638 : Cond.constantLong RX9 269 249 ∈ TT := tt_7 (List.mem_of_getElem? (i := 98) rfl) rfl
set_option maxRecDepth 8000 in
theorem w_1639 : Cond.methodLink RX9 257 yX9_eats ∈ TT := tt_7 (List.mem_of_getElem? (i := 99) rfl) rfl
set_option maxRecDepth 8000 in
theorem w_1641 : Cond.instanceMethod yX9_eats ∈ TT := tt_7 (List.mem_of_getElem? (i := 101) rfl) rfl
set_option maxRecDepth 8000 in
theorem w_1642 : Cond.code yX9_eats cX9_eats 3 (some .boolean) ∈ TT := tt_7 (List.mem_of_getElem? (i := 102) rfl) rfl
set_option maxRecDepth 8000 in
theorem w_1643 : Cond.methodLink RX9 263 yX9_ors ∈ TT := tt_7 (List.mem_of_getElem? (i := 103) rfl) rfl
set_option maxRecDepth 8000 in
theorem w_1645 : Cond.instanceMethod yX9_ors ∈ TT := tt_7 (List.mem_of_getElem? (i := 105) rfl) rfl
set_option maxRecDepth 8000 in
theorem w_1646 : Cond.code yX9_ors cX9_ors 1 none ∈ TT := tt_7 (List.mem_of_getElem? (i := 106) rfl) rfl
set_option maxRecDepth 8000 in
theorem w_1647 : Cond.methodLink RX9 252 yX9_ands ∈ TT := tt_7 (List.mem_of_getElem? (i := 107) rfl) rfl
set_option maxRecDepth 8000 in
theorem w_1649 : Cond.instanceMethod yX9_ands ∈ TT := tt_7 (List.mem_of_getElem? (i := 109) rfl) rfl
set_option maxRecDepth 8000 in
theorem w_1650 : Cond.code yX9_ands cX9_ands 1 none ∈ TT := tt_7 (List.mem_of_getElem? (i := 110) rfl) rfl
set_option maxRecDepth 8000 in
theorem w_1651 : Cond.methodLink RX9 260 yX9_asked ∈ TT := tt_7 (List.mem_of_getElem? (i := 111) rfl) rfl
set_option maxRecDepth 8000 in
theorem w_1653 : Cond.instanceMethod yX9_asked ∈ TT := tt_7 (List.mem_of_getElem? (i := 113) rfl) rfl
set_option maxRecDepth 8000 in
theorem w_1654 : Cond.code yX9_asked cX9_asked 2 none ∈ TT := tt_7 (List.mem_of_getElem? (i := 114) rfl) rfl
set_option maxRecDepth 8000 in
theorem w_1655 : Cond.constantLong RX9 255 423 ∈ TT := tt_7 (List.mem_of_getElem? (i := 115) rfl) rfl
set_option maxRecDepth 8000 in
theorem w_1668 : Cond.methodLink RX9 278 yX9_isWho ∈ TT := tt_7 (List.mem_of_getElem? (i := 128) rfl) rfl
set_option maxRecDepth 8000 in
theorem w_1670 : Cond.instanceMethod yX9_isWho ∈ TT := tt_7 (List.mem_of_getElem? (i := 130) rfl) rfl
set_option maxRecDepth 8000 in
theorem w_1671 : Cond.code yX9_isWho cX9_isWho 2 (some .boolean) ∈ TT := tt_7 (List.mem_of_getElem? (i := 131) rfl) rfl
set_option maxRecDepth 8000 in
theorem w_1676 : Cond.methodLink RX9 281 yX9_isDay ∈ TT := tt_7 (List.mem_of_getElem? (i := 136) rfl) rfl
set_option maxRecDepth 8000 in
theorem w_1677 : Cond.static yX9_isDay ∈ TT := tt_7 (List.mem_of_getElem? (i := 137) rfl) rfl
set_option maxRecDepth 8000 in
theorem w_1678 : Cond.code yX9_isDay cX9_isDay 1 (some .boolean) ∈ TT := tt_7 (List.mem_of_getElem? (i := 138) rfl) rfl
set_option maxRecDepth 8000 in
theorem w_1679 : Cond.methodLink RX9 284 yX9_noon ∈ TT := tt_7 (List.mem_of_getElem? (i := 139) rfl) rfl
set_option maxRecDepth 8000 in
theorem w_1681 : Cond.instanceMethod yX9_noon ∈ TT := tt_7 (List.mem_of_getElem? (i := 141) rfl) rfl
set_option maxRecDepth 8000 in
theorem w_1682 : Cond.code yX9_noon cX9_noon 4 (some .int) ∈ TT := tt_7 (List.mem_of_getElem? (i := 142) rfl) rfl
set_option maxRecDepth 8000 in
theorem w_1687 : Cond.methodLink RX9 290 yX9_isBridge ∈ TT := tt_7 (List.mem_of_getElem? (i := 147) rfl) rfl
set_option maxRecDepth 8000 in
theorem w_1689 : Cond.instanceMethod yX9_isBridge ∈ TT := tt_7 (List.mem_of_getElem? (i := 149) rfl) rfl
set_option maxRecDepth 8000 in
theorem w_1690 : Cond.code yX9_isBridge cX9_isBridge 2 (some .boolean) ∈ TT := tt_7 (List.mem_of_getElem? (i := 150) rfl) rfl
set_option maxRecDepth 8000 in
theorem w_1691 : Cond.methodLink RX9 293 yX9_isMinute ∈ TT := tt_7 (List.mem_of_getElem? (i := 151) rfl) rfl
set_option maxRecDepth 8000 in
theorem w_1692 : Cond.static yX9_isMinute ∈ TT := tt_7 (List.mem_of_getElem? (i := 152) rfl) rfl
set_option maxRecDepth 8000 in
theorem w_1693 : Cond.code yX9_isMinute cX9_isMinute 1 (some .boolean) ∈ TT := tt_7 (List.mem_of_getElem? (i := 153) rfl) rfl
set_option maxRecDepth 8000 in
theorem w_1694 : Cond.methodLink RX9 296 yX9_altitudeOf ∈ TT := tt_7 (List.mem_of_getElem? (i := 154) rfl) rfl
set_option maxRecDepth 8000 in
theorem w_1696 : Cond.instanceMethod yX9_altitudeOf ∈ TT := tt_7 (List.mem_of_getElem? (i := 156) rfl) rfl
set_option maxRecDepth 8000 in
theorem w_1697 : Cond.code yX9_altitudeOf cX9_altitudeOf 5 (some .int) ∈ TT := tt_7 (List.mem_of_getElem? (i := 157) rfl) rfl
set_option maxRecDepth 8000 in
theorem w_1698 : Cond.methodLink RX9 287 yX9_amount ∈ TT := tt_7 (List.mem_of_getElem? (i := 158) rfl) rfl
set_option maxRecDepth 8000 in
theorem w_1699 : Cond.static yX9_amount ∈ TT := tt_7 (List.mem_of_getElem? (i := 159) rfl) rfl
set_option maxRecDepth 8000 in
theorem w_1700 : Cond.code yX9_amount cX9_amount 1 (some .int) ∈ TT := tt_7 (List.mem_of_getElem? (i := 160) rfl) rfl
set_option maxRecDepth 8000 in
theorem w_1705 : Cond.methodLink RX9 299 yX9_shadowOf ∈ TT := tt_7 (List.mem_of_getElem? (i := 165) rfl) rfl
set_option maxRecDepth 8000 in
theorem w_1707 : Cond.instanceMethod yX9_shadowOf ∈ TT := tt_7 (List.mem_of_getElem? (i := 167) rfl) rfl
set_option maxRecDepth 8000 in
theorem w_1708 : Cond.code yX9_shadowOf cX9_shadowOf 7 (some .int) ∈ TT := tt_7 (List.mem_of_getElem? (i := 168) rfl) rfl
set_option maxRecDepth 8000 in
theorem w_1717 : Cond.methodLink RX9 316 yX9_coinsOf ∈ TT := tt_7 (List.mem_of_getElem? (i := 177) rfl) rfl
set_option maxRecDepth 8000 in
theorem w_1719 : Cond.instanceMethod yX9_coinsOf ∈ TT := tt_7 (List.mem_of_getElem? (i := 179) rfl) rfl
set_option maxRecDepth 8000 in
theorem w_1720 : Cond.code yX9_coinsOf cX9_coinsOf 9 (some .int) ∈ TT := tt_7 (List.mem_of_getElem? (i := 180) rfl) rfl
set_option maxRecDepth 8000 in
theorem w_1721 : Cond.methodLink RX9 312 yX9_paid ∈ TT := tt_7 (List.mem_of_getElem? (i := 181) rfl) rfl
set_option maxRecDepth 8000 in
theorem w_1723 : Cond.instanceMethod yX9_paid ∈ TT := tt_7 (List.mem_of_getElem? (i := 183) rfl) rfl
set_option maxRecDepth 8000 in
theorem w_1724 : Cond.code yX9_paid cX9_paid 12 (some .int) ∈ TT := tt_7 (List.mem_of_getElem? (i := 184) rfl) rfl
set_option maxRecDepth 8000 in
theorem w_1725 : Cond.methodLink RX9 306 yX9_comes ∈ TT := tt_7 (List.mem_of_getElem? (i := 185) rfl) rfl
set_option maxRecDepth 8000 in
theorem w_1727 : Cond.instanceMethod yX9_comes ∈ TT := tt_7 (List.mem_of_getElem? (i := 187) rfl) rfl
set_option maxRecDepth 8000 in
theorem w_1728 : Cond.code yX9_comes cX9_comes 6 (some .int) ∈ TT := tt_7 (List.mem_of_getElem? (i := 188) rfl) rfl
set_option maxRecDepth 8000 in
theorem w_1729 : Cond.methodLink RX9 274 yX9_both ∈ TT := tt_7 (List.mem_of_getElem? (i := 189) rfl) rfl
set_option maxRecDepth 8000 in
theorem w_1730 : Cond.static yX9_both ∈ TT := tt_7 (List.mem_of_getElem? (i := 190) rfl) rfl
set_option maxRecDepth 8000 in
theorem w_1731 : Cond.code yX9_both cX9_both 3 (some .int) ∈ TT := tt_7 (List.mem_of_getElem? (i := 191) rfl) rfl
set_option maxRecDepth 8000 in
theorem w_1732 : Cond.constantLong RX9 310 9999 ∈ TT := tt_7 (List.mem_of_getElem? (i := 192) rfl) rfl
set_option maxRecDepth 8000 in
theorem w_1737 : Cond.methodLink RX9 327 yX9_bestMinute ∈ TT := tt_7 (List.mem_of_getElem? (i := 197) rfl) rfl
set_option maxRecDepth 8000 in
theorem w_1739 : Cond.instanceMethod yX9_bestMinute ∈ TT := tt_7 (List.mem_of_getElem? (i := 199) rfl) rfl
set_option maxRecDepth 8000 in
theorem w_1740 : Cond.code yX9_bestMinute cX9_bestMinute 8 (some .int) ∈ TT := tt_7 (List.mem_of_getElem? (i := 200) rfl) rfl
set_option maxRecDepth 8000 in
theorem w_1741 : Cond.methodLink RX9 320 yX9_canCome ∈ TT := tt_7 (List.mem_of_getElem? (i := 201) rfl) rfl
set_option maxRecDepth 8000 in
theorem w_1743 : Cond.instanceMethod yX9_canCome ∈ TT := tt_7 (List.mem_of_getElem? (i := 203) rfl) rfl
set_option maxRecDepth 8000 in
theorem w_1744 : Cond.code yX9_canCome cX9_canCome 3 (some .boolean) ∈ TT := tt_7 (List.mem_of_getElem? (i := 204) rfl) rfl
set_option maxRecDepth 8000 in
theorem w_1745 : Cond.methodLink RX9 324 yX9_costOf ∈ TT := tt_7 (List.mem_of_getElem? (i := 205) rfl) rfl
set_option maxRecDepth 8000 in
theorem w_1747 : Cond.instanceMethod yX9_costOf ∈ TT := tt_7 (List.mem_of_getElem? (i := 207) rfl) rfl
set_option maxRecDepth 8000 in
theorem w_1748 : Cond.code yX9_costOf cX9_costOf 6 (some .int) ∈ TT := tt_7 (List.mem_of_getElem? (i := 208) rfl) rfl
set_option maxRecDepth 8000 in
theorem w_1757 : Cond.methodLink RX9 330 yX9_slotsOf ∈ TT := tt_7 (List.mem_of_getElem? (i := 217) rfl) rfl
set_option maxRecDepth 8000 in
theorem w_1759 : Cond.instanceMethod yX9_slotsOf ∈ TT := tt_7 (List.mem_of_getElem? (i := 219) rfl) rfl
set_option maxRecDepth 8000 in
theorem w_1760 : Cond.code yX9_slotsOf cX9_slotsOf 2 (some .int) ∈ TT := tt_7 (List.mem_of_getElem? (i := 220) rfl) rfl
set_option maxRecDepth 8000 in
theorem w_1765 : Cond.methodLink RX9 381 yX9_isPlan ∈ TT := tt_7 (List.mem_of_getElem? (i := 225) rfl) rfl
set_option maxRecDepth 8000 in
theorem w_1767 : Cond.instanceMethod yX9_isPlan ∈ TT := tt_7 (List.mem_of_getElem? (i := 227) rfl) rfl
set_option maxRecDepth 8000 in
theorem w_1768 : Cond.code yX9_isPlan cX9_isPlan 4 (some .boolean) ∈ TT := tt_7 (List.mem_of_getElem? (i := 228) rfl) rfl
set_option maxRecDepth 8000 in
theorem w_1769 : Cond.methodLink RX9 378 yX9_everybody ∈ TT := tt_7 (List.mem_of_getElem? (i := 229) rfl) rfl
set_option maxRecDepth 8000 in
theorem w_1771 : Cond.instanceMethod yX9_everybody ∈ TT := tt_7 (List.mem_of_getElem? (i := 231) rfl) rfl
set_option maxRecDepth 8000 in
theorem w_1772 : Cond.code yX9_everybody cX9_everybody 1 (some .int) ∈ TT := tt_7 (List.mem_of_getElem? (i := 232) rfl) rfl
set_option maxRecDepth 8000 in
theorem w_1773 : Cond.methodLink RX9 385 yX9_findPlan ∈ TT := tt_7 (List.mem_of_getElem? (i := 233) rfl) rfl
set_option maxRecDepth 8000 in
theorem w_1775 : Cond.instanceMethod yX9_findPlan ∈ TT := tt_7 (List.mem_of_getElem? (i := 235) rfl) rfl
set_option maxRecDepth 8000 in
theorem w_1776 : Cond.code yX9_findPlan cX9_findPlan 9 none ∈ TT := tt_7 (List.mem_of_getElem? (i := 236) rfl) rfl
set_option maxRecDepth 8000 in
theorem w_1777 : Cond.methodLink RX9 362 yX9_layCoins ∈ TT := tt_7 (List.mem_of_getElem? (i := 237) rfl) rfl
set_option maxRecDepth 8000 in
theorem w_1779 : Cond.instanceMethod yX9_layCoins ∈ TT := tt_7 (List.mem_of_getElem? (i := 239) rfl) rfl
set_option maxRecDepth 8000 in
theorem w_1780 : Cond.code yX9_layCoins cX9_layCoins 8 none ∈ TT := tt_8 (List.mem_of_getElem? (i := 0) rfl) rfl
set_option maxRecDepth 8000 in
theorem w_1781 : Cond.methodLink RX9 339 yX9_minuteOf ∈ TT := tt_8 (List.mem_of_getElem? (i := 1) rfl) rfl
set_option maxRecDepth 8000 in
theorem w_1783 : Cond.instanceMethod yX9_minuteOf ∈ TT := tt_8 (List.mem_of_getElem? (i := 3) rfl) rfl
set_option maxRecDepth 8000 in
theorem w_1784 : Cond.code yX9_minuteOf cX9_minuteOf 2 (some .int) ∈ TT := tt_8 (List.mem_of_getElem? (i := 4) rfl) rfl
set_option maxRecDepth 8000 in
theorem w_1785 : Cond.methodLink RX9 366 yX9_layLeast ∈ TT := tt_8 (List.mem_of_getElem? (i := 5) rfl) rfl
set_option maxRecDepth 8000 in
theorem w_1787 : Cond.instanceMethod yX9_layLeast ∈ TT := tt_8 (List.mem_of_getElem? (i := 7) rfl) rfl
set_option maxRecDepth 8000 in
theorem w_1788 : Cond.code yX9_layLeast cX9_layLeast 5 none ∈ TT := tt_8 (List.mem_of_getElem? (i := 8) rfl) rfl
set_option maxRecDepth 8000 in
theorem w_1789 : Cond.constant RX9 345 1000000 ∈ TT := tt_8 (List.mem_of_getElem? (i := 9) rfl) rfl
set_option maxRecDepth 8000 in
theorem w_1790 : Cond.methodLink RX9 346 yX9_ones ∈ TT := tt_8 (List.mem_of_getElem? (i := 10) rfl) rfl
set_option maxRecDepth 8000 in
theorem w_1791 : Cond.static yX9_ones ∈ TT := tt_8 (List.mem_of_getElem? (i := 11) rfl) rfl
set_option maxRecDepth 8000 in
theorem w_1792 : Cond.code yX9_ones cX9_ones 3 (some .int) ∈ TT := tt_8 (List.mem_of_getElem? (i := 12) rfl) rfl
set_option maxRecDepth 8000 in
theorem w_1793 : Cond.methodLink RX9 349 yX9_lastAt ∈ TT := tt_8 (List.mem_of_getElem? (i := 13) rfl) rfl
set_option maxRecDepth 8000 in
theorem w_1795 : Cond.instanceMethod yX9_lastAt ∈ TT := tt_8 (List.mem_of_getElem? (i := 15) rfl) rfl
set_option maxRecDepth 8000 in
theorem w_1796 : Cond.code yX9_lastAt cX9_lastAt 3 (some .int) ∈ TT := tt_8 (List.mem_of_getElem? (i := 16) rfl) rfl
set_option maxRecDepth 8000 in
theorem w_1797 : Cond.methodLink RX9 352 yX9_leastAt ∈ TT := tt_8 (List.mem_of_getElem? (i := 17) rfl) rfl
set_option maxRecDepth 8000 in
theorem w_1799 : Cond.instanceMethod yX9_leastAt ∈ TT := tt_8 (List.mem_of_getElem? (i := 19) rfl) rfl
set_option maxRecDepth 8000 in
theorem w_1800 : Cond.code yX9_leastAt cX9_leastAt 8 (some .int) ∈ TT := tt_8 (List.mem_of_getElem? (i := 20) rfl) rfl
set_option maxRecDepth 8000 in
theorem w_1801 : Cond.methodLink RX9 355 yX9_canHave ∈ TT := tt_8 (List.mem_of_getElem? (i := 21) rfl) rfl
set_option maxRecDepth 8000 in
theorem w_1803 : Cond.instanceMethod yX9_canHave ∈ TT := tt_8 (List.mem_of_getElem? (i := 23) rfl) rfl
set_option maxRecDepth 8000 in
theorem w_1804 : Cond.code yX9_canHave cX9_canHave 5 (some .boolean) ∈ TT := tt_8 (List.mem_of_getElem? (i := 24) rfl) rfl
set_option maxRecDepth 8000 in
theorem w_1805 : Cond.methodLink RX9 359 yX9_isDark ∈ TT := tt_8 (List.mem_of_getElem? (i := 25) rfl) rfl
set_option maxRecDepth 8000 in
theorem w_1807 : Cond.instanceMethod yX9_isDark ∈ TT := tt_8 (List.mem_of_getElem? (i := 27) rfl) rfl
set_option maxRecDepth 8000 in
theorem w_1808 : Cond.code yX9_isDark cX9_isDark 3 (some .int) ∈ TT := tt_8 (List.mem_of_getElem? (i := 28) rfl) rfl
set_option maxRecDepth 8000 in
theorem w_1809 : Cond.methodLink RX9 342 yX9_high ∈ TT := tt_8 (List.mem_of_getElem? (i := 29) rfl) rfl
set_option maxRecDepth 8000 in
theorem w_1811 : Cond.instanceMethod yX9_high ∈ TT := tt_8 (List.mem_of_getElem? (i := 31) rfl) rfl
set_option maxRecDepth 8000 in
theorem w_1812 : Cond.code yX9_high cX9_high 2 (some .int) ∈ TT := tt_8 (List.mem_of_getElem? (i := 32) rfl) rfl
set_option maxRecDepth 8000 in
theorem w_1821 : Cond.methodLink RX9 389 yX9_mostOf ∈ TT := tt_8 (List.mem_of_getElem? (i := 41) rfl) rfl
set_option maxRecDepth 8000 in
theorem w_1823 : Cond.instanceMethod yX9_mostOf ∈ TT := tt_8 (List.mem_of_getElem? (i := 43) rfl) rfl
set_option maxRecDepth 8000 in
theorem w_1824 : Cond.code yX9_mostOf cX9_mostOf 9 (some .int) ∈ TT := tt_8 (List.mem_of_getElem? (i := 44) rfl) rfl
set_option maxRecDepth 8000 in
theorem w_1837 : Cond.methodLink RX9 392 yX9_takenOf ∈ TT := tt_8 (List.mem_of_getElem? (i := 57) rfl) rfl
set_option maxRecDepth 8000 in
theorem w_1839 : Cond.instanceMethod yX9_takenOf ∈ TT := tt_8 (List.mem_of_getElem? (i := 59) rfl) rfl
set_option maxRecDepth 8000 in
theorem w_1840 : Cond.code yX9_takenOf cX9_takenOf 4 (some .int) ∈ TT := tt_8 (List.mem_of_getElem? (i := 60) rfl) rfl
set_option maxRecDepth 8000 in
theorem w_1845 : Cond.constant RX9 395 99999 ∈ TT := tt_8 (List.mem_of_getElem? (i := 65) rfl) rfl
set_option maxRecDepth 8000 in
theorem w_1862 : Cond.methodLink RX9 396 yX9_answers ∈ TT := tt_8 (List.mem_of_getElem? (i := 82) rfl) rfl
set_option maxRecDepth 8000 in
theorem w_1864 : Cond.instanceMethod yX9_answers ∈ TT := tt_8 (List.mem_of_getElem? (i := 84) rfl) rfl
set_option maxRecDepth 8000 in
theorem w_1865 : Cond.code yX9_answers cX9_answers 7 (some .int) ∈ TT := tt_8 (List.mem_of_getElem? (i := 85) rfl) rfl
set_option maxRecDepth 8000 in
theorem w_1882 : Cond.methodLink RX9 403 yX9_skyNow ∈ TT := tt_8 (List.mem_of_getElem? (i := 102) rfl) rfl
set_option maxRecDepth 8000 in
theorem w_1884 : Cond.instanceMethod yX9_skyNow ∈ TT := tt_8 (List.mem_of_getElem? (i := 104) rfl) rfl
set_option maxRecDepth 8000 in
theorem w_1885 : Cond.code yX9_skyNow cX9_skyNow 3 (some .int) ∈ TT := tt_8 (List.mem_of_getElem? (i := 105) rfl) rfl
set_option maxRecDepth 8000 in
theorem w_1886 : Cond.constant RX9 402 1103515245 ∈ TT := tt_8 (List.mem_of_getElem? (i := 106) rfl) rfl
set_option maxRecDepth 8000 in
theorem w_1891 : Cond.methodLink RX9 406 yX9_areDays ∈ TT := tt_8 (List.mem_of_getElem? (i := 111) rfl) rfl
set_option maxRecDepth 8000 in
theorem w_1893 : Cond.instanceMethod yX9_areDays ∈ TT := tt_8 (List.mem_of_getElem? (i := 113) rfl) rfl
set_option maxRecDepth 8000 in
theorem w_1894 : Cond.code yX9_areDays cX9_areDays 3 (some .boolean) ∈ TT := tt_8 (List.mem_of_getElem? (i := 114) rfl) rfl
set_option maxRecDepth 8000 in
theorem w_1895 : Cond.methodLink RX9 409 yX9_layPlans ∈ TT := tt_8 (List.mem_of_getElem? (i := 115) rfl) rfl
set_option maxRecDepth 8000 in
theorem w_1897 : Cond.instanceMethod yX9_layPlans ∈ TT := tt_8 (List.mem_of_getElem? (i := 117) rfl) rfl
set_option maxRecDepth 8000 in
theorem w_1898 : Cond.code yX9_layPlans cX9_layPlans 5 none ∈ TT := tt_8 (List.mem_of_getElem? (i := 118) rfl) rfl
set_option maxRecDepth 8000 in
theorem w_1899 : Cond.methodLink RX9 412 yX9_seasonOf ∈ TT := tt_8 (List.mem_of_getElem? (i := 119) rfl) rfl
set_option maxRecDepth 8000 in
theorem w_1901 : Cond.instanceMethod yX9_seasonOf ∈ TT := tt_8 (List.mem_of_getElem? (i := 121) rfl) rfl
set_option maxRecDepth 8000 in
theorem w_1902 : Cond.code yX9_seasonOf cX9_seasonOf 11 (some .int) ∈ TT := tt_8 (List.mem_of_getElem? (i := 122) rfl) rfl
set_option maxRecDepth 8000 in
theorem w_1911 : Cond.methodLink RX9 422 yX9_movesAll ∈ TT := tt_8 (List.mem_of_getElem? (i := 131) rfl) rfl
set_option maxRecDepth 8000 in
theorem w_1913 : Cond.instanceMethod yX9_movesAll ∈ TT := tt_8 (List.mem_of_getElem? (i := 133) rfl) rfl
set_option maxRecDepth 8000 in
theorem w_1914 : Cond.code yX9_movesAll cX9_movesAll 5 none ∈ TT := tt_8 (List.mem_of_getElem? (i := 134) rfl) rfl
set_option maxRecDepth 8000 in
theorem w_1915 : Cond.methodLink RX9 418 yX9_moves ∈ TT := tt_8 (List.mem_of_getElem? (i := 135) rfl) rfl
set_option maxRecDepth 8000 in
theorem w_1917 : Cond.instanceMethod yX9_moves ∈ TT := tt_8 (List.mem_of_getElem? (i := 137) rfl) rfl
set_option maxRecDepth 8000 in
theorem w_1918 : Cond.code yX9_moves cX9_moves 4 (some .int) ∈ TT := tt_8 (List.mem_of_getElem? (i := 138) rfl) rfl
theorem ka_3 : Int32.ofNat 3 = (3 : Int32) := by decide +kernel
theorem ka_4 : Int32.ofNat 4 = (4 : Int32) := by decide +kernel
theorem ka_500 : Int32.ofNat 500 = (500 : Int32) := by decide +kernel
theorem kb_10 : (Int8.ofInt (10)).toInt32 = (10 : Int32) := by decide +kernel
theorem kb_100 : (Int8.ofInt (100)).toInt32 = (100 : Int32) := by decide +kernel
theorem kb_11 : (Int8.ofInt (11)).toInt32 = (11 : Int32) := by decide +kernel
theorem kb_12 : (Int8.ofInt (12)).toInt32 = (12 : Int32) := by decide +kernel
theorem kb_122 : (Int8.ofInt (122)).toInt32 = (122 : Int32) := by decide +kernel
theorem kb_13 : (Int8.ofInt (13)).toInt32 = (13 : Int32) := by decide +kernel
theorem kb_14 : (Int8.ofInt (14)).toInt32 = (14 : Int32) := by decide +kernel
theorem kb_15 : (Int8.ofInt (15)).toInt32 = (15 : Int32) := by decide +kernel
theorem kb_16 : (Int8.ofInt (16)).toInt32 = (16 : Int32) := by decide +kernel
theorem kb_17 : (Int8.ofInt (17)).toInt32 = (17 : Int32) := by decide +kernel
theorem kb_18 : (Int8.ofInt (18)).toInt32 = (18 : Int32) := by decide +kernel
theorem kb_19 : (Int8.ofInt (19)).toInt32 = (19 : Int32) := by decide +kernel
theorem kb_20 : (Int8.ofInt (20)).toInt32 = (20 : Int32) := by decide +kernel
theorem kb_21 : (Int8.ofInt (21)).toInt32 = (21 : Int32) := by decide +kernel
theorem kb_22 : (Int8.ofInt (22)).toInt32 = (22 : Int32) := by decide +kernel
theorem kb_23 : (Int8.ofInt (23)).toInt32 = (23 : Int32) := by decide +kernel
theorem kb_24 : (Int8.ofInt (24)).toInt32 = (24 : Int32) := by decide +kernel
theorem kb_25 : (Int8.ofInt (25)).toInt32 = (25 : Int32) := by decide +kernel
theorem kb_29 : (Int8.ofInt (29)).toInt32 = (29 : Int32) := by decide +kernel
theorem kb_30 : (Int8.ofInt (30)).toInt32 = (30 : Int32) := by decide +kernel
theorem kb_32 : (Int8.ofInt (32)).toInt32 = (32 : Int32) := by decide +kernel
theorem kb_40 : (Int8.ofInt (40)).toInt32 = (40 : Int32) := by decide +kernel
theorem kb_41 : (Int8.ofInt (41)).toInt32 = (41 : Int32) := by decide +kernel
theorem kb_42 : (Int8.ofInt (42)).toInt32 = (42 : Int32) := by decide +kernel
theorem kb_43 : (Int8.ofInt (43)).toInt32 = (43 : Int32) := by decide +kernel
theorem kb_45 : (Int8.ofInt (45)).toInt32 = (45 : Int32) := by decide +kernel
theorem kb_47 : (Int8.ofInt (47)).toInt32 = (47 : Int32) := by decide +kernel
theorem kb_48 : (Int8.ofInt (48)).toInt32 = (48 : Int32) := by decide +kernel
theorem kb_50 : (Int8.ofInt (50)).toInt32 = (50 : Int32) := by decide +kernel
theorem kb_57 : (Int8.ofInt (57)).toInt32 = (57 : Int32) := by decide +kernel
theorem kb_59 : (Int8.ofInt (59)).toInt32 = (59 : Int32) := by decide +kernel
theorem kb_6 : (Int8.ofInt (6)).toInt32 = (6 : Int32) := by decide +kernel
theorem kb_60 : (Int8.ofInt (60)).toInt32 = (60 : Int32) := by decide +kernel
theorem kb_61 : (Int8.ofInt (61)).toInt32 = (61 : Int32) := by decide +kernel
theorem kb_62 : (Int8.ofInt (62)).toInt32 = (62 : Int32) := by decide +kernel
theorem kb_63 : (Int8.ofInt (63)).toInt32 = (63 : Int32) := by decide +kernel
theorem kb_7 : (Int8.ofInt (7)).toInt32 = (7 : Int32) := by decide +kernel
theorem kb_8 : (Int8.ofInt (8)).toInt32 = (8 : Int32) := by decide +kernel
theorem kb_9 : (Int8.ofInt (9)).toInt32 = (9 : Int32) := by decide +kernel
theorem kb_91 : (Int8.ofInt (91)).toInt32 = (91 : Int32) := by decide +kernel
theorem kb_93 : (Int8.ofInt (93)).toInt32 = (93 : Int32) := by decide +kernel
theorem kb_97 : (Int8.ofInt (97)).toInt32 = (97 : Int32) := by decide +kernel
theorem kb_99 : (Int8.ofInt (99)).toInt32 = (99 : Int32) := by decide +kernel
theorem kb_m10 : (Int8.ofInt (-10)).toInt32 = (-10 : Int32) := by decide +kernel
theorem kb_m11 : (Int8.ofInt (-11)).toInt32 = (-11 : Int32) := by decide +kernel
theorem kb_m12 : (Int8.ofInt (-12)).toInt32 = (-12 : Int32) := by decide +kernel
theorem kb_m13 : (Int8.ofInt (-13)).toInt32 = (-13 : Int32) := by decide +kernel
theorem kb_m14 : (Int8.ofInt (-14)).toInt32 = (-14 : Int32) := by decide +kernel
theorem kb_m15 : (Int8.ofInt (-15)).toInt32 = (-15 : Int32) := by decide +kernel
theorem kb_m16 : (Int8.ofInt (-16)).toInt32 = (-16 : Int32) := by decide +kernel
theorem kb_m17 : (Int8.ofInt (-17)).toInt32 = (-17 : Int32) := by decide +kernel
theorem kb_m18 : (Int8.ofInt (-18)).toInt32 = (-18 : Int32) := by decide +kernel
theorem kb_m2 : (Int8.ofInt (-2)).toInt32 = (-2 : Int32) := by decide +kernel
theorem kb_m3 : (Int8.ofInt (-3)).toInt32 = (-3 : Int32) := by decide +kernel
theorem kb_m4 : (Int8.ofInt (-4)).toInt32 = (-4 : Int32) := by decide +kernel
theorem kb_m5 : (Int8.ofInt (-5)).toInt32 = (-5 : Int32) := by decide +kernel
theorem kb_m6 : (Int8.ofInt (-6)).toInt32 = (-6 : Int32) := by decide +kernel
theorem kb_m7 : (Int8.ofInt (-7)).toInt32 = (-7 : Int32) := by decide +kernel
theorem kb_m8 : (Int8.ofInt (-8)).toInt32 = (-8 : Int32) := by decide +kernel
theorem kb_m9 : (Int8.ofInt (-9)).toInt32 = (-9 : Int32) := by decide +kernel
theorem ki_0 : Int32.ofInt (0) = (0 : Int32) := by decide +kernel
theorem ki_1 : Int32.ofInt (1) = (1 : Int32) := by decide +kernel
theorem ki_2 : Int32.ofInt (2) = (2 : Int32) := by decide +kernel
theorem ki_3 : Int32.ofInt (3) = (3 : Int32) := by decide +kernel
theorem ki_4 : Int32.ofInt (4) = (4 : Int32) := by decide +kernel
theorem ki_5 : Int32.ofInt (5) = (5 : Int32) := by decide +kernel
theorem ki_m1 : Int32.ofInt (-1) = (-1 : Int32) := by decide +kernel
theorem ki_m2 : Int32.ofInt (-2) = (-2 : Int32) := by decide +kernel
theorem ki_m8 : Int32.ofInt (-8) = (-8 : Int32) := by decide +kernel
theorem kl_0 : Int64.ofNat ((0 : Fin 2) : Nat) = (0 : Int64) := by decide +kernel
theorem kl_1 : Int64.ofNat ((1 : Fin 2) : Nat) = (1 : Int64) := by decide +kernel
theorem ks_1000 : (Int16.ofInt (1000)).toInt32 = (1000 : Int32) := by decide +kernel
theorem ks_1080 : (Int16.ofInt (1080)).toInt32 = (1080 : Int32) := by decide +kernel
theorem ks_12345 : (Int16.ofInt (12345)).toInt32 = (12345 : Int32) := by decide +kernel
theorem ks_1438 : (Int16.ofInt (1438)).toInt32 = (1438 : Int32) := by decide +kernel
theorem ks_1439 : (Int16.ofInt (1439)).toInt32 = (1439 : Int32) := by decide +kernel
theorem ks_1440 : (Int16.ofInt (1440)).toInt32 = (1440 : Int32) := by decide +kernel
theorem ks_2304 : (Int16.ofInt (2304)).toInt32 = (2304 : Int32) := by decide +kernel
theorem ks_255 : (Int16.ofInt (255)).toInt32 = (255 : Int32) := by decide +kernel
theorem ks_256 : (Int16.ofInt (256)).toInt32 = (256 : Int32) := by decide +kernel
theorem ks_2700 : (Int16.ofInt (2700)).toInt32 = (2700 : Int32) := by decide +kernel
theorem ks_32767 : (Int16.ofInt (32767)).toInt32 = (32767 : Int32) := by decide +kernel
theorem ks_360 : (Int16.ofInt (360)).toInt32 = (360 : Int32) := by decide +kernel
theorem ks_400 : (Int16.ofInt (400)).toInt32 = (400 : Int32) := by decide +kernel
theorem ks_500 : (Int16.ofInt (500)).toInt32 = (500 : Int32) := by decide +kernel
theorem ks_5400 : (Int16.ofInt (5400)).toInt32 = (5400 : Int32) := by decide +kernel
theorem ks_720 : (Int16.ofInt (720)).toInt32 = (720 : Int32) := by decide +kernel
theorem ks_999 : (Int16.ofInt (999)).toInt32 = (999 : Int32) := by decide +kernel
theorem ks_9999 : (Int16.ofInt (9999)).toInt32 = (9999 : Int32) := by decide +kernel
theorem kd_0 : kd 0 = (0, 8, 0, 0, 0) := by decide +kernel
theorem kd_1 : kd 1 = (0, 7, 0, 0, 0) := by decide +kernel
theorem kd_2 : kd 2 = (1, 500, 0, 0, 0) := by decide +kernel
theorem kd_5 : kd 5 = (1, 30, 0, 0, 0) := by decide +kernel
theorem kd_6 : kd 6 = (1, 30, 0, 0, 0) := by decide +kernel
theorem kd_9 : kd 9 = (1, 30, 0, 0, 0) := by decide +kernel
theorem kd_11 : kd 11 = (1, 30, 0, 0, 0) := by decide +kernel
theorem kd_13 : kd 13 = (2, 4, 14, 4, 6) := by decide +kernel
theorem kd_42 : kd 42 = (0, 5, 0, 0, 0) := by decide +kernel
theorem kd_43 : kd 43 = (0, 1, 0, 0, 0) := by decide +kernel
theorem kd_44 : kd 44 = (0, 2, 0, 0, 0) := by decide +kernel
theorem kd_45 : kd 45 = (1, 60, 0, 0, 0) := by decide +kernel
theorem kd_46 : kd 46 = (1, 480, 0, 0, 0) := by decide +kernel
theorem kd_47 : kd 47 = (1, 480, 0, 0, 0) := by decide +kernel
theorem kd_48 : kd 48 = (1, 480, 0, 0, 0) := by decide +kernel
theorem kd_49 : kd 49 = (1, 140544, 0, 0, 0) := by decide +kernel
theorem kd_50 : kd 50 = (1, 60, 0, 0, 0) := by decide +kernel
theorem kd_51 : kd 51 = (1, 60, 0, 0, 0) := by decide +kernel
theorem kd_52 : kd 52 = (1, 2, 0, 0, 0) := by decide +kernel
theorem kd_53 : kd 53 = (1, 8, 0, 0, 0) := by decide +kernel
theorem kd_54 : kd 54 = (1, 8, 0, 0, 0) := by decide +kernel
theorem kd_55 : kd 55 = (1, 8, 0, 0, 0) := by decide +kernel
theorem kd_56 : kd 56 = (1, 9, 0, 0, 0) := by decide +kernel
theorem kd_57 : kd 57 = (1, 9, 0, 0, 0) := by decide +kernel
theorem kd_58 : kd 58 = (0, 6, 0, 0, 0) := by decide +kernel
theorem kd_59 : kd 59 = (1, 240, 0, 0, 0) := by decide +kernel
theorem kd_60 : kd 60 = (1, 240, 0, 0, 0) := by decide +kernel
theorem kd_61 : kd 61 = (1, 240, 0, 0, 0) := by decide +kernel
theorem kd_63 : kd 63 = (1, 2, 0, 0, 0) := by decide +kernel
theorem kd_65 : kd 65 = (1, 60, 0, 0, 0) := by decide +kernel
theorem kd_66 : kd 66 = (1, 30, 0, 0, 0) := by decide +kernel
theorem kd_67 : kd 67 = (1, 10, 0, 0, 0) := by decide +kernel
theorem kd_68 : kd 68 = (1, 10, 0, 0, 0) := by decide +kernel
theorem kd_69 : kd 69 = (2, 3, 70, 7, 7) := by decide +kernel
theorem kd_91 : kd 91 = (1, 32, 0, 0, 0) := by decide +kernel
theorem kd_92 : kd 92 = (0, 9, 0, 0, 0) := by decide +kernel
theorem kd_93 : kd 93 = (1, 500, 0, 0, 0) := by decide +kernel
theorem kd_94 : kd 94 = (1, 11, 0, 0, 0) := by decide +kernel
theorem kd_95 : kd 95 = (1, 11, 0, 0, 0) := by decide +kernel
theorem kd_96 : kd 96 = (1, 30, 0, 0, 0) := by decide +kernel
theorem kd_97 : kd 97 = (1, 30, 0, 0, 0) := by decide +kernel
theorem kd_98 : kd 98 = (1, 30, 0, 0, 0) := by decide +kernel
theorem kd_99 : kd 99 = (1, 30, 0, 0, 0) := by decide +kernel
theorem kd_100 : kd 100 = (2, 8, 101, 1, 3) := by decide +kernel
theorem kd_109 : kd 109 = (2, 8, 110, 1, 3) := by decide +kernel
theorem kd_118 : kd 118 = (1, 4, 0, 0, 0) := by decide +kernel
theorem kd_119 : kd 119 = (2, 4, 120, 1, 3) := by decide +kernel
theorem kd_124 : kd 124 = (2, 4, 125, 1, 3) := by decide +kernel
theorem kd_129 : kd 129 = (2, 4, 130, 1, 3) := by decide +kernel
theorem kd_134 : kd 134 = (2, 4, 135, 1, 3) := by decide +kernel
theorem kd_139 : kd 139 = (1, 800, 0, 0, 0) := by decide +kernel
theorem kd_140 : kd 140 = (1, 6, 0, 0, 0) := by decide +kernel
theorem kd_141 : kd 141 = (1, 2, 0, 0, 0) := by decide +kernel
theorem kd_142 : kd 142 = (1, 30, 0, 0, 0) := by decide +kernel
theorem kd_143 : kd 143 = (2, 60, 144, 1, 3) := by decide +kernel
theorem kd_204 : kd 204 = (2, 10, 205, 1, 3) := by decide +kernel
theorem kd_215 : kd 215 = (2, 3, 216, 1, 3) := by decide +kernel
theorem kd_219 : kd 219 = (2, 60, 220, 9, 5) := by decide +kernel
theorem kd_760 : kd 760 = (2, 60, 761, 9, 5) := by decide +kernel
theorem kd_1301 : kd 1301 = (2, 60, 1302, 1, 4) := by decide +kernel
theorem kd_1362 : kd 1362 = (2, 61, 1363, 1, 3) := by decide +kernel
theorem kd_1424 : kd 1424 = (1, 60, 0, 0, 0) := by decide +kernel
theorem kd_1425 : kd 1425 = (1, 2, 0, 0, 0) := by decide +kernel
theorem kd_1426 : kd 1426 = (2, 30, 1427, 1, 3) := by decide +kernel
theorem kdf_100 : ∀ j, j < 8 → kd (101 + 1 * j) = (1, 7, 0, 0, 0) := by decide +kernel
theorem kdf_109 : ∀ j, j < 8 → kd (110 + 1 * j) = (1, 7, 0, 0, 0) := by decide +kernel
theorem kdf_119 : ∀ j, j < 4 → kd (120 + 1 * j) = (1, 10, 0, 0, 0) := by decide +kernel
theorem kdf_124 : ∀ j, j < 4 → kd (125 + 1 * j) = (1, 10, 0, 0, 0) := by decide +kernel
theorem kdf_129 : ∀ j, j < 4 → kd (130 + 1 * j) = (1, 10, 0, 0, 0) := by decide +kernel
theorem kdf_134 : ∀ j, j < 4 → kd (135 + 1 * j) = (1, 800, 0, 0, 0) := by decide +kernel
theorem kdf_143 : ∀ j, j < 60 → kd (144 + 1 * j) = (1, 2, 0, 0, 0) := by decide +kernel
theorem kdf_204 : ∀ j, j < 10 → kd (205 + 1 * j) = (1, 2, 0, 0, 0) := by decide +kernel
theorem kdf_215 : ∀ j, j < 3 → kd (216 + 1 * j) = (1, 200, 0, 0, 0) := by decide +kernel
theorem kdf_219 : ∀ j, j < 60 → kd (220 + 9 * j) = (2, 8, (220 + 9 * j) + 1, 1, 3) := by decide +kernel
theorem kdg_219 : ∀ j, j < 60 → ∀ k, k < 8 → kd (((220 + 9 * j) + 1) + 1 * k) = (1, 2, 0, 0, 0) := fun j hj k hk => of_decide_eq_true (List.all_eq_true.mp (List.all_eq_true.mp (show ((List.range 60).all fun j => (List.range 8).all fun k => decide (kd (((220 + 9 * j) + 1) + 1 * k) = (1, 2, 0, 0, 0))) = true by decide +kernel) j (List.mem_range.mpr hj)) k (List.mem_range.mpr hk))
theorem kdf_760 : ∀ j, j < 60 → kd (761 + 9 * j) = (2, 8, (761 + 9 * j) + 1, 1, 3) := by decide +kernel
theorem kdg_760 : ∀ j, j < 60 → ∀ k, k < 8 → kd (((761 + 9 * j) + 1) + 1 * k) = (1, 2, 0, 0, 0) := fun j hj k hk => of_decide_eq_true (List.all_eq_true.mp (List.all_eq_true.mp (show ((List.range 60).all fun j => (List.range 8).all fun k => decide (kd (((761 + 9 * j) + 1) + 1 * k) = (1, 2, 0, 0, 0))) = true by decide +kernel) j (List.mem_range.mpr hj)) k (List.mem_range.mpr hk))
theorem kdf_1301 : ∀ j, j < 60 → kd (1302 + 1 * j) = (3, 8, 0, 0, 0) := by decide +kernel
theorem kdf_1362 : ∀ j, j < 61 → kd (1363 + 1 * j) = (1, 2304, 0, 0, 0) := by decide +kernel
theorem kdf_1426 : ∀ j, j < 30 → kd (1427 + 1 * j) = (1, 30, 0, 0, 0) := by decide +kernel
