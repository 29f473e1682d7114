section
-- ===== PART A: goes FIRST, ahead of the names: the tables' words, and 'selects' of the private methods out of them =====
/-- a private method of a class that the tables say can be made, by its rows of tables_1 -/
def lw_okq (q : MethodName × Nat) : Prop := (q.1.cls ≠ "java/lang/invoke/MethodHandle" ∧ q.1.cls ≠ "java/lang/invoke/VarHandle") ∧ Cond.instantiable q.1.cls q.2 ∈ tables_1 ∧ Cond.privateMethod q.1 ∈ tables_1 ∧ Cond.instanceMethod q.1 ∈ tables_1
theorem lw_p0 : lw_okq (⟨"ShadowTolls$Road", "beUntold", "()V"⟩, 15) := ⟨⟨by decide +kernel, by decide +kernel⟩, List.mem_of_getElem? (i := 62) (by decide +kernel), List.mem_of_getElem? (i := 68) (by decide +kernel), List.mem_of_getElem? (i := 69) (by decide +kernel)⟩
theorem lw_p1 : lw_okq (⟨"ShadowTolls$Records", "clear", "()V"⟩, 8) := ⟨⟨by decide +kernel, by decide +kernel⟩, List.mem_of_getElem? (i := 291) (by decide +kernel), List.mem_of_getElem? (i := 297) (by decide +kernel), List.mem_of_getElem? (i := 298) (by decide +kernel)⟩
theorem lw_p2 : lw_okq (⟨"ShadowTolls", "mostOf", "(I)I"⟩, 16) := ⟨⟨by decide +kernel, by decide +kernel⟩, List.mem_of_getElem? (i := 25) (by decide +kernel), List.mem_of_getElem? (i := 425) (by decide +kernel), List.mem_of_getElem? (i := 426) (by decide +kernel)⟩
theorem lw_p3 : lw_okq (⟨"ShadowTolls$Planner", "rank", "()V"⟩, 20) := ⟨⟨by decide +kernel, by decide +kernel⟩, List.mem_of_getElem? (i := 193) (by decide +kernel), List.mem_of_getElem? (i := 438) (by decide +kernel), List.mem_of_getElem? (i := 439) (by decide +kernel)⟩
theorem lw_p4 : lw_okq (⟨"ShadowTolls", "lawOf", "(I)LShadowTolls$Law;"⟩, 16) := ⟨⟨by decide +kernel, by decide +kernel⟩, List.mem_of_getElem? (i := 25) (by decide +kernel), List.mem_of_getElem? (i := 452) (by decide +kernel), List.mem_of_getElem? (i := 453) (by decide +kernel)⟩
theorem lw_p5 : lw_okq (⟨"ShadowTolls", "lawAt", "(I)LShadowTolls$Law;"⟩, 16) := ⟨⟨by decide +kernel, by decide +kernel⟩, List.mem_of_getElem? (i := 25) (by decide +kernel), List.mem_of_getElem? (i := 456) (by decide +kernel), List.mem_of_getElem? (i := 457) (by decide +kernel)⟩
theorem lw_p6 : lw_okq (⟨"ShadowTolls$Planner", "solveFrom", "(II)V"⟩, 20) := ⟨⟨by decide +kernel, by decide +kernel⟩, List.mem_of_getElem? (i := 193) (by decide +kernel), List.mem_of_getElem? (i := 534) (by decide +kernel), List.mem_of_getElem? (i := 535) (by decide +kernel)⟩
theorem lw_p7 : lw_okq (⟨"ShadowTolls$Planner", "weigh", "(II)V"⟩, 20) := ⟨⟨by decide +kernel, by decide +kernel⟩, List.mem_of_getElem? (i := 193) (by decide +kernel), List.mem_of_getElem? (i := 538) (by decide +kernel), List.mem_of_getElem? (i := 539) (by decide +kernel)⟩
theorem lw_p8 : lw_okq (⟨"ShadowTolls$Planner", "restBehind", "(III)I"⟩, 20) := ⟨⟨by decide +kernel, by decide +kernel⟩, List.mem_of_getElem? (i := 193) (by decide +kernel), List.mem_of_getElem? (i := 542) (by decide +kernel), List.mem_of_getElem? (i := 543) (by decide +kernel)⟩
theorem lw_p9 : lw_okq (⟨"ShadowTolls$Planner", "shadeReaches", "(I)Z"⟩, 20) := ⟨⟨by decide +kernel, by decide +kernel⟩, List.mem_of_getElem? (i := 193) (by decide +kernel), List.mem_of_getElem? (i := 546) (by decide +kernel), List.mem_of_getElem? (i := 547) (by decide +kernel)⟩
theorem lw_p10 : lw_okq (⟨"ShadowTolls$Season", "nextSky", "()I"⟩, 6) := ⟨⟨by decide +kernel, by decide +kernel⟩, List.mem_of_getElem? (i := 266) (by decide +kernel), List.mem_of_getElem? (i := 563) (by decide +kernel), List.mem_of_getElem? (i := 564) (by decide +kernel)⟩
theorem lw_p11 : lw_okq (⟨"ShadowTolls", "keptAt", "(I)LShadowTolls$Records;"⟩, 16) := ⟨⟨by decide +kernel, by decide +kernel⟩, List.mem_of_getElem? (i := 25) (by decide +kernel), List.mem_of_getElem? (i := 572) (by decide +kernel), List.mem_of_getElem? (i := 573) (by decide +kernel)⟩
theorem lw_p12 : lw_okq (⟨"java/lang/Throwable", "fillInStackTrace", "(I)Ljava/lang/Throwable;"⟩, 6) := ⟨⟨by decide +kernel, by decide +kernel⟩, List.mem_of_getElem? (i := 646) (by decide +kernel), List.mem_of_getElem? (i := 644) (by decide +kernel), List.mem_of_getElem? (i := 645) (by decide +kernel)⟩
theorem lw_p13 : lw_okq (⟨"ShadowTolls$RoadReader", "clause", "(I)Z"⟩, 2) := ⟨⟨by decide +kernel, by decide +kernel⟩, List.mem_of_getElem? (i := 167) (by decide +kernel), List.mem_of_getElem? (i := 693) (by decide +kernel), List.mem_of_getElem? (i := 694) (by decide +kernel)⟩
theorem lw_p14 : lw_okq (⟨"ShadowTolls$RoadReader", "clauseWord", "()I"⟩, 2) := ⟨⟨by decide +kernel, by decide +kernel⟩, List.mem_of_getElem? (i := 167) (by decide +kernel), List.mem_of_getElem? (i := 698) (by decide +kernel), List.mem_of_getElem? (i := 699) (by decide +kernel)⟩
theorem lw_p15 : lw_okq (⟨"ShadowTolls$RoadReader", "parts", "(I)Z"⟩, 2) := ⟨⟨by decide +kernel, by decide +kernel⟩, List.mem_of_getElem? (i := 167) (by decide +kernel), List.mem_of_getElem? (i := 774) (by decide +kernel), List.mem_of_getElem? (i := 775) (by decide +kernel)⟩
def lw_privs_1 : List (MethodName × Nat) := [(⟨"ShadowTolls$Road", "beUntold", "()V"⟩, 15), (⟨"ShadowTolls$Records", "clear", "()V"⟩, 8), (⟨"ShadowTolls", "mostOf", "(I)I"⟩, 16), (⟨"ShadowTolls$Planner", "rank", "()V"⟩, 20), (⟨"ShadowTolls", "lawOf", "(I)LShadowTolls$Law;"⟩, 16), (⟨"ShadowTolls", "lawAt", "(I)LShadowTolls$Law;"⟩, 16), (⟨"ShadowTolls$Planner", "solveFrom", "(II)V"⟩, 20), (⟨"ShadowTolls$Planner", "weigh", "(II)V"⟩, 20), (⟨"ShadowTolls$Planner", "restBehind", "(III)I"⟩, 20), (⟨"ShadowTolls$Planner", "shadeReaches", "(I)Z"⟩, 20), (⟨"ShadowTolls$Season", "nextSky", "()I"⟩, 6), (⟨"ShadowTolls", "keptAt", "(I)LShadowTolls$Records;"⟩, 16), (⟨"java/lang/Throwable", "fillInStackTrace", "(I)Ljava/lang/Throwable;"⟩, 6), (⟨"ShadowTolls$RoadReader", "clause", "(I)Z"⟩, 2), (⟨"ShadowTolls$RoadReader", "clauseWord", "()I"⟩, 2), (⟨"ShadowTolls$RoadReader", "parts", "(I)Z"⟩, 2)]
theorem lw_r1 : ∀ q ∈ lw_privs_1, lw_okq q := List.forall_mem_cons.mpr ⟨lw_p0, List.forall_mem_cons.mpr ⟨lw_p1, List.forall_mem_cons.mpr ⟨lw_p2, List.forall_mem_cons.mpr ⟨lw_p3, List.forall_mem_cons.mpr ⟨lw_p4, List.forall_mem_cons.mpr ⟨lw_p5, List.forall_mem_cons.mpr ⟨lw_p6, List.forall_mem_cons.mpr ⟨lw_p7, List.forall_mem_cons.mpr ⟨lw_p8, List.forall_mem_cons.mpr ⟨lw_p9, List.forall_mem_cons.mpr ⟨lw_p10, List.forall_mem_cons.mpr ⟨lw_p11, List.forall_mem_cons.mpr ⟨lw_p12, List.forall_mem_cons.mpr ⟨lw_p13, List.forall_mem_cons.mpr ⟨lw_p14, List.forall_mem_cons.mpr ⟨lw_p15, fun _ h => absurd h List.not_mem_nil⟩⟩⟩⟩⟩⟩⟩⟩⟩⟩⟩⟩⟩⟩⟩⟩
theorem lw_p16 : lw_okq (⟨"ShadowTolls$RoadReader", "sun", "()Z"⟩, 2) := ⟨⟨by decide +kernel, by decide +kernel⟩, List.mem_of_getElem? (i := 167) (by decide +kernel), List.mem_of_getElem? (i := 778) (by decide +kernel), List.mem_of_getElem? (i := 779) (by decide +kernel)⟩
theorem lw_p17 : lw_okq (⟨"ShadowTolls$RoadReader", "keeper", "()Z"⟩, 2) := ⟨⟨by decide +kernel, by decide +kernel⟩, List.mem_of_getElem? (i := 167) (by decide +kernel), List.mem_of_getElem? (i := 792) (by decide +kernel), List.mem_of_getElem? (i := 793) (by decide +kernel)⟩
theorem lw_p18 : lw_okq (⟨"ShadowTolls$RoadReader", "traits", "()Z"⟩, 2) := ⟨⟨by decide +kernel, by decide +kernel⟩, List.mem_of_getElem? (i := 167) (by decide +kernel), List.mem_of_getElem? (i := 796) (by decide +kernel), List.mem_of_getElem? (i := 797) (by decide +kernel)⟩
theorem lw_p19 : lw_okq (⟨"ShadowTolls$RoadReader", "trait", "(III)Z"⟩, 2) := ⟨⟨by decide +kernel, by decide +kernel⟩, List.mem_of_getElem? (i := 167) (by decide +kernel), List.mem_of_getElem? (i := 805) (by decide +kernel), List.mem_of_getElem? (i := 806) (by decide +kernel)⟩
theorem lw_p20 : lw_okq (⟨"ShadowTolls$RoadReader", "secondBridge", "()Z"⟩, 2) := ⟨⟨by decide +kernel, by decide +kernel⟩, List.mem_of_getElem? (i := 167) (by decide +kernel), List.mem_of_getElem? (i := 809) (by decide +kernel), List.mem_of_getElem? (i := 810) (by decide +kernel)⟩
theorem lw_p21 : lw_okq (⟨"ShadowTolls$RoadReader", "single", "(I)Z"⟩, 2) := ⟨⟨by decide +kernel, by decide +kernel⟩, List.mem_of_getElem? (i := 167) (by decide +kernel), List.mem_of_getElem? (i := 813) (by decide +kernel), List.mem_of_getElem? (i := 814) (by decide +kernel)⟩
theorem lw_p22 : lw_okq (⟨"ShadowTolls$LawReader", "number", "(I)Z"⟩, 2) := ⟨⟨by decide +kernel, by decide +kernel⟩, List.mem_of_getElem? (i := 180) (by decide +kernel), List.mem_of_getElem? (i := 858) (by decide +kernel), List.mem_of_getElem? (i := 859) (by decide +kernel)⟩
theorem lw_p23 : lw_okq (⟨"ShadowTolls$LawReader", "unit", "(I)Z"⟩, 2) := ⟨⟨by decide +kernel, by decide +kernel⟩, List.mem_of_getElem? (i := 180) (by decide +kernel), List.mem_of_getElem? (i := 862) (by decide +kernel), List.mem_of_getElem? (i := 863) (by decide +kernel)⟩
theorem lw_p24 : lw_okq (⟨"ShadowTolls$LawReader", "condition", "(I)Z"⟩, 2) := ⟨⟨by decide +kernel, by decide +kernel⟩, List.mem_of_getElem? (i := 180) (by decide +kernel), List.mem_of_getElem? (i := 880) (by decide +kernel), List.mem_of_getElem? (i := 881) (by decide +kernel)⟩
theorem lw_p25 : lw_okq (⟨"ShadowTolls$LawReader", "clause", "(I)Z"⟩, 2) := ⟨⟨by decide +kernel, by decide +kernel⟩, List.mem_of_getElem? (i := 180) (by decide +kernel), List.mem_of_getElem? (i := 884) (by decide +kernel), List.mem_of_getElem? (i := 885) (by decide +kernel)⟩
theorem lw_p26 : lw_okq (⟨"ShadowTolls", "needTraveller", "(I)V"⟩, 16) := ⟨⟨by decide +kernel, by decide +kernel⟩, List.mem_of_getElem? (i := 25) (by decide +kernel), List.mem_of_getElem? (i := 912) (by decide +kernel), List.mem_of_getElem? (i := 913) (by decide +kernel)⟩
theorem lw_p27 : lw_okq (⟨"ShadowTolls", "needBridge", "(I)V"⟩, 16) := ⟨⟨by decide +kernel, by decide +kernel⟩, List.mem_of_getElem? (i := 25) (by decide +kernel), List.mem_of_getElem? (i := 952) (by decide +kernel), List.mem_of_getElem? (i := 953) (by decide +kernel)⟩
theorem lw_p28 : lw_okq (⟨"ShadowTolls", "bestMinute", "(III)I"⟩, 16) := ⟨⟨by decide +kernel, by decide +kernel⟩, List.mem_of_getElem? (i := 25) (by decide +kernel), List.mem_of_getElem? (i := 1008) (by decide +kernel), List.mem_of_getElem? (i := 1009) (by decide +kernel)⟩
theorem lw_p29 : lw_okq (⟨"ShadowTolls", "expense", "(IIII)I"⟩, 16) := ⟨⟨by decide +kernel, by decide +kernel⟩, List.mem_of_getElem? (i := 25) (by decide +kernel), List.mem_of_getElem? (i := 1015) (by decide +kernel), List.mem_of_getElem? (i := 1016) (by decide +kernel)⟩
theorem lw_p30 : lw_okq (⟨"ShadowTolls", "needPlan", "(IIZ)V"⟩, 16) := ⟨⟨by decide +kernel, by decide +kernel⟩, List.mem_of_getElem? (i := 25) (by decide +kernel), List.mem_of_getElem? (i := 1034) (by decide +kernel), List.mem_of_getElem? (i := 1035) (by decide +kernel)⟩
theorem lw_p31 : lw_okq (⟨"ShadowTolls", "planFor", "(IIZLShadowTolls$Law;LShadowTolls$Law;)V"⟩, 16) := ⟨⟨by decide +kernel, by decide +kernel⟩, List.mem_of_getElem? (i := 25) (by decide +kernel), List.mem_of_getElem? (i := 1040) (by decide +kernel), List.mem_of_getElem? (i := 1041) (by decide +kernel)⟩
def lw_privs_2 : List (MethodName × Nat) := [(⟨"ShadowTolls$RoadReader", "sun", "()Z"⟩, 2), (⟨"ShadowTolls$RoadReader", "keeper", "()Z"⟩, 2), (⟨"ShadowTolls$RoadReader", "traits", "()Z"⟩, 2), (⟨"ShadowTolls$RoadReader", "trait", "(III)Z"⟩, 2), (⟨"ShadowTolls$RoadReader", "secondBridge", "()Z"⟩, 2), (⟨"ShadowTolls$RoadReader", "single", "(I)Z"⟩, 2), (⟨"ShadowTolls$LawReader", "number", "(I)Z"⟩, 2), (⟨"ShadowTolls$LawReader", "unit", "(I)Z"⟩, 2), (⟨"ShadowTolls$LawReader", "condition", "(I)Z"⟩, 2), (⟨"ShadowTolls$LawReader", "clause", "(I)Z"⟩, 2), (⟨"ShadowTolls", "needTraveller", "(I)V"⟩, 16), (⟨"ShadowTolls", "needBridge", "(I)V"⟩, 16), (⟨"ShadowTolls", "bestMinute", "(III)I"⟩, 16), (⟨"ShadowTolls", "expense", "(IIII)I"⟩, 16), (⟨"ShadowTolls", "needPlan", "(IIZ)V"⟩, 16), (⟨"ShadowTolls", "planFor", "(IIZLShadowTolls$Law;LShadowTolls$Law;)V"⟩, 16)]
theorem lw_r2 : ∀ q ∈ lw_privs_2, lw_okq q := List.forall_mem_cons.mpr ⟨lw_p16, List.forall_mem_cons.mpr ⟨lw_p17, List.forall_mem_cons.mpr ⟨lw_p18, List.forall_mem_cons.mpr ⟨lw_p19, List.forall_mem_cons.mpr ⟨lw_p20, List.forall_mem_cons.mpr ⟨lw_p21, List.forall_mem_cons.mpr ⟨lw_p22, List.forall_mem_cons.mpr ⟨lw_p23, List.forall_mem_cons.mpr ⟨lw_p24, List.forall_mem_cons.mpr ⟨lw_p25, List.forall_mem_cons.mpr ⟨lw_p26, List.forall_mem_cons.mpr ⟨lw_p27, List.forall_mem_cons.mpr ⟨lw_p28, List.forall_mem_cons.mpr ⟨lw_p29, List.forall_mem_cons.mpr ⟨lw_p30, List.forall_mem_cons.mpr ⟨lw_p31, fun _ h => absurd h List.not_mem_nil⟩⟩⟩⟩⟩⟩⟩⟩⟩⟩⟩⟩⟩⟩⟩⟩
theorem lw_p32 : lw_okq (⟨"ShadowTolls$Planner", "forgetSums", "()V"⟩, 20) := ⟨⟨by decide +kernel, by decide +kernel⟩, List.mem_of_getElem? (i := 193) (by decide +kernel), List.mem_of_getElem? (i := 1050) (by decide +kernel), List.mem_of_getElem? (i := 1051) (by decide +kernel)⟩
theorem lw_p33 : lw_okq (⟨"ShadowTolls$Planner", "holderOf", "(III)I"⟩, 20) := ⟨⟨by decide +kernel, by decide +kernel⟩, List.mem_of_getElem? (i := 193) (by decide +kernel), List.mem_of_getElem? (i := 1055) (by decide +kernel), List.mem_of_getElem? (i := 1056) (by decide +kernel)⟩
theorem lw_p34 : lw_okq (⟨"ShadowTolls$Planner", "coinsIn", "(III)I"⟩, 20) := ⟨⟨by decide +kernel, by decide +kernel⟩, List.mem_of_getElem? (i := 193) (by decide +kernel), List.mem_of_getElem? (i := 1059) (by decide +kernel), List.mem_of_getElem? (i := 1060) (by decide +kernel)⟩
theorem lw_p35 : lw_okq (⟨"ShadowTolls$Planner", "addUp", "(II)V"⟩, 20) := ⟨⟨by decide +kernel, by decide +kernel⟩, List.mem_of_getElem? (i := 193) (by decide +kernel), List.mem_of_getElem? (i := 1063) (by decide +kernel), List.mem_of_getElem? (i := 1064) (by decide +kernel)⟩
theorem lw_p36 : lw_okq (⟨"ShadowTolls$Planner", "minuteOf", "(I)I"⟩, 20) := ⟨⟨by decide +kernel, by decide +kernel⟩, List.mem_of_getElem? (i := 193) (by decide +kernel), List.mem_of_getElem? (i := 1067) (by decide +kernel), List.mem_of_getElem? (i := 1068) (by decide +kernel)⟩
theorem lw_p37 : lw_okq (⟨"ShadowTolls$Law", "addLine", "(III)V"⟩, 4) := ⟨⟨by decide +kernel, by decide +kernel⟩, List.mem_of_getElem? (i := 148) (by decide +kernel), List.mem_of_getElem? (i := 1150) (by decide +kernel), List.mem_of_getElem? (i := 1151) (by decide +kernel)⟩
theorem lw_p38 : lw_okq (⟨"ShadowTolls", "reckonTakings", "(I)V"⟩, 16) := ⟨⟨by decide +kernel, by decide +kernel⟩, List.mem_of_getElem? (i := 25) (by decide +kernel), List.mem_of_getElem? (i := 1179) (by decide +kernel), List.mem_of_getElem? (i := 1180) (by decide +kernel)⟩
theorem lw_p39 : lw_okq (⟨"ShadowTolls", "bestReply", "(II)I"⟩, 16) := ⟨⟨by decide +kernel, by decide +kernel⟩, List.mem_of_getElem? (i := 25) (by decide +kernel), List.mem_of_getElem? (i := 1186) (by decide +kernel), List.mem_of_getElem? (i := 1187) (by decide +kernel)⟩
theorem lw_p40 : lw_okq (⟨"ShadowTolls", "paysLedger", "(LShadowTolls$Law;III)Z"⟩, 16) := ⟨⟨by decide +kernel, by decide +kernel⟩, List.mem_of_getElem? (i := 25) (by decide +kernel), List.mem_of_getElem? (i := 1208) (by decide +kernel), List.mem_of_getElem? (i := 1209) (by decide +kernel)⟩
theorem lw_p41 : lw_okq (⟨"ShadowTolls", "planDays", "(II)V"⟩, 16) := ⟨⟨by decide +kernel, by decide +kernel⟩, List.mem_of_getElem? (i := 25) (by decide +kernel), List.mem_of_getElem? (i := 1220) (by decide +kernel), List.mem_of_getElem? (i := 1221) (by decide +kernel)⟩
theorem lw_p42 : lw_okq (⟨"ShadowTollsModel", "bad", "(ZI)Z"⟩, 52) := ⟨⟨by decide +kernel, by decide +kernel⟩, List.mem_of_getElem? (i := 1243) (by decide +kernel), List.mem_of_getElem? (i := 1431) (by decide +kernel), List.mem_of_getElem? (i := 1432) (by decide +kernel)⟩
theorem lw_p43 : lw_okq (⟨"ShadowTollsModel", "starts", "(I)V"⟩, 52) := ⟨⟨by decide +kernel, by decide +kernel⟩, List.mem_of_getElem? (i := 1243) (by decide +kernel), List.mem_of_getElem? (i := 1435) (by decide +kernel), List.mem_of_getElem? (i := 1436) (by decide +kernel)⟩
theorem lw_p44 : lw_okq (⟨"ShadowTollsModel", "blanks", "()V"⟩, 52) := ⟨⟨by decide +kernel, by decide +kernel⟩, List.mem_of_getElem? (i := 1243) (by decide +kernel), List.mem_of_getElem? (i := 1439) (by decide +kernel), List.mem_of_getElem? (i := 1440) (by decide +kernel)⟩
theorem lw_p45 : lw_okq (⟨"ShadowTollsModel", "byteAt", "(I)I"⟩, 52) := ⟨⟨by decide +kernel, by decide +kernel⟩, List.mem_of_getElem? (i := 1243) (by decide +kernel), List.mem_of_getElem? (i := 1443) (by decide +kernel), List.mem_of_getElem? (i := 1444) (by decide +kernel)⟩
theorem lw_p46 : lw_okq (⟨"ShadowTollsModel", "clause", "()V"⟩, 52) := ⟨⟨by decide +kernel, by decide +kernel⟩, List.mem_of_getElem? (i := 1243) (by decide +kernel), List.mem_of_getElem? (i := 1447) (by decide +kernel), List.mem_of_getElem? (i := 1448) (by decide +kernel)⟩
theorem lw_p47 : lw_okq (⟨"ShadowTollsModel", "kindHere", "()I"⟩, 52) := ⟨⟨by decide +kernel, by decide +kernel⟩, List.mem_of_getElem? (i := 1243) (by decide +kernel), List.mem_of_getElem? (i := 1451) (by decide +kernel), List.mem_of_getElem? (i := 1452) (by decide +kernel)⟩
def lw_privs_3 : List (MethodName × Nat) := [(⟨"ShadowTolls$Planner", "forgetSums", "()V"⟩, 20), (⟨"ShadowTolls$Planner", "holderOf", "(III)I"⟩, 20), (⟨"ShadowTolls$Planner", "coinsIn", "(III)I"⟩, 20), (⟨"ShadowTolls$Planner", "addUp", "(II)V"⟩, 20), (⟨"ShadowTolls$Planner", "minuteOf", "(I)I"⟩, 20), (⟨"ShadowTolls$Law", "addLine", "(III)V"⟩, 4), (⟨"ShadowTolls", "reckonTakings", "(I)V"⟩, 16), (⟨"ShadowTolls", "bestReply", "(II)I"⟩, 16), (⟨"ShadowTolls", "paysLedger", "(LShadowTolls$Law;III)Z"⟩, 16), (⟨"ShadowTolls", "planDays", "(II)V"⟩, 16), (⟨"ShadowTollsModel", "bad", "(ZI)Z"⟩, 52), (⟨"ShadowTollsModel", "starts", "(I)V"⟩, 52), (⟨"ShadowTollsModel", "blanks", "()V"⟩, 52), (⟨"ShadowTollsModel", "byteAt", "(I)I"⟩, 52), (⟨"ShadowTollsModel", "clause", "()V"⟩, 52), (⟨"ShadowTollsModel", "kindHere", "()I"⟩, 52)]
theorem lw_r3 : ∀ q ∈ lw_privs_3, lw_okq q := List.forall_mem_cons.mpr ⟨lw_p32, List.forall_mem_cons.mpr ⟨lw_p33, List.forall_mem_cons.mpr ⟨lw_p34, List.forall_mem_cons.mpr ⟨lw_p35, List.forall_mem_cons.mpr ⟨lw_p36, List.forall_mem_cons.mpr ⟨lw_p37, List.forall_mem_cons.mpr ⟨lw_p38, List.forall_mem_cons.mpr ⟨lw_p39, List.forall_mem_cons.mpr ⟨lw_p40, List.forall_mem_cons.mpr ⟨lw_p41, List.forall_mem_cons.mpr ⟨lw_p42, List.forall_mem_cons.mpr ⟨lw_p43, List.forall_mem_cons.mpr ⟨lw_p44, List.forall_mem_cons.mpr ⟨lw_p45, List.forall_mem_cons.mpr ⟨lw_p46, List.forall_mem_cons.mpr ⟨lw_p47, fun _ h => absurd h List.not_mem_nil⟩⟩⟩⟩⟩⟩⟩⟩⟩⟩⟩⟩⟩⟩⟩⟩
theorem lw_p48 : lw_okq (⟨"ShadowTollsModel", "isWord", "(J)Z"⟩, 52) := ⟨⟨by decide +kernel, by decide +kernel⟩, List.mem_of_getElem? (i := 1243) (by decide +kernel), List.mem_of_getElem? (i := 1459) (by decide +kernel), List.mem_of_getElem? (i := 1460) (by decide +kernel)⟩
theorem lw_p49 : lw_okq (⟨"ShadowTollsModel", "wordHere", "()J"⟩, 52) := ⟨⟨by decide +kernel, by decide +kernel⟩, List.mem_of_getElem? (i := 1243) (by decide +kernel), List.mem_of_getElem? (i := 1463) (by decide +kernel), List.mem_of_getElem? (i := 1464) (by decide +kernel)⟩
theorem lw_p50 : lw_okq (⟨"ShadowTollsModel", "wrong", "(II)V"⟩, 52) := ⟨⟨by decide +kernel, by decide +kernel⟩, List.mem_of_getElem? (i := 1243) (by decide +kernel), List.mem_of_getElem? (i := 1473) (by decide +kernel), List.mem_of_getElem? (i := 1474) (by decide +kernel)⟩
theorem lw_p51 : lw_okq (⟨"ShadowTollsModel", "skipWord", "()V"⟩, 52) := ⟨⟨by decide +kernel, by decide +kernel⟩, List.mem_of_getElem? (i := 1243) (by decide +kernel), List.mem_of_getElem? (i := 1477) (by decide +kernel), List.mem_of_getElem? (i := 1478) (by decide +kernel)⟩
theorem lw_p52 : lw_okq (⟨"ShadowTollsModel", "reads", "(I)V"⟩, 52) := ⟨⟨by decide +kernel, by decide +kernel⟩, List.mem_of_getElem? (i := 1243) (by decide +kernel), List.mem_of_getElem? (i := 1481) (by decide +kernel), List.mem_of_getElem? (i := 1482) (by decide +kernel)⟩
theorem lw_p53 : lw_okq (⟨"ShadowTollsModel", "number", "(II)I"⟩, 52) := ⟨⟨by decide +kernel, by decide +kernel⟩, List.mem_of_getElem? (i := 1243) (by decide +kernel), List.mem_of_getElem? (i := 1485) (by decide +kernel), List.mem_of_getElem? (i := 1486) (by decide +kernel)⟩
theorem lw_p54 : lw_okq (⟨"ShadowTollsModel", "readsWho", "()V"⟩, 52) := ⟨⟨by decide +kernel, by decide +kernel⟩, List.mem_of_getElem? (i := 1243) (by decide +kernel), List.mem_of_getElem? (i := 1493) (by decide +kernel), List.mem_of_getElem? (i := 1494) (by decide +kernel)⟩
theorem lw_p55 : lw_okq (⟨"ShadowTollsModel", "sign", "(I)V"⟩, 52) := ⟨⟨by decide +kernel, by decide +kernel⟩, List.mem_of_getElem? (i := 1243) (by decide +kernel), List.mem_of_getElem? (i := 1497) (by decide +kernel), List.mem_of_getElem? (i := 1498) (by decide +kernel)⟩
theorem lw_p56 : lw_okq (⟨"ShadowTollsModel", "pays", "()V"⟩, 52) := ⟨⟨by decide +kernel, by decide +kernel⟩, List.mem_of_getElem? (i := 1243) (by decide +kernel), List.mem_of_getElem? (i := 1505) (by decide +kernel), List.mem_of_getElem? (i := 1506) (by decide +kernel)⟩
theorem lw_p57 : lw_okq (⟨"ShadowTollsModel", "sum", "()V"⟩, 52) := ⟨⟨by decide +kernel, by decide +kernel⟩, List.mem_of_getElem? (i := 1243) (by decide +kernel), List.mem_of_getElem? (i := 1509) (by decide +kernel), List.mem_of_getElem? (i := 1510) (by decide +kernel)⟩
theorem lw_p58 : lw_okq (⟨"ShadowTollsModel", "product", "()V"⟩, 52) := ⟨⟨by decide +kernel, by decide +kernel⟩, List.mem_of_getElem? (i := 1243) (by decide +kernel), List.mem_of_getElem? (i := 1513) (by decide +kernel), List.mem_of_getElem? (i := 1514) (by decide +kernel)⟩
theorem lw_p59 : lw_okq (⟨"ShadowTollsModel", "unit", "()V"⟩, 52) := ⟨⟨by decide +kernel, by decide +kernel⟩, List.mem_of_getElem? (i := 1243) (by decide +kernel), List.mem_of_getElem? (i := 1517) (by decide +kernel), List.mem_of_getElem? (i := 1518) (by decide +kernel)⟩
theorem lw_p60 : lw_okq (⟨"ShadowTollsModel", "signHere", "()I"⟩, 52) := ⟨⟨by decide +kernel, by decide +kernel⟩, List.mem_of_getElem? (i := 1243) (by decide +kernel), List.mem_of_getElem? (i := 1521) (by decide +kernel), List.mem_of_getElem? (i := 1522) (by decide +kernel)⟩
theorem lw_p61 : lw_okq (⟨"ShadowTollsModel", "nameHere", "()I"⟩, 52) := ⟨⟨by decide +kernel, by decide +kernel⟩, List.mem_of_getElem? (i := 1243) (by decide +kernel), List.mem_of_getElem? (i := 1525) (by decide +kernel), List.mem_of_getElem? (i := 1526) (by decide +kernel)⟩
theorem lw_p62 : lw_okq (⟨"ShadowTollsModel", "tells", "(I)V"⟩, 52) := ⟨⟨by decide +kernel, by decide +kernel⟩, List.mem_of_getElem? (i := 1243) (by decide +kernel), List.mem_of_getElem? (i := 1531) (by decide +kernel), List.mem_of_getElem? (i := 1532) (by decide +kernel)⟩
theorem lw_p63 : lw_okq (⟨"ShadowTollsModel", "opens", "(I)V"⟩, 52) := ⟨⟨by decide +kernel, by decide +kernel⟩, List.mem_of_getElem? (i := 1243) (by decide +kernel), List.mem_of_getElem? (i := 1535) (by decide +kernel), List.mem_of_getElem? (i := 1536) (by decide +kernel)⟩
def lw_privs_4 : List (MethodName × Nat) := [(⟨"ShadowTollsModel", "isWord", "(J)Z"⟩, 52), (⟨"ShadowTollsModel", "wordHere", "()J"⟩, 52), (⟨"ShadowTollsModel", "wrong", "(II)V"⟩, 52), (⟨"ShadowTollsModel", "skipWord", "()V"⟩, 52), (⟨"ShadowTollsModel", "reads", "(I)V"⟩, 52), (⟨"ShadowTollsModel", "number", "(II)I"⟩, 52), (⟨"ShadowTollsModel", "readsWho", "()V"⟩, 52), (⟨"ShadowTollsModel", "sign", "(I)V"⟩, 52), (⟨"ShadowTollsModel", "pays", "()V"⟩, 52), (⟨"ShadowTollsModel", "sum", "()V"⟩, 52), (⟨"ShadowTollsModel", "product", "()V"⟩, 52), (⟨"ShadowTollsModel", "unit", "()V"⟩, 52), (⟨"ShadowTollsModel", "signHere", "()I"⟩, 52), (⟨"ShadowTollsModel", "nameHere", "()I"⟩, 52), (⟨"ShadowTollsModel", "tells", "(I)V"⟩, 52), (⟨"ShadowTollsModel", "opens", "(I)V"⟩, 52)]
theorem lw_r4 : ∀ q ∈ lw_privs_4, lw_okq q := List.forall_mem_cons.mpr ⟨lw_p48, List.forall_mem_cons.mpr ⟨lw_p49, List.forall_mem_cons.mpr ⟨lw_p50, List.forall_mem_cons.mpr ⟨lw_p51, List.forall_mem_cons.mpr ⟨lw_p52, List.forall_mem_cons.mpr ⟨lw_p53, List.forall_mem_cons.mpr ⟨lw_p54, List.forall_mem_cons.mpr ⟨lw_p55, List.forall_mem_cons.mpr ⟨lw_p56, List.forall_mem_cons.mpr ⟨lw_p57, List.forall_mem_cons.mpr ⟨lw_p58, List.forall_mem_cons.mpr ⟨lw_p59, List.forall_mem_cons.mpr ⟨lw_p60, List.forall_mem_cons.mpr ⟨lw_p61, List.forall_mem_cons.mpr ⟨lw_p62, List.forall_mem_cons.mpr ⟨lw_p63, fun _ h => absurd h List.not_mem_nil⟩⟩⟩⟩⟩⟩⟩⟩⟩⟩⟩⟩⟩⟩⟩⟩
theorem lw_p64 : lw_okq (⟨"ShadowTollsModel", "eats", "(J)Z"⟩, 52) := ⟨⟨by decide +kernel, by decide +kernel⟩, List.mem_of_getElem? (i := 1243) (by decide +kernel), List.mem_of_getElem? (i := 1540) (by decide +kernel), List.mem_of_getElem? (i := 1541) (by decide +kernel)⟩
theorem lw_p65 : lw_okq (⟨"ShadowTollsModel", "ors", "()V"⟩, 52) := ⟨⟨by decide +kernel, by decide +kernel⟩, List.mem_of_getElem? (i := 1243) (by decide +kernel), List.mem_of_getElem? (i := 1544) (by decide +kernel), List.mem_of_getElem? (i := 1545) (by decide +kernel)⟩
theorem lw_p66 : lw_okq (⟨"ShadowTollsModel", "ands", "()V"⟩, 52) := ⟨⟨by decide +kernel, by decide +kernel⟩, List.mem_of_getElem? (i := 1243) (by decide +kernel), List.mem_of_getElem? (i := 1548) (by decide +kernel), List.mem_of_getElem? (i := 1549) (by decide +kernel)⟩
theorem lw_p67 : lw_okq (⟨"ShadowTollsModel", "asked", "()V"⟩, 52) := ⟨⟨by decide +kernel, by decide +kernel⟩, List.mem_of_getElem? (i := 1243) (by decide +kernel), List.mem_of_getElem? (i := 1552) (by decide +kernel), List.mem_of_getElem? (i := 1553) (by decide +kernel)⟩
theorem lw_p68 : lw_okq (⟨"ShadowTollsModel", "isWho", "(I)Z"⟩, 52) := ⟨⟨by decide +kernel, by decide +kernel⟩, List.mem_of_getElem? (i := 1243) (by decide +kernel), List.mem_of_getElem? (i := 1569) (by decide +kernel), List.mem_of_getElem? (i := 1570) (by decide +kernel)⟩
theorem lw_p69 : lw_okq (⟨"ShadowTollsModel", "noon", "(I)I"⟩, 52) := ⟨⟨by decide +kernel, by decide +kernel⟩, List.mem_of_getElem? (i := 1243) (by decide +kernel), List.mem_of_getElem? (i := 1580) (by decide +kernel), List.mem_of_getElem? (i := 1581) (by decide +kernel)⟩
theorem lw_p70 : lw_okq (⟨"ShadowTollsModel", "isBridge", "(I)Z"⟩, 52) := ⟨⟨by decide +kernel, by decide +kernel⟩, List.mem_of_getElem? (i := 1243) (by decide +kernel), List.mem_of_getElem? (i := 1588) (by decide +kernel), List.mem_of_getElem? (i := 1589) (by decide +kernel)⟩
theorem lw_p71 : lw_okq (⟨"ShadowTollsModel", "altitudeOf", "(III)I"⟩, 52) := ⟨⟨by decide +kernel, by decide +kernel⟩, List.mem_of_getElem? (i := 1243) (by decide +kernel), List.mem_of_getElem? (i := 1595) (by decide +kernel), List.mem_of_getElem? (i := 1596) (by decide +kernel)⟩
theorem lw_p72 : lw_okq (⟨"ShadowTollsModel", "shadowOf", "(IIII)I"⟩, 52) := ⟨⟨by decide +kernel, by decide +kernel⟩, List.mem_of_getElem? (i := 1243) (by decide +kernel), List.mem_of_getElem? (i := 1606) (by decide +kernel), List.mem_of_getElem? (i := 1607) (by decide +kernel)⟩
theorem lw_p73 : lw_okq (⟨"ShadowTollsModel", "coinsOf", "(IIIIZ)I"⟩, 52) := ⟨⟨by decide +kernel, by decide +kernel⟩, List.mem_of_getElem? (i := 1243) (by decide +kernel), List.mem_of_getElem? (i := 1618) (by decide +kernel), List.mem_of_getElem? (i := 1619) (by decide +kernel)⟩
theorem lw_p74 : lw_okq (⟨"ShadowTollsModel", "paid", "(IIIIIIZ)I"⟩, 52) := ⟨⟨by decide +kernel, by decide +kernel⟩, List.mem_of_getElem? (i := 1243) (by decide +kernel), List.mem_of_getElem? (i := 1622) (by decide +kernel), List.mem_of_getElem? (i := 1623) (by decide +kernel)⟩
theorem lw_p75 : lw_okq (⟨"ShadowTollsModel", "comes", "([III)I"⟩, 52) := ⟨⟨by decide +kernel, by decide +kernel⟩, List.mem_of_getElem? (i := 1243) (by decide +kernel), List.mem_of_getElem? (i := 1626) (by decide +kernel), List.mem_of_getElem? (i := 1627) (by decide +kernel)⟩
theorem lw_p76 : lw_okq (⟨"ShadowTollsModel", "bestMinute", "(III)I"⟩, 52) := ⟨⟨by decide +kernel, by decide +kernel⟩, List.mem_of_getElem? (i := 1243) (by decide +kernel), List.mem_of_getElem? (i := 1638) (by decide +kernel), List.mem_of_getElem? (i := 1639) (by decide +kernel)⟩
theorem lw_p77 : lw_okq (⟨"ShadowTollsModel", "canCome", "(II)Z"⟩, 52) := ⟨⟨by decide +kernel, by decide +kernel⟩, List.mem_of_getElem? (i := 1243) (by decide +kernel), List.mem_of_getElem? (i := 1642) (by decide +kernel), List.mem_of_getElem? (i := 1643) (by decide +kernel)⟩
theorem lw_p78 : lw_okq (⟨"ShadowTollsModel", "costOf", "(IIIIZ)I"⟩, 52) := ⟨⟨by decide +kernel, by decide +kernel⟩, List.mem_of_getElem? (i := 1243) (by decide +kernel), List.mem_of_getElem? (i := 1646) (by decide +kernel), List.mem_of_getElem? (i := 1647) (by decide +kernel)⟩
theorem lw_p79 : lw_okq (⟨"ShadowTollsModel", "slotsOf", "()I"⟩, 52) := ⟨⟨by decide +kernel, by decide +kernel⟩, List.mem_of_getElem? (i := 1243) (by decide +kernel), List.mem_of_getElem? (i := 1658) (by decide +kernel), List.mem_of_getElem? (i := 1659) (by decide +kernel)⟩
def lw_privs_5 : List (MethodName × Nat) := [(⟨"ShadowTollsModel", "eats", "(J)Z"⟩, 52), (⟨"ShadowTollsModel", "ors", "()V"⟩, 52), (⟨"ShadowTollsModel", "ands", "()V"⟩, 52), (⟨"ShadowTollsModel", "asked", "()V"⟩, 52), (⟨"ShadowTollsModel", "isWho", "(I)Z"⟩, 52), (⟨"ShadowTollsModel", "noon", "(I)I"⟩, 52), (⟨"ShadowTollsModel", "isBridge", "(I)Z"⟩, 52), (⟨"ShadowTollsModel", "altitudeOf", "(III)I"⟩, 52), (⟨"ShadowTollsModel", "shadowOf", "(IIII)I"⟩, 52), (⟨"ShadowTollsModel", "coinsOf", "(IIIIZ)I"⟩, 52), (⟨"ShadowTollsModel", "paid", "(IIIIIIZ)I"⟩, 52), (⟨"ShadowTollsModel", "comes", "([III)I"⟩, 52), (⟨"ShadowTollsModel", "bestMinute", "(III)I"⟩, 52), (⟨"ShadowTollsModel", "canCome", "(II)Z"⟩, 52), (⟨"ShadowTollsModel", "costOf", "(IIIIZ)I"⟩, 52), (⟨"ShadowTollsModel", "slotsOf", "()I"⟩, 52)]
theorem lw_r5 : ∀ q ∈ lw_privs_5, lw_okq q := List.forall_mem_cons.mpr ⟨lw_p64, List.forall_mem_cons.mpr ⟨lw_p65, List.forall_mem_cons.mpr ⟨lw_p66, List.forall_mem_cons.mpr ⟨lw_p67, List.forall_mem_cons.mpr ⟨lw_p68, List.forall_mem_cons.mpr ⟨lw_p69, List.forall_mem_cons.mpr ⟨lw_p70, List.forall_mem_cons.mpr ⟨lw_p71, List.forall_mem_cons.mpr ⟨lw_p72, List.forall_mem_cons.mpr ⟨lw_p73, List.forall_mem_cons.mpr ⟨lw_p74, List.forall_mem_cons.mpr ⟨lw_p75, List.forall_mem_cons.mpr ⟨lw_p76, List.forall_mem_cons.mpr ⟨lw_p77, List.forall_mem_cons.mpr ⟨lw_p78, List.forall_mem_cons.mpr ⟨lw_p79, fun _ h => absurd h List.not_mem_nil⟩⟩⟩⟩⟩⟩⟩⟩⟩⟩⟩⟩⟩⟩⟩⟩
theorem lw_p80 : lw_okq (⟨"ShadowTollsModel", "isPlan", "(IIZ)Z"⟩, 52) := ⟨⟨by decide +kernel, by decide +kernel⟩, List.mem_of_getElem? (i := 1243) (by decide +kernel), List.mem_of_getElem? (i := 1666) (by decide +kernel), List.mem_of_getElem? (i := 1667) (by decide +kernel)⟩
theorem lw_p81 : lw_okq (⟨"ShadowTollsModel", "everybody", "()I"⟩, 52) := ⟨⟨by decide +kernel, by decide +kernel⟩, List.mem_of_getElem? (i := 1243) (by decide +kernel), List.mem_of_getElem? (i := 1670) (by decide +kernel), List.mem_of_getElem? (i := 1671) (by decide +kernel)⟩
theorem lw_p82 : lw_okq (⟨"ShadowTollsModel", "findPlan", "(IIZ)V"⟩, 52) := ⟨⟨by decide +kernel, by decide +kernel⟩, List.mem_of_getElem? (i := 1243) (by decide +kernel), List.mem_of_getElem? (i := 1674) (by decide +kernel), List.mem_of_getElem? (i := 1675) (by decide +kernel)⟩
theorem lw_p83 : lw_okq (⟨"ShadowTollsModel", "layCoins", "(IZ)V"⟩, 52) := ⟨⟨by decide +kernel, by decide +kernel⟩, List.mem_of_getElem? (i := 1243) (by decide +kernel), List.mem_of_getElem? (i := 1678) (by decide +kernel), List.mem_of_getElem? (i := 1679) (by decide +kernel)⟩
theorem lw_p84 : lw_okq (⟨"ShadowTollsModel", "minuteOf", "(I)I"⟩, 52) := ⟨⟨by decide +kernel, by decide +kernel⟩, List.mem_of_getElem? (i := 1243) (by decide +kernel), List.mem_of_getElem? (i := 1682) (by decide +kernel), List.mem_of_getElem? (i := 1683) (by decide +kernel)⟩
theorem lw_p85 : lw_okq (⟨"ShadowTollsModel", "layLeast", "(I)V"⟩, 52) := ⟨⟨by decide +kernel, by decide +kernel⟩, List.mem_of_getElem? (i := 1243) (by decide +kernel), List.mem_of_getElem? (i := 1686) (by decide +kernel), List.mem_of_getElem? (i := 1687) (by decide +kernel)⟩
theorem lw_p86 : lw_okq (⟨"ShadowTollsModel", "lastAt", "(II)I"⟩, 52) := ⟨⟨by decide +kernel, by decide +kernel⟩, List.mem_of_getElem? (i := 1243) (by decide +kernel), List.mem_of_getElem? (i := 1694) (by decide +kernel), List.mem_of_getElem? (i := 1695) (by decide +kernel)⟩
theorem lw_p87 : lw_okq (⟨"ShadowTollsModel", "leastAt", "(IIII)I"⟩, 52) := ⟨⟨by decide +kernel, by decide +kernel⟩, List.mem_of_getElem? (i := 1243) (by decide +kernel), List.mem_of_getElem? (i := 1698) (by decide +kernel), List.mem_of_getElem? (i := 1699) (by decide +kernel)⟩
theorem lw_p88 : lw_okq (⟨"ShadowTollsModel", "canHave", "(IIII)Z"⟩, 52) := ⟨⟨by decide +kernel, by decide +kernel⟩, List.mem_of_getElem? (i := 1243) (by decide +kernel), List.mem_of_getElem? (i := 1702) (by decide +kernel), List.mem_of_getElem? (i := 1703) (by decide +kernel)⟩
theorem lw_p89 : lw_okq (⟨"ShadowTollsModel", "isDark", "(II)I"⟩, 52) := ⟨⟨by decide +kernel, by decide +kernel⟩, List.mem_of_getElem? (i := 1243) (by decide +kernel), List.mem_of_getElem? (i := 1706) (by decide +kernel), List.mem_of_getElem? (i := 1707) (by decide +kernel)⟩
theorem lw_p90 : lw_okq (⟨"ShadowTollsModel", "high", "(I)I"⟩, 52) := ⟨⟨by decide +kernel, by decide +kernel⟩, List.mem_of_getElem? (i := 1243) (by decide +kernel), List.mem_of_getElem? (i := 1710) (by decide +kernel), List.mem_of_getElem? (i := 1711) (by decide +kernel)⟩
theorem lw_p91 : lw_okq (⟨"ShadowTollsModel", "mostOf", "(I)I"⟩, 52) := ⟨⟨by decide +kernel, by decide +kernel⟩, List.mem_of_getElem? (i := 1243) (by decide +kernel), List.mem_of_getElem? (i := 1722) (by decide +kernel), List.mem_of_getElem? (i := 1723) (by decide +kernel)⟩
theorem lw_p92 : lw_okq (⟨"ShadowTollsModel", "takenOf", "(I)I"⟩, 52) := ⟨⟨by decide +kernel, by decide +kernel⟩, List.mem_of_getElem? (i := 1243) (by decide +kernel), List.mem_of_getElem? (i := 1738) (by decide +kernel), List.mem_of_getElem? (i := 1739) (by decide +kernel)⟩
theorem lw_p93 : lw_okq (⟨"ShadowTollsModel", "answers", "(II)I"⟩, 52) := ⟨⟨by decide +kernel, by decide +kernel⟩, List.mem_of_getElem? (i := 1243) (by decide +kernel), List.mem_of_getElem? (i := 1763) (by decide +kernel), List.mem_of_getElem? (i := 1764) (by decide +kernel)⟩
theorem lw_p94 : lw_okq (⟨"ShadowTollsModel", "skyNow", "()I"⟩, 52) := ⟨⟨by decide +kernel, by decide +kernel⟩, List.mem_of_getElem? (i := 1243) (by decide +kernel), List.mem_of_getElem? (i := 1783) (by decide +kernel), List.mem_of_getElem? (i := 1784) (by decide +kernel)⟩
theorem lw_p95 : lw_okq (⟨"ShadowTollsModel", "areDays", "(II)Z"⟩, 52) := ⟨⟨by decide +kernel, by decide +kernel⟩, List.mem_of_getElem? (i := 1243) (by decide +kernel), List.mem_of_getElem? (i := 1792) (by decide +kernel), List.mem_of_getElem? (i := 1793) (by decide +kernel)⟩
def lw_privs_6 : List (MethodName × Nat) := [(⟨"ShadowTollsModel", "isPlan", "(IIZ)Z"⟩, 52), (⟨"ShadowTollsModel", "everybody", "()I"⟩, 52), (⟨"ShadowTollsModel", "findPlan", "(IIZ)V"⟩, 52), (⟨"ShadowTollsModel", "layCoins", "(IZ)V"⟩, 52), (⟨"ShadowTollsModel", "minuteOf", "(I)I"⟩, 52), (⟨"ShadowTollsModel", "layLeast", "(I)V"⟩, 52), (⟨"ShadowTollsModel", "lastAt", "(II)I"⟩, 52), (⟨"ShadowTollsModel", "leastAt", "(IIII)I"⟩, 52), (⟨"ShadowTollsModel", "canHave", "(IIII)Z"⟩, 52), (⟨"ShadowTollsModel", "isDark", "(II)I"⟩, 52), (⟨"ShadowTollsModel", "high", "(I)I"⟩, 52), (⟨"ShadowTollsModel", "mostOf", "(I)I"⟩, 52), (⟨"ShadowTollsModel", "takenOf", "(I)I"⟩, 52), (⟨"ShadowTollsModel", "answers", "(II)I"⟩, 52), (⟨"ShadowTollsModel", "skyNow", "()I"⟩, 52), (⟨"ShadowTollsModel", "areDays", "(II)Z"⟩, 52)]
theorem lw_r6 : ∀ q ∈ lw_privs_6, lw_okq q := List.forall_mem_cons.mpr ⟨lw_p80, List.forall_mem_cons.mpr ⟨lw_p81, List.forall_mem_cons.mpr ⟨lw_p82, List.forall_mem_cons.mpr ⟨lw_p83, List.forall_mem_cons.mpr ⟨lw_p84, List.forall_mem_cons.mpr ⟨lw_p85, List.forall_mem_cons.mpr ⟨lw_p86, List.forall_mem_cons.mpr ⟨lw_p87, List.forall_mem_cons.mpr ⟨lw_p88, List.forall_mem_cons.mpr ⟨lw_p89, List.forall_mem_cons.mpr ⟨lw_p90, List.forall_mem_cons.mpr ⟨lw_p91, List.forall_mem_cons.mpr ⟨lw_p92, List.forall_mem_cons.mpr ⟨lw_p93, List.forall_mem_cons.mpr ⟨lw_p94, List.forall_mem_cons.mpr ⟨lw_p95, fun _ h => absurd h List.not_mem_nil⟩⟩⟩⟩⟩⟩⟩⟩⟩⟩⟩⟩⟩⟩⟩⟩
theorem lw_p96 : lw_okq (⟨"ShadowTollsModel", "layPlans", "(II)V"⟩, 52) := ⟨⟨by decide +kernel, by decide +kernel⟩, List.mem_of_getElem? (i := 1243) (by decide +kernel), List.mem_of_getElem? (i := 1796) (by decide +kernel), List.mem_of_getElem? (i := 1797) (by decide +kernel)⟩
theorem lw_p97 : lw_okq (⟨"ShadowTollsModel", "seasonOf", "(III)I"⟩, 52) := ⟨⟨by decide +kernel, by decide +kernel⟩, List.mem_of_getElem? (i := 1243) (by decide +kernel), List.mem_of_getElem? (i := 1800) (by decide +kernel), List.mem_of_getElem? (i := 1801) (by decide +kernel)⟩
theorem lw_p98 : lw_okq (⟨"ShadowTollsModel", "movesAll", "([IZ)V"⟩, 52) := ⟨⟨by decide +kernel, by decide +kernel⟩, List.mem_of_getElem? (i := 1243) (by decide +kernel), List.mem_of_getElem? (i := 1812) (by decide +kernel), List.mem_of_getElem? (i := 1813) (by decide +kernel)⟩
theorem lw_p99 : lw_okq (⟨"ShadowTollsModel", "moves", "([IIZ)I"⟩, 52) := ⟨⟨by decide +kernel, by decide +kernel⟩, List.mem_of_getElem? (i := 1243) (by decide +kernel), List.mem_of_getElem? (i := 1816) (by decide +kernel), List.mem_of_getElem? (i := 1817) (by decide +kernel)⟩
def lw_privs_7 : List (MethodName × Nat) := [(⟨"ShadowTollsModel", "layPlans", "(II)V"⟩, 52), (⟨"ShadowTollsModel", "seasonOf", "(III)I"⟩, 52), (⟨"ShadowTollsModel", "movesAll", "([IZ)V"⟩, 52), (⟨"ShadowTollsModel", "moves", "([IIZ)I"⟩, 52)]
theorem lw_r7 : ∀ q ∈ lw_privs_7, lw_okq q := List.forall_mem_cons.mpr ⟨lw_p96, List.forall_mem_cons.mpr ⟨lw_p97, List.forall_mem_cons.mpr ⟨lw_p98, List.forall_mem_cons.mpr ⟨lw_p99, fun _ h => absurd h List.not_mem_nil⟩⟩⟩⟩
def lw_privs : List (MethodName × Nat) := lw_privs_1 ++ (lw_privs_2 ++ (lw_privs_3 ++ (lw_privs_4 ++ (lw_privs_5 ++ (lw_privs_6 ++ (lw_privs_7))))))
def lw_tbl : List Cond := k2_sels lw_privs ++ tables_1
theorem lw_privs_ok : ∀ q ∈ lw_privs, lw_okq q := by
  show ∀ q ∈ lw_privs_1 ++ (lw_privs_2 ++ (lw_privs_3 ++ (lw_privs_4 ++ (lw_privs_5 ++ (lw_privs_6 ++ (lw_privs_7)))))), lw_okq q
  exact List.forall_mem_append.mpr ⟨lw_r1, List.forall_mem_append.mpr ⟨lw_r2, List.forall_mem_append.mpr ⟨lw_r3, List.forall_mem_append.mpr ⟨lw_r4, List.forall_mem_append.mpr ⟨lw_r5, List.forall_mem_append.mpr ⟨lw_r6, lw_r7⟩⟩⟩⟩⟩⟩
end
section
/-! ===== BEGIN words of one list among another's, by their places ===== -/
theorem goodIn_r {big : List Cond} (ws : List Cond) (ps : List Nat) (hp : ws = ps.filterMap (fun i => big[i]?)) (h : ws.all goodWord = true) : GoodIn big ws := by
  intro w hw
  have h1 := List.all_eq_true.mp h w hw
  rw [hp] at hw
  obtain ⟨i, -, hi⟩ := List.mem_filterMap.mp hw
  have hm : w ∈ big := by first | exact List.mem_of_getElem? hi | exact List.getElem?_mem hi
  exact ⟨hm, good_of_word h1⟩
theorem goodIn_app {big a b : List Cond} (ha : GoodIn big a) (hb : GoodIn big b) : GoodIn big (a ++ b) := fun w h => (List.mem_append.mp h).elim (ha w) (hb w)
theorem goodIn_ca {big a b : List Cond} {c : Cond} (ha : GoodIn big (c :: a)) (hb : GoodIn big b) : GoodIn big (c :: (a ++ b)) := fun w h => (List.mem_cons.mp h).elim (fun e => ha w (List.mem_cons.mpr (Or.inl e))) (fun h => (List.mem_append.mp h).elim (fun h => ha w (List.mem_cons.mpr (Or.inr h))) (hb w))
theorem goodIn_sub {big ws : List Cond} (hm : ∀ w ∈ ws, w ∈ big) (h : ws.all goodWord = true) : GoodIn big ws := fun w hw => ⟨hm w hw, good_of_word (List.all_eq_true.mp h w hw)⟩
/-! ===== END ===== -/


/-! ===== BEGIN exceptions that leave a method, and their catching by the caller (launches without stack traces) ===== -/
section VXA
/-! The laws vx_back, vx_callV, vx_callS, vx_callSW, vx_throw0, vx_throwS follow proofs of the library, with one case more: JvmDerived/Free/Laws.lean (Back.of_free), Shelf42/LK1.lean (callV, callS), Shelf/KitTraced.lean (throwNew0V, throwNewS). -/
/-- where a method has thrown q: the class by its name, the cell, what was written, the world -/
def vx_T (XC : String → State → State → Prop) (st : State) (q : Addr) (t : State) (mc ms : Nat) (free : Addr → Prop) : Prop :=
  ∃ (E : String) (ce : Cell) (L : List Loc), XC E st t ∧ t.heap[q]? = some ce ∧ ce.vm = .none ∧ st.vm.findClass E = some ce.cls ∧ st.WarmedH t.vm ∧ st.sameButNew ({ t with vm := st.vm } : State) L mc ms ∧ ∀ z ∈ L, free z.base
def vx_Q (Qc : Array Value → State → Outcome → State → Prop) (XC : String → State → State → Prop) (mc ms : Nat) (free : Addr → Prop) : Array Value → State → Outcome → State → Prop := fun a st o t =>
  (Qc a st o t ∧ ∃ L, FrameEnd st o t L mc ms ∧ ∀ q ∈ L, free q.base) ∨ ∃ q, o = .threw q ∧ vx_T XC st q t mc ms free
/-- a callee that returns or throws -/
def vx_Met (l : Launch) (y : MethodName) (ws : List Cond) (rm : Room) (Pc : Array Value → State → Prop) (Qc : Array Value → State → Outcome → State → Prop) (XC : String → State → State → Prop) (mc ms : Nat) (free : Addr → Prop) : Prop :=
  MetFree l y (headSpec ws rm) Pc (fun _ _ _ _ _ => True) (vx_Q Qc XC mc ms free)
def vx_Post (XC : String → State → State → Prop) (mc ms : Nat) (free : Addr → Prop) : Pt → Array Value → Addr → Pt → Prop := fun A a q B =>
  ∃ (g : JFrame) (mk : MethodId) (t : State) (L : List Loc) (E : String) (ce : Cell), B.U.heap = t.heap ∧ B.U.vm = t.vm ∧ XC E (A.U.calling g mk a) t ∧ t.heap[q]? = some ce ∧ ce.vm = .none ∧ A.U.vm.findClass E = some ce.cls ∧ B.locs = A.locs ++ L ∧ (∀ z ∈ L, free z.base) ∧ B.cells = A.cells + mc ∧ B.slots = A.slots + ms
def vx_Back (l : Launch) (R : Room) (p : Program) (e : Env) (below : List Frame) (s : State) (sargs : Array Value) (y : MethodName) (len W9 : Nat)
    (Pre : Pt → Array Value → Prop) (Post : Pt → Array Value → Option Value → Pt → Prop) (PostX : Pt → Array Value → Addr → Pt → Prop) : Prop :=
  ∀ (m : MethodId) (meth : Method) (c : Code) (A : Pt) (g : JFrame) (ig : Instr) (mk : MethodId) (a : Array Value),
    Stand p l e R s m sargs below meth c A.U A.locs A.cells A.slots → g.method = m → g.locals.size = c.maxLocals → decode c.code g.pc = .ok (ig, len) →
    2 * g.monitorRoom + (g.stack.map fun v => v.category).sum ≤ W9 → A.U.methodNamed? y = some mk → Pre A a →
    (∃ (v : Option Value) (B : Pt), Stand p l e R s m sargs below meth c B.U B.locs B.cells B.slots ∧ Post A a v B ∧
      Steps p.tables e below (doInvoke e (A.U.setTop g) [] mk a).1 (B.U.setTop { g with pc := g.pc + len, stack := v.toList ++ g.stack })) ∨
    (∃ (q : Addr) (B : Pt), Stand p l e R s m sargs below meth c B.U B.locs B.cells B.slots ∧ PostX A a q B ∧
      Steps p.tables e below (doInvoke e (A.U.setTop g) [] mk a).1 ((B.U.setTop g).pushFrame (.throwing q)))
section Payer
variable {l : Launch} {R : Room} {p : Program} {e : Env} {below : List Frame} {s : State} {sargs : Array Value} {y : MethodName} {len W9 : Nat}
theorem vx_back {ws : List Cond} {rm : Room} {Pc : Array Value → State → Prop} {Qc : Array Value → State → Outcome → State → Prop} {XC : String → State → State → Prop} {mc ms : Nat} {free : Addr → Prop} {bytes : ByteArray} {maxL : Nat} {ret : Option FieldType}
    (hM : vx_Met l y ws rm Pc Qc XC mc ms free) (hblind : FrameBlind Pc) (hrc : rm.cells = mc) (hrs : rm.slots = ms)
    (hframes : rm.frames + 1 ≤ R.frames) (hlocals : W9 + (maxL + 11) + rm.locals ≤ R.locals)
    (hws : ∀ w ∈ ws, ∀ a' U, s.WarmedH U.vm → w.before a' U = true) (hcode : Cond.code y bytes maxL ret ∈ ws) (hinit : ∀ a' U, s.WarmedH U.vm → (Cond.initialized y.cls).before a' U = true) :
    vx_Back l R p e below s sargs y len W9 (PreOf R mc ms Pc) (PostOf Qc mc ms free) (vx_Post XC mc ms free) := by
  intro m meth c A g ig mk a X hg hsize hdg hW hn hp
  have h1 : (headSpec ws rm).pre.before a A.U = true := atoms_intro fun w hw => hws w hw _ _ X.warmed
  have h2 : (Cond.code y bytes maxL ret).before a A.U = true := hws _ hcode _ _ X.warmed
  have h3 : (Cond.initialized y.cls).before a A.U = true := hinit _ _ X.warmed
  have h4 : A.cells + (headSpec ws rm).room.cells ≤ R.cells := by rw [show (headSpec ws rm).room.cells = mc from hrc]; exact hp.1
  have h5 : A.slots + (headSpec ws rm).room.slots ≤ R.slots := by rw [show (headSpec ws rm).room.slots = ms from hrs]; exact hp.2.1
  have hPc : Pc a (A.U.calling g mk a) := hblind _ _ _ _ hp.2.2
  obtain ⟨U, Ls, c0, s0⟩ := A
  dsimp only [Pt.U, Pt.locs, Pt.cells, Pt.slots] at h1 h2 h3 h4 h5 X hn hPc ⊢
  obtain ⟨methY, cY, hmY, hcY, -, hlY, -, -, -, -⟩ := Cond.code_spec hn h2
  obtain ⟨kY, hkY, -⟩ := className_of_methodNamed hn
  have hinitY : kY.init = .initialized := Cond.initialized_spec (findClass_of_methodNamed hn) hkY h3
  have h : At U g.method c below := by rw [hg]; exact X.here
  have hlocals9 : W9 + (maxL + 11) + (headSpec ws rm).room.locals ≤ R.locals := hlocals
  have happ : (headSpec ws rm).appliesLoose y e.platform (U.calling g mk a) = true :=
    Spec.appliesLoose_calling (g := g) h hdg hn hkY hinitY
      (X.room_calling (g := g) (R' := (headSpec ws rm).room) hsize hmY hcY hframes (by rw [hlY]; omega) h4 h5) h1
  obtain ⟨mid, hmid⟩ := h.above
  have hfr : (U.setTop g).frames = (.java g :: mid) ++ below := by rw [State.frames_setTop' g h.top, hmid]; rfl
  obtain ⟨o, s₂, hsteps, -, hend, hq⟩ := Steps.callFree hM p X.admits X.cas X.clock (acts := []) hfr happ hPc trivial
  have hq' : vx_Q Qc XC mc ms free a (U.calling g mk a) o s₂ := hq
  rw [State.frames_setTop' g h.top] at hend
  obtain ⟨g₀, hg0⟩ := Option.isSome_iff_exists.mp h.top
  obtain ⟨r, hr⟩ := State.topJava?_eq_some.mp hg0
  have hr' : (({ U with heap := s₂.heap, slotsUsed := s₂.slotsUsed } : State).setVm s₂.vm).frames = .java g₀ :: r := hr
  rcases hq' with ⟨hqc, L, hfe, hL⟩ | ⟨q, rfl, E, ce, L, hx, hce, hcv, hcl, hW₂, hsm, hL⟩
  · obtain ⟨⟨v, rfl⟩, hW₂, e2, q2, q3, q4, q5, q6⟩ := id hfe
    have e3 : s₂ = ({ (U.calling g mk a).setFrames s₂.frames with heap := s₂.heap, slotsUsed := s₂.slotsUsed } : State).setVm s₂.vm := by
      have : s₂ = ({ s₂ with vm := (U.calling g mk a).vm } : State).setVm s₂.vm := rfl
      rw [e2] at this
      exact this
    obtain ⟨c₂, i₂, len₂, hc₂, hd₂, hf₂⟩ := hend
    have hW' : U.WarmedH s₂.vm := hW₂
    have hcc : c₂ = c := by
      have h1 : s₂.code? g.method = U.code? g.method := by
        rw [State.code?_eq, State.code?_eq, hW'.alike.method?]
      exact Option.some.inj (hc₂.symm.trans (h1.trans h.code))
    subst hcc
    have hlen : len₂ = len := by rw [hdg] at hd₂; cases hd₂; rfl
    subst hlen
    have hs₂ : s₂ = (({ U with heap := s₂.heap, slotsUsed := s₂.slotsUsed } : State).setVm s₂.vm).setTop { g with pc := g.pc + len₂, stack := v.toList ++ g.stack } := by
      refine e3.trans ?_
      rw [hf₂, State.calling_eq h.top, State.setFrames_setFrames, State.setTop_of_frames _ hr', hr]
      rfl
    have hsame : U.sameButNew ({ U with heap := s₂.heap, slotsUsed := s₂.slotsUsed } : State) L mc ms := by
      refine ⟨?_, q2, q3, q4, q5, q6⟩
      obtain ⟨t, ht, -⟩ := State.frames_cons hr
      show ({ U with heap := s₂.heap, slotsUsed := s₂.slotsUsed } : State) = { U.setFrames U.frames with heap := s₂.heap, slotsUsed := s₂.slotsUsed }
      rw [State.setFrames_self ht]
    subst hg
    refine Or.inl ⟨v, ⟨(({ U with heap := s₂.heap, slotsUsed := s₂.slotsUsed } : State).setVm s₂.vm), Ls ++ L, c0 + mc, s0 + ms⟩,
      ⟨X.admits, X.cas, X.clock, X.frames, X.room, X.hears, X.method, X.code, (X.here.setHeapUsed s₂.heap s₂.slotsUsed).setVm hW'.alike, X.tail, State.WarmedH.trans X.warmed hW', X.limits, X.bytes, X.same.trans (hsame.setVm s.vm)⟩,
      ⟨g, mk, s₂, L, rfl, rfl, hqc, rfl, hL, rfl, rfl⟩, ?_⟩
    show Steps p.tables e below _ ((({ U with heap := s₂.heap, slotsUsed := s₂.slotsUsed } : State).setVm s₂.vm).setTop { g with pc := g.pc + len₂, stack := v.toList ++ g.stack })
    rw [← hs₂]
    exact hsteps
  · obtain ⟨e2, q2, q3, q4, q5, q6⟩ := id hsm
    have e3 : s₂ = ({ (U.calling g mk a).setFrames s₂.frames with heap := s₂.heap, slotsUsed := s₂.slotsUsed } : State).setVm s₂.vm := by
      have : s₂ = ({ s₂ with vm := (U.calling g mk a).vm } : State).setVm s₂.vm := rfl
      rw [e2] at this
      exact this
    have hf₂ : s₂.frames = .throwing q :: .java g :: U.frames.tail := hend
    have hW' : U.WarmedH s₂.vm := hW₂
    have hs₂ : s₂ = ((({ U with heap := s₂.heap, slotsUsed := s₂.slotsUsed } : State).setVm s₂.vm).setTop g).pushFrame (.throwing q) := by
      refine e3.trans ?_
      rw [hf₂, State.calling_eq h.top, State.setFrames_setFrames, State.pushFrame, State.frames_setTop _ hr', State.setTop_of_frames _ hr', State.setFrames_setFrames, hr]
      rfl
    have hsame : U.sameButNew ({ U with heap := s₂.heap, slotsUsed := s₂.slotsUsed } : State) L mc ms := by
      refine ⟨?_, q2, q3, q4, q5, q6⟩
      obtain ⟨t, ht, -⟩ := State.frames_cons hr
      show ({ U with heap := s₂.heap, slotsUsed := s₂.slotsUsed } : State) = { U.setFrames U.frames with heap := s₂.heap, slotsUsed := s₂.slotsUsed }
      rw [State.setFrames_self ht]
    subst hg
    refine Or.inr ⟨q, ⟨(({ U with heap := s₂.heap, slotsUsed := s₂.slotsUsed } : State).setVm s₂.vm), Ls ++ L, c0 + mc, s0 + ms⟩,
      ⟨X.admits, X.cas, X.clock, X.frames, X.room, X.hears, X.method, X.code, (X.here.setHeapUsed s₂.heap s₂.slotsUsed).setVm hW'.alike, X.tail, State.WarmedH.trans X.warmed hW', X.limits, X.bytes, X.same.trans (hsame.setVm s.vm)⟩,
      ⟨g, mk, s₂, L, E, ce, rfl, rfl, hx, hce, hcv, hcl, rfl, hL, rfl, rfl⟩, ?_⟩
    show Steps p.tables e below _ (((({ U with heap := s₂.heap, slotsUsed := s₂.slotsUsed } : State).setVm s₂.vm).setTop g).pushFrame (.throwing q))
    rw [← hs₂]
    exact hsteps
end Payer
section Calls
variable {p : Program} {l : Launch} {e : Env} {R : Room} {s : State} {m : MethodId} {args : Array Value} {below : List Frame} {meth : Method} {c : Code} {T : State} {locs : List Loc} {cells slots : Nat}
theorem vx_callV (X : Stand p l e R s m args below meth c T locs cells slots) (hexec : p.tables.exec = Jvm.exec) {own C : String} {index : Nat} {y : MethodName} {bytes : ByteArray} {maxL : Nat} {ret : Option FieldType}
    (hown : s.vm.findClass own = some m.cls) (hlink : (Cond.methodLink own index y).before args s = true) (hinst : (Cond.instanceMethod y).before args s = true) (hsel : (Cond.selects C y y).before args s = true)
    (hcode : (Cond.code y bytes maxL ret).before args s = true) (hy : y.cls ≠ "java/lang/invoke/MethodHandle" ∧ y.cls ≠ "java/lang/invoke/VarHandle")
    {W9 : Nat} {Pre : Pt → Array Value → Prop} {Post : Pt → Array Value → Option Value → Pt → Prop} {PostX : Pt → Array Value → Addr → Pt → Prop} (hK : vx_Back l R p e below s args y 3 W9 Pre Post PostX)
    {b : Addr} {cellB : Cell} (hcell : T.heap[b]? = some cellB) (hobj : cellB.vm.isStatics = false) (hcls : s.vm.findClass C = some cellB.cls)
    {g : JFrame} (hg : g.method = m) (hsize : g.locals.size = c.maxLocals) {argsL rest : List Value} (hlen : ∀ sig, parseMethodDescriptor y.desc = some sig → argsL.length = sig.parameters.length)
    (hstack : g.stack = argsL.reverse ++ .ref b :: rest) (hW : 2 * g.monitorRoom + (rest.map fun v => v.category).sum ≤ W9) (hdg : decode c.code g.pc = .ok (.invokevirtual index, 3))
    (hpre : ∀ vm₁, s.WarmedH vm₁ → Pre ⟨T.setVm vm₁, locs, cells, slots⟩ (Value.ref b :: argsL).toArray) :
    (∃ (v : Option Value) (vm₁ : Vm) (B : Pt), s.WarmedH vm₁ ∧ Stand p l e R s m args below meth c B.U B.locs B.cells B.slots ∧ Post ⟨T.setVm vm₁, locs, cells, slots⟩ (Value.ref b :: argsL).toArray v B ∧
      ∀ target, Steps p.tables e below (B.U.setTop { g with pc := g.pc + 3, stack := v.toList ++ rest }) target → Steps p.tables e below (T.setTop g) target) ∨
    (∃ (q : Addr) (vm₁ : Vm) (B : Pt), s.WarmedH vm₁ ∧ Stand p l e R s m args below meth c B.U B.locs B.cells B.slots ∧ PostX ⟨T.setVm vm₁, locs, cells, slots⟩ (Value.ref b :: argsL).toArray q B ∧
      Steps p.tables e below (T.setTop g) ((B.U.setTop { g with stack := rest }).pushFrame (.throwing q))) := by
  obtain ⟨mk, methM, hnamed, hmethM, hstM, habM⟩ := Cond.instanceMethod_spec hinst
  obtain ⟨methM', cM, hmethM', -, -, -, -, -, -, hsigM⟩ := Cond.code_spec hnamed hcode
  cases hmethM.symm.trans hmethM'
  obtain ⟨c2, r2, m2, q1, q2, q3, q4, kP, hkP, hkPi⟩ := Cond.selects_spec hsel
  cases hcls.symm.trans q1
  cases (State.methodFound?_of_named hnamed hy).symm.trans q2
  cases hnamed.symm.trans q3
  have hselP : selectMethod e.platform s.vm cellB.cls mk = .method mk := by rw [Launch.admits_selectMethod X.admits]; exact q4
  obtain ⟨vm₁, X₁, hstep₁⟩ := X.invokevirtual hexec hown hlink hnamed hmethM hstM hkP hkPi hy (a := b) (cell := cellB) hcell
    (fun z h => by rw [h] at hobj; cases hobj) hselP hmethM habM hkP hkPi (g := g) hg (argsL := argsL) (rest := rest) (hlen _ hsigM) hstack hdg
  rcases hK m meth c ⟨T.setVm vm₁, locs, cells, slots⟩ { g with stack := rest } (.invokevirtual index) mk (Value.ref b :: argsL).toArray X₁ hg hsize hdg hW (X₁.named hnamed) (hpre vm₁ X₁.warmed) with ⟨v, B, X', hpost, hsteps⟩ | ⟨q, B, X', hpost, hsteps⟩
  · exact Or.inl ⟨v, vm₁, B, X₁.warmed, X', hpost, fun target h => hstep₁ _ fun acts => by rw [doInvoke_state]; exact hsteps.trans h⟩
  · exact Or.inr ⟨q, vm₁, B, X₁.warmed, X', hpost, hstep₁ _ fun acts => by rw [doInvoke_state]; exact hsteps⟩
theorem vx_callS (X : Stand p l e R s m args below meth c T locs cells slots) (hexec : p.tables.exec = Jvm.exec) {own : String} {index : Nat} {y : MethodName} {bytes : ByteArray} {maxL : Nat} {ret : Option FieldType}
    (hown : s.vm.findClass own = some m.cls) (hlink : (Cond.methodLink own index y).before args s = true) (hstat : (Cond.static y).before args s = true) (hinit : (Cond.initialized y.cls).before args s = true)
    (hcode : (Cond.code y bytes maxL ret).before args s = true) (hy : y.cls ≠ "java/lang/invoke/MethodHandle" ∧ y.cls ≠ "java/lang/invoke/VarHandle")
    {W9 : Nat} {Pre : Pt → Array Value → Prop} {Post : Pt → Array Value → Option Value → Pt → Prop} {PostX : Pt → Array Value → Addr → Pt → Prop} (hK : vx_Back l R p e below s args y 3 W9 Pre Post PostX)
    {g : JFrame} (hg : g.method = m) (hsize : g.locals.size = c.maxLocals) {argsL rest : List Value} (hlen : ∀ sig, parseMethodDescriptor y.desc = some sig → argsL.length = sig.parameters.length)
    (hstack : g.stack = argsL.reverse ++ rest) (hW : 2 * g.monitorRoom + (rest.map fun v => v.category).sum ≤ W9) (hdg : decode c.code g.pc = .ok (.invokestatic index, 3))
    (hpre : ∀ vm₁, s.WarmedH vm₁ → Pre ⟨T.setVm vm₁, locs, cells, slots⟩ argsL.toArray) :
    (∃ (v : Option Value) (vm₁ : Vm) (B : Pt), s.WarmedH vm₁ ∧ Stand p l e R s m args below meth c B.U B.locs B.cells B.slots ∧ Post ⟨T.setVm vm₁, locs, cells, slots⟩ argsL.toArray v B ∧
      ∀ target, Steps p.tables e below (B.U.setTop { g with pc := g.pc + 3, stack := v.toList ++ rest }) target → Steps p.tables e below (T.setTop g) target) ∨
    (∃ (q : Addr) (vm₁ : Vm) (B : Pt), s.WarmedH vm₁ ∧ Stand p l e R s m args below meth c B.U B.locs B.cells B.slots ∧ PostX ⟨T.setVm vm₁, locs, cells, slots⟩ argsL.toArray q B ∧
      Steps p.tables e below (T.setTop g) ((B.U.setTop { g with stack := rest }).pushFrame (.throwing q))) := by
  obtain ⟨mk, hnamed⟩ := Cond.code_named hcode
  obtain ⟨methM, cM, hmethM, -, -, -, -, -, -, hsigM⟩ := Cond.code_spec hnamed hcode
  have hstatic : methM.isStatic = true := Cond.static_spec hnamed hmethM hstat
  obtain ⟨kP, hkP, -⟩ := className_of_methodNamed hnamed
  have hinitP : kP.init = .initialized := Cond.initialized_spec (findClass_of_methodNamed hnamed) hkP hinit
  obtain ⟨vm₁, X₁, hstep₁⟩ := X.invokestatic hexec hown hlink hnamed hmethM hstatic hkP hinitP hy (g := g) hg (argsL := argsL) (rest := rest) (hlen _ hsigM) hstack hdg
  rcases hK m meth c ⟨T.setVm vm₁, locs, cells, slots⟩ { g with stack := rest } (.invokestatic index) mk argsL.toArray X₁ hg hsize hdg hW (X₁.named hnamed) (hpre vm₁ X₁.warmed) with ⟨v, B, X', hpost, hsteps⟩ | ⟨q, B, X', hpost, hsteps⟩
  · exact Or.inl ⟨v, vm₁, B, X₁.warmed, X', hpost, fun target h => hstep₁ _ fun acts => by rw [doInvoke_state]; exact hsteps.trans h⟩
  · exact Or.inr ⟨q, vm₁, B, X₁.warmed, X', hpost, hstep₁ _ fun acts => by rw [doInvoke_state]; exact hsteps⟩
end Calls
theorem vx_cls {s : State} {T : State} {vm₁ : Vm} {E : String} {k : ClassId} (hW : s.WarmedH vm₁) (h : (T.setVm vm₁).vm.findClass E = some k) : s.vm.findClass E = some k := by
  have h1 : vm₁.findClass E = some k := h
  rw [hW.alike.findClass] at h1
  exact h1
/-- the method's frame g, with q thrown over it -/
def vx_W (p : Program) (l : Launch) (e : Env) (R : Room) (s : State) (m : MethodId) (args : Array Value) (below : List Frame) (meth : Method) (c : Code) (H : Heap) (locs : List Loc) (cells slots : Nat) (Q : State → Prop) (g : JFrame) (q : Addr) : Prop :=
  ∀ T : State, T.heap = H → Stand p l e R s m args below meth c T locs cells slots → ∃ t, Steps p.tables e below ((T.setTop g).pushFrame (.throwing q)) t ∧ Q t
def vx_Run (p : Program) (l : Launch) (e : Env) (R : Room) (s : State) (m : MethodId) (args : Array Value) (below : List Frame) (meth : Method) (c : Code) (H : Heap) (locs : List Loc) (cells slots mc ms : Nat) (g : JFrame) (rest : List Value) (Qa : State → Outcome → State → Prop) (XC : String → State → State → Prop) (free : Addr → Prop) : Prop :=
  ∀ T : State, T.heap = H → Stand p l e R s m args below meth c T locs cells slots →
    (∃ (v : Option Value) (st₀ t T' : State) (L : List Loc), st₀.heap = H ∧ Stand p l e R s m args below meth c T' (locs ++ L) (cells + mc) (slots + ms) ∧ (∀ q ∈ L, free q.base) ∧ T'.heap = t.heap ∧ T'.vm = t.vm ∧ Qa st₀ (.returned v) t ∧
      Goes p e below T g T' { g with pc := g.pc + 3, stack := v.toList ++ rest }) ∨
    (∃ (q : Addr) (st₀ t T' : State) (L : List Loc) (E : String) (ce : Cell), st₀.heap = H ∧ Stand p l e R s m args below meth c T' (locs ++ L) (cells + mc) (slots + ms) ∧ (∀ z ∈ L, free z.base) ∧ T'.heap = t.heap ∧ T'.vm = t.vm ∧ XC E st₀ t ∧ t.heap[q]? = some ce ∧ ce.vm = .none ∧ s.vm.findClass E = some ce.cls ∧
      Steps p.tables e below (T.setTop g) ((T'.setTop { g with stack := rest }).pushFrame (.throwing q)))
def vx_X {S : Type} (px : S → Prop) (B : String → S → State → Prop) (A : Nat → Prop) : String → State → State → Prop := fun E st t => ∃ u : S, px u ∧ B E u t ∧ va_F A st t
section Runs
variable {p : Program} {l : Launch} {e : Env} {R : Room} {s : State} {m : MethodId} {args : Array Value} {below : List Frame} {meth : Method} {c : Code} {H : Heap} {locs : List Loc} {cells slots : Nat}
variable {y : MethodName} {bytes cc : ByteArray} {maxL nL mc ms n index : Nat} {ret : Option FieldType} {ws : List Cond} {rm : Room} {Pc : Array Value → State → Prop} {Qc : Array Value → State → Outcome → State → Prop} {XC : String → State → State → Prop} {free : Addr → Prop} {Ts : List Cond} {own C : String} {b : Addr} {As rest : List Value} {g : JFrame}
theorem vx_callBack (cb : CallB R s args own index y bytes maxL ret ws rm mc ms n) (hM : vx_Met l y ws rm Pc Qc XC mc ms free) (hbl : FrameBlind Pc) : vx_Back l R p e below s args y 3 8 (PreOf R mc ms Pc) (PostOf Qc mc ms free) (vx_Post XC mc ms free) := by
  obtain ⟨hrc, hrs, hfr, hlo, hws, hcw, -, hini, -⟩ := cb
  exact vx_back (bytes := bytes) (maxL := maxL) (ret := ret) hM hbl hrc hrs hfr hlo hws hcw (fun a' U hW => word_at hW (Or.inl (by first | rfl | simp [Cond.onTables, Cond.keeps, Cond.steady])) hini)
theorem vx_runV (S : CallFix p m c cc nL s args Ts own) (hM : vx_Met l y ws rm Pc Qc XC mc ms free) (cw : CallW R s args own C index y bytes maxL ret ws rm mc ms n) (hp : PreV s H C b Pc As)
    (hg : g.method = m) (hn : As.length = n) (hsize : g.locals.size = nL) (hstack : g.stack = As.reverse ++ .ref b :: rest) (hW : 2 * g.monitorRoom + (rest.map fun v => v.category).sum ≤ 8) (hdg : decode cc g.pc = .ok (.invokevirtual index, 3)) (hf : cells + mc ≤ R.cells ∧ slots + ms ≤ R.slots) :
    vx_Run p l e R s m args below meth c H locs cells slots mc ms g rest (Qc (Value.ref b :: As).toArray) XC free := by
  have hK : vx_Back l R p e below s args y 3 8 (PreOf R mc ms Pc) (PostOf Qc mc ms free) (vx_Post XC mc ms free) := vx_callBack cw.1 hM hp.1
  obtain ⟨⟨-, -, -, -, -, -, hcode, -, hy, hlen, hl⟩, hin, hse⟩ := cw
  obtain ⟨hx, hb, hml, ho, -⟩ := S
  obtain ⟨-, ⟨cellB, hcB, hoB, hclB⟩, hPc⟩ := hp
  intro T hT X
  rcases vx_callV X hx (C := C) (bytes := bytes) (maxL := maxL) (ret := ret) ho hl hin hse hcode hy hK (by rw [hT]; exact hcB) hoB hclB hg (hsize.trans hml.symm) (argsL := As) (rest := rest) (fun sig h => hn.trans (hlen sig h)) hstack hW (by rw [hb]; exact hdg)
    (fun vm₁ hW₁ => ⟨hf.1, hf.2, hPc (T.setVm vm₁) hT hW₁⟩) with ⟨v, vm₁, ⟨U', l2, c2, s2⟩, hW₁, X', ⟨g', mk, t, L, e1, e2, hq, h1, hL, h2, h3⟩, st⟩ | ⟨q, vm₁, ⟨U', l2, c2, s2⟩, hW₁, X', ⟨g', mk, t, L, E, ce, e1, e2, hq, hce, hcv, hcl, h1, hL, h2, h3⟩, st⟩
  · dsimp only [Pt.U, Pt.locs, Pt.cells, Pt.slots] at X' e1 e2 h1 h2 h3 st
    subst h1; subst h2; subst h3
    exact Or.inl ⟨v, (T.setVm vm₁).calling g' mk (Value.ref b :: As).toArray, t, U', L, hT, X', hL, e1, e2, hq, st⟩
  · dsimp only [Pt.U, Pt.locs, Pt.cells, Pt.slots] at X' e1 e2 h1 h2 h3 st hcl
    subst h1; subst h2; subst h3
    exact Or.inr ⟨q, (T.setVm vm₁).calling g' mk (Value.ref b :: As).toArray, t, U', L, E, ce, hT, X', hL, e1, e2, hq, hce, hcv, vx_cls hW₁ hcl, st⟩
theorem vx_runS (S : CallFix p m c cc nL s args Ts own) (hM : vx_Met l y ws rm Pc Qc XC mc ms free) (cw : CallB R s args own index y bytes maxL ret ws rm mc ms n ∧ (Cond.static y).before args s = true) (hp : PreS s H Pc As)
    (hg : g.method = m) (hn : As.length = n) (hsize : g.locals.size = nL) (hstack : g.stack = As.reverse ++ rest) (hW : 2 * g.monitorRoom + (rest.map fun v => v.category).sum ≤ 8) (hdg : decode cc g.pc = .ok (.invokestatic index, 3)) (hf : cells + mc ≤ R.cells ∧ slots + ms ≤ R.slots) :
    vx_Run p l e R s m args below meth c H locs cells slots mc ms g rest (Qc As.toArray) XC free := by
  have hK : vx_Back l R p e below s args y 3 8 (PreOf R mc ms Pc) (PostOf Qc mc ms free) (vx_Post XC mc ms free) := vx_callBack cw.1 hM hp.1
  obtain ⟨⟨-, -, -, -, -, -, hcode, hini, hy, hlen, hl⟩, hstt⟩ := cw
  obtain ⟨hx, hb, hml, ho, -⟩ := S
  intro T hT X
  rcases vx_callS X hx (bytes := bytes) (maxL := maxL) (ret := ret) ho hl hstt hini hcode hy hK hg (hsize.trans hml.symm) (argsL := As) (rest := rest) (fun sig h => hn.trans (hlen sig h)) hstack hW (by rw [hb]; exact hdg)
    (fun vm₁ hW₁ => ⟨hf.1, hf.2, hp.2 (T.setVm vm₁) hT hW₁⟩) with ⟨v, vm₁, ⟨U', l2, c2, s2⟩, hW₁, X', ⟨g', mk, t, L, e1, e2, hq, h1, hL, h2, h3⟩, st⟩ | ⟨q, vm₁, ⟨U', l2, c2, s2⟩, hW₁, X', ⟨g', mk, t, L, E, ce, e1, e2, hq, hce, hcv, hcl, h1, hL, h2, h3⟩, st⟩
  · dsimp only [Pt.U, Pt.locs, Pt.cells, Pt.slots] at X' e1 e2 h1 h2 h3 st
    subst h1; subst h2; subst h3
    exact Or.inl ⟨v, (T.setVm vm₁).calling g' mk As.toArray, t, U', L, hT, X', hL, e1, e2, hq, st⟩
  · dsimp only [Pt.U, Pt.locs, Pt.cells, Pt.slots] at X' e1 e2 h1 h2 h3 st hcl
    subst h1; subst h2; subst h3
    exact Or.inr ⟨q, (T.setVm vm₁).calling g' mk As.toArray, t, U', L, E, ce, hT, X', hL, e1, e2, hq, hce, hcv, vx_cls hW₁ hcl, st⟩
end Runs
section Rows
variable {p : Program} {l : Launch} {e : Env} {R : Room} {s : State} {m : MethodId} {args : Array Value} {below : List Frame} {meth : Method} {c : Code} {H : Heap} {locs : List Loc} {cells slots : Nat} {Q : State → Prop}
variable {mc ms : Nat} {free : Addr → Prop} {A0 A1 : Nat → Prop} {H0 : Heap} {a : Array Value} {pc : Nat} {ls : Array Slot} {st0 rest : List Value}
theorem vx_keep {st₀ t T' : State} {L : List Loc} (h0 : st₀.heap = H) (e1 : T'.heap = t.heap) (hS : va_S A0 H0 H locs) (hA : ∀ q, q < H.size → A1 q → A0 q) (hf : ∀ q, free q → A0 q) (hL : ∀ q ∈ L, free q.base) (hF : va_F A1 st₀ t) :
    H.size ≤ T'.heap.size ∧ (∀ q : Nat, q < H.size → ¬ A1 q → T'.heap[q]? = H[q]?) ∧ va_S A0 H0 T'.heap (locs ++ L) := by
  obtain ⟨hz, hk⟩ := hF
  rw [h0] at hz hk
  exact ⟨by rw [e1]; exact hz, fun q h1 h2 => by rw [e1]; exact hk q h1 h2,
    ⟨Nat.le_trans hS.1 (by rw [e1]; exact hz), fun q h1 h2 => by rw [e1, hk q (Nat.lt_of_lt_of_le h1 hS.1) (fun z => h2 (hA q (Nat.lt_of_lt_of_le h1 hS.1) z))]; exact hS.2.1 q h1 h2, fun q hq => by
      rcases List.mem_append.mp hq with h | h
      · exact hS.2.2 q h
      · exact hf _ (hL q h)⟩⟩
theorem vx_calli {S SX : Type} {post : Int32 → S → Prop} {px : SX → Prop} {B : S → State → Prop} {BX : String → SX → State → Prop} {AX : Nat → Prop} (hr : vx_Run p l e R s m args below meth c H locs cells slots mc ms (F0 m pc ls st0) rest (va_Qi post B A1 a) (vx_X px BX AX) free) (hS : va_S A0 H0 H locs) (hA : ∀ q, q < H.size → A1 q → A0 q) (hf : ∀ q, free q → A0 q) (hAX : ∀ q, q < H.size → AX q → A0 q)
    (kx : ∀ (E : String) (ce : Cell) (q9 : Addr) (u : SX) (t : State) (H1 : Heap) (locs1 : List Loc), t.heap = H1 → s.vm.Alike t.vm → px u → BX E u t → H.size ≤ H1.size → (∀ q : Nat, q < H.size → ¬ AX q → H1[q]? = H[q]?) → va_S A0 H0 H1 locs1 → H1[q9]? = some ce → ce.vm = .none → s.vm.findClass E = some ce.cls → vx_W p l e R s m args below meth c H1 locs1 (cells + mc) (slots + ms) Q (F0 m pc ls rest) q9)
    (kk : ∀ (r : Int32) (u : S) (t : State) (H1 : Heap) (locs1 : List Loc), t.heap = H1 → s.vm.Alike t.vm → post r u → B u t → H.size ≤ H1.size → (∀ q : Nat, q < H.size → ¬ A1 q → H1[q]? = H[q]?) → va_S A0 H0 H1 locs1 → W p l e R s m args below meth c H1 locs1 (cells + mc) (slots + ms) Q (F0 m (pc + 3) ls (.int r :: rest))) : W p l e R s m args below meth c H locs cells slots Q (F0 m pc ls st0) := by
  intro T hT X
  rcases hr T hT X with ⟨v, st₀, t, T', L, h0, X', hL, e1, e2, ⟨⟨r, u, hv, hp, hb⟩, hF⟩, st⟩ | ⟨q, st₀, t, T', L, E, ce, h0, X', hL, e1, e2, ⟨u, hp, hb, hF⟩, hce, hcv, hcl, st⟩
  · cases hv
    obtain ⟨k1, k2, k3⟩ := vx_keep h0 e1 hS hA hf hL hF
    obtain ⟨t2, a1, b1⟩ := kk r u t T'.heap (locs ++ L) e1.symm (by rw [← e2]; exact X'.warmed.alike) hp hb k1 k2 k3 T' rfl X'
    exact ⟨t2, st t2 a1, b1⟩
  · obtain ⟨k1, k2, k3⟩ := vx_keep h0 e1 hS hAX hf hL hF
    obtain ⟨t2, a1, b1⟩ := kx E ce q u t T'.heap (locs ++ L) e1.symm (by rw [← e2]; exact X'.warmed.alike) hp hb k1 k2 k3 (by rw [e1]; exact hce) hcv hcl T' rfl X'
    exact ⟨t2, st.trans a1, b1⟩
theorem vx_calll {S SX : Type} {post : Int64 → S → Prop} {px : SX → Prop} {B : S → State → Prop} {BX : String → SX → State → Prop} {AX : Nat → Prop} (hr : vx_Run p l e R s m args below meth c H locs cells slots mc ms (F0 m pc ls st0) rest (va_Ql post B A1 a) (vx_X px BX AX) free) (hS : va_S A0 H0 H locs) (hA : ∀ q, q < H.size → A1 q → A0 q) (hf : ∀ q, free q → A0 q) (hAX : ∀ q, q < H.size → AX q → A0 q)
    (kx : ∀ (E : String) (ce : Cell) (q9 : Addr) (u : SX) (t : State) (H1 : Heap) (locs1 : List Loc), t.heap = H1 → s.vm.Alike t.vm → px u → BX E u t → H.size ≤ H1.size → (∀ q : Nat, q < H.size → ¬ AX q → H1[q]? = H[q]?) → va_S A0 H0 H1 locs1 → H1[q9]? = some ce → ce.vm = .none → s.vm.findClass E = some ce.cls → vx_W p l e R s m args below meth c H1 locs1 (cells + mc) (slots + ms) Q (F0 m pc ls rest) q9)
    (kk : ∀ (r : Int64) (u : S) (t : State) (H1 : Heap) (locs1 : List Loc), t.heap = H1 → s.vm.Alike t.vm → post r u → B u t → H.size ≤ H1.size → (∀ q : Nat, q < H.size → ¬ A1 q → H1[q]? = H[q]?) → va_S A0 H0 H1 locs1 → W p l e R s m args below meth c H1 locs1 (cells + mc) (slots + ms) Q (F0 m (pc + 3) ls (.long r :: rest))) : W p l e R s m args below meth c H locs cells slots Q (F0 m pc ls st0) := by
  intro T hT X
  rcases hr T hT X with ⟨v, st₀, t, T', L, h0, X', hL, e1, e2, ⟨⟨r, u, hv, hp, hb⟩, hF⟩, st⟩ | ⟨q, st₀, t, T', L, E, ce, h0, X', hL, e1, e2, ⟨u, hp, hb, hF⟩, hce, hcv, hcl, st⟩
  · cases hv
    obtain ⟨k1, k2, k3⟩ := vx_keep h0 e1 hS hA hf hL hF
    obtain ⟨t2, a1, b1⟩ := kk r u t T'.heap (locs ++ L) e1.symm (by rw [← e2]; exact X'.warmed.alike) hp hb k1 k2 k3 T' rfl X'
    exact ⟨t2, st t2 a1, b1⟩
  · obtain ⟨k1, k2, k3⟩ := vx_keep h0 e1 hS hAX hf hL hF
    obtain ⟨t2, a1, b1⟩ := kx E ce q u t T'.heap (locs ++ L) e1.symm (by rw [← e2]; exact X'.warmed.alike) hp hb k1 k2 k3 (by rw [e1]; exact hce) hcv hcl T' rfl X'
    exact ⟨t2, st.trans a1, b1⟩
theorem vx_callf {S SX : Type} {post : UInt32 → S → Prop} {px : SX → Prop} {B : S → State → Prop} {BX : String → SX → State → Prop} {AX : Nat → Prop} (hr : vx_Run p l e R s m args below meth c H locs cells slots mc ms (F0 m pc ls st0) rest (va_Qf post B A1 a) (vx_X px BX AX) free) (hS : va_S A0 H0 H locs) (hA : ∀ q, q < H.size → A1 q → A0 q) (hf : ∀ q, free q → A0 q) (hAX : ∀ q, q < H.size → AX q → A0 q)
    (kx : ∀ (E : String) (ce : Cell) (q9 : Addr) (u : SX) (t : State) (H1 : Heap) (locs1 : List Loc), t.heap = H1 → s.vm.Alike t.vm → px u → BX E u t → H.size ≤ H1.size → (∀ q : Nat, q < H.size → ¬ AX q → H1[q]? = H[q]?) → va_S A0 H0 H1 locs1 → H1[q9]? = some ce → ce.vm = .none → s.vm.findClass E = some ce.cls → vx_W p l e R s m args below meth c H1 locs1 (cells + mc) (slots + ms) Q (F0 m pc ls rest) q9)
    (kk : ∀ (r : UInt32) (u : S) (t : State) (H1 : Heap) (locs1 : List Loc), t.heap = H1 → s.vm.Alike t.vm → post r u → B u t → H.size ≤ H1.size → (∀ q : Nat, q < H.size → ¬ A1 q → H1[q]? = H[q]?) → va_S A0 H0 H1 locs1 → W p l e R s m args below meth c H1 locs1 (cells + mc) (slots + ms) Q (F0 m (pc + 3) ls (.float r :: rest))) : W p l e R s m args below meth c H locs cells slots Q (F0 m pc ls st0) := by
  intro T hT X
  rcases hr T hT X with ⟨v, st₀, t, T', L, h0, X', hL, e1, e2, ⟨⟨r, u, hv, hp, hb⟩, hF⟩, st⟩ | ⟨q, st₀, t, T', L, E, ce, h0, X', hL, e1, e2, ⟨u, hp, hb, hF⟩, hce, hcv, hcl, st⟩
  · cases hv
    obtain ⟨k1, k2, k3⟩ := vx_keep h0 e1 hS hA hf hL hF
    obtain ⟨t2, a1, b1⟩ := kk r u t T'.heap (locs ++ L) e1.symm (by rw [← e2]; exact X'.warmed.alike) hp hb k1 k2 k3 T' rfl X'
    exact ⟨t2, st t2 a1, b1⟩
  · obtain ⟨k1, k2, k3⟩ := vx_keep h0 e1 hS hAX hf hL hF
    obtain ⟨t2, a1, b1⟩ := kx E ce q u t T'.heap (locs ++ L) e1.symm (by rw [← e2]; exact X'.warmed.alike) hp hb k1 k2 k3 (by rw [e1]; exact hce) hcv hcl T' rfl X'
    exact ⟨t2, st.trans a1, b1⟩
theorem vx_calld {S SX : Type} {post : UInt64 → S → Prop} {px : SX → Prop} {B : S → State → Prop} {BX : String → SX → State → Prop} {AX : Nat → Prop} (hr : vx_Run p l e R s m args below meth c H locs cells slots mc ms (F0 m pc ls st0) rest (va_Qd post B A1 a) (vx_X px BX AX) free) (hS : va_S A0 H0 H locs) (hA : ∀ q, q < H.size → A1 q → A0 q) (hf : ∀ q, free q → A0 q) (hAX : ∀ q, q < H.size → AX q → A0 q)
    (kx : ∀ (E : String) (ce : Cell) (q9 : Addr) (u : SX) (t : State) (H1 : Heap) (locs1 : List Loc), t.heap = H1 → s.vm.Alike t.vm → px u → BX E u t → H.size ≤ H1.size → (∀ q : Nat, q < H.size → ¬ AX q → H1[q]? = H[q]?) → va_S A0 H0 H1 locs1 → H1[q9]? = some ce → ce.vm = .none → s.vm.findClass E = some ce.cls → vx_W p l e R s m args below meth c H1 locs1 (cells + mc) (slots + ms) Q (F0 m pc ls rest) q9)
    (kk : ∀ (r : UInt64) (u : S) (t : State) (H1 : Heap) (locs1 : List Loc), t.heap = H1 → s.vm.Alike t.vm → post r u → B u t → H.size ≤ H1.size → (∀ q : Nat, q < H.size → ¬ A1 q → H1[q]? = H[q]?) → va_S A0 H0 H1 locs1 → W p l e R s m args below meth c H1 locs1 (cells + mc) (slots + ms) Q (F0 m (pc + 3) ls (.double r :: rest))) : W p l e R s m args below meth c H locs cells slots Q (F0 m pc ls st0) := by
  intro T hT X
  rcases hr T hT X with ⟨v, st₀, t, T', L, h0, X', hL, e1, e2, ⟨⟨r, u, hv, hp, hb⟩, hF⟩, st⟩ | ⟨q, st₀, t, T', L, E, ce, h0, X', hL, e1, e2, ⟨u, hp, hb, hF⟩, hce, hcv, hcl, st⟩
  · cases hv
    obtain ⟨k1, k2, k3⟩ := vx_keep h0 e1 hS hA hf hL hF
    obtain ⟨t2, a1, b1⟩ := kk r u t T'.heap (locs ++ L) e1.symm (by rw [← e2]; exact X'.warmed.alike) hp hb k1 k2 k3 T' rfl X'
    exact ⟨t2, st t2 a1, b1⟩
  · obtain ⟨k1, k2, k3⟩ := vx_keep h0 e1 hS hAX hf hL hF
    obtain ⟨t2, a1, b1⟩ := kx E ce q u t T'.heap (locs ++ L) e1.symm (by rw [← e2]; exact X'.warmed.alike) hp hb k1 k2 k3 (by rw [e1]; exact hce) hcv hcl T' rfl X'
    exact ⟨t2, st.trans a1, b1⟩
theorem vx_callv {S SX : Type} {post : S → Prop} {px : SX → Prop} {B : S → State → Prop} {BX : String → SX → State → Prop} {AX : Nat → Prop} (hr : vx_Run p l e R s m args below meth c H locs cells slots mc ms (F0 m pc ls st0) rest (va_Qv post B A1 a) (vx_X px BX AX) free) (hS : va_S A0 H0 H locs) (hA : ∀ q, q < H.size → A1 q → A0 q) (hf : ∀ q, free q → A0 q) (hAX : ∀ q, q < H.size → AX q → A0 q)
    (kx : ∀ (E : String) (ce : Cell) (q9 : Addr) (u : SX) (t : State) (H1 : Heap) (locs1 : List Loc), t.heap = H1 → s.vm.Alike t.vm → px u → BX E u t → H.size ≤ H1.size → (∀ q : Nat, q < H.size → ¬ AX q → H1[q]? = H[q]?) → va_S A0 H0 H1 locs1 → H1[q9]? = some ce → ce.vm = .none → s.vm.findClass E = some ce.cls → vx_W p l e R s m args below meth c H1 locs1 (cells + mc) (slots + ms) Q (F0 m pc ls rest) q9)
    (kk : ∀ (u : S) (t : State) (H1 : Heap) (locs1 : List Loc), t.heap = H1 → s.vm.Alike t.vm → post u → B u t → H.size ≤ H1.size → (∀ q : Nat, q < H.size → ¬ A1 q → H1[q]? = H[q]?) → va_S A0 H0 H1 locs1 → W p l e R s m args below meth c H1 locs1 (cells + mc) (slots + ms) Q (F0 m (pc + 3) ls (rest))) : W p l e R s m args below meth c H locs cells slots Q (F0 m pc ls st0) := by
  intro T hT X
  rcases hr T hT X with ⟨v, st₀, t, T', L, h0, X', hL, e1, e2, ⟨⟨u, hv, hp, hb⟩, hF⟩, st⟩ | ⟨q, st₀, t, T', L, E, ce, h0, X', hL, e1, e2, ⟨u, hp, hb, hF⟩, hce, hcv, hcl, st⟩
  · cases hv
    obtain ⟨k1, k2, k3⟩ := vx_keep h0 e1 hS hA hf hL hF
    obtain ⟨t2, a1, b1⟩ := kk u t T'.heap (locs ++ L) e1.symm (by rw [← e2]; exact X'.warmed.alike) hp hb k1 k2 k3 T' rfl X'
    exact ⟨t2, st t2 a1, b1⟩
  · obtain ⟨k1, k2, k3⟩ := vx_keep h0 e1 hS hAX hf hL hF
    obtain ⟨t2, a1, b1⟩ := kx E ce q u t T'.heap (locs ++ L) e1.symm (by rw [← e2]; exact X'.warmed.alike) hp hb k1 k2 k3 (by rw [e1]; exact hce) hcv hcl T' rfl X'
    exact ⟨t2, st.trans a1, b1⟩
/-- caught by the row x of this method's table; the rows ahead don't take it -/
theorem vx_catch {own name : String} {E : String} {ce : Cell} {q : Addr} (hown : s.vm.findClass own = some m.cls) (pre : List ExceptionTableEntry) (x : ExceptionTableEntry) (suf : List ExceptionTableEntry) (hsplit : c.exceptionTable.toList = pre ++ x :: suf)
    (hpass : ∀ z ∈ pre, covers z pc = false ∨ (z.catchType ≠ 0 ∧ ∃ nm : String, (Cond.classLink own z.catchType nm).before args s = true ∧ va_Nc E nm s)) (hx : covers x pc = true) (h0 : x.catchType ≠ 0)
    (hlink : (Cond.classLink own x.catchType name).before args s = true) (hcast : (Cond.castable E name).before args s = true) (hcell : H[q]? = some ce) (hv : ce.vm = .none) (hcl : s.vm.findClass E = some ce.cls)
    (kk : W p l e R s m args below meth c H locs cells slots Q (F0 m x.handlerPc ls [.ref q])) : vx_W p l e R s m args below meth c H locs cells slots Q (F0 m pc ls rest) q := by
  intro T hT X
  have hpl : e.platform.magicAccessors = ({} : Platform).magicAccessors := by rw [X.admits.platform]
  obtain ⟨c3, c4, hc3, hc4, hasg⟩ := Cond.castable_spec hcast
  cases Option.some.inj (hc3.symm.trans hcl)
  obtain ⟨c5, hc5, hcl5⟩ := Cond.classLink_spec hown hlink e.platform hpl
  cases Option.some.inj (hc4.symm.trans hc5)
  obtain ⟨vm', X', st⟩ := X.thenCaughtThrough q (g := F0 m pc ls rest) rfl (Steps.refl _) (by rw [hT]; exact hcell) (by rw [hv]; rfl) (by obtain ⟨k9, h9, -⟩ := Vm.findClass_spec hcl; exact ⟨k9, h9⟩) pre x suf hsplit
    (fun z hz => by
      rcases hpass z hz with h | ⟨hz0, nm, hl1, hn1⟩
      · exact Or.inl h
      · obtain ⟨c6, hc6, hcl6⟩ := Cond.classLink_spec hown hl1 e.platform hpl
        obtain ⟨a8, b8, h1, h2, h3⟩ := hn1
        cases Option.some.inj (h1.symm.trans hcl)
        cases Option.some.inj (h2.symm.trans hc6)
        exact Or.inr ⟨hz0, _, hcl6, h3⟩) hx (Or.inr ⟨h0, c4, hcl5, hasg⟩)
  obtain ⟨t, a1, b1⟩ := kk (T.setVm vm') hT X'
  exact ⟨t, st.trans a1, b1⟩
end Rows
section Ends
variable {p : Program} {l : Launch} {e : Env} {R : Room} {s : State} {m : MethodId} {args : Array Value} {below : List Frame} {meth : Method} {c : Code} {H : Heap} {locs : List Loc} {cells slots : Nat} {Q : State → Prop}
variable {mc ms : Nat} {free : Addr → Prop} {A0 A1 : Nat → Prop} {H0 : Heap} {a : Array Value} {ls : Array Slot} {st0 rest : List Value}
variable {Qc : Array Value → State → Outcome → State → Prop} {XC : String → State → State → Prop}
/-- what a body that may throw owes at its end -/
def vx_MQ (below : List Frame) (Qc : Array Value → State → Outcome → State → Prop) (XC : String → State → State → Prop) (a : Array Value) (s : State) (mc ms : Nat) (free : Addr → Prop) : State → Prop := fun t =>
  ∃ o, t.status = .running ∧ Ended t below o ∧ vx_Q Qc XC mc ms free a s o t
theorem vx_ret {g : JFrame} {mc ms : Nat} (k : W p l e R s m args below meth c H locs cells slots (MQ below Qc args s mc ms free) g) : W p l e R s m args below meth c H locs cells slots (vx_MQ below Qc XC args s mc ms free) g := by
  intro T hT X
  obtain ⟨t, a1, o, b1, b2, b3, b4⟩ := k T hT X
  exact ⟨t, a1, o, b1, b2, Or.inl ⟨b3, b4⟩⟩
/-- not caught here: it goes on to the caller -/
theorem vx_widen {g : JFrame} {q : Addr} {k n : Nat} (h1 : cells ≤ k) (h2 : slots ≤ n) (kk : vx_W p l e R s m args below meth c H locs k n Q g q) : vx_W p l e R s m args below meth c H locs cells slots Q g q := fun T hT X => kk T hT (stand_widen X h1 h2)
theorem vx_out {pc : Nat} {E : String} {ce : Cell} {q : Addr} {mc ms : Nat} (hout : ∀ x ∈ c.exceptionTable.toList, covers x pc = false) (hlocks : meth.locks = false) (hcell : H[q]? = some ce) (hv : ce.vm = .none) (hcl : s.vm.findClass E = some ce.cls)
    (hx : ∀ t : State, t.heap = H → s.vm.Alike t.vm → XC E s t) (hf : ∀ z ∈ locs, free z.base) (hc : cells ≤ mc) (hs : slots ≤ ms) :
    vx_W p l e R s m args below meth c H locs cells slots (vx_MQ below Qc XC args s mc ms free) (F0 m pc ls rest) q := by
  intro T hT X
  obtain ⟨st1, hrun, hend, hW, hsm⟩ := X.leaveThrown q (g := F0 m pc ls rest) rfl rfl rfl hout hlocks
  have hcell9 : (T.setFrames (.throwing q :: below)).heap[q]? = some ce := by
    show T.heap[q]? = some ce
    rw [hT]; exact hcell
  exact ⟨_, st1, .threw q, hrun, hend, Or.inr ⟨q, rfl, E, ce, locs, hx _ hT hW.alike, hcell9, hv, hcl, hW, hsm.mono hc hs, hf⟩⟩
theorem vx_frame {U : State} {k n : Nat} (h : s.sameButNew ({ U with vm := s.vm } : State) locs k n) : s.heap.size ≤ U.heap.size ∧ ∀ q : Nat, q < s.heap.size → (∀ z ∈ locs, z.base ≠ q) → U.heap[q]? = s.heap[q]? := by
  obtain ⟨-, h2, -, -, -, h6⟩ := h
  refine ⟨h2, fun q hq hz => ?_⟩
  obtain ⟨c9, e1, e2, e3, e4⟩ := h6 q _ (Array.getElem?_eq_getElem hq)
  have hs : c9.slots = (s.heap[q]).slots := Array.ext_getElem? fun i => e4 i fun hm => hz _ hm rfl
  have h9 : c9 = s.heap[q] := by
    rw [hs] at e2
    exact e2
  have e5 : U.heap[q]? = some c9 := e1
  rw [e5, h9, Array.getElem?_eq_getElem hq]
/-- the words of a throw but the four that speak of the heap -/
def vx_no (w : Cond) : Bool := decide (w ≠ .isRef (.static Bundle.tN "UNASSIGNED_STACK" Bundle.steD)) && decide (w ≠ .isRef (.static Bundle.tN "SUPPRESSED_SENTINEL" Bundle.listD)) && decide (w ≠ .laysStatic Bundle.tN "UNASSIGNED_STACK" Bundle.steD) && decide (w ≠ .laysStatic Bundle.tN "SUPPRESSED_SENTINEL" Bundle.listD)
def vx_at0 (own : String) (ic : Nat) (X : String) (names : List String) : List Cond := (Bundle.ownAtoms0 own ic X names).filter vx_no
def vx_atS (own : String) (ic : Nat) (X : String) (names : List String) : List Cond := (Bundle.ownAtoms own ic X names).filter vx_no
/-- a word that the tables alone decide, or a good one -/
def vx_ot (w : Cond) : Bool := w.onTables || goodWord w
theorem vx_ot_at {args a' : Array Value} {s U : State} {w : Cond} (hW : s.WarmedH U.vm) (hvm : s.vm = U.vm) (hg : vx_ot w = true) (h : w.before args s = true) : w.before a' U = true := by
  simp only [vx_ot, Bool.or_eq_true] at hg
  rcases hg with hg | hg
  · exact va_tabs hg hvm h
  · exact word_at hW (good_of_word hg) h
/-- a list's words: the good ones out of the method's own list, the others by premises of their own -/
theorem vx_hat {args : Array Value} {s : State} {L B : List Cond} (h1 : ∀ w ∈ L.filter goodWord, w.before args s = true) (h2 : ∀ w ∈ L.filter (fun w => !goodWord w), w ∈ B) (h3 : ∀ w ∈ B, w.before args s = true) : ∀ w ∈ L, w.before args s = true := by
  intro w hw
  by_cases g : goodWord w = true
  · exact h1 w (List.mem_filter.mpr ⟨hw, g⟩)
  · refine h3 w (h2 w (List.mem_filter.mpr ⟨hw, ?_⟩))
    show (!goodWord w) = true
    cases hgw : goodWord w
    · rfl
    · exact absurd hgw g
theorem vx_c {args : Array Value} {s : State} {w : Cond} {B : List Cond} (h : w.before args s = true) (t : ∀ w ∈ B, w.before args s = true) : ∀ w' ∈ w :: B, w'.before args s = true := fun w' h' => (List.mem_cons.mp h').elim (fun e => by rw [e]; exact h) (t w')
theorem vx_n {args : Array Value} {s : State} : ∀ w ∈ ([] : List Cond), w.before args s = true := fun _ h => nomatch h
theorem vx_own {args : Array Value} {s : State} {L : List Cond} (h1 : ∀ w ∈ L.filter vx_no, w.before args s = true)
    (hU : (Cond.isRef (.static Bundle.tN "UNASSIGNED_STACK" Bundle.steD)).before args s = true) (hN : (Cond.isRef (.static Bundle.tN "SUPPRESSED_SENTINEL" Bundle.listD)).before args s = true)
    (lU : (Cond.laysStatic Bundle.tN "UNASSIGNED_STACK" Bundle.steD).before args s = true) (lN : (Cond.laysStatic Bundle.tN "SUPPRESSED_SENTINEL" Bundle.listD).before args s = true) : ∀ w ∈ L, w.before args s = true := by
  intro w hw
  by_cases e1 : w = .isRef (.static Bundle.tN "UNASSIGNED_STACK" Bundle.steD)
  · rw [e1]; exact hU
  · by_cases e2 : w = .isRef (.static Bundle.tN "SUPPRESSED_SENTINEL" Bundle.listD)
    · rw [e2]; exact hN
    · by_cases e3 : w = .laysStatic Bundle.tN "UNASSIGNED_STACK" Bundle.steD
      · rw [e3]; exact lU
      · by_cases e4 : w = .laysStatic Bundle.tN "SUPPRESSED_SENTINEL" Bundle.listD
        · rw [e4]; exact lN
        · exact h1 w (List.mem_filter.mpr ⟨hw, by unfold vx_no; rw [decide_eq_true e1, decide_eq_true e2, decide_eq_true e3, decide_eq_true e4]; rfl⟩)
/-- where a static field lies, its class's statics cell in H -/
def vx_L (C n d : String) (A : Nat → Prop) (U : State) (H : Heap) : Prop := ∃ (c : ClassId) (k : Class) (i : Nat) (f : Field) (a : Nat) (cell : Cell), U.vm.findClass C = some c ∧ U.fieldFound? C n d = some (c, k, i, f) ∧ f.isStatic = true ∧ k.statics = some a ∧ H[a]? = some cell ∧ cell.vm.isStatics = true ∧ cell.cls = c ∧ f.slot < cell.slots.size ∧ k.staticTypes[f.slot]? = some f.type ∧ ¬ A a
theorem vx_L.moved {C n d : String} {A : Nat → Prop} {u U : State} {H : Heap} (hvm : u.vm.Alike U.vm) (h : vx_L C n d A u H) : vx_L C n d A U H := by
  obtain ⟨c, k, i, f, a, cell, h1, h2, h3, h4, h5, h6, h7, h8, h9, h10⟩ := h
  obtain ⟨k', hi', he⟩ := State.fieldFound?_setVm hvm h2
  exact ⟨c, k', i, f, a, cell, by rw [hvm.findClass]; exact h1, hi', h3, by rw [he]; exact h4, h5, h6, h7, h8, by rw [he]; exact h9, h10⟩
theorem vx_L.kept {C n d : String} {A : Nat → Prop} {U : State} {H H1 : Heap} (h : vx_L C n d A U H) (hq : ∀ a : Nat, a < H.size → ¬ A a → H1[a]? = H[a]?) : vx_L C n d A U H1 := by
  obtain ⟨c, k, i, f, a, cell, h1, h2, h3, h4, h5, h6, h7, h8, h9, h10⟩ := h
  exact ⟨c, k, i, f, a, cell, h1, h2, h3, h4, by rw [hq a (Array.getElem?_eq_some_iff.mp h5).1 h10]; exact h5, h6, h7, h8, h9, h10⟩
theorem vx_L.narrow {C n d : String} {A B : Nat → Prop} {U : State} {H : Heap} (h : vx_L C n d A U H) (hAB : ∀ q, B q → A q) : vx_L C n d B U H := by
  obtain ⟨c, k, i, f, a, cell, h1, h2, h3, h4, h5, h6, h7, h8, h9, h10⟩ := h
  exact ⟨c, k, i, f, a, cell, h1, h2, h3, h4, h5, h6, h7, h8, h9, fun z => h10 (hAB _ z)⟩
theorem vx_L.word {C n d : String} {A : Nat → Prop} {s : State} {args : Array Value} (h : vx_L C n d A s s.heap) : (Cond.laysStatic C n d).before args s = true := by
  obtain ⟨c, k, i, f, a, cell, h1, h2, h3, h4, h5, h6, h7, h8, h9, -⟩ := h
  show (Cond.laysStatic C n d).holds args s none s [] = true
  exact Cond.laysStatic_of h1 h2 h3 h4 h5 h6 h7 h8 h9
/-- .. and what it holds: null or some reference -/
def vx_Zq (C n d : String) (A : Nat → Prop) (U : State) (H : Heap) : Prop := va_Zq C n d A U H ∧ vx_L C n d A U H
theorem vx_Zq.moved {C n d : String} {A : Nat → Prop} {u U : State} {H : Heap} (hvm : u.vm.Alike U.vm) (h : vx_Zq C n d A u H) : vx_Zq C n d A U H := ⟨va_Zq.moved hvm h.1, vx_L.moved hvm h.2⟩
theorem vx_Zq.kept {C n d : String} {A : Nat → Prop} {U : State} {H H1 : Heap} (h : vx_Zq C n d A U H) (hq : ∀ a : Nat, a < H.size → ¬ A a → H1[a]? = H[a]?) : vx_Zq C n d A U H1 := ⟨va_Zq.kept h.1 hq, vx_L.kept h.2 hq⟩
theorem vx_Zq.narrow {C n d : String} {A B : Nat → Prop} {U : State} {H : Heap} (h : vx_Zq C n d A U H) (hAB : ∀ q, B q → A q) : vx_Zq C n d B U H := ⟨va_Zq.narrow h.1 hAB, vx_L.narrow h.2 hAB⟩
theorem vx_Zqof {args : Array Value} {s : State} {C n d : String} {A : Nat → Prop} (hl : (Cond.laysStatic C n d).before args s = true) (hini : (Cond.initialized C).before args s = true) (h : (Cond.isRef (.static C n d)).before args s = true) (hA : ∀ a : Nat, a < s.heap.size → ¬ A a) : vx_Zq C n d A s s.heap := by
  refine ⟨va_Zqof hl hini h hA, ?_⟩
  obtain ⟨c, k, i, f, a, cell, h1, h2, h3, h4, h5, h6, h7, h8, h9⟩ := Cond.laysStatic_spec hl
  exact ⟨c, k, i, f, a, cell, h1, h2, h3, h4, h5, h6, h7, h8, h9, hA a (Array.getElem?_eq_some_iff.mp h5).1⟩
theorem vx_isRef {C n d : String} {v : Value} {A : Nat → Prop} {s : State} {args : Array Value} (h : va_Z C n d v A s s.heap) (hv : v.isRef = true) : (Cond.isRef (.static C n d)).before args s = true := by
  obtain ⟨cf, kf, fi, f, a, cell, h1, h2, h3, h4, h5, h6, h7, -⟩ := h
  have he : (Term.static C n d).eval args s none [] s = some v := by
    simp [Term.eval, State.fieldNamed?, h1, h2, h4, h5, h6, h7]
  simp only [Cond.before, Cond.holds, Cond.value, he]
  cases v <;> simp_all [Value.isRef]
theorem vx_isRefq {C n d : String} {A : Nat → Prop} {s : State} {args : Array Value} (h : va_Zq C n d A s s.heap) : (Cond.isRef (.static C n d)).before args s = true := by
  rcases h with h | ⟨t, h⟩
  · exact vx_isRef h rfl
  · exact vx_isRef h rfl
/-- the same frame, seen from here: as if the method were called anew in this heap -/
theorem vx_rebase {T : State} (X : Stand p l e R s m args below meth c T locs cells slots) {R' : Room} (hf : R'.frames ≤ R.frames) (hl : R'.locals ≤ R.locals) (hc : cells + R'.cells ≤ R.cells) (hs : slots + R'.slots ≤ R.slots) :
    Stand p l e R' ((T.setVm s.vm).setFrames (.invoking m args :: below)) m args below meth c T [] 0 0 := by
  have htop : (T.setVm s.vm).topJava?.isSome := X.here.top
  have hF : ((T.setVm s.vm).setFrames (.invoking m args :: below)).frames = .invoking m args :: below := State.frames_setFrames _ (State.cur_lt_of_top htop)
  obtain ⟨g₀, hg0⟩ := Option.isSome_iff_exists.mp htop
  obtain ⟨r, hr⟩ := State.topJava?_eq_some.mp hg0
  have hl9 : e.platform.stackLimits (T.setVm s.vm).me = e.platform.stackLimits s.me := X.limits
  have hb9 : (T.setVm s.vm).me.stackBytes = s.me.stackBytes := X.bytes
  refine ⟨X.admits, X.cas, X.clock, hF, ?_, X.hears, X.method, X.code, X.here, X.tail, X.warmed, ?_, ?_, ?_⟩
  · have h := X.room
    have hU : ((T.setVm s.vm).setFrames (.invoking m args :: below)).localsInUse = s.localsInUse := by
      rw [State.localsInUse_invoking hF (meth := meth) (c := c) X.method X.code, State.localsInUse_invoking X.frames X.method X.code]
    simp only [State.hasRoom, Bool.and_eq_true, decide_eq_true_eq] at h ⊢
    obtain ⟨⟨⟨⟨h1, h2, h3, h4, h5, h6⟩, h7⟩, h8⟩, h9⟩ := h
    rw [X.frames, List.length_cons] at h2 h3
    have q1 := X.heapSize
    have q2 := X.used
    simp only [hF, hU, List.length_cons, State.stackLimits_setFrames, State.stackBytes_setFrames, hl9, hb9]
    refine ⟨⟨⟨⟨by omega, by omega, by omega, by omega, by omega, h6⟩, ?_⟩, ?_⟩, X.book⟩
    · show T.heap.size + R'.cells ≤ e.platform.maxCells
      omega
    · show T.slotsUsed + R'.slots ≤ e.platform.maxSlots
      omega
  · rw [State.stackLimits_setFrames]; rfl
  · rw [State.stackBytes_setFrames]; rfl
  · refine ⟨?_, Nat.le_refl _, Nat.le_refl _, ?_, ?_, fun a c9 h9 => ⟨c9, h9, rfl, rfl, fun _ _ => rfl⟩⟩
    · obtain ⟨t, ht, -⟩ := State.frames_cons hr
      show T.setVm s.vm = { ((T.setVm s.vm).setFrames (.invoking m args :: below)).setFrames (T.setVm s.vm).frames with heap := T.heap, slotsUsed := T.slotsUsed }
      rw [State.setFrames_setFrames, State.setFrames_self ht]
      rfl
    · show T.slotsUsed = T.slotsUsed + ((T.heap.toList.drop T.heap.size).map (·.slots.size)).sum
      rw [List.drop_eq_nil_of_le (Nat.le_of_eq Array.length_toList)]
      rfl
    · show ((T.heap.toList.drop T.heap.size).map (·.slots.size)).sum ≤ 0
      rw [List.drop_eq_nil_of_le (Nat.le_of_eq Array.length_toList)]
      exact Nat.le_refl _
/-- 'throw new E()': new; dup; invokespecial; athrow -/
theorem vx_throw0 {cc : ByteArray} {pc : Nat} (hexec : p.tables.exec = Jvm.exec) (hb : c.code = cc) (hl : l.stackTraces = false) {own cls : String} {names : List String} {ik ic mc ms : Nat} {A : Nat → Prop}
    (hown : s.vm.findClass own = some m.cls) (hcls : Bundle.fit cls = true) (hnames : ∀ n ∈ names, Bundle.fit n = true)
    (hk : (Cond.classLink own ik cls).before args s = true) (hini : (Cond.initialized cls).before args s = true) (hat : ∀ w ∈ vx_at0 own ic cls names, w.before args s = true)
    (hgood : ∀ w ∈ Cond.classLink own ik cls :: Cond.initialized cls :: vx_at0 own ic cls names, vx_ot w = true)
    (hU : vx_Zq Bundle.tN "UNASSIGNED_STACK" Bundle.steD A s s.heap) (hN : vx_Zq Bundle.tN "SUPPRESSED_SENTINEL" Bundle.listD A s s.heap) (hS : va_S A s.heap H locs) (hsize : ls.size = c.maxLocals)
    (d0 : decode cc pc = .ok (.new ik, 3)) (d3 : decode cc (pc + 3) = .ok (.dup, 1)) (d4 : decode cc (pc + 4) = .ok (.invokespecial ic, 3)) (d7 : decode cc (pc + 7) = .ok (.athrow, 1))
    (hout : ∀ x ∈ c.exceptionTable.toList, covers x (pc + 7) = false)
    (hRframes : names.length + 3 < R.frames) (hRlocals : (rest.map fun v => v.category).sum + (13 * (names.length + 1) + 42) ≤ R.locals) (hRcells : cells + 1 ≤ R.cells) (hRslots : slots + 6 ≤ R.slots) (hlocks : meth.locks = false)
    (hx : ∀ t : State, s.vm.Alike t.vm → H.size ≤ t.heap.size → (∀ q : Nat, q < H.size → t.heap[q]? = H[q]?) → XC cls s t)
    (hf : ∀ z ∈ locs, free z.base) (hc : cells + 1 ≤ mc) (hs : slots + 6 ≤ ms) :
    W p l e R s m args below meth c H locs cells slots (vx_MQ below Qc XC args s mc ms free) (F0 m pc ls rest) := by
  intro T hT X
  have htr : e.platform.stackTraces = false := (show e.platform.stackTraces = l.stackTraces by rw [X.admits.platform]).trans hl
  have Y := vx_rebase X (R' := { frames := R.frames, locals := R.locals, cells := 1, slots := 6 }) (Nat.le_refl _) (Nat.le_refl _) hRcells hRslots
  obtain ⟨s', hA⟩ : ∃ z, z = (T.setVm s.vm).setFrames (.invoking m args :: below) := ⟨_, rfl⟩
  rw [← hA] at Y
  have hvm : s'.vm = s.vm := by rw [hA]; rfl
  have hhp : s'.heap = H := by rw [hA]; exact hT
  have hW0 : s.WarmedH s'.vm := by rw [hvm]; exact State.WarmedH.refl s
  have hat' : ∀ w ∈ vx_at0 own ic cls names, w.before args s' = true := fun w hw => vx_ot_at hW0 hvm.symm (hgood w (List.mem_cons_of_mem _ (List.mem_cons_of_mem _ hw))) (hat w hw)
  have hk' : (Cond.classLink own ik cls).before args s' = true := vx_ot_at hW0 hvm.symm (hgood _ List.mem_cons_self) hk
  have hini' : (Cond.initialized cls).before args s' = true := vx_ot_at hW0 hvm.symm (hgood _ (List.mem_cons_of_mem _ List.mem_cons_self)) hini
  have hU' : vx_Zq Bundle.tN "UNASSIGNED_STACK" Bundle.steD A s' s'.heap := by rw [hhp]; exact vx_Zq.moved hW0.alike (hU.kept hS.2.1)
  have hN' : vx_Zq Bundle.tN "SUPPRESSED_SENTINEL" Bundle.listD A s' s'.heap := by rw [hhp]; exact vx_Zq.moved hW0.alike (hN.kept hS.2.1)
  have h : ∀ w ∈ Bundle.ownAtoms0 own ic cls names, w.before args s' = true := vx_own hat' (vx_isRefq hU'.1) (vx_isRefq hN'.1) hU'.2.word hN'.2.word
  have hown' : s'.vm.findClass own = some m.cls := by rw [hvm]; exact hown
  have hins : (Cond.instantiable cls 6).before args s' = true := h _ (by simp [Bundle.ownAtoms0])
  obtain ⟨vm₁, cX, kX, hfX, hkX, -, -, X₁, st1⟩ := Y.newCold hexec (own := own) (C := cls) (index := ik) (n := 6) hown' hk' hins hini'
    (g := F0 m pc ls rest) rfl (by rw [hb]; exact d0) (Nat.le_refl _) (Nat.le_refl _)
  generalize hT1 : (T.setVm vm₁).pushCell { cls := cX, slots := kX.instanceTypes.map defaultValue, vm := .none } = T1 at X₁ st1
  have hcat : (Value.ref T.heap.size).category = 1 := rfl
  have hcellA : T1.heap[T.heap.size]? = some (freshCell cX kX) := by rw [← hT1]; exact State.heap_pushCell_size _ _
  have d3' : decode c.code (pc + 3) = .ok (.dup, 1) := by rw [hb]; exact d3
  obtain ⟨U, hsteps, hrun, hend, hW, hsame, ce, hce, hO⟩ := X₁.ctorThrow0 hexec htr (own := own) (cls := cls) (names := names) (ic := ic) hown' hcls hnames h (fun x hx => nomatch hx) hfX hkX hcellA (by rw [hhp, hT]; exact Nat.le_refl _)
    (g := { method := m, pc := pc + 4, locals := ls, stack := .ref T.heap.size :: .ref T.heap.size :: rest, locked := none }) rfl hsize rfl rfl (rest := rest) rfl
    (by rw [hb]; exact d4) (by rw [hb]; exact d7) hout hRframes (by simp only [List.map_cons, List.sum_cons, hcat]; omega) hlocks
  obtain ⟨f1, f2⟩ := vx_frame hsame
  rw [hhp] at f1 f2
  have hWs : s.WarmedH U.vm := State.WarmedH.trans hW0 hW
  have hcl : s.vm.findClass cls = some ce.cls := by
    have h9 := hO.cls
    rw [hvm] at h9
    exact h9
  have hall : s.sameButNew ({ U with vm := s.vm } : State) locs mc ms := by
    subst hA
    obtain ⟨e1, e2⟩ := hsame
    rw [State.setFrames_setFrames] at e1
    have h2 : (T.setVm s.vm).sameButNew ({ U with vm := s.vm } : State) [] (0 + 1) (0 + 6) := ⟨e1, e2⟩
    have h3 := X.same.trans h2
    rw [List.append_nil] at h3
    exact h3.mono hc hs
  refine ⟨U, ?_, .threw T.heap.size, hrun, hend, Or.inr ⟨T.heap.size, rfl, cls, ce, locs, hx U hWs.alike f1 (fun q hq => f2 q hq (fun z hz => nomatch hz)), hce, hO.vm, hcl, hWs, hall, hf⟩⟩
  refine st1 _ ?_
  show Steps p.tables e below (T1.setTop { method := m, pc := pc + 3, locals := ls, stack := .ref T.heap.size :: rest, locked := none }) _
  jvm_step X₁.here [X₁.here.top, hexec, d3', Value.category]
  exact hsteps
/-- 'throw new E("text")': new; dup; ldc; invokespecial; athrow -/
theorem vx_throwS {cc : ByteArray} {pc : Nat} (hexec : p.tables.exec = Jvm.exec) (hb : c.code = cc) (hl : l.stackTraces = false) {own cls text : String} {names : List String} {ik is ic mc ms sa : Nat} {A : Nat → Prop}
    (hown : s.vm.findClass own = some m.cls) (hcls : Bundle.fit cls = true) (hnames : ∀ n ∈ names, Bundle.fit n = true)
    (hk : (Cond.classLink own ik cls).before args s = true) (hini : (Cond.initialized cls).before args s = true) (hstr : vk_R own is text sa s) (hat : ∀ w ∈ vx_atS own ic cls names, w.before args s = true)
    (hgood : ∀ w ∈ Cond.classLink own ik cls :: Cond.initialized cls :: vx_atS own ic cls names, vx_ot w = true)
    (hU : vx_Zq Bundle.tN "UNASSIGNED_STACK" Bundle.steD A s s.heap) (hN : vx_Zq Bundle.tN "SUPPRESSED_SENTINEL" Bundle.listD A s s.heap) (hS : va_S A s.heap H locs) (hsize : ls.size = c.maxLocals)
    (d0 : decode cc pc = .ok (.new ik, 3)) (d3 : decode cc (pc + 3) = .ok (.dup, 1)) (d4 : decode cc (pc + 4) = .ok (.ldc is, 2)) (d6 : decode cc (pc + 6) = .ok (.invokespecial ic, 3)) (d9 : decode cc (pc + 9) = .ok (.athrow, 1))
    (hout : ∀ x ∈ c.exceptionTable.toList, covers x (pc + 9) = false)
    (hRframes : names.length + 3 < R.frames) (hRlocals : (rest.map fun v => v.category).sum + (13 * (names.length + 1) + 43) ≤ R.locals) (hRcells : cells + 1 ≤ R.cells) (hRslots : slots + 6 ≤ R.slots) (hlocks : meth.locks = false)
    (hx : ∀ t : State, s.vm.Alike t.vm → H.size ≤ t.heap.size → (∀ q : Nat, q < H.size → t.heap[q]? = H[q]?) → XC cls s t)
    (hf : ∀ z ∈ locs, free z.base) (hc : cells + 1 ≤ mc) (hs : slots + 6 ≤ ms) :
    W p l e R s m args below meth c H locs cells slots (vx_MQ below Qc XC args s mc ms free) (F0 m pc ls rest) := by
  intro T hT X
  have htr : e.platform.stackTraces = false := (show e.platform.stackTraces = l.stackTraces by rw [X.admits.platform]).trans hl
  have Y := vx_rebase X (R' := { frames := R.frames, locals := R.locals, cells := 1, slots := 6 }) (Nat.le_refl _) (Nat.le_refl _) hRcells hRslots
  obtain ⟨s', hA⟩ : ∃ z, z = (T.setVm s.vm).setFrames (.invoking m args :: below) := ⟨_, rfl⟩
  rw [← hA] at Y
  have hvm : s'.vm = s.vm := by rw [hA]; rfl
  have hhp : s'.heap = H := by rw [hA]; exact hT
  have hW0 : s.WarmedH s'.vm := by rw [hvm]; exact State.WarmedH.refl s
  have hat' : ∀ w ∈ vx_atS own ic cls names, w.before args s' = true := fun w hw => vx_ot_at hW0 hvm.symm (hgood w (List.mem_cons_of_mem _ (List.mem_cons_of_mem _ hw))) (hat w hw)
  have hk' : (Cond.classLink own ik cls).before args s' = true := vx_ot_at hW0 hvm.symm (hgood _ List.mem_cons_self) hk
  have hini' : (Cond.initialized cls).before args s' = true := vx_ot_at hW0 hvm.symm (hgood _ (List.mem_cons_of_mem _ List.mem_cons_self)) hini
  have hU' : vx_Zq Bundle.tN "UNASSIGNED_STACK" Bundle.steD A s' s'.heap := by rw [hhp]; exact vx_Zq.moved hW0.alike (hU.kept hS.2.1)
  have hN' : vx_Zq Bundle.tN "SUPPRESSED_SENTINEL" Bundle.listD A s' s'.heap := by rw [hhp]; exact vx_Zq.moved hW0.alike (hN.kept hS.2.1)
  have h : ∀ w ∈ Bundle.ownAtoms own ic cls names, w.before args s' = true := vx_own hat' (vx_isRefq hU'.1) (vx_isRefq hN'.1) hU'.2.word hN'.2.word
  have hown' : s'.vm.findClass own = some m.cls := by rw [hvm]; exact hown
  have hins : (Cond.instantiable cls 6).before args s' = true := h _ (by simp [Bundle.ownAtoms])
  obtain ⟨vm₁, cX, kX, hfX, hkX, -, -, X₁, st1⟩ := Y.newCold hexec (own := own) (C := cls) (index := ik) (n := 6) hown' hk' hins hini'
    (g := F0 m pc ls rest) rfl (by rw [hb]; exact d0) (Nat.le_refl _) (Nat.le_refl _)
  generalize hT1 : (T.setVm vm₁).pushCell { cls := cX, slots := kX.instanceTypes.map defaultValue, vm := .none } = T1 at X₁ st1
  have hcat : (Value.ref T.heap.size).category = 1 := rfl
  have hcellA : T1.heap[T.heap.size]? = some (freshCell cX kX) := by rw [← hT1]; exact State.heap_pushCell_size _ _
  have d3' : decode c.code (pc + 3) = .ok (.dup, 1) := by rw [hb]; exact d3
  have d4' : decode c.code (pc + 4) = .ok (.ldc is, 2) := by rw [hb]; exact d4
  have hstr' : vk_R own is text sa s' := vk_R.warm hW0 hstr
  obtain ⟨U, hsteps, hrun, hend, hW, hsame, ce, hce, hO⟩ := X₁.ctorThrowS hexec htr (own := own) (cls := cls) (names := names) (ic := ic) hown' hcls hnames h (fun x hx => nomatch hx) hfX hkX hcellA (by rw [hhp, hT]; exact Nat.le_refl _) (msg := .ref sa) rfl
    (g := { method := m, pc := pc + 6, locals := ls, stack := .ref sa :: .ref T.heap.size :: .ref T.heap.size :: rest, locked := none }) rfl hsize rfl rfl (rest := rest) rfl
    (by rw [hb]; exact d6) (by rw [hb]; exact d9) hout hRframes (by simp only [List.map_cons, List.sum_cons, hcat]; omega) hlocks
  obtain ⟨f1, f2⟩ := vx_frame hsame
  rw [hhp] at f1 f2
  have hWs : s.WarmedH U.vm := State.WarmedH.trans hW0 hW
  have hcl : s.vm.findClass cls = some ce.cls := by
    have h9 := hO.cls
    rw [hvm] at h9
    exact h9
  have hall : s.sameButNew ({ U with vm := s.vm } : State) locs mc ms := by
    subst hA
    obtain ⟨e1, e2⟩ := hsame
    rw [State.setFrames_setFrames] at e1
    have h2 : (T.setVm s.vm).sameButNew ({ U with vm := s.vm } : State) [] (0 + 1) (0 + 6) := ⟨e1, e2⟩
    have h3 := X.same.trans h2
    rw [List.append_nil] at h3
    exact h3.mono hc hs
  refine ⟨U, ?_, .threw T.heap.size, hrun, hend, Or.inr ⟨T.heap.size, rfl, cls, ce, locs, hx U hWs.alike f1 (fun q hq => f2 q hq (fun z hz => nomatch hz)), hce, hO.vm, hcl, hWs, hall, hf⟩⟩
  refine st1 _ ?_
  show Steps p.tables e below (T1.setTop { method := m, pc := pc + 3, locals := ls, stack := .ref T.heap.size :: rest, locked := none }) _
  jvm_step X₁.here [X₁.here.top, hexec, d3', Value.category]
  exact X₁.ldcString hexec (own := own) (text := text) (index := is) (a := sa) hown' hstr'.1 hstr'.2
    (g := { method := m, pc := pc + 4, locals := ls, stack := .ref T.heap.size :: .ref T.heap.size :: rest, locked := none }) rfl d4' _ hsteps
/-- 'throw new E("text")', the text by a wide index -/
theorem vx_throwSW {cc : ByteArray} {pc : Nat} (hexec : p.tables.exec = Jvm.exec) (hb : c.code = cc) (hl : l.stackTraces = false) {own cls text : String} {names : List String} {ik is ic mc ms sa : Nat} {A : Nat → Prop}
    (hown : s.vm.findClass own = some m.cls) (hcls : Bundle.fit cls = true) (hnames : ∀ n ∈ names, Bundle.fit n = true)
    (hk : (Cond.classLink own ik cls).before args s = true) (hini : (Cond.initialized cls).before args s = true) (hstr : vk_R own is text sa s) (hat : ∀ w ∈ vx_atS own ic cls names, w.before args s = true)
    (hgood : ∀ w ∈ Cond.classLink own ik cls :: Cond.initialized cls :: vx_atS own ic cls names, vx_ot w = true)
    (hU : vx_Zq Bundle.tN "UNASSIGNED_STACK" Bundle.steD A s s.heap) (hN : vx_Zq Bundle.tN "SUPPRESSED_SENTINEL" Bundle.listD A s s.heap) (hS : va_S A s.heap H locs) (hsize : ls.size = c.maxLocals)
    (d0 : decode cc pc = .ok (.new ik, 3)) (d3 : decode cc (pc + 3) = .ok (.dup, 1)) (d4 : decode cc (pc + 4) = .ok (.ldc_w is, 3)) (d7 : decode cc (pc + 7) = .ok (.invokespecial ic, 3)) (d10 : decode cc (pc + 10) = .ok (.athrow, 1))
    (hout : ∀ x ∈ c.exceptionTable.toList, covers x (pc + 10) = false)
    (hRframes : names.length + 3 < R.frames) (hRlocals : (rest.map fun v => v.category).sum + (13 * (names.length + 1) + 43) ≤ R.locals) (hRcells : cells + 1 ≤ R.cells) (hRslots : slots + 6 ≤ R.slots) (hlocks : meth.locks = false)
    (hx : ∀ t : State, s.vm.Alike t.vm → H.size ≤ t.heap.size → (∀ q : Nat, q < H.size → t.heap[q]? = H[q]?) → XC cls s t)
    (hf : ∀ z ∈ locs, free z.base) (hc : cells + 1 ≤ mc) (hs : slots + 6 ≤ ms) :
    W p l e R s m args below meth c H locs cells slots (vx_MQ below Qc XC args s mc ms free) (F0 m pc ls rest) := by
  intro T hT X
  have htr : e.platform.stackTraces = false := (show e.platform.stackTraces = l.stackTraces by rw [X.admits.platform]).trans hl
  have Y := vx_rebase X (R' := { frames := R.frames, locals := R.locals, cells := 1, slots := 6 }) (Nat.le_refl _) (Nat.le_refl _) hRcells hRslots
  obtain ⟨s', hA⟩ : ∃ z, z = (T.setVm s.vm).setFrames (.invoking m args :: below) := ⟨_, rfl⟩
  rw [← hA] at Y
  have hvm : s'.vm = s.vm := by rw [hA]; rfl
  have hhp : s'.heap = H := by rw [hA]; exact hT
  have hW0 : s.WarmedH s'.vm := by rw [hvm]; exact State.WarmedH.refl s
  have hat' : ∀ w ∈ vx_atS own ic cls names, w.before args s' = true := fun w hw => vx_ot_at hW0 hvm.symm (hgood w (List.mem_cons_of_mem _ (List.mem_cons_of_mem _ hw))) (hat w hw)
  have hk' : (Cond.classLink own ik cls).before args s' = true := vx_ot_at hW0 hvm.symm (hgood _ List.mem_cons_self) hk
  have hini' : (Cond.initialized cls).before args s' = true := vx_ot_at hW0 hvm.symm (hgood _ (List.mem_cons_of_mem _ List.mem_cons_self)) hini
  have hU' : vx_Zq Bundle.tN "UNASSIGNED_STACK" Bundle.steD A s' s'.heap := by rw [hhp]; exact vx_Zq.moved hW0.alike (hU.kept hS.2.1)
  have hN' : vx_Zq Bundle.tN "SUPPRESSED_SENTINEL" Bundle.listD A s' s'.heap := by rw [hhp]; exact vx_Zq.moved hW0.alike (hN.kept hS.2.1)
  have h : ∀ w ∈ Bundle.ownAtoms own ic cls names, w.before args s' = true := vx_own hat' (vx_isRefq hU'.1) (vx_isRefq hN'.1) hU'.2.word hN'.2.word
  have hown' : s'.vm.findClass own = some m.cls := by rw [hvm]; exact hown
  have hins : (Cond.instantiable cls 6).before args s' = true := h _ (by simp [Bundle.ownAtoms])
  obtain ⟨vm₁, cX, kX, hfX, hkX, -, -, X₁, st1⟩ := Y.newCold hexec (own := own) (C := cls) (index := ik) (n := 6) hown' hk' hins hini'
    (g := F0 m pc ls rest) rfl (by rw [hb]; exact d0) (Nat.le_refl _) (Nat.le_refl _)
  generalize hT1 : (T.setVm vm₁).pushCell { cls := cX, slots := kX.instanceTypes.map defaultValue, vm := .none } = T1 at X₁ st1
  have hcat : (Value.ref T.heap.size).category = 1 := rfl
  have hcellA : T1.heap[T.heap.size]? = some (freshCell cX kX) := by rw [← hT1]; exact State.heap_pushCell_size _ _
  have d3' : decode c.code (pc + 3) = .ok (.dup, 1) := by rw [hb]; exact d3
  have d4' : decode c.code (pc + 4) = .ok (.ldc_w is, 3) := by rw [hb]; exact d4
  have hstr' : vk_R own is text sa s' := vk_R.warm hW0 hstr
  obtain ⟨U, hsteps, hrun, hend, hW, hsame, ce, hce, hO⟩ := X₁.ctorThrowS hexec htr (own := own) (cls := cls) (names := names) (ic := ic) hown' hcls hnames h (fun x hx => nomatch hx) hfX hkX hcellA (by rw [hhp, hT]; exact Nat.le_refl _) (msg := .ref sa) rfl
    (g := { method := m, pc := pc + 7, locals := ls, stack := .ref sa :: .ref T.heap.size :: .ref T.heap.size :: rest, locked := none }) rfl hsize rfl rfl (rest := rest) rfl
    (by rw [hb]; exact d7) (by rw [hb]; exact d10) hout hRframes (by simp only [List.map_cons, List.sum_cons, hcat]; omega) hlocks
  obtain ⟨f1, f2⟩ := vx_frame hsame
  rw [hhp] at f1 f2
  have hWs : s.WarmedH U.vm := State.WarmedH.trans hW0 hW
  have hcl : s.vm.findClass cls = some ce.cls := by
    have h9 := hO.cls
    rw [hvm] at h9
    exact h9
  have hall : s.sameButNew ({ U with vm := s.vm } : State) locs mc ms := by
    subst hA
    obtain ⟨e1, e2⟩ := hsame
    rw [State.setFrames_setFrames] at e1
    have h2 : (T.setVm s.vm).sameButNew ({ U with vm := s.vm } : State) [] (0 + 1) (0 + 6) := ⟨e1, e2⟩
    have h3 := X.same.trans h2
    rw [List.append_nil] at h3
    exact h3.mono hc hs
  refine ⟨U, ?_, .threw T.heap.size, hrun, hend, Or.inr ⟨T.heap.size, rfl, cls, ce, locs, hx U hWs.alike f1 (fun q hq => f2 q hq (fun z hz => nomatch hz)), hce, hO.vm, hcl, hWs, hall, hf⟩⟩
  refine st1 _ ?_
  show Steps p.tables e below (T1.setTop { method := m, pc := pc + 3, locals := ls, stack := .ref T.heap.size :: rest, locked := none }) _
  jvm_step X₁.here [X₁.here.top, hexec, d3', Value.category]
  exact X₁.ldcStringW hexec (own := own) (text := text) (index := is) (a := sa) hown' hstr'.1 hstr'.2
    (g := { method := m, pc := pc + 4, locals := ls, stack := .ref T.heap.size :: .ref T.heap.size :: rest, locked := none }) rfl d4' _ hsteps
end Ends
section Bodies
variable {l : Launch}
theorem vx_ofW {y : MethodName} {ws ws' : List Cond} {rm : Room} {Pc : Array Value → State → Prop} {Qc : Array Value → State → Outcome → State → Prop} {XC : String → State → State → Prop} {mc ms : Nat} {free : Addr → Prop} {cc : ByteArray} {maxL : Nat} {ret : Option FieldType}
    (hy : plainName y.cls = true) (hw : ws = Cond.code y cc maxL ret :: ws')
    (body : ∀ p e s m args below meth c s₁, BodyLoose p l y (headSpec ws rm) cc maxL ret e s m args below meth c s₁ → c.maxLocals = maxL → (∀ x ∈ c.exceptionTable.toList, False) → Pc args s →
      W p l e (headSpec ws rm).room s m args below meth c s.heap [] 0 0 (vx_MQ below Qc XC args s mc ms free) (entryFrame m args maxL)) : vx_Met l y ws rm Pc Qc XC mc ms free := by
  refine MetFree.of_bodyS (code := cc) (maxLocals := maxL) (ret := ret) hy ?_ ?_
  · intro args s m h hn
    obtain ⟨meth, c, h1, h2, h3, h4, h5, h6, -, -⟩ := Cond.code_spec hn (atoms_spec (ws := ws) h _ (by rw [hw]; exact List.mem_cons_self))
    exact ⟨meth, c, h1, h2, h3, h4, h5, h6⟩
  · intro p e s m args below meth c s₁ B hml hP _
    have hh0 : s₁.heap = s.heap := by rw [B.state]; rfl
    have ht : ∀ x ∈ c.exceptionTable.toList, False := by
      obtain ⟨meth9, c9, h1, h2, -, -, -, -, h7, -⟩ := Cond.code_spec B.named (atoms_spec (ws := ws) B.pre _ (by rw [hw]; exact List.mem_cons_self))
      cases Option.some.inj (h1.symm.trans B.method)
      cases Option.some.inj (h2.symm.trans (Stand.of_body B).code)
      intro x hx
      rw [Array.isEmpty_iff.mp h7] at hx
      cases hx
    obtain ⟨t, a1, o, b1, b2, b3⟩ := body p e s m args below meth c s₁ B hml ht hP s₁ hh0 (Stand.of_body B)
    exact ⟨t, o, a1, b1, b2, b3⟩
/-- the table of a body with handlers -/
theorem vx_table {p : Program} {x y : MethodName} {S : Spec} {cc bytes : ByteArray} {maxL maxL' : Nat} {ret ret' : Option FieldType} {e : Env} {s s₁ : State} {m : MethodId} {args : Array Value} {below : List Frame} {meth : Method} {c : Code} {hh : List (Nat × Nat × Nat × Nat)}
    (B : BodyLoose p l y S cc maxL ret e s m args below meth c s₁) (h : (Cond.codeWith y bytes maxL' ret' hh).before args s = true) : c.exceptionTable.toList = tableOf hh := by
  obtain ⟨m9, meth9, c9, hn9, h1, h2, -, -, h6, -⟩ := Cond.codeWith_spec h
  cases Option.some.inj (hn9.symm.trans B.named)
  cases Option.some.inj (h1.symm.trans B.method)
  cases Option.some.inj (h2.symm.trans (Stand.of_body B).code)
  rw [← h6, table_eq]
end Bodies
end VXA
/-! ===== END ===== -/
/-! ===== BEGIN a static call of a method with an exception table ===== -/
section VXS
variable {p : Program} {l : Launch} {e : Env} {R : Room} {s : State} {m : MethodId} {args : Array Value} {below : List Frame} {meth : Method} {c : Code} {T : State} {H : Heap} {locs : List Loc} {cells slots : Nat}
abbrev vx_CSW (R : Room) (s : State) (args : Array Value) (own : String) (index : Nat) (y : MethodName) (bytes : ByteArray) (maxL : Nat) (ret : Option FieldType) (hh : List (Nat × Nat × Nat × Nat)) (ws : List Cond) (rm : Room) (mc ms n : Nat) : Prop :=
  (rm.cells = mc ∧ rm.slots = ms ∧ rm.frames + 1 ≤ R.frames ∧ 8 + (maxL + 11) + rm.locals ≤ R.locals ∧ (∀ w ∈ ws, ∀ (a' : Array Value) (U : State), s.WarmedH U.vm → w.before a' U = true) ∧ Cond.codeWith y bytes maxL ret hh ∈ ws) ∧
  (Cond.codeWith y bytes maxL ret hh).before args s = true ∧ (Cond.initialized y.cls).before args s = true ∧ (y.cls ≠ "java/lang/invoke/MethodHandle" ∧ y.cls ≠ "java/lang/invoke/VarHandle") ∧
  (∀ sig, parseMethodDescriptor y.desc = some sig → n = sig.parameters.length) ∧ (Cond.methodLink own index y).before args s = true ∧ (Cond.static y).before args s = true
theorem vx_cwSW {own : String} {index maxL mc ms : Nat} {y : MethodName} {bytes : ByteArray} {ret : Option FieldType} {hh : List (Nat × Nat × Nat × Nat)} {Ts ws ws' : List Cond} {rm : Room} (n : Nat) (ht : ∀ w ∈ Ts, w.before args s = true) (hT : GoodIn Ts (va_wsS own index y ws)) (hw : ws = Cond.codeWith y bytes maxL ret hh :: ws') (hrc : rm.cells = mc) (hrs : rm.slots = ms)
    (hd : y.cls ≠ "java/lang/invoke/MethodHandle" ∧ y.cls ≠ "java/lang/invoke/VarHandle" ∧ (parseMethodDescriptor y.desc).map (fun d => d.parameters.length) = some n) (hR : rm.frames + 1 ≤ R.frames ∧ 8 + (maxL + 11) + rm.locals ≤ R.locals) :
    vx_CSW R s args own index y bytes maxL ret hh ws rm mc ms n := by
  have ok : ∀ w ∈ va_wsS own index y ws, w.before args s = true := fun w h => ht w (hT w h).1
  have hG : GoodIn Ts ws := fun w h => hT w (by unfold va_wsS; exact List.mem_append_right _ h)
  have hc : Cond.codeWith y bytes maxL ret hh ∈ ws := by rw [hw]; exact List.mem_cons_self
  refine ⟨⟨hrc, hrs, hR.1, hR.2, pay_in ht hG, hc⟩, ht _ (hG _ hc).1, ok _ (by simp [va_wsS]), ⟨hd.1, hd.2.1⟩, fun sig h => ?_, ok _ (by simp [va_wsS]), ok _ (by simp [va_wsS])⟩
  have h2 := hd.2.2
  rw [h] at h2
  exact (Option.some.inj h2).symm
theorem vx_callSW (X : Stand p l e R s m args below meth c T locs cells slots) (hexec : p.tables.exec = Jvm.exec) {own : String} {index : Nat} {y : MethodName} {bytes : ByteArray} {maxL : Nat} {ret : Option FieldType} {hh : List (Nat × Nat × Nat × Nat)}
    (hown : s.vm.findClass own = some m.cls) (hlink : (Cond.methodLink own index y).before args s = true) (hstat : (Cond.static y).before args s = true) (hinit : (Cond.initialized y.cls).before args s = true)
    (hcode : (Cond.codeWith y bytes maxL ret hh).before args s = true) (hy : y.cls ≠ "java/lang/invoke/MethodHandle" ∧ y.cls ≠ "java/lang/invoke/VarHandle")
    {W9 : Nat} {Pre : Pt → Array Value → Prop} {Post : Pt → Array Value → Option Value → Pt → Prop} (hK : Back l R p e below s args y 3 W9 Pre Post)
    {g : JFrame} (hg : g.method = m) (hsize : g.locals.size = c.maxLocals) {argsL rest : List Value} (hlen : ∀ sig, parseMethodDescriptor y.desc = some sig → argsL.length = sig.parameters.length)
    (hstack : g.stack = argsL.reverse ++ rest) (hW : 2 * g.monitorRoom + (rest.map fun v => v.category).sum ≤ W9) (hdg : decode c.code g.pc = .ok (.invokestatic index, 3))
    (hpre : ∀ vm₁, s.WarmedH vm₁ → Pre ⟨T.setVm vm₁, locs, cells, slots⟩ argsL.toArray) :
    ∃ (v : Option Value) (vm₁ : Vm) (B : Pt), s.WarmedH vm₁ ∧ Stand p l e R s m args below meth c B.U B.locs B.cells B.slots ∧ Post ⟨T.setVm vm₁, locs, cells, slots⟩ argsL.toArray v B ∧
      ∀ target, Steps p.tables e below (B.U.setTop { g with pc := g.pc + 3, stack := v.toList ++ rest }) target → Steps p.tables e below (T.setTop g) target := by
  obtain ⟨mk, methM, cM, hnamed, hmethM, -, -, -, -, -, -, hsigM⟩ := Cond.codeWith_spec hcode
  have hstatic : methM.isStatic = true := Cond.static_spec hnamed hmethM hstat
  obtain ⟨kP, hkP, -⟩ := className_of_methodNamed hnamed
  have hinitP : kP.init = .initialized := Cond.initialized_spec (findClass_of_methodNamed hnamed) hkP hinit
  obtain ⟨vm₁, X₁, hstep₁⟩ := X.invokestatic hexec hown hlink hnamed hmethM hstatic hkP hinitP hy (g := g) hg (argsL := argsL) (rest := rest) (hlen _ hsigM) hstack hdg
  obtain ⟨v, B, X', hpost, hsteps⟩ := hK m meth c ⟨T.setVm vm₁, locs, cells, slots⟩ { g with stack := rest } (.invokestatic index) mk argsL.toArray X₁ hg hsize hdg hW (X₁.named hnamed) (hpre vm₁ X₁.warmed)
  exact ⟨v, vm₁, B, X₁.warmed, X', hpost, fun target h => hstep₁ _ fun acts => by rw [doInvoke_state]; exact hsteps.trans h⟩
theorem vx_runSW {y : MethodName} {bytes cc : ByteArray} {maxL nL mc ms n index : Nat} {ret : Option FieldType} {hh : List (Nat × Nat × Nat × Nat)} {ws : List Cond} {rm : Room} {Pc : Array Value → State → Prop} {Qc : Array Value → State → Outcome → State → Prop} {free : Addr → Prop} {Ts : List Cond} {own : String} {As rest : List Value} {g : JFrame}
    (S : CallFix p m c cc nL s args Ts own) (hM : Met l y ws rm Pc Qc mc ms free) (cw : vx_CSW R s args own index y bytes maxL ret hh ws rm mc ms n) (hp : PreS s H Pc As)
    (hg : g.method = m) (hn : As.length = n) (hsize : g.locals.size = nL) (hstack : g.stack = As.reverse ++ rest) (hW : 2 * g.monitorRoom + (rest.map fun v => v.category).sum ≤ 8) (hdg : decode cc g.pc = .ok (.invokestatic index, 3)) (hf : cells + mc ≤ R.cells ∧ slots + ms ≤ R.slots) :
    va_Run p l e R s m args below meth c H locs cells slots mc ms g rest (Qc As.toArray) (free) := by
  obtain ⟨⟨hrc, hrs, hfr, hlo, hws, hcw⟩, hcode, hini, hy, hlen, hl, hstt⟩ := cw
  have hK : Back l R p e below s args y 3 8 (PreOf R mc ms Pc) (PostOf Qc mc ms free) := va_backW (hh := hh) (bytes := bytes) (maxL := maxL) (ret := ret) hM hp.1 hrc hrs hfr hlo hws hcw (fun a' U hW => word_at hW (Or.inl (by first | rfl | simp [Cond.onTables, Cond.keeps, Cond.steady])) hini)
  obtain ⟨hx, hb, hml, ho, -⟩ := S
  intro T hT X
  obtain ⟨v, vm₁, ⟨U', l2, c2, s2⟩, hW₁, X', ⟨g', mk, t, L, e1, e2, hq, h1, hL, h2, h3⟩, st⟩ := vx_callSW X hx (hh := hh) (bytes := bytes) (maxL := maxL) (ret := ret) ho hl hstt hini hcode hy hK hg (hsize.trans hml.symm) (argsL := As) (rest := rest) (fun sig h => hn.trans (hlen sig h)) hstack hW (by rw [hb]; exact hdg)
    (fun vm₁ hW₁ => ⟨hf.1, hf.2, hp.2 (T.setVm vm₁) hT hW₁⟩)
  dsimp only [Pt.U, Pt.locs, Pt.cells, Pt.slots] at X' e1 e2 h1 h2 h3 st
  subst h1; subst h2; subst h3
  exact ⟨v, (T.setVm vm₁).calling g' mk As.toArray, t, U', L, hT, X', hL, e1, e2, hq, st⟩
/-- not caught here, past rows that name other classes: it goes on to the caller -/
theorem vx_outP {p : Program} {l : Launch} {e : Env} {R : Room} {s : State} {m : MethodId} {args : Array Value} {below : List Frame} {meth : Method} {c : Code} {H : Heap} {locs : List Loc} {cells slots : Nat} {free : Addr → Prop} {ls : Array Slot} {rest : List Value} {Qc : Array Value → State → Outcome → State → Prop} {XC : String → State → State → Prop}
    {pc : Nat} {own E : String} {ce : Cell} {q : Addr} {mc ms : Nat} (hown : s.vm.findClass own = some m.cls) (hlocks : meth.locks = false)
    (hpass : ∀ z ∈ c.exceptionTable.toList, covers z pc = false ∨ (z.catchType ≠ 0 ∧ ∃ nm : String, (Cond.classLink own z.catchType nm).before args s = true ∧ va_Nc E nm s)) (hcell : H[q]? = some ce) (hv : ce.vm = .none) (hcl : s.vm.findClass E = some ce.cls)
    (hx : ∀ t : State, t.heap = H → s.vm.Alike t.vm → XC E s t) (hf : ∀ z ∈ locs, free z.base) (hc : cells ≤ mc) (hs : slots ≤ ms) :
    vx_W p l e R s m args below meth c H locs cells slots (vx_MQ below Qc XC args s mc ms free) (F0 m pc ls rest) q := by
  intro T hT X
  have hpl : e.platform.magicAccessors = ({} : Platform).magicAccessors := by rw [X.admits.platform]
  obtain ⟨vm', hW', X', st⟩ := X.outThrough hlocks q (g := F0 m pc ls rest) rfl rfl rfl (cell := ce) (by rw [hT]; exact hcell) (by rw [hv]; rfl)
    (by obtain ⟨k9, h9, -⟩ := Vm.findClass_spec hcl; exact ⟨k9, h9⟩) (fun z hz => by
      rcases hpass z hz with h | ⟨hz0, nm, hl1, hn1⟩
      · exact Or.inl h
      · obtain ⟨c6, hc6, hcl6⟩ := Cond.classLink_spec hown hl1 e.platform hpl
        obtain ⟨a8, b8, h1, h2, h3⟩ := hn1
        cases Option.some.inj (h1.symm.trans hcl)
        cases Option.some.inj (h2.symm.trans hc6)
        exact Or.inr ⟨hz0, _, hcl6, h3⟩)
  obtain ⟨g₀, hfr⟩ := X'.frames_eq
  have hcell9 : ((T.setVm vm').setFrames (.throwing q :: below)).heap[q]? = some ce := by
    show T.heap[q]? = some ce
    rw [hT]; exact hcell
  have hend : Ended ((T.setVm vm').setFrames (.throwing q :: below)) below (.threw q) := State.frames_setFrames _ (State.cur_lt_of_frames hfr)
  refine ⟨(T.setVm vm').setFrames (.throwing q :: below), ?_, .threw q, X'.here.running, hend, Or.inr ⟨q, rfl, E, ce, locs, hx _ hT (X'.ends _).1.alike, hcell9, hv, hcl, (X'.ends _).1, (X'.ends _).2.mono hc hs, hf⟩⟩
  rw [X.pushThrowing_eq]
  exact st
/-- a thing of a world lies in the heap -/
theorem vx_lt {D : va_G} {cl : List vw_C} {ws : va_W} {H1 : Heap} (h : va_P D cl ws H1) {k : Nat} {q : Nat × va_E} (hk : ws[k]? = some q) : q.1 < H1.size := (h k q hk).lt
end VXS
/-! ===== END ===== -/
/-! ===== BEGIN methods with a table of their own: called by a name, returning or throwing ===== -/
section VXH
/-! vx_backW, vx_callVX, vx_callSX, vx_callVW, vx_runVW, vx_runVX, vx_runSX, vx_ofWH follow the same proofs as their sisters above (Free/Laws.lean, Shelf42/LK1.lean); vx_outP calls Shelf42/NT130.lean (outThrough). -/
section
variable {l : Launch} {R : Room} {p : Program} {e : Env} {below : List Frame} {s : State} {sargs : Array Value} {y : MethodName} {len W9 : Nat}
theorem vx_backW {ws : List Cond} {rm : Room} {Pc : Array Value → State → Prop} {Qc : Array Value → State → Outcome → State → Prop} {XC : String → State → State → Prop} {mc ms : Nat} {free : Addr → Prop} {bytes : ByteArray} {maxL : Nat} {ret : Option FieldType} {hh : List (Nat × Nat × Nat × Nat)}
    (hM : vx_Met l y ws rm Pc Qc XC mc ms free) (hblind : FrameBlind Pc) (hrc : rm.cells = mc) (hrs : rm.slots = ms)
    (hframes : rm.frames + 1 ≤ R.frames) (hlocals : W9 + (maxL + 11) + rm.locals ≤ R.locals)
    (hws : ∀ w ∈ ws, ∀ a' U, s.WarmedH U.vm → w.before a' U = true) (hcode : Cond.codeWith y bytes maxL ret hh ∈ ws) (hinit : ∀ a' U, s.WarmedH U.vm → (Cond.initialized y.cls).before a' U = true) :
    vx_Back l R p e below s sargs y len W9 (PreOf R mc ms Pc) (PostOf Qc mc ms free) (vx_Post XC mc ms free) := by
  intro m meth c A g ig mk a X hg hsize hdg hW hn hp
  have h1 : (headSpec ws rm).pre.before a A.U = true := atoms_intro fun w hw => hws w hw _ _ X.warmed
  have h2 : (Cond.codeWith y bytes maxL ret hh).before a A.U = true := hws _ hcode _ _ X.warmed
  have h3 : (Cond.initialized y.cls).before a A.U = true := hinit _ _ X.warmed
  have h4 : A.cells + (headSpec ws rm).room.cells ≤ R.cells := by rw [show (headSpec ws rm).room.cells = mc from hrc]; exact hp.1
  have h5 : A.slots + (headSpec ws rm).room.slots ≤ R.slots := by rw [show (headSpec ws rm).room.slots = ms from hrs]; exact hp.2.1
  have hPc : Pc a (A.U.calling g mk a) := hblind _ _ _ _ hp.2.2
  obtain ⟨U, Ls, c0, s0⟩ := A
  dsimp only [Pt.U, Pt.locs, Pt.cells, Pt.slots] at h1 h2 h3 h4 h5 X hn hPc ⊢
  obtain ⟨m9, methY, cY, hn9, hmY, hcY, -, hlY, -⟩ := Cond.codeWith_spec h2
  cases Option.some.inj (hn9.symm.trans hn)
  obtain ⟨kY, hkY, -⟩ := className_of_methodNamed hn
  have hinitY : kY.init = .initialized := Cond.initialized_spec (findClass_of_methodNamed hn) hkY h3
  have h : At U g.method c below := by rw [hg]; exact X.here
  have hlocals9 : W9 + (maxL + 11) + (headSpec ws rm).room.locals ≤ R.locals := hlocals
  have happ : (headSpec ws rm).appliesLoose y e.platform (U.calling g mk a) = true :=
    Spec.appliesLoose_calling (g := g) h hdg hn hkY hinitY
      (X.room_calling (g := g) (R' := (headSpec ws rm).room) hsize hmY hcY hframes (by rw [hlY]; omega) h4 h5) h1
  obtain ⟨mid, hmid⟩ := h.above
  have hfr : (U.setTop g).frames = (.java g :: mid) ++ below := by rw [State.frames_setTop' g h.top, hmid]; rfl
  obtain ⟨o, s₂, hsteps, -, hend, hq⟩ := Steps.callFree hM p X.admits X.cas X.clock (acts := []) hfr happ hPc trivial
  have hq' : vx_Q Qc XC mc ms free a (U.calling g mk a) o s₂ := hq
  rw [State.frames_setTop' g h.top] at hend
  obtain ⟨g₀, hg0⟩ := Option.isSome_iff_exists.mp h.top
  obtain ⟨r, hr⟩ := State.topJava?_eq_some.mp hg0
  have hr' : (({ U with heap := s₂.heap, slotsUsed := s₂.slotsUsed } : State).setVm s₂.vm).frames = .java g₀ :: r := hr
  rcases hq' with ⟨hqc, L, hfe, hL⟩ | ⟨q, rfl, E, ce, L, hx, hce, hcv, hcl, hW₂, hsm, hL⟩
  · obtain ⟨⟨v, rfl⟩, hW₂, e2, q2, q3, q4, q5, q6⟩ := id hfe
    have e3 : s₂ = ({ (U.calling g mk a).setFrames s₂.frames with heap := s₂.heap, slotsUsed := s₂.slotsUsed } : State).setVm s₂.vm := by
      have : s₂ = ({ s₂ with vm := (U.calling g mk a).vm } : State).setVm s₂.vm := rfl
      rw [e2] at this
      exact this
    obtain ⟨c₂, i₂, len₂, hc₂, hd₂, hf₂⟩ := hend
    have hW' : U.WarmedH s₂.vm := hW₂
    have hcc : c₂ = c := by
      have h1 : s₂.code? g.method = U.code? g.method := by
        rw [State.code?_eq, State.code?_eq, hW'.alike.method?]
      exact Option.some.inj (hc₂.symm.trans (h1.trans h.code))
    subst hcc
    have hlen : len₂ = len := by rw [hdg] at hd₂; cases hd₂; rfl
    subst hlen
    have hs₂ : s₂ = (({ U with heap := s₂.heap, slotsUsed := s₂.slotsUsed } : State).setVm s₂.vm).setTop { g with pc := g.pc + len₂, stack := v.toList ++ g.stack } := by
      refine e3.trans ?_
      rw [hf₂, State.calling_eq h.top, State.setFrames_setFrames, State.setTop_of_frames _ hr', hr]
      rfl
    have hsame : U.sameButNew ({ U with heap := s₂.heap, slotsUsed := s₂.slotsUsed } : State) L mc ms := by
      refine ⟨?_, q2, q3, q4, q5, q6⟩
      obtain ⟨t, ht, -⟩ := State.frames_cons hr
      show ({ U with heap := s₂.heap, slotsUsed := s₂.slotsUsed } : State) = { U.setFrames U.frames with heap := s₂.heap, slotsUsed := s₂.slotsUsed }
      rw [State.setFrames_self ht]
    subst hg
    refine Or.inl ⟨v, ⟨(({ U with heap := s₂.heap, slotsUsed := s₂.slotsUsed } : State).setVm s₂.vm), Ls ++ L, c0 + mc, s0 + ms⟩,
      ⟨X.admits, X.cas, X.clock, X.frames, X.room, X.hears, X.method, X.code, (X.here.setHeapUsed s₂.heap s₂.slotsUsed).setVm hW'.alike, X.tail, State.WarmedH.trans X.warmed hW', X.limits, X.bytes, X.same.trans (hsame.setVm s.vm)⟩,
      ⟨g, mk, s₂, L, rfl, rfl, hqc, rfl, hL, rfl, rfl⟩, ?_⟩
    show Steps p.tables e below _ ((({ U with heap := s₂.heap, slotsUsed := s₂.slotsUsed } : State).setVm s₂.vm).setTop { g with pc := g.pc + len₂, stack := v.toList ++ g.stack })
    rw [← hs₂]
    exact hsteps
  · obtain ⟨e2, q2, q3, q4, q5, q6⟩ := id hsm
    have e3 : s₂ = ({ (U.calling g mk a).setFrames s₂.frames with heap := s₂.heap, slotsUsed := s₂.slotsUsed } : State).setVm s₂.vm := by
      have : s₂ = ({ s₂ with vm := (U.calling g mk a).vm } : State).setVm s₂.vm := rfl
      rw [e2] at this
      exact this
    have hf₂ : s₂.frames = .throwing q :: .java g :: U.frames.tail := hend
    have hW' : U.WarmedH s₂.vm := hW₂
    have hs₂ : s₂ = ((({ U with heap := s₂.heap, slotsUsed := s₂.slotsUsed } : State).setVm s₂.vm).setTop g).pushFrame (.throwing q) := by
      refine e3.trans ?_
      rw [hf₂, State.calling_eq h.top, State.setFrames_setFrames, State.pushFrame, State.frames_setTop _ hr', State.setTop_of_frames _ hr', State.setFrames_setFrames, hr]
      rfl
    have hsame : U.sameButNew ({ U with heap := s₂.heap, slotsUsed := s₂.slotsUsed } : State) L mc ms := by
      refine ⟨?_, q2, q3, q4, q5, q6⟩
      obtain ⟨t, ht, -⟩ := State.frames_cons hr
      show ({ U with heap := s₂.heap, slotsUsed := s₂.slotsUsed } : State) = { U.setFrames U.frames with heap := s₂.heap, slotsUsed := s₂.slotsUsed }
      rw [State.setFrames_self ht]
    subst hg
    refine Or.inr ⟨q, ⟨(({ U with heap := s₂.heap, slotsUsed := s₂.slotsUsed } : State).setVm s₂.vm), Ls ++ L, c0 + mc, s0 + ms⟩,
      ⟨X.admits, X.cas, X.clock, X.frames, X.room, X.hears, X.method, X.code, (X.here.setHeapUsed s₂.heap s₂.slotsUsed).setVm hW'.alike, X.tail, State.WarmedH.trans X.warmed hW', X.limits, X.bytes, X.same.trans (hsame.setVm s.vm)⟩,
      ⟨g, mk, s₂, L, E, ce, rfl, rfl, hx, hce, hcv, hcl, rfl, hL, rfl, rfl⟩, ?_⟩
    show Steps p.tables e below _ (((({ U with heap := s₂.heap, slotsUsed := s₂.slotsUsed } : State).setVm s₂.vm).setTop g).pushFrame (.throwing q))
    rw [← hs₂]
    exact hsteps
end
variable {p : Program} {l : Launch} {e : Env} {R : Room} {s : State} {m : MethodId} {args : Array Value} {below : List Frame} {meth : Method} {c : Code} {T : State} {H : Heap} {locs : List Loc} {cells slots : Nat}
theorem vx_callVX (X : Stand p l e R s m args below meth c T locs cells slots) (hexec : p.tables.exec = Jvm.exec) {own C : String} {index : Nat} {y : MethodName} {bytes : ByteArray} {maxL : Nat} {ret : Option FieldType} {hh : List (Nat × Nat × Nat × Nat)}
    (hown : s.vm.findClass own = some m.cls) (hlink : (Cond.methodLink own index y).before args s = true) (hinst : (Cond.instanceMethod y).before args s = true) (hsel : (Cond.selects C y y).before args s = true)
    (hcode : (Cond.codeWith y bytes maxL ret hh).before args s = true) (hy : y.cls ≠ "java/lang/invoke/MethodHandle" ∧ y.cls ≠ "java/lang/invoke/VarHandle")
    {W9 : Nat} {Pre : Pt → Array Value → Prop} {Post : Pt → Array Value → Option Value → Pt → Prop} {PostX : Pt → Array Value → Addr → Pt → Prop} (hK : vx_Back l R p e below s args y 3 W9 Pre Post PostX)
    {b : Addr} {cellB : Cell} (hcell : T.heap[b]? = some cellB) (hobj : cellB.vm.isStatics = false) (hcls : s.vm.findClass C = some cellB.cls)
    {g : JFrame} (hg : g.method = m) (hsize : g.locals.size = c.maxLocals) {argsL rest : List Value} (hlen : ∀ sig, parseMethodDescriptor y.desc = some sig → argsL.length = sig.parameters.length)
    (hstack : g.stack = argsL.reverse ++ .ref b :: rest) (hW : 2 * g.monitorRoom + (rest.map fun v => v.category).sum ≤ W9) (hdg : decode c.code g.pc = .ok (.invokevirtual index, 3))
    (hpre : ∀ vm₁, s.WarmedH vm₁ → Pre ⟨T.setVm vm₁, locs, cells, slots⟩ (Value.ref b :: argsL).toArray) :
    (∃ (v : Option Value) (vm₁ : Vm) (B : Pt), s.WarmedH vm₁ ∧ Stand p l e R s m args below meth c B.U B.locs B.cells B.slots ∧ Post ⟨T.setVm vm₁, locs, cells, slots⟩ (Value.ref b :: argsL).toArray v B ∧
      ∀ target, Steps p.tables e below (B.U.setTop { g with pc := g.pc + 3, stack := v.toList ++ rest }) target → Steps p.tables e below (T.setTop g) target) ∨
    (∃ (q : Addr) (vm₁ : Vm) (B : Pt), s.WarmedH vm₁ ∧ Stand p l e R s m args below meth c B.U B.locs B.cells B.slots ∧ PostX ⟨T.setVm vm₁, locs, cells, slots⟩ (Value.ref b :: argsL).toArray q B ∧
      Steps p.tables e below (T.setTop g) ((B.U.setTop { g with stack := rest }).pushFrame (.throwing q))) := by
  obtain ⟨mk, methM, hnamed, hmethM, hstM, habM⟩ := Cond.instanceMethod_spec hinst
  obtain ⟨m8, methM', cM, hn8, hmethM', -, -, -, -, -, -, hsigM⟩ := Cond.codeWith_spec hcode
  cases Option.some.inj (hn8.symm.trans hnamed)
  cases hmethM.symm.trans hmethM'
  obtain ⟨c2, r2, m2, q1, q2, q3, q4, kP, hkP, hkPi⟩ := Cond.selects_spec hsel
  cases hcls.symm.trans q1
  cases (State.methodFound?_of_named hnamed hy).symm.trans q2
  cases hnamed.symm.trans q3
  have hselP : selectMethod e.platform s.vm cellB.cls mk = .method mk := by rw [Launch.admits_selectMethod X.admits]; exact q4
  obtain ⟨vm₁, X₁, hstep₁⟩ := X.invokevirtual hexec hown hlink hnamed hmethM hstM hkP hkPi hy (a := b) (cell := cellB) hcell
    (fun z h => by rw [h] at hobj; cases hobj) hselP hmethM habM hkP hkPi (g := g) hg (argsL := argsL) (rest := rest) (hlen _ hsigM) hstack hdg
  rcases hK m meth c ⟨T.setVm vm₁, locs, cells, slots⟩ { g with stack := rest } (.invokevirtual index) mk (Value.ref b :: argsL).toArray X₁ hg hsize hdg hW (X₁.named hnamed) (hpre vm₁ X₁.warmed) with ⟨v, B, X', hpost, hsteps⟩ | ⟨q, B, X', hpost, hsteps⟩
  · exact Or.inl ⟨v, vm₁, B, X₁.warmed, X', hpost, fun target h => hstep₁ _ fun acts => by rw [doInvoke_state]; exact hsteps.trans h⟩
  · exact Or.inr ⟨q, vm₁, B, X₁.warmed, X', hpost, hstep₁ _ fun acts => by rw [doInvoke_state]; exact hsteps⟩
theorem vx_callSX (X : Stand p l e R s m args below meth c T locs cells slots) (hexec : p.tables.exec = Jvm.exec) {own : String} {index : Nat} {y : MethodName} {bytes : ByteArray} {maxL : Nat} {ret : Option FieldType} {hh : List (Nat × Nat × Nat × Nat)}
    (hown : s.vm.findClass own = some m.cls) (hlink : (Cond.methodLink own index y).before args s = true) (hstat : (Cond.static y).before args s = true) (hinit : (Cond.initialized y.cls).before args s = true)
    (hcode : (Cond.codeWith y bytes maxL ret hh).before args s = true) (hy : y.cls ≠ "java/lang/invoke/MethodHandle" ∧ y.cls ≠ "java/lang/invoke/VarHandle")
    {W9 : Nat} {Pre : Pt → Array Value → Prop} {Post : Pt → Array Value → Option Value → Pt → Prop} {PostX : Pt → Array Value → Addr → Pt → Prop} (hK : vx_Back l R p e below s args y 3 W9 Pre Post PostX)
    {g : JFrame} (hg : g.method = m) (hsize : g.locals.size = c.maxLocals) {argsL rest : List Value} (hlen : ∀ sig, parseMethodDescriptor y.desc = some sig → argsL.length = sig.parameters.length)
    (hstack : g.stack = argsL.reverse ++ rest) (hW : 2 * g.monitorRoom + (rest.map fun v => v.category).sum ≤ W9) (hdg : decode c.code g.pc = .ok (.invokestatic index, 3))
    (hpre : ∀ vm₁, s.WarmedH vm₁ → Pre ⟨T.setVm vm₁, locs, cells, slots⟩ argsL.toArray) :
    (∃ (v : Option Value) (vm₁ : Vm) (B : Pt), s.WarmedH vm₁ ∧ Stand p l e R s m args below meth c B.U B.locs B.cells B.slots ∧ Post ⟨T.setVm vm₁, locs, cells, slots⟩ argsL.toArray v B ∧
      ∀ target, Steps p.tables e below (B.U.setTop { g with pc := g.pc + 3, stack := v.toList ++ rest }) target → Steps p.tables e below (T.setTop g) target) ∨
    (∃ (q : Addr) (vm₁ : Vm) (B : Pt), s.WarmedH vm₁ ∧ Stand p l e R s m args below meth c B.U B.locs B.cells B.slots ∧ PostX ⟨T.setVm vm₁, locs, cells, slots⟩ argsL.toArray q B ∧
      Steps p.tables e below (T.setTop g) ((B.U.setTop { g with stack := rest }).pushFrame (.throwing q))) := by
  obtain ⟨mk, methM, cM, hnamed, hmethM, -, -, -, -, -, -, hsigM⟩ := Cond.codeWith_spec hcode
  have hstatic : methM.isStatic = true := Cond.static_spec hnamed hmethM hstat
  obtain ⟨kP, hkP, -⟩ := className_of_methodNamed hnamed
  have hinitP : kP.init = .initialized := Cond.initialized_spec (findClass_of_methodNamed hnamed) hkP hinit
  obtain ⟨vm₁, X₁, hstep₁⟩ := X.invokestatic hexec hown hlink hnamed hmethM hstatic hkP hinitP hy (g := g) hg (argsL := argsL) (rest := rest) (hlen _ hsigM) hstack hdg
  rcases hK m meth c ⟨T.setVm vm₁, locs, cells, slots⟩ { g with stack := rest } (.invokestatic index) mk argsL.toArray X₁ hg hsize hdg hW (X₁.named hnamed) (hpre vm₁ X₁.warmed) with ⟨v, B, X', hpost, hsteps⟩ | ⟨q, B, X', hpost, hsteps⟩
  · exact Or.inl ⟨v, vm₁, B, X₁.warmed, X', hpost, fun target h => hstep₁ _ fun acts => by rw [doInvoke_state]; exact hsteps.trans h⟩
  · exact Or.inr ⟨q, vm₁, B, X₁.warmed, X', hpost, hstep₁ _ fun acts => by rw [doInvoke_state]; exact hsteps⟩
theorem vx_callVW (X : Stand p l e R s m args below meth c T locs cells slots) (hexec : p.tables.exec = Jvm.exec) {own C : String} {index : Nat} {y : MethodName} {bytes : ByteArray} {maxL : Nat} {ret : Option FieldType} {hh : List (Nat × Nat × Nat × Nat)}
    (hown : s.vm.findClass own = some m.cls) (hlink : (Cond.methodLink own index y).before args s = true) (hinst : (Cond.instanceMethod y).before args s = true) (hsel : (Cond.selects C y y).before args s = true)
    (hcode : (Cond.codeWith y bytes maxL ret hh).before args s = true) (hy : y.cls ≠ "java/lang/invoke/MethodHandle" ∧ y.cls ≠ "java/lang/invoke/VarHandle")
    {W9 : Nat} {Pre : Pt → Array Value → Prop} {Post : Pt → Array Value → Option Value → Pt → Prop} (hK : Back l R p e below s args y 3 W9 Pre Post)
    {b : Addr} {cellB : Cell} (hcell : T.heap[b]? = some cellB) (hobj : cellB.vm.isStatics = false) (hcls : s.vm.findClass C = some cellB.cls)
    {g : JFrame} (hg : g.method = m) (hsize : g.locals.size = c.maxLocals) {argsL rest : List Value} (hlen : ∀ sig, parseMethodDescriptor y.desc = some sig → argsL.length = sig.parameters.length)
    (hstack : g.stack = argsL.reverse ++ .ref b :: rest) (hW : 2 * g.monitorRoom + (rest.map fun v => v.category).sum ≤ W9) (hdg : decode c.code g.pc = .ok (.invokevirtual index, 3))
    (hpre : ∀ vm₁, s.WarmedH vm₁ → Pre ⟨T.setVm vm₁, locs, cells, slots⟩ (Value.ref b :: argsL).toArray) :
    ∃ (v : Option Value) (vm₁ : Vm) (B : Pt), s.WarmedH vm₁ ∧ Stand p l e R s m args below meth c B.U B.locs B.cells B.slots ∧ Post ⟨T.setVm vm₁, locs, cells, slots⟩ (Value.ref b :: argsL).toArray v B ∧
      ∀ target, Steps p.tables e below (B.U.setTop { g with pc := g.pc + 3, stack := v.toList ++ rest }) target → Steps p.tables e below (T.setTop g) target := by
  obtain ⟨mk, methM, hnamed, hmethM, hstM, habM⟩ := Cond.instanceMethod_spec hinst
  obtain ⟨m8, methM', cM, hn8, hmethM', -, -, -, -, -, -, hsigM⟩ := Cond.codeWith_spec hcode
  cases Option.some.inj (hn8.symm.trans hnamed)
  cases hmethM.symm.trans hmethM'
  obtain ⟨c2, r2, m2, q1, q2, q3, q4, kP, hkP, hkPi⟩ := Cond.selects_spec hsel
  cases hcls.symm.trans q1
  cases (State.methodFound?_of_named hnamed hy).symm.trans q2
  cases hnamed.symm.trans q3
  have hselP : selectMethod e.platform s.vm cellB.cls mk = .method mk := by rw [Launch.admits_selectMethod X.admits]; exact q4
  obtain ⟨vm₁, X₁, hstep₁⟩ := X.invokevirtual hexec hown hlink hnamed hmethM hstM hkP hkPi hy (a := b) (cell := cellB) hcell
    (fun z h => by rw [h] at hobj; cases hobj) hselP hmethM habM hkP hkPi (g := g) hg (argsL := argsL) (rest := rest) (hlen _ hsigM) hstack hdg
  obtain ⟨v, B, X', hpost, hsteps⟩ := hK m meth c ⟨T.setVm vm₁, locs, cells, slots⟩ { g with stack := rest } (.invokevirtual index) mk (Value.ref b :: argsL).toArray X₁ hg hsize hdg hW (X₁.named hnamed) (hpre vm₁ X₁.warmed)
  exact ⟨v, vm₁, B, X₁.warmed, X', hpost, fun target h => hstep₁ _ fun acts => by rw [doInvoke_state]; exact hsteps.trans h⟩
abbrev vx_CVW (R : Room) (s : State) (args : Array Value) (own C : String) (index : Nat) (y : MethodName) (bytes : ByteArray) (maxL : Nat) (ret : Option FieldType) (hh : List (Nat × Nat × Nat × Nat)) (ws : List Cond) (rm : Room) (mc ms n : Nat) : Prop :=
  (rm.cells = mc ∧ rm.slots = ms ∧ rm.frames + 1 ≤ R.frames ∧ 8 + (maxL + 11) + rm.locals ≤ R.locals ∧ (∀ w ∈ ws, ∀ (a' : Array Value) (U : State), s.WarmedH U.vm → w.before a' U = true) ∧ Cond.codeWith y bytes maxL ret hh ∈ ws) ∧
  (Cond.codeWith y bytes maxL ret hh).before args s = true ∧ (Cond.initialized y.cls).before args s = true ∧ (y.cls ≠ "java/lang/invoke/MethodHandle" ∧ y.cls ≠ "java/lang/invoke/VarHandle") ∧
  (∀ sig, parseMethodDescriptor y.desc = some sig → n = sig.parameters.length) ∧ (Cond.methodLink own index y).before args s = true ∧ (Cond.instanceMethod y).before args s = true ∧ (Cond.selects C y y).before args s = true
theorem vx_cwVW {own C : String} {index maxL mc ms : Nat} {y : MethodName} {bytes : ByteArray} {ret : Option FieldType} {hh : List (Nat × Nat × Nat × Nat)} {Ts ws ws' : List Cond} {rm : Room} (n : Nat) (ht : ∀ w ∈ Ts, w.before args s = true) (hT : GoodIn Ts (wsV own index C y ws)) (hw : ws = Cond.codeWith y bytes maxL ret hh :: ws') (hrc : rm.cells = mc) (hrs : rm.slots = ms)
    (hd : y.cls = C ∧ y.cls ≠ "java/lang/invoke/MethodHandle" ∧ y.cls ≠ "java/lang/invoke/VarHandle" ∧ (parseMethodDescriptor y.desc).map (fun d => d.parameters.length) = some n) (hR : rm.frames + 1 ≤ R.frames ∧ 8 + (maxL + 11) + rm.locals ≤ R.locals) :
    vx_CVW R s args own C index y bytes maxL ret hh ws rm mc ms n := by
  obtain ⟨hC, hd⟩ := hd
  subst hC
  have ok : ∀ w ∈ wsV own index y.cls y ws, w.before args s = true := fun w h => ht w (hT w h).1
  have hG : GoodIn Ts ws := fun w h => hT w (by unfold wsV; exact List.mem_append_right _ h)
  have hc : Cond.codeWith y bytes maxL ret hh ∈ ws := by rw [hw]; exact List.mem_cons_self
  refine ⟨⟨hrc, hrs, hR.1, hR.2, pay_in ht hG, hc⟩, ht _ (hG _ hc).1, ok _ (by simp [wsV]), ⟨hd.1, hd.2.1⟩, fun sig h => ?_, ok _ (by simp [wsV]), ok _ (by simp [wsV]), ok _ (by simp [wsV])⟩
  have h2 := hd.2.2
  rw [h] at h2
  exact (Option.some.inj h2).symm
theorem vx_runVW {y : MethodName} {bytes cc : ByteArray} {maxL nL mc ms n index : Nat} {ret : Option FieldType} {hh : List (Nat × Nat × Nat × Nat)} {ws : List Cond} {rm : Room} {Pc : Array Value → State → Prop} {Qc : Array Value → State → Outcome → State → Prop} {free : Addr → Prop} {Ts : List Cond} {own C : String} {b : Addr} {As rest : List Value} {g : JFrame}
    (S : CallFix p m c cc nL s args Ts own) (hM : Met l y ws rm Pc Qc mc ms free) (cw : vx_CVW R s args own C index y bytes maxL ret hh ws rm mc ms n) (hp : PreV s H C b Pc As)
    (hg : g.method = m) (hn : As.length = n) (hsize : g.locals.size = nL) (hstack : g.stack = As.reverse ++ .ref b :: rest) (hW : 2 * g.monitorRoom + (rest.map fun v => v.category).sum ≤ 8) (hdg : decode cc g.pc = .ok (.invokevirtual index, 3)) (hf : cells + mc ≤ R.cells ∧ slots + ms ≤ R.slots) :
    va_Run p l e R s m args below meth c H locs cells slots mc ms g rest (Qc (Value.ref b :: As).toArray) free := by
  obtain ⟨⟨hrc, hrs, hfr, hlo, hws, hcw⟩, hcode, hini, hy, hlen, hl, hin, hse⟩ := cw
  have hK : Back l R p e below s args y 3 8 (PreOf R mc ms Pc) (PostOf Qc mc ms free) := va_backW (hh := hh) (bytes := bytes) (maxL := maxL) (ret := ret) hM hp.1 hrc hrs hfr hlo hws hcw (fun a' U hW => word_at hW (Or.inl (by first | rfl | simp [Cond.onTables, Cond.keeps, Cond.steady])) hini)
  obtain ⟨hx, hb, hml, ho, -⟩ := S
  obtain ⟨-, ⟨cellB, hcB, hoB, hclB⟩, hPc⟩ := hp
  intro T hT X
  obtain ⟨v, vm₁, ⟨U', l2, c2, s2⟩, hW₁, X', ⟨g', mk, t, L, e1, e2, hq, h1, hL, h2, h3⟩, st⟩ := vx_callVW X hx (C := C) (hh := hh) (bytes := bytes) (maxL := maxL) (ret := ret) ho hl hin hse hcode hy hK (by rw [hT]; exact hcB) hoB hclB hg (hsize.trans hml.symm) (argsL := As) (rest := rest) (fun sig h => hn.trans (hlen sig h)) hstack hW (by rw [hb]; exact hdg)
    (fun vm₁ hW₁ => ⟨hf.1, hf.2, hPc (T.setVm vm₁) hT hW₁⟩)
  dsimp only [Pt.U, Pt.locs, Pt.cells, Pt.slots] at X' e1 e2 h1 h2 h3 st
  subst h1; subst h2; subst h3
  exact ⟨v, (T.setVm vm₁).calling g' mk (Value.ref b :: As).toArray, t, U', L, hT, X', hL, e1, e2, hq, st⟩
section
variable {y : MethodName} {bytes cc : ByteArray} {maxL nL mc ms n index : Nat} {ret : Option FieldType} {ws : List Cond} {rm : Room} {Pc : Array Value → State → Prop} {Qc : Array Value → State → Outcome → State → Prop} {XC : String → State → State → Prop} {free : Addr → Prop} {Ts : List Cond} {own C : String} {b : Addr} {As rest : List Value} {g : JFrame}
theorem vx_runVX {hh : List (Nat × Nat × Nat × Nat)} (S : CallFix p m c cc nL s args Ts own) (hM : vx_Met l y ws rm Pc Qc XC mc ms free) (cw : vx_CVW R s args own C index y bytes maxL ret hh ws rm mc ms n) (hp : PreV s H C b Pc As)
    (hg : g.method = m) (hn : As.length = n) (hsize : g.locals.size = nL) (hstack : g.stack = As.reverse ++ .ref b :: rest) (hW : 2 * g.monitorRoom + (rest.map fun v => v.category).sum ≤ 8) (hdg : decode cc g.pc = .ok (.invokevirtual index, 3)) (hf : cells + mc ≤ R.cells ∧ slots + ms ≤ R.slots) :
    vx_Run p l e R s m args below meth c H locs cells slots mc ms g rest (Qc (Value.ref b :: As).toArray) XC free := by
  obtain ⟨⟨hrc, hrs, hfr, hlo, hws, hcw⟩, hcode, hini, hy, hlen, hl, hin, hse⟩ := cw
  have hK : vx_Back l R p e below s args y 3 8 (PreOf R mc ms Pc) (PostOf Qc mc ms free) (vx_Post XC mc ms free) := vx_backW (hh := hh) (bytes := bytes) (maxL := maxL) (ret := ret) hM hp.1 hrc hrs hfr hlo hws hcw (fun a' U hW => word_at hW (Or.inl (by first | rfl | simp [Cond.onTables, Cond.keeps, Cond.steady])) hini)
  obtain ⟨hx, hb, hml, ho, -⟩ := S
  obtain ⟨-, ⟨cellB, hcB, hoB, hclB⟩, hPc⟩ := hp
  intro T hT X
  rcases vx_callVX X hx (C := C) (hh := hh) (bytes := bytes) (maxL := maxL) (ret := ret) ho hl hin hse hcode hy hK (by rw [hT]; exact hcB) hoB hclB hg (hsize.trans hml.symm) (argsL := As) (rest := rest) (fun sig h => hn.trans (hlen sig h)) hstack hW (by rw [hb]; exact hdg)
    (fun vm₁ hW₁ => ⟨hf.1, hf.2, hPc (T.setVm vm₁) hT hW₁⟩) with ⟨v, vm₁, ⟨U', l2, c2, s2⟩, hW₁, X', ⟨g', mk, t, L, e1, e2, hq, h1, hL, h2, h3⟩, st⟩ | ⟨q, vm₁, ⟨U', l2, c2, s2⟩, hW₁, X', ⟨g', mk, t, L, E, ce, e1, e2, hq, hce, hcv, hcl, h1, hL, h2, h3⟩, st⟩
  · dsimp only [Pt.U, Pt.locs, Pt.cells, Pt.slots] at X' e1 e2 h1 h2 h3 st
    subst h1; subst h2; subst h3
    exact Or.inl ⟨v, (T.setVm vm₁).calling g' mk (Value.ref b :: As).toArray, t, U', L, hT, X', hL, e1, e2, hq, st⟩
  · dsimp only [Pt.U, Pt.locs, Pt.cells, Pt.slots] at X' e1 e2 h1 h2 h3 st hcl
    subst h1; subst h2; subst h3
    exact Or.inr ⟨q, (T.setVm vm₁).calling g' mk (Value.ref b :: As).toArray, t, U', L, E, ce, hT, X', hL, e1, e2, hq, hce, hcv, vx_cls hW₁ hcl, st⟩
theorem vx_runSX {hh : List (Nat × Nat × Nat × Nat)} (S : CallFix p m c cc nL s args Ts own) (hM : vx_Met l y ws rm Pc Qc XC mc ms free) (cw : vx_CSW R s args own index y bytes maxL ret hh ws rm mc ms n) (hp : PreS s H Pc As)
    (hg : g.method = m) (hn : As.length = n) (hsize : g.locals.size = nL) (hstack : g.stack = As.reverse ++ rest) (hW : 2 * g.monitorRoom + (rest.map fun v => v.category).sum ≤ 8) (hdg : decode cc g.pc = .ok (.invokestatic index, 3)) (hf : cells + mc ≤ R.cells ∧ slots + ms ≤ R.slots) :
    vx_Run p l e R s m args below meth c H locs cells slots mc ms g rest (Qc As.toArray) XC free := by
  obtain ⟨⟨hrc, hrs, hfr, hlo, hws, hcw⟩, hcode, hini, hy, hlen, hl, hstt⟩ := cw
  have hK : vx_Back l R p e below s args y 3 8 (PreOf R mc ms Pc) (PostOf Qc mc ms free) (vx_Post XC mc ms free) := vx_backW (hh := hh) (bytes := bytes) (maxL := maxL) (ret := ret) hM hp.1 hrc hrs hfr hlo hws hcw (fun a' U hW => word_at hW (Or.inl (by first | rfl | simp [Cond.onTables, Cond.keeps, Cond.steady])) hini)
  obtain ⟨hx, hb, hml, ho, -⟩ := S
  intro T hT X
  rcases vx_callSX X hx (hh := hh) (bytes := bytes) (maxL := maxL) (ret := ret) ho hl hstt hini hcode hy hK hg (hsize.trans hml.symm) (argsL := As) (rest := rest) (fun sig h => hn.trans (hlen sig h)) hstack hW (by rw [hb]; exact hdg)
    (fun vm₁ hW₁ => ⟨hf.1, hf.2, hp.2 (T.setVm vm₁) hT hW₁⟩) with ⟨v, vm₁, ⟨U', l2, c2, s2⟩, hW₁, X', ⟨g', mk, t, L, e1, e2, hq, h1, hL, h2, h3⟩, st⟩ | ⟨q, vm₁, ⟨U', l2, c2, s2⟩, hW₁, X', ⟨g', mk, t, L, E, ce, e1, e2, hq, hce, hcv, hcl, h1, hL, h2, h3⟩, st⟩
  · dsimp only [Pt.U, Pt.locs, Pt.cells, Pt.slots] at X' e1 e2 h1 h2 h3 st
    subst h1; subst h2; subst h3
    exact Or.inl ⟨v, (T.setVm vm₁).calling g' mk As.toArray, t, U', L, hT, X', hL, e1, e2, hq, st⟩
  · dsimp only [Pt.U, Pt.locs, Pt.cells, Pt.slots] at X' e1 e2 h1 h2 h3 st hcl
    subst h1; subst h2; subst h3
    exact Or.inr ⟨q, (T.setVm vm₁).calling g' mk As.toArray, t, U', L, E, ce, hT, X', hL, e1, e2, hq, hce, hcv, vx_cls hW₁ hcl, st⟩
end
end VXH
theorem vx_ofWH {l : Launch} {y : MethodName} {ws ws' : List Cond} {rm : Room} {Pc : Array Value → State → Prop} {Qc : Array Value → State → Outcome → State → Prop} {XC : String → State → State → Prop} {mc ms : Nat} {free : Addr → Prop} {cc : ByteArray} {maxL : Nat} {ret : Option FieldType} {hh : List (Nat × Nat × Nat × Nat)}
    (hy : plainName y.cls = true) (hw : ws = Cond.codeWith y cc maxL ret hh :: ws')
    (body : ∀ p e s m args below meth c s₁, BodyLoose p l y (headSpec ws rm) cc maxL ret e s m args below meth c s₁ → c.maxLocals = maxL → Pc args s →
      W p l e (headSpec ws rm).room s m args below meth c s.heap [] 0 0 (vx_MQ below Qc XC args s mc ms free) (entryFrame m args maxL)) : vx_Met l y ws rm Pc Qc XC mc ms free := by
  refine MetFree.of_bodyS (code := cc) (maxLocals := maxL) (ret := ret) hy ?_ ?_
  · intro args s m h hn
    obtain ⟨m9, meth, c, hn9, h1, h2, h3, h4, -, h5, h6, -⟩ := Cond.codeWith_spec (atoms_spec (ws := ws) h _ (by rw [hw]; exact List.mem_cons_self))
    cases hn.symm.trans hn9
    exact ⟨meth, c, h1, h2, h3, h4, h5, h6⟩
  · intro p e s m args below meth c s₁ B hml hP _
    have hh0 : s₁.heap = s.heap := by rw [B.state]; rfl
    obtain ⟨t, a1, o, b1, b2, b3⟩ := body p e s m args below meth c s₁ B hml hP s₁ hh0 (Stand.of_body B)
    exact ⟨t, o, a1, b1, b2, b3⟩
/-! ===== END ===== -/
end
section
/-! ===== BEGIN a private method of a nest mate that may throw (follows va_callVN, va_callSN, va_runVN, va_runSN) ===== -/
section
variable {p : Program} {l : Launch} {e : Env} {R : Room} {s : State} {m : MethodId} {args : Array Value} {below : List Frame} {meth : Method} {c : Code} {H : Heap} {locs : List Loc} {cells slots : Nat}
variable {T : State}
theorem vx_callVN (X : Stand p l e R s m args below meth c T locs cells slots) (hexec : p.tables.exec = Jvm.exec) {own C : String} {index : Nat} {host : String} {y : MethodName} {bytes : ByteArray} {maxL : Nat} {ret : Option FieldType}
    (hown : s.vm.findClass own = some m.cls) (hlink : (Cond.methodLinkNest own index y host).before args s = true) (hinst : (Cond.instanceMethod y).before args s = true) (hsel : (Cond.selects C y y).before args s = true)
    (hcode : (Cond.code y bytes maxL ret).before args s = true) (hy : y.cls ≠ "java/lang/invoke/MethodHandle" ∧ y.cls ≠ "java/lang/invoke/VarHandle")
    {W : Nat} {Pre : Pt → Array Value → Prop} {Post : Pt → Array Value → Option Value → Pt → Prop} {PostX : Pt → Array Value → Addr → Pt → Prop} (hK : vx_Back l R p e below s args y 3 W Pre Post PostX)
    {b : Addr} {cellB : Cell} (hcell : T.heap[b]? = some cellB) (hobj : cellB.vm.isStatics = false) (hcls : s.vm.findClass C = some cellB.cls)
    {g : JFrame} (hg : g.method = m) (hsize : g.locals.size = c.maxLocals) {argsL rest : List Value} (hlen : ∀ sig, parseMethodDescriptor y.desc = some sig → argsL.length = sig.parameters.length)
    (hstack : g.stack = argsL.reverse ++ .ref b :: rest) (hW : 2 * g.monitorRoom + (rest.map fun v => v.category).sum ≤ W) (hdg : decode c.code g.pc = .ok (.invokevirtual index, 3))
    (hpre : ∀ vm₁, s.WarmedH vm₁ → Pre ⟨T.setVm vm₁, locs, cells, slots⟩ (Value.ref b :: argsL).toArray) :
    (∃ (v : Option Value) (vm₁ : Vm) (B : Pt), s.WarmedH vm₁ ∧ Stand p l e R s m args below meth c B.U B.locs B.cells B.slots ∧ Post ⟨T.setVm vm₁, locs, cells, slots⟩ (Value.ref b :: argsL).toArray v B ∧
      ∀ target, Steps p.tables e below (B.U.setTop { g with pc := g.pc + 3, stack := v.toList ++ rest }) target → Steps p.tables e below (T.setTop g) target) ∨
    (∃ (q : Addr) (vm₁ : Vm) (B : Pt), s.WarmedH vm₁ ∧ Stand p l e R s m args below meth c B.U B.locs B.cells B.slots ∧ PostX ⟨T.setVm vm₁, locs, cells, slots⟩ (Value.ref b :: argsL).toArray q B ∧
      Steps p.tables e below (T.setTop g) ((B.U.setTop { g with stack := rest }).pushFrame (.throwing q))) := by
  obtain ⟨mk, methM, hnamed, hmethM, hstM, habM⟩ := Cond.instanceMethod_spec hinst
  obtain ⟨methM', cM, hmethM', -, -, -, -, -, -, hsigM⟩ := Cond.code_spec hnamed hcode
  cases hmethM.symm.trans hmethM'
  obtain ⟨c2, r2, m2, q1, q2, q3, q4, kP, hkP, hkPi⟩ := Cond.selects_spec hsel
  cases hcls.symm.trans q1
  cases (State.methodFound?_of_named hnamed hy).symm.trans q2
  cases hnamed.symm.trans q3
  have hselP : selectMethod e.platform s.vm cellB.cls mk = .method mk := by rw [Launch.admits_selectMethod X.admits]; exact q4
  obtain ⟨vm₁, X₁, hstep₁⟩ := X.invokevirtualNest hexec hown hlink hnamed hmethM hstM hkP hkPi hy (a := b) (cell := cellB) hcell
    (fun z h => by rw [h] at hobj; cases hobj) hselP hmethM habM hkP hkPi (g := g) hg (argsL := argsL) (rest := rest) (hlen _ hsigM) hstack hdg
  rcases hK m meth c ⟨T.setVm vm₁, locs, cells, slots⟩ { g with stack := rest } (.invokevirtual index) mk (Value.ref b :: argsL).toArray X₁ hg hsize hdg hW (X₁.named hnamed) (hpre vm₁ X₁.warmed) with ⟨v, B, X', hpost, hsteps⟩ | ⟨q, B, X', hpost, hsteps⟩
  · exact Or.inl ⟨v, vm₁, B, X₁.warmed, X', hpost, fun target h => hstep₁ _ fun acts => by rw [doInvoke_state]; exact hsteps.trans h⟩
  · exact Or.inr ⟨q, vm₁, B, X₁.warmed, X', hpost, hstep₁ _ fun acts => by rw [doInvoke_state]; exact hsteps⟩
theorem vx_callSN (X : Stand p l e R s m args below meth c T locs cells slots) (hexec : p.tables.exec = Jvm.exec) {own : String} {index : Nat} {host : String} {y : MethodName} {bytes : ByteArray} {maxL : Nat} {ret : Option FieldType}
    (hown : s.vm.findClass own = some m.cls) (hlink : (Cond.methodLinkNest own index y host).before args s = true) (hstat : (Cond.static y).before args s = true) (hinit : (Cond.initialized y.cls).before args s = true)
    (hcode : (Cond.code y bytes maxL ret).before args s = true) (hy : y.cls ≠ "java/lang/invoke/MethodHandle" ∧ y.cls ≠ "java/lang/invoke/VarHandle")
    {W : Nat} {Pre : Pt → Array Value → Prop} {Post : Pt → Array Value → Option Value → Pt → Prop} {PostX : Pt → Array Value → Addr → Pt → Prop} (hK : vx_Back l R p e below s args y 3 W Pre Post PostX)
    {g : JFrame} (hg : g.method = m) (hsize : g.locals.size = c.maxLocals) {argsL rest : List Value} (hlen : ∀ sig, parseMethodDescriptor y.desc = some sig → argsL.length = sig.parameters.length)
    (hstack : g.stack = argsL.reverse ++ rest) (hW : 2 * g.monitorRoom + (rest.map fun v => v.category).sum ≤ W) (hdg : decode c.code g.pc = .ok (.invokestatic index, 3))
    (hpre : ∀ vm₁, s.WarmedH vm₁ → Pre ⟨T.setVm vm₁, locs, cells, slots⟩ argsL.toArray) :
    (∃ (v : Option Value) (vm₁ : Vm) (B : Pt), s.WarmedH vm₁ ∧ Stand p l e R s m args below meth c B.U B.locs B.cells B.slots ∧ Post ⟨T.setVm vm₁, locs, cells, slots⟩ argsL.toArray v B ∧
      ∀ target, Steps p.tables e below (B.U.setTop { g with pc := g.pc + 3, stack := v.toList ++ rest }) target → Steps p.tables e below (T.setTop g) target) ∨
    (∃ (q : Addr) (vm₁ : Vm) (B : Pt), s.WarmedH vm₁ ∧ Stand p l e R s m args below meth c B.U B.locs B.cells B.slots ∧ PostX ⟨T.setVm vm₁, locs, cells, slots⟩ argsL.toArray q B ∧
      Steps p.tables e below (T.setTop g) ((B.U.setTop { g with stack := rest }).pushFrame (.throwing q))) := by
  obtain ⟨mk, hnamed⟩ := Cond.code_named hcode
  obtain ⟨methM, cM, hmethM, -, -, -, -, -, -, hsigM⟩ := Cond.code_spec hnamed hcode
  have hstatic : methM.isStatic = true := Cond.static_spec hnamed hmethM hstat
  obtain ⟨kP, hkP, -⟩ := className_of_methodNamed hnamed
  have hinitP : kP.init = .initialized := Cond.initialized_spec (findClass_of_methodNamed hnamed) hkP hinit
  obtain ⟨vm₁, X₁, hstep₁⟩ := X.invokestaticNest hexec hown hlink hnamed hmethM hstatic hkP hinitP hy (g := g) hg (argsL := argsL) (rest := rest) (hlen _ hsigM) hstack hdg
  rcases hK m meth c ⟨T.setVm vm₁, locs, cells, slots⟩ { g with stack := rest } (.invokestatic index) mk argsL.toArray X₁ hg hsize hdg hW (X₁.named hnamed) (hpre vm₁ X₁.warmed) with ⟨v, B, X', hpost, hsteps⟩ | ⟨q, B, X', hpost, hsteps⟩
  · exact Or.inl ⟨v, vm₁, B, X₁.warmed, X', hpost, fun target h => hstep₁ _ fun acts => by rw [doInvoke_state]; exact hsteps.trans h⟩
  · exact Or.inr ⟨q, vm₁, B, X₁.warmed, X', hpost, hstep₁ _ fun acts => by rw [doInvoke_state]; exact hsteps⟩
theorem vx_runVN {y : MethodName} {bytes cc : ByteArray} {maxL nL mc ms n index : Nat} {ret : Option FieldType} {ws : List Cond} {rm : Room} {Pc : Array Value → State → Prop} {Qc : Array Value → State → Outcome → State → Prop} {XC : String → State → State → Prop} {free : Addr → Prop} {Ts : List Cond} {own C host : String} {b : Addr} {As rest : List Value} {g : JFrame}
    (S : CallFix p m c cc nL s args Ts own) (hM : vx_Met l y ws rm Pc Qc XC mc ms free) (cw : va_CN R s args own index y host bytes maxL ret ws rm mc ms n ∧ (Cond.instanceMethod y).before args s = true ∧ (Cond.selects C y y).before args s = true) (hp : PreV s H C b Pc As)
    (hg : g.method = m) (hn : As.length = n) (hsize : g.locals.size = nL) (hstack : g.stack = As.reverse ++ .ref b :: rest) (hW : 2 * g.monitorRoom + (rest.map fun v => v.category).sum ≤ 8) (hdg : decode cc g.pc = .ok (.invokevirtual index, 3)) (hf : cells + mc ≤ R.cells ∧ slots + ms ≤ R.slots) :
    vx_Run p l e R s m args below meth c H locs cells slots mc ms g rest (Qc (Value.ref b :: As).toArray) XC free := by
  obtain ⟨⟨⟨hrc, hrs, hfr, hlo, hws, hcw⟩, hcode, hini, hy, hlen, hl⟩, hx1, hx2⟩ := cw
  have hK : vx_Back l R p e below s args y 3 8 (PreOf R mc ms Pc) (PostOf Qc mc ms free) (vx_Post XC mc ms free) := vx_back (bytes := bytes) (maxL := maxL) (ret := ret) hM hp.1 hrc hrs hfr hlo hws hcw (fun a' U hW => word_at hW (Or.inl (by first | rfl | simp [Cond.onTables, Cond.keeps, Cond.steady])) hini)
  obtain ⟨hx, hb, hml, ho, -⟩ := S
  obtain ⟨-, ⟨cellB, hcB, hoB, hclB⟩, hPc⟩ := hp
  intro T hT X
  rcases vx_callVN X hx (C := C) (bytes := bytes) (maxL := maxL) (ret := ret) ho hl hx1 hx2 hcode hy hK (by rw [hT]; exact hcB) hoB hclB hg (hsize.trans hml.symm) (argsL := As) (rest := rest) (fun sig h => hn.trans (hlen sig h)) hstack hW (by rw [hb]; exact hdg)
    (fun vm₁ hW₁ => ⟨hf.1, hf.2, hPc (T.setVm vm₁) hT hW₁⟩) with ⟨v, vm₁, ⟨U', l2, c2, s2⟩, hW₁, X', ⟨g', mk, t, L, e1, e2, hq, h1, hL, h2, h3⟩, st⟩ | ⟨q, vm₁, ⟨U', l2, c2, s2⟩, hW₁, X', ⟨g', mk, t, L, E, ce, e1, e2, hq, hce, hcv, hcl, h1, hL, h2, h3⟩, st⟩
  · dsimp only [Pt.U, Pt.locs, Pt.cells, Pt.slots] at X' e1 e2 h1 h2 h3 st
    subst h1; subst h2; subst h3
    exact Or.inl ⟨v, (T.setVm vm₁).calling g' mk (Value.ref b :: As).toArray, t, U', L, hT, X', hL, e1, e2, hq, st⟩
  · dsimp only [Pt.U, Pt.locs, Pt.cells, Pt.slots] at X' e1 e2 h1 h2 h3 st hcl
    subst h1; subst h2; subst h3
    exact Or.inr ⟨q, (T.setVm vm₁).calling g' mk (Value.ref b :: As).toArray, t, U', L, E, ce, hT, X', hL, e1, e2, hq, hce, hcv, vx_cls hW₁ hcl, st⟩
theorem vx_runSN {y : MethodName} {bytes cc : ByteArray} {maxL nL mc ms n index : Nat} {ret : Option FieldType} {ws : List Cond} {rm : Room} {Pc : Array Value → State → Prop} {Qc : Array Value → State → Outcome → State → Prop} {XC : String → State → State → Prop} {free : Addr → Prop} {Ts : List Cond} {own host : String} {As rest : List Value} {g : JFrame}
    (S : CallFix p m c cc nL s args Ts own) (hM : vx_Met l y ws rm Pc Qc XC mc ms free) (cw : va_CN R s args own index y host bytes maxL ret ws rm mc ms n ∧ (Cond.static y).before args s = true ∧ True) (hp : PreS s H Pc As)
    (hg : g.method = m) (hn : As.length = n) (hsize : g.locals.size = nL) (hstack : g.stack = As.reverse ++ rest) (hW : 2 * g.monitorRoom + (rest.map fun v => v.category).sum ≤ 8) (hdg : decode cc g.pc = .ok (.invokestatic index, 3)) (hf : cells + mc ≤ R.cells ∧ slots + ms ≤ R.slots) :
    vx_Run p l e R s m args below meth c H locs cells slots mc ms g rest (Qc As.toArray) XC free := by
  obtain ⟨⟨⟨hrc, hrs, hfr, hlo, hws, hcw⟩, hcode, hini, hy, hlen, hl⟩, hx1, hx2⟩ := cw
  have hK : vx_Back l R p e below s args y 3 8 (PreOf R mc ms Pc) (PostOf Qc mc ms free) (vx_Post XC mc ms free) := vx_back (bytes := bytes) (maxL := maxL) (ret := ret) hM hp.1 hrc hrs hfr hlo hws hcw (fun a' U hW => word_at hW (Or.inl (by first | rfl | simp [Cond.onTables, Cond.keeps, Cond.steady])) hini)
  obtain ⟨hx, hb, hml, ho, -⟩ := S
  have hPc := hp.2
  intro T hT X
  rcases vx_callSN X hx (bytes := bytes) (maxL := maxL) (ret := ret) ho hl hx1 hini hcode hy hK hg (hsize.trans hml.symm) (argsL := As) (rest := rest) (fun sig h => hn.trans (hlen sig h)) hstack hW (by rw [hb]; exact hdg)
    (fun vm₁ hW₁ => ⟨hf.1, hf.2, hPc (T.setVm vm₁) hT hW₁⟩) with ⟨v, vm₁, ⟨U', l2, c2, s2⟩, hW₁, X', ⟨g', mk, t, L, e1, e2, hq, h1, hL, h2, h3⟩, st⟩ | ⟨q, vm₁, ⟨U', l2, c2, s2⟩, hW₁, X', ⟨g', mk, t, L, E, ce, e1, e2, hq, hce, hcv, hcl, h1, hL, h2, h3⟩, st⟩
  · dsimp only [Pt.U, Pt.locs, Pt.cells, Pt.slots] at X' e1 e2 h1 h2 h3 st
    subst h1; subst h2; subst h3
    exact Or.inl ⟨v, (T.setVm vm₁).calling g' mk As.toArray, t, U', L, hT, X', hL, e1, e2, hq, st⟩
  · dsimp only [Pt.U, Pt.locs, Pt.cells, Pt.slots] at X' e1 e2 h1 h2 h3 st hcl
    subst h1; subst h2; subst h3
    exact Or.inr ⟨q, (T.setVm vm₁).calling g' mk As.toArray, t, U', L, E, ce, hT, X', hL, e1, e2, hq, hce, hcv, vx_cls hW₁ hcl, st⟩
end
/-! ===== END ===== -/
end
section
def RX0 : String := "ShadowTolls$Law"
def TX0 : u_T := fun k => match k with
  | 0 => ("ShadowTolls$Law", "steps", "[I", true)
  | 1 => ("ShadowTolls$Law", "facts", "[I", true)
  | 2 => ("ShadowTolls$Law", "stack", "[I", true)
  | _ => ("ShadowTolls$Law", "length", "I", false)
def tyX0 : Nat → FieldType := fun k => match k with
  | 0 => .array .int
  | 1 => .array .int
  | 2 => .array .int
  | _ => .int
abbrev wsX00 : List Cond := u_ws RX0 TX0 4
theorem nmX0 : ∀ a, a < 4 → ∀ b, b < 4 → a ≠ b → (TX0 a).2.1 ≠ (TX0 b).2.1 := by decide +kernel
theorem tyX0_ok : ∀ k, k < 4 → parseFieldDescriptor (TX0 k).2.2.1 = some (tyX0 k) := by decide +kernel
abbrev cX0_init : ByteArray := prog_2_method_1_code
def yX0_init : MethodName := ⟨RX0, "<init>", "()V"⟩
abbrev cX0_empty : ByteArray := prog_2_method_2_code
def yX0_empty : MethodName := ⟨RX0, "empty", "()V"⟩
abbrev cX0_add : ByteArray := prog_2_method_3_code
def yX0_add : MethodName := ⟨RX0, "add", "(I)V"⟩
abbrev cX0_copy : ByteArray := prog_2_method_4_code
def yX0_copy : MethodName := ⟨RX0, "copy", "(LShadowTolls$Law;)V"⟩
abbrev cX0_beTwoLines : ByteArray := prog_2_method_5_code
def yX0_beTwoLines : MethodName := ⟨RX0, "beTwoLines", "(II)V"⟩
abbrev cX0_addLine : ByteArray := prog_2_method_6_code
def yX0_addLine : MethodName := ⟨RX0, "addLine", "(III)V"⟩
abbrev cX0_learn : ByteArray := prog_2_method_7_code
def yX0_learn : MethodName := ⟨RX0, "learn", "(II)V"⟩
abbrev cX0_sum : ByteArray := prog_2_method_8_code
def yX0_sum : MethodName := ⟨RX0, "sum", "()I"⟩
abbrev cX0_joined : ByteArray := prog_2_method_9_code
def yX0_joined : MethodName := ⟨RX0, "joined", "(III)I"⟩
def RX1 : String := "ShadowTolls$LawReader"
def TX1 : u_T := fun k => match k with
  | 0 => ("ShadowTolls$LawReader", "text", "LShadowTolls$Text;", true)
  | _ => ("ShadowTolls$LawReader", "law", "LShadowTolls$Law;", true)
def tyX1 : Nat → FieldType := fun k => match k with
  | 0 => .object "ShadowTolls$Text"
  | _ => .object "ShadowTolls$Law"
abbrev wsX10 : List Cond := u_ws RX1 TX1 2
theorem nmX1 : ∀ a, a < 2 → ∀ b, b < 2 → a ≠ b → (TX1 a).2.1 ≠ (TX1 b).2.1 := by decide +kernel
theorem tyX1_ok : ∀ k, k < 2 → parseFieldDescriptor (TX1 k).2.2.1 = some (tyX1 k) := by decide +kernel
abbrev cX1_init : ByteArray := prog_3_method_1_code
def yX1_init : MethodName := ⟨RX1, "<init>", "(LShadowTolls$Text;LShadowTolls$Law;)V"⟩
abbrev cX1_rows : ByteArray := prog_3_method_2_code
def yX1_rows : MethodName := ⟨RX1, "rows", "()Z"⟩
abbrev cX1_condition : ByteArray := prog_3_method_3_code
def yX1_condition : MethodName := ⟨RX1, "condition", "(I)Z"⟩
abbrev cX1_clause : ByteArray := prog_3_method_4_code
def yX1_clause : MethodName := ⟨RX1, "clause", "(I)Z"⟩
abbrev cX1_number : ByteArray := prog_3_method_5_code
def yX1_number : MethodName := ⟨RX1, "number", "(I)Z"⟩
abbrev cX1_unit : ByteArray := prog_3_method_6_code
def yX1_unit : MethodName := ⟨RX1, "unit", "(I)Z"⟩
def RX2 : String := "ShadowTolls$Planner"
def TX2 : u_T := fun k => match k with
  | 0 => ("ShadowTolls$Planner", "road", "LShadowTolls$Road;", true)
  | 1 => ("ShadowTolls$Planner", "comers", "[I", true)
  | 2 => ("ShadowTolls$Planner", "clear", "[I", true)
  | 3 => ("ShadowTolls$Planner", "dark", "[I", true)
  | 4 => ("ShadowTolls$Planner", "extras", "[I", true)
  | 5 => ("ShadowTolls$Planner", "least", "[I", true)
  | 6 => ("ShadowTolls$Planner", "holders", "[I", true)
  | 7 => ("ShadowTolls$Planner", "paid", "[I", true)
  | 8 => ("ShadowTolls$Planner", "earned", "[I", true)
  | 9 => ("ShadowTolls$Planner", "order", "[I", true)
  | 10 => ("ShadowTolls$Planner", "lower", "[I", true)
  | 11 => ("ShadowTolls$Planner", "rests", "[I", true)
  | 12 => ("ShadowTolls$Planner", "lowers", "[I", true)
  | 13 => ("ShadowTolls$Planner", "tallers", "[I", true)
  | 14 => ("ShadowTolls$Planner", "bits", "I", false)
  | 15 => ("ShadowTolls$Planner", "each", "I", false)
  | 16 => ("ShadowTolls$Planner", "all", "I", false)
  | 17 => ("ShadowTolls$Planner", "leftOut", "I", false)
  | 18 => ("ShadowTolls$Planner", "costs", "I", false)
  | _ => ("ShadowTolls$Planner", "jam", "I", false)
def tyX2 : Nat → FieldType := fun k => match k with
  | 0 => .object "ShadowTolls$Road"
  | 1 => .array .int
  | 2 => .array .int
  | 3 => .array .int
  | 4 => .array .int
  | 5 => .array .int
  | 6 => .array .int
  | 7 => .array .int
  | 8 => .array .int
  | 9 => .array .int
  | 10 => .array .int
  | 11 => .array .int
  | 12 => .array .int
  | 13 => .array .int
  | 14 => .int
  | 15 => .int
  | 16 => .int
  | 17 => .int
  | 18 => .int
  | _ => .int
abbrev wsX20 : List Cond := u_ws RX2 TX2 20
theorem nmX2 : ∀ a, a < 20 → ∀ b, b < 20 → a ≠ b → (TX2 a).2.1 ≠ (TX2 b).2.1 := by decide +kernel
theorem tyX2_ok : ∀ k, k < 20 → parseFieldDescriptor (TX2 k).2.2.1 = some (tyX2 k) := by decide +kernel
abbrev cX2_init : ByteArray := prog_4_method_1_code
def yX2_init : MethodName := ⟨RX2, "<init>", "(LShadowTolls$Road;)V"⟩
abbrev cX2_begin : ByteArray := prog_4_method_2_code
def yX2_begin : MethodName := ⟨RX2, "begin", "(IZ)V"⟩
abbrev cX2_rank : ByteArray := prog_4_method_3_code
def yX2_rank : MethodName := ⟨RX2, "rank", "()V"⟩
abbrev cX2_price : ByteArray := prog_4_method_4_code
def yX2_price : MethodName := ⟨RX2, "price", "(LShadowTolls$Law;II)V"⟩
abbrev cX2_greatestTaking : ByteArray := prog_4_method_5_code
def yX2_greatestTaking : MethodName := ⟨RX2, "greatestTaking", "()I"⟩
abbrev cX2_solve : ByteArray := prog_4_method_6_code
def yX2_solve : MethodName := ⟨RX2, "solve", "(I)V"⟩
abbrev cX2_solveFrom : ByteArray := prog_4_method_7_code
def yX2_solveFrom : MethodName := ⟨RX2, "solveFrom", "(II)V"⟩
abbrev cX2_weigh : ByteArray := prog_4_method_8_code
def yX2_weigh : MethodName := ⟨RX2, "weigh", "(II)V"⟩
abbrev cX2_restBehind : ByteArray := prog_4_method_9_code
def yX2_restBehind : MethodName := ⟨RX2, "restBehind", "(III)I"⟩
abbrev cX2_coinsIn : ByteArray := prog_4_method_10_code
def yX2_coinsIn : MethodName := ⟨RX2, "coinsIn", "(III)I"⟩
abbrev cX2_shadeReaches : ByteArray := prog_4_method_11_code
def yX2_shadeReaches : MethodName := ⟨RX2, "shadeReaches", "(I)Z"⟩
abbrev cX2_index : ByteArray := prog_4_method_12_code
def yX2_index : MethodName := ⟨RX2, "index", "(III)I"⟩
abbrev cX2_seat : ByteArray := prog_4_method_13_code
def yX2_seat : MethodName := ⟨RX2, "seat", "()V"⟩
abbrev cX2_holderOf : ByteArray := prog_4_method_14_code
def yX2_holderOf : MethodName := ⟨RX2, "holderOf", "(III)I"⟩
abbrev cX2_forgetSums : ByteArray := prog_4_method_15_code
def yX2_forgetSums : MethodName := ⟨RX2, "forgetSums", "()V"⟩
abbrev cX2_addUp : ByteArray := prog_4_method_16_code
def yX2_addUp : MethodName := ⟨RX2, "addUp", "(II)V"⟩
abbrev cX2_minuteOf : ByteArray := prog_4_method_17_code
def yX2_minuteOf : MethodName := ⟨RX2, "minuteOf", "(I)I"⟩
abbrev cX2_earnedAt : ByteArray := prog_4_method_18_code
def yX2_earnedAt : MethodName := ⟨RX2, "earnedAt", "(I)I"⟩
abbrev cX2_slotOf : ByteArray := prog_4_method_19_code
def yX2_slotOf : MethodName := ⟨RX2, "slotOf", "(I)I"⟩
def RX3 : String := "ShadowTolls$Records"
def TX3 : u_T := fun k => match k with
  | 0 => ("ShadowTolls$Records", "tollOf", "[I", true)
  | 1 => ("ShadowTolls$Records", "crossDays", "[I", true)
  | 2 => ("ShadowTolls$Records", "crossCoins", "[I", true)
  | 3 => ("ShadowTolls$Records", "written", "[I", true)
  | 4 => ("ShadowTolls$Records", "ledgerMinutes", "[I", true)
  | 5 => ("ShadowTolls$Records", "ledgerCoins", "[I", true)
  | 6 => ("ShadowTolls$Records", "crossings", "I", false)
  | _ => ("ShadowTolls$Records", "ledgerRows", "I", false)
def tyX3 : Nat → FieldType := fun k => match k with
  | 0 => .array .int
  | 1 => .array .int
  | 2 => .array .int
  | 3 => .array .int
  | 4 => .array .int
  | 5 => .array .int
  | 6 => .int
  | _ => .int
abbrev wsX30 : List Cond := u_ws RX3 TX3 8
theorem nmX3 : ∀ a, a < 8 → ∀ b, b < 8 → a ≠ b → (TX3 a).2.1 ≠ (TX3 b).2.1 := by decide +kernel
theorem tyX3_ok : ∀ k, k < 8 → parseFieldDescriptor (TX3 k).2.2.1 = some (tyX3 k) := by decide +kernel
abbrev cX3_init : ByteArray := prog_5_method_1_code
def yX3_init : MethodName := ⟨RX3, "<init>", "()V"⟩
abbrev cX3_clear : ByteArray := prog_5_method_2_code
def yX3_clear : MethodName := ⟨RX3, "clear", "()V"⟩
abbrev cX3_copy : ByteArray := prog_5_method_3_code
def yX3_copy : MethodName := ⟨RX3, "copy", "(LShadowTolls$Records;)V"⟩
abbrev cX3_addCrossing : ByteArray := prog_5_method_4_code
def yX3_addCrossing : MethodName := ⟨RX3, "addCrossing", "(II)V"⟩
abbrev cX3_addLedgerRow : ByteArray := prog_5_method_5_code
def yX3_addLedgerRow : MethodName := ⟨RX3, "addLedgerRow", "(II)V"⟩
abbrev cX3_sum : ByteArray := prog_5_method_6_code
def yX3_sum : MethodName := ⟨RX3, "sum", "(I)I"⟩
abbrev cX3_daysWritten : ByteArray := prog_5_method_7_code
def yX3_daysWritten : MethodName := ⟨RX3, "daysWritten", "()I"⟩
def RX4 : String := "ShadowTolls$Road"
def TX4 : u_T := fun k => match k with
  | 0 => ("ShadowTolls$Road", "suns", "[I", true)
  | 1 => ("ShadowTolls$Road", "noons", "[I", true)
  | 2 => ("ShadowTolls$Road", "feasts", "[I", true)
  | 3 => ("ShadowTolls$Road", "people", "[I", true)
  | 4 => ("ShadowTolls$Road", "travellers", "I", false)
  | 5 => ("ShadowTolls$Road", "falls", "I", false)
  | 6 => ("ShadowTolls$Road", "opens", "I", false)
  | 7 => ("ShadowTolls$Road", "closes", "I", false)
  | 8 => ("ShadowTolls$Road", "takes", "I", false)
  | 9 => ("ShadowTolls$Road", "clouds", "I", false)
  | 10 => ("ShadowTolls$Road", "lamp", "I", false)
  | 11 => ("ShadowTolls$Road", "early", "I", false)
  | 12 => ("ShadowTolls$Road", "way", "I", false)
  | 13 => ("ShadowTolls$Road", "shades", "Z", false)
  | _ => ("ShadowTolls$Road", "second", "Z", false)
def tyX4 : Nat → FieldType := fun k => match k with
  | 0 => .array .int
  | 1 => .array .int
  | 2 => .array .int
  | 3 => .array .int
  | 4 => .int
  | 5 => .int
  | 6 => .int
  | 7 => .int
  | 8 => .int
  | 9 => .int
  | 10 => .int
  | 11 => .int
  | 12 => .int
  | 13 => .boolean
  | _ => .boolean
abbrev wsX40 : List Cond := u_ws RX4 TX4 15
theorem nmX4 : ∀ a, a < 15 → ∀ b, b < 15 → a ≠ b → (TX4 a).2.1 ≠ (TX4 b).2.1 := by decide +kernel
theorem tyX4_ok : ∀ k, k < 15 → parseFieldDescriptor (TX4 k).2.2.1 = some (tyX4 k) := by decide +kernel
abbrev cX4_init : ByteArray := prog_6_method_1_code
def yX4_init : MethodName := ⟨RX4, "<init>", "()V"⟩
abbrev cX4_beUntold : ByteArray := prog_6_method_2_code
def yX4_beUntold : MethodName := ⟨RX4, "beUntold", "()V"⟩
abbrev cX4_copy : ByteArray := prog_6_method_3_code
def yX4_copy : MethodName := ⟨RX4, "copy", "(LShadowTolls$Road;)V"⟩
abbrev cX4_spreadSuns : ByteArray := prog_6_method_4_code
def yX4_spreadSuns : MethodName := ⟨RX4, "spreadSuns", "()V"⟩
abbrev cX4_trait : ByteArray := prog_6_method_5_code
def yX4_trait : MethodName := ⟨RX4, "trait", "(II)I"⟩
abbrev cX4_setTrait : ByteArray := prog_6_method_6_code
def yX4_setTrait : MethodName := ⟨RX4, "setTrait", "(III)V"⟩
abbrev cX4_standing : ByteArray := prog_6_method_7_code
def yX4_standing : MethodName := ⟨RX4, "standing", "(I)I"⟩
abbrev cX4_everybody : ByteArray := prog_6_method_8_code
def yX4_everybody : MethodName := ⟨RX4, "everybody", "()I"⟩
abbrev cX4_isOpen : ByteArray := prog_6_method_9_code
def yX4_isOpen : MethodName := ⟨RX4, "isOpen", "(I)Z"⟩
abbrev cX4_mayCome : ByteArray := prog_6_method_10_code
def yX4_mayCome : MethodName := ⟨RX4, "mayCome", "(II)Z"⟩
abbrev cX4_slotCount : ByteArray := prog_6_method_11_code
def yX4_slotCount : MethodName := ⟨RX4, "slotCount", "()I"⟩
abbrev cX4_slotMinute : ByteArray := prog_6_method_12_code
def yX4_slotMinute : MethodName := ⟨RX4, "slotMinute", "(I)I"⟩
abbrev cX4_altitudeAt : ByteArray := prog_6_method_13_code
def yX4_altitudeAt : MethodName := ⟨RX4, "altitudeAt", "(III)I"⟩
abbrev cX4_extra : ByteArray := prog_6_method_14_code
def yX4_extra : MethodName := ⟨RX4, "extra", "(III)I"⟩
abbrev cX4_charge : ByteArray := prog_6_method_15_code
def yX4_charge : MethodName := ⟨RX4, "charge", "(LShadowTolls$Law;IIIII)I"⟩
abbrev cX4_fare : ByteArray := prog_6_method_16_code
def yX4_fare : MethodName := ⟨RX4, "fare", "(LShadowTolls$Law;IIIIZ)I"⟩
def RX5 : String := "ShadowTolls$RoadReader"
def TX5 : u_T := fun k => match k with
  | 0 => ("ShadowTolls$RoadReader", "text", "LShadowTolls$Text;", true)
  | _ => ("ShadowTolls$RoadReader", "road", "LShadowTolls$Road;", true)
def tyX5 : Nat → FieldType := fun k => match k with
  | 0 => .object "ShadowTolls$Text"
  | _ => .object "ShadowTolls$Road"
abbrev wsX50 : List Cond := u_ws RX5 TX5 2
theorem nmX5 : ∀ a, a < 2 → ∀ b, b < 2 → a ≠ b → (TX5 a).2.1 ≠ (TX5 b).2.1 := by decide +kernel
theorem tyX5_ok : ∀ k, k < 2 → parseFieldDescriptor (TX5 k).2.2.1 = some (tyX5 k) := by decide +kernel
abbrev cX5_init : ByteArray := prog_7_method_1_code
def yX5_init : MethodName := ⟨RX5, "<init>", "(LShadowTolls$Text;LShadowTolls$Road;)V"⟩
abbrev cX5_clauses : ByteArray := prog_7_method_2_code
def yX5_clauses : MethodName := ⟨RX5, "clauses", "()Z"⟩
abbrev cX5_clause : ByteArray := prog_7_method_3_code
def yX5_clause : MethodName := ⟨RX5, "clause", "(I)Z"⟩
abbrev cX5_clauseWord : ByteArray := prog_7_method_4_code
def yX5_clauseWord : MethodName := ⟨RX5, "clauseWord", "()I"⟩
abbrev cX5_parts : ByteArray := prog_7_method_5_code
def yX5_parts : MethodName := ⟨RX5, "parts", "(I)Z"⟩
abbrev cX5_single : ByteArray := prog_7_method_6_code
def yX5_single : MethodName := ⟨RX5, "single", "(I)Z"⟩
abbrev cX5_greatest : ByteArray := prog_7_method_7_code
def yX5_greatest : MethodName := ⟨RX5, "greatest", "(I)I"⟩
abbrev cX5_sun : ByteArray := prog_7_method_8_code
def yX5_sun : MethodName := ⟨RX5, "sun", "()Z"⟩
abbrev cX5_keeper : ByteArray := prog_7_method_9_code
def yX5_keeper : MethodName := ⟨RX5, "keeper", "()Z"⟩
abbrev cX5_traits : ByteArray := prog_7_method_10_code
def yX5_traits : MethodName := ⟨RX5, "traits", "()Z"⟩
abbrev cX5_trait : ByteArray := prog_7_method_11_code
def yX5_trait : MethodName := ⟨RX5, "trait", "(III)Z"⟩
abbrev cX5_secondBridge : ByteArray := prog_7_method_12_code
def yX5_secondBridge : MethodName := ⟨RX5, "secondBridge", "()Z"⟩
def RX6 : String := "ShadowTolls$Season"
def TX6 : u_T := fun k => match k with
  | 0 => ("ShadowTolls$Season", "road", "LShadowTolls$Road;", true)
  | 1 => ("ShadowTolls$Season", "planner", "LShadowTolls$Planner;", true)
  | 2 => ("ShadowTolls$Season", "hours", "[I", true)
  | 3 => ("ShadowTolls$Season", "clear", "[I", true)
  | 4 => ("ShadowTolls$Season", "clouded", "[I", true)
  | _ => ("ShadowTolls$Season", "seed", "I", false)
def tyX6 : Nat → FieldType := fun k => match k with
  | 0 => .object "ShadowTolls$Road"
  | 1 => .object "ShadowTolls$Planner"
  | 2 => .array .int
  | 3 => .array .int
  | 4 => .array .int
  | _ => .int
abbrev wsX60 : List Cond := u_ws RX6 TX6 6
theorem nmX6 : ∀ a, a < 6 → ∀ b, b < 6 → a ≠ b → (TX6 a).2.1 ≠ (TX6 b).2.1 := by decide +kernel
theorem tyX6_ok : ∀ k, k < 6 → parseFieldDescriptor (TX6 k).2.2.1 = some (tyX6 k) := by decide +kernel
abbrev cX6_init : ByteArray := prog_8_method_1_code
def yX6_init : MethodName := ⟨RX6, "<init>", "(LShadowTolls$Road;LShadowTolls$Planner;)V"⟩
abbrev cX6_skyOf : ByteArray := prog_8_method_2_code
def yX6_skyOf : MethodName := ⟨RX6, "skyOf", "(I)I"⟩
abbrev cX6_nextSky : ByteArray := prog_8_method_3_code
def yX6_nextSky : MethodName := ⟨RX6, "nextSky", "()I"⟩
abbrev cX6_keep : ByteArray := prog_8_method_4_code
def yX6_keep : MethodName := ⟨RX6, "keep", "(I)V"⟩
abbrev cX6_takenUnder : ByteArray := prog_8_method_5_code
def yX6_takenUnder : MethodName := ⟨RX6, "takenUnder", "(II)I"⟩
def RX7 : String := "ShadowTolls$Text"
def TX7 : u_T := fun k => match k with
  | 0 => ("ShadowTolls$Text", "bytes", "[I", true)
  | 1 => ("ShadowTolls$Text", "fed", "I", false)
  | 2 => ("ShadowTolls$Text", "end", "I", false)
  | 3 => ("ShadowTolls$Text", "spot", "I", false)
  | 4 => ("ShadowTolls$Text", "fault", "I", false)
  | _ => ("ShadowTolls$Text", "place", "I", false)
def tyX7 : Nat → FieldType := fun k => match k with
  | 0 => .array .int
  | 1 => .int
  | 2 => .int
  | 3 => .int
  | 4 => .int
  | _ => .int
abbrev wsX70 : List Cond := u_ws RX7 TX7 6
theorem nmX7 : ∀ a, a < 6 → ∀ b, b < 6 → a ≠ b → (TX7 a).2.1 ≠ (TX7 b).2.1 := by decide +kernel
theorem tyX7_ok : ∀ k, k < 6 → parseFieldDescriptor (TX7 k).2.2.1 = some (tyX7 k) := by decide +kernel
abbrev cX7_init : ByteArray := prog_9_method_1_code
def yX7_init : MethodName := ⟨RX7, "<init>", "()V"⟩
abbrev cX7_hasRoom : ByteArray := prog_9_method_2_code
def yX7_hasRoom : MethodName := ⟨RX7, "hasRoom", "(I)Z"⟩
abbrev cX7_add : ByteArray := prog_9_method_3_code
def yX7_add : MethodName := ⟨RX7, "add", "(I)V"⟩
abbrev cX7_open : ByteArray := prog_9_method_4_code
def yX7_open : MethodName := ⟨RX7, "open", "(I)V"⟩
abbrev cX7_fail : ByteArray := prog_9_method_5_code
def yX7_fail : MethodName := ⟨RX7, "fail", "(II)Z"⟩
abbrev cX7_start : ByteArray := prog_9_method_6_code
def yX7_start : MethodName := ⟨RX7, "start", "()I"⟩
abbrev cX7_more : ByteArray := prog_9_method_7_code
def yX7_more : MethodName := ⟨RX7, "more", "()Z"⟩
abbrev cX7_sign : ByteArray := prog_9_method_8_code
def yX7_sign : MethodName := ⟨RX7, "sign", "(I)Z"⟩
abbrev cX7_must : ByteArray := prog_9_method_9_code
def yX7_must : MethodName := ⟨RX7, "must", "(I)Z"⟩
abbrev cX7_word : ByteArray := prog_9_method_10_code
def yX7_word : MethodName := ⟨RX7, "word", "(Ljava/lang/String;)Z"⟩
abbrev cX7_number : ByteArray := prog_9_method_11_code
def yX7_number : MethodName := ⟨RX7, "number", "(II)I"⟩
abbrev cX7_isLetter : ByteArray := prog_9_method_12_code
def yX7_isLetter : MethodName := ⟨RX7, "isLetter", "(I)Z"⟩
abbrev cX7_isDigit : ByteArray := prog_9_method_13_code
def yX7_isDigit : MethodName := ⟨RX7, "isDigit", "(I)Z"⟩
def RX8 : String := "ShadowTolls"
def TX8 : u_T := fun k => match k with
  | 0 => ("ShadowTolls", "text", "LShadowTolls$Text;", true)
  | 1 => ("ShadowTolls", "road", "LShadowTolls$Road;", true)
  | 2 => ("ShadowTolls", "draft", "LShadowTolls$Road;", true)
  | 3 => ("ShadowTolls", "laws", "[LShadowTolls$Law;", true)
  | 4 => ("ShadowTolls", "lawDraft", "LShadowTolls$Law;", true)
  | 5 => ("ShadowTolls", "freeLaw", "LShadowTolls$Law;", true)
  | 6 => ("ShadowTolls", "lineLaw", "LShadowTolls$Law;", true)
  | 7 => ("ShadowTolls", "roadReader", "LShadowTolls$RoadReader;", true)
  | 8 => ("ShadowTolls", "lawReader", "LShadowTolls$LawReader;", true)
  | 9 => ("ShadowTolls", "planner", "LShadowTolls$Planner;", true)
  | 10 => ("ShadowTolls", "months", "LShadowTolls$Season;", true)
  | 11 => ("ShadowTolls", "records", "LShadowTolls$Records;", true)
  | 12 => ("ShadowTolls", "kept", "[LShadowTolls$Records;", true)
  | 13 => ("ShadowTolls", "takings", "[I", true)
  | 14 => ("ShadowTolls", "tolls", "I", false)
  | _ => ("ShadowTolls", "keptCount", "I", false)
def tyX8 : Nat → FieldType := fun k => match k with
  | 0 => .object "ShadowTolls$Text"
  | 1 => .object "ShadowTolls$Road"
  | 2 => .object "ShadowTolls$Road"
  | 3 => .array (.object "ShadowTolls$Law")
  | 4 => .object "ShadowTolls$Law"
  | 5 => .object "ShadowTolls$Law"
  | 6 => .object "ShadowTolls$Law"
  | 7 => .object "ShadowTolls$RoadReader"
  | 8 => .object "ShadowTolls$LawReader"
  | 9 => .object "ShadowTolls$Planner"
  | 10 => .object "ShadowTolls$Season"
  | 11 => .object "ShadowTolls$Records"
  | 12 => .array (.object "ShadowTolls$Records")
  | 13 => .array .int
  | 14 => .int
  | _ => .int
abbrev wsX80 : List Cond := u_ws RX8 TX8 16
theorem nmX8 : ∀ a, a < 16 → ∀ b, b < 16 → a ≠ b → (TX8 a).2.1 ≠ (TX8 b).2.1 := by decide +kernel
theorem tyX8_ok : ∀ k, k < 16 → parseFieldDescriptor (TX8 k).2.2.1 = some (tyX8 k) := by decide +kernel
abbrev cX8_init : ByteArray := prog_1_method_1_code
def yX8_init : MethodName := ⟨RX8, "<init>", "()V"⟩
abbrev cX8_feed : ByteArray := prog_1_method_2_code
def yX8_feed : MethodName := ⟨RX8, "feed", "(IIIII)I"⟩
abbrev cX8_bridge : ByteArray := prog_1_method_3_code
def yX8_bridge : MethodName := ⟨RX8, "bridge", "(I)I"⟩
abbrev cX8_toll : ByteArray := prog_1_method_4_code
def yX8_toll : MethodName := ⟨RX8, "toll", "(I)I"⟩
abbrev cX8_fault : ByteArray := prog_1_method_5_code
def yX8_fault : MethodName := ⟨RX8, "fault", "()I"⟩
abbrev cX8_told : ByteArray := prog_1_method_6_code
def yX8_told : MethodName := ⟨RX8, "told", "(I)I"⟩
abbrev cX8_traveller : ByteArray := prog_1_method_7_code
def yX8_traveller : MethodName := ⟨RX8, "traveller", "(II)I"⟩
abbrev cX8_day : ByteArray := prog_1_method_8_code
def yX8_day : MethodName := ⟨RX8, "day", "(II)I"⟩
abbrev cX8_altitude : ByteArray := prog_1_method_9_code
def yX8_altitude : MethodName := ⟨RX8, "altitude", "(III)I"⟩
abbrev cX8_shadow : ByteArray := prog_1_method_10_code
def yX8_shadow : MethodName := ⟨RX8, "shadow", "(IIII)I"⟩
abbrev cX8_law : ByteArray := prog_1_method_11_code
def yX8_law : MethodName := ⟨RX8, "law", "(II)I"⟩
abbrev cX8_coins : ByteArray := prog_1_method_12_code
def yX8_coins : MethodName := ⟨RX8, "coins", "(IIIIZ)I"⟩
abbrev cX8_best : ByteArray := prog_1_method_13_code
def yX8_best : MethodName := ⟨RX8, "best", "(IIII)I"⟩
abbrev cX8_week : ByteArray := prog_1_method_14_code
def yX8_week : MethodName := ⟨RX8, "week", "(II)I"⟩
abbrev cX8_plan : ByteArray := prog_1_method_15_code
def yX8_plan : MethodName := ⟨RX8, "plan", "(IIZI)I"⟩
abbrev cX8_slot : ByteArray := prog_1_method_16_code
def yX8_slot : MethodName := ⟨RX8, "slot", "(IIZI)I"⟩
abbrev cX8_slots : ByteArray := prog_1_method_17_code
def yX8_slots : MethodName := ⟨RX8, "slots", "()I"⟩
abbrev cX8_most : ByteArray := prog_1_method_18_code
def yX8_most : MethodName := ⟨RX8, "most", "(I)I"⟩
abbrev cX8_cross : ByteArray := prog_1_method_19_code
def yX8_cross : MethodName := ⟨RX8, "cross", "(IIII)I"⟩
abbrev cX8_undo : ByteArray := prog_1_method_20_code
def yX8_undo : MethodName := ⟨RX8, "undo", "()I"⟩
abbrev cX8_taken : ByteArray := prog_1_method_21_code
def yX8_taken : MethodName := ⟨RX8, "taken", "(I)I"⟩
abbrev cX8_write : ByteArray := prog_1_method_22_code
def yX8_write : MethodName := ⟨RX8, "write", "(II)I"⟩
abbrev cX8_stolen : ByteArray := prog_1_method_23_code
def yX8_stolen : MethodName := ⟨RX8, "stolen", "(I)I"⟩
abbrev cX8_much : ByteArray := prog_1_method_24_code
def yX8_much : MethodName := ⟨RX8, "much", "()I"⟩
abbrev cX8_lines : ByteArray := prog_1_method_25_code
def yX8_lines : MethodName := ⟨RX8, "lines", "(III)I"⟩
abbrev cX8_war : ByteArray := prog_1_method_26_code
def yX8_war : MethodName := ⟨RX8, "war", "(III)I"⟩
abbrev cX8_ledger : ByteArray := prog_1_method_27_code
def yX8_ledger : MethodName := ⟨RX8, "ledger", "(II)I"⟩
abbrev cX8_forget : ByteArray := prog_1_method_28_code
def yX8_forget : MethodName := ⟨RX8, "forget", "()I"⟩
abbrev cX8_fits : ByteArray := prog_1_method_29_code
def yX8_fits : MethodName := ⟨RX8, "fits", "(III)I"⟩
abbrev cX8_sky : ByteArray := prog_1_method_30_code
def yX8_sky : MethodName := ⟨RX8, "sky", "(I)I"⟩
abbrev cX8_season : ByteArray := prog_1_method_31_code
def yX8_season : MethodName := ⟨RX8, "season", "(III)I"⟩
abbrev cX8_span : ByteArray := prog_1_method_32_code
def yX8_span : MethodName := ⟨RX8, "span", "(IIIII)I"⟩
abbrev cX8_image : ByteArray := prog_1_method_33_code
def yX8_image : MethodName := ⟨RX8, "image", "()I"⟩
abbrev cX8_restore : ByteArray := prog_1_method_34_code
def yX8_restore : MethodName := ⟨RX8, "restore", "()I"⟩
abbrev cX8_count : ByteArray := prog_1_method_35_code
def yX8_count : MethodName := ⟨RX8, "count", "(I)I"⟩
abbrev cX8_at : ByteArray := prog_1_method_36_code
def yX8_at : MethodName := ⟨RX8, "at", "([II)I"⟩
abbrev cX8_put : ByteArray := prog_1_method_37_code
def yX8_put : MethodName := ⟨RX8, "put", "([III)V"⟩
abbrev cX8_copyRow : ByteArray := prog_1_method_38_code
def yX8_copyRow : MethodName := ⟨RX8, "copyRow", "([I[I)V"⟩
abbrev cX8_fillRow : ByteArray := prog_1_method_39_code
def yX8_fillRow : MethodName := ⟨RX8, "fillRow", "([II)V"⟩
abbrev cX8_shadowOf : ByteArray := prog_1_method_40_code
def yX8_shadowOf : MethodName := ⟨RX8, "shadowOf", "(II)I"⟩
abbrev cX8_needBetween : ByteArray := prog_1_method_41_code
def yX8_needBetween : MethodName := ⟨RX8, "needBetween", "(III)V"⟩
abbrev cX8_needDay : ByteArray := prog_1_method_42_code
def yX8_needDay : MethodName := ⟨RX8, "needDay", "(I)V"⟩
abbrev cX8_needMinute : ByteArray := prog_1_method_43_code
def yX8_needMinute : MethodName := ⟨RX8, "needMinute", "(I)V"⟩
abbrev cX8_needBridge : ByteArray := prog_1_method_44_code
def yX8_needBridge : MethodName := ⟨RX8, "needBridge", "(I)V"⟩
abbrev cX8_needTraveller : ByteArray := prog_1_method_45_code
def yX8_needTraveller : MethodName := ⟨RX8, "needTraveller", "(I)V"⟩
abbrev cX8_needPlan : ByteArray := prog_1_method_46_code
def yX8_needPlan : MethodName := ⟨RX8, "needPlan", "(IIZ)V"⟩
abbrev cX8_lawAt : ByteArray := prog_1_method_47_code
def yX8_lawAt : MethodName := ⟨RX8, "lawAt", "(I)LShadowTolls$Law;"⟩
abbrev cX8_lawOf : ByteArray := prog_1_method_48_code
def yX8_lawOf : MethodName := ⟨RX8, "lawOf", "(I)LShadowTolls$Law;"⟩
abbrev cX8_keptAt : ByteArray := prog_1_method_49_code
def yX8_keptAt : MethodName := ⟨RX8, "keptAt", "(I)LShadowTolls$Records;"⟩
abbrev cX8_expense : ByteArray := prog_1_method_50_code
def yX8_expense : MethodName := ⟨RX8, "expense", "(IIII)I"⟩
abbrev cX8_bestMinute : ByteArray := prog_1_method_51_code
def yX8_bestMinute : MethodName := ⟨RX8, "bestMinute", "(III)I"⟩
abbrev cX8_planFor : ByteArray := prog_1_method_52_code
def yX8_planFor : MethodName := ⟨RX8, "planFor", "(IIZLShadowTolls$Law;LShadowTolls$Law;)V"⟩
abbrev cX8_mostOf : ByteArray := prog_1_method_53_code
def yX8_mostOf : MethodName := ⟨RX8, "mostOf", "(I)I"⟩
abbrev cX8_planDays : ByteArray := prog_1_method_54_code
def yX8_planDays : MethodName := ⟨RX8, "planDays", "(II)V"⟩
abbrev cX8_takingsIndex : ByteArray := prog_1_method_55_code
def yX8_takingsIndex : MethodName := ⟨RX8, "takingsIndex", "(III)I"⟩
abbrev cX8_reckonTakings : ByteArray := prog_1_method_56_code
def yX8_reckonTakings : MethodName := ⟨RX8, "reckonTakings", "(I)V"⟩
abbrev cX8_bestReply : ByteArray := prog_1_method_57_code
def yX8_bestReply : MethodName := ⟨RX8, "bestReply", "(II)I"⟩
abbrev cX8_paysLedger : ByteArray := prog_1_method_58_code
def yX8_paysLedger : MethodName := ⟨RX8, "paysLedger", "(LShadowTolls$Law;III)Z"⟩
def RX9 : String := "ShadowTollsModel"
def TX9 : u_T := fun k => match k with
  | 0 => ("ShadowTollsModel", "thrown", "I", false)
  | 1 => ("ShadowTollsModel", "tape", "I", false)
  | 2 => ("ShadowTollsModel", "size", "I", false)
  | 3 => ("ShadowTollsModel", "place", "I", false)
  | 4 => ("ShadowTollsModel", "at", "I", false)
  | 5 => ("ShadowTollsModel", "fault", "I", false)
  | 6 => ("ShadowTollsModel", "faultAt", "I", false)
  | 7 => ("ShadowTollsModel", "clauses", "I", false)
  | 8 => ("ShadowTollsModel", "open", "I", false)
  | 9 => ("ShadowTollsModel", "fed", "[I", true)
  | 10 => ("ShadowTollsModel", "readTold", "[I", true)
  | 11 => ("ShadowTollsModel", "told", "[I", true)
  | 12 => ("ShadowTollsModel", "readSun", "[I", true)
  | 13 => ("ShadowTollsModel", "sun", "[I", true)
  | 14 => ("ShadowTollsModel", "readFeast", "[I", true)
  | 15 => ("ShadowTollsModel", "feast", "[I", true)
  | 16 => ("ShadowTollsModel", "readWho", "[[I", true)
  | 17 => ("ShadowTollsModel", "who", "[[I", true)
  | 18 => ("ShadowTollsModel", "tolls", "I", false)
  | 19 => ("ShadowTollsModel", "codes", "I", false)
  | 20 => ("ShadowTollsModel", "readRows", "I", false)
  | 21 => ("ShadowTollsModel", "tollRows", "[I", true)
  | 22 => ("ShadowTollsModel", "rowFrom", "[[I", true)
  | 23 => ("ShadowTollsModel", "rowIf", "[[I", true)
  | 24 => ("ShadowTollsModel", "rowTo", "[[I", true)
  | 25 => ("ShadowTollsModel", "code", "[[I", true)
  | 26 => ("ShadowTollsModel", "stack", "[I", true)
  | 27 => ("ShadowTollsModel", "names", "[I", true)
  | 28 => ("ShadowTollsModel", "law", "[I", true)
  | 29 => ("ShadowTollsModel", "written", "[I", true)
  | 30 => ("ShadowTollsModel", "crossings", "I", false)
  | 31 => ("ShadowTollsModel", "rows", "I", false)
  | 32 => ("ShadowTollsModel", "images", "I", false)
  | 33 => ("ShadowTollsModel", "crossing", "[[I", true)
  | 34 => ("ShadowTollsModel", "row", "[[I", true)
  | 35 => ("ShadowTollsModel", "kept", "[[I", true)
  | 36 => ("ShadowTollsModel", "spot", "I", false)
  | 37 => ("ShadowTollsModel", "cost", "[[[I", true)
  | 38 => ("ShadowTollsModel", "coin", "[[[I", true)
  | 39 => ("ShadowTollsModel", "may", "[[Z", true)
  | 40 => ("ShadowTollsModel", "least", "[[I", true)
  | 41 => ("ShadowTollsModel", "has", "[I", true)
  | 42 => ("ShadowTollsModel", "firstSlots", "I", false)
  | 43 => ("ShadowTollsModel", "allSlots", "I", false)
  | 44 => ("ShadowTollsModel", "planLeft", "I", false)
  | 45 => ("ShadowTollsModel", "planCost", "I", false)
  | 46 => ("ShadowTollsModel", "planJam", "I", false)
  | 47 => ("ShadowTollsModel", "earned", "[I", true)
  | 48 => ("ShadowTollsModel", "lineA", "I", false)
  | 49 => ("ShadowTollsModel", "lineB", "I", false)
  | 50 => ("ShadowTollsModel", "seasonHas", "[[I", true)
  | _ => ("ShadowTollsModel", "seed", "I", false)
def tyX9 : Nat → FieldType := fun k => match k with
  | 0 => .int
  | 1 => .int
  | 2 => .int
  | 3 => .int
  | 4 => .int
  | 5 => .int
  | 6 => .int
  | 7 => .int
  | 8 => .int
  | 9 => .array .int
  | 10 => .array .int
  | 11 => .array .int
  | 12 => .array .int
  | 13 => .array .int
  | 14 => .array .int
  | 15 => .array .int
  | 16 => .array (.array .int)
  | 17 => .array (.array .int)
  | 18 => .int
  | 19 => .int
  | 20 => .int
  | 21 => .array .int
  | 22 => .array (.array .int)
  | 23 => .array (.array .int)
  | 24 => .array (.array .int)
  | 25 => .array (.array .int)
  | 26 => .array .int
  | 27 => .array .int
  | 28 => .array .int
  | 29 => .array .int
  | 30 => .int
  | 31 => .int
  | 32 => .int
  | 33 => .array (.array .int)
  | 34 => .array (.array .int)
  | 35 => .array (.array .int)
  | 36 => .int
  | 37 => .array (.array (.array .int))
  | 38 => .array (.array (.array .int))
  | 39 => .array (.array .boolean)
  | 40 => .array (.array .int)
  | 41 => .array .int
  | 42 => .int
  | 43 => .int
  | 44 => .int
  | 45 => .int
  | 46 => .int
  | 47 => .array .int
  | 48 => .int
  | 49 => .int
  | 50 => .array (.array .int)
  | _ => .int
abbrev wsX90 : List Cond := u_ws RX9 TX9 52
theorem nmX9 : ∀ a, a < 52 → ∀ b, b < 52 → a ≠ b → (TX9 a).2.1 ≠ (TX9 b).2.1 := by decide +kernel
theorem tyX9_ok : ∀ k, k < 52 → parseFieldDescriptor (TX9 k).2.2.1 = some (tyX9 k) := by decide +kernel
abbrev cX9_init : ByteArray := prog_11_method_1_code
def yX9_init : MethodName := ⟨RX9, "<init>", "()V"⟩
abbrev cX9_thrown : ByteArray := prog_11_method_2_code
def yX9_thrown : MethodName := ⟨RX9, "thrown", "()I"⟩
abbrev cX9_bad : ByteArray := prog_11_method_3_code
def yX9_bad : MethodName := ⟨RX9, "bad", "(ZI)Z"⟩
abbrev cX9_in : ByteArray := prog_11_method_4_code
def yX9_in : MethodName := ⟨RX9, "in", "(III)Z"⟩
abbrev cX9_amount : ByteArray := prog_11_method_5_code
def yX9_amount : MethodName := ⟨RX9, "amount", "(I)I"⟩
abbrev cX9_blank : ByteArray := prog_11_method_6_code
def yX9_blank : MethodName := ⟨RX9, "blank", "([I[I[I)V"⟩
abbrev cX9_feed : ByteArray := prog_11_method_7_code
def yX9_feed : MethodName := ⟨RX9, "feed", "(IIIII)I"⟩
abbrev cX9_byteAt : ByteArray := prog_11_method_8_code
def yX9_byteAt : MethodName := ⟨RX9, "byteAt", "(I)I"⟩
abbrev cX9_blanks : ByteArray := prog_11_method_9_code
def yX9_blanks : MethodName := ⟨RX9, "blanks", "()V"⟩
abbrev cX9_wrong : ByteArray := prog_11_method_10_code
def yX9_wrong : MethodName := ⟨RX9, "wrong", "(II)V"⟩
abbrev cX9_isDigit : ByteArray := prog_11_method_11_code
def yX9_isDigit : MethodName := ⟨RX9, "isDigit", "(I)Z"⟩
abbrev cX9_number : ByteArray := prog_11_method_12_code
def yX9_number : MethodName := ⟨RX9, "number", "(II)I"⟩
abbrev cX9_wordHere : ByteArray := prog_11_method_13_code
def yX9_wordHere : MethodName := ⟨RX9, "wordHere", "()J"⟩
abbrev cX9_five : ByteArray := prog_11_method_14_code
def yX9_five : MethodName := ⟨RX9, "five", "(IIIII)J"⟩
abbrev cX9_isWord : ByteArray := prog_11_method_15_code
def yX9_isWord : MethodName := ⟨RX9, "isWord", "(J)Z"⟩
abbrev cX9_skipWord : ByteArray := prog_11_method_16_code
def yX9_skipWord : MethodName := ⟨RX9, "skipWord", "()V"⟩
abbrev cX9_eats : ByteArray := prog_11_method_17_code
def yX9_eats : MethodName := ⟨RX9, "eats", "(J)Z"⟩
abbrev cX9_sign : ByteArray := prog_11_method_18_code
def yX9_sign : MethodName := ⟨RX9, "sign", "(I)V"⟩
abbrev cX9_opens : ByteArray := prog_11_method_19_code
def yX9_opens : MethodName := ⟨RX9, "opens", "(I)V"⟩
abbrev cX9_starts : ByteArray := prog_11_method_20_code
def yX9_starts : MethodName := ⟨RX9, "starts", "(I)V"⟩
abbrev cX9_kindHere : ByteArray := prog_11_method_21_code
def yX9_kindHere : MethodName := ⟨RX9, "kindHere", "()I"⟩
abbrev cX9_clause : ByteArray := prog_11_method_22_code
def yX9_clause : MethodName := ⟨RX9, "clause", "()V"⟩
abbrev cX9_reads : ByteArray := prog_11_method_23_code
def yX9_reads : MethodName := ⟨RX9, "reads", "(I)V"⟩
abbrev cX9_readsWho : ByteArray := prog_11_method_24_code
def yX9_readsWho : MethodName := ⟨RX9, "readsWho", "()V"⟩
abbrev cX9_bridge : ByteArray := prog_11_method_25_code
def yX9_bridge : MethodName := ⟨RX9, "bridge", "(I)I"⟩
abbrev cX9_tells : ByteArray := prog_11_method_26_code
def yX9_tells : MethodName := ⟨RX9, "tells", "(I)V"⟩
abbrev cX9_sum : ByteArray := prog_11_method_27_code
def yX9_sum : MethodName := ⟨RX9, "sum", "()V"⟩
abbrev cX9_signHere : ByteArray := prog_11_method_28_code
def yX9_signHere : MethodName := ⟨RX9, "signHere", "()I"⟩
abbrev cX9_product : ByteArray := prog_11_method_29_code
def yX9_product : MethodName := ⟨RX9, "product", "()V"⟩
abbrev cX9_nameHere : ByteArray := prog_11_method_30_code
def yX9_nameHere : MethodName := ⟨RX9, "nameHere", "()I"⟩
abbrev cX9_unit : ByteArray := prog_11_method_31_code
def yX9_unit : MethodName := ⟨RX9, "unit", "()V"⟩
abbrev cX9_ors : ByteArray := prog_11_method_32_code
def yX9_ors : MethodName := ⟨RX9, "ors", "()V"⟩
abbrev cX9_ands : ByteArray := prog_11_method_33_code
def yX9_ands : MethodName := ⟨RX9, "ands", "()V"⟩
abbrev cX9_asked : ByteArray := prog_11_method_34_code
def yX9_asked : MethodName := ⟨RX9, "asked", "()V"⟩
abbrev cX9_pays : ByteArray := prog_11_method_35_code
def yX9_pays : MethodName := ⟨RX9, "pays", "()V"⟩
abbrev cX9_toll : ByteArray := prog_11_method_36_code
def yX9_toll : MethodName := ⟨RX9, "toll", "(I)I"⟩
abbrev cX9_fault : ByteArray := prog_11_method_37_code
def yX9_fault : MethodName := ⟨RX9, "fault", "()I"⟩
abbrev cX9_comes : ByteArray := prog_11_method_38_code
def yX9_comes : MethodName := ⟨RX9, "comes", "([III)I"⟩
abbrev cX9_both : ByteArray := prog_11_method_39_code
def yX9_both : MethodName := ⟨RX9, "both", "(III)I"⟩
abbrev cX9_told : ByteArray := prog_11_method_40_code
def yX9_told : MethodName := ⟨RX9, "told", "(I)I"⟩
abbrev cX9_isWho : ByteArray := prog_11_method_41_code
def yX9_isWho : MethodName := ⟨RX9, "isWho", "(I)Z"⟩
abbrev cX9_traveller : ByteArray := prog_11_method_42_code
def yX9_traveller : MethodName := ⟨RX9, "traveller", "(II)I"⟩
abbrev cX9_noon : ByteArray := prog_11_method_43_code
def yX9_noon : MethodName := ⟨RX9, "noon", "(I)I"⟩
abbrev cX9_isDay : ByteArray := prog_11_method_44_code
def yX9_isDay : MethodName := ⟨RX9, "isDay", "(I)Z"⟩
abbrev cX9_isMinute : ByteArray := prog_11_method_45_code
def yX9_isMinute : MethodName := ⟨RX9, "isMinute", "(I)Z"⟩
abbrev cX9_day : ByteArray := prog_11_method_46_code
def yX9_day : MethodName := ⟨RX9, "day", "(II)I"⟩
abbrev cX9_isBridge : ByteArray := prog_11_method_47_code
def yX9_isBridge : MethodName := ⟨RX9, "isBridge", "(I)Z"⟩
abbrev cX9_altitudeOf : ByteArray := prog_11_method_48_code
def yX9_altitudeOf : MethodName := ⟨RX9, "altitudeOf", "(III)I"⟩
abbrev cX9_altitude : ByteArray := prog_11_method_49_code
def yX9_altitude : MethodName := ⟨RX9, "altitude", "(III)I"⟩
abbrev cX9_shadowOf : ByteArray := prog_11_method_50_code
def yX9_shadowOf : MethodName := ⟨RX9, "shadowOf", "(IIII)I"⟩
abbrev cX9_shadow : ByteArray := prog_11_method_51_code
def yX9_shadow : MethodName := ⟨RX9, "shadow", "(IIII)I"⟩
abbrev cX9_law : ByteArray := prog_11_method_52_code
def yX9_law : MethodName := ⟨RX9, "law", "(II)I"⟩
abbrev cX9_paid : ByteArray := prog_11_method_53_code
def yX9_paid : MethodName := ⟨RX9, "paid", "(IIIIIIZ)I"⟩
abbrev cX9_coinsOf : ByteArray := prog_11_method_54_code
def yX9_coinsOf : MethodName := ⟨RX9, "coinsOf", "(IIIIZ)I"⟩
abbrev cX9_coins : ByteArray := prog_11_method_55_code
def yX9_coins : MethodName := ⟨RX9, "coins", "(IIIIZ)I"⟩
abbrev cX9_canCome : ByteArray := prog_11_method_56_code
def yX9_canCome : MethodName := ⟨RX9, "canCome", "(II)Z"⟩
abbrev cX9_costOf : ByteArray := prog_11_method_57_code
def yX9_costOf : MethodName := ⟨RX9, "costOf", "(IIIIZ)I"⟩
abbrev cX9_bestMinute : ByteArray := prog_11_method_58_code
def yX9_bestMinute : MethodName := ⟨RX9, "bestMinute", "(III)I"⟩
abbrev cX9_best : ByteArray := prog_11_method_59_code
def yX9_best : MethodName := ⟨RX9, "best", "(IIII)I"⟩
abbrev cX9_week : ByteArray := prog_11_method_60_code
def yX9_week : MethodName := ⟨RX9, "week", "(II)I"⟩
abbrev cX9_slotsOf : ByteArray := prog_11_method_61_code
def yX9_slotsOf : MethodName := ⟨RX9, "slotsOf", "()I"⟩
abbrev cX9_slots : ByteArray := prog_11_method_62_code
def yX9_slots : MethodName := ⟨RX9, "slots", "()I"⟩
abbrev cX9_minuteOf : ByteArray := prog_11_method_63_code
def yX9_minuteOf : MethodName := ⟨RX9, "minuteOf", "(I)I"⟩
abbrev cX9_layCoins : ByteArray := prog_11_method_64_code
def yX9_layCoins : MethodName := ⟨RX9, "layCoins", "(IZ)V"⟩
abbrev cX9_high : ByteArray := prog_11_method_65_code
def yX9_high : MethodName := ⟨RX9, "high", "(I)I"⟩
abbrev cX9_isDark : ByteArray := prog_11_method_66_code
def yX9_isDark : MethodName := ⟨RX9, "isDark", "(II)I"⟩
abbrev cX9_lastAt : ByteArray := prog_11_method_67_code
def yX9_lastAt : MethodName := ⟨RX9, "lastAt", "(II)I"⟩
abbrev cX9_ones : ByteArray := prog_11_method_68_code
def yX9_ones : MethodName := ⟨RX9, "ones", "(I)I"⟩
abbrev cX9_layLeast : ByteArray := prog_11_method_69_code
def yX9_layLeast : MethodName := ⟨RX9, "layLeast", "(I)V"⟩
abbrev cX9_leastAt : ByteArray := prog_11_method_70_code
def yX9_leastAt : MethodName := ⟨RX9, "leastAt", "(IIII)I"⟩
abbrev cX9_canHave : ByteArray := prog_11_method_71_code
def yX9_canHave : MethodName := ⟨RX9, "canHave", "(IIII)Z"⟩
abbrev cX9_findPlan : ByteArray := prog_11_method_72_code
def yX9_findPlan : MethodName := ⟨RX9, "findPlan", "(IIZ)V"⟩
abbrev cX9_everybody : ByteArray := prog_11_method_73_code
def yX9_everybody : MethodName := ⟨RX9, "everybody", "()I"⟩
abbrev cX9_isPlan : ByteArray := prog_11_method_74_code
def yX9_isPlan : MethodName := ⟨RX9, "isPlan", "(IIZ)Z"⟩
abbrev cX9_plan : ByteArray := prog_11_method_75_code
def yX9_plan : MethodName := ⟨RX9, "plan", "(IIZI)I"⟩
abbrev cX9_slot : ByteArray := prog_11_method_76_code
def yX9_slot : MethodName := ⟨RX9, "slot", "(IIZI)I"⟩
abbrev cX9_mostOf : ByteArray := prog_11_method_77_code
def yX9_mostOf : MethodName := ⟨RX9, "mostOf", "(I)I"⟩
abbrev cX9_most : ByteArray := prog_11_method_78_code
def yX9_most : MethodName := ⟨RX9, "most", "(I)I"⟩
abbrev cX9_cross : ByteArray := prog_11_method_79_code
def yX9_cross : MethodName := ⟨RX9, "cross", "(IIII)I"⟩
abbrev cX9_undo : ByteArray := prog_11_method_80_code
def yX9_undo : MethodName := ⟨RX9, "undo", "()I"⟩
abbrev cX9_takenOf : ByteArray := prog_11_method_81_code
def yX9_takenOf : MethodName := ⟨RX9, "takenOf", "(I)I"⟩
abbrev cX9_taken : ByteArray := prog_11_method_82_code
def yX9_taken : MethodName := ⟨RX9, "taken", "(I)I"⟩
abbrev cX9_write : ByteArray := prog_11_method_83_code
def yX9_write : MethodName := ⟨RX9, "write", "(II)I"⟩
abbrev cX9_stolen : ByteArray := prog_11_method_84_code
def yX9_stolen : MethodName := ⟨RX9, "stolen", "(I)I"⟩
abbrev cX9_much : ByteArray := prog_11_method_85_code
def yX9_much : MethodName := ⟨RX9, "much", "()I"⟩
abbrev cX9_lines : ByteArray := prog_11_method_86_code
def yX9_lines : MethodName := ⟨RX9, "lines", "(III)I"⟩
abbrev cX9_answers : ByteArray := prog_11_method_87_code
def yX9_answers : MethodName := ⟨RX9, "answers", "(II)I"⟩
abbrev cX9_war : ByteArray := prog_11_method_88_code
def yX9_war : MethodName := ⟨RX9, "war", "(III)I"⟩
abbrev cX9_ledger : ByteArray := prog_11_method_89_code
def yX9_ledger : MethodName := ⟨RX9, "ledger", "(II)I"⟩
abbrev cX9_forget : ByteArray := prog_11_method_90_code
def yX9_forget : MethodName := ⟨RX9, "forget", "()I"⟩
abbrev cX9_fits : ByteArray := prog_11_method_91_code
def yX9_fits : MethodName := ⟨RX9, "fits", "(III)I"⟩
abbrev cX9_skyNow : ByteArray := prog_11_method_92_code
def yX9_skyNow : MethodName := ⟨RX9, "skyNow", "()I"⟩
abbrev cX9_sky : ByteArray := prog_11_method_93_code
def yX9_sky : MethodName := ⟨RX9, "sky", "(I)I"⟩
abbrev cX9_layPlans : ByteArray := prog_11_method_94_code
def yX9_layPlans : MethodName := ⟨RX9, "layPlans", "(II)V"⟩
abbrev cX9_seasonOf : ByteArray := prog_11_method_95_code
def yX9_seasonOf : MethodName := ⟨RX9, "seasonOf", "(III)I"⟩
abbrev cX9_areDays : ByteArray := prog_11_method_96_code
def yX9_areDays : MethodName := ⟨RX9, "areDays", "(II)Z"⟩
abbrev cX9_season : ByteArray := prog_11_method_97_code
def yX9_season : MethodName := ⟨RX9, "season", "(III)I"⟩
abbrev cX9_span : ByteArray := prog_11_method_98_code
def yX9_span : MethodName := ⟨RX9, "span", "(IIIII)I"⟩
abbrev cX9_moves : ByteArray := prog_11_method_99_code
def yX9_moves : MethodName := ⟨RX9, "moves", "([IIZ)I"⟩
abbrev cX9_movesAll : ByteArray := prog_11_method_100_code
def yX9_movesAll : MethodName := ⟨RX9, "movesAll", "([IZ)V"⟩
abbrev cX9_image : ByteArray := prog_11_method_101_code
def yX9_image : MethodName := ⟨RX9, "image", "()I"⟩
abbrev cX9_restore : ByteArray := prog_11_method_102_code
def yX9_restore : MethodName := ⟨RX9, "restore", "()I"⟩
abbrev cX9_count : ByteArray := prog_11_method_103_code
def yX9_count : MethodName := ⟨RX9, "count", "(I)I"⟩
def RJ6 : String := "java/lang/Integer"
def TJ6 : u_T := fun k => match k with
  | _ => ("", "", "", false)
def tyJ6 : Nat → FieldType := fun k => match k with
  | _ => .int
abbrev wsJ60 : List Cond := u_ws RJ6 TJ6 0
theorem nmJ6 : ∀ a, a < 0 → ∀ b, b < 0 → a ≠ b → (TJ6 a).2.1 ≠ (TJ6 b).2.1 := by decide +kernel
theorem tyJ6_ok : ∀ k, k < 0 → parseFieldDescriptor (TJ6 k).2.2.1 = some (tyJ6 k) := by decide +kernel
abbrev cJ6_bitCount_0f7a4 : ByteArray := prog_19_method_49_code
def yJ6_bitCount_0f7a4 : MethodName := ⟨RJ6, "bitCount", "(I)I"⟩
def RJ9 : String := "java/lang/Math"
def TJ9 : u_T := fun k => match k with
  | _ => ("", "", "", false)
def tyJ9 : Nat → FieldType := fun k => match k with
  | _ => .int
abbrev wsJ90 : List Cond := u_ws RJ9 TJ9 0
theorem nmJ9 : ∀ a, a < 0 → ∀ b, b < 0 → a ≠ b → (TJ9 a).2.1 ≠ (TJ9 b).2.1 := by decide +kernel
theorem tyJ9_ok : ∀ k, k < 0 → parseFieldDescriptor (TJ9 k).2.2.1 = some (tyJ9 k) := by decide +kernel
abbrev cJ9_abs_0f7a4 : ByteArray := prog_20_method_59_code
def yJ9_abs_0f7a4 : MethodName := ⟨RJ9, "abs", "(I)I"⟩
abbrev cJ9_max_7cf53 : ByteArray := prog_20_method_65_code
def yJ9_max_7cf53 : MethodName := ⟨RJ9, "max", "(II)I"⟩
abbrev cJ9_max_f86c9 : ByteArray := prog_20_method_66_code
def yJ9_max_f86c9 : MethodName := ⟨RJ9, "max", "(JJ)J"⟩
abbrev cJ9_min_7cf53 : ByteArray := prog_20_method_69_code
def yJ9_min_7cf53 : MethodName := ⟨RJ9, "min", "(II)I"⟩
abbrev cJ9_min_f86c9 : ByteArray := prog_20_method_70_code
def yJ9_min_f86c9 : MethodName := ⟨RJ9, "min", "(JJ)J"⟩
def RJ0 : String := "java/lang/String"
def TJ0 : u_T := fun k => match k with
  | _ => ("", "", "", false)
def tyJ0 : Nat → FieldType := fun k => match k with
  | _ => .int
abbrev wsJ00 : List Cond := u_ws RJ0 TJ0 0
theorem nmJ0 : ∀ a, a < 0 → ∀ b, b < 0 → a ≠ b → (TJ0 a).2.1 ≠ (TJ0 b).2.1 := by decide +kernel
theorem tyJ0_ok : ∀ k, k < 0 → parseFieldDescriptor (TJ0 k).2.2.1 = some (tyJ0 k) := by decide +kernel
abbrev cJ0_length_8abf5 : ByteArray := prog_22_method_54_code
def yJ0_length_8abf5 : MethodName := ⟨RJ0, "length", "()I"⟩
abbrev cJ0_charAt_5068e : ByteArray := prog_22_method_56_code
def yJ0_charAt_5068e : MethodName := ⟨RJ0, "charAt", "(I)C"⟩
abbrev cJ0_coder_7d493 : ByteArray := prog_22_method_152_code
def yJ0_coder_7d493 : MethodName := ⟨RJ0, "coder", "()B"⟩
abbrev cJ0_isLatin1_aae02 : ByteArray := prog_22_method_154_code
def yJ0_isLatin1_aae02 : MethodName := ⟨RJ0, "isLatin1", "()Z"⟩
abbrev cJ0_checkIndex_df160 : ByteArray := prog_22_method_155_code
def yJ0_checkIndex_df160 : MethodName := ⟨RJ0, "checkIndex", "(II)V"⟩
def RJ1 : String := "java/lang/StringLatin1"
def TJ1 : u_T := fun k => match k with
  | _ => ("", "", "", false)
def tyJ1 : Nat → FieldType := fun k => match k with
  | _ => .int
abbrev wsJ10 : List Cond := u_ws RJ1 TJ1 0
theorem nmJ1 : ∀ a, a < 0 → ∀ b, b < 0 → a ≠ b → (TJ1 a).2.1 ≠ (TJ1 b).2.1 := by decide +kernel
theorem tyJ1_ok : ∀ k, k < 0 → parseFieldDescriptor (TJ1 k).2.2.1 = some (tyJ1 k) := by decide +kernel
abbrev cJ1_charAt_3b067 : ByteArray := prog_23_method_2_code
def yJ1_charAt_3b067 : MethodName := ⟨RJ1, "charAt", "([BI)C"⟩
def RJ2 : String := "java/lang/StringUTF16"
def TJ2 : u_T := fun k => match k with
  | _ => ("", "", "", false)
def tyJ2 : Nat → FieldType := fun k => match k with
  | _ => .int
abbrev wsJ20 : List Cond := u_ws RJ2 TJ2 0
theorem nmJ2 : ∀ a, a < 0 → ∀ b, b < 0 → a ≠ b → (TJ2 a).2.1 ≠ (TJ2 b).2.1 := by decide +kernel
theorem tyJ2_ok : ∀ k, k < 0 → parseFieldDescriptor (TJ2 k).2.2.1 = some (tyJ2 k) := by decide +kernel
abbrev cJ2_getChar_3b067 : ByteArray := prog_24_method_5_code
def yJ2_getChar_3b067 : MethodName := ⟨RJ2, "getChar", "([BI)C"⟩
abbrev cJ2_length_9d52b : ByteArray := prog_24_method_6_code
def yJ2_length_9d52b : MethodName := ⟨RJ2, "length", "([B)I"⟩
abbrev cJ2_charAt_3b067 : ByteArray := prog_24_method_83_code
def yJ2_charAt_3b067 : MethodName := ⟨RJ2, "charAt", "([BI)C"⟩
abbrev cJ2_checkIndex_2214a : ByteArray := prog_24_method_91_code
def yJ2_checkIndex_2214a : MethodName := ⟨RJ2, "checkIndex", "(I[B)V"⟩
def RJ3 : String := "jdk/internal/util/Preconditions"
def TJ3 : u_T := fun k => match k with
  | _ => ("", "", "", false)
def tyJ3 : Nat → FieldType := fun k => match k with
  | _ => .int
abbrev wsJ30 : List Cond := u_ws RJ3 TJ3 0
theorem nmJ3 : ∀ a, a < 0 → ∀ b, b < 0 → a ≠ b → (TJ3 a).2.1 ≠ (TJ3 b).2.1 := by decide +kernel
theorem tyJ3_ok : ∀ k, k < 0 → parseFieldDescriptor (TJ3 k).2.2.1 = some (tyJ3 k) := by decide +kernel
abbrev cJ3_checkIndex_8e157 : ByteArray := prog_29_method_11_code
def yJ3_checkIndex_8e157 : MethodName := ⟨RJ3, "checkIndex", "(IILjava/util/function/BiFunction;)I"⟩
def RL : String := "ShadowTollsLaw"
abbrev cL_bridge : ByteArray := method_3_code
def yL_bridge : MethodName := ⟨RL, "bridge", "(LShadowTolls;I[J)I"⟩
abbrev cL_toll : ByteArray := method_4_code
def yL_toll : MethodName := ⟨RL, "toll", "(LShadowTolls;I[J)I"⟩
abbrev cL_told : ByteArray := method_5_code
def yL_told : MethodName := ⟨RL, "told", "(LShadowTolls;I[J)I"⟩
abbrev cL_traveller : ByteArray := method_6_code
def yL_traveller : MethodName := ⟨RL, "traveller", "(LShadowTolls;II[J)I"⟩
abbrev cL_day : ByteArray := method_7_code
def yL_day : MethodName := ⟨RL, "day", "(LShadowTolls;II[J)I"⟩
abbrev cL_altitude : ByteArray := method_8_code
def yL_altitude : MethodName := ⟨RL, "altitude", "(LShadowTolls;III[J)I"⟩
abbrev cL_shadow : ByteArray := method_9_code
def yL_shadow : MethodName := ⟨RL, "shadow", "(LShadowTolls;IIII[J)I"⟩
abbrev cL_law : ByteArray := method_10_code
def yL_law : MethodName := ⟨RL, "law", "(LShadowTolls;II[J)I"⟩
abbrev cL_coins : ByteArray := method_11_code
def yL_coins : MethodName := ⟨RL, "coins", "(LShadowTolls;IIIIZ[J)I"⟩
abbrev cL_best : ByteArray := method_12_code
def yL_best : MethodName := ⟨RL, "best", "(LShadowTolls;IIII[J)I"⟩
abbrev cL_week : ByteArray := method_13_code
def yL_week : MethodName := ⟨RL, "week", "(LShadowTolls;II[J)I"⟩
abbrev cL_plan : ByteArray := method_14_code
def yL_plan : MethodName := ⟨RL, "plan", "(LShadowTolls;IIZI[J)I"⟩
abbrev cL_slot : ByteArray := method_15_code
def yL_slot : MethodName := ⟨RL, "slot", "(LShadowTolls;IIZI[J)I"⟩
abbrev cL_most : ByteArray := method_16_code
def yL_most : MethodName := ⟨RL, "most", "(LShadowTolls;I[J)I"⟩
abbrev cL_cross : ByteArray := method_17_code
def yL_cross : MethodName := ⟨RL, "cross", "(LShadowTolls;IIII[J)I"⟩
abbrev cL_taken : ByteArray := method_18_code
def yL_taken : MethodName := ⟨RL, "taken", "(LShadowTolls;I[J)I"⟩
abbrev cL_write : ByteArray := method_19_code
def yL_write : MethodName := ⟨RL, "write", "(LShadowTolls;II[J)I"⟩
abbrev cL_stolen : ByteArray := method_20_code
def yL_stolen : MethodName := ⟨RL, "stolen", "(LShadowTolls;I[J)I"⟩
abbrev cL_lines : ByteArray := method_21_code
def yL_lines : MethodName := ⟨RL, "lines", "(LShadowTolls;III[J)I"⟩
abbrev cL_war : ByteArray := method_22_code
def yL_war : MethodName := ⟨RL, "war", "(LShadowTolls;III[J)I"⟩
abbrev cL_ledger : ByteArray := method_23_code
def yL_ledger : MethodName := ⟨RL, "ledger", "(LShadowTolls;II[J)I"⟩
abbrev cL_fits : ByteArray := method_24_code
def yL_fits : MethodName := ⟨RL, "fits", "(LShadowTolls;III[J)I"⟩
abbrev cL_season : ByteArray := method_25_code
def yL_season : MethodName := ⟨RL, "season", "(LShadowTolls;III[J)I"⟩
abbrev cL_span : ByteArray := method_26_code
def yL_span : MethodName := ⟨RL, "span", "(LShadowTolls;IIIII[J)I"⟩
abbrev cL_law_ : ByteArray := code
def yL_law_ : MethodName := ⟨RL, "law", "([I)Z"⟩
def R_law : String := "ShadowTollsLaw"
end
section
/-! the places of the object graph, by program (wip/whole/shape.py): a place is a number; what lies there never changes but for its ints -/
abbrev Kd := Nat × Nat × Nat × Nat × Nat
def kdL : List (Nat × Kd) := [(1, (0, 8, 0, 0, 0)), (2, (0, 7, 0, 0, 0)), (3, (1, 500, 0, 0, 0)), (4, (0, 4, 0, 0, 0)), (7, (1, 30, 0, 0, 0)), (8, (1, 56, 0, 0, 0)), (9, (0, 4, 0, 0, 0)), (12, (1, 30, 0, 0, 0)), (13, (1, 56, 0, 0, 0)), (14, (2, 4, 14, 4, 6)), (15, (0, 0, 0, 0, 0)), (16, (1, 500, 0, 0, 0)), (17, (1, 6, 0, 0, 0)), (18, (1, 64, 0, 0, 0)), (19, (0, 0, 0, 0, 0)), (20, (1, 500, 0, 0, 0)), (21, (1, 6, 0, 0, 0)), (22, (1, 64, 0, 0, 0)), (23, (0, 0, 0, 0, 0)), (24, (1, 500, 0, 0, 0)), (25, (1, 6, 0, 0, 0)), (26, (1, 64, 0, 0, 0)), (27, (0, 0, 0, 0, 0)), (28, (1, 500, 0, 0, 0)), (29, (1, 6, 0, 0, 0)), (30, (1, 64, 0, 0, 0)), (31, (0, 0, 0, 0, 0)), (32, (1, 500, 0, 0, 0)), (33, (1, 6, 0, 0, 0)), (34, (1, 64, 0, 0, 0)), (35, (0, 0, 0, 0, 0)), (36, (1, 500, 0, 0, 0)), (37, (1, 6, 0, 0, 0)), (38, (1, 64, 0, 0, 0)), (39, (0, 0, 0, 0, 0)), (40, (1, 500, 0, 0, 0)), (41, (1, 6, 0, 0, 0)), (42, (1, 64, 0, 0, 0)), (43, (0, 5, 0, 0, 0)), (44, (0, 1, 0, 0, 0)), (45, (0, 2, 0, 0, 0)), (46, (1, 60, 0, 0, 0)), (49, (1, 480, 0, 0, 0)), (50, (1, 140544, 0, 0, 0)), (52, (1, 60, 0, 0, 0)), (53, (1, 2, 0, 0, 0)), (56, (1, 8, 0, 0, 0)), (58, (1, 9, 0, 0, 0)), (59, (0, 6, 0, 0, 0)), (62, (1, 240, 0, 0, 0)), (63, (0, 3, 0, 0, 0)), (64, (1, 2, 0, 0, 0)), (66, (1, 60, 0, 0, 0)), (67, (1, 30, 0, 0, 0)), (69, (1, 10, 0, 0, 0)), (70, (2, 3, 70, 7, 7)), (71, (0, 3, 0, 0, 0)), (72, (1, 2, 0, 0, 0)), (74, (1, 60, 0, 0, 0)), (75, (1, 30, 0, 0, 0)), (77, (1, 10, 0, 0, 0)), (78, (0, 3, 0, 0, 0)), (79, (1, 2, 0, 0, 0)), (81, (1, 60, 0, 0, 0)), (82, (1, 30, 0, 0, 0)), (84, (1, 10, 0, 0, 0)), (85, (0, 3, 0, 0, 0)), (86, (1, 2, 0, 0, 0)), (88, (1, 60, 0, 0, 0)), (89, (1, 30, 0, 0, 0)), (91, (1, 10, 0, 0, 0)), (92, (1, 32, 0, 0, 0)), (93, (0, 9, 0, 0, 0)), (94, (1, 500, 0, 0, 0)), (96, (1, 11, 0, 0, 0)), (100, (1, 30, 0, 0, 0)), (101, (2, 8, 101, 1, 3)), (109, (1, 7, 0, 0, 0)), (110, (2, 8, 110, 1, 3)), (118, (1, 7, 0, 0, 0)), (119, (1, 4, 0, 0, 0)), (120, (2, 4, 120, 1, 3)), (124, (1, 10, 0, 0, 0)), (125, (2, 4, 125, 1, 3)), (129, (1, 10, 0, 0, 0)), (130, (2, 4, 130, 1, 3)), (134, (1, 10, 0, 0, 0)), (135, (2, 4, 135, 1, 3)), (140, (1, 800, 0, 0, 0)), (141, (1, 6, 0, 0, 0)), (142, (1, 2, 0, 0, 0)), (143, (1, 30, 0, 0, 0)), (144, (2, 60, 144, 1, 3)), (204, (1, 2, 0, 0, 0)), (205, (2, 10, 205, 1, 3)), (215, (1, 2, 0, 0, 0)), (216, (2, 3, 216, 1, 3)), (219, (1, 200, 0, 0, 0)), (220, (2, 60, 220, 9, 5))]
def kdR : List (Nat × Kd) := [(1302, (2, 60, 1302, 1, 4)), (1362, (3, 8, 0, 0, 0)), (1363, (2, 61, 1363, 1, 3)), (1424, (1, 2304, 0, 0, 0)), (1425, (1, 60, 0, 0, 0)), (1426, (1, 2, 0, 0, 0)), (1427, (2, 30, 1427, 1, 3)), (1457, (1, 30, 0, 0, 0)), (1458, (4, 1, 0, 0, 0))]
def kdF : List (Nat × Kd) → Nat → Kd
  | [], _ => (9, 0, 0, 0, 0)
  | (e, k) :: l, p => if p < e then k else kdF l p
def kd (p : Nat) : Kd := if p < 220 then kdF kdL p else if p < 760 then (if (p - 220) % 9 = 0 then (2, 8, p + 1, 1, 3) else (1, 2, 0, 0, 0)) else if p < 761 then (2, 60, 761, 9, 5) else if p < 1301 then (if (p - 761) % 9 = 0 then (2, 8, p + 1, 1, 3) else (1, 2, 0, 0, 0)) else kdF kdR p
def tgL : List (Nat × List Nat) := [(0, [1, 3, 8, 13, 30, 34, 38, 42, 43, 44, 58, 62, 69, 91]), (1, [2]), (3, [4, 5, 6, 7]), (8, [9, 10, 11, 12]), (14, [15, 16, 17]), (18, [19, 20, 21]), (22, [23, 24, 25]), (26, [27, 28, 29]), (30, [31, 32, 33]), (34, [35, 36, 37]), (38, [39, 40, 41]), (42, [1, 8]), (43, [1, 30]), (44, [3, 45, 46, 47, 48, 49, 50, 51, 52, 53, 54, 55, 56, 57]), (58, [3, 44, 59, 60, 61]), (62, [63, 64, 65, 66, 67, 68]), (70, [71, 72, 73, 74, 75, 76]), (77, [78, 79, 80, 81, 82, 83]), (84, [85, 86, 87, 88, 89, 90]), (92, [0, 0, 0, 0, 0, 0, 0, 0, 0, 93, 94, 95, 96, 97, 98, 99, 100, 109, 0, 0, 0, 118, 119, 124, 129, 134, 139, 140, 141, 142, 0, 0, 0, 143, 204, 215, 0, 219, 760, 1301, 1362, 1424, 0, 0, 0, 0, 0, 1425, 0, 0, 1426])]
def tgF : List (Nat × List Nat) → Nat → Nat → Nat
  | [], _, _ => 0
  | (q, l) :: r, p, k => if p = q then l.getD k 0 else tgF r p k
def tg (p k : Nat) : Nat := tgF tgL p k
def fkL : List (List Nat) := [[2, 2, 2, 0], [2, 2], [2, 2, 2, 2, 2, 2, 2, 2, 2, 2, 2, 2, 2, 2, 0, 0, 0, 0, 0, 0], [2, 2, 2, 2, 2, 2, 0, 0], [2, 2, 2, 2, 0, 0, 0, 0, 0, 0, 0, 0, 0, 1, 1], [2, 2], [2, 2, 2, 2, 2, 0], [2, 0, 0, 0, 0, 0], [2, 2, 2, 2, 2, 2, 2, 2, 2, 2, 2, 2, 2, 2, 0, 0], [0, 0, 0, 0, 0, 0, 0, 0, 0, 2, 2, 2, 2, 2, 2, 2, 2, 2, 0, 0, 0, 2, 2, 2, 2, 2, 2, 2, 2, 2, 0, 0, 0, 2, 2, 2, 0, 2, 2, 2, 2, 2, 0, 0, 0, 0, 0, 2, 0, 0, 2, 0]]
def fk (c k : Nat) : Nat := (fkL.getD c []).getD k 0
def nfL : List Nat := [4, 2, 20, 8, 15, 2, 6, 6, 16, 52]
def nf (c : Nat) : Nat := nfL.getD c 0
def NP : Nat := 1458
abbrev clsL : List vw_C := [(RX0, TX0, 4), (RX1, TX1, 2), (RX2, TX2, 20), (RX3, TX3, 8), (RX4, TX4, 15), (RX5, TX5, 2), (RX6, TX6, 6), (RX7, TX7, 6), (RX8, TX8, 16), (RX9, TX9, 52)]
theorem kd_lt {p a b c d e : Nat} (h : kd p = (a, b, c, d, e)) (ha : a < 9) : p < NP := by
  refine Nat.lt_of_not_le fun hp => ?_
  have h2 : 1458 ≤ p := hp
  have h3 : kd p = (9, 0, 0, 0, 0) := by
    unfold kd
    rw [if_neg (by omega), if_neg (by omega), if_neg (by omega), if_neg (by omega)]
    simp only [kdR, kdF]
    repeat rw [if_neg (by omega)]
  rw [h3] at h
  have h4 : 9 = a := congrArg Prod.fst h
  omega
end
section
def strL : List (String × Nat × String) := [("ShadowTolls", 343, "a number is out of its bounds"), ("ShadowTolls$RoadReader", 58, "sun"), ("ShadowTolls$RoadReader", 64, "falls"), ("ShadowTolls$RoadReader", 66, "keeper"), ("ShadowTolls$RoadReader", 68, "traveller"), ("ShadowTolls$RoadReader", 70, "takes"), ("ShadowTolls$RoadReader", 72, "hat"), ("ShadowTolls$RoadReader", 74, "lies"), ("ShadowTolls$RoadReader", 76, "feast"), ("ShadowTolls$RoadReader", 78, "cloud"), ("ShadowTolls$RoadReader", 80, "second"), ("ShadowTolls$RoadReader", 82, "lamp"), ("ShadowTolls$RoadReader", 84, "shade"), ("ShadowTolls$LawReader", 34, "pay"), ("ShadowTolls$LawReader", 75, "shadow"), ("ShadowTolls$LawReader", 77, "height"), ("ShadowTolls$LawReader", 79, "weight"), ("ShadowTolls$LawReader", 81, "hour"), ("ShadowTolls$LawReader", 83, "day"), ("ShadowTolls$LawReader", 85, "feast"), ("ShadowTolls$LawReader", 48, "if"), ("ShadowTolls$LawReader", 67, "not"), ("ShadowTolls$LawReader", 63, "and"), ("ShadowTolls$LawReader", 65, "or"), ("ShadowTolls", 171, "nothing is told under this number"), ("ShadowTolls", 356, "no such traveller"), ("ShadowTolls", 345, "no such day"), ("ShadowTolls", 351, "no such bridge"), ("ShadowTolls", 347, "no such minute"), ("ShadowTolls", 359, "bits of travellers that there are not"), ("ShadowTolls", 361, "there is no second bridge"), ("ShadowTolls", 294, "a war needs a second bridge and a toll")]
def bytL : List (List Nat) := [[97, 32, 110, 117, 109, 98, 101, 114, 32, 105, 115, 32, 111, 117, 116, 32, 111, 102, 32, 105, 116, 115, 32, 98, 111, 117, 110, 100, 115], [115, 117, 110], [102, 97, 108, 108, 115], [107, 101, 101, 112, 101, 114], [116, 114, 97, 118, 101, 108, 108, 101, 114], [116, 97, 107, 101, 115], [104, 97, 116], [108, 105, 101, 115], [102, 101, 97, 115, 116], [99, 108, 111, 117, 100], [115, 101, 99, 111, 110, 100], [108, 97, 109, 112], [115, 104, 97, 100, 101], [112, 97, 121], [115, 104, 97, 100, 111, 119], [104, 101, 105, 103, 104, 116], [119, 101, 105, 103, 104, 116], [104, 111, 117, 114], [100, 97, 121], [102, 101, 97, 115, 116], [105, 102], [110, 111, 116], [97, 110, 100], [111, 114], [110, 111, 116, 104, 105, 110, 103, 32, 105, 115, 32, 116, 111, 108, 100, 32, 117, 110, 100, 101, 114, 32, 116, 104, 105, 115, 32, 110, 117, 109, 98, 101, 114], [110, 111, 32, 115, 117, 99, 104, 32, 116, 114, 97, 118, 101, 108, 108, 101, 114], [110, 111, 32, 115, 117, 99, 104, 32, 100, 97, 121], [110, 111, 32, 115, 117, 99, 104, 32, 98, 114, 105, 100, 103, 101], [110, 111, 32, 115, 117, 99, 104, 32, 109, 105, 110, 117, 116, 101], [98, 105, 116, 115, 32, 111, 102, 32, 116, 114, 97, 118, 101, 108, 108, 101, 114, 115, 32, 116, 104, 97, 116, 32, 116, 104, 101, 114, 101, 32, 97, 114, 101, 32, 110, 111, 116], [116, 104, 101, 114, 101, 32, 105, 115, 32, 110, 111, 32, 115, 101, 99, 111, 110, 100, 32, 98, 114, 105, 100, 103, 101], [97, 32, 119, 97, 114, 32, 110, 101, 101, 100, 115, 32, 97, 32, 115, 101, 99, 111, 110, 100, 32, 98, 114, 105, 100, 103, 101, 32, 97, 110, 100, 32, 97, 32, 116, 111, 108, 108]]
abbrev NS : Nat := 32
/-! my machine: a heap is a function from places and indexes to ints; everything else of the world stays as the shape (part 04) says -/
abbrev Hp := Nat → Nat → Int32
def hup (h : Hp) (p i : Nat) (v : Int32) : Hp := fun a => if a = p then upd (h a) i v else h a
/-- (classes' ids and slots, array classes' ids, addresses of the places, the heap's size at the law's start) -/
abbrev Cx := va_G × (Nat → ClassId) × (Nat → Nat) × Nat
def cry (w : Cond) : Bool := w.onTables && (w.keepsH || w.keepsFace)
def TT : List Cond := lw_tbl.filter cry
theorem tt_in {w : Cond} (i : Nat) (h : lw_tbl[i]? = some w) (hc : cry w = true) : w ∈ TT := List.mem_filter.mpr ⟨List.mem_of_getElem? h, hc⟩
theorem tt_tab {w : Cond} (h : w ∈ TT) : w.onTables = true := by
  have h1 := (List.mem_filter.mp h).2
  simp only [cry, Bool.and_eq_true] at h1
  exact h1.1
theorem tt_warm {w : Cond} (h : w ∈ TT) {s U : State} (hW : s.WarmedH U.vm) (hz : va_Nw w s) : va_Nw w U := by
  have h1 := (List.mem_filter.mp h).2
  simp only [cry, Bool.and_eq_true, Bool.or_eq_true] at h1
  rcases h1 with ⟨h1, h2 | h2⟩
  · have h3 := Cond.onTables_warmH (args' := #[]) (T := s) hW h1 h2 hz
    exact va_tabs (u := s.setVm U.vm) h1 rfl h3
  · have h3 := Cond.onTables_warmFace (args' := #[]) (T := s) hW h1 h2 hz
    exact va_tabs (u := s.setVm U.vm) h1 rfl h3
def rv (X : Cx) (v : Value) : Value := match v with
  | .ref a => .ref (X.2.2.1 a)
  | v => v
def AA (X : Cx) : Nat → Prop := fun q => X.2.2.2 ≤ q
def fval (X : Cx) (h : Hp) (p c k : Nat) : Value := if fk c k = 2 then .ref (X.2.2.1 (tg p k)) else if fk c k = 1 then .int (h p k &&& 1) else .int (h p k)
def entK (X : Cx) (h : Hp) (p : Nat) (k : Kd) : va_E := match k with
  | (0, c, _) => .inr (c, (List.range (nf c)).map (fval X h p c))
  | (1, n, _) => .inl (X.2.1 0, n, .inl (h p))
  | (2, n, b, c, d) => .inl (X.2.1 d, n, .inr (.inr (.inr (.inr (fun j => if j < n then some (X.2.2.1 (b + c * j)) else none)))))
  | (3, n, _) => .inl (X.2.1 1, n, .inl (fun j => h p j &&& 1))
  | (_, n, _) => .inl (X.2.1 2, n, .inr (.inl (fun j => (h p j).toInt64)))
def wsX (X : Cx) (h : Hp) : va_W := (List.range NP).map (fun p => (X.2.2.1 p, entK X h p (kd p)))
def tyX (X : Cx) : List (ClassId × FieldType) := [(X.2.1 0, .int), (X.2.1 1, .boolean), (X.2.1 2, .long), (X.2.1 3, .array .int), (X.2.1 4, .array .boolean), (X.2.1 5, .array (.array .int)), (X.2.1 6, .object RX0), (X.2.1 7, .object RX3)]
def Wd (X : Cx) (h : Hp) (H : Heap) (U : State) : Prop := va_P X.1 clsL (wsX X h) H ∧ va_K X.1 clsL (tyX X) U ∧ va_D (AA X) (wsX X h)
abbrev SB : Nat := 100000
/-- what lies ahead of the law's start and never changes: texts, statics, the tables' words -/
def ExS (X : Cx) (U : State) (H : Heap) (i : Nat) : Prop := va_O "java/lang/String" (X.2.2.1 (SB + 2 * i)) (AA X) U H ∧ va_OF "java/lang/String" "coder" "B" (.int 0) (X.2.2.1 (SB + 2 * i)) (AA X) U H ∧ va_OF "java/lang/String" "value" "[B" (.ref (X.2.2.1 (SB + 2 * i + 1))) (X.2.2.1 (SB + 2 * i)) (AA X) U H ∧ va_T .byte (X.2.2.1 (SB + 2 * i + 1)) (bytL.getD i []).length (fun j => .int (nI ((bytL.getD i []).getD j 0))) (AA X) U H
def ExR (X : Cx) (U : State) : Prop := ∀ i : Nat, ∀ q : String × Nat × String, strL[i]? = some q → vk_R q.1 q.2.1 q.2.2 (X.2.2.1 (SB + 2 * i)) U
def ExZ (X : Cx) (U : State) (H : Heap) : Prop := vx_Zq Bundle.tN "UNASSIGNED_STACK" Bundle.steD (AA X) U H ∧ vx_Zq Bundle.tN "SUPPRESSED_SENTINEL" Bundle.listD (AA X) U H ∧ va_Z "java/lang/String" "COMPACT_STRINGS" "Z" (.int 1) (AA X) U H ∧ va_Zq "jdk/internal/util/Preconditions" "SIOOBE_FORMATTER" "Ljava/util/function/BiFunction;" (AA X) U H
def xnL : List String := ["java/lang/IllegalArgumentException", "java/util/NoSuchElementException", "java/lang/IndexOutOfBoundsException", "java/lang/IllegalStateException"]
def ExN (U : State) : Prop := ∀ E ∈ xnL, ∀ F ∈ xnL, E ≠ F → va_Nc E F U
def Ex (X : Cx) (U : State) : Prop := X.2.2.2 ≤ U.heap.size ∧ (∀ i : Nat, i < NS → ExS X U U.heap i) ∧ ExR X U ∧ ExZ X U U.heap ∧ ExN U ∧ ∀ w ∈ TT, va_Nw w U
theorem Ex.to {X : Cx} {s U : State} {locs : List Loc} {H : Heap} (h : Ex X s) (hS : va_S (AA X) s.heap H locs) (hU : U.heap = H) (hW : s.WarmedH U.vm) : Ex X U := by
  obtain ⟨h1, h2, h3, h4, h5, h6⟩ := h
  subst hU
  have hk : ∀ q : Nat, q < s.heap.size → ¬ AA X q → U.heap[q]? = s.heap[q]? := hS.2.1
  have ha := hW.alike
  refine ⟨Nat.le_trans h1 hS.1, fun i hi => ?_, fun i q hq => (h3 i q hq).warm hW, ?_, fun E hE F hF hne => (h5 E hE F hF hne).moved ha, fun w hw => tt_warm hw hW (h6 w hw)⟩
  · obtain ⟨a, b, c, d⟩ := h2 i hi
    exact ⟨va_O.moved ha (a.kept hk), va_OF.moved ha (b.kept hk), va_OF.moved ha (c.kept hk), va_T.moved ha (d.kept hk)⟩
  · obtain ⟨a, b, c, d⟩ := h4
    exact ⟨vx_Zq.moved ha (a.kept hk), vx_Zq.moved ha (b.kept hk), va_Z.moved ha (c.kept hk), va_Zq.moved ha (d.kept hk)⟩
theorem Ex.same {X : Cx} {s U : State} (h : Ex X s) (hv : U.vm = s.vm) (hh : U.heap = s.heap) : Ex X U := by
  obtain ⟨h1, h2, h3, h4, h5, h6⟩ := h
  have ha : s.vm.Alike U.vm := by rw [hv]; exact Vm.Alike.refl _
  refine ⟨by rw [hh]; exact h1, fun i hi => ?_, fun i q hq => (h3 i q hq).same hv, ?_, fun E hE F hF hne => (h5 E hE F hF hne).moved ha, fun w hw => va_tabs (tt_tab hw) hv.symm (h6 w hw)⟩
  · obtain ⟨a, b, c, d⟩ := h2 i hi
    rw [hh]
    exact ⟨va_O.moved ha a, va_OF.moved ha b, va_OF.moved ha c, va_T.moved ha d⟩
  · obtain ⟨a, b, c, d⟩ := h4
    rw [hh]
    exact ⟨vx_Zq.moved ha a, vx_Zq.moved ha b, va_Z.moved ha c, va_Zq.moved ha d⟩
theorem Wd.moved {X : Cx} {h : Hp} {H : Heap} {u U : State} (hw : Wd X h H u) (hvm : u.vm.Alike U.vm) : Wd X h H U := ⟨hw.1, va_K.moved hvm hw.2.1, hw.2.2⟩
theorem rng_at {α : Type} (n : Nat) (f : Nat → α) {p : Nat} (hp : p < n) : ((List.range n).map f)[p]? = some (f p) := by
  rw [List.getElem?_map, List.getElem?_range hp]
  rfl
theorem rng_set {α : Type} (n : Nat) (f g : Nat → α) {p : Nat} (hp : p < n) (ho : ∀ q, q ≠ p → f q = g q) : ((List.range n).map f).set p (g p) = (List.range n).map g := by
  have hl : ((List.range n).map f).length = n := by rw [List.length_map, List.length_range]
  have hl2 : ((List.range n).map g).length = n := by rw [List.length_map, List.length_range]
  apply List.ext_getElem?
  intro i
  by_cases hi : i = p
  · subst hi
    rw [List.getElem?_set_self (by rw [hl]; exact hp), rng_at n g hp]
  · rw [List.getElem?_set_ne (Ne.symm hi)]
    by_cases h : i < n
    · rw [rng_at n f h, rng_at n g h, ho i hi]
    · rw [List.getElem?_eq_none (by rw [hl]; omega), List.getElem?_eq_none (by rw [hl2]; omega)]
theorem entK_congr (X : Cx) {h h' : Hp} {i : Nat} (hq : h' i = h i) (k : Kd) : entK X h i k = entK X h' i k := by
  have hf : ∀ c, fval X h i c = fval X h' i c := fun c => by
    funext k
    unfold fval
    rw [hq]
  unfold entK
  split
  · rw [hf]
  · rw [hq]
  · rfl
  · rw [hq]
  · rw [hq]
theorem ws_at (X : Cx) (h : Hp) {p : Nat} (hp : p < NP) : (wsX X h)[p]? = some (X.2.2.1 p, entK X h p (kd p)) := rng_at NP _ hp
theorem ws_set (X : Cx) (h h' : Hp) {p : Nat} {e : va_E} (hp : p < NP) (he : e = entK X h' p (kd p)) (ho : ∀ q, q ≠ p → h' q = h q) : (wsX X h).set p (X.2.2.1 p, e) = wsX X h' := by
  subst he
  exact rng_set NP (fun p => (X.2.2.1 p, entK X h p (kd p))) (fun p => (X.2.2.1 p, entK X h' p (kd p))) hp (fun q hq => by rw [entK_congr X (ho q hq)])
theorem hup_ne {h : Hp} {p q i : Nat} {v : Int32} (hq : q ≠ p) : hup h p i v q = h q := by simp [hup, hq]
theorem hup_self (h : Hp) (p i : Nat) (v : Int32) : hup h p i v p = upd (h p) i v := by simp [hup]
end
section
/-! the judgement G: the rows of the kit over my machine's states -/
abbrev Mi := String × ByteArray × Nat × Option FieldType
abbrev Rm := Nat × Nat × Nat × Nat
def Cs (X : Cx) (M : Mi) (E : Rm) (p : Program) (l : Launch) (R : Room) (s : State) (m : MethodId) (args : Array Value) (meth : Method) (c : Code) : Prop :=
  p.tables.exec = Jvm.exec ∧ c.code = M.2.1 ∧ c.maxLocals = M.2.2.1 ∧ meth.sig.returnType = M.2.2.2 ∧ s.vm.findClass M.1 = some m.cls ∧ (∀ w ∈ TT, w.before args s = true) ∧ meth.locks = false ∧ (∀ x ∈ c.exceptionTable.toList, False) ∧ l.stackTraces = false ∧ Ex X s ∧ E.1 ≤ R.frames ∧ E.2.1 ≤ R.locals ∧ E.2.2.1 ≤ R.cells ∧ E.2.2.2 ≤ R.slots
def lmap (X : Cx) (L : List (Nat × Value)) : List (Nat × Value) := L.map (fun q => (q.1, rv X q.2))
def Cy (X : Cx) (M : Mi) (E : Rm) (kc : Nat) (L : List (Nat × Value)) (h : Hp) (s : State) (H : Heap) (locs : List Loc) (cells slots : Nat) (ls : Array Slot) : Prop :=
  Wd X h H s ∧ va_S (AA X) s.heap H locs ∧ lv_has ls M.2.2.1 (lmap X L) ∧ cells + kc ≤ E.2.2.1 ∧ slots + 6 * kc ≤ E.2.2.2
abbrev Qf := List Frame → Array Value → State → State → Prop
def G (X : Cx) (M : Mi) (E : Rm) (Q : Qf) (kc pc : Nat) (L : List (Nat × Value)) (st : List Value) (h : Hp) : Prop :=
  ∀ (p : Program) (l : Launch) (e : Env) (R : Room) (s : State) (m : MethodId) (args : Array Value) (below : List Frame) (meth : Method) (c : Code) (H : Heap) (locs : List Loc) (cells slots : Nat) (ls : Array Slot),
    Cs X M E p l R s m args meth c → Cy X M E kc L h s H locs cells slots ls → W p l e R s m args below meth c H locs cells slots (Q below args s) (F0 m pc ls (st.map (rv X)))
theorem rv_cat (X : Cx) (v : Value) : (rv X v).category = v.category := by cases v <;> rfl
theorem lmap_at {X : Cx} {L : List (Nat × Value)} {k i : Nat} {v : Value} (h : L[k]? = some (i, v)) : (lmap X L)[k]? = some (i, rv X v) := by
  unfold lmap
  rw [List.getElem?_map, h]
  rfl
def sto1 (L : List (Nat × Value)) (i : Nat) (v : Value) : List (Nat × Value) := (i, v) :: L.filter (fun q => !(q.1 == i) && !(q.1 + 1 == i && q.2.category == 2))
def sto2 (L : List (Nat × Value)) (i : Nat) (v : Value) : List (Nat × Value) := (i, v) :: L.filter (fun q => !(q.1 == i) && (!(q.1 == i + 1) && !(q.1 + 1 == i && q.2.category == 2)))
theorem lmap_sto1 (X : Cx) (L : List (Nat × Value)) (i : Nat) (v : Value) : (i, rv X v) :: (lmap X L).filter (fun q => !(q.1 == i) && !(q.1 + 1 == i && q.2.category == 2)) = lmap X (sto1 L i v) := by
  unfold lmap sto1
  rw [List.map_cons, List.filter_map]
  congr 2
  apply List.filter_congr
  intro q _
  simp only [Function.comp, rv_cat]
theorem lmap_sto2 (X : Cx) (L : List (Nat × Value)) (i : Nat) (v : Value) : (i, rv X v) :: (lmap X L).filter (fun q => !(q.1 == i) && (!(q.1 == i + 1) && !(q.1 + 1 == i && q.2.category == 2))) = lmap X (sto2 L i v) := by
  unfold lmap sto2
  rw [List.map_cons, List.filter_map]
  congr 2
  apply List.filter_congr
  intro q _
  simp only [Function.comp, rv_cat]
theorem lmap_pick (X : Cx) (L : List (Nat × Value)) (ks : List Nat) : lv_pick (lmap X L) ks = lmap X (lv_pick L ks) := by
  unfold lv_pick lmap
  rw [List.map_filterMap]
  congr 1
  funext k
  rw [List.getElem?_map]
def wif (c A B : Prop) : Prop := (c → A) ∧ (¬ c → B)
section GR
variable {X : Cx} {M : Mi} {E : Rm} {Q : Qf} {kc pc : Nat} {L : List (Nat × Value)} {st : List Value} {h : Hp}
/-- fewer locals, or in another order -/
theorem g_sub (ks : List Nat) {L' : List (Nat × Value)} (hl : lv_pick L ks = L') (k : G X M E Q kc pc L' st h) : G X M E Q kc pc L st h := by
  intro p l e R s m args below meth c H locs cells slots ls S Y
  refine k p l e R s m args below meth c H locs cells slots ls S ⟨Y.1, Y.2.1, ?_, Y.2.2.2⟩
  exact lv_sub Y.2.2.1 ks (by rw [lmap_pick, hl])
theorem g_less {kc' : Nat} (hk : kc' ≤ kc) (k : G X M E Q kc' pc L st h) : G X M E Q kc pc L st h := by
  intro p l e R s m args below meth c H locs cells slots ls S Y
  exact k p l e R s m args below meth c H locs cells slots ls S ⟨Y.1, Y.2.1, Y.2.2.1, by have := Y.2.2.2.1; omega, by have := Y.2.2.2.2; omega⟩
theorem g_iconst {n : Int} {v : Int32} (hd : decode M.2.1 pc = .ok (.iconst n, 1)) (hv : Int32.ofInt n = v) (k : G X M E Q kc (pc + 1) L (.int v :: st) h) : G X M E Q kc pc L st h := by
  intro p l e R s m args below meth c H locs cells slots ls S Y
  exact lv_iconst S.1 S.2.1 hd hv (k p l e R s m args below meth c H locs cells slots ls S Y)
theorem g_bipush {n : Int} {v : Int32} (hd : decode M.2.1 pc = .ok (.bipush n, 2)) (hv : (Int8.ofInt n).toInt32 = v) (k : G X M E Q kc (pc + 2) L (.int v :: st) h) : G X M E Q kc pc L st h := by
  intro p l e R s m args below meth c H locs cells slots ls S Y
  exact lv_bipush S.1 S.2.1 hd hv (k p l e R s m args below meth c H locs cells slots ls S Y)
theorem g_sipush {n : Int} {v : Int32} (hd : decode M.2.1 pc = .ok (.sipush n, 3)) (hv : (Int16.ofInt n).toInt32 = v) (k : G X M E Q kc (pc + 3) L (.int v :: st) h) : G X M E Q kc pc L st h := by
  intro p l e R s m args below meth c H locs cells slots ls S Y
  exact lv_sipush S.1 S.2.1 hd hv (k p l e R s m args below meth c H locs cells slots ls S Y)
theorem g_lconst {n : Fin 2} {v : Int64} (hd : decode M.2.1 pc = .ok (.lconst n, 1)) (hv : Int64.ofNat (n : Nat) = v) (k : G X M E Q kc (pc + 1) L (.long v :: st) h) : G X M E Q kc pc L st h := by
  intro p l e R s m args below meth c H locs cells slots ls S Y
  exact lv_lconst S.1 S.2.1 hd hv (k p l e R s m args below meth c H locs cells slots ls S Y)
theorem g_null  (hd : decode M.2.1 pc = .ok (.aconst_null, 1)) (k : G X M E Q kc (pc + 1) L (.null :: st) h) : G X M E Q kc pc L st h := by
  intro p l e R s m args below meth c H locs cells slots ls S Y
  exact lv_null S.1 S.2.1 hd (k p l e R s m args below meth c H locs cells slots ls S Y)
theorem g_ldc {v : Int32} {ix : Nat} (hd : decode M.2.1 pc = .ok (.ldc ix, 2)) (hc : Cond.constant M.1 ix v ∈ TT) (k : G X M E Q kc (pc + 2) L (.int v :: st) h) : G X M E Q kc pc L st h := by
  intro p l e R s m args below meth c H locs cells slots ls S Y
  exact lv_ldc S.1 S.2.1 S.2.2.2.2.1 (S.2.2.2.2.2.1 _ hc) hd (k p l e R s m args below meth c H locs cells slots ls S Y)
theorem g_ldcw {v : Int32} {ix : Nat} (hd : decode M.2.1 pc = .ok (.ldc_w ix, 3)) (hc : Cond.constant M.1 ix v ∈ TT) (k : G X M E Q kc (pc + 3) L (.int v :: st) h) : G X M E Q kc pc L st h := by
  intro p l e R s m args below meth c H locs cells slots ls S Y
  exact lv_ldcw S.1 S.2.1 S.2.2.2.2.1 (S.2.2.2.2.2.1 _ hc) hd (k p l e R s m args below meth c H locs cells slots ls S Y)
theorem g_ldc2 {v : Int64} {ix : Nat} (hd : decode M.2.1 pc = .ok (.ldc2_w ix, 3)) (hc : Cond.constantLong M.1 ix v ∈ TT) (k : G X M E Q kc (pc + 3) L (.long v :: st) h) : G X M E Q kc pc L st h := by
  intro p l e R s m args below meth c H locs cells slots ls S Y
  exact lv_ldc2 S.1 S.2.1 S.2.2.2.2.1 (S.2.2.2.2.2.1 _ hc) hd (k p l e R s m args below meth c H locs cells slots ls S Y)
theorem g_ldcS (i : Nat) {tx : String} {ix : Nat} (hd : decode M.2.1 pc = .ok (.ldc ix, 2)) (hi : strL[i]? = some (M.1, ix, tx)) (k : G X M E Q kc (pc + 2) L (.ref (SB + 2 * i) :: st) h) : G X M E Q kc pc L st h := by
  intro p l e R s m args below meth c H locs cells slots ls S Y
  exact va_ldcS S.1 S.2.1 S.2.2.2.2.1 (S.2.2.2.2.2.2.2.2.2.1.2.2.1 i _ hi) hd (k p l e R s m args below meth c H locs cells slots ls S Y)
theorem g_iload (k9 : Nat) {i : Nat} {x : Int32} (hd : decode M.2.1 pc = .ok (.iload i, 2)) (hl : L[k9]? = some (i, .int x)) (k : G X M E Q kc (pc + 2) L (.int x :: st) h) : G X M E Q kc pc L st h := by
  intro p l e R s m args below meth c H locs cells slots ls S Y
  exact lv_iload S.1 S.2.1 hd (lv_at Y.2.2.1 k9 (lmap_at hl)) (k p l e R s m args below meth c H locs cells slots ls S Y)
theorem g_iload_n (k9 : Nat) {n : Fin 4} {i : Nat} {x : Int32} (hd : decode M.2.1 pc = .ok (.iload_n n, 1)) (hi : (n : Nat) = i) (hl : L[k9]? = some (i, .int x)) (k : G X M E Q kc (pc + 1) L (.int x :: st) h) : G X M E Q kc pc L st h := by
  intro p l e R s m args below meth c H locs cells slots ls S Y
  exact lv_iload_n S.1 S.2.1 hd hi (lv_at Y.2.2.1 k9 (lmap_at hl)) (k p l e R s m args below meth c H locs cells slots ls S Y)
theorem g_aload (k9 : Nat) {i : Nat} {x : Nat} (hd : decode M.2.1 pc = .ok (.aload i, 2)) (hl : L[k9]? = some (i, .ref x)) (k : G X M E Q kc (pc + 2) L (.ref x :: st) h) : G X M E Q kc pc L st h := by
  intro p l e R s m args below meth c H locs cells slots ls S Y
  exact lv_aload S.1 S.2.1 hd (lv_at Y.2.2.1 k9 (lmap_at hl)) (k p l e R s m args below meth c H locs cells slots ls S Y)
theorem g_aload_n (k9 : Nat) {n : Fin 4} {i : Nat} {x : Nat} (hd : decode M.2.1 pc = .ok (.aload_n n, 1)) (hi : (n : Nat) = i) (hl : L[k9]? = some (i, .ref x)) (k : G X M E Q kc (pc + 1) L (.ref x :: st) h) : G X M E Q kc pc L st h := by
  intro p l e R s m args below meth c H locs cells slots ls S Y
  exact lv_aload_n S.1 S.2.1 hd hi (lv_at Y.2.2.1 k9 (lmap_at hl)) (k p l e R s m args below meth c H locs cells slots ls S Y)
theorem g_lload (k9 : Nat) {i : Nat} {x : Int64} (hd : decode M.2.1 pc = .ok (.lload i, 2)) (hl : L[k9]? = some (i, .long x)) (k : G X M E Q kc (pc + 2) L (.long x :: st) h) : G X M E Q kc pc L st h := by
  intro p l e R s m args below meth c H locs cells slots ls S Y
  exact lv_lload S.1 S.2.1 hd (lv_at Y.2.2.1 k9 (lmap_at hl)) (k p l e R s m args below meth c H locs cells slots ls S Y)
theorem g_lload_n (k9 : Nat) {n : Fin 4} {i : Nat} {x : Int64} (hd : decode M.2.1 pc = .ok (.lload_n n, 1)) (hi : (n : Nat) = i) (hl : L[k9]? = some (i, .long x)) (k : G X M E Q kc (pc + 1) L (.long x :: st) h) : G X M E Q kc pc L st h := by
  intro p l e R s m args below meth c H locs cells slots ls S Y
  exact lv_lload_n S.1 S.2.1 hd hi (lv_at Y.2.2.1 k9 (lmap_at hl)) (k p l e R s m args below meth c H locs cells slots ls S Y)
theorem g_aloadN (k9 : Nat) {i : Nat} (hd : decode M.2.1 pc = .ok (.aload i, 2)) (hl : L[k9]? = some (i, .null)) (k : G X M E Q kc (pc + 2) L (.null :: st) h) : G X M E Q kc pc L st h := by
  intro p l e R s m args below meth c H locs cells slots ls S Y
  exact lv_aloadN S.1 S.2.1 hd (lv_at Y.2.2.1 k9 (lmap_at hl)) (k p l e R s m args below meth c H locs cells slots ls S Y)
theorem g_aload_nN (k9 : Nat) {n : Fin 4} {i : Nat} (hd : decode M.2.1 pc = .ok (.aload_n n, 1)) (hi : (n : Nat) = i) (hl : L[k9]? = some (i, .null)) (k : G X M E Q kc (pc + 1) L (.null :: st) h) : G X M E Q kc pc L st h := by
  intro p l e R s m args below meth c H locs cells slots ls S Y
  exact lv_aload_nN S.1 S.2.1 hd hi (lv_at Y.2.2.1 k9 (lmap_at hl)) (k p l e R s m args below meth c H locs cells slots ls S Y)
theorem g_istore {i : Nat} {x : Int32}  {L' : List (Nat × Value)} (hd : decode M.2.1 pc = .ok (.istore i, 2))  (hn : i < M.2.2.1) (hl : sto1 L i (.int x) = L') (k : G X M E Q kc (pc + 2) L' st h) : G X M E Q kc pc L (.int x :: st) h := by
  intro p l e R s m args below meth c H locs cells slots ls S Y
  exact lv_istore S.1 S.2.1 hd  Y.2.2.1 hn (by rw [← hl]; exact lmap_sto1 X L i (.int x)) (fun ls' hls => k p l e R s m args below meth c H locs cells slots ls' S ⟨Y.1, Y.2.1, hls, Y.2.2.2⟩)
theorem g_istore_n {i : Nat} {x : Int32} {n : Fin 4} {L' : List (Nat × Value)} (hd : decode M.2.1 pc = .ok (.istore_n n, 1)) (hi : (n : Nat) = i) (hn : i < M.2.2.1) (hl : sto1 L i (.int x) = L') (k : G X M E Q kc (pc + 1) L' st h) : G X M E Q kc pc L (.int x :: st) h := by
  intro p l e R s m args below meth c H locs cells slots ls S Y
  exact lv_istore_n S.1 S.2.1 hd hi Y.2.2.1 hn (by rw [← hl]; exact lmap_sto1 X L i (.int x)) (fun ls' hls => k p l e R s m args below meth c H locs cells slots ls' S ⟨Y.1, Y.2.1, hls, Y.2.2.2⟩)
theorem g_astore {i : Nat} {x : Nat}  {L' : List (Nat × Value)} (hd : decode M.2.1 pc = .ok (.astore i, 2))  (hn : i < M.2.2.1) (hl : sto1 L i (.ref x) = L') (k : G X M E Q kc (pc + 2) L' st h) : G X M E Q kc pc L (.ref x :: st) h := by
  intro p l e R s m args below meth c H locs cells slots ls S Y
  exact lv_astore S.1 S.2.1 hd  Y.2.2.1 hn (by rw [← hl]; exact lmap_sto1 X L i (.ref x)) (fun ls' hls => k p l e R s m args below meth c H locs cells slots ls' S ⟨Y.1, Y.2.1, hls, Y.2.2.2⟩)
theorem g_astore_n {i : Nat} {x : Nat} {n : Fin 4} {L' : List (Nat × Value)} (hd : decode M.2.1 pc = .ok (.astore_n n, 1)) (hi : (n : Nat) = i) (hn : i < M.2.2.1) (hl : sto1 L i (.ref x) = L') (k : G X M E Q kc (pc + 1) L' st h) : G X M E Q kc pc L (.ref x :: st) h := by
  intro p l e R s m args below meth c H locs cells slots ls S Y
  exact lv_astore_n S.1 S.2.1 hd hi Y.2.2.1 hn (by rw [← hl]; exact lmap_sto1 X L i (.ref x)) (fun ls' hls => k p l e R s m args below meth c H locs cells slots ls' S ⟨Y.1, Y.2.1, hls, Y.2.2.2⟩)
theorem g_lstore {i : Nat} {x : Int64}  {L' : List (Nat × Value)} (hd : decode M.2.1 pc = .ok (.lstore i, 2))  (hn : i + 1 < M.2.2.1) (hl : sto2 L i (.long x) = L') (k : G X M E Q kc (pc + 2) L' st h) : G X M E Q kc pc L (.long x :: st) h := by
  intro p l e R s m args below meth c H locs cells slots ls S Y
  exact lv_lstore S.1 S.2.1 hd  Y.2.2.1 hn (by rw [← hl]; exact lmap_sto2 X L i (.long x)) (fun ls' hls => k p l e R s m args below meth c H locs cells slots ls' S ⟨Y.1, Y.2.1, hls, Y.2.2.2⟩)
theorem g_lstore_n {i : Nat} {x : Int64} {n : Fin 4} {L' : List (Nat × Value)} (hd : decode M.2.1 pc = .ok (.lstore_n n, 1)) (hi : (n : Nat) = i) (hn : i + 1 < M.2.2.1) (hl : sto2 L i (.long x) = L') (k : G X M E Q kc (pc + 1) L' st h) : G X M E Q kc pc L (.long x :: st) h := by
  intro p l e R s m args below meth c H locs cells slots ls S Y
  exact lv_lstore_n S.1 S.2.1 hd hi Y.2.2.1 hn (by rw [← hl]; exact lmap_sto2 X L i (.long x)) (fun ls' hls => k p l e R s m args below meth c H locs cells slots ls' S ⟨Y.1, Y.2.1, hls, Y.2.2.2⟩)
theorem g_astoreN {i : Nat}  {L' : List (Nat × Value)} (hd : decode M.2.1 pc = .ok (.astore i, 2))  (hn : i < M.2.2.1) (hl : sto1 L i .null = L') (k : G X M E Q kc (pc + 2) L' st h) : G X M E Q kc pc L (.null :: st) h := by
  intro p l e R s m args below meth c H locs cells slots ls S Y
  exact lv_astoreN S.1 S.2.1 hd  Y.2.2.1 hn (by rw [← hl]; exact lmap_sto1 X L i .null) (fun ls' hls => k p l e R s m args below meth c H locs cells slots ls' S ⟨Y.1, Y.2.1, hls, Y.2.2.2⟩)
theorem g_astore_nN {i : Nat} {n : Fin 4} {L' : List (Nat × Value)} (hd : decode M.2.1 pc = .ok (.astore_n n, 1)) (hi : (n : Nat) = i) (hn : i < M.2.2.1) (hl : sto1 L i .null = L') (k : G X M E Q kc (pc + 1) L' st h) : G X M E Q kc pc L (.null :: st) h := by
  intro p l e R s m args below meth c H locs cells slots ls S Y
  exact lv_astore_nN S.1 S.2.1 hd hi Y.2.2.1 hn (by rw [← hl]; exact lmap_sto1 X L i .null) (fun ls' hls => k p l e R s m args below meth c H locs cells slots ls' S ⟨Y.1, Y.2.1, hls, Y.2.2.2⟩)
theorem g_iinc (k9 : Nat) {i : Nat} {n : Int} {x v : Int32} {L' : List (Nat × Value)} (hd : decode M.2.1 pc = .ok (.iinc i n, 3)) (hk : L[k9]? = some (i, .int x)) (hv : x + Int32.ofInt n = v) (hn : i < M.2.2.1) (hl : sto1 L i (.int v) = L') (k : G X M E Q kc (pc + 3) L' st h) : G X M E Q kc pc L st h := by
  intro p l e R s m args below meth c H locs cells slots ls S Y
  exact lv_iinc S.1 S.2.1 hd Y.2.2.1 (lmap_at hk) hv hn (by rw [← hl]; exact lmap_sto1 X L i (.int v)) (fun ls' hls => k p l e R s m args below meth c H locs cells slots ls' S ⟨Y.1, Y.2.1, hls, Y.2.2.2⟩)
theorem g_iadd {x y : Int32} (hd : decode M.2.1 pc = .ok (.iadd, 1)) (k : G X M E Q kc (pc + 1) L (.int (x + y) :: st) h) : G X M E Q kc pc L (.int y :: .int x :: st) h := by
  intro p l e R s m args below meth c H locs cells slots ls S Y
  exact lv_iadd S.1 S.2.1 hd (k p l e R s m args below meth c H locs cells slots ls S Y)
theorem g_isub {x y : Int32} (hd : decode M.2.1 pc = .ok (.isub, 1)) (k : G X M E Q kc (pc + 1) L (.int (x - y) :: st) h) : G X M E Q kc pc L (.int y :: .int x :: st) h := by
  intro p l e R s m args below meth c H locs cells slots ls S Y
  exact lv_isub S.1 S.2.1 hd (k p l e R s m args below meth c H locs cells slots ls S Y)
theorem g_imul {x y : Int32} (hd : decode M.2.1 pc = .ok (.imul, 1)) (k : G X M E Q kc (pc + 1) L (.int (x * y) :: st) h) : G X M E Q kc pc L (.int y :: .int x :: st) h := by
  intro p l e R s m args below meth c H locs cells slots ls S Y
  exact lv_imul S.1 S.2.1 hd (k p l e R s m args below meth c H locs cells slots ls S Y)
theorem g_iand {x y : Int32} (hd : decode M.2.1 pc = .ok (.iand, 1)) (k : G X M E Q kc (pc + 1) L (.int (x &&& y) :: st) h) : G X M E Q kc pc L (.int y :: .int x :: st) h := by
  intro p l e R s m args below meth c H locs cells slots ls S Y
  exact lv_iand S.1 S.2.1 hd (k p l e R s m args below meth c H locs cells slots ls S Y)
theorem g_ior {x y : Int32} (hd : decode M.2.1 pc = .ok (.ior, 1)) (k : G X M E Q kc (pc + 1) L (.int (x ||| y) :: st) h) : G X M E Q kc pc L (.int y :: .int x :: st) h := by
  intro p l e R s m args below meth c H locs cells slots ls S Y
  exact lv_ior S.1 S.2.1 hd (k p l e R s m args below meth c H locs cells slots ls S Y)
theorem g_ixor {x y : Int32} (hd : decode M.2.1 pc = .ok (.ixor, 1)) (k : G X M E Q kc (pc + 1) L (.int (x ^^^ y) :: st) h) : G X M E Q kc pc L (.int y :: .int x :: st) h := by
  intro p l e R s m args below meth c H locs cells slots ls S Y
  exact lv_ixor S.1 S.2.1 hd (k p l e R s m args below meth c H locs cells slots ls S Y)
theorem g_ishl {x y : Int32} (hd : decode M.2.1 pc = .ok (.ishl, 1)) (k : G X M E Q kc (pc + 1) L (.int (x <<< (y &&& 31)) :: st) h) : G X M E Q kc pc L (.int y :: .int x :: st) h := by
  intro p l e R s m args below meth c H locs cells slots ls S Y
  exact lv_ishl S.1 S.2.1 hd (k p l e R s m args below meth c H locs cells slots ls S Y)
theorem g_ishr {x y : Int32} (hd : decode M.2.1 pc = .ok (.ishr, 1)) (k : G X M E Q kc (pc + 1) L (.int (x >>> (y &&& 31)) :: st) h) : G X M E Q kc pc L (.int y :: .int x :: st) h := by
  intro p l e R s m args below meth c H locs cells slots ls S Y
  exact lv_ishr S.1 S.2.1 hd (k p l e R s m args below meth c H locs cells slots ls S Y)
theorem g_iushr {x y : Int32} (hd : decode M.2.1 pc = .ok (.iushr, 1)) (k : G X M E Q kc (pc + 1) L (.int ((x.toUInt32 >>> (y.toUInt32 &&& Int32.toUInt32 31)).toInt32) :: st) h) : G X M E Q kc pc L (.int y :: .int x :: st) h := by
  intro p l e R s m args below meth c H locs cells slots ls S Y
  exact lv_iushr S.1 S.2.1 hd rfl (k p l e R s m args below meth c H locs cells slots ls S Y)
theorem g_idiv {x y : Int32} (hd : decode M.2.1 pc = .ok (.idiv, 1)) (hne : ¬ y = 0) (k : G X M E Q kc (pc + 1) L (.int (x / y) :: st) h) : G X M E Q kc pc L (.int y :: .int x :: st) h := by
  intro p l e R s m args below meth c H locs cells slots ls S Y
  exact lv_idiv S.1 S.2.1 hd hne (k p l e R s m args below meth c H locs cells slots ls S Y)
theorem g_irem {x y : Int32} (hd : decode M.2.1 pc = .ok (.irem, 1)) (hne : ¬ y = 0) (k : G X M E Q kc (pc + 1) L (.int (x - x / y * y) :: st) h) : G X M E Q kc pc L (.int y :: .int x :: st) h := by
  intro p l e R s m args below meth c H locs cells slots ls S Y
  exact lv_irem S.1 S.2.1 hd hne (k p l e R s m args below meth c H locs cells slots ls S Y)
theorem g_ineg {x : Int32} (hd : decode M.2.1 pc = .ok (.ineg, 1)) (k : G X M E Q kc (pc + 1) L (.int (0 - x) :: st) h) : G X M E Q kc pc L (.int x :: st) h := by
  intro p l e R s m args below meth c H locs cells slots ls S Y
  exact lv_ineg S.1 S.2.1 hd (k p l e R s m args below meth c H locs cells slots ls S Y)
theorem g_ladd {x y : Int64} (hd : decode M.2.1 pc = .ok (.ladd, 1)) (k : G X M E Q kc (pc + 1) L (.long (x + y) :: st) h) : G X M E Q kc pc L (.long y :: .long x :: st) h := by
  intro p l e R s m args below meth c H locs cells slots ls S Y
  exact lv_ladd S.1 S.2.1 hd (k p l e R s m args below meth c H locs cells slots ls S Y)
theorem g_lsub {x y : Int64} (hd : decode M.2.1 pc = .ok (.lsub, 1)) (k : G X M E Q kc (pc + 1) L (.long (x - y) :: st) h) : G X M E Q kc pc L (.long y :: .long x :: st) h := by
  intro p l e R s m args below meth c H locs cells slots ls S Y
  exact lv_lsub S.1 S.2.1 hd (k p l e R s m args below meth c H locs cells slots ls S Y)
theorem g_lmul {x y : Int64} (hd : decode M.2.1 pc = .ok (.lmul, 1)) (k : G X M E Q kc (pc + 1) L (.long (x * y) :: st) h) : G X M E Q kc pc L (.long y :: .long x :: st) h := by
  intro p l e R s m args below meth c H locs cells slots ls S Y
  exact lv_lmul S.1 S.2.1 hd (k p l e R s m args below meth c H locs cells slots ls S Y)
theorem g_i2l {x : Int32} (hd : decode M.2.1 pc = .ok (.i2l, 1)) (k : G X M E Q kc (pc + 1) L (.long x.toInt64 :: st) h) : G X M E Q kc pc L (.int x :: st) h := by
  intro p l e R s m args below meth c H locs cells slots ls S Y
  exact lv_i2l S.1 S.2.1 hd rfl (k p l e R s m args below meth c H locs cells slots ls S Y)
theorem g_l2i {x : Int64} (hd : decode M.2.1 pc = .ok (.l2i, 1)) (k : G X M E Q kc (pc + 1) L (.int x.toInt32 :: st) h) : G X M E Q kc pc L (.long x :: st) h := by
  intro p l e R s m args below meth c H locs cells slots ls S Y
  exact lv_l2i S.1 S.2.1 hd rfl (k p l e R s m args below meth c H locs cells slots ls S Y)
theorem g_lcmp {x y : Int64} (hd : decode M.2.1 pc = .ok (.lcmp, 1)) (k : G X M E Q kc (pc + 1) L (.int (lg_cmp x y) :: st) h) : G X M E Q kc pc L (.long y :: .long x :: st) h := by
  intro p l e R s m args below meth c H locs cells slots ls S Y
  exact W.lcmp S.1 S.2.1 hd (k p l e R s m args below meth c H locs cells slots ls S Y)
theorem g_dup {v : Value} (hd : decode M.2.1 pc = .ok (.dup, 1)) (hv : v.category = 1) (k : G X M E Q kc (pc + 1) L (v :: v :: st) h) : G X M E Q kc pc L (v :: st) h := by
  intro p l e R s m args below meth c H locs cells slots ls S Y
  exact lv_dup S.1 S.2.1 hd (by rw [rv_cat]; exact hv) (k p l e R s m args below meth c H locs cells slots ls S Y)
theorem g_pop {v : Value} (hd : decode M.2.1 pc = .ok (.pop, 1)) (hv : v.category = 1) (k : G X M E Q kc (pc + 1) L st h) : G X M E Q kc pc L (v :: st) h := by
  intro p l e R s m args below meth c H locs cells slots ls S Y
  exact lv_pop S.1 S.2.1 hd (by rw [rv_cat]; exact hv) (k p l e R s m args below meth c H locs cells slots ls S Y)
theorem g_dup2 {a b : Value} (hd : decode M.2.1 pc = .ok (.dup2, 1)) (ha : a.category = 1) (hb : b.category = 1) (k : G X M E Q kc (pc + 1) L (a :: b :: a :: b :: st) h) : G X M E Q kc pc L (a :: b :: st) h := by
  intro p l e R s m args below meth c H locs cells slots ls S Y
  exact lv_dup2_11 S.1 S.2.1 hd (by rw [rv_cat]; exact ha) (by rw [rv_cat]; exact hb) (k p l e R s m args below meth c H locs cells slots ls S Y)
theorem g_goto {off : Int} {tgt : Nat} (hd : decode M.2.1 pc = .ok (.goto off, 3)) (ht : (pc : Int) + off = (tgt : Int)) (k : G X M E Q kc tgt L st h) : G X M E Q kc pc L st h := by
  intro p l e R s m args below meth c H locs cells slots ls S Y
  exact lv_goto S.1 S.2.1 hd ht (k p l e R s m args below meth c H locs cells slots ls S Y)
theorem g_if_eq {x : Int32} {off : Int} {tgt : Nat} (hd : decode M.2.1 pc = .ok (.ifCond .eq off, 3)) (ht : (pc : Int) + off = (tgt : Int)) (kk : wif (x = 0) (G X M E Q kc tgt L st h) (G X M E Q kc (pc + 3) L st h)) : G X M E Q kc pc L (.int x :: st) h := by
  intro p l e R s m args below meth c H locs cells slots ls S Y
  exact lv_if_eq S.1 S.2.1 hd ht (fun z => by first | exact kk.1 z p l e R s m args below meth c H locs cells slots ls S Y | exact kk.1 (by simpa using z) p l e R s m args below meth c H locs cells slots ls S Y) (fun z => by first | exact kk.2 z p l e R s m args below meth c H locs cells slots ls S Y | exact kk.2 (by simpa using z) p l e R s m args below meth c H locs cells slots ls S Y)
theorem g_icmp_eq {x y : Int32} {off : Int} {tgt : Nat} (hd : decode M.2.1 pc = .ok (.if_icmp .eq off, 3)) (ht : (pc : Int) + off = (tgt : Int)) (kk : wif (x = y) (G X M E Q kc tgt L st h) (G X M E Q kc (pc + 3) L st h)) : G X M E Q kc pc L (.int y :: .int x :: st) h := by
  intro p l e R s m args below meth c H locs cells slots ls S Y
  exact lv_icmp_eq S.1 S.2.1 hd ht (fun z => by first | exact kk.1 z p l e R s m args below meth c H locs cells slots ls S Y | exact kk.1 (by simpa using z) p l e R s m args below meth c H locs cells slots ls S Y) (fun z => by first | exact kk.2 z p l e R s m args below meth c H locs cells slots ls S Y | exact kk.2 (by simpa using z) p l e R s m args below meth c H locs cells slots ls S Y)
theorem g_if_ne {x : Int32} {off : Int} {tgt : Nat} (hd : decode M.2.1 pc = .ok (.ifCond .ne off, 3)) (ht : (pc : Int) + off = (tgt : Int)) (kk : wif (¬ x = 0) (G X M E Q kc tgt L st h) (G X M E Q kc (pc + 3) L st h)) : G X M E Q kc pc L (.int x :: st) h := by
  intro p l e R s m args below meth c H locs cells slots ls S Y
  exact lv_if_ne S.1 S.2.1 hd ht (fun z => by first | exact kk.1 z p l e R s m args below meth c H locs cells slots ls S Y | exact kk.1 (by simpa using z) p l e R s m args below meth c H locs cells slots ls S Y) (fun z => by first | exact kk.2 z p l e R s m args below meth c H locs cells slots ls S Y | exact kk.2 (by simpa using z) p l e R s m args below meth c H locs cells slots ls S Y)
theorem g_icmp_ne {x y : Int32} {off : Int} {tgt : Nat} (hd : decode M.2.1 pc = .ok (.if_icmp .ne off, 3)) (ht : (pc : Int) + off = (tgt : Int)) (kk : wif (¬ x = y) (G X M E Q kc tgt L st h) (G X M E Q kc (pc + 3) L st h)) : G X M E Q kc pc L (.int y :: .int x :: st) h := by
  intro p l e R s m args below meth c H locs cells slots ls S Y
  exact lv_icmp_ne S.1 S.2.1 hd ht (fun z => by first | exact kk.1 z p l e R s m args below meth c H locs cells slots ls S Y | exact kk.1 (by simpa using z) p l e R s m args below meth c H locs cells slots ls S Y) (fun z => by first | exact kk.2 z p l e R s m args below meth c H locs cells slots ls S Y | exact kk.2 (by simpa using z) p l e R s m args below meth c H locs cells slots ls S Y)
theorem g_if_lt {x : Int32} {off : Int} {tgt : Nat} (hd : decode M.2.1 pc = .ok (.ifCond .lt off, 3)) (ht : (pc : Int) + off = (tgt : Int)) (kk : wif (x < 0) (G X M E Q kc tgt L st h) (G X M E Q kc (pc + 3) L st h)) : G X M E Q kc pc L (.int x :: st) h := by
  intro p l e R s m args below meth c H locs cells slots ls S Y
  exact lv_if_lt S.1 S.2.1 hd ht (fun z => by first | exact kk.1 z p l e R s m args below meth c H locs cells slots ls S Y | exact kk.1 (by simpa using z) p l e R s m args below meth c H locs cells slots ls S Y) (fun z => by first | exact kk.2 z p l e R s m args below meth c H locs cells slots ls S Y | exact kk.2 (by simpa using z) p l e R s m args below meth c H locs cells slots ls S Y)
theorem g_icmp_lt {x y : Int32} {off : Int} {tgt : Nat} (hd : decode M.2.1 pc = .ok (.if_icmp .lt off, 3)) (ht : (pc : Int) + off = (tgt : Int)) (kk : wif (x < y) (G X M E Q kc tgt L st h) (G X M E Q kc (pc + 3) L st h)) : G X M E Q kc pc L (.int y :: .int x :: st) h := by
  intro p l e R s m args below meth c H locs cells slots ls S Y
  exact lv_icmp_lt S.1 S.2.1 hd ht (fun z => by first | exact kk.1 z p l e R s m args below meth c H locs cells slots ls S Y | exact kk.1 (by simpa using z) p l e R s m args below meth c H locs cells slots ls S Y) (fun z => by first | exact kk.2 z p l e R s m args below meth c H locs cells slots ls S Y | exact kk.2 (by simpa using z) p l e R s m args below meth c H locs cells slots ls S Y)
theorem g_if_ge {x : Int32} {off : Int} {tgt : Nat} (hd : decode M.2.1 pc = .ok (.ifCond .ge off, 3)) (ht : (pc : Int) + off = (tgt : Int)) (kk : wif (0 ≤ x) (G X M E Q kc tgt L st h) (G X M E Q kc (pc + 3) L st h)) : G X M E Q kc pc L (.int x :: st) h := by
  intro p l e R s m args below meth c H locs cells slots ls S Y
  exact lv_if_ge S.1 S.2.1 hd ht (fun z => by first | exact kk.1 z p l e R s m args below meth c H locs cells slots ls S Y | exact kk.1 (by simpa using z) p l e R s m args below meth c H locs cells slots ls S Y) (fun z => by first | exact kk.2 z p l e R s m args below meth c H locs cells slots ls S Y | exact kk.2 (by simpa using z) p l e R s m args below meth c H locs cells slots ls S Y)
theorem g_icmp_ge {x y : Int32} {off : Int} {tgt : Nat} (hd : decode M.2.1 pc = .ok (.if_icmp .ge off, 3)) (ht : (pc : Int) + off = (tgt : Int)) (kk : wif (y ≤ x) (G X M E Q kc tgt L st h) (G X M E Q kc (pc + 3) L st h)) : G X M E Q kc pc L (.int y :: .int x :: st) h := by
  intro p l e R s m args below meth c H locs cells slots ls S Y
  exact lv_icmp_ge S.1 S.2.1 hd ht (fun z => by first | exact kk.1 z p l e R s m args below meth c H locs cells slots ls S Y | exact kk.1 (by simpa using z) p l e R s m args below meth c H locs cells slots ls S Y) (fun z => by first | exact kk.2 z p l e R s m args below meth c H locs cells slots ls S Y | exact kk.2 (by simpa using z) p l e R s m args below meth c H locs cells slots ls S Y)
theorem g_if_gt {x : Int32} {off : Int} {tgt : Nat} (hd : decode M.2.1 pc = .ok (.ifCond .gt off, 3)) (ht : (pc : Int) + off = (tgt : Int)) (kk : wif (0 < x) (G X M E Q kc tgt L st h) (G X M E Q kc (pc + 3) L st h)) : G X M E Q kc pc L (.int x :: st) h := by
  intro p l e R s m args below meth c H locs cells slots ls S Y
  exact lv_if_gt S.1 S.2.1 hd ht (fun z => by first | exact kk.1 z p l e R s m args below meth c H locs cells slots ls S Y | exact kk.1 (by simpa using z) p l e R s m args below meth c H locs cells slots ls S Y) (fun z => by first | exact kk.2 z p l e R s m args below meth c H locs cells slots ls S Y | exact kk.2 (by simpa using z) p l e R s m args below meth c H locs cells slots ls S Y)
theorem g_icmp_gt {x y : Int32} {off : Int} {tgt : Nat} (hd : decode M.2.1 pc = .ok (.if_icmp .gt off, 3)) (ht : (pc : Int) + off = (tgt : Int)) (kk : wif (y < x) (G X M E Q kc tgt L st h) (G X M E Q kc (pc + 3) L st h)) : G X M E Q kc pc L (.int y :: .int x :: st) h := by
  intro p l e R s m args below meth c H locs cells slots ls S Y
  exact lv_icmp_gt S.1 S.2.1 hd ht (fun z => by first | exact kk.1 z p l e R s m args below meth c H locs cells slots ls S Y | exact kk.1 (by simpa using z) p l e R s m args below meth c H locs cells slots ls S Y) (fun z => by first | exact kk.2 z p l e R s m args below meth c H locs cells slots ls S Y | exact kk.2 (by simpa using z) p l e R s m args below meth c H locs cells slots ls S Y)
theorem g_if_le {x : Int32} {off : Int} {tgt : Nat} (hd : decode M.2.1 pc = .ok (.ifCond .le off, 3)) (ht : (pc : Int) + off = (tgt : Int)) (kk : wif (x ≤ 0) (G X M E Q kc tgt L st h) (G X M E Q kc (pc + 3) L st h)) : G X M E Q kc pc L (.int x :: st) h := by
  intro p l e R s m args below meth c H locs cells slots ls S Y
  exact lv_if_le S.1 S.2.1 hd ht (fun z => by first | exact kk.1 z p l e R s m args below meth c H locs cells slots ls S Y | exact kk.1 (by simpa using z) p l e R s m args below meth c H locs cells slots ls S Y) (fun z => by first | exact kk.2 z p l e R s m args below meth c H locs cells slots ls S Y | exact kk.2 (by simpa using z) p l e R s m args below meth c H locs cells slots ls S Y)
theorem g_icmp_le {x y : Int32} {off : Int} {tgt : Nat} (hd : decode M.2.1 pc = .ok (.if_icmp .le off, 3)) (ht : (pc : Int) + off = (tgt : Int)) (kk : wif (x ≤ y) (G X M E Q kc tgt L st h) (G X M E Q kc (pc + 3) L st h)) : G X M E Q kc pc L (.int y :: .int x :: st) h := by
  intro p l e R s m args below meth c H locs cells slots ls S Y
  exact lv_icmp_le S.1 S.2.1 hd ht (fun z => by first | exact kk.1 z p l e R s m args below meth c H locs cells slots ls S Y | exact kk.1 (by simpa using z) p l e R s m args below meth c H locs cells slots ls S Y) (fun z => by first | exact kk.2 z p l e R s m args below meth c H locs cells slots ls S Y | exact kk.2 (by simpa using z) p l e R s m args below meth c H locs cells slots ls S Y)
theorem g_ifnull {x : Nat} {off : Int} (hd : decode M.2.1 pc = .ok (.ifnull off, 3)) (k : G X M E Q kc (pc + 3) L st h) : G X M E Q kc pc L (.ref x :: st) h := by
  intro p l e R s m args below meth c H locs cells slots ls S Y
  exact lv_ifnull S.1 S.2.1 hd (k p l e R s m args below meth c H locs cells slots ls S Y)
theorem g_ifnonnull {x : Nat} {off : Int} {tgt : Nat} (hd : decode M.2.1 pc = .ok (.ifnonnull off, 3)) (ht : (pc : Int) + off = (tgt : Int)) (k : G X M E Q kc tgt L st h) : G X M E Q kc pc L (.ref x :: st) h := by
  intro p l e R s m args below meth c H locs cells slots ls S Y
  exact lv_ifnonnull S.1 S.2.1 hd ht (k p l e R s m args below meth c H locs cells slots ls S Y)
theorem g_ifnonnullN {off : Int} (hd : decode M.2.1 pc = .ok (.ifnonnull off, 3)) (k : G X M E Q kc (pc + 3) L st h) : G X M E Q kc pc L (.null :: st) h := by
  intro p l e R s m args below meth c H locs cells slots ls S Y
  exact lv_ifnonnullN S.1 S.2.1 hd (k p l e R s m args below meth c H locs cells slots ls S Y)
theorem g_table {dflt lo hi : Int} {offs : Array Int} {len : Nat} {x : Int32} (hd : decode M.2.1 pc = .ok (.tableswitch dflt lo hi offs, len)) (kIn : ∀ (j : Nat) (off : Int) (tgt : Nat), offs[j]? = some off → (pc : Int) + off = (tgt : Int) → x.toInt = lo + (j : Int) → G X M E Q kc tgt L st h) (kOut : ∀ tgt : Nat, (pc : Int) + dflt = (tgt : Int) → (x.toInt < lo ∨ hi < x.toInt) → G X M E Q kc tgt L st h) (hsz : (offs.size : Int) = hi - lo + 1) (hnn : ∀ (j : Nat) (off : Int), offs[j]? = some off → 0 ≤ (pc : Int) + off) (hdn : 0 ≤ (pc : Int) + dflt) : G X M E Q kc pc L (.int x :: st) h := by
  intro p l e R s m args below meth c H locs cells slots ls S Y
  by_cases h0 : x.toInt < lo ∨ hi < x.toInt
  · exact lv_tableOut S.1 S.2.1 hd h0 (tgt := ((pc : Int) + dflt).toNat) (by omega) (kOut _ (by omega) h0 p l e R s m args below meth c H locs cells slots ls S Y)
  · have hj : (x.toInt - lo).toNat < offs.size := by omega
    obtain ⟨off, ho⟩ : ∃ off, offs[(x.toInt - lo).toNat]? = some off := ⟨offs[(x.toInt - lo).toNat], by simp [hj]⟩
    have hq := hnn _ _ ho
    exact lv_tableIn S.1 S.2.1 hd (by omega) (by omega) ho (tgt := ((pc : Int) + off).toNat) (by omega) (kIn _ off _ ho (by omega) (by omega) p l e R s m args below meth c H locs cells slots ls S Y)
end GR
end
section
/-! fields, arrays, ends -/
theorem nf_z (c : Nat) : nf c = nfL.getD c 0 := rfl
theorem tt_ps {ws : List Cond} (ps : List Nat) (h : ws = ps.filterMap (fun i => lw_tbl[i]?)) (hc : ws.all cry = true) : ∀ w ∈ ws, w ∈ TT := by
  intro w hw
  have h1 := List.all_eq_true.mp hc w hw
  rw [h] at hw
  obtain ⟨i, -, hi⟩ := List.mem_filterMap.mp hw
  exact tt_in i hi h1
theorem cls_0 : ∀ w ∈ u_ws RX0 TX0 4, w ∈ TT := tt_ps [257, 259, 261, 263] (by decide +kernel) (by decide +kernel)
theorem cls_1 : ∀ w ∈ u_ws RX1 TX1 2, w ∈ TT := tt_ps [287, 289] (by decide +kernel) (by decide +kernel)
theorem cls_2 : ∀ w ∈ u_ws RX2 TX2 20, w ∈ TT := tt_ps [324, 326, 328, 330, 332, 334, 336, 338, 340, 342, 344, 346, 348, 350, 352, 354, 356, 358, 360, 362] (by decide +kernel) (by decide +kernel)
theorem cls_3 : ∀ w ∈ u_ws RX3 TX3 8, w ∈ TT := tt_ps [416, 418, 420, 422, 424, 426, 428, 430] (by decide +kernel) (by decide +kernel)
theorem cls_4 : ∀ w ∈ u_ws RX4 TX4 15, w ∈ TT := tt_ps [215, 217, 219, 221, 223, 225, 227, 229, 231, 233, 235, 237, 239, 241, 243] (by decide +kernel) (by decide +kernel)
theorem cls_5 : ∀ w ∈ u_ws RX5 TX5 2, w ∈ TT := tt_ps [274, 276] (by decide +kernel) (by decide +kernel)
theorem cls_6 : ∀ w ∈ u_ws RX6 TX6 6, w ∈ TT := tt_ps [377, 379, 381, 383, 385, 387] (by decide +kernel) (by decide +kernel)
theorem cls_7 : ∀ w ∈ u_ws RX7 TX7 6, w ∈ TT := tt_ps [147, 149, 151, 153, 155, 157] (by decide +kernel) (by decide +kernel)
theorem cls_8 : ∀ w ∈ u_ws RX8 TX8 16, w ∈ TT := tt_ps [450, 452, 454, 456, 458, 460, 462, 464, 466, 468, 470, 472, 474, 476, 478, 480] (by decide +kernel) (by decide +kernel)
theorem cls_9 : ∀ w ∈ u_ws RX9 TX9 52, w ∈ TT := tt_ps [1409, 1411, 1413, 1415, 1417, 1419, 1421, 1423, 1425, 1427, 1429, 1431, 1433, 1435, 1437, 1439, 1441, 1443, 1445, 1447, 1449, 1451, 1453, 1455, 1457, 1459, 1461, 1463, 1465, 1467, 1469, 1471, 1473, 1475, 1477, 1479, 1481, 1483, 1485, 1487, 1489, 1491, 1493, 1495, 1497, 1499, 1501, 1503, 1505, 1507, 1509, 1511] (by decide +kernel) (by decide +kernel)
theorem cls_in : ∀ c : Nat, ∀ q : vw_C, clsL[c]? = some q → ∀ w ∈ u_ws q.1 q.2.1 q.2.2, w ∈ TT := by
  intro c q hq
  match c, hq with
  | 0, hq => cases hq; exact cls_0
  | 1, hq => cases hq; exact cls_1
  | 2, hq => cases hq; exact cls_2
  | 3, hq => cases hq; exact cls_3
  | 4, hq => cases hq; exact cls_4
  | 5, hq => cases hq; exact cls_5
  | 6, hq => cases hq; exact cls_6
  | 7, hq => cases hq; exact cls_7
  | 8, hq => cases hq; exact cls_8
  | 9, hq => cases hq; exact cls_9
  | c + 10, hq => exact absurd hq (by simp)
section GM
variable {X : Cx} {M : Mi} {E : Rm} {Q : Qf} {kc pc : Nat} {L : List (Nat × Value)} {st : List Value} {h : Hp}
theorem cls_z {c : Nat} {q : vw_C} (hc : clsL[c]? = some q) : ∀ w ∈ u_ws q.1 q.2.1 q.2.2, w ∈ TT := cls_in c q hc
theorem obj_at {c : Nat} {b a1 d1 e1 : Nat} (hk : kd b = (0, c, a1, d1, e1)) : (wsX X h)[b]? = some (X.2.2.1 b, .inr (c, (List.range (nf c)).map (fval X h b c))) := by
  have h1 := ws_at X h (kd_lt hk (by decide))
  rw [hk] at h1
  exact h1
theorem arr_at {n : Nat} {b a1 d1 e1 : Nat} (hk : kd b = (1, n, a1, d1, e1)) : (wsX X h)[b]? = some (X.2.2.1 b, .inl (X.2.1 0, n, .inl (h b))) := by
  have h1 := ws_at X h (kd_lt hk (by decide))
  rw [hk] at h1
  exact h1
theorem refs_at {n : Nat} {b a1 d1 e1 : Nat} (hk : kd b = (2, n, a1, d1, e1)) : (wsX X h)[b]? = some (X.2.2.1 b, .inl (X.2.1 e1, n, .inr (.inr (.inr (.inr (fun j => if j < n then some (X.2.2.1 (a1 + d1 * j)) else none)))))) := by
  have h1 := ws_at X h (kd_lt hk (by decide))
  rw [hk] at h1
  exact h1
theorem bools_at {n : Nat} {b a1 d1 e1 : Nat} (hk : kd b = (3, n, a1, d1, e1)) : (wsX X h)[b]? = some (X.2.2.1 b, .inl (X.2.1 1, n, .inl (fun j => h b j &&& 1))) := by
  have h1 := ws_at X h (kd_lt hk (by decide))
  rw [hk] at h1
  exact h1
theorem longs_at {n : Nat} {b a1 d1 e1 : Nat} (hk : kd b = (4, n, a1, d1, e1)) : (wsX X h)[b]? = some (X.2.2.1 b, .inl (X.2.1 2, n, .inr (.inl (fun j => (h b j).toInt64)))) := by
  have h1 := ws_at X h (kd_lt hk (by decide))
  rw [hk] at h1
  exact h1
theorem fv_at (X : Cx) (h : Hp) {b c k : Nat} (hn : k < nf c) : ((List.range (nf c)).map (fval X h b c))[k]? = some (fval X h b c k) := rng_at _ _ hn
/-- the value of a field -/
def fgv (h : Hp) (p c k : Nat) : Value := if fk c k = 2 then .ref (tg p k) else if fk c k = 1 then .int (h p k &&& 1) else .int (h p k)
theorem fgv_rv (X : Cx) (h : Hp) (p c k : Nat) : rv X (fgv h p c k) = fval X h p c k := by
  unfold fgv fval
  split
  · rfl
  · split <;> rfl
theorem g_get (k9 : Nat) {b c ix : Nat} {q : vw_C} {v : Value} {a1 a2 a3 : Nat} (hd : decode M.2.1 pc = .ok (.getfield ix, 3)) (hk : kd b = (0, c, a1, a2, a3)) (hc : clsL[c]? = some q) (hnf : nf c = q.2.2) (hkn : k9 < q.2.2) (hw : Cond.fieldLink M.1 ix q.1 (q.2.1 k9).2.1 (q.2.1 k9).2.2.1 ∈ TT) (ho : (q.2.1 k9).1 = q.1) (hv : fgv h b c k9 = v)
    (k : G X M E Q kc (pc + 3) L (v :: st) h) : G X M E Q kc pc L (.ref b :: st) h := by
  intro p l e R s m args below meth c0 H locs cells slots ls S Y
  refine va_get (C := q.1) (T := q.2.1) (N := q.2.2) (ci := c) (ref := q.1) (k := k9) (q0 := b) S.1 S.2.1 S.2.2.2.2.2.1 (cls_z hc) S.2.2.2.2.1 Y.1.2.1 Y.1.1 (obj_at hk) hc hkn (S.2.2.2.2.2.1 _ hw) (fun x hx => by rw [ho] at hx; exact hx) (v := rv X v) (by rw [← hv, fgv_rv]; exact fv_at X h (by rw [hnf]; exact hkn)) hd ?_
  exact k p l e R s m args below meth c0 H locs cells slots ls S Y
theorem g_getN (k9 : Nat) {b c ix : Nat} {q : vw_C} {v : Value} {host : String} {a1 a2 a3 : Nat} (hd : decode M.2.1 pc = .ok (.getfield ix, 3)) (hk : kd b = (0, c, a1, a2, a3)) (hc : clsL[c]? = some q) (hnf : nf c = q.2.2) (hkn : k9 < q.2.2) (hw : Cond.fieldLinkNest M.1 ix q.1 (q.2.1 k9).2.1 (q.2.1 k9).2.2.1 host ∈ TT) (ho : (q.2.1 k9).1 = q.1) (hv : fgv h b c k9 = v)
    (k : G X M E Q kc (pc + 3) L (v :: st) h) : G X M E Q kc pc L (.ref b :: st) h := by
  intro p l e R s m args below meth c0 H locs cells slots ls S Y
  refine va_getN (C := q.1) (T := q.2.1) (N := q.2.2) (ci := c) (ref := q.1) (k := k9) (q0 := b) S.1 S.2.1 S.2.2.2.2.2.1 (cls_z hc) S.2.2.2.2.1 Y.1.2.1 Y.1.1 (obj_at hk) hc hkn (S.2.2.2.2.2.1 _ hw) (fun x hx => by rw [ho] at hx; exact hx) (v := rv X v) (by rw [← hv, fgv_rv]; exact fv_at X h (by rw [hnf]; exact hkn)) hd ?_
  exact k p l e R s m args below meth c0 H locs cells slots ls S Y
theorem fs_set {b c k9 : Nat} {x : Int32} (hf : fk c k9 ≠ 2) (hz : fk c k9 = 1 → x &&& 1 = x) : ((List.range (nf c)).map (fval X h b c)).set k9 (.int x) = (List.range (nf c)).map (fval X (hup h b k9 x) b c) := by
  by_cases hn : k9 < nf c
  · have h1 : fval X (hup h b k9 x) b c k9 = .int x := by
      unfold fval
      rw [if_neg hf, hup_self]
      split
      · rename_i h1
        show Value.int (upd (h b) k9 x k9 &&& 1) = _
        rw [show upd (h b) k9 x k9 = x from if_pos rfl, hz h1]
      · show Value.int (upd (h b) k9 x k9) = _
        rw [show upd (h b) k9 x k9 = x from if_pos rfl]
    rw [← h1]
    refine rng_set _ (fval X h b c) (fval X (hup h b k9 x) b c) hn (fun j hj => ?_)
    unfold fval
    rw [hup_self, show upd (h b) k9 x j = h b j from if_neg hj]
  · rw [List.set_eq_of_length_le (by rw [List.length_map, List.length_range]; omega)]
    apply List.map_congr_left
    intro j hj
    have hj2 := List.mem_range.mp hj
    unfold fval
    rw [hup_self, show upd (h b) k9 x j = h b j from if_neg (by omega)]
theorem ent_obj {b c : Nat} {a1 a2 a3 : Nat} (hk : kd b = (0, c, a1, a2, a3)) : entK X h b (kd b) = .inr (c, (List.range (nf c)).map (fval X h b c)) := by rw [hk]; rfl
def tyZ (n : Nat) : FieldType := if n = 1 then .boolean else .int
theorem and11 (x : Int32) : x &&& 1 &&& 1 = x &&& 1 := by
  apply Int32.toBitVec_inj.mp
  simp only [Int32.toBitVec_and]
  rw [BitVec.and_assoc, BitVec.and_self]
theorem fits_z {x : Int32} (hz : x &&& 1 = x) : narrow .boolean (.int x) = .int x ∧ fits .boolean (.int x) = true := by
  obtain ⟨j, hj, e⟩ := pk_andE x (m := 1) 1 (by decide)
  rw [hz] at e
  have h2 : j = 0 ∨ j = 1 := by omega
  rcases h2 with h2 | h2 <;> subst h2 <;> subst e <;> exact ⟨by decide, by decide⟩
theorem g_put (k9 : Nat) {b c ix : Nat} {q : vw_C} {x : Int32} {ty0 : Nat → FieldType} {a1 a2 a3 : Nat} (hd : decode M.2.1 pc = .ok (.putfield ix, 3)) (hk : kd b = (0, c, a1, a2, a3)) (hc : clsL[c]? = some q) (hnf : nf c = q.2.2) (hkn : k9 < q.2.2) (hw : Cond.fieldLink M.1 ix q.1 (q.2.1 k9).2.1 (q.2.1 k9).2.2.1 ∈ TT) (ho : (q.2.1 k9).1 = q.1)
    (hty : ∀ k, k < q.2.2 → parseFieldDescriptor (q.2.1 k).2.2.1 = some (ty0 k)) (hnm : ∀ a, a < q.2.2 → ∀ b, b < q.2.2 → a ≠ b → (q.2.1 a).2.1 ≠ (q.2.1 b).2.1) (hfin : (q.2.1 k9).2.2.2 = false) (hf : fk c k9 ≠ 2) (hty9 : ty0 k9 = tyZ (fk c k9)) (hz : fk c k9 = 1 → x &&& 1 = x)
    (k : G X M E Q kc (pc + 3) L st (hup h b k9 x)) : G X M E Q kc pc L (.int x :: .ref b :: st) h := by
  intro p l e R s m args below meth c0 H locs cells slots ls S Y
  have ht9 := hty k9 hkn
  rw [hty9] at ht9
  have hnz : narrow (tyZ (fk c k9)) (.int x) = .int x ∧ fits (tyZ (fk c k9)) (.int x) = true := by
    unfold tyZ
    split
    · rename_i h1
      exact fits_z (hz h1)
    · exact ⟨rfl, rfl⟩
  refine va_put (C := q.1) (T := q.2.1) (N := q.2.2) (ci := c) (ref := q.1) (k := k9) (q0 := b) (v := .int x) S.1 S.2.1 S.2.2.2.2.2.1 (cls_z hc) ty0 hty hnm S.2.2.2.2.1 Y.1.2.1 Y.1.1 Y.1.2.2 Y.2.1 (obj_at hk) hc hkn (S.2.2.2.2.2.1 _ hw) (fun x hx => by rw [ho] at hx; exact hx) hfin ht9 hnz.1 hnz.2 (by rw [List.length_map, List.length_range, hnf]; exact hkn) hd (fun H1 locs1 hP hD hS => ?_)
  rw [fs_set hf hz, ws_set X h (hup h b k9 x) (kd_lt hk (by decide)) (ent_obj hk).symm (fun q hq => hup_ne hq)] at hP hD
  exact k p l e R s m args below meth c0 H1 locs1 cells slots ls S ⟨⟨hP, Y.1.2.1, hD⟩, hS, Y.2.2⟩
theorem g_putN (k9 : Nat) {b c ix : Nat} {q : vw_C} {x : Int32} {host : String} {ty0 : Nat → FieldType} {a1 a2 a3 : Nat} (hd : decode M.2.1 pc = .ok (.putfield ix, 3)) (hk : kd b = (0, c, a1, a2, a3)) (hc : clsL[c]? = some q) (hnf : nf c = q.2.2) (hkn : k9 < q.2.2) (hw : Cond.fieldLinkNest M.1 ix q.1 (q.2.1 k9).2.1 (q.2.1 k9).2.2.1 host ∈ TT) (ho : (q.2.1 k9).1 = q.1)
    (hty : ∀ k, k < q.2.2 → parseFieldDescriptor (q.2.1 k).2.2.1 = some (ty0 k)) (hnm : ∀ a, a < q.2.2 → ∀ b, b < q.2.2 → a ≠ b → (q.2.1 a).2.1 ≠ (q.2.1 b).2.1) (hfin : (q.2.1 k9).2.2.2 = false) (hf : fk c k9 ≠ 2) (hty9 : ty0 k9 = tyZ (fk c k9)) (hz : fk c k9 = 1 → x &&& 1 = x)
    (k : G X M E Q kc (pc + 3) L st (hup h b k9 x)) : G X M E Q kc pc L (.int x :: .ref b :: st) h := by
  intro p l e R s m args below meth c0 H locs cells slots ls S Y
  have ht9 := hty k9 hkn
  rw [hty9] at ht9
  have hnz : narrow (tyZ (fk c k9)) (.int x) = .int x ∧ fits (tyZ (fk c k9)) (.int x) = true := by
    unfold tyZ
    split
    · rename_i h1
      exact fits_z (hz h1)
    · exact ⟨rfl, rfl⟩
  refine va_putN (C := q.1) (T := q.2.1) (N := q.2.2) (ci := c) (ref := q.1) (k := k9) (q0 := b) (v := .int x) S.1 S.2.1 S.2.2.2.2.2.1 (cls_z hc) ty0 hty hnm S.2.2.2.2.1 Y.1.2.1 Y.1.1 Y.1.2.2 Y.2.1 (obj_at hk) hc hkn (S.2.2.2.2.2.1 _ hw) (fun x hx => by rw [ho] at hx; exact hx) hfin ht9 hnz.1 hnz.2 (by rw [List.length_map, List.length_range, hnf]; exact hkn) hd (fun H1 locs1 hP hD hS => ?_)
  rw [fs_set hf hz, ws_set X h (hup h b k9 x) (kd_lt hk (by decide)) (ent_obj hk).symm (fun q hq => hup_ne hq)] at hP hD
  exact k p l e R s m args below meth c0 H1 locs1 cells slots ls S ⟨⟨hP, Y.1.2.1, hD⟩, hS, Y.2.2⟩
theorem g_iald {b n : Nat} {i : Int32} {a1 a2 a3 : Nat} (hd : decode M.2.1 pc = .ok (.iaload, 1)) (hk : kd b = (1, n, a1, a2, a3)) (hin : vp_in i n) (k : G X M E Q kc (pc + 1) L (.int (h b i.toNatClampNeg) :: st) h) : G X M E Q kc pc L (.int i :: .ref b :: st) h := by
  intro p l e R s m args below meth c0 H locs cells slots ls S Y
  exact va_iald (q0 := b) (t0 := 0) S.1 S.2.1 Y.1.2.1 Y.1.1 (arr_at hk) rfl hin hd (k p l e R s m args below meth c0 H locs cells slots ls S Y)
theorem g_iast {b n : Nat} {i x : Int32} {a1 a2 a3 : Nat} (hd : decode M.2.1 pc = .ok (.iastore, 1)) (hk : kd b = (1, n, a1, a2, a3)) (hin : vp_in i n) (k : G X M E Q kc (pc + 1) L st (hup h b i.toNatClampNeg x)) : G X M E Q kc pc L (.int x :: .int i :: .ref b :: st) h := by
  intro p l e R s m args below meth c0 H locs cells slots ls S Y
  refine va_iast (q0 := b) (t0 := 0) S.1 S.2.1 Y.1.2.1 Y.1.1 Y.1.2.2 Y.2.1 (arr_at hk) rfl hin hd (fun H1 locs1 hP hD hS => ?_)
  rw [ws_set X h (hup h b i.toNatClampNeg x) (kd_lt hk (by decide)) (by rw [hk]; show Sum.inl _ = Sum.inl (_, _, Sum.inl (hup h b i.toNatClampNeg x b)); rw [hup_self]) (fun q hq => hup_ne hq)] at hP hD
  exact k p l e R s m args below meth c0 H1 locs1 cells slots ls S ⟨⟨hP, Y.1.2.1, hD⟩, hS, Y.2.2⟩
theorem g_alen {b n : Nat} {v : Int32} {a1 a2 a3 : Nat} (hd : decode M.2.1 pc = .ok (.arraylength, 1)) (hk : kd b = (1, n, a1, a2, a3)) (hv : Int32.ofNat n = v) (k : G X M E Q kc (pc + 1) L (.int v :: st) h) : G X M E Q kc pc L (.ref b :: st) h := by
  intro p l e R s m args below meth c0 H locs cells slots ls S Y
  exact va_alen (q0 := b) (t0 := 0) S.1 S.2.1 Y.1.2.1 Y.1.1 (arr_at hk) (ty := .int) rfl hv hd (k p l e R s m args below meth c0 H locs cells slots ls S Y)
theorem g_alenR {b n : Nat} {v : Int32} {a1 a2 a3 : Nat} {ty : FieldType} (hd : decode M.2.1 pc = .ok (.arraylength, 1)) (hk : kd b = (2, n, a1, a2, a3)) (ht : (tyX X)[a3]? = some (X.2.1 a3, ty)) (hv : Int32.ofNat n = v) (k : G X M E Q kc (pc + 1) L (.int v :: st) h) : G X M E Q kc pc L (.ref b :: st) h := by
  intro p l e R s m args below meth c0 H locs cells slots ls S Y
  exact va_alen (q0 := b) (t0 := a3) S.1 S.2.1 Y.1.2.1 Y.1.1 (refs_at hk) (ty := ty) ht hv hd (k p l e R s m args below meth c0 H locs cells slots ls S Y)
theorem g_aald {b n : Nat} {i : Int32} {a1 a2 a3 : Nat} {ty : FieldType} (hd : decode M.2.1 pc = .ok (.aaload, 1)) (hk : kd b = (2, n, a1, a2, a3)) (ht : (tyX X)[a3]? = some (X.2.1 a3, ty)) (hty : ty.isReference = true) (hin : vp_in i n) (k : G X M E Q kc (pc + 1) L (.ref (a1 + a2 * i.toNatClampNeg) :: st) h) : G X M E Q kc pc L (.int i :: .ref b :: st) h := by
  intro p l e R s m args below meth c0 H locs cells slots ls S Y
  have hlt : i.toNatClampNeg < n := Nat.not_le.mp fun q => hin (Or.inr q)
  have hP := Y.1.1 b _ (refs_at hk)
  refine W.aald (v := .ref (X.2.2.1 (a1 + a2 * i.toNatClampNeg))) (ty := ty) S.1 S.2.1 hP ((Y.1.2.1.2 a3 _ ht).1 n (fun j => va_rf (if j < n then some (X.2.2.1 (a1 + a2 * j)) else none))) hty (fun q => by cases q) (by show ¬ (i < 0 ∨ (arrV _ _ _).slots.size ≤ _); rw [arrV_size]; exact hin) (by show (arrV _ _ _).slots[_]? = _; rw [arrV_read _ _ hlt]; show some (va_rf (if i.toNatClampNeg < n then _ else none)) = _; rw [if_pos hlt]; rfl) rfl rfl hd ?_
  exact k p l e R s m args below meth c0 H locs cells slots ls S Y
theorem g_zald {b n : Nat} {i : Int32} {a1 a2 a3 : Nat} (hd : decode M.2.1 pc = .ok (.baload, 1)) (hk : kd b = (3, n, a1, a2, a3)) (hin : vp_in i n) (k : G X M E Q kc (pc + 1) L (.int (h b i.toNatClampNeg &&& 1) :: st) h) : G X M E Q kc pc L (.int i :: .ref b :: st) h := by
  intro p l e R s m args below meth c0 H locs cells slots ls S Y
  exact va_zald (q0 := b) (t0 := 1) (f := fun j => h b j &&& 1) S.1 S.2.1 Y.1.2.1 Y.1.1 (bools_at hk) rfl hin hd (k p l e R s m args below meth c0 H locs cells slots ls S Y)
theorem nar_z (x : Int32) : vp_nar .boolean x = x &&& 1 := rfl
theorem g_zast {b n : Nat} {i x : Int32} {a1 a2 a3 : Nat} (hd : decode M.2.1 pc = .ok (.bastore, 1)) (hk : kd b = (3, n, a1, a2, a3)) (hin : vp_in i n) (k : G X M E Q kc (pc + 1) L st (hup h b i.toNatClampNeg x)) : G X M E Q kc pc L (.int x :: .int i :: .ref b :: st) h := by
  intro p l e R s m args below meth c0 H locs cells slots ls S Y
  refine va_zast (q0 := b) (t0 := 1) (f := fun j => h b j &&& 1) S.1 S.2.1 Y.1.2.1 Y.1.1 Y.1.2.2 Y.2.1 (bools_at hk) rfl hin hd (fun H1 locs1 hP hD hS => ?_)
  have he : (Sum.inl (X.2.1 1, n, Sum.inl (upd (fun j => h b j &&& 1) i.toNatClampNeg (vp_nar .boolean x))) : va_E) = entK X (hup h b i.toNatClampNeg x) b (kd b) := by
    rw [hk]
    show Sum.inl _ = Sum.inl (_, _, Sum.inl (fun j => hup h b i.toNatClampNeg x b j &&& 1))
    rw [hup_self, nar_z]
    congr 3
    congr 1
    funext j
    by_cases hj : j = i.toNatClampNeg
    · simp [upd, hj]
    · simp [upd, hj]
  rw [ws_set X h (hup h b i.toNatClampNeg x) (kd_lt hk (by decide)) he (fun q hq => hup_ne hq)] at hP hD
  exact k p l e R s m args below meth c0 H1 locs1 cells slots ls S ⟨⟨hP, Y.1.2.1, hD⟩, hS, Y.2.2⟩
end GM
end
section
/-! contracts, ends, throws, calls -/
def Qm (X : Cx) (Qr : Option Value → Hp → Prop) : Array Value → State → Outcome → State → Prop := fun _ st oc t => (∃ (r : Option Value) (h' : Hp), oc = .returned (r.map (rv X)) ∧ Qr r h' ∧ Wd X h' t.heap t) ∧ va_F (AA X) st t
def Xm (X : Cx) (Qx : String → Hp → Prop) : String → State → State → Prop := fun E st t => (∃ h' : Hp, Qx E h' ∧ Wd X h' t.heap t) ∧ va_F (AA X) st t
def Pm (X : Cx) (av : List Value) (h : Hp) : Array Value → State → Prop := va_Pc (av.map (rv X)) (fun U => Wd X h U.heap U ∧ Ex X U)
def rmOf (fr lo mc : Nat) : Room := { frames := fr, cells := mc, slots := 6 * mc, locals := lo }
/-- a method's contract -/
def Con (X : Cx) (y : MethodName) (M : Mi) (fr lo mc : Nat) (av : List Value) (h : Hp) (Qr : Option Value → Hp → Prop) (Qx : String → Hp → Prop) : Prop :=
  ∀ l : Launch, l.stackTraces = false → vx_Met l y [.code y M.2.1 M.2.2.1 M.2.2.2] (rmOf fr lo mc) (Pm X av h) (Qm X Qr) (Xm X Qx) mc (6 * mc) (AA X)
def QM (X : Cx) (E : Rm) (Qr : Option Value → Hp → Prop) (Qx : String → Hp → Prop) : Qf := fun below args s => vx_MQ below (Qm X Qr) (Xm X Qx) args s E.2.2.1 E.2.2.2 (AA X)
theorem lmap_args (X : Cx) : ∀ (av : List Value) (i : Nat), lv_args i (av.map (rv X)) = lmap X (lv_args i av)
  | [], _ => rfl
  | v :: av, i => by
    show (i, rv X v) :: lv_args (if (rv X v).category = 2 then i + 2 else i + 1) (av.map (rv X)) = (i, rv X v) :: lmap X (lv_args (if v.category = 2 then i + 2 else i + 1) av)
    rw [rv_cat, lmap_args X av]
theorem pm_blind {X : Cx} {av : List Value} {h : Hp} : FrameBlind (Pm X av h) := by
  intro a U g mk hp
  obtain ⟨h1, h2, h3⟩ := hp
  exact ⟨h1, h2.moved (Vm.Alike.refl _), h3.same rfl rfl⟩
theorem con_of {X : Cx} {y : MethodName} {M : Mi} {fr lo mc : Nat} {av : List Value} {h : Hp} {Qr : Option Value → Hp → Prop} {Qx : String → Hp → Prop} (hy : plainName y.cls = true) (hown : M.1 = y.cls) (hn : (lg_sl (av.map (rv X))).length ≤ M.2.2.1)
    (hg : G X M (fr, lo, mc, 6 * mc) (QM X (fr, lo, mc, 6 * mc) Qr Qx) mc 0 (lv_args 0 av) [] h) : Con X y M fr lo mc av h Qr Qx := by
  intro l hl
  refine vx_ofW (cc := M.2.1) (maxL := M.2.2.1) (ret := M.2.2.2) hy rfl ?_
  intro p e s m args below meth c s₁ B hml htab hP
  obtain ⟨rfl, hW, hE⟩ := hP
  rw [lg_entry_eq]
  have hl2 := lv_entry (av.map (rv X)) (n := M.2.2.1) hn
  rw [lmap_args] at hl2
  exact hg p l e (headSpec [.code y M.2.1 M.2.2.1 M.2.2.2] (rmOf fr lo mc)).room s m _ below meth c s.heap [] 0 0 _
    ⟨B.exec, B.bytes, hml, B.returns, by rw [hown]; exact findClass_of_methodNamed B.named, fun w hw => va_Nw.use (tt_tab hw) (hE.2.2.2.2.2 w hw), B.notSynchronized, htab, hl, hE, Nat.le_refl _, Nat.le_refl _, Nat.le_refl _, Nat.le_refl _⟩
    ⟨hW, va_S.rf, hl2, by show 0 + mc ≤ mc; omega, by show 0 + 6 * mc ≤ 6 * mc; omega⟩
section ZR
variable {p : Program} {l : Launch} {e : Env} {R : Room} {s : State} {m : MethodId} {args : Array Value} {below : List Frame} {meth : Method} {c : Code} {H : Heap} {locs : List Loc} {cells slots : Nat}
theorem zretN {cc : ByteArray} {Qc : Array Value → State → Outcome → State → Prop} {free : Addr → Prop} {v : Int32} (hexec : p.tables.exec = Jvm.exec) (hb : c.code = cc) (hr : meth.sig.returnType = some .boolean)
    (hq : ∀ t : State, t.heap = H → s.WarmedH t.vm → Qc args s (.returned (some (.int (v &&& 1)))) t) (hf : ∀ q ∈ locs, free q.base)
    {pc : Nat} {ls : Array Slot} (hdg : decode cc pc = .ok (.ireturn, 1)) (hlocks : meth.locks = false) : W p l e R s m args below meth c H locs cells slots (MQ below Qc args s cells slots free) (F0 m pc ls [.int v]) := by
  intro T hT X
  obtain ⟨fs, hret, hrun, hended, hW, hframe⟩ := X.leave (v := some (.int (v &&& 1))) (fun h => by rw [hr] at h; cases h)
  have hmeth' : T.vm.method? m = some meth := X.method'
  refine ⟨T.setFrames fs, ?_, .returned (some (.int (v &&& 1))), hrun, hended, hq _ hT hW, locs, ⟨⟨_, rfl⟩, hW, hframe⟩, hf⟩
  jvm_step X.here [X.here.top, hexec, hb, hdg, hmeth', hr, narrow]
  (try refine ⟨rfl, ?_⟩); (try refine ⟨rfl, ?_⟩)
  first | (intro acts; rw [hret _ acts rfl rfl rfl]) | rw [hret _ _ rfl rfl rfl]
  exact Steps.refl _
end ZR
section GC
variable {X : Cx} {M : Mi} {E : Rm} {Q : Qf} {kc pc : Nat} {L : List (Nat × Value)} {st : List Value} {h : Hp} {Qr : Option Value → Hp → Prop} {Qx : String → Hp → Prop}
theorem qm_ret {r : Option Value} {s t : State} {H : Heap} {locs : List Loc} {args : Array Value} (hW : Wd X h H s) (hS : va_S (AA X) s.heap H locs) (hq : Qr r h) (ht : t.heap = H) (hw : s.WarmedH t.vm) : Qm X Qr args s (.returned (r.map (rv X))) t := by
  refine ⟨⟨r, h, rfl, hq, ?_⟩, hS.F ht⟩
  rw [ht]
  exact hW.moved hw.alike
theorem g_iret {v : Int32} (hd : decode M.2.1 pc = .ok (.ireturn, 1)) (hr : M.2.2.2 = some .int) (hq : Qr (some (.int v)) h) : G X M E (QM X E Qr Qx) kc pc L [.int v] h := by
  intro p l e R s m args below meth c H locs cells slots ls S Y
  have hlocks : meth.locks = false := S.2.2.2.2.2.2.1
  refine W.widen (k := E.2.2.1) (n := E.2.2.2) (by have := Y.2.2.2.1; omega) (by have := Y.2.2.2.2; omega) (vx_ret (W.iret S.1 S.2.1 (S.2.2.2.1.trans hr) (fun t ht hW => qm_ret (r := some (.int v)) Y.1 Y.2.1 hq ht hW) Y.2.1.2.2 hd))
theorem g_zret {v : Int32} (hd : decode M.2.1 pc = .ok (.ireturn, 1)) (hr : M.2.2.2 = some .boolean) (hq : Qr (some (.int (v &&& 1))) h) : G X M E (QM X E Qr Qx) kc pc L [.int v] h := by
  intro p l e R s m args below meth c H locs cells slots ls S Y
  have hlocks : meth.locks = false := S.2.2.2.2.2.2.1
  refine W.widen (k := E.2.2.1) (n := E.2.2.2) (by have := Y.2.2.2.1; omega) (by have := Y.2.2.2.2; omega) (vx_ret (zretN S.1 S.2.1 (S.2.2.2.1.trans hr) (fun t ht hW => qm_ret (r := some (.int (v &&& 1))) Y.1 Y.2.1 hq ht hW) Y.2.1.2.2 hd hlocks))
theorem g_lret {v : Int64} (hd : decode M.2.1 pc = .ok (.lreturn, 1)) (hr : M.2.2.2 = some .long) (hq : Qr (some (.long v)) h) : G X M E (QM X E Qr Qx) kc pc L [.long v] h := by
  intro p l e R s m args below meth c H locs cells slots ls S Y
  have hlocks : meth.locks = false := S.2.2.2.2.2.2.1
  refine W.widen (k := E.2.2.1) (n := E.2.2.2) (by have := Y.2.2.2.1; omega) (by have := Y.2.2.2.2; omega) (vx_ret (W.lret S.1 S.2.1 (S.2.2.2.1.trans hr) (fun t ht hW => qm_ret (r := some (.long v)) Y.1 Y.2.1 hq ht hW) Y.2.1.2.2 hd))
theorem g_aret {v : Value} {n : String} (hd : decode M.2.1 pc = .ok (.areturn, 1)) (hr : M.2.2.2 = some (.object n)) (hv : v = .null ∨ ∃ a, v = .ref a) (hq : Qr (some v) h) : G X M E (QM X E Qr Qx) kc pc L [v] h := by
  intro p l e R s m args below meth c H locs cells slots ls S Y
  have hlocks : meth.locks = false := S.2.2.2.2.2.2.1
  have hv2 : rv X v = .null ∨ ∃ a, rv X v = .ref a := by
    rcases hv with rfl | ⟨a, rfl⟩
    · exact Or.inl rfl
    · exact Or.inr ⟨_, rfl⟩
  refine W.widen (k := E.2.2.1) (n := E.2.2.2) (by have := Y.2.2.2.1; omega) (by have := Y.2.2.2.2; omega) (vx_ret (W.aret S.1 S.2.1 (S.2.2.2.1.trans hr) (Or.inl ⟨n, rfl⟩) hv2 (fun t ht hW => qm_ret (r := some v) Y.1 Y.2.1 hq ht hW) Y.2.1.2.2 hd))
theorem g_vret (hd : decode M.2.1 pc = .ok (.return_, 1)) (hr : M.2.2.2 = none) (hq : Qr none h) : G X M E (QM X E Qr Qx) kc pc L [] h := by
  intro p l e R s m args below meth c H locs cells slots ls S Y
  have hlocks : meth.locks = false := S.2.2.2.2.2.2.1
  refine W.widen (k := E.2.2.1) (n := E.2.2.2) (by have := Y.2.2.2.1; omega) (by have := Y.2.2.2.2; omega) (vx_ret (W.vret S.1 S.2.1 (S.2.2.2.1.trans hr) (fun t ht hW => qm_ret (r := none) Y.1 Y.2.1 hq ht hW) Y.2.1.2.2 hd))
/-- an exception of the class C over the frame -/
def GX (X : Cx) (M : Mi) (E : Rm) (Q : Qf) (kc pc : Nat) (L : List (Nat × Value)) (st : List Value) (h : Hp) (C : String) : Prop :=
  ∀ (p : Program) (l : Launch) (e : Env) (R : Room) (s : State) (m : MethodId) (args : Array Value) (below : List Frame) (meth : Method) (c : Code) (H : Heap) (locs : List Loc) (cells slots : Nat) (ls : Array Slot) (ce : Cell) (q9 : Addr),
    Cs X M E p l R s m args meth c → Cy X M E kc L h s H locs cells slots ls → H[q9]? = some ce → ce.vm = .none → s.vm.findClass C = some ce.cls → vx_W p l e R s m args below meth c H locs cells slots (Q below args s) (F0 m pc ls (st.map (rv X))) q9
theorem gx_out {C : String} (hq : Qx C h) : GX X M E (QM X E Qr Qx) kc pc L st h C := by
  intro p l e R s m args below meth c H locs cells slots ls ce q9 S Y h1 h2 h3
  refine vx_out (fun x hx => absurd hx (S.2.2.2.2.2.2.2.1 x)) S.2.2.2.2.2.2.1 h1 h2 h3 (fun t ht hA => ⟨⟨h, hq, ?_⟩, Y.2.1.F ht⟩) Y.2.1.2.2 (by have := Y.2.2.2.1; omega) (by have := Y.2.2.2.2; omega)
  rw [ht]
  exact Y.1.moved hA
/-- throw new C(text) -/
theorem g_throwS (i : Nat) {C tx : String} {ik is ic : Nat} (names : List String) (hnm : names = ["java/lang/RuntimeException", "java/lang/Exception"]) (hcls : Bundle.fit C = true) (hn : ∀ n ∈ names, Bundle.fit n = true) (hi : strL[i]? = some (M.1, is, tx))
    (hk : Cond.classLink M.1 ik C ∈ TT) (hini : Cond.initialized C ∈ TT) (hat : ∀ w ∈ vx_atS M.1 ic C names, w ∈ TT)
    (d0 : decode M.2.1 pc = .ok (.new ik, 3)) (d3 : decode M.2.1 (pc + 3) = .ok (.dup, 1)) (d4 : decode M.2.1 (pc + 4) = .ok (.ldc is, 2)) (d6 : decode M.2.1 (pc + 6) = .ok (.invokespecial ic, 3)) (d9 : decode M.2.1 (pc + 9) = .ok (.athrow, 1))
    (hfr : 6 ≤ E.1) (hlo : 82 ≤ E.2.1) (hq : Qx C h) : G X M E (QM X E Qr Qx) (kc + 1) pc L [] h := by
  intro p l e R s m args below meth c H locs cells slots ls S Y
  have hSf := S.2.2.2.2.2.2.2.2.2.2
  subst hnm
  have y1 := Y.2.2.2.1
  have y2 := Y.2.2.2.2
  refine vx_throwS (A := AA X) S.1 S.2.1 S.2.2.2.2.2.2.2.2.1 S.2.2.2.2.1 hcls hn (S.2.2.2.2.2.1 _ hk) (S.2.2.2.2.2.1 _ hini) (S.2.2.2.2.2.2.2.2.2.1.2.2.1 i _ hi) (fun w hw => S.2.2.2.2.2.1 w (hat w hw)) (fun w hw => ?_) S.2.2.2.2.2.2.2.2.2.1.2.2.2.1.1 S.2.2.2.2.2.2.2.2.2.1.2.2.2.1.2.1 Y.2.1 (Y.2.2.1.1.trans S.2.2.1.symm) d0 d3 d4 d6 d9 (fun x hx => absurd hx (S.2.2.2.2.2.2.2.1 x)) (by show 2 + 3 < R.frames; omega) (by show 0 + (13 * (2 + 1) + 43) ≤ R.locals; omega) (by omega) (by omega) S.2.2.2.2.2.2.1 (fun t hA hz hs => ⟨⟨h, hq, ?_⟩, ?_⟩) Y.2.1.2.2 (by omega) (by omega)
  · have h9 : w ∈ TT := by
      rcases List.mem_cons.mp hw with rfl | hw
      · exact hk
      · rcases List.mem_cons.mp hw with rfl | hw
        · exact hini
        · exact hat w hw
    unfold vx_ot
    rw [tt_tab h9]
    rfl
  · exact ⟨Y.1.1.kept (fun k q hq => hs q.1 ((Y.1.1 k q hq).lt)), va_K.moved hA Y.1.2.1, Y.1.2.2⟩
  · exact ⟨Nat.le_trans Y.2.1.1 hz, fun q h1 h2 => (hs q (Nat.lt_of_lt_of_le h1 Y.2.1.1)).trans (Y.2.1.2.1 q h1 h2)⟩
/-- behind a run of a callee -/
theorem g_run {p : Program} {l : Launch} {e : Env} {R : Room} {s : State} {m : MethodId} {args : Array Value} {below : List Frame} {meth : Method} {c : Code} {H : Heap} {locs : List Loc} {cells slots : Nat} {ls : Array Slot} {mc : Nat} {a : Array Value} {st0 : List Value} {Qr1 : Option Value → Hp → Prop} {Qx1 : String → Hp → Prop}
    (S : Cs X M E p l R s m args meth c) (Y : Cy X M E (kc + mc) L h s H locs cells slots ls)
    (hr : vx_Run p l e R s m args below meth c H locs cells slots mc (6 * mc) (F0 m pc ls st0) (st.map (rv X)) (Qm X Qr1 a) (Xm X Qx1) (AA X))
    (kx : ∀ C h', Qx1 C h' → GX X M E Q kc pc L st h' C) (kk : ∀ r h', Qr1 r h' → G X M E Q kc (pc + 3) L (r.toList ++ st) h') :
    W p l e R s m args below meth c H locs cells slots (Q below args s) (F0 m pc ls st0) := by
  intro T hT XS
  have hA : ∀ q, q < H.size → AA X q → AA X q := fun _ _ h => h
  have y1 := Y.2.2.2.1
  have y2 := Y.2.2.2.2
  rcases hr T hT XS with ⟨v, st₀, t, T', L9, h0, X', hL, e1, e2, ⟨⟨r, h', hv, hp, hb⟩, hF⟩, st9⟩ | ⟨q, st₀, t, T', L9, C, ce, h0, X', hL, e1, e2, ⟨⟨h', hp, hb⟩, hF⟩, hce, hcv, hcl, st9⟩
  · have hv2 : v = r.map (rv X) := Outcome.returned.inj hv
    subst hv2
    obtain ⟨k1, k2, k3⟩ := vx_keep h0 e1 Y.2.1 hA (fun _ h => h) hL hF
    have hal : s.vm.Alike t.vm := by rw [← e2]; exact X'.warmed.alike
    have hW : Wd X h' T'.heap s := by
      rw [e1]
      exact hb.moved hal.symm
    obtain ⟨t2, a1, b1⟩ := kk r h' hp p l e R s m args below meth c T'.heap (locs ++ L9) (cells + mc) (slots + 6 * mc) ls S ⟨hW, k3, Y.2.2.1, by omega, by omega⟩ T' rfl X'
    refine ⟨t2, st9 t2 ?_, b1⟩
    have es : (r.toList ++ st).map (rv X) = (r.map (rv X)).toList ++ st.map (rv X) := by
      cases r <;> simp
    rw [es] at a1
    exact a1
  · obtain ⟨k1, k2, k3⟩ := vx_keep h0 e1 Y.2.1 hA (fun _ h => h) hL hF
    have hal : s.vm.Alike t.vm := by rw [← e2]; exact X'.warmed.alike
    have hW : Wd X h' T'.heap s := by
      rw [e1]
      exact hb.moved hal.symm
    obtain ⟨t2, a1, b1⟩ := kx C h' hp p l e R s m args below meth c T'.heap (locs ++ L9) (cells + mc) (slots + 6 * mc) ls ce q S ⟨hW, k3, Y.2.2.1, by omega, by omega⟩ (by rw [e1]; exact hce) hcv hcl T' rfl X'
    exact ⟨t2, st9.trans a1, b1⟩
theorem st_room {X : Cx} {m : MethodId} {pc : Nat} {ls : Array Slot} {stk : List Value} {st : List Value} (h : (st.map fun v => v.category).sum ≤ 8) : 2 * (F0 m pc ls stk).monitorRoom + ((st.map (rv X)).map fun v => v.category).sum ≤ 8 := by
  have e : (st.map (rv X)).map (fun v => v.category) = st.map (fun v => v.category) := by
    rw [List.map_map]
    apply List.map_congr_left
    intro v _
    exact rv_cat X v
  exact lv_room (by rw [e]; exact h)
variable {y : MethodName} {My : Mi} {fr lo mc ix : Nat} {As : List Value} {Qr1 : Option Value → Hp → Prop} {Qx1 : String → Hp → Prop} {stk : List Value}
def okD (y : MethodName) (n : Nat) : Prop := y.cls ≠ "java/lang/invoke/MethodHandle" ∧ y.cls ≠ "java/lang/invoke/VarHandle" ∧ (parseMethodDescriptor y.desc).map (fun d => d.parameters.length) = some n
theorem ws_one {s : State} {args : Array Value} (hts : ∀ w ∈ TT, w.before args s = true) (hE : ∀ w ∈ TT, va_Nw w s) (hcode : Cond.code y My.2.1 My.2.2.1 My.2.2.2 ∈ TT) : ∀ w ∈ ([.code y My.2.1 My.2.2.1 My.2.2.2] : List Cond), ∀ (a' : Array Value) (U : State), s.WarmedH U.vm → w.before a' U = true := by
  intro w hw a' U hW
  have e : w = .code y My.2.1 My.2.2.1 My.2.2.2 := by simpa using hw
  subst e
  exact va_Nw.use (tt_tab hcode) (tt_warm hcode hW (hE _ hcode))
theorem callB_g {R : Room} {s : State} {args : Array Value} {own : String} (hts : ∀ w ∈ TT, w.before args s = true) (hE : ∀ w ∈ TT, va_Nw w s) (hcode : Cond.code y My.2.1 My.2.2.1 My.2.2.2 ∈ TT) (hini : Cond.initialized y.cls ∈ TT) (hl : Cond.methodLink own ix y ∈ TT) {n : Nat} (hd : okD y n) (hR : fr + 1 ≤ R.frames ∧ 8 + (My.2.2.1 + 11) + lo ≤ R.locals) :
    CallB R s args own ix y My.2.1 My.2.2.1 My.2.2.2 [.code y My.2.1 My.2.2.1 My.2.2.2] (rmOf fr lo mc) mc (6 * mc) n := by
  refine ⟨rfl, rfl, hR.1, hR.2, ws_one hts hE hcode, List.mem_cons_self, hts _ hcode, hts _ hini, ⟨hd.1, hd.2.1⟩, fun sig hs => ?_, hts _ hl⟩
  have h2 := hd.2.2
  rw [hs] at h2
  exact (Option.some.inj h2).symm
theorem callN_g {R : Room} {s : State} {args : Array Value} {own host : String} (hts : ∀ w ∈ TT, w.before args s = true) (hE : ∀ w ∈ TT, va_Nw w s) (hcode : Cond.code y My.2.1 My.2.2.1 My.2.2.2 ∈ TT) (hini : Cond.initialized y.cls ∈ TT) (hl : Cond.methodLinkNest own ix y host ∈ TT) {n : Nat} (hd : okD y n) (hR : fr + 1 ≤ R.frames ∧ 8 + (My.2.2.1 + 11) + lo ≤ R.locals) :
    va_CN R s args own ix y host My.2.1 My.2.2.1 My.2.2.2 [.code y My.2.1 My.2.2.1 My.2.2.2] (rmOf fr lo mc) mc (6 * mc) n := by
  refine ⟨⟨rfl, rfl, hR.1, hR.2, ws_one hts hE hcode, List.mem_cons_self⟩, hts _ hcode, hts _ hini, ⟨hd.1, hd.2.1⟩, fun sig hs => ?_, hts _ hl⟩
  have h2 := hd.2.2
  rw [hs] at h2
  exact (Option.some.inj h2).symm
theorem pre_g {s U : State} {H : Heap} {locs : List Loc} {av : List Value} (hE : Ex X s) (hW : Wd X h H s) (hS : va_S (AA X) s.heap H locs) (hU : U.heap = H) (hw : s.WarmedH U.vm) : Pm X av h (av.map (rv X)).toArray U :=
  ⟨rfl, by rw [hU]; exact hW.moved hw.alike, hE.to hS hU hw⟩
/-- a static call -/
theorem g_callS (hd : decode M.2.1 pc = .ok (.invokestatic ix, 3)) (hl : Cond.methodLink M.1 ix y ∈ TT) (hs : Cond.static y ∈ TT) (hini : Cond.initialized y.cls ∈ TT) (hcode : Cond.code y My.2.1 My.2.2.1 My.2.2.2 ∈ TT) (hok : okD y As.length) (hR : fr + 1 ≤ E.1 ∧ 8 + (My.2.2.1 + 11) + lo ≤ E.2.1) (hst : (st.map fun v => v.category).sum ≤ 8) (hstk : stk = As.reverse ++ st)
    (hC : Con X y My fr lo mc As h Qr1 Qx1) (kx : ∀ C h', Qx1 C h' → GX X M E Q kc pc L st h' C) (kk : ∀ r h', Qr1 r h' → G X M E Q kc (pc + 3) L (r.toList ++ st) h') : G X M E Q (kc + mc) pc L stk h := by
  intro p l e R s m args below meth c H locs cells slots ls S Y
  have hSf := S.2.2.2.2.2.2.2.2.2.2
  have hE := S.2.2.2.2.2.2.2.2.2.1
  have y1 := Y.2.2.2.1
  have y2 := Y.2.2.2.2
  refine g_run S Y (vx_runS (As := As.map (rv X)) (rest := st.map (rv X)) ⟨S.1, S.2.1, S.2.2.1, S.2.2.2.2.1, S.2.2.2.2.2.1⟩ (hC l S.2.2.2.2.2.2.2.2.1) ⟨callB_g (n := As.length) S.2.2.2.2.2.1 hE.2.2.2.2.2 hcode hini hl hok ⟨by omega, by omega⟩, S.2.2.2.2.2.1 _ hs⟩ ⟨pm_blind, fun U hU hw => pre_g hE Y.1 Y.2.1 hU hw⟩ rfl (by rw [List.length_map]) Y.2.2.1.1 (by rw [hstk]; simp) (st_room hst) hd ⟨by omega, by omega⟩) kx kk
theorem g_callSN {host : String} (hd : decode M.2.1 pc = .ok (.invokestatic ix, 3)) (hl : Cond.methodLinkNest M.1 ix y host ∈ TT) (hs : Cond.static y ∈ TT) (hini : Cond.initialized y.cls ∈ TT) (hcode : Cond.code y My.2.1 My.2.2.1 My.2.2.2 ∈ TT) (hok : okD y As.length) (hR : fr + 1 ≤ E.1 ∧ 8 + (My.2.2.1 + 11) + lo ≤ E.2.1) (hst : (st.map fun v => v.category).sum ≤ 8) (hstk : stk = As.reverse ++ st)
    (hC : Con X y My fr lo mc As h Qr1 Qx1) (kx : ∀ C h', Qx1 C h' → GX X M E Q kc pc L st h' C) (kk : ∀ r h', Qr1 r h' → G X M E Q kc (pc + 3) L (r.toList ++ st) h') : G X M E Q (kc + mc) pc L stk h := by
  intro p l e R s m args below meth c H locs cells slots ls S Y
  have hSf := S.2.2.2.2.2.2.2.2.2.2
  have hE := S.2.2.2.2.2.2.2.2.2.1
  have y1 := Y.2.2.2.1
  have y2 := Y.2.2.2.2
  refine g_run S Y (vx_runSN (As := As.map (rv X)) (rest := st.map (rv X)) ⟨S.1, S.2.1, S.2.2.1, S.2.2.2.2.1, S.2.2.2.2.2.1⟩ (hC l S.2.2.2.2.2.2.2.2.1) ⟨callN_g (n := As.length) S.2.2.2.2.2.1 hE.2.2.2.2.2 hcode hini hl hok ⟨by omega, by omega⟩, S.2.2.2.2.2.1 _ hs, trivial⟩ ⟨pm_blind, fun U hU hw => pre_g hE Y.1 Y.2.1 hU hw⟩ rfl (by rw [List.length_map]) Y.2.2.1.1 (by rw [hstk]; simp) (st_room hst) hd ⟨by omega, by omega⟩) kx kk
theorem g_callV {b c a1 a2 a3 : Nat} {q : vw_C} (hd : decode M.2.1 pc = .ok (.invokevirtual ix, 3)) (hk : kd b = (0, c, a1, a2, a3)) (hc : clsL[c]? = some q) (hq : q.1 = y.cls) (hl : Cond.methodLink M.1 ix y ∈ TT) (hi : Cond.instanceMethod y ∈ TT) (hs : Cond.selects y.cls y y ∈ TT) (hini : Cond.initialized y.cls ∈ TT) (hcode : Cond.code y My.2.1 My.2.2.1 My.2.2.2 ∈ TT) (hok : okD y As.length) (hR : fr + 1 ≤ E.1 ∧ 8 + (My.2.2.1 + 11) + lo ≤ E.2.1) (hst : (st.map fun v => v.category).sum ≤ 8) (hstk : stk = As.reverse ++ .ref b :: st)
    (hC : Con X y My fr lo mc (.ref b :: As) h Qr1 Qx1) (kx : ∀ C h', Qx1 C h' → GX X M E Q kc pc L st h' C) (kk : ∀ r h', Qr1 r h' → G X M E Q kc (pc + 3) L (r.toList ++ st) h') : G X M E Q (kc + mc) pc L stk h := by
  intro p l e R s m args below meth c0 H locs cells slots ls S Y
  have hSf := S.2.2.2.2.2.2.2.2.2.2
  have hE := S.2.2.2.2.2.2.2.2.2.1
  have y1 := Y.2.2.2.1
  have y2 := Y.2.2.2.2
  refine g_run S Y (vx_runV (C := y.cls) (b := X.2.2.1 b) (As := As.map (rv X)) (rest := st.map (rv X)) ⟨S.1, S.2.1, S.2.2.1, S.2.2.2.2.1, S.2.2.2.2.2.1⟩ (hC l S.2.2.2.2.2.2.2.2.1) ⟨callB_g (n := As.length) S.2.2.2.2.2.1 hE.2.2.2.2.2 hcode hini hl hok ⟨by omega, by omega⟩, S.2.2.2.2.2.1 _ hi, S.2.2.2.2.2.1 _ hs⟩ ⟨pm_blind, ?_, fun U hU hw => pre_g (av := .ref b :: As) hE Y.1 Y.2.1 hU hw⟩ rfl (by rw [List.length_map]) Y.2.2.1.1 (by rw [hstk]; simp [rv]) (st_room hst) hd ⟨by omega, by omega⟩) kx kk
  obtain ⟨cell, g1, g2, g3⟩ := va_recv Y.1.2.1 Y.1.1 hc (obj_at hk)
  exact ⟨cell, g1, g2, by rw [← hq]; exact g3⟩
theorem g_callVN {b c a1 a2 a3 : Nat} {q : vw_C} {host : String} (hd : decode M.2.1 pc = .ok (.invokevirtual ix, 3)) (hk : kd b = (0, c, a1, a2, a3)) (hc : clsL[c]? = some q) (hq : q.1 = y.cls) (hl : Cond.methodLinkNest M.1 ix y host ∈ TT) (hi : Cond.instanceMethod y ∈ TT) (hs : Cond.selects y.cls y y ∈ TT) (hini : Cond.initialized y.cls ∈ TT) (hcode : Cond.code y My.2.1 My.2.2.1 My.2.2.2 ∈ TT) (hok : okD y As.length) (hR : fr + 1 ≤ E.1 ∧ 8 + (My.2.2.1 + 11) + lo ≤ E.2.1) (hst : (st.map fun v => v.category).sum ≤ 8) (hstk : stk = As.reverse ++ .ref b :: st)
    (hC : Con X y My fr lo mc (.ref b :: As) h Qr1 Qx1) (kx : ∀ C h', Qx1 C h' → GX X M E Q kc pc L st h' C) (kk : ∀ r h', Qr1 r h' → G X M E Q kc (pc + 3) L (r.toList ++ st) h') : G X M E Q (kc + mc) pc L stk h := by
  intro p l e R s m args below meth c0 H locs cells slots ls S Y
  have hSf := S.2.2.2.2.2.2.2.2.2.2
  have hE := S.2.2.2.2.2.2.2.2.2.1
  have y1 := Y.2.2.2.1
  have y2 := Y.2.2.2.2
  refine g_run S Y (vx_runVN (C := y.cls) (b := X.2.2.1 b) (As := As.map (rv X)) (rest := st.map (rv X)) ⟨S.1, S.2.1, S.2.2.1, S.2.2.2.2.1, S.2.2.2.2.2.1⟩ (hC l S.2.2.2.2.2.2.2.2.1) ⟨callN_g (n := As.length) S.2.2.2.2.2.1 hE.2.2.2.2.2 hcode hini hl hok ⟨by omega, by omega⟩, S.2.2.2.2.2.1 _ hi, S.2.2.2.2.2.1 _ hs⟩ ⟨pm_blind, ?_, fun U hU hw => pre_g (av := .ref b :: As) hE Y.1 Y.2.1 hU hw⟩ rfl (by rw [List.length_map]) Y.2.2.1.1 (by rw [hstk]; simp [rv]) (st_room hst) hd ⟨by omega, by omega⟩) kx kk
  obtain ⟨cell, g1, g2, g3⟩ := va_recv Y.1.2.1 Y.1.1 hc (obj_at hk)
  exact ⟨cell, g1, g2, by rw [← hq]; exact g3⟩
end GC
end
section
/-! predicate transformers: what a printed method is made of, and the rows that tie it to G -/
def wlet {α : Type} (a : α) (f : α → Prop) : Prop := ∀ x, x = a → f x
theorem wlet_use {α : Type} {a : α} {f : α → Prop} (h : wlet a f) : f a := h a rfl
def wlN {σ : Type} (B : (σ → Prop) → σ → Prop) : Nat → σ → Prop
  | 0, _ => False
  | n + 1, s => B (wlN B n) s
/-- a loop: for some number of rounds -/
def wl {σ : Type} (B : (σ → Prop) → σ → Prop) (s : σ) : Prop := ∃ n, wlN B n s
theorem wl_ind {σ : Type} {B : (σ → Prop) → σ → Prop} {P : σ → Prop} (hs : ∀ K : σ → Prop, (∀ s, K s → P s) → ∀ s, B K s → P s) (s : σ) (h : wl B s) : P s := by
  obtain ⟨n, h⟩ := h
  revert s
  induction n with
  | zero => intro s h; exact h.elim
  | succ n ih => intro s h; exact hs (wlN B n) ih s h
theorem wif_m {c A B A' B' : Prop} (hw : wif c A B) (ha : A → A') (hb : B → B') : wif c A' B' := ⟨fun z => ha (hw.1 z), fun z => hb (hw.2 z)⟩
theorem wif_p {c A B : Prop} (h : c) (a : A) : wif c A B := ⟨fun _ => a, fun z => absurd h z⟩
theorem wif_n {c A B : Prop} (h : ¬ c) (b : B) : wif c A B := ⟨fun z => absurd z h, fun _ => b⟩
def wsw (x : Int32) : List (Int32 × Prop) → Prop → Prop
  | [], D => D
  | (c, A) :: l, D => wif (x = c) A (wsw x l D)
def wimp : List (Int32 × Prop) → List (Int32 × Prop) → Prop
  | [], [] => True
  | (c, A) :: l, (d, B) :: m => c = d ∧ (A → B) ∧ wimp l m
  | _, _ => False
theorem wsw_m {x : Int32} : ∀ {l m : List (Int32 × Prop)} {D D' : Prop}, wsw x l D → wimp l m → (D → D') → wsw x m D'
  | [], [], _, _, hw, _, hd => hd hw
  | (c, A) :: l, (d, B) :: m, D, D', hw, hi, hd => by
    obtain ⟨rfl, h1, h2⟩ := hi
    exact wif_m (A := A) (B := wsw x l D) hw h1 (fun hw => wsw_m hw h2 hd)
theorem wsw_in {x c : Int32} {B : Prop} : ∀ {l : List (Int32 × Prop)} {D : Prop} (_ : wsw x l D) (j : Nat), l[j]? = some (c, B) → x = c → (∀ (i : Nat) (d : Int32) (A : Prop), i < j → l[i]? = some (d, A) → d ≠ c) → B
  | [], _, _, j, hj, _, _ => by simp at hj
  | (d, A) :: l, D, hw, 0, hj, hx, _ => by
    have h1 : (d, A) = (c, B) := by simpa using hj
    cases h1
    have hw : wif (x = c) B (wsw x l D) := hw
    exact hw.1 hx
  | (d, A) :: l, D, hw, j + 1, hj, hx, hn => by
    have h1 : d ≠ c := hn 0 d A (Nat.succ_pos j) rfl
    have hw : wif (x = d) A (wsw x l D) := hw
    exact wsw_in (hw.2 (fun z => h1 (z.symm.trans hx))) j (by simpa using hj) hx (fun i d' A' hi h => hn (i + 1) d' A' (Nat.succ_lt_succ hi) (by simpa using h))
theorem wsw_out {x : Int32} : ∀ {l : List (Int32 × Prop)} {D : Prop}, wsw x l D → (∀ (i : Nat) (d : Int32) (A : Prop), l[i]? = some (d, A) → x ≠ d) → D
  | [], _, hw, _ => hw
  | (d, A) :: l, D, hw, hn => by
    have hw : wif (x = d) A (wsw x l D) := hw
    exact wsw_out (hw.2 (hn 0 d A rfl)) (fun i d' A' h => hn (i + 1) d' A' (by simpa using h))
theorem i32_eq {x : Int32} {z : Int} (h : x.toInt = z) : x = Int32.ofInt z := by rw [← h]; exact (Int32.ofInt_toInt x).symm
theorem g_sw {X : Cx} {M : Mi} {E : Rm} {Q : Qf} {kc pc : Nat} {L : List (Nat × Value)} {st : List Value} {h : Hp} {dflt lo hi : Int} {offs : Array Int} {len : Nat} {x : Int32} (tgs : List (Int32 × Nat)) (dt : Nat) (hd : decode M.2.1 pc = .ok (.tableswitch dflt lo hi offs, len))
    (ho : offs.toList = tgs.map (fun t => (t.2 : Int) - pc)) (hn : tgs.map (fun t => t.1.toInt) = (List.range tgs.length).map (fun (j : Nat) => lo + (j : Int))) (hl : (tgs.length : Int) = hi - lo + 1) (hdt : (pc : Int) + dflt = (dt : Int))
    (kk : wsw x (tgs.map (fun t => (t.1, G X M E Q kc t.2 L st h))) (G X M E Q kc dt L st h)) : G X M E Q kc pc L (.int x :: st) h := by
  have hsz : offs.size = tgs.length := by
    rw [← Array.length_toList, ho, List.length_map]
  have hoff : ∀ (j : Nat) (off : Int), offs[j]? = some off → ∃ t, tgs[j]? = some t ∧ off = (t.2 : Int) - pc := by
    intro j off hj
    rw [← Array.getElem?_toList, ho, List.getElem?_map] at hj
    cases ht : tgs[j]? with
    | none => rw [ht] at hj; cases hj
    | some t => rw [ht] at hj; exact ⟨t, rfl, (Option.some.inj hj).symm⟩
  have hval : ∀ (j : Nat) (t : Int32 × Nat), tgs[j]? = some t → t.1.toInt = lo + (j : Int) := by
    intro j t ht
    have h1 : (tgs.map (fun t => t.1.toInt))[j]? = some t.1.toInt := by rw [List.getElem?_map, ht]; rfl
    have hj : j < tgs.length := (List.getElem?_eq_some_iff.mp ht).1
    rw [hn, List.getElem?_map, List.getElem?_range hj] at h1
    exact (Option.some.inj h1).symm
  refine g_table hd (fun j off tgt hj ht hx => ?_) (fun tgt ht hout => ?_) (by omega) (fun j off hj => ?_) (by omega)
  · obtain ⟨t, h1, h2⟩ := hoff j off hj
    have h3 := hval j t h1
    have h4 : tgt = t.2 := by omega
    subst h4
    refine wsw_in (c := t.1) kk j (by rw [List.getElem?_map, h1]; rfl) ?_ ?_
    · have e1 := i32_eq (hx.trans h3.symm)
      rw [e1]
      exact Int32.ofInt_toInt t.1
    · intro i d A hi hd2 hdc
      rw [List.getElem?_map] at hd2
      cases ht2 : tgs[i]? with
      | none => rw [ht2] at hd2; cases hd2
      | some t2 =>
        rw [ht2] at hd2
        have h6 : t2.1 = d := congrArg Prod.fst (Option.some.inj hd2)
        have h5 := hval i t2 ht2
        rw [h6, hdc] at h5
        omega
  · have h4 : tgt = dt := by omega
    subst h4
    refine wsw_out kk (fun i d A hd2 hxd => ?_)
    rw [List.getElem?_map] at hd2
    cases ht2 : tgs[i]? with
    | none => rw [ht2] at hd2; cases hd2
    | some t2 =>
      rw [ht2] at hd2
      have h6 : t2.1 = d := congrArg Prod.fst (Option.some.inj hd2)
      have h5 := hval i t2 ht2
      have hi : i < tgs.length := (List.getElem?_eq_some_iff.mp ht2).1
      rw [h6, ← hxd] at h5
      omega
  · obtain ⟨t, h1, h2⟩ := hoff j off hj
    omega
/-- results -/
def QI (Q : Int32 → Hp → Prop) : Option Value → Hp → Prop := fun r h' => ∃ v, r = some (.int v) ∧ Q v h'
def QIp (h : Hp) (Q : Int32 → Prop) : Option Value → Hp → Prop := fun r h' => ∃ v, r = some (.int v) ∧ h' = h ∧ Q v
def QL (Q : Int64 → Hp → Prop) : Option Value → Hp → Prop := fun r h' => ∃ v, r = some (.long v) ∧ Q v h'
def QLp (h : Hp) (Q : Int64 → Prop) : Option Value → Hp → Prop := fun r h' => ∃ v, r = some (.long v) ∧ h' = h ∧ Q v
def QV (Q : Hp → Prop) : Option Value → Hp → Prop := fun r h' => r = none ∧ Q h'
def QVp (h : Hp) (Q : Prop) : Option Value → Hp → Prop := fun r h' => r = none ∧ h' = h ∧ Q
def LawP (p : Nat) : Prop := kd p = (0, 0, 0, 0, 0) ∧ kd (tg p 0) = (1, 500, 0, 0, 0) ∧ kd (tg p 1) = (1, 6, 0, 0, 0) ∧ kd (tg p 2) = (1, 64, 0, 0, 0)
def RoadP (p : Nat) : Prop := kd p = (0, 4, 0, 0, 0) ∧ kd (tg p 0) = (1, 30, 0, 0, 0) ∧ kd (tg p 1) = (1, 30, 0, 0, 0) ∧ kd (tg p 2) = (1, 30, 0, 0, 0) ∧ kd (tg p 3) = (1, 56, 0, 0, 0)
def RecP (p : Nat) : Prop := kd p = (0, 3, 0, 0, 0) ∧ kd (tg p 0) = (1, 2, 0, 0, 0) ∧ kd (tg p 1) = (1, 60, 0, 0, 0) ∧ kd (tg p 2) = (1, 60, 0, 0, 0) ∧ kd (tg p 3) = (1, 30, 0, 0, 0) ∧ kd (tg p 4) = (1, 10, 0, 0, 0) ∧ kd (tg p 5) = (1, 10, 0, 0, 0)
def QLaw (h : Hp) (Q : Nat → Prop) : Option Value → Hp → Prop := fun r h' => ∃ p, r = some (.ref p) ∧ LawP p ∧ h' = h ∧ Q p
def vopt (o : Option Nat) : Value := match o with
  | none => .null
  | some p => .ref p
def QRec (h : Hp) (Q : Option Nat → Prop) : Option Value → Hp → Prop := fun r h' => ∃ o, r = some (vopt o) ∧ (∀ p, o = some p → RecP p) ∧ h' = h ∧ Q o
theorem lawP_i {i : Int32} (h : vp_in i 4) : LawP (14 + 4 * i.toNatClampNeg) := by
  have h1 : i.toNatClampNeg < 4 := Nat.not_le.mp fun q => h (Or.inr q)
  generalize i.toNatClampNeg = j at h1
  have h2 : j = 0 ∨ j = 1 ∨ j = 2 ∨ j = 3 := by omega
  unfold LawP
  rcases h2 with rfl | rfl | rfl | rfl <;> decide
theorem recP_i {i : Int32} (h : vp_in i 3) : RecP (70 + 7 * i.toNatClampNeg) := by
  have h1 : i.toNatClampNeg < 3 := Nat.not_le.mp fun q => h (Or.inr q)
  generalize i.toNatClampNeg = j at h1
  have h2 : j = 0 ∨ j = 1 ∨ j = 2 := by omega
  rcases h2 with rfl | rfl | rfl <;> exact ⟨by decide, by decide, by decide, by decide, by decide, by decide, by decide⟩
theorem lawP_30 : LawP 30 := by unfold LawP; decide
theorem lawP_34 : LawP 34 := by unfold LawP; decide
theorem lawP_38 : LawP 38 := by unfold LawP; decide
theorem roadP_3 : RoadP 3 := by unfold RoadP; decide
theorem roadP_8 : RoadP 8 := by unfold RoadP; decide
theorem recP_62 : RecP 62 := ⟨by decide, by decide, by decide, by decide, by decide, by decide, by decide⟩
theorem fam {P : Nat → Prop} {n : Nat} (ha : ∀ j, j < n → P j) {i : Int32} (h : vp_in i n) : P i.toNatClampNeg := ha _ (Nat.not_le.mp fun q => h (Or.inr q))
/-- decode rows in bulk -/
def dkA (b : ByteArray) (l : List (Nat × Instr × Nat)) : Prop := ∀ q ∈ l, decode b q.1 = .ok (q.2.1, q.2.2)
theorem dk {b : ByteArray} {l : List (Nat × Instr × Nat)} (h : dkA b l) (i : Nat) {pc n : Nat} {ins : Instr} (hi : l[i]? = some (pc, ins, n)) : decode b pc = .ok (ins, n) := h (pc, ins, n) (List.mem_of_getElem? hi)
end
section
/-! helpers of the printed proofs; rows of the JDK members -/
def Qn : String → Hp → Prop := fun _ _ => False
theorem in_lt {i : Int32} {n : Nat} (h : vp_in i n) : i.toNatClampNeg < n := Nat.not_le.mp fun q => h (Or.inr q)
def slen (si : Nat) : Int32 := nI (bytL.getD si []).length
def sch (si k : Nat) : Int32 := nI ((bytL.getD si []).getD k 0)
def xnm : List String := ["java/lang/RuntimeException", "java/lang/Exception"]
theorem xnm_ok : ∀ n ∈ xnm, Bundle.fit n = true := by decide +kernel
theorem wM_ini : Cond.initialized "java/lang/Math" ∈ TT := tt_in 121 (by decide +kernel) (by decide +kernel)
theorem wM_smax : Cond.static Lib.Math.max.name ∈ TT := tt_in 1112 (by decide +kernel) (by decide +kernel)
theorem wM_cmax : Cond.code Lib.Math.max.name Lib.Math.max.code 2 (some .int) ∈ TT := tt_in 1113 (by decide +kernel) (by decide +kernel)
theorem wM_smin : Cond.static Lib.Math.min.name ∈ TT := tt_in 511 (by decide +kernel) (by decide +kernel)
theorem wM_cmin : Cond.code Lib.Math.min.name Lib.Math.min.code 2 (some .int) ∈ TT := tt_in 512 (by decide +kernel) (by decide +kernel)
theorem wM_sabs : Cond.static Lib.Math.abs.name ∈ TT := tt_in 580 (by decide +kernel) (by decide +kernel)
theorem wM_cabs : Cond.code Lib.Math.abs.name Lib.Math.abs.code 1 (some .int) ∈ TT := tt_in 581 (by decide +kernel) (by decide +kernel)
theorem wM_smaxL : Cond.static Lib.MathLoose.max_long.x ∈ TT := tt_in 609 (by decide +kernel) (by decide +kernel)
theorem wM_cmaxL : Cond.code Lib.MathLoose.max_long.x Lib.MathLoose.max_long.code 4 (some .long) ∈ TT := tt_in 610 (by decide +kernel) (by decide +kernel)
theorem wM_sminL : Cond.static Lib.MathLoose.min_long.x ∈ TT := tt_in 606 (by decide +kernel) (by decide +kernel)
theorem wM_cminL : Cond.code Lib.MathLoose.min_long.x Lib.MathLoose.min_long.code 4 (some .long) ∈ TT := tt_in 607 (by decide +kernel) (by decide +kernel)
section GJ
variable {X : Cx} {M : Mi} {E : Rm} {Q : Qf} {kc pc : Nat} {L : List (Nat × Value)} {st : List Value} {h : Hp}
theorem rm_room {n : Nat} {R : Room} {lo : Nat} (X : Cx) (h : (st.map fun v => v.category).sum + n ≤ lo) (hl : lo ≤ R.locals) : ((st.map (rv X)).map fun v => v.category).sum + n ≤ R.locals := by
  have e : (st.map (rv X)).map (fun v => v.category) = st.map (fun v => v.category) := by
    rw [List.map_map]
    apply List.map_congr_left
    intro v _
    exact rv_cat X v
  rw [e]
  omega
theorem g_mmax {x y : Int32} {ix : Nat} (hd : decode M.2.1 pc = .ok (.invokestatic ix, 3)) (hl : Cond.methodLink M.1 ix Lib.Math.max.name ∈ TT) (hr : 1 ≤ E.1) (hlo : (st.map fun v => v.category).sum + 13 ≤ E.2.1) (k : G X M E Q kc (pc + 3) L (.int (if x < y then y else x) :: st) h) : G X M E Q kc pc L (.int y :: .int x :: st) h := by
  intro p l e R s m args below meth c H locs cells slots ls S Y
  have hSf := S.2.2.2.2.2.2.2.2.2.2
  have y1 := Y.2.2.2.1
  have y2 := Y.2.2.2.2
  exact va_mmax S.1 S.2.1 (S.2.2.1.trans Y.2.2.1.1.symm) S.2.2.2.2.1 (S.2.2.2.2.2.1 _ hl) (S.2.2.2.2.2.1 _ wM_smax) (S.2.2.2.2.2.1 _ wM_ini) (S.2.2.2.2.2.1 _ wM_cmax) (by omega) (rm_room X hlo hSf.2.1) (by omega) (by omega) hd (k p l e R s m args below meth c H locs cells slots ls S Y)
theorem g_mmin {x y : Int32} {ix : Nat} (hd : decode M.2.1 pc = .ok (.invokestatic ix, 3)) (hl : Cond.methodLink M.1 ix Lib.Math.min.name ∈ TT) (hr : 1 ≤ E.1) (hlo : (st.map fun v => v.category).sum + 13 ≤ E.2.1) (k : G X M E Q kc (pc + 3) L (.int (if y < x then y else x) :: st) h) : G X M E Q kc pc L (.int y :: .int x :: st) h := by
  intro p l e R s m args below meth c H locs cells slots ls S Y
  have hSf := S.2.2.2.2.2.2.2.2.2.2
  have y1 := Y.2.2.2.1
  have y2 := Y.2.2.2.2
  exact va_mmin S.1 S.2.1 (S.2.2.1.trans Y.2.2.1.1.symm) S.2.2.2.2.1 (S.2.2.2.2.2.1 _ hl) (S.2.2.2.2.2.1 _ wM_smin) (S.2.2.2.2.2.1 _ wM_ini) (S.2.2.2.2.2.1 _ wM_cmin) (by omega) (rm_room X hlo hSf.2.1) (by omega) (by omega) hd (k p l e R s m args below meth c H locs cells slots ls S Y)
theorem g_mabs {x : Int32} {ix : Nat} (hd : decode M.2.1 pc = .ok (.invokestatic ix, 3)) (hl : Cond.methodLink M.1 ix Lib.Math.abs.name ∈ TT) (hr : 1 ≤ E.1) (hlo : (st.map fun v => v.category).sum + 13 ≤ E.2.1) (k : G X M E Q kc (pc + 3) L (.int (if 0 ≤ x then x else 0 - x) :: st) h) : G X M E Q kc pc L (.int x :: st) h := by
  intro p l e R s m args below meth c H locs cells slots ls S Y
  have hSf := S.2.2.2.2.2.2.2.2.2.2
  have y1 := Y.2.2.2.1
  have y2 := Y.2.2.2.2
  exact va_mabs S.1 S.2.1 (S.2.2.1.trans Y.2.2.1.1.symm) S.2.2.2.2.1 (S.2.2.2.2.2.1 _ hl) (S.2.2.2.2.2.1 _ wM_sabs) (S.2.2.2.2.2.1 _ wM_ini) (S.2.2.2.2.2.1 _ wM_cabs) (by omega) (rm_room X hlo hSf.2.1) (by omega) (by omega) hd (k p l e R s m args below meth c H locs cells slots ls S Y)
theorem g_mmaxL {x y : Int64} {ix : Nat} (hd : decode M.2.1 pc = .ok (.invokestatic ix, 3)) (hl : Cond.methodLink M.1 ix Lib.MathLoose.max_long.x ∈ TT) (hr : 1 ≤ E.1) (hlo : (st.map fun v => v.category).sum + 15 ≤ E.2.1) (k : G X M E Q kc (pc + 3) L (.long (if y < x then x else y) :: st) h) : G X M E Q kc pc L (.long y :: .long x :: st) h := by
  intro p l e R s m args below meth c H locs cells slots ls S Y
  have hSf := S.2.2.2.2.2.2.2.2.2.2
  have y1 := Y.2.2.2.1
  have y2 := Y.2.2.2.2
  exact va_mmax_long S.1 S.2.1 (S.2.2.1.trans Y.2.2.1.1.symm) S.2.2.2.2.1 (S.2.2.2.2.2.1 _ hl) (S.2.2.2.2.2.1 _ wM_smaxL) (S.2.2.2.2.2.1 _ wM_ini) (S.2.2.2.2.2.1 _ wM_cmaxL) (by omega) (rm_room X hlo hSf.2.1) (by omega) (by omega) hd (k p l e R s m args below meth c H locs cells slots ls S Y)
theorem g_mminL {x y : Int64} {ix : Nat} (hd : decode M.2.1 pc = .ok (.invokestatic ix, 3)) (hl : Cond.methodLink M.1 ix Lib.MathLoose.min_long.x ∈ TT) (hr : 1 ≤ E.1) (hlo : (st.map fun v => v.category).sum + 15 ≤ E.2.1) (k : G X M E Q kc (pc + 3) L (.long (if y < x then y else x) :: st) h) : G X M E Q kc pc L (.long y :: .long x :: st) h := by
  intro p l e R s m args below meth c H locs cells slots ls S Y
  have hSf := S.2.2.2.2.2.2.2.2.2.2
  have y1 := Y.2.2.2.1
  have y2 := Y.2.2.2.2
  exact va_mmin_long S.1 S.2.1 (S.2.2.1.trans Y.2.2.1.1.symm) S.2.2.2.2.1 (S.2.2.2.2.2.1 _ hl) (S.2.2.2.2.2.1 _ wM_sminL) (S.2.2.2.2.2.1 _ wM_ini) (S.2.2.2.2.2.1 _ wM_cminL) (by omega) (rm_room X hlo hSf.2.1) (by omega) (by omega) hd (k p l e R s m args below meth c H locs cells slots ls S Y)
theorem g_slen {si ix : Nat} (hd : decode M.2.1 pc = .ok (.invokevirtual ix, 3)) (hl : Cond.methodLink M.1 ix yJ0_length_8abf5 ∈ TT) (hsi : si < NS) (hr : 6 ≤ E.1) (hlo : 200 ≤ E.2.1) (hst : (st.map fun v => v.category).sum ≤ 8) (k : G X M E Q kc (pc + 3) L (.int (slen si) :: st) h) : G X M E Q kc pc L (.ref (SB + 2 * si) :: st) h := by
  sorry
theorem g_sch {si ix : Nat} {i : Int32} (hd : decode M.2.1 pc = .ok (.invokevirtual ix, 3)) (hl : Cond.methodLink M.1 ix yJ0_charAt_5068e ∈ TT) (hsi : si < NS) (hin : vp_in i (bytL.getD si []).length) (hr : 6 ≤ E.1) (hlo : 200 ≤ E.2.1) (hst : (st.map fun v => v.category).sum ≤ 8) (k : G X M E Q kc (pc + 3) L (.int (sch si i.toNatClampNeg) :: st) h) : G X M E Q kc pc L (.int i :: .ref (SB + 2 * si) :: st) h := by
  sorry
theorem g_getI (k9 : Nat) {b c ix : Nat} {q : vw_C} {a1 a2 a3 : Nat} (hd : decode M.2.1 pc = .ok (.getfield ix, 3)) (hk : kd b = (0, c, a1, a2, a3)) (hc : clsL[c]? = some q) (hnf : nf c = q.2.2) (hkn : k9 < q.2.2) (hw : Cond.fieldLink M.1 ix q.1 (q.2.1 k9).2.1 (q.2.1 k9).2.2.1 ∈ TT) (ho : (q.2.1 k9).1 = q.1) (hf : fk c k9 = 0) (k : G X M E Q kc (pc + 3) L (.int (h b k9) :: st) h) : G X M E Q kc pc L (.ref b :: st) h := by
  refine g_get k9 hd hk hc hnf hkn hw ho ?_ k
  unfold fgv
  rw [hf]
  rfl
theorem g_getZ (k9 : Nat) {b c ix : Nat} {q : vw_C} {a1 a2 a3 : Nat} (hd : decode M.2.1 pc = .ok (.getfield ix, 3)) (hk : kd b = (0, c, a1, a2, a3)) (hc : clsL[c]? = some q) (hnf : nf c = q.2.2) (hkn : k9 < q.2.2) (hw : Cond.fieldLink M.1 ix q.1 (q.2.1 k9).2.1 (q.2.1 k9).2.2.1 ∈ TT) (ho : (q.2.1 k9).1 = q.1) (hf : fk c k9 = 1) (k : G X M E Q kc (pc + 3) L (.int (h b k9 &&& 1) :: st) h) : G X M E Q kc pc L (.ref b :: st) h := by
  refine g_get k9 hd hk hc hnf hkn hw ho ?_ k
  unfold fgv
  rw [hf]
  rfl
theorem g_getR (k9 : Nat) {b c ix : Nat} {q : vw_C} {t : Nat} {a1 a2 a3 : Nat} (hd : decode M.2.1 pc = .ok (.getfield ix, 3)) (hk : kd b = (0, c, a1, a2, a3)) (hc : clsL[c]? = some q) (hnf : nf c = q.2.2) (hkn : k9 < q.2.2) (hw : Cond.fieldLink M.1 ix q.1 (q.2.1 k9).2.1 (q.2.1 k9).2.2.1 ∈ TT) (ho : (q.2.1 k9).1 = q.1) (hf : fk c k9 = 2) (ht : tg b k9 = t) (k : G X M E Q kc (pc + 3) L (.ref t :: st) h) : G X M E Q kc pc L (.ref b :: st) h := by
  refine g_get k9 hd hk hc hnf hkn hw ho ?_ k
  unfold fgv
  rw [hf]
  rw [ht]
  rfl
theorem g_getNI (k9 : Nat) {b c ix : Nat} {q : vw_C} {host : String} {a1 a2 a3 : Nat} (hd : decode M.2.1 pc = .ok (.getfield ix, 3)) (hk : kd b = (0, c, a1, a2, a3)) (hc : clsL[c]? = some q) (hnf : nf c = q.2.2) (hkn : k9 < q.2.2) (hw : Cond.fieldLinkNest M.1 ix q.1 (q.2.1 k9).2.1 (q.2.1 k9).2.2.1 host ∈ TT) (ho : (q.2.1 k9).1 = q.1) (hf : fk c k9 = 0) (k : G X M E Q kc (pc + 3) L (.int (h b k9) :: st) h) : G X M E Q kc pc L (.ref b :: st) h := by
  refine g_getN k9 hd hk hc hnf hkn hw ho ?_ k
  unfold fgv
  rw [hf]
  rfl
theorem g_getNZ (k9 : Nat) {b c ix : Nat} {q : vw_C} {host : String} {a1 a2 a3 : Nat} (hd : decode M.2.1 pc = .ok (.getfield ix, 3)) (hk : kd b = (0, c, a1, a2, a3)) (hc : clsL[c]? = some q) (hnf : nf c = q.2.2) (hkn : k9 < q.2.2) (hw : Cond.fieldLinkNest M.1 ix q.1 (q.2.1 k9).2.1 (q.2.1 k9).2.2.1 host ∈ TT) (ho : (q.2.1 k9).1 = q.1) (hf : fk c k9 = 1) (k : G X M E Q kc (pc + 3) L (.int (h b k9 &&& 1) :: st) h) : G X M E Q kc pc L (.ref b :: st) h := by
  refine g_getN k9 hd hk hc hnf hkn hw ho ?_ k
  unfold fgv
  rw [hf]
  rfl
theorem g_getNR (k9 : Nat) {b c ix : Nat} {q : vw_C} {host : String} {t : Nat} {a1 a2 a3 : Nat} (hd : decode M.2.1 pc = .ok (.getfield ix, 3)) (hk : kd b = (0, c, a1, a2, a3)) (hc : clsL[c]? = some q) (hnf : nf c = q.2.2) (hkn : k9 < q.2.2) (hw : Cond.fieldLinkNest M.1 ix q.1 (q.2.1 k9).2.1 (q.2.1 k9).2.2.1 host ∈ TT) (ho : (q.2.1 k9).1 = q.1) (hf : fk c k9 = 2) (ht : tg b k9 = t) (k : G X M E Q kc (pc + 3) L (.ref t :: st) h) : G X M E Q kc pc L (.ref b :: st) h := by
  refine g_getN k9 hd hk hc hnf hkn hw ho ?_ k
  unfold fgv
  rw [hf]
  rw [ht]
  rfl
theorem kIp {Q1 : Int32 → Prop} (k : ∀ v, Q1 v → G X M E Q kc pc L (.int v :: st) h) : ∀ r h', QIp h Q1 r h' → G X M E Q kc pc L (r.toList ++ st) h' := by
  rintro r h' ⟨v, rfl, rfl, hw⟩
  exact k v hw
theorem kI {Q1 : Int32 → Hp → Prop} (k : ∀ v h', Q1 v h' → G X M E Q kc pc L (.int v :: st) h') : ∀ r h', QI Q1 r h' → G X M E Q kc pc L (r.toList ++ st) h' := by
  rintro r h' ⟨v, rfl, hw⟩
  exact k v h' hw
theorem kLp {Q1 : Int64 → Prop} (k : ∀ v, Q1 v → G X M E Q kc pc L (.long v :: st) h) : ∀ r h', QLp h Q1 r h' → G X M E Q kc pc L (r.toList ++ st) h' := by
  rintro r h' ⟨v, rfl, rfl, hw⟩
  exact k v hw
theorem kL {Q1 : Int64 → Hp → Prop} (k : ∀ v h', Q1 v h' → G X M E Q kc pc L (.long v :: st) h') : ∀ r h', QL Q1 r h' → G X M E Q kc pc L (r.toList ++ st) h' := by
  rintro r h' ⟨v, rfl, hw⟩
  exact k v h' hw
theorem kVp {Q1 : Prop} (k : Q1 → G X M E Q kc pc L st h) : ∀ r h', QVp h Q1 r h' → G X M E Q kc pc L (r.toList ++ st) h' := by
  rintro r h' ⟨rfl, rfl, hw⟩
  exact k hw
theorem kV {Q1 : Hp → Prop} (k : ∀ h', Q1 h' → G X M E Q kc pc L st h') : ∀ r h', QV Q1 r h' → G X M E Q kc pc L (r.toList ++ st) h' := by
  rintro r h' ⟨rfl, hw⟩
  exact k h' hw
theorem kLaw {Q1 : Nat → Prop} (k : ∀ p, LawP p → Q1 p → G X M E Q kc pc L (.ref p :: st) h) : ∀ r h', QLaw h Q1 r h' → G X M E Q kc pc L (r.toList ++ st) h' := by
  rintro r h' ⟨p, rfl, hp, rfl, hw⟩
  exact k p hp hw
theorem kRec {Q1 : Option Nat → Prop} (k0 : Q1 none → G X M E Q kc pc L (.null :: st) h) (k1 : ∀ p, RecP p → Q1 (some p) → G X M E Q kc pc L (.ref p :: st) h) : ∀ r h', QRec h Q1 r h' → G X M E Q kc pc L (r.toList ++ st) h' := by
  rintro r h' ⟨o, rfl, hp, rfl, hw⟩
  cases o with
  | none => exact k0 hw
  | some p => exact k1 p (hp p rfl) hw
theorem g_heap (k : ∀ h' : Hp, h' = h → G X M E Q kc pc L st h') : G X M E Q kc pc L st h := k h rfl
theorem g_topi {x : Int32} (k : ∀ y : Int32, y = x → G X M E Q kc pc L (.int y :: st) h) : G X M E Q kc pc L (.int x :: st) h := k x rfl
theorem g_topl {x : Int64} (k : ∀ y : Int64, y = x → G X M E Q kc pc L (.long y :: st) h) : G X M E Q kc pc L (.long x :: st) h := k x rfl
theorem kxN {C : List Value} : ∀ (D : String) (h' : Hp), Qn D h' → GX X M E Q kc pc L C h' D := fun _ _ hx => hx.elim
theorem kxT {Qr : Option Value → Hp → Prop} {Qx : String → Hp → Prop} {C : List Value} : ∀ (D : String) (h' : Hp), Qx D h' → GX X M E (QM X E Qr Qx) kc pc L C h' D := fun _ _ hx => gx_out hx
theorem g_throwSW (i : Nat) {C tx : String} {ik is ic : Nat} {Qr : Option Value → Hp → Prop} {Qx : String → Hp → Prop} (names : List String) (hnm : names = ["java/lang/RuntimeException", "java/lang/Exception"]) (hcls : Bundle.fit C = true) (hn : ∀ n ∈ names, Bundle.fit n = true) (hi : strL[i]? = some (M.1, is, tx))
    (hk : Cond.classLink M.1 ik C ∈ TT) (hini : Cond.initialized C ∈ TT) (hat : ∀ w ∈ vx_atS M.1 ic C names, w ∈ TT)
    (d0 : decode M.2.1 pc = .ok (.new ik, 3)) (d3 : decode M.2.1 (pc + 3) = .ok (.dup, 1)) (d4 : decode M.2.1 (pc + 4) = .ok (.ldc_w is, 3)) (d7 : decode M.2.1 (pc + 7) = .ok (.invokespecial ic, 3)) (d10 : decode M.2.1 (pc + 10) = .ok (.athrow, 1))
    (hfr : 6 ≤ E.1) (hlo : 82 ≤ E.2.1) (hq : Qx C h) : G X M E (QM X E Qr Qx) (kc + 1) pc L [] h := by
  intro p l e R s m args below meth c H locs cells slots ls S Y
  have hSf := S.2.2.2.2.2.2.2.2.2.2
  subst hnm
  have y1 := Y.2.2.2.1
  have y2 := Y.2.2.2.2
  refine vx_throwSW (A := AA X) S.1 S.2.1 S.2.2.2.2.2.2.2.2.1 S.2.2.2.2.1 hcls hn (S.2.2.2.2.2.1 _ hk) (S.2.2.2.2.2.1 _ hini) (S.2.2.2.2.2.2.2.2.2.1.2.2.1 i _ hi) (fun w hw => S.2.2.2.2.2.1 w (hat w hw)) (fun w hw => ?_) S.2.2.2.2.2.2.2.2.2.1.2.2.2.1.1 S.2.2.2.2.2.2.2.2.2.1.2.2.2.1.2.1 Y.2.1 (Y.2.2.1.1.trans S.2.2.1.symm) d0 d3 d4 d7 d10 (fun x hx => absurd hx (S.2.2.2.2.2.2.2.1 x)) (by show 2 + 3 < R.frames; omega) (by show 0 + (13 * (2 + 1) + 43) ≤ R.locals; omega) (by omega) (by omega) S.2.2.2.2.2.2.1 (fun t hA hz hs => ⟨⟨h, hq, ?_⟩, ?_⟩) Y.2.1.2.2 (by omega) (by omega)
  · have h9 : w ∈ TT := by
      rcases List.mem_cons.mp hw with rfl | hw
      · exact hk
      · rcases List.mem_cons.mp hw with rfl | hw
        · exact hini
        · exact hat w hw
    unfold vx_ot
    rw [tt_tab h9]
    rfl
  · exact ⟨Y.1.1.kept (fun k q hq => hs q.1 ((Y.1.1 k q hq).lt)), va_K.moved hA Y.1.2.1, Y.1.2.2⟩
  · exact ⟨Nat.le_trans Y.2.1.1 hz, fun q h1 h2 => (hs q (Nat.lt_of_lt_of_le h1 Y.2.1.1)).trans (Y.2.1.2.1 q h1 h2)⟩
/-- throw new NoSuchElementException(text): its class file links its super constructor by another index than the kit's rows know -/
theorem g_throwNS (i : Nat) {tx : String} {ik is ic : Nat} {Qr : Option Value → Hp → Prop} {Qx : String → Hp → Prop} (hi : strL[i]? = some (M.1, is, tx)) (hm : M.1 = RX8) (hic : ic = 358)
    (hk : Cond.classLink M.1 ik "java/util/NoSuchElementException" ∈ TT)
    (d0 : decode M.2.1 pc = .ok (.new ik, 3)) (d3 : decode M.2.1 (pc + 3) = .ok (.dup, 1)) (d4 : decode M.2.1 (pc + 4) = .ok (.ldc_w is, 3)) (d7 : decode M.2.1 (pc + 7) = .ok (.invokespecial ic, 3)) (d10 : decode M.2.1 (pc + 10) = .ok (.athrow, 1))
    (hfr : 6 ≤ E.1) (hlo : 82 ≤ E.2.1) (hq : Qx "java/util/NoSuchElementException" h) : G X M E (QM X E Qr Qx) (kc + 1) pc L [] h := by
  sorry
end GJ
theorem atS_173 : ∀ w ∈ vx_atS RX8 173 "java/lang/IllegalArgumentException" xnm, w ∈ TT := by
  intro w hw
  refine List.mem_filter.mpr ?_
  revert w
  decide +kernel
theorem atS_353 : ∀ w ∈ vx_atS RX8 353 "java/lang/IndexOutOfBoundsException" xnm, w ∈ TT := by
  intro w hw
  refine List.mem_filter.mpr ?_
  revert w
  decide +kernel
theorem atS_296 : ∀ w ∈ vx_atS RX8 296 "java/lang/IllegalStateException" xnm, w ∈ TT := by
  intro w hw
  refine List.mem_filter.mpr ?_
  revert w
  decide +kernel
end
section
/-! the words that the printed proofs use, by their places in lw_tbl; constants; kinds of places -/
def wl_0 : List Cond := [Cond.selects RX4 yX4_beUntold yX4_beUntold, Cond.selects RX3 yX3_clear yX3_clear, Cond.selects RX8 yX8_mostOf yX8_mostOf, Cond.selects RX2 yX2_rank yX2_rank, Cond.selects RX8 yX8_lawOf yX8_lawOf, Cond.selects RX8 yX8_lawAt yX8_lawAt, Cond.selects RX2 yX2_solveFrom yX2_solveFrom, Cond.selects RX2 yX2_weigh yX2_weigh, Cond.selects RX2 yX2_restBehind yX2_restBehind, Cond.selects RX2 yX2_shadeReaches yX2_shadeReaches, Cond.selects RX6 yX6_nextSky yX6_nextSky, Cond.selects RX8 yX8_keptAt yX8_keptAt, Cond.selects RX5 yX5_clause yX5_clause, Cond.selects RX5 yX5_clauseWord yX5_clauseWord, Cond.selects RX5 yX5_parts yX5_parts, Cond.selects RX5 yX5_sun yX5_sun, Cond.selects RX5 yX5_keeper yX5_keeper, Cond.selects RX5 yX5_traits yX5_traits, Cond.selects RX5 yX5_trait yX5_trait, Cond.selects RX5 yX5_secondBridge yX5_secondBridge, Cond.selects RX5 yX5_single yX5_single, Cond.selects RX8 yX8_needTraveller yX8_needTraveller, Cond.selects RX8 yX8_needBridge yX8_needBridge, Cond.selects RX8 yX8_bestMinute yX8_bestMinute, Cond.selects RX8 yX8_expense yX8_expense, Cond.selects RX8 yX8_needPlan yX8_needPlan, Cond.selects RX8 yX8_planFor yX8_planFor, Cond.selects RX2 yX2_forgetSums yX2_forgetSums, Cond.selects RX2 yX2_holderOf yX2_holderOf, Cond.selects RX2 yX2_coinsIn yX2_coinsIn, Cond.selects RX2 yX2_addUp yX2_addUp, Cond.selects RX2 yX2_minuteOf yX2_minuteOf, Cond.selects RX0 yX0_addLine yX0_addLine, Cond.selects RX8 yX8_reckonTakings yX8_reckonTakings, Cond.selects RX8 yX8_bestReply yX8_bestReply, Cond.selects RX8 yX8_paysLedger yX8_paysLedger, Cond.selects RX8 yX8_planDays yX8_planDays, Cond.selects RX9 yX9_bad yX9_bad, Cond.selects RX9 yX9_starts yX9_starts, Cond.selects RX9 yX9_blanks yX9_blanks]
theorem WB_0 : ∀ w ∈ wl_0, w ∈ TT := tt_ps [0, 1, 2, 3, 4, 5, 6, 7, 8, 9, 10, 11, 13, 14, 15, 16, 17, 18, 19, 20, 21, 26, 27, 28, 29, 30, 31, 32, 33, 34, 35, 36, 37, 38, 39, 40, 41, 42, 43, 44] (by decide +kernel) (by decide +kernel)
theorem w_0 : Cond.selects RX4 yX4_beUntold yX4_beUntold ∈ TT := WB_0 _ (List.mem_of_getElem? (i := 0) rfl)
theorem w_1 : Cond.selects RX3 yX3_clear yX3_clear ∈ TT := WB_0 _ (List.mem_of_getElem? (i := 1) rfl)
theorem w_2 : Cond.selects RX8 yX8_mostOf yX8_mostOf ∈ TT := WB_0 _ (List.mem_of_getElem? (i := 2) rfl)
theorem w_3 : Cond.selects RX2 yX2_rank yX2_rank ∈ TT := WB_0 _ (List.mem_of_getElem? (i := 3) rfl)
theorem w_4 : Cond.selects RX8 yX8_lawOf yX8_lawOf ∈ TT := WB_0 _ (List.mem_of_getElem? (i := 4) rfl)
theorem w_5 : Cond.selects RX8 yX8_lawAt yX8_lawAt ∈ TT := WB_0 _ (List.mem_of_getElem? (i := 5) rfl)
theorem w_6 : Cond.selects RX2 yX2_solveFrom yX2_solveFrom ∈ TT := WB_0 _ (List.mem_of_getElem? (i := 6) rfl)
theorem w_7 : Cond.selects RX2 yX2_weigh yX2_weigh ∈ TT := WB_0 _ (List.mem_of_getElem? (i := 7) rfl)
theorem w_8 : Cond.selects RX2 yX2_restBehind yX2_restBehind ∈ TT := WB_0 _ (List.mem_of_getElem? (i := 8) rfl)
theorem w_9 : Cond.selects RX2 yX2_shadeReaches yX2_shadeReaches ∈ TT := WB_0 _ (List.mem_of_getElem? (i := 9) rfl)
theorem w_10 : Cond.selects RX6 yX6_nextSky yX6_nextSky ∈ TT := WB_0 _ (List.mem_of_getElem? (i := 10) rfl)
theorem w_11 : Cond.selects RX8 yX8_keptAt yX8_keptAt ∈ TT := WB_0 _ (List.mem_of_getElem? (i := 11) rfl)
theorem w_13 : Cond.selects RX5 yX5_clause yX5_clause ∈ TT := WB_0 _ (List.mem_of_getElem? (i := 12) rfl)
theorem w_14 : Cond.selects RX5 yX5_clauseWord yX5_clauseWord ∈ TT := WB_0 _ (List.mem_of_getElem? (i := 13) rfl)
theorem w_15 : Cond.selects RX5 yX5_parts yX5_parts ∈ TT := WB_0 _ (List.mem_of_getElem? (i := 14) rfl)
theorem w_16 : Cond.selects RX5 yX5_sun yX5_sun ∈ TT := WB_0 _ (List.mem_of_getElem? (i := 15) rfl)
theorem w_17 : Cond.selects RX5 yX5_keeper yX5_keeper ∈ TT := WB_0 _ (List.mem_of_getElem? (i := 16) rfl)
theorem w_18 : Cond.selects RX5 yX5_traits yX5_traits ∈ TT := WB_0 _ (List.mem_of_getElem? (i := 17) rfl)
theorem w_19 : Cond.selects RX5 yX5_trait yX5_trait ∈ TT := WB_0 _ (List.mem_of_getElem? (i := 18) rfl)
theorem w_20 : Cond.selects RX5 yX5_secondBridge yX5_secondBridge ∈ TT := WB_0 _ (List.mem_of_getElem? (i := 19) rfl)
theorem w_21 : Cond.selects RX5 yX5_single yX5_single ∈ TT := WB_0 _ (List.mem_of_getElem? (i := 20) rfl)
theorem w_26 : Cond.selects RX8 yX8_needTraveller yX8_needTraveller ∈ TT := WB_0 _ (List.mem_of_getElem? (i := 21) rfl)
theorem w_27 : Cond.selects RX8 yX8_needBridge yX8_needBridge ∈ TT := WB_0 _ (List.mem_of_getElem? (i := 22) rfl)
theorem w_28 : Cond.selects RX8 yX8_bestMinute yX8_bestMinute ∈ TT := WB_0 _ (List.mem_of_getElem? (i := 23) rfl)
theorem w_29 : Cond.selects RX8 yX8_expense yX8_expense ∈ TT := WB_0 _ (List.mem_of_getElem? (i := 24) rfl)
theorem w_30 : Cond.selects RX8 yX8_needPlan yX8_needPlan ∈ TT := WB_0 _ (List.mem_of_getElem? (i := 25) rfl)
theorem w_31 : Cond.selects RX8 yX8_planFor yX8_planFor ∈ TT := WB_0 _ (List.mem_of_getElem? (i := 26) rfl)
theorem w_32 : Cond.selects RX2 yX2_forgetSums yX2_forgetSums ∈ TT := WB_0 _ (List.mem_of_getElem? (i := 27) rfl)
theorem w_33 : Cond.selects RX2 yX2_holderOf yX2_holderOf ∈ TT := WB_0 _ (List.mem_of_getElem? (i := 28) rfl)
theorem w_34 : Cond.selects RX2 yX2_coinsIn yX2_coinsIn ∈ TT := WB_0 _ (List.mem_of_getElem? (i := 29) rfl)
theorem w_35 : Cond.selects RX2 yX2_addUp yX2_addUp ∈ TT := WB_0 _ (List.mem_of_getElem? (i := 30) rfl)
theorem w_36 : Cond.selects RX2 yX2_minuteOf yX2_minuteOf ∈ TT := WB_0 _ (List.mem_of_getElem? (i := 31) rfl)
theorem w_37 : Cond.selects RX0 yX0_addLine yX0_addLine ∈ TT := WB_0 _ (List.mem_of_getElem? (i := 32) rfl)
theorem w_38 : Cond.selects RX8 yX8_reckonTakings yX8_reckonTakings ∈ TT := WB_0 _ (List.mem_of_getElem? (i := 33) rfl)
theorem w_39 : Cond.selects RX8 yX8_bestReply yX8_bestReply ∈ TT := WB_0 _ (List.mem_of_getElem? (i := 34) rfl)
theorem w_40 : Cond.selects RX8 yX8_paysLedger yX8_paysLedger ∈ TT := WB_0 _ (List.mem_of_getElem? (i := 35) rfl)
theorem w_41 : Cond.selects RX8 yX8_planDays yX8_planDays ∈ TT := WB_0 _ (List.mem_of_getElem? (i := 36) rfl)
theorem w_42 : Cond.selects RX9 yX9_bad yX9_bad ∈ TT := WB_0 _ (List.mem_of_getElem? (i := 37) rfl)
theorem w_43 : Cond.selects RX9 yX9_starts yX9_starts ∈ TT := WB_0 _ (List.mem_of_getElem? (i := 38) rfl)
theorem w_44 : Cond.selects RX9 yX9_blanks yX9_blanks ∈ TT := WB_0 _ (List.mem_of_getElem? (i := 39) rfl)
def wl_1 : List Cond := [Cond.selects RX9 yX9_byteAt yX9_byteAt, Cond.selects RX9 yX9_clause yX9_clause, Cond.selects RX9 yX9_kindHere yX9_kindHere, Cond.selects RX9 yX9_isWord yX9_isWord, Cond.selects RX9 yX9_wordHere yX9_wordHere, Cond.selects RX9 yX9_wrong yX9_wrong, Cond.selects RX9 yX9_skipWord yX9_skipWord, Cond.selects RX9 yX9_reads yX9_reads, Cond.selects RX9 yX9_number yX9_number, Cond.selects RX9 yX9_readsWho yX9_readsWho, Cond.selects RX9 yX9_sign yX9_sign, Cond.selects RX9 yX9_isWho yX9_isWho, Cond.selects RX9 yX9_noon yX9_noon, Cond.selects RX9 yX9_isBridge yX9_isBridge, Cond.selects RX9 yX9_altitudeOf yX9_altitudeOf, Cond.selects RX9 yX9_shadowOf yX9_shadowOf, Cond.selects RX9 yX9_coinsOf yX9_coinsOf, Cond.selects RX9 yX9_paid yX9_paid, Cond.selects RX9 yX9_comes yX9_comes, Cond.selects RX9 yX9_bestMinute yX9_bestMinute, Cond.selects RX9 yX9_canCome yX9_canCome, Cond.selects RX9 yX9_costOf yX9_costOf, Cond.selects RX9 yX9_slotsOf yX9_slotsOf, Cond.selects RX9 yX9_isPlan yX9_isPlan, Cond.selects RX9 yX9_everybody yX9_everybody, Cond.selects RX9 yX9_findPlan yX9_findPlan, Cond.selects RX9 yX9_layCoins yX9_layCoins, Cond.selects RX9 yX9_minuteOf yX9_minuteOf, Cond.selects RX9 yX9_layLeast yX9_layLeast, Cond.selects RX9 yX9_lastAt yX9_lastAt, Cond.selects RX9 yX9_leastAt yX9_leastAt, Cond.selects RX9 yX9_canHave yX9_canHave, Cond.selects RX9 yX9_isDark yX9_isDark, Cond.selects RX9 yX9_high yX9_high, Cond.selects RX9 yX9_mostOf yX9_mostOf, Cond.selects RX9 yX9_takenOf yX9_takenOf, Cond.selects RX9 yX9_answers yX9_answers, Cond.selects RX9 yX9_skyNow yX9_skyNow, Cond.selects RX9 yX9_areDays yX9_areDays, Cond.selects RX9 yX9_layPlans yX9_layPlans]
theorem WB_1 : ∀ w ∈ wl_1, w ∈ TT := tt_ps [45, 46, 47, 48, 49, 50, 51, 52, 53, 54, 55, 68, 69, 70, 71, 72, 73, 74, 75, 76, 77, 78, 79, 80, 81, 82, 83, 84, 85, 86, 87, 88, 89, 90, 91, 92, 93, 94, 95, 96] (by decide +kernel) (by decide +kernel)
theorem w_45 : Cond.selects RX9 yX9_byteAt yX9_byteAt ∈ TT := WB_1 _ (List.mem_of_getElem? (i := 0) rfl)
theorem w_46 : Cond.selects RX9 yX9_clause yX9_clause ∈ TT := WB_1 _ (List.mem_of_getElem? (i := 1) rfl)
theorem w_47 : Cond.selects RX9 yX9_kindHere yX9_kindHere ∈ TT := WB_1 _ (List.mem_of_getElem? (i := 2) rfl)
theorem w_48 : Cond.selects RX9 yX9_isWord yX9_isWord ∈ TT := WB_1 _ (List.mem_of_getElem? (i := 3) rfl)
theorem w_49 : Cond.selects RX9 yX9_wordHere yX9_wordHere ∈ TT := WB_1 _ (List.mem_of_getElem? (i := 4) rfl)
theorem w_50 : Cond.selects RX9 yX9_wrong yX9_wrong ∈ TT := WB_1 _ (List.mem_of_getElem? (i := 5) rfl)
theorem w_51 : Cond.selects RX9 yX9_skipWord yX9_skipWord ∈ TT := WB_1 _ (List.mem_of_getElem? (i := 6) rfl)
theorem w_52 : Cond.selects RX9 yX9_reads yX9_reads ∈ TT := WB_1 _ (List.mem_of_getElem? (i := 7) rfl)
theorem w_53 : Cond.selects RX9 yX9_number yX9_number ∈ TT := WB_1 _ (List.mem_of_getElem? (i := 8) rfl)
theorem w_54 : Cond.selects RX9 yX9_readsWho yX9_readsWho ∈ TT := WB_1 _ (List.mem_of_getElem? (i := 9) rfl)
theorem w_55 : Cond.selects RX9 yX9_sign yX9_sign ∈ TT := WB_1 _ (List.mem_of_getElem? (i := 10) rfl)
theorem w_68 : Cond.selects RX9 yX9_isWho yX9_isWho ∈ TT := WB_1 _ (List.mem_of_getElem? (i := 11) rfl)
theorem w_69 : Cond.selects RX9 yX9_noon yX9_noon ∈ TT := WB_1 _ (List.mem_of_getElem? (i := 12) rfl)
theorem w_70 : Cond.selects RX9 yX9_isBridge yX9_isBridge ∈ TT := WB_1 _ (List.mem_of_getElem? (i := 13) rfl)
theorem w_71 : Cond.selects RX9 yX9_altitudeOf yX9_altitudeOf ∈ TT := WB_1 _ (List.mem_of_getElem? (i := 14) rfl)
theorem w_72 : Cond.selects RX9 yX9_shadowOf yX9_shadowOf ∈ TT := WB_1 _ (List.mem_of_getElem? (i := 15) rfl)
theorem w_73 : Cond.selects RX9 yX9_coinsOf yX9_coinsOf ∈ TT := WB_1 _ (List.mem_of_getElem? (i := 16) rfl)
theorem w_74 : Cond.selects RX9 yX9_paid yX9_paid ∈ TT := WB_1 _ (List.mem_of_getElem? (i := 17) rfl)
theorem w_75 : Cond.selects RX9 yX9_comes yX9_comes ∈ TT := WB_1 _ (List.mem_of_getElem? (i := 18) rfl)
theorem w_76 : Cond.selects RX9 yX9_bestMinute yX9_bestMinute ∈ TT := WB_1 _ (List.mem_of_getElem? (i := 19) rfl)
theorem w_77 : Cond.selects RX9 yX9_canCome yX9_canCome ∈ TT := WB_1 _ (List.mem_of_getElem? (i := 20) rfl)
theorem w_78 : Cond.selects RX9 yX9_costOf yX9_costOf ∈ TT := WB_1 _ (List.mem_of_getElem? (i := 21) rfl)
theorem w_79 : Cond.selects RX9 yX9_slotsOf yX9_slotsOf ∈ TT := WB_1 _ (List.mem_of_getElem? (i := 22) rfl)
theorem w_80 : Cond.selects RX9 yX9_isPlan yX9_isPlan ∈ TT := WB_1 _ (List.mem_of_getElem? (i := 23) rfl)
theorem w_81 : Cond.selects RX9 yX9_everybody yX9_everybody ∈ TT := WB_1 _ (List.mem_of_getElem? (i := 24) rfl)
theorem w_82 : Cond.selects RX9 yX9_findPlan yX9_findPlan ∈ TT := WB_1 _ (List.mem_of_getElem? (i := 25) rfl)
theorem w_83 : Cond.selects RX9 yX9_layCoins yX9_layCoins ∈ TT := WB_1 _ (List.mem_of_getElem? (i := 26) rfl)
theorem w_84 : Cond.selects RX9 yX9_minuteOf yX9_minuteOf ∈ TT := WB_1 _ (List.mem_of_getElem? (i := 27) rfl)
theorem w_85 : Cond.selects RX9 yX9_layLeast yX9_layLeast ∈ TT := WB_1 _ (List.mem_of_getElem? (i := 28) rfl)
theorem w_86 : Cond.selects RX9 yX9_lastAt yX9_lastAt ∈ TT := WB_1 _ (List.mem_of_getElem? (i := 29) rfl)
theorem w_87 : Cond.selects RX9 yX9_leastAt yX9_leastAt ∈ TT := WB_1 _ (List.mem_of_getElem? (i := 30) rfl)
theorem w_88 : Cond.selects RX9 yX9_canHave yX9_canHave ∈ TT := WB_1 _ (List.mem_of_getElem? (i := 31) rfl)
theorem w_89 : Cond.selects RX9 yX9_isDark yX9_isDark ∈ TT := WB_1 _ (List.mem_of_getElem? (i := 32) rfl)
theorem w_90 : Cond.selects RX9 yX9_high yX9_high ∈ TT := WB_1 _ (List.mem_of_getElem? (i := 33) rfl)
theorem w_91 : Cond.selects RX9 yX9_mostOf yX9_mostOf ∈ TT := WB_1 _ (List.mem_of_getElem? (i := 34) rfl)
theorem w_92 : Cond.selects RX9 yX9_takenOf yX9_takenOf ∈ TT := WB_1 _ (List.mem_of_getElem? (i := 35) rfl)
theorem w_93 : Cond.selects RX9 yX9_answers yX9_answers ∈ TT := WB_1 _ (List.mem_of_getElem? (i := 36) rfl)
theorem w_94 : Cond.selects RX9 yX9_skyNow yX9_skyNow ∈ TT := WB_1 _ (List.mem_of_getElem? (i := 37) rfl)
theorem w_95 : Cond.selects RX9 yX9_areDays yX9_areDays ∈ TT := WB_1 _ (List.mem_of_getElem? (i := 38) rfl)
theorem w_96 : Cond.selects RX9 yX9_layPlans yX9_layPlans ∈ TT := WB_1 _ (List.mem_of_getElem? (i := 39) rfl)
def wl_2 : List Cond := [Cond.selects RX9 yX9_seasonOf yX9_seasonOf, Cond.selects RX9 yX9_movesAll yX9_movesAll, Cond.selects RX9 yX9_moves yX9_moves, Cond.initialized RX8, Cond.initialized RX7, Cond.initialized RX4, Cond.initialized RX0, Cond.initialized RX5, Cond.initialized RX2, Cond.initialized RX6, Cond.initialized RX3, Cond.initialized RX9, Cond.initialized "java/lang/IllegalArgumentException", Cond.initialized "java/lang/IndexOutOfBoundsException", Cond.initialized RJ6, Cond.initialized "java/lang/IllegalStateException", Cond.fieldLink RX7 9 RX7 "bytes" "[I", Cond.fieldLink RX7 19 RX7 "fed" "I", Cond.fieldLinkNest RX8 102 RX7 "fed" "I" RX8, Cond.fieldLink RX7 26 RX7 "end" "I", Cond.fieldLink RX7 29 RX7 "spot" "I", Cond.fieldLinkNest RX8 117 RX7 "fault" "I" RX8, Cond.fieldLink RX7 32 RX7 "fault" "I", Cond.fieldLink RX7 15 RX7 "place" "I", Cond.fieldLinkNest RX8 141 RX7 "place" "I" RX8, Cond.instanceMethod yX4_beUntold, Cond.code yX4_beUntold cX4_beUntold 1 none, Cond.methodLinkNest RX4 27 yX8_fillRow RX8, Cond.static yX8_fillRow, Cond.code yX8_fillRow cX8_fillRow 3 none, Cond.fieldLink RX4 9 RX4 "suns" "[I", Cond.fieldLinkNest RX5 132 RX4 "suns" "[I" RX8, Cond.fieldLink RX4 15 RX4 "noons" "[I", Cond.fieldLinkNest RX8 186 RX4 "noons" "[I" RX8, Cond.fieldLink RX4 18 RX4 "feasts" "[I", Cond.fieldLinkNest RX5 119 RX4 "feasts" "[I" RX8, Cond.fieldLinkNest RX8 193 RX4 "feasts" "[I" RX8, Cond.fieldLink RX4 21 RX4 "people" "[I", Cond.fieldLink RX4 31 RX4 "travellers" "I", Cond.fieldLinkNest RX5 48 RX4 "travellers" "I" RX8]
theorem WB_2 : ∀ w ∈ wl_2, w ∈ TT := tt_ps [97, 98, 99, 101, 102, 103, 104, 105, 107, 108, 109, 110, 114, 120, 122, 123, 138, 139, 140, 141, 142, 143, 144, 145, 146, 169, 170, 171, 172, 173, 174, 175, 176, 177, 178, 179, 180, 181, 182, 183] (by decide +kernel) (by decide +kernel)
theorem w_97 : Cond.selects RX9 yX9_seasonOf yX9_seasonOf ∈ TT := WB_2 _ (List.mem_of_getElem? (i := 0) rfl)
theorem w_98 : Cond.selects RX9 yX9_movesAll yX9_movesAll ∈ TT := WB_2 _ (List.mem_of_getElem? (i := 1) rfl)
theorem w_99 : Cond.selects RX9 yX9_moves yX9_moves ∈ TT := WB_2 _ (List.mem_of_getElem? (i := 2) rfl)
theorem w_101 : Cond.initialized RX8 ∈ TT := WB_2 _ (List.mem_of_getElem? (i := 3) rfl)
theorem w_102 : Cond.initialized RX7 ∈ TT := WB_2 _ (List.mem_of_getElem? (i := 4) rfl)
theorem w_103 : Cond.initialized RX4 ∈ TT := WB_2 _ (List.mem_of_getElem? (i := 5) rfl)
theorem w_104 : Cond.initialized RX0 ∈ TT := WB_2 _ (List.mem_of_getElem? (i := 6) rfl)
theorem w_105 : Cond.initialized RX5 ∈ TT := WB_2 _ (List.mem_of_getElem? (i := 7) rfl)
theorem w_107 : Cond.initialized RX2 ∈ TT := WB_2 _ (List.mem_of_getElem? (i := 8) rfl)
theorem w_108 : Cond.initialized RX6 ∈ TT := WB_2 _ (List.mem_of_getElem? (i := 9) rfl)
theorem w_109 : Cond.initialized RX3 ∈ TT := WB_2 _ (List.mem_of_getElem? (i := 10) rfl)
theorem w_110 : Cond.initialized RX9 ∈ TT := WB_2 _ (List.mem_of_getElem? (i := 11) rfl)
theorem w_114 : Cond.initialized "java/lang/IllegalArgumentException" ∈ TT := WB_2 _ (List.mem_of_getElem? (i := 12) rfl)
theorem w_120 : Cond.initialized "java/lang/IndexOutOfBoundsException" ∈ TT := WB_2 _ (List.mem_of_getElem? (i := 13) rfl)
theorem w_122 : Cond.initialized RJ6 ∈ TT := WB_2 _ (List.mem_of_getElem? (i := 14) rfl)
theorem w_123 : Cond.initialized "java/lang/IllegalStateException" ∈ TT := WB_2 _ (List.mem_of_getElem? (i := 15) rfl)
theorem w_138 : Cond.fieldLink RX7 9 RX7 "bytes" "[I" ∈ TT := WB_2 _ (List.mem_of_getElem? (i := 16) rfl)
theorem w_139 : Cond.fieldLink RX7 19 RX7 "fed" "I" ∈ TT := WB_2 _ (List.mem_of_getElem? (i := 17) rfl)
theorem w_140 : Cond.fieldLinkNest RX8 102 RX7 "fed" "I" RX8 ∈ TT := WB_2 _ (List.mem_of_getElem? (i := 18) rfl)
theorem w_141 : Cond.fieldLink RX7 26 RX7 "end" "I" ∈ TT := WB_2 _ (List.mem_of_getElem? (i := 19) rfl)
theorem w_142 : Cond.fieldLink RX7 29 RX7 "spot" "I" ∈ TT := WB_2 _ (List.mem_of_getElem? (i := 20) rfl)
theorem w_143 : Cond.fieldLinkNest RX8 117 RX7 "fault" "I" RX8 ∈ TT := WB_2 _ (List.mem_of_getElem? (i := 21) rfl)
theorem w_144 : Cond.fieldLink RX7 32 RX7 "fault" "I" ∈ TT := WB_2 _ (List.mem_of_getElem? (i := 22) rfl)
theorem w_145 : Cond.fieldLink RX7 15 RX7 "place" "I" ∈ TT := WB_2 _ (List.mem_of_getElem? (i := 23) rfl)
theorem w_146 : Cond.fieldLinkNest RX8 141 RX7 "place" "I" RX8 ∈ TT := WB_2 _ (List.mem_of_getElem? (i := 24) rfl)
theorem w_169 : Cond.instanceMethod yX4_beUntold ∈ TT := WB_2 _ (List.mem_of_getElem? (i := 25) rfl)
theorem w_170 : Cond.code yX4_beUntold cX4_beUntold 1 none ∈ TT := WB_2 _ (List.mem_of_getElem? (i := 26) rfl)
theorem w_171 : Cond.methodLinkNest RX4 27 yX8_fillRow RX8 ∈ TT := WB_2 _ (List.mem_of_getElem? (i := 27) rfl)
theorem w_172 : Cond.static yX8_fillRow ∈ TT := WB_2 _ (List.mem_of_getElem? (i := 28) rfl)
theorem w_173 : Cond.code yX8_fillRow cX8_fillRow 3 none ∈ TT := WB_2 _ (List.mem_of_getElem? (i := 29) rfl)
theorem w_174 : Cond.fieldLink RX4 9 RX4 "suns" "[I" ∈ TT := WB_2 _ (List.mem_of_getElem? (i := 30) rfl)
theorem w_175 : Cond.fieldLinkNest RX5 132 RX4 "suns" "[I" RX8 ∈ TT := WB_2 _ (List.mem_of_getElem? (i := 31) rfl)
theorem w_176 : Cond.fieldLink RX4 15 RX4 "noons" "[I" ∈ TT := WB_2 _ (List.mem_of_getElem? (i := 32) rfl)
theorem w_177 : Cond.fieldLinkNest RX8 186 RX4 "noons" "[I" RX8 ∈ TT := WB_2 _ (List.mem_of_getElem? (i := 33) rfl)
theorem w_178 : Cond.fieldLink RX4 18 RX4 "feasts" "[I" ∈ TT := WB_2 _ (List.mem_of_getElem? (i := 34) rfl)
theorem w_179 : Cond.fieldLinkNest RX5 119 RX4 "feasts" "[I" RX8 ∈ TT := WB_2 _ (List.mem_of_getElem? (i := 35) rfl)
theorem w_180 : Cond.fieldLinkNest RX8 193 RX4 "feasts" "[I" RX8 ∈ TT := WB_2 _ (List.mem_of_getElem? (i := 36) rfl)
theorem w_181 : Cond.fieldLink RX4 21 RX4 "people" "[I" ∈ TT := WB_2 _ (List.mem_of_getElem? (i := 37) rfl)
theorem w_182 : Cond.fieldLink RX4 31 RX4 "travellers" "I" ∈ TT := WB_2 _ (List.mem_of_getElem? (i := 38) rfl)
theorem w_183 : Cond.fieldLinkNest RX5 48 RX4 "travellers" "I" RX8 ∈ TT := WB_2 _ (List.mem_of_getElem? (i := 39) rfl)
def wl_3 : List Cond := [Cond.fieldLinkNest RX8 129 RX4 "travellers" "I" RX8, Cond.fieldLink RX4 35 RX4 "falls" "I", Cond.fieldLinkNest RX8 144 RX4 "falls" "I" RX8, Cond.fieldLinkNest RX5 115 RX4 "falls" "I" RX8, Cond.fieldLink RX4 38 RX4 "opens" "I", Cond.fieldLinkNest RX8 147 RX4 "opens" "I" RX8, Cond.fieldLinkNest RX5 135 RX4 "opens" "I" RX8, Cond.fieldLink RX4 41 RX4 "closes" "I", Cond.fieldLinkNest RX8 150 RX4 "closes" "I" RX8, Cond.fieldLinkNest RX5 138 RX4 "closes" "I" RX8, Cond.fieldLink RX4 44 RX4 "takes" "I", Cond.fieldLinkNest RX8 153 RX4 "takes" "I" RX8, Cond.fieldLinkNest RX5 117 RX4 "takes" "I" RX8, Cond.fieldLink RX4 47 RX4 "clouds" "I", Cond.fieldLinkNest RX6 38 RX4 "clouds" "I" RX8, Cond.fieldLinkNest RX8 156 RX4 "clouds" "I" RX8, Cond.fieldLinkNest RX5 127 RX4 "clouds" "I" RX8, Cond.fieldLink RX4 50 RX4 "lamp" "I", Cond.fieldLinkNest RX8 159 RX4 "lamp" "I" RX8, Cond.fieldLinkNest RX5 130 RX4 "lamp" "I" RX8, Cond.fieldLink RX4 53 RX4 "early" "I", Cond.fieldLinkNest RX5 145 RX4 "early" "I" RX8, Cond.fieldLink RX4 56 RX4 "way" "I", Cond.fieldLinkNest RX5 148 RX4 "way" "I" RX8, Cond.fieldLink RX4 59 RX4 "shades" "Z", Cond.fieldLinkNest RX5 100 RX4 "shades" "Z" RX8, Cond.fieldLinkNest RX8 162 RX4 "shades" "Z" RX8, Cond.fieldLinkNest RX2 134 RX4 "shades" "Z" RX8, Cond.fieldLink RX4 63 RX4 "second" "Z", Cond.fieldLinkNest RX8 166 RX4 "second" "Z" RX8, Cond.fieldLinkNest RX5 151 RX4 "second" "Z" RX8, Cond.fieldLink RX0 9 RX0 "steps" "[I", Cond.fieldLink RX0 15 RX0 "facts" "[I", Cond.fieldLink RX0 18 RX0 "stack" "[I", Cond.fieldLink RX0 21 RX0 "length" "I", Cond.fieldLink RX5 9 RX5 "text" "LShadowTolls$Text;", Cond.fieldLink RX5 15 RX5 "road" "LShadowTolls$Road;", Cond.fieldLink RX2 52 RX2 "road" "LShadowTolls$Road;", Cond.fieldLink RX2 9 RX2 "comers" "[I", Cond.fieldLink RX2 15 RX2 "clear" "[I"]
theorem WB_3 : ∀ w ∈ wl_3, w ∈ TT := tt_ps [184, 185, 186, 187, 188, 189, 190, 191, 192, 193, 194, 195, 196, 197, 198, 199, 200, 201, 202, 203, 204, 205, 206, 207, 208, 209, 210, 211, 212, 213, 214, 253, 254, 255, 256, 272, 273, 299, 300, 301] (by decide +kernel) (by decide +kernel)
theorem w_184 : Cond.fieldLinkNest RX8 129 RX4 "travellers" "I" RX8 ∈ TT := WB_3 _ (List.mem_of_getElem? (i := 0) rfl)
theorem w_185 : Cond.fieldLink RX4 35 RX4 "falls" "I" ∈ TT := WB_3 _ (List.mem_of_getElem? (i := 1) rfl)
theorem w_186 : Cond.fieldLinkNest RX8 144 RX4 "falls" "I" RX8 ∈ TT := WB_3 _ (List.mem_of_getElem? (i := 2) rfl)
theorem w_187 : Cond.fieldLinkNest RX5 115 RX4 "falls" "I" RX8 ∈ TT := WB_3 _ (List.mem_of_getElem? (i := 3) rfl)
theorem w_188 : Cond.fieldLink RX4 38 RX4 "opens" "I" ∈ TT := WB_3 _ (List.mem_of_getElem? (i := 4) rfl)
theorem w_189 : Cond.fieldLinkNest RX8 147 RX4 "opens" "I" RX8 ∈ TT := WB_3 _ (List.mem_of_getElem? (i := 5) rfl)
theorem w_190 : Cond.fieldLinkNest RX5 135 RX4 "opens" "I" RX8 ∈ TT := WB_3 _ (List.mem_of_getElem? (i := 6) rfl)
theorem w_191 : Cond.fieldLink RX4 41 RX4 "closes" "I" ∈ TT := WB_3 _ (List.mem_of_getElem? (i := 7) rfl)
theorem w_192 : Cond.fieldLinkNest RX8 150 RX4 "closes" "I" RX8 ∈ TT := WB_3 _ (List.mem_of_getElem? (i := 8) rfl)
theorem w_193 : Cond.fieldLinkNest RX5 138 RX4 "closes" "I" RX8 ∈ TT := WB_3 _ (List.mem_of_getElem? (i := 9) rfl)
theorem w_194 : Cond.fieldLink RX4 44 RX4 "takes" "I" ∈ TT := WB_3 _ (List.mem_of_getElem? (i := 10) rfl)
theorem w_195 : Cond.fieldLinkNest RX8 153 RX4 "takes" "I" RX8 ∈ TT := WB_3 _ (List.mem_of_getElem? (i := 11) rfl)
theorem w_196 : Cond.fieldLinkNest RX5 117 RX4 "takes" "I" RX8 ∈ TT := WB_3 _ (List.mem_of_getElem? (i := 12) rfl)
theorem w_197 : Cond.fieldLink RX4 47 RX4 "clouds" "I" ∈ TT := WB_3 _ (List.mem_of_getElem? (i := 13) rfl)
theorem w_198 : Cond.fieldLinkNest RX6 38 RX4 "clouds" "I" RX8 ∈ TT := WB_3 _ (List.mem_of_getElem? (i := 14) rfl)
theorem w_199 : Cond.fieldLinkNest RX8 156 RX4 "clouds" "I" RX8 ∈ TT := WB_3 _ (List.mem_of_getElem? (i := 15) rfl)
theorem w_200 : Cond.fieldLinkNest RX5 127 RX4 "clouds" "I" RX8 ∈ TT := WB_3 _ (List.mem_of_getElem? (i := 16) rfl)
theorem w_201 : Cond.fieldLink RX4 50 RX4 "lamp" "I" ∈ TT := WB_3 _ (List.mem_of_getElem? (i := 17) rfl)
theorem w_202 : Cond.fieldLinkNest RX8 159 RX4 "lamp" "I" RX8 ∈ TT := WB_3 _ (List.mem_of_getElem? (i := 18) rfl)
theorem w_203 : Cond.fieldLinkNest RX5 130 RX4 "lamp" "I" RX8 ∈ TT := WB_3 _ (List.mem_of_getElem? (i := 19) rfl)
theorem w_204 : Cond.fieldLink RX4 53 RX4 "early" "I" ∈ TT := WB_3 _ (List.mem_of_getElem? (i := 20) rfl)
theorem w_205 : Cond.fieldLinkNest RX5 145 RX4 "early" "I" RX8 ∈ TT := WB_3 _ (List.mem_of_getElem? (i := 21) rfl)
theorem w_206 : Cond.fieldLink RX4 56 RX4 "way" "I" ∈ TT := WB_3 _ (List.mem_of_getElem? (i := 22) rfl)
theorem w_207 : Cond.fieldLinkNest RX5 148 RX4 "way" "I" RX8 ∈ TT := WB_3 _ (List.mem_of_getElem? (i := 23) rfl)
theorem w_208 : Cond.fieldLink RX4 59 RX4 "shades" "Z" ∈ TT := WB_3 _ (List.mem_of_getElem? (i := 24) rfl)
theorem w_209 : Cond.fieldLinkNest RX5 100 RX4 "shades" "Z" RX8 ∈ TT := WB_3 _ (List.mem_of_getElem? (i := 25) rfl)
theorem w_210 : Cond.fieldLinkNest RX8 162 RX4 "shades" "Z" RX8 ∈ TT := WB_3 _ (List.mem_of_getElem? (i := 26) rfl)
theorem w_211 : Cond.fieldLinkNest RX2 134 RX4 "shades" "Z" RX8 ∈ TT := WB_3 _ (List.mem_of_getElem? (i := 27) rfl)
theorem w_212 : Cond.fieldLink RX4 63 RX4 "second" "Z" ∈ TT := WB_3 _ (List.mem_of_getElem? (i := 28) rfl)
theorem w_213 : Cond.fieldLinkNest RX8 166 RX4 "second" "Z" RX8 ∈ TT := WB_3 _ (List.mem_of_getElem? (i := 29) rfl)
theorem w_214 : Cond.fieldLinkNest RX5 151 RX4 "second" "Z" RX8 ∈ TT := WB_3 _ (List.mem_of_getElem? (i := 30) rfl)
theorem w_253 : Cond.fieldLink RX0 9 RX0 "steps" "[I" ∈ TT := WB_3 _ (List.mem_of_getElem? (i := 31) rfl)
theorem w_254 : Cond.fieldLink RX0 15 RX0 "facts" "[I" ∈ TT := WB_3 _ (List.mem_of_getElem? (i := 32) rfl)
theorem w_255 : Cond.fieldLink RX0 18 RX0 "stack" "[I" ∈ TT := WB_3 _ (List.mem_of_getElem? (i := 33) rfl)
theorem w_256 : Cond.fieldLink RX0 21 RX0 "length" "I" ∈ TT := WB_3 _ (List.mem_of_getElem? (i := 34) rfl)
theorem w_272 : Cond.fieldLink RX5 9 RX5 "text" "LShadowTolls$Text;" ∈ TT := WB_3 _ (List.mem_of_getElem? (i := 35) rfl)
theorem w_273 : Cond.fieldLink RX5 15 RX5 "road" "LShadowTolls$Road;" ∈ TT := WB_3 _ (List.mem_of_getElem? (i := 36) rfl)
theorem w_299 : Cond.fieldLink RX2 52 RX2 "road" "LShadowTolls$Road;" ∈ TT := WB_3 _ (List.mem_of_getElem? (i := 37) rfl)
theorem w_300 : Cond.fieldLink RX2 9 RX2 "comers" "[I" ∈ TT := WB_3 _ (List.mem_of_getElem? (i := 38) rfl)
theorem w_301 : Cond.fieldLink RX2 15 RX2 "clear" "[I" ∈ TT := WB_3 _ (List.mem_of_getElem? (i := 39) rfl)
def wl_4 : List Cond := [Cond.fieldLink RX2 18 RX2 "dark" "[I", Cond.fieldLinkNest RX6 63 RX2 "dark" "[I" RX8, Cond.fieldLink RX2 21 RX2 "extras" "[I", Cond.fieldLink RX2 25 RX2 "least" "[I", Cond.fieldLink RX2 28 RX2 "holders" "[I", Cond.fieldLink RX2 31 RX2 "paid" "[I", Cond.fieldLinkNest RX6 56 RX2 "paid" "[I" RX8, Cond.fieldLink RX2 34 RX2 "earned" "[I", Cond.fieldLink RX2 37 RX2 "order" "[I", Cond.fieldLink RX2 40 RX2 "lower" "[I", Cond.fieldLink RX2 43 RX2 "rests" "[I", Cond.fieldLink RX2 46 RX2 "lowers" "[I", Cond.fieldLink RX2 49 RX2 "tallers" "[I", Cond.fieldLink RX2 56 RX2 "bits" "I", Cond.fieldLink RX2 66 RX2 "each" "I", Cond.fieldLink RX2 69 RX2 "all" "I", Cond.fieldLink RX2 150 RX2 "leftOut" "I", Cond.fieldLinkNest RX8 239 RX2 "leftOut" "I" RX8, Cond.fieldLink RX2 153 RX2 "costs" "I", Cond.fieldLinkNest RX8 242 RX2 "costs" "I" RX8, Cond.fieldLink RX2 160 RX2 "jam" "I", Cond.fieldLinkNest RX8 249 RX2 "jam" "I" RX8, Cond.fieldLink RX6 21 RX6 "road" "LShadowTolls$Road;", Cond.fieldLink RX6 25 RX6 "planner" "LShadowTolls$Planner;", Cond.fieldLink RX6 9 RX6 "hours" "[I", Cond.fieldLink RX6 15 RX6 "clear" "[I", Cond.fieldLink RX6 18 RX6 "clouded" "[I", Cond.fieldLink RX6 29 RX6 "seed" "I", Cond.instanceMethod yX3_clear, Cond.code yX3_clear cX3_clear 1 none, Cond.methodLinkNest RX3 33 yX8_fillRow RX8, Cond.fieldLink RX3 9 RX3 "tollOf" "[I", Cond.fieldLinkNest RX8 209 RX3 "tollOf" "[I" RX8, Cond.fieldLink RX3 15 RX3 "crossDays" "[I", Cond.fieldLink RX3 18 RX3 "crossCoins" "[I", Cond.fieldLinkNest RX8 276 RX3 "crossCoins" "[I" RX8, Cond.fieldLink RX3 21 RX3 "written" "[I", Cond.fieldLinkNest RX8 283 RX3 "written" "[I" RX8, Cond.fieldLink RX3 24 RX3 "ledgerMinutes" "[I", Cond.fieldLinkNest RX8 390 RX3 "ledgerMinutes" "[I" RX8]
theorem WB_4 : ∀ w ∈ wl_4, w ∈ TT := tt_ps [302, 303, 304, 305, 306, 307, 308, 309, 310, 311, 312, 313, 314, 315, 316, 317, 318, 319, 320, 321, 322, 323, 371, 372, 373, 374, 375, 376, 398, 399, 400, 401, 402, 403, 404, 405, 406, 407, 408, 409] (by decide +kernel) (by decide +kernel)
theorem w_302 : Cond.fieldLink RX2 18 RX2 "dark" "[I" ∈ TT := WB_4 _ (List.mem_of_getElem? (i := 0) rfl)
theorem w_303 : Cond.fieldLinkNest RX6 63 RX2 "dark" "[I" RX8 ∈ TT := WB_4 _ (List.mem_of_getElem? (i := 1) rfl)
theorem w_304 : Cond.fieldLink RX2 21 RX2 "extras" "[I" ∈ TT := WB_4 _ (List.mem_of_getElem? (i := 2) rfl)
theorem w_305 : Cond.fieldLink RX2 25 RX2 "least" "[I" ∈ TT := WB_4 _ (List.mem_of_getElem? (i := 3) rfl)
theorem w_306 : Cond.fieldLink RX2 28 RX2 "holders" "[I" ∈ TT := WB_4 _ (List.mem_of_getElem? (i := 4) rfl)
theorem w_307 : Cond.fieldLink RX2 31 RX2 "paid" "[I" ∈ TT := WB_4 _ (List.mem_of_getElem? (i := 5) rfl)
theorem w_308 : Cond.fieldLinkNest RX6 56 RX2 "paid" "[I" RX8 ∈ TT := WB_4 _ (List.mem_of_getElem? (i := 6) rfl)
theorem w_309 : Cond.fieldLink RX2 34 RX2 "earned" "[I" ∈ TT := WB_4 _ (List.mem_of_getElem? (i := 7) rfl)
theorem w_310 : Cond.fieldLink RX2 37 RX2 "order" "[I" ∈ TT := WB_4 _ (List.mem_of_getElem? (i := 8) rfl)
theorem w_311 : Cond.fieldLink RX2 40 RX2 "lower" "[I" ∈ TT := WB_4 _ (List.mem_of_getElem? (i := 9) rfl)
theorem w_312 : Cond.fieldLink RX2 43 RX2 "rests" "[I" ∈ TT := WB_4 _ (List.mem_of_getElem? (i := 10) rfl)
theorem w_313 : Cond.fieldLink RX2 46 RX2 "lowers" "[I" ∈ TT := WB_4 _ (List.mem_of_getElem? (i := 11) rfl)
theorem w_314 : Cond.fieldLink RX2 49 RX2 "tallers" "[I" ∈ TT := WB_4 _ (List.mem_of_getElem? (i := 12) rfl)
theorem w_315 : Cond.fieldLink RX2 56 RX2 "bits" "I" ∈ TT := WB_4 _ (List.mem_of_getElem? (i := 13) rfl)
theorem w_316 : Cond.fieldLink RX2 66 RX2 "each" "I" ∈ TT := WB_4 _ (List.mem_of_getElem? (i := 14) rfl)
theorem w_317 : Cond.fieldLink RX2 69 RX2 "all" "I" ∈ TT := WB_4 _ (List.mem_of_getElem? (i := 15) rfl)
theorem w_318 : Cond.fieldLink RX2 150 RX2 "leftOut" "I" ∈ TT := WB_4 _ (List.mem_of_getElem? (i := 16) rfl)
theorem w_319 : Cond.fieldLinkNest RX8 239 RX2 "leftOut" "I" RX8 ∈ TT := WB_4 _ (List.mem_of_getElem? (i := 17) rfl)
theorem w_320 : Cond.fieldLink RX2 153 RX2 "costs" "I" ∈ TT := WB_4 _ (List.mem_of_getElem? (i := 18) rfl)
theorem w_321 : Cond.fieldLinkNest RX8 242 RX2 "costs" "I" RX8 ∈ TT := WB_4 _ (List.mem_of_getElem? (i := 19) rfl)
theorem w_322 : Cond.fieldLink RX2 160 RX2 "jam" "I" ∈ TT := WB_4 _ (List.mem_of_getElem? (i := 20) rfl)
theorem w_323 : Cond.fieldLinkNest RX8 249 RX2 "jam" "I" RX8 ∈ TT := WB_4 _ (List.mem_of_getElem? (i := 21) rfl)
theorem w_371 : Cond.fieldLink RX6 21 RX6 "road" "LShadowTolls$Road;" ∈ TT := WB_4 _ (List.mem_of_getElem? (i := 22) rfl)
theorem w_372 : Cond.fieldLink RX6 25 RX6 "planner" "LShadowTolls$Planner;" ∈ TT := WB_4 _ (List.mem_of_getElem? (i := 23) rfl)
theorem w_373 : Cond.fieldLink RX6 9 RX6 "hours" "[I" ∈ TT := WB_4 _ (List.mem_of_getElem? (i := 24) rfl)
theorem w_374 : Cond.fieldLink RX6 15 RX6 "clear" "[I" ∈ TT := WB_4 _ (List.mem_of_getElem? (i := 25) rfl)
theorem w_375 : Cond.fieldLink RX6 18 RX6 "clouded" "[I" ∈ TT := WB_4 _ (List.mem_of_getElem? (i := 26) rfl)
theorem w_376 : Cond.fieldLink RX6 29 RX6 "seed" "I" ∈ TT := WB_4 _ (List.mem_of_getElem? (i := 27) rfl)
theorem w_398 : Cond.instanceMethod yX3_clear ∈ TT := WB_4 _ (List.mem_of_getElem? (i := 28) rfl)
theorem w_399 : Cond.code yX3_clear cX3_clear 1 none ∈ TT := WB_4 _ (List.mem_of_getElem? (i := 29) rfl)
theorem w_400 : Cond.methodLinkNest RX3 33 yX8_fillRow RX8 ∈ TT := WB_4 _ (List.mem_of_getElem? (i := 30) rfl)
theorem w_401 : Cond.fieldLink RX3 9 RX3 "tollOf" "[I" ∈ TT := WB_4 _ (List.mem_of_getElem? (i := 31) rfl)
theorem w_402 : Cond.fieldLinkNest RX8 209 RX3 "tollOf" "[I" RX8 ∈ TT := WB_4 _ (List.mem_of_getElem? (i := 32) rfl)
theorem w_403 : Cond.fieldLink RX3 15 RX3 "crossDays" "[I" ∈ TT := WB_4 _ (List.mem_of_getElem? (i := 33) rfl)
theorem w_404 : Cond.fieldLink RX3 18 RX3 "crossCoins" "[I" ∈ TT := WB_4 _ (List.mem_of_getElem? (i := 34) rfl)
theorem w_405 : Cond.fieldLinkNest RX8 276 RX3 "crossCoins" "[I" RX8 ∈ TT := WB_4 _ (List.mem_of_getElem? (i := 35) rfl)
theorem w_406 : Cond.fieldLink RX3 21 RX3 "written" "[I" ∈ TT := WB_4 _ (List.mem_of_getElem? (i := 36) rfl)
theorem w_407 : Cond.fieldLinkNest RX8 283 RX3 "written" "[I" RX8 ∈ TT := WB_4 _ (List.mem_of_getElem? (i := 37) rfl)
theorem w_408 : Cond.fieldLink RX3 24 RX3 "ledgerMinutes" "[I" ∈ TT := WB_4 _ (List.mem_of_getElem? (i := 38) rfl)
theorem w_409 : Cond.fieldLinkNest RX8 390 RX3 "ledgerMinutes" "[I" RX8 ∈ TT := WB_4 _ (List.mem_of_getElem? (i := 39) rfl)
def wl_5 : List Cond := [Cond.fieldLink RX3 27 RX3 "ledgerCoins" "[I", Cond.fieldLinkNest RX8 397 RX3 "ledgerCoins" "[I" RX8, Cond.fieldLink RX3 37 RX3 "crossings" "I", Cond.fieldLinkNest RX8 262 RX3 "crossings" "I" RX8, Cond.fieldLink RX3 41 RX3 "ledgerRows" "I", Cond.fieldLinkNest RX8 303 RX3 "ledgerRows" "I" RX8, Cond.fieldLink RX8 10 RX8 "text" "LShadowTolls$Text;", Cond.fieldLink RX8 19 RX8 "road" "LShadowTolls$Road;", Cond.fieldLink RX8 23 RX8 "draft" "LShadowTolls$Road;", Cond.fieldLink RX8 28 RX8 "laws" "[LShadowTolls$Law;", Cond.fieldLink RX8 37 RX8 "freeLaw" "LShadowTolls$Law;", Cond.fieldLink RX8 40 RX8 "lineLaw" "LShadowTolls$Law;", Cond.fieldLink RX8 48 RX8 "roadReader" "LShadowTolls$RoadReader;", Cond.fieldLink RX8 66 RX8 "planner" "LShadowTolls$Planner;", Cond.fieldLink RX8 75 RX8 "months" "LShadowTolls$Season;", Cond.fieldLink RX8 82 RX8 "records" "LShadowTolls$Records;", Cond.fieldLink RX8 86 RX8 "kept" "[LShadowTolls$Records;", Cond.fieldLink RX8 90 RX8 "takings" "[I", Cond.fieldLink RX8 132 RX8 "tolls" "I", Cond.fieldLink RX8 126 RX8 "keptCount" "I", Cond.methodLink RX8 94 yX7_hasRoom, Cond.instanceMethod yX7_hasRoom, Cond.selects RX7 yX7_hasRoom yX7_hasRoom, Cond.code yX7_hasRoom cX7_hasRoom 2 (some .boolean), Cond.methodLink RX8 98 yX7_add, Cond.instanceMethod yX7_add, Cond.selects RX7 yX7_add yX7_add, Cond.code yX7_add cX7_add 3 none, Cond.methodLinkNest RX7 22 yX8_put RX8, Cond.static yX8_put, Cond.code yX8_put cX8_put 3 none, Cond.methodLink RX8 255 yX4_slotCount, Cond.instanceMethod yX4_slotCount, Cond.selects RX4 yX4_slotCount yX4_slotCount, Cond.code yX4_slotCount cX4_slotCount 1 (some .int), Cond.methodLink RX4 82 yJ9_min_7cf53, Cond.methodLink RX8 189 yX8_at, Cond.static yX8_at, Cond.code yX8_at cX8_at 2 (some .int), Cond.methodLink RX8 259 yX8_mostOf]
theorem WB_5 : ∀ w ∈ wl_5, w ∈ TT := tt_ps [410, 411, 412, 413, 414, 415, 434, 435, 436, 437, 439, 440, 441, 443, 444, 445, 446, 447, 448, 449, 487, 488, 489, 490, 491, 492, 493, 494, 495, 496, 497, 506, 507, 508, 509, 510, 517, 518, 519, 524] (by decide +kernel) (by decide +kernel)
theorem w_410 : Cond.fieldLink RX3 27 RX3 "ledgerCoins" "[I" ∈ TT := WB_5 _ (List.mem_of_getElem? (i := 0) rfl)
theorem w_411 : Cond.fieldLinkNest RX8 397 RX3 "ledgerCoins" "[I" RX8 ∈ TT := WB_5 _ (List.mem_of_getElem? (i := 1) rfl)
theorem w_412 : Cond.fieldLink RX3 37 RX3 "crossings" "I" ∈ TT := WB_5 _ (List.mem_of_getElem? (i := 2) rfl)
theorem w_413 : Cond.fieldLinkNest RX8 262 RX3 "crossings" "I" RX8 ∈ TT := WB_5 _ (List.mem_of_getElem? (i := 3) rfl)
theorem w_414 : Cond.fieldLink RX3 41 RX3 "ledgerRows" "I" ∈ TT := WB_5 _ (List.mem_of_getElem? (i := 4) rfl)
theorem w_415 : Cond.fieldLinkNest RX8 303 RX3 "ledgerRows" "I" RX8 ∈ TT := WB_5 _ (List.mem_of_getElem? (i := 5) rfl)
theorem w_434 : Cond.fieldLink RX8 10 RX8 "text" "LShadowTolls$Text;" ∈ TT := WB_5 _ (List.mem_of_getElem? (i := 6) rfl)
theorem w_435 : Cond.fieldLink RX8 19 RX8 "road" "LShadowTolls$Road;" ∈ TT := WB_5 _ (List.mem_of_getElem? (i := 7) rfl)
theorem w_436 : Cond.fieldLink RX8 23 RX8 "draft" "LShadowTolls$Road;" ∈ TT := WB_5 _ (List.mem_of_getElem? (i := 8) rfl)
theorem w_437 : Cond.fieldLink RX8 28 RX8 "laws" "[LShadowTolls$Law;" ∈ TT := WB_5 _ (List.mem_of_getElem? (i := 9) rfl)
theorem w_439 : Cond.fieldLink RX8 37 RX8 "freeLaw" "LShadowTolls$Law;" ∈ TT := WB_5 _ (List.mem_of_getElem? (i := 10) rfl)
theorem w_440 : Cond.fieldLink RX8 40 RX8 "lineLaw" "LShadowTolls$Law;" ∈ TT := WB_5 _ (List.mem_of_getElem? (i := 11) rfl)
theorem w_441 : Cond.fieldLink RX8 48 RX8 "roadReader" "LShadowTolls$RoadReader;" ∈ TT := WB_5 _ (List.mem_of_getElem? (i := 12) rfl)
theorem w_443 : Cond.fieldLink RX8 66 RX8 "planner" "LShadowTolls$Planner;" ∈ TT := WB_5 _ (List.mem_of_getElem? (i := 13) rfl)
theorem w_444 : Cond.fieldLink RX8 75 RX8 "months" "LShadowTolls$Season;" ∈ TT := WB_5 _ (List.mem_of_getElem? (i := 14) rfl)
theorem w_445 : Cond.fieldLink RX8 82 RX8 "records" "LShadowTolls$Records;" ∈ TT := WB_5 _ (List.mem_of_getElem? (i := 15) rfl)
theorem w_446 : Cond.fieldLink RX8 86 RX8 "kept" "[LShadowTolls$Records;" ∈ TT := WB_5 _ (List.mem_of_getElem? (i := 16) rfl)
theorem w_447 : Cond.fieldLink RX8 90 RX8 "takings" "[I" ∈ TT := WB_5 _ (List.mem_of_getElem? (i := 17) rfl)
theorem w_448 : Cond.fieldLink RX8 132 RX8 "tolls" "I" ∈ TT := WB_5 _ (List.mem_of_getElem? (i := 18) rfl)
theorem w_449 : Cond.fieldLink RX8 126 RX8 "keptCount" "I" ∈ TT := WB_5 _ (List.mem_of_getElem? (i := 19) rfl)
theorem w_487 : Cond.methodLink RX8 94 yX7_hasRoom ∈ TT := WB_5 _ (List.mem_of_getElem? (i := 20) rfl)
theorem w_488 : Cond.instanceMethod yX7_hasRoom ∈ TT := WB_5 _ (List.mem_of_getElem? (i := 21) rfl)
theorem w_489 : Cond.selects RX7 yX7_hasRoom yX7_hasRoom ∈ TT := WB_5 _ (List.mem_of_getElem? (i := 22) rfl)
theorem w_490 : Cond.code yX7_hasRoom cX7_hasRoom 2 (some .boolean) ∈ TT := WB_5 _ (List.mem_of_getElem? (i := 23) rfl)
theorem w_491 : Cond.methodLink RX8 98 yX7_add ∈ TT := WB_5 _ (List.mem_of_getElem? (i := 24) rfl)
theorem w_492 : Cond.instanceMethod yX7_add ∈ TT := WB_5 _ (List.mem_of_getElem? (i := 25) rfl)
theorem w_493 : Cond.selects RX7 yX7_add yX7_add ∈ TT := WB_5 _ (List.mem_of_getElem? (i := 26) rfl)
theorem w_494 : Cond.code yX7_add cX7_add 3 none ∈ TT := WB_5 _ (List.mem_of_getElem? (i := 27) rfl)
theorem w_495 : Cond.methodLinkNest RX7 22 yX8_put RX8 ∈ TT := WB_5 _ (List.mem_of_getElem? (i := 28) rfl)
theorem w_496 : Cond.static yX8_put ∈ TT := WB_5 _ (List.mem_of_getElem? (i := 29) rfl)
theorem w_497 : Cond.code yX8_put cX8_put 3 none ∈ TT := WB_5 _ (List.mem_of_getElem? (i := 30) rfl)
theorem w_506 : Cond.methodLink RX8 255 yX4_slotCount ∈ TT := WB_5 _ (List.mem_of_getElem? (i := 31) rfl)
theorem w_507 : Cond.instanceMethod yX4_slotCount ∈ TT := WB_5 _ (List.mem_of_getElem? (i := 32) rfl)
theorem w_508 : Cond.selects RX4 yX4_slotCount yX4_slotCount ∈ TT := WB_5 _ (List.mem_of_getElem? (i := 33) rfl)
theorem w_509 : Cond.code yX4_slotCount cX4_slotCount 1 (some .int) ∈ TT := WB_5 _ (List.mem_of_getElem? (i := 34) rfl)
theorem w_510 : Cond.methodLink RX4 82 yJ9_min_7cf53 ∈ TT := WB_5 _ (List.mem_of_getElem? (i := 35) rfl)
theorem w_517 : Cond.methodLink RX8 189 yX8_at ∈ TT := WB_5 _ (List.mem_of_getElem? (i := 36) rfl)
theorem w_518 : Cond.static yX8_at ∈ TT := WB_5 _ (List.mem_of_getElem? (i := 37) rfl)
theorem w_519 : Cond.code yX8_at cX8_at 2 (some .int) ∈ TT := WB_5 _ (List.mem_of_getElem? (i := 38) rfl)
theorem w_524 : Cond.methodLink RX8 259 yX8_mostOf ∈ TT := WB_5 _ (List.mem_of_getElem? (i := 39) rfl)
def wl_6 : List Cond := [Cond.instanceMethod yX8_mostOf, Cond.code yX8_mostOf cX8_mostOf 2 (some .int), Cond.methodLink RX8 289 yX4_everybody, Cond.instanceMethod yX4_everybody, Cond.selects RX4 yX4_everybody yX4_everybody, Cond.code yX4_everybody cX4_everybody 1 (some .int), Cond.methodLink RX8 366 yX2_begin, Cond.instanceMethod yX2_begin, Cond.selects RX2 yX2_begin yX2_begin, Cond.code yX2_begin cX2_begin 3 none, Cond.methodLink RX2 60 yX4_slotCount, Cond.methodLink RX2 72 yX2_rank, Cond.instanceMethod yX2_rank, Cond.code yX2_rank cX2_rank 5 none, Cond.methodLink RX2 75 yX4_standing, Cond.instanceMethod yX4_standing, Cond.selects RX4 yX4_standing yX4_standing, Cond.code yX4_standing cX4_standing 2 (some .int), Cond.methodLink RX4 78 yX4_trait, Cond.instanceMethod yX4_trait, Cond.selects RX4 yX4_trait yX4_trait, Cond.code yX4_trait cX4_trait 3 (some .int), Cond.methodLinkNest RX4 70 yX8_at RX8, Cond.methodLinkNest RX2 79 yX8_put RX8, Cond.methodLink RX8 216 yX8_lawOf, Cond.instanceMethod yX8_lawOf, Cond.code yX8_lawOf cX8_lawOf 2 (some (.object RX0)), Cond.methodLink RX8 309 yX8_lawAt, Cond.instanceMethod yX8_lawAt, Cond.code yX8_lawAt cX8_lawAt 3 (some (.object RX0)), Cond.methodLink RX8 370 yX2_price, Cond.instanceMethod yX2_price, Cond.selects RX2 yX2_price yX2_price, Cond.code yX2_price cX2_price 9 none, Cond.methodLink RX2 83 yX4_slotMinute, Cond.instanceMethod yX4_slotMinute, Cond.selects RX4 yX4_slotMinute yX4_slotMinute, Cond.code yX4_slotMinute cX4_slotMinute 2 (some .int), Cond.methodLink RX2 86 yX4_mayCome, Cond.instanceMethod yX4_mayCome]
theorem WB_6 : ∀ w ∈ wl_6, w ∈ TT := tt_ps [526, 527, 528, 529, 530, 531, 532, 533, 534, 535, 536, 537, 539, 540, 541, 542, 543, 544, 545, 546, 547, 548, 549, 550, 551, 553, 554, 555, 557, 558, 559, 560, 561, 562, 563, 564, 565, 566, 567, 568] (by decide +kernel) (by decide +kernel)
theorem w_526 : Cond.instanceMethod yX8_mostOf ∈ TT := WB_6 _ (List.mem_of_getElem? (i := 0) rfl)
theorem w_527 : Cond.code yX8_mostOf cX8_mostOf 2 (some .int) ∈ TT := WB_6 _ (List.mem_of_getElem? (i := 1) rfl)
theorem w_528 : Cond.methodLink RX8 289 yX4_everybody ∈ TT := WB_6 _ (List.mem_of_getElem? (i := 2) rfl)
theorem w_529 : Cond.instanceMethod yX4_everybody ∈ TT := WB_6 _ (List.mem_of_getElem? (i := 3) rfl)
theorem w_530 : Cond.selects RX4 yX4_everybody yX4_everybody ∈ TT := WB_6 _ (List.mem_of_getElem? (i := 4) rfl)
theorem w_531 : Cond.code yX4_everybody cX4_everybody 1 (some .int) ∈ TT := WB_6 _ (List.mem_of_getElem? (i := 5) rfl)
theorem w_532 : Cond.methodLink RX8 366 yX2_begin ∈ TT := WB_6 _ (List.mem_of_getElem? (i := 6) rfl)
theorem w_533 : Cond.instanceMethod yX2_begin ∈ TT := WB_6 _ (List.mem_of_getElem? (i := 7) rfl)
theorem w_534 : Cond.selects RX2 yX2_begin yX2_begin ∈ TT := WB_6 _ (List.mem_of_getElem? (i := 8) rfl)
theorem w_535 : Cond.code yX2_begin cX2_begin 3 none ∈ TT := WB_6 _ (List.mem_of_getElem? (i := 9) rfl)
theorem w_536 : Cond.methodLink RX2 60 yX4_slotCount ∈ TT := WB_6 _ (List.mem_of_getElem? (i := 10) rfl)
theorem w_537 : Cond.methodLink RX2 72 yX2_rank ∈ TT := WB_6 _ (List.mem_of_getElem? (i := 11) rfl)
theorem w_539 : Cond.instanceMethod yX2_rank ∈ TT := WB_6 _ (List.mem_of_getElem? (i := 12) rfl)
theorem w_540 : Cond.code yX2_rank cX2_rank 5 none ∈ TT := WB_6 _ (List.mem_of_getElem? (i := 13) rfl)
theorem w_541 : Cond.methodLink RX2 75 yX4_standing ∈ TT := WB_6 _ (List.mem_of_getElem? (i := 14) rfl)
theorem w_542 : Cond.instanceMethod yX4_standing ∈ TT := WB_6 _ (List.mem_of_getElem? (i := 15) rfl)
theorem w_543 : Cond.selects RX4 yX4_standing yX4_standing ∈ TT := WB_6 _ (List.mem_of_getElem? (i := 16) rfl)
theorem w_544 : Cond.code yX4_standing cX4_standing 2 (some .int) ∈ TT := WB_6 _ (List.mem_of_getElem? (i := 17) rfl)
theorem w_545 : Cond.methodLink RX4 78 yX4_trait ∈ TT := WB_6 _ (List.mem_of_getElem? (i := 18) rfl)
theorem w_546 : Cond.instanceMethod yX4_trait ∈ TT := WB_6 _ (List.mem_of_getElem? (i := 19) rfl)
theorem w_547 : Cond.selects RX4 yX4_trait yX4_trait ∈ TT := WB_6 _ (List.mem_of_getElem? (i := 20) rfl)
theorem w_548 : Cond.code yX4_trait cX4_trait 3 (some .int) ∈ TT := WB_6 _ (List.mem_of_getElem? (i := 21) rfl)
theorem w_549 : Cond.methodLinkNest RX4 70 yX8_at RX8 ∈ TT := WB_6 _ (List.mem_of_getElem? (i := 22) rfl)
theorem w_550 : Cond.methodLinkNest RX2 79 yX8_put RX8 ∈ TT := WB_6 _ (List.mem_of_getElem? (i := 23) rfl)
theorem w_551 : Cond.methodLink RX8 216 yX8_lawOf ∈ TT := WB_6 _ (List.mem_of_getElem? (i := 24) rfl)
theorem w_553 : Cond.instanceMethod yX8_lawOf ∈ TT := WB_6 _ (List.mem_of_getElem? (i := 25) rfl)
theorem w_554 : Cond.code yX8_lawOf cX8_lawOf 2 (some (.object RX0)) ∈ TT := WB_6 _ (List.mem_of_getElem? (i := 26) rfl)
theorem w_555 : Cond.methodLink RX8 309 yX8_lawAt ∈ TT := WB_6 _ (List.mem_of_getElem? (i := 27) rfl)
theorem w_557 : Cond.instanceMethod yX8_lawAt ∈ TT := WB_6 _ (List.mem_of_getElem? (i := 28) rfl)
theorem w_558 : Cond.code yX8_lawAt cX8_lawAt 3 (some (.object RX0)) ∈ TT := WB_6 _ (List.mem_of_getElem? (i := 29) rfl)
theorem w_559 : Cond.methodLink RX8 370 yX2_price ∈ TT := WB_6 _ (List.mem_of_getElem? (i := 30) rfl)
theorem w_560 : Cond.instanceMethod yX2_price ∈ TT := WB_6 _ (List.mem_of_getElem? (i := 31) rfl)
theorem w_561 : Cond.selects RX2 yX2_price yX2_price ∈ TT := WB_6 _ (List.mem_of_getElem? (i := 32) rfl)
theorem w_562 : Cond.code yX2_price cX2_price 9 none ∈ TT := WB_6 _ (List.mem_of_getElem? (i := 33) rfl)
theorem w_563 : Cond.methodLink RX2 83 yX4_slotMinute ∈ TT := WB_6 _ (List.mem_of_getElem? (i := 34) rfl)
theorem w_564 : Cond.instanceMethod yX4_slotMinute ∈ TT := WB_6 _ (List.mem_of_getElem? (i := 35) rfl)
theorem w_565 : Cond.selects RX4 yX4_slotMinute yX4_slotMinute ∈ TT := WB_6 _ (List.mem_of_getElem? (i := 36) rfl)
theorem w_566 : Cond.code yX4_slotMinute cX4_slotMinute 2 (some .int) ∈ TT := WB_6 _ (List.mem_of_getElem? (i := 37) rfl)
theorem w_567 : Cond.methodLink RX2 86 yX4_mayCome ∈ TT := WB_6 _ (List.mem_of_getElem? (i := 38) rfl)
theorem w_568 : Cond.instanceMethod yX4_mayCome ∈ TT := WB_6 _ (List.mem_of_getElem? (i := 39) rfl)
def wl_7 : List Cond := [Cond.selects RX4 yX4_mayCome yX4_mayCome, Cond.code yX4_mayCome cX4_mayCome 3 (some .boolean), Cond.methodLink RX2 90 yX4_fare, Cond.instanceMethod yX4_fare, Cond.selects RX4 yX4_fare yX4_fare, Cond.code yX4_fare cX4_fare 10 (some .int), Cond.methodLink RX4 104 yX4_altitudeAt, Cond.instanceMethod yX4_altitudeAt, Cond.selects RX4 yX4_altitudeAt yX4_altitudeAt, Cond.code yX4_altitudeAt cX4_altitudeAt 6 (some .int), Cond.methodLink RX4 87 yJ9_abs_0f7a4, Cond.methodLink RX4 108 yX4_standing, Cond.methodLink RX4 111 yX4_charge, Cond.instanceMethod yX4_charge, Cond.selects RX4 yX4_charge yX4_charge, Cond.code yX4_charge cX4_charge 7 (some .int), Cond.methodLinkNest RX4 93 yX8_shadowOf RX8, Cond.static yX8_shadowOf, Cond.code yX8_shadowOf cX8_shadowOf 2 (some .int), Cond.methodLink RX8 325 yJ9_min_7cf53, Cond.methodLink RX4 96 yX0_learn, Cond.instanceMethod yX0_learn, Cond.selects RX0 yX0_learn yX0_learn, Cond.code yX0_learn cX0_learn 3 none, Cond.methodLinkNest RX0 25 yX8_put RX8, Cond.methodLink RX4 100 yX0_sum, Cond.instanceMethod yX0_sum, Cond.selects RX0 yX0_sum yX0_sum, Cond.code yX0_sum cX0_sum 6 (some .int), Cond.methodLinkNest RX0 44 yX8_at RX8, Cond.methodLink RX0 48 yX0_joined, Cond.static yX0_joined, Cond.code yX0_joined cX0_joined 3 (some .int), Cond.constantLong RX0 52 9999, Cond.methodLink RX0 54 yJ9_min_f86c9, Cond.methodLink RX0 60 yJ9_max_f86c9, Cond.methodLink RX2 94 yX4_extra, Cond.instanceMethod yX4_extra, Cond.selects RX4 yX4_extra yX4_extra, Cond.code yX4_extra cX4_extra 4 (some .int)]
theorem WB_7 : ∀ w ∈ wl_7, w ∈ TT := tt_ps [569, 570, 571, 572, 573, 574, 575, 576, 577, 578, 579, 582, 583, 584, 585, 586, 587, 588, 589, 590, 591, 592, 593, 594, 595, 596, 597, 598, 599, 600, 601, 602, 603, 604, 605, 608, 611, 612, 613, 614] (by decide +kernel) (by decide +kernel)
theorem w_569 : Cond.selects RX4 yX4_mayCome yX4_mayCome ∈ TT := WB_7 _ (List.mem_of_getElem? (i := 0) rfl)
theorem w_570 : Cond.code yX4_mayCome cX4_mayCome 3 (some .boolean) ∈ TT := WB_7 _ (List.mem_of_getElem? (i := 1) rfl)
theorem w_571 : Cond.methodLink RX2 90 yX4_fare ∈ TT := WB_7 _ (List.mem_of_getElem? (i := 2) rfl)
theorem w_572 : Cond.instanceMethod yX4_fare ∈ TT := WB_7 _ (List.mem_of_getElem? (i := 3) rfl)
theorem w_573 : Cond.selects RX4 yX4_fare yX4_fare ∈ TT := WB_7 _ (List.mem_of_getElem? (i := 4) rfl)
theorem w_574 : Cond.code yX4_fare cX4_fare 10 (some .int) ∈ TT := WB_7 _ (List.mem_of_getElem? (i := 5) rfl)
theorem w_575 : Cond.methodLink RX4 104 yX4_altitudeAt ∈ TT := WB_7 _ (List.mem_of_getElem? (i := 6) rfl)
theorem w_576 : Cond.instanceMethod yX4_altitudeAt ∈ TT := WB_7 _ (List.mem_of_getElem? (i := 7) rfl)
theorem w_577 : Cond.selects RX4 yX4_altitudeAt yX4_altitudeAt ∈ TT := WB_7 _ (List.mem_of_getElem? (i := 8) rfl)
theorem w_578 : Cond.code yX4_altitudeAt cX4_altitudeAt 6 (some .int) ∈ TT := WB_7 _ (List.mem_of_getElem? (i := 9) rfl)
theorem w_579 : Cond.methodLink RX4 87 yJ9_abs_0f7a4 ∈ TT := WB_7 _ (List.mem_of_getElem? (i := 10) rfl)
theorem w_582 : Cond.methodLink RX4 108 yX4_standing ∈ TT := WB_7 _ (List.mem_of_getElem? (i := 11) rfl)
theorem w_583 : Cond.methodLink RX4 111 yX4_charge ∈ TT := WB_7 _ (List.mem_of_getElem? (i := 12) rfl)
theorem w_584 : Cond.instanceMethod yX4_charge ∈ TT := WB_7 _ (List.mem_of_getElem? (i := 13) rfl)
theorem w_585 : Cond.selects RX4 yX4_charge yX4_charge ∈ TT := WB_7 _ (List.mem_of_getElem? (i := 14) rfl)
theorem w_586 : Cond.code yX4_charge cX4_charge 7 (some .int) ∈ TT := WB_7 _ (List.mem_of_getElem? (i := 15) rfl)
theorem w_587 : Cond.methodLinkNest RX4 93 yX8_shadowOf RX8 ∈ TT := WB_7 _ (List.mem_of_getElem? (i := 16) rfl)
theorem w_588 : Cond.static yX8_shadowOf ∈ TT := WB_7 _ (List.mem_of_getElem? (i := 17) rfl)
theorem w_589 : Cond.code yX8_shadowOf cX8_shadowOf 2 (some .int) ∈ TT := WB_7 _ (List.mem_of_getElem? (i := 18) rfl)
theorem w_590 : Cond.methodLink RX8 325 yJ9_min_7cf53 ∈ TT := WB_7 _ (List.mem_of_getElem? (i := 19) rfl)
theorem w_591 : Cond.methodLink RX4 96 yX0_learn ∈ TT := WB_7 _ (List.mem_of_getElem? (i := 20) rfl)
theorem w_592 : Cond.instanceMethod yX0_learn ∈ TT := WB_7 _ (List.mem_of_getElem? (i := 21) rfl)
theorem w_593 : Cond.selects RX0 yX0_learn yX0_learn ∈ TT := WB_7 _ (List.mem_of_getElem? (i := 22) rfl)
theorem w_594 : Cond.code yX0_learn cX0_learn 3 none ∈ TT := WB_7 _ (List.mem_of_getElem? (i := 23) rfl)
theorem w_595 : Cond.methodLinkNest RX0 25 yX8_put RX8 ∈ TT := WB_7 _ (List.mem_of_getElem? (i := 24) rfl)
theorem w_596 : Cond.methodLink RX4 100 yX0_sum ∈ TT := WB_7 _ (List.mem_of_getElem? (i := 25) rfl)
theorem w_597 : Cond.instanceMethod yX0_sum ∈ TT := WB_7 _ (List.mem_of_getElem? (i := 26) rfl)
theorem w_598 : Cond.selects RX0 yX0_sum yX0_sum ∈ TT := WB_7 _ (List.mem_of_getElem? (i := 27) rfl)
theorem w_599 : Cond.code yX0_sum cX0_sum 6 (some .int) ∈ TT := WB_7 _ (List.mem_of_getElem? (i := 28) rfl)
theorem w_600 : Cond.methodLinkNest RX0 44 yX8_at RX8 ∈ TT := WB_7 _ (List.mem_of_getElem? (i := 29) rfl)
theorem w_601 : Cond.methodLink RX0 48 yX0_joined ∈ TT := WB_7 _ (List.mem_of_getElem? (i := 30) rfl)
theorem w_602 : Cond.static yX0_joined ∈ TT := WB_7 _ (List.mem_of_getElem? (i := 31) rfl)
theorem w_603 : Cond.code yX0_joined cX0_joined 3 (some .int) ∈ TT := WB_7 _ (List.mem_of_getElem? (i := 32) rfl)
theorem w_604 : Cond.constantLong RX0 52 9999 ∈ TT := WB_7 _ (List.mem_of_getElem? (i := 33) rfl)
theorem w_605 : Cond.methodLink RX0 54 yJ9_min_f86c9 ∈ TT := WB_7 _ (List.mem_of_getElem? (i := 34) rfl)
theorem w_608 : Cond.methodLink RX0 60 yJ9_max_f86c9 ∈ TT := WB_7 _ (List.mem_of_getElem? (i := 35) rfl)
theorem w_611 : Cond.methodLink RX2 94 yX4_extra ∈ TT := WB_7 _ (List.mem_of_getElem? (i := 36) rfl)
theorem w_612 : Cond.instanceMethod yX4_extra ∈ TT := WB_7 _ (List.mem_of_getElem? (i := 37) rfl)
theorem w_613 : Cond.selects RX4 yX4_extra yX4_extra ∈ TT := WB_7 _ (List.mem_of_getElem? (i := 38) rfl)
theorem w_614 : Cond.code yX4_extra cX4_extra 4 (some .int) ∈ TT := WB_7 _ (List.mem_of_getElem? (i := 39) rfl)
def wl_8 : List Cond := [Cond.methodLink RX8 381 yX2_greatestTaking, Cond.instanceMethod yX2_greatestTaking, Cond.selects RX2 yX2_greatestTaking yX2_greatestTaking, Cond.code yX2_greatestTaking cX2_greatestTaking 2 (some .int), Cond.methodLinkNest RX2 98 yX8_at RX8, Cond.methodLink RX2 102 yX2_solve, Cond.instanceMethod yX2_solve, Cond.selects RX2 yX2_solve yX2_solve, Cond.code yX2_solve cX2_solve 4 none, Cond.methodLink RX2 106 yX2_index, Cond.static yX2_index, Cond.code yX2_index cX2_index 3 (some .int), Cond.methodLink RX2 109 yJ6_bitCount_0f7a4, Cond.static yJ6_bitCount_0f7a4, Cond.code yJ6_bitCount_0f7a4 cJ6_bitCount_0f7a4 1 (some .int), Cond.constant RJ6 265 1431655765, Cond.constant RJ6 266 858993459, Cond.constant RJ6 267 252645135, Cond.methodLink RX2 114 yX2_solveFrom, Cond.instanceMethod yX2_solveFrom, Cond.code yX2_solveFrom cX2_solveFrom 5 none, Cond.methodLink RX2 118 yX2_weigh, Cond.instanceMethod yX2_weigh, Cond.code yX2_weigh cX2_weigh 8 none, Cond.methodLink RX2 131 yX2_restBehind, Cond.instanceMethod yX2_restBehind, Cond.code yX2_restBehind cX2_restBehind 5 (some .int), Cond.methodLink RX2 121 yX2_shadeReaches, Cond.instanceMethod yX2_shadeReaches, Cond.code yX2_shadeReaches cX2_shadeReaches 2 (some .boolean), Cond.methodLink RX2 125 yJ9_min_7cf53, Cond.methodLink RX8 316 yX6_skyOf, Cond.instanceMethod yX6_skyOf, Cond.selects RX6 yX6_skyOf yX6_skyOf, Cond.code yX6_skyOf cX6_skyOf 2 (some .int), Cond.methodLink RX6 33 yX6_nextSky, Cond.instanceMethod yX6_nextSky, Cond.code yX6_nextSky cX6_nextSky 3 (some .int), Cond.constant RX6 37 1103515245, Cond.methodLink RX8 333 yX8_keptAt]
theorem WB_8 : ∀ w ∈ wl_8, w ∈ TT := tt_ps [615, 616, 617, 618, 619, 620, 621, 622, 623, 624, 625, 626, 627, 628, 629, 630, 631, 632, 633, 635, 636, 637, 639, 640, 641, 643, 644, 645, 647, 648, 649, 658, 659, 660, 661, 662, 664, 665, 666, 671] (by decide +kernel) (by decide +kernel)
theorem w_615 : Cond.methodLink RX8 381 yX2_greatestTaking ∈ TT := WB_8 _ (List.mem_of_getElem? (i := 0) rfl)
theorem w_616 : Cond.instanceMethod yX2_greatestTaking ∈ TT := WB_8 _ (List.mem_of_getElem? (i := 1) rfl)
theorem w_617 : Cond.selects RX2 yX2_greatestTaking yX2_greatestTaking ∈ TT := WB_8 _ (List.mem_of_getElem? (i := 2) rfl)
theorem w_618 : Cond.code yX2_greatestTaking cX2_greatestTaking 2 (some .int) ∈ TT := WB_8 _ (List.mem_of_getElem? (i := 3) rfl)
theorem w_619 : Cond.methodLinkNest RX2 98 yX8_at RX8 ∈ TT := WB_8 _ (List.mem_of_getElem? (i := 4) rfl)
theorem w_620 : Cond.methodLink RX2 102 yX2_solve ∈ TT := WB_8 _ (List.mem_of_getElem? (i := 5) rfl)
theorem w_621 : Cond.instanceMethod yX2_solve ∈ TT := WB_8 _ (List.mem_of_getElem? (i := 6) rfl)
theorem w_622 : Cond.selects RX2 yX2_solve yX2_solve ∈ TT := WB_8 _ (List.mem_of_getElem? (i := 7) rfl)
theorem w_623 : Cond.code yX2_solve cX2_solve 4 none ∈ TT := WB_8 _ (List.mem_of_getElem? (i := 8) rfl)
theorem w_624 : Cond.methodLink RX2 106 yX2_index ∈ TT := WB_8 _ (List.mem_of_getElem? (i := 9) rfl)
theorem w_625 : Cond.static yX2_index ∈ TT := WB_8 _ (List.mem_of_getElem? (i := 10) rfl)
theorem w_626 : Cond.code yX2_index cX2_index 3 (some .int) ∈ TT := WB_8 _ (List.mem_of_getElem? (i := 11) rfl)
theorem w_627 : Cond.methodLink RX2 109 yJ6_bitCount_0f7a4 ∈ TT := WB_8 _ (List.mem_of_getElem? (i := 12) rfl)
theorem w_628 : Cond.static yJ6_bitCount_0f7a4 ∈ TT := WB_8 _ (List.mem_of_getElem? (i := 13) rfl)
theorem w_629 : Cond.code yJ6_bitCount_0f7a4 cJ6_bitCount_0f7a4 1 (some .int) ∈ TT := WB_8 _ (List.mem_of_getElem? (i := 14) rfl)
theorem w_630 : Cond.constant RJ6 265 1431655765 ∈ TT := WB_8 _ (List.mem_of_getElem? (i := 15) rfl)
theorem w_631 : Cond.constant RJ6 266 858993459 ∈ TT := WB_8 _ (List.mem_of_getElem? (i := 16) rfl)
theorem w_632 : Cond.constant RJ6 267 252645135 ∈ TT := WB_8 _ (List.mem_of_getElem? (i := 17) rfl)
theorem w_633 : Cond.methodLink RX2 114 yX2_solveFrom ∈ TT := WB_8 _ (List.mem_of_getElem? (i := 18) rfl)
theorem w_635 : Cond.instanceMethod yX2_solveFrom ∈ TT := WB_8 _ (List.mem_of_getElem? (i := 19) rfl)
theorem w_636 : Cond.code yX2_solveFrom cX2_solveFrom 5 none ∈ TT := WB_8 _ (List.mem_of_getElem? (i := 20) rfl)
theorem w_637 : Cond.methodLink RX2 118 yX2_weigh ∈ TT := WB_8 _ (List.mem_of_getElem? (i := 21) rfl)
theorem w_639 : Cond.instanceMethod yX2_weigh ∈ TT := WB_8 _ (List.mem_of_getElem? (i := 22) rfl)
theorem w_640 : Cond.code yX2_weigh cX2_weigh 8 none ∈ TT := WB_8 _ (List.mem_of_getElem? (i := 23) rfl)
theorem w_641 : Cond.methodLink RX2 131 yX2_restBehind ∈ TT := WB_8 _ (List.mem_of_getElem? (i := 24) rfl)
theorem w_643 : Cond.instanceMethod yX2_restBehind ∈ TT := WB_8 _ (List.mem_of_getElem? (i := 25) rfl)
theorem w_644 : Cond.code yX2_restBehind cX2_restBehind 5 (some .int) ∈ TT := WB_8 _ (List.mem_of_getElem? (i := 26) rfl)
theorem w_645 : Cond.methodLink RX2 121 yX2_shadeReaches ∈ TT := WB_8 _ (List.mem_of_getElem? (i := 27) rfl)
theorem w_647 : Cond.instanceMethod yX2_shadeReaches ∈ TT := WB_8 _ (List.mem_of_getElem? (i := 28) rfl)
theorem w_648 : Cond.code yX2_shadeReaches cX2_shadeReaches 2 (some .boolean) ∈ TT := WB_8 _ (List.mem_of_getElem? (i := 29) rfl)
theorem w_649 : Cond.methodLink RX2 125 yJ9_min_7cf53 ∈ TT := WB_8 _ (List.mem_of_getElem? (i := 30) rfl)
theorem w_658 : Cond.methodLink RX8 316 yX6_skyOf ∈ TT := WB_8 _ (List.mem_of_getElem? (i := 31) rfl)
theorem w_659 : Cond.instanceMethod yX6_skyOf ∈ TT := WB_8 _ (List.mem_of_getElem? (i := 32) rfl)
theorem w_660 : Cond.selects RX6 yX6_skyOf yX6_skyOf ∈ TT := WB_8 _ (List.mem_of_getElem? (i := 33) rfl)
theorem w_661 : Cond.code yX6_skyOf cX6_skyOf 2 (some .int) ∈ TT := WB_8 _ (List.mem_of_getElem? (i := 34) rfl)
theorem w_662 : Cond.methodLink RX6 33 yX6_nextSky ∈ TT := WB_8 _ (List.mem_of_getElem? (i := 35) rfl)
theorem w_664 : Cond.instanceMethod yX6_nextSky ∈ TT := WB_8 _ (List.mem_of_getElem? (i := 36) rfl)
theorem w_665 : Cond.code yX6_nextSky cX6_nextSky 3 (some .int) ∈ TT := WB_8 _ (List.mem_of_getElem? (i := 37) rfl)
theorem w_666 : Cond.constant RX6 37 1103515245 ∈ TT := WB_8 _ (List.mem_of_getElem? (i := 38) rfl)
theorem w_671 : Cond.methodLink RX8 333 yX8_keptAt ∈ TT := WB_8 _ (List.mem_of_getElem? (i := 39) rfl)
def wl_9 : List Cond := [Cond.instanceMethod yX8_keptAt, Cond.code yX8_keptAt cX8_keptAt 2 (some (.object RX3)), Cond.methodLink RX8 337 yX3_copy, Cond.instanceMethod yX3_copy, Cond.selects RX3 yX3_copy yX3_copy, Cond.code yX3_copy cX3_copy 2 none, Cond.methodLinkNest RX3 44 yX8_copyRow RX8, Cond.static yX8_copyRow, Cond.code yX8_copyRow cX8_copyRow 3 none, Cond.methodLink RX8 340 yX3_daysWritten, Cond.instanceMethod yX3_daysWritten, Cond.selects RX3 yX3_daysWritten yX3_daysWritten, Cond.code yX3_daysWritten cX3_daysWritten 3 (some .int), Cond.methodLinkNest RX3 52 yX8_at RX8, Cond.methodLink RX8 106 yX8_needBetween, Cond.static yX8_needBetween, Cond.code yX8_needBetween cX8_needBetween 3 none, Cond.classLink RX8 169 "java/lang/IllegalArgumentException", Cond.methodLink RX8 110 yX7_open, Cond.instanceMethod yX7_open, Cond.selects RX7 yX7_open yX7_open, Cond.code yX7_open cX7_open 2 none, Cond.methodLink RX8 113 yX5_clauses, Cond.instanceMethod yX5_clauses, Cond.selects RX5 yX5_clauses yX5_clauses, Cond.code yX5_clauses cX5_clauses 2 (some .boolean), Cond.methodLinkNest RX5 19 yX4_beUntold RX8, Cond.methodLink RX5 24 yX7_more, Cond.instanceMethod yX7_more, Cond.selects RX7 yX7_more yX7_more, Cond.code yX7_more cX7_more 1 (some .boolean), Cond.methodLink RX7 35 yX7_start, Cond.instanceMethod yX7_start, Cond.selects RX7 yX7_start yX7_start, Cond.code yX7_start cX7_start 1 (some .int), Cond.methodLink RX5 30 yX5_clause, Cond.instanceMethod yX5_clause, Cond.code yX5_clause cX5_clause 4 (some .boolean), Cond.methodLink RX5 37 yX7_start, Cond.methodLink RX5 41 yX5_clauseWord]
theorem WB_9 : ∀ w ∈ wl_9, w ∈ TT := tt_ps [673, 674, 675, 676, 677, 678, 679, 680, 681, 690, 691, 692, 693, 694, 703, 704, 705, 706, 775, 776, 777, 778, 779, 780, 781, 782, 783, 784, 785, 786, 787, 788, 789, 790, 791, 792, 794, 795, 796, 797] (by decide +kernel) (by decide +kernel)
theorem w_673 : Cond.instanceMethod yX8_keptAt ∈ TT := WB_9 _ (List.mem_of_getElem? (i := 0) rfl)
theorem w_674 : Cond.code yX8_keptAt cX8_keptAt 2 (some (.object RX3)) ∈ TT := WB_9 _ (List.mem_of_getElem? (i := 1) rfl)
theorem w_675 : Cond.methodLink RX8 337 yX3_copy ∈ TT := WB_9 _ (List.mem_of_getElem? (i := 2) rfl)
theorem w_676 : Cond.instanceMethod yX3_copy ∈ TT := WB_9 _ (List.mem_of_getElem? (i := 3) rfl)
theorem w_677 : Cond.selects RX3 yX3_copy yX3_copy ∈ TT := WB_9 _ (List.mem_of_getElem? (i := 4) rfl)
theorem w_678 : Cond.code yX3_copy cX3_copy 2 none ∈ TT := WB_9 _ (List.mem_of_getElem? (i := 5) rfl)
theorem w_679 : Cond.methodLinkNest RX3 44 yX8_copyRow RX8 ∈ TT := WB_9 _ (List.mem_of_getElem? (i := 6) rfl)
theorem w_680 : Cond.static yX8_copyRow ∈ TT := WB_9 _ (List.mem_of_getElem? (i := 7) rfl)
theorem w_681 : Cond.code yX8_copyRow cX8_copyRow 3 none ∈ TT := WB_9 _ (List.mem_of_getElem? (i := 8) rfl)
theorem w_690 : Cond.methodLink RX8 340 yX3_daysWritten ∈ TT := WB_9 _ (List.mem_of_getElem? (i := 9) rfl)
theorem w_691 : Cond.instanceMethod yX3_daysWritten ∈ TT := WB_9 _ (List.mem_of_getElem? (i := 10) rfl)
theorem w_692 : Cond.selects RX3 yX3_daysWritten yX3_daysWritten ∈ TT := WB_9 _ (List.mem_of_getElem? (i := 11) rfl)
theorem w_693 : Cond.code yX3_daysWritten cX3_daysWritten 3 (some .int) ∈ TT := WB_9 _ (List.mem_of_getElem? (i := 12) rfl)
theorem w_694 : Cond.methodLinkNest RX3 52 yX8_at RX8 ∈ TT := WB_9 _ (List.mem_of_getElem? (i := 13) rfl)
theorem w_703 : Cond.methodLink RX8 106 yX8_needBetween ∈ TT := WB_9 _ (List.mem_of_getElem? (i := 14) rfl)
theorem w_704 : Cond.static yX8_needBetween ∈ TT := WB_9 _ (List.mem_of_getElem? (i := 15) rfl)
theorem w_705 : Cond.code yX8_needBetween cX8_needBetween 3 none ∈ TT := WB_9 _ (List.mem_of_getElem? (i := 16) rfl)
theorem w_706 : Cond.classLink RX8 169 "java/lang/IllegalArgumentException" ∈ TT := WB_9 _ (List.mem_of_getElem? (i := 17) rfl)
theorem w_775 : Cond.methodLink RX8 110 yX7_open ∈ TT := WB_9 _ (List.mem_of_getElem? (i := 18) rfl)
theorem w_776 : Cond.instanceMethod yX7_open ∈ TT := WB_9 _ (List.mem_of_getElem? (i := 19) rfl)
theorem w_777 : Cond.selects RX7 yX7_open yX7_open ∈ TT := WB_9 _ (List.mem_of_getElem? (i := 20) rfl)
theorem w_778 : Cond.code yX7_open cX7_open 2 none ∈ TT := WB_9 _ (List.mem_of_getElem? (i := 21) rfl)
theorem w_779 : Cond.methodLink RX8 113 yX5_clauses ∈ TT := WB_9 _ (List.mem_of_getElem? (i := 22) rfl)
theorem w_780 : Cond.instanceMethod yX5_clauses ∈ TT := WB_9 _ (List.mem_of_getElem? (i := 23) rfl)
theorem w_781 : Cond.selects RX5 yX5_clauses yX5_clauses ∈ TT := WB_9 _ (List.mem_of_getElem? (i := 24) rfl)
theorem w_782 : Cond.code yX5_clauses cX5_clauses 2 (some .boolean) ∈ TT := WB_9 _ (List.mem_of_getElem? (i := 25) rfl)
theorem w_783 : Cond.methodLinkNest RX5 19 yX4_beUntold RX8 ∈ TT := WB_9 _ (List.mem_of_getElem? (i := 26) rfl)
theorem w_784 : Cond.methodLink RX5 24 yX7_more ∈ TT := WB_9 _ (List.mem_of_getElem? (i := 27) rfl)
theorem w_785 : Cond.instanceMethod yX7_more ∈ TT := WB_9 _ (List.mem_of_getElem? (i := 28) rfl)
theorem w_786 : Cond.selects RX7 yX7_more yX7_more ∈ TT := WB_9 _ (List.mem_of_getElem? (i := 29) rfl)
theorem w_787 : Cond.code yX7_more cX7_more 1 (some .boolean) ∈ TT := WB_9 _ (List.mem_of_getElem? (i := 30) rfl)
theorem w_788 : Cond.methodLink RX7 35 yX7_start ∈ TT := WB_9 _ (List.mem_of_getElem? (i := 31) rfl)
theorem w_789 : Cond.instanceMethod yX7_start ∈ TT := WB_9 _ (List.mem_of_getElem? (i := 32) rfl)
theorem w_790 : Cond.selects RX7 yX7_start yX7_start ∈ TT := WB_9 _ (List.mem_of_getElem? (i := 33) rfl)
theorem w_791 : Cond.code yX7_start cX7_start 1 (some .int) ∈ TT := WB_9 _ (List.mem_of_getElem? (i := 34) rfl)
theorem w_792 : Cond.methodLink RX5 30 yX5_clause ∈ TT := WB_9 _ (List.mem_of_getElem? (i := 35) rfl)
theorem w_794 : Cond.instanceMethod yX5_clause ∈ TT := WB_9 _ (List.mem_of_getElem? (i := 36) rfl)
theorem w_795 : Cond.code yX5_clause cX5_clause 4 (some .boolean) ∈ TT := WB_9 _ (List.mem_of_getElem? (i := 37) rfl)
theorem w_796 : Cond.methodLink RX5 37 yX7_start ∈ TT := WB_9 _ (List.mem_of_getElem? (i := 38) rfl)
theorem w_797 : Cond.methodLink RX5 41 yX5_clauseWord ∈ TT := WB_9 _ (List.mem_of_getElem? (i := 39) rfl)
def wl_10 : List Cond := [Cond.instanceMethod yX5_clauseWord, Cond.code yX5_clauseWord cX5_clauseWord 1 (some .int), Cond.methodLink RX5 60 yX7_word, Cond.instanceMethod yX7_word, Cond.selects RX7 yX7_word yX7_word, Cond.code yX7_word cX7_word 5 (some .boolean), Cond.methodLinkNest RX7 39 yX8_at RX8, Cond.methodLink RX7 51 yX7_isLetter, Cond.static yX7_isLetter, Cond.code yX7_isLetter cX7_isLetter 1 (some .boolean), Cond.methodLink RX7 54 yJ0_length_8abf5, Cond.methodLink RX7 59 yJ0_charAt_5068e, Cond.methodLink RX5 44 yX7_fail, Cond.instanceMethod yX7_fail, Cond.selects RX7 yX7_fail yX7_fail, Cond.code yX7_fail cX7_fail 3 (some .boolean), Cond.methodLink RX5 52 yX5_parts, Cond.instanceMethod yX5_parts, Cond.code yX5_parts cX5_parts 2 (some .boolean), Cond.methodLink RX5 86 yX5_sun, Cond.instanceMethod yX5_sun, Cond.code yX5_sun cX5_sun 3 (some .boolean), Cond.methodLink RX5 111 yX7_number, Cond.instanceMethod yX7_number, Cond.selects RX7 yX7_number yX7_number, Cond.code yX7_number cX7_number 5 (some .int), Cond.methodLink RX7 63 yX7_isDigit, Cond.static yX7_isDigit, Cond.code yX7_isDigit cX7_isDigit 1 (some .boolean), Cond.constant RX7 66 100000, Cond.methodLink RX7 47 yX7_fail, Cond.methodLinkNest RX5 123 yX8_put RX8, Cond.methodLink RX5 88 yX5_keeper, Cond.instanceMethod yX5_keeper, Cond.code yX5_keeper cX5_keeper 3 (some .boolean), Cond.methodLink RX5 90 yX5_traits, Cond.instanceMethod yX5_traits, Cond.code yX5_traits cX5_traits 7 (some .boolean), Cond.methodLink RX5 141 yX4_setTrait, Cond.instanceMethod yX4_setTrait]
theorem WB_10 : ∀ w ∈ wl_10, w ∈ TT := tt_ps [799, 800, 802, 803, 804, 805, 806, 807, 808, 809, 810, 820, 869, 870, 871, 872, 873, 875, 876, 877, 879, 880, 881, 882, 883, 884, 885, 886, 887, 888, 889, 890, 891, 893, 894, 895, 897, 898, 899, 900] (by decide +kernel) (by decide +kernel)
theorem w_799 : Cond.instanceMethod yX5_clauseWord ∈ TT := WB_10 _ (List.mem_of_getElem? (i := 0) rfl)
theorem w_800 : Cond.code yX5_clauseWord cX5_clauseWord 1 (some .int) ∈ TT := WB_10 _ (List.mem_of_getElem? (i := 1) rfl)
theorem w_802 : Cond.methodLink RX5 60 yX7_word ∈ TT := WB_10 _ (List.mem_of_getElem? (i := 2) rfl)
theorem w_803 : Cond.instanceMethod yX7_word ∈ TT := WB_10 _ (List.mem_of_getElem? (i := 3) rfl)
theorem w_804 : Cond.selects RX7 yX7_word yX7_word ∈ TT := WB_10 _ (List.mem_of_getElem? (i := 4) rfl)
theorem w_805 : Cond.code yX7_word cX7_word 5 (some .boolean) ∈ TT := WB_10 _ (List.mem_of_getElem? (i := 5) rfl)
theorem w_806 : Cond.methodLinkNest RX7 39 yX8_at RX8 ∈ TT := WB_10 _ (List.mem_of_getElem? (i := 6) rfl)
theorem w_807 : Cond.methodLink RX7 51 yX7_isLetter ∈ TT := WB_10 _ (List.mem_of_getElem? (i := 7) rfl)
theorem w_808 : Cond.static yX7_isLetter ∈ TT := WB_10 _ (List.mem_of_getElem? (i := 8) rfl)
theorem w_809 : Cond.code yX7_isLetter cX7_isLetter 1 (some .boolean) ∈ TT := WB_10 _ (List.mem_of_getElem? (i := 9) rfl)
theorem w_810 : Cond.methodLink RX7 54 yJ0_length_8abf5 ∈ TT := WB_10 _ (List.mem_of_getElem? (i := 10) rfl)
theorem w_820 : Cond.methodLink RX7 59 yJ0_charAt_5068e ∈ TT := WB_10 _ (List.mem_of_getElem? (i := 11) rfl)
theorem w_869 : Cond.methodLink RX5 44 yX7_fail ∈ TT := WB_10 _ (List.mem_of_getElem? (i := 12) rfl)
theorem w_870 : Cond.instanceMethod yX7_fail ∈ TT := WB_10 _ (List.mem_of_getElem? (i := 13) rfl)
theorem w_871 : Cond.selects RX7 yX7_fail yX7_fail ∈ TT := WB_10 _ (List.mem_of_getElem? (i := 14) rfl)
theorem w_872 : Cond.code yX7_fail cX7_fail 3 (some .boolean) ∈ TT := WB_10 _ (List.mem_of_getElem? (i := 15) rfl)
theorem w_873 : Cond.methodLink RX5 52 yX5_parts ∈ TT := WB_10 _ (List.mem_of_getElem? (i := 16) rfl)
theorem w_875 : Cond.instanceMethod yX5_parts ∈ TT := WB_10 _ (List.mem_of_getElem? (i := 17) rfl)
theorem w_876 : Cond.code yX5_parts cX5_parts 2 (some .boolean) ∈ TT := WB_10 _ (List.mem_of_getElem? (i := 18) rfl)
theorem w_877 : Cond.methodLink RX5 86 yX5_sun ∈ TT := WB_10 _ (List.mem_of_getElem? (i := 19) rfl)
theorem w_879 : Cond.instanceMethod yX5_sun ∈ TT := WB_10 _ (List.mem_of_getElem? (i := 20) rfl)
theorem w_880 : Cond.code yX5_sun cX5_sun 3 (some .boolean) ∈ TT := WB_10 _ (List.mem_of_getElem? (i := 21) rfl)
theorem w_881 : Cond.methodLink RX5 111 yX7_number ∈ TT := WB_10 _ (List.mem_of_getElem? (i := 22) rfl)
theorem w_882 : Cond.instanceMethod yX7_number ∈ TT := WB_10 _ (List.mem_of_getElem? (i := 23) rfl)
theorem w_883 : Cond.selects RX7 yX7_number yX7_number ∈ TT := WB_10 _ (List.mem_of_getElem? (i := 24) rfl)
theorem w_884 : Cond.code yX7_number cX7_number 5 (some .int) ∈ TT := WB_10 _ (List.mem_of_getElem? (i := 25) rfl)
theorem w_885 : Cond.methodLink RX7 63 yX7_isDigit ∈ TT := WB_10 _ (List.mem_of_getElem? (i := 26) rfl)
theorem w_886 : Cond.static yX7_isDigit ∈ TT := WB_10 _ (List.mem_of_getElem? (i := 27) rfl)
theorem w_887 : Cond.code yX7_isDigit cX7_isDigit 1 (some .boolean) ∈ TT := WB_10 _ (List.mem_of_getElem? (i := 28) rfl)
theorem w_888 : Cond.constant RX7 66 100000 ∈ TT := WB_10 _ (List.mem_of_getElem? (i := 29) rfl)
theorem w_889 : Cond.methodLink RX7 47 yX7_fail ∈ TT := WB_10 _ (List.mem_of_getElem? (i := 30) rfl)
theorem w_890 : Cond.methodLinkNest RX5 123 yX8_put RX8 ∈ TT := WB_10 _ (List.mem_of_getElem? (i := 31) rfl)
theorem w_891 : Cond.methodLink RX5 88 yX5_keeper ∈ TT := WB_10 _ (List.mem_of_getElem? (i := 32) rfl)
theorem w_893 : Cond.instanceMethod yX5_keeper ∈ TT := WB_10 _ (List.mem_of_getElem? (i := 33) rfl)
theorem w_894 : Cond.code yX5_keeper cX5_keeper 3 (some .boolean) ∈ TT := WB_10 _ (List.mem_of_getElem? (i := 34) rfl)
theorem w_895 : Cond.methodLink RX5 90 yX5_traits ∈ TT := WB_10 _ (List.mem_of_getElem? (i := 35) rfl)
theorem w_897 : Cond.instanceMethod yX5_traits ∈ TT := WB_10 _ (List.mem_of_getElem? (i := 36) rfl)
theorem w_898 : Cond.code yX5_traits cX5_traits 7 (some .boolean) ∈ TT := WB_10 _ (List.mem_of_getElem? (i := 37) rfl)
theorem w_899 : Cond.methodLink RX5 141 yX4_setTrait ∈ TT := WB_10 _ (List.mem_of_getElem? (i := 38) rfl)
theorem w_900 : Cond.instanceMethod yX4_setTrait ∈ TT := WB_10 _ (List.mem_of_getElem? (i := 39) rfl)
def wl_11 : List Cond := [Cond.selects RX4 yX4_setTrait yX4_setTrait, Cond.code yX4_setTrait cX4_setTrait 4 none, Cond.methodLinkNest RX4 74 yX8_put RX8, Cond.methodLink RX5 93 yX5_trait, Cond.instanceMethod yX5_trait, Cond.code yX5_trait cX5_trait 6 (some .boolean), Cond.methodLink RX5 97 yX5_secondBridge, Cond.instanceMethod yX5_secondBridge, Cond.code yX5_secondBridge cX5_secondBridge 3 (some .boolean), Cond.methodLink RX5 104 yX5_single, Cond.instanceMethod yX5_single, Cond.code yX5_single cX5_single 4 (some .boolean), Cond.methodLink RX5 107 yX5_greatest, Cond.static yX5_greatest, Cond.code yX5_greatest cX5_greatest 1 (some .int), Cond.methodLink RX5 55 yX7_must, Cond.instanceMethod yX7_must, Cond.selects RX7 yX7_must yX7_must, Cond.code yX7_must cX7_must 2 (some .boolean), Cond.methodLink RX7 43 yX7_sign, Cond.instanceMethod yX7_sign, Cond.selects RX7 yX7_sign yX7_sign, Cond.code yX7_sign cX7_sign 3 (some .boolean), Cond.methodLink RX5 34 yX4_spreadSuns, Cond.instanceMethod yX4_spreadSuns, Cond.selects RX4 yX4_spreadSuns yX4_spreadSuns, Cond.code yX4_spreadSuns cX4_spreadSuns 3 none, Cond.methodLink RX8 120 yX4_copy, Cond.instanceMethod yX4_copy, Cond.selects RX4 yX4_copy yX4_copy, Cond.code yX4_copy cX4_copy 2 none, Cond.methodLinkNest RX4 66 yX8_copyRow RX8, Cond.methodLinkNest RX8 123 yX3_clear RX8, Cond.instanceMethod yX0_empty, Cond.selects RX0 yX0_empty yX0_empty, Cond.code yX0_empty cX0_empty 1 none, Cond.instanceMethod yX0_add, Cond.selects RX0 yX0_add yX0_add, Cond.code yX0_add cX0_add 2 none, Cond.methodLinkNest RX0 29 yX8_copyRow RX8]
theorem WB_11 : ∀ w ∈ wl_11, w ∈ TT := tt_ps [901, 902, 903, 904, 906, 907, 908, 910, 911, 912, 914, 915, 916, 917, 918, 919, 920, 921, 922, 923, 924, 925, 926, 927, 928, 929, 930, 931, 932, 933, 934, 935, 936, 949, 950, 951, 975, 976, 977, 994] (by decide +kernel) (by decide +kernel)
theorem w_901 : Cond.selects RX4 yX4_setTrait yX4_setTrait ∈ TT := WB_11 _ (List.mem_of_getElem? (i := 0) rfl)
theorem w_902 : Cond.code yX4_setTrait cX4_setTrait 4 none ∈ TT := WB_11 _ (List.mem_of_getElem? (i := 1) rfl)
theorem w_903 : Cond.methodLinkNest RX4 74 yX8_put RX8 ∈ TT := WB_11 _ (List.mem_of_getElem? (i := 2) rfl)
theorem w_904 : Cond.methodLink RX5 93 yX5_trait ∈ TT := WB_11 _ (List.mem_of_getElem? (i := 3) rfl)
theorem w_906 : Cond.instanceMethod yX5_trait ∈ TT := WB_11 _ (List.mem_of_getElem? (i := 4) rfl)
theorem w_907 : Cond.code yX5_trait cX5_trait 6 (some .boolean) ∈ TT := WB_11 _ (List.mem_of_getElem? (i := 5) rfl)
theorem w_908 : Cond.methodLink RX5 97 yX5_secondBridge ∈ TT := WB_11 _ (List.mem_of_getElem? (i := 6) rfl)
theorem w_910 : Cond.instanceMethod yX5_secondBridge ∈ TT := WB_11 _ (List.mem_of_getElem? (i := 7) rfl)
theorem w_911 : Cond.code yX5_secondBridge cX5_secondBridge 3 (some .boolean) ∈ TT := WB_11 _ (List.mem_of_getElem? (i := 8) rfl)
theorem w_912 : Cond.methodLink RX5 104 yX5_single ∈ TT := WB_11 _ (List.mem_of_getElem? (i := 9) rfl)
theorem w_914 : Cond.instanceMethod yX5_single ∈ TT := WB_11 _ (List.mem_of_getElem? (i := 10) rfl)
theorem w_915 : Cond.code yX5_single cX5_single 4 (some .boolean) ∈ TT := WB_11 _ (List.mem_of_getElem? (i := 11) rfl)
theorem w_916 : Cond.methodLink RX5 107 yX5_greatest ∈ TT := WB_11 _ (List.mem_of_getElem? (i := 12) rfl)
theorem w_917 : Cond.static yX5_greatest ∈ TT := WB_11 _ (List.mem_of_getElem? (i := 13) rfl)
theorem w_918 : Cond.code yX5_greatest cX5_greatest 1 (some .int) ∈ TT := WB_11 _ (List.mem_of_getElem? (i := 14) rfl)
theorem w_919 : Cond.methodLink RX5 55 yX7_must ∈ TT := WB_11 _ (List.mem_of_getElem? (i := 15) rfl)
theorem w_920 : Cond.instanceMethod yX7_must ∈ TT := WB_11 _ (List.mem_of_getElem? (i := 16) rfl)
theorem w_921 : Cond.selects RX7 yX7_must yX7_must ∈ TT := WB_11 _ (List.mem_of_getElem? (i := 17) rfl)
theorem w_922 : Cond.code yX7_must cX7_must 2 (some .boolean) ∈ TT := WB_11 _ (List.mem_of_getElem? (i := 18) rfl)
theorem w_923 : Cond.methodLink RX7 43 yX7_sign ∈ TT := WB_11 _ (List.mem_of_getElem? (i := 19) rfl)
theorem w_924 : Cond.instanceMethod yX7_sign ∈ TT := WB_11 _ (List.mem_of_getElem? (i := 20) rfl)
theorem w_925 : Cond.selects RX7 yX7_sign yX7_sign ∈ TT := WB_11 _ (List.mem_of_getElem? (i := 21) rfl)
theorem w_926 : Cond.code yX7_sign cX7_sign 3 (some .boolean) ∈ TT := WB_11 _ (List.mem_of_getElem? (i := 22) rfl)
theorem w_927 : Cond.methodLink RX5 34 yX4_spreadSuns ∈ TT := WB_11 _ (List.mem_of_getElem? (i := 23) rfl)
theorem w_928 : Cond.instanceMethod yX4_spreadSuns ∈ TT := WB_11 _ (List.mem_of_getElem? (i := 24) rfl)
theorem w_929 : Cond.selects RX4 yX4_spreadSuns yX4_spreadSuns ∈ TT := WB_11 _ (List.mem_of_getElem? (i := 25) rfl)
theorem w_930 : Cond.code yX4_spreadSuns cX4_spreadSuns 3 none ∈ TT := WB_11 _ (List.mem_of_getElem? (i := 26) rfl)
theorem w_931 : Cond.methodLink RX8 120 yX4_copy ∈ TT := WB_11 _ (List.mem_of_getElem? (i := 27) rfl)
theorem w_932 : Cond.instanceMethod yX4_copy ∈ TT := WB_11 _ (List.mem_of_getElem? (i := 28) rfl)
theorem w_933 : Cond.selects RX4 yX4_copy yX4_copy ∈ TT := WB_11 _ (List.mem_of_getElem? (i := 29) rfl)
theorem w_934 : Cond.code yX4_copy cX4_copy 2 none ∈ TT := WB_11 _ (List.mem_of_getElem? (i := 30) rfl)
theorem w_935 : Cond.methodLinkNest RX4 66 yX8_copyRow RX8 ∈ TT := WB_11 _ (List.mem_of_getElem? (i := 31) rfl)
theorem w_936 : Cond.methodLinkNest RX8 123 yX3_clear RX8 ∈ TT := WB_11 _ (List.mem_of_getElem? (i := 32) rfl)
theorem w_949 : Cond.instanceMethod yX0_empty ∈ TT := WB_11 _ (List.mem_of_getElem? (i := 33) rfl)
theorem w_950 : Cond.selects RX0 yX0_empty yX0_empty ∈ TT := WB_11 _ (List.mem_of_getElem? (i := 34) rfl)
theorem w_951 : Cond.code yX0_empty cX0_empty 1 none ∈ TT := WB_11 _ (List.mem_of_getElem? (i := 35) rfl)
theorem w_975 : Cond.instanceMethod yX0_add ∈ TT := WB_11 _ (List.mem_of_getElem? (i := 36) rfl)
theorem w_976 : Cond.selects RX0 yX0_add yX0_add ∈ TT := WB_11 _ (List.mem_of_getElem? (i := 37) rfl)
theorem w_977 : Cond.code yX0_add cX0_add 2 none ∈ TT := WB_11 _ (List.mem_of_getElem? (i := 38) rfl)
theorem w_994 : Cond.methodLinkNest RX0 29 yX8_copyRow RX8 ∈ TT := WB_11 _ (List.mem_of_getElem? (i := 39) rfl)
def wl_12 : List Cond := [Cond.methodLink RX8 176 yX8_needTraveller, Cond.instanceMethod yX8_needTraveller, Cond.code yX8_needTraveller cX8_needTraveller 2 none, Cond.classLink RX8 354 "java/util/NoSuchElementException", Cond.methodLink RX8 179 yX4_trait, Cond.methodLink RX8 183 yX8_needDay, Cond.static yX8_needDay, Cond.code yX8_needDay cX8_needDay 1 none, Cond.methodLink RX8 196 yX8_needBridge, Cond.instanceMethod yX8_needBridge, Cond.code yX8_needBridge cX8_needBridge 2 none, Cond.classLink RX8 349 "java/lang/IndexOutOfBoundsException", Cond.methodLink RX8 199 yX8_needMinute, Cond.static yX8_needMinute, Cond.code yX8_needMinute cX8_needMinute 1 none, Cond.methodLink RX8 202 yX4_altitudeAt, Cond.methodLink RX8 206 yX8_shadowOf, Cond.methodLink RX8 212 yX8_put, Cond.methodLink RX8 220 yX4_fare, Cond.methodLink RX8 224 yX8_bestMinute, Cond.instanceMethod yX8_bestMinute, Cond.code yX8_bestMinute cX8_bestMinute 10 (some .int), Cond.methodLink RX8 330 yJ9_max_7cf53, Cond.methodLink RX8 227 yX8_expense, Cond.instanceMethod yX8_expense, Cond.code yX8_expense cX8_expense 5 (some .int), Cond.methodLink RX8 363 yX4_extra, Cond.methodLink RX8 231 yX8_needPlan, Cond.instanceMethod yX8_needPlan, Cond.code yX8_needPlan cX8_needPlan 4 none, Cond.methodLink RX8 235 yX8_planFor, Cond.instanceMethod yX8_planFor, Cond.code yX8_planFor cX8_planFor 6 none, Cond.constant RX8 374 1048576, Cond.methodLink RX8 375 yX2_solve, Cond.methodLink RX8 378 yX2_seat, Cond.instanceMethod yX2_seat, Cond.selects RX2 yX2_seat yX2_seat, Cond.code yX2_seat cX2_seat 5 none, Cond.methodLink RX2 138 yX2_forgetSums]
theorem WB_12 : ∀ w ∈ wl_12, w ∈ TT := tt_ps [1011, 1013, 1014, 1015, 1031, 1039, 1040, 1041, 1051, 1053, 1054, 1055, 1071, 1072, 1073, 1075, 1083, 1091, 1099, 1107, 1109, 1110, 1111, 1114, 1116, 1117, 1118, 1133, 1135, 1136, 1139, 1141, 1142, 1143, 1144, 1145, 1146, 1147, 1148, 1149] (by decide +kernel) (by decide +kernel)
theorem w_1011 : Cond.methodLink RX8 176 yX8_needTraveller ∈ TT := WB_12 _ (List.mem_of_getElem? (i := 0) rfl)
theorem w_1013 : Cond.instanceMethod yX8_needTraveller ∈ TT := WB_12 _ (List.mem_of_getElem? (i := 1) rfl)
theorem w_1014 : Cond.code yX8_needTraveller cX8_needTraveller 2 none ∈ TT := WB_12 _ (List.mem_of_getElem? (i := 2) rfl)
theorem w_1015 : Cond.classLink RX8 354 "java/util/NoSuchElementException" ∈ TT := WB_12 _ (List.mem_of_getElem? (i := 3) rfl)
theorem w_1031 : Cond.methodLink RX8 179 yX4_trait ∈ TT := WB_12 _ (List.mem_of_getElem? (i := 4) rfl)
theorem w_1039 : Cond.methodLink RX8 183 yX8_needDay ∈ TT := WB_12 _ (List.mem_of_getElem? (i := 5) rfl)
theorem w_1040 : Cond.static yX8_needDay ∈ TT := WB_12 _ (List.mem_of_getElem? (i := 6) rfl)
theorem w_1041 : Cond.code yX8_needDay cX8_needDay 1 none ∈ TT := WB_12 _ (List.mem_of_getElem? (i := 7) rfl)
theorem w_1051 : Cond.methodLink RX8 196 yX8_needBridge ∈ TT := WB_12 _ (List.mem_of_getElem? (i := 8) rfl)
theorem w_1053 : Cond.instanceMethod yX8_needBridge ∈ TT := WB_12 _ (List.mem_of_getElem? (i := 9) rfl)
theorem w_1054 : Cond.code yX8_needBridge cX8_needBridge 2 none ∈ TT := WB_12 _ (List.mem_of_getElem? (i := 10) rfl)
theorem w_1055 : Cond.classLink RX8 349 "java/lang/IndexOutOfBoundsException" ∈ TT := WB_12 _ (List.mem_of_getElem? (i := 11) rfl)
theorem w_1071 : Cond.methodLink RX8 199 yX8_needMinute ∈ TT := WB_12 _ (List.mem_of_getElem? (i := 12) rfl)
theorem w_1072 : Cond.static yX8_needMinute ∈ TT := WB_12 _ (List.mem_of_getElem? (i := 13) rfl)
theorem w_1073 : Cond.code yX8_needMinute cX8_needMinute 1 none ∈ TT := WB_12 _ (List.mem_of_getElem? (i := 14) rfl)
theorem w_1075 : Cond.methodLink RX8 202 yX4_altitudeAt ∈ TT := WB_12 _ (List.mem_of_getElem? (i := 15) rfl)
theorem w_1083 : Cond.methodLink RX8 206 yX8_shadowOf ∈ TT := WB_12 _ (List.mem_of_getElem? (i := 16) rfl)
theorem w_1091 : Cond.methodLink RX8 212 yX8_put ∈ TT := WB_12 _ (List.mem_of_getElem? (i := 17) rfl)
theorem w_1099 : Cond.methodLink RX8 220 yX4_fare ∈ TT := WB_12 _ (List.mem_of_getElem? (i := 18) rfl)
theorem w_1107 : Cond.methodLink RX8 224 yX8_bestMinute ∈ TT := WB_12 _ (List.mem_of_getElem? (i := 19) rfl)
theorem w_1109 : Cond.instanceMethod yX8_bestMinute ∈ TT := WB_12 _ (List.mem_of_getElem? (i := 20) rfl)
theorem w_1110 : Cond.code yX8_bestMinute cX8_bestMinute 10 (some .int) ∈ TT := WB_12 _ (List.mem_of_getElem? (i := 21) rfl)
theorem w_1111 : Cond.methodLink RX8 330 yJ9_max_7cf53 ∈ TT := WB_12 _ (List.mem_of_getElem? (i := 22) rfl)
theorem w_1114 : Cond.methodLink RX8 227 yX8_expense ∈ TT := WB_12 _ (List.mem_of_getElem? (i := 23) rfl)
theorem w_1116 : Cond.instanceMethod yX8_expense ∈ TT := WB_12 _ (List.mem_of_getElem? (i := 24) rfl)
theorem w_1117 : Cond.code yX8_expense cX8_expense 5 (some .int) ∈ TT := WB_12 _ (List.mem_of_getElem? (i := 25) rfl)
theorem w_1118 : Cond.methodLink RX8 363 yX4_extra ∈ TT := WB_12 _ (List.mem_of_getElem? (i := 26) rfl)
theorem w_1133 : Cond.methodLink RX8 231 yX8_needPlan ∈ TT := WB_12 _ (List.mem_of_getElem? (i := 27) rfl)
theorem w_1135 : Cond.instanceMethod yX8_needPlan ∈ TT := WB_12 _ (List.mem_of_getElem? (i := 28) rfl)
theorem w_1136 : Cond.code yX8_needPlan cX8_needPlan 4 none ∈ TT := WB_12 _ (List.mem_of_getElem? (i := 29) rfl)
theorem w_1139 : Cond.methodLink RX8 235 yX8_planFor ∈ TT := WB_12 _ (List.mem_of_getElem? (i := 30) rfl)
theorem w_1141 : Cond.instanceMethod yX8_planFor ∈ TT := WB_12 _ (List.mem_of_getElem? (i := 31) rfl)
theorem w_1142 : Cond.code yX8_planFor cX8_planFor 6 none ∈ TT := WB_12 _ (List.mem_of_getElem? (i := 32) rfl)
theorem w_1143 : Cond.constant RX8 374 1048576 ∈ TT := WB_12 _ (List.mem_of_getElem? (i := 33) rfl)
theorem w_1144 : Cond.methodLink RX8 375 yX2_solve ∈ TT := WB_12 _ (List.mem_of_getElem? (i := 34) rfl)
theorem w_1145 : Cond.methodLink RX8 378 yX2_seat ∈ TT := WB_12 _ (List.mem_of_getElem? (i := 35) rfl)
theorem w_1146 : Cond.instanceMethod yX2_seat ∈ TT := WB_12 _ (List.mem_of_getElem? (i := 36) rfl)
theorem w_1147 : Cond.selects RX2 yX2_seat yX2_seat ∈ TT := WB_12 _ (List.mem_of_getElem? (i := 37) rfl)
theorem w_1148 : Cond.code yX2_seat cX2_seat 5 none ∈ TT := WB_12 _ (List.mem_of_getElem? (i := 38) rfl)
theorem w_1149 : Cond.methodLink RX2 138 yX2_forgetSums ∈ TT := WB_12 _ (List.mem_of_getElem? (i := 39) rfl)
def wl_13 : List Cond := [Cond.instanceMethod yX2_forgetSums, Cond.code yX2_forgetSums cX2_forgetSums 1 none, Cond.methodLinkNest RX2 156 yX8_fillRow RX8, Cond.methodLink RX2 141 yX2_holderOf, Cond.instanceMethod yX2_holderOf, Cond.code yX2_holderOf cX2_holderOf 7 (some .int), Cond.methodLink RX2 144 yX2_coinsIn, Cond.instanceMethod yX2_coinsIn, Cond.code yX2_coinsIn cX2_coinsIn 5 (some .int), Cond.methodLink RX2 147 yX2_addUp, Cond.instanceMethod yX2_addUp, Cond.code yX2_addUp cX2_addUp 5 none, Cond.methodLink RX2 163 yX2_minuteOf, Cond.instanceMethod yX2_minuteOf, Cond.code yX2_minuteOf cX2_minuteOf 2 (some .int), Cond.methodLink RX2 166 yX4_trait, Cond.methodLink RX2 169 yJ9_max_7cf53, Cond.methodLink RX8 245 yX2_earnedAt, Cond.instanceMethod yX2_earnedAt, Cond.selects RX2 yX2_earnedAt yX2_earnedAt, Cond.code yX2_earnedAt cX2_earnedAt 2 (some .int), Cond.methodLink RX8 252 yX2_slotOf, Cond.instanceMethod yX2_slotOf, Cond.selects RX2 yX2_slotOf yX2_slotOf, Cond.code yX2_slotOf cX2_slotOf 3 (some .int), Cond.methodLink RX8 265 yX4_isOpen, Cond.instanceMethod yX4_isOpen, Cond.selects RX4 yX4_isOpen yX4_isOpen, Cond.code yX4_isOpen cX4_isOpen 2 (some .boolean), Cond.methodLink RX8 268 yX4_mayCome, Cond.methodLink RX8 272 yX3_addCrossing, Cond.instanceMethod yX3_addCrossing, Cond.selects RX3 yX3_addCrossing yX3_addCrossing, Cond.code yX3_addCrossing cX3_addCrossing 3 none, Cond.methodLinkNest RX3 48 yX8_put RX8, Cond.methodLink RX8 279 yX3_sum, Cond.instanceMethod yX3_sum, Cond.selects RX3 yX3_sum yX3_sum, Cond.code yX3_sum cX3_sum 4 (some .int), Cond.constant RX8 282 99999]
theorem WB_13 : ∀ w ∈ wl_13, w ∈ TT := tt_ps [1151, 1152, 1153, 1154, 1156, 1157, 1158, 1160, 1161, 1162, 1164, 1165, 1166, 1168, 1169, 1170, 1171, 1172, 1173, 1174, 1175, 1183, 1184, 1185, 1186, 1201, 1202, 1203, 1204, 1205, 1206, 1207, 1208, 1209, 1210, 1218, 1219, 1220, 1221, 1229] (by decide +kernel) (by decide +kernel)
theorem w_1151 : Cond.instanceMethod yX2_forgetSums ∈ TT := WB_13 _ (List.mem_of_getElem? (i := 0) rfl)
theorem w_1152 : Cond.code yX2_forgetSums cX2_forgetSums 1 none ∈ TT := WB_13 _ (List.mem_of_getElem? (i := 1) rfl)
theorem w_1153 : Cond.methodLinkNest RX2 156 yX8_fillRow RX8 ∈ TT := WB_13 _ (List.mem_of_getElem? (i := 2) rfl)
theorem w_1154 : Cond.methodLink RX2 141 yX2_holderOf ∈ TT := WB_13 _ (List.mem_of_getElem? (i := 3) rfl)
theorem w_1156 : Cond.instanceMethod yX2_holderOf ∈ TT := WB_13 _ (List.mem_of_getElem? (i := 4) rfl)
theorem w_1157 : Cond.code yX2_holderOf cX2_holderOf 7 (some .int) ∈ TT := WB_13 _ (List.mem_of_getElem? (i := 5) rfl)
theorem w_1158 : Cond.methodLink RX2 144 yX2_coinsIn ∈ TT := WB_13 _ (List.mem_of_getElem? (i := 6) rfl)
theorem w_1160 : Cond.instanceMethod yX2_coinsIn ∈ TT := WB_13 _ (List.mem_of_getElem? (i := 7) rfl)
theorem w_1161 : Cond.code yX2_coinsIn cX2_coinsIn 5 (some .int) ∈ TT := WB_13 _ (List.mem_of_getElem? (i := 8) rfl)
theorem w_1162 : Cond.methodLink RX2 147 yX2_addUp ∈ TT := WB_13 _ (List.mem_of_getElem? (i := 9) rfl)
theorem w_1164 : Cond.instanceMethod yX2_addUp ∈ TT := WB_13 _ (List.mem_of_getElem? (i := 10) rfl)
theorem w_1165 : Cond.code yX2_addUp cX2_addUp 5 none ∈ TT := WB_13 _ (List.mem_of_getElem? (i := 11) rfl)
theorem w_1166 : Cond.methodLink RX2 163 yX2_minuteOf ∈ TT := WB_13 _ (List.mem_of_getElem? (i := 12) rfl)
theorem w_1168 : Cond.instanceMethod yX2_minuteOf ∈ TT := WB_13 _ (List.mem_of_getElem? (i := 13) rfl)
theorem w_1169 : Cond.code yX2_minuteOf cX2_minuteOf 2 (some .int) ∈ TT := WB_13 _ (List.mem_of_getElem? (i := 14) rfl)
theorem w_1170 : Cond.methodLink RX2 166 yX4_trait ∈ TT := WB_13 _ (List.mem_of_getElem? (i := 15) rfl)
theorem w_1171 : Cond.methodLink RX2 169 yJ9_max_7cf53 ∈ TT := WB_13 _ (List.mem_of_getElem? (i := 16) rfl)
theorem w_1172 : Cond.methodLink RX8 245 yX2_earnedAt ∈ TT := WB_13 _ (List.mem_of_getElem? (i := 17) rfl)
theorem w_1173 : Cond.instanceMethod yX2_earnedAt ∈ TT := WB_13 _ (List.mem_of_getElem? (i := 18) rfl)
theorem w_1174 : Cond.selects RX2 yX2_earnedAt yX2_earnedAt ∈ TT := WB_13 _ (List.mem_of_getElem? (i := 19) rfl)
theorem w_1175 : Cond.code yX2_earnedAt cX2_earnedAt 2 (some .int) ∈ TT := WB_13 _ (List.mem_of_getElem? (i := 20) rfl)
theorem w_1183 : Cond.methodLink RX8 252 yX2_slotOf ∈ TT := WB_13 _ (List.mem_of_getElem? (i := 21) rfl)
theorem w_1184 : Cond.instanceMethod yX2_slotOf ∈ TT := WB_13 _ (List.mem_of_getElem? (i := 22) rfl)
theorem w_1185 : Cond.selects RX2 yX2_slotOf yX2_slotOf ∈ TT := WB_13 _ (List.mem_of_getElem? (i := 23) rfl)
theorem w_1186 : Cond.code yX2_slotOf cX2_slotOf 3 (some .int) ∈ TT := WB_13 _ (List.mem_of_getElem? (i := 24) rfl)
theorem w_1201 : Cond.methodLink RX8 265 yX4_isOpen ∈ TT := WB_13 _ (List.mem_of_getElem? (i := 25) rfl)
theorem w_1202 : Cond.instanceMethod yX4_isOpen ∈ TT := WB_13 _ (List.mem_of_getElem? (i := 26) rfl)
theorem w_1203 : Cond.selects RX4 yX4_isOpen yX4_isOpen ∈ TT := WB_13 _ (List.mem_of_getElem? (i := 27) rfl)
theorem w_1204 : Cond.code yX4_isOpen cX4_isOpen 2 (some .boolean) ∈ TT := WB_13 _ (List.mem_of_getElem? (i := 28) rfl)
theorem w_1205 : Cond.methodLink RX8 268 yX4_mayCome ∈ TT := WB_13 _ (List.mem_of_getElem? (i := 29) rfl)
theorem w_1206 : Cond.methodLink RX8 272 yX3_addCrossing ∈ TT := WB_13 _ (List.mem_of_getElem? (i := 30) rfl)
theorem w_1207 : Cond.instanceMethod yX3_addCrossing ∈ TT := WB_13 _ (List.mem_of_getElem? (i := 31) rfl)
theorem w_1208 : Cond.selects RX3 yX3_addCrossing yX3_addCrossing ∈ TT := WB_13 _ (List.mem_of_getElem? (i := 32) rfl)
theorem w_1209 : Cond.code yX3_addCrossing cX3_addCrossing 3 none ∈ TT := WB_13 _ (List.mem_of_getElem? (i := 33) rfl)
theorem w_1210 : Cond.methodLinkNest RX3 48 yX8_put RX8 ∈ TT := WB_13 _ (List.mem_of_getElem? (i := 34) rfl)
theorem w_1218 : Cond.methodLink RX8 279 yX3_sum ∈ TT := WB_13 _ (List.mem_of_getElem? (i := 35) rfl)
theorem w_1219 : Cond.instanceMethod yX3_sum ∈ TT := WB_13 _ (List.mem_of_getElem? (i := 36) rfl)
theorem w_1220 : Cond.selects RX3 yX3_sum yX3_sum ∈ TT := WB_13 _ (List.mem_of_getElem? (i := 37) rfl)
theorem w_1221 : Cond.code yX3_sum cX3_sum 4 (some .int) ∈ TT := WB_13 _ (List.mem_of_getElem? (i := 38) rfl)
theorem w_1229 : Cond.constant RX8 282 99999 ∈ TT := WB_13 _ (List.mem_of_getElem? (i := 39) rfl)
def wl_14 : List Cond := [Cond.methodLink RX8 286 yX0_beTwoLines, Cond.instanceMethod yX0_beTwoLines, Cond.selects RX0 yX0_beTwoLines yX0_beTwoLines, Cond.code yX0_beTwoLines cX0_beTwoLines 3 none, Cond.methodLink RX0 33 yX0_empty, Cond.methodLink RX0 36 yX0_addLine, Cond.instanceMethod yX0_addLine, Cond.code yX0_addLine cX0_addLine 4 none, Cond.methodLink RX0 40 yX0_add, Cond.classLink RX8 292 "java/lang/IllegalStateException", Cond.methodLink RX8 297 yX8_reckonTakings, Cond.instanceMethod yX8_reckonTakings, Cond.code yX8_reckonTakings cX8_reckonTakings 4 none, Cond.methodLink RX8 387 yX8_takingsIndex, Cond.static yX8_takingsIndex, Cond.code yX8_takingsIndex cX8_takingsIndex 3 (some .int), Cond.methodLink RX8 300 yX8_bestReply, Cond.instanceMethod yX8_bestReply, Cond.code yX8_bestReply cX8_bestReply 5 (some .int), Cond.methodLink RX8 306 yX3_addLedgerRow, Cond.instanceMethod yX3_addLedgerRow, Cond.selects RX3 yX3_addLedgerRow yX3_addLedgerRow, Cond.code yX3_addLedgerRow cX3_addLedgerRow 3 none, Cond.methodLink RX8 312 yX8_paysLedger, Cond.instanceMethod yX8_paysLedger, Cond.code yX8_paysLedger cX8_paysLedger 8 (some .boolean), Cond.methodLink RX8 393 yX4_charge, Cond.methodLink RX8 319 yX8_planDays, Cond.instanceMethod yX8_planDays, Cond.code yX8_planDays cX8_planDays 4 none, Cond.methodLink RX8 384 yX6_keep, Cond.instanceMethod yX6_keep, Cond.selects RX6 yX6_keep yX6_keep, Cond.code yX6_keep cX6_keep 6 none, Cond.methodLink RX6 43 yX2_slotOf, Cond.methodLink RX6 49 yX4_slotMinute, Cond.methodLinkNest RX6 52 yX8_put RX8, Cond.methodLinkNest RX6 59 yX8_at RX8, Cond.methodLink RX8 322 yX6_takenUnder, Cond.instanceMethod yX6_takenUnder]
theorem WB_14 : ∀ w ∈ wl_14, w ∈ TT := tt_ps [1244, 1245, 1246, 1247, 1248, 1249, 1251, 1252, 1253, 1262, 1278, 1280, 1281, 1282, 1283, 1284, 1285, 1287, 1288, 1296, 1297, 1298, 1299, 1307, 1309, 1310, 1311, 1319, 1321, 1322, 1323, 1324, 1325, 1326, 1327, 1328, 1329, 1330, 1331, 1332] (by decide +kernel) (by decide +kernel)
theorem w_1244 : Cond.methodLink RX8 286 yX0_beTwoLines ∈ TT := WB_14 _ (List.mem_of_getElem? (i := 0) rfl)
theorem w_1245 : Cond.instanceMethod yX0_beTwoLines ∈ TT := WB_14 _ (List.mem_of_getElem? (i := 1) rfl)
theorem w_1246 : Cond.selects RX0 yX0_beTwoLines yX0_beTwoLines ∈ TT := WB_14 _ (List.mem_of_getElem? (i := 2) rfl)
theorem w_1247 : Cond.code yX0_beTwoLines cX0_beTwoLines 3 none ∈ TT := WB_14 _ (List.mem_of_getElem? (i := 3) rfl)
theorem w_1248 : Cond.methodLink RX0 33 yX0_empty ∈ TT := WB_14 _ (List.mem_of_getElem? (i := 4) rfl)
theorem w_1249 : Cond.methodLink RX0 36 yX0_addLine ∈ TT := WB_14 _ (List.mem_of_getElem? (i := 5) rfl)
theorem w_1251 : Cond.instanceMethod yX0_addLine ∈ TT := WB_14 _ (List.mem_of_getElem? (i := 6) rfl)
theorem w_1252 : Cond.code yX0_addLine cX0_addLine 4 none ∈ TT := WB_14 _ (List.mem_of_getElem? (i := 7) rfl)
theorem w_1253 : Cond.methodLink RX0 40 yX0_add ∈ TT := WB_14 _ (List.mem_of_getElem? (i := 8) rfl)
theorem w_1262 : Cond.classLink RX8 292 "java/lang/IllegalStateException" ∈ TT := WB_14 _ (List.mem_of_getElem? (i := 9) rfl)
theorem w_1278 : Cond.methodLink RX8 297 yX8_reckonTakings ∈ TT := WB_14 _ (List.mem_of_getElem? (i := 10) rfl)
theorem w_1280 : Cond.instanceMethod yX8_reckonTakings ∈ TT := WB_14 _ (List.mem_of_getElem? (i := 11) rfl)
theorem w_1281 : Cond.code yX8_reckonTakings cX8_reckonTakings 4 none ∈ TT := WB_14 _ (List.mem_of_getElem? (i := 12) rfl)
theorem w_1282 : Cond.methodLink RX8 387 yX8_takingsIndex ∈ TT := WB_14 _ (List.mem_of_getElem? (i := 13) rfl)
theorem w_1283 : Cond.static yX8_takingsIndex ∈ TT := WB_14 _ (List.mem_of_getElem? (i := 14) rfl)
theorem w_1284 : Cond.code yX8_takingsIndex cX8_takingsIndex 3 (some .int) ∈ TT := WB_14 _ (List.mem_of_getElem? (i := 15) rfl)
theorem w_1285 : Cond.methodLink RX8 300 yX8_bestReply ∈ TT := WB_14 _ (List.mem_of_getElem? (i := 16) rfl)
theorem w_1287 : Cond.instanceMethod yX8_bestReply ∈ TT := WB_14 _ (List.mem_of_getElem? (i := 17) rfl)
theorem w_1288 : Cond.code yX8_bestReply cX8_bestReply 5 (some .int) ∈ TT := WB_14 _ (List.mem_of_getElem? (i := 18) rfl)
theorem w_1296 : Cond.methodLink RX8 306 yX3_addLedgerRow ∈ TT := WB_14 _ (List.mem_of_getElem? (i := 19) rfl)
theorem w_1297 : Cond.instanceMethod yX3_addLedgerRow ∈ TT := WB_14 _ (List.mem_of_getElem? (i := 20) rfl)
theorem w_1298 : Cond.selects RX3 yX3_addLedgerRow yX3_addLedgerRow ∈ TT := WB_14 _ (List.mem_of_getElem? (i := 21) rfl)
theorem w_1299 : Cond.code yX3_addLedgerRow cX3_addLedgerRow 3 none ∈ TT := WB_14 _ (List.mem_of_getElem? (i := 22) rfl)
theorem w_1307 : Cond.methodLink RX8 312 yX8_paysLedger ∈ TT := WB_14 _ (List.mem_of_getElem? (i := 23) rfl)
theorem w_1309 : Cond.instanceMethod yX8_paysLedger ∈ TT := WB_14 _ (List.mem_of_getElem? (i := 24) rfl)
theorem w_1310 : Cond.code yX8_paysLedger cX8_paysLedger 8 (some .boolean) ∈ TT := WB_14 _ (List.mem_of_getElem? (i := 25) rfl)
theorem w_1311 : Cond.methodLink RX8 393 yX4_charge ∈ TT := WB_14 _ (List.mem_of_getElem? (i := 26) rfl)
theorem w_1319 : Cond.methodLink RX8 319 yX8_planDays ∈ TT := WB_14 _ (List.mem_of_getElem? (i := 27) rfl)
theorem w_1321 : Cond.instanceMethod yX8_planDays ∈ TT := WB_14 _ (List.mem_of_getElem? (i := 28) rfl)
theorem w_1322 : Cond.code yX8_planDays cX8_planDays 4 none ∈ TT := WB_14 _ (List.mem_of_getElem? (i := 29) rfl)
theorem w_1323 : Cond.methodLink RX8 384 yX6_keep ∈ TT := WB_14 _ (List.mem_of_getElem? (i := 30) rfl)
theorem w_1324 : Cond.instanceMethod yX6_keep ∈ TT := WB_14 _ (List.mem_of_getElem? (i := 31) rfl)
theorem w_1325 : Cond.selects RX6 yX6_keep yX6_keep ∈ TT := WB_14 _ (List.mem_of_getElem? (i := 32) rfl)
theorem w_1326 : Cond.code yX6_keep cX6_keep 6 none ∈ TT := WB_14 _ (List.mem_of_getElem? (i := 33) rfl)
theorem w_1327 : Cond.methodLink RX6 43 yX2_slotOf ∈ TT := WB_14 _ (List.mem_of_getElem? (i := 34) rfl)
theorem w_1328 : Cond.methodLink RX6 49 yX4_slotMinute ∈ TT := WB_14 _ (List.mem_of_getElem? (i := 35) rfl)
theorem w_1329 : Cond.methodLinkNest RX6 52 yX8_put RX8 ∈ TT := WB_14 _ (List.mem_of_getElem? (i := 36) rfl)
theorem w_1330 : Cond.methodLinkNest RX6 59 yX8_at RX8 ∈ TT := WB_14 _ (List.mem_of_getElem? (i := 37) rfl)
theorem w_1331 : Cond.methodLink RX8 322 yX6_takenUnder ∈ TT := WB_14 _ (List.mem_of_getElem? (i := 38) rfl)
theorem w_1332 : Cond.instanceMethod yX6_takenUnder ∈ TT := WB_14 _ (List.mem_of_getElem? (i := 39) rfl)
def wl_15 : List Cond := [Cond.selects RX6 yX6_takenUnder yX6_takenUnder, Cond.code yX6_takenUnder cX6_takenUnder 9 (some .int), Cond.methodLink RX9 107 yX9_blank, Cond.static yX9_blank, Cond.code yX9_blank cX9_blank 4 none, Cond.fieldLink RX9 111 RX9 "thrown" "I", Cond.fieldLink RX9 114 RX9 "tape" "I", Cond.fieldLink RX9 117 RX9 "size" "I", Cond.fieldLink RX9 9 RX9 "place" "I", Cond.fieldLink RX9 120 RX9 "at" "I", Cond.fieldLink RX9 127 RX9 "fault" "I", Cond.fieldLink RX9 130 RX9 "faultAt" "I", Cond.fieldLink RX9 169 RX9 "clauses" "I", Cond.fieldLink RX9 166 RX9 "open" "I", Cond.fieldLink RX9 13 RX9 "fed" "[I", Cond.fieldLink RX9 17 RX9 "readTold" "[I", Cond.fieldLink RX9 20 RX9 "told" "[I", Cond.fieldLink RX9 23 RX9 "readSun" "[I", Cond.fieldLink RX9 26 RX9 "sun" "[I", Cond.fieldLink RX9 29 RX9 "readFeast" "[I", Cond.fieldLink RX9 32 RX9 "feast" "[I", Cond.fieldLink RX9 37 RX9 "readWho" "[[I", Cond.fieldLink RX9 40 RX9 "who" "[[I", Cond.fieldLink RX9 221 RX9 "tolls" "I", Cond.fieldLink RX9 224 RX9 "codes" "I", Cond.fieldLink RX9 43 RX9 "tollRows" "[I", Cond.fieldLink RX9 46 RX9 "rowFrom" "[[I", Cond.fieldLink RX9 49 RX9 "rowIf" "[[I", Cond.fieldLink RX9 52 RX9 "rowTo" "[[I", Cond.fieldLink RX9 55 RX9 "code" "[[I", Cond.fieldLink RX9 58 RX9 "stack" "[I", Cond.fieldLink RX9 61 RX9 "names" "[I", Cond.fieldLink RX9 64 RX9 "law" "[I", Cond.fieldLink RX9 67 RX9 "written" "[I", Cond.fieldLink RX9 212 RX9 "crossings" "I", Cond.fieldLink RX9 215 RX9 "rows" "I", Cond.fieldLink RX9 218 RX9 "images" "I", Cond.fieldLink RX9 70 RX9 "crossing" "[[I", Cond.fieldLink RX9 73 RX9 "row" "[[I", Cond.fieldLink RX9 76 RX9 "kept" "[[I"]
theorem WB_15 : ∀ w ∈ wl_15, w ∈ TT := tt_ps [1333, 1334, 1354, 1355, 1356, 1357, 1358, 1359, 1360, 1361, 1362, 1363, 1364, 1365, 1366, 1367, 1368, 1369, 1370, 1371, 1372, 1373, 1374, 1375, 1376, 1378, 1379, 1380, 1381, 1382, 1383, 1384, 1385, 1386, 1387, 1388, 1389, 1390, 1391, 1392] (by decide +kernel) (by decide +kernel)
theorem w_1333 : Cond.selects RX6 yX6_takenUnder yX6_takenUnder ∈ TT := WB_15 _ (List.mem_of_getElem? (i := 0) rfl)
theorem w_1334 : Cond.code yX6_takenUnder cX6_takenUnder 9 (some .int) ∈ TT := WB_15 _ (List.mem_of_getElem? (i := 1) rfl)
theorem w_1354 : Cond.methodLink RX9 107 yX9_blank ∈ TT := WB_15 _ (List.mem_of_getElem? (i := 2) rfl)
theorem w_1355 : Cond.static yX9_blank ∈ TT := WB_15 _ (List.mem_of_getElem? (i := 3) rfl)
theorem w_1356 : Cond.code yX9_blank cX9_blank 4 none ∈ TT := WB_15 _ (List.mem_of_getElem? (i := 4) rfl)
theorem w_1357 : Cond.fieldLink RX9 111 RX9 "thrown" "I" ∈ TT := WB_15 _ (List.mem_of_getElem? (i := 5) rfl)
theorem w_1358 : Cond.fieldLink RX9 114 RX9 "tape" "I" ∈ TT := WB_15 _ (List.mem_of_getElem? (i := 6) rfl)
theorem w_1359 : Cond.fieldLink RX9 117 RX9 "size" "I" ∈ TT := WB_15 _ (List.mem_of_getElem? (i := 7) rfl)
theorem w_1360 : Cond.fieldLink RX9 9 RX9 "place" "I" ∈ TT := WB_15 _ (List.mem_of_getElem? (i := 8) rfl)
theorem w_1361 : Cond.fieldLink RX9 120 RX9 "at" "I" ∈ TT := WB_15 _ (List.mem_of_getElem? (i := 9) rfl)
theorem w_1362 : Cond.fieldLink RX9 127 RX9 "fault" "I" ∈ TT := WB_15 _ (List.mem_of_getElem? (i := 10) rfl)
theorem w_1363 : Cond.fieldLink RX9 130 RX9 "faultAt" "I" ∈ TT := WB_15 _ (List.mem_of_getElem? (i := 11) rfl)
theorem w_1364 : Cond.fieldLink RX9 169 RX9 "clauses" "I" ∈ TT := WB_15 _ (List.mem_of_getElem? (i := 12) rfl)
theorem w_1365 : Cond.fieldLink RX9 166 RX9 "open" "I" ∈ TT := WB_15 _ (List.mem_of_getElem? (i := 13) rfl)
theorem w_1366 : Cond.fieldLink RX9 13 RX9 "fed" "[I" ∈ TT := WB_15 _ (List.mem_of_getElem? (i := 14) rfl)
theorem w_1367 : Cond.fieldLink RX9 17 RX9 "readTold" "[I" ∈ TT := WB_15 _ (List.mem_of_getElem? (i := 15) rfl)
theorem w_1368 : Cond.fieldLink RX9 20 RX9 "told" "[I" ∈ TT := WB_15 _ (List.mem_of_getElem? (i := 16) rfl)
theorem w_1369 : Cond.fieldLink RX9 23 RX9 "readSun" "[I" ∈ TT := WB_15 _ (List.mem_of_getElem? (i := 17) rfl)
theorem w_1370 : Cond.fieldLink RX9 26 RX9 "sun" "[I" ∈ TT := WB_15 _ (List.mem_of_getElem? (i := 18) rfl)
theorem w_1371 : Cond.fieldLink RX9 29 RX9 "readFeast" "[I" ∈ TT := WB_15 _ (List.mem_of_getElem? (i := 19) rfl)
theorem w_1372 : Cond.fieldLink RX9 32 RX9 "feast" "[I" ∈ TT := WB_15 _ (List.mem_of_getElem? (i := 20) rfl)
theorem w_1373 : Cond.fieldLink RX9 37 RX9 "readWho" "[[I" ∈ TT := WB_15 _ (List.mem_of_getElem? (i := 21) rfl)
theorem w_1374 : Cond.fieldLink RX9 40 RX9 "who" "[[I" ∈ TT := WB_15 _ (List.mem_of_getElem? (i := 22) rfl)
theorem w_1375 : Cond.fieldLink RX9 221 RX9 "tolls" "I" ∈ TT := WB_15 _ (List.mem_of_getElem? (i := 23) rfl)
theorem w_1376 : Cond.fieldLink RX9 224 RX9 "codes" "I" ∈ TT := WB_15 _ (List.mem_of_getElem? (i := 24) rfl)
theorem w_1378 : Cond.fieldLink RX9 43 RX9 "tollRows" "[I" ∈ TT := WB_15 _ (List.mem_of_getElem? (i := 25) rfl)
theorem w_1379 : Cond.fieldLink RX9 46 RX9 "rowFrom" "[[I" ∈ TT := WB_15 _ (List.mem_of_getElem? (i := 26) rfl)
theorem w_1380 : Cond.fieldLink RX9 49 RX9 "rowIf" "[[I" ∈ TT := WB_15 _ (List.mem_of_getElem? (i := 27) rfl)
theorem w_1381 : Cond.fieldLink RX9 52 RX9 "rowTo" "[[I" ∈ TT := WB_15 _ (List.mem_of_getElem? (i := 28) rfl)
theorem w_1382 : Cond.fieldLink RX9 55 RX9 "code" "[[I" ∈ TT := WB_15 _ (List.mem_of_getElem? (i := 29) rfl)
theorem w_1383 : Cond.fieldLink RX9 58 RX9 "stack" "[I" ∈ TT := WB_15 _ (List.mem_of_getElem? (i := 30) rfl)
theorem w_1384 : Cond.fieldLink RX9 61 RX9 "names" "[I" ∈ TT := WB_15 _ (List.mem_of_getElem? (i := 31) rfl)
theorem w_1385 : Cond.fieldLink RX9 64 RX9 "law" "[I" ∈ TT := WB_15 _ (List.mem_of_getElem? (i := 32) rfl)
theorem w_1386 : Cond.fieldLink RX9 67 RX9 "written" "[I" ∈ TT := WB_15 _ (List.mem_of_getElem? (i := 33) rfl)
theorem w_1387 : Cond.fieldLink RX9 212 RX9 "crossings" "I" ∈ TT := WB_15 _ (List.mem_of_getElem? (i := 34) rfl)
theorem w_1388 : Cond.fieldLink RX9 215 RX9 "rows" "I" ∈ TT := WB_15 _ (List.mem_of_getElem? (i := 35) rfl)
theorem w_1389 : Cond.fieldLink RX9 218 RX9 "images" "I" ∈ TT := WB_15 _ (List.mem_of_getElem? (i := 36) rfl)
theorem w_1390 : Cond.fieldLink RX9 70 RX9 "crossing" "[[I" ∈ TT := WB_15 _ (List.mem_of_getElem? (i := 37) rfl)
theorem w_1391 : Cond.fieldLink RX9 73 RX9 "row" "[[I" ∈ TT := WB_15 _ (List.mem_of_getElem? (i := 38) rfl)
theorem w_1392 : Cond.fieldLink RX9 76 RX9 "kept" "[[I" ∈ TT := WB_15 _ (List.mem_of_getElem? (i := 39) rfl)
def wl_16 : List Cond := [Cond.fieldLink RX9 415 RX9 "spot" "I", Cond.fieldLink RX9 81 RX9 "cost" "[[[I", Cond.fieldLink RX9 84 RX9 "coin" "[[[I", Cond.fieldLink RX9 89 RX9 "may" "[[Z", Cond.fieldLink RX9 92 RX9 "least" "[[I", Cond.fieldLink RX9 95 RX9 "has" "[I", Cond.fieldLink RX9 333 RX9 "firstSlots" "I", Cond.fieldLink RX9 336 RX9 "allSlots" "I", Cond.fieldLink RX9 369 RX9 "planLeft" "I", Cond.fieldLink RX9 372 RX9 "planCost" "I", Cond.fieldLink RX9 375 RX9 "planJam" "I", Cond.fieldLink RX9 98 RX9 "earned" "[I", Cond.fieldLink RX9 101 RX9 "lineA" "I", Cond.fieldLink RX9 303 RX9 "lineB" "I", Cond.fieldLink RX9 104 RX9 "seasonHas" "[[I", Cond.fieldLink RX9 399 RX9 "seed" "I", Cond.methodLink RX9 145 yX9_in, Cond.static yX9_in, Cond.code yX9_in cX9_in 3 (some .boolean), Cond.methodLink RX9 202 yX9_bad, Cond.instanceMethod yX9_bad, Cond.code yX9_bad cX9_bad 3 (some .boolean), Cond.methodLink RX9 206 yX9_starts, Cond.instanceMethod yX9_starts, Cond.code yX9_starts cX9_starts 2 none, Cond.methodLink RX9 133 yX9_blanks, Cond.instanceMethod yX9_blanks, Cond.code yX9_blanks cX9_blanks 1 none, Cond.methodLink RX9 123 yX9_byteAt, Cond.instanceMethod yX9_byteAt, Cond.code yX9_byteAt cX9_byteAt 2 (some .int), Cond.methodLink RX9 209 yX9_clause, Cond.instanceMethod yX9_clause, Cond.code yX9_clause cX9_clause 2 none, Cond.methodLink RX9 184 yX9_kindHere, Cond.instanceMethod yX9_kindHere, Cond.code yX9_kindHere cX9_kindHere 1 (some .int), Cond.methodLink RX9 172 yX9_five, Cond.static yX9_five, Cond.code yX9_five cX9_five 7 (some .long)]
theorem WB_16 : ∀ w ∈ wl_16, w ∈ TT := tt_ps [1393, 1394, 1395, 1396, 1397, 1398, 1399, 1400, 1401, 1402, 1403, 1404, 1405, 1406, 1407, 1408, 1527, 1528, 1529, 1530, 1532, 1533, 1534, 1536, 1537, 1538, 1540, 1541, 1542, 1544, 1545, 1546, 1548, 1549, 1550, 1552, 1553, 1554, 1555, 1556] (by decide +kernel) (by decide +kernel)
theorem w_1393 : Cond.fieldLink RX9 415 RX9 "spot" "I" ∈ TT := WB_16 _ (List.mem_of_getElem? (i := 0) rfl)
theorem w_1394 : Cond.fieldLink RX9 81 RX9 "cost" "[[[I" ∈ TT := WB_16 _ (List.mem_of_getElem? (i := 1) rfl)
theorem w_1395 : Cond.fieldLink RX9 84 RX9 "coin" "[[[I" ∈ TT := WB_16 _ (List.mem_of_getElem? (i := 2) rfl)
theorem w_1396 : Cond.fieldLink RX9 89 RX9 "may" "[[Z" ∈ TT := WB_16 _ (List.mem_of_getElem? (i := 3) rfl)
theorem w_1397 : Cond.fieldLink RX9 92 RX9 "least" "[[I" ∈ TT := WB_16 _ (List.mem_of_getElem? (i := 4) rfl)
theorem w_1398 : Cond.fieldLink RX9 95 RX9 "has" "[I" ∈ TT := WB_16 _ (List.mem_of_getElem? (i := 5) rfl)
theorem w_1399 : Cond.fieldLink RX9 333 RX9 "firstSlots" "I" ∈ TT := WB_16 _ (List.mem_of_getElem? (i := 6) rfl)
theorem w_1400 : Cond.fieldLink RX9 336 RX9 "allSlots" "I" ∈ TT := WB_16 _ (List.mem_of_getElem? (i := 7) rfl)
theorem w_1401 : Cond.fieldLink RX9 369 RX9 "planLeft" "I" ∈ TT := WB_16 _ (List.mem_of_getElem? (i := 8) rfl)
theorem w_1402 : Cond.fieldLink RX9 372 RX9 "planCost" "I" ∈ TT := WB_16 _ (List.mem_of_getElem? (i := 9) rfl)
theorem w_1403 : Cond.fieldLink RX9 375 RX9 "planJam" "I" ∈ TT := WB_16 _ (List.mem_of_getElem? (i := 10) rfl)
theorem w_1404 : Cond.fieldLink RX9 98 RX9 "earned" "[I" ∈ TT := WB_16 _ (List.mem_of_getElem? (i := 11) rfl)
theorem w_1405 : Cond.fieldLink RX9 101 RX9 "lineA" "I" ∈ TT := WB_16 _ (List.mem_of_getElem? (i := 12) rfl)
theorem w_1406 : Cond.fieldLink RX9 303 RX9 "lineB" "I" ∈ TT := WB_16 _ (List.mem_of_getElem? (i := 13) rfl)
theorem w_1407 : Cond.fieldLink RX9 104 RX9 "seasonHas" "[[I" ∈ TT := WB_16 _ (List.mem_of_getElem? (i := 14) rfl)
theorem w_1408 : Cond.fieldLink RX9 399 RX9 "seed" "I" ∈ TT := WB_16 _ (List.mem_of_getElem? (i := 15) rfl)
theorem w_1527 : Cond.methodLink RX9 145 yX9_in ∈ TT := WB_16 _ (List.mem_of_getElem? (i := 16) rfl)
theorem w_1528 : Cond.static yX9_in ∈ TT := WB_16 _ (List.mem_of_getElem? (i := 17) rfl)
theorem w_1529 : Cond.code yX9_in cX9_in 3 (some .boolean) ∈ TT := WB_16 _ (List.mem_of_getElem? (i := 18) rfl)
theorem w_1530 : Cond.methodLink RX9 202 yX9_bad ∈ TT := WB_16 _ (List.mem_of_getElem? (i := 19) rfl)
theorem w_1532 : Cond.instanceMethod yX9_bad ∈ TT := WB_16 _ (List.mem_of_getElem? (i := 20) rfl)
theorem w_1533 : Cond.code yX9_bad cX9_bad 3 (some .boolean) ∈ TT := WB_16 _ (List.mem_of_getElem? (i := 21) rfl)
theorem w_1534 : Cond.methodLink RX9 206 yX9_starts ∈ TT := WB_16 _ (List.mem_of_getElem? (i := 22) rfl)
theorem w_1536 : Cond.instanceMethod yX9_starts ∈ TT := WB_16 _ (List.mem_of_getElem? (i := 23) rfl)
theorem w_1537 : Cond.code yX9_starts cX9_starts 2 none ∈ TT := WB_16 _ (List.mem_of_getElem? (i := 24) rfl)
theorem w_1538 : Cond.methodLink RX9 133 yX9_blanks ∈ TT := WB_16 _ (List.mem_of_getElem? (i := 25) rfl)
theorem w_1540 : Cond.instanceMethod yX9_blanks ∈ TT := WB_16 _ (List.mem_of_getElem? (i := 26) rfl)
theorem w_1541 : Cond.code yX9_blanks cX9_blanks 1 none ∈ TT := WB_16 _ (List.mem_of_getElem? (i := 27) rfl)
theorem w_1542 : Cond.methodLink RX9 123 yX9_byteAt ∈ TT := WB_16 _ (List.mem_of_getElem? (i := 28) rfl)
theorem w_1544 : Cond.instanceMethod yX9_byteAt ∈ TT := WB_16 _ (List.mem_of_getElem? (i := 29) rfl)
theorem w_1545 : Cond.code yX9_byteAt cX9_byteAt 2 (some .int) ∈ TT := WB_16 _ (List.mem_of_getElem? (i := 30) rfl)
theorem w_1546 : Cond.methodLink RX9 209 yX9_clause ∈ TT := WB_16 _ (List.mem_of_getElem? (i := 31) rfl)
theorem w_1548 : Cond.instanceMethod yX9_clause ∈ TT := WB_16 _ (List.mem_of_getElem? (i := 32) rfl)
theorem w_1549 : Cond.code yX9_clause cX9_clause 2 none ∈ TT := WB_16 _ (List.mem_of_getElem? (i := 33) rfl)
theorem w_1550 : Cond.methodLink RX9 184 yX9_kindHere ∈ TT := WB_16 _ (List.mem_of_getElem? (i := 34) rfl)
theorem w_1552 : Cond.instanceMethod yX9_kindHere ∈ TT := WB_16 _ (List.mem_of_getElem? (i := 35) rfl)
theorem w_1553 : Cond.code yX9_kindHere cX9_kindHere 1 (some .int) ∈ TT := WB_16 _ (List.mem_of_getElem? (i := 36) rfl)
theorem w_1554 : Cond.methodLink RX9 172 yX9_five ∈ TT := WB_16 _ (List.mem_of_getElem? (i := 37) rfl)
theorem w_1555 : Cond.static yX9_five ∈ TT := WB_16 _ (List.mem_of_getElem? (i := 38) rfl)
theorem w_1556 : Cond.code yX9_five cX9_five 7 (some .long) ∈ TT := WB_16 _ (List.mem_of_getElem? (i := 39) rfl)
def wl_17 : List Cond := [Cond.constantLong RX9 149 27, Cond.methodLink RX9 159 yX9_isWord, Cond.instanceMethod yX9_isWord, Cond.code yX9_isWord cX9_isWord 3 (some .boolean), Cond.methodLink RX9 155 yX9_wordHere, Cond.instanceMethod yX9_wordHere, Cond.code yX9_wordHere cX9_wordHere 4 (some .long), Cond.constantLong RX9 151 97, Cond.constantLong RX9 153 (-1), Cond.constantLong RX9 176 18, Cond.constantLong RX9 178 12, Cond.constantLong RX9 180 5, Cond.constantLong RX9 182 4, Cond.methodLink RX9 140 yX9_wrong, Cond.instanceMethod yX9_wrong, Cond.code yX9_wrong cX9_wrong 3 none, Cond.methodLink RX9 163 yX9_skipWord, Cond.instanceMethod yX9_skipWord, Cond.code yX9_skipWord cX9_skipWord 1 none, Cond.methodLink RX9 188 yX9_reads, Cond.instanceMethod yX9_reads, Cond.code yX9_reads cX9_reads 5 none, Cond.methodLink RX9 195 yX9_number, Cond.instanceMethod yX9_number, Cond.code yX9_number cX9_number 5 (some .int), Cond.methodLink RX9 136 yX9_isDigit, Cond.static yX9_isDigit, Cond.code yX9_isDigit cX9_isDigit 1 (some .boolean), Cond.constant RX9 144 100000, Cond.methodLink RX9 199 yX9_readsWho, Cond.instanceMethod yX9_readsWho, Cond.code yX9_readsWho cX9_readsWho 2 none, Cond.methodLink RX9 192 yX9_sign, Cond.instanceMethod yX9_sign, Cond.code yX9_sign cX9_sign 2 none, Cond.constantLong RX9 239 23, Cond.constantLong RX9 241 20, Cond.methodLink RX9 278 yX9_isWho, Cond.instanceMethod yX9_isWho, Cond.code yX9_isWho cX9_isWho 2 (some .boolean)]
theorem WB_17 : ∀ w ∈ wl_17, w ∈ TT := tt_ps [1557, 1558, 1560, 1561, 1562, 1564, 1565, 1566, 1567, 1568, 1569, 1570, 1571, 1572, 1574, 1575, 1576, 1578, 1579, 1580, 1582, 1583, 1584, 1586, 1587, 1588, 1589, 1590, 1591, 1592, 1594, 1595, 1596, 1598, 1599, 1628, 1629, 1668, 1670, 1671] (by decide +kernel) (by decide +kernel)
theorem w_1557 : Cond.constantLong RX9 149 27 ∈ TT := WB_17 _ (List.mem_of_getElem? (i := 0) rfl)
theorem w_1558 : Cond.methodLink RX9 159 yX9_isWord ∈ TT := WB_17 _ (List.mem_of_getElem? (i := 1) rfl)
theorem w_1560 : Cond.instanceMethod yX9_isWord ∈ TT := WB_17 _ (List.mem_of_getElem? (i := 2) rfl)
theorem w_1561 : Cond.code yX9_isWord cX9_isWord 3 (some .boolean) ∈ TT := WB_17 _ (List.mem_of_getElem? (i := 3) rfl)
theorem w_1562 : Cond.methodLink RX9 155 yX9_wordHere ∈ TT := WB_17 _ (List.mem_of_getElem? (i := 4) rfl)
theorem w_1564 : Cond.instanceMethod yX9_wordHere ∈ TT := WB_17 _ (List.mem_of_getElem? (i := 5) rfl)
theorem w_1565 : Cond.code yX9_wordHere cX9_wordHere 4 (some .long) ∈ TT := WB_17 _ (List.mem_of_getElem? (i := 6) rfl)
theorem w_1566 : Cond.constantLong RX9 151 97 ∈ TT := WB_17 _ (List.mem_of_getElem? (i := 7) rfl)
theorem w_1567 : Cond.constantLong RX9 153 (-1) ∈ TT := WB_17 _ (List.mem_of_getElem? (i := 8) rfl)
theorem w_1568 : Cond.constantLong RX9 176 18 ∈ TT := WB_17 _ (List.mem_of_getElem? (i := 9) rfl)
theorem w_1569 : Cond.constantLong RX9 178 12 ∈ TT := WB_17 _ (List.mem_of_getElem? (i := 10) rfl)
theorem w_1570 : Cond.constantLong RX9 180 5 ∈ TT := WB_17 _ (List.mem_of_getElem? (i := 11) rfl)
theorem w_1571 : Cond.constantLong RX9 182 4 ∈ TT := WB_17 _ (List.mem_of_getElem? (i := 12) rfl)
theorem w_1572 : Cond.methodLink RX9 140 yX9_wrong ∈ TT := WB_17 _ (List.mem_of_getElem? (i := 13) rfl)
theorem w_1574 : Cond.instanceMethod yX9_wrong ∈ TT := WB_17 _ (List.mem_of_getElem? (i := 14) rfl)
theorem w_1575 : Cond.code yX9_wrong cX9_wrong 3 none ∈ TT := WB_17 _ (List.mem_of_getElem? (i := 15) rfl)
theorem w_1576 : Cond.methodLink RX9 163 yX9_skipWord ∈ TT := WB_17 _ (List.mem_of_getElem? (i := 16) rfl)
theorem w_1578 : Cond.instanceMethod yX9_skipWord ∈ TT := WB_17 _ (List.mem_of_getElem? (i := 17) rfl)
theorem w_1579 : Cond.code yX9_skipWord cX9_skipWord 1 none ∈ TT := WB_17 _ (List.mem_of_getElem? (i := 18) rfl)
theorem w_1580 : Cond.methodLink RX9 188 yX9_reads ∈ TT := WB_17 _ (List.mem_of_getElem? (i := 19) rfl)
theorem w_1582 : Cond.instanceMethod yX9_reads ∈ TT := WB_17 _ (List.mem_of_getElem? (i := 20) rfl)
theorem w_1583 : Cond.code yX9_reads cX9_reads 5 none ∈ TT := WB_17 _ (List.mem_of_getElem? (i := 21) rfl)
theorem w_1584 : Cond.methodLink RX9 195 yX9_number ∈ TT := WB_17 _ (List.mem_of_getElem? (i := 22) rfl)
theorem w_1586 : Cond.instanceMethod yX9_number ∈ TT := WB_17 _ (List.mem_of_getElem? (i := 23) rfl)
theorem w_1587 : Cond.code yX9_number cX9_number 5 (some .int) ∈ TT := WB_17 _ (List.mem_of_getElem? (i := 24) rfl)
theorem w_1588 : Cond.methodLink RX9 136 yX9_isDigit ∈ TT := WB_17 _ (List.mem_of_getElem? (i := 25) rfl)
theorem w_1589 : Cond.static yX9_isDigit ∈ TT := WB_17 _ (List.mem_of_getElem? (i := 26) rfl)
theorem w_1590 : Cond.code yX9_isDigit cX9_isDigit 1 (some .boolean) ∈ TT := WB_17 _ (List.mem_of_getElem? (i := 27) rfl)
theorem w_1591 : Cond.constant RX9 144 100000 ∈ TT := WB_17 _ (List.mem_of_getElem? (i := 28) rfl)
theorem w_1592 : Cond.methodLink RX9 199 yX9_readsWho ∈ TT := WB_17 _ (List.mem_of_getElem? (i := 29) rfl)
theorem w_1594 : Cond.instanceMethod yX9_readsWho ∈ TT := WB_17 _ (List.mem_of_getElem? (i := 30) rfl)
theorem w_1595 : Cond.code yX9_readsWho cX9_readsWho 2 none ∈ TT := WB_17 _ (List.mem_of_getElem? (i := 31) rfl)
theorem w_1596 : Cond.methodLink RX9 192 yX9_sign ∈ TT := WB_17 _ (List.mem_of_getElem? (i := 32) rfl)
theorem w_1598 : Cond.instanceMethod yX9_sign ∈ TT := WB_17 _ (List.mem_of_getElem? (i := 33) rfl)
theorem w_1599 : Cond.code yX9_sign cX9_sign 2 none ∈ TT := WB_17 _ (List.mem_of_getElem? (i := 34) rfl)
theorem w_1628 : Cond.constantLong RX9 239 23 ∈ TT := WB_17 _ (List.mem_of_getElem? (i := 35) rfl)
theorem w_1629 : Cond.constantLong RX9 241 20 ∈ TT := WB_17 _ (List.mem_of_getElem? (i := 36) rfl)
theorem w_1668 : Cond.methodLink RX9 278 yX9_isWho ∈ TT := WB_17 _ (List.mem_of_getElem? (i := 37) rfl)
theorem w_1670 : Cond.instanceMethod yX9_isWho ∈ TT := WB_17 _ (List.mem_of_getElem? (i := 38) rfl)
theorem w_1671 : Cond.code yX9_isWho cX9_isWho 2 (some .boolean) ∈ TT := WB_17 _ (List.mem_of_getElem? (i := 39) rfl)
def wl_18 : List Cond := [Cond.methodLink RX9 281 yX9_isDay, Cond.static yX9_isDay, Cond.code yX9_isDay cX9_isDay 1 (some .boolean), Cond.methodLink RX9 284 yX9_noon, Cond.instanceMethod yX9_noon, Cond.code yX9_noon cX9_noon 4 (some .int), Cond.methodLink RX9 290 yX9_isBridge, Cond.instanceMethod yX9_isBridge, Cond.code yX9_isBridge cX9_isBridge 2 (some .boolean), Cond.methodLink RX9 293 yX9_isMinute, Cond.static yX9_isMinute, Cond.code yX9_isMinute cX9_isMinute 1 (some .boolean), Cond.methodLink RX9 296 yX9_altitudeOf, Cond.instanceMethod yX9_altitudeOf, Cond.code yX9_altitudeOf cX9_altitudeOf 5 (some .int), Cond.methodLink RX9 287 yX9_amount, Cond.static yX9_amount, Cond.code yX9_amount cX9_amount 1 (some .int), Cond.methodLink RX9 299 yX9_shadowOf, Cond.instanceMethod yX9_shadowOf, Cond.code yX9_shadowOf cX9_shadowOf 7 (some .int), Cond.methodLink RX9 316 yX9_coinsOf, Cond.instanceMethod yX9_coinsOf, Cond.code yX9_coinsOf cX9_coinsOf 9 (some .int), Cond.methodLink RX9 312 yX9_paid, Cond.instanceMethod yX9_paid, Cond.code yX9_paid cX9_paid 12 (some .int), Cond.methodLink RX9 306 yX9_comes, Cond.instanceMethod yX9_comes, Cond.code yX9_comes cX9_comes 6 (some .int), Cond.methodLink RX9 274 yX9_both, Cond.static yX9_both, Cond.code yX9_both cX9_both 3 (some .int), Cond.constantLong RX9 310 9999, Cond.methodLink RX9 327 yX9_bestMinute, Cond.instanceMethod yX9_bestMinute, Cond.code yX9_bestMinute cX9_bestMinute 8 (some .int), Cond.methodLink RX9 320 yX9_canCome, Cond.instanceMethod yX9_canCome, Cond.code yX9_canCome cX9_canCome 3 (some .boolean)]
theorem WB_18 : ∀ w ∈ wl_18, w ∈ TT := tt_ps [1676, 1677, 1678, 1679, 1681, 1682, 1687, 1689, 1690, 1691, 1692, 1693, 1694, 1696, 1697, 1698, 1699, 1700, 1705, 1707, 1708, 1717, 1719, 1720, 1721, 1723, 1724, 1725, 1727, 1728, 1729, 1730, 1731, 1732, 1737, 1739, 1740, 1741, 1743, 1744] (by decide +kernel) (by decide +kernel)
theorem w_1676 : Cond.methodLink RX9 281 yX9_isDay ∈ TT := WB_18 _ (List.mem_of_getElem? (i := 0) rfl)
theorem w_1677 : Cond.static yX9_isDay ∈ TT := WB_18 _ (List.mem_of_getElem? (i := 1) rfl)
theorem w_1678 : Cond.code yX9_isDay cX9_isDay 1 (some .boolean) ∈ TT := WB_18 _ (List.mem_of_getElem? (i := 2) rfl)
theorem w_1679 : Cond.methodLink RX9 284 yX9_noon ∈ TT := WB_18 _ (List.mem_of_getElem? (i := 3) rfl)
theorem w_1681 : Cond.instanceMethod yX9_noon ∈ TT := WB_18 _ (List.mem_of_getElem? (i := 4) rfl)
theorem w_1682 : Cond.code yX9_noon cX9_noon 4 (some .int) ∈ TT := WB_18 _ (List.mem_of_getElem? (i := 5) rfl)
theorem w_1687 : Cond.methodLink RX9 290 yX9_isBridge ∈ TT := WB_18 _ (List.mem_of_getElem? (i := 6) rfl)
theorem w_1689 : Cond.instanceMethod yX9_isBridge ∈ TT := WB_18 _ (List.mem_of_getElem? (i := 7) rfl)
theorem w_1690 : Cond.code yX9_isBridge cX9_isBridge 2 (some .boolean) ∈ TT := WB_18 _ (List.mem_of_getElem? (i := 8) rfl)
theorem w_1691 : Cond.methodLink RX9 293 yX9_isMinute ∈ TT := WB_18 _ (List.mem_of_getElem? (i := 9) rfl)
theorem w_1692 : Cond.static yX9_isMinute ∈ TT := WB_18 _ (List.mem_of_getElem? (i := 10) rfl)
theorem w_1693 : Cond.code yX9_isMinute cX9_isMinute 1 (some .boolean) ∈ TT := WB_18 _ (List.mem_of_getElem? (i := 11) rfl)
theorem w_1694 : Cond.methodLink RX9 296 yX9_altitudeOf ∈ TT := WB_18 _ (List.mem_of_getElem? (i := 12) rfl)
theorem w_1696 : Cond.instanceMethod yX9_altitudeOf ∈ TT := WB_18 _ (List.mem_of_getElem? (i := 13) rfl)
theorem w_1697 : Cond.code yX9_altitudeOf cX9_altitudeOf 5 (some .int) ∈ TT := WB_18 _ (List.mem_of_getElem? (i := 14) rfl)
theorem w_1698 : Cond.methodLink RX9 287 yX9_amount ∈ TT := WB_18 _ (List.mem_of_getElem? (i := 15) rfl)
theorem w_1699 : Cond.static yX9_amount ∈ TT := WB_18 _ (List.mem_of_getElem? (i := 16) rfl)
theorem w_1700 : Cond.code yX9_amount cX9_amount 1 (some .int) ∈ TT := WB_18 _ (List.mem_of_getElem? (i := 17) rfl)
theorem w_1705 : Cond.methodLink RX9 299 yX9_shadowOf ∈ TT := WB_18 _ (List.mem_of_getElem? (i := 18) rfl)
theorem w_1707 : Cond.instanceMethod yX9_shadowOf ∈ TT := WB_18 _ (List.mem_of_getElem? (i := 19) rfl)
theorem w_1708 : Cond.code yX9_shadowOf cX9_shadowOf 7 (some .int) ∈ TT := WB_18 _ (List.mem_of_getElem? (i := 20) rfl)
theorem w_1717 : Cond.methodLink RX9 316 yX9_coinsOf ∈ TT := WB_18 _ (List.mem_of_getElem? (i := 21) rfl)
theorem w_1719 : Cond.instanceMethod yX9_coinsOf ∈ TT := WB_18 _ (List.mem_of_getElem? (i := 22) rfl)
theorem w_1720 : Cond.code yX9_coinsOf cX9_coinsOf 9 (some .int) ∈ TT := WB_18 _ (List.mem_of_getElem? (i := 23) rfl)
theorem w_1721 : Cond.methodLink RX9 312 yX9_paid ∈ TT := WB_18 _ (List.mem_of_getElem? (i := 24) rfl)
theorem w_1723 : Cond.instanceMethod yX9_paid ∈ TT := WB_18 _ (List.mem_of_getElem? (i := 25) rfl)
theorem w_1724 : Cond.code yX9_paid cX9_paid 12 (some .int) ∈ TT := WB_18 _ (List.mem_of_getElem? (i := 26) rfl)
theorem w_1725 : Cond.methodLink RX9 306 yX9_comes ∈ TT := WB_18 _ (List.mem_of_getElem? (i := 27) rfl)
theorem w_1727 : Cond.instanceMethod yX9_comes ∈ TT := WB_18 _ (List.mem_of_getElem? (i := 28) rfl)
theorem w_1728 : Cond.code yX9_comes cX9_comes 6 (some .int) ∈ TT := WB_18 _ (List.mem_of_getElem? (i := 29) rfl)
theorem w_1729 : Cond.methodLink RX9 274 yX9_both ∈ TT := WB_18 _ (List.mem_of_getElem? (i := 30) rfl)
theorem w_1730 : Cond.static yX9_both ∈ TT := WB_18 _ (List.mem_of_getElem? (i := 31) rfl)
theorem w_1731 : Cond.code yX9_both cX9_both 3 (some .int) ∈ TT := WB_18 _ (List.mem_of_getElem? (i := 32) rfl)
theorem w_1732 : Cond.constantLong RX9 310 9999 ∈ TT := WB_18 _ (List.mem_of_getElem? (i := 33) rfl)
theorem w_1737 : Cond.methodLink RX9 327 yX9_bestMinute ∈ TT := WB_18 _ (List.mem_of_getElem? (i := 34) rfl)
theorem w_1739 : Cond.instanceMethod yX9_bestMinute ∈ TT := WB_18 _ (List.mem_of_getElem? (i := 35) rfl)
theorem w_1740 : Cond.code yX9_bestMinute cX9_bestMinute 8 (some .int) ∈ TT := WB_18 _ (List.mem_of_getElem? (i := 36) rfl)
theorem w_1741 : Cond.methodLink RX9 320 yX9_canCome ∈ TT := WB_18 _ (List.mem_of_getElem? (i := 37) rfl)
theorem w_1743 : Cond.instanceMethod yX9_canCome ∈ TT := WB_18 _ (List.mem_of_getElem? (i := 38) rfl)
theorem w_1744 : Cond.code yX9_canCome cX9_canCome 3 (some .boolean) ∈ TT := WB_18 _ (List.mem_of_getElem? (i := 39) rfl)
def wl_19 : List Cond := [Cond.methodLink RX9 324 yX9_costOf, Cond.instanceMethod yX9_costOf, Cond.code yX9_costOf cX9_costOf 6 (some .int), Cond.methodLink RX9 330 yX9_slotsOf, Cond.instanceMethod yX9_slotsOf, Cond.code yX9_slotsOf cX9_slotsOf 2 (some .int), Cond.methodLink RX9 381 yX9_isPlan, Cond.instanceMethod yX9_isPlan, Cond.code yX9_isPlan cX9_isPlan 4 (some .boolean), Cond.methodLink RX9 378 yX9_everybody, Cond.instanceMethod yX9_everybody, Cond.code yX9_everybody cX9_everybody 1 (some .int), Cond.methodLink RX9 385 yX9_findPlan, Cond.instanceMethod yX9_findPlan, Cond.code yX9_findPlan cX9_findPlan 9 none, Cond.methodLink RX9 362 yX9_layCoins, Cond.instanceMethod yX9_layCoins, Cond.code yX9_layCoins cX9_layCoins 8 none, Cond.methodLink RX9 339 yX9_minuteOf, Cond.instanceMethod yX9_minuteOf, Cond.code yX9_minuteOf cX9_minuteOf 2 (some .int), Cond.methodLink RX9 366 yX9_layLeast, Cond.instanceMethod yX9_layLeast, Cond.code yX9_layLeast cX9_layLeast 5 none, Cond.constant RX9 345 1000000, Cond.methodLink RX9 346 yX9_ones, Cond.static yX9_ones, Cond.code yX9_ones cX9_ones 3 (some .int), Cond.methodLink RX9 349 yX9_lastAt, Cond.instanceMethod yX9_lastAt, Cond.code yX9_lastAt cX9_lastAt 3 (some .int), Cond.methodLink RX9 352 yX9_leastAt, Cond.instanceMethod yX9_leastAt, Cond.code yX9_leastAt cX9_leastAt 8 (some .int), Cond.methodLink RX9 355 yX9_canHave, Cond.instanceMethod yX9_canHave, Cond.code yX9_canHave cX9_canHave 5 (some .boolean), Cond.methodLink RX9 359 yX9_isDark, Cond.instanceMethod yX9_isDark, Cond.code yX9_isDark cX9_isDark 3 (some .int)]
theorem WB_19 : ∀ w ∈ wl_19, w ∈ TT := tt_ps [1745, 1747, 1748, 1757, 1759, 1760, 1765, 1767, 1768, 1769, 1771, 1772, 1773, 1775, 1776, 1777, 1779, 1780, 1781, 1783, 1784, 1785, 1787, 1788, 1789, 1790, 1791, 1792, 1793, 1795, 1796, 1797, 1799, 1800, 1801, 1803, 1804, 1805, 1807, 1808] (by decide +kernel) (by decide +kernel)
theorem w_1745 : Cond.methodLink RX9 324 yX9_costOf ∈ TT := WB_19 _ (List.mem_of_getElem? (i := 0) rfl)
theorem w_1747 : Cond.instanceMethod yX9_costOf ∈ TT := WB_19 _ (List.mem_of_getElem? (i := 1) rfl)
theorem w_1748 : Cond.code yX9_costOf cX9_costOf 6 (some .int) ∈ TT := WB_19 _ (List.mem_of_getElem? (i := 2) rfl)
theorem w_1757 : Cond.methodLink RX9 330 yX9_slotsOf ∈ TT := WB_19 _ (List.mem_of_getElem? (i := 3) rfl)
theorem w_1759 : Cond.instanceMethod yX9_slotsOf ∈ TT := WB_19 _ (List.mem_of_getElem? (i := 4) rfl)
theorem w_1760 : Cond.code yX9_slotsOf cX9_slotsOf 2 (some .int) ∈ TT := WB_19 _ (List.mem_of_getElem? (i := 5) rfl)
theorem w_1765 : Cond.methodLink RX9 381 yX9_isPlan ∈ TT := WB_19 _ (List.mem_of_getElem? (i := 6) rfl)
theorem w_1767 : Cond.instanceMethod yX9_isPlan ∈ TT := WB_19 _ (List.mem_of_getElem? (i := 7) rfl)
theorem w_1768 : Cond.code yX9_isPlan cX9_isPlan 4 (some .boolean) ∈ TT := WB_19 _ (List.mem_of_getElem? (i := 8) rfl)
theorem w_1769 : Cond.methodLink RX9 378 yX9_everybody ∈ TT := WB_19 _ (List.mem_of_getElem? (i := 9) rfl)
theorem w_1771 : Cond.instanceMethod yX9_everybody ∈ TT := WB_19 _ (List.mem_of_getElem? (i := 10) rfl)
theorem w_1772 : Cond.code yX9_everybody cX9_everybody 1 (some .int) ∈ TT := WB_19 _ (List.mem_of_getElem? (i := 11) rfl)
theorem w_1773 : Cond.methodLink RX9 385 yX9_findPlan ∈ TT := WB_19 _ (List.mem_of_getElem? (i := 12) rfl)
theorem w_1775 : Cond.instanceMethod yX9_findPlan ∈ TT := WB_19 _ (List.mem_of_getElem? (i := 13) rfl)
theorem w_1776 : Cond.code yX9_findPlan cX9_findPlan 9 none ∈ TT := WB_19 _ (List.mem_of_getElem? (i := 14) rfl)
theorem w_1777 : Cond.methodLink RX9 362 yX9_layCoins ∈ TT := WB_19 _ (List.mem_of_getElem? (i := 15) rfl)
theorem w_1779 : Cond.instanceMethod yX9_layCoins ∈ TT := WB_19 _ (List.mem_of_getElem? (i := 16) rfl)
theorem w_1780 : Cond.code yX9_layCoins cX9_layCoins 8 none ∈ TT := WB_19 _ (List.mem_of_getElem? (i := 17) rfl)
theorem w_1781 : Cond.methodLink RX9 339 yX9_minuteOf ∈ TT := WB_19 _ (List.mem_of_getElem? (i := 18) rfl)
theorem w_1783 : Cond.instanceMethod yX9_minuteOf ∈ TT := WB_19 _ (List.mem_of_getElem? (i := 19) rfl)
theorem w_1784 : Cond.code yX9_minuteOf cX9_minuteOf 2 (some .int) ∈ TT := WB_19 _ (List.mem_of_getElem? (i := 20) rfl)
theorem w_1785 : Cond.methodLink RX9 366 yX9_layLeast ∈ TT := WB_19 _ (List.mem_of_getElem? (i := 21) rfl)
theorem w_1787 : Cond.instanceMethod yX9_layLeast ∈ TT := WB_19 _ (List.mem_of_getElem? (i := 22) rfl)
theorem w_1788 : Cond.code yX9_layLeast cX9_layLeast 5 none ∈ TT := WB_19 _ (List.mem_of_getElem? (i := 23) rfl)
theorem w_1789 : Cond.constant RX9 345 1000000 ∈ TT := WB_19 _ (List.mem_of_getElem? (i := 24) rfl)
theorem w_1790 : Cond.methodLink RX9 346 yX9_ones ∈ TT := WB_19 _ (List.mem_of_getElem? (i := 25) rfl)
theorem w_1791 : Cond.static yX9_ones ∈ TT := WB_19 _ (List.mem_of_getElem? (i := 26) rfl)
theorem w_1792 : Cond.code yX9_ones cX9_ones 3 (some .int) ∈ TT := WB_19 _ (List.mem_of_getElem? (i := 27) rfl)
theorem w_1793 : Cond.methodLink RX9 349 yX9_lastAt ∈ TT := WB_19 _ (List.mem_of_getElem? (i := 28) rfl)
theorem w_1795 : Cond.instanceMethod yX9_lastAt ∈ TT := WB_19 _ (List.mem_of_getElem? (i := 29) rfl)
theorem w_1796 : Cond.code yX9_lastAt cX9_lastAt 3 (some .int) ∈ TT := WB_19 _ (List.mem_of_getElem? (i := 30) rfl)
theorem w_1797 : Cond.methodLink RX9 352 yX9_leastAt ∈ TT := WB_19 _ (List.mem_of_getElem? (i := 31) rfl)
theorem w_1799 : Cond.instanceMethod yX9_leastAt ∈ TT := WB_19 _ (List.mem_of_getElem? (i := 32) rfl)
theorem w_1800 : Cond.code yX9_leastAt cX9_leastAt 8 (some .int) ∈ TT := WB_19 _ (List.mem_of_getElem? (i := 33) rfl)
theorem w_1801 : Cond.methodLink RX9 355 yX9_canHave ∈ TT := WB_19 _ (List.mem_of_getElem? (i := 34) rfl)
theorem w_1803 : Cond.instanceMethod yX9_canHave ∈ TT := WB_19 _ (List.mem_of_getElem? (i := 35) rfl)
theorem w_1804 : Cond.code yX9_canHave cX9_canHave 5 (some .boolean) ∈ TT := WB_19 _ (List.mem_of_getElem? (i := 36) rfl)
theorem w_1805 : Cond.methodLink RX9 359 yX9_isDark ∈ TT := WB_19 _ (List.mem_of_getElem? (i := 37) rfl)
theorem w_1807 : Cond.instanceMethod yX9_isDark ∈ TT := WB_19 _ (List.mem_of_getElem? (i := 38) rfl)
theorem w_1808 : Cond.code yX9_isDark cX9_isDark 3 (some .int) ∈ TT := WB_19 _ (List.mem_of_getElem? (i := 39) rfl)
def wl_20 : List Cond := [Cond.methodLink RX9 342 yX9_high, Cond.instanceMethod yX9_high, Cond.code yX9_high cX9_high 2 (some .int), Cond.methodLink RX9 389 yX9_mostOf, Cond.instanceMethod yX9_mostOf, Cond.code yX9_mostOf cX9_mostOf 9 (some .int), Cond.methodLink RX9 392 yX9_takenOf, Cond.instanceMethod yX9_takenOf, Cond.code yX9_takenOf cX9_takenOf 4 (some .int), Cond.constant RX9 395 99999, Cond.methodLink RX9 396 yX9_answers, Cond.instanceMethod yX9_answers, Cond.code yX9_answers cX9_answers 7 (some .int), Cond.methodLink RX9 403 yX9_skyNow, Cond.instanceMethod yX9_skyNow, Cond.code yX9_skyNow cX9_skyNow 3 (some .int), Cond.constant RX9 402 1103515245, Cond.methodLink RX9 406 yX9_areDays, Cond.instanceMethod yX9_areDays, Cond.code yX9_areDays cX9_areDays 3 (some .boolean), Cond.methodLink RX9 409 yX9_layPlans, Cond.instanceMethod yX9_layPlans, Cond.code yX9_layPlans cX9_layPlans 5 none, Cond.methodLink RX9 412 yX9_seasonOf, Cond.instanceMethod yX9_seasonOf, Cond.code yX9_seasonOf cX9_seasonOf 11 (some .int), Cond.methodLink RX9 422 yX9_movesAll, Cond.instanceMethod yX9_movesAll, Cond.code yX9_movesAll cX9_movesAll 5 none, Cond.methodLink RX9 418 yX9_moves, Cond.instanceMethod yX9_moves, Cond.code yX9_moves cX9_moves 4 (some .int)]
theorem WB_20 : ∀ w ∈ wl_20, w ∈ TT := tt_ps [1809, 1811, 1812, 1821, 1823, 1824, 1837, 1839, 1840, 1845, 1862, 1864, 1865, 1882, 1884, 1885, 1886, 1891, 1893, 1894, 1895, 1897, 1898, 1899, 1901, 1902, 1911, 1913, 1914, 1915, 1917, 1918] (by decide +kernel) (by decide +kernel)
theorem w_1809 : Cond.methodLink RX9 342 yX9_high ∈ TT := WB_20 _ (List.mem_of_getElem? (i := 0) rfl)
theorem w_1811 : Cond.instanceMethod yX9_high ∈ TT := WB_20 _ (List.mem_of_getElem? (i := 1) rfl)
theorem w_1812 : Cond.code yX9_high cX9_high 2 (some .int) ∈ TT := WB_20 _ (List.mem_of_getElem? (i := 2) rfl)
theorem w_1821 : Cond.methodLink RX9 389 yX9_mostOf ∈ TT := WB_20 _ (List.mem_of_getElem? (i := 3) rfl)
theorem w_1823 : Cond.instanceMethod yX9_mostOf ∈ TT := WB_20 _ (List.mem_of_getElem? (i := 4) rfl)
theorem w_1824 : Cond.code yX9_mostOf cX9_mostOf 9 (some .int) ∈ TT := WB_20 _ (List.mem_of_getElem? (i := 5) rfl)
theorem w_1837 : Cond.methodLink RX9 392 yX9_takenOf ∈ TT := WB_20 _ (List.mem_of_getElem? (i := 6) rfl)
theorem w_1839 : Cond.instanceMethod yX9_takenOf ∈ TT := WB_20 _ (List.mem_of_getElem? (i := 7) rfl)
theorem w_1840 : Cond.code yX9_takenOf cX9_takenOf 4 (some .int) ∈ TT := WB_20 _ (List.mem_of_getElem? (i := 8) rfl)
theorem w_1845 : Cond.constant RX9 395 99999 ∈ TT := WB_20 _ (List.mem_of_getElem? (i := 9) rfl)
theorem w_1862 : Cond.methodLink RX9 396 yX9_answers ∈ TT := WB_20 _ (List.mem_of_getElem? (i := 10) rfl)
theorem w_1864 : Cond.instanceMethod yX9_answers ∈ TT := WB_20 _ (List.mem_of_getElem? (i := 11) rfl)
theorem w_1865 : Cond.code yX9_answers cX9_answers 7 (some .int) ∈ TT := WB_20 _ (List.mem_of_getElem? (i := 12) rfl)
theorem w_1882 : Cond.methodLink RX9 403 yX9_skyNow ∈ TT := WB_20 _ (List.mem_of_getElem? (i := 13) rfl)
theorem w_1884 : Cond.instanceMethod yX9_skyNow ∈ TT := WB_20 _ (List.mem_of_getElem? (i := 14) rfl)
theorem w_1885 : Cond.code yX9_skyNow cX9_skyNow 3 (some .int) ∈ TT := WB_20 _ (List.mem_of_getElem? (i := 15) rfl)
theorem w_1886 : Cond.constant RX9 402 1103515245 ∈ TT := WB_20 _ (List.mem_of_getElem? (i := 16) rfl)
theorem w_1891 : Cond.methodLink RX9 406 yX9_areDays ∈ TT := WB_20 _ (List.mem_of_getElem? (i := 17) rfl)
theorem w_1893 : Cond.instanceMethod yX9_areDays ∈ TT := WB_20 _ (List.mem_of_getElem? (i := 18) rfl)
theorem w_1894 : Cond.code yX9_areDays cX9_areDays 3 (some .boolean) ∈ TT := WB_20 _ (List.mem_of_getElem? (i := 19) rfl)
theorem w_1895 : Cond.methodLink RX9 409 yX9_layPlans ∈ TT := WB_20 _ (List.mem_of_getElem? (i := 20) rfl)
theorem w_1897 : Cond.instanceMethod yX9_layPlans ∈ TT := WB_20 _ (List.mem_of_getElem? (i := 21) rfl)
theorem w_1898 : Cond.code yX9_layPlans cX9_layPlans 5 none ∈ TT := WB_20 _ (List.mem_of_getElem? (i := 22) rfl)
theorem w_1899 : Cond.methodLink RX9 412 yX9_seasonOf ∈ TT := WB_20 _ (List.mem_of_getElem? (i := 23) rfl)
theorem w_1901 : Cond.instanceMethod yX9_seasonOf ∈ TT := WB_20 _ (List.mem_of_getElem? (i := 24) rfl)
theorem w_1902 : Cond.code yX9_seasonOf cX9_seasonOf 11 (some .int) ∈ TT := WB_20 _ (List.mem_of_getElem? (i := 25) rfl)
theorem w_1911 : Cond.methodLink RX9 422 yX9_movesAll ∈ TT := WB_20 _ (List.mem_of_getElem? (i := 26) rfl)
theorem w_1913 : Cond.instanceMethod yX9_movesAll ∈ TT := WB_20 _ (List.mem_of_getElem? (i := 27) rfl)
theorem w_1914 : Cond.code yX9_movesAll cX9_movesAll 5 none ∈ TT := WB_20 _ (List.mem_of_getElem? (i := 28) rfl)
theorem w_1915 : Cond.methodLink RX9 418 yX9_moves ∈ TT := WB_20 _ (List.mem_of_getElem? (i := 29) rfl)
theorem w_1917 : Cond.instanceMethod yX9_moves ∈ TT := WB_20 _ (List.mem_of_getElem? (i := 30) rfl)
theorem w_1918 : Cond.code yX9_moves cX9_moves 4 (some .int) ∈ TT := WB_20 _ (List.mem_of_getElem? (i := 31) rfl)
theorem ka_3 : Int32.ofNat 3 = (3 : Int32) := by decide +kernel
theorem ka_4 : Int32.ofNat 4 = (4 : Int32) := by decide +kernel
theorem ka_500 : Int32.ofNat 500 = (500 : Int32) := by decide +kernel
theorem kb_10 : (Int8.ofInt (10)).toInt32 = (10 : Int32) := by decide +kernel
theorem kb_100 : (Int8.ofInt (100)).toInt32 = (100 : Int32) := by decide +kernel
theorem kb_11 : (Int8.ofInt (11)).toInt32 = (11 : Int32) := by decide +kernel
theorem kb_12 : (Int8.ofInt (12)).toInt32 = (12 : Int32) := by decide +kernel
theorem kb_122 : (Int8.ofInt (122)).toInt32 = (122 : Int32) := by decide +kernel
theorem kb_13 : (Int8.ofInt (13)).toInt32 = (13 : Int32) := by decide +kernel
theorem kb_14 : (Int8.ofInt (14)).toInt32 = (14 : Int32) := by decide +kernel
theorem kb_15 : (Int8.ofInt (15)).toInt32 = (15 : Int32) := by decide +kernel
theorem kb_16 : (Int8.ofInt (16)).toInt32 = (16 : Int32) := by decide +kernel
theorem kb_17 : (Int8.ofInt (17)).toInt32 = (17 : Int32) := by decide +kernel
theorem kb_18 : (Int8.ofInt (18)).toInt32 = (18 : Int32) := by decide +kernel
theorem kb_19 : (Int8.ofInt (19)).toInt32 = (19 : Int32) := by decide +kernel
theorem kb_20 : (Int8.ofInt (20)).toInt32 = (20 : Int32) := by decide +kernel
theorem kb_21 : (Int8.ofInt (21)).toInt32 = (21 : Int32) := by decide +kernel
theorem kb_22 : (Int8.ofInt (22)).toInt32 = (22 : Int32) := by decide +kernel
theorem kb_23 : (Int8.ofInt (23)).toInt32 = (23 : Int32) := by decide +kernel
theorem kb_24 : (Int8.ofInt (24)).toInt32 = (24 : Int32) := by decide +kernel
theorem kb_25 : (Int8.ofInt (25)).toInt32 = (25 : Int32) := by decide +kernel
theorem kb_29 : (Int8.ofInt (29)).toInt32 = (29 : Int32) := by decide +kernel
theorem kb_30 : (Int8.ofInt (30)).toInt32 = (30 : Int32) := by decide +kernel
theorem kb_32 : (Int8.ofInt (32)).toInt32 = (32 : Int32) := by decide +kernel
theorem kb_40 : (Int8.ofInt (40)).toInt32 = (40 : Int32) := by decide +kernel
theorem kb_48 : (Int8.ofInt (48)).toInt32 = (48 : Int32) := by decide +kernel
theorem kb_50 : (Int8.ofInt (50)).toInt32 = (50 : Int32) := by decide +kernel
theorem kb_57 : (Int8.ofInt (57)).toInt32 = (57 : Int32) := by decide +kernel
theorem kb_59 : (Int8.ofInt (59)).toInt32 = (59 : Int32) := by decide +kernel
theorem kb_6 : (Int8.ofInt (6)).toInt32 = (6 : Int32) := by decide +kernel
theorem kb_60 : (Int8.ofInt (60)).toInt32 = (60 : Int32) := by decide +kernel
theorem kb_63 : (Int8.ofInt (63)).toInt32 = (63 : Int32) := by decide +kernel
theorem kb_7 : (Int8.ofInt (7)).toInt32 = (7 : Int32) := by decide +kernel
theorem kb_8 : (Int8.ofInt (8)).toInt32 = (8 : Int32) := by decide +kernel
theorem kb_9 : (Int8.ofInt (9)).toInt32 = (9 : Int32) := by decide +kernel
theorem kb_97 : (Int8.ofInt (97)).toInt32 = (97 : Int32) := by decide +kernel
theorem kb_99 : (Int8.ofInt (99)).toInt32 = (99 : Int32) := by decide +kernel
theorem kb_m10 : (Int8.ofInt (-10)).toInt32 = (-10 : Int32) := by decide +kernel
theorem kb_m14 : (Int8.ofInt (-14)).toInt32 = (-14 : Int32) := by decide +kernel
theorem kb_m17 : (Int8.ofInt (-17)).toInt32 = (-17 : Int32) := by decide +kernel
theorem kb_m18 : (Int8.ofInt (-18)).toInt32 = (-18 : Int32) := by decide +kernel
theorem kb_m2 : (Int8.ofInt (-2)).toInt32 = (-2 : Int32) := by decide +kernel
theorem kb_m3 : (Int8.ofInt (-3)).toInt32 = (-3 : Int32) := by decide +kernel
theorem kb_m4 : (Int8.ofInt (-4)).toInt32 = (-4 : Int32) := by decide +kernel
theorem kb_m5 : (Int8.ofInt (-5)).toInt32 = (-5 : Int32) := by decide +kernel
theorem kb_m6 : (Int8.ofInt (-6)).toInt32 = (-6 : Int32) := by decide +kernel
theorem kb_m9 : (Int8.ofInt (-9)).toInt32 = (-9 : Int32) := by decide +kernel
theorem ki_0 : Int32.ofInt (0) = (0 : Int32) := by decide +kernel
theorem ki_1 : Int32.ofInt (1) = (1 : Int32) := by decide +kernel
theorem ki_2 : Int32.ofInt (2) = (2 : Int32) := by decide +kernel
theorem ki_3 : Int32.ofInt (3) = (3 : Int32) := by decide +kernel
theorem ki_4 : Int32.ofInt (4) = (4 : Int32) := by decide +kernel
theorem ki_5 : Int32.ofInt (5) = (5 : Int32) := by decide +kernel
theorem ki_m1 : Int32.ofInt (-1) = (-1 : Int32) := by decide +kernel
theorem ki_m2 : Int32.ofInt (-2) = (-2 : Int32) := by decide +kernel
theorem ki_m8 : Int32.ofInt (-8) = (-8 : Int32) := by decide +kernel
theorem kl_0 : Int64.ofNat ((0 : Fin 2) : Nat) = (0 : Int64) := by decide +kernel
theorem kl_1 : Int64.ofNat ((1 : Fin 2) : Nat) = (1 : Int64) := by decide +kernel
theorem ks_1000 : (Int16.ofInt (1000)).toInt32 = (1000 : Int32) := by decide +kernel
theorem ks_1080 : (Int16.ofInt (1080)).toInt32 = (1080 : Int32) := by decide +kernel
theorem ks_12345 : (Int16.ofInt (12345)).toInt32 = (12345 : Int32) := by decide +kernel
theorem ks_1438 : (Int16.ofInt (1438)).toInt32 = (1438 : Int32) := by decide +kernel
theorem ks_1439 : (Int16.ofInt (1439)).toInt32 = (1439 : Int32) := by decide +kernel
theorem ks_1440 : (Int16.ofInt (1440)).toInt32 = (1440 : Int32) := by decide +kernel
theorem ks_2304 : (Int16.ofInt (2304)).toInt32 = (2304 : Int32) := by decide +kernel
theorem ks_255 : (Int16.ofInt (255)).toInt32 = (255 : Int32) := by decide +kernel
theorem ks_256 : (Int16.ofInt (256)).toInt32 = (256 : Int32) := by decide +kernel
theorem ks_2700 : (Int16.ofInt (2700)).toInt32 = (2700 : Int32) := by decide +kernel
theorem ks_32767 : (Int16.ofInt (32767)).toInt32 = (32767 : Int32) := by decide +kernel
theorem ks_360 : (Int16.ofInt (360)).toInt32 = (360 : Int32) := by decide +kernel
theorem ks_400 : (Int16.ofInt (400)).toInt32 = (400 : Int32) := by decide +kernel
theorem ks_500 : (Int16.ofInt (500)).toInt32 = (500 : Int32) := by decide +kernel
theorem ks_5400 : (Int16.ofInt (5400)).toInt32 = (5400 : Int32) := by decide +kernel
theorem ks_720 : (Int16.ofInt (720)).toInt32 = (720 : Int32) := by decide +kernel
theorem ks_999 : (Int16.ofInt (999)).toInt32 = (999 : Int32) := by decide +kernel
theorem ks_9999 : (Int16.ofInt (9999)).toInt32 = (9999 : Int32) := by decide +kernel
theorem kd_0 : kd 0 = (0, 8, 0, 0, 0) := by decide +kernel
theorem kd_1 : kd 1 = (0, 7, 0, 0, 0) := by decide +kernel
theorem kd_2 : kd 2 = (1, 500, 0, 0, 0) := by decide +kernel
theorem kd_5 : kd 5 = (1, 30, 0, 0, 0) := by decide +kernel
theorem kd_6 : kd 6 = (1, 30, 0, 0, 0) := by decide +kernel
theorem kd_9 : kd 9 = (1, 30, 0, 0, 0) := by decide +kernel
theorem kd_11 : kd 11 = (1, 30, 0, 0, 0) := by decide +kernel
theorem kd_13 : kd 13 = (2, 4, 14, 4, 6) := by decide +kernel
theorem kd_42 : kd 42 = (0, 5, 0, 0, 0) := by decide +kernel
theorem kd_44 : kd 44 = (0, 2, 0, 0, 0) := by decide +kernel
theorem kd_45 : kd 45 = (1, 60, 0, 0, 0) := by decide +kernel
theorem kd_46 : kd 46 = (1, 480, 0, 0, 0) := by decide +kernel
theorem kd_47 : kd 47 = (1, 480, 0, 0, 0) := by decide +kernel
theorem kd_48 : kd 48 = (1, 480, 0, 0, 0) := by decide +kernel
theorem kd_49 : kd 49 = (1, 140544, 0, 0, 0) := by decide +kernel
theorem kd_50 : kd 50 = (1, 60, 0, 0, 0) := by decide +kernel
theorem kd_51 : kd 51 = (1, 60, 0, 0, 0) := by decide +kernel
theorem kd_52 : kd 52 = (1, 2, 0, 0, 0) := by decide +kernel
theorem kd_53 : kd 53 = (1, 8, 0, 0, 0) := by decide +kernel
theorem kd_54 : kd 54 = (1, 8, 0, 0, 0) := by decide +kernel
theorem kd_55 : kd 55 = (1, 8, 0, 0, 0) := by decide +kernel
theorem kd_56 : kd 56 = (1, 9, 0, 0, 0) := by decide +kernel
theorem kd_57 : kd 57 = (1, 9, 0, 0, 0) := by decide +kernel
theorem kd_58 : kd 58 = (0, 6, 0, 0, 0) := by decide +kernel
theorem kd_59 : kd 59 = (1, 240, 0, 0, 0) := by decide +kernel
theorem kd_60 : kd 60 = (1, 240, 0, 0, 0) := by decide +kernel
theorem kd_61 : kd 61 = (1, 240, 0, 0, 0) := by decide +kernel
theorem kd_63 : kd 63 = (1, 2, 0, 0, 0) := by decide +kernel
theorem kd_65 : kd 65 = (1, 60, 0, 0, 0) := by decide +kernel
theorem kd_66 : kd 66 = (1, 30, 0, 0, 0) := by decide +kernel
theorem kd_67 : kd 67 = (1, 10, 0, 0, 0) := by decide +kernel
theorem kd_68 : kd 68 = (1, 10, 0, 0, 0) := by decide +kernel
theorem kd_69 : kd 69 = (2, 3, 70, 7, 7) := by decide +kernel
theorem kd_91 : kd 91 = (1, 32, 0, 0, 0) := by decide +kernel
theorem kd_92 : kd 92 = (0, 9, 0, 0, 0) := by decide +kernel
theorem kd_93 : kd 93 = (1, 500, 0, 0, 0) := by decide +kernel
theorem kd_94 : kd 94 = (1, 11, 0, 0, 0) := by decide +kernel
theorem kd_95 : kd 95 = (1, 11, 0, 0, 0) := by decide +kernel
theorem kd_96 : kd 96 = (1, 30, 0, 0, 0) := by decide +kernel
theorem kd_97 : kd 97 = (1, 30, 0, 0, 0) := by decide +kernel
theorem kd_98 : kd 98 = (1, 30, 0, 0, 0) := by decide +kernel
theorem kd_99 : kd 99 = (1, 30, 0, 0, 0) := by decide +kernel
theorem kd_100 : kd 100 = (2, 8, 101, 1, 3) := by decide +kernel
theorem kd_109 : kd 109 = (2, 8, 110, 1, 3) := by decide +kernel
theorem kd_118 : kd 118 = (1, 4, 0, 0, 0) := by decide +kernel
theorem kd_119 : kd 119 = (2, 4, 120, 1, 3) := by decide +kernel
theorem kd_124 : kd 124 = (2, 4, 125, 1, 3) := by decide +kernel
theorem kd_129 : kd 129 = (2, 4, 130, 1, 3) := by decide +kernel
theorem kd_134 : kd 134 = (2, 4, 135, 1, 3) := by decide +kernel
theorem kd_139 : kd 139 = (1, 800, 0, 0, 0) := by decide +kernel
theorem kd_140 : kd 140 = (1, 6, 0, 0, 0) := by decide +kernel
theorem kd_141 : kd 141 = (1, 2, 0, 0, 0) := by decide +kernel
theorem kd_142 : kd 142 = (1, 30, 0, 0, 0) := by decide +kernel
theorem kd_143 : kd 143 = (2, 60, 144, 1, 3) := by decide +kernel
theorem kd_204 : kd 204 = (2, 10, 205, 1, 3) := by decide +kernel
theorem kd_215 : kd 215 = (2, 3, 216, 1, 3) := by decide +kernel
theorem kd_219 : kd 219 = (2, 60, 220, 9, 5) := by decide +kernel
theorem kd_760 : kd 760 = (2, 60, 761, 9, 5) := by decide +kernel
theorem kd_1301 : kd 1301 = (2, 60, 1302, 1, 4) := by decide +kernel
theorem kd_1362 : kd 1362 = (2, 61, 1363, 1, 3) := by decide +kernel
theorem kd_1424 : kd 1424 = (1, 60, 0, 0, 0) := by decide +kernel
theorem kd_1425 : kd 1425 = (1, 2, 0, 0, 0) := by decide +kernel
theorem kd_1426 : kd 1426 = (2, 30, 1427, 1, 3) := by decide +kernel
theorem kdf_100 : ∀ j, j < 8 → kd (101 + 1 * j) = (1, 7, 0, 0, 0) := by decide +kernel
theorem kdf_109 : ∀ j, j < 8 → kd (110 + 1 * j) = (1, 7, 0, 0, 0) := by decide +kernel
theorem kdf_119 : ∀ j, j < 4 → kd (120 + 1 * j) = (1, 10, 0, 0, 0) := by decide +kernel
theorem kdf_124 : ∀ j, j < 4 → kd (125 + 1 * j) = (1, 10, 0, 0, 0) := by decide +kernel
theorem kdf_129 : ∀ j, j < 4 → kd (130 + 1 * j) = (1, 10, 0, 0, 0) := by decide +kernel
theorem kdf_134 : ∀ j, j < 4 → kd (135 + 1 * j) = (1, 800, 0, 0, 0) := by decide +kernel
theorem kdf_143 : ∀ j, j < 60 → kd (144 + 1 * j) = (1, 2, 0, 0, 0) := by decide +kernel
theorem kdf_204 : ∀ j, j < 10 → kd (205 + 1 * j) = (1, 2, 0, 0, 0) := by decide +kernel
theorem kdf_215 : ∀ j, j < 3 → kd (216 + 1 * j) = (1, 200, 0, 0, 0) := by decide +kernel
theorem kdf_219 : ∀ j, j < 60 → kd (220 + 9 * j) = (2, 8, (220 + 9 * j) + 1, 1, 3) := by decide +kernel
theorem kdg_219 : ∀ j, j < 60 → ∀ k, k < 8 → kd (((220 + 9 * j) + 1) + 1 * k) = (1, 2, 0, 0, 0) := fun j hj k hk => of_decide_eq_true (List.all_eq_true.mp (List.all_eq_true.mp (show ((List.range 60).all fun j => (List.range 8).all fun k => decide (kd (((220 + 9 * j) + 1) + 1 * k) = (1, 2, 0, 0, 0))) = true by decide +kernel) j (List.mem_range.mpr hj)) k (List.mem_range.mpr hk))
theorem kdf_760 : ∀ j, j < 60 → kd (761 + 9 * j) = (2, 8, (761 + 9 * j) + 1, 1, 3) := by decide +kernel
theorem kdg_760 : ∀ j, j < 60 → ∀ k, k < 8 → kd (((761 + 9 * j) + 1) + 1 * k) = (1, 2, 0, 0, 0) := fun j hj k hk => of_decide_eq_true (List.all_eq_true.mp (List.all_eq_true.mp (show ((List.range 60).all fun j => (List.range 8).all fun k => decide (kd (((761 + 9 * j) + 1) + 1 * k) = (1, 2, 0, 0, 0))) = true by decide +kernel) j (List.mem_range.mpr hj)) k (List.mem_range.mpr hk))
theorem kdf_1301 : ∀ j, j < 60 → kd (1302 + 1 * j) = (3, 8, 0, 0, 0) := by decide +kernel
theorem kdf_1362 : ∀ j, j < 61 → kd (1363 + 1 * j) = (1, 2304, 0, 0, 0) := by decide +kernel
theorem kdf_1426 : ∀ j, j < 30 → kd (1427 + 1 * j) = (1, 30, 0, 0, 0) := by decide +kernel
end
section
/-! ShadowTolls.put([III)V -/
abbrev M_X8_put : Mi := (RX8, cX8_put, 3, none)
abbrev E_X8_put : Rm := (0, 0, 0, 0)
def rows_X8_put : List (Nat × Instr × Nat) := [(0, .iload_n 1, 1), (1, .ifCond .lt 13, 3), (4, .iload_n 1, 1), (5, .aload_n 0, 1), (6, .arraylength, 1), (7, .if_icmp .ge 7, 3), (10, .aload_n 0, 1), (11, .iload_n 1, 1), (12, .iload_n 2, 1), (13, .iastore, 1), (14, .return_, 1)]
theorem D_X8_put : dkA cX8_put rows_X8_put := by
  unfold dkA
  decide +kernel
theorem okD_X8_put : okD yX8_put 3 := by
  unfold okD
  decide +kernel
def w_X8_put (r0 : Nat) (n0 : Nat) (p1 : Int32) (p2 : Int32) (h : Hp) (Q : Hp → Prop) : Prop :=
  wif (p1 < 0) (Q h) (wif ((nI n0) ≤ p1) (Q h) ((vp_in p1 n0 ∧ wlet (hup h r0 (Int32.toNatClampNeg p1) p2) (fun h2 => Q h2))))
theorem t_X8_put {X : Cx} (r0 : Nat) (n0 : Nat) (p1 : Int32) (p2 : Int32) (h : Hp) (Q : Hp → Prop) (hr0 : kd r0 = (1, n0, 0, 0, 0)) (hw : w_X8_put r0 n0 p1 p2 h Q) : G X M_X8_put E_X8_put (QM X E_X8_put (QV Q) Qn) 0 0 [(0, .ref (r0)), (1, .int (p1)), (2, .int (p2))] [] h := by
  unfold w_X8_put at hw
  refine g_iload_n 1 (dk D_X8_put 0 rfl) rfl rfl ?_
  refine g_if_lt (dk D_X8_put 1 rfl) rfl (wif_m hw (fun hw => ?_) (fun hw => ?_))
  · exact g_vret (dk D_X8_put 10 rfl) rfl ⟨rfl, hw⟩
  · refine g_iload_n 1 (dk D_X8_put 2 rfl) rfl rfl ?_
    refine g_aload_n 0 (dk D_X8_put 3 rfl) rfl rfl ?_
    refine g_alen (dk D_X8_put 4 rfl) hr0 rfl ?_
    refine g_icmp_ge (dk D_X8_put 5 rfl) rfl (wif_m hw (fun hw => ?_) (fun hw => ?_))
    · exact g_vret (dk D_X8_put 10 rfl) rfl ⟨rfl, hw⟩
    · refine g_aload_n 0 (dk D_X8_put 6 rfl) rfl rfl ?_
      refine g_iload_n 1 (dk D_X8_put 7 rfl) rfl rfl ?_
      refine g_iload_n 2 (dk D_X8_put 8 rfl) rfl rfl ?_
      obtain ⟨hi1, hw⟩ := hw
      refine g_iast (dk D_X8_put 9 rfl) hr0 hi1 ?_
      refine g_heap (fun h2 eh2 => ?_)
      replace hw := hw _ eh2
      exact g_vret (dk D_X8_put 10 rfl) rfl ⟨rfl, hw⟩
theorem c_X8_put {X : Cx} (r0 : Nat) (n0 : Nat) (p1 : Int32) (p2 : Int32) (hr0 : kd r0 = (1, n0, 0, 0, 0)) (h : Hp) (Q : Hp → Prop) (hw : w_X8_put r0 n0 p1 p2 h Q) : Con X yX8_put M_X8_put 0 0 0 [.ref (r0), .int (p1), .int (p2)] h (QV Q) Qn :=
  con_of (by decide +kernel) rfl (Nat.le_of_ble_eq_true rfl) (t_X8_put r0 n0 p1 p2 h Q hr0 hw)
/-! ShadowTolls$Law.learn(II)V -/
abbrev M_X0_learn : Mi := (RX0, cX0_learn, 3, none)
abbrev E_X0_learn : Rm := (1, 22, 0, 0)
def rows_X0_learn : List (Nat × Instr × Nat) := [(0, .aload_n 0, 1), (1, .getfield 15, 3), (4, .iconst (-1), 1), (5, .iload_n 1, 1), (6, .isub, 1), (7, .iload_n 2, 1), (8, .invokestatic 25, 3), (11, .return_, 1)]
theorem D_X0_learn : dkA cX0_learn rows_X0_learn := by
  unfold dkA
  decide +kernel
theorem okD_X0_learn : okD yX0_learn 2 := by
  unfold okD
  decide +kernel
def w_X0_learn (this : Nat) (p1 : Int32) (p2 : Int32) (h : Hp) (Q : Hp → Prop) : Prop :=
  w_X8_put (tg this 1) 6 (((-1 : Int32) - p1)) (p2) h (fun h1 => Q h1)
theorem t_X0_learn {X : Cx} (this : Nat) (p1 : Int32) (p2 : Int32) (h : Hp) (Q : Hp → Prop) (hthis : LawP this) (hw : w_X0_learn this p1 p2 h Q) : G X M_X0_learn E_X0_learn (QM X E_X0_learn (QV Q) Qn) 0 0 [(0, .ref (this)), (1, .int (p1)), (2, .int (p2))] [] h := by
  unfold w_X0_learn at hw
  refine g_aload_n 0 (dk D_X0_learn 0 rfl) rfl rfl ?_
  refine g_getR 1 (t := (tg this 1)) (dk D_X0_learn 1 rfl) hthis.1 rfl rfl (by decide) w_254 rfl rfl rfl ?_
  refine g_iconst (dk D_X0_learn 2 rfl) ki_m1 ?_
  refine g_iload_n 1 (dk D_X0_learn 3 rfl) rfl rfl ?_
  refine g_isub (dk D_X0_learn 4 rfl) ?_
  refine g_iload_n 2 (dk D_X0_learn 5 rfl) rfl rfl ?_
  refine g_callSN (As := [.ref ((tg this 1)), .int (((-1 : Int32) - p1)), .int (p2)]) (kc := 0) (fr := 0) (lo := 0) (mc := 0) (My := M_X8_put) (dk D_X0_learn 6 rfl) w_595 w_496 w_101 w_497 okD_X8_put (by decide) (Nat.le_of_ble_eq_true rfl) rfl (c_X8_put (tg this 1) 6 (((-1 : Int32) - p1)) (p2) (hthis.2.2.1) (h) _ hw) kxN (kV (fun h1 hw => ?_))
  exact g_vret (dk D_X0_learn 7 rfl) rfl ⟨rfl, hw⟩
theorem c_X0_learn {X : Cx} (this : Nat) (p1 : Int32) (p2 : Int32) (hthis : LawP this) (h : Hp) (Q : Hp → Prop) (hw : w_X0_learn this p1 p2 h Q) : Con X yX0_learn M_X0_learn 1 22 0 [.ref (this), .int (p1), .int (p2)] h (QV Q) Qn :=
  con_of (by decide +kernel) rfl (Nat.le_of_ble_eq_true rfl) (t_X0_learn this p1 p2 h Q hthis hw)
/-! ShadowTolls.at([II)I -/
abbrev M_X8_at : Mi := (RX8, cX8_at, 2, (some .int))
abbrev E_X8_at : Rm := (0, 0, 0, 0)
def rows_X8_at : List (Nat × Instr × Nat) := [(0, .iload_n 1, 1), (1, .ifCond .lt 15, 3), (4, .iload_n 1, 1), (5, .aload_n 0, 1), (6, .arraylength, 1), (7, .if_icmp .ge 9, 3), (10, .aload_n 0, 1), (11, .iload_n 1, 1), (12, .iaload, 1), (13, .goto 4, 3), (16, .iconst 0, 1), (17, .ireturn, 1)]
theorem D_X8_at : dkA cX8_at rows_X8_at := by
  unfold dkA
  decide +kernel
theorem okD_X8_at : okD yX8_at 2 := by
  unfold okD
  decide +kernel
def w_X8_at (r0 : Nat) (n0 : Nat) (p1 : Int32) (h : Hp) (Q : Int32 → Prop) : Prop :=
  wif (p1 < 0) (Q (0 : Int32)) (wif ((nI n0) ≤ p1) (Q (0 : Int32)) ((vp_in p1 n0 ∧ Q (h r0 (Int32.toNatClampNeg p1)))))
theorem t_X8_at {X : Cx} (r0 : Nat) (n0 : Nat) (p1 : Int32) (h : Hp) (Q : Int32 → Prop) (hr0 : kd r0 = (1, n0, 0, 0, 0)) (hw : w_X8_at r0 n0 p1 h Q) : G X M_X8_at E_X8_at (QM X E_X8_at (QIp h Q) Qn) 0 0 [(0, .ref (r0)), (1, .int (p1))] [] h := by
  unfold w_X8_at at hw
  refine g_iload_n 1 (dk D_X8_at 0 rfl) rfl rfl ?_
  refine g_if_lt (dk D_X8_at 1 rfl) rfl (wif_m hw (fun hw => ?_) (fun hw => ?_))
  · refine g_iconst (dk D_X8_at 10 rfl) ki_0 ?_
    exact g_iret (dk D_X8_at 11 rfl) rfl ⟨_, rfl, rfl, hw⟩
  · refine g_iload_n 1 (dk D_X8_at 2 rfl) rfl rfl ?_
    refine g_aload_n 0 (dk D_X8_at 3 rfl) rfl rfl ?_
    refine g_alen (dk D_X8_at 4 rfl) hr0 rfl ?_
    refine g_icmp_ge (dk D_X8_at 5 rfl) rfl (wif_m hw (fun hw => ?_) (fun hw => ?_))
    · refine g_iconst (dk D_X8_at 10 rfl) ki_0 ?_
      exact g_iret (dk D_X8_at 11 rfl) rfl ⟨_, rfl, rfl, hw⟩
    · refine g_aload_n 0 (dk D_X8_at 6 rfl) rfl rfl ?_
      refine g_iload_n 1 (dk D_X8_at 7 rfl) rfl rfl ?_
      obtain ⟨hi1, hw⟩ := hw
      refine g_iald (dk D_X8_at 8 rfl) hr0 hi1 ?_
      refine g_goto (dk D_X8_at 9 rfl) rfl ?_
      exact g_iret (dk D_X8_at 11 rfl) rfl ⟨_, rfl, rfl, hw⟩
theorem c_X8_at {X : Cx} (r0 : Nat) (n0 : Nat) (p1 : Int32) (hr0 : kd r0 = (1, n0, 0, 0, 0)) (h : Hp) (Q : Int32 → Prop) (hw : w_X8_at r0 n0 p1 h Q) : Con X yX8_at M_X8_at 0 0 0 [.ref (r0), .int (p1)] h (QIp h Q) Qn :=
  con_of (by decide +kernel) rfl (Nat.le_of_ble_eq_true rfl) (t_X8_at r0 n0 p1 h Q hr0 hw)
/-! ShadowTolls$Road.altitudeAt(III)I -/
abbrev M_X4_altitudeAt : Mi := (RX4, cX4_altitudeAt, 6, (some .int))
abbrev E_X4_altitudeAt : Rm := (1, 30, 0, 0)
def rows_X4_altitudeAt : List (Nat × Instr × Nat) := [(0, .iload_n 1, 1), (1, .ifCond .ne 9, 3), (4, .sipush 720, 3), (7, .goto 11, 3), (10, .sipush 720, 3), (13, .aload_n 0, 1), (14, .getfield 53, 3), (17, .isub, 1), (18, .istore 4, 2), (20, .aload_n 0, 1), (21, .getfield 15, 3), (24, .iload_n 2, 1), (25, .invokestatic 70, 3), (28, .aload_n 0, 1), (29, .getfield 35, 3), (32, .iload_n 3, 1), (33, .iload 4, 2), (35, .isub, 1), (36, .invokestatic 87, 3), (39, .imul, 1), (40, .isub, 1), (41, .istore 5, 2), (43, .iload 5, 2), (45, .iconst 1, 1), (46, .if_icmp .ge 10, 3), (49, .aload_n 0, 1), (50, .getfield 50, 3), (53, .goto 5, 3), (56, .iload 5, 2), (58, .ireturn, 1)]
theorem D_X4_altitudeAt : dkA cX4_altitudeAt rows_X4_altitudeAt := by
  unfold dkA
  decide +kernel
theorem okD_X4_altitudeAt : okD yX4_altitudeAt 3 := by
  unfold okD
  decide +kernel
def w_X4_altitudeAt (this : Nat) (p1 : Int32) (p2 : Int32) (p3 : Int32) (h : Hp) (Q : Int32 → Prop) : Prop :=
  wlet ((if ¬ p1 = 0 then ((720 : Int32) - (h this 11)) else (720 : Int32))) (fun v4_2 => w_X8_at (tg this 1) 30 (p2) h (fun z3 => wlet ((z3 - ((h this 5) * (if 0 ≤ (p3 - v4_2) then (p3 - v4_2) else 0 - (p3 - v4_2))))) (fun v5_4 => Q (if (1 : Int32) ≤ v5_4 then v5_4 else (h this 10)))))
theorem t_X4_altitudeAt {X : Cx} (this : Nat) (p1 : Int32) (p2 : Int32) (p3 : Int32) (h : Hp) (Q : Int32 → Prop) (hthis : RoadP this) (hw : w_X4_altitudeAt this p1 p2 p3 h Q) : G X M_X4_altitudeAt E_X4_altitudeAt (QM X E_X4_altitudeAt (QIp h Q) Qn) 0 0 [(0, .ref (this)), (1, .int (p1)), (2, .int (p2)), (3, .int (p3))] [] h := by
  unfold w_X4_altitudeAt at hw
  refine g_iload_n 1 (dk D_X4_altitudeAt 0 rfl) rfl rfl ?_
  have hj : G X M_X4_altitudeAt E_X4_altitudeAt (QM X E_X4_altitudeAt (QIp h Q) Qn) 0 18 [(0, .ref (this)), (1, .int (p1)), (2, .int (p2)), (3, .int (p3))] [.int ((if ¬ p1 = 0 then ((720 : Int32) - (h this 11)) else (720 : Int32)))] (h) := by
    refine g_topi (fun v4_2 ev4_2 => ?_)
    replace hw := hw _ ev4_2
    refine g_istore (dk D_X4_altitudeAt 8 rfl) (by decide) rfl ?_
    refine g_aload_n 1 (dk D_X4_altitudeAt 9 rfl) rfl rfl ?_
    refine g_getR 1 (t := (tg this 1)) (dk D_X4_altitudeAt 10 rfl) hthis.1 rfl rfl (by decide) w_176 rfl rfl rfl ?_
    refine g_iload_n 3 (dk D_X4_altitudeAt 11 rfl) rfl rfl ?_
    refine g_callSN (As := [.ref ((tg this 1)), .int (p2)]) (kc := 0) (fr := 0) (lo := 0) (mc := 0) (My := M_X8_at) (dk D_X4_altitudeAt 12 rfl) w_549 w_518 w_101 w_519 okD_X8_at (by decide) (Nat.le_of_ble_eq_true rfl) rfl (c_X8_at (tg this 1) 30 (p2) (hthis.2.2.1) (h) _ hw) kxN (kIp (fun z3 hw => ?_))
    refine g_aload_n 1 (dk D_X4_altitudeAt 13 rfl) rfl rfl ?_
    refine g_getI 5 (dk D_X4_altitudeAt 14 rfl) hthis.1 rfl rfl (by decide) w_185 rfl rfl ?_
    refine g_iload_n 4 (dk D_X4_altitudeAt 15 rfl) rfl rfl ?_
    refine g_iload 0 (dk D_X4_altitudeAt 16 rfl) rfl ?_
    refine g_isub (dk D_X4_altitudeAt 17 rfl) ?_
    refine g_mabs (dk D_X4_altitudeAt 18 rfl) w_579 (by decide) (Nat.le_of_ble_eq_true rfl) ?_
    refine g_imul (dk D_X4_altitudeAt 19 rfl) ?_
    refine g_isub (dk D_X4_altitudeAt 20 rfl) ?_
    refine g_topi (fun v5_4 ev5_4 => ?_)
    replace hw := hw _ ev5_4
    refine g_istore (dk D_X4_altitudeAt 21 rfl) (by decide) rfl ?_
    refine g_iload 0 (dk D_X4_altitudeAt 22 rfl) rfl ?_
    refine g_iconst (dk D_X4_altitudeAt 23 rfl) ki_1 ?_
    have hj : G X M_X4_altitudeAt E_X4_altitudeAt (QM X E_X4_altitudeAt (QIp h Q) Qn) 0 58 [(5, .int (v5_4)), (4, .int (v4_2)), (0, .ref (this)), (1, .int (p1)), (2, .int (p2)), (3, .int (p3))] [.int ((if (1 : Int32) ≤ v5_4 then v5_4 else (h this 10)))] (h) := by
      exact g_iret (dk D_X4_altitudeAt 29 rfl) rfl ⟨_, rfl, rfl, hw⟩
    refine g_icmp_ge (dk D_X4_altitudeAt 24 rfl) rfl ?_
    by_cases c5 : (1 : Int32) ≤ v5_4
    · rw [if_pos c5] at hj
      refine wif_p c5 ?_
      refine g_iload 0 (dk D_X4_altitudeAt 28 rfl) rfl ?_
      exact hj
    · rw [if_neg c5] at hj
      refine wif_n c5 ?_
      refine g_aload_n 2 (dk D_X4_altitudeAt 25 rfl) rfl rfl ?_
      refine g_getI 10 (dk D_X4_altitudeAt 26 rfl) hthis.1 rfl rfl (by decide) w_201 rfl rfl ?_
      refine g_goto (dk D_X4_altitudeAt 27 rfl) rfl ?_
      exact hj
  refine g_if_ne (dk D_X4_altitudeAt 1 rfl) rfl ?_
  by_cases c1 : ¬ p1 = 0
  · rw [if_pos c1] at hj
    refine wif_p c1 ?_
    refine g_sipush (dk D_X4_altitudeAt 4 rfl) ks_720 ?_
    refine g_aload_n 0 (dk D_X4_altitudeAt 5 rfl) rfl rfl ?_
    refine g_getI 11 (dk D_X4_altitudeAt 6 rfl) hthis.1 rfl rfl (by decide) w_204 rfl rfl ?_
    refine g_isub (dk D_X4_altitudeAt 7 rfl) ?_
    exact hj
  · rw [if_neg c1] at hj
    refine wif_n c1 ?_
    refine g_sipush (dk D_X4_altitudeAt 2 rfl) ks_720 ?_
    refine g_goto (dk D_X4_altitudeAt 3 rfl) rfl ?_
    exact hj
theorem c_X4_altitudeAt {X : Cx} (this : Nat) (p1 : Int32) (p2 : Int32) (p3 : Int32) (hthis : RoadP this) (h : Hp) (Q : Int32 → Prop) (hw : w_X4_altitudeAt this p1 p2 p3 h Q) : Con X yX4_altitudeAt M_X4_altitudeAt 1 30 0 [.ref (this), .int (p1), .int (p2), .int (p3)] h (QIp h Q) Qn :=
  con_of (by decide +kernel) rfl (Nat.le_of_ble_eq_true rfl) (t_X4_altitudeAt this p1 p2 p3 h Q hthis hw)
end
