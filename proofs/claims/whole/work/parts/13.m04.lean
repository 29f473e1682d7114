/-! ShadowTolls$RoadReader.greatest(I)I -/
abbrev M_X5_greatest : Mi := (RX5, cX5_greatest, 1, (some .int))
abbrev E_X5_greatest : Rm := (0, 0, 0, 0)
def rows_X5_greatest : List (Nat × Instr × Nat) := [(0, .iload_n 0, 1), (1, .tableswitch 59 1 8 #[47, 59, 59, 50, 59, 59, 53, 56], 47), (48, .bipush 9, 2), (50, .ireturn, 1), (51, .bipush 60, 2), (53, .ireturn, 1), (54, .bipush 29, 2), (56, .ireturn, 1), (57, .bipush 16, 2), (59, .ireturn, 1), (60, .sipush 5400, 3), (63, .ireturn, 1)]
theorem D_X5_greatest : dkA cX5_greatest rows_X5_greatest := by
  unfold dkA
  decide +kernel
theorem okD_X5_greatest : okD yX5_greatest 1 := by
  unfold okD
  decide +kernel
def w_X5_greatest (p0 : Int32) (h : Hp) (Q : Int32 → Prop) : Prop :=
  wsw p0 [((1 : Int32), Q (9 : Int32)), ((2 : Int32), Q (5400 : Int32)), ((3 : Int32), Q (5400 : Int32)), ((4 : Int32), Q (60 : Int32)), ((5 : Int32), Q (5400 : Int32)), ((6 : Int32), Q (5400 : Int32)), ((7 : Int32), Q (29 : Int32)), ((8 : Int32), Q (16 : Int32))] (Q (5400 : Int32))
theorem t_X5_greatest {X : Cx} (p0 : Int32) (h : Hp) (Q : Int32 → Prop) (hw : w_X5_greatest p0 h Q) : G X M_X5_greatest E_X5_greatest (QM X E_X5_greatest (QIp h Q) Qn) 0 0 [(0, .int (p0))] [] h := by
  unfold w_X5_greatest at hw
  refine g_iload_n 0 (dk D_X5_greatest 0 rfl) rfl rfl ?_
  refine g_sw [((1 : Int32), 48), ((2 : Int32), 60), ((3 : Int32), 60), ((4 : Int32), 51), ((5 : Int32), 60), ((6 : Int32), 60), ((7 : Int32), 54), ((8 : Int32), 57)] 60 (dk D_X5_greatest 1 rfl) (by decide +kernel) (by decide +kernel) (by decide) (by decide) (wsw_m hw ⟨rfl, (fun hw => ?_), rfl, (fun hw => ?_), rfl, (fun hw => ?_), rfl, (fun hw => ?_), rfl, (fun hw => ?_), rfl, (fun hw => ?_), rfl, (fun hw => ?_), rfl, (fun hw => ?_), trivial⟩ (fun hw => ?_))
  · refine g_bipush (dk D_X5_greatest 2 rfl) kb_9 ?_
    exact g_iret (dk D_X5_greatest 3 rfl) rfl ⟨_, rfl, rfl, hw⟩
  · refine g_sipush (dk D_X5_greatest 10 rfl) ks_5400 ?_
    exact g_iret (dk D_X5_greatest 11 rfl) rfl ⟨_, rfl, rfl, hw⟩
  · refine g_sipush (dk D_X5_greatest 10 rfl) ks_5400 ?_
    exact g_iret (dk D_X5_greatest 11 rfl) rfl ⟨_, rfl, rfl, hw⟩
  · refine g_bipush (dk D_X5_greatest 4 rfl) kb_60 ?_
    exact g_iret (dk D_X5_greatest 5 rfl) rfl ⟨_, rfl, rfl, hw⟩
  · refine g_sipush (dk D_X5_greatest 10 rfl) ks_5400 ?_
    exact g_iret (dk D_X5_greatest 11 rfl) rfl ⟨_, rfl, rfl, hw⟩
  · refine g_sipush (dk D_X5_greatest 10 rfl) ks_5400 ?_
    exact g_iret (dk D_X5_greatest 11 rfl) rfl ⟨_, rfl, rfl, hw⟩
  · refine g_bipush (dk D_X5_greatest 6 rfl) kb_29 ?_
    exact g_iret (dk D_X5_greatest 7 rfl) rfl ⟨_, rfl, rfl, hw⟩
  · refine g_bipush (dk D_X5_greatest 8 rfl) kb_16 ?_
    exact g_iret (dk D_X5_greatest 9 rfl) rfl ⟨_, rfl, rfl, hw⟩
  · refine g_sipush (dk D_X5_greatest 10 rfl) ks_5400 ?_
    exact g_iret (dk D_X5_greatest 11 rfl) rfl ⟨_, rfl, rfl, hw⟩
theorem c_X5_greatest {X : Cx} (p0 : Int32) (h : Hp) (Q : Int32 → Prop) (hw : w_X5_greatest p0 h Q) : Con X yX5_greatest M_X5_greatest 0 0 0 [.int (p0)] h (QIp h Q) Qn :=
  con_of (by decide +kernel) rfl (Nat.le_of_ble_eq_true rfl) (t_X5_greatest p0 h Q hw)
/-! ShadowTolls$RoadReader.single(I)Z -/
abbrev M_X5_single : Mi := (RX5, cX5_single, 4, (some .boolean))
abbrev E_X5_single : Rm := (2, 62, 0, 0)
def rows_X5_single : List (Nat × Instr × Nat) := [(0, .iload_n 1, 1), (1, .bipush 7, 2), (3, .if_icmp .eq 9, 3), (6, .iload_n 1, 1), (7, .bipush 8, 2), (9, .if_icmp .ne 7, 3), (12, .iconst 0, 1), (13, .goto 4, 3), (16, .iconst 1, 1), (17, .istore_n 2, 1), (18, .aload_n 0, 1), (19, .getfield 9, 3), (22, .iload_n 2, 1), (23, .iload_n 1, 1), (24, .invokestatic 107, 3), (27, .invokevirtual 111, 3), (30, .istore_n 3, 1), (31, .iload_n 3, 1), (32, .iconst (-1), 1), (33, .if_icmp .ne 5, 3), (36, .iconst 0, 1), (37, .ireturn, 1), (38, .iload_n 1, 1), (39, .tableswitch 93 1 8 #[45, 93, 93, 56, 93, 93, 67, 82], 45), (84, .aload_n 0, 1), (85, .getfield 15, 3), (88, .iload_n 3, 1), (89, .putfield 115, 3), (92, .goto 48, 3), (95, .aload_n 0, 1), (96, .getfield 15, 3), (99, .iload_n 3, 1), (100, .putfield 117, 3), (103, .goto 37, 3), (106, .aload_n 0, 1), (107, .getfield 15, 3), (110, .getfield 119, 3), (113, .iload_n 3, 1), (114, .iconst 1, 1), (115, .invokestatic 123, 3), (118, .goto 22, 3), (121, .aload_n 0, 1), (122, .getfield 15, 3), (125, .iload_n 3, 1), (126, .putfield 127, 3), (129, .goto 11, 3), (132, .aload_n 0, 1), (133, .getfield 15, 3), (136, .iload_n 3, 1), (137, .putfield 130, 3), (140, .iconst 1, 1), (141, .ireturn, 1)]
theorem D_X5_single : dkA cX5_single rows_X5_single := by
  unfold dkA
  decide +kernel
theorem okD_X5_single : okD yX5_single 1 := by
  unfold okD
  decide +kernel
def w_X5_single (p1 : Int32) (h : Hp) (Q : Int32 → Hp → Prop) : Prop :=
  wlet ((if p1 = (7 : Int32) then (0 : Int32) else (if ¬ p1 = (8 : Int32) then (1 : Int32) else (0 : Int32)))) (fun v2_3 => w_X5_greatest (p1) h (fun z4 => w_X7_number (v2_3) (z4) h (fun z5 h6 => wif (¬ z5 = (-1 : Int32)) (wsw p1 [((1 : Int32), wlet (hup h6 8 5 z5) (fun h7 => Q ((1 : Int32) &&& 1) h7)), ((2 : Int32), wlet (hup h6 8 10 z5) (fun h8 => Q ((1 : Int32) &&& 1) h8)), ((3 : Int32), wlet (hup h6 8 10 z5) (fun h9 => Q ((1 : Int32) &&& 1) h9)), ((4 : Int32), wlet (hup h6 8 8 z5) (fun h10 => Q ((1 : Int32) &&& 1) h10)), ((5 : Int32), wlet (hup h6 8 10 z5) (fun h11 => Q ((1 : Int32) &&& 1) h11)), ((6 : Int32), wlet (hup h6 8 10 z5) (fun h12 => Q ((1 : Int32) &&& 1) h12)), ((7 : Int32), w_X8_put 11 30 (z5) ((1 : Int32)) h6 (fun h13 => Q ((1 : Int32) &&& 1) h13)), ((8 : Int32), wlet (hup h6 8 9 z5) (fun h14 => Q ((1 : Int32) &&& 1) h14))] (wlet (hup h6 8 10 z5) (fun h15 => Q ((1 : Int32) &&& 1) h15))) (Q ((0 : Int32) &&& 1) h6))))
theorem t_X5_single {X : Cx} (p1 : Int32) (h : Hp) (Q : Int32 → Hp → Prop) (hw : w_X5_single p1 h Q) : G X M_X5_single E_X5_single (QM X E_X5_single (QI Q) Qn) 0 0 [(0, .ref (42)), (1, .int (p1))] [] h := by
  unfold w_X5_single at hw
  refine g_iload_n 1 (dk D_X5_single 0 rfl) rfl rfl ?_
  refine g_bipush (dk D_X5_single 1 rfl) kb_7 ?_
  have hj : G X M_X5_single E_X5_single (QM X E_X5_single (QI Q) Qn) 0 17 [(0, .ref (42)), (1, .int (p1))] [.int ((if p1 = (7 : Int32) then (0 : Int32) else (if ¬ p1 = (8 : Int32) then (1 : Int32) else (0 : Int32))))] (h) := by
    refine g_topi (fun v2_3 ev2_3 => ?_)
    replace hw := hw _ ev2_3
    refine g_istore_n (dk D_X5_single 9 rfl) rfl (by decide) rfl ?_
    refine g_aload_n 1 (dk D_X5_single 10 rfl) rfl rfl ?_
    refine g_getR 0 (t := 1) (dk D_X5_single 11 rfl) kd_42 rfl rfl (by decide) w_272 rfl rfl rfl ?_
    refine g_iload_n 0 (dk D_X5_single 12 rfl) rfl rfl ?_
    refine g_iload_n 2 (dk D_X5_single 13 rfl) rfl rfl ?_
    refine g_callS (As := [.int (p1)]) (kc := 0) (fr := 0) (lo := 0) (mc := 0) (My := M_X5_greatest) (dk D_X5_single 14 rfl) w_916 w_917 w_105 w_918 okD_X5_greatest (by decide) (Nat.le_of_ble_eq_true rfl) rfl (c_X5_greatest (p1) (h) _ hw) kxN (kIp (fun z4 hw => ?_))
    refine g_callV (As := [.int (v2_3), .int (z4)]) (kc := 0) (fr := 1) (lo := 30) (mc := 0) (My := M_X7_number) (dk D_X5_single 15 rfl) kd_1 rfl rfl w_881 w_882 w_883 w_102 w_884 okD_X7_number (by decide) (Nat.le_of_ble_eq_true rfl) rfl (c_X7_number (v2_3) (z4) (h) _ hw) kxN (kI (fun z5 h6 hw => ?_))
    refine g_istore_n (dk D_X5_single 16 rfl) rfl (by decide) rfl ?_
    refine g_iload_n 0 (dk D_X5_single 17 rfl) rfl rfl ?_
    refine g_iconst (dk D_X5_single 18 rfl) ki_m1 ?_
    refine g_icmp_ne (dk D_X5_single 19 rfl) rfl (wif_m hw (fun hw => ?_) (fun hw => ?_))
    · refine g_iload_n 3 (dk D_X5_single 22 rfl) rfl rfl ?_
      refine g_sw [((1 : Int32), 84), ((2 : Int32), 132), ((3 : Int32), 132), ((4 : Int32), 95), ((5 : Int32), 132), ((6 : Int32), 132), ((7 : Int32), 106), ((8 : Int32), 121)] 132 (dk D_X5_single 23 rfl) (by decide +kernel) (by decide +kernel) (by decide) (by decide) (wsw_m hw ⟨rfl, (fun hw => ?_), rfl, (fun hw => ?_), rfl, (fun hw => ?_), rfl, (fun hw => ?_), rfl, (fun hw => ?_), rfl, (fun hw => ?_), rfl, (fun hw => ?_), rfl, (fun hw => ?_), trivial⟩ (fun hw => ?_))
      · refine g_aload_n 2 (dk D_X5_single 24 rfl) rfl rfl ?_
        refine g_getR 1 (t := 8) (dk D_X5_single 25 rfl) kd_42 rfl rfl (by decide) w_273 rfl rfl rfl ?_
        refine g_iload_n 0 (dk D_X5_single 26 rfl) rfl rfl ?_
        refine g_putN 5 (dk D_X5_single 27 rfl) roadP_8.1 rfl rfl (by decide) w_187 rfl tyX4_ok nmX4 rfl (by decide) rfl (fun z => absurd z (by decide)) ?_
        refine g_heap (fun h7 eh7 => ?_)
        replace hw := hw _ eh7
        refine g_goto (dk D_X5_single 28 rfl) rfl ?_
        refine g_iconst (dk D_X5_single 50 rfl) ki_1 ?_
        exact g_zret (dk D_X5_single 51 rfl) rfl ⟨_, rfl, hw⟩
      · refine g_aload_n 2 (dk D_X5_single 46 rfl) rfl rfl ?_
        refine g_getR 1 (t := 8) (dk D_X5_single 47 rfl) kd_42 rfl rfl (by decide) w_273 rfl rfl rfl ?_
        refine g_iload_n 0 (dk D_X5_single 48 rfl) rfl rfl ?_
        refine g_putN 10 (dk D_X5_single 49 rfl) roadP_8.1 rfl rfl (by decide) w_203 rfl tyX4_ok nmX4 rfl (by decide) rfl (fun z => absurd z (by decide)) ?_
        refine g_heap (fun h8 eh8 => ?_)
        replace hw := hw _ eh8
        refine g_iconst (dk D_X5_single 50 rfl) ki_1 ?_
        exact g_zret (dk D_X5_single 51 rfl) rfl ⟨_, rfl, hw⟩
      · refine g_aload_n 2 (dk D_X5_single 46 rfl) rfl rfl ?_
        refine g_getR 1 (t := 8) (dk D_X5_single 47 rfl) kd_42 rfl rfl (by decide) w_273 rfl rfl rfl ?_
        refine g_iload_n 0 (dk D_X5_single 48 rfl) rfl rfl ?_
        refine g_putN 10 (dk D_X5_single 49 rfl) roadP_8.1 rfl rfl (by decide) w_203 rfl tyX4_ok nmX4 rfl (by decide) rfl (fun z => absurd z (by decide)) ?_
        refine g_heap (fun h9 eh9 => ?_)
        replace hw := hw _ eh9
        refine g_iconst (dk D_X5_single 50 rfl) ki_1 ?_
        exact g_zret (dk D_X5_single 51 rfl) rfl ⟨_, rfl, hw⟩
      · refine g_aload_n 2 (dk D_X5_single 29 rfl) rfl rfl ?_
        refine g_getR 1 (t := 8) (dk D_X5_single 30 rfl) kd_42 rfl rfl (by decide) w_273 rfl rfl rfl ?_
        refine g_iload_n 0 (dk D_X5_single 31 rfl) rfl rfl ?_
        refine g_putN 8 (dk D_X5_single 32 rfl) roadP_8.1 rfl rfl (by decide) w_196 rfl tyX4_ok nmX4 rfl (by decide) rfl (fun z => absurd z (by decide)) ?_
        refine g_heap (fun h10 eh10 => ?_)
        replace hw := hw _ eh10
        refine g_goto (dk D_X5_single 33 rfl) rfl ?_
        refine g_iconst (dk D_X5_single 50 rfl) ki_1 ?_
        exact g_zret (dk D_X5_single 51 rfl) rfl ⟨_, rfl, hw⟩
      · refine g_aload_n 2 (dk D_X5_single 46 rfl) rfl rfl ?_
        refine g_getR 1 (t := 8) (dk D_X5_single 47 rfl) kd_42 rfl rfl (by decide) w_273 rfl rfl rfl ?_
        refine g_iload_n 0 (dk D_X5_single 48 rfl) rfl rfl ?_
        refine g_putN 10 (dk D_X5_single 49 rfl) roadP_8.1 rfl rfl (by decide) w_203 rfl tyX4_ok nmX4 rfl (by decide) rfl (fun z => absurd z (by decide)) ?_
        refine g_heap (fun h11 eh11 => ?_)
        replace hw := hw _ eh11
        refine g_iconst (dk D_X5_single 50 rfl) ki_1 ?_
        exact g_zret (dk D_X5_single 51 rfl) rfl ⟨_, rfl, hw⟩
      · refine g_aload_n 2 (dk D_X5_single 46 rfl) rfl rfl ?_
        refine g_getR 1 (t := 8) (dk D_X5_single 47 rfl) kd_42 rfl rfl (by decide) w_273 rfl rfl rfl ?_
        refine g_iload_n 0 (dk D_X5_single 48 rfl) rfl rfl ?_
        refine g_putN 10 (dk D_X5_single 49 rfl) roadP_8.1 rfl rfl (by decide) w_203 rfl tyX4_ok nmX4 rfl (by decide) rfl (fun z => absurd z (by decide)) ?_
        refine g_heap (fun h12 eh12 => ?_)
        replace hw := hw _ eh12
        refine g_iconst (dk D_X5_single 50 rfl) ki_1 ?_
        exact g_zret (dk D_X5_single 51 rfl) rfl ⟨_, rfl, hw⟩
      · refine g_aload_n 2 (dk D_X5_single 34 rfl) rfl rfl ?_
        refine g_getR 1 (t := 8) (dk D_X5_single 35 rfl) kd_42 rfl rfl (by decide) w_273 rfl rfl rfl ?_
        refine g_getNR 2 (t := 11) (dk D_X5_single 36 rfl) roadP_8.1 rfl rfl (by decide) w_179 rfl rfl rfl ?_
        refine g_iload_n 0 (dk D_X5_single 37 rfl) rfl rfl ?_
        refine g_iconst (dk D_X5_single 38 rfl) ki_1 ?_
        refine g_callSN (As := [.ref (11), .int (z5), .int ((1 : Int32))]) (kc := 0) (fr := 0) (lo := 0) (mc := 0) (My := M_X8_put) (dk D_X5_single 39 rfl) w_890 w_496 w_101 w_497 okD_X8_put (by decide) (Nat.le_of_ble_eq_true rfl) rfl (c_X8_put 11 30 (z5) ((1 : Int32)) (kd_11) (h6) _ hw) kxN (kV (fun h13 hw => ?_))
        refine g_goto (dk D_X5_single 40 rfl) rfl ?_
        refine g_iconst (dk D_X5_single 50 rfl) ki_1 ?_
        exact g_zret (dk D_X5_single 51 rfl) rfl ⟨_, rfl, hw⟩
      · refine g_aload_n 2 (dk D_X5_single 41 rfl) rfl rfl ?_
        refine g_getR 1 (t := 8) (dk D_X5_single 42 rfl) kd_42 rfl rfl (by decide) w_273 rfl rfl rfl ?_
        refine g_iload_n 0 (dk D_X5_single 43 rfl) rfl rfl ?_
        refine g_putN 9 (dk D_X5_single 44 rfl) roadP_8.1 rfl rfl (by decide) w_200 rfl tyX4_ok nmX4 rfl (by decide) rfl (fun z => absurd z (by decide)) ?_
        refine g_heap (fun h14 eh14 => ?_)
        replace hw := hw _ eh14
        refine g_goto (dk D_X5_single 45 rfl) rfl ?_
        refine g_iconst (dk D_X5_single 50 rfl) ki_1 ?_
        exact g_zret (dk D_X5_single 51 rfl) rfl ⟨_, rfl, hw⟩
      · refine g_aload_n 2 (dk D_X5_single 46 rfl) rfl rfl ?_
        refine g_getR 1 (t := 8) (dk D_X5_single 47 rfl) kd_42 rfl rfl (by decide) w_273 rfl rfl rfl ?_
        refine g_iload_n 0 (dk D_X5_single 48 rfl) rfl rfl ?_
        refine g_putN 10 (dk D_X5_single 49 rfl) roadP_8.1 rfl rfl (by decide) w_203 rfl tyX4_ok nmX4 rfl (by decide) rfl (fun z => absurd z (by decide)) ?_
        refine g_heap (fun h15 eh15 => ?_)
        replace hw := hw _ eh15
        refine g_iconst (dk D_X5_single 50 rfl) ki_1 ?_
        exact g_zret (dk D_X5_single 51 rfl) rfl ⟨_, rfl, hw⟩
    · refine g_iconst (dk D_X5_single 20 rfl) ki_0 ?_
      exact g_zret (dk D_X5_single 21 rfl) rfl ⟨_, rfl, hw⟩
  refine g_icmp_eq (dk D_X5_single 2 rfl) rfl ?_
  by_cases c2 : p1 = (7 : Int32)
  · rw [if_pos c2] at hj
    refine wif_p c2 ?_
    refine g_iconst (dk D_X5_single 6 rfl) ki_0 ?_
    refine g_goto (dk D_X5_single 7 rfl) rfl ?_
    exact hj
  · rw [if_neg c2] at hj
    refine wif_n c2 ?_
    refine g_iload_n 1 (dk D_X5_single 3 rfl) rfl rfl ?_
    refine g_bipush (dk D_X5_single 4 rfl) kb_8 ?_
    refine g_icmp_ne (dk D_X5_single 5 rfl) rfl ?_
    by_cases c1 : ¬ p1 = (8 : Int32)
    · rw [if_pos c1] at hj
      refine wif_p c1 ?_
      refine g_iconst (dk D_X5_single 8 rfl) ki_1 ?_
      exact hj
    · rw [if_neg c1] at hj
      refine wif_n c1 ?_
      refine g_iconst (dk D_X5_single 6 rfl) ki_0 ?_
      refine g_goto (dk D_X5_single 7 rfl) rfl ?_
      exact hj
theorem c_X5_single {X : Cx} (p1 : Int32) (h : Hp) (Q : Int32 → Hp → Prop) (hw : w_X5_single p1 h Q) : Con X yX5_single M_X5_single 2 62 0 [.ref (42), .int (p1)] h (QI Q) Qn :=
  con_of (by decide +kernel) rfl (Nat.le_of_ble_eq_true rfl) (t_X5_single p1 h Q hw)
/-! ShadowTolls$RoadReader.parts(I)Z -/
abbrev M_X5_parts : Mi := (RX5, cX5_parts, 2, (some .boolean))
abbrev E_X5_parts : Rm := (3, 96, 0, 0)
def rows_X5_parts : List (Nat × Instr × Nat) := [(0, .iload_n 1, 1), (1, .tableswitch 114 0 11 #[63, 114, 68, 73, 114, 78, 87, 114, 114, 99, 114, 104], 63), (64, .aload_n 0, 1), (65, .invokevirtual 86, 3), (68, .ireturn, 1), (69, .aload_n 0, 1), (70, .invokevirtual 88, 3), (73, .ireturn, 1), (74, .aload_n 0, 1), (75, .invokevirtual 90, 3), (78, .ireturn, 1), (79, .aload_n 0, 1), (80, .iconst 5, 1), (81, .iconst 1, 1), (82, .bipush 99, 2), (84, .invokevirtual 93, 3), (87, .ireturn, 1), (88, .aload_n 0, 1), (89, .bipush 6, 2), (91, .bipush 10, 2), (93, .sipush 400, 3), (96, .invokevirtual 93, 3), (99, .ireturn, 1), (100, .aload_n 0, 1), (101, .invokevirtual 97, 3), (104, .ireturn, 1), (105, .aload_n 0, 1), (106, .getfield 15, 3), (109, .iconst 1, 1), (110, .putfield 100, 3), (113, .iconst 1, 1), (114, .ireturn, 1), (115, .aload_n 0, 1), (116, .iload_n 1, 1), (117, .invokevirtual 104, 3), (120, .ireturn, 1)]
theorem D_X5_parts : dkA cX5_parts rows_X5_parts := by
  unfold dkA
  decide +kernel
theorem okD_X5_parts : okD yX5_parts 1 := by
  unfold okD
  decide +kernel
def w_X5_parts (p1 : Int32) (h : Hp) (Q : Int32 → Hp → Prop) : Prop :=
  wsw p1 [((0 : Int32), w_X5_sun  h (fun z1 h2 => Q (z1 &&& 1) h2)), ((1 : Int32), w_X5_single (p1) h (fun z3 h4 => Q (z3 &&& 1) h4)), ((2 : Int32), w_X5_keeper  h (fun z5 h6 => Q (z5 &&& 1) h6)), ((3 : Int32), w_X5_traits  h (fun z7 h8 => Q (z7 &&& 1) h8)), ((4 : Int32), w_X5_single (p1) h (fun z9 h10 => Q (z9 &&& 1) h10)), ((5 : Int32), w_X5_trait ((5 : Int32)) ((1 : Int32)) ((99 : Int32)) h (fun z11 h12 => Q (z11 &&& 1) h12)), ((6 : Int32), w_X5_trait ((6 : Int32)) ((10 : Int32)) ((400 : Int32)) h (fun z13 h14 => Q (z13 &&& 1) h14)), ((7 : Int32), w_X5_single (p1) h (fun z15 h16 => Q (z15 &&& 1) h16)), ((8 : Int32), w_X5_single (p1) h (fun z17 h18 => Q (z17 &&& 1) h18)), ((9 : Int32), w_X5_secondBridge  h (fun z19 h20 => Q (z19 &&& 1) h20)), ((10 : Int32), w_X5_single (p1) h (fun z21 h22 => Q (z21 &&& 1) h22)), ((11 : Int32), wlet (hup h 8 13 (1 : Int32)) (fun h23 => Q ((1 : Int32) &&& 1) h23))] (w_X5_single (p1) h (fun z24 h25 => Q (z24 &&& 1) h25))
theorem t_X5_parts {X : Cx} (p1 : Int32) (h : Hp) (Q : Int32 → Hp → Prop) (hw : w_X5_parts p1 h Q) : G X M_X5_parts E_X5_parts (QM X E_X5_parts (QI Q) Qn) 0 0 [(0, .ref (42)), (1, .int (p1))] [] h := by
  unfold w_X5_parts at hw
  refine g_iload_n 1 (dk D_X5_parts 0 rfl) rfl rfl ?_
  refine g_sw [((0 : Int32), 64), ((1 : Int32), 115), ((2 : Int32), 69), ((3 : Int32), 74), ((4 : Int32), 115), ((5 : Int32), 79), ((6 : Int32), 88), ((7 : Int32), 115), ((8 : Int32), 115), ((9 : Int32), 100), ((10 : Int32), 115), ((11 : Int32), 105)] 115 (dk D_X5_parts 1 rfl) (by decide +kernel) (by decide +kernel) (by decide) (by decide) (wsw_m hw ⟨rfl, (fun hw => ?_), rfl, (fun hw => ?_), rfl, (fun hw => ?_), rfl, (fun hw => ?_), rfl, (fun hw => ?_), rfl, (fun hw => ?_), rfl, (fun hw => ?_), rfl, (fun hw => ?_), rfl, (fun hw => ?_), rfl, (fun hw => ?_), rfl, (fun hw => ?_), rfl, (fun hw => ?_), trivial⟩ (fun hw => ?_))
  · refine g_aload_n 0 (dk D_X5_parts 2 rfl) rfl rfl ?_
    refine g_callV (As := []) (kc := 0) (fr := 2) (lo := 62) (mc := 0) (My := M_X5_sun) (dk D_X5_parts 3 rfl) kd_42 rfl rfl w_877 w_879 w_16 w_105 w_880 okD_X5_sun (by decide) (Nat.le_of_ble_eq_true rfl) rfl (c_X5_sun (h) _ hw) kxN (kI (fun z1 h2 hw => ?_))
    exact g_zret (dk D_X5_parts 4 rfl) rfl ⟨_, rfl, hw⟩
  · refine g_aload_n 0 (dk D_X5_parts 32 rfl) rfl rfl ?_
    refine g_iload_n 1 (dk D_X5_parts 33 rfl) rfl rfl ?_
    refine g_callV (As := [.int (p1)]) (kc := 0) (fr := 2) (lo := 62) (mc := 0) (My := M_X5_single) (dk D_X5_parts 34 rfl) kd_42 rfl rfl w_912 w_914 w_21 w_105 w_915 okD_X5_single (by decide) (Nat.le_of_ble_eq_true rfl) rfl (c_X5_single (p1) (h) _ hw) kxN (kI (fun z3 h4 hw => ?_))
    exact g_zret (dk D_X5_parts 35 rfl) rfl ⟨_, rfl, hw⟩
  · refine g_aload_n 0 (dk D_X5_parts 5 rfl) rfl rfl ?_
    refine g_callV (As := []) (kc := 0) (fr := 2) (lo := 62) (mc := 0) (My := M_X5_keeper) (dk D_X5_parts 6 rfl) kd_42 rfl rfl w_891 w_893 w_17 w_105 w_894 okD_X5_keeper (by decide) (Nat.le_of_ble_eq_true rfl) rfl (c_X5_keeper (h) _ hw) kxN (kI (fun z5 h6 hw => ?_))
    exact g_zret (dk D_X5_parts 7 rfl) rfl ⟨_, rfl, hw⟩
  · refine g_aload_n 0 (dk D_X5_parts 8 rfl) rfl rfl ?_
    refine g_callV (As := []) (kc := 0) (fr := 2) (lo := 62) (mc := 0) (My := M_X5_traits) (dk D_X5_parts 9 rfl) kd_42 rfl rfl w_895 w_897 w_18 w_105 w_898 okD_X5_traits (by decide) (Nat.le_of_ble_eq_true rfl) rfl (c_X5_traits (h) _ hw) kxN (kI (fun z7 h8 hw => ?_))
    exact g_zret (dk D_X5_parts 10 rfl) rfl ⟨_, rfl, hw⟩
  · refine g_aload_n 0 (dk D_X5_parts 32 rfl) rfl rfl ?_
    refine g_iload_n 1 (dk D_X5_parts 33 rfl) rfl rfl ?_
    refine g_callV (As := [.int (p1)]) (kc := 0) (fr := 2) (lo := 62) (mc := 0) (My := M_X5_single) (dk D_X5_parts 34 rfl) kd_42 rfl rfl w_912 w_914 w_21 w_105 w_915 okD_X5_single (by decide) (Nat.le_of_ble_eq_true rfl) rfl (c_X5_single (p1) (h) _ hw) kxN (kI (fun z9 h10 hw => ?_))
    exact g_zret (dk D_X5_parts 35 rfl) rfl ⟨_, rfl, hw⟩
  · refine g_aload_n 0 (dk D_X5_parts 11 rfl) rfl rfl ?_
    refine g_iconst (dk D_X5_parts 12 rfl) ki_5 ?_
    refine g_iconst (dk D_X5_parts 13 rfl) ki_1 ?_
    refine g_bipush (dk D_X5_parts 14 rfl) kb_99 ?_
    refine g_callV (As := [.int ((5 : Int32)), .int ((1 : Int32)), .int ((99 : Int32))]) (kc := 0) (fr := 2) (lo := 62) (mc := 0) (My := M_X5_trait) (dk D_X5_parts 15 rfl) kd_42 rfl rfl w_904 w_906 w_19 w_105 w_907 okD_X5_trait (by decide) (Nat.le_of_ble_eq_true rfl) rfl (c_X5_trait ((5 : Int32)) ((1 : Int32)) ((99 : Int32)) (h) _ hw) kxN (kI (fun z11 h12 hw => ?_))
    exact g_zret (dk D_X5_parts 16 rfl) rfl ⟨_, rfl, hw⟩
  · refine g_aload_n 0 (dk D_X5_parts 17 rfl) rfl rfl ?_
    refine g_bipush (dk D_X5_parts 18 rfl) kb_6 ?_
    refine g_bipush (dk D_X5_parts 19 rfl) kb_10 ?_
    refine g_sipush (dk D_X5_parts 20 rfl) ks_400 ?_
    refine g_callV (As := [.int ((6 : Int32)), .int ((10 : Int32)), .int ((400 : Int32))]) (kc := 0) (fr := 2) (lo := 62) (mc := 0) (My := M_X5_trait) (dk D_X5_parts 21 rfl) kd_42 rfl rfl w_904 w_906 w_19 w_105 w_907 okD_X5_trait (by decide) (Nat.le_of_ble_eq_true rfl) rfl (c_X5_trait ((6 : Int32)) ((10 : Int32)) ((400 : Int32)) (h) _ hw) kxN (kI (fun z13 h14 hw => ?_))
    exact g_zret (dk D_X5_parts 22 rfl) rfl ⟨_, rfl, hw⟩
  · refine g_aload_n 0 (dk D_X5_parts 32 rfl) rfl rfl ?_
    refine g_iload_n 1 (dk D_X5_parts 33 rfl) rfl rfl ?_
    refine g_callV (As := [.int (p1)]) (kc := 0) (fr := 2) (lo := 62) (mc := 0) (My := M_X5_single) (dk D_X5_parts 34 rfl) kd_42 rfl rfl w_912 w_914 w_21 w_105 w_915 okD_X5_single (by decide) (Nat.le_of_ble_eq_true rfl) rfl (c_X5_single (p1) (h) _ hw) kxN (kI (fun z15 h16 hw => ?_))
    exact g_zret (dk D_X5_parts 35 rfl) rfl ⟨_, rfl, hw⟩
  · refine g_aload_n 0 (dk D_X5_parts 32 rfl) rfl rfl ?_
    refine g_iload_n 1 (dk D_X5_parts 33 rfl) rfl rfl ?_
    refine g_callV (As := [.int (p1)]) (kc := 0) (fr := 2) (lo := 62) (mc := 0) (My := M_X5_single) (dk D_X5_parts 34 rfl) kd_42 rfl rfl w_912 w_914 w_21 w_105 w_915 okD_X5_single (by decide) (Nat.le_of_ble_eq_true rfl) rfl (c_X5_single (p1) (h) _ hw) kxN (kI (fun z17 h18 hw => ?_))
    exact g_zret (dk D_X5_parts 35 rfl) rfl ⟨_, rfl, hw⟩
  · refine g_aload_n 0 (dk D_X5_parts 23 rfl) rfl rfl ?_
    refine g_callV (As := []) (kc := 0) (fr := 2) (lo := 62) (mc := 0) (My := M_X5_secondBridge) (dk D_X5_parts 24 rfl) kd_42 rfl rfl w_908 w_910 w_20 w_105 w_911 okD_X5_secondBridge (by decide) (Nat.le_of_ble_eq_true rfl) rfl (c_X5_secondBridge (h) _ hw) kxN (kI (fun z19 h20 hw => ?_))
    exact g_zret (dk D_X5_parts 25 rfl) rfl ⟨_, rfl, hw⟩
  · refine g_aload_n 0 (dk D_X5_parts 32 rfl) rfl rfl ?_
    refine g_iload_n 1 (dk D_X5_parts 33 rfl) rfl rfl ?_
    refine g_callV (As := [.int (p1)]) (kc := 0) (fr := 2) (lo := 62) (mc := 0) (My := M_X5_single) (dk D_X5_parts 34 rfl) kd_42 rfl rfl w_912 w_914 w_21 w_105 w_915 okD_X5_single (by decide) (Nat.le_of_ble_eq_true rfl) rfl (c_X5_single (p1) (h) _ hw) kxN (kI (fun z21 h22 hw => ?_))
    exact g_zret (dk D_X5_parts 35 rfl) rfl ⟨_, rfl, hw⟩
  · refine g_aload_n 0 (dk D_X5_parts 26 rfl) rfl rfl ?_
    refine g_getR 1 (t := 8) (dk D_X5_parts 27 rfl) kd_42 rfl rfl (by decide) w_273 rfl rfl rfl ?_
    refine g_iconst (dk D_X5_parts 28 rfl) ki_1 ?_
    refine g_putN 13 (dk D_X5_parts 29 rfl) roadP_8.1 rfl rfl (by decide) w_209 rfl tyX4_ok nmX4 rfl (by decide) rfl (fun _ => by decide) ?_
    refine g_heap (fun h23 eh23 => ?_)
    replace hw := hw _ eh23
    refine g_iconst (dk D_X5_parts 30 rfl) ki_1 ?_
    exact g_zret (dk D_X5_parts 31 rfl) rfl ⟨_, rfl, hw⟩
  · refine g_aload_n 0 (dk D_X5_parts 32 rfl) rfl rfl ?_
    refine g_iload_n 1 (dk D_X5_parts 33 rfl) rfl rfl ?_
    refine g_callV (As := [.int (p1)]) (kc := 0) (fr := 2) (lo := 62) (mc := 0) (My := M_X5_single) (dk D_X5_parts 34 rfl) kd_42 rfl rfl w_912 w_914 w_21 w_105 w_915 okD_X5_single (by decide) (Nat.le_of_ble_eq_true rfl) rfl (c_X5_single (p1) (h) _ hw) kxN (kI (fun z24 h25 hw => ?_))
    exact g_zret (dk D_X5_parts 35 rfl) rfl ⟨_, rfl, hw⟩
theorem c_X5_parts {X : Cx} (p1 : Int32) (h : Hp) (Q : Int32 → Hp → Prop) (hw : w_X5_parts p1 h Q) : Con X yX5_parts M_X5_parts 3 96 0 [.ref (42), .int (p1)] h (QI Q) Qn :=
  con_of (by decide +kernel) rfl (Nat.le_of_ble_eq_true rfl) (t_X5_parts p1 h Q hw)
/-! ShadowTolls$RoadReader.clause(I)Z -/
abbrev M_X5_clause : Mi := (RX5, cX5_clause, 4, (some .boolean))
abbrev E_X5_clause : Rm := (8, 260, 0, 0)
def rows_X5_clause : List (Nat × Instr × Nat) := [(0, .aload_n 0, 1), (1, .getfield 9, 3), (4, .invokevirtual 37, 3), (7, .istore_n 2, 1), (8, .aload_n 0, 1), (9, .invokevirtual 41, 3), (12, .istore_n 3, 1), (13, .iload_n 3, 1), (14, .iconst (-1), 1), (15, .if_icmp .ne 13, 3), (18, .aload_n 0, 1), (19, .getfield 9, 3), (22, .iconst 1, 1), (23, .iload_n 2, 1), (24, .invokevirtual 44, 3), (27, .ireturn, 1), (28, .iload_n 1, 1), (29, .bipush 40, 2), (31, .if_icmp .ge 20, 3), (34, .iload_n 3, 1), (35, .iconst 3, 1), (36, .if_icmp .ne 25, 3), (39, .aload_n 0, 1), (40, .getfield 15, 3), (43, .getfield 48, 3), (46, .bipush 8, 2), (48, .if_icmp .lt 13, 3), (51, .aload_n 0, 1), (52, .getfield 9, 3), (55, .iconst 3, 1), (56, .iload_n 2, 1), (57, .invokevirtual 44, 3), (60, .ireturn, 1), (61, .aload_n 0, 1), (62, .iload_n 3, 1), (63, .invokevirtual 52, 3), (66, .ifCond .eq 19, 3), (69, .aload_n 0, 1), (70, .getfield 9, 3), (73, .bipush 59, 2), (75, .invokevirtual 55, 3), (78, .ifCond .eq 7, 3), (81, .iconst 1, 1), (82, .goto 4, 3), (85, .iconst 0, 1), (86, .ireturn, 1)]
theorem D_X5_clause : dkA cX5_clause rows_X5_clause := by
  unfold dkA
  decide +kernel
theorem okD_X5_clause : okD yX5_clause 1 := by
  unfold okD
  decide +kernel
def w_X5_clause_b51 (p1 : Int32) (v2 : Int32) (h : Hp) (Q : Int32 → Hp → Prop) : Prop :=
  w_X7_fail ((3 : Int32)) (v2) h (fun z1 h2 => Q (z1 &&& 1) h2)
def w_X5_clause_b61 (p1 : Int32) (v3 : Int32) (h : Hp) (Q : Int32 → Hp → Prop) : Prop :=
  w_X5_parts (v3) h (fun z1 h2 => wif (z1 = 0) (Q ((0 : Int32) &&& 1) h2) (w_X7_must ((59 : Int32)) h2 (fun z3 h4 => Q ((if z3 = 0 then (0 : Int32) else (1 : Int32)) &&& 1) h4)))
def w_X5_clause (p1 : Int32) (h : Hp) (Q : Int32 → Hp → Prop) : Prop :=
  w_X7_start  h (fun z1 h2 => w_X5_clauseWord  h2 (fun z3 h4 => wif (¬ z3 = (-1 : Int32)) (wif ((40 : Int32) ≤ p1) (w_X5_clause_b51 p1 (z1) (h4) Q) (wif (¬ z3 = (3 : Int32)) (w_X5_clause_b61 p1 (z3) (h4) Q) (wif ((h4 8 4) < (8 : Int32)) (w_X5_clause_b61 p1 (z3) (h4) Q) (w_X5_clause_b51 p1 (z1) (h4) Q)))) (w_X7_fail ((1 : Int32)) (z1) h4 (fun z5 h6 => Q (z5 &&& 1) h6))))
theorem t_X5_clause_b51 {X : Cx} (p1 : Int32) (v2 : Int32) (h : Hp) (Q : Int32 → Hp → Prop) (hw : w_X5_clause_b51 p1 v2 h Q) : G X M_X5_clause E_X5_clause (QM X E_X5_clause (QI Q) Qn) 0 51 [(0, .ref (42)), (2, .int (v2))] [] h := by
  unfold w_X5_clause_b51 at hw
  refine g_aload_n 0 (dk D_X5_clause 27 rfl) rfl rfl ?_
  refine g_getR 0 (t := 1) (dk D_X5_clause 28 rfl) kd_42 rfl rfl (by decide) w_272 rfl rfl rfl ?_
  refine g_iconst (dk D_X5_clause 29 rfl) ki_3 ?_
  refine g_iload_n 1 (dk D_X5_clause 30 rfl) rfl rfl ?_
  refine g_callV (As := [.int ((3 : Int32)), .int (v2)]) (kc := 0) (fr := 0) (lo := 0) (mc := 0) (My := M_X7_fail) (dk D_X5_clause 31 rfl) kd_1 rfl rfl w_869 w_870 w_871 w_102 w_872 okD_X7_fail (by decide) (Nat.le_of_ble_eq_true rfl) rfl (c_X7_fail ((3 : Int32)) (v2) (h) _ hw) kxN (kI (fun z1 h2 hw => ?_))
  exact g_zret (dk D_X5_clause 32 rfl) rfl ⟨_, rfl, hw⟩
theorem t_X5_clause_b61 {X : Cx} (p1 : Int32) (v3 : Int32) (h : Hp) (Q : Int32 → Hp → Prop) (hw : w_X5_clause_b61 p1 v3 h Q) : G X M_X5_clause E_X5_clause (QM X E_X5_clause (QI Q) Qn) 0 61 [(0, .ref (42)), (3, .int (v3))] [] h := by
  unfold w_X5_clause_b61 at hw
  refine g_aload_n 0 (dk D_X5_clause 33 rfl) rfl rfl ?_
  refine g_iload_n 1 (dk D_X5_clause 34 rfl) rfl rfl ?_
  refine g_callV (As := [.int (v3)]) (kc := 0) (fr := 3) (lo := 96) (mc := 0) (My := M_X5_parts) (dk D_X5_clause 35 rfl) kd_42 rfl rfl w_873 w_875 w_15 w_105 w_876 okD_X5_parts (by decide) (Nat.le_of_ble_eq_true rfl) rfl (c_X5_parts (v3) (h) _ hw) kxN (kI (fun z1 h2 hw => ?_))
  refine g_if_eq (dk D_X5_clause 36 rfl) rfl (wif_m hw (fun hw => ?_) (fun hw => ?_))
  · refine g_iconst (dk D_X5_clause 44 rfl) ki_0 ?_
    exact g_zret (dk D_X5_clause 45 rfl) rfl ⟨_, rfl, hw⟩
  · refine g_aload_n 0 (dk D_X5_clause 37 rfl) rfl rfl ?_
    refine g_getR 0 (t := 1) (dk D_X5_clause 38 rfl) kd_42 rfl rfl (by decide) w_272 rfl rfl rfl ?_
    refine g_bipush (dk D_X5_clause 39 rfl) kb_59 ?_
    refine g_callV (As := [.int ((59 : Int32))]) (kc := 0) (fr := 2) (lo := 59) (mc := 0) (My := M_X7_must) (dk D_X5_clause 40 rfl) kd_1 rfl rfl w_919 w_920 w_921 w_102 w_922 okD_X7_must (by decide) (Nat.le_of_ble_eq_true rfl) rfl (c_X7_must ((59 : Int32)) (h2) _ hw) kxN (kI (fun z3 h4 hw => ?_))
    have hj : G X M_X5_clause E_X5_clause (QM X E_X5_clause (QI Q) Qn) 0 86 [(0, .ref (42)), (3, .int (v3))] [.int ((if z3 = 0 then (0 : Int32) else (1 : Int32)))] (h4) := by
      exact g_zret (dk D_X5_clause 45 rfl) rfl ⟨_, rfl, hw⟩
    refine g_if_eq (dk D_X5_clause 41 rfl) rfl ?_
    by_cases c5 : z3 = 0
    · rw [if_pos c5] at hj
      refine wif_p c5 ?_
      refine g_iconst (dk D_X5_clause 44 rfl) ki_0 ?_
      exact hj
    · rw [if_neg c5] at hj
      refine wif_n c5 ?_
      refine g_iconst (dk D_X5_clause 42 rfl) ki_1 ?_
      refine g_goto (dk D_X5_clause 43 rfl) rfl ?_
      exact hj
theorem t_X5_clause {X : Cx} (p1 : Int32) (h : Hp) (Q : Int32 → Hp → Prop) (hw : w_X5_clause p1 h Q) : G X M_X5_clause E_X5_clause (QM X E_X5_clause (QI Q) Qn) 0 0 [(0, .ref (42)), (1, .int (p1))] [] h := by
  unfold w_X5_clause at hw
  refine g_aload_n 0 (dk D_X5_clause 0 rfl) rfl rfl ?_
  refine g_getR 0 (t := 1) (dk D_X5_clause 1 rfl) kd_42 rfl rfl (by decide) w_272 rfl rfl rfl ?_
  refine g_callV (As := []) (kc := 0) (fr := 0) (lo := 0) (mc := 0) (My := M_X7_start) (dk D_X5_clause 2 rfl) kd_1 rfl rfl w_796 w_789 w_790 w_102 w_791 okD_X7_start (by decide) (Nat.le_of_ble_eq_true rfl) rfl (c_X7_start (h) _ hw) kxN (kI (fun z1 h2 hw => ?_))
  refine g_istore_n (dk D_X5_clause 3 rfl) rfl (by decide) rfl ?_
  refine g_aload_n 1 (dk D_X5_clause 4 rfl) rfl rfl ?_
  refine g_callV (As := []) (kc := 0) (fr := 7) (lo := 232) (mc := 0) (My := M_X5_clauseWord) (dk D_X5_clause 5 rfl) kd_42 rfl rfl w_797 w_799 w_14 w_105 w_800 okD_X5_clauseWord (by decide) (Nat.le_of_ble_eq_true rfl) rfl (c_X5_clauseWord (h2) _ hw) kxN (kI (fun z3 h4 hw => ?_))
  refine g_istore_n (dk D_X5_clause 6 rfl) rfl (by decide) rfl ?_
  refine g_iload_n 0 (dk D_X5_clause 7 rfl) rfl rfl ?_
  refine g_iconst (dk D_X5_clause 8 rfl) ki_m1 ?_
  refine g_icmp_ne (dk D_X5_clause 9 rfl) rfl (wif_m hw (fun hw => ?_) (fun hw => ?_))
  · refine g_iload_n 3 (dk D_X5_clause 16 rfl) rfl rfl ?_
    refine g_bipush (dk D_X5_clause 17 rfl) kb_40 ?_
    refine g_icmp_ge (dk D_X5_clause 18 rfl) rfl (wif_m hw (fun hw => ?_) (fun hw => ?_))
    · refine g_sub [2, 1] rfl ?_
      exact t_X5_clause_b51 p1 (z1) (h4) Q hw
    · refine g_iload_n 0 (dk D_X5_clause 19 rfl) rfl rfl ?_
      refine g_iconst (dk D_X5_clause 20 rfl) ki_3 ?_
      refine g_icmp_ne (dk D_X5_clause 21 rfl) rfl (wif_m hw (fun hw => ?_) (fun hw => ?_))
      · refine g_sub [2, 0] rfl ?_
        exact t_X5_clause_b61 p1 (z3) (h4) Q hw
      · refine g_aload_n 2 (dk D_X5_clause 22 rfl) rfl rfl ?_
        refine g_getR 1 (t := 8) (dk D_X5_clause 23 rfl) kd_42 rfl rfl (by decide) w_273 rfl rfl rfl ?_
        refine g_getNI 4 (dk D_X5_clause 24 rfl) roadP_8.1 rfl rfl (by decide) w_183 rfl rfl ?_
        refine g_bipush (dk D_X5_clause 25 rfl) kb_8 ?_
        refine g_icmp_lt (dk D_X5_clause 26 rfl) rfl (wif_m hw (fun hw => ?_) (fun hw => ?_))
        · refine g_sub [2, 0] rfl ?_
          exact t_X5_clause_b61 p1 (z3) (h4) Q hw
        · refine g_sub [2, 1] rfl ?_
          exact t_X5_clause_b51 p1 (z1) (h4) Q hw
  · refine g_aload_n 2 (dk D_X5_clause 10 rfl) rfl rfl ?_
    refine g_getR 0 (t := 1) (dk D_X5_clause 11 rfl) kd_42 rfl rfl (by decide) w_272 rfl rfl rfl ?_
    refine g_iconst (dk D_X5_clause 12 rfl) ki_1 ?_
    refine g_iload_n 1 (dk D_X5_clause 13 rfl) rfl rfl ?_
    refine g_callV (As := [.int ((1 : Int32)), .int (z1)]) (kc := 0) (fr := 0) (lo := 0) (mc := 0) (My := M_X7_fail) (dk D_X5_clause 14 rfl) kd_1 rfl rfl w_869 w_870 w_871 w_102 w_872 okD_X7_fail (by decide) (Nat.le_of_ble_eq_true rfl) rfl (c_X7_fail ((1 : Int32)) (z1) (h4) _ hw) kxN (kI (fun z5 h6 hw => ?_))
    exact g_zret (dk D_X5_clause 15 rfl) rfl ⟨_, rfl, hw⟩
theorem c_X5_clause {X : Cx} (p1 : Int32) (h : Hp) (Q : Int32 → Hp → Prop) (hw : w_X5_clause p1 h Q) : Con X yX5_clause M_X5_clause 8 260 0 [.ref (42), .int (p1)] h (QI Q) Qn :=
  con_of (by decide +kernel) rfl (Nat.le_of_ble_eq_true rfl) (t_X5_clause p1 h Q hw)
/-! ShadowTolls$RoadReader.clauses()Z -/
abbrev M_X5_clauses : Mi := (RX5, cX5_clauses, 2, (some .boolean))
abbrev E_X5_clauses : Rm := (9, 291, 0, 0)
def rows_X5_clauses : List (Nat × Instr × Nat) := [(0, .aload_n 0, 1), (1, .getfield 15, 3), (4, .invokevirtual 19, 3), (7, .iconst 0, 1), (8, .istore_n 1, 1), (9, .iload_n 1, 1), (10, .bipush 40, 2), (12, .if_icmp .gt 29, 3), (15, .aload_n 0, 1), (16, .getfield 9, 3), (19, .invokevirtual 24, 3), (22, .ifCond .eq 19, 3), (25, .aload_n 0, 1), (26, .iload_n 1, 1), (27, .invokevirtual 30, 3), (30, .ifCond .ne 5, 3), (33, .iconst 0, 1), (34, .ireturn, 1), (35, .iinc 1 1, 3), (38, .goto (-29), 3), (41, .aload_n 0, 1), (42, .getfield 15, 3), (45, .invokevirtual 34, 3), (48, .iconst 1, 1), (49, .ireturn, 1)]
theorem D_X5_clauses : dkA cX5_clauses rows_X5_clauses := by
  unfold dkA
  decide +kernel
theorem okD_X5_clauses : okD yX5_clauses 0 := by
  unfold okD
  decide +kernel
def w_X5_clauses_b41 (h : Hp) (Q : Int32 → Hp → Prop) : Prop :=
  w_X4_spreadSuns 8 h (fun h1 => Q ((1 : Int32) &&& 1) h1)
def w_X5_clauses_l9 (Q : Int32 → Hp → Prop) (K9 : Int32 × Hp → Prop) (v1 : Int32) (h : Hp) : Prop :=
  wif ((40 : Int32) < v1) (w_X5_clauses_b41 (h) Q) (w_X7_more  h (fun z1 h2 => wif (z1 = 0) (w_X5_clauses_b41 (h2) Q) (w_X5_clause (v1) h2 (fun z3 h4 => wif (¬ z3 = 0) (K9 ((v1 + (1 : Int32)), h4)) (Q ((0 : Int32) &&& 1) h4)))))
def w_X5_clauses_b9 (Q : Int32 → Hp → Prop) (s : Int32 × Hp) : Prop := wl (fun K s => w_X5_clauses_l9 Q K s.1 s.2) s
def w_X5_clauses (h : Hp) (Q : Int32 → Hp → Prop) : Prop :=
  w_X4_beUntold 8 h (fun h1 => w_X5_clauses_b9 Q ((0 : Int32), h1))
theorem t_X5_clauses_b41 {X : Cx} (h : Hp) (Q : Int32 → Hp → Prop) (hw : w_X5_clauses_b41 h Q) : G X M_X5_clauses E_X5_clauses (QM X E_X5_clauses (QI Q) Qn) 0 41 [(0, .ref (42))] [] h := by
  unfold w_X5_clauses_b41 at hw
  refine g_aload_n 0 (dk D_X5_clauses 20 rfl) rfl rfl ?_
  refine g_getR 1 (t := 8) (dk D_X5_clauses 21 rfl) kd_42 rfl rfl (by decide) w_273 rfl rfl rfl ?_
  refine g_callV (As := []) (kc := 0) (fr := 1) (lo := 30) (mc := 0) (My := M_X4_spreadSuns) (dk D_X5_clauses 22 rfl) roadP_8.1 rfl rfl w_927 w_928 w_929 w_103 w_930 okD_X4_spreadSuns (by decide) (Nat.le_of_ble_eq_true rfl) rfl (c_X4_spreadSuns 8 (roadP_8) (h) _ hw) kxN (kV (fun h1 hw => ?_))
  refine g_iconst (dk D_X5_clauses 23 rfl) ki_1 ?_
  exact g_zret (dk D_X5_clauses 24 rfl) rfl ⟨_, rfl, hw⟩
theorem t_X5_clauses_l9 {X : Cx} (Q : Int32 → Hp → Prop) (K9 : Int32 × Hp → Prop) (v1 : Int32) (h : Hp) (hK9 : ∀ s : Int32 × Hp, K9 s → G X M_X5_clauses E_X5_clauses (QM X E_X5_clauses (QI Q) Qn) 0 9 [(0, .ref (42)), (1, .int (s.1))] [] (s.2)) (hw : w_X5_clauses_l9 Q K9 v1 h) : G X M_X5_clauses E_X5_clauses (QM X E_X5_clauses (QI Q) Qn) 0 9 [(0, .ref (42)), (1, .int (v1))] [] h := by
  unfold w_X5_clauses_l9 at hw
  refine g_iload_n 1 (dk D_X5_clauses 5 rfl) rfl rfl ?_
  refine g_bipush (dk D_X5_clauses 6 rfl) kb_40 ?_
  refine g_icmp_gt (dk D_X5_clauses 7 rfl) rfl (wif_m hw (fun hw => ?_) (fun hw => ?_))
  · refine g_sub [0] rfl ?_
    exact t_X5_clauses_b41 (h) Q hw
  · refine g_aload_n 0 (dk D_X5_clauses 8 rfl) rfl rfl ?_
    refine g_getR 0 (t := 1) (dk D_X5_clauses 9 rfl) kd_42 rfl rfl (by decide) w_272 rfl rfl rfl ?_
    refine g_callV (As := []) (kc := 0) (fr := 1) (lo := 28) (mc := 0) (My := M_X7_more) (dk D_X5_clauses 10 rfl) kd_1 rfl rfl w_784 w_785 w_786 w_102 w_787 okD_X7_more (by decide) (Nat.le_of_ble_eq_true rfl) rfl (c_X7_more (h) _ hw) kxN (kI (fun z1 h2 hw => ?_))
    refine g_if_eq (dk D_X5_clauses 11 rfl) rfl (wif_m hw (fun hw => ?_) (fun hw => ?_))
    · refine g_sub [0] rfl ?_
      exact t_X5_clauses_b41 (h2) Q hw
    · refine g_aload_n 0 (dk D_X5_clauses 12 rfl) rfl rfl ?_
      refine g_iload_n 1 (dk D_X5_clauses 13 rfl) rfl rfl ?_
      refine g_callV (As := [.int (v1)]) (kc := 0) (fr := 8) (lo := 260) (mc := 0) (My := M_X5_clause) (dk D_X5_clauses 14 rfl) kd_42 rfl rfl w_792 w_794 w_13 w_105 w_795 okD_X5_clause (by decide) (Nat.le_of_ble_eq_true rfl) rfl (c_X5_clause (v1) (h2) _ hw) kxN (kI (fun z3 h4 hw => ?_))
      refine g_if_ne (dk D_X5_clauses 15 rfl) rfl (wif_m hw (fun hw => ?_) (fun hw => ?_))
      · refine g_iinc 1 (dk D_X5_clauses 18 rfl) rfl (congrArg (fun z => _ + z) ki_1) (by decide) rfl ?_
        refine g_goto (dk D_X5_clauses 19 rfl) rfl ?_
        refine g_sub [1, 0] rfl ?_
        exact hK9 ((v1 + (1 : Int32)), h4) hw
      · refine g_iconst (dk D_X5_clauses 16 rfl) ki_0 ?_
        exact g_zret (dk D_X5_clauses 17 rfl) rfl ⟨_, rfl, hw⟩
theorem t_X5_clauses_b9 {X : Cx} (Q : Int32 → Hp → Prop) (s : Int32 × Hp) (hw : w_X5_clauses_b9 Q s) : G X M_X5_clauses E_X5_clauses (QM X E_X5_clauses (QI Q) Qn) 0 9 [(0, .ref (42)), (1, .int (s.1))] [] (s.2) :=
  wl_ind (B := fun K s => w_X5_clauses_l9 Q K (s.1) (s.2)) (P := fun s => G X M_X5_clauses E_X5_clauses (QM X E_X5_clauses (QI Q) Qn) 0 9 [(0, .ref (42)), (1, .int (s.1))] [] (s.2)) (fun K hK s hw => t_X5_clauses_l9 Q K (s.1) (s.2) hK hw) s hw
theorem t_X5_clauses {X : Cx} (h : Hp) (Q : Int32 → Hp → Prop) (hw : w_X5_clauses h Q) : G X M_X5_clauses E_X5_clauses (QM X E_X5_clauses (QI Q) Qn) 0 0 [(0, .ref (42))] [] h := by
  unfold w_X5_clauses at hw
  refine g_aload_n 0 (dk D_X5_clauses 0 rfl) rfl rfl ?_
  refine g_getR 1 (t := 8) (dk D_X5_clauses 1 rfl) kd_42 rfl rfl (by decide) w_273 rfl rfl rfl ?_
  refine g_callVN (As := []) (kc := 0) (fr := 1) (lo := 30) (mc := 0) (My := M_X4_beUntold) (dk D_X5_clauses 2 rfl) roadP_8.1 rfl rfl w_783 w_169 w_0 w_103 w_170 okD_X4_beUntold (by decide) (Nat.le_of_ble_eq_true rfl) rfl (c_X4_beUntold 8 (roadP_8) (h) _ hw) kxN (kV (fun h1 hw => ?_))
  refine g_iconst (dk D_X5_clauses 3 rfl) ki_0 ?_
  refine g_istore_n (dk D_X5_clauses 4 rfl) rfl (by decide) rfl ?_
  refine g_sub [1, 0] rfl ?_
  exact t_X5_clauses_b9 Q ((0 : Int32), h1) hw
theorem c_X5_clauses {X : Cx} (h : Hp) (Q : Int32 → Hp → Prop) (hw : w_X5_clauses h Q) : Con X yX5_clauses M_X5_clauses 9 291 0 [.ref (42)] h (QI Q) Qn :=
  con_of (by decide +kernel) rfl (Nat.le_of_ble_eq_true rfl) (t_X5_clauses h Q hw)
/-! ShadowTolls$Season.nextSky()I -/
abbrev M_X6_nextSky : Mi := (RX6, cX6_nextSky, 3, (some .int))
abbrev E_X6_nextSky : Rm := (0, 0, 0, 0)
def rows_X6_nextSky : List (Nat × Instr × Nat) := [(0, .iconst 0, 1), (1, .istore_n 1, 1), (2, .iconst 0, 1), (3, .istore_n 2, 1), (4, .iload_n 2, 1), (5, .bipush 24, 2), (7, .if_icmp .ge 54, 3), (10, .aload_n 0, 1), (11, .aload_n 0, 1), (12, .getfield 29, 3), (15, .ldc 37, 2), (17, .imul, 1), (18, .sipush 12345, 3), (21, .iadd, 1), (22, .putfield 29, 3), (25, .aload_n 0, 1), (26, .getfield 29, 3), (29, .bipush 16, 2), (31, .ishr, 1), (32, .sipush 32767, 3), (35, .iand, 1), (36, .bipush 16, 2), (38, .irem, 1), (39, .aload_n 0, 1), (40, .getfield 21, 3), (43, .getfield 38, 3), (46, .if_icmp .ge 9, 3), (49, .iload_n 1, 1), (50, .iconst 1, 1), (51, .iload_n 2, 1), (52, .ishl, 1), (53, .ior, 1), (54, .istore_n 1, 1), (55, .iinc 2 1, 3), (58, .goto (-54), 3), (61, .iload_n 1, 1), (62, .ireturn, 1)]
theorem D_X6_nextSky : dkA cX6_nextSky rows_X6_nextSky := by
  unfold dkA
  decide +kernel
theorem okD_X6_nextSky : okD yX6_nextSky 0 := by
  unfold okD
  decide +kernel
def w_X6_nextSky_b55 (v1 : Int32) (v2 : Int32) (K4 : Int32 × Int32 × Hp → Prop) (h : Hp) (Q : Int32 → Hp → Prop) : Prop :=
  K4 (v1, (v2 + (1 : Int32)), h)
def w_X6_nextSky_l4 (Q : Int32 → Hp → Prop) (K4 : Int32 × Int32 × Hp → Prop) (v1 : Int32) (v2 : Int32) (h : Hp) : Prop :=
  wif ((24 : Int32) ≤ v2) (Q v1 h) (wlet (hup h 58 5 (((h 58 5) * (1103515245 : Int32)) + (12345 : Int32))) (fun h1 => wif ((h1 3 9) ≤ ((((h1 58 5) >>> ((16 : Int32) &&& 31)) &&& (32767 : Int32)) - (((h1 58 5) >>> ((16 : Int32) &&& 31)) &&& (32767 : Int32)) / (16 : Int32) * (16 : Int32))) (w_X6_nextSky_b55 (v1) (v2) K4 (h1) Q) (wlet ((v1 ||| ((1 : Int32) <<< (v2 &&& 31)))) (fun v1_2 => w_X6_nextSky_b55 (v1_2) (v2) K4 (h1) Q))))
def w_X6_nextSky_b4 (Q : Int32 → Hp → Prop) (s : Int32 × Int32 × Hp) : Prop := wl (fun K s => w_X6_nextSky_l4 Q K s.1 s.2.1 s.2.2) s
def w_X6_nextSky (h : Hp) (Q : Int32 → Hp → Prop) : Prop :=
  w_X6_nextSky_b4 Q ((0 : Int32), (0 : Int32), h)
theorem t_X6_nextSky_b55 {X : Cx} (v1 : Int32) (v2 : Int32) (K4 : Int32 × Int32 × Hp → Prop) (h : Hp) (Q : Int32 → Hp → Prop) (hK4 : ∀ s : Int32 × Int32 × Hp, K4 s → G X M_X6_nextSky E_X6_nextSky (QM X E_X6_nextSky (QI Q) Qn) 0 4 [(0, .ref (58)), (1, .int (s.1)), (2, .int (s.2.1))] [] (s.2.2)) (hw : w_X6_nextSky_b55 v1 v2 K4 h Q) : G X M_X6_nextSky E_X6_nextSky (QM X E_X6_nextSky (QI Q) Qn) 0 55 [(0, .ref (58)), (1, .int (v1)), (2, .int (v2))] [] h := by
  unfold w_X6_nextSky_b55 at hw
  refine g_iinc 2 (dk D_X6_nextSky 33 rfl) rfl (congrArg (fun z => _ + z) ki_1) (by decide) rfl ?_
  refine g_goto (dk D_X6_nextSky 34 rfl) rfl ?_
  refine g_sub [1, 2, 0] rfl ?_
  exact hK4 (v1, (v2 + (1 : Int32)), h) hw
theorem t_X6_nextSky_l4 {X : Cx} (Q : Int32 → Hp → Prop) (K4 : Int32 × Int32 × Hp → Prop) (v1 : Int32) (v2 : Int32) (h : Hp) (hK4 : ∀ s : Int32 × Int32 × Hp, K4 s → G X M_X6_nextSky E_X6_nextSky (QM X E_X6_nextSky (QI Q) Qn) 0 4 [(0, .ref (58)), (1, .int (s.1)), (2, .int (s.2.1))] [] (s.2.2)) (hw : w_X6_nextSky_l4 Q K4 v1 v2 h) : G X M_X6_nextSky E_X6_nextSky (QM X E_X6_nextSky (QI Q) Qn) 0 4 [(0, .ref (58)), (1, .int (v1)), (2, .int (v2))] [] h := by
  unfold w_X6_nextSky_l4 at hw
  refine g_iload_n 2 (dk D_X6_nextSky 4 rfl) rfl rfl ?_
  refine g_bipush (dk D_X6_nextSky 5 rfl) kb_24 ?_
  refine g_icmp_ge (dk D_X6_nextSky 6 rfl) rfl (wif_m hw (fun hw => ?_) (fun hw => ?_))
  · refine g_iload_n 1 (dk D_X6_nextSky 35 rfl) rfl rfl ?_
    exact g_iret (dk D_X6_nextSky 36 rfl) rfl ⟨_, rfl, hw⟩
  · refine g_aload_n 0 (dk D_X6_nextSky 7 rfl) rfl rfl ?_
    refine g_aload_n 0 (dk D_X6_nextSky 8 rfl) rfl rfl ?_
    refine g_getI 5 (dk D_X6_nextSky 9 rfl) kd_58 rfl rfl (by decide) w_376 rfl rfl ?_
    refine g_ldc (dk D_X6_nextSky 10 rfl) w_666 ?_
    refine g_imul (dk D_X6_nextSky 11 rfl) ?_
    refine g_sipush (dk D_X6_nextSky 12 rfl) ks_12345 ?_
    refine g_iadd (dk D_X6_nextSky 13 rfl) ?_
    refine g_put 5 (dk D_X6_nextSky 14 rfl) kd_58 rfl rfl (by decide) w_376 rfl tyX6_ok nmX6 rfl (by decide) rfl (fun z => absurd z (by decide)) ?_
    refine g_heap (fun h1 eh1 => ?_)
    replace hw := hw _ eh1
    refine g_aload_n 0 (dk D_X6_nextSky 15 rfl) rfl rfl ?_
    refine g_getI 5 (dk D_X6_nextSky 16 rfl) kd_58 rfl rfl (by decide) w_376 rfl rfl ?_
    refine g_bipush (dk D_X6_nextSky 17 rfl) kb_16 ?_
    refine g_ishr (dk D_X6_nextSky 18 rfl) ?_
    refine g_sipush (dk D_X6_nextSky 19 rfl) ks_32767 ?_
    refine g_iand (dk D_X6_nextSky 20 rfl) ?_
    refine g_bipush (dk D_X6_nextSky 21 rfl) kb_16 ?_
    refine g_irem (dk D_X6_nextSky 22 rfl) (by decide) ?_
    refine g_aload_n 0 (dk D_X6_nextSky 23 rfl) rfl rfl ?_
    refine g_getR 0 (t := 3) (dk D_X6_nextSky 24 rfl) kd_58 rfl rfl (by decide) w_371 rfl rfl rfl ?_
    refine g_getNI 9 (dk D_X6_nextSky 25 rfl) roadP_3.1 rfl rfl (by decide) w_198 rfl rfl ?_
    refine g_icmp_ge (dk D_X6_nextSky 26 rfl) rfl (wif_m hw (fun hw => ?_) (fun hw => ?_))
    · exact t_X6_nextSky_b55 (v1) (v2) K4 (h1) Q hK4 hw
    · refine g_iload_n 1 (dk D_X6_nextSky 27 rfl) rfl rfl ?_
      refine g_iconst (dk D_X6_nextSky 28 rfl) ki_1 ?_
      refine g_iload_n 2 (dk D_X6_nextSky 29 rfl) rfl rfl ?_
      refine g_ishl (dk D_X6_nextSky 30 rfl) ?_
      refine g_ior (dk D_X6_nextSky 31 rfl) ?_
      refine g_topi (fun v1_2 ev1_2 => ?_)
      replace hw := hw _ ev1_2
      refine g_istore_n (dk D_X6_nextSky 32 rfl) rfl (by decide) rfl ?_
      refine g_sub [1, 0, 2] rfl ?_
      exact t_X6_nextSky_b55 (v1_2) (v2) K4 (h1) Q hK4 hw
theorem t_X6_nextSky_b4 {X : Cx} (Q : Int32 → Hp → Prop) (s : Int32 × Int32 × Hp) (hw : w_X6_nextSky_b4 Q s) : G X M_X6_nextSky E_X6_nextSky (QM X E_X6_nextSky (QI Q) Qn) 0 4 [(0, .ref (58)), (1, .int (s.1)), (2, .int (s.2.1))] [] (s.2.2) :=
  wl_ind (B := fun K s => w_X6_nextSky_l4 Q K (s.1) (s.2.1) (s.2.2)) (P := fun s => G X M_X6_nextSky E_X6_nextSky (QM X E_X6_nextSky (QI Q) Qn) 0 4 [(0, .ref (58)), (1, .int (s.1)), (2, .int (s.2.1))] [] (s.2.2)) (fun K hK s hw => t_X6_nextSky_l4 Q K (s.1) (s.2.1) (s.2.2) hK hw) s hw
theorem t_X6_nextSky {X : Cx} (h : Hp) (Q : Int32 → Hp → Prop) (hw : w_X6_nextSky h Q) : G X M_X6_nextSky E_X6_nextSky (QM X E_X6_nextSky (QI Q) Qn) 0 0 [(0, .ref (58))] [] h := by
  unfold w_X6_nextSky at hw
  refine g_iconst (dk D_X6_nextSky 0 rfl) ki_0 ?_
  refine g_istore_n (dk D_X6_nextSky 1 rfl) rfl (by decide) rfl ?_
  refine g_iconst (dk D_X6_nextSky 2 rfl) ki_0 ?_
  refine g_istore_n (dk D_X6_nextSky 3 rfl) rfl (by decide) rfl ?_
  refine g_sub [2, 1, 0] rfl ?_
  exact t_X6_nextSky_b4 Q ((0 : Int32), (0 : Int32), h) hw
theorem c_X6_nextSky {X : Cx} (h : Hp) (Q : Int32 → Hp → Prop) (hw : w_X6_nextSky h Q) : Con X yX6_nextSky M_X6_nextSky 0 0 0 [.ref (58)] h (QI Q) Qn :=
  con_of (by decide +kernel) rfl (Nat.le_of_ble_eq_true rfl) (t_X6_nextSky h Q hw)
/-! ShadowTolls$Season.skyOf(I)I -/
abbrev M_X6_skyOf : Mi := (RX6, cX6_skyOf, 2, (some .int))
abbrev E_X6_skyOf : Rm := (1, 30, 0, 0)
def rows_X6_skyOf : List (Nat × Instr × Nat) := [(0, .aload_n 0, 1), (1, .iload_n 1, 1), (2, .putfield 29, 3), (5, .aload_n 0, 1), (6, .invokevirtual 33, 3), (9, .ireturn, 1)]
theorem D_X6_skyOf : dkA cX6_skyOf rows_X6_skyOf := by
  unfold dkA
  decide +kernel
theorem okD_X6_skyOf : okD yX6_skyOf 1 := by
  unfold okD
  decide +kernel
def w_X6_skyOf (p1 : Int32) (h : Hp) (Q : Int32 → Hp → Prop) : Prop :=
  wlet (hup h 58 5 p1) (fun h1 => w_X6_nextSky  h1 (fun z2 h3 => Q z2 h3))
theorem t_X6_skyOf {X : Cx} (p1 : Int32) (h : Hp) (Q : Int32 → Hp → Prop) (hw : w_X6_skyOf p1 h Q) : G X M_X6_skyOf E_X6_skyOf (QM X E_X6_skyOf (QI Q) Qn) 0 0 [(0, .ref (58)), (1, .int (p1))] [] h := by
  unfold w_X6_skyOf at hw
  refine g_aload_n 0 (dk D_X6_skyOf 0 rfl) rfl rfl ?_
  refine g_iload_n 1 (dk D_X6_skyOf 1 rfl) rfl rfl ?_
  refine g_put 5 (dk D_X6_skyOf 2 rfl) kd_58 rfl rfl (by decide) w_376 rfl tyX6_ok nmX6 rfl (by decide) rfl (fun z => absurd z (by decide)) ?_
  refine g_heap (fun h1 eh1 => ?_)
  replace hw := hw _ eh1
  refine g_aload_n 0 (dk D_X6_skyOf 3 rfl) rfl rfl ?_
  refine g_callV (As := []) (kc := 0) (fr := 0) (lo := 0) (mc := 0) (My := M_X6_nextSky) (dk D_X6_skyOf 4 rfl) kd_58 rfl rfl w_662 w_664 w_10 w_108 w_665 okD_X6_nextSky (by decide) (Nat.le_of_ble_eq_true rfl) rfl (c_X6_nextSky (h1) _ hw) kxN (kI (fun z2 h3 hw => ?_))
  exact g_iret (dk D_X6_skyOf 5 rfl) rfl ⟨_, rfl, hw⟩
theorem c_X6_skyOf {X : Cx} (p1 : Int32) (h : Hp) (Q : Int32 → Hp → Prop) (hw : w_X6_skyOf p1 h Q) : Con X yX6_skyOf M_X6_skyOf 1 30 0 [.ref (58), .int (p1)] h (QI Q) Qn :=
  con_of (by decide +kernel) rfl (Nat.le_of_ble_eq_true rfl) (t_X6_skyOf p1 h Q hw)
/-! ShadowTolls$Season.keep(I)V -/
abbrev M_X6_keep : Mi := (RX6, cX6_keep, 6, none)
abbrev E_X6_keep : Rm := (2, 59, 0, 0)
def rows_X6_keep : List (Nat × Instr × Nat) := [(0, .iconst 0, 1), (1, .istore_n 2, 1), (2, .iload_n 2, 1), (3, .bipush 8, 2), (5, .if_icmp .ge 131, 3), (8, .iload_n 1, 1), (9, .bipush 8, 2), (11, .imul, 1), (12, .iload_n 2, 1), (13, .iadd, 1), (14, .istore_n 3, 1), (15, .aload_n 0, 1), (16, .getfield 25, 3), (19, .iload_n 2, 1), (20, .invokevirtual 43, 3), (23, .istore 4, 2), (25, .iload 4, 2), (27, .iconst (-1), 1), (28, .if_icmp .eq 7, 3), (31, .iconst 1, 1), (32, .goto 4, 3), (35, .iconst 0, 1), (36, .istore 5, 2), (38, .aload_n 0, 1), (39, .getfield 9, 3), (42, .iload_n 3, 1), (43, .iload 5, 2), (45, .ifCond .eq 18, 3), (48, .aload_n 0, 1), (49, .getfield 21, 3), (52, .iload 4, 2), (54, .invokevirtual 49, 3), (57, .bipush 60, 2), (59, .idiv, 1), (60, .goto 4, 3), (63, .iconst 0, 1), (64, .invokestatic 52, 3), (67, .aload_n 0, 1), (68, .getfield 15, 3), (71, .iload_n 3, 1), (72, .iload 5, 2), (74, .ifCond .eq 18, 3), (77, .aload_n 0, 1), (78, .getfield 25, 3), (81, .getfield 56, 3), (84, .iload 4, 2), (86, .invokestatic 59, 3), (89, .goto 4, 3), (92, .iconst 0, 1), (93, .invokestatic 52, 3), (96, .aload_n 0, 1), (97, .getfield 18, 3), (100, .iload_n 3, 1), (101, .iload 5, 2), (103, .ifCond .eq 23, 3), (106, .aload_n 0, 1), (107, .getfield 25, 3), (110, .getfield 63, 3), (113, .iload 4, 2), (115, .bipush 8, 2), (117, .imul, 1), (118, .iload_n 2, 1), (119, .iadd, 1), (120, .invokestatic 59, 3), (123, .goto 4, 3), (126, .iconst 0, 1), (127, .invokestatic 52, 3), (130, .iinc 2 1, 3), (133, .goto (-131), 3), (136, .return_, 1)]
theorem D_X6_keep : dkA cX6_keep rows_X6_keep := by
  unfold dkA
  decide +kernel
theorem okD_X6_keep : okD yX6_keep 1 := by
  unfold okD
  decide +kernel
def w_X6_keep_b127 (p1 : Int32) (v2 : Int32) (s0 : Int32) (s1 : Int32) (K2 : Int32 × Hp → Prop) (h : Hp) (Q : Hp → Prop) : Prop :=
  w_X8_put 61 240 (s1) (s0) h (fun h1 => K2 ((v2 + (1 : Int32)), h1))
def w_X6_keep_b93 (p1 : Int32) (v2 : Int32) (v3 : Int32) (v4 : Int32) (v5 : Int32) (s0 : Int32) (s1 : Int32) (K2 : Int32 × Hp → Prop) (h : Hp) (Q : Hp → Prop) : Prop :=
  w_X8_put 60 240 (s1) (s0) h (fun h1 => wif (v5 = 0) (w_X6_keep_b127 p1 (v2) ((0 : Int32)) (v3) K2 (h1) Q) (w_X8_at 47 480 (((v4 * (8 : Int32)) + v2)) h1 (fun z2 => w_X6_keep_b127 p1 (v2) (z2) (v3) K2 (h1) Q)))
def w_X6_keep_b64 (p1 : Int32) (v2 : Int32) (v3 : Int32) (v4 : Int32) (v5 : Int32) (s0 : Int32) (s1 : Int32) (K2 : Int32 × Hp → Prop) (h : Hp) (Q : Hp → Prop) : Prop :=
  w_X8_put 59 240 (s1) (s0) h (fun h1 => wif (v5 = 0) (w_X6_keep_b93 p1 (v2) (v3) (v4) (v5) ((0 : Int32)) (v3) K2 (h1) Q) (w_X8_at 51 60 (v4) h1 (fun z2 => w_X6_keep_b93 p1 (v2) (v3) (v4) (v5) (z2) (v3) K2 (h1) Q)))
def w_X6_keep_l2 (p1 : Int32) (Q : Hp → Prop) (K2 : Int32 × Hp → Prop) (v2 : Int32) (h : Hp) : Prop :=
  wif ((8 : Int32) ≤ v2) (Q h) (wlet (((p1 * (8 : Int32)) + v2)) (fun v3_1 => w_X2_slotOf (v2) h (fun z2 => wlet ((if z2 = (-1 : Int32) then (0 : Int32) else (1 : Int32))) (fun v5_4 => wif (v5_4 = 0) (w_X6_keep_b64 p1 (v2) (v3_1) (z2) (v5_4) ((0 : Int32)) (v3_1) K2 (h) Q) (w_X4_slotMinute 3 (z2) h (fun z5 => w_X6_keep_b64 p1 (v2) (v3_1) (z2) (v5_4) ((z5 / (60 : Int32))) (v3_1) K2 (h) Q))))))
def w_X6_keep_b2 (p1 : Int32) (Q : Hp → Prop) (s : Int32 × Hp) : Prop := wl (fun K s => w_X6_keep_l2 p1 Q K s.1 s.2) s
def w_X6_keep (p1 : Int32) (h : Hp) (Q : Hp → Prop) : Prop :=
  w_X6_keep_b2 p1 Q ((0 : Int32), h)
theorem t_X6_keep_b127 {X : Cx} (p1 : Int32) (v2 : Int32) (s0 : Int32) (s1 : Int32) (K2 : Int32 × Hp → Prop) (h : Hp) (Q : Hp → Prop) (hK2 : ∀ s : Int32 × Hp, K2 s → G X M_X6_keep E_X6_keep (QM X E_X6_keep (QV Q) Qn) 0 2 [(0, .ref (58)), (1, .int (p1)), (2, .int (s.1))] [] (s.2)) (hw : w_X6_keep_b127 p1 v2 s0 s1 K2 h Q) : G X M_X6_keep E_X6_keep (QM X E_X6_keep (QV Q) Qn) 0 127 [(0, .ref (58)), (1, .int (p1)), (2, .int (v2))] [.int (s0), .int (s1), .ref (61)] h := by
  unfold w_X6_keep_b127 at hw
  refine g_callSN (As := [.ref (61), .int (s1), .int (s0)]) (kc := 0) (fr := 0) (lo := 0) (mc := 0) (My := M_X8_put) (dk D_X6_keep 66 rfl) w_1329 w_496 w_101 w_497 okD_X8_put (by decide) (Nat.le_of_ble_eq_true rfl) rfl (c_X8_put 61 240 (s1) (s0) (kd_61) (h) _ hw) kxN (kV (fun h1 hw => ?_))
  refine g_iinc 2 (dk D_X6_keep 67 rfl) rfl (congrArg (fun z => _ + z) ki_1) (by decide) rfl ?_
  refine g_goto (dk D_X6_keep 68 rfl) rfl ?_
  refine g_sub [1, 2, 0] rfl ?_
  exact hK2 ((v2 + (1 : Int32)), h1) hw
theorem t_X6_keep_b93 {X : Cx} (p1 : Int32) (v2 : Int32) (v3 : Int32) (v4 : Int32) (v5 : Int32) (s0 : Int32) (s1 : Int32) (K2 : Int32 × Hp → Prop) (h : Hp) (Q : Hp → Prop) (hK2 : ∀ s : Int32 × Hp, K2 s → G X M_X6_keep E_X6_keep (QM X E_X6_keep (QV Q) Qn) 0 2 [(0, .ref (58)), (1, .int (p1)), (2, .int (s.1))] [] (s.2)) (hw : w_X6_keep_b93 p1 v2 v3 v4 v5 s0 s1 K2 h Q) : G X M_X6_keep E_X6_keep (QM X E_X6_keep (QV Q) Qn) 0 93 [(0, .ref (58)), (1, .int (p1)), (2, .int (v2)), (3, .int (v3)), (4, .int (v4)), (5, .int (v5))] [.int (s0), .int (s1), .ref (60)] h := by
  unfold w_X6_keep_b93 at hw
  refine g_callSN (As := [.ref (60), .int (s1), .int (s0)]) (kc := 0) (fr := 0) (lo := 0) (mc := 0) (My := M_X8_put) (dk D_X6_keep 49 rfl) w_1329 w_496 w_101 w_497 okD_X8_put (by decide) (Nat.le_of_ble_eq_true rfl) rfl (c_X8_put 60 240 (s1) (s0) (kd_60) (h) _ hw) kxN (kV (fun h1 hw => ?_))
  refine g_aload_n 0 (dk D_X6_keep 50 rfl) rfl rfl ?_
  refine g_getR 4 (t := 61) (dk D_X6_keep 51 rfl) kd_58 rfl rfl (by decide) w_375 rfl rfl rfl ?_
  refine g_iload_n 3 (dk D_X6_keep 52 rfl) rfl rfl ?_
  refine g_iload 5 (dk D_X6_keep 53 rfl) rfl ?_
  refine g_if_eq (dk D_X6_keep 54 rfl) rfl (wif_m hw (fun hw => ?_) (fun hw => ?_))
  · refine g_iconst (dk D_X6_keep 65 rfl) ki_0 ?_
    refine g_sub [0, 1, 2] rfl ?_
    exact t_X6_keep_b127 p1 (v2) ((0 : Int32)) (v3) K2 (h1) Q hK2 hw
  · refine g_aload_n 0 (dk D_X6_keep 55 rfl) rfl rfl ?_
    refine g_getR 1 (t := 44) (dk D_X6_keep 56 rfl) kd_58 rfl rfl (by decide) w_372 rfl rfl rfl ?_
    refine g_getNR 3 (t := 47) (dk D_X6_keep 57 rfl) kd_44 rfl rfl (by decide) w_303 rfl rfl rfl ?_
    refine g_iload 4 (dk D_X6_keep 58 rfl) rfl ?_
    refine g_bipush (dk D_X6_keep 59 rfl) kb_8 ?_
    refine g_imul (dk D_X6_keep 60 rfl) ?_
    refine g_iload_n 2 (dk D_X6_keep 61 rfl) rfl rfl ?_
    refine g_iadd (dk D_X6_keep 62 rfl) ?_
    refine g_callSN (As := [.ref (47), .int (((v4 * (8 : Int32)) + v2))]) (kc := 0) (fr := 0) (lo := 0) (mc := 0) (My := M_X8_at) (dk D_X6_keep 63 rfl) w_1330 w_518 w_101 w_519 okD_X8_at (by decide) (Nat.le_of_ble_eq_true rfl) rfl (c_X8_at 47 480 (((v4 * (8 : Int32)) + v2)) (kd_47) (h1) _ hw) kxN (kIp (fun z2 hw => ?_))
    refine g_goto (dk D_X6_keep 64 rfl) rfl ?_
    refine g_sub [0, 1, 2] rfl ?_
    exact t_X6_keep_b127 p1 (v2) (z2) (v3) K2 (h1) Q hK2 hw
theorem t_X6_keep_b64 {X : Cx} (p1 : Int32) (v2 : Int32) (v3 : Int32) (v4 : Int32) (v5 : Int32) (s0 : Int32) (s1 : Int32) (K2 : Int32 × Hp → Prop) (h : Hp) (Q : Hp → Prop) (hK2 : ∀ s : Int32 × Hp, K2 s → G X M_X6_keep E_X6_keep (QM X E_X6_keep (QV Q) Qn) 0 2 [(0, .ref (58)), (1, .int (p1)), (2, .int (s.1))] [] (s.2)) (hw : w_X6_keep_b64 p1 v2 v3 v4 v5 s0 s1 K2 h Q) : G X M_X6_keep E_X6_keep (QM X E_X6_keep (QV Q) Qn) 0 64 [(0, .ref (58)), (1, .int (p1)), (2, .int (v2)), (3, .int (v3)), (4, .int (v4)), (5, .int (v5))] [.int (s0), .int (s1), .ref (59)] h := by
  unfold w_X6_keep_b64 at hw
  refine g_callSN (As := [.ref (59), .int (s1), .int (s0)]) (kc := 0) (fr := 0) (lo := 0) (mc := 0) (My := M_X8_put) (dk D_X6_keep 36 rfl) w_1329 w_496 w_101 w_497 okD_X8_put (by decide) (Nat.le_of_ble_eq_true rfl) rfl (c_X8_put 59 240 (s1) (s0) (kd_59) (h) _ hw) kxN (kV (fun h1 hw => ?_))
  refine g_aload_n 0 (dk D_X6_keep 37 rfl) rfl rfl ?_
  refine g_getR 3 (t := 60) (dk D_X6_keep 38 rfl) kd_58 rfl rfl (by decide) w_374 rfl rfl rfl ?_
  refine g_iload_n 3 (dk D_X6_keep 39 rfl) rfl rfl ?_
  refine g_iload 5 (dk D_X6_keep 40 rfl) rfl ?_
  refine g_if_eq (dk D_X6_keep 41 rfl) rfl (wif_m hw (fun hw => ?_) (fun hw => ?_))
  · refine g_iconst (dk D_X6_keep 48 rfl) ki_0 ?_
    exact t_X6_keep_b93 p1 (v2) (v3) (v4) (v5) ((0 : Int32)) (v3) K2 (h1) Q hK2 hw
  · refine g_aload_n 0 (dk D_X6_keep 42 rfl) rfl rfl ?_
    refine g_getR 1 (t := 44) (dk D_X6_keep 43 rfl) kd_58 rfl rfl (by decide) w_372 rfl rfl rfl ?_
    refine g_getNR 7 (t := 51) (dk D_X6_keep 44 rfl) kd_44 rfl rfl (by decide) w_308 rfl rfl rfl ?_
    refine g_iload 4 (dk D_X6_keep 45 rfl) rfl ?_
    refine g_callSN (As := [.ref (51), .int (v4)]) (kc := 0) (fr := 0) (lo := 0) (mc := 0) (My := M_X8_at) (dk D_X6_keep 46 rfl) w_1330 w_518 w_101 w_519 okD_X8_at (by decide) (Nat.le_of_ble_eq_true rfl) rfl (c_X8_at 51 60 (v4) (kd_51) (h1) _ hw) kxN (kIp (fun z2 hw => ?_))
    refine g_goto (dk D_X6_keep 47 rfl) rfl ?_
    exact t_X6_keep_b93 p1 (v2) (v3) (v4) (v5) (z2) (v3) K2 (h1) Q hK2 hw
theorem t_X6_keep_l2 {X : Cx} (p1 : Int32) (Q : Hp → Prop) (K2 : Int32 × Hp → Prop) (v2 : Int32) (h : Hp) (hK2 : ∀ s : Int32 × Hp, K2 s → G X M_X6_keep E_X6_keep (QM X E_X6_keep (QV Q) Qn) 0 2 [(0, .ref (58)), (1, .int (p1)), (2, .int (s.1))] [] (s.2)) (hw : w_X6_keep_l2 p1 Q K2 v2 h) : G X M_X6_keep E_X6_keep (QM X E_X6_keep (QV Q) Qn) 0 2 [(0, .ref (58)), (1, .int (p1)), (2, .int (v2))] [] h := by
  unfold w_X6_keep_l2 at hw
  refine g_iload_n 2 (dk D_X6_keep 2 rfl) rfl rfl ?_
  refine g_bipush (dk D_X6_keep 3 rfl) kb_8 ?_
  refine g_icmp_ge (dk D_X6_keep 4 rfl) rfl (wif_m hw (fun hw => ?_) (fun hw => ?_))
  · exact g_vret (dk D_X6_keep 69 rfl) rfl ⟨rfl, hw⟩
  · refine g_iload_n 1 (dk D_X6_keep 5 rfl) rfl rfl ?_
    refine g_bipush (dk D_X6_keep 6 rfl) kb_8 ?_
    refine g_imul (dk D_X6_keep 7 rfl) ?_
    refine g_iload_n 2 (dk D_X6_keep 8 rfl) rfl rfl ?_
    refine g_iadd (dk D_X6_keep 9 rfl) ?_
    refine g_topi (fun v3_1 ev3_1 => ?_)
    replace hw := hw _ ev3_1
    refine g_istore_n (dk D_X6_keep 10 rfl) rfl (by decide) rfl ?_
    refine g_aload_n 1 (dk D_X6_keep 11 rfl) rfl rfl ?_
    refine g_getR 1 (t := 44) (dk D_X6_keep 12 rfl) kd_58 rfl rfl (by decide) w_372 rfl rfl rfl ?_
    refine g_iload_n 3 (dk D_X6_keep 13 rfl) rfl rfl ?_
    refine g_callV (As := [.int (v2)]) (kc := 0) (fr := 1) (lo := 29) (mc := 0) (My := M_X2_slotOf) (dk D_X6_keep 14 rfl) kd_44 rfl rfl w_1327 w_1184 w_1185 w_107 w_1186 okD_X2_slotOf (by decide) (Nat.le_of_ble_eq_true rfl) rfl (c_X2_slotOf (v2) (h) _ hw) kxN (kIp (fun z2 hw => ?_))
    refine g_istore (dk D_X6_keep 15 rfl) (by decide) rfl ?_
    refine g_iload 0 (dk D_X6_keep 16 rfl) rfl ?_
    refine g_iconst (dk D_X6_keep 17 rfl) ki_m1 ?_
    have hj : G X M_X6_keep E_X6_keep (QM X E_X6_keep (QV Q) Qn) 0 36 [(4, .int (z2)), (3, .int (v3_1)), (0, .ref (58)), (1, .int (p1)), (2, .int (v2))] [.int ((if z2 = (-1 : Int32) then (0 : Int32) else (1 : Int32)))] (h) := by
      refine g_topi (fun v5_4 ev5_4 => ?_)
      replace hw := hw _ ev5_4
      refine g_istore (dk D_X6_keep 22 rfl) (by decide) rfl ?_
      refine g_aload_n 3 (dk D_X6_keep 23 rfl) rfl rfl ?_
      refine g_getR 2 (t := 59) (dk D_X6_keep 24 rfl) kd_58 rfl rfl (by decide) w_373 rfl rfl rfl ?_
      refine g_iload_n 2 (dk D_X6_keep 25 rfl) rfl rfl ?_
      refine g_iload 0 (dk D_X6_keep 26 rfl) rfl ?_
      refine g_if_eq (dk D_X6_keep 27 rfl) rfl (wif_m hw (fun hw => ?_) (fun hw => ?_))
      · refine g_iconst (dk D_X6_keep 35 rfl) ki_0 ?_
        refine g_sub [3, 4, 5, 2, 1, 0] rfl ?_
        exact t_X6_keep_b64 p1 (v2) (v3_1) (z2) (v5_4) ((0 : Int32)) (v3_1) K2 (h) Q hK2 hw
      · refine g_aload_n 3 (dk D_X6_keep 28 rfl) rfl rfl ?_
        refine g_getR 0 (t := 3) (dk D_X6_keep 29 rfl) kd_58 rfl rfl (by decide) w_371 rfl rfl rfl ?_
        refine g_iload 1 (dk D_X6_keep 30 rfl) rfl ?_
        refine g_callV (As := [.int (z2)]) (kc := 0) (fr := 0) (lo := 0) (mc := 0) (My := M_X4_slotMinute) (dk D_X6_keep 31 rfl) roadP_3.1 rfl rfl w_1328 w_564 w_565 w_103 w_566 okD_X4_slotMinute (by decide) (Nat.le_of_ble_eq_true rfl) rfl (c_X4_slotMinute 3 (z2) (roadP_3) (h) _ hw) kxN (kIp (fun z5 hw => ?_))
        refine g_bipush (dk D_X6_keep 32 rfl) kb_60 ?_
        refine g_idiv (dk D_X6_keep 33 rfl) (by decide) ?_
        refine g_goto (dk D_X6_keep 34 rfl) rfl ?_
        refine g_sub [3, 4, 5, 2, 1, 0] rfl ?_
        exact t_X6_keep_b64 p1 (v2) (v3_1) (z2) (v5_4) ((z5 / (60 : Int32))) (v3_1) K2 (h) Q hK2 hw
    refine g_icmp_eq (dk D_X6_keep 18 rfl) rfl ?_
    by_cases c3 : z2 = (-1 : Int32)
    · rw [if_pos c3] at hj
      refine wif_p c3 ?_
      refine g_iconst (dk D_X6_keep 21 rfl) ki_0 ?_
      exact hj
    · rw [if_neg c3] at hj
      refine wif_n c3 ?_
      refine g_iconst (dk D_X6_keep 19 rfl) ki_1 ?_
      refine g_goto (dk D_X6_keep 20 rfl) rfl ?_
      exact hj
theorem t_X6_keep_b2 {X : Cx} (p1 : Int32) (Q : Hp → Prop) (s : Int32 × Hp) (hw : w_X6_keep_b2 p1 Q s) : G X M_X6_keep E_X6_keep (QM X E_X6_keep (QV Q) Qn) 0 2 [(0, .ref (58)), (1, .int (p1)), (2, .int (s.1))] [] (s.2) :=
  wl_ind (B := fun K s => w_X6_keep_l2 p1 Q K (s.1) (s.2)) (P := fun s => G X M_X6_keep E_X6_keep (QM X E_X6_keep (QV Q) Qn) 0 2 [(0, .ref (58)), (1, .int (p1)), (2, .int (s.1))] [] (s.2)) (fun K hK s hw => t_X6_keep_l2 p1 Q K (s.1) (s.2) hK hw) s hw
theorem t_X6_keep {X : Cx} (p1 : Int32) (h : Hp) (Q : Hp → Prop) (hw : w_X6_keep p1 h Q) : G X M_X6_keep E_X6_keep (QM X E_X6_keep (QV Q) Qn) 0 0 [(0, .ref (58)), (1, .int (p1))] [] h := by
  unfold w_X6_keep at hw
  refine g_iconst (dk D_X6_keep 0 rfl) ki_0 ?_
  refine g_istore_n (dk D_X6_keep 1 rfl) rfl (by decide) rfl ?_
  refine g_sub [1, 2, 0] rfl ?_
  exact t_X6_keep_b2 p1 Q ((0 : Int32), h) hw
theorem c_X6_keep {X : Cx} (p1 : Int32) (h : Hp) (Q : Hp → Prop) (hw : w_X6_keep p1 h Q) : Con X yX6_keep M_X6_keep 2 59 0 [.ref (58), .int (p1)] h (QV Q) Qn :=
  con_of (by decide +kernel) rfl (Nat.le_of_ble_eq_true rfl) (t_X6_keep p1 h Q hw)
/-! ShadowTolls$Season.takenUnder(II)I -/
abbrev M_X6_takenUnder : Mi := (RX6, cX6_takenUnder, 9, (some .int))
abbrev E_X6_takenUnder : Rm := (1, 30, 0, 0)
def rows_X6_takenUnder : List (Nat × Instr × Nat) := [(0, .iconst 0, 1), (1, .istore_n 3, 1), (2, .aload_n 0, 1), (3, .iload_n 2, 1), (4, .putfield 29, 3), (7, .iconst 0, 1), (8, .istore 4, 2), (10, .iload 4, 2), (12, .iload_n 1, 1), (13, .if_icmp .ge 95, 3), (16, .aload_n 0, 1), (17, .invokevirtual 33, 3), (20, .istore 5, 2), (22, .iconst 0, 1), (23, .istore 6, 2), (25, .iload 6, 2), (27, .bipush 8, 2), (29, .if_icmp .ge 73, 3), (32, .iload 4, 2), (34, .bipush 8, 2), (36, .imul, 1), (37, .iload 6, 2), (39, .iadd, 1), (40, .istore 7, 2), (42, .iload 5, 2), (44, .aload_n 0, 1), (45, .getfield 9, 3), (48, .iload 7, 2), (50, .invokestatic 59, 3), (53, .ishr, 1), (54, .iconst 1, 1), (55, .iand, 1), (56, .iconst 1, 1), (57, .if_icmp .ne 7, 3), (60, .iconst 1, 1), (61, .goto 4, 3), (64, .iconst 0, 1), (65, .istore 8, 2), (67, .iload_n 3, 1), (68, .iload 8, 2), (70, .ifCond .eq 15, 3), (73, .aload_n 0, 1), (74, .getfield 18, 3), (77, .iload 7, 2), (79, .invokestatic 59, 3), (82, .goto 12, 3), (85, .aload_n 0, 1), (86, .getfield 15, 3), (89, .iload 7, 2), (91, .invokestatic 59, 3), (94, .iadd, 1), (95, .istore_n 3, 1), (96, .iinc 6 1, 3), (99, .goto (-74), 3), (102, .iinc 4 1, 3), (105, .goto (-95), 3), (108, .iload_n 3, 1), (109, .ireturn, 1)]
theorem D_X6_takenUnder : dkA cX6_takenUnder rows_X6_takenUnder := by
  unfold dkA
  decide +kernel
theorem okD_X6_takenUnder : okD yX6_takenUnder 2 := by
  unfold okD
  decide +kernel
def w_X6_takenUnder_b94 (p1 : Int32) (p2 : Int32) (v4 : Int32) (v5 : Int32) (v6 : Int32) (s0 : Int32) (s1 : Int32) (K10 : Int32 × Int32 × Hp → Prop) (K25 : Int32 × Int32 → Prop) (h : Hp) (Q : Int32 → Hp → Prop) : Prop :=
  wlet ((s1 + s0)) (fun v3_1 => K25 (v3_1, (v6 + (1 : Int32))))
def w_X6_takenUnder_l25 (p1 : Int32) (p2 : Int32) (v4 : Int32) (v5 : Int32) (K10 : Int32 × Int32 × Hp → Prop) (h : Hp) (Q : Int32 → Hp → Prop) (K25 : Int32 × Int32 → Prop) (v3 : Int32) (v6 : Int32) : Prop :=
  wif ((8 : Int32) ≤ v6) (K10 (v3, (v4 + (1 : Int32)), h)) (wlet (((v4 * (8 : Int32)) + v6)) (fun v7_1 => w_X8_at 59 240 (v7_1) h (fun z2 => wlet ((if ¬ ((v5 >>> (z2 &&& 31)) &&& (1 : Int32)) = (1 : Int32) then (0 : Int32) else (1 : Int32))) (fun v8_4 => wif (v8_4 = 0) (w_X8_at 60 240 (v7_1) h (fun z5 => w_X6_takenUnder_b94 p1 p2 (v4) (v5) (v6) (z5) (v3) K10 K25 (h) Q)) (w_X8_at 61 240 (v7_1) h (fun z6 => w_X6_takenUnder_b94 p1 p2 (v4) (v5) (v6) (z6) (v3) K10 K25 (h) Q))))))
def w_X6_takenUnder_b25 (p1 : Int32) (p2 : Int32) (v4 : Int32) (v5 : Int32) (K10 : Int32 × Int32 × Hp → Prop) (h : Hp) (Q : Int32 → Hp → Prop) (s : Int32 × Int32) : Prop := wl (fun K s => w_X6_takenUnder_l25 p1 p2 v4 v5 K10 h Q K s.1 s.2) s
def w_X6_takenUnder_l10 (p1 : Int32) (p2 : Int32) (Q : Int32 → Hp → Prop) (K10 : Int32 × Int32 × Hp → Prop) (v3 : Int32) (v4 : Int32) (h : Hp) : Prop :=
  wif (p1 ≤ v4) (Q v3 h) (w_X6_nextSky  h (fun z1 h2 => w_X6_takenUnder_b25 p1 p2 (v4) (z1) K10 (h2) Q (v3, (0 : Int32))))
def w_X6_takenUnder_b10 (p1 : Int32) (p2 : Int32) (Q : Int32 → Hp → Prop) (s : Int32 × Int32 × Hp) : Prop := wl (fun K s => w_X6_takenUnder_l10 p1 p2 Q K s.1 s.2.1 s.2.2) s
def w_X6_takenUnder (p1 : Int32) (p2 : Int32) (h : Hp) (Q : Int32 → Hp → Prop) : Prop :=
  wlet (hup h 58 5 p2) (fun h1 => w_X6_takenUnder_b10 p1 p2 Q ((0 : Int32), (0 : Int32), h1))
theorem t_X6_takenUnder_b94 {X : Cx} (p1 : Int32) (p2 : Int32) (v4 : Int32) (v5 : Int32) (v6 : Int32) (s0 : Int32) (s1 : Int32) (K10 : Int32 × Int32 × Hp → Prop) (K25 : Int32 × Int32 → Prop) (h : Hp) (Q : Int32 → Hp → Prop) (hK10 : ∀ s : Int32 × Int32 × Hp, K10 s → G X M_X6_takenUnder E_X6_takenUnder (QM X E_X6_takenUnder (QI Q) Qn) 0 10 [(0, .ref (58)), (1, .int (p1)), (3, .int (s.1)), (4, .int (s.2.1))] [] (s.2.2)) (hK25 : ∀ s : Int32 × Int32, K25 s → G X M_X6_takenUnder E_X6_takenUnder (QM X E_X6_takenUnder (QI Q) Qn) 0 25 [(0, .ref (58)), (1, .int (p1)), (3, .int (s.1)), (4, .int (v4)), (5, .int (v5)), (6, .int (s.2))] [] (h)) (hw : w_X6_takenUnder_b94 p1 p2 v4 v5 v6 s0 s1 K10 K25 h Q) : G X M_X6_takenUnder E_X6_takenUnder (QM X E_X6_takenUnder (QI Q) Qn) 0 94 [(0, .ref (58)), (1, .int (p1)), (4, .int (v4)), (5, .int (v5)), (6, .int (v6))] [.int (s0), .int (s1)] h := by
  unfold w_X6_takenUnder_b94 at hw
  refine g_iadd (dk D_X6_takenUnder 50 rfl) ?_
  refine g_topi (fun v3_1 ev3_1 => ?_)
  replace hw := hw _ ev3_1
  refine g_istore_n (dk D_X6_takenUnder 51 rfl) rfl (by decide) rfl ?_
  refine g_iinc 5 (dk D_X6_takenUnder 52 rfl) rfl (congrArg (fun z => _ + z) ki_1) (by decide) rfl ?_
  refine g_goto (dk D_X6_takenUnder 53 rfl) rfl ?_
  refine g_sub [2, 3, 1, 4, 5, 0] rfl ?_
  exact hK25 (v3_1, (v6 + (1 : Int32))) hw
theorem t_X6_takenUnder_l25 {X : Cx} (p1 : Int32) (p2 : Int32) (v4 : Int32) (v5 : Int32) (K10 : Int32 × Int32 × Hp → Prop) (h : Hp) (Q : Int32 → Hp → Prop) (K25 : Int32 × Int32 → Prop) (v3 : Int32) (v6 : Int32) (hK10 : ∀ s : Int32 × Int32 × Hp, K10 s → G X M_X6_takenUnder E_X6_takenUnder (QM X E_X6_takenUnder (QI Q) Qn) 0 10 [(0, .ref (58)), (1, .int (p1)), (3, .int (s.1)), (4, .int (s.2.1))] [] (s.2.2)) (hK25 : ∀ s : Int32 × Int32, K25 s → G X M_X6_takenUnder E_X6_takenUnder (QM X E_X6_takenUnder (QI Q) Qn) 0 25 [(0, .ref (58)), (1, .int (p1)), (3, .int (s.1)), (4, .int (v4)), (5, .int (v5)), (6, .int (s.2))] [] (h)) (hw : w_X6_takenUnder_l25 p1 p2 v4 v5 K10 h Q K25 v3 v6) : G X M_X6_takenUnder E_X6_takenUnder (QM X E_X6_takenUnder (QI Q) Qn) 0 25 [(0, .ref (58)), (1, .int (p1)), (3, .int (v3)), (4, .int (v4)), (5, .int (v5)), (6, .int (v6))] [] h := by
  unfold w_X6_takenUnder_l25 at hw
  refine g_iload 5 (dk D_X6_takenUnder 15 rfl) rfl ?_
  refine g_bipush (dk D_X6_takenUnder 16 rfl) kb_8 ?_
  refine g_icmp_ge (dk D_X6_takenUnder 17 rfl) rfl (wif_m hw (fun hw => ?_) (fun hw => ?_))
  · refine g_iinc 3 (dk D_X6_takenUnder 54 rfl) rfl (congrArg (fun z => _ + z) ki_1) (by decide) rfl ?_
    refine g_goto (dk D_X6_takenUnder 55 rfl) rfl ?_
    refine g_sub [1, 2, 3, 0] rfl ?_
    exact hK10 (v3, (v4 + (1 : Int32)), h) hw
  · refine g_iload 3 (dk D_X6_takenUnder 18 rfl) rfl ?_
    refine g_bipush (dk D_X6_takenUnder 19 rfl) kb_8 ?_
    refine g_imul (dk D_X6_takenUnder 20 rfl) ?_
    refine g_iload 5 (dk D_X6_takenUnder 21 rfl) rfl ?_
    refine g_iadd (dk D_X6_takenUnder 22 rfl) ?_
    refine g_topi (fun v7_1 ev7_1 => ?_)
    replace hw := hw _ ev7_1
    refine g_istore (dk D_X6_takenUnder 23 rfl) (by decide) rfl ?_
    refine g_iload 5 (dk D_X6_takenUnder 24 rfl) rfl ?_
    refine g_aload_n 1 (dk D_X6_takenUnder 25 rfl) rfl rfl ?_
    refine g_getR 2 (t := 59) (dk D_X6_takenUnder 26 rfl) kd_58 rfl rfl (by decide) w_373 rfl rfl rfl ?_
    refine g_iload 0 (dk D_X6_takenUnder 27 rfl) rfl ?_
    refine g_callSN (As := [.ref (59), .int (v7_1)]) (kc := 0) (fr := 0) (lo := 0) (mc := 0) (My := M_X8_at) (dk D_X6_takenUnder 28 rfl) w_1330 w_518 w_101 w_519 okD_X8_at (by decide) (Nat.le_of_ble_eq_true rfl) rfl (c_X8_at 59 240 (v7_1) (kd_59) (h) _ hw) kxN (kIp (fun z2 hw => ?_))
    refine g_ishr (dk D_X6_takenUnder 29 rfl) ?_
    refine g_iconst (dk D_X6_takenUnder 30 rfl) ki_1 ?_
    refine g_iand (dk D_X6_takenUnder 31 rfl) ?_
    refine g_iconst (dk D_X6_takenUnder 32 rfl) ki_1 ?_
    have hj : G X M_X6_takenUnder E_X6_takenUnder (QM X E_X6_takenUnder (QI Q) Qn) 0 65 [(7, .int (v7_1)), (0, .ref (58)), (1, .int (p1)), (3, .int (v3)), (4, .int (v4)), (5, .int (v5)), (6, .int (v6))] [.int ((if ¬ ((v5 >>> (z2 &&& 31)) &&& (1 : Int32)) = (1 : Int32) then (0 : Int32) else (1 : Int32)))] (h) := by
      refine g_topi (fun v8_4 ev8_4 => ?_)
      replace hw := hw _ ev8_4
      refine g_istore (dk D_X6_takenUnder 37 rfl) (by decide) rfl ?_
      refine g_iload_n 4 (dk D_X6_takenUnder 38 rfl) rfl rfl ?_
      refine g_iload 0 (dk D_X6_takenUnder 39 rfl) rfl ?_
      refine g_if_eq (dk D_X6_takenUnder 40 rfl) rfl (wif_m hw (fun hw => ?_) (fun hw => ?_))
      · refine g_aload_n 2 (dk D_X6_takenUnder 46 rfl) rfl rfl ?_
        refine g_getR 3 (t := 60) (dk D_X6_takenUnder 47 rfl) kd_58 rfl rfl (by decide) w_374 rfl rfl rfl ?_
        refine g_iload 1 (dk D_X6_takenUnder 48 rfl) rfl ?_
        refine g_callSN (As := [.ref (60), .int (v7_1)]) (kc := 0) (fr := 0) (lo := 0) (mc := 0) (My := M_X8_at) (dk D_X6_takenUnder 49 rfl) w_1330 w_518 w_101 w_519 okD_X8_at (by decide) (Nat.le_of_ble_eq_true rfl) rfl (c_X8_at 60 240 (v7_1) (kd_60) (h) _ hw) kxN (kIp (fun z5 hw => ?_))
        refine g_sub [2, 3, 5, 6, 7] rfl ?_
        exact t_X6_takenUnder_b94 p1 p2 (v4) (v5) (v6) (z5) (v3) K10 K25 (h) Q hK10 hK25 hw
      · refine g_aload_n 2 (dk D_X6_takenUnder 41 rfl) rfl rfl ?_
        refine g_getR 4 (t := 61) (dk D_X6_takenUnder 42 rfl) kd_58 rfl rfl (by decide) w_375 rfl rfl rfl ?_
        refine g_iload 1 (dk D_X6_takenUnder 43 rfl) rfl ?_
        refine g_callSN (As := [.ref (61), .int (v7_1)]) (kc := 0) (fr := 0) (lo := 0) (mc := 0) (My := M_X8_at) (dk D_X6_takenUnder 44 rfl) w_1330 w_518 w_101 w_519 okD_X8_at (by decide) (Nat.le_of_ble_eq_true rfl) rfl (c_X8_at 61 240 (v7_1) (kd_61) (h) _ hw) kxN (kIp (fun z6 hw => ?_))
        refine g_goto (dk D_X6_takenUnder 45 rfl) rfl ?_
        refine g_sub [2, 3, 5, 6, 7] rfl ?_
        exact t_X6_takenUnder_b94 p1 p2 (v4) (v5) (v6) (z6) (v3) K10 K25 (h) Q hK10 hK25 hw
    refine g_icmp_ne (dk D_X6_takenUnder 33 rfl) rfl ?_
    by_cases c3 : ¬ ((v5 >>> (z2 &&& 31)) &&& (1 : Int32)) = (1 : Int32)
    · rw [if_pos c3] at hj
      refine wif_p c3 ?_
      refine g_iconst (dk D_X6_takenUnder 36 rfl) ki_0 ?_
      exact hj
    · rw [if_neg c3] at hj
      refine wif_n c3 ?_
      refine g_iconst (dk D_X6_takenUnder 34 rfl) ki_1 ?_
      refine g_goto (dk D_X6_takenUnder 35 rfl) rfl ?_
      exact hj
theorem t_X6_takenUnder_b25 {X : Cx} (p1 : Int32) (p2 : Int32) (v4 : Int32) (v5 : Int32) (K10 : Int32 × Int32 × Hp → Prop) (h : Hp) (Q : Int32 → Hp → Prop) (s : Int32 × Int32) (hK10 : ∀ s : Int32 × Int32 × Hp, K10 s → G X M_X6_takenUnder E_X6_takenUnder (QM X E_X6_takenUnder (QI Q) Qn) 0 10 [(0, .ref (58)), (1, .int (p1)), (3, .int (s.1)), (4, .int (s.2.1))] [] (s.2.2)) (hw : w_X6_takenUnder_b25 p1 p2 v4 v5 K10 h Q s) : G X M_X6_takenUnder E_X6_takenUnder (QM X E_X6_takenUnder (QI Q) Qn) 0 25 [(0, .ref (58)), (1, .int (p1)), (3, .int (s.1)), (4, .int (v4)), (5, .int (v5)), (6, .int (s.2))] [] (h) :=
  wl_ind (B := fun K s => w_X6_takenUnder_l25 p1 p2 v4 v5 K10 h Q K (s.1) (s.2)) (P := fun s => G X M_X6_takenUnder E_X6_takenUnder (QM X E_X6_takenUnder (QI Q) Qn) 0 25 [(0, .ref (58)), (1, .int (p1)), (3, .int (s.1)), (4, .int (v4)), (5, .int (v5)), (6, .int (s.2))] [] (h)) (fun K hK s hw => t_X6_takenUnder_l25 p1 p2 v4 v5 K10 h Q K (s.1) (s.2) hK10 hK hw) s hw
theorem t_X6_takenUnder_l10 {X : Cx} (p1 : Int32) (p2 : Int32) (Q : Int32 → Hp → Prop) (K10 : Int32 × Int32 × Hp → Prop) (v3 : Int32) (v4 : Int32) (h : Hp) (hK10 : ∀ s : Int32 × Int32 × Hp, K10 s → G X M_X6_takenUnder E_X6_takenUnder (QM X E_X6_takenUnder (QI Q) Qn) 0 10 [(0, .ref (58)), (1, .int (p1)), (3, .int (s.1)), (4, .int (s.2.1))] [] (s.2.2)) (hw : w_X6_takenUnder_l10 p1 p2 Q K10 v3 v4 h) : G X M_X6_takenUnder E_X6_takenUnder (QM X E_X6_takenUnder (QI Q) Qn) 0 10 [(0, .ref (58)), (1, .int (p1)), (3, .int (v3)), (4, .int (v4))] [] h := by
  unfold w_X6_takenUnder_l10 at hw
  refine g_iload 3 (dk D_X6_takenUnder 7 rfl) rfl ?_
  refine g_iload_n 1 (dk D_X6_takenUnder 8 rfl) rfl rfl ?_
  refine g_icmp_ge (dk D_X6_takenUnder 9 rfl) rfl (wif_m hw (fun hw => ?_) (fun hw => ?_))
  · refine g_iload_n 2 (dk D_X6_takenUnder 56 rfl) rfl rfl ?_
    exact g_iret (dk D_X6_takenUnder 57 rfl) rfl ⟨_, rfl, hw⟩
  · refine g_aload_n 0 (dk D_X6_takenUnder 10 rfl) rfl rfl ?_
    refine g_callV (As := []) (kc := 0) (fr := 0) (lo := 0) (mc := 0) (My := M_X6_nextSky) (dk D_X6_takenUnder 11 rfl) kd_58 rfl rfl w_662 w_664 w_10 w_108 w_665 okD_X6_nextSky (by decide) (Nat.le_of_ble_eq_true rfl) rfl (c_X6_nextSky (h) _ hw) kxN (kI (fun z1 h2 hw => ?_))
    refine g_istore (dk D_X6_takenUnder 12 rfl) (by decide) rfl ?_
    refine g_iconst (dk D_X6_takenUnder 13 rfl) ki_0 ?_
    refine g_istore (dk D_X6_takenUnder 14 rfl) (by decide) rfl ?_
    refine g_sub [2, 3, 4, 5, 1, 0] rfl ?_
    exact t_X6_takenUnder_b25 p1 p2 (v4) (z1) K10 (h2) Q (v3, (0 : Int32)) hK10 hw
theorem t_X6_takenUnder_b10 {X : Cx} (p1 : Int32) (p2 : Int32) (Q : Int32 → Hp → Prop) (s : Int32 × Int32 × Hp) (hw : w_X6_takenUnder_b10 p1 p2 Q s) : G X M_X6_takenUnder E_X6_takenUnder (QM X E_X6_takenUnder (QI Q) Qn) 0 10 [(0, .ref (58)), (1, .int (p1)), (3, .int (s.1)), (4, .int (s.2.1))] [] (s.2.2) :=
  wl_ind (B := fun K s => w_X6_takenUnder_l10 p1 p2 Q K (s.1) (s.2.1) (s.2.2)) (P := fun s => G X M_X6_takenUnder E_X6_takenUnder (QM X E_X6_takenUnder (QI Q) Qn) 0 10 [(0, .ref (58)), (1, .int (p1)), (3, .int (s.1)), (4, .int (s.2.1))] [] (s.2.2)) (fun K hK s hw => t_X6_takenUnder_l10 p1 p2 Q K (s.1) (s.2.1) (s.2.2) hK hw) s hw
theorem t_X6_takenUnder {X : Cx} (p1 : Int32) (p2 : Int32) (h : Hp) (Q : Int32 → Hp → Prop) (hw : w_X6_takenUnder p1 p2 h Q) : G X M_X6_takenUnder E_X6_takenUnder (QM X E_X6_takenUnder (QI Q) Qn) 0 0 [(0, .ref (58)), (1, .int (p1)), (2, .int (p2))] [] h := by
  unfold w_X6_takenUnder at hw
  refine g_iconst (dk D_X6_takenUnder 0 rfl) ki_0 ?_
  refine g_istore_n (dk D_X6_takenUnder 1 rfl) rfl (by decide) rfl ?_
  refine g_aload_n 1 (dk D_X6_takenUnder 2 rfl) rfl rfl ?_
  refine g_iload_n 3 (dk D_X6_takenUnder 3 rfl) rfl rfl ?_
  refine g_put 5 (dk D_X6_takenUnder 4 rfl) kd_58 rfl rfl (by decide) w_376 rfl tyX6_ok nmX6 rfl (by decide) rfl (fun z => absurd z (by decide)) ?_
  refine g_heap (fun h1 eh1 => ?_)
  replace hw := hw _ eh1
  refine g_iconst (dk D_X6_takenUnder 5 rfl) ki_0 ?_
  refine g_istore (dk D_X6_takenUnder 6 rfl) (by decide) rfl ?_
  refine g_sub [2, 3, 1, 0] rfl ?_
  exact t_X6_takenUnder_b10 p1 p2 Q ((0 : Int32), (0 : Int32), h1) hw
theorem c_X6_takenUnder {X : Cx} (p1 : Int32) (p2 : Int32) (h : Hp) (Q : Int32 → Hp → Prop) (hw : w_X6_takenUnder p1 p2 h Q) : Con X yX6_takenUnder M_X6_takenUnder 1 30 0 [.ref (58), .int (p1), .int (p2)] h (QI Q) Qn :=
  con_of (by decide +kernel) rfl (Nat.le_of_ble_eq_true rfl) (t_X6_takenUnder p1 p2 h Q hw)
/-! ShadowTolls$Text.hasRoom(I)Z -/
abbrev M_X7_hasRoom : Mi := (RX7, cX7_hasRoom, 2, (some .boolean))
abbrev E_X7_hasRoom : Rm := (0, 0, 0, 0)
def rows_X7_hasRoom : List (Nat × Instr × Nat) := [(0, .aload_n 0, 1), (1, .getfield 19, 3), (4, .iload_n 1, 1), (5, .iadd, 1), (6, .sipush 500, 3), (9, .if_icmp .gt 7, 3), (12, .iconst 1, 1), (13, .goto 4, 3), (16, .iconst 0, 1), (17, .ireturn, 1)]
theorem D_X7_hasRoom : dkA cX7_hasRoom rows_X7_hasRoom := by
  unfold dkA
  decide +kernel
theorem okD_X7_hasRoom : okD yX7_hasRoom 1 := by
  unfold okD
  decide +kernel
def w_X7_hasRoom (p1 : Int32) (h : Hp) (Q : Int32 → Prop) : Prop :=
  Q ((if (500 : Int32) < ((h 1 1) + p1) then (0 : Int32) else (1 : Int32)) &&& 1)
theorem t_X7_hasRoom {X : Cx} (p1 : Int32) (h : Hp) (Q : Int32 → Prop) (hw : w_X7_hasRoom p1 h Q) : G X M_X7_hasRoom E_X7_hasRoom (QM X E_X7_hasRoom (QIp h Q) Qn) 0 0 [(0, .ref (1)), (1, .int (p1))] [] h := by
  unfold w_X7_hasRoom at hw
  refine g_aload_n 0 (dk D_X7_hasRoom 0 rfl) rfl rfl ?_
  refine g_getI 1 (dk D_X7_hasRoom 1 rfl) kd_1 rfl rfl (by decide) w_139 rfl rfl ?_
  refine g_iload_n 1 (dk D_X7_hasRoom 2 rfl) rfl rfl ?_
  refine g_iadd (dk D_X7_hasRoom 3 rfl) ?_
  refine g_sipush (dk D_X7_hasRoom 4 rfl) ks_500 ?_
  have hj : G X M_X7_hasRoom E_X7_hasRoom (QM X E_X7_hasRoom (QIp h Q) Qn) 0 17 [(0, .ref (1)), (1, .int (p1))] [.int ((if (500 : Int32) < ((h 1 1) + p1) then (0 : Int32) else (1 : Int32)))] (h) := by
    exact g_zret (dk D_X7_hasRoom 9 rfl) rfl ⟨_, rfl, rfl, hw⟩
  refine g_icmp_gt (dk D_X7_hasRoom 5 rfl) rfl ?_
  by_cases c1 : (500 : Int32) < ((h 1 1) + p1)
  · rw [if_pos c1] at hj
    refine wif_p c1 ?_
    refine g_iconst (dk D_X7_hasRoom 8 rfl) ki_0 ?_
    exact hj
  · rw [if_neg c1] at hj
    refine wif_n c1 ?_
    refine g_iconst (dk D_X7_hasRoom 6 rfl) ki_1 ?_
    refine g_goto (dk D_X7_hasRoom 7 rfl) rfl ?_
    exact hj
theorem c_X7_hasRoom {X : Cx} (p1 : Int32) (h : Hp) (Q : Int32 → Prop) (hw : w_X7_hasRoom p1 h Q) : Con X yX7_hasRoom M_X7_hasRoom 0 0 0 [.ref (1), .int (p1)] h (QIp h Q) Qn :=
  con_of (by decide +kernel) rfl (Nat.le_of_ble_eq_true rfl) (t_X7_hasRoom p1 h Q hw)
/-! ShadowTolls$Text.add(I)V -/
abbrev M_X7_add : Mi := (RX7, cX7_add, 3, none)
abbrev E_X7_add : Rm := (1, 30, 0, 0)
def rows_X7_add : List (Nat × Instr × Nat) := [(0, .bipush 24, 2), (2, .istore_n 2, 1), (3, .iload_n 2, 1), (4, .ifCond .lt 37, 3), (7, .aload_n 0, 1), (8, .getfield 9, 3), (11, .aload_n 0, 1), (12, .getfield 19, 3), (15, .iload_n 1, 1), (16, .iload_n 2, 1), (17, .iushr, 1), (18, .sipush 255, 3), (21, .iand, 1), (22, .invokestatic 22, 3), (25, .aload_n 0, 1), (26, .dup, 1), (27, .getfield 19, 3), (30, .iconst 1, 1), (31, .iadd, 1), (32, .putfield 19, 3), (35, .iinc 2 (-8), 3), (38, .goto (-35), 3), (41, .return_, 1)]
theorem D_X7_add : dkA cX7_add rows_X7_add := by
  unfold dkA
  decide +kernel
theorem okD_X7_add : okD yX7_add 1 := by
  unfold okD
  decide +kernel
def w_X7_add_l3 (p1 : Int32) (Q : Hp → Prop) (K3 : Int32 × Hp → Prop) (v2 : Int32) (h : Hp) : Prop :=
  wif (v2 < 0) (Q h) (w_X8_put 2 500 ((h 1 1)) ((((p1).toUInt32 >>> ((v2).toUInt32 &&& Int32.toUInt32 31)).toInt32 &&& (255 : Int32))) h (fun h1 => wlet (hup h1 1 1 ((h1 1 1) + (1 : Int32))) (fun h2 => K3 ((v2 + (-8 : Int32)), h2))))
def w_X7_add_b3 (p1 : Int32) (Q : Hp → Prop) (s : Int32 × Hp) : Prop := wl (fun K s => w_X7_add_l3 p1 Q K s.1 s.2) s
def w_X7_add (p1 : Int32) (h : Hp) (Q : Hp → Prop) : Prop :=
  w_X7_add_b3 p1 Q ((24 : Int32), h)
theorem t_X7_add_l3 {X : Cx} (p1 : Int32) (Q : Hp → Prop) (K3 : Int32 × Hp → Prop) (v2 : Int32) (h : Hp) (hK3 : ∀ s : Int32 × Hp, K3 s → G X M_X7_add E_X7_add (QM X E_X7_add (QV Q) Qn) 0 3 [(0, .ref (1)), (1, .int (p1)), (2, .int (s.1))] [] (s.2)) (hw : w_X7_add_l3 p1 Q K3 v2 h) : G X M_X7_add E_X7_add (QM X E_X7_add (QV Q) Qn) 0 3 [(0, .ref (1)), (1, .int (p1)), (2, .int (v2))] [] h := by
  unfold w_X7_add_l3 at hw
  refine g_iload_n 2 (dk D_X7_add 2 rfl) rfl rfl ?_
  refine g_if_lt (dk D_X7_add 3 rfl) rfl (wif_m hw (fun hw => ?_) (fun hw => ?_))
  · exact g_vret (dk D_X7_add 22 rfl) rfl ⟨rfl, hw⟩
  · refine g_aload_n 0 (dk D_X7_add 4 rfl) rfl rfl ?_
    refine g_getR 0 (t := 2) (dk D_X7_add 5 rfl) kd_1 rfl rfl (by decide) w_138 rfl rfl rfl ?_
    refine g_aload_n 0 (dk D_X7_add 6 rfl) rfl rfl ?_
    refine g_getI 1 (dk D_X7_add 7 rfl) kd_1 rfl rfl (by decide) w_139 rfl rfl ?_
    refine g_iload_n 1 (dk D_X7_add 8 rfl) rfl rfl ?_
    refine g_iload_n 2 (dk D_X7_add 9 rfl) rfl rfl ?_
    refine g_iushr (dk D_X7_add 10 rfl) ?_
    refine g_sipush (dk D_X7_add 11 rfl) ks_255 ?_
    refine g_iand (dk D_X7_add 12 rfl) ?_
    refine g_callSN (As := [.ref (2), .int ((h 1 1)), .int ((((p1).toUInt32 >>> ((v2).toUInt32 &&& Int32.toUInt32 31)).toInt32 &&& (255 : Int32)))]) (kc := 0) (fr := 0) (lo := 0) (mc := 0) (My := M_X8_put) (dk D_X7_add 13 rfl) w_495 w_496 w_101 w_497 okD_X8_put (by decide) (Nat.le_of_ble_eq_true rfl) rfl (c_X8_put 2 500 ((h 1 1)) ((((p1).toUInt32 >>> ((v2).toUInt32 &&& Int32.toUInt32 31)).toInt32 &&& (255 : Int32))) (kd_2) (h) _ hw) kxN (kV (fun h1 hw => ?_))
    refine g_aload_n 0 (dk D_X7_add 14 rfl) rfl rfl ?_
    refine g_dup (dk D_X7_add 15 rfl) rfl ?_
    refine g_getI 1 (dk D_X7_add 16 rfl) kd_1 rfl rfl (by decide) w_139 rfl rfl ?_
    refine g_iconst (dk D_X7_add 17 rfl) ki_1 ?_
    refine g_iadd (dk D_X7_add 18 rfl) ?_
    refine g_put 1 (dk D_X7_add 19 rfl) kd_1 rfl rfl (by decide) w_139 rfl tyX7_ok nmX7 rfl (by decide) rfl (fun z => absurd z (by decide)) ?_
    refine g_heap (fun h2 eh2 => ?_)
    replace hw := hw _ eh2
    refine g_iinc 2 (dk D_X7_add 20 rfl) rfl (congrArg (fun z => _ + z) ki_m8) (by decide) rfl ?_
    refine g_goto (dk D_X7_add 21 rfl) rfl ?_
    refine g_sub [1, 2, 0] rfl ?_
    exact hK3 ((v2 + (-8 : Int32)), h2) hw
theorem t_X7_add_b3 {X : Cx} (p1 : Int32) (Q : Hp → Prop) (s : Int32 × Hp) (hw : w_X7_add_b3 p1 Q s) : G X M_X7_add E_X7_add (QM X E_X7_add (QV Q) Qn) 0 3 [(0, .ref (1)), (1, .int (p1)), (2, .int (s.1))] [] (s.2) :=
  wl_ind (B := fun K s => w_X7_add_l3 p1 Q K (s.1) (s.2)) (P := fun s => G X M_X7_add E_X7_add (QM X E_X7_add (QV Q) Qn) 0 3 [(0, .ref (1)), (1, .int (p1)), (2, .int (s.1))] [] (s.2)) (fun K hK s hw => t_X7_add_l3 p1 Q K (s.1) (s.2) hK hw) s hw
theorem t_X7_add {X : Cx} (p1 : Int32) (h : Hp) (Q : Hp → Prop) (hw : w_X7_add p1 h Q) : G X M_X7_add E_X7_add (QM X E_X7_add (QV Q) Qn) 0 0 [(0, .ref (1)), (1, .int (p1))] [] h := by
  unfold w_X7_add at hw
  refine g_bipush (dk D_X7_add 0 rfl) kb_24 ?_
  refine g_istore_n (dk D_X7_add 1 rfl) rfl (by decide) rfl ?_
  refine g_sub [1, 2, 0] rfl ?_
  exact t_X7_add_b3 p1 Q ((24 : Int32), h) hw
theorem c_X7_add {X : Cx} (p1 : Int32) (h : Hp) (Q : Hp → Prop) (hw : w_X7_add p1 h Q) : Con X yX7_add M_X7_add 1 30 0 [.ref (1), .int (p1)] h (QV Q) Qn :=
  con_of (by decide +kernel) rfl (Nat.le_of_ble_eq_true rfl) (t_X7_add p1 h Q hw)
/-! ShadowTolls$Text.open(I)V -/
abbrev M_X7_open : Mi := (RX7, cX7_open, 2, none)
abbrev E_X7_open : Rm := (0, 0, 0, 0)
def rows_X7_open : List (Nat × Instr × Nat) := [(0, .aload_n 0, 1), (1, .iload_n 1, 1), (2, .putfield 26, 3), (5, .aload_n 0, 1), (6, .iconst 0, 1), (7, .putfield 29, 3), (10, .aload_n 0, 1), (11, .iconst 0, 1), (12, .putfield 32, 3), (15, .aload_n 0, 1), (16, .iconst (-1), 1), (17, .putfield 15, 3), (20, .aload_n 0, 1), (21, .iconst 0, 1), (22, .putfield 19, 3), (25, .return_, 1)]
theorem D_X7_open : dkA cX7_open rows_X7_open := by
  unfold dkA
  decide +kernel
theorem okD_X7_open : okD yX7_open 1 := by
  unfold okD
  decide +kernel
def w_X7_open (p1 : Int32) (h : Hp) (Q : Hp → Prop) : Prop :=
  wlet (hup h 1 2 p1) (fun h1 => wlet (hup h1 1 3 (0 : Int32)) (fun h2 => wlet (hup h2 1 4 (0 : Int32)) (fun h3 => wlet (hup h3 1 5 (-1 : Int32)) (fun h4 => wlet (hup h4 1 1 (0 : Int32)) (fun h5 => Q h5)))))
theorem t_X7_open {X : Cx} (p1 : Int32) (h : Hp) (Q : Hp → Prop) (hw : w_X7_open p1 h Q) : G X M_X7_open E_X7_open (QM X E_X7_open (QV Q) Qn) 0 0 [(0, .ref (1)), (1, .int (p1))] [] h := by
  unfold w_X7_open at hw
  refine g_aload_n 0 (dk D_X7_open 0 rfl) rfl rfl ?_
  refine g_iload_n 1 (dk D_X7_open 1 rfl) rfl rfl ?_
  refine g_put 2 (dk D_X7_open 2 rfl) kd_1 rfl rfl (by decide) w_141 rfl tyX7_ok nmX7 rfl (by decide) rfl (fun z => absurd z (by decide)) ?_
  refine g_heap (fun h1 eh1 => ?_)
  replace hw := hw _ eh1
  refine g_aload_n 0 (dk D_X7_open 3 rfl) rfl rfl ?_
  refine g_iconst (dk D_X7_open 4 rfl) ki_0 ?_
  refine g_put 3 (dk D_X7_open 5 rfl) kd_1 rfl rfl (by decide) w_142 rfl tyX7_ok nmX7 rfl (by decide) rfl (fun z => absurd z (by decide)) ?_
  refine g_heap (fun h2 eh2 => ?_)
  replace hw := hw _ eh2
  refine g_aload_n 0 (dk D_X7_open 6 rfl) rfl rfl ?_
  refine g_iconst (dk D_X7_open 7 rfl) ki_0 ?_
  refine g_put 4 (dk D_X7_open 8 rfl) kd_1 rfl rfl (by decide) w_144 rfl tyX7_ok nmX7 rfl (by decide) rfl (fun z => absurd z (by decide)) ?_
  refine g_heap (fun h3 eh3 => ?_)
  replace hw := hw _ eh3
  refine g_aload_n 0 (dk D_X7_open 9 rfl) rfl rfl ?_
  refine g_iconst (dk D_X7_open 10 rfl) ki_m1 ?_
  refine g_put 5 (dk D_X7_open 11 rfl) kd_1 rfl rfl (by decide) w_145 rfl tyX7_ok nmX7 rfl (by decide) rfl (fun z => absurd z (by decide)) ?_
  refine g_heap (fun h4 eh4 => ?_)
  replace hw := hw _ eh4
  refine g_aload_n 0 (dk D_X7_open 12 rfl) rfl rfl ?_
  refine g_iconst (dk D_X7_open 13 rfl) ki_0 ?_
  refine g_put 1 (dk D_X7_open 14 rfl) kd_1 rfl rfl (by decide) w_139 rfl tyX7_ok nmX7 rfl (by decide) rfl (fun z => absurd z (by decide)) ?_
  refine g_heap (fun h5 eh5 => ?_)
  replace hw := hw _ eh5
  exact g_vret (dk D_X7_open 15 rfl) rfl ⟨rfl, hw⟩
theorem c_X7_open {X : Cx} (p1 : Int32) (h : Hp) (Q : Hp → Prop) (hw : w_X7_open p1 h Q) : Con X yX7_open M_X7_open 0 0 0 [.ref (1), .int (p1)] h (QV Q) Qn :=
  con_of (by decide +kernel) rfl (Nat.le_of_ble_eq_true rfl) (t_X7_open p1 h Q hw)
/-! ShadowTolls.feed(IIIII)I -/
abbrev M_X8_feed : Mi := (RX8, cX8_feed, 6, (some .int))
abbrev E_X8_feed : Rm := (2, 60, 0, 0)
def rows_X8_feed : List (Nat × Instr × Nat) := [(0, .aload_n 0, 1), (1, .getfield 10, 3), (4, .bipush 20, 2), (6, .invokevirtual 94, 3), (9, .ifCond .ne 5, 3), (12, .iconst (-1), 1), (13, .ireturn, 1), (14, .aload_n 0, 1), (15, .getfield 10, 3), (18, .iload_n 1, 1), (19, .invokevirtual 98, 3), (22, .aload_n 0, 1), (23, .getfield 10, 3), (26, .iload_n 2, 1), (27, .invokevirtual 98, 3), (30, .aload_n 0, 1), (31, .getfield 10, 3), (34, .iload_n 3, 1), (35, .invokevirtual 98, 3), (38, .aload_n 0, 1), (39, .getfield 10, 3), (42, .iload 4, 2), (44, .invokevirtual 98, 3), (47, .aload_n 0, 1), (48, .getfield 10, 3), (51, .iload 5, 2), (53, .invokevirtual 98, 3), (56, .aload_n 0, 1), (57, .getfield 10, 3), (60, .getfield 102, 3), (63, .ireturn, 1)]
theorem D_X8_feed : dkA cX8_feed rows_X8_feed := by
  unfold dkA
  decide +kernel
theorem okD_X8_feed : okD yX8_feed 5 := by
  unfold okD
  decide +kernel
def w_X8_feed (p1 : Int32) (p2 : Int32) (p3 : Int32) (p4 : Int32) (p5 : Int32) (h : Hp) (Q : Int32 → Hp → Prop) : Prop :=
  w_X7_hasRoom ((20 : Int32)) h (fun z1 => wif (¬ z1 = 0) (w_X7_add (p1) h (fun h2 => w_X7_add (p2) h2 (fun h3 => w_X7_add (p3) h3 (fun h4 => w_X7_add (p4) h4 (fun h5 => w_X7_add (p5) h5 (fun h6 => Q (h6 1 1) h6)))))) (Q (-1 : Int32) h))
theorem t_X8_feed {X : Cx} (p1 : Int32) (p2 : Int32) (p3 : Int32) (p4 : Int32) (p5 : Int32) (h : Hp) (Q : Int32 → Hp → Prop) (hw : w_X8_feed p1 p2 p3 p4 p5 h Q) : G X M_X8_feed E_X8_feed (QM X E_X8_feed (QI Q) Qn) 0 0 [(0, .ref (0)), (1, .int (p1)), (2, .int (p2)), (3, .int (p3)), (4, .int (p4)), (5, .int (p5))] [] h := by
  unfold w_X8_feed at hw
  refine g_aload_n 0 (dk D_X8_feed 0 rfl) rfl rfl ?_
  refine g_getR 0 (t := 1) (dk D_X8_feed 1 rfl) kd_0 rfl rfl (by decide) w_434 rfl rfl rfl ?_
  refine g_bipush (dk D_X8_feed 2 rfl) kb_20 ?_
  refine g_callV (As := [.int ((20 : Int32))]) (kc := 0) (fr := 0) (lo := 0) (mc := 0) (My := M_X7_hasRoom) (dk D_X8_feed 3 rfl) kd_1 rfl rfl w_487 w_488 w_489 w_102 w_490 okD_X7_hasRoom (by decide) (Nat.le_of_ble_eq_true rfl) rfl (c_X7_hasRoom ((20 : Int32)) (h) _ hw) kxN (kIp (fun z1 hw => ?_))
  refine g_if_ne (dk D_X8_feed 4 rfl) rfl (wif_m hw (fun hw => ?_) (fun hw => ?_))
  · refine g_aload_n 0 (dk D_X8_feed 7 rfl) rfl rfl ?_
    refine g_getR 0 (t := 1) (dk D_X8_feed 8 rfl) kd_0 rfl rfl (by decide) w_434 rfl rfl rfl ?_
    refine g_iload_n 1 (dk D_X8_feed 9 rfl) rfl rfl ?_
    refine g_callV (As := [.int (p1)]) (kc := 0) (fr := 1) (lo := 30) (mc := 0) (My := M_X7_add) (dk D_X8_feed 10 rfl) kd_1 rfl rfl w_491 w_492 w_493 w_102 w_494 okD_X7_add (by decide) (Nat.le_of_ble_eq_true rfl) rfl (c_X7_add (p1) (h) _ hw) kxN (kV (fun h2 hw => ?_))
    refine g_aload_n 0 (dk D_X8_feed 11 rfl) rfl rfl ?_
    refine g_getR 0 (t := 1) (dk D_X8_feed 12 rfl) kd_0 rfl rfl (by decide) w_434 rfl rfl rfl ?_
    refine g_iload_n 2 (dk D_X8_feed 13 rfl) rfl rfl ?_
    refine g_callV (As := [.int (p2)]) (kc := 0) (fr := 1) (lo := 30) (mc := 0) (My := M_X7_add) (dk D_X8_feed 14 rfl) kd_1 rfl rfl w_491 w_492 w_493 w_102 w_494 okD_X7_add (by decide) (Nat.le_of_ble_eq_true rfl) rfl (c_X7_add (p2) (h2) _ hw) kxN (kV (fun h3 hw => ?_))
    refine g_aload_n 0 (dk D_X8_feed 15 rfl) rfl rfl ?_
    refine g_getR 0 (t := 1) (dk D_X8_feed 16 rfl) kd_0 rfl rfl (by decide) w_434 rfl rfl rfl ?_
    refine g_iload_n 3 (dk D_X8_feed 17 rfl) rfl rfl ?_
    refine g_callV (As := [.int (p3)]) (kc := 0) (fr := 1) (lo := 30) (mc := 0) (My := M_X7_add) (dk D_X8_feed 18 rfl) kd_1 rfl rfl w_491 w_492 w_493 w_102 w_494 okD_X7_add (by decide) (Nat.le_of_ble_eq_true rfl) rfl (c_X7_add (p3) (h3) _ hw) kxN (kV (fun h4 hw => ?_))
    refine g_aload_n 0 (dk D_X8_feed 19 rfl) rfl rfl ?_
    refine g_getR 0 (t := 1) (dk D_X8_feed 20 rfl) kd_0 rfl rfl (by decide) w_434 rfl rfl rfl ?_
    refine g_iload 4 (dk D_X8_feed 21 rfl) rfl ?_
    refine g_callV (As := [.int (p4)]) (kc := 0) (fr := 1) (lo := 30) (mc := 0) (My := M_X7_add) (dk D_X8_feed 22 rfl) kd_1 rfl rfl w_491 w_492 w_493 w_102 w_494 okD_X7_add (by decide) (Nat.le_of_ble_eq_true rfl) rfl (c_X7_add (p4) (h4) _ hw) kxN (kV (fun h5 hw => ?_))
    refine g_aload_n 0 (dk D_X8_feed 23 rfl) rfl rfl ?_
    refine g_getR 0 (t := 1) (dk D_X8_feed 24 rfl) kd_0 rfl rfl (by decide) w_434 rfl rfl rfl ?_
    refine g_iload 5 (dk D_X8_feed 25 rfl) rfl ?_
    refine g_callV (As := [.int (p5)]) (kc := 0) (fr := 1) (lo := 30) (mc := 0) (My := M_X7_add) (dk D_X8_feed 26 rfl) kd_1 rfl rfl w_491 w_492 w_493 w_102 w_494 okD_X7_add (by decide) (Nat.le_of_ble_eq_true rfl) rfl (c_X7_add (p5) (h5) _ hw) kxN (kV (fun h6 hw => ?_))
    refine g_aload_n 0 (dk D_X8_feed 27 rfl) rfl rfl ?_
    refine g_getR 0 (t := 1) (dk D_X8_feed 28 rfl) kd_0 rfl rfl (by decide) w_434 rfl rfl rfl ?_
    refine g_getNI 1 (dk D_X8_feed 29 rfl) kd_1 rfl rfl (by decide) w_140 rfl rfl ?_
    exact g_iret (dk D_X8_feed 30 rfl) rfl ⟨_, rfl, hw⟩
  · refine g_iconst (dk D_X8_feed 5 rfl) ki_m1 ?_
    exact g_iret (dk D_X8_feed 6 rfl) rfl ⟨_, rfl, hw⟩
theorem c_X8_feed {X : Cx} (p1 : Int32) (p2 : Int32) (p3 : Int32) (p4 : Int32) (p5 : Int32) (h : Hp) (Q : Int32 → Hp → Prop) (hw : w_X8_feed p1 p2 p3 p4 p5 h Q) : Con X yX8_feed M_X8_feed 2 60 0 [.ref (0), .int (p1), .int (p2), .int (p3), .int (p4), .int (p5)] h (QI Q) Qn :=
  con_of (by decide +kernel) rfl (Nat.le_of_ble_eq_true rfl) (t_X8_feed p1 p2 p3 p4 p5 h Q hw)
/-! ShadowTolls.needBetween(III)V -/
abbrev M_X8_needBetween : Mi := (RX8, cX8_needBetween, 3, none)
abbrev E_X8_needBetween : Rm := (6, 82, 1, 6)
def rows_X8_needBetween : List (Nat × Instr × Nat) := [(0, .iload_n 0, 1), (1, .iload_n 1, 1), (2, .if_icmp .lt 8, 3), (5, .iload_n 0, 1), (6, .iload_n 2, 1), (7, .if_icmp .le 14, 3), (10, .new 169, 3), (13, .dup, 1), (14, .ldc_w 343, 3), (17, .invokespecial 173, 3), (20, .athrow, 1), (21, .return_, 1)]
theorem D_X8_needBetween : dkA cX8_needBetween rows_X8_needBetween := by
  unfold dkA
  decide +kernel
theorem okD_X8_needBetween : okD yX8_needBetween 3 := by
  unfold okD
  decide +kernel
def w_X8_needBetween (p0 : Int32) (p1 : Int32) (p2 : Int32) (h : Hp) (Q : Prop) (Qx : String → Hp → Prop) : Prop :=
  wif (p0 < p1) (Qx "java/lang/IllegalArgumentException" h) (wif (p0 ≤ p2) (Q) (Qx "java/lang/IllegalArgumentException" h))
theorem t_X8_needBetween {X : Cx} (p0 : Int32) (p1 : Int32) (p2 : Int32) (h : Hp) (Q : Prop) (Qx : String → Hp → Prop) (hw : w_X8_needBetween p0 p1 p2 h Q Qx) : G X M_X8_needBetween E_X8_needBetween (QM X E_X8_needBetween (QVp h Q) Qx) 1 0 [(0, .int (p0)), (1, .int (p1)), (2, .int (p2))] [] h := by
  unfold w_X8_needBetween at hw
  refine g_iload_n 0 (dk D_X8_needBetween 0 rfl) rfl rfl ?_
  refine g_iload_n 1 (dk D_X8_needBetween 1 rfl) rfl rfl ?_
  refine g_icmp_lt (dk D_X8_needBetween 2 rfl) rfl (wif_m hw (fun hw => ?_) (fun hw => ?_))
  · exact g_throwSW (kc := 0) 0 xnm rfl (by decide +kernel) xnm_ok rfl w_706 w_114 atS_173 (dk D_X8_needBetween 6 rfl) (dk D_X8_needBetween 7 rfl) (dk D_X8_needBetween 8 rfl) (dk D_X8_needBetween 9 rfl) (dk D_X8_needBetween 10 rfl) (by decide) (by decide) hw
  · refine g_iload_n 0 (dk D_X8_needBetween 3 rfl) rfl rfl ?_
    refine g_iload_n 2 (dk D_X8_needBetween 4 rfl) rfl rfl ?_
    refine g_icmp_le (dk D_X8_needBetween 5 rfl) rfl (wif_m hw (fun hw => ?_) (fun hw => ?_))
    · exact g_vret (dk D_X8_needBetween 11 rfl) rfl ⟨rfl, rfl, hw⟩
    · exact g_throwSW (kc := 0) 0 xnm rfl (by decide +kernel) xnm_ok rfl w_706 w_114 atS_173 (dk D_X8_needBetween 6 rfl) (dk D_X8_needBetween 7 rfl) (dk D_X8_needBetween 8 rfl) (dk D_X8_needBetween 9 rfl) (dk D_X8_needBetween 10 rfl) (by decide) (by decide) hw
theorem c_X8_needBetween {X : Cx} (p0 : Int32) (p1 : Int32) (p2 : Int32) (h : Hp) (Q : Prop) (Qx : String → Hp → Prop) (hw : w_X8_needBetween p0 p1 p2 h Q Qx) : Con X yX8_needBetween M_X8_needBetween 6 82 1 [.int (p0), .int (p1), .int (p2)] h (QVp h Q) Qx :=
  con_of (by decide +kernel) rfl (Nat.le_of_ble_eq_true rfl) (t_X8_needBetween p0 p1 p2 h Q Qx hw)
/-! ShadowTolls.bridge(I)I -/
abbrev M_X8_bridge : Mi := (RX8, cX8_bridge, 2, (some .int))
abbrev E_X8_bridge : Rm := (10, 320, 1, 6)
def rows_X8_bridge : List (Nat × Instr × Nat) := [(0, .iload_n 1, 1), (1, .iconst 0, 1), (2, .aload_n 0, 1), (3, .getfield 10, 3), (6, .getfield 102, 3), (9, .invokestatic 106, 3), (12, .aload_n 0, 1), (13, .getfield 10, 3), (16, .iload_n 1, 1), (17, .invokevirtual 110, 3), (20, .aload_n 0, 1), (21, .getfield 48, 3), (24, .invokevirtual 113, 3), (27, .ifCond .ne 14, 3), (30, .aload_n 0, 1), (31, .getfield 10, 3), (34, .getfield 117, 3), (37, .bipush 10, 2), (39, .isub, 1), (40, .ireturn, 1), (41, .aload_n 0, 1), (42, .getfield 19, 3), (45, .aload_n 0, 1), (46, .getfield 23, 3), (49, .invokevirtual 120, 3), (52, .aload_n 0, 1), (53, .getfield 82, 3), (56, .invokevirtual 123, 3), (59, .aload_n 0, 1), (60, .iconst 0, 1), (61, .putfield 126, 3), (64, .aload_n 0, 1), (65, .getfield 19, 3), (68, .getfield 129, 3), (71, .ireturn, 1)]
theorem D_X8_bridge : dkA cX8_bridge rows_X8_bridge := by
  unfold dkA
  decide +kernel
theorem okD_X8_bridge : okD yX8_bridge 1 := by
  unfold okD
  decide +kernel
def w_X8_bridge (p1 : Int32) (h : Hp) (Q : Int32 → Hp → Prop) (Qx : String → Hp → Prop) : Prop :=
  w_X8_needBetween (p1) ((0 : Int32)) ((h 1 1)) h (w_X7_open (p1) h (fun h1 => w_X5_clauses  h1 (fun z2 h3 => wif (¬ z2 = 0) (w_X4_copy 3 8 h3 (fun h4 => w_X3_clear 62 h4 (fun h5 => wlet (hup h5 0 15 (0 : Int32)) (fun h6 => Q (h6 3 4) h6)))) (Q ((h3 1 4) - (10 : Int32)) h3)))) Qx
theorem t_X8_bridge {X : Cx} (p1 : Int32) (h : Hp) (Q : Int32 → Hp → Prop) (Qx : String → Hp → Prop) (hw : w_X8_bridge p1 h Q Qx) : G X M_X8_bridge E_X8_bridge (QM X E_X8_bridge (QI Q) Qx) 1 0 [(0, .ref (0)), (1, .int (p1))] [] h := by
  unfold w_X8_bridge at hw
  refine g_iload_n 1 (dk D_X8_bridge 0 rfl) rfl rfl ?_
  refine g_iconst (dk D_X8_bridge 1 rfl) ki_0 ?_
  refine g_aload_n 0 (dk D_X8_bridge 2 rfl) rfl rfl ?_
  refine g_getR 0 (t := 1) (dk D_X8_bridge 3 rfl) kd_0 rfl rfl (by decide) w_434 rfl rfl rfl ?_
  refine g_getNI 1 (dk D_X8_bridge 4 rfl) kd_1 rfl rfl (by decide) w_140 rfl rfl ?_
  refine g_callS (As := [.int (p1), .int ((0 : Int32)), .int ((h 1 1))]) (kc := 0) (fr := 6) (lo := 82) (mc := 1) (My := M_X8_needBetween) (dk D_X8_bridge 5 rfl) w_703 w_704 w_101 w_705 okD_X8_needBetween (by decide) (Nat.le_of_ble_eq_true rfl) rfl (c_X8_needBetween (p1) ((0 : Int32)) ((h 1 1)) (h) _ _ hw) kxT (kVp (fun hw => ?_))
  refine g_aload_n 0 (dk D_X8_bridge 6 rfl) rfl rfl ?_
  refine g_getR 0 (t := 1) (dk D_X8_bridge 7 rfl) kd_0 rfl rfl (by decide) w_434 rfl rfl rfl ?_
  refine g_iload_n 1 (dk D_X8_bridge 8 rfl) rfl rfl ?_
  refine g_callV (As := [.int (p1)]) (kc := 0) (fr := 0) (lo := 0) (mc := 0) (My := M_X7_open) (dk D_X8_bridge 9 rfl) kd_1 rfl rfl w_775 w_776 w_777 w_102 w_778 okD_X7_open (by decide) (Nat.le_of_ble_eq_true rfl) rfl (c_X7_open (p1) (h) _ hw) kxN (kV (fun h1 hw => ?_))
  refine g_aload_n 0 (dk D_X8_bridge 10 rfl) rfl rfl ?_
  refine g_getR 7 (t := 42) (dk D_X8_bridge 11 rfl) kd_0 rfl rfl (by decide) w_441 rfl rfl rfl ?_
  refine g_callV (As := []) (kc := 0) (fr := 9) (lo := 291) (mc := 0) (My := M_X5_clauses) (dk D_X8_bridge 12 rfl) kd_42 rfl rfl w_779 w_780 w_781 w_105 w_782 okD_X5_clauses (by decide) (Nat.le_of_ble_eq_true rfl) rfl (c_X5_clauses (h1) _ hw) kxN (kI (fun z2 h3 hw => ?_))
  refine g_if_ne (dk D_X8_bridge 13 rfl) rfl (wif_m hw (fun hw => ?_) (fun hw => ?_))
  · refine g_aload_n 0 (dk D_X8_bridge 20 rfl) rfl rfl ?_
    refine g_getR 1 (t := 3) (dk D_X8_bridge 21 rfl) kd_0 rfl rfl (by decide) w_435 rfl rfl rfl ?_
    refine g_aload_n 0 (dk D_X8_bridge 22 rfl) rfl rfl ?_
    refine g_getR 2 (t := 8) (dk D_X8_bridge 23 rfl) kd_0 rfl rfl (by decide) w_436 rfl rfl rfl ?_
    refine g_callV (As := [.ref (8)]) (kc := 0) (fr := 1) (lo := 30) (mc := 0) (My := M_X4_copy) (dk D_X8_bridge 24 rfl) roadP_3.1 rfl rfl w_931 w_932 w_933 w_103 w_934 okD_X4_copy (by decide) (Nat.le_of_ble_eq_true rfl) rfl (c_X4_copy 3 8 (roadP_3) (roadP_8) (h3) _ hw) kxN (kV (fun h4 hw => ?_))
    refine g_aload_n 0 (dk D_X8_bridge 25 rfl) rfl rfl ?_
    refine g_getR 11 (t := 62) (dk D_X8_bridge 26 rfl) kd_0 rfl rfl (by decide) w_445 rfl rfl rfl ?_
    refine g_callVN (As := []) (kc := 0) (fr := 1) (lo := 30) (mc := 0) (My := M_X3_clear) (dk D_X8_bridge 27 rfl) recP_62.1 rfl rfl w_936 w_398 w_1 w_109 w_399 okD_X3_clear (by decide) (Nat.le_of_ble_eq_true rfl) rfl (c_X3_clear 62 (recP_62) (h4) _ hw) kxN (kV (fun h5 hw => ?_))
    refine g_aload_n 0 (dk D_X8_bridge 28 rfl) rfl rfl ?_
    refine g_iconst (dk D_X8_bridge 29 rfl) ki_0 ?_
    refine g_put 15 (dk D_X8_bridge 30 rfl) kd_0 rfl rfl (by decide) w_449 rfl tyX8_ok nmX8 rfl (by decide) rfl (fun z => absurd z (by decide)) ?_
    refine g_heap (fun h6 eh6 => ?_)
    replace hw := hw _ eh6
    refine g_aload_n 0 (dk D_X8_bridge 31 rfl) rfl rfl ?_
    refine g_getR 1 (t := 3) (dk D_X8_bridge 32 rfl) kd_0 rfl rfl (by decide) w_435 rfl rfl rfl ?_
    refine g_getNI 4 (dk D_X8_bridge 33 rfl) roadP_3.1 rfl rfl (by decide) w_184 rfl rfl ?_
    exact g_iret (dk D_X8_bridge 34 rfl) rfl ⟨_, rfl, hw⟩
  · refine g_aload_n 0 (dk D_X8_bridge 14 rfl) rfl rfl ?_
    refine g_getR 0 (t := 1) (dk D_X8_bridge 15 rfl) kd_0 rfl rfl (by decide) w_434 rfl rfl rfl ?_
    refine g_getNI 4 (dk D_X8_bridge 16 rfl) kd_1 rfl rfl (by decide) w_143 rfl rfl ?_
    refine g_bipush (dk D_X8_bridge 17 rfl) kb_10 ?_
    refine g_isub (dk D_X8_bridge 18 rfl) ?_
    exact g_iret (dk D_X8_bridge 19 rfl) rfl ⟨_, rfl, hw⟩
theorem c_X8_bridge {X : Cx} (p1 : Int32) (h : Hp) (Q : Int32 → Hp → Prop) (Qx : String → Hp → Prop) (hw : w_X8_bridge p1 h Q Qx) : Con X yX8_bridge M_X8_bridge 10 320 1 [.ref (0), .int (p1)] h (QI Q) Qx :=
  con_of (by decide +kernel) rfl (Nat.le_of_ble_eq_true rfl) (t_X8_bridge p1 h Q Qx hw)
/-! ShadowTolls.fault()I -/
abbrev M_X8_fault : Mi := (RX8, cX8_fault, 1, (some .int))
abbrev E_X8_fault : Rm := (0, 0, 0, 0)
def rows_X8_fault : List (Nat × Instr × Nat) := [(0, .aload_n 0, 1), (1, .getfield 10, 3), (4, .getfield 141, 3), (7, .ireturn, 1)]
theorem D_X8_fault : dkA cX8_fault rows_X8_fault := by
  unfold dkA
  decide +kernel
theorem okD_X8_fault : okD yX8_fault 0 := by
  unfold okD
  decide +kernel
def w_X8_fault (h : Hp) (Q : Int32 → Prop) : Prop :=
  Q (h 1 5)
theorem t_X8_fault {X : Cx} (h : Hp) (Q : Int32 → Prop) (hw : w_X8_fault h Q) : G X M_X8_fault E_X8_fault (QM X E_X8_fault (QIp h Q) Qn) 0 0 [(0, .ref (0))] [] h := by
  unfold w_X8_fault at hw
  refine g_aload_n 0 (dk D_X8_fault 0 rfl) rfl rfl ?_
  refine g_getR 0 (t := 1) (dk D_X8_fault 1 rfl) kd_0 rfl rfl (by decide) w_434 rfl rfl rfl ?_
  refine g_getNI 5 (dk D_X8_fault 2 rfl) kd_1 rfl rfl (by decide) w_146 rfl rfl ?_
  exact g_iret (dk D_X8_fault 3 rfl) rfl ⟨_, rfl, rfl, hw⟩
theorem c_X8_fault {X : Cx} (h : Hp) (Q : Int32 → Prop) (hw : w_X8_fault h Q) : Con X yX8_fault M_X8_fault 0 0 0 [.ref (0)] h (QIp h Q) Qn :=
  con_of (by decide +kernel) rfl (Nat.le_of_ble_eq_true rfl) (t_X8_fault h Q hw)
/-! ShadowTolls.told(I)I -/
abbrev M_X8_told : Mi := (RX8, cX8_told, 2, (some .int))
abbrev E_X8_told : Rm := (6, 82, 1, 6)
def rows_X8_told : List (Nat × Instr × Nat) := [(0, .iload_n 1, 1), (1, .tableswitch 148 0 9 #[55, 63, 71, 79, 87, 95, 103, 111, 127, 143], 55), (56, .aload_n 0, 1), (57, .getfield 19, 3), (60, .getfield 129, 3), (63, .ireturn, 1), (64, .aload_n 0, 1), (65, .getfield 19, 3), (68, .getfield 144, 3), (71, .ireturn, 1), (72, .aload_n 0, 1), (73, .getfield 19, 3), (76, .getfield 147, 3), (79, .ireturn, 1), (80, .aload_n 0, 1), (81, .getfield 19, 3), (84, .getfield 150, 3), (87, .ireturn, 1), (88, .aload_n 0, 1), (89, .getfield 19, 3), (92, .getfield 153, 3), (95, .ireturn, 1), (96, .aload_n 0, 1), (97, .getfield 19, 3), (100, .getfield 156, 3), (103, .ireturn, 1), (104, .aload_n 0, 1), (105, .getfield 19, 3), (108, .getfield 159, 3), (111, .ireturn, 1), (112, .aload_n 0, 1), (113, .getfield 19, 3), (116, .getfield 162, 3), (119, .ifCond .eq 7, 3), (122, .iconst 1, 1), (123, .goto 4, 3), (126, .iconst 0, 1), (127, .ireturn, 1), (128, .aload_n 0, 1), (129, .getfield 19, 3), (132, .getfield 166, 3), (135, .ifCond .eq 7, 3), (138, .iconst 1, 1), (139, .goto 4, 3), (142, .iconst 0, 1), (143, .ireturn, 1), (144, .aload_n 0, 1), (145, .getfield 132, 3), (148, .ireturn, 1), (149, .new 169, 3), (152, .dup, 1), (153, .ldc 171, 2), (155, .invokespecial 173, 3), (158, .athrow, 1)]
theorem D_X8_told : dkA cX8_told rows_X8_told := by
  unfold dkA
  decide +kernel
theorem okD_X8_told : okD yX8_told 1 := by
  unfold okD
  decide +kernel
def w_X8_told (p1 : Int32) (h : Hp) (Q : Int32 → Prop) (Qx : String → Hp → Prop) : Prop :=
  wsw p1 [((0 : Int32), Q (h 3 4)), ((1 : Int32), Q (h 3 5)), ((2 : Int32), Q (h 3 6)), ((3 : Int32), Q (h 3 7)), ((4 : Int32), Q (h 3 8)), ((5 : Int32), Q (h 3 9)), ((6 : Int32), Q (h 3 10)), ((7 : Int32), Q (if (h 3 13 &&& 1) = 0 then (0 : Int32) else (1 : Int32))), ((8 : Int32), Q (if (h 3 14 &&& 1) = 0 then (0 : Int32) else (1 : Int32))), ((9 : Int32), Q (h 0 14))] (Qx "java/lang/IllegalArgumentException" h)
theorem t_X8_told {X : Cx} (p1 : Int32) (h : Hp) (Q : Int32 → Prop) (Qx : String → Hp → Prop) (hw : w_X8_told p1 h Q Qx) : G X M_X8_told E_X8_told (QM X E_X8_told (QIp h Q) Qx) 1 0 [(0, .ref (0)), (1, .int (p1))] [] h := by
  unfold w_X8_told at hw
  refine g_iload_n 1 (dk D_X8_told 0 rfl) rfl rfl ?_
  refine g_sw [((0 : Int32), 56), ((1 : Int32), 64), ((2 : Int32), 72), ((3 : Int32), 80), ((4 : Int32), 88), ((5 : Int32), 96), ((6 : Int32), 104), ((7 : Int32), 112), ((8 : Int32), 128), ((9 : Int32), 144)] 149 (dk D_X8_told 1 rfl) (by decide +kernel) (by decide +kernel) (by decide) (by decide) (wsw_m hw ⟨rfl, (fun hw => ?_), rfl, (fun hw => ?_), rfl, (fun hw => ?_), rfl, (fun hw => ?_), rfl, (fun hw => ?_), rfl, (fun hw => ?_), rfl, (fun hw => ?_), rfl, (fun hw => ?_), rfl, (fun hw => ?_), rfl, (fun hw => ?_), trivial⟩ (fun hw => ?_))
  · refine g_aload_n 0 (dk D_X8_told 2 rfl) rfl rfl ?_
    refine g_getR 1 (t := 3) (dk D_X8_told 3 rfl) kd_0 rfl rfl (by decide) w_435 rfl rfl rfl ?_
    refine g_getNI 4 (dk D_X8_told 4 rfl) roadP_3.1 rfl rfl (by decide) w_184 rfl rfl ?_
    exact g_iret (dk D_X8_told 5 rfl) rfl ⟨_, rfl, rfl, hw⟩
  · refine g_aload_n 0 (dk D_X8_told 6 rfl) rfl rfl ?_
    refine g_getR 1 (t := 3) (dk D_X8_told 7 rfl) kd_0 rfl rfl (by decide) w_435 rfl rfl rfl ?_
    refine g_getNI 5 (dk D_X8_told 8 rfl) roadP_3.1 rfl rfl (by decide) w_186 rfl rfl ?_
    exact g_iret (dk D_X8_told 9 rfl) rfl ⟨_, rfl, rfl, hw⟩
  · refine g_aload_n 0 (dk D_X8_told 10 rfl) rfl rfl ?_
    refine g_getR 1 (t := 3) (dk D_X8_told 11 rfl) kd_0 rfl rfl (by decide) w_435 rfl rfl rfl ?_
    refine g_getNI 6 (dk D_X8_told 12 rfl) roadP_3.1 rfl rfl (by decide) w_189 rfl rfl ?_
    exact g_iret (dk D_X8_told 13 rfl) rfl ⟨_, rfl, rfl, hw⟩
  · refine g_aload_n 0 (dk D_X8_told 14 rfl) rfl rfl ?_
    refine g_getR 1 (t := 3) (dk D_X8_told 15 rfl) kd_0 rfl rfl (by decide) w_435 rfl rfl rfl ?_
    refine g_getNI 7 (dk D_X8_told 16 rfl) roadP_3.1 rfl rfl (by decide) w_192 rfl rfl ?_
    exact g_iret (dk D_X8_told 17 rfl) rfl ⟨_, rfl, rfl, hw⟩
  · refine g_aload_n 0 (dk D_X8_told 18 rfl) rfl rfl ?_
    refine g_getR 1 (t := 3) (dk D_X8_told 19 rfl) kd_0 rfl rfl (by decide) w_435 rfl rfl rfl ?_
    refine g_getNI 8 (dk D_X8_told 20 rfl) roadP_3.1 rfl rfl (by decide) w_195 rfl rfl ?_
    exact g_iret (dk D_X8_told 21 rfl) rfl ⟨_, rfl, rfl, hw⟩
  · refine g_aload_n 0 (dk D_X8_told 22 rfl) rfl rfl ?_
    refine g_getR 1 (t := 3) (dk D_X8_told 23 rfl) kd_0 rfl rfl (by decide) w_435 rfl rfl rfl ?_
    refine g_getNI 9 (dk D_X8_told 24 rfl) roadP_3.1 rfl rfl (by decide) w_199 rfl rfl ?_
    exact g_iret (dk D_X8_told 25 rfl) rfl ⟨_, rfl, rfl, hw⟩
  · refine g_aload_n 0 (dk D_X8_told 26 rfl) rfl rfl ?_
    refine g_getR 1 (t := 3) (dk D_X8_told 27 rfl) kd_0 rfl rfl (by decide) w_435 rfl rfl rfl ?_
    refine g_getNI 10 (dk D_X8_told 28 rfl) roadP_3.1 rfl rfl (by decide) w_202 rfl rfl ?_
    exact g_iret (dk D_X8_told 29 rfl) rfl ⟨_, rfl, rfl, hw⟩
  · refine g_aload_n 0 (dk D_X8_told 30 rfl) rfl rfl ?_
    refine g_getR 1 (t := 3) (dk D_X8_told 31 rfl) kd_0 rfl rfl (by decide) w_435 rfl rfl rfl ?_
    refine g_getNZ 13 (dk D_X8_told 32 rfl) roadP_3.1 rfl rfl (by decide) w_210 rfl rfl ?_
    have hj : G X M_X8_told E_X8_told (QM X E_X8_told (QIp h Q) Qx) 1 127 [(0, .ref (0)), (1, .int (p1))] [.int ((if (h 3 13 &&& 1) = 0 then (0 : Int32) else (1 : Int32)))] (h) := by
      exact g_iret (dk D_X8_told 37 rfl) rfl ⟨_, rfl, rfl, hw⟩
    refine g_if_eq (dk D_X8_told 33 rfl) rfl ?_
    by_cases c1 : (h 3 13 &&& 1) = 0
    · rw [if_pos c1] at hj
      refine wif_p c1 ?_
      refine g_iconst (dk D_X8_told 36 rfl) ki_0 ?_
      exact hj
    · rw [if_neg c1] at hj
      refine wif_n c1 ?_
      refine g_iconst (dk D_X8_told 34 rfl) ki_1 ?_
      refine g_goto (dk D_X8_told 35 rfl) rfl ?_
      exact hj
  · refine g_aload_n 0 (dk D_X8_told 38 rfl) rfl rfl ?_
    refine g_getR 1 (t := 3) (dk D_X8_told 39 rfl) kd_0 rfl rfl (by decide) w_435 rfl rfl rfl ?_
    refine g_getNZ 14 (dk D_X8_told 40 rfl) roadP_3.1 rfl rfl (by decide) w_213 rfl rfl ?_
    have hj : G X M_X8_told E_X8_told (QM X E_X8_told (QIp h Q) Qx) 1 143 [(0, .ref (0)), (1, .int (p1))] [.int ((if (h 3 14 &&& 1) = 0 then (0 : Int32) else (1 : Int32)))] (h) := by
      exact g_iret (dk D_X8_told 45 rfl) rfl ⟨_, rfl, rfl, hw⟩
    refine g_if_eq (dk D_X8_told 41 rfl) rfl ?_
    by_cases c2 : (h 3 14 &&& 1) = 0
    · rw [if_pos c2] at hj
      refine wif_p c2 ?_
      refine g_iconst (dk D_X8_told 44 rfl) ki_0 ?_
      exact hj
    · rw [if_neg c2] at hj
      refine wif_n c2 ?_
      refine g_iconst (dk D_X8_told 42 rfl) ki_1 ?_
      refine g_goto (dk D_X8_told 43 rfl) rfl ?_
      exact hj
  · refine g_aload_n 0 (dk D_X8_told 46 rfl) rfl rfl ?_
    refine g_getI 14 (dk D_X8_told 47 rfl) kd_0 rfl rfl (by decide) w_448 rfl rfl ?_
    exact g_iret (dk D_X8_told 48 rfl) rfl ⟨_, rfl, rfl, hw⟩
  · exact g_throwS (kc := 0) 24 xnm rfl (by decide +kernel) xnm_ok rfl w_706 w_114 atS_173 (dk D_X8_told 49 rfl) (dk D_X8_told 50 rfl) (dk D_X8_told 51 rfl) (dk D_X8_told 52 rfl) (dk D_X8_told 53 rfl) (by decide) (by decide) hw
theorem c_X8_told {X : Cx} (p1 : Int32) (h : Hp) (Q : Int32 → Prop) (Qx : String → Hp → Prop) (hw : w_X8_told p1 h Q Qx) : Con X yX8_told M_X8_told 6 82 1 [.ref (0), .int (p1)] h (QIp h Q) Qx :=
  con_of (by decide +kernel) rfl (Nat.le_of_ble_eq_true rfl) (t_X8_told p1 h Q Qx hw)
/-! ShadowTolls.needTraveller(I)V -/
abbrev M_X8_needTraveller : Mi := (RX8, cX8_needTraveller, 2, none)
abbrev E_X8_needTraveller : Rm := (6, 82, 1, 6)
def rows_X8_needTraveller : List (Nat × Instr × Nat) := [(0, .iload_n 1, 1), (1, .ifCond .lt 14, 3), (4, .iload_n 1, 1), (5, .aload_n 0, 1), (6, .getfield 19, 3), (9, .getfield 129, 3), (12, .if_icmp .lt 14, 3), (15, .new 354, 3), (18, .dup, 1), (19, .ldc_w 356, 3), (22, .invokespecial 358, 3), (25, .athrow, 1), (26, .return_, 1)]
theorem D_X8_needTraveller : dkA cX8_needTraveller rows_X8_needTraveller := by
  unfold dkA
  decide +kernel
theorem okD_X8_needTraveller : okD yX8_needTraveller 1 := by
  unfold okD
  decide +kernel
def w_X8_needTraveller (p1 : Int32) (h : Hp) (Q : Prop) (Qx : String → Hp → Prop) : Prop :=
  wif (p1 < 0) (Qx "java/util/NoSuchElementException" h) (wif (p1 < (h 3 4)) (Q) (Qx "java/util/NoSuchElementException" h))
theorem t_X8_needTraveller {X : Cx} (p1 : Int32) (h : Hp) (Q : Prop) (Qx : String → Hp → Prop) (hw : w_X8_needTraveller p1 h Q Qx) : G X M_X8_needTraveller E_X8_needTraveller (QM X E_X8_needTraveller (QVp h Q) Qx) 1 0 [(0, .ref (0)), (1, .int (p1))] [] h := by
  unfold w_X8_needTraveller at hw
  refine g_iload_n 1 (dk D_X8_needTraveller 0 rfl) rfl rfl ?_
  refine g_if_lt (dk D_X8_needTraveller 1 rfl) rfl (wif_m hw (fun hw => ?_) (fun hw => ?_))
  · exact g_throwNS (kc := 0) 25 rfl rfl rfl w_1015 (dk D_X8_needTraveller 7 rfl) (dk D_X8_needTraveller 8 rfl) (dk D_X8_needTraveller 9 rfl) (dk D_X8_needTraveller 10 rfl) (dk D_X8_needTraveller 11 rfl) (by decide) (by decide) hw
  · refine g_iload_n 1 (dk D_X8_needTraveller 2 rfl) rfl rfl ?_
    refine g_aload_n 0 (dk D_X8_needTraveller 3 rfl) rfl rfl ?_
    refine g_getR 1 (t := 3) (dk D_X8_needTraveller 4 rfl) kd_0 rfl rfl (by decide) w_435 rfl rfl rfl ?_
    refine g_getNI 4 (dk D_X8_needTraveller 5 rfl) roadP_3.1 rfl rfl (by decide) w_184 rfl rfl ?_
    refine g_icmp_lt (dk D_X8_needTraveller 6 rfl) rfl (wif_m hw (fun hw => ?_) (fun hw => ?_))
    · exact g_vret (dk D_X8_needTraveller 12 rfl) rfl ⟨rfl, rfl, hw⟩
    · exact g_throwNS (kc := 0) 25 rfl rfl rfl w_1015 (dk D_X8_needTraveller 7 rfl) (dk D_X8_needTraveller 8 rfl) (dk D_X8_needTraveller 9 rfl) (dk D_X8_needTraveller 10 rfl) (dk D_X8_needTraveller 11 rfl) (by decide) (by decide) hw
theorem c_X8_needTraveller {X : Cx} (p1 : Int32) (h : Hp) (Q : Prop) (Qx : String → Hp → Prop) (hw : w_X8_needTraveller p1 h Q Qx) : Con X yX8_needTraveller M_X8_needTraveller 6 82 1 [.ref (0), .int (p1)] h (QVp h Q) Qx :=
  con_of (by decide +kernel) rfl (Nat.le_of_ble_eq_true rfl) (t_X8_needTraveller p1 h Q Qx hw)
/-! ShadowTolls.traveller(II)I -/
abbrev M_X8_traveller : Mi := (RX8, cX8_traveller, 3, (some .int))
abbrev E_X8_traveller : Rm := (7, 112, 2, 12)
def rows_X8_traveller : List (Nat × Instr × Nat) := [(0, .aload_n 0, 1), (1, .iload_n 1, 1), (2, .invokevirtual 176, 3), (5, .iload_n 2, 1), (6, .iconst 0, 1), (7, .bipush 6, 2), (9, .invokestatic 106, 3), (12, .aload_n 0, 1), (13, .getfield 19, 3), (16, .iload_n 1, 1), (17, .iload_n 2, 1), (18, .invokevirtual 179, 3), (21, .ireturn, 1)]
theorem D_X8_traveller : dkA cX8_traveller rows_X8_traveller := by
  unfold dkA
  decide +kernel
theorem okD_X8_traveller : okD yX8_traveller 2 := by
  unfold okD
  decide +kernel
def w_X8_traveller (p1 : Int32) (p2 : Int32) (h : Hp) (Q : Int32 → Prop) (Qx : String → Hp → Prop) : Prop :=
  w_X8_needTraveller (p1) h (w_X8_needBetween (p2) ((0 : Int32)) ((6 : Int32)) h (w_X4_trait 3 (p1) (p2) h (fun z1 => Q z1)) Qx) Qx
theorem t_X8_traveller {X : Cx} (p1 : Int32) (p2 : Int32) (h : Hp) (Q : Int32 → Prop) (Qx : String → Hp → Prop) (hw : w_X8_traveller p1 p2 h Q Qx) : G X M_X8_traveller E_X8_traveller (QM X E_X8_traveller (QIp h Q) Qx) 2 0 [(0, .ref (0)), (1, .int (p1)), (2, .int (p2))] [] h := by
  unfold w_X8_traveller at hw
  refine g_aload_n 0 (dk D_X8_traveller 0 rfl) rfl rfl ?_
  refine g_iload_n 1 (dk D_X8_traveller 1 rfl) rfl rfl ?_
  refine g_callV (As := [.int (p1)]) (kc := 1) (fr := 6) (lo := 82) (mc := 1) (My := M_X8_needTraveller) (dk D_X8_traveller 2 rfl) kd_0 rfl rfl w_1011 w_1013 w_26 w_101 w_1014 okD_X8_needTraveller (by decide) (Nat.le_of_ble_eq_true rfl) rfl (c_X8_needTraveller (p1) (h) _ _ hw) kxT (kVp (fun hw => ?_))
  refine g_iload_n 2 (dk D_X8_traveller 3 rfl) rfl rfl ?_
  refine g_iconst (dk D_X8_traveller 4 rfl) ki_0 ?_
  refine g_bipush (dk D_X8_traveller 5 rfl) kb_6 ?_
  refine g_callS (As := [.int (p2), .int ((0 : Int32)), .int ((6 : Int32))]) (kc := 0) (fr := 6) (lo := 82) (mc := 1) (My := M_X8_needBetween) (dk D_X8_traveller 6 rfl) w_703 w_704 w_101 w_705 okD_X8_needBetween (by decide) (Nat.le_of_ble_eq_true rfl) rfl (c_X8_needBetween (p2) ((0 : Int32)) ((6 : Int32)) (h) _ _ hw) kxT (kVp (fun hw => ?_))
  refine g_aload_n 0 (dk D_X8_traveller 7 rfl) rfl rfl ?_
  refine g_getR 1 (t := 3) (dk D_X8_traveller 8 rfl) kd_0 rfl rfl (by decide) w_435 rfl rfl rfl ?_
  refine g_iload_n 1 (dk D_X8_traveller 9 rfl) rfl rfl ?_
  refine g_iload_n 2 (dk D_X8_traveller 10 rfl) rfl rfl ?_
  refine g_callV (As := [.int (p1), .int (p2)]) (kc := 0) (fr := 1) (lo := 29) (mc := 0) (My := M_X4_trait) (dk D_X8_traveller 11 rfl) roadP_3.1 rfl rfl w_1031 w_546 w_547 w_103 w_548 okD_X4_trait (by decide) (Nat.le_of_ble_eq_true rfl) rfl (c_X4_trait 3 (p1) (p2) (roadP_3) (h) _ hw) kxN (kIp (fun z1 hw => ?_))
  exact g_iret (dk D_X8_traveller 12 rfl) rfl ⟨_, rfl, rfl, hw⟩
theorem c_X8_traveller {X : Cx} (p1 : Int32) (p2 : Int32) (h : Hp) (Q : Int32 → Prop) (Qx : String → Hp → Prop) (hw : w_X8_traveller p1 p2 h Q Qx) : Con X yX8_traveller M_X8_traveller 7 112 2 [.ref (0), .int (p1), .int (p2)] h (QIp h Q) Qx :=
  con_of (by decide +kernel) rfl (Nat.le_of_ble_eq_true rfl) (t_X8_traveller p1 p2 h Q Qx hw)
/-! ShadowTolls.needDay(I)V -/
abbrev M_X8_needDay : Mi := (RX8, cX8_needDay, 1, none)
abbrev E_X8_needDay : Rm := (6, 82, 1, 6)
def rows_X8_needDay : List (Nat × Instr × Nat) := [(0, .iload_n 0, 1), (1, .ifCond .lt 9, 3), (4, .iload_n 0, 1), (5, .bipush 30, 2), (7, .if_icmp .lt 14, 3), (10, .new 169, 3), (13, .dup, 1), (14, .ldc_w 345, 3), (17, .invokespecial 173, 3), (20, .athrow, 1), (21, .return_, 1)]
theorem D_X8_needDay : dkA cX8_needDay rows_X8_needDay := by
  unfold dkA
  decide +kernel
theorem okD_X8_needDay : okD yX8_needDay 1 := by
  unfold okD
  decide +kernel
def w_X8_needDay (p0 : Int32) (h : Hp) (Q : Prop) (Qx : String → Hp → Prop) : Prop :=
  wif (p0 < 0) (Qx "java/lang/IllegalArgumentException" h) (wif (p0 < (30 : Int32)) (Q) (Qx "java/lang/IllegalArgumentException" h))
theorem t_X8_needDay {X : Cx} (p0 : Int32) (h : Hp) (Q : Prop) (Qx : String → Hp → Prop) (hw : w_X8_needDay p0 h Q Qx) : G X M_X8_needDay E_X8_needDay (QM X E_X8_needDay (QVp h Q) Qx) 1 0 [(0, .int (p0))] [] h := by
  unfold w_X8_needDay at hw
  refine g_iload_n 0 (dk D_X8_needDay 0 rfl) rfl rfl ?_
  refine g_if_lt (dk D_X8_needDay 1 rfl) rfl (wif_m hw (fun hw => ?_) (fun hw => ?_))
  · exact g_throwSW (kc := 0) 26 xnm rfl (by decide +kernel) xnm_ok rfl w_706 w_114 atS_173 (dk D_X8_needDay 5 rfl) (dk D_X8_needDay 6 rfl) (dk D_X8_needDay 7 rfl) (dk D_X8_needDay 8 rfl) (dk D_X8_needDay 9 rfl) (by decide) (by decide) hw
  · refine g_iload_n 0 (dk D_X8_needDay 2 rfl) rfl rfl ?_
    refine g_bipush (dk D_X8_needDay 3 rfl) kb_30 ?_
    refine g_icmp_lt (dk D_X8_needDay 4 rfl) rfl (wif_m hw (fun hw => ?_) (fun hw => ?_))
    · exact g_vret (dk D_X8_needDay 10 rfl) rfl ⟨rfl, rfl, hw⟩
    · exact g_throwSW (kc := 0) 26 xnm rfl (by decide +kernel) xnm_ok rfl w_706 w_114 atS_173 (dk D_X8_needDay 5 rfl) (dk D_X8_needDay 6 rfl) (dk D_X8_needDay 7 rfl) (dk D_X8_needDay 8 rfl) (dk D_X8_needDay 9 rfl) (by decide) (by decide) hw
theorem c_X8_needDay {X : Cx} (p0 : Int32) (h : Hp) (Q : Prop) (Qx : String → Hp → Prop) (hw : w_X8_needDay p0 h Q Qx) : Con X yX8_needDay M_X8_needDay 6 82 1 [.int (p0)] h (QVp h Q) Qx :=
  con_of (by decide +kernel) rfl (Nat.le_of_ble_eq_true rfl) (t_X8_needDay p0 h Q Qx hw)
/-! ShadowTolls.day(II)I -/
abbrev M_X8_day : Mi := (RX8, cX8_day, 3, (some .int))
abbrev E_X8_day : Rm := (7, 112, 2, 12)
def rows_X8_day : List (Nat × Instr × Nat) := [(0, .iload_n 1, 1), (1, .invokestatic 183, 3), (4, .iload_n 2, 1), (5, .iconst 0, 1), (6, .iconst 1, 1), (7, .invokestatic 106, 3), (10, .iload_n 2, 1), (11, .ifCond .ne 17, 3), (14, .aload_n 0, 1), (15, .getfield 19, 3), (18, .getfield 186, 3), (21, .iload_n 1, 1), (22, .invokestatic 189, 3), (25, .goto 14, 3), (28, .aload_n 0, 1), (29, .getfield 19, 3), (32, .getfield 193, 3), (35, .iload_n 1, 1), (36, .invokestatic 189, 3), (39, .ireturn, 1)]
theorem D_X8_day : dkA cX8_day rows_X8_day := by
  unfold dkA
  decide +kernel
theorem okD_X8_day : okD yX8_day 2 := by
  unfold okD
  decide +kernel
def w_X8_day (p1 : Int32) (p2 : Int32) (h : Hp) (Q : Int32 → Prop) (Qx : String → Hp → Prop) : Prop :=
  w_X8_needDay (p1) h (w_X8_needBetween (p2) ((0 : Int32)) ((1 : Int32)) h (wif (¬ p2 = 0) (w_X8_at 6 30 (p1) h (fun z1 => Q z1)) (w_X8_at 5 30 (p1) h (fun z2 => Q z2))) Qx) Qx
theorem t_X8_day {X : Cx} (p1 : Int32) (p2 : Int32) (h : Hp) (Q : Int32 → Prop) (Qx : String → Hp → Prop) (hw : w_X8_day p1 p2 h Q Qx) : G X M_X8_day E_X8_day (QM X E_X8_day (QIp h Q) Qx) 2 0 [(0, .ref (0)), (1, .int (p1)), (2, .int (p2))] [] h := by
  unfold w_X8_day at hw
  refine g_iload_n 1 (dk D_X8_day 0 rfl) rfl rfl ?_
  refine g_callS (As := [.int (p1)]) (kc := 1) (fr := 6) (lo := 82) (mc := 1) (My := M_X8_needDay) (dk D_X8_day 1 rfl) w_1039 w_1040 w_101 w_1041 okD_X8_needDay (by decide) (Nat.le_of_ble_eq_true rfl) rfl (c_X8_needDay (p1) (h) _ _ hw) kxT (kVp (fun hw => ?_))
  refine g_iload_n 2 (dk D_X8_day 2 rfl) rfl rfl ?_
  refine g_iconst (dk D_X8_day 3 rfl) ki_0 ?_
  refine g_iconst (dk D_X8_day 4 rfl) ki_1 ?_
  refine g_callS (As := [.int (p2), .int ((0 : Int32)), .int ((1 : Int32))]) (kc := 0) (fr := 6) (lo := 82) (mc := 1) (My := M_X8_needBetween) (dk D_X8_day 5 rfl) w_703 w_704 w_101 w_705 okD_X8_needBetween (by decide) (Nat.le_of_ble_eq_true rfl) rfl (c_X8_needBetween (p2) ((0 : Int32)) ((1 : Int32)) (h) _ _ hw) kxT (kVp (fun hw => ?_))
  refine g_iload_n 2 (dk D_X8_day 6 rfl) rfl rfl ?_
  refine g_if_ne (dk D_X8_day 7 rfl) rfl (wif_m hw (fun hw => ?_) (fun hw => ?_))
  · refine g_aload_n 0 (dk D_X8_day 14 rfl) rfl rfl ?_
    refine g_getR 1 (t := 3) (dk D_X8_day 15 rfl) kd_0 rfl rfl (by decide) w_435 rfl rfl rfl ?_
    refine g_getNR 2 (t := 6) (dk D_X8_day 16 rfl) roadP_3.1 rfl rfl (by decide) w_180 rfl rfl rfl ?_
    refine g_iload_n 1 (dk D_X8_day 17 rfl) rfl rfl ?_
    refine g_callS (As := [.ref (6), .int (p1)]) (kc := 0) (fr := 0) (lo := 0) (mc := 0) (My := M_X8_at) (dk D_X8_day 18 rfl) w_517 w_518 w_101 w_519 okD_X8_at (by decide) (Nat.le_of_ble_eq_true rfl) rfl (c_X8_at 6 30 (p1) (kd_6) (h) _ hw) kxN (kIp (fun z1 hw => ?_))
    exact g_iret (dk D_X8_day 19 rfl) rfl ⟨_, rfl, rfl, hw⟩
  · refine g_aload_n 0 (dk D_X8_day 8 rfl) rfl rfl ?_
    refine g_getR 1 (t := 3) (dk D_X8_day 9 rfl) kd_0 rfl rfl (by decide) w_435 rfl rfl rfl ?_
    refine g_getNR 1 (t := 5) (dk D_X8_day 10 rfl) roadP_3.1 rfl rfl (by decide) w_177 rfl rfl rfl ?_
    refine g_iload_n 1 (dk D_X8_day 11 rfl) rfl rfl ?_
    refine g_callS (As := [.ref (5), .int (p1)]) (kc := 0) (fr := 0) (lo := 0) (mc := 0) (My := M_X8_at) (dk D_X8_day 12 rfl) w_517 w_518 w_101 w_519 okD_X8_at (by decide) (Nat.le_of_ble_eq_true rfl) rfl (c_X8_at 5 30 (p1) (kd_5) (h) _ hw) kxN (kIp (fun z2 hw => ?_))
    refine g_goto (dk D_X8_day 13 rfl) rfl ?_
    exact g_iret (dk D_X8_day 19 rfl) rfl ⟨_, rfl, rfl, hw⟩
theorem c_X8_day {X : Cx} (p1 : Int32) (p2 : Int32) (h : Hp) (Q : Int32 → Prop) (Qx : String → Hp → Prop) (hw : w_X8_day p1 p2 h Q Qx) : Con X yX8_day M_X8_day 7 112 2 [.ref (0), .int (p1), .int (p2)] h (QIp h Q) Qx :=
  con_of (by decide +kernel) rfl (Nat.le_of_ble_eq_true rfl) (t_X8_day p1 p2 h Q Qx hw)
/-! ShadowTolls.needBridge(I)V -/
abbrev M_X8_needBridge : Mi := (RX8, cX8_needBridge, 2, none)
abbrev E_X8_needBridge : Rm := (6, 82, 1, 6)
def rows_X8_needBridge : List (Nat × Instr × Nat) := [(0, .iload_n 1, 1), (1, .ifCond .eq 29, 3), (4, .iload_n 1, 1), (5, .iconst 1, 1), (6, .if_icmp .ne 13, 3), (9, .aload_n 0, 1), (10, .getfield 19, 3), (13, .getfield 166, 3), (16, .ifCond .ne 14, 3), (19, .new 349, 3), (22, .dup, 1), (23, .ldc_w 351, 3), (26, .invokespecial 353, 3), (29, .athrow, 1), (30, .return_, 1)]
theorem D_X8_needBridge : dkA cX8_needBridge rows_X8_needBridge := by
  unfold dkA
  decide +kernel
theorem okD_X8_needBridge : okD yX8_needBridge 1 := by
  unfold okD
  decide +kernel
def w_X8_needBridge (p1 : Int32) (h : Hp) (Q : Prop) (Qx : String → Hp → Prop) : Prop :=
  wif (p1 = 0) (Q) (wif (¬ p1 = (1 : Int32)) (Qx "java/lang/IndexOutOfBoundsException" h) (wif (¬ (h 3 14 &&& 1) = 0) (Q) (Qx "java/lang/IndexOutOfBoundsException" h)))
theorem t_X8_needBridge {X : Cx} (p1 : Int32) (h : Hp) (Q : Prop) (Qx : String → Hp → Prop) (hw : w_X8_needBridge p1 h Q Qx) : G X M_X8_needBridge E_X8_needBridge (QM X E_X8_needBridge (QVp h Q) Qx) 1 0 [(0, .ref (0)), (1, .int (p1))] [] h := by
  unfold w_X8_needBridge at hw
  refine g_iload_n 1 (dk D_X8_needBridge 0 rfl) rfl rfl ?_
  refine g_if_eq (dk D_X8_needBridge 1 rfl) rfl (wif_m hw (fun hw => ?_) (fun hw => ?_))
  · exact g_vret (dk D_X8_needBridge 14 rfl) rfl ⟨rfl, rfl, hw⟩
  · refine g_iload_n 1 (dk D_X8_needBridge 2 rfl) rfl rfl ?_
    refine g_iconst (dk D_X8_needBridge 3 rfl) ki_1 ?_
    refine g_icmp_ne (dk D_X8_needBridge 4 rfl) rfl (wif_m hw (fun hw => ?_) (fun hw => ?_))
    · exact g_throwSW (kc := 0) 27 xnm rfl (by decide +kernel) xnm_ok rfl w_1055 w_120 atS_353 (dk D_X8_needBridge 9 rfl) (dk D_X8_needBridge 10 rfl) (dk D_X8_needBridge 11 rfl) (dk D_X8_needBridge 12 rfl) (dk D_X8_needBridge 13 rfl) (by decide) (by decide) hw
    · refine g_aload_n 0 (dk D_X8_needBridge 5 rfl) rfl rfl ?_
      refine g_getR 1 (t := 3) (dk D_X8_needBridge 6 rfl) kd_0 rfl rfl (by decide) w_435 rfl rfl rfl ?_
      refine g_getNZ 14 (dk D_X8_needBridge 7 rfl) roadP_3.1 rfl rfl (by decide) w_213 rfl rfl ?_
      refine g_if_ne (dk D_X8_needBridge 8 rfl) rfl (wif_m hw (fun hw => ?_) (fun hw => ?_))
      · exact g_vret (dk D_X8_needBridge 14 rfl) rfl ⟨rfl, rfl, hw⟩
      · exact g_throwSW (kc := 0) 27 xnm rfl (by decide +kernel) xnm_ok rfl w_1055 w_120 atS_353 (dk D_X8_needBridge 9 rfl) (dk D_X8_needBridge 10 rfl) (dk D_X8_needBridge 11 rfl) (dk D_X8_needBridge 12 rfl) (dk D_X8_needBridge 13 rfl) (by decide) (by decide) hw
theorem c_X8_needBridge {X : Cx} (p1 : Int32) (h : Hp) (Q : Prop) (Qx : String → Hp → Prop) (hw : w_X8_needBridge p1 h Q Qx) : Con X yX8_needBridge M_X8_needBridge 6 82 1 [.ref (0), .int (p1)] h (QVp h Q) Qx :=
  con_of (by decide +kernel) rfl (Nat.le_of_ble_eq_true rfl) (t_X8_needBridge p1 h Q Qx hw)
/-! ShadowTolls.needMinute(I)V -/
abbrev M_X8_needMinute : Mi := (RX8, cX8_needMinute, 1, none)
abbrev E_X8_needMinute : Rm := (6, 82, 1, 6)
def rows_X8_needMinute : List (Nat × Instr × Nat) := [(0, .iload_n 0, 1), (1, .ifCond .lt 10, 3), (4, .iload_n 0, 1), (5, .sipush 1440, 3), (8, .if_icmp .lt 14, 3), (11, .new 169, 3), (14, .dup, 1), (15, .ldc_w 347, 3), (18, .invokespecial 173, 3), (21, .athrow, 1), (22, .return_, 1)]
theorem D_X8_needMinute : dkA cX8_needMinute rows_X8_needMinute := by
  unfold dkA
  decide +kernel
theorem okD_X8_needMinute : okD yX8_needMinute 1 := by
  unfold okD
  decide +kernel
def w_X8_needMinute (p0 : Int32) (h : Hp) (Q : Prop) (Qx : String → Hp → Prop) : Prop :=
  wif (p0 < 0) (Qx "java/lang/IllegalArgumentException" h) (wif (p0 < (1440 : Int32)) (Q) (Qx "java/lang/IllegalArgumentException" h))
theorem t_X8_needMinute {X : Cx} (p0 : Int32) (h : Hp) (Q : Prop) (Qx : String → Hp → Prop) (hw : w_X8_needMinute p0 h Q Qx) : G X M_X8_needMinute E_X8_needMinute (QM X E_X8_needMinute (QVp h Q) Qx) 1 0 [(0, .int (p0))] [] h := by
  unfold w_X8_needMinute at hw
  refine g_iload_n 0 (dk D_X8_needMinute 0 rfl) rfl rfl ?_
  refine g_if_lt (dk D_X8_needMinute 1 rfl) rfl (wif_m hw (fun hw => ?_) (fun hw => ?_))
  · exact g_throwSW (kc := 0) 28 xnm rfl (by decide +kernel) xnm_ok rfl w_706 w_114 atS_173 (dk D_X8_needMinute 5 rfl) (dk D_X8_needMinute 6 rfl) (dk D_X8_needMinute 7 rfl) (dk D_X8_needMinute 8 rfl) (dk D_X8_needMinute 9 rfl) (by decide) (by decide) hw
  · refine g_iload_n 0 (dk D_X8_needMinute 2 rfl) rfl rfl ?_
    refine g_sipush (dk D_X8_needMinute 3 rfl) ks_1440 ?_
    refine g_icmp_lt (dk D_X8_needMinute 4 rfl) rfl (wif_m hw (fun hw => ?_) (fun hw => ?_))
    · exact g_vret (dk D_X8_needMinute 10 rfl) rfl ⟨rfl, rfl, hw⟩
    · exact g_throwSW (kc := 0) 28 xnm rfl (by decide +kernel) xnm_ok rfl w_706 w_114 atS_173 (dk D_X8_needMinute 5 rfl) (dk D_X8_needMinute 6 rfl) (dk D_X8_needMinute 7 rfl) (dk D_X8_needMinute 8 rfl) (dk D_X8_needMinute 9 rfl) (by decide) (by decide) hw
theorem c_X8_needMinute {X : Cx} (p0 : Int32) (h : Hp) (Q : Prop) (Qx : String → Hp → Prop) (hw : w_X8_needMinute p0 h Q Qx) : Con X yX8_needMinute M_X8_needMinute 6 82 1 [.int (p0)] h (QVp h Q) Qx :=
  con_of (by decide +kernel) rfl (Nat.le_of_ble_eq_true rfl) (t_X8_needMinute p0 h Q Qx hw)
/-! ShadowTolls.altitude(III)I -/
abbrev M_X8_altitude : Mi := (RX8, cX8_altitude, 4, (some .int))
abbrev E_X8_altitude : Rm := (7, 111, 3, 18)
def rows_X8_altitude : List (Nat × Instr × Nat) := [(0, .aload_n 0, 1), (1, .iload_n 1, 1), (2, .invokevirtual 196, 3), (5, .iload_n 2, 1), (6, .invokestatic 183, 3), (9, .iload_n 3, 1), (10, .invokestatic 199, 3), (13, .aload_n 0, 1), (14, .getfield 19, 3), (17, .iload_n 1, 1), (18, .iload_n 2, 1), (19, .iload_n 3, 1), (20, .invokevirtual 202, 3), (23, .ireturn, 1)]
theorem D_X8_altitude : dkA cX8_altitude rows_X8_altitude := by
  unfold dkA
  decide +kernel
theorem okD_X8_altitude : okD yX8_altitude 3 := by
  unfold okD
  decide +kernel
def w_X8_altitude (p1 : Int32) (p2 : Int32) (p3 : Int32) (h : Hp) (Q : Int32 → Prop) (Qx : String → Hp → Prop) : Prop :=
  w_X8_needBridge (p1) h (w_X8_needDay (p2) h (w_X8_needMinute (p3) h (w_X4_altitudeAt 3 (p1) (p2) (p3) h (fun z1 => Q z1)) Qx) Qx) Qx
theorem t_X8_altitude {X : Cx} (p1 : Int32) (p2 : Int32) (p3 : Int32) (h : Hp) (Q : Int32 → Prop) (Qx : String → Hp → Prop) (hw : w_X8_altitude p1 p2 p3 h Q Qx) : G X M_X8_altitude E_X8_altitude (QM X E_X8_altitude (QIp h Q) Qx) 3 0 [(0, .ref (0)), (1, .int (p1)), (2, .int (p2)), (3, .int (p3))] [] h := by
  unfold w_X8_altitude at hw
  refine g_aload_n 0 (dk D_X8_altitude 0 rfl) rfl rfl ?_
  refine g_iload_n 1 (dk D_X8_altitude 1 rfl) rfl rfl ?_
  refine g_callV (As := [.int (p1)]) (kc := 2) (fr := 6) (lo := 82) (mc := 1) (My := M_X8_needBridge) (dk D_X8_altitude 2 rfl) kd_0 rfl rfl w_1051 w_1053 w_27 w_101 w_1054 okD_X8_needBridge (by decide) (Nat.le_of_ble_eq_true rfl) rfl (c_X8_needBridge (p1) (h) _ _ hw) kxT (kVp (fun hw => ?_))
  refine g_iload_n 2 (dk D_X8_altitude 3 rfl) rfl rfl ?_
  refine g_callS (As := [.int (p2)]) (kc := 1) (fr := 6) (lo := 82) (mc := 1) (My := M_X8_needDay) (dk D_X8_altitude 4 rfl) w_1039 w_1040 w_101 w_1041 okD_X8_needDay (by decide) (Nat.le_of_ble_eq_true rfl) rfl (c_X8_needDay (p2) (h) _ _ hw) kxT (kVp (fun hw => ?_))
  refine g_iload_n 3 (dk D_X8_altitude 5 rfl) rfl rfl ?_
  refine g_callS (As := [.int (p3)]) (kc := 0) (fr := 6) (lo := 82) (mc := 1) (My := M_X8_needMinute) (dk D_X8_altitude 6 rfl) w_1071 w_1072 w_101 w_1073 okD_X8_needMinute (by decide) (Nat.le_of_ble_eq_true rfl) rfl (c_X8_needMinute (p3) (h) _ _ hw) kxT (kVp (fun hw => ?_))
  refine g_aload_n 0 (dk D_X8_altitude 7 rfl) rfl rfl ?_
  refine g_getR 1 (t := 3) (dk D_X8_altitude 8 rfl) kd_0 rfl rfl (by decide) w_435 rfl rfl rfl ?_
  refine g_iload_n 1 (dk D_X8_altitude 9 rfl) rfl rfl ?_
  refine g_iload_n 2 (dk D_X8_altitude 10 rfl) rfl rfl ?_
  refine g_iload_n 3 (dk D_X8_altitude 11 rfl) rfl rfl ?_
  refine g_callV (As := [.int (p1), .int (p2), .int (p3)]) (kc := 0) (fr := 1) (lo := 30) (mc := 0) (My := M_X4_altitudeAt) (dk D_X8_altitude 12 rfl) roadP_3.1 rfl rfl w_1075 w_576 w_577 w_103 w_578 okD_X4_altitudeAt (by decide) (Nat.le_of_ble_eq_true rfl) rfl (c_X4_altitudeAt 3 (p1) (p2) (p3) (roadP_3) (h) _ hw) kxN (kIp (fun z1 hw => ?_))
  exact g_iret (dk D_X8_altitude 13 rfl) rfl ⟨_, rfl, rfl, hw⟩
theorem c_X8_altitude {X : Cx} (p1 : Int32) (p2 : Int32) (p3 : Int32) (h : Hp) (Q : Int32 → Prop) (Qx : String → Hp → Prop) (hw : w_X8_altitude p1 p2 p3 h Q Qx) : Con X yX8_altitude M_X8_altitude 7 111 3 [.ref (0), .int (p1), .int (p2), .int (p3)] h (QIp h Q) Qx :=
  con_of (by decide +kernel) rfl (Nat.le_of_ble_eq_true rfl) (t_X8_altitude p1 p2 p3 h Q Qx hw)
/-! ShadowTolls.shadow(IIII)I -/
abbrev M_X8_shadow : Mi := (RX8, cX8_shadow, 5, (some .int))
abbrev E_X8_shadow : Rm := (7, 112, 4, 24)
def rows_X8_shadow : List (Nat × Instr × Nat) := [(0, .aload_n 0, 1), (1, .iload_n 1, 1), (2, .invokevirtual 196, 3), (5, .iload_n 2, 1), (6, .invokestatic 183, 3), (9, .iload_n 3, 1), (10, .invokestatic 199, 3), (13, .iload 4, 2), (15, .iconst 1, 1), (16, .sipush 999, 3), (19, .invokestatic 106, 3), (22, .iload 4, 2), (24, .aload_n 0, 1), (25, .getfield 19, 3), (28, .iload_n 1, 1), (29, .iload_n 2, 1), (30, .iload_n 3, 1), (31, .invokevirtual 202, 3), (34, .invokestatic 206, 3), (37, .ireturn, 1)]
theorem D_X8_shadow : dkA cX8_shadow rows_X8_shadow := by
  unfold dkA
  decide +kernel
theorem okD_X8_shadow : okD yX8_shadow 4 := by
  unfold okD
  decide +kernel
def w_X8_shadow (p1 : Int32) (p2 : Int32) (p3 : Int32) (p4 : Int32) (h : Hp) (Q : Int32 → Prop) (Qx : String → Hp → Prop) : Prop :=
  w_X8_needBridge (p1) h (w_X8_needDay (p2) h (w_X8_needMinute (p3) h (w_X8_needBetween (p4) ((1 : Int32)) ((999 : Int32)) h (w_X4_altitudeAt 3 (p1) (p2) (p3) h (fun z1 => w_X8_shadowOf (p4) (z1) h (fun z2 => Q z2))) Qx) Qx) Qx) Qx
theorem t_X8_shadow {X : Cx} (p1 : Int32) (p2 : Int32) (p3 : Int32) (p4 : Int32) (h : Hp) (Q : Int32 → Prop) (Qx : String → Hp → Prop) (hw : w_X8_shadow p1 p2 p3 p4 h Q Qx) : G X M_X8_shadow E_X8_shadow (QM X E_X8_shadow (QIp h Q) Qx) 4 0 [(0, .ref (0)), (1, .int (p1)), (2, .int (p2)), (3, .int (p3)), (4, .int (p4))] [] h := by
  unfold w_X8_shadow at hw
  refine g_aload_n 0 (dk D_X8_shadow 0 rfl) rfl rfl ?_
  refine g_iload_n 1 (dk D_X8_shadow 1 rfl) rfl rfl ?_
  refine g_callV (As := [.int (p1)]) (kc := 3) (fr := 6) (lo := 82) (mc := 1) (My := M_X8_needBridge) (dk D_X8_shadow 2 rfl) kd_0 rfl rfl w_1051 w_1053 w_27 w_101 w_1054 okD_X8_needBridge (by decide) (Nat.le_of_ble_eq_true rfl) rfl (c_X8_needBridge (p1) (h) _ _ hw) kxT (kVp (fun hw => ?_))
  refine g_iload_n 2 (dk D_X8_shadow 3 rfl) rfl rfl ?_
  refine g_callS (As := [.int (p2)]) (kc := 2) (fr := 6) (lo := 82) (mc := 1) (My := M_X8_needDay) (dk D_X8_shadow 4 rfl) w_1039 w_1040 w_101 w_1041 okD_X8_needDay (by decide) (Nat.le_of_ble_eq_true rfl) rfl (c_X8_needDay (p2) (h) _ _ hw) kxT (kVp (fun hw => ?_))
  refine g_iload_n 3 (dk D_X8_shadow 5 rfl) rfl rfl ?_
  refine g_callS (As := [.int (p3)]) (kc := 1) (fr := 6) (lo := 82) (mc := 1) (My := M_X8_needMinute) (dk D_X8_shadow 6 rfl) w_1071 w_1072 w_101 w_1073 okD_X8_needMinute (by decide) (Nat.le_of_ble_eq_true rfl) rfl (c_X8_needMinute (p3) (h) _ _ hw) kxT (kVp (fun hw => ?_))
  refine g_iload 4 (dk D_X8_shadow 7 rfl) rfl ?_
  refine g_iconst (dk D_X8_shadow 8 rfl) ki_1 ?_
  refine g_sipush (dk D_X8_shadow 9 rfl) ks_999 ?_
  refine g_callS (As := [.int (p4), .int ((1 : Int32)), .int ((999 : Int32))]) (kc := 0) (fr := 6) (lo := 82) (mc := 1) (My := M_X8_needBetween) (dk D_X8_shadow 10 rfl) w_703 w_704 w_101 w_705 okD_X8_needBetween (by decide) (Nat.le_of_ble_eq_true rfl) rfl (c_X8_needBetween (p4) ((1 : Int32)) ((999 : Int32)) (h) _ _ hw) kxT (kVp (fun hw => ?_))
  refine g_iload 4 (dk D_X8_shadow 11 rfl) rfl ?_
  refine g_aload_n 0 (dk D_X8_shadow 12 rfl) rfl rfl ?_
  refine g_getR 1 (t := 3) (dk D_X8_shadow 13 rfl) kd_0 rfl rfl (by decide) w_435 rfl rfl rfl ?_
  refine g_iload_n 1 (dk D_X8_shadow 14 rfl) rfl rfl ?_
  refine g_iload_n 2 (dk D_X8_shadow 15 rfl) rfl rfl ?_
  refine g_iload_n 3 (dk D_X8_shadow 16 rfl) rfl rfl ?_
  refine g_callV (As := [.int (p1), .int (p2), .int (p3)]) (kc := 0) (fr := 1) (lo := 30) (mc := 0) (My := M_X4_altitudeAt) (dk D_X8_shadow 17 rfl) roadP_3.1 rfl rfl w_1075 w_576 w_577 w_103 w_578 okD_X4_altitudeAt (by decide) (Nat.le_of_ble_eq_true rfl) rfl (c_X4_altitudeAt 3 (p1) (p2) (p3) (roadP_3) (h) _ hw) kxN (kIp (fun z1 hw => ?_))
  refine g_callS (As := [.int (p4), .int (z1)]) (kc := 0) (fr := 1) (lo := 30) (mc := 0) (My := M_X8_shadowOf) (dk D_X8_shadow 18 rfl) w_1083 w_588 w_101 w_589 okD_X8_shadowOf (by decide) (Nat.le_of_ble_eq_true rfl) rfl (c_X8_shadowOf (p4) (z1) (h) _ hw) kxN (kIp (fun z2 hw => ?_))
  exact g_iret (dk D_X8_shadow 19 rfl) rfl ⟨_, rfl, rfl, hw⟩
theorem c_X8_shadow {X : Cx} (p1 : Int32) (p2 : Int32) (p3 : Int32) (p4 : Int32) (h : Hp) (Q : Int32 → Prop) (Qx : String → Hp → Prop) (hw : w_X8_shadow p1 p2 p3 p4 h Q Qx) : Con X yX8_shadow M_X8_shadow 7 112 4 [.ref (0), .int (p1), .int (p2), .int (p3), .int (p4)] h (QIp h Q) Qx :=
  con_of (by decide +kernel) rfl (Nat.le_of_ble_eq_true rfl) (t_X8_shadow p1 p2 p3 p4 h Q Qx hw)
/-! ShadowTolls.law(II)I -/
abbrev M_X8_law : Mi := (RX8, cX8_law, 4, (some .int))
abbrev E_X8_law : Rm := (7, 112, 2, 12)
def rows_X8_law : List (Nat × Instr × Nat) := [(0, .aload_n 0, 1), (1, .iload_n 1, 1), (2, .invokevirtual 196, 3), (5, .iload_n 2, 1), (6, .iconst 0, 1), (7, .aload_n 0, 1), (8, .getfield 132, 3), (11, .iconst 1, 1), (12, .isub, 1), (13, .invokestatic 106, 3), (16, .aload_n 0, 1), (17, .getfield 82, 3), (20, .getfield 209, 3), (23, .iload_n 1, 1), (24, .invokestatic 189, 3), (27, .istore_n 3, 1), (28, .aload_n 0, 1), (29, .getfield 82, 3), (32, .getfield 209, 3), (35, .iload_n 1, 1), (36, .iload_n 2, 1), (37, .invokestatic 212, 3), (40, .iload_n 3, 1), (41, .ireturn, 1)]
theorem D_X8_law : dkA cX8_law rows_X8_law := by
  unfold dkA
  decide +kernel
theorem okD_X8_law : okD yX8_law 2 := by
  unfold okD
  decide +kernel
def w_X8_law (p1 : Int32) (p2 : Int32) (h : Hp) (Q : Int32 → Hp → Prop) (Qx : String → Hp → Prop) : Prop :=
  w_X8_needBridge (p1) h (w_X8_needBetween (p2) ((0 : Int32)) (((h 0 14) - (1 : Int32))) h (w_X8_at 63 2 (p1) h (fun z1 => w_X8_put 63 2 (p1) (p2) h (fun h2 => Q z1 h2))) Qx) Qx
theorem t_X8_law {X : Cx} (p1 : Int32) (p2 : Int32) (h : Hp) (Q : Int32 → Hp → Prop) (Qx : String → Hp → Prop) (hw : w_X8_law p1 p2 h Q Qx) : G X M_X8_law E_X8_law (QM X E_X8_law (QI Q) Qx) 2 0 [(0, .ref (0)), (1, .int (p1)), (2, .int (p2))] [] h := by
  unfold w_X8_law at hw
  refine g_aload_n 0 (dk D_X8_law 0 rfl) rfl rfl ?_
  refine g_iload_n 1 (dk D_X8_law 1 rfl) rfl rfl ?_
  refine g_callV (As := [.int (p1)]) (kc := 1) (fr := 6) (lo := 82) (mc := 1) (My := M_X8_needBridge) (dk D_X8_law 2 rfl) kd_0 rfl rfl w_1051 w_1053 w_27 w_101 w_1054 okD_X8_needBridge (by decide) (Nat.le_of_ble_eq_true rfl) rfl (c_X8_needBridge (p1) (h) _ _ hw) kxT (kVp (fun hw => ?_))
  refine g_iload_n 2 (dk D_X8_law 3 rfl) rfl rfl ?_
  refine g_iconst (dk D_X8_law 4 rfl) ki_0 ?_
  refine g_aload_n 0 (dk D_X8_law 5 rfl) rfl rfl ?_
  refine g_getI 14 (dk D_X8_law 6 rfl) kd_0 rfl rfl (by decide) w_448 rfl rfl ?_
  refine g_iconst (dk D_X8_law 7 rfl) ki_1 ?_
  refine g_isub (dk D_X8_law 8 rfl) ?_
  refine g_callS (As := [.int (p2), .int ((0 : Int32)), .int (((h 0 14) - (1 : Int32)))]) (kc := 0) (fr := 6) (lo := 82) (mc := 1) (My := M_X8_needBetween) (dk D_X8_law 9 rfl) w_703 w_704 w_101 w_705 okD_X8_needBetween (by decide) (Nat.le_of_ble_eq_true rfl) rfl (c_X8_needBetween (p2) ((0 : Int32)) (((h 0 14) - (1 : Int32))) (h) _ _ hw) kxT (kVp (fun hw => ?_))
  refine g_aload_n 0 (dk D_X8_law 10 rfl) rfl rfl ?_
  refine g_getR 11 (t := 62) (dk D_X8_law 11 rfl) kd_0 rfl rfl (by decide) w_445 rfl rfl rfl ?_
  refine g_getNR 0 (t := 63) (dk D_X8_law 12 rfl) recP_62.1 rfl rfl (by decide) w_402 rfl rfl rfl ?_
  refine g_iload_n 1 (dk D_X8_law 13 rfl) rfl rfl ?_
  refine g_callS (As := [.ref (63), .int (p1)]) (kc := 0) (fr := 0) (lo := 0) (mc := 0) (My := M_X8_at) (dk D_X8_law 14 rfl) w_517 w_518 w_101 w_519 okD_X8_at (by decide) (Nat.le_of_ble_eq_true rfl) rfl (c_X8_at 63 2 (p1) (kd_63) (h) _ hw) kxN (kIp (fun z1 hw => ?_))
  refine g_istore_n (dk D_X8_law 15 rfl) rfl (by decide) rfl ?_
  refine g_aload_n 1 (dk D_X8_law 16 rfl) rfl rfl ?_
  refine g_getR 11 (t := 62) (dk D_X8_law 17 rfl) kd_0 rfl rfl (by decide) w_445 rfl rfl rfl ?_
  refine g_getNR 0 (t := 63) (dk D_X8_law 18 rfl) recP_62.1 rfl rfl (by decide) w_402 rfl rfl rfl ?_
  refine g_iload_n 2 (dk D_X8_law 19 rfl) rfl rfl ?_
  refine g_iload_n 3 (dk D_X8_law 20 rfl) rfl rfl ?_
  refine g_callS (As := [.ref (63), .int (p1), .int (p2)]) (kc := 0) (fr := 0) (lo := 0) (mc := 0) (My := M_X8_put) (dk D_X8_law 21 rfl) w_1091 w_496 w_101 w_497 okD_X8_put (by decide) (Nat.le_of_ble_eq_true rfl) rfl (c_X8_put 63 2 (p1) (p2) (kd_63) (h) _ hw) kxN (kV (fun h2 hw => ?_))
  refine g_iload_n 0 (dk D_X8_law 22 rfl) rfl rfl ?_
  exact g_iret (dk D_X8_law 23 rfl) rfl ⟨_, rfl, hw⟩
theorem c_X8_law {X : Cx} (p1 : Int32) (p2 : Int32) (h : Hp) (Q : Int32 → Hp → Prop) (Qx : String → Hp → Prop) (hw : w_X8_law p1 p2 h Q Qx) : Con X yX8_law M_X8_law 7 112 2 [.ref (0), .int (p1), .int (p2)] h (QI Q) Qx :=
  con_of (by decide +kernel) rfl (Nat.le_of_ble_eq_true rfl) (t_X8_law p1 p2 h Q Qx hw)
/-! ShadowTolls.lawAt(I)LShadowTolls$Law; -/
abbrev M_X8_lawAt : Mi := (RX8, cX8_lawAt, 3, (some (.object "ShadowTolls$Law")))
abbrev E_X8_lawAt : Rm := (0, 0, 0, 0)
def rows_X8_lawAt : List (Nat × Instr × Nat) := [(0, .iload_n 1, 1), (1, .ifCond .lt 20, 3), (4, .iload_n 1, 1), (5, .aload_n 0, 1), (6, .getfield 132, 3), (9, .if_icmp .ge 12, 3), (12, .iload_n 1, 1), (13, .aload_n 0, 1), (14, .getfield 28, 3), (17, .arraylength, 1), (18, .if_icmp .lt 8, 3), (21, .aload_n 0, 1), (22, .getfield 37, 3), (25, .areturn, 1), (26, .aload_n 0, 1), (27, .getfield 28, 3), (30, .iload_n 1, 1), (31, .aaload, 1), (32, .astore_n 2, 1), (33, .aload_n 2, 1), (34, .ifnonnull 10, 3), (37, .aload_n 0, 1), (38, .getfield 37, 3), (41, .goto 4, 3), (44, .aload_n 2, 1), (45, .areturn, 1)]
theorem D_X8_lawAt : dkA cX8_lawAt rows_X8_lawAt := by
  unfold dkA
  decide +kernel
theorem okD_X8_lawAt : okD yX8_lawAt 1 := by
  unfold okD
  decide +kernel
def w_X8_lawAt (p1 : Int32) (h : Hp) (Q : Nat → Prop) : Prop :=
  wif (p1 < 0) (Q 34) (wif ((h 0 14) ≤ p1) (Q 34) (wif (p1 < (4 : Int32)) ((vp_in p1 4 ∧ Q (14 + 4 * Int32.toNatClampNeg (p1)))) (Q 34)))
theorem t_X8_lawAt {X : Cx} (p1 : Int32) (h : Hp) (Q : Nat → Prop) (hw : w_X8_lawAt p1 h Q) : G X M_X8_lawAt E_X8_lawAt (QM X E_X8_lawAt (QLaw h Q) Qn) 0 0 [(0, .ref (0)), (1, .int (p1))] [] h := by
  unfold w_X8_lawAt at hw
  refine g_iload_n 1 (dk D_X8_lawAt 0 rfl) rfl rfl ?_
  refine g_if_lt (dk D_X8_lawAt 1 rfl) rfl (wif_m hw (fun hw => ?_) (fun hw => ?_))
  · refine g_aload_n 0 (dk D_X8_lawAt 11 rfl) rfl rfl ?_
    refine g_getR 5 (t := 34) (dk D_X8_lawAt 12 rfl) kd_0 rfl rfl (by decide) w_439 rfl rfl rfl ?_
    exact g_aret (dk D_X8_lawAt 13 rfl) rfl (Or.inr ⟨_, rfl⟩) ⟨_, rfl, lawP_34, rfl, hw⟩
  · refine g_iload_n 1 (dk D_X8_lawAt 2 rfl) rfl rfl ?_
    refine g_aload_n 0 (dk D_X8_lawAt 3 rfl) rfl rfl ?_
    refine g_getI 14 (dk D_X8_lawAt 4 rfl) kd_0 rfl rfl (by decide) w_448 rfl rfl ?_
    refine g_icmp_ge (dk D_X8_lawAt 5 rfl) rfl (wif_m hw (fun hw => ?_) (fun hw => ?_))
    · refine g_aload_n 0 (dk D_X8_lawAt 11 rfl) rfl rfl ?_
      refine g_getR 5 (t := 34) (dk D_X8_lawAt 12 rfl) kd_0 rfl rfl (by decide) w_439 rfl rfl rfl ?_
      exact g_aret (dk D_X8_lawAt 13 rfl) rfl (Or.inr ⟨_, rfl⟩) ⟨_, rfl, lawP_34, rfl, hw⟩
    · refine g_iload_n 1 (dk D_X8_lawAt 6 rfl) rfl rfl ?_
      refine g_aload_n 0 (dk D_X8_lawAt 7 rfl) rfl rfl ?_
      refine g_getR 3 (t := 13) (dk D_X8_lawAt 8 rfl) kd_0 rfl rfl (by decide) w_437 rfl rfl rfl ?_
      refine g_alenR (dk D_X8_lawAt 9 rfl) kd_13 rfl ka_4 ?_
      refine g_icmp_lt (dk D_X8_lawAt 10 rfl) rfl (wif_m hw (fun hw => ?_) (fun hw => ?_))
      · refine g_aload_n 0 (dk D_X8_lawAt 14 rfl) rfl rfl ?_
        refine g_getR 3 (t := 13) (dk D_X8_lawAt 15 rfl) kd_0 rfl rfl (by decide) w_437 rfl rfl rfl ?_
        refine g_iload_n 1 (dk D_X8_lawAt 16 rfl) rfl rfl ?_
        obtain ⟨hi1, hw⟩ := hw
        refine g_aald (dk D_X8_lawAt 17 rfl) kd_13 rfl rfl hi1 ?_
        refine g_astore_n (dk D_X8_lawAt 18 rfl) rfl (by decide) rfl ?_
        refine g_aload_n 0 (dk D_X8_lawAt 19 rfl) rfl rfl ?_
        refine g_ifnonnull (dk D_X8_lawAt 20 rfl) rfl ?_
        refine g_aload_n 0 (dk D_X8_lawAt 24 rfl) rfl rfl ?_
        exact g_aret (dk D_X8_lawAt 25 rfl) rfl (Or.inr ⟨_, rfl⟩) ⟨_, rfl, (lawP_i hi1), rfl, hw⟩
      · refine g_aload_n 0 (dk D_X8_lawAt 11 rfl) rfl rfl ?_
        refine g_getR 5 (t := 34) (dk D_X8_lawAt 12 rfl) kd_0 rfl rfl (by decide) w_439 rfl rfl rfl ?_
        exact g_aret (dk D_X8_lawAt 13 rfl) rfl (Or.inr ⟨_, rfl⟩) ⟨_, rfl, lawP_34, rfl, hw⟩
theorem c_X8_lawAt {X : Cx} (p1 : Int32) (h : Hp) (Q : Nat → Prop) (hw : w_X8_lawAt p1 h Q) : Con X yX8_lawAt M_X8_lawAt 0 0 0 [.ref (0), .int (p1)] h (QLaw h Q) Qn :=
  con_of (by decide +kernel) rfl (Nat.le_of_ble_eq_true rfl) (t_X8_lawAt p1 h Q hw)
/-! ShadowTolls.lawOf(I)LShadowTolls$Law; -/
abbrev M_X8_lawOf : Mi := (RX8, cX8_lawOf, 2, (some (.object "ShadowTolls$Law")))
abbrev E_X8_lawOf : Rm := (1, 30, 0, 0)
def rows_X8_lawOf : List (Nat × Instr × Nat) := [(0, .aload_n 0, 1), (1, .aload_n 0, 1), (2, .getfield 82, 3), (5, .getfield 209, 3), (8, .iload_n 1, 1), (9, .invokestatic 189, 3), (12, .invokevirtual 309, 3), (15, .areturn, 1)]
theorem D_X8_lawOf : dkA cX8_lawOf rows_X8_lawOf := by
  unfold dkA
  decide +kernel
theorem okD_X8_lawOf : okD yX8_lawOf 1 := by
  unfold okD
  decide +kernel
def w_X8_lawOf (p1 : Int32) (h : Hp) (Q : Nat → Prop) : Prop :=
  w_X8_at 63 2 (p1) h (fun z1 => w_X8_lawAt (z1) h (fun q2 => Q q2))
theorem t_X8_lawOf {X : Cx} (p1 : Int32) (h : Hp) (Q : Nat → Prop) (hw : w_X8_lawOf p1 h Q) : G X M_X8_lawOf E_X8_lawOf (QM X E_X8_lawOf (QLaw h Q) Qn) 0 0 [(0, .ref (0)), (1, .int (p1))] [] h := by
  unfold w_X8_lawOf at hw
  refine g_aload_n 0 (dk D_X8_lawOf 0 rfl) rfl rfl ?_
  refine g_aload_n 0 (dk D_X8_lawOf 1 rfl) rfl rfl ?_
  refine g_getR 11 (t := 62) (dk D_X8_lawOf 2 rfl) kd_0 rfl rfl (by decide) w_445 rfl rfl rfl ?_
  refine g_getNR 0 (t := 63) (dk D_X8_lawOf 3 rfl) recP_62.1 rfl rfl (by decide) w_402 rfl rfl rfl ?_
  refine g_iload_n 1 (dk D_X8_lawOf 4 rfl) rfl rfl ?_
  refine g_callS (As := [.ref (63), .int (p1)]) (kc := 0) (fr := 0) (lo := 0) (mc := 0) (My := M_X8_at) (dk D_X8_lawOf 5 rfl) w_517 w_518 w_101 w_519 okD_X8_at (by decide) (Nat.le_of_ble_eq_true rfl) rfl (c_X8_at 63 2 (p1) (kd_63) (h) _ hw) kxN (kIp (fun z1 hw => ?_))
  refine g_callV (As := [.int (z1)]) (kc := 0) (fr := 0) (lo := 0) (mc := 0) (My := M_X8_lawAt) (dk D_X8_lawOf 6 rfl) kd_0 rfl rfl w_555 w_557 w_5 w_101 w_558 okD_X8_lawAt (by decide) (Nat.le_of_ble_eq_true rfl) rfl (c_X8_lawAt (z1) (h) _ hw) kxN (kLaw (fun q2 hq2 hw => ?_))
  exact g_aret (dk D_X8_lawOf 7 rfl) rfl (Or.inr ⟨_, rfl⟩) ⟨_, rfl, hq2, rfl, hw⟩
theorem c_X8_lawOf {X : Cx} (p1 : Int32) (h : Hp) (Q : Nat → Prop) (hw : w_X8_lawOf p1 h Q) : Con X yX8_lawOf M_X8_lawOf 1 30 0 [.ref (0), .int (p1)] h (QLaw h Q) Qn :=
  con_of (by decide +kernel) rfl (Nat.le_of_ble_eq_true rfl) (t_X8_lawOf p1 h Q hw)
