/-! ShadowTollsModel.sign(I)V -/
abbrev M_X9_sign : Mi := (RX9, cX9_sign, 2, none)
abbrev E_X9_sign : Rm := (2, 57, 0, 0)
def rows_X9_sign : List (Nat × Instr × Nat) := [(0, .aload_n 0, 1), (1, .getfield 127, 3), (4, .ifCond .eq 4, 3), (7, .return_, 1), (8, .aload_n 0, 1), (9, .invokevirtual 133, 3), (12, .aload_n 0, 1), (13, .aload_n 0, 1), (14, .getfield 120, 3), (17, .invokevirtual 123, 3), (20, .iload_n 1, 1), (21, .if_icmp .ne 16, 3), (24, .aload_n 0, 1), (25, .dup, 1), (26, .getfield 120, 3), (29, .iconst 1, 1), (30, .iadd, 1), (31, .putfield 120, 3), (34, .goto 12, 3), (37, .aload_n 0, 1), (38, .iconst 1, 1), (39, .aload_n 0, 1), (40, .getfield 120, 3), (43, .invokevirtual 140, 3), (46, .return_, 1)]
theorem D_X9_sign : dkA cX9_sign rows_X9_sign := by
  unfold dkA
  decide +kernel
theorem okD_X9_sign : okD yX9_sign 1 := by
  unfold okD
  decide +kernel
def w_X9_sign (p1 : Int32) (h : Hp) (Q : Hp → Prop) : Prop :=
  wif ((h 92 5) = 0) (w_X9_blanks  h (fun h1 => w_X9_byteAt ((h1 92 4)) h1 (fun z2 => wif (¬ z2 = p1) (w_X9_wrong ((1 : Int32)) ((h1 92 4)) h1 (fun h3 => Q h3)) (wlet (hup h1 92 4 ((h1 92 4) + (1 : Int32))) (fun h4 => Q h4))))) (Q h)
theorem t_X9_sign {X : Cx} (p1 : Int32) (h : Hp) (Q : Hp → Prop) (hw : w_X9_sign p1 h Q) : G X M_X9_sign E_X9_sign (QM X E_X9_sign (QV Q) Qn) 0 0 [(0, .ref (92)), (1, .int (p1))] [] h := by
  unfold w_X9_sign at hw
  refine g_aload_n 0 (dk D_X9_sign 0 rfl) rfl rfl ?_
  refine g_getI 5 (dk D_X9_sign 1 rfl) kd_92 rfl rfl (by decide) w_1362 rfl rfl ?_
  refine g_if_eq (dk D_X9_sign 2 rfl) rfl (wif_m hw (fun hw => ?_) (fun hw => ?_))
  · refine g_aload_n 0 (dk D_X9_sign 4 rfl) rfl rfl ?_
    refine g_callV (As := []) (kc := 0) (fr := 1) (lo := 29) (mc := 0) (My := M_X9_blanks) (dk D_X9_sign 5 rfl) kd_92 rfl rfl w_1538 w_1540 w_44 w_110 w_1541 okD_X9_blanks (by decide) (Nat.le_of_ble_eq_true rfl) rfl (c_X9_blanks (h) _ hw) kxN (kV (fun h1 hw => ?_))
    refine g_aload_n 0 (dk D_X9_sign 6 rfl) rfl rfl ?_
    refine g_aload_n 0 (dk D_X9_sign 7 rfl) rfl rfl ?_
    refine g_getI 4 (dk D_X9_sign 8 rfl) kd_92 rfl rfl (by decide) w_1361 rfl rfl ?_
    refine g_callV (As := [.int ((h1 92 4))]) (kc := 0) (fr := 0) (lo := 0) (mc := 0) (My := M_X9_byteAt) (dk D_X9_sign 9 rfl) kd_92 rfl rfl w_1542 w_1544 w_45 w_110 w_1545 okD_X9_byteAt (by decide) (Nat.le_of_ble_eq_true rfl) rfl (c_X9_byteAt ((h1 92 4)) (h1) _ hw) kxN (kIp (fun z2 hw => ?_))
    refine g_iload_n 1 (dk D_X9_sign 10 rfl) rfl rfl ?_
    refine g_icmp_ne (dk D_X9_sign 11 rfl) rfl (wif_m hw (fun hw => ?_) (fun hw => ?_))
    · refine g_aload_n 0 (dk D_X9_sign 19 rfl) rfl rfl ?_
      refine g_iconst (dk D_X9_sign 20 rfl) ki_1 ?_
      refine g_aload_n 0 (dk D_X9_sign 21 rfl) rfl rfl ?_
      refine g_getI 4 (dk D_X9_sign 22 rfl) kd_92 rfl rfl (by decide) w_1361 rfl rfl ?_
      refine g_callV (As := [.int ((1 : Int32)), .int ((h1 92 4))]) (kc := 0) (fr := 0) (lo := 0) (mc := 0) (My := M_X9_wrong) (dk D_X9_sign 23 rfl) kd_92 rfl rfl w_1572 w_1574 w_50 w_110 w_1575 okD_X9_wrong (by decide) (Nat.le_of_ble_eq_true rfl) rfl (c_X9_wrong ((1 : Int32)) ((h1 92 4)) (h1) _ hw) kxN (kV (fun h3 hw => ?_))
      exact g_vret (dk D_X9_sign 24 rfl) rfl ⟨rfl, hw⟩
    · refine g_aload_n 0 (dk D_X9_sign 12 rfl) rfl rfl ?_
      refine g_dup (dk D_X9_sign 13 rfl) rfl ?_
      refine g_getI 4 (dk D_X9_sign 14 rfl) kd_92 rfl rfl (by decide) w_1361 rfl rfl ?_
      refine g_iconst (dk D_X9_sign 15 rfl) ki_1 ?_
      refine g_iadd (dk D_X9_sign 16 rfl) ?_
      refine g_put 4 (dk D_X9_sign 17 rfl) kd_92 rfl rfl (by decide) w_1361 rfl tyX9_ok nmX9 rfl (by decide) rfl (fun z => absurd z (by decide)) ?_
      refine g_heap (fun h4 eh4 => ?_)
      replace hw := hw _ eh4
      refine g_goto (dk D_X9_sign 18 rfl) rfl ?_
      exact g_vret (dk D_X9_sign 24 rfl) rfl ⟨rfl, hw⟩
  · exact g_vret (dk D_X9_sign 3 rfl) rfl ⟨rfl, hw⟩
theorem c_X9_sign {X : Cx} (p1 : Int32) (h : Hp) (Q : Hp → Prop) (hw : w_X9_sign p1 h Q) : Con X yX9_sign M_X9_sign 2 57 0 [.ref (92), .int (p1)] h (QV Q) Qn :=
  con_of (by decide +kernel) rfl (Nat.le_of_ble_eq_true rfl) (t_X9_sign p1 h Q hw)
/-! ShadowTollsModel.opens(I)V -/
abbrev M_X9_opens : Mi := (RX9, cX9_opens, 2, none)
abbrev E_X9_opens : Rm := (1, 30, 0, 0)
def rows_X9_opens : List (Nat × Instr × Nat) := [(0, .aload_n 0, 1), (1, .getfield 166, 3), (4, .bipush 6, 2), (6, .if_icmp .ne 12, 3), (9, .aload_n 0, 1), (10, .iconst 3, 1), (11, .aload_n 0, 1), (12, .getfield 120, 3), (15, .invokevirtual 140, 3), (18, .aload_n 0, 1), (19, .dup, 1), (20, .getfield 166, 3), (23, .iconst 1, 1), (24, .iadd, 1), (25, .putfield 166, 3), (28, .aload_n 0, 1), (29, .dup, 1), (30, .getfield 120, 3), (33, .iload_n 1, 1), (34, .iadd, 1), (35, .putfield 120, 3), (38, .return_, 1)]
theorem D_X9_opens : dkA cX9_opens rows_X9_opens := by
  unfold dkA
  decide +kernel
theorem okD_X9_opens : okD yX9_opens 1 := by
  unfold okD
  decide +kernel
def w_X9_opens_b18 (p1 : Int32) (h : Hp) (Q : Hp → Prop) : Prop :=
  wlet (hup h 92 8 ((h 92 8) + (1 : Int32))) (fun h1 => wlet (hup h1 92 4 ((h1 92 4) + p1)) (fun h2 => Q h2))
def w_X9_opens (p1 : Int32) (h : Hp) (Q : Hp → Prop) : Prop :=
  wif (¬ (h 92 8) = (6 : Int32)) (w_X9_opens_b18 p1 (h) Q) (w_X9_wrong ((3 : Int32)) ((h 92 4)) h (fun h1 => w_X9_opens_b18 p1 (h1) Q))
theorem t_X9_opens_b18 {X : Cx} (p1 : Int32) (h : Hp) (Q : Hp → Prop) (hw : w_X9_opens_b18 p1 h Q) : G X M_X9_opens E_X9_opens (QM X E_X9_opens (QV Q) Qn) 0 18 [(0, .ref (92)), (1, .int (p1))] [] h := by
  unfold w_X9_opens_b18 at hw
  refine g_aload_n 0 (dk D_X9_opens 9 rfl) rfl rfl ?_
  refine g_dup (dk D_X9_opens 10 rfl) rfl ?_
  refine g_getI 8 (dk D_X9_opens 11 rfl) kd_92 rfl rfl (by decide) w_1365 rfl rfl ?_
  refine g_iconst (dk D_X9_opens 12 rfl) ki_1 ?_
  refine g_iadd (dk D_X9_opens 13 rfl) ?_
  refine g_put 8 (dk D_X9_opens 14 rfl) kd_92 rfl rfl (by decide) w_1365 rfl tyX9_ok nmX9 rfl (by decide) rfl (fun z => absurd z (by decide)) ?_
  refine g_heap (fun h1 eh1 => ?_)
  replace hw := hw _ eh1
  refine g_aload_n 0 (dk D_X9_opens 15 rfl) rfl rfl ?_
  refine g_dup (dk D_X9_opens 16 rfl) rfl ?_
  refine g_getI 4 (dk D_X9_opens 17 rfl) kd_92 rfl rfl (by decide) w_1361 rfl rfl ?_
  refine g_iload_n 1 (dk D_X9_opens 18 rfl) rfl rfl ?_
  refine g_iadd (dk D_X9_opens 19 rfl) ?_
  refine g_put 4 (dk D_X9_opens 20 rfl) kd_92 rfl rfl (by decide) w_1361 rfl tyX9_ok nmX9 rfl (by decide) rfl (fun z => absurd z (by decide)) ?_
  refine g_heap (fun h2 eh2 => ?_)
  replace hw := hw _ eh2
  exact g_vret (dk D_X9_opens 21 rfl) rfl ⟨rfl, hw⟩
theorem t_X9_opens {X : Cx} (p1 : Int32) (h : Hp) (Q : Hp → Prop) (hw : w_X9_opens p1 h Q) : G X M_X9_opens E_X9_opens (QM X E_X9_opens (QV Q) Qn) 0 0 [(0, .ref (92)), (1, .int (p1))] [] h := by
  unfold w_X9_opens at hw
  refine g_aload_n 0 (dk D_X9_opens 0 rfl) rfl rfl ?_
  refine g_getI 8 (dk D_X9_opens 1 rfl) kd_92 rfl rfl (by decide) w_1365 rfl rfl ?_
  refine g_bipush (dk D_X9_opens 2 rfl) kb_6 ?_
  refine g_icmp_ne (dk D_X9_opens 3 rfl) rfl (wif_m hw (fun hw => ?_) (fun hw => ?_))
  · exact t_X9_opens_b18 p1 (h) Q hw
  · refine g_aload_n 0 (dk D_X9_opens 4 rfl) rfl rfl ?_
    refine g_iconst (dk D_X9_opens 5 rfl) ki_3 ?_
    refine g_aload_n 0 (dk D_X9_opens 6 rfl) rfl rfl ?_
    refine g_getI 4 (dk D_X9_opens 7 rfl) kd_92 rfl rfl (by decide) w_1361 rfl rfl ?_
    refine g_callV (As := [.int ((3 : Int32)), .int ((h 92 4))]) (kc := 0) (fr := 0) (lo := 0) (mc := 0) (My := M_X9_wrong) (dk D_X9_opens 8 rfl) kd_92 rfl rfl w_1572 w_1574 w_50 w_110 w_1575 okD_X9_wrong (by decide) (Nat.le_of_ble_eq_true rfl) rfl (c_X9_wrong ((3 : Int32)) ((h 92 4)) (h) _ hw) kxN (kV (fun h1 hw => ?_))
    exact t_X9_opens_b18 p1 (h1) Q hw
theorem c_X9_opens {X : Cx} (p1 : Int32) (h : Hp) (Q : Hp → Prop) (hw : w_X9_opens p1 h Q) : Con X yX9_opens M_X9_opens 1 30 0 [.ref (92), .int (p1)] h (QV Q) Qn :=
  con_of (by decide +kernel) rfl (Nat.le_of_ble_eq_true rfl) (t_X9_opens p1 h Q hw)
/-! ShadowTollsModel.starts(I)V -/
abbrev M_X9_starts : Mi := (RX9, cX9_starts, 2, none)
abbrev E_X9_starts : Rm := (0, 0, 0, 0)
def rows_X9_starts : List (Nat × Instr × Nat) := [(0, .aload_n 0, 1), (1, .iconst 0, 1), (2, .putfield 114, 3), (5, .aload_n 0, 1), (6, .iload_n 1, 1), (7, .putfield 117, 3), (10, .aload_n 0, 1), (11, .iconst 0, 1), (12, .putfield 120, 3), (15, .aload_n 0, 1), (16, .iconst 0, 1), (17, .putfield 127, 3), (20, .aload_n 0, 1), (21, .iconst (-1), 1), (22, .putfield 130, 3), (25, .aload_n 0, 1), (26, .iconst 0, 1), (27, .putfield 169, 3), (30, .aload_n 0, 1), (31, .iconst 0, 1), (32, .putfield 166, 3), (35, .return_, 1)]
theorem D_X9_starts : dkA cX9_starts rows_X9_starts := by
  unfold dkA
  decide +kernel
theorem okD_X9_starts : okD yX9_starts 1 := by
  unfold okD
  decide +kernel
def w_X9_starts (p1 : Int32) (h : Hp) (Q : Hp → Prop) : Prop :=
  wlet (hup h 92 1 (0 : Int32)) (fun h1 => wlet (hup h1 92 2 p1) (fun h2 => wlet (hup h2 92 4 (0 : Int32)) (fun h3 => wlet (hup h3 92 5 (0 : Int32)) (fun h4 => wlet (hup h4 92 6 (-1 : Int32)) (fun h5 => wlet (hup h5 92 7 (0 : Int32)) (fun h6 => wlet (hup h6 92 8 (0 : Int32)) (fun h7 => Q h7)))))))
theorem t_X9_starts {X : Cx} (p1 : Int32) (h : Hp) (Q : Hp → Prop) (hw : w_X9_starts p1 h Q) : G X M_X9_starts E_X9_starts (QM X E_X9_starts (QV Q) Qn) 0 0 [(0, .ref (92)), (1, .int (p1))] [] h := by
  unfold w_X9_starts at hw
  refine g_aload_n 0 (dk D_X9_starts 0 rfl) rfl rfl ?_
  refine g_iconst (dk D_X9_starts 1 rfl) ki_0 ?_
  refine g_put 1 (dk D_X9_starts 2 rfl) kd_92 rfl rfl (by decide) w_1358 rfl tyX9_ok nmX9 rfl (by decide) rfl (fun z => absurd z (by decide)) ?_
  refine g_heap (fun h1 eh1 => ?_)
  replace hw := hw _ eh1
  refine g_aload_n 0 (dk D_X9_starts 3 rfl) rfl rfl ?_
  refine g_iload_n 1 (dk D_X9_starts 4 rfl) rfl rfl ?_
  refine g_put 2 (dk D_X9_starts 5 rfl) kd_92 rfl rfl (by decide) w_1359 rfl tyX9_ok nmX9 rfl (by decide) rfl (fun z => absurd z (by decide)) ?_
  refine g_heap (fun h2 eh2 => ?_)
  replace hw := hw _ eh2
  refine g_aload_n 0 (dk D_X9_starts 6 rfl) rfl rfl ?_
  refine g_iconst (dk D_X9_starts 7 rfl) ki_0 ?_
  refine g_put 4 (dk D_X9_starts 8 rfl) kd_92 rfl rfl (by decide) w_1361 rfl tyX9_ok nmX9 rfl (by decide) rfl (fun z => absurd z (by decide)) ?_
  refine g_heap (fun h3 eh3 => ?_)
  replace hw := hw _ eh3
  refine g_aload_n 0 (dk D_X9_starts 9 rfl) rfl rfl ?_
  refine g_iconst (dk D_X9_starts 10 rfl) ki_0 ?_
  refine g_put 5 (dk D_X9_starts 11 rfl) kd_92 rfl rfl (by decide) w_1362 rfl tyX9_ok nmX9 rfl (by decide) rfl (fun z => absurd z (by decide)) ?_
  refine g_heap (fun h4 eh4 => ?_)
  replace hw := hw _ eh4
  refine g_aload_n 0 (dk D_X9_starts 12 rfl) rfl rfl ?_
  refine g_iconst (dk D_X9_starts 13 rfl) ki_m1 ?_
  refine g_put 6 (dk D_X9_starts 14 rfl) kd_92 rfl rfl (by decide) w_1363 rfl tyX9_ok nmX9 rfl (by decide) rfl (fun z => absurd z (by decide)) ?_
  refine g_heap (fun h5 eh5 => ?_)
  replace hw := hw _ eh5
  refine g_aload_n 0 (dk D_X9_starts 15 rfl) rfl rfl ?_
  refine g_iconst (dk D_X9_starts 16 rfl) ki_0 ?_
  refine g_put 7 (dk D_X9_starts 17 rfl) kd_92 rfl rfl (by decide) w_1364 rfl tyX9_ok nmX9 rfl (by decide) rfl (fun z => absurd z (by decide)) ?_
  refine g_heap (fun h6 eh6 => ?_)
  replace hw := hw _ eh6
  refine g_aload_n 0 (dk D_X9_starts 18 rfl) rfl rfl ?_
  refine g_iconst (dk D_X9_starts 19 rfl) ki_0 ?_
  refine g_put 8 (dk D_X9_starts 20 rfl) kd_92 rfl rfl (by decide) w_1365 rfl tyX9_ok nmX9 rfl (by decide) rfl (fun z => absurd z (by decide)) ?_
  refine g_heap (fun h7 eh7 => ?_)
  replace hw := hw _ eh7
  exact g_vret (dk D_X9_starts 21 rfl) rfl ⟨rfl, hw⟩
theorem c_X9_starts {X : Cx} (p1 : Int32) (h : Hp) (Q : Hp → Prop) (hw : w_X9_starts p1 h Q) : Con X yX9_starts M_X9_starts 0 0 0 [.ref (92), .int (p1)] h (QV Q) Qn :=
  con_of (by decide +kernel) rfl (Nat.le_of_ble_eq_true rfl) (t_X9_starts p1 h Q hw)
/-! ShadowTollsModel.kindHere()I -/
abbrev M_X9_kindHere : Mi := (RX9, cX9_kindHere, 1, (some .int))
abbrev E_X9_kindHere : Rm := (4, 118, 0, 0)
def rows_X9_kindHere : List (Nat × Instr × Nat) := [(0, .aload_n 0, 1), (1, .bipush 19, 2), (3, .bipush 21, 2), (5, .bipush 14, 2), (7, .iconst 0, 1), (8, .iconst 0, 1), (9, .invokestatic 172, 3), (12, .invokevirtual 159, 3), (15, .ifCond .eq 5, 3), (18, .iconst 0, 1), (19, .ireturn, 1), (20, .aload_n 0, 1), (21, .bipush 6, 2), (23, .iconst 1, 1), (24, .bipush 12, 2), (26, .bipush 12, 2), (28, .bipush 19, 2), (30, .invokestatic 172, 3), (33, .invokevirtual 159, 3), (36, .ifCond .eq 5, 3), (39, .iconst 1, 1), (40, .ireturn, 1), (41, .aload_n 0, 1), (42, .ldc2_w 149, 3), (45, .bipush 11, 2), (47, .iconst 5, 1), (48, .iconst 5, 1), (49, .bipush 16, 2), (51, .iconst 5, 1), (52, .invokestatic 172, 3), (55, .lmul, 1), (56, .ldc2_w 176, 3), (59, .ladd, 1), (60, .invokevirtual 159, 3), (63, .ifCond .eq 5, 3), (66, .iconst 2, 1), (67, .ireturn, 1), (68, .aload_n 0, 1), (69, .bipush 20, 2), (71, .iconst 1, 1), (72, .bipush 11, 2), (74, .iconst 5, 1), (75, .bipush 19, 2), (77, .invokestatic 172, 3), (80, .invokevirtual 159, 3), (83, .ifCond .eq 5, 3), (86, .iconst 3, 1), (87, .ireturn, 1), (88, .aload_n 0, 1), (89, .ldc2_w 149, 3), (92, .ldc2_w 149, 3), (95, .ldc2_w 149, 3), (98, .ldc2_w 149, 3), (101, .bipush 20, 2), (103, .bipush 18, 2), (105, .iconst 1, 1), (106, .bipush 22, 2), (108, .iconst 5, 1), (109, .invokestatic 172, 3), (112, .lmul, 1), (113, .ldc2_w 178, 3), (116, .ladd, 1), (117, .lmul, 1), (118, .ldc2_w 178, 3), (121, .ladd, 1), (122, .lmul, 1), (123, .ldc2_w 180, 3), (126, .ladd, 1), (127, .lmul, 1), (128, .ldc2_w 176, 3), (131, .ladd, 1), (132, .invokevirtual 159, 3), (135, .ifCond .eq 5, 3), (138, .iconst 4, 1), (139, .ireturn, 1), (140, .aload_n 0, 1), (141, .bipush 8, 2), (143, .iconst 1, 1), (144, .bipush 20, 2), (146, .iconst 0, 1), (147, .iconst 0, 1), (148, .invokestatic 172, 3), (151, .invokevirtual 159, 3), (154, .ifCond .eq 5, 3), (157, .iconst 5, 1), (158, .ireturn, 1), (159, .aload_n 0, 1), (160, .bipush 12, 2), (162, .bipush 9, 2), (164, .iconst 5, 1), (165, .bipush 19, 2), (167, .iconst 0, 1), (168, .invokestatic 172, 3), (171, .invokevirtual 159, 3), (174, .ifCond .eq 6, 3), (177, .bipush 6, 2), (179, .ireturn, 1), (180, .aload_n 0, 1), (181, .bipush 6, 2), (183, .iconst 5, 1), (184, .iconst 1, 1), (185, .bipush 19, 2), (187, .bipush 20, 2), (189, .invokestatic 172, 3), (192, .invokevirtual 159, 3), (195, .ifCond .eq 6, 3), (198, .bipush 7, 2), (200, .ireturn, 1), (201, .aload_n 0, 1), (202, .iconst 3, 1), (203, .bipush 12, 2), (205, .bipush 15, 2), (207, .bipush 21, 2), (209, .iconst 4, 1), (210, .invokestatic 172, 3), (213, .invokevirtual 159, 3), (216, .ifCond .eq 6, 3), (219, .bipush 8, 2), (221, .ireturn, 1), (222, .aload_n 0, 1), (223, .ldc2_w 149, 3), (226, .bipush 19, 2), (228, .iconst 5, 1), (229, .iconst 3, 1), (230, .bipush 15, 2), (232, .bipush 14, 2), (234, .invokestatic 172, 3), (237, .lmul, 1), (238, .ldc2_w 182, 3), (241, .ladd, 1), (242, .invokevirtual 159, 3), (245, .ifCond .eq 6, 3), (248, .bipush 9, 2), (250, .ireturn, 1), (251, .aload_n 0, 1), (252, .bipush 12, 2), (254, .iconst 1, 1), (255, .bipush 13, 2), (257, .bipush 16, 2), (259, .iconst 0, 1), (260, .invokestatic 172, 3), (263, .invokevirtual 159, 3), (266, .ifCond .eq 6, 3), (269, .bipush 10, 2), (271, .ireturn, 1), (272, .aload_n 0, 1), (273, .bipush 19, 2), (275, .bipush 8, 2), (277, .iconst 1, 1), (278, .iconst 4, 1), (279, .iconst 5, 1), (280, .invokestatic 172, 3), (283, .invokevirtual 159, 3), (286, .ifCond .eq 8, 3), (289, .bipush 11, 2), (291, .goto 4, 3), (294, .iconst (-1), 1), (295, .ireturn, 1)]
theorem D_X9_kindHere : dkA cX9_kindHere rows_X9_kindHere := by
  unfold dkA
  decide +kernel
theorem okD_X9_kindHere : okD yX9_kindHere 0 := by
  unfold okD
  decide +kernel
def w_X9_kindHere (h : Hp) (Q : Int32 → Hp → Prop) : Prop :=
  w_X9_five ((19 : Int32)) ((21 : Int32)) ((14 : Int32)) ((0 : Int32)) ((0 : Int32)) h (fun z1 => w_X9_isWord (z1) h (fun z2 h3 => wif (z2 = 0) (w_X9_five ((6 : Int32)) ((1 : Int32)) ((12 : Int32)) ((12 : Int32)) ((19 : Int32)) h3 (fun z4 => w_X9_isWord (z4) h3 (fun z5 h6 => wif (z5 = 0) (w_X9_five ((11 : Int32)) ((5 : Int32)) ((5 : Int32)) ((16 : Int32)) ((5 : Int32)) h6 (fun z7 => w_X9_isWord ((((27 : Int64) * z7) + (18 : Int64))) h6 (fun z8 h9 => wif (z8 = 0) (w_X9_five ((20 : Int32)) ((1 : Int32)) ((11 : Int32)) ((5 : Int32)) ((19 : Int32)) h9 (fun z10 => w_X9_isWord (z10) h9 (fun z11 h12 => wif (z11 = 0) (w_X9_five ((20 : Int32)) ((18 : Int32)) ((1 : Int32)) ((22 : Int32)) ((5 : Int32)) h12 (fun z13 => w_X9_isWord ((((27 : Int64) * (((27 : Int64) * (((27 : Int64) * (((27 : Int64) * z13) + (12 : Int64))) + (12 : Int64))) + (5 : Int64))) + (18 : Int64))) h12 (fun z14 h15 => wif (z14 = 0) (w_X9_five ((8 : Int32)) ((1 : Int32)) ((20 : Int32)) ((0 : Int32)) ((0 : Int32)) h15 (fun z16 => w_X9_isWord (z16) h15 (fun z17 h18 => wif (z17 = 0) (w_X9_five ((12 : Int32)) ((9 : Int32)) ((5 : Int32)) ((19 : Int32)) ((0 : Int32)) h18 (fun z19 => w_X9_isWord (z19) h18 (fun z20 h21 => wif (z20 = 0) (w_X9_five ((6 : Int32)) ((5 : Int32)) ((1 : Int32)) ((19 : Int32)) ((20 : Int32)) h21 (fun z22 => w_X9_isWord (z22) h21 (fun z23 h24 => wif (z23 = 0) (w_X9_five ((3 : Int32)) ((12 : Int32)) ((15 : Int32)) ((21 : Int32)) ((4 : Int32)) h24 (fun z25 => w_X9_isWord (z25) h24 (fun z26 h27 => wif (z26 = 0) (w_X9_five ((19 : Int32)) ((5 : Int32)) ((3 : Int32)) ((15 : Int32)) ((14 : Int32)) h27 (fun z28 => w_X9_isWord ((((27 : Int64) * z28) + (4 : Int64))) h27 (fun z29 h30 => wif (z29 = 0) (w_X9_five ((12 : Int32)) ((1 : Int32)) ((13 : Int32)) ((16 : Int32)) ((0 : Int32)) h30 (fun z31 => w_X9_isWord (z31) h30 (fun z32 h33 => wif (z32 = 0) (w_X9_five ((19 : Int32)) ((8 : Int32)) ((1 : Int32)) ((4 : Int32)) ((5 : Int32)) h33 (fun z34 => w_X9_isWord (z34) h33 (fun z35 h36 => Q (if z35 = 0 then (-1 : Int32) else (11 : Int32)) h36))) (Q (10 : Int32) h33)))) (Q (9 : Int32) h30)))) (Q (8 : Int32) h27)))) (Q (7 : Int32) h24)))) (Q (6 : Int32) h21)))) (Q (5 : Int32) h18)))) (Q (4 : Int32) h15)))) (Q (3 : Int32) h12)))) (Q (2 : Int32) h9)))) (Q (1 : Int32) h6)))) (Q (0 : Int32) h3)))
theorem t_X9_kindHere {X : Cx} (h : Hp) (Q : Int32 → Hp → Prop) (hw : w_X9_kindHere h Q) : G X M_X9_kindHere E_X9_kindHere (QM X E_X9_kindHere (QI Q) Qn) 0 0 [(0, .ref (92))] [] h := by
  unfold w_X9_kindHere at hw
  refine g_aload_n 0 (dk D_X9_kindHere 0 rfl) rfl rfl ?_
  refine g_bipush (dk D_X9_kindHere 1 rfl) kb_19 ?_
  refine g_bipush (dk D_X9_kindHere 2 rfl) kb_21 ?_
  refine g_bipush (dk D_X9_kindHere 3 rfl) kb_14 ?_
  refine g_iconst (dk D_X9_kindHere 4 rfl) ki_0 ?_
  refine g_iconst (dk D_X9_kindHere 5 rfl) ki_0 ?_
  refine g_callS (As := [.int ((19 : Int32)), .int ((21 : Int32)), .int ((14 : Int32)), .int ((0 : Int32)), .int ((0 : Int32))]) (kc := 0) (fr := 0) (lo := 0) (mc := 0) (My := M_X9_five) (dk D_X9_kindHere 6 rfl) w_1554 w_1555 w_110 w_1556 okD_X9_five (by decide) (Nat.le_of_ble_eq_true rfl) rfl (c_X9_five ((19 : Int32)) ((21 : Int32)) ((14 : Int32)) ((0 : Int32)) ((0 : Int32)) (h) _ hw) kxN (kLp (fun z1 hw => ?_))
  refine g_callV (As := [.long (z1)]) (kc := 0) (fr := 3) (lo := 88) (mc := 0) (My := M_X9_isWord) (dk D_X9_kindHere 7 rfl) kd_92 rfl rfl w_1558 w_1560 w_48 w_110 w_1561 okD_X9_isWord (by decide) (Nat.le_of_ble_eq_true rfl) rfl (c_X9_isWord (z1) (h) _ hw) kxN (kI (fun z2 h3 hw => ?_))
  refine g_if_eq (dk D_X9_kindHere 8 rfl) rfl (wif_m hw (fun hw => ?_) (fun hw => ?_))
  · refine g_aload_n 0 (dk D_X9_kindHere 11 rfl) rfl rfl ?_
    refine g_bipush (dk D_X9_kindHere 12 rfl) kb_6 ?_
    refine g_iconst (dk D_X9_kindHere 13 rfl) ki_1 ?_
    refine g_bipush (dk D_X9_kindHere 14 rfl) kb_12 ?_
    refine g_bipush (dk D_X9_kindHere 15 rfl) kb_12 ?_
    refine g_bipush (dk D_X9_kindHere 16 rfl) kb_19 ?_
    refine g_callS (As := [.int ((6 : Int32)), .int ((1 : Int32)), .int ((12 : Int32)), .int ((12 : Int32)), .int ((19 : Int32))]) (kc := 0) (fr := 0) (lo := 0) (mc := 0) (My := M_X9_five) (dk D_X9_kindHere 17 rfl) w_1554 w_1555 w_110 w_1556 okD_X9_five (by decide) (Nat.le_of_ble_eq_true rfl) rfl (c_X9_five ((6 : Int32)) ((1 : Int32)) ((12 : Int32)) ((12 : Int32)) ((19 : Int32)) (h3) _ hw) kxN (kLp (fun z4 hw => ?_))
    refine g_callV (As := [.long (z4)]) (kc := 0) (fr := 3) (lo := 88) (mc := 0) (My := M_X9_isWord) (dk D_X9_kindHere 18 rfl) kd_92 rfl rfl w_1558 w_1560 w_48 w_110 w_1561 okD_X9_isWord (by decide) (Nat.le_of_ble_eq_true rfl) rfl (c_X9_isWord (z4) (h3) _ hw) kxN (kI (fun z5 h6 hw => ?_))
    refine g_if_eq (dk D_X9_kindHere 19 rfl) rfl (wif_m hw (fun hw => ?_) (fun hw => ?_))
    · refine g_aload_n 0 (dk D_X9_kindHere 22 rfl) rfl rfl ?_
      refine g_ldc2 (dk D_X9_kindHere 23 rfl) w_1557 ?_
      refine g_bipush (dk D_X9_kindHere 24 rfl) kb_11 ?_
      refine g_iconst (dk D_X9_kindHere 25 rfl) ki_5 ?_
      refine g_iconst (dk D_X9_kindHere 26 rfl) ki_5 ?_
      refine g_bipush (dk D_X9_kindHere 27 rfl) kb_16 ?_
      refine g_iconst (dk D_X9_kindHere 28 rfl) ki_5 ?_
      refine g_callS (As := [.int ((11 : Int32)), .int ((5 : Int32)), .int ((5 : Int32)), .int ((16 : Int32)), .int ((5 : Int32))]) (kc := 0) (fr := 0) (lo := 0) (mc := 0) (My := M_X9_five) (dk D_X9_kindHere 29 rfl) w_1554 w_1555 w_110 w_1556 okD_X9_five (by decide) (Nat.le_of_ble_eq_true rfl) rfl (c_X9_five ((11 : Int32)) ((5 : Int32)) ((5 : Int32)) ((16 : Int32)) ((5 : Int32)) (h6) _ hw) kxN (kLp (fun z7 hw => ?_))
      refine g_lmul (dk D_X9_kindHere 30 rfl) ?_
      refine g_ldc2 (dk D_X9_kindHere 31 rfl) w_1568 ?_
      refine g_ladd (dk D_X9_kindHere 32 rfl) ?_
      refine g_callV (As := [.long ((((27 : Int64) * z7) + (18 : Int64)))]) (kc := 0) (fr := 3) (lo := 88) (mc := 0) (My := M_X9_isWord) (dk D_X9_kindHere 33 rfl) kd_92 rfl rfl w_1558 w_1560 w_48 w_110 w_1561 okD_X9_isWord (by decide) (Nat.le_of_ble_eq_true rfl) rfl (c_X9_isWord ((((27 : Int64) * z7) + (18 : Int64))) (h6) _ hw) kxN (kI (fun z8 h9 hw => ?_))
      refine g_if_eq (dk D_X9_kindHere 34 rfl) rfl (wif_m hw (fun hw => ?_) (fun hw => ?_))
      · refine g_aload_n 0 (dk D_X9_kindHere 37 rfl) rfl rfl ?_
        refine g_bipush (dk D_X9_kindHere 38 rfl) kb_20 ?_
        refine g_iconst (dk D_X9_kindHere 39 rfl) ki_1 ?_
        refine g_bipush (dk D_X9_kindHere 40 rfl) kb_11 ?_
        refine g_iconst (dk D_X9_kindHere 41 rfl) ki_5 ?_
        refine g_bipush (dk D_X9_kindHere 42 rfl) kb_19 ?_
        refine g_callS (As := [.int ((20 : Int32)), .int ((1 : Int32)), .int ((11 : Int32)), .int ((5 : Int32)), .int ((19 : Int32))]) (kc := 0) (fr := 0) (lo := 0) (mc := 0) (My := M_X9_five) (dk D_X9_kindHere 43 rfl) w_1554 w_1555 w_110 w_1556 okD_X9_five (by decide) (Nat.le_of_ble_eq_true rfl) rfl (c_X9_five ((20 : Int32)) ((1 : Int32)) ((11 : Int32)) ((5 : Int32)) ((19 : Int32)) (h9) _ hw) kxN (kLp (fun z10 hw => ?_))
        refine g_callV (As := [.long (z10)]) (kc := 0) (fr := 3) (lo := 88) (mc := 0) (My := M_X9_isWord) (dk D_X9_kindHere 44 rfl) kd_92 rfl rfl w_1558 w_1560 w_48 w_110 w_1561 okD_X9_isWord (by decide) (Nat.le_of_ble_eq_true rfl) rfl (c_X9_isWord (z10) (h9) _ hw) kxN (kI (fun z11 h12 hw => ?_))
        refine g_if_eq (dk D_X9_kindHere 45 rfl) rfl (wif_m hw (fun hw => ?_) (fun hw => ?_))
        · refine g_aload_n 0 (dk D_X9_kindHere 48 rfl) rfl rfl ?_
          refine g_ldc2 (dk D_X9_kindHere 49 rfl) w_1557 ?_
          refine g_ldc2 (dk D_X9_kindHere 50 rfl) w_1557 ?_
          refine g_ldc2 (dk D_X9_kindHere 51 rfl) w_1557 ?_
          refine g_ldc2 (dk D_X9_kindHere 52 rfl) w_1557 ?_
          refine g_bipush (dk D_X9_kindHere 53 rfl) kb_20 ?_
          refine g_bipush (dk D_X9_kindHere 54 rfl) kb_18 ?_
          refine g_iconst (dk D_X9_kindHere 55 rfl) ki_1 ?_
          refine g_bipush (dk D_X9_kindHere 56 rfl) kb_22 ?_
          refine g_iconst (dk D_X9_kindHere 57 rfl) ki_5 ?_
          refine g_callS16 (As := [.int ((20 : Int32)), .int ((18 : Int32)), .int ((1 : Int32)), .int ((22 : Int32)), .int ((5 : Int32))]) (kc := 0) (fr := 0) (lo := 0) (mc := 0) (My := M_X9_five) (dk D_X9_kindHere 58 rfl) w_1554 w_1555 w_110 w_1556 okD_X9_five (by decide) (Nat.le_of_ble_eq_true rfl) rfl (c_X9_five ((20 : Int32)) ((18 : Int32)) ((1 : Int32)) ((22 : Int32)) ((5 : Int32)) (h12) _ hw) kxN (kLp (fun z13 hw => ?_))
          refine g_lmul (dk D_X9_kindHere 59 rfl) ?_
          refine g_ldc2 (dk D_X9_kindHere 60 rfl) w_1569 ?_
          refine g_ladd (dk D_X9_kindHere 61 rfl) ?_
          refine g_lmul (dk D_X9_kindHere 62 rfl) ?_
          refine g_ldc2 (dk D_X9_kindHere 63 rfl) w_1569 ?_
          refine g_ladd (dk D_X9_kindHere 64 rfl) ?_
          refine g_lmul (dk D_X9_kindHere 65 rfl) ?_
          refine g_ldc2 (dk D_X9_kindHere 66 rfl) w_1570 ?_
          refine g_ladd (dk D_X9_kindHere 67 rfl) ?_
          refine g_lmul (dk D_X9_kindHere 68 rfl) ?_
          refine g_ldc2 (dk D_X9_kindHere 69 rfl) w_1568 ?_
          refine g_ladd (dk D_X9_kindHere 70 rfl) ?_
          refine g_callV (As := [.long ((((27 : Int64) * (((27 : Int64) * (((27 : Int64) * (((27 : Int64) * z13) + (12 : Int64))) + (12 : Int64))) + (5 : Int64))) + (18 : Int64)))]) (kc := 0) (fr := 3) (lo := 88) (mc := 0) (My := M_X9_isWord) (dk D_X9_kindHere 71 rfl) kd_92 rfl rfl w_1558 w_1560 w_48 w_110 w_1561 okD_X9_isWord (by decide) (Nat.le_of_ble_eq_true rfl) rfl (c_X9_isWord ((((27 : Int64) * (((27 : Int64) * (((27 : Int64) * (((27 : Int64) * z13) + (12 : Int64))) + (12 : Int64))) + (5 : Int64))) + (18 : Int64))) (h12) _ hw) kxN (kI (fun z14 h15 hw => ?_))
          refine g_if_eq (dk D_X9_kindHere 72 rfl) rfl (wif_m hw (fun hw => ?_) (fun hw => ?_))
          · refine g_aload_n 0 (dk D_X9_kindHere 75 rfl) rfl rfl ?_
            refine g_bipush (dk D_X9_kindHere 76 rfl) kb_8 ?_
            refine g_iconst (dk D_X9_kindHere 77 rfl) ki_1 ?_
            refine g_bipush (dk D_X9_kindHere 78 rfl) kb_20 ?_
            refine g_iconst (dk D_X9_kindHere 79 rfl) ki_0 ?_
            refine g_iconst (dk D_X9_kindHere 80 rfl) ki_0 ?_
            refine g_callS (As := [.int ((8 : Int32)), .int ((1 : Int32)), .int ((20 : Int32)), .int ((0 : Int32)), .int ((0 : Int32))]) (kc := 0) (fr := 0) (lo := 0) (mc := 0) (My := M_X9_five) (dk D_X9_kindHere 81 rfl) w_1554 w_1555 w_110 w_1556 okD_X9_five (by decide) (Nat.le_of_ble_eq_true rfl) rfl (c_X9_five ((8 : Int32)) ((1 : Int32)) ((20 : Int32)) ((0 : Int32)) ((0 : Int32)) (h15) _ hw) kxN (kLp (fun z16 hw => ?_))
            refine g_callV (As := [.long (z16)]) (kc := 0) (fr := 3) (lo := 88) (mc := 0) (My := M_X9_isWord) (dk D_X9_kindHere 82 rfl) kd_92 rfl rfl w_1558 w_1560 w_48 w_110 w_1561 okD_X9_isWord (by decide) (Nat.le_of_ble_eq_true rfl) rfl (c_X9_isWord (z16) (h15) _ hw) kxN (kI (fun z17 h18 hw => ?_))
            refine g_if_eq (dk D_X9_kindHere 83 rfl) rfl (wif_m hw (fun hw => ?_) (fun hw => ?_))
            · refine g_aload_n 0 (dk D_X9_kindHere 86 rfl) rfl rfl ?_
              refine g_bipush (dk D_X9_kindHere 87 rfl) kb_12 ?_
              refine g_bipush (dk D_X9_kindHere 88 rfl) kb_9 ?_
              refine g_iconst (dk D_X9_kindHere 89 rfl) ki_5 ?_
              refine g_bipush (dk D_X9_kindHere 90 rfl) kb_19 ?_
              refine g_iconst (dk D_X9_kindHere 91 rfl) ki_0 ?_
              refine g_callS (As := [.int ((12 : Int32)), .int ((9 : Int32)), .int ((5 : Int32)), .int ((19 : Int32)), .int ((0 : Int32))]) (kc := 0) (fr := 0) (lo := 0) (mc := 0) (My := M_X9_five) (dk D_X9_kindHere 92 rfl) w_1554 w_1555 w_110 w_1556 okD_X9_five (by decide) (Nat.le_of_ble_eq_true rfl) rfl (c_X9_five ((12 : Int32)) ((9 : Int32)) ((5 : Int32)) ((19 : Int32)) ((0 : Int32)) (h18) _ hw) kxN (kLp (fun z19 hw => ?_))
              refine g_callV (As := [.long (z19)]) (kc := 0) (fr := 3) (lo := 88) (mc := 0) (My := M_X9_isWord) (dk D_X9_kindHere 93 rfl) kd_92 rfl rfl w_1558 w_1560 w_48 w_110 w_1561 okD_X9_isWord (by decide) (Nat.le_of_ble_eq_true rfl) rfl (c_X9_isWord (z19) (h18) _ hw) kxN (kI (fun z20 h21 hw => ?_))
              refine g_if_eq (dk D_X9_kindHere 94 rfl) rfl (wif_m hw (fun hw => ?_) (fun hw => ?_))
              · refine g_aload_n 0 (dk D_X9_kindHere 97 rfl) rfl rfl ?_
                refine g_bipush (dk D_X9_kindHere 98 rfl) kb_6 ?_
                refine g_iconst (dk D_X9_kindHere 99 rfl) ki_5 ?_
                refine g_iconst (dk D_X9_kindHere 100 rfl) ki_1 ?_
                refine g_bipush (dk D_X9_kindHere 101 rfl) kb_19 ?_
                refine g_bipush (dk D_X9_kindHere 102 rfl) kb_20 ?_
                refine g_callS (As := [.int ((6 : Int32)), .int ((5 : Int32)), .int ((1 : Int32)), .int ((19 : Int32)), .int ((20 : Int32))]) (kc := 0) (fr := 0) (lo := 0) (mc := 0) (My := M_X9_five) (dk D_X9_kindHere 103 rfl) w_1554 w_1555 w_110 w_1556 okD_X9_five (by decide) (Nat.le_of_ble_eq_true rfl) rfl (c_X9_five ((6 : Int32)) ((5 : Int32)) ((1 : Int32)) ((19 : Int32)) ((20 : Int32)) (h21) _ hw) kxN (kLp (fun z22 hw => ?_))
                refine g_callV (As := [.long (z22)]) (kc := 0) (fr := 3) (lo := 88) (mc := 0) (My := M_X9_isWord) (dk D_X9_kindHere 104 rfl) kd_92 rfl rfl w_1558 w_1560 w_48 w_110 w_1561 okD_X9_isWord (by decide) (Nat.le_of_ble_eq_true rfl) rfl (c_X9_isWord (z22) (h21) _ hw) kxN (kI (fun z23 h24 hw => ?_))
                refine g_if_eq (dk D_X9_kindHere 105 rfl) rfl (wif_m hw (fun hw => ?_) (fun hw => ?_))
                · refine g_aload_n 0 (dk D_X9_kindHere 108 rfl) rfl rfl ?_
                  refine g_iconst (dk D_X9_kindHere 109 rfl) ki_3 ?_
                  refine g_bipush (dk D_X9_kindHere 110 rfl) kb_12 ?_
                  refine g_bipush (dk D_X9_kindHere 111 rfl) kb_15 ?_
                  refine g_bipush (dk D_X9_kindHere 112 rfl) kb_21 ?_
                  refine g_iconst (dk D_X9_kindHere 113 rfl) ki_4 ?_
                  refine g_callS (As := [.int ((3 : Int32)), .int ((12 : Int32)), .int ((15 : Int32)), .int ((21 : Int32)), .int ((4 : Int32))]) (kc := 0) (fr := 0) (lo := 0) (mc := 0) (My := M_X9_five) (dk D_X9_kindHere 114 rfl) w_1554 w_1555 w_110 w_1556 okD_X9_five (by decide) (Nat.le_of_ble_eq_true rfl) rfl (c_X9_five ((3 : Int32)) ((12 : Int32)) ((15 : Int32)) ((21 : Int32)) ((4 : Int32)) (h24) _ hw) kxN (kLp (fun z25 hw => ?_))
                  refine g_callV (As := [.long (z25)]) (kc := 0) (fr := 3) (lo := 88) (mc := 0) (My := M_X9_isWord) (dk D_X9_kindHere 115 rfl) kd_92 rfl rfl w_1558 w_1560 w_48 w_110 w_1561 okD_X9_isWord (by decide) (Nat.le_of_ble_eq_true rfl) rfl (c_X9_isWord (z25) (h24) _ hw) kxN (kI (fun z26 h27 hw => ?_))
                  refine g_if_eq (dk D_X9_kindHere 116 rfl) rfl (wif_m hw (fun hw => ?_) (fun hw => ?_))
                  · refine g_aload_n 0 (dk D_X9_kindHere 119 rfl) rfl rfl ?_
                    refine g_ldc2 (dk D_X9_kindHere 120 rfl) w_1557 ?_
                    refine g_bipush (dk D_X9_kindHere 121 rfl) kb_19 ?_
                    refine g_iconst (dk D_X9_kindHere 122 rfl) ki_5 ?_
                    refine g_iconst (dk D_X9_kindHere 123 rfl) ki_3 ?_
                    refine g_bipush (dk D_X9_kindHere 124 rfl) kb_15 ?_
                    refine g_bipush (dk D_X9_kindHere 125 rfl) kb_14 ?_
                    refine g_callS (As := [.int ((19 : Int32)), .int ((5 : Int32)), .int ((3 : Int32)), .int ((15 : Int32)), .int ((14 : Int32))]) (kc := 0) (fr := 0) (lo := 0) (mc := 0) (My := M_X9_five) (dk D_X9_kindHere 126 rfl) w_1554 w_1555 w_110 w_1556 okD_X9_five (by decide) (Nat.le_of_ble_eq_true rfl) rfl (c_X9_five ((19 : Int32)) ((5 : Int32)) ((3 : Int32)) ((15 : Int32)) ((14 : Int32)) (h27) _ hw) kxN (kLp (fun z28 hw => ?_))
                    refine g_lmul (dk D_X9_kindHere 127 rfl) ?_
                    refine g_ldc2 (dk D_X9_kindHere 128 rfl) w_1571 ?_
                    refine g_ladd (dk D_X9_kindHere 129 rfl) ?_
                    refine g_callV (As := [.long ((((27 : Int64) * z28) + (4 : Int64)))]) (kc := 0) (fr := 3) (lo := 88) (mc := 0) (My := M_X9_isWord) (dk D_X9_kindHere 130 rfl) kd_92 rfl rfl w_1558 w_1560 w_48 w_110 w_1561 okD_X9_isWord (by decide) (Nat.le_of_ble_eq_true rfl) rfl (c_X9_isWord ((((27 : Int64) * z28) + (4 : Int64))) (h27) _ hw) kxN (kI (fun z29 h30 hw => ?_))
                    refine g_if_eq (dk D_X9_kindHere 131 rfl) rfl (wif_m hw (fun hw => ?_) (fun hw => ?_))
                    · refine g_aload_n 0 (dk D_X9_kindHere 134 rfl) rfl rfl ?_
                      refine g_bipush (dk D_X9_kindHere 135 rfl) kb_12 ?_
                      refine g_iconst (dk D_X9_kindHere 136 rfl) ki_1 ?_
                      refine g_bipush (dk D_X9_kindHere 137 rfl) kb_13 ?_
                      refine g_bipush (dk D_X9_kindHere 138 rfl) kb_16 ?_
                      refine g_iconst (dk D_X9_kindHere 139 rfl) ki_0 ?_
                      refine g_callS (As := [.int ((12 : Int32)), .int ((1 : Int32)), .int ((13 : Int32)), .int ((16 : Int32)), .int ((0 : Int32))]) (kc := 0) (fr := 0) (lo := 0) (mc := 0) (My := M_X9_five) (dk D_X9_kindHere 140 rfl) w_1554 w_1555 w_110 w_1556 okD_X9_five (by decide) (Nat.le_of_ble_eq_true rfl) rfl (c_X9_five ((12 : Int32)) ((1 : Int32)) ((13 : Int32)) ((16 : Int32)) ((0 : Int32)) (h30) _ hw) kxN (kLp (fun z31 hw => ?_))
                      refine g_callV (As := [.long (z31)]) (kc := 0) (fr := 3) (lo := 88) (mc := 0) (My := M_X9_isWord) (dk D_X9_kindHere 141 rfl) kd_92 rfl rfl w_1558 w_1560 w_48 w_110 w_1561 okD_X9_isWord (by decide) (Nat.le_of_ble_eq_true rfl) rfl (c_X9_isWord (z31) (h30) _ hw) kxN (kI (fun z32 h33 hw => ?_))
                      refine g_if_eq (dk D_X9_kindHere 142 rfl) rfl (wif_m hw (fun hw => ?_) (fun hw => ?_))
                      · refine g_aload_n 0 (dk D_X9_kindHere 145 rfl) rfl rfl ?_
                        refine g_bipush (dk D_X9_kindHere 146 rfl) kb_19 ?_
                        refine g_bipush (dk D_X9_kindHere 147 rfl) kb_8 ?_
                        refine g_iconst (dk D_X9_kindHere 148 rfl) ki_1 ?_
                        refine g_iconst (dk D_X9_kindHere 149 rfl) ki_4 ?_
                        refine g_iconst (dk D_X9_kindHere 150 rfl) ki_5 ?_
                        refine g_callS (As := [.int ((19 : Int32)), .int ((8 : Int32)), .int ((1 : Int32)), .int ((4 : Int32)), .int ((5 : Int32))]) (kc := 0) (fr := 0) (lo := 0) (mc := 0) (My := M_X9_five) (dk D_X9_kindHere 151 rfl) w_1554 w_1555 w_110 w_1556 okD_X9_five (by decide) (Nat.le_of_ble_eq_true rfl) rfl (c_X9_five ((19 : Int32)) ((8 : Int32)) ((1 : Int32)) ((4 : Int32)) ((5 : Int32)) (h33) _ hw) kxN (kLp (fun z34 hw => ?_))
                        refine g_callV (As := [.long (z34)]) (kc := 0) (fr := 3) (lo := 88) (mc := 0) (My := M_X9_isWord) (dk D_X9_kindHere 152 rfl) kd_92 rfl rfl w_1558 w_1560 w_48 w_110 w_1561 okD_X9_isWord (by decide) (Nat.le_of_ble_eq_true rfl) rfl (c_X9_isWord (z34) (h33) _ hw) kxN (kI (fun z35 h36 hw => ?_))
                        have hj : G X M_X9_kindHere E_X9_kindHere (QM X E_X9_kindHere (QI Q) Qn) 0 295 [(0, .ref (92))] [.int ((if z35 = 0 then (-1 : Int32) else (11 : Int32)))] (h36) := by
                          exact g_iret (dk D_X9_kindHere 157 rfl) rfl ⟨_, rfl, hw⟩
                        refine g_if_eq (dk D_X9_kindHere 153 rfl) rfl ?_
                        by_cases c37 : z35 = 0
                        · rw [if_pos c37] at hj
                          refine wif_p c37 ?_
                          refine g_iconst (dk D_X9_kindHere 156 rfl) ki_m1 ?_
                          exact hj
                        · rw [if_neg c37] at hj
                          refine wif_n c37 ?_
                          refine g_bipush (dk D_X9_kindHere 154 rfl) kb_11 ?_
                          refine g_goto (dk D_X9_kindHere 155 rfl) rfl ?_
                          exact hj
                      · refine g_bipush (dk D_X9_kindHere 143 rfl) kb_10 ?_
                        exact g_iret (dk D_X9_kindHere 144 rfl) rfl ⟨_, rfl, hw⟩
                    · refine g_bipush (dk D_X9_kindHere 132 rfl) kb_9 ?_
                      exact g_iret (dk D_X9_kindHere 133 rfl) rfl ⟨_, rfl, hw⟩
                  · refine g_bipush (dk D_X9_kindHere 117 rfl) kb_8 ?_
                    exact g_iret (dk D_X9_kindHere 118 rfl) rfl ⟨_, rfl, hw⟩
                · refine g_bipush (dk D_X9_kindHere 106 rfl) kb_7 ?_
                  exact g_iret (dk D_X9_kindHere 107 rfl) rfl ⟨_, rfl, hw⟩
              · refine g_bipush (dk D_X9_kindHere 95 rfl) kb_6 ?_
                exact g_iret (dk D_X9_kindHere 96 rfl) rfl ⟨_, rfl, hw⟩
            · refine g_iconst (dk D_X9_kindHere 84 rfl) ki_5 ?_
              exact g_iret (dk D_X9_kindHere 85 rfl) rfl ⟨_, rfl, hw⟩
          · refine g_iconst (dk D_X9_kindHere 73 rfl) ki_4 ?_
            exact g_iret (dk D_X9_kindHere 74 rfl) rfl ⟨_, rfl, hw⟩
        · refine g_iconst (dk D_X9_kindHere 46 rfl) ki_3 ?_
          exact g_iret (dk D_X9_kindHere 47 rfl) rfl ⟨_, rfl, hw⟩
      · refine g_iconst (dk D_X9_kindHere 35 rfl) ki_2 ?_
        exact g_iret (dk D_X9_kindHere 36 rfl) rfl ⟨_, rfl, hw⟩
    · refine g_iconst (dk D_X9_kindHere 20 rfl) ki_1 ?_
      exact g_iret (dk D_X9_kindHere 21 rfl) rfl ⟨_, rfl, hw⟩
  · refine g_iconst (dk D_X9_kindHere 9 rfl) ki_0 ?_
    exact g_iret (dk D_X9_kindHere 10 rfl) rfl ⟨_, rfl, hw⟩
theorem c_X9_kindHere {X : Cx} (h : Hp) (Q : Int32 → Hp → Prop) (hw : w_X9_kindHere h Q) : Con X yX9_kindHere M_X9_kindHere 4 118 0 [.ref (92)] h (QI Q) Qn :=
  con_of (by decide +kernel) rfl (Nat.le_of_ble_eq_true rfl) (t_X9_kindHere h Q hw)
/-! ShadowTollsModel.readsWho()V -/
abbrev M_X9_readsWho : Mi := (RX9, cX9_readsWho, 2, none)
abbrev E_X9_readsWho : Rm := (3, 89, 0, 0)
def rows_X9_readsWho : List (Nat × Instr × Nat) := [(0, .aload_n 0, 1), (1, .getfield 37, 3), (4, .aload_n 0, 1), (5, .getfield 17, 3), (8, .iconst 0, 1), (9, .iaload, 1), (10, .aaload, 1), (11, .astore_n 1, 1), (12, .aload_n 1, 1), (13, .iconst 0, 1), (14, .aload_n 0, 1), (15, .bipush 50, 2), (17, .sipush 400, 3), (20, .invokevirtual 195, 3), (23, .iastore, 1), (24, .aload_n 1, 1), (25, .iconst 1, 1), (26, .aload_n 0, 1), (27, .iconst 1, 1), (28, .sipush 999, 3), (31, .invokevirtual 195, 3), (34, .iastore, 1), (35, .aload_n 1, 1), (36, .iconst 2, 1), (37, .aload_n 0, 1), (38, .iconst 0, 1), (39, .sipush 1439, 3), (42, .invokevirtual 195, 3), (45, .iastore, 1), (46, .aload_n 1, 1), (47, .iconst 3, 1), (48, .aload_n 0, 1), (49, .aload_n 1, 1), (50, .iconst 2, 1), (51, .iaload, 1), (52, .sipush 1439, 3), (55, .invokevirtual 195, 3), (58, .iastore, 1), (59, .aload_n 1, 1), (60, .iconst 4, 1), (61, .aload_n 0, 1), (62, .iconst 0, 1), (63, .bipush 9, 2), (65, .invokevirtual 195, 3), (68, .iastore, 1), (69, .aload_n 1, 1), (70, .iconst 5, 1), (71, .iconst 0, 1), (72, .iastore, 1), (73, .aload_n 1, 1), (74, .bipush 6, 2), (76, .iconst 0, 1), (77, .iastore, 1), (78, .aload_n 0, 1), (79, .getfield 17, 3), (82, .iconst 0, 1), (83, .dup2, 1), (84, .iaload, 1), (85, .iconst 1, 1), (86, .iadd, 1), (87, .iastore, 1), (88, .return_, 1)]
theorem D_X9_readsWho : dkA cX9_readsWho rows_X9_readsWho := by
  unfold dkA
  decide +kernel
theorem okD_X9_readsWho : okD yX9_readsWho 0 := by
  unfold okD
  decide +kernel
def w_X9_readsWho (h : Hp) (Q : Hp → Prop) : Prop :=
  (vp_in (0 : Int32) 11 ∧ (vp_in (h 94 (Int32.toNatClampNeg (0 : Int32))) 8 ∧ w_X9_number ((50 : Int32)) ((400 : Int32)) h (fun z3 h4 => (vp_in (0 : Int32) 7 ∧ wlet (hup h4 (101 + 1 * Int32.toNatClampNeg ((h 94 (Int32.toNatClampNeg (0 : Int32))))) (Int32.toNatClampNeg (0 : Int32)) z3) (fun h6 => w_X9_number ((1 : Int32)) ((999 : Int32)) h6 (fun z7 h8 => (vp_in (1 : Int32) 7 ∧ wlet (hup h8 (101 + 1 * Int32.toNatClampNeg ((h 94 (Int32.toNatClampNeg (0 : Int32))))) (Int32.toNatClampNeg (1 : Int32)) z7) (fun h10 => w_X9_number ((0 : Int32)) ((1439 : Int32)) h10 (fun z11 h12 => (vp_in (2 : Int32) 7 ∧ wlet (hup h12 (101 + 1 * Int32.toNatClampNeg ((h 94 (Int32.toNatClampNeg (0 : Int32))))) (Int32.toNatClampNeg (2 : Int32)) z11) (fun h14 => (vp_in (2 : Int32) 7 ∧ w_X9_number ((h14 (101 + 1 * Int32.toNatClampNeg ((h 94 (Int32.toNatClampNeg (0 : Int32))))) (Int32.toNatClampNeg (2 : Int32)))) ((1439 : Int32)) h14 (fun z16 h17 => (vp_in (3 : Int32) 7 ∧ wlet (hup h17 (101 + 1 * Int32.toNatClampNeg ((h 94 (Int32.toNatClampNeg (0 : Int32))))) (Int32.toNatClampNeg (3 : Int32)) z16) (fun h19 => w_X9_number ((0 : Int32)) ((9 : Int32)) h19 (fun z20 h21 => (vp_in (4 : Int32) 7 ∧ wlet (hup h21 (101 + 1 * Int32.toNatClampNeg ((h 94 (Int32.toNatClampNeg (0 : Int32))))) (Int32.toNatClampNeg (4 : Int32)) z20) (fun h23 => (vp_in (5 : Int32) 7 ∧ wlet (hup h23 (101 + 1 * Int32.toNatClampNeg ((h 94 (Int32.toNatClampNeg (0 : Int32))))) (Int32.toNatClampNeg (5 : Int32)) (0 : Int32)) (fun h25 => (vp_in (6 : Int32) 7 ∧ wlet (hup h25 (101 + 1 * Int32.toNatClampNeg ((h 94 (Int32.toNatClampNeg (0 : Int32))))) (Int32.toNatClampNeg (6 : Int32)) (0 : Int32)) (fun h27 => (vp_in (0 : Int32) 11 ∧ (vp_in (0 : Int32) 11 ∧ wlet (hup h27 94 (Int32.toNatClampNeg (0 : Int32)) ((h27 94 (Int32.toNatClampNeg (0 : Int32))) + (1 : Int32))) (fun h30 => Q h30)))))))))))))))))))))))))
theorem t_X9_readsWho {X : Cx} (h : Hp) (Q : Hp → Prop) (hw : w_X9_readsWho h Q) : G X M_X9_readsWho E_X9_readsWho (QM X E_X9_readsWho (QV Q) Qn) 0 0 [(0, .ref (92))] [] h := by
  unfold w_X9_readsWho at hw
  refine g_aload_n 0 (dk D_X9_readsWho 0 rfl) rfl rfl ?_
  refine g_getR 16 (t := 100) (dk D_X9_readsWho 1 rfl) kd_92 rfl rfl (by decide) w_1373 rfl rfl rfl ?_
  refine g_aload_n 0 (dk D_X9_readsWho 2 rfl) rfl rfl ?_
  refine g_getR 10 (t := 94) (dk D_X9_readsWho 3 rfl) kd_92 rfl rfl (by decide) w_1367 rfl rfl rfl ?_
  refine g_iconst (dk D_X9_readsWho 4 rfl) ki_0 ?_
  obtain ⟨hi1, hw⟩ := hw
  refine g_iald (dk D_X9_readsWho 5 rfl) kd_94 hi1 ?_
  obtain ⟨hi2, hw⟩ := hw
  refine g_aald (dk D_X9_readsWho 6 rfl) kd_100 rfl rfl hi2 ?_
  refine g_astore_n (dk D_X9_readsWho 7 rfl) rfl (by decide) rfl ?_
  refine g_aload_n 0 (dk D_X9_readsWho 8 rfl) rfl rfl ?_
  refine g_iconst (dk D_X9_readsWho 9 rfl) ki_0 ?_
  refine g_aload_n 1 (dk D_X9_readsWho 10 rfl) rfl rfl ?_
  refine g_bipush (dk D_X9_readsWho 11 rfl) kb_50 ?_
  refine g_sipush (dk D_X9_readsWho 12 rfl) ks_400 ?_
  refine g_callV (As := [.int ((50 : Int32)), .int ((400 : Int32))]) (kc := 0) (fr := 2) (lo := 57) (mc := 0) (My := M_X9_number) (dk D_X9_readsWho 13 rfl) kd_92 rfl rfl w_1584 w_1586 w_53 w_110 w_1587 okD_X9_number (by decide) (Nat.le_of_ble_eq_true rfl) rfl (c_X9_number ((50 : Int32)) ((400 : Int32)) (h) _ hw) kxN (kI (fun z3 h4 hw => ?_))
  obtain ⟨hi5, hw⟩ := hw
  refine g_iast (dk D_X9_readsWho 14 rfl) (kdf_100 _ (in_lt hi2)) hi5 ?_
  refine g_heap (fun h6 eh6 => ?_)
  replace hw := hw _ eh6
  refine g_aload_n 0 (dk D_X9_readsWho 15 rfl) rfl rfl ?_
  refine g_iconst (dk D_X9_readsWho 16 rfl) ki_1 ?_
  refine g_aload_n 1 (dk D_X9_readsWho 17 rfl) rfl rfl ?_
  refine g_iconst (dk D_X9_readsWho 18 rfl) ki_1 ?_
  refine g_sipush (dk D_X9_readsWho 19 rfl) ks_999 ?_
  refine g_callV (As := [.int ((1 : Int32)), .int ((999 : Int32))]) (kc := 0) (fr := 2) (lo := 57) (mc := 0) (My := M_X9_number) (dk D_X9_readsWho 20 rfl) kd_92 rfl rfl w_1584 w_1586 w_53 w_110 w_1587 okD_X9_number (by decide) (Nat.le_of_ble_eq_true rfl) rfl (c_X9_number ((1 : Int32)) ((999 : Int32)) (h6) _ hw) kxN (kI (fun z7 h8 hw => ?_))
  obtain ⟨hi9, hw⟩ := hw
  refine g_iast (dk D_X9_readsWho 21 rfl) (kdf_100 _ (in_lt hi2)) hi9 ?_
  refine g_heap (fun h10 eh10 => ?_)
  replace hw := hw _ eh10
  refine g_aload_n 0 (dk D_X9_readsWho 22 rfl) rfl rfl ?_
  refine g_iconst (dk D_X9_readsWho 23 rfl) ki_2 ?_
  refine g_aload_n 1 (dk D_X9_readsWho 24 rfl) rfl rfl ?_
  refine g_iconst (dk D_X9_readsWho 25 rfl) ki_0 ?_
  refine g_sipush (dk D_X9_readsWho 26 rfl) ks_1439 ?_
  refine g_callV (As := [.int ((0 : Int32)), .int ((1439 : Int32))]) (kc := 0) (fr := 2) (lo := 57) (mc := 0) (My := M_X9_number) (dk D_X9_readsWho 27 rfl) kd_92 rfl rfl w_1584 w_1586 w_53 w_110 w_1587 okD_X9_number (by decide) (Nat.le_of_ble_eq_true rfl) rfl (c_X9_number ((0 : Int32)) ((1439 : Int32)) (h10) _ hw) kxN (kI (fun z11 h12 hw => ?_))
  obtain ⟨hi13, hw⟩ := hw
  refine g_iast (dk D_X9_readsWho 28 rfl) (kdf_100 _ (in_lt hi2)) hi13 ?_
  refine g_heap (fun h14 eh14 => ?_)
  replace hw := hw _ eh14
  refine g_aload_n 0 (dk D_X9_readsWho 29 rfl) rfl rfl ?_
  refine g_iconst (dk D_X9_readsWho 30 rfl) ki_3 ?_
  refine g_aload_n 1 (dk D_X9_readsWho 31 rfl) rfl rfl ?_
  refine g_aload_n 0 (dk D_X9_readsWho 32 rfl) rfl rfl ?_
  refine g_iconst (dk D_X9_readsWho 33 rfl) ki_2 ?_
  obtain ⟨hi15, hw⟩ := hw
  refine g_iald (dk D_X9_readsWho 34 rfl) (kdf_100 _ (in_lt hi2)) hi15 ?_
  refine g_sipush (dk D_X9_readsWho 35 rfl) ks_1439 ?_
  refine g_callV (As := [.int ((h14 (101 + 1 * Int32.toNatClampNeg ((h 94 (Int32.toNatClampNeg (0 : Int32))))) (Int32.toNatClampNeg (2 : Int32)))), .int ((1439 : Int32))]) (kc := 0) (fr := 2) (lo := 57) (mc := 0) (My := M_X9_number) (dk D_X9_readsWho 36 rfl) kd_92 rfl rfl w_1584 w_1586 w_53 w_110 w_1587 okD_X9_number (by decide) (Nat.le_of_ble_eq_true rfl) rfl (c_X9_number ((h14 (101 + 1 * Int32.toNatClampNeg ((h 94 (Int32.toNatClampNeg (0 : Int32))))) (Int32.toNatClampNeg (2 : Int32)))) ((1439 : Int32)) (h14) _ hw) kxN (kI (fun z16 h17 hw => ?_))
  obtain ⟨hi18, hw⟩ := hw
  refine g_iast (dk D_X9_readsWho 37 rfl) (kdf_100 _ (in_lt hi2)) hi18 ?_
  refine g_heap (fun h19 eh19 => ?_)
  replace hw := hw _ eh19
  refine g_aload_n 0 (dk D_X9_readsWho 38 rfl) rfl rfl ?_
  refine g_iconst (dk D_X9_readsWho 39 rfl) ki_4 ?_
  refine g_aload_n 1 (dk D_X9_readsWho 40 rfl) rfl rfl ?_
  refine g_iconst (dk D_X9_readsWho 41 rfl) ki_0 ?_
  refine g_bipush (dk D_X9_readsWho 42 rfl) kb_9 ?_
  refine g_callV (As := [.int ((0 : Int32)), .int ((9 : Int32))]) (kc := 0) (fr := 2) (lo := 57) (mc := 0) (My := M_X9_number) (dk D_X9_readsWho 43 rfl) kd_92 rfl rfl w_1584 w_1586 w_53 w_110 w_1587 okD_X9_number (by decide) (Nat.le_of_ble_eq_true rfl) rfl (c_X9_number ((0 : Int32)) ((9 : Int32)) (h19) _ hw) kxN (kI (fun z20 h21 hw => ?_))
  obtain ⟨hi22, hw⟩ := hw
  refine g_iast (dk D_X9_readsWho 44 rfl) (kdf_100 _ (in_lt hi2)) hi22 ?_
  refine g_heap (fun h23 eh23 => ?_)
  replace hw := hw _ eh23
  refine g_aload_n 0 (dk D_X9_readsWho 45 rfl) rfl rfl ?_
  refine g_iconst (dk D_X9_readsWho 46 rfl) ki_5 ?_
  refine g_iconst (dk D_X9_readsWho 47 rfl) ki_0 ?_
  obtain ⟨hi24, hw⟩ := hw
  refine g_iast (dk D_X9_readsWho 48 rfl) (kdf_100 _ (in_lt hi2)) hi24 ?_
  refine g_heap (fun h25 eh25 => ?_)
  replace hw := hw _ eh25
  refine g_aload_n 0 (dk D_X9_readsWho 49 rfl) rfl rfl ?_
  refine g_bipush (dk D_X9_readsWho 50 rfl) kb_6 ?_
  refine g_iconst (dk D_X9_readsWho 51 rfl) ki_0 ?_
  obtain ⟨hi26, hw⟩ := hw
  refine g_iast (dk D_X9_readsWho 52 rfl) (kdf_100 _ (in_lt hi2)) hi26 ?_
  refine g_heap (fun h27 eh27 => ?_)
  replace hw := hw _ eh27
  refine g_aload_n 1 (dk D_X9_readsWho 53 rfl) rfl rfl ?_
  refine g_getR 10 (t := 94) (dk D_X9_readsWho 54 rfl) kd_92 rfl rfl (by decide) w_1367 rfl rfl rfl ?_
  refine g_iconst (dk D_X9_readsWho 55 rfl) ki_0 ?_
  refine g_dup2 (dk D_X9_readsWho 56 rfl) rfl rfl ?_
  obtain ⟨hi28, hw⟩ := hw
  refine g_iald (dk D_X9_readsWho 57 rfl) kd_94 hi28 ?_
  refine g_iconst (dk D_X9_readsWho 58 rfl) ki_1 ?_
  refine g_iadd (dk D_X9_readsWho 59 rfl) ?_
  obtain ⟨hi29, hw⟩ := hw
  refine g_iast (dk D_X9_readsWho 60 rfl) kd_94 hi29 ?_
  refine g_heap (fun h30 eh30 => ?_)
  replace hw := hw _ eh30
  exact g_vret (dk D_X9_readsWho 61 rfl) rfl ⟨rfl, hw⟩
theorem c_X9_readsWho {X : Cx} (h : Hp) (Q : Hp → Prop) (hw : w_X9_readsWho h Q) : Con X yX9_readsWho M_X9_readsWho 3 89 0 [.ref (92)] h (QV Q) Qn :=
  con_of (by decide +kernel) rfl (Nat.le_of_ble_eq_true rfl) (t_X9_readsWho h Q hw)
/-! ShadowTollsModel.reads(I)V -/
abbrev M_X9_reads : Mi := (RX9, cX9_reads, 5, none)
abbrev E_X9_reads : Rm := (4, 118, 0, 0)
def rows_X9_reads : List (Nat × Instr × Nat) := [(0, .iconst 0, 1), (1, .istore_n 2, 1), (2, .iload_n 1, 1), (3, .tableswitch 318 0 10 #[57, 92, 108, 146, 162, 169, 169, 229, 245, 261, 300], 57), (60, .aload_n 0, 1), (61, .iconst 0, 1), (62, .bipush 29, 2), (64, .invokevirtual 195, 3), (67, .istore_n 2, 1), (68, .aload_n 0, 1), (69, .bipush 60, 2), (71, .sipush 5400, 3), (74, .invokevirtual 195, 3), (77, .istore_n 3, 1), (78, .aload_n 0, 1), (79, .getfield 127, 3), (82, .ifCond .ne 247, 3), (85, .aload_n 0, 1), (86, .getfield 23, 3), (89, .iload_n 2, 1), (90, .iload_n 3, 1), (91, .iastore, 1), (92, .goto 237, 3), (95, .aload_n 0, 1), (96, .getfield 17, 3), (99, .iconst 1, 1), (100, .aload_n 0, 1), (101, .iconst 1, 1), (102, .bipush 9, 2), (104, .invokevirtual 195, 3), (107, .iastore, 1), (108, .goto 221, 3), (111, .aload_n 0, 1), (112, .getfield 17, 3), (115, .iconst 2, 1), (116, .aload_n 0, 1), (117, .iconst 0, 1), (118, .sipush 1438, 3), (121, .invokevirtual 195, 3), (124, .iastore, 1), (125, .aload_n 0, 1), (126, .getfield 17, 3), (129, .iconst 3, 1), (130, .aload_n 0, 1), (131, .aload_n 0, 1), (132, .getfield 17, 3), (135, .iconst 2, 1), (136, .iaload, 1), (137, .iconst 1, 1), (138, .iadd, 1), (139, .sipush 1439, 3), (142, .invokevirtual 195, 3), (145, .iastore, 1), (146, .goto 183, 3), (149, .aload_n 0, 1), (150, .getfield 17, 3), (153, .iconst 4, 1), (154, .aload_n 0, 1), (155, .iconst 1, 1), (156, .bipush 60, 2), (158, .invokevirtual 195, 3), (161, .iastore, 1), (162, .goto 167, 3), (165, .aload_n 0, 1), (166, .invokevirtual 199, 3), (169, .goto 160, 3), (172, .aload_n 0, 1), (173, .iconst 0, 1), (174, .aload_n 0, 1), (175, .getfield 17, 3), (178, .iconst 0, 1), (179, .iaload, 1), (180, .iconst 1, 1), (181, .isub, 1), (182, .invokevirtual 195, 3), (185, .istore_n 2, 1), (186, .iload_n 1, 1), (187, .iconst 5, 1), (188, .if_icmp .ne 13, 3), (191, .aload_n 0, 1), (192, .iconst 1, 1), (193, .bipush 99, 2), (195, .invokevirtual 195, 3), (198, .goto 12, 3), (201, .aload_n 0, 1), (202, .bipush 10, 2), (204, .sipush 400, 3), (207, .invokevirtual 195, 3), (210, .istore 4, 2), (212, .aload_n 0, 1), (213, .getfield 127, 3), (216, .ifCond .ne 113, 3), (219, .aload_n 0, 1), (220, .getfield 37, 3), (223, .iload_n 2, 1), (224, .aaload, 1), (225, .iload_n 1, 1), (226, .iload 4, 2), (228, .iastore, 1), (229, .goto 100, 3), (232, .aload_n 0, 1), (233, .getfield 29, 3), (236, .aload_n 0, 1), (237, .iconst 0, 1), (238, .bipush 29, 2), (240, .invokevirtual 195, 3), (243, .iconst 1, 1), (244, .iastore, 1), (245, .goto 84, 3), (248, .aload_n 0, 1), (249, .getfield 17, 3), (252, .iconst 5, 1), (253, .aload_n 0, 1), (254, .iconst 0, 1), (255, .bipush 16, 2), (257, .invokevirtual 195, 3), (260, .iastore, 1), (261, .goto 68, 3), (264, .aload_n 0, 1), (265, .getfield 17, 3), (268, .bipush 8, 2), (270, .iconst 1, 1), (271, .iastore, 1), (272, .aload_n 0, 1), (273, .getfield 17, 3), (276, .bipush 9, 2), (278, .aload_n 0, 1), (279, .iconst 0, 1), (280, .bipush 60, 2), (282, .invokevirtual 195, 3), (285, .iastore, 1), (286, .aload_n 0, 1), (287, .getfield 17, 3), (290, .bipush 10, 2), (292, .aload_n 0, 1), (293, .iconst 0, 1), (294, .bipush 99, 2), (296, .invokevirtual 195, 3), (299, .iastore, 1), (300, .goto 29, 3), (303, .aload_n 0, 1), (304, .getfield 17, 3), (307, .bipush 6, 2), (309, .aload_n 0, 1), (310, .iconst 1, 1), (311, .sipush 5400, 3), (314, .invokevirtual 195, 3), (317, .iastore, 1), (318, .goto 11, 3), (321, .aload_n 0, 1), (322, .getfield 17, 3), (325, .bipush 7, 2), (327, .iconst 1, 1), (328, .iastore, 1), (329, .return_, 1)]
theorem D_X9_reads : dkA cX9_reads rows_X9_reads := by
  unfold dkA
  decide +kernel
theorem okD_X9_reads : okD yX9_reads 1 := by
  unfold okD
  decide +kernel
def w_X9_reads_b210 (p1 : Int32) (v2 : Int32) (s0 : Int32) (h : Hp) (Q : Hp → Prop) : Prop :=
  wif (¬ (h 92 5) = 0) (Q h) ((vp_in v2 8 ∧ (vp_in p1 7 ∧ wlet (hup h (101 + 1 * Int32.toNatClampNeg (v2)) (Int32.toNatClampNeg p1) s0) (fun h3 => Q h3))))
def w_X9_reads (p1 : Int32) (h : Hp) (Q : Hp → Prop) : Prop :=
  wsw p1 [((0 : Int32), w_X9_number ((0 : Int32)) ((29 : Int32)) h (fun z1 h2 => w_X9_number ((60 : Int32)) ((5400 : Int32)) h2 (fun z3 h4 => wif (¬ (h4 92 5) = 0) (Q h4) ((vp_in z1 30 ∧ wlet (hup h4 96 (Int32.toNatClampNeg z1) z3) (fun h6 => Q h6)))))), ((1 : Int32), w_X9_number ((1 : Int32)) ((9 : Int32)) h (fun z7 h8 => (vp_in (1 : Int32) 11 ∧ wlet (hup h8 94 (Int32.toNatClampNeg (1 : Int32)) z7) (fun h10 => Q h10)))), ((2 : Int32), w_X9_number ((0 : Int32)) ((1438 : Int32)) h (fun z11 h12 => (vp_in (2 : Int32) 11 ∧ wlet (hup h12 94 (Int32.toNatClampNeg (2 : Int32)) z11) (fun h14 => (vp_in (2 : Int32) 11 ∧ w_X9_number (((h14 94 (Int32.toNatClampNeg (2 : Int32))) + (1 : Int32))) ((1439 : Int32)) h14 (fun z16 h17 => (vp_in (3 : Int32) 11 ∧ wlet (hup h17 94 (Int32.toNatClampNeg (3 : Int32)) z16) (fun h19 => Q h19)))))))), ((3 : Int32), w_X9_number ((1 : Int32)) ((60 : Int32)) h (fun z20 h21 => (vp_in (4 : Int32) 11 ∧ wlet (hup h21 94 (Int32.toNatClampNeg (4 : Int32)) z20) (fun h23 => Q h23)))), ((4 : Int32), w_X9_readsWho  h (fun h24 => Q h24)), ((5 : Int32), (vp_in (0 : Int32) 11 ∧ w_X9_number ((0 : Int32)) (((h 94 (Int32.toNatClampNeg (0 : Int32))) - (1 : Int32))) h (fun z26 h27 => wif (¬ p1 = (5 : Int32)) (w_X9_number ((10 : Int32)) ((400 : Int32)) h27 (fun z28 h29 => w_X9_reads_b210 p1 (z26) (z28) (h29) Q)) (w_X9_number ((1 : Int32)) ((99 : Int32)) h27 (fun z30 h31 => w_X9_reads_b210 p1 (z26) (z30) (h31) Q))))), ((6 : Int32), (vp_in (0 : Int32) 11 ∧ w_X9_number ((0 : Int32)) (((h 94 (Int32.toNatClampNeg (0 : Int32))) - (1 : Int32))) h (fun z33 h34 => wif (¬ p1 = (5 : Int32)) (w_X9_number ((10 : Int32)) ((400 : Int32)) h34 (fun z35 h36 => w_X9_reads_b210 p1 (z33) (z35) (h36) Q)) (w_X9_number ((1 : Int32)) ((99 : Int32)) h34 (fun z37 h38 => w_X9_reads_b210 p1 (z33) (z37) (h38) Q))))), ((7 : Int32), w_X9_number ((0 : Int32)) ((29 : Int32)) h (fun z39 h40 => (vp_in z39 30 ∧ wlet (hup h40 98 (Int32.toNatClampNeg z39) (1 : Int32)) (fun h42 => Q h42)))), ((8 : Int32), w_X9_number ((0 : Int32)) ((16 : Int32)) h (fun z43 h44 => (vp_in (5 : Int32) 11 ∧ wlet (hup h44 94 (Int32.toNatClampNeg (5 : Int32)) z43) (fun h46 => Q h46)))), ((9 : Int32), (vp_in (8 : Int32) 11 ∧ wlet (hup h 94 (Int32.toNatClampNeg (8 : Int32)) (1 : Int32)) (fun h48 => w_X9_number ((0 : Int32)) ((60 : Int32)) h48 (fun z49 h50 => (vp_in (9 : Int32) 11 ∧ wlet (hup h50 94 (Int32.toNatClampNeg (9 : Int32)) z49) (fun h52 => w_X9_number ((0 : Int32)) ((99 : Int32)) h52 (fun z53 h54 => (vp_in (10 : Int32) 11 ∧ wlet (hup h54 94 (Int32.toNatClampNeg (10 : Int32)) z53) (fun h56 => Q h56))))))))), ((10 : Int32), w_X9_number ((1 : Int32)) ((5400 : Int32)) h (fun z57 h58 => (vp_in (6 : Int32) 11 ∧ wlet (hup h58 94 (Int32.toNatClampNeg (6 : Int32)) z57) (fun h60 => Q h60))))] ((vp_in (7 : Int32) 11 ∧ wlet (hup h 94 (Int32.toNatClampNeg (7 : Int32)) (1 : Int32)) (fun h62 => Q h62)))
theorem t_X9_reads_b210 {X : Cx} (p1 : Int32) (v2 : Int32) (s0 : Int32) (h : Hp) (Q : Hp → Prop) (hw : w_X9_reads_b210 p1 v2 s0 h Q) : G X M_X9_reads E_X9_reads (QM X E_X9_reads (QV Q) Qn) 0 210 [(0, .ref (92)), (1, .int (p1)), (2, .int (v2))] [.int (s0)] h := by
  unfold w_X9_reads_b210 at hw
  refine g_istore (dk D_X9_reads 88 rfl) (by decide) rfl ?_
  refine g_aload_n 1 (dk D_X9_reads 89 rfl) rfl rfl ?_
  refine g_getI 5 (dk D_X9_reads 90 rfl) kd_92 rfl rfl (by decide) w_1362 rfl rfl ?_
  refine g_if_ne (dk D_X9_reads 91 rfl) rfl (wif_m hw (fun hw => ?_) (fun hw => ?_))
  · exact g_vret (dk D_X9_reads 154 rfl) rfl ⟨rfl, hw⟩
  · refine g_aload_n 1 (dk D_X9_reads 92 rfl) rfl rfl ?_
    refine g_getR 16 (t := 100) (dk D_X9_reads 93 rfl) kd_92 rfl rfl (by decide) w_1373 rfl rfl rfl ?_
    refine g_iload_n 3 (dk D_X9_reads 94 rfl) rfl rfl ?_
    obtain ⟨hi1, hw⟩ := hw
    refine g_aald (dk D_X9_reads 95 rfl) kd_100 rfl rfl hi1 ?_
    refine g_iload_n 2 (dk D_X9_reads 96 rfl) rfl rfl ?_
    refine g_iload 0 (dk D_X9_reads 97 rfl) rfl ?_
    obtain ⟨hi2, hw⟩ := hw
    refine g_iast (dk D_X9_reads 98 rfl) (kdf_100 _ (in_lt hi1)) hi2 ?_
    refine g_heap (fun h3 eh3 => ?_)
    replace hw := hw _ eh3
    refine g_goto (dk D_X9_reads 99 rfl) rfl ?_
    exact g_vret (dk D_X9_reads 154 rfl) rfl ⟨rfl, hw⟩
theorem t_X9_reads {X : Cx} (p1 : Int32) (h : Hp) (Q : Hp → Prop) (hw : w_X9_reads p1 h Q) : G X M_X9_reads E_X9_reads (QM X E_X9_reads (QV Q) Qn) 0 0 [(0, .ref (92)), (1, .int (p1))] [] h := by
  unfold w_X9_reads at hw
  refine g_iconst (dk D_X9_reads 0 rfl) ki_0 ?_
  refine g_istore_n (dk D_X9_reads 1 rfl) rfl (by decide) rfl ?_
  refine g_iload_n 2 (dk D_X9_reads 2 rfl) rfl rfl ?_
  refine g_sw [((0 : Int32), 60), ((1 : Int32), 95), ((2 : Int32), 111), ((3 : Int32), 149), ((4 : Int32), 165), ((5 : Int32), 172), ((6 : Int32), 172), ((7 : Int32), 232), ((8 : Int32), 248), ((9 : Int32), 264), ((10 : Int32), 303)] 321 (dk D_X9_reads 3 rfl) (by decide +kernel) (by decide +kernel) (by decide) (by decide) (wsw_m hw ⟨rfl, (fun hw => ?_), rfl, (fun hw => ?_), rfl, (fun hw => ?_), rfl, (fun hw => ?_), rfl, (fun hw => ?_), rfl, (fun hw => ?_), rfl, (fun hw => ?_), rfl, (fun hw => ?_), rfl, (fun hw => ?_), rfl, (fun hw => ?_), rfl, (fun hw => ?_), trivial⟩ (fun hw => ?_))
  · refine g_aload_n 1 (dk D_X9_reads 4 rfl) rfl rfl ?_
    refine g_iconst (dk D_X9_reads 5 rfl) ki_0 ?_
    refine g_bipush (dk D_X9_reads 6 rfl) kb_29 ?_
    refine g_callV (As := [.int ((0 : Int32)), .int ((29 : Int32))]) (kc := 0) (fr := 2) (lo := 57) (mc := 0) (My := M_X9_number) (dk D_X9_reads 7 rfl) kd_92 rfl rfl w_1584 w_1586 w_53 w_110 w_1587 okD_X9_number (by decide) (Nat.le_of_ble_eq_true rfl) rfl (c_X9_number ((0 : Int32)) ((29 : Int32)) (h) _ hw) kxN (kI (fun z1 h2 hw => ?_))
    refine g_istore_n (dk D_X9_reads 8 rfl) rfl (by decide) rfl ?_
    refine g_aload_n 1 (dk D_X9_reads 9 rfl) rfl rfl ?_
    refine g_bipush (dk D_X9_reads 10 rfl) kb_60 ?_
    refine g_sipush (dk D_X9_reads 11 rfl) ks_5400 ?_
    refine g_callV (As := [.int ((60 : Int32)), .int ((5400 : Int32))]) (kc := 0) (fr := 2) (lo := 57) (mc := 0) (My := M_X9_number) (dk D_X9_reads 12 rfl) kd_92 rfl rfl w_1584 w_1586 w_53 w_110 w_1587 okD_X9_number (by decide) (Nat.le_of_ble_eq_true rfl) rfl (c_X9_number ((60 : Int32)) ((5400 : Int32)) (h2) _ hw) kxN (kI (fun z3 h4 hw => ?_))
    refine g_istore_n (dk D_X9_reads 13 rfl) rfl (by decide) rfl ?_
    refine g_aload_n 2 (dk D_X9_reads 14 rfl) rfl rfl ?_
    refine g_getI 5 (dk D_X9_reads 15 rfl) kd_92 rfl rfl (by decide) w_1362 rfl rfl ?_
    refine g_if_ne (dk D_X9_reads 16 rfl) rfl (wif_m hw (fun hw => ?_) (fun hw => ?_))
    · exact g_vret (dk D_X9_reads 154 rfl) rfl ⟨rfl, hw⟩
    · refine g_aload_n 2 (dk D_X9_reads 17 rfl) rfl rfl ?_
      refine g_getR 12 (t := 96) (dk D_X9_reads 18 rfl) kd_92 rfl rfl (by decide) w_1369 rfl rfl rfl ?_
      refine g_iload_n 1 (dk D_X9_reads 19 rfl) rfl rfl ?_
      refine g_iload_n 0 (dk D_X9_reads 20 rfl) rfl rfl ?_
      obtain ⟨hi5, hw⟩ := hw
      refine g_iast (dk D_X9_reads 21 rfl) kd_96 hi5 ?_
      refine g_heap (fun h6 eh6 => ?_)
      replace hw := hw _ eh6
      refine g_goto (dk D_X9_reads 22 rfl) rfl ?_
      exact g_vret (dk D_X9_reads 154 rfl) rfl ⟨rfl, hw⟩
  · refine g_aload_n 1 (dk D_X9_reads 23 rfl) rfl rfl ?_
    refine g_getR 10 (t := 94) (dk D_X9_reads 24 rfl) kd_92 rfl rfl (by decide) w_1367 rfl rfl rfl ?_
    refine g_iconst (dk D_X9_reads 25 rfl) ki_1 ?_
    refine g_aload_n 1 (dk D_X9_reads 26 rfl) rfl rfl ?_
    refine g_iconst (dk D_X9_reads 27 rfl) ki_1 ?_
    refine g_bipush (dk D_X9_reads 28 rfl) kb_9 ?_
    refine g_callV (As := [.int ((1 : Int32)), .int ((9 : Int32))]) (kc := 0) (fr := 2) (lo := 57) (mc := 0) (My := M_X9_number) (dk D_X9_reads 29 rfl) kd_92 rfl rfl w_1584 w_1586 w_53 w_110 w_1587 okD_X9_number (by decide) (Nat.le_of_ble_eq_true rfl) rfl (c_X9_number ((1 : Int32)) ((9 : Int32)) (h) _ hw) kxN (kI (fun z7 h8 hw => ?_))
    obtain ⟨hi9, hw⟩ := hw
    refine g_iast (dk D_X9_reads 30 rfl) kd_94 hi9 ?_
    refine g_heap (fun h10 eh10 => ?_)
    replace hw := hw _ eh10
    refine g_goto (dk D_X9_reads 31 rfl) rfl ?_
    exact g_vret (dk D_X9_reads 154 rfl) rfl ⟨rfl, hw⟩
  · refine g_aload_n 1 (dk D_X9_reads 32 rfl) rfl rfl ?_
    refine g_getR 10 (t := 94) (dk D_X9_reads 33 rfl) kd_92 rfl rfl (by decide) w_1367 rfl rfl rfl ?_
    refine g_iconst (dk D_X9_reads 34 rfl) ki_2 ?_
    refine g_aload_n 1 (dk D_X9_reads 35 rfl) rfl rfl ?_
    refine g_iconst (dk D_X9_reads 36 rfl) ki_0 ?_
    refine g_sipush (dk D_X9_reads 37 rfl) ks_1438 ?_
    refine g_callV (As := [.int ((0 : Int32)), .int ((1438 : Int32))]) (kc := 0) (fr := 2) (lo := 57) (mc := 0) (My := M_X9_number) (dk D_X9_reads 38 rfl) kd_92 rfl rfl w_1584 w_1586 w_53 w_110 w_1587 okD_X9_number (by decide) (Nat.le_of_ble_eq_true rfl) rfl (c_X9_number ((0 : Int32)) ((1438 : Int32)) (h) _ hw) kxN (kI (fun z11 h12 hw => ?_))
    obtain ⟨hi13, hw⟩ := hw
    refine g_iast (dk D_X9_reads 39 rfl) kd_94 hi13 ?_
    refine g_heap (fun h14 eh14 => ?_)
    replace hw := hw _ eh14
    refine g_aload_n 1 (dk D_X9_reads 40 rfl) rfl rfl ?_
    refine g_getR 10 (t := 94) (dk D_X9_reads 41 rfl) kd_92 rfl rfl (by decide) w_1367 rfl rfl rfl ?_
    refine g_iconst (dk D_X9_reads 42 rfl) ki_3 ?_
    refine g_aload_n 1 (dk D_X9_reads 43 rfl) rfl rfl ?_
    refine g_aload_n 1 (dk D_X9_reads 44 rfl) rfl rfl ?_
    refine g_getR 10 (t := 94) (dk D_X9_reads 45 rfl) kd_92 rfl rfl (by decide) w_1367 rfl rfl rfl ?_
    refine g_iconst (dk D_X9_reads 46 rfl) ki_2 ?_
    obtain ⟨hi15, hw⟩ := hw
    refine g_iald (dk D_X9_reads 47 rfl) kd_94 hi15 ?_
    refine g_iconst (dk D_X9_reads 48 rfl) ki_1 ?_
    refine g_iadd (dk D_X9_reads 49 rfl) ?_
    refine g_sipush (dk D_X9_reads 50 rfl) ks_1439 ?_
    refine g_callV (As := [.int (((h14 94 (Int32.toNatClampNeg (2 : Int32))) + (1 : Int32))), .int ((1439 : Int32))]) (kc := 0) (fr := 2) (lo := 57) (mc := 0) (My := M_X9_number) (dk D_X9_reads 51 rfl) kd_92 rfl rfl w_1584 w_1586 w_53 w_110 w_1587 okD_X9_number (by decide) (Nat.le_of_ble_eq_true rfl) rfl (c_X9_number (((h14 94 (Int32.toNatClampNeg (2 : Int32))) + (1 : Int32))) ((1439 : Int32)) (h14) _ hw) kxN (kI (fun z16 h17 hw => ?_))
    obtain ⟨hi18, hw⟩ := hw
    refine g_iast (dk D_X9_reads 52 rfl) kd_94 hi18 ?_
    refine g_heap (fun h19 eh19 => ?_)
    replace hw := hw _ eh19
    refine g_goto (dk D_X9_reads 53 rfl) rfl ?_
    exact g_vret (dk D_X9_reads 154 rfl) rfl ⟨rfl, hw⟩
  · refine g_aload_n 1 (dk D_X9_reads 54 rfl) rfl rfl ?_
    refine g_getR 10 (t := 94) (dk D_X9_reads 55 rfl) kd_92 rfl rfl (by decide) w_1367 rfl rfl rfl ?_
    refine g_iconst (dk D_X9_reads 56 rfl) ki_4 ?_
    refine g_aload_n 1 (dk D_X9_reads 57 rfl) rfl rfl ?_
    refine g_iconst (dk D_X9_reads 58 rfl) ki_1 ?_
    refine g_bipush (dk D_X9_reads 59 rfl) kb_60 ?_
    refine g_callV (As := [.int ((1 : Int32)), .int ((60 : Int32))]) (kc := 0) (fr := 2) (lo := 57) (mc := 0) (My := M_X9_number) (dk D_X9_reads 60 rfl) kd_92 rfl rfl w_1584 w_1586 w_53 w_110 w_1587 okD_X9_number (by decide) (Nat.le_of_ble_eq_true rfl) rfl (c_X9_number ((1 : Int32)) ((60 : Int32)) (h) _ hw) kxN (kI (fun z20 h21 hw => ?_))
    obtain ⟨hi22, hw⟩ := hw
    refine g_iast (dk D_X9_reads 61 rfl) kd_94 hi22 ?_
    refine g_heap (fun h23 eh23 => ?_)
    replace hw := hw _ eh23
    refine g_goto (dk D_X9_reads 62 rfl) rfl ?_
    exact g_vret (dk D_X9_reads 154 rfl) rfl ⟨rfl, hw⟩
  · refine g_aload_n 1 (dk D_X9_reads 63 rfl) rfl rfl ?_
    refine g_callV (As := []) (kc := 0) (fr := 3) (lo := 89) (mc := 0) (My := M_X9_readsWho) (dk D_X9_reads 64 rfl) kd_92 rfl rfl w_1592 w_1594 w_54 w_110 w_1595 okD_X9_readsWho (by decide) (Nat.le_of_ble_eq_true rfl) rfl (c_X9_readsWho (h) _ hw) kxN (kV (fun h24 hw => ?_))
    refine g_goto (dk D_X9_reads 65 rfl) rfl ?_
    exact g_vret (dk D_X9_reads 154 rfl) rfl ⟨rfl, hw⟩
  · refine g_aload_n 1 (dk D_X9_reads 66 rfl) rfl rfl ?_
    refine g_iconst (dk D_X9_reads 67 rfl) ki_0 ?_
    refine g_aload_n 1 (dk D_X9_reads 68 rfl) rfl rfl ?_
    refine g_getR 10 (t := 94) (dk D_X9_reads 69 rfl) kd_92 rfl rfl (by decide) w_1367 rfl rfl rfl ?_
    refine g_iconst (dk D_X9_reads 70 rfl) ki_0 ?_
    obtain ⟨hi25, hw⟩ := hw
    refine g_iald (dk D_X9_reads 71 rfl) kd_94 hi25 ?_
    refine g_iconst (dk D_X9_reads 72 rfl) ki_1 ?_
    refine g_isub (dk D_X9_reads 73 rfl) ?_
    refine g_callV (As := [.int ((0 : Int32)), .int (((h 94 (Int32.toNatClampNeg (0 : Int32))) - (1 : Int32)))]) (kc := 0) (fr := 2) (lo := 57) (mc := 0) (My := M_X9_number) (dk D_X9_reads 74 rfl) kd_92 rfl rfl w_1584 w_1586 w_53 w_110 w_1587 okD_X9_number (by decide) (Nat.le_of_ble_eq_true rfl) rfl (c_X9_number ((0 : Int32)) (((h 94 (Int32.toNatClampNeg (0 : Int32))) - (1 : Int32))) (h) _ hw) kxN (kI (fun z26 h27 hw => ?_))
    refine g_istore_n (dk D_X9_reads 75 rfl) rfl (by decide) rfl ?_
    refine g_iload_n 2 (dk D_X9_reads 76 rfl) rfl rfl ?_
    refine g_iconst (dk D_X9_reads 77 rfl) ki_5 ?_
    refine g_icmp_ne (dk D_X9_reads 78 rfl) rfl (wif_m hw (fun hw => ?_) (fun hw => ?_))
    · refine g_aload_n 1 (dk D_X9_reads 84 rfl) rfl rfl ?_
      refine g_bipush (dk D_X9_reads 85 rfl) kb_10 ?_
      refine g_sipush (dk D_X9_reads 86 rfl) ks_400 ?_
      refine g_callV (As := [.int ((10 : Int32)), .int ((400 : Int32))]) (kc := 0) (fr := 2) (lo := 57) (mc := 0) (My := M_X9_number) (dk D_X9_reads 87 rfl) kd_92 rfl rfl w_1584 w_1586 w_53 w_110 w_1587 okD_X9_number (by decide) (Nat.le_of_ble_eq_true rfl) rfl (c_X9_number ((10 : Int32)) ((400 : Int32)) (h27) _ hw) kxN (kI (fun z28 h29 hw => ?_))
      refine g_sub [1, 2, 0] rfl ?_
      exact t_X9_reads_b210 p1 (z26) (z28) (h29) Q hw
    · refine g_aload_n 1 (dk D_X9_reads 79 rfl) rfl rfl ?_
      refine g_iconst (dk D_X9_reads 80 rfl) ki_1 ?_
      refine g_bipush (dk D_X9_reads 81 rfl) kb_99 ?_
      refine g_callV (As := [.int ((1 : Int32)), .int ((99 : Int32))]) (kc := 0) (fr := 2) (lo := 57) (mc := 0) (My := M_X9_number) (dk D_X9_reads 82 rfl) kd_92 rfl rfl w_1584 w_1586 w_53 w_110 w_1587 okD_X9_number (by decide) (Nat.le_of_ble_eq_true rfl) rfl (c_X9_number ((1 : Int32)) ((99 : Int32)) (h27) _ hw) kxN (kI (fun z30 h31 hw => ?_))
      refine g_goto (dk D_X9_reads 83 rfl) rfl ?_
      refine g_sub [1, 2, 0] rfl ?_
      exact t_X9_reads_b210 p1 (z26) (z30) (h31) Q hw
  · refine g_aload_n 1 (dk D_X9_reads 66 rfl) rfl rfl ?_
    refine g_iconst (dk D_X9_reads 67 rfl) ki_0 ?_
    refine g_aload_n 1 (dk D_X9_reads 68 rfl) rfl rfl ?_
    refine g_getR 10 (t := 94) (dk D_X9_reads 69 rfl) kd_92 rfl rfl (by decide) w_1367 rfl rfl rfl ?_
    refine g_iconst (dk D_X9_reads 70 rfl) ki_0 ?_
    obtain ⟨hi32, hw⟩ := hw
    refine g_iald (dk D_X9_reads 71 rfl) kd_94 hi32 ?_
    refine g_iconst (dk D_X9_reads 72 rfl) ki_1 ?_
    refine g_isub (dk D_X9_reads 73 rfl) ?_
    refine g_callV (As := [.int ((0 : Int32)), .int (((h 94 (Int32.toNatClampNeg (0 : Int32))) - (1 : Int32)))]) (kc := 0) (fr := 2) (lo := 57) (mc := 0) (My := M_X9_number) (dk D_X9_reads 74 rfl) kd_92 rfl rfl w_1584 w_1586 w_53 w_110 w_1587 okD_X9_number (by decide) (Nat.le_of_ble_eq_true rfl) rfl (c_X9_number ((0 : Int32)) (((h 94 (Int32.toNatClampNeg (0 : Int32))) - (1 : Int32))) (h) _ hw) kxN (kI (fun z33 h34 hw => ?_))
    refine g_istore_n (dk D_X9_reads 75 rfl) rfl (by decide) rfl ?_
    refine g_iload_n 2 (dk D_X9_reads 76 rfl) rfl rfl ?_
    refine g_iconst (dk D_X9_reads 77 rfl) ki_5 ?_
    refine g_icmp_ne (dk D_X9_reads 78 rfl) rfl (wif_m hw (fun hw => ?_) (fun hw => ?_))
    · refine g_aload_n 1 (dk D_X9_reads 84 rfl) rfl rfl ?_
      refine g_bipush (dk D_X9_reads 85 rfl) kb_10 ?_
      refine g_sipush (dk D_X9_reads 86 rfl) ks_400 ?_
      refine g_callV (As := [.int ((10 : Int32)), .int ((400 : Int32))]) (kc := 0) (fr := 2) (lo := 57) (mc := 0) (My := M_X9_number) (dk D_X9_reads 87 rfl) kd_92 rfl rfl w_1584 w_1586 w_53 w_110 w_1587 okD_X9_number (by decide) (Nat.le_of_ble_eq_true rfl) rfl (c_X9_number ((10 : Int32)) ((400 : Int32)) (h34) _ hw) kxN (kI (fun z35 h36 hw => ?_))
      refine g_sub [1, 2, 0] rfl ?_
      exact t_X9_reads_b210 p1 (z33) (z35) (h36) Q hw
    · refine g_aload_n 1 (dk D_X9_reads 79 rfl) rfl rfl ?_
      refine g_iconst (dk D_X9_reads 80 rfl) ki_1 ?_
      refine g_bipush (dk D_X9_reads 81 rfl) kb_99 ?_
      refine g_callV (As := [.int ((1 : Int32)), .int ((99 : Int32))]) (kc := 0) (fr := 2) (lo := 57) (mc := 0) (My := M_X9_number) (dk D_X9_reads 82 rfl) kd_92 rfl rfl w_1584 w_1586 w_53 w_110 w_1587 okD_X9_number (by decide) (Nat.le_of_ble_eq_true rfl) rfl (c_X9_number ((1 : Int32)) ((99 : Int32)) (h34) _ hw) kxN (kI (fun z37 h38 hw => ?_))
      refine g_goto (dk D_X9_reads 83 rfl) rfl ?_
      refine g_sub [1, 2, 0] rfl ?_
      exact t_X9_reads_b210 p1 (z33) (z37) (h38) Q hw
  · refine g_aload_n 1 (dk D_X9_reads 100 rfl) rfl rfl ?_
    refine g_getR 14 (t := 98) (dk D_X9_reads 101 rfl) kd_92 rfl rfl (by decide) w_1371 rfl rfl rfl ?_
    refine g_aload_n 1 (dk D_X9_reads 102 rfl) rfl rfl ?_
    refine g_iconst (dk D_X9_reads 103 rfl) ki_0 ?_
    refine g_bipush (dk D_X9_reads 104 rfl) kb_29 ?_
    refine g_callV (As := [.int ((0 : Int32)), .int ((29 : Int32))]) (kc := 0) (fr := 2) (lo := 57) (mc := 0) (My := M_X9_number) (dk D_X9_reads 105 rfl) kd_92 rfl rfl w_1584 w_1586 w_53 w_110 w_1587 okD_X9_number (by decide) (Nat.le_of_ble_eq_true rfl) rfl (c_X9_number ((0 : Int32)) ((29 : Int32)) (h) _ hw) kxN (kI (fun z39 h40 hw => ?_))
    refine g_iconst (dk D_X9_reads 106 rfl) ki_1 ?_
    obtain ⟨hi41, hw⟩ := hw
    refine g_iast (dk D_X9_reads 107 rfl) kd_98 hi41 ?_
    refine g_heap (fun h42 eh42 => ?_)
    replace hw := hw _ eh42
    refine g_goto (dk D_X9_reads 108 rfl) rfl ?_
    exact g_vret (dk D_X9_reads 154 rfl) rfl ⟨rfl, hw⟩
  · refine g_aload_n 1 (dk D_X9_reads 109 rfl) rfl rfl ?_
    refine g_getR 10 (t := 94) (dk D_X9_reads 110 rfl) kd_92 rfl rfl (by decide) w_1367 rfl rfl rfl ?_
    refine g_iconst (dk D_X9_reads 111 rfl) ki_5 ?_
    refine g_aload_n 1 (dk D_X9_reads 112 rfl) rfl rfl ?_
    refine g_iconst (dk D_X9_reads 113 rfl) ki_0 ?_
    refine g_bipush (dk D_X9_reads 114 rfl) kb_16 ?_
    refine g_callV (As := [.int ((0 : Int32)), .int ((16 : Int32))]) (kc := 0) (fr := 2) (lo := 57) (mc := 0) (My := M_X9_number) (dk D_X9_reads 115 rfl) kd_92 rfl rfl w_1584 w_1586 w_53 w_110 w_1587 okD_X9_number (by decide) (Nat.le_of_ble_eq_true rfl) rfl (c_X9_number ((0 : Int32)) ((16 : Int32)) (h) _ hw) kxN (kI (fun z43 h44 hw => ?_))
    obtain ⟨hi45, hw⟩ := hw
    refine g_iast (dk D_X9_reads 116 rfl) kd_94 hi45 ?_
    refine g_heap (fun h46 eh46 => ?_)
    replace hw := hw _ eh46
    refine g_goto (dk D_X9_reads 117 rfl) rfl ?_
    exact g_vret (dk D_X9_reads 154 rfl) rfl ⟨rfl, hw⟩
  · refine g_aload_n 1 (dk D_X9_reads 118 rfl) rfl rfl ?_
    refine g_getR 10 (t := 94) (dk D_X9_reads 119 rfl) kd_92 rfl rfl (by decide) w_1367 rfl rfl rfl ?_
    refine g_bipush (dk D_X9_reads 120 rfl) kb_8 ?_
    refine g_iconst (dk D_X9_reads 121 rfl) ki_1 ?_
    obtain ⟨hi47, hw⟩ := hw
    refine g_iast (dk D_X9_reads 122 rfl) kd_94 hi47 ?_
    refine g_heap (fun h48 eh48 => ?_)
    replace hw := hw _ eh48
    refine g_aload_n 1 (dk D_X9_reads 123 rfl) rfl rfl ?_
    refine g_getR 10 (t := 94) (dk D_X9_reads 124 rfl) kd_92 rfl rfl (by decide) w_1367 rfl rfl rfl ?_
    refine g_bipush (dk D_X9_reads 125 rfl) kb_9 ?_
    refine g_aload_n 1 (dk D_X9_reads 126 rfl) rfl rfl ?_
    refine g_iconst (dk D_X9_reads 127 rfl) ki_0 ?_
    refine g_bipush (dk D_X9_reads 128 rfl) kb_60 ?_
    refine g_callV (As := [.int ((0 : Int32)), .int ((60 : Int32))]) (kc := 0) (fr := 2) (lo := 57) (mc := 0) (My := M_X9_number) (dk D_X9_reads 129 rfl) kd_92 rfl rfl w_1584 w_1586 w_53 w_110 w_1587 okD_X9_number (by decide) (Nat.le_of_ble_eq_true rfl) rfl (c_X9_number ((0 : Int32)) ((60 : Int32)) (h48) _ hw) kxN (kI (fun z49 h50 hw => ?_))
    obtain ⟨hi51, hw⟩ := hw
    refine g_iast (dk D_X9_reads 130 rfl) kd_94 hi51 ?_
    refine g_heap (fun h52 eh52 => ?_)
    replace hw := hw _ eh52
    refine g_aload_n 1 (dk D_X9_reads 131 rfl) rfl rfl ?_
    refine g_getR 10 (t := 94) (dk D_X9_reads 132 rfl) kd_92 rfl rfl (by decide) w_1367 rfl rfl rfl ?_
    refine g_bipush (dk D_X9_reads 133 rfl) kb_10 ?_
    refine g_aload_n 1 (dk D_X9_reads 134 rfl) rfl rfl ?_
    refine g_iconst (dk D_X9_reads 135 rfl) ki_0 ?_
    refine g_bipush (dk D_X9_reads 136 rfl) kb_99 ?_
    refine g_callV (As := [.int ((0 : Int32)), .int ((99 : Int32))]) (kc := 0) (fr := 2) (lo := 57) (mc := 0) (My := M_X9_number) (dk D_X9_reads 137 rfl) kd_92 rfl rfl w_1584 w_1586 w_53 w_110 w_1587 okD_X9_number (by decide) (Nat.le_of_ble_eq_true rfl) rfl (c_X9_number ((0 : Int32)) ((99 : Int32)) (h52) _ hw) kxN (kI (fun z53 h54 hw => ?_))
    obtain ⟨hi55, hw⟩ := hw
    refine g_iast (dk D_X9_reads 138 rfl) kd_94 hi55 ?_
    refine g_heap (fun h56 eh56 => ?_)
    replace hw := hw _ eh56
    refine g_goto (dk D_X9_reads 139 rfl) rfl ?_
    exact g_vret (dk D_X9_reads 154 rfl) rfl ⟨rfl, hw⟩
  · refine g_aload_n 1 (dk D_X9_reads 140 rfl) rfl rfl ?_
    refine g_getR 10 (t := 94) (dk D_X9_reads 141 rfl) kd_92 rfl rfl (by decide) w_1367 rfl rfl rfl ?_
    refine g_bipush (dk D_X9_reads 142 rfl) kb_6 ?_
    refine g_aload_n 1 (dk D_X9_reads 143 rfl) rfl rfl ?_
    refine g_iconst (dk D_X9_reads 144 rfl) ki_1 ?_
    refine g_sipush (dk D_X9_reads 145 rfl) ks_5400 ?_
    refine g_callV (As := [.int ((1 : Int32)), .int ((5400 : Int32))]) (kc := 0) (fr := 2) (lo := 57) (mc := 0) (My := M_X9_number) (dk D_X9_reads 146 rfl) kd_92 rfl rfl w_1584 w_1586 w_53 w_110 w_1587 okD_X9_number (by decide) (Nat.le_of_ble_eq_true rfl) rfl (c_X9_number ((1 : Int32)) ((5400 : Int32)) (h) _ hw) kxN (kI (fun z57 h58 hw => ?_))
    obtain ⟨hi59, hw⟩ := hw
    refine g_iast (dk D_X9_reads 147 rfl) kd_94 hi59 ?_
    refine g_heap (fun h60 eh60 => ?_)
    replace hw := hw _ eh60
    refine g_goto (dk D_X9_reads 148 rfl) rfl ?_
    exact g_vret (dk D_X9_reads 154 rfl) rfl ⟨rfl, hw⟩
  · refine g_aload_n 1 (dk D_X9_reads 149 rfl) rfl rfl ?_
    refine g_getR 10 (t := 94) (dk D_X9_reads 150 rfl) kd_92 rfl rfl (by decide) w_1367 rfl rfl rfl ?_
    refine g_bipush (dk D_X9_reads 151 rfl) kb_7 ?_
    refine g_iconst (dk D_X9_reads 152 rfl) ki_1 ?_
    obtain ⟨hi61, hw⟩ := hw
    refine g_iast (dk D_X9_reads 153 rfl) kd_94 hi61 ?_
    refine g_heap (fun h62 eh62 => ?_)
    replace hw := hw _ eh62
    exact g_vret (dk D_X9_reads 154 rfl) rfl ⟨rfl, hw⟩
theorem c_X9_reads {X : Cx} (p1 : Int32) (h : Hp) (Q : Hp → Prop) (hw : w_X9_reads p1 h Q) : Con X yX9_reads M_X9_reads 4 118 0 [.ref (92), .int (p1)] h (QV Q) Qn :=
  con_of (by decide +kernel) rfl (Nat.le_of_ble_eq_true rfl) (t_X9_reads p1 h Q hw)
/-! ShadowTollsModel.clause()V -/
abbrev M_X9_clause : Mi := (RX9, cX9_clause, 2, none)
abbrev E_X9_clause : Rm := (5, 150, 0, 0)
def rows_X9_clause : List (Nat × Instr × Nat) := [(0, .aload_n 0, 1), (1, .invokevirtual 184, 3), (4, .istore_n 1, 1), (5, .iload_n 1, 1), (6, .iconst (-1), 1), (7, .if_icmp .ne 15, 3), (10, .aload_n 0, 1), (11, .iconst 1, 1), (12, .aload_n 0, 1), (13, .getfield 120, 3), (16, .invokevirtual 140, 3), (19, .goto 37, 3), (22, .aload_n 0, 1), (23, .getfield 169, 3), (26, .bipush 40, 2), (28, .if_icmp .eq 19, 3), (31, .iload_n 1, 1), (32, .iconst 4, 1), (33, .if_icmp .ne 23, 3), (36, .aload_n 0, 1), (37, .getfield 17, 3), (40, .iconst 0, 1), (41, .iaload, 1), (42, .bipush 8, 2), (44, .if_icmp .ne 12, 3), (47, .aload_n 0, 1), (48, .iconst 3, 1), (49, .aload_n 0, 1), (50, .getfield 120, 3), (53, .invokevirtual 140, 3), (56, .aload_n 0, 1), (57, .getfield 127, 3), (60, .ifCond .eq 4, 3), (63, .return_, 1), (64, .aload_n 0, 1), (65, .invokevirtual 163, 3), (68, .aload_n 0, 1), (69, .dup, 1), (70, .getfield 169, 3), (73, .iconst 1, 1), (74, .iadd, 1), (75, .putfield 169, 3), (78, .aload_n 0, 1), (79, .iload_n 1, 1), (80, .invokevirtual 188, 3), (83, .aload_n 0, 1), (84, .bipush 59, 2), (86, .invokevirtual 192, 3), (89, .return_, 1)]
theorem D_X9_clause : dkA cX9_clause rows_X9_clause := by
  unfold dkA
  decide +kernel
theorem okD_X9_clause : okD yX9_clause 0 := by
  unfold okD
  decide +kernel
def w_X9_clause_b56 (v1 : Int32) (h : Hp) (Q : Hp → Prop) : Prop :=
  wif ((h 92 5) = 0) (w_X9_skipWord  h (fun h1 => wlet (hup h1 92 7 ((h1 92 7) + (1 : Int32))) (fun h2 => w_X9_reads (v1) h2 (fun h3 => w_X9_sign ((59 : Int32)) h3 (fun h4 => Q h4))))) (Q h)
def w_X9_clause_b47 (v1 : Int32) (h : Hp) (Q : Hp → Prop) : Prop :=
  w_X9_wrong ((3 : Int32)) ((h 92 4)) h (fun h1 => w_X9_clause_b56 (v1) (h1) Q)
def w_X9_clause (h : Hp) (Q : Hp → Prop) : Prop :=
  w_X9_kindHere  h (fun z1 h2 => wif (¬ z1 = (-1 : Int32)) (wif ((h2 92 7) = (40 : Int32)) (w_X9_clause_b47 (z1) (h2) Q) (wif (¬ z1 = (4 : Int32)) (w_X9_clause_b56 (z1) (h2) Q) ((vp_in (0 : Int32) 11 ∧ wif (¬ (h2 94 (Int32.toNatClampNeg (0 : Int32))) = (8 : Int32)) (w_X9_clause_b56 (z1) (h2) Q) (w_X9_clause_b47 (z1) (h2) Q))))) (w_X9_wrong ((1 : Int32)) ((h2 92 4)) h2 (fun h4 => w_X9_clause_b56 (z1) (h4) Q)))
theorem t_X9_clause_b56 {X : Cx} (v1 : Int32) (h : Hp) (Q : Hp → Prop) (hw : w_X9_clause_b56 v1 h Q) : G X M_X9_clause E_X9_clause (QM X E_X9_clause (QV Q) Qn) 0 56 [(0, .ref (92)), (1, .int (v1))] [] h := by
  unfold w_X9_clause_b56 at hw
  refine g_aload_n 0 (dk D_X9_clause 30 rfl) rfl rfl ?_
  refine g_getI 5 (dk D_X9_clause 31 rfl) kd_92 rfl rfl (by decide) w_1362 rfl rfl ?_
  refine g_if_eq (dk D_X9_clause 32 rfl) rfl (wif_m hw (fun hw => ?_) (fun hw => ?_))
  · refine g_aload_n 0 (dk D_X9_clause 34 rfl) rfl rfl ?_
    refine g_callV (As := []) (kc := 0) (fr := 1) (lo := 29) (mc := 0) (My := M_X9_skipWord) (dk D_X9_clause 35 rfl) kd_92 rfl rfl w_1576 w_1578 w_51 w_110 w_1579 okD_X9_skipWord (by decide) (Nat.le_of_ble_eq_true rfl) rfl (c_X9_skipWord (h) _ hw) kxN (kV (fun h1 hw => ?_))
    refine g_aload_n 0 (dk D_X9_clause 36 rfl) rfl rfl ?_
    refine g_dup (dk D_X9_clause 37 rfl) rfl ?_
    refine g_getI 7 (dk D_X9_clause 38 rfl) kd_92 rfl rfl (by decide) w_1364 rfl rfl ?_
    refine g_iconst (dk D_X9_clause 39 rfl) ki_1 ?_
    refine g_iadd (dk D_X9_clause 40 rfl) ?_
    refine g_put 7 (dk D_X9_clause 41 rfl) kd_92 rfl rfl (by decide) w_1364 rfl tyX9_ok nmX9 rfl (by decide) rfl (fun z => absurd z (by decide)) ?_
    refine g_heap (fun h2 eh2 => ?_)
    replace hw := hw _ eh2
    refine g_aload_n 0 (dk D_X9_clause 42 rfl) rfl rfl ?_
    refine g_iload_n 1 (dk D_X9_clause 43 rfl) rfl rfl ?_
    refine g_callV (As := [.int (v1)]) (kc := 0) (fr := 4) (lo := 118) (mc := 0) (My := M_X9_reads) (dk D_X9_clause 44 rfl) kd_92 rfl rfl w_1580 w_1582 w_52 w_110 w_1583 okD_X9_reads (by decide) (Nat.le_of_ble_eq_true rfl) rfl (c_X9_reads (v1) (h2) _ hw) kxN (kV (fun h3 hw => ?_))
    refine g_aload_n 0 (dk D_X9_clause 45 rfl) rfl rfl ?_
    refine g_bipush (dk D_X9_clause 46 rfl) kb_59 ?_
    refine g_callV (As := [.int ((59 : Int32))]) (kc := 0) (fr := 2) (lo := 57) (mc := 0) (My := M_X9_sign) (dk D_X9_clause 47 rfl) kd_92 rfl rfl w_1596 w_1598 w_55 w_110 w_1599 okD_X9_sign (by decide) (Nat.le_of_ble_eq_true rfl) rfl (c_X9_sign ((59 : Int32)) (h3) _ hw) kxN (kV (fun h4 hw => ?_))
    exact g_vret (dk D_X9_clause 48 rfl) rfl ⟨rfl, hw⟩
  · exact g_vret (dk D_X9_clause 33 rfl) rfl ⟨rfl, hw⟩
theorem t_X9_clause_b47 {X : Cx} (v1 : Int32) (h : Hp) (Q : Hp → Prop) (hw : w_X9_clause_b47 v1 h Q) : G X M_X9_clause E_X9_clause (QM X E_X9_clause (QV Q) Qn) 0 47 [(0, .ref (92)), (1, .int (v1))] [] h := by
  unfold w_X9_clause_b47 at hw
  refine g_aload_n 0 (dk D_X9_clause 25 rfl) rfl rfl ?_
  refine g_iconst (dk D_X9_clause 26 rfl) ki_3 ?_
  refine g_aload_n 0 (dk D_X9_clause 27 rfl) rfl rfl ?_
  refine g_getI 4 (dk D_X9_clause 28 rfl) kd_92 rfl rfl (by decide) w_1361 rfl rfl ?_
  refine g_callV (As := [.int ((3 : Int32)), .int ((h 92 4))]) (kc := 0) (fr := 0) (lo := 0) (mc := 0) (My := M_X9_wrong) (dk D_X9_clause 29 rfl) kd_92 rfl rfl w_1572 w_1574 w_50 w_110 w_1575 okD_X9_wrong (by decide) (Nat.le_of_ble_eq_true rfl) rfl (c_X9_wrong ((3 : Int32)) ((h 92 4)) (h) _ hw) kxN (kV (fun h1 hw => ?_))
  exact t_X9_clause_b56 (v1) (h1) Q hw
theorem t_X9_clause {X : Cx} (h : Hp) (Q : Hp → Prop) (hw : w_X9_clause h Q) : G X M_X9_clause E_X9_clause (QM X E_X9_clause (QV Q) Qn) 0 0 [(0, .ref (92))] [] h := by
  unfold w_X9_clause at hw
  refine g_aload_n 0 (dk D_X9_clause 0 rfl) rfl rfl ?_
  refine g_callV (As := []) (kc := 0) (fr := 4) (lo := 118) (mc := 0) (My := M_X9_kindHere) (dk D_X9_clause 1 rfl) kd_92 rfl rfl w_1550 w_1552 w_47 w_110 w_1553 okD_X9_kindHere (by decide) (Nat.le_of_ble_eq_true rfl) rfl (c_X9_kindHere (h) _ hw) kxN (kI (fun z1 h2 hw => ?_))
  refine g_istore_n (dk D_X9_clause 2 rfl) rfl (by decide) rfl ?_
  refine g_iload_n 0 (dk D_X9_clause 3 rfl) rfl rfl ?_
  refine g_iconst (dk D_X9_clause 4 rfl) ki_m1 ?_
  refine g_icmp_ne (dk D_X9_clause 5 rfl) rfl (wif_m hw (fun hw => ?_) (fun hw => ?_))
  · refine g_aload_n 1 (dk D_X9_clause 12 rfl) rfl rfl ?_
    refine g_getI 7 (dk D_X9_clause 13 rfl) kd_92 rfl rfl (by decide) w_1364 rfl rfl ?_
    refine g_bipush (dk D_X9_clause 14 rfl) kb_40 ?_
    refine g_icmp_eq (dk D_X9_clause 15 rfl) rfl (wif_m hw (fun hw => ?_) (fun hw => ?_))
    · refine g_sub [1, 0] rfl ?_
      exact t_X9_clause_b47 (z1) (h2) Q hw
    · refine g_iload_n 0 (dk D_X9_clause 16 rfl) rfl rfl ?_
      refine g_iconst (dk D_X9_clause 17 rfl) ki_4 ?_
      refine g_icmp_ne (dk D_X9_clause 18 rfl) rfl (wif_m hw (fun hw => ?_) (fun hw => ?_))
      · refine g_sub [1, 0] rfl ?_
        exact t_X9_clause_b56 (z1) (h2) Q hw
      · refine g_aload_n 1 (dk D_X9_clause 19 rfl) rfl rfl ?_
        refine g_getR 10 (t := 94) (dk D_X9_clause 20 rfl) kd_92 rfl rfl (by decide) w_1367 rfl rfl rfl ?_
        refine g_iconst (dk D_X9_clause 21 rfl) ki_0 ?_
        obtain ⟨hi3, hw⟩ := hw
        refine g_iald (dk D_X9_clause 22 rfl) kd_94 hi3 ?_
        refine g_bipush (dk D_X9_clause 23 rfl) kb_8 ?_
        refine g_icmp_ne (dk D_X9_clause 24 rfl) rfl (wif_m hw (fun hw => ?_) (fun hw => ?_))
        · refine g_sub [1, 0] rfl ?_
          exact t_X9_clause_b56 (z1) (h2) Q hw
        · refine g_sub [1, 0] rfl ?_
          exact t_X9_clause_b47 (z1) (h2) Q hw
  · refine g_aload_n 1 (dk D_X9_clause 6 rfl) rfl rfl ?_
    refine g_iconst (dk D_X9_clause 7 rfl) ki_1 ?_
    refine g_aload_n 1 (dk D_X9_clause 8 rfl) rfl rfl ?_
    refine g_getI 4 (dk D_X9_clause 9 rfl) kd_92 rfl rfl (by decide) w_1361 rfl rfl ?_
    refine g_callV (As := [.int ((1 : Int32)), .int ((h2 92 4))]) (kc := 0) (fr := 0) (lo := 0) (mc := 0) (My := M_X9_wrong) (dk D_X9_clause 10 rfl) kd_92 rfl rfl w_1572 w_1574 w_50 w_110 w_1575 okD_X9_wrong (by decide) (Nat.le_of_ble_eq_true rfl) rfl (c_X9_wrong ((1 : Int32)) ((h2 92 4)) (h2) _ hw) kxN (kV (fun h4 hw => ?_))
    refine g_goto (dk D_X9_clause 11 rfl) rfl ?_
    refine g_sub [1, 0] rfl ?_
    exact t_X9_clause_b56 (z1) (h4) Q hw
theorem c_X9_clause {X : Cx} (h : Hp) (Q : Hp → Prop) (hw : w_X9_clause h Q) : Con X yX9_clause M_X9_clause 5 150 0 [.ref (92)] h (QV Q) Qn :=
  con_of (by decide +kernel) rfl (Nat.le_of_ble_eq_true rfl) (t_X9_clause h Q hw)
/-! ShadowTollsModel.bridge(I)I -/
abbrev M_X9_bridge : Mi := (RX9, cX9_bridge, 4, (some .int))
abbrev E_X9_bridge : Rm := (6, 179, 0, 0)
def rows_X9_bridge : List (Nat × Instr × Nat) := [(0, .aload_n 0, 1), (1, .iconst 0, 1), (2, .putfield 111, 3), (5, .aload_n 0, 1), (6, .iload_n 1, 1), (7, .iconst 0, 1), (8, .aload_n 0, 1), (9, .getfield 114, 3), (12, .invokestatic 145, 3), (15, .ifCond .ne 7, 3), (18, .iconst 1, 1), (19, .goto 4, 3), (22, .iconst 0, 1), (23, .iconst 1, 1), (24, .invokevirtual 202, 3), (27, .ifCond .eq 5, 3), (30, .iconst 0, 1), (31, .ireturn, 1), (32, .aload_n 0, 1), (33, .iload_n 1, 1), (34, .invokevirtual 206, 3), (37, .aload_n 0, 1), (38, .getfield 17, 3), (41, .aload_n 0, 1), (42, .getfield 23, 3), (45, .aload_n 0, 1), (46, .getfield 29, 3), (49, .invokestatic 107, 3), (52, .aload_n 0, 1), (53, .invokevirtual 133, 3), (56, .aload_n 0, 1), (57, .getfield 127, 3), (60, .ifCond .ne 25, 3), (63, .aload_n 0, 1), (64, .getfield 120, 3), (67, .aload_n 0, 1), (68, .getfield 117, 3), (71, .if_icmp .ge 14, 3), (74, .aload_n 0, 1), (75, .invokevirtual 209, 3), (78, .aload_n 0, 1), (79, .invokevirtual 133, 3), (82, .goto (-26), 3), (85, .aload_n 0, 1), (86, .aload_n 0, 1), (87, .getfield 130, 3), (90, .putfield 9, 3), (93, .aload_n 0, 1), (94, .getfield 127, 3), (97, .ifCond .eq 11, 3), (100, .aload_n 0, 1), (101, .getfield 127, 3), (104, .bipush 10, 2), (106, .isub, 1), (107, .ireturn, 1), (108, .iconst 0, 1), (109, .istore_n 2, 1), (110, .iload_n 2, 1), (111, .bipush 11, 2), (113, .if_icmp .ge 21, 3), (116, .aload_n 0, 1), (117, .getfield 20, 3), (120, .iload_n 2, 1), (121, .aload_n 0, 1), (122, .getfield 17, 3), (125, .iload_n 2, 1), (126, .iaload, 1), (127, .iastore, 1), (128, .iinc 2 1, 3), (131, .goto (-21), 3), (134, .iconst 0, 1), (135, .istore_n 2, 1), (136, .iload_n 2, 1), (137, .bipush 30, 2), (139, .if_icmp .ge 40, 3), (142, .aload_n 0, 1), (143, .getfield 26, 3), (146, .iload_n 2, 1), (147, .aload_n 0, 1), (148, .getfield 23, 3), (151, .iload_n 2, 1), (152, .iaload, 1), (153, .iastore, 1), (154, .aload_n 0, 1), (155, .getfield 32, 3), (158, .iload_n 2, 1), (159, .aload_n 0, 1), (160, .getfield 29, 3), (163, .iload_n 2, 1), (164, .iaload, 1), (165, .iastore, 1), (166, .aload_n 0, 1), (167, .getfield 67, 3), (170, .iload_n 2, 1), (171, .iconst (-1), 1), (172, .iastore, 1), (173, .iinc 2 1, 3), (176, .goto (-40), 3), (179, .iconst 0, 1), (180, .istore_n 2, 1), (181, .iload_n 2, 1), (182, .bipush 8, 2), (184, .if_icmp .ge 39, 3), (187, .iconst 0, 1), (188, .istore_n 3, 1), (189, .iload_n 3, 1), (190, .bipush 7, 2), (192, .if_icmp .ge 25, 3), (195, .aload_n 0, 1), (196, .getfield 40, 3), (199, .iload_n 2, 1), (200, .aaload, 1), (201, .iload_n 3, 1), (202, .aload_n 0, 1), (203, .getfield 37, 3), (206, .iload_n 2, 1), (207, .aaload, 1), (208, .iload_n 3, 1), (209, .iaload, 1), (210, .iastore, 1), (211, .iinc 3 1, 3), (214, .goto (-25), 3), (217, .iinc 2 1, 3), (220, .goto (-39), 3), (223, .aload_n 0, 1), (224, .getfield 64, 3), (227, .iconst 0, 1), (228, .iconst 0, 1), (229, .iastore, 1), (230, .aload_n 0, 1), (231, .getfield 64, 3), (234, .iconst 1, 1), (235, .iconst 0, 1), (236, .iastore, 1), (237, .aload_n 0, 1), (238, .iconst 0, 1), (239, .putfield 212, 3), (242, .aload_n 0, 1), (243, .iconst 0, 1), (244, .putfield 215, 3), (247, .aload_n 0, 1), (248, .iconst 0, 1), (249, .putfield 218, 3), (252, .aload_n 0, 1), (253, .getfield 20, 3), (256, .iconst 0, 1), (257, .iaload, 1), (258, .ireturn, 1)]
theorem D_X9_bridge : dkA cX9_bridge rows_X9_bridge := by
  unfold dkA
  decide +kernel
theorem okD_X9_bridge : okD yX9_bridge 1 := by
  unfold okD
  decide +kernel
def w_X9_bridge_l189 (p1 : Int32) (v2 : Int32) (K181 : Int32 × Hp → Prop) (Q : Int32 → Hp → Prop) (K189 : Int32 × Hp → Prop) (v3 : Int32) (h : Hp) : Prop :=
  wif ((7 : Int32) ≤ v3) (K181 ((v2 + (1 : Int32)), h)) ((vp_in v2 8 ∧ (vp_in v2 8 ∧ (vp_in v3 7 ∧ (vp_in v3 7 ∧ wlet (hup h (110 + 1 * Int32.toNatClampNeg (v2)) (Int32.toNatClampNeg v3) (h (101 + 1 * Int32.toNatClampNeg (v2)) (Int32.toNatClampNeg v3))) (fun h5 => K189 ((v3 + (1 : Int32)), h5)))))))
def w_X9_bridge_b189 (p1 : Int32) (v2 : Int32) (K181 : Int32 × Hp → Prop) (Q : Int32 → Hp → Prop) (s : Int32 × Hp) : Prop := wl (fun K s => w_X9_bridge_l189 p1 v2 K181 Q K s.1 s.2) s
def w_X9_bridge_l181 (p1 : Int32) (Q : Int32 → Hp → Prop) (K181 : Int32 × Hp → Prop) (v2 : Int32) (h : Hp) : Prop :=
  wif ((8 : Int32) ≤ v2) ((vp_in (0 : Int32) 2 ∧ wlet (hup h 141 (Int32.toNatClampNeg (0 : Int32)) (0 : Int32)) (fun h2 => (vp_in (1 : Int32) 2 ∧ wlet (hup h2 141 (Int32.toNatClampNeg (1 : Int32)) (0 : Int32)) (fun h4 => wlet (hup h4 92 30 (0 : Int32)) (fun h5 => wlet (hup h5 92 31 (0 : Int32)) (fun h6 => wlet (hup h6 92 32 (0 : Int32)) (fun h7 => (vp_in (0 : Int32) 11 ∧ Q (h7 95 (Int32.toNatClampNeg (0 : Int32))) h7))))))))) (w_X9_bridge_b189 p1 (v2) K181 Q ((0 : Int32), h))
def w_X9_bridge_b181 (p1 : Int32) (Q : Int32 → Hp → Prop) (s : Int32 × Hp) : Prop := wl (fun K s => w_X9_bridge_l181 p1 Q K s.1 s.2) s
def w_X9_bridge_l136 (p1 : Int32) (Q : Int32 → Hp → Prop) (K136 : Int32 × Hp → Prop) (v2 : Int32) (h : Hp) : Prop :=
  wif ((30 : Int32) ≤ v2) (w_X9_bridge_b181 p1 Q ((0 : Int32), h)) ((vp_in v2 30 ∧ (vp_in v2 30 ∧ wlet (hup h 97 (Int32.toNatClampNeg v2) (h 96 (Int32.toNatClampNeg v2))) (fun h3 => (vp_in v2 30 ∧ (vp_in v2 30 ∧ wlet (hup h3 99 (Int32.toNatClampNeg v2) (h3 98 (Int32.toNatClampNeg v2))) (fun h6 => (vp_in v2 30 ∧ wlet (hup h6 142 (Int32.toNatClampNeg v2) (-1 : Int32)) (fun h8 => K136 ((v2 + (1 : Int32)), h8))))))))))
def w_X9_bridge_b136 (p1 : Int32) (Q : Int32 → Hp → Prop) (s : Int32 × Hp) : Prop := wl (fun K s => w_X9_bridge_l136 p1 Q K s.1 s.2) s
def w_X9_bridge_l110 (p1 : Int32) (Q : Int32 → Hp → Prop) (K110 : Int32 × Hp → Prop) (v2 : Int32) (h : Hp) : Prop :=
  wif ((11 : Int32) ≤ v2) (w_X9_bridge_b136 p1 Q ((0 : Int32), h)) ((vp_in v2 11 ∧ (vp_in v2 11 ∧ wlet (hup h 95 (Int32.toNatClampNeg v2) (h 94 (Int32.toNatClampNeg v2))) (fun h3 => K110 ((v2 + (1 : Int32)), h3)))))
def w_X9_bridge_b110 (p1 : Int32) (Q : Int32 → Hp → Prop) (s : Int32 × Hp) : Prop := wl (fun K s => w_X9_bridge_l110 p1 Q K s.1 s.2) s
def w_X9_bridge_b85 (p1 : Int32) (h : Hp) (Q : Int32 → Hp → Prop) : Prop :=
  wlet (hup h 92 3 (h 92 6)) (fun h1 => wif ((h1 92 5) = 0) (w_X9_bridge_b110 p1 Q ((0 : Int32), h1)) (Q ((h1 92 5) - (10 : Int32)) h1))
def w_X9_bridge_l56 (p1 : Int32) (Q : Int32 → Hp → Prop) (K56 : Hp → Prop)  (h : Hp) : Prop :=
  wif (¬ (h 92 5) = 0) (w_X9_bridge_b85 p1 (h) Q) (wif ((h 92 2) ≤ (h 92 4)) (w_X9_bridge_b85 p1 (h) Q) (w_X9_clause  h (fun h1 => w_X9_blanks  h1 (fun h2 => K56 (h2)))))
def w_X9_bridge_b56 (p1 : Int32) (Q : Int32 → Hp → Prop) (s : Hp) : Prop := wl (fun K s => w_X9_bridge_l56 p1 Q K s) s
def w_X9_bridge (p1 : Int32) (h : Hp) (Q : Int32 → Hp → Prop) : Prop :=
  wlet (hup h 92 0 (0 : Int32)) (fun h1 => w_X9_in (p1) ((0 : Int32)) ((h1 92 1)) h1 (fun z2 => w_X9_bad ((if ¬ z2 = 0 then (0 : Int32) else (1 : Int32))) ((1 : Int32)) h1 (fun z4 h5 => wif (z4 = 0) (w_X9_starts (p1) h5 (fun h6 => w_X9_blank 94 11 96 30 98 30 h6 (fun h7 => w_X9_blanks  h7 (fun h8 => w_X9_bridge_b56 p1 Q (h8))))) (Q (0 : Int32) h5))))
theorem t_X9_bridge_l189 {X : Cx} (p1 : Int32) (v2 : Int32) (K181 : Int32 × Hp → Prop) (Q : Int32 → Hp → Prop) (K189 : Int32 × Hp → Prop) (v3 : Int32) (h : Hp) (hK181 : ∀ s : Int32 × Hp, K181 s → G X M_X9_bridge E_X9_bridge (QM X E_X9_bridge (QI Q) Qn) 0 181 [(0, .ref (92)), (2, .int (s.1))] [] (s.2)) (hK189 : ∀ s : Int32 × Hp, K189 s → G X M_X9_bridge E_X9_bridge (QM X E_X9_bridge (QI Q) Qn) 0 189 [(0, .ref (92)), (2, .int (v2)), (3, .int (s.1))] [] (s.2)) (hw : w_X9_bridge_l189 p1 v2 K181 Q K189 v3 h) : G X M_X9_bridge E_X9_bridge (QM X E_X9_bridge (QI Q) Qn) 0 189 [(0, .ref (92)), (2, .int (v2)), (3, .int (v3))] [] h := by
  unfold w_X9_bridge_l189 at hw
  refine g_iload_n 2 (dk D_X9_bridge 105 rfl) rfl rfl ?_
  refine g_bipush (dk D_X9_bridge 106 rfl) kb_7 ?_
  refine g_icmp_ge (dk D_X9_bridge 107 rfl) rfl (wif_m hw (fun hw => ?_) (fun hw => ?_))
  · refine g_iinc 1 (dk D_X9_bridge 122 rfl) rfl (congrArg (fun z => _ + z) ki_1) (by decide) rfl ?_
    refine g_goto (dk D_X9_bridge 123 rfl) rfl ?_
    refine g_sub [1, 0] rfl ?_
    exact hK181 ((v2 + (1 : Int32)), h) hw
  · refine g_aload_n 0 (dk D_X9_bridge 108 rfl) rfl rfl ?_
    refine g_getR 17 (t := 109) (dk D_X9_bridge 109 rfl) kd_92 rfl rfl (by decide) w_1374 rfl rfl rfl ?_
    refine g_iload_n 1 (dk D_X9_bridge 110 rfl) rfl rfl ?_
    obtain ⟨hi1, hw⟩ := hw
    refine g_aald (dk D_X9_bridge 111 rfl) kd_109 rfl rfl hi1 ?_
    refine g_iload_n 2 (dk D_X9_bridge 112 rfl) rfl rfl ?_
    refine g_aload_n 0 (dk D_X9_bridge 113 rfl) rfl rfl ?_
    refine g_getR 16 (t := 100) (dk D_X9_bridge 114 rfl) kd_92 rfl rfl (by decide) w_1373 rfl rfl rfl ?_
    refine g_iload_n 1 (dk D_X9_bridge 115 rfl) rfl rfl ?_
    obtain ⟨hi2, hw⟩ := hw
    refine g_aald (dk D_X9_bridge 116 rfl) kd_100 rfl rfl hi2 ?_
    refine g_iload_n 2 (dk D_X9_bridge 117 rfl) rfl rfl ?_
    obtain ⟨hi3, hw⟩ := hw
    refine g_iald (dk D_X9_bridge 118 rfl) (kdf_100 _ (in_lt hi2)) hi3 ?_
    obtain ⟨hi4, hw⟩ := hw
    refine g_iast (dk D_X9_bridge 119 rfl) (kdf_109 _ (in_lt hi1)) hi4 ?_
    refine g_heap (fun h5 eh5 => ?_)
    replace hw := hw _ eh5
    refine g_iinc 2 (dk D_X9_bridge 120 rfl) rfl (congrArg (fun z => _ + z) ki_1) (by decide) rfl ?_
    refine g_goto (dk D_X9_bridge 121 rfl) rfl ?_
    refine g_sub [1, 2, 0] rfl ?_
    exact hK189 ((v3 + (1 : Int32)), h5) hw
theorem t_X9_bridge_b189 {X : Cx} (p1 : Int32) (v2 : Int32) (K181 : Int32 × Hp → Prop) (Q : Int32 → Hp → Prop) (s : Int32 × Hp) (hK181 : ∀ s : Int32 × Hp, K181 s → G X M_X9_bridge E_X9_bridge (QM X E_X9_bridge (QI Q) Qn) 0 181 [(0, .ref (92)), (2, .int (s.1))] [] (s.2)) (hw : w_X9_bridge_b189 p1 v2 K181 Q s) : G X M_X9_bridge E_X9_bridge (QM X E_X9_bridge (QI Q) Qn) 0 189 [(0, .ref (92)), (2, .int (v2)), (3, .int (s.1))] [] (s.2) :=
  wl_ind (B := fun K s => w_X9_bridge_l189 p1 v2 K181 Q K (s.1) (s.2)) (P := fun s => G X M_X9_bridge E_X9_bridge (QM X E_X9_bridge (QI Q) Qn) 0 189 [(0, .ref (92)), (2, .int (v2)), (3, .int (s.1))] [] (s.2)) (fun K hK s hw => t_X9_bridge_l189 p1 v2 K181 Q K (s.1) (s.2) hK181 hK hw) s hw
theorem t_X9_bridge_l181 {X : Cx} (p1 : Int32) (Q : Int32 → Hp → Prop) (K181 : Int32 × Hp → Prop) (v2 : Int32) (h : Hp) (hK181 : ∀ s : Int32 × Hp, K181 s → G X M_X9_bridge E_X9_bridge (QM X E_X9_bridge (QI Q) Qn) 0 181 [(0, .ref (92)), (2, .int (s.1))] [] (s.2)) (hw : w_X9_bridge_l181 p1 Q K181 v2 h) : G X M_X9_bridge E_X9_bridge (QM X E_X9_bridge (QI Q) Qn) 0 181 [(0, .ref (92)), (2, .int (v2))] [] h := by
  unfold w_X9_bridge_l181 at hw
  refine g_iload_n 1 (dk D_X9_bridge 100 rfl) rfl rfl ?_
  refine g_bipush (dk D_X9_bridge 101 rfl) kb_8 ?_
  refine g_icmp_ge (dk D_X9_bridge 102 rfl) rfl (wif_m hw (fun hw => ?_) (fun hw => ?_))
  · refine g_aload_n 0 (dk D_X9_bridge 124 rfl) rfl rfl ?_
    refine g_getR 28 (t := 141) (dk D_X9_bridge 125 rfl) kd_92 rfl rfl (by decide) w_1385 rfl rfl rfl ?_
    refine g_iconst (dk D_X9_bridge 126 rfl) ki_0 ?_
    refine g_iconst (dk D_X9_bridge 127 rfl) ki_0 ?_
    obtain ⟨hi1, hw⟩ := hw
    refine g_iast (dk D_X9_bridge 128 rfl) kd_141 hi1 ?_
    refine g_heap (fun h2 eh2 => ?_)
    replace hw := hw _ eh2
    refine g_aload_n 0 (dk D_X9_bridge 129 rfl) rfl rfl ?_
    refine g_getR 28 (t := 141) (dk D_X9_bridge 130 rfl) kd_92 rfl rfl (by decide) w_1385 rfl rfl rfl ?_
    refine g_iconst (dk D_X9_bridge 131 rfl) ki_1 ?_
    refine g_iconst (dk D_X9_bridge 132 rfl) ki_0 ?_
    obtain ⟨hi3, hw⟩ := hw
    refine g_iast (dk D_X9_bridge 133 rfl) kd_141 hi3 ?_
    refine g_heap (fun h4 eh4 => ?_)
    replace hw := hw _ eh4
    refine g_aload_n 0 (dk D_X9_bridge 134 rfl) rfl rfl ?_
    refine g_iconst (dk D_X9_bridge 135 rfl) ki_0 ?_
    refine g_put 30 (dk D_X9_bridge 136 rfl) kd_92 rfl rfl (by decide) w_1387 rfl tyX9_ok nmX9 rfl (by decide) rfl (fun z => absurd z (by decide)) ?_
    refine g_heap (fun h5 eh5 => ?_)
    replace hw := hw _ eh5
    refine g_aload_n 0 (dk D_X9_bridge 137 rfl) rfl rfl ?_
    refine g_iconst (dk D_X9_bridge 138 rfl) ki_0 ?_
    refine g_put 31 (dk D_X9_bridge 139 rfl) kd_92 rfl rfl (by decide) w_1388 rfl tyX9_ok nmX9 rfl (by decide) rfl (fun z => absurd z (by decide)) ?_
    refine g_heap (fun h6 eh6 => ?_)
    replace hw := hw _ eh6
    refine g_aload_n 0 (dk D_X9_bridge 140 rfl) rfl rfl ?_
    refine g_iconst (dk D_X9_bridge 141 rfl) ki_0 ?_
    refine g_put 32 (dk D_X9_bridge 142 rfl) kd_92 rfl rfl (by decide) w_1389 rfl tyX9_ok nmX9 rfl (by decide) rfl (fun z => absurd z (by decide)) ?_
    refine g_heap (fun h7 eh7 => ?_)
    replace hw := hw _ eh7
    refine g_aload_n 0 (dk D_X9_bridge 143 rfl) rfl rfl ?_
    refine g_getR 11 (t := 95) (dk D_X9_bridge 144 rfl) kd_92 rfl rfl (by decide) w_1368 rfl rfl rfl ?_
    refine g_iconst (dk D_X9_bridge 145 rfl) ki_0 ?_
    obtain ⟨hi8, hw⟩ := hw
    refine g_iald (dk D_X9_bridge 146 rfl) kd_95 hi8 ?_
    exact g_iret (dk D_X9_bridge 147 rfl) rfl ⟨_, rfl, hw⟩
  · refine g_iconst (dk D_X9_bridge 103 rfl) ki_0 ?_
    refine g_istore_n (dk D_X9_bridge 104 rfl) rfl (by decide) rfl ?_
    refine g_sub [1, 2, 0] rfl ?_
    exact t_X9_bridge_b189 p1 (v2) K181 Q ((0 : Int32), h) hK181 hw
theorem t_X9_bridge_b181 {X : Cx} (p1 : Int32) (Q : Int32 → Hp → Prop) (s : Int32 × Hp) (hw : w_X9_bridge_b181 p1 Q s) : G X M_X9_bridge E_X9_bridge (QM X E_X9_bridge (QI Q) Qn) 0 181 [(0, .ref (92)), (2, .int (s.1))] [] (s.2) :=
  wl_ind (B := fun K s => w_X9_bridge_l181 p1 Q K (s.1) (s.2)) (P := fun s => G X M_X9_bridge E_X9_bridge (QM X E_X9_bridge (QI Q) Qn) 0 181 [(0, .ref (92)), (2, .int (s.1))] [] (s.2)) (fun K hK s hw => t_X9_bridge_l181 p1 Q K (s.1) (s.2) hK hw) s hw
theorem t_X9_bridge_l136 {X : Cx} (p1 : Int32) (Q : Int32 → Hp → Prop) (K136 : Int32 × Hp → Prop) (v2 : Int32) (h : Hp) (hK136 : ∀ s : Int32 × Hp, K136 s → G X M_X9_bridge E_X9_bridge (QM X E_X9_bridge (QI Q) Qn) 0 136 [(0, .ref (92)), (2, .int (s.1))] [] (s.2)) (hw : w_X9_bridge_l136 p1 Q K136 v2 h) : G X M_X9_bridge E_X9_bridge (QM X E_X9_bridge (QI Q) Qn) 0 136 [(0, .ref (92)), (2, .int (v2))] [] h := by
  unfold w_X9_bridge_l136 at hw
  refine g_iload_n 1 (dk D_X9_bridge 72 rfl) rfl rfl ?_
  refine g_bipush (dk D_X9_bridge 73 rfl) kb_30 ?_
  refine g_icmp_ge (dk D_X9_bridge 74 rfl) rfl (wif_m hw (fun hw => ?_) (fun hw => ?_))
  · refine g_iconst (dk D_X9_bridge 98 rfl) ki_0 ?_
    refine g_istore_n (dk D_X9_bridge 99 rfl) rfl (by decide) rfl ?_
    refine g_sub [1, 0] rfl ?_
    exact t_X9_bridge_b181 p1 Q ((0 : Int32), h) hw
  · refine g_aload_n 0 (dk D_X9_bridge 75 rfl) rfl rfl ?_
    refine g_getR 13 (t := 97) (dk D_X9_bridge 76 rfl) kd_92 rfl rfl (by decide) w_1370 rfl rfl rfl ?_
    refine g_iload_n 1 (dk D_X9_bridge 77 rfl) rfl rfl ?_
    refine g_aload_n 0 (dk D_X9_bridge 78 rfl) rfl rfl ?_
    refine g_getR 12 (t := 96) (dk D_X9_bridge 79 rfl) kd_92 rfl rfl (by decide) w_1369 rfl rfl rfl ?_
    refine g_iload_n 1 (dk D_X9_bridge 80 rfl) rfl rfl ?_
    obtain ⟨hi1, hw⟩ := hw
    refine g_iald (dk D_X9_bridge 81 rfl) kd_96 hi1 ?_
    obtain ⟨hi2, hw⟩ := hw
    refine g_iast (dk D_X9_bridge 82 rfl) kd_97 hi2 ?_
    refine g_heap (fun h3 eh3 => ?_)
    replace hw := hw _ eh3
    refine g_aload_n 0 (dk D_X9_bridge 83 rfl) rfl rfl ?_
    refine g_getR 15 (t := 99) (dk D_X9_bridge 84 rfl) kd_92 rfl rfl (by decide) w_1372 rfl rfl rfl ?_
    refine g_iload_n 1 (dk D_X9_bridge 85 rfl) rfl rfl ?_
    refine g_aload_n 0 (dk D_X9_bridge 86 rfl) rfl rfl ?_
    refine g_getR 14 (t := 98) (dk D_X9_bridge 87 rfl) kd_92 rfl rfl (by decide) w_1371 rfl rfl rfl ?_
    refine g_iload_n 1 (dk D_X9_bridge 88 rfl) rfl rfl ?_
    obtain ⟨hi4, hw⟩ := hw
    refine g_iald (dk D_X9_bridge 89 rfl) kd_98 hi4 ?_
    obtain ⟨hi5, hw⟩ := hw
    refine g_iast (dk D_X9_bridge 90 rfl) kd_99 hi5 ?_
    refine g_heap (fun h6 eh6 => ?_)
    replace hw := hw _ eh6
    refine g_aload_n 0 (dk D_X9_bridge 91 rfl) rfl rfl ?_
    refine g_getR 29 (t := 142) (dk D_X9_bridge 92 rfl) kd_92 rfl rfl (by decide) w_1386 rfl rfl rfl ?_
    refine g_iload_n 1 (dk D_X9_bridge 93 rfl) rfl rfl ?_
    refine g_iconst (dk D_X9_bridge 94 rfl) ki_m1 ?_
    obtain ⟨hi7, hw⟩ := hw
    refine g_iast (dk D_X9_bridge 95 rfl) kd_142 hi7 ?_
    refine g_heap (fun h8 eh8 => ?_)
    replace hw := hw _ eh8
    refine g_iinc 1 (dk D_X9_bridge 96 rfl) rfl (congrArg (fun z => _ + z) ki_1) (by decide) rfl ?_
    refine g_goto (dk D_X9_bridge 97 rfl) rfl ?_
    refine g_sub [1, 0] rfl ?_
    exact hK136 ((v2 + (1 : Int32)), h8) hw
theorem t_X9_bridge_b136 {X : Cx} (p1 : Int32) (Q : Int32 → Hp → Prop) (s : Int32 × Hp) (hw : w_X9_bridge_b136 p1 Q s) : G X M_X9_bridge E_X9_bridge (QM X E_X9_bridge (QI Q) Qn) 0 136 [(0, .ref (92)), (2, .int (s.1))] [] (s.2) :=
  wl_ind (B := fun K s => w_X9_bridge_l136 p1 Q K (s.1) (s.2)) (P := fun s => G X M_X9_bridge E_X9_bridge (QM X E_X9_bridge (QI Q) Qn) 0 136 [(0, .ref (92)), (2, .int (s.1))] [] (s.2)) (fun K hK s hw => t_X9_bridge_l136 p1 Q K (s.1) (s.2) hK hw) s hw
theorem t_X9_bridge_l110 {X : Cx} (p1 : Int32) (Q : Int32 → Hp → Prop) (K110 : Int32 × Hp → Prop) (v2 : Int32) (h : Hp) (hK110 : ∀ s : Int32 × Hp, K110 s → G X M_X9_bridge E_X9_bridge (QM X E_X9_bridge (QI Q) Qn) 0 110 [(0, .ref (92)), (2, .int (s.1))] [] (s.2)) (hw : w_X9_bridge_l110 p1 Q K110 v2 h) : G X M_X9_bridge E_X9_bridge (QM X E_X9_bridge (QI Q) Qn) 0 110 [(0, .ref (92)), (2, .int (v2))] [] h := by
  unfold w_X9_bridge_l110 at hw
  refine g_iload_n 1 (dk D_X9_bridge 57 rfl) rfl rfl ?_
  refine g_bipush (dk D_X9_bridge 58 rfl) kb_11 ?_
  refine g_icmp_ge (dk D_X9_bridge 59 rfl) rfl (wif_m hw (fun hw => ?_) (fun hw => ?_))
  · refine g_iconst (dk D_X9_bridge 70 rfl) ki_0 ?_
    refine g_istore_n (dk D_X9_bridge 71 rfl) rfl (by decide) rfl ?_
    refine g_sub [1, 0] rfl ?_
    exact t_X9_bridge_b136 p1 Q ((0 : Int32), h) hw
  · refine g_aload_n 0 (dk D_X9_bridge 60 rfl) rfl rfl ?_
    refine g_getR 11 (t := 95) (dk D_X9_bridge 61 rfl) kd_92 rfl rfl (by decide) w_1368 rfl rfl rfl ?_
    refine g_iload_n 1 (dk D_X9_bridge 62 rfl) rfl rfl ?_
    refine g_aload_n 0 (dk D_X9_bridge 63 rfl) rfl rfl ?_
    refine g_getR 10 (t := 94) (dk D_X9_bridge 64 rfl) kd_92 rfl rfl (by decide) w_1367 rfl rfl rfl ?_
    refine g_iload_n 1 (dk D_X9_bridge 65 rfl) rfl rfl ?_
    obtain ⟨hi1, hw⟩ := hw
    refine g_iald (dk D_X9_bridge 66 rfl) kd_94 hi1 ?_
    obtain ⟨hi2, hw⟩ := hw
    refine g_iast (dk D_X9_bridge 67 rfl) kd_95 hi2 ?_
    refine g_heap (fun h3 eh3 => ?_)
    replace hw := hw _ eh3
    refine g_iinc 1 (dk D_X9_bridge 68 rfl) rfl (congrArg (fun z => _ + z) ki_1) (by decide) rfl ?_
    refine g_goto (dk D_X9_bridge 69 rfl) rfl ?_
    refine g_sub [1, 0] rfl ?_
    exact hK110 ((v2 + (1 : Int32)), h3) hw
theorem t_X9_bridge_b110 {X : Cx} (p1 : Int32) (Q : Int32 → Hp → Prop) (s : Int32 × Hp) (hw : w_X9_bridge_b110 p1 Q s) : G X M_X9_bridge E_X9_bridge (QM X E_X9_bridge (QI Q) Qn) 0 110 [(0, .ref (92)), (2, .int (s.1))] [] (s.2) :=
  wl_ind (B := fun K s => w_X9_bridge_l110 p1 Q K (s.1) (s.2)) (P := fun s => G X M_X9_bridge E_X9_bridge (QM X E_X9_bridge (QI Q) Qn) 0 110 [(0, .ref (92)), (2, .int (s.1))] [] (s.2)) (fun K hK s hw => t_X9_bridge_l110 p1 Q K (s.1) (s.2) hK hw) s hw
theorem t_X9_bridge_b85 {X : Cx} (p1 : Int32) (h : Hp) (Q : Int32 → Hp → Prop) (hw : w_X9_bridge_b85 p1 h Q) : G X M_X9_bridge E_X9_bridge (QM X E_X9_bridge (QI Q) Qn) 0 85 [(0, .ref (92))] [] h := by
  unfold w_X9_bridge_b85 at hw
  refine g_aload_n 0 (dk D_X9_bridge 43 rfl) rfl rfl ?_
  refine g_aload_n 0 (dk D_X9_bridge 44 rfl) rfl rfl ?_
  refine g_getI 6 (dk D_X9_bridge 45 rfl) kd_92 rfl rfl (by decide) w_1363 rfl rfl ?_
  refine g_put 3 (dk D_X9_bridge 46 rfl) kd_92 rfl rfl (by decide) w_1360 rfl tyX9_ok nmX9 rfl (by decide) rfl (fun z => absurd z (by decide)) ?_
  refine g_heap (fun h1 eh1 => ?_)
  replace hw := hw _ eh1
  refine g_aload_n 0 (dk D_X9_bridge 47 rfl) rfl rfl ?_
  refine g_getI 5 (dk D_X9_bridge 48 rfl) kd_92 rfl rfl (by decide) w_1362 rfl rfl ?_
  refine g_if_eq (dk D_X9_bridge 49 rfl) rfl (wif_m hw (fun hw => ?_) (fun hw => ?_))
  · refine g_iconst (dk D_X9_bridge 55 rfl) ki_0 ?_
    refine g_istore_n (dk D_X9_bridge 56 rfl) rfl (by decide) rfl ?_
    refine g_sub [1, 0] rfl ?_
    exact t_X9_bridge_b110 p1 Q ((0 : Int32), h1) hw
  · refine g_aload_n 0 (dk D_X9_bridge 50 rfl) rfl rfl ?_
    refine g_getI 5 (dk D_X9_bridge 51 rfl) kd_92 rfl rfl (by decide) w_1362 rfl rfl ?_
    refine g_bipush (dk D_X9_bridge 52 rfl) kb_10 ?_
    refine g_isub (dk D_X9_bridge 53 rfl) ?_
    exact g_iret (dk D_X9_bridge 54 rfl) rfl ⟨_, rfl, hw⟩
theorem t_X9_bridge_l56 {X : Cx} (p1 : Int32) (Q : Int32 → Hp → Prop) (K56 : Hp → Prop)  (h : Hp) (hK56 : ∀ s : Hp, K56 s → G X M_X9_bridge E_X9_bridge (QM X E_X9_bridge (QI Q) Qn) 0 56 [(0, .ref (92))] [] (s)) (hw : w_X9_bridge_l56 p1 Q K56  h) : G X M_X9_bridge E_X9_bridge (QM X E_X9_bridge (QI Q) Qn) 0 56 [(0, .ref (92))] [] h := by
  unfold w_X9_bridge_l56 at hw
  refine g_aload_n 0 (dk D_X9_bridge 30 rfl) rfl rfl ?_
  refine g_getI 5 (dk D_X9_bridge 31 rfl) kd_92 rfl rfl (by decide) w_1362 rfl rfl ?_
  refine g_if_ne (dk D_X9_bridge 32 rfl) rfl (wif_m hw (fun hw => ?_) (fun hw => ?_))
  · exact t_X9_bridge_b85 p1 (h) Q hw
  · refine g_aload_n 0 (dk D_X9_bridge 33 rfl) rfl rfl ?_
    refine g_getI 4 (dk D_X9_bridge 34 rfl) kd_92 rfl rfl (by decide) w_1361 rfl rfl ?_
    refine g_aload_n 0 (dk D_X9_bridge 35 rfl) rfl rfl ?_
    refine g_getI 2 (dk D_X9_bridge 36 rfl) kd_92 rfl rfl (by decide) w_1359 rfl rfl ?_
    refine g_icmp_ge (dk D_X9_bridge 37 rfl) rfl (wif_m hw (fun hw => ?_) (fun hw => ?_))
    · exact t_X9_bridge_b85 p1 (h) Q hw
    · refine g_aload_n 0 (dk D_X9_bridge 38 rfl) rfl rfl ?_
      refine g_callV (As := []) (kc := 0) (fr := 5) (lo := 150) (mc := 0) (My := M_X9_clause) (dk D_X9_bridge 39 rfl) kd_92 rfl rfl w_1546 w_1548 w_46 w_110 w_1549 okD_X9_clause (by decide) (Nat.le_of_ble_eq_true rfl) rfl (c_X9_clause (h) _ hw) kxN (kV (fun h1 hw => ?_))
      refine g_aload_n 0 (dk D_X9_bridge 40 rfl) rfl rfl ?_
      refine g_callV (As := []) (kc := 0) (fr := 1) (lo := 29) (mc := 0) (My := M_X9_blanks) (dk D_X9_bridge 41 rfl) kd_92 rfl rfl w_1538 w_1540 w_44 w_110 w_1541 okD_X9_blanks (by decide) (Nat.le_of_ble_eq_true rfl) rfl (c_X9_blanks (h1) _ hw) kxN (kV (fun h2 hw => ?_))
      refine g_goto (dk D_X9_bridge 42 rfl) rfl ?_
      exact hK56 (h2) hw
theorem t_X9_bridge_b56 {X : Cx} (p1 : Int32) (Q : Int32 → Hp → Prop) (s : Hp) (hw : w_X9_bridge_b56 p1 Q s) : G X M_X9_bridge E_X9_bridge (QM X E_X9_bridge (QI Q) Qn) 0 56 [(0, .ref (92))] [] (s) :=
  wl_ind (B := fun K s => w_X9_bridge_l56 p1 Q K (s)) (P := fun s => G X M_X9_bridge E_X9_bridge (QM X E_X9_bridge (QI Q) Qn) 0 56 [(0, .ref (92))] [] (s)) (fun K hK s hw => t_X9_bridge_l56 p1 Q K (s) hK hw) s hw
theorem t_X9_bridge {X : Cx} (p1 : Int32) (h : Hp) (Q : Int32 → Hp → Prop) (hw : w_X9_bridge p1 h Q) : G X M_X9_bridge E_X9_bridge (QM X E_X9_bridge (QI Q) Qn) 0 0 [(0, .ref (92)), (1, .int (p1))] [] h := by
  unfold w_X9_bridge at hw
  refine g_aload_n 0 (dk D_X9_bridge 0 rfl) rfl rfl ?_
  refine g_iconst (dk D_X9_bridge 1 rfl) ki_0 ?_
  refine g_put 0 (dk D_X9_bridge 2 rfl) kd_92 rfl rfl (by decide) w_1357 rfl tyX9_ok nmX9 rfl (by decide) rfl (fun z => absurd z (by decide)) ?_
  refine g_heap (fun h1 eh1 => ?_)
  replace hw := hw _ eh1
  refine g_aload_n 0 (dk D_X9_bridge 3 rfl) rfl rfl ?_
  refine g_iload_n 1 (dk D_X9_bridge 4 rfl) rfl rfl ?_
  refine g_iconst (dk D_X9_bridge 5 rfl) ki_0 ?_
  refine g_aload_n 0 (dk D_X9_bridge 6 rfl) rfl rfl ?_
  refine g_getI 1 (dk D_X9_bridge 7 rfl) kd_92 rfl rfl (by decide) w_1358 rfl rfl ?_
  refine g_callS (As := [.int (p1), .int ((0 : Int32)), .int ((h1 92 1))]) (kc := 0) (fr := 0) (lo := 0) (mc := 0) (My := M_X9_in) (dk D_X9_bridge 8 rfl) w_1527 w_1528 w_110 w_1529 okD_X9_in (by decide) (Nat.le_of_ble_eq_true rfl) rfl (c_X9_in (p1) ((0 : Int32)) ((h1 92 1)) (h1) _ hw) kxN (kIp (fun z2 hw => ?_))
  have hj : G X M_X9_bridge E_X9_bridge (QM X E_X9_bridge (QI Q) Qn) 0 23 [(0, .ref (92)), (1, .int (p1))] [.int ((if ¬ z2 = 0 then (0 : Int32) else (1 : Int32))), .ref (92)] (h1) := by
    refine g_iconst (dk D_X9_bridge 13 rfl) ki_1 ?_
    refine g_callV (As := [.int ((if ¬ z2 = 0 then (0 : Int32) else (1 : Int32))), .int ((1 : Int32))]) (kc := 0) (fr := 0) (lo := 0) (mc := 0) (My := M_X9_bad) (dk D_X9_bridge 14 rfl) kd_92 rfl rfl w_1530 w_1532 w_42 w_110 w_1533 okD_X9_bad (by decide) (Nat.le_of_ble_eq_true rfl) rfl (c_X9_bad ((if ¬ z2 = 0 then (0 : Int32) else (1 : Int32))) ((1 : Int32)) (h1) _ hw) kxN (kI (fun z4 h5 hw => ?_))
    refine g_if_eq (dk D_X9_bridge 15 rfl) rfl (wif_m hw (fun hw => ?_) (fun hw => ?_))
    · refine g_aload_n 0 (dk D_X9_bridge 18 rfl) rfl rfl ?_
      refine g_iload_n 1 (dk D_X9_bridge 19 rfl) rfl rfl ?_
      refine g_callV (As := [.int (p1)]) (kc := 0) (fr := 0) (lo := 0) (mc := 0) (My := M_X9_starts) (dk D_X9_bridge 20 rfl) kd_92 rfl rfl w_1534 w_1536 w_43 w_110 w_1537 okD_X9_starts (by decide) (Nat.le_of_ble_eq_true rfl) rfl (c_X9_starts (p1) (h5) _ hw) kxN (kV (fun h6 hw => ?_))
      refine g_aload_n 0 (dk D_X9_bridge 21 rfl) rfl rfl ?_
      refine g_getR 10 (t := 94) (dk D_X9_bridge 22 rfl) kd_92 rfl rfl (by decide) w_1367 rfl rfl rfl ?_
      refine g_aload_n 0 (dk D_X9_bridge 23 rfl) rfl rfl ?_
      refine g_getR 12 (t := 96) (dk D_X9_bridge 24 rfl) kd_92 rfl rfl (by decide) w_1369 rfl rfl rfl ?_
      refine g_aload_n 0 (dk D_X9_bridge 25 rfl) rfl rfl ?_
      refine g_getR 14 (t := 98) (dk D_X9_bridge 26 rfl) kd_92 rfl rfl (by decide) w_1371 rfl rfl rfl ?_
      refine g_callS (As := [.ref (94), .ref (96), .ref (98)]) (kc := 0) (fr := 0) (lo := 0) (mc := 0) (My := M_X9_blank) (dk D_X9_bridge 27 rfl) w_1354 w_1355 w_110 w_1356 okD_X9_blank (by decide) (Nat.le_of_ble_eq_true rfl) rfl (c_X9_blank 94 11 96 30 98 30 (kd_94) (kd_96) (kd_98) (h6) _ hw) kxN (kV (fun h7 hw => ?_))
      refine g_aload_n 0 (dk D_X9_bridge 28 rfl) rfl rfl ?_
      refine g_callV (As := []) (kc := 0) (fr := 1) (lo := 29) (mc := 0) (My := M_X9_blanks) (dk D_X9_bridge 29 rfl) kd_92 rfl rfl w_1538 w_1540 w_44 w_110 w_1541 okD_X9_blanks (by decide) (Nat.le_of_ble_eq_true rfl) rfl (c_X9_blanks (h7) _ hw) kxN (kV (fun h8 hw => ?_))
      refine g_sub [0] rfl ?_
      exact t_X9_bridge_b56 p1 Q (h8) hw
    · refine g_iconst (dk D_X9_bridge 16 rfl) ki_0 ?_
      exact g_iret (dk D_X9_bridge 17 rfl) rfl ⟨_, rfl, hw⟩
  refine g_if_ne (dk D_X9_bridge 9 rfl) rfl ?_
  by_cases c3 : ¬ z2 = 0
  · rw [if_pos c3] at hj
    refine wif_p c3 ?_
    refine g_iconst (dk D_X9_bridge 12 rfl) ki_0 ?_
    exact hj
  · rw [if_neg c3] at hj
    refine wif_n c3 ?_
    refine g_iconst (dk D_X9_bridge 10 rfl) ki_1 ?_
    refine g_goto (dk D_X9_bridge 11 rfl) rfl ?_
    exact hj
theorem c_X9_bridge {X : Cx} (p1 : Int32) (h : Hp) (Q : Int32 → Hp → Prop) (hw : w_X9_bridge p1 h Q) : Con X yX9_bridge M_X9_bridge 6 179 0 [.ref (92), .int (p1)] h (QI Q) Qn :=
  con_of (by decide +kernel) rfl (Nat.le_of_ble_eq_true rfl) (t_X9_bridge p1 h Q hw)
/-! ShadowTollsModel.tells(I)V -/
abbrev M_X9_tells : Mi := (RX9, cX9_tells, 2, none)
abbrev E_X9_tells : Rm := (0, 0, 0, 0)
def rows_X9_tells : List (Nat × Instr × Nat) := [(0, .aload_n 0, 1), (1, .getfield 55, 3), (4, .aload_n 0, 1), (5, .getfield 221, 3), (8, .aaload, 1), (9, .aload_n 0, 1), (10, .getfield 224, 3), (13, .iload_n 1, 1), (14, .iastore, 1), (15, .aload_n 0, 1), (16, .dup, 1), (17, .getfield 224, 3), (20, .iconst 1, 1), (21, .iadd, 1), (22, .putfield 224, 3), (25, .return_, 1)]
theorem D_X9_tells : dkA cX9_tells rows_X9_tells := by
  unfold dkA
  decide +kernel
theorem okD_X9_tells : okD yX9_tells 1 := by
  unfold okD
  decide +kernel
def w_X9_tells (p1 : Int32) (h : Hp) (Q : Hp → Prop) : Prop :=
  (vp_in (h 92 18) 4 ∧ (vp_in (h 92 19) 800 ∧ wlet (hup h (135 + 1 * Int32.toNatClampNeg ((h 92 18))) (Int32.toNatClampNeg (h 92 19)) p1) (fun h3 => wlet (hup h3 92 19 ((h3 92 19) + (1 : Int32))) (fun h4 => Q h4))))
theorem t_X9_tells {X : Cx} (p1 : Int32) (h : Hp) (Q : Hp → Prop) (hw : w_X9_tells p1 h Q) : G X M_X9_tells E_X9_tells (QM X E_X9_tells (QV Q) Qn) 0 0 [(0, .ref (92)), (1, .int (p1))] [] h := by
  unfold w_X9_tells at hw
  refine g_aload_n 0 (dk D_X9_tells 0 rfl) rfl rfl ?_
  refine g_getR 25 (t := 134) (dk D_X9_tells 1 rfl) kd_92 rfl rfl (by decide) w_1382 rfl rfl rfl ?_
  refine g_aload_n 0 (dk D_X9_tells 2 rfl) rfl rfl ?_
  refine g_getI 18 (dk D_X9_tells 3 rfl) kd_92 rfl rfl (by decide) w_1375 rfl rfl ?_
  obtain ⟨hi1, hw⟩ := hw
  refine g_aald (dk D_X9_tells 4 rfl) kd_134 rfl rfl hi1 ?_
  refine g_aload_n 0 (dk D_X9_tells 5 rfl) rfl rfl ?_
  refine g_getI 19 (dk D_X9_tells 6 rfl) kd_92 rfl rfl (by decide) w_1376 rfl rfl ?_
  refine g_iload_n 1 (dk D_X9_tells 7 rfl) rfl rfl ?_
  obtain ⟨hi2, hw⟩ := hw
  refine g_iast (dk D_X9_tells 8 rfl) (kdf_134 _ (in_lt hi1)) hi2 ?_
  refine g_heap (fun h3 eh3 => ?_)
  replace hw := hw _ eh3
  refine g_aload_n 0 (dk D_X9_tells 9 rfl) rfl rfl ?_
  refine g_dup (dk D_X9_tells 10 rfl) rfl ?_
  refine g_getI 19 (dk D_X9_tells 11 rfl) kd_92 rfl rfl (by decide) w_1376 rfl rfl ?_
  refine g_iconst (dk D_X9_tells 12 rfl) ki_1 ?_
  refine g_iadd (dk D_X9_tells 13 rfl) ?_
  refine g_put 19 (dk D_X9_tells 14 rfl) kd_92 rfl rfl (by decide) w_1376 rfl tyX9_ok nmX9 rfl (by decide) rfl (fun z => absurd z (by decide)) ?_
  refine g_heap (fun h4 eh4 => ?_)
  replace hw := hw _ eh4
  exact g_vret (dk D_X9_tells 15 rfl) rfl ⟨rfl, hw⟩
theorem c_X9_tells {X : Cx} (p1 : Int32) (h : Hp) (Q : Hp → Prop) (hw : w_X9_tells p1 h Q) : Con X yX9_tells M_X9_tells 0 0 0 [.ref (92), .int (p1)] h (QV Q) Qn :=
  con_of (by decide +kernel) rfl (Nat.le_of_ble_eq_true rfl) (t_X9_tells p1 h Q hw)
/-! ShadowTollsModel.signHere()I -/
abbrev M_X9_signHere : Mi := (RX9, cX9_signHere, 1, (some .int))
abbrev E_X9_signHere : Rm := (2, 57, 0, 0)
def rows_X9_signHere : List (Nat × Instr × Nat) := [(0, .aload_n 0, 1), (1, .getfield 127, 3), (4, .ifCond .eq 5, 3), (7, .iconst (-1), 1), (8, .ireturn, 1), (9, .aload_n 0, 1), (10, .invokevirtual 133, 3), (13, .aload_n 0, 1), (14, .aload_n 0, 1), (15, .getfield 120, 3), (18, .invokevirtual 123, 3), (21, .ireturn, 1)]
theorem D_X9_signHere : dkA cX9_signHere rows_X9_signHere := by
  unfold dkA
  decide +kernel
theorem okD_X9_signHere : okD yX9_signHere 0 := by
  unfold okD
  decide +kernel
def w_X9_signHere (h : Hp) (Q : Int32 → Hp → Prop) : Prop :=
  wif ((h 92 5) = 0) (w_X9_blanks  h (fun h1 => w_X9_byteAt ((h1 92 4)) h1 (fun z2 => Q z2 h1))) (Q (-1 : Int32) h)
theorem t_X9_signHere {X : Cx} (h : Hp) (Q : Int32 → Hp → Prop) (hw : w_X9_signHere h Q) : G X M_X9_signHere E_X9_signHere (QM X E_X9_signHere (QI Q) Qn) 0 0 [(0, .ref (92))] [] h := by
  unfold w_X9_signHere at hw
  refine g_aload_n 0 (dk D_X9_signHere 0 rfl) rfl rfl ?_
  refine g_getI 5 (dk D_X9_signHere 1 rfl) kd_92 rfl rfl (by decide) w_1362 rfl rfl ?_
  refine g_if_eq (dk D_X9_signHere 2 rfl) rfl (wif_m hw (fun hw => ?_) (fun hw => ?_))
  · refine g_aload_n 0 (dk D_X9_signHere 5 rfl) rfl rfl ?_
    refine g_callV (As := []) (kc := 0) (fr := 1) (lo := 29) (mc := 0) (My := M_X9_blanks) (dk D_X9_signHere 6 rfl) kd_92 rfl rfl w_1538 w_1540 w_44 w_110 w_1541 okD_X9_blanks (by decide) (Nat.le_of_ble_eq_true rfl) rfl (c_X9_blanks (h) _ hw) kxN (kV (fun h1 hw => ?_))
    refine g_aload_n 0 (dk D_X9_signHere 7 rfl) rfl rfl ?_
    refine g_aload_n 0 (dk D_X9_signHere 8 rfl) rfl rfl ?_
    refine g_getI 4 (dk D_X9_signHere 9 rfl) kd_92 rfl rfl (by decide) w_1361 rfl rfl ?_
    refine g_callV (As := [.int ((h1 92 4))]) (kc := 0) (fr := 0) (lo := 0) (mc := 0) (My := M_X9_byteAt) (dk D_X9_signHere 10 rfl) kd_92 rfl rfl w_1542 w_1544 w_45 w_110 w_1545 okD_X9_byteAt (by decide) (Nat.le_of_ble_eq_true rfl) rfl (c_X9_byteAt ((h1 92 4)) (h1) _ hw) kxN (kIp (fun z2 hw => ?_))
    exact g_iret (dk D_X9_signHere 11 rfl) rfl ⟨_, rfl, hw⟩
  · refine g_iconst (dk D_X9_signHere 3 rfl) ki_m1 ?_
    exact g_iret (dk D_X9_signHere 4 rfl) rfl ⟨_, rfl, hw⟩
theorem c_X9_signHere {X : Cx} (h : Hp) (Q : Int32 → Hp → Prop) (hw : w_X9_signHere h Q) : Con X yX9_signHere M_X9_signHere 2 57 0 [.ref (92)] h (QI Q) Qn :=
  con_of (by decide +kernel) rfl (Nat.le_of_ble_eq_true rfl) (t_X9_signHere h Q hw)
/-! ShadowTollsModel.nameHere()I -/
abbrev M_X9_nameHere : Mi := (RX9, cX9_nameHere, 1, (some .int))
abbrev E_X9_nameHere : Rm := (4, 118, 0, 0)
def rows_X9_nameHere : List (Nat × Instr × Nat) := [(0, .aload_n 0, 1), (1, .ldc2_w 149, 3), (4, .bipush 19, 2), (6, .bipush 8, 2), (8, .iconst 1, 1), (9, .iconst 4, 1), (10, .bipush 15, 2), (12, .invokestatic 172, 3), (15, .lmul, 1), (16, .ldc2_w 239, 3), (19, .ladd, 1), (20, .invokevirtual 159, 3), (23, .ifCond .eq 5, 3), (26, .iconst 1, 1), (27, .ireturn, 1), (28, .aload_n 0, 1), (29, .ldc2_w 149, 3), (32, .bipush 8, 2), (34, .iconst 5, 1), (35, .bipush 9, 2), (37, .bipush 7, 2), (39, .bipush 8, 2), (41, .invokestatic 172, 3), (44, .lmul, 1), (45, .ldc2_w 241, 3), (48, .ladd, 1), (49, .invokevirtual 159, 3), (52, .ifCond .eq 5, 3), (55, .iconst 2, 1), (56, .ireturn, 1), (57, .aload_n 0, 1), (58, .ldc2_w 149, 3), (61, .bipush 23, 2), (63, .iconst 5, 1), (64, .bipush 9, 2), (66, .bipush 7, 2), (68, .bipush 8, 2), (70, .invokestatic 172, 3), (73, .lmul, 1), (74, .ldc2_w 241, 3), (77, .ladd, 1), (78, .invokevirtual 159, 3), (81, .ifCond .eq 5, 3), (84, .iconst 3, 1), (85, .ireturn, 1), (86, .aload_n 0, 1), (87, .bipush 8, 2), (89, .bipush 15, 2), (91, .bipush 21, 2), (93, .bipush 18, 2), (95, .iconst 0, 1), (96, .invokestatic 172, 3), (99, .invokevirtual 159, 3), (102, .ifCond .eq 5, 3), (105, .iconst 4, 1), (106, .ireturn, 1), (107, .aload_n 0, 1), (108, .iconst 4, 1), (109, .iconst 1, 1), (110, .bipush 25, 2), (112, .iconst 0, 1), (113, .iconst 0, 1), (114, .invokestatic 172, 3), (117, .invokevirtual 159, 3), (120, .ifCond .eq 5, 3), (123, .iconst 5, 1), (124, .ireturn, 1), (125, .aload_n 0, 1), (126, .bipush 6, 2), (128, .iconst 5, 1), (129, .iconst 1, 1), (130, .bipush 19, 2), (132, .bipush 20, 2), (134, .invokestatic 172, 3), (137, .invokevirtual 159, 3), (140, .ifCond .eq 8, 3), (143, .bipush 6, 2), (145, .goto 4, 3), (148, .iconst 0, 1), (149, .ireturn, 1)]
theorem D_X9_nameHere : dkA cX9_nameHere rows_X9_nameHere := by
  unfold dkA
  decide +kernel
theorem okD_X9_nameHere : okD yX9_nameHere 0 := by
  unfold okD
  decide +kernel
def w_X9_nameHere (h : Hp) (Q : Int32 → Hp → Prop) : Prop :=
  w_X9_five ((19 : Int32)) ((8 : Int32)) ((1 : Int32)) ((4 : Int32)) ((15 : Int32)) h (fun z1 => w_X9_isWord ((((27 : Int64) * z1) + (23 : Int64))) h (fun z2 h3 => wif (z2 = 0) (w_X9_five ((8 : Int32)) ((5 : Int32)) ((9 : Int32)) ((7 : Int32)) ((8 : Int32)) h3 (fun z4 => w_X9_isWord ((((27 : Int64) * z4) + (20 : Int64))) h3 (fun z5 h6 => wif (z5 = 0) (w_X9_five ((23 : Int32)) ((5 : Int32)) ((9 : Int32)) ((7 : Int32)) ((8 : Int32)) h6 (fun z7 => w_X9_isWord ((((27 : Int64) * z7) + (20 : Int64))) h6 (fun z8 h9 => wif (z8 = 0) (w_X9_five ((8 : Int32)) ((15 : Int32)) ((21 : Int32)) ((18 : Int32)) ((0 : Int32)) h9 (fun z10 => w_X9_isWord (z10) h9 (fun z11 h12 => wif (z11 = 0) (w_X9_five ((4 : Int32)) ((1 : Int32)) ((25 : Int32)) ((0 : Int32)) ((0 : Int32)) h12 (fun z13 => w_X9_isWord (z13) h12 (fun z14 h15 => wif (z14 = 0) (w_X9_five ((6 : Int32)) ((5 : Int32)) ((1 : Int32)) ((19 : Int32)) ((20 : Int32)) h15 (fun z16 => w_X9_isWord (z16) h15 (fun z17 h18 => Q (if z17 = 0 then (0 : Int32) else (6 : Int32)) h18))) (Q (5 : Int32) h15)))) (Q (4 : Int32) h12)))) (Q (3 : Int32) h9)))) (Q (2 : Int32) h6)))) (Q (1 : Int32) h3)))
theorem t_X9_nameHere {X : Cx} (h : Hp) (Q : Int32 → Hp → Prop) (hw : w_X9_nameHere h Q) : G X M_X9_nameHere E_X9_nameHere (QM X E_X9_nameHere (QI Q) Qn) 0 0 [(0, .ref (92))] [] h := by
  unfold w_X9_nameHere at hw
  refine g_aload_n 0 (dk D_X9_nameHere 0 rfl) rfl rfl ?_
  refine g_ldc2 (dk D_X9_nameHere 1 rfl) w_1557 ?_
  refine g_bipush (dk D_X9_nameHere 2 rfl) kb_19 ?_
  refine g_bipush (dk D_X9_nameHere 3 rfl) kb_8 ?_
  refine g_iconst (dk D_X9_nameHere 4 rfl) ki_1 ?_
  refine g_iconst (dk D_X9_nameHere 5 rfl) ki_4 ?_
  refine g_bipush (dk D_X9_nameHere 6 rfl) kb_15 ?_
  refine g_callS (As := [.int ((19 : Int32)), .int ((8 : Int32)), .int ((1 : Int32)), .int ((4 : Int32)), .int ((15 : Int32))]) (kc := 0) (fr := 0) (lo := 0) (mc := 0) (My := M_X9_five) (dk D_X9_nameHere 7 rfl) w_1554 w_1555 w_110 w_1556 okD_X9_five (by decide) (Nat.le_of_ble_eq_true rfl) rfl (c_X9_five ((19 : Int32)) ((8 : Int32)) ((1 : Int32)) ((4 : Int32)) ((15 : Int32)) (h) _ hw) kxN (kLp (fun z1 hw => ?_))
  refine g_lmul (dk D_X9_nameHere 8 rfl) ?_
  refine g_ldc2 (dk D_X9_nameHere 9 rfl) w_1628 ?_
  refine g_ladd (dk D_X9_nameHere 10 rfl) ?_
  refine g_callV (As := [.long ((((27 : Int64) * z1) + (23 : Int64)))]) (kc := 0) (fr := 3) (lo := 88) (mc := 0) (My := M_X9_isWord) (dk D_X9_nameHere 11 rfl) kd_92 rfl rfl w_1558 w_1560 w_48 w_110 w_1561 okD_X9_isWord (by decide) (Nat.le_of_ble_eq_true rfl) rfl (c_X9_isWord ((((27 : Int64) * z1) + (23 : Int64))) (h) _ hw) kxN (kI (fun z2 h3 hw => ?_))
  refine g_if_eq (dk D_X9_nameHere 12 rfl) rfl (wif_m hw (fun hw => ?_) (fun hw => ?_))
  · refine g_aload_n 0 (dk D_X9_nameHere 15 rfl) rfl rfl ?_
    refine g_ldc2 (dk D_X9_nameHere 16 rfl) w_1557 ?_
    refine g_bipush (dk D_X9_nameHere 17 rfl) kb_8 ?_
    refine g_iconst (dk D_X9_nameHere 18 rfl) ki_5 ?_
    refine g_bipush (dk D_X9_nameHere 19 rfl) kb_9 ?_
    refine g_bipush (dk D_X9_nameHere 20 rfl) kb_7 ?_
    refine g_bipush (dk D_X9_nameHere 21 rfl) kb_8 ?_
    refine g_callS (As := [.int ((8 : Int32)), .int ((5 : Int32)), .int ((9 : Int32)), .int ((7 : Int32)), .int ((8 : Int32))]) (kc := 0) (fr := 0) (lo := 0) (mc := 0) (My := M_X9_five) (dk D_X9_nameHere 22 rfl) w_1554 w_1555 w_110 w_1556 okD_X9_five (by decide) (Nat.le_of_ble_eq_true rfl) rfl (c_X9_five ((8 : Int32)) ((5 : Int32)) ((9 : Int32)) ((7 : Int32)) ((8 : Int32)) (h3) _ hw) kxN (kLp (fun z4 hw => ?_))
    refine g_lmul (dk D_X9_nameHere 23 rfl) ?_
    refine g_ldc2 (dk D_X9_nameHere 24 rfl) w_1629 ?_
    refine g_ladd (dk D_X9_nameHere 25 rfl) ?_
    refine g_callV (As := [.long ((((27 : Int64) * z4) + (20 : Int64)))]) (kc := 0) (fr := 3) (lo := 88) (mc := 0) (My := M_X9_isWord) (dk D_X9_nameHere 26 rfl) kd_92 rfl rfl w_1558 w_1560 w_48 w_110 w_1561 okD_X9_isWord (by decide) (Nat.le_of_ble_eq_true rfl) rfl (c_X9_isWord ((((27 : Int64) * z4) + (20 : Int64))) (h3) _ hw) kxN (kI (fun z5 h6 hw => ?_))
    refine g_if_eq (dk D_X9_nameHere 27 rfl) rfl (wif_m hw (fun hw => ?_) (fun hw => ?_))
    · refine g_aload_n 0 (dk D_X9_nameHere 30 rfl) rfl rfl ?_
      refine g_ldc2 (dk D_X9_nameHere 31 rfl) w_1557 ?_
      refine g_bipush (dk D_X9_nameHere 32 rfl) kb_23 ?_
      refine g_iconst (dk D_X9_nameHere 33 rfl) ki_5 ?_
      refine g_bipush (dk D_X9_nameHere 34 rfl) kb_9 ?_
      refine g_bipush (dk D_X9_nameHere 35 rfl) kb_7 ?_
      refine g_bipush (dk D_X9_nameHere 36 rfl) kb_8 ?_
      refine g_callS (As := [.int ((23 : Int32)), .int ((5 : Int32)), .int ((9 : Int32)), .int ((7 : Int32)), .int ((8 : Int32))]) (kc := 0) (fr := 0) (lo := 0) (mc := 0) (My := M_X9_five) (dk D_X9_nameHere 37 rfl) w_1554 w_1555 w_110 w_1556 okD_X9_five (by decide) (Nat.le_of_ble_eq_true rfl) rfl (c_X9_five ((23 : Int32)) ((5 : Int32)) ((9 : Int32)) ((7 : Int32)) ((8 : Int32)) (h6) _ hw) kxN (kLp (fun z7 hw => ?_))
      refine g_lmul (dk D_X9_nameHere 38 rfl) ?_
      refine g_ldc2 (dk D_X9_nameHere 39 rfl) w_1629 ?_
      refine g_ladd (dk D_X9_nameHere 40 rfl) ?_
      refine g_callV (As := [.long ((((27 : Int64) * z7) + (20 : Int64)))]) (kc := 0) (fr := 3) (lo := 88) (mc := 0) (My := M_X9_isWord) (dk D_X9_nameHere 41 rfl) kd_92 rfl rfl w_1558 w_1560 w_48 w_110 w_1561 okD_X9_isWord (by decide) (Nat.le_of_ble_eq_true rfl) rfl (c_X9_isWord ((((27 : Int64) * z7) + (20 : Int64))) (h6) _ hw) kxN (kI (fun z8 h9 hw => ?_))
      refine g_if_eq (dk D_X9_nameHere 42 rfl) rfl (wif_m hw (fun hw => ?_) (fun hw => ?_))
      · refine g_aload_n 0 (dk D_X9_nameHere 45 rfl) rfl rfl ?_
        refine g_bipush (dk D_X9_nameHere 46 rfl) kb_8 ?_
        refine g_bipush (dk D_X9_nameHere 47 rfl) kb_15 ?_
        refine g_bipush (dk D_X9_nameHere 48 rfl) kb_21 ?_
        refine g_bipush (dk D_X9_nameHere 49 rfl) kb_18 ?_
        refine g_iconst (dk D_X9_nameHere 50 rfl) ki_0 ?_
        refine g_callS (As := [.int ((8 : Int32)), .int ((15 : Int32)), .int ((21 : Int32)), .int ((18 : Int32)), .int ((0 : Int32))]) (kc := 0) (fr := 0) (lo := 0) (mc := 0) (My := M_X9_five) (dk D_X9_nameHere 51 rfl) w_1554 w_1555 w_110 w_1556 okD_X9_five (by decide) (Nat.le_of_ble_eq_true rfl) rfl (c_X9_five ((8 : Int32)) ((15 : Int32)) ((21 : Int32)) ((18 : Int32)) ((0 : Int32)) (h9) _ hw) kxN (kLp (fun z10 hw => ?_))
        refine g_callV (As := [.long (z10)]) (kc := 0) (fr := 3) (lo := 88) (mc := 0) (My := M_X9_isWord) (dk D_X9_nameHere 52 rfl) kd_92 rfl rfl w_1558 w_1560 w_48 w_110 w_1561 okD_X9_isWord (by decide) (Nat.le_of_ble_eq_true rfl) rfl (c_X9_isWord (z10) (h9) _ hw) kxN (kI (fun z11 h12 hw => ?_))
        refine g_if_eq (dk D_X9_nameHere 53 rfl) rfl (wif_m hw (fun hw => ?_) (fun hw => ?_))
        · refine g_aload_n 0 (dk D_X9_nameHere 56 rfl) rfl rfl ?_
          refine g_iconst (dk D_X9_nameHere 57 rfl) ki_4 ?_
          refine g_iconst (dk D_X9_nameHere 58 rfl) ki_1 ?_
          refine g_bipush (dk D_X9_nameHere 59 rfl) kb_25 ?_
          refine g_iconst (dk D_X9_nameHere 60 rfl) ki_0 ?_
          refine g_iconst (dk D_X9_nameHere 61 rfl) ki_0 ?_
          refine g_callS (As := [.int ((4 : Int32)), .int ((1 : Int32)), .int ((25 : Int32)), .int ((0 : Int32)), .int ((0 : Int32))]) (kc := 0) (fr := 0) (lo := 0) (mc := 0) (My := M_X9_five) (dk D_X9_nameHere 62 rfl) w_1554 w_1555 w_110 w_1556 okD_X9_five (by decide) (Nat.le_of_ble_eq_true rfl) rfl (c_X9_five ((4 : Int32)) ((1 : Int32)) ((25 : Int32)) ((0 : Int32)) ((0 : Int32)) (h12) _ hw) kxN (kLp (fun z13 hw => ?_))
          refine g_callV (As := [.long (z13)]) (kc := 0) (fr := 3) (lo := 88) (mc := 0) (My := M_X9_isWord) (dk D_X9_nameHere 63 rfl) kd_92 rfl rfl w_1558 w_1560 w_48 w_110 w_1561 okD_X9_isWord (by decide) (Nat.le_of_ble_eq_true rfl) rfl (c_X9_isWord (z13) (h12) _ hw) kxN (kI (fun z14 h15 hw => ?_))
          refine g_if_eq (dk D_X9_nameHere 64 rfl) rfl (wif_m hw (fun hw => ?_) (fun hw => ?_))
          · refine g_aload_n 0 (dk D_X9_nameHere 67 rfl) rfl rfl ?_
            refine g_bipush (dk D_X9_nameHere 68 rfl) kb_6 ?_
            refine g_iconst (dk D_X9_nameHere 69 rfl) ki_5 ?_
            refine g_iconst (dk D_X9_nameHere 70 rfl) ki_1 ?_
            refine g_bipush (dk D_X9_nameHere 71 rfl) kb_19 ?_
            refine g_bipush (dk D_X9_nameHere 72 rfl) kb_20 ?_
            refine g_callS (As := [.int ((6 : Int32)), .int ((5 : Int32)), .int ((1 : Int32)), .int ((19 : Int32)), .int ((20 : Int32))]) (kc := 0) (fr := 0) (lo := 0) (mc := 0) (My := M_X9_five) (dk D_X9_nameHere 73 rfl) w_1554 w_1555 w_110 w_1556 okD_X9_five (by decide) (Nat.le_of_ble_eq_true rfl) rfl (c_X9_five ((6 : Int32)) ((5 : Int32)) ((1 : Int32)) ((19 : Int32)) ((20 : Int32)) (h15) _ hw) kxN (kLp (fun z16 hw => ?_))
            refine g_callV (As := [.long (z16)]) (kc := 0) (fr := 3) (lo := 88) (mc := 0) (My := M_X9_isWord) (dk D_X9_nameHere 74 rfl) kd_92 rfl rfl w_1558 w_1560 w_48 w_110 w_1561 okD_X9_isWord (by decide) (Nat.le_of_ble_eq_true rfl) rfl (c_X9_isWord (z16) (h15) _ hw) kxN (kI (fun z17 h18 hw => ?_))
            have hj : G X M_X9_nameHere E_X9_nameHere (QM X E_X9_nameHere (QI Q) Qn) 0 149 [(0, .ref (92))] [.int ((if z17 = 0 then (0 : Int32) else (6 : Int32)))] (h18) := by
              exact g_iret (dk D_X9_nameHere 79 rfl) rfl ⟨_, rfl, hw⟩
            refine g_if_eq (dk D_X9_nameHere 75 rfl) rfl ?_
            by_cases c19 : z17 = 0
            · rw [if_pos c19] at hj
              refine wif_p c19 ?_
              refine g_iconst (dk D_X9_nameHere 78 rfl) ki_0 ?_
              exact hj
            · rw [if_neg c19] at hj
              refine wif_n c19 ?_
              refine g_bipush (dk D_X9_nameHere 76 rfl) kb_6 ?_
              refine g_goto (dk D_X9_nameHere 77 rfl) rfl ?_
              exact hj
          · refine g_iconst (dk D_X9_nameHere 65 rfl) ki_5 ?_
            exact g_iret (dk D_X9_nameHere 66 rfl) rfl ⟨_, rfl, hw⟩
        · refine g_iconst (dk D_X9_nameHere 54 rfl) ki_4 ?_
          exact g_iret (dk D_X9_nameHere 55 rfl) rfl ⟨_, rfl, hw⟩
      · refine g_iconst (dk D_X9_nameHere 43 rfl) ki_3 ?_
        exact g_iret (dk D_X9_nameHere 44 rfl) rfl ⟨_, rfl, hw⟩
    · refine g_iconst (dk D_X9_nameHere 28 rfl) ki_2 ?_
      exact g_iret (dk D_X9_nameHere 29 rfl) rfl ⟨_, rfl, hw⟩
  · refine g_iconst (dk D_X9_nameHere 13 rfl) ki_1 ?_
    exact g_iret (dk D_X9_nameHere 14 rfl) rfl ⟨_, rfl, hw⟩
theorem c_X9_nameHere {X : Cx} (h : Hp) (Q : Int32 → Hp → Prop) (hw : w_X9_nameHere h Q) : Con X yX9_nameHere M_X9_nameHere 4 118 0 [.ref (92)] h (QI Q) Qn :=
  con_of (by decide +kernel) rfl (Nat.le_of_ble_eq_true rfl) (t_X9_nameHere h Q hw)
