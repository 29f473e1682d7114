/-! ShadowTolls$LawReader.condition(I)Z -/
abbrev M_X1_unit_o : Mi := (RX1, cX1_unit, 5, (some .boolean))
def rows_X1_unit_o : List (Nat × Instr × Nat) := [(0, .aload_n 0, 1), (1, .getfield 9, 3), (4, .invokevirtual 30, 3), (7, .istore_n 2, 1), (8, .aload_n 0, 1), (9, .getfield 9, 3), (12, .bipush 40, 2), (14, .invokevirtual 69, 3), (17, .ifCond .eq 47, 3), (20, .iload_n 1, 1), (21, .bipush 6, 2), (23, .if_icmp .lt 13, 3), (26, .aload_n 0, 1), (27, .getfield 9, 3), (30, .iconst 3, 1), (31, .iload_n 2, 1), (32, .invokevirtual 40, 3), (35, .ireturn, 1), (36, .aload_n 0, 1), (37, .iload_n 1, 1), (38, .iconst 1, 1), (39, .iadd, 1), (40, .invokevirtual 44, 3), (43, .ifCond .eq 19, 3), (46, .aload_n 0, 1), (47, .getfield 9, 3), (50, .bipush 41, 2), (52, .invokevirtual 57, 3), (55, .ifCond .eq 7, 3), (58, .iconst 1, 1), (59, .goto 4, 3), (62, .iconst 0, 1), (63, .ireturn, 1), (64, .aload_n 0, 1), (65, .getfield 9, 3), (68, .ldc 75, 2), (70, .invokevirtual 36, 3), (73, .ifCond .eq 7, 3), (76, .iconst (-1), 1), (77, .goto 89, 3), (80, .aload_n 0, 1), (81, .getfield 9, 3), (84, .ldc 77, 2), (86, .invokevirtual 36, 3), (89, .ifCond .eq 8, 3), (92, .bipush (-2), 2), (94, .goto 72, 3), (97, .aload_n 0, 1), (98, .getfield 9, 3), (101, .ldc 79, 2), (103, .invokevirtual 36, 3), (106, .ifCond .eq 8, 3), (109, .bipush (-3), 2), (111, .goto 55, 3), (114, .aload_n 0, 1), (115, .getfield 9, 3), (118, .ldc 81, 2), (120, .invokevirtual 36, 3), (123, .ifCond .eq 8, 3), (126, .bipush (-4), 2), (128, .goto 38, 3), (131, .aload_n 0, 1), (132, .getfield 9, 3), (135, .ldc 83, 2), (137, .invokevirtual 36, 3), (140, .ifCond .eq 8, 3), (143, .bipush (-5), 2), (145, .goto 21, 3), (148, .aload_n 0, 1), (149, .getfield 9, 3), (152, .ldc 85, 2), (154, .invokevirtual 36, 3), (157, .ifCond .eq 8, 3), (160, .bipush (-6), 2), (162, .goto 4, 3), (165, .iconst 0, 1), (166, .istore_n 3, 1), (167, .iload_n 3, 1), (168, .ifCond .ne 17, 3), (171, .aload_n 0, 1), (172, .getfield 9, 3), (175, .iconst 0, 1), (176, .sipush 9999, 3), (179, .invokevirtual 87, 3), (182, .goto 4, 3), (185, .iload_n 3, 1), (186, .istore 4, 2), (188, .iload_n 3, 1), (189, .ifCond .ne 11, 3), (192, .iload 4, 2), (194, .iconst (-1), 1), (195, .if_icmp .ne 5, 3), (198, .iconst 0, 1), (199, .ireturn, 1), (200, .aload_n 0, 1), (201, .getfield 15, 3), (204, .iload 4, 2), (206, .invokevirtual 53, 3), (209, .iconst 1, 1), (210, .ireturn, 1)]
theorem D_X1_unit_o : dkA cX1_unit rows_X1_unit_o := by
  unfold dkA
  decide +kernel
theorem okD_X1_unit_o : okD yX1_unit 1 := by
  unfold okD
  decide +kernel
abbrev M_X1_number_o : Mi := (RX1, cX1_number, 5, (some .boolean))
def rows_X1_number_o : List (Nat × Instr × Nat) := [(0, .iconst 0, 1), (1, .istore_n 2, 1), (2, .iconst 0, 1), (3, .istore_n 3, 1), (4, .iconst 0, 1), (5, .istore 4, 2), (7, .iload 4, 2), (9, .sipush 500, 3), (12, .if_icmp .gt 125, 3), (15, .aload_n 0, 1), (16, .iload_n 1, 1), (17, .invokevirtual 72, 3), (20, .ifCond .ne 5, 3), (23, .iconst 0, 1), (24, .ireturn, 1), (25, .iload_n 3, 1), (26, .ifCond .eq 11, 3), (29, .aload_n 0, 1), (30, .getfield 15, 3), (33, .iload_n 3, 1), (34, .invokevirtual 53, 3), (37, .aload_n 0, 1), (38, .getfield 9, 3), (41, .bipush 42, 2), (43, .invokevirtual 69, 3), (46, .ifCond .eq 8, 3), (49, .bipush (-9), 2), (51, .goto 21, 3), (54, .aload_n 0, 1), (55, .getfield 9, 3), (58, .bipush 47, 2), (60, .invokevirtual 69, 3), (63, .ifCond .eq 8, 3), (66, .bipush (-10), 2), (68, .goto 4, 3), (71, .iconst 0, 1), (72, .istore_n 3, 1), (73, .iload_n 3, 1), (74, .ifCond .ne 57, 3), (77, .iload_n 2, 1), (78, .ifCond .eq 11, 3), (81, .aload_n 0, 1), (82, .getfield 15, 3), (85, .iload_n 2, 1), (86, .invokevirtual 53, 3), (89, .aload_n 0, 1), (90, .getfield 9, 3), (93, .bipush 43, 2), (95, .invokevirtual 69, 3), (98, .ifCond .eq 8, 3), (101, .bipush (-7), 2), (103, .goto 21, 3), (106, .aload_n 0, 1), (107, .getfield 9, 3), (110, .bipush 45, 2), (112, .invokevirtual 69, 3), (115, .ifCond .eq 8, 3), (118, .bipush (-8), 2), (120, .goto 4, 3), (123, .iconst 0, 1), (124, .istore_n 2, 1), (125, .iload_n 2, 1), (126, .ifCond .ne 5, 3), (129, .iconst 1, 1), (130, .ireturn, 1), (131, .iinc 4 1, 3), (134, .goto (-127), 3), (137, .iconst 0, 1), (138, .ireturn, 1)]
theorem D_X1_number_o : dkA cX1_number rows_X1_number_o := by
  unfold dkA
  decide +kernel
theorem okD_X1_number_o : okD yX1_number 1 := by
  unfold okD
  decide +kernel
abbrev M_X1_clause_o : Mi := (RX1, cX1_clause, 4, (some .boolean))
def rows_X1_clause_o : List (Nat × Instr × Nat) := [(0, .aload_n 0, 1), (1, .getfield 9, 3), (4, .invokevirtual 30, 3), (7, .istore_n 2, 1), (8, .aload_n 0, 1), (9, .getfield 9, 3), (12, .ldc 67, 2), (14, .invokevirtual 36, 3), (17, .ifCond .eq 42, 3), (20, .iload_n 1, 1), (21, .bipush 6, 2), (23, .if_icmp .lt 13, 3), (26, .aload_n 0, 1), (27, .getfield 9, 3), (30, .iconst 3, 1), (31, .iload_n 2, 1), (32, .invokevirtual 40, 3), (35, .ireturn, 1), (36, .aload_n 0, 1), (37, .iload_n 1, 1), (38, .iconst 1, 1), (39, .iadd, 1), (40, .invokevirtual 60, 3), (43, .ifCond .ne 5, 3), (46, .iconst 0, 1), (47, .ireturn, 1), (48, .aload_n 0, 1), (49, .getfield 15, 3), (52, .bipush (-14), 2), (54, .invokevirtual 53, 3), (57, .iconst 1, 1), (58, .ireturn, 1), (59, .aload_n 0, 1), (60, .getfield 9, 3), (63, .bipush 91, 2), (65, .invokevirtual 69, 3), (68, .ifCond .eq 47, 3), (71, .iload_n 1, 1), (72, .bipush 6, 2), (74, .if_icmp .lt 13, 3), (77, .aload_n 0, 1), (78, .getfield 9, 3), (81, .iconst 3, 1), (82, .iload_n 2, 1), (83, .invokevirtual 40, 3), (86, .ireturn, 1), (87, .aload_n 0, 1), (88, .iload_n 1, 1), (89, .iconst 1, 1), (90, .iadd, 1), (91, .invokevirtual 50, 3), (94, .ifCond .eq 19, 3), (97, .aload_n 0, 1), (98, .getfield 9, 3), (101, .bipush 93, 2), (103, .invokevirtual 57, 3), (106, .ifCond .eq 7, 3), (109, .iconst 1, 1), (110, .goto 4, 3), (113, .iconst 0, 1), (114, .ireturn, 1), (115, .aload_n 0, 1), (116, .iload_n 1, 1), (117, .invokevirtual 44, 3), (120, .ifCond .ne 5, 3), (123, .iconst 0, 1), (124, .ireturn, 1), (125, .aload_n 0, 1), (126, .getfield 9, 3), (129, .bipush 60, 2), (131, .invokevirtual 69, 3), (134, .ifCond .eq 8, 3), (137, .bipush (-11), 2), (139, .goto 22, 3), (142, .aload_n 0, 1), (143, .getfield 9, 3), (146, .bipush 62, 2), (148, .invokevirtual 69, 3), (151, .ifCond .eq 8, 3), (154, .bipush (-12), 2), (156, .goto 5, 3), (159, .bipush (-13), 2), (161, .istore_n 3, 1), (162, .iload_n 3, 1), (163, .bipush (-13), 2), (165, .if_icmp .ne 17, 3), (168, .aload_n 0, 1), (169, .getfield 9, 3), (172, .bipush 61, 2), (174, .invokevirtual 57, 3), (177, .ifCond .ne 5, 3), (180, .iconst 0, 1), (181, .ireturn, 1), (182, .aload_n 0, 1), (183, .iload_n 1, 1), (184, .invokevirtual 44, 3), (187, .ifCond .ne 5, 3), (190, .iconst 0, 1), (191, .ireturn, 1), (192, .aload_n 0, 1), (193, .getfield 15, 3), (196, .iload_n 3, 1), (197, .invokevirtual 53, 3), (200, .iconst 1, 1), (201, .ireturn, 1)]
theorem D_X1_clause_o : dkA cX1_clause rows_X1_clause_o := by
  unfold dkA
  decide +kernel
theorem okD_X1_clause_o : okD yX1_clause 1 := by
  unfold okD
  decide +kernel
abbrev M_X1_condition_o : Mi := (RX1, cX1_condition, 5, (some .boolean))
def rows_X1_condition_o : List (Nat × Instr × Nat) := [(0, .iconst 0, 1), (1, .istore_n 2, 1), (2, .iconst 0, 1), (3, .istore_n 3, 1), (4, .iconst 0, 1), (5, .istore 4, 2), (7, .iload 4, 2), (9, .sipush 500, 3), (12, .if_icmp .gt 75, 3), (15, .aload_n 0, 1), (16, .iload_n 1, 1), (17, .invokevirtual 60, 3), (20, .ifCond .ne 5, 3), (23, .iconst 0, 1), (24, .ireturn, 1), (25, .iload_n 3, 1), (26, .ifCond .eq 12, 3), (29, .aload_n 0, 1), (30, .getfield 15, 3), (33, .bipush (-15), 2), (35, .invokevirtual 53, 3), (38, .aload_n 0, 1), (39, .getfield 9, 3), (42, .ldc 63, 2), (44, .invokevirtual 36, 3), (47, .istore_n 3, 1), (48, .iload_n 3, 1), (49, .ifCond .ne 32, 3), (52, .iload_n 2, 1), (53, .ifCond .eq 12, 3), (56, .aload_n 0, 1), (57, .getfield 15, 3), (60, .bipush (-16), 2), (62, .invokevirtual 53, 3), (65, .aload_n 0, 1), (66, .getfield 9, 3), (69, .ldc 65, 2), (71, .invokevirtual 36, 3), (74, .istore_n 2, 1), (75, .iload_n 2, 1), (76, .ifCond .ne 5, 3), (79, .iconst 1, 1), (80, .ireturn, 1), (81, .iinc 4 1, 3), (84, .goto (-77), 3), (87, .iconst 0, 1), (88, .ireturn, 1)]
theorem D_X1_condition_o : dkA cX1_condition rows_X1_condition_o := by
  unfold dkA
  decide +kernel
theorem okD_X1_condition_o : okD yX1_condition 1 := by
  unfold okD
  decide +kernel
def w_X1_unit_o_b200 (W : Nat → Int32 → Hp → (Int32 → Hp → Prop) → Prop) (p1 : Int32) (v4 : Int32) (h : Hp) (Q : Int32 → Hp → Prop) : Prop :=
  w_X0_add 30 (v4) h (fun h1 => Q ((1 : Int32) &&& 1) h1)
def w_X1_unit_o_b186 (W : Nat → Int32 → Hp → (Int32 → Hp → Prop) → Prop) (p1 : Int32) (v3 : Int32) (s0 : Int32) (h : Hp) (Q : Int32 → Hp → Prop) : Prop :=
  wif (¬ v3 = 0) (w_X1_unit_o_b200 W p1 (s0) (h) Q) (wif (¬ s0 = (-1 : Int32)) (w_X1_unit_o_b200 W p1 (s0) (h) Q) (Q ((0 : Int32) &&& 1) h))
def w_X1_unit_o_b166 (W : Nat → Int32 → Hp → (Int32 → Hp → Prop) → Prop) (p1 : Int32) (s0 : Int32) (h : Hp) (Q : Int32 → Hp → Prop) : Prop :=
  wif (¬ s0 = 0) (w_X1_unit_o_b186 W p1 (s0) (s0) (h) Q) (w_X7_number ((0 : Int32)) ((9999 : Int32)) h (fun z1 h2 => w_X1_unit_o_b186 W p1 (s0) (z1) (h2) Q))
def w_X1_unit_o (W : Nat → Int32 → Hp → (Int32 → Hp → Prop) → Prop) (p1 : Int32) (h : Hp) (Q : Int32 → Hp → Prop) : Prop :=
  w_X7_start  h (fun z1 h2 => w_X7_sign ((40 : Int32)) h2 (fun z3 h4 => wif (z3 = 0) (w_X7_word 14 h4 (fun z5 h6 => wif (z5 = 0) (w_X7_word 15 h6 (fun z7 h8 => wif (z7 = 0) (w_X7_word 16 h8 (fun z9 h10 => wif (z9 = 0) (w_X7_word 17 h10 (fun z11 h12 => wif (z11 = 0) (w_X7_word 18 h12 (fun z13 h14 => wif (z13 = 0) (w_X7_word 19 h14 (fun z15 h16 => wlet ((if z15 = 0 then (0 : Int32) else (-6 : Int32))) (fun v3_18 => wif (¬ v3_18 = 0) (w_X1_unit_o_b186 W p1 (v3_18) (v3_18) (h16) Q) (w_X7_number ((0 : Int32)) ((9999 : Int32)) h16 (fun z19 h20 => w_X1_unit_o_b186 W p1 (v3_18) (z19) (h20) Q))))) (w_X1_unit_o_b166 W p1 ((-5 : Int32)) (h14) Q))) (w_X1_unit_o_b166 W p1 ((-4 : Int32)) (h12) Q))) (w_X1_unit_o_b166 W p1 ((-3 : Int32)) (h10) Q))) (w_X1_unit_o_b166 W p1 ((-2 : Int32)) (h8) Q))) (w_X1_unit_o_b166 W p1 ((-1 : Int32)) (h6) Q))) (wif (p1 < (6 : Int32)) (W 1 ((p1 + (1 : Int32))) h4 (fun z21 h22 => wif (z21 = 0) (Q ((0 : Int32) &&& 1) h22) (w_X7_must ((41 : Int32)) h22 (fun z23 h24 => Q ((if z23 = 0 then (0 : Int32) else (1 : Int32)) &&& 1) h24)))) (w_X7_fail ((3 : Int32)) (z1) h4 (fun z26 h27 => Q (z26 &&& 1) h27)))))
def w_X1_number_o_b131 (W : Nat → Int32 → Hp → (Int32 → Hp → Prop) → Prop) (p1 : Int32) (v2 : Int32) (v3 : Int32) (v4 : Int32) (K7 : Int32 × Int32 × Int32 × Hp → Prop) (h : Hp) (Q : Int32 → Hp → Prop) : Prop :=
  K7 (v2, v3, (v4 + (1 : Int32)), h)
def w_X1_number_o_b124 (W : Nat → Int32 → Hp → (Int32 → Hp → Prop) → Prop) (p1 : Int32) (v3 : Int32) (v4 : Int32) (s0 : Int32) (K7 : Int32 × Int32 × Int32 × Hp → Prop) (h : Hp) (Q : Int32 → Hp → Prop) : Prop :=
  wif (¬ s0 = 0) (w_X1_number_o_b131 W p1 (s0) (v3) (v4) K7 (h) Q) (Q ((1 : Int32) &&& 1) h)
def w_X1_number_o_b89 (W : Nat → Int32 → Hp → (Int32 → Hp → Prop) → Prop) (p1 : Int32) (v3 : Int32) (v4 : Int32) (K7 : Int32 × Int32 × Int32 × Hp → Prop) (h : Hp) (Q : Int32 → Hp → Prop) : Prop :=
  w_X7_sign ((43 : Int32)) h (fun z1 h2 => wif (z1 = 0) (w_X7_sign ((45 : Int32)) h2 (fun z3 h4 => wlet ((if z3 = 0 then (0 : Int32) else (-8 : Int32))) (fun v2_6 => wif (¬ v2_6 = 0) (w_X1_number_o_b131 W p1 (v2_6) (v3) (v4) K7 (h4) Q) (Q ((1 : Int32) &&& 1) h4)))) (w_X1_number_o_b124 W p1 (v3) (v4) ((-7 : Int32)) K7 (h2) Q))
def w_X1_number_o_b72 (W : Nat → Int32 → Hp → (Int32 → Hp → Prop) → Prop) (p1 : Int32) (v2 : Int32) (v4 : Int32) (s0 : Int32) (K7 : Int32 × Int32 × Int32 × Hp → Prop) (h : Hp) (Q : Int32 → Hp → Prop) : Prop :=
  wif (¬ s0 = 0) (w_X1_number_o_b131 W p1 (v2) (s0) (v4) K7 (h) Q) (wif (v2 = 0) (w_X1_number_o_b89 W p1 (s0) (v4) K7 (h) Q) (w_X0_add 30 (v2) h (fun h1 => w_X1_number_o_b89 W p1 (s0) (v4) K7 (h1) Q)))
def w_X1_number_o_b37 (W : Nat → Int32 → Hp → (Int32 → Hp → Prop) → Prop) (p1 : Int32) (v2 : Int32) (v4 : Int32) (K7 : Int32 × Int32 × Int32 × Hp → Prop) (h : Hp) (Q : Int32 → Hp → Prop) : Prop :=
  w_X7_sign ((42 : Int32)) h (fun z1 h2 => wif (z1 = 0) (w_X7_sign ((47 : Int32)) h2 (fun z3 h4 => wlet ((if z3 = 0 then (0 : Int32) else (-10 : Int32))) (fun v3_6 => wif (¬ v3_6 = 0) (w_X1_number_o_b131 W p1 (v2) (v3_6) (v4) K7 (h4) Q) (wif (v2 = 0) (w_X1_number_o_b89 W p1 (v3_6) (v4) K7 (h4) Q) (w_X0_add 30 (v2) h4 (fun h7 => w_X1_number_o_b89 W p1 (v3_6) (v4) K7 (h7) Q)))))) (w_X1_number_o_b72 W p1 (v2) (v4) ((-9 : Int32)) K7 (h2) Q))
def w_X1_number_o_l7 (W : Nat → Int32 → Hp → (Int32 → Hp → Prop) → Prop) (p1 : Int32) (Q : Int32 → Hp → Prop) (K7 : Int32 × Int32 × Int32 × Hp → Prop) (v2 : Int32) (v3 : Int32) (v4 : Int32) (h : Hp) : Prop :=
  wif ((500 : Int32) < v4) (Q ((0 : Int32) &&& 1) h) (W 0 (p1) h (fun z1 h2 => wif (¬ z1 = 0) (wif (v3 = 0) (w_X1_number_o_b37 W p1 (v2) (v4) K7 (h2) Q) (w_X0_add 30 (v3) h2 (fun h3 => w_X1_number_o_b37 W p1 (v2) (v4) K7 (h3) Q))) (Q ((0 : Int32) &&& 1) h2)))
def w_X1_number_o_b7 (W : Nat → Int32 → Hp → (Int32 → Hp → Prop) → Prop) (p1 : Int32) (Q : Int32 → Hp → Prop) (s : Int32 × Int32 × Int32 × Hp) : Prop := wl (fun K s => w_X1_number_o_l7 W p1 Q K s.1 s.2.1 s.2.2.1 s.2.2.2) s
def w_X1_number_o (W : Nat → Int32 → Hp → (Int32 → Hp → Prop) → Prop) (p1 : Int32) (h : Hp) (Q : Int32 → Hp → Prop) : Prop :=
  w_X1_number_o_b7 W p1 Q ((0 : Int32), (0 : Int32), (0 : Int32), h)
def w_X1_clause_o_b182 (W : Nat → Int32 → Hp → (Int32 → Hp → Prop) → Prop) (p1 : Int32) (v3 : Int32) (h : Hp) (Q : Int32 → Hp → Prop) : Prop :=
  W 1 (p1) h (fun z1 h2 => wif (¬ z1 = 0) (w_X0_add 30 (v3) h2 (fun h3 => Q ((1 : Int32) &&& 1) h3)) (Q ((0 : Int32) &&& 1) h2))
def w_X1_clause_o_b161 (W : Nat → Int32 → Hp → (Int32 → Hp → Prop) → Prop) (p1 : Int32) (s0 : Int32) (h : Hp) (Q : Int32 → Hp → Prop) : Prop :=
  wif (¬ s0 = (-13 : Int32)) (w_X1_clause_o_b182 W p1 (s0) (h) Q) (w_X7_must ((61 : Int32)) h (fun z1 h2 => wif (¬ z1 = 0) (w_X1_clause_o_b182 W p1 (s0) (h2) Q) (Q ((0 : Int32) &&& 1) h2)))
def w_X1_clause_o (W : Nat → Int32 → Hp → (Int32 → Hp → Prop) → Prop) (p1 : Int32) (h : Hp) (Q : Int32 → Hp → Prop) : Prop :=
  w_X7_start  h (fun z1 h2 => w_X7_word 21 h2 (fun z3 h4 => wif (z3 = 0) (w_X7_sign ((91 : Int32)) h4 (fun z5 h6 => wif (z5 = 0) (W 1 (p1) h6 (fun z7 h8 => wif (¬ z7 = 0) (w_X7_sign ((60 : Int32)) h8 (fun z9 h10 => wif (z9 = 0) (w_X7_sign ((62 : Int32)) h10 (fun z11 h12 => wlet ((if z11 = 0 then (-13 : Int32) else (-12 : Int32))) (fun v3_14 => wif (¬ v3_14 = (-13 : Int32)) (w_X1_clause_o_b182 W p1 (v3_14) (h12) Q) (w_X7_must ((61 : Int32)) h12 (fun z15 h16 => wif (¬ z15 = 0) (w_X1_clause_o_b182 W p1 (v3_14) (h16) Q) (Q ((0 : Int32) &&& 1) h16)))))) (w_X1_clause_o_b161 W p1 ((-11 : Int32)) (h10) Q))) (Q ((0 : Int32) &&& 1) h8))) (wif (p1 < (6 : Int32)) (W 3 ((p1 + (1 : Int32))) h6 (fun z17 h18 => wif (z17 = 0) (Q ((0 : Int32) &&& 1) h18) (w_X7_must ((93 : Int32)) h18 (fun z19 h20 => Q ((if z19 = 0 then (0 : Int32) else (1 : Int32)) &&& 1) h20)))) (w_X7_fail ((3 : Int32)) (z1) h6 (fun z22 h23 => Q (z22 &&& 1) h23))))) (wif (p1 < (6 : Int32)) (W 2 ((p1 + (1 : Int32))) h4 (fun z24 h25 => wif (¬ z24 = 0) (w_X0_add 30 ((-14 : Int32)) h25 (fun h26 => Q ((1 : Int32) &&& 1) h26)) (Q ((0 : Int32) &&& 1) h25))) (w_X7_fail ((3 : Int32)) (z1) h4 (fun z27 h28 => Q (z27 &&& 1) h28)))))
def w_X1_condition_o_b81 (W : Nat → Int32 → Hp → (Int32 → Hp → Prop) → Prop) (p1 : Int32) (v2 : Int32) (v3 : Int32) (v4 : Int32) (K7 : Int32 × Int32 × Int32 × Hp → Prop) (h : Hp) (Q : Int32 → Hp → Prop) : Prop :=
  K7 (v2, v3, (v4 + (1 : Int32)), h)
def w_X1_condition_o_b65 (W : Nat → Int32 → Hp → (Int32 → Hp → Prop) → Prop) (p1 : Int32) (v3 : Int32) (v4 : Int32) (K7 : Int32 × Int32 × Int32 × Hp → Prop) (h : Hp) (Q : Int32 → Hp → Prop) : Prop :=
  w_X7_word 23 h (fun z1 h2 => wif (¬ z1 = 0) (w_X1_condition_o_b81 W p1 (z1) (v3) (v4) K7 (h2) Q) (Q ((1 : Int32) &&& 1) h2))
def w_X1_condition_o_b38 (W : Nat → Int32 → Hp → (Int32 → Hp → Prop) → Prop) (p1 : Int32) (v2 : Int32) (v4 : Int32) (K7 : Int32 × Int32 × Int32 × Hp → Prop) (h : Hp) (Q : Int32 → Hp → Prop) : Prop :=
  w_X7_word 22 h (fun z1 h2 => wif (¬ z1 = 0) (w_X1_condition_o_b81 W p1 (v2) (z1) (v4) K7 (h2) Q) (wif (v2 = 0) (w_X1_condition_o_b65 W p1 (z1) (v4) K7 (h2) Q) (w_X0_add 30 ((-16 : Int32)) h2 (fun h3 => w_X1_condition_o_b65 W p1 (z1) (v4) K7 (h3) Q))))
def w_X1_condition_o_l7 (W : Nat → Int32 → Hp → (Int32 → Hp → Prop) → Prop) (p1 : Int32) (Q : Int32 → Hp → Prop) (K7 : Int32 × Int32 × Int32 × Hp → Prop) (v2 : Int32) (v3 : Int32) (v4 : Int32) (h : Hp) : Prop :=
  wif ((500 : Int32) < v4) (Q ((0 : Int32) &&& 1) h) (W 2 (p1) h (fun z1 h2 => wif (¬ z1 = 0) (wif (v3 = 0) (w_X1_condition_o_b38 W p1 (v2) (v4) K7 (h2) Q) (w_X0_add 30 ((-15 : Int32)) h2 (fun h3 => w_X1_condition_o_b38 W p1 (v2) (v4) K7 (h3) Q))) (Q ((0 : Int32) &&& 1) h2)))
def w_X1_condition_o_b7 (W : Nat → Int32 → Hp → (Int32 → Hp → Prop) → Prop) (p1 : Int32) (Q : Int32 → Hp → Prop) (s : Int32 × Int32 × Int32 × Hp) : Prop := wl (fun K s => w_X1_condition_o_l7 W p1 Q K s.1 s.2.1 s.2.2.1 s.2.2.2) s
def w_X1_condition_o (W : Nat → Int32 → Hp → (Int32 → Hp → Prop) → Prop) (p1 : Int32) (h : Hp) (Q : Int32 → Hp → Prop) : Prop :=
  w_X1_condition_o_b7 W p1 Q ((0 : Int32), (0 : Int32), (0 : Int32), h)
theorem t_X1_unit_o_b200 {X : Cx} (W : Nat → Int32 → Hp → (Int32 → Hp → Prop) → Prop) (p1 : Int32) (v4 : Int32) (h : Hp) (Q : Int32 → Hp → Prop) (d : Nat) (hW0 : ∀ (p1 : Int32) (h : Hp) (Q : Int32 → Hp → Prop), W 0 p1 h Q → Con X yX1_unit M_X1_unit_o (10 + d) (300 + 60 * d) 0 [.ref (43), .int (p1)] h (QI Q) Qn) (hW1 : ∀ (p1 : Int32) (h : Hp) (Q : Int32 → Hp → Prop), W 1 p1 h Q → Con X yX1_number M_X1_number_o (10 + d) (300 + 60 * d) 0 [.ref (43), .int (p1)] h (QI Q) Qn) (hW2 : ∀ (p1 : Int32) (h : Hp) (Q : Int32 → Hp → Prop), W 2 p1 h Q → Con X yX1_clause M_X1_clause_o (10 + d) (300 + 60 * d) 0 [.ref (43), .int (p1)] h (QI Q) Qn) (hW3 : ∀ (p1 : Int32) (h : Hp) (Q : Int32 → Hp → Prop), W 3 p1 h Q → Con X yX1_condition M_X1_condition_o (10 + d) (300 + 60 * d) 0 [.ref (43), .int (p1)] h (QI Q) Qn)  (hw : w_X1_unit_o_b200 W p1 v4 h Q) : G X M_X1_unit_o (Er (d + 1)) (QM X (Er (d + 1)) (QI Q) Qn) 0 200 [(0, .ref (43)), (4, .int (v4))] [] h := by
  unfold w_X1_unit_o_b200 at hw
  refine g_aload_n 0 (dk D_X1_unit_o 94 rfl) rfl rfl ?_
  refine g_getR 1 (t := 30) (dk D_X1_unit_o 95 rfl) kd_43 rfl rfl (by decide) w_286 rfl rfl rfl ?_
  refine g_iload 1 (dk D_X1_unit_o 96 rfl) rfl ?_
  refine g_callV (As := [.int (v4)]) (kc := 0) (fr := 1) (lo := 30) (mc := 0) (My := M_X0_add) (dk D_X1_unit_o 97 rfl) lawP_30.1 rfl rfl w_974 w_975 w_976 w_104 w_977 okD_X0_add (er_n d (by decide) (by decide)) (Nat.le_of_ble_eq_true rfl) rfl (c_X0_add 30 (v4) (lawP_30) (h) _ hw) kxN (kV (fun h1 hw => ?_))
  refine g_iconst (dk D_X1_unit_o 98 rfl) ki_1 ?_
  exact g_zret (dk D_X1_unit_o 99 rfl) rfl ⟨_, rfl, hw⟩
theorem t_X1_unit_o_b186 {X : Cx} (W : Nat → Int32 → Hp → (Int32 → Hp → Prop) → Prop) (p1 : Int32) (v3 : Int32) (s0 : Int32) (h : Hp) (Q : Int32 → Hp → Prop) (d : Nat) (hW0 : ∀ (p1 : Int32) (h : Hp) (Q : Int32 → Hp → Prop), W 0 p1 h Q → Con X yX1_unit M_X1_unit_o (10 + d) (300 + 60 * d) 0 [.ref (43), .int (p1)] h (QI Q) Qn) (hW1 : ∀ (p1 : Int32) (h : Hp) (Q : Int32 → Hp → Prop), W 1 p1 h Q → Con X yX1_number M_X1_number_o (10 + d) (300 + 60 * d) 0 [.ref (43), .int (p1)] h (QI Q) Qn) (hW2 : ∀ (p1 : Int32) (h : Hp) (Q : Int32 → Hp → Prop), W 2 p1 h Q → Con X yX1_clause M_X1_clause_o (10 + d) (300 + 60 * d) 0 [.ref (43), .int (p1)] h (QI Q) Qn) (hW3 : ∀ (p1 : Int32) (h : Hp) (Q : Int32 → Hp → Prop), W 3 p1 h Q → Con X yX1_condition M_X1_condition_o (10 + d) (300 + 60 * d) 0 [.ref (43), .int (p1)] h (QI Q) Qn)  (hw : w_X1_unit_o_b186 W p1 v3 s0 h Q) : G X M_X1_unit_o (Er (d + 1)) (QM X (Er (d + 1)) (QI Q) Qn) 0 186 [(0, .ref (43)), (3, .int (v3))] [.int (s0)] h := by
  unfold w_X1_unit_o_b186 at hw
  refine g_istore (dk D_X1_unit_o 86 rfl) (by decide) rfl ?_
  refine g_iload_n 2 (dk D_X1_unit_o 87 rfl) rfl rfl ?_
  refine g_if_ne (dk D_X1_unit_o 88 rfl) rfl (wif_m hw (fun hw => ?_) (fun hw => ?_))
  · refine g_sub [1, 0] rfl ?_
    exact t_X1_unit_o_b200 W p1 (s0) (h) Q d hW0 hW1 hW2 hW3  hw
  · refine g_iload 0 (dk D_X1_unit_o 89 rfl) rfl ?_
    refine g_iconst (dk D_X1_unit_o 90 rfl) ki_m1 ?_
    refine g_icmp_ne (dk D_X1_unit_o 91 rfl) rfl (wif_m hw (fun hw => ?_) (fun hw => ?_))
    · refine g_sub [1, 0] rfl ?_
      exact t_X1_unit_o_b200 W p1 (s0) (h) Q d hW0 hW1 hW2 hW3  hw
    · refine g_iconst (dk D_X1_unit_o 92 rfl) ki_0 ?_
      exact g_zret (dk D_X1_unit_o 93 rfl) rfl ⟨_, rfl, hw⟩
theorem t_X1_unit_o_b166 {X : Cx} (W : Nat → Int32 → Hp → (Int32 → Hp → Prop) → Prop) (p1 : Int32) (s0 : Int32) (h : Hp) (Q : Int32 → Hp → Prop) (d : Nat) (hW0 : ∀ (p1 : Int32) (h : Hp) (Q : Int32 → Hp → Prop), W 0 p1 h Q → Con X yX1_unit M_X1_unit_o (10 + d) (300 + 60 * d) 0 [.ref (43), .int (p1)] h (QI Q) Qn) (hW1 : ∀ (p1 : Int32) (h : Hp) (Q : Int32 → Hp → Prop), W 1 p1 h Q → Con X yX1_number M_X1_number_o (10 + d) (300 + 60 * d) 0 [.ref (43), .int (p1)] h (QI Q) Qn) (hW2 : ∀ (p1 : Int32) (h : Hp) (Q : Int32 → Hp → Prop), W 2 p1 h Q → Con X yX1_clause M_X1_clause_o (10 + d) (300 + 60 * d) 0 [.ref (43), .int (p1)] h (QI Q) Qn) (hW3 : ∀ (p1 : Int32) (h : Hp) (Q : Int32 → Hp → Prop), W 3 p1 h Q → Con X yX1_condition M_X1_condition_o (10 + d) (300 + 60 * d) 0 [.ref (43), .int (p1)] h (QI Q) Qn)  (hw : w_X1_unit_o_b166 W p1 s0 h Q) : G X M_X1_unit_o (Er (d + 1)) (QM X (Er (d + 1)) (QI Q) Qn) 0 166 [(0, .ref (43))] [.int (s0)] h := by
  unfold w_X1_unit_o_b166 at hw
  refine g_istore_n (dk D_X1_unit_o 76 rfl) rfl (by decide) rfl ?_
  refine g_iload_n 0 (dk D_X1_unit_o 77 rfl) rfl rfl ?_
  refine g_if_ne (dk D_X1_unit_o 78 rfl) rfl (wif_m hw (fun hw => ?_) (fun hw => ?_))
  · refine g_iload_n 0 (dk D_X1_unit_o 85 rfl) rfl rfl ?_
    refine g_sub [1, 0] rfl ?_
    exact t_X1_unit_o_b186 W p1 (s0) (s0) (h) Q d hW0 hW1 hW2 hW3  hw
  · refine g_aload_n 1 (dk D_X1_unit_o 79 rfl) rfl rfl ?_
    refine g_getR 0 (t := 1) (dk D_X1_unit_o 80 rfl) kd_43 rfl rfl (by decide) w_285 rfl rfl rfl ?_
    refine g_iconst (dk D_X1_unit_o 81 rfl) ki_0 ?_
    refine g_sipush (dk D_X1_unit_o 82 rfl) ks_9999 ?_
    refine g_callV (As := [.int ((0 : Int32)), .int ((9999 : Int32))]) (kc := 0) (fr := 1) (lo := 30) (mc := 0) (My := M_X7_number) (dk D_X1_unit_o 83 rfl) kd_1 rfl rfl w_973 w_882 w_883 w_102 w_884 okD_X7_number (er_n d (by decide) (by decide)) (Nat.le_of_ble_eq_true rfl) rfl (c_X7_number ((0 : Int32)) ((9999 : Int32)) (h) _ hw) kxN (kI (fun z1 h2 hw => ?_))
    refine g_goto (dk D_X1_unit_o 84 rfl) rfl ?_
    refine g_sub [1, 0] rfl ?_
    exact t_X1_unit_o_b186 W p1 (s0) (z1) (h2) Q d hW0 hW1 hW2 hW3  hw
theorem t_X1_unit_o {X : Cx} (W : Nat → Int32 → Hp → (Int32 → Hp → Prop) → Prop) (p1 : Int32) (h : Hp) (Q : Int32 → Hp → Prop) (d : Nat) (hW0 : ∀ (p1 : Int32) (h : Hp) (Q : Int32 → Hp → Prop), W 0 p1 h Q → Con X yX1_unit M_X1_unit_o (10 + d) (300 + 60 * d) 0 [.ref (43), .int (p1)] h (QI Q) Qn) (hW1 : ∀ (p1 : Int32) (h : Hp) (Q : Int32 → Hp → Prop), W 1 p1 h Q → Con X yX1_number M_X1_number_o (10 + d) (300 + 60 * d) 0 [.ref (43), .int (p1)] h (QI Q) Qn) (hW2 : ∀ (p1 : Int32) (h : Hp) (Q : Int32 → Hp → Prop), W 2 p1 h Q → Con X yX1_clause M_X1_clause_o (10 + d) (300 + 60 * d) 0 [.ref (43), .int (p1)] h (QI Q) Qn) (hW3 : ∀ (p1 : Int32) (h : Hp) (Q : Int32 → Hp → Prop), W 3 p1 h Q → Con X yX1_condition M_X1_condition_o (10 + d) (300 + 60 * d) 0 [.ref (43), .int (p1)] h (QI Q) Qn)  (hw : w_X1_unit_o W p1 h Q) : G X M_X1_unit_o (Er (d + 1)) (QM X (Er (d + 1)) (QI Q) Qn) 0 0 [(0, .ref (43)), (1, .int (p1))] [] h := by
  unfold w_X1_unit_o at hw
  refine g_aload_n 0 (dk D_X1_unit_o 0 rfl) rfl rfl ?_
  refine g_getR 0 (t := 1) (dk D_X1_unit_o 1 rfl) kd_43 rfl rfl (by decide) w_285 rfl rfl rfl ?_
  refine g_callV (As := []) (kc := 0) (fr := 0) (lo := 0) (mc := 0) (My := M_X7_start) (dk D_X1_unit_o 2 rfl) kd_1 rfl rfl w_953 w_789 w_790 w_102 w_791 okD_X7_start (er_n d (by decide) (by decide)) (Nat.le_of_ble_eq_true rfl) rfl (c_X7_start (h) _ hw) kxN (kI (fun z1 h2 hw => ?_))
  refine g_istore_n (dk D_X1_unit_o 3 rfl) rfl (by decide) rfl ?_
  refine g_aload_n 1 (dk D_X1_unit_o 4 rfl) rfl rfl ?_
  refine g_getR 0 (t := 1) (dk D_X1_unit_o 5 rfl) kd_43 rfl rfl (by decide) w_285 rfl rfl rfl ?_
  refine g_bipush (dk D_X1_unit_o 6 rfl) kb_40 ?_
  refine g_callV (As := [.int ((40 : Int32))]) (kc := 0) (fr := 1) (lo := 29) (mc := 0) (My := M_X7_sign) (dk D_X1_unit_o 7 rfl) kd_1 rfl rfl w_965 w_924 w_925 w_102 w_926 okD_X7_sign (er_n d (by decide) (by decide)) (Nat.le_of_ble_eq_true rfl) rfl (c_X7_sign ((40 : Int32)) (h2) _ hw) kxN (kI (fun z3 h4 hw => ?_))
  refine g_if_eq (dk D_X1_unit_o 8 rfl) rfl (wif_m hw (fun hw => ?_) (fun hw => ?_))
  · refine g_aload_n 1 (dk D_X1_unit_o 33 rfl) rfl rfl ?_
    refine g_getR 0 (t := 1) (dk D_X1_unit_o 34 rfl) kd_43 rfl rfl (by decide) w_285 rfl rfl rfl ?_
    refine g_ldcS 14 (dk D_X1_unit_o 35 rfl) rfl ?_
    refine g_callV (As := [.ref (SB + 2 * 14)]) (kc := 0) (fr := 6) (lo := 200) (mc := 0) (My := M_X7_word) (dk D_X1_unit_o 36 rfl) kd_1 rfl rfl w_955 w_803 w_804 w_102 w_805 okD_X7_word (er_n d (by decide) (by decide)) (Nat.le_of_ble_eq_true rfl) rfl (c_X7_word 14 ((by decide)) (h4) _ hw) kxN (kI (fun z5 h6 hw => ?_))
    refine g_if_eq (dk D_X1_unit_o 37 rfl) rfl (wif_m hw (fun hw => ?_) (fun hw => ?_))
    · refine g_aload_n 1 (dk D_X1_unit_o 40 rfl) rfl rfl ?_
      refine g_getR 0 (t := 1) (dk D_X1_unit_o 41 rfl) kd_43 rfl rfl (by decide) w_285 rfl rfl rfl ?_
      refine g_ldcS 15 (dk D_X1_unit_o 42 rfl) rfl ?_
      refine g_callV (As := [.ref (SB + 2 * 15)]) (kc := 0) (fr := 6) (lo := 200) (mc := 0) (My := M_X7_word) (dk D_X1_unit_o 43 rfl) kd_1 rfl rfl w_955 w_803 w_804 w_102 w_805 okD_X7_word (er_n d (by decide) (by decide)) (Nat.le_of_ble_eq_true rfl) rfl (c_X7_word 15 ((by decide)) (h6) _ hw) kxN (kI (fun z7 h8 hw => ?_))
      refine g_if_eq (dk D_X1_unit_o 44 rfl) rfl (wif_m hw (fun hw => ?_) (fun hw => ?_))
      · refine g_aload_n 1 (dk D_X1_unit_o 47 rfl) rfl rfl ?_
        refine g_getR 0 (t := 1) (dk D_X1_unit_o 48 rfl) kd_43 rfl rfl (by decide) w_285 rfl rfl rfl ?_
        refine g_ldcS 16 (dk D_X1_unit_o 49 rfl) rfl ?_
        refine g_callV (As := [.ref (SB + 2 * 16)]) (kc := 0) (fr := 6) (lo := 200) (mc := 0) (My := M_X7_word) (dk D_X1_unit_o 50 rfl) kd_1 rfl rfl w_955 w_803 w_804 w_102 w_805 okD_X7_word (er_n d (by decide) (by decide)) (Nat.le_of_ble_eq_true rfl) rfl (c_X7_word 16 ((by decide)) (h8) _ hw) kxN (kI (fun z9 h10 hw => ?_))
        refine g_if_eq (dk D_X1_unit_o 51 rfl) rfl (wif_m hw (fun hw => ?_) (fun hw => ?_))
        · refine g_aload_n 1 (dk D_X1_unit_o 54 rfl) rfl rfl ?_
          refine g_getR 0 (t := 1) (dk D_X1_unit_o 55 rfl) kd_43 rfl rfl (by decide) w_285 rfl rfl rfl ?_
          refine g_ldcS 17 (dk D_X1_unit_o 56 rfl) rfl ?_
          refine g_callV (As := [.ref (SB + 2 * 17)]) (kc := 0) (fr := 6) (lo := 200) (mc := 0) (My := M_X7_word) (dk D_X1_unit_o 57 rfl) kd_1 rfl rfl w_955 w_803 w_804 w_102 w_805 okD_X7_word (er_n d (by decide) (by decide)) (Nat.le_of_ble_eq_true rfl) rfl (c_X7_word 17 ((by decide)) (h10) _ hw) kxN (kI (fun z11 h12 hw => ?_))
          refine g_if_eq (dk D_X1_unit_o 58 rfl) rfl (wif_m hw (fun hw => ?_) (fun hw => ?_))
          · refine g_aload_n 1 (dk D_X1_unit_o 61 rfl) rfl rfl ?_
            refine g_getR 0 (t := 1) (dk D_X1_unit_o 62 rfl) kd_43 rfl rfl (by decide) w_285 rfl rfl rfl ?_
            refine g_ldcS 18 (dk D_X1_unit_o 63 rfl) rfl ?_
            refine g_callV (As := [.ref (SB + 2 * 18)]) (kc := 0) (fr := 6) (lo := 200) (mc := 0) (My := M_X7_word) (dk D_X1_unit_o 64 rfl) kd_1 rfl rfl w_955 w_803 w_804 w_102 w_805 okD_X7_word (er_n d (by decide) (by decide)) (Nat.le_of_ble_eq_true rfl) rfl (c_X7_word 18 ((by decide)) (h12) _ hw) kxN (kI (fun z13 h14 hw => ?_))
            refine g_if_eq (dk D_X1_unit_o 65 rfl) rfl (wif_m hw (fun hw => ?_) (fun hw => ?_))
            · refine g_aload_n 1 (dk D_X1_unit_o 68 rfl) rfl rfl ?_
              refine g_getR 0 (t := 1) (dk D_X1_unit_o 69 rfl) kd_43 rfl rfl (by decide) w_285 rfl rfl rfl ?_
              refine g_ldcS 19 (dk D_X1_unit_o 70 rfl) rfl ?_
              refine g_callV (As := [.ref (SB + 2 * 19)]) (kc := 0) (fr := 6) (lo := 200) (mc := 0) (My := M_X7_word) (dk D_X1_unit_o 71 rfl) kd_1 rfl rfl w_955 w_803 w_804 w_102 w_805 okD_X7_word (er_n d (by decide) (by decide)) (Nat.le_of_ble_eq_true rfl) rfl (c_X7_word 19 ((by decide)) (h14) _ hw) kxN (kI (fun z15 h16 hw => ?_))
              have hj : G X M_X1_unit_o (Er (d + 1)) (QM X (Er (d + 1)) (QI Q) Qn) 0 166 [(2, .int (z1)), (0, .ref (43)), (1, .int (p1))] [.int ((if z15 = 0 then (0 : Int32) else (-6 : Int32)))] (h16) := by
                refine g_topi (fun v3_18 ev3_18 => ?_)
                replace hw := hw _ ev3_18
                refine g_istore_n (dk D_X1_unit_o 76 rfl) rfl (by decide) rfl ?_
                refine g_iload_n 0 (dk D_X1_unit_o 77 rfl) rfl rfl ?_
                refine g_if_ne (dk D_X1_unit_o 78 rfl) rfl (wif_m hw (fun hw => ?_) (fun hw => ?_))
                · refine g_iload_n 0 (dk D_X1_unit_o 85 rfl) rfl rfl ?_
                  refine g_sub [2, 0] rfl ?_
                  exact t_X1_unit_o_b186 W p1 (v3_18) (v3_18) (h16) Q d hW0 hW1 hW2 hW3  hw
                · refine g_aload_n 2 (dk D_X1_unit_o 79 rfl) rfl rfl ?_
                  refine g_getR 0 (t := 1) (dk D_X1_unit_o 80 rfl) kd_43 rfl rfl (by decide) w_285 rfl rfl rfl ?_
                  refine g_iconst (dk D_X1_unit_o 81 rfl) ki_0 ?_
                  refine g_sipush (dk D_X1_unit_o 82 rfl) ks_9999 ?_
                  refine g_callV (As := [.int ((0 : Int32)), .int ((9999 : Int32))]) (kc := 0) (fr := 1) (lo := 30) (mc := 0) (My := M_X7_number) (dk D_X1_unit_o 83 rfl) kd_1 rfl rfl w_973 w_882 w_883 w_102 w_884 okD_X7_number (er_n d (by decide) (by decide)) (Nat.le_of_ble_eq_true rfl) rfl (c_X7_number ((0 : Int32)) ((9999 : Int32)) (h16) _ hw) kxN (kI (fun z19 h20 hw => ?_))
                  refine g_goto (dk D_X1_unit_o 84 rfl) rfl ?_
                  refine g_sub [2, 0] rfl ?_
                  exact t_X1_unit_o_b186 W p1 (v3_18) (z19) (h20) Q d hW0 hW1 hW2 hW3  hw
              refine g_if_eq (dk D_X1_unit_o 72 rfl) rfl ?_
              by_cases c17 : z15 = 0
              · rw [if_pos c17] at hj
                refine wif_p c17 ?_
                refine g_iconst (dk D_X1_unit_o 75 rfl) ki_0 ?_
                exact hj
              · rw [if_neg c17] at hj
                refine wif_n c17 ?_
                refine g_bipush (dk D_X1_unit_o 73 rfl) kb_m6 ?_
                refine g_goto (dk D_X1_unit_o 74 rfl) rfl ?_
                exact hj
            · refine g_bipush (dk D_X1_unit_o 66 rfl) kb_m5 ?_
              refine g_goto (dk D_X1_unit_o 67 rfl) rfl ?_
              refine g_sub [1] rfl ?_
              exact t_X1_unit_o_b166 W p1 ((-5 : Int32)) (h14) Q d hW0 hW1 hW2 hW3  hw
          · refine g_bipush (dk D_X1_unit_o 59 rfl) kb_m4 ?_
            refine g_goto (dk D_X1_unit_o 60 rfl) rfl ?_
            refine g_sub [1] rfl ?_
            exact t_X1_unit_o_b166 W p1 ((-4 : Int32)) (h12) Q d hW0 hW1 hW2 hW3  hw
        · refine g_bipush (dk D_X1_unit_o 52 rfl) kb_m3 ?_
          refine g_goto (dk D_X1_unit_o 53 rfl) rfl ?_
          refine g_sub [1] rfl ?_
          exact t_X1_unit_o_b166 W p1 ((-3 : Int32)) (h10) Q d hW0 hW1 hW2 hW3  hw
      · refine g_bipush (dk D_X1_unit_o 45 rfl) kb_m2 ?_
        refine g_goto (dk D_X1_unit_o 46 rfl) rfl ?_
        refine g_sub [1] rfl ?_
        exact t_X1_unit_o_b166 W p1 ((-2 : Int32)) (h8) Q d hW0 hW1 hW2 hW3  hw
    · refine g_iconst (dk D_X1_unit_o 38 rfl) ki_m1 ?_
      refine g_goto (dk D_X1_unit_o 39 rfl) rfl ?_
      refine g_sub [1] rfl ?_
      exact t_X1_unit_o_b166 W p1 ((-1 : Int32)) (h6) Q d hW0 hW1 hW2 hW3  hw
  · refine g_iload_n 2 (dk D_X1_unit_o 9 rfl) rfl rfl ?_
    refine g_bipush (dk D_X1_unit_o 10 rfl) kb_6 ?_
    refine g_icmp_lt (dk D_X1_unit_o 11 rfl) rfl (wif_m hw (fun hw => ?_) (fun hw => ?_))
    · refine g_aload_n 1 (dk D_X1_unit_o 18 rfl) rfl rfl ?_
      refine g_iload_n 2 (dk D_X1_unit_o 19 rfl) rfl rfl ?_
      refine g_iconst (dk D_X1_unit_o 20 rfl) ki_1 ?_
      refine g_iadd (dk D_X1_unit_o 21 rfl) ?_
      refine g_callV (As := [.int ((p1 + (1 : Int32)))]) (kc := 0) (fr := (10 + d)) (lo := (300 + 60 * d)) (mc := 0) (My := M_X1_number_o) (dk D_X1_unit_o 22 rfl) kd_43 rfl rfl w_957 w_959 w_22 w_106 w_960 okD_X1_number_o (er_r d (by decide)) (Nat.le_of_ble_eq_true rfl) rfl (hW1 ((p1 + (1 : Int32))) (h4) _ hw) kxN (kI (fun z21 h22 hw => ?_))
      refine g_if_eq (dk D_X1_unit_o 23 rfl) rfl (wif_m hw (fun hw => ?_) (fun hw => ?_))
      · refine g_iconst (dk D_X1_unit_o 31 rfl) ki_0 ?_
        exact g_zret (dk D_X1_unit_o 32 rfl) rfl ⟨_, rfl, hw⟩
      · refine g_aload_n 1 (dk D_X1_unit_o 24 rfl) rfl rfl ?_
        refine g_getR 0 (t := 1) (dk D_X1_unit_o 25 rfl) kd_43 rfl rfl (by decide) w_285 rfl rfl rfl ?_
        refine g_bipush (dk D_X1_unit_o 26 rfl) kb_41 ?_
        refine g_callV (As := [.int ((41 : Int32))]) (kc := 0) (fr := 2) (lo := 59) (mc := 0) (My := M_X7_must) (dk D_X1_unit_o 27 rfl) kd_1 rfl rfl w_966 w_920 w_921 w_102 w_922 okD_X7_must (er_n d (by decide) (by decide)) (Nat.le_of_ble_eq_true rfl) rfl (c_X7_must ((41 : Int32)) (h22) _ hw) kxN (kI (fun z23 h24 hw => ?_))
        have hj : G X M_X1_unit_o (Er (d + 1)) (QM X (Er (d + 1)) (QI Q) Qn) 0 63 [(2, .int (z1)), (0, .ref (43)), (1, .int (p1))] [.int ((if z23 = 0 then (0 : Int32) else (1 : Int32)))] (h24) := by
          exact g_zret (dk D_X1_unit_o 32 rfl) rfl ⟨_, rfl, hw⟩
        refine g_if_eq (dk D_X1_unit_o 28 rfl) rfl ?_
        by_cases c25 : z23 = 0
        · rw [if_pos c25] at hj
          refine wif_p c25 ?_
          refine g_iconst (dk D_X1_unit_o 31 rfl) ki_0 ?_
          exact hj
        · rw [if_neg c25] at hj
          refine wif_n c25 ?_
          refine g_iconst (dk D_X1_unit_o 29 rfl) ki_1 ?_
          refine g_goto (dk D_X1_unit_o 30 rfl) rfl ?_
          exact hj
    · refine g_aload_n 1 (dk D_X1_unit_o 12 rfl) rfl rfl ?_
      refine g_getR 0 (t := 1) (dk D_X1_unit_o 13 rfl) kd_43 rfl rfl (by decide) w_285 rfl rfl rfl ?_
      refine g_iconst (dk D_X1_unit_o 14 rfl) ki_3 ?_
      refine g_iload_n 0 (dk D_X1_unit_o 15 rfl) rfl rfl ?_
      refine g_callV (As := [.int ((3 : Int32)), .int (z1)]) (kc := 0) (fr := 0) (lo := 0) (mc := 0) (My := M_X7_fail) (dk D_X1_unit_o 16 rfl) kd_1 rfl rfl w_956 w_870 w_871 w_102 w_872 okD_X7_fail (er_n d (by decide) (by decide)) (Nat.le_of_ble_eq_true rfl) rfl (c_X7_fail ((3 : Int32)) (z1) (h4) _ hw) kxN (kI (fun z26 h27 hw => ?_))
      exact g_zret (dk D_X1_unit_o 17 rfl) rfl ⟨_, rfl, hw⟩
theorem c_X1_unit_o {X : Cx} (W : Nat → Int32 → Hp → (Int32 → Hp → Prop) → Prop) (p1 : Int32) (d : Nat) (hW0 : ∀ (p1 : Int32) (h : Hp) (Q : Int32 → Hp → Prop), W 0 p1 h Q → Con X yX1_unit M_X1_unit_o (10 + d) (300 + 60 * d) 0 [.ref (43), .int (p1)] h (QI Q) Qn) (hW1 : ∀ (p1 : Int32) (h : Hp) (Q : Int32 → Hp → Prop), W 1 p1 h Q → Con X yX1_number M_X1_number_o (10 + d) (300 + 60 * d) 0 [.ref (43), .int (p1)] h (QI Q) Qn) (hW2 : ∀ (p1 : Int32) (h : Hp) (Q : Int32 → Hp → Prop), W 2 p1 h Q → Con X yX1_clause M_X1_clause_o (10 + d) (300 + 60 * d) 0 [.ref (43), .int (p1)] h (QI Q) Qn) (hW3 : ∀ (p1 : Int32) (h : Hp) (Q : Int32 → Hp → Prop), W 3 p1 h Q → Con X yX1_condition M_X1_condition_o (10 + d) (300 + 60 * d) 0 [.ref (43), .int (p1)] h (QI Q) Qn)  (h : Hp) (Q : Int32 → Hp → Prop) (hw : w_X1_unit_o W p1 h Q) : Con X yX1_unit M_X1_unit_o (10 + (d + 1)) (300 + 60 * (d + 1)) 0 [.ref (43), .int (p1)] h (QI Q) Qn :=
  con_of (by decide +kernel) rfl (Nat.le_of_ble_eq_true rfl) (t_X1_unit_o W p1 h Q d hW0 hW1 hW2 hW3  hw)
theorem t_X1_number_o_b131 {X : Cx} (W : Nat → Int32 → Hp → (Int32 → Hp → Prop) → Prop) (p1 : Int32) (v2 : Int32) (v3 : Int32) (v4 : Int32) (K7 : Int32 × Int32 × Int32 × Hp → Prop) (h : Hp) (Q : Int32 → Hp → Prop) (d : Nat) (hW0 : ∀ (p1 : Int32) (h : Hp) (Q : Int32 → Hp → Prop), W 0 p1 h Q → Con X yX1_unit M_X1_unit_o (10 + d) (300 + 60 * d) 0 [.ref (43), .int (p1)] h (QI Q) Qn) (hW1 : ∀ (p1 : Int32) (h : Hp) (Q : Int32 → Hp → Prop), W 1 p1 h Q → Con X yX1_number M_X1_number_o (10 + d) (300 + 60 * d) 0 [.ref (43), .int (p1)] h (QI Q) Qn) (hW2 : ∀ (p1 : Int32) (h : Hp) (Q : Int32 → Hp → Prop), W 2 p1 h Q → Con X yX1_clause M_X1_clause_o (10 + d) (300 + 60 * d) 0 [.ref (43), .int (p1)] h (QI Q) Qn) (hW3 : ∀ (p1 : Int32) (h : Hp) (Q : Int32 → Hp → Prop), W 3 p1 h Q → Con X yX1_condition M_X1_condition_o (10 + d) (300 + 60 * d) 0 [.ref (43), .int (p1)] h (QI Q) Qn)  (hK7 : ∀ s : Int32 × Int32 × Int32 × Hp, K7 s → G X M_X1_number_o (Er (d + 1)) (QM X (Er (d + 1)) (QI Q) Qn) 0 7 [(0, .ref (43)), (1, .int (p1)), (2, .int (s.1)), (3, .int (s.2.1)), (4, .int (s.2.2.1))] [] (s.2.2.2)) (hw : w_X1_number_o_b131 W p1 v2 v3 v4 K7 h Q) : G X M_X1_number_o (Er (d + 1)) (QM X (Er (d + 1)) (QI Q) Qn) 0 131 [(0, .ref (43)), (1, .int (p1)), (2, .int (v2)), (3, .int (v3)), (4, .int (v4))] [] h := by
  unfold w_X1_number_o_b131 at hw
  refine g_iinc 4 (dk D_X1_number_o 65 rfl) rfl (congrArg (fun z => _ + z) ki_1) (by decide) rfl ?_
  refine g_goto (dk D_X1_number_o 66 rfl) rfl ?_
  refine g_sub [1, 2, 3, 4, 0] rfl ?_
  exact hK7 (v2, v3, (v4 + (1 : Int32)), h) hw
theorem t_X1_number_o_b124 {X : Cx} (W : Nat → Int32 → Hp → (Int32 → Hp → Prop) → Prop) (p1 : Int32) (v3 : Int32) (v4 : Int32) (s0 : Int32) (K7 : Int32 × Int32 × Int32 × Hp → Prop) (h : Hp) (Q : Int32 → Hp → Prop) (d : Nat) (hW0 : ∀ (p1 : Int32) (h : Hp) (Q : Int32 → Hp → Prop), W 0 p1 h Q → Con X yX1_unit M_X1_unit_o (10 + d) (300 + 60 * d) 0 [.ref (43), .int (p1)] h (QI Q) Qn) (hW1 : ∀ (p1 : Int32) (h : Hp) (Q : Int32 → Hp → Prop), W 1 p1 h Q → Con X yX1_number M_X1_number_o (10 + d) (300 + 60 * d) 0 [.ref (43), .int (p1)] h (QI Q) Qn) (hW2 : ∀ (p1 : Int32) (h : Hp) (Q : Int32 → Hp → Prop), W 2 p1 h Q → Con X yX1_clause M_X1_clause_o (10 + d) (300 + 60 * d) 0 [.ref (43), .int (p1)] h (QI Q) Qn) (hW3 : ∀ (p1 : Int32) (h : Hp) (Q : Int32 → Hp → Prop), W 3 p1 h Q → Con X yX1_condition M_X1_condition_o (10 + d) (300 + 60 * d) 0 [.ref (43), .int (p1)] h (QI Q) Qn)  (hK7 : ∀ s : Int32 × Int32 × Int32 × Hp, K7 s → G X M_X1_number_o (Er (d + 1)) (QM X (Er (d + 1)) (QI Q) Qn) 0 7 [(0, .ref (43)), (1, .int (p1)), (2, .int (s.1)), (3, .int (s.2.1)), (4, .int (s.2.2.1))] [] (s.2.2.2)) (hw : w_X1_number_o_b124 W p1 v3 v4 s0 K7 h Q) : G X M_X1_number_o (Er (d + 1)) (QM X (Er (d + 1)) (QI Q) Qn) 0 124 [(0, .ref (43)), (1, .int (p1)), (3, .int (v3)), (4, .int (v4))] [.int (s0)] h := by
  unfold w_X1_number_o_b124 at hw
  refine g_istore_n (dk D_X1_number_o 60 rfl) rfl (by decide) rfl ?_
  refine g_iload_n 0 (dk D_X1_number_o 61 rfl) rfl rfl ?_
  refine g_if_ne (dk D_X1_number_o 62 rfl) rfl (wif_m hw (fun hw => ?_) (fun hw => ?_))
  · refine g_sub [1, 2, 0, 3, 4] rfl ?_
    exact t_X1_number_o_b131 W p1 (s0) (v3) (v4) K7 (h) Q d hW0 hW1 hW2 hW3  hK7 hw
  · refine g_iconst (dk D_X1_number_o 63 rfl) ki_1 ?_
    exact g_zret (dk D_X1_number_o 64 rfl) rfl ⟨_, rfl, hw⟩
theorem t_X1_number_o_b89 {X : Cx} (W : Nat → Int32 → Hp → (Int32 → Hp → Prop) → Prop) (p1 : Int32) (v3 : Int32) (v4 : Int32) (K7 : Int32 × Int32 × Int32 × Hp → Prop) (h : Hp) (Q : Int32 → Hp → Prop) (d : Nat) (hW0 : ∀ (p1 : Int32) (h : Hp) (Q : Int32 → Hp → Prop), W 0 p1 h Q → Con X yX1_unit M_X1_unit_o (10 + d) (300 + 60 * d) 0 [.ref (43), .int (p1)] h (QI Q) Qn) (hW1 : ∀ (p1 : Int32) (h : Hp) (Q : Int32 → Hp → Prop), W 1 p1 h Q → Con X yX1_number M_X1_number_o (10 + d) (300 + 60 * d) 0 [.ref (43), .int (p1)] h (QI Q) Qn) (hW2 : ∀ (p1 : Int32) (h : Hp) (Q : Int32 → Hp → Prop), W 2 p1 h Q → Con X yX1_clause M_X1_clause_o (10 + d) (300 + 60 * d) 0 [.ref (43), .int (p1)] h (QI Q) Qn) (hW3 : ∀ (p1 : Int32) (h : Hp) (Q : Int32 → Hp → Prop), W 3 p1 h Q → Con X yX1_condition M_X1_condition_o (10 + d) (300 + 60 * d) 0 [.ref (43), .int (p1)] h (QI Q) Qn)  (hK7 : ∀ s : Int32 × Int32 × Int32 × Hp, K7 s → G X M_X1_number_o (Er (d + 1)) (QM X (Er (d + 1)) (QI Q) Qn) 0 7 [(0, .ref (43)), (1, .int (p1)), (2, .int (s.1)), (3, .int (s.2.1)), (4, .int (s.2.2.1))] [] (s.2.2.2)) (hw : w_X1_number_o_b89 W p1 v3 v4 K7 h Q) : G X M_X1_number_o (Er (d + 1)) (QM X (Er (d + 1)) (QI Q) Qn) 0 89 [(0, .ref (43)), (1, .int (p1)), (3, .int (v3)), (4, .int (v4))] [] h := by
  unfold w_X1_number_o_b89 at hw
  refine g_aload_n 0 (dk D_X1_number_o 45 rfl) rfl rfl ?_
  refine g_getR 0 (t := 1) (dk D_X1_number_o 46 rfl) kd_43 rfl rfl (by decide) w_285 rfl rfl rfl ?_
  refine g_bipush (dk D_X1_number_o 47 rfl) kb_43 ?_
  refine g_callV (As := [.int ((43 : Int32))]) (kc := 0) (fr := 1) (lo := 29) (mc := 0) (My := M_X7_sign) (dk D_X1_number_o 48 rfl) kd_1 rfl rfl w_965 w_924 w_925 w_102 w_926 okD_X7_sign (er_n d (by decide) (by decide)) (Nat.le_of_ble_eq_true rfl) rfl (c_X7_sign ((43 : Int32)) (h) _ hw) kxN (kI (fun z1 h2 hw => ?_))
  refine g_if_eq (dk D_X1_number_o 49 rfl) rfl (wif_m hw (fun hw => ?_) (fun hw => ?_))
  · refine g_aload_n 0 (dk D_X1_number_o 52 rfl) rfl rfl ?_
    refine g_getR 0 (t := 1) (dk D_X1_number_o 53 rfl) kd_43 rfl rfl (by decide) w_285 rfl rfl rfl ?_
    refine g_bipush (dk D_X1_number_o 54 rfl) kb_45 ?_
    refine g_callV (As := [.int ((45 : Int32))]) (kc := 0) (fr := 1) (lo := 29) (mc := 0) (My := M_X7_sign) (dk D_X1_number_o 55 rfl) kd_1 rfl rfl w_965 w_924 w_925 w_102 w_926 okD_X7_sign (er_n d (by decide) (by decide)) (Nat.le_of_ble_eq_true rfl) rfl (c_X7_sign ((45 : Int32)) (h2) _ hw) kxN (kI (fun z3 h4 hw => ?_))
    have hj : G X M_X1_number_o (Er (d + 1)) (QM X (Er (d + 1)) (QI Q) Qn) 0 124 [(0, .ref (43)), (1, .int (p1)), (3, .int (v3)), (4, .int (v4))] [.int ((if z3 = 0 then (0 : Int32) else (-8 : Int32)))] (h4) := by
      refine g_topi (fun v2_6 ev2_6 => ?_)
      replace hw := hw _ ev2_6
      refine g_istore_n (dk D_X1_number_o 60 rfl) rfl (by decide) rfl ?_
      refine g_iload_n 0 (dk D_X1_number_o 61 rfl) rfl rfl ?_
      refine g_if_ne (dk D_X1_number_o 62 rfl) rfl (wif_m hw (fun hw => ?_) (fun hw => ?_))
      · refine g_sub [1, 2, 0, 3, 4] rfl ?_
        exact t_X1_number_o_b131 W p1 (v2_6) (v3) (v4) K7 (h4) Q d hW0 hW1 hW2 hW3  hK7 hw
      · refine g_iconst (dk D_X1_number_o 63 rfl) ki_1 ?_
        exact g_zret (dk D_X1_number_o 64 rfl) rfl ⟨_, rfl, hw⟩
    refine g_if_eq (dk D_X1_number_o 56 rfl) rfl ?_
    by_cases c5 : z3 = 0
    · rw [if_pos c5] at hj
      refine wif_p c5 ?_
      refine g_iconst (dk D_X1_number_o 59 rfl) ki_0 ?_
      exact hj
    · rw [if_neg c5] at hj
      refine wif_n c5 ?_
      refine g_bipush (dk D_X1_number_o 57 rfl) kb_m8 ?_
      refine g_goto (dk D_X1_number_o 58 rfl) rfl ?_
      exact hj
  · refine g_bipush (dk D_X1_number_o 50 rfl) kb_m7 ?_
    refine g_goto (dk D_X1_number_o 51 rfl) rfl ?_
    exact t_X1_number_o_b124 W p1 (v3) (v4) ((-7 : Int32)) K7 (h2) Q d hW0 hW1 hW2 hW3  hK7 hw
theorem t_X1_number_o_b72 {X : Cx} (W : Nat → Int32 → Hp → (Int32 → Hp → Prop) → Prop) (p1 : Int32) (v2 : Int32) (v4 : Int32) (s0 : Int32) (K7 : Int32 × Int32 × Int32 × Hp → Prop) (h : Hp) (Q : Int32 → Hp → Prop) (d : Nat) (hW0 : ∀ (p1 : Int32) (h : Hp) (Q : Int32 → Hp → Prop), W 0 p1 h Q → Con X yX1_unit M_X1_unit_o (10 + d) (300 + 60 * d) 0 [.ref (43), .int (p1)] h (QI Q) Qn) (hW1 : ∀ (p1 : Int32) (h : Hp) (Q : Int32 → Hp → Prop), W 1 p1 h Q → Con X yX1_number M_X1_number_o (10 + d) (300 + 60 * d) 0 [.ref (43), .int (p1)] h (QI Q) Qn) (hW2 : ∀ (p1 : Int32) (h : Hp) (Q : Int32 → Hp → Prop), W 2 p1 h Q → Con X yX1_clause M_X1_clause_o (10 + d) (300 + 60 * d) 0 [.ref (43), .int (p1)] h (QI Q) Qn) (hW3 : ∀ (p1 : Int32) (h : Hp) (Q : Int32 → Hp → Prop), W 3 p1 h Q → Con X yX1_condition M_X1_condition_o (10 + d) (300 + 60 * d) 0 [.ref (43), .int (p1)] h (QI Q) Qn)  (hK7 : ∀ s : Int32 × Int32 × Int32 × Hp, K7 s → G X M_X1_number_o (Er (d + 1)) (QM X (Er (d + 1)) (QI Q) Qn) 0 7 [(0, .ref (43)), (1, .int (p1)), (2, .int (s.1)), (3, .int (s.2.1)), (4, .int (s.2.2.1))] [] (s.2.2.2)) (hw : w_X1_number_o_b72 W p1 v2 v4 s0 K7 h Q) : G X M_X1_number_o (Er (d + 1)) (QM X (Er (d + 1)) (QI Q) Qn) 0 72 [(0, .ref (43)), (1, .int (p1)), (2, .int (v2)), (4, .int (v4))] [.int (s0)] h := by
  unfold w_X1_number_o_b72 at hw
  refine g_istore_n (dk D_X1_number_o 36 rfl) rfl (by decide) rfl ?_
  refine g_iload_n 0 (dk D_X1_number_o 37 rfl) rfl rfl ?_
  refine g_if_ne (dk D_X1_number_o 38 rfl) rfl (wif_m hw (fun hw => ?_) (fun hw => ?_))
  · refine g_sub [1, 2, 3, 0, 4] rfl ?_
    exact t_X1_number_o_b131 W p1 (v2) (s0) (v4) K7 (h) Q d hW0 hW1 hW2 hW3  hK7 hw
  · refine g_iload_n 3 (dk D_X1_number_o 39 rfl) rfl rfl ?_
    refine g_if_eq (dk D_X1_number_o 40 rfl) rfl (wif_m hw (fun hw => ?_) (fun hw => ?_))
    · refine g_sub [1, 2, 0, 4] rfl ?_
      exact t_X1_number_o_b89 W p1 (s0) (v4) K7 (h) Q d hW0 hW1 hW2 hW3  hK7 hw
    · refine g_aload_n 1 (dk D_X1_number_o 41 rfl) rfl rfl ?_
      refine g_getR 1 (t := 30) (dk D_X1_number_o 42 rfl) kd_43 rfl rfl (by decide) w_286 rfl rfl rfl ?_
      refine g_iload_n 3 (dk D_X1_number_o 43 rfl) rfl rfl ?_
      refine g_callV (As := [.int (v2)]) (kc := 0) (fr := 1) (lo := 30) (mc := 0) (My := M_X0_add) (dk D_X1_number_o 44 rfl) lawP_30.1 rfl rfl w_974 w_975 w_976 w_104 w_977 okD_X0_add (er_n d (by decide) (by decide)) (Nat.le_of_ble_eq_true rfl) rfl (c_X0_add 30 (v2) (lawP_30) (h) _ hw) kxN (kV (fun h1 hw => ?_))
      refine g_sub [1, 2, 0, 4] rfl ?_
      exact t_X1_number_o_b89 W p1 (s0) (v4) K7 (h1) Q d hW0 hW1 hW2 hW3  hK7 hw
theorem t_X1_number_o_b37 {X : Cx} (W : Nat → Int32 → Hp → (Int32 → Hp → Prop) → Prop) (p1 : Int32) (v2 : Int32) (v4 : Int32) (K7 : Int32 × Int32 × Int32 × Hp → Prop) (h : Hp) (Q : Int32 → Hp → Prop) (d : Nat) (hW0 : ∀ (p1 : Int32) (h : Hp) (Q : Int32 → Hp → Prop), W 0 p1 h Q → Con X yX1_unit M_X1_unit_o (10 + d) (300 + 60 * d) 0 [.ref (43), .int (p1)] h (QI Q) Qn) (hW1 : ∀ (p1 : Int32) (h : Hp) (Q : Int32 → Hp → Prop), W 1 p1 h Q → Con X yX1_number M_X1_number_o (10 + d) (300 + 60 * d) 0 [.ref (43), .int (p1)] h (QI Q) Qn) (hW2 : ∀ (p1 : Int32) (h : Hp) (Q : Int32 → Hp → Prop), W 2 p1 h Q → Con X yX1_clause M_X1_clause_o (10 + d) (300 + 60 * d) 0 [.ref (43), .int (p1)] h (QI Q) Qn) (hW3 : ∀ (p1 : Int32) (h : Hp) (Q : Int32 → Hp → Prop), W 3 p1 h Q → Con X yX1_condition M_X1_condition_o (10 + d) (300 + 60 * d) 0 [.ref (43), .int (p1)] h (QI Q) Qn)  (hK7 : ∀ s : Int32 × Int32 × Int32 × Hp, K7 s → G X M_X1_number_o (Er (d + 1)) (QM X (Er (d + 1)) (QI Q) Qn) 0 7 [(0, .ref (43)), (1, .int (p1)), (2, .int (s.1)), (3, .int (s.2.1)), (4, .int (s.2.2.1))] [] (s.2.2.2)) (hw : w_X1_number_o_b37 W p1 v2 v4 K7 h Q) : G X M_X1_number_o (Er (d + 1)) (QM X (Er (d + 1)) (QI Q) Qn) 0 37 [(0, .ref (43)), (1, .int (p1)), (2, .int (v2)), (4, .int (v4))] [] h := by
  unfold w_X1_number_o_b37 at hw
  refine g_aload_n 0 (dk D_X1_number_o 21 rfl) rfl rfl ?_
  refine g_getR 0 (t := 1) (dk D_X1_number_o 22 rfl) kd_43 rfl rfl (by decide) w_285 rfl rfl rfl ?_
  refine g_bipush (dk D_X1_number_o 23 rfl) kb_42 ?_
  refine g_callV (As := [.int ((42 : Int32))]) (kc := 0) (fr := 1) (lo := 29) (mc := 0) (My := M_X7_sign) (dk D_X1_number_o 24 rfl) kd_1 rfl rfl w_965 w_924 w_925 w_102 w_926 okD_X7_sign (er_n d (by decide) (by decide)) (Nat.le_of_ble_eq_true rfl) rfl (c_X7_sign ((42 : Int32)) (h) _ hw) kxN (kI (fun z1 h2 hw => ?_))
  refine g_if_eq (dk D_X1_number_o 25 rfl) rfl (wif_m hw (fun hw => ?_) (fun hw => ?_))
  · refine g_aload_n 0 (dk D_X1_number_o 28 rfl) rfl rfl ?_
    refine g_getR 0 (t := 1) (dk D_X1_number_o 29 rfl) kd_43 rfl rfl (by decide) w_285 rfl rfl rfl ?_
    refine g_bipush (dk D_X1_number_o 30 rfl) kb_47 ?_
    refine g_callV (As := [.int ((47 : Int32))]) (kc := 0) (fr := 1) (lo := 29) (mc := 0) (My := M_X7_sign) (dk D_X1_number_o 31 rfl) kd_1 rfl rfl w_965 w_924 w_925 w_102 w_926 okD_X7_sign (er_n d (by decide) (by decide)) (Nat.le_of_ble_eq_true rfl) rfl (c_X7_sign ((47 : Int32)) (h2) _ hw) kxN (kI (fun z3 h4 hw => ?_))
    have hj : G X M_X1_number_o (Er (d + 1)) (QM X (Er (d + 1)) (QI Q) Qn) 0 72 [(0, .ref (43)), (1, .int (p1)), (2, .int (v2)), (4, .int (v4))] [.int ((if z3 = 0 then (0 : Int32) else (-10 : Int32)))] (h4) := by
      refine g_topi (fun v3_6 ev3_6 => ?_)
      replace hw := hw _ ev3_6
      refine g_istore_n (dk D_X1_number_o 36 rfl) rfl (by decide) rfl ?_
      refine g_iload_n 0 (dk D_X1_number_o 37 rfl) rfl rfl ?_
      refine g_if_ne (dk D_X1_number_o 38 rfl) rfl (wif_m hw (fun hw => ?_) (fun hw => ?_))
      · refine g_sub [1, 2, 3, 0, 4] rfl ?_
        exact t_X1_number_o_b131 W p1 (v2) (v3_6) (v4) K7 (h4) Q d hW0 hW1 hW2 hW3  hK7 hw
      · refine g_iload_n 3 (dk D_X1_number_o 39 rfl) rfl rfl ?_
        refine g_if_eq (dk D_X1_number_o 40 rfl) rfl (wif_m hw (fun hw => ?_) (fun hw => ?_))
        · refine g_sub [1, 2, 0, 4] rfl ?_
          exact t_X1_number_o_b89 W p1 (v3_6) (v4) K7 (h4) Q d hW0 hW1 hW2 hW3  hK7 hw
        · refine g_aload_n 1 (dk D_X1_number_o 41 rfl) rfl rfl ?_
          refine g_getR 1 (t := 30) (dk D_X1_number_o 42 rfl) kd_43 rfl rfl (by decide) w_286 rfl rfl rfl ?_
          refine g_iload_n 3 (dk D_X1_number_o 43 rfl) rfl rfl ?_
          refine g_callV (As := [.int (v2)]) (kc := 0) (fr := 1) (lo := 30) (mc := 0) (My := M_X0_add) (dk D_X1_number_o 44 rfl) lawP_30.1 rfl rfl w_974 w_975 w_976 w_104 w_977 okD_X0_add (er_n d (by decide) (by decide)) (Nat.le_of_ble_eq_true rfl) rfl (c_X0_add 30 (v2) (lawP_30) (h4) _ hw) kxN (kV (fun h7 hw => ?_))
          refine g_sub [1, 2, 0, 4] rfl ?_
          exact t_X1_number_o_b89 W p1 (v3_6) (v4) K7 (h7) Q d hW0 hW1 hW2 hW3  hK7 hw
    refine g_if_eq (dk D_X1_number_o 32 rfl) rfl ?_
    by_cases c5 : z3 = 0
    · rw [if_pos c5] at hj
      refine wif_p c5 ?_
      refine g_iconst (dk D_X1_number_o 35 rfl) ki_0 ?_
      exact hj
    · rw [if_neg c5] at hj
      refine wif_n c5 ?_
      refine g_bipush (dk D_X1_number_o 33 rfl) kb_m10 ?_
      refine g_goto (dk D_X1_number_o 34 rfl) rfl ?_
      exact hj
  · refine g_bipush (dk D_X1_number_o 26 rfl) kb_m9 ?_
    refine g_goto (dk D_X1_number_o 27 rfl) rfl ?_
    exact t_X1_number_o_b72 W p1 (v2) (v4) ((-9 : Int32)) K7 (h2) Q d hW0 hW1 hW2 hW3  hK7 hw
theorem t_X1_number_o_l7 {X : Cx} (W : Nat → Int32 → Hp → (Int32 → Hp → Prop) → Prop) (p1 : Int32) (Q : Int32 → Hp → Prop) (K7 : Int32 × Int32 × Int32 × Hp → Prop) (v2 : Int32) (v3 : Int32) (v4 : Int32) (h : Hp) (d : Nat) (hW0 : ∀ (p1 : Int32) (h : Hp) (Q : Int32 → Hp → Prop), W 0 p1 h Q → Con X yX1_unit M_X1_unit_o (10 + d) (300 + 60 * d) 0 [.ref (43), .int (p1)] h (QI Q) Qn) (hW1 : ∀ (p1 : Int32) (h : Hp) (Q : Int32 → Hp → Prop), W 1 p1 h Q → Con X yX1_number M_X1_number_o (10 + d) (300 + 60 * d) 0 [.ref (43), .int (p1)] h (QI Q) Qn) (hW2 : ∀ (p1 : Int32) (h : Hp) (Q : Int32 → Hp → Prop), W 2 p1 h Q → Con X yX1_clause M_X1_clause_o (10 + d) (300 + 60 * d) 0 [.ref (43), .int (p1)] h (QI Q) Qn) (hW3 : ∀ (p1 : Int32) (h : Hp) (Q : Int32 → Hp → Prop), W 3 p1 h Q → Con X yX1_condition M_X1_condition_o (10 + d) (300 + 60 * d) 0 [.ref (43), .int (p1)] h (QI Q) Qn)  (hK7 : ∀ s : Int32 × Int32 × Int32 × Hp, K7 s → G X M_X1_number_o (Er (d + 1)) (QM X (Er (d + 1)) (QI Q) Qn) 0 7 [(0, .ref (43)), (1, .int (p1)), (2, .int (s.1)), (3, .int (s.2.1)), (4, .int (s.2.2.1))] [] (s.2.2.2)) (hw : w_X1_number_o_l7 W p1 Q K7 v2 v3 v4 h) : G X M_X1_number_o (Er (d + 1)) (QM X (Er (d + 1)) (QI Q) Qn) 0 7 [(0, .ref (43)), (1, .int (p1)), (2, .int (v2)), (3, .int (v3)), (4, .int (v4))] [] h := by
  unfold w_X1_number_o_l7 at hw
  refine g_iload 4 (dk D_X1_number_o 6 rfl) rfl ?_
  refine g_sipush (dk D_X1_number_o 7 rfl) ks_500 ?_
  refine g_icmp_gt (dk D_X1_number_o 8 rfl) rfl (wif_m hw (fun hw => ?_) (fun hw => ?_))
  · refine g_iconst (dk D_X1_number_o 67 rfl) ki_0 ?_
    exact g_zret (dk D_X1_number_o 68 rfl) rfl ⟨_, rfl, hw⟩
  · refine g_aload_n 0 (dk D_X1_number_o 9 rfl) rfl rfl ?_
    refine g_iload_n 1 (dk D_X1_number_o 10 rfl) rfl rfl ?_
    refine g_callV (As := [.int (p1)]) (kc := 0) (fr := (10 + d)) (lo := (300 + 60 * d)) (mc := 0) (My := M_X1_unit_o) (dk D_X1_number_o 11 rfl) kd_43 rfl rfl w_961 w_963 w_23 w_106 w_964 okD_X1_unit_o (er_r d (by decide)) (Nat.le_of_ble_eq_true rfl) rfl (hW0 (p1) (h) _ hw) kxN (kI (fun z1 h2 hw => ?_))
    refine g_if_ne (dk D_X1_number_o 12 rfl) rfl (wif_m hw (fun hw => ?_) (fun hw => ?_))
    · refine g_iload_n 3 (dk D_X1_number_o 15 rfl) rfl rfl ?_
      refine g_if_eq (dk D_X1_number_o 16 rfl) rfl (wif_m hw (fun hw => ?_) (fun hw => ?_))
      · refine g_sub [0, 1, 2, 4] rfl ?_
        exact t_X1_number_o_b37 W p1 (v2) (v4) K7 (h2) Q d hW0 hW1 hW2 hW3  hK7 hw
      · refine g_aload_n 0 (dk D_X1_number_o 17 rfl) rfl rfl ?_
        refine g_getR 1 (t := 30) (dk D_X1_number_o 18 rfl) kd_43 rfl rfl (by decide) w_286 rfl rfl rfl ?_
        refine g_iload_n 3 (dk D_X1_number_o 19 rfl) rfl rfl ?_
        refine g_callV (As := [.int (v3)]) (kc := 0) (fr := 1) (lo := 30) (mc := 0) (My := M_X0_add) (dk D_X1_number_o 20 rfl) lawP_30.1 rfl rfl w_974 w_975 w_976 w_104 w_977 okD_X0_add (er_n d (by decide) (by decide)) (Nat.le_of_ble_eq_true rfl) rfl (c_X0_add 30 (v3) (lawP_30) (h2) _ hw) kxN (kV (fun h3 hw => ?_))
        refine g_sub [0, 1, 2, 4] rfl ?_
        exact t_X1_number_o_b37 W p1 (v2) (v4) K7 (h3) Q d hW0 hW1 hW2 hW3  hK7 hw
    · refine g_iconst (dk D_X1_number_o 13 rfl) ki_0 ?_
      exact g_zret (dk D_X1_number_o 14 rfl) rfl ⟨_, rfl, hw⟩
theorem t_X1_number_o_b7 {X : Cx} (W : Nat → Int32 → Hp → (Int32 → Hp → Prop) → Prop) (p1 : Int32) (Q : Int32 → Hp → Prop) (s : Int32 × Int32 × Int32 × Hp) (d : Nat) (hW0 : ∀ (p1 : Int32) (h : Hp) (Q : Int32 → Hp → Prop), W 0 p1 h Q → Con X yX1_unit M_X1_unit_o (10 + d) (300 + 60 * d) 0 [.ref (43), .int (p1)] h (QI Q) Qn) (hW1 : ∀ (p1 : Int32) (h : Hp) (Q : Int32 → Hp → Prop), W 1 p1 h Q → Con X yX1_number M_X1_number_o (10 + d) (300 + 60 * d) 0 [.ref (43), .int (p1)] h (QI Q) Qn) (hW2 : ∀ (p1 : Int32) (h : Hp) (Q : Int32 → Hp → Prop), W 2 p1 h Q → Con X yX1_clause M_X1_clause_o (10 + d) (300 + 60 * d) 0 [.ref (43), .int (p1)] h (QI Q) Qn) (hW3 : ∀ (p1 : Int32) (h : Hp) (Q : Int32 → Hp → Prop), W 3 p1 h Q → Con X yX1_condition M_X1_condition_o (10 + d) (300 + 60 * d) 0 [.ref (43), .int (p1)] h (QI Q) Qn)  (hw : w_X1_number_o_b7 W p1 Q s) : G X M_X1_number_o (Er (d + 1)) (QM X (Er (d + 1)) (QI Q) Qn) 0 7 [(0, .ref (43)), (1, .int (p1)), (2, .int (s.1)), (3, .int (s.2.1)), (4, .int (s.2.2.1))] [] (s.2.2.2) :=
  wl_ind (B := fun K s => w_X1_number_o_l7 W p1 Q K (s.1) (s.2.1) (s.2.2.1) (s.2.2.2)) (P := fun s => G X M_X1_number_o (Er (d + 1)) (QM X (Er (d + 1)) (QI Q) Qn) 0 7 [(0, .ref (43)), (1, .int (p1)), (2, .int (s.1)), (3, .int (s.2.1)), (4, .int (s.2.2.1))] [] (s.2.2.2)) (fun K hK s hw => t_X1_number_o_l7 W p1 Q K (s.1) (s.2.1) (s.2.2.1) (s.2.2.2) d hW0 hW1 hW2 hW3  hK hw) s hw
theorem t_X1_number_o {X : Cx} (W : Nat → Int32 → Hp → (Int32 → Hp → Prop) → Prop) (p1 : Int32) (h : Hp) (Q : Int32 → Hp → Prop) (d : Nat) (hW0 : ∀ (p1 : Int32) (h : Hp) (Q : Int32 → Hp → Prop), W 0 p1 h Q → Con X yX1_unit M_X1_unit_o (10 + d) (300 + 60 * d) 0 [.ref (43), .int (p1)] h (QI Q) Qn) (hW1 : ∀ (p1 : Int32) (h : Hp) (Q : Int32 → Hp → Prop), W 1 p1 h Q → Con X yX1_number M_X1_number_o (10 + d) (300 + 60 * d) 0 [.ref (43), .int (p1)] h (QI Q) Qn) (hW2 : ∀ (p1 : Int32) (h : Hp) (Q : Int32 → Hp → Prop), W 2 p1 h Q → Con X yX1_clause M_X1_clause_o (10 + d) (300 + 60 * d) 0 [.ref (43), .int (p1)] h (QI Q) Qn) (hW3 : ∀ (p1 : Int32) (h : Hp) (Q : Int32 → Hp → Prop), W 3 p1 h Q → Con X yX1_condition M_X1_condition_o (10 + d) (300 + 60 * d) 0 [.ref (43), .int (p1)] h (QI Q) Qn)  (hw : w_X1_number_o W p1 h Q) : G X M_X1_number_o (Er (d + 1)) (QM X (Er (d + 1)) (QI Q) Qn) 0 0 [(0, .ref (43)), (1, .int (p1))] [] h := by
  unfold w_X1_number_o at hw
  refine g_iconst (dk D_X1_number_o 0 rfl) ki_0 ?_
  refine g_istore_n (dk D_X1_number_o 1 rfl) rfl (by decide) rfl ?_
  refine g_iconst (dk D_X1_number_o 2 rfl) ki_0 ?_
  refine g_istore_n (dk D_X1_number_o 3 rfl) rfl (by decide) rfl ?_
  refine g_iconst (dk D_X1_number_o 4 rfl) ki_0 ?_
  refine g_istore (dk D_X1_number_o 5 rfl) (by decide) rfl ?_
  refine g_sub [3, 4, 2, 1, 0] rfl ?_
  exact t_X1_number_o_b7 W p1 Q ((0 : Int32), (0 : Int32), (0 : Int32), h) d hW0 hW1 hW2 hW3  hw
theorem c_X1_number_o {X : Cx} (W : Nat → Int32 → Hp → (Int32 → Hp → Prop) → Prop) (p1 : Int32) (d : Nat) (hW0 : ∀ (p1 : Int32) (h : Hp) (Q : Int32 → Hp → Prop), W 0 p1 h Q → Con X yX1_unit M_X1_unit_o (10 + d) (300 + 60 * d) 0 [.ref (43), .int (p1)] h (QI Q) Qn) (hW1 : ∀ (p1 : Int32) (h : Hp) (Q : Int32 → Hp → Prop), W 1 p1 h Q → Con X yX1_number M_X1_number_o (10 + d) (300 + 60 * d) 0 [.ref (43), .int (p1)] h (QI Q) Qn) (hW2 : ∀ (p1 : Int32) (h : Hp) (Q : Int32 → Hp → Prop), W 2 p1 h Q → Con X yX1_clause M_X1_clause_o (10 + d) (300 + 60 * d) 0 [.ref (43), .int (p1)] h (QI Q) Qn) (hW3 : ∀ (p1 : Int32) (h : Hp) (Q : Int32 → Hp → Prop), W 3 p1 h Q → Con X yX1_condition M_X1_condition_o (10 + d) (300 + 60 * d) 0 [.ref (43), .int (p1)] h (QI Q) Qn)  (h : Hp) (Q : Int32 → Hp → Prop) (hw : w_X1_number_o W p1 h Q) : Con X yX1_number M_X1_number_o (10 + (d + 1)) (300 + 60 * (d + 1)) 0 [.ref (43), .int (p1)] h (QI Q) Qn :=
  con_of (by decide +kernel) rfl (Nat.le_of_ble_eq_true rfl) (t_X1_number_o W p1 h Q d hW0 hW1 hW2 hW3  hw)
theorem t_X1_clause_o_b182 {X : Cx} (W : Nat → Int32 → Hp → (Int32 → Hp → Prop) → Prop) (p1 : Int32) (v3 : Int32) (h : Hp) (Q : Int32 → Hp → Prop) (d : Nat) (hW0 : ∀ (p1 : Int32) (h : Hp) (Q : Int32 → Hp → Prop), W 0 p1 h Q → Con X yX1_unit M_X1_unit_o (10 + d) (300 + 60 * d) 0 [.ref (43), .int (p1)] h (QI Q) Qn) (hW1 : ∀ (p1 : Int32) (h : Hp) (Q : Int32 → Hp → Prop), W 1 p1 h Q → Con X yX1_number M_X1_number_o (10 + d) (300 + 60 * d) 0 [.ref (43), .int (p1)] h (QI Q) Qn) (hW2 : ∀ (p1 : Int32) (h : Hp) (Q : Int32 → Hp → Prop), W 2 p1 h Q → Con X yX1_clause M_X1_clause_o (10 + d) (300 + 60 * d) 0 [.ref (43), .int (p1)] h (QI Q) Qn) (hW3 : ∀ (p1 : Int32) (h : Hp) (Q : Int32 → Hp → Prop), W 3 p1 h Q → Con X yX1_condition M_X1_condition_o (10 + d) (300 + 60 * d) 0 [.ref (43), .int (p1)] h (QI Q) Qn)  (hw : w_X1_clause_o_b182 W p1 v3 h Q) : G X M_X1_clause_o (Er (d + 1)) (QM X (Er (d + 1)) (QI Q) Qn) 0 182 [(0, .ref (43)), (1, .int (p1)), (3, .int (v3))] [] h := by
  unfold w_X1_clause_o_b182 at hw
  refine g_aload_n 0 (dk D_X1_clause_o 93 rfl) rfl rfl ?_
  refine g_iload_n 1 (dk D_X1_clause_o 94 rfl) rfl rfl ?_
  refine g_callV (As := [.int (p1)]) (kc := 0) (fr := (10 + d)) (lo := (300 + 60 * d)) (mc := 0) (My := M_X1_number_o) (dk D_X1_clause_o 95 rfl) kd_43 rfl rfl w_957 w_959 w_22 w_106 w_960 okD_X1_number_o (er_r d (by decide)) (Nat.le_of_ble_eq_true rfl) rfl (hW1 (p1) (h) _ hw) kxN (kI (fun z1 h2 hw => ?_))
  refine g_if_ne (dk D_X1_clause_o 96 rfl) rfl (wif_m hw (fun hw => ?_) (fun hw => ?_))
  · refine g_aload_n 0 (dk D_X1_clause_o 99 rfl) rfl rfl ?_
    refine g_getR 1 (t := 30) (dk D_X1_clause_o 100 rfl) kd_43 rfl rfl (by decide) w_286 rfl rfl rfl ?_
    refine g_iload_n 2 (dk D_X1_clause_o 101 rfl) rfl rfl ?_
    refine g_callV (As := [.int (v3)]) (kc := 0) (fr := 1) (lo := 30) (mc := 0) (My := M_X0_add) (dk D_X1_clause_o 102 rfl) lawP_30.1 rfl rfl w_974 w_975 w_976 w_104 w_977 okD_X0_add (er_n d (by decide) (by decide)) (Nat.le_of_ble_eq_true rfl) rfl (c_X0_add 30 (v3) (lawP_30) (h2) _ hw) kxN (kV (fun h3 hw => ?_))
    refine g_iconst (dk D_X1_clause_o 103 rfl) ki_1 ?_
    exact g_zret (dk D_X1_clause_o 104 rfl) rfl ⟨_, rfl, hw⟩
  · refine g_iconst (dk D_X1_clause_o 97 rfl) ki_0 ?_
    exact g_zret (dk D_X1_clause_o 98 rfl) rfl ⟨_, rfl, hw⟩
theorem t_X1_clause_o_b161 {X : Cx} (W : Nat → Int32 → Hp → (Int32 → Hp → Prop) → Prop) (p1 : Int32) (s0 : Int32) (h : Hp) (Q : Int32 → Hp → Prop) (d : Nat) (hW0 : ∀ (p1 : Int32) (h : Hp) (Q : Int32 → Hp → Prop), W 0 p1 h Q → Con X yX1_unit M_X1_unit_o (10 + d) (300 + 60 * d) 0 [.ref (43), .int (p1)] h (QI Q) Qn) (hW1 : ∀ (p1 : Int32) (h : Hp) (Q : Int32 → Hp → Prop), W 1 p1 h Q → Con X yX1_number M_X1_number_o (10 + d) (300 + 60 * d) 0 [.ref (43), .int (p1)] h (QI Q) Qn) (hW2 : ∀ (p1 : Int32) (h : Hp) (Q : Int32 → Hp → Prop), W 2 p1 h Q → Con X yX1_clause M_X1_clause_o (10 + d) (300 + 60 * d) 0 [.ref (43), .int (p1)] h (QI Q) Qn) (hW3 : ∀ (p1 : Int32) (h : Hp) (Q : Int32 → Hp → Prop), W 3 p1 h Q → Con X yX1_condition M_X1_condition_o (10 + d) (300 + 60 * d) 0 [.ref (43), .int (p1)] h (QI Q) Qn)  (hw : w_X1_clause_o_b161 W p1 s0 h Q) : G X M_X1_clause_o (Er (d + 1)) (QM X (Er (d + 1)) (QI Q) Qn) 0 161 [(0, .ref (43)), (1, .int (p1))] [.int (s0)] h := by
  unfold w_X1_clause_o_b161 at hw
  refine g_istore_n (dk D_X1_clause_o 82 rfl) rfl (by decide) rfl ?_
  refine g_iload_n 0 (dk D_X1_clause_o 83 rfl) rfl rfl ?_
  refine g_bipush (dk D_X1_clause_o 84 rfl) kb_m13 ?_
  refine g_icmp_ne (dk D_X1_clause_o 85 rfl) rfl (wif_m hw (fun hw => ?_) (fun hw => ?_))
  · refine g_sub [1, 2, 0] rfl ?_
    exact t_X1_clause_o_b182 W p1 (s0) (h) Q d hW0 hW1 hW2 hW3  hw
  · refine g_aload_n 1 (dk D_X1_clause_o 86 rfl) rfl rfl ?_
    refine g_getR 0 (t := 1) (dk D_X1_clause_o 87 rfl) kd_43 rfl rfl (by decide) w_285 rfl rfl rfl ?_
    refine g_bipush (dk D_X1_clause_o 88 rfl) kb_61 ?_
    refine g_callV (As := [.int ((61 : Int32))]) (kc := 0) (fr := 2) (lo := 59) (mc := 0) (My := M_X7_must) (dk D_X1_clause_o 89 rfl) kd_1 rfl rfl w_966 w_920 w_921 w_102 w_922 okD_X7_must (er_n d (by decide) (by decide)) (Nat.le_of_ble_eq_true rfl) rfl (c_X7_must ((61 : Int32)) (h) _ hw) kxN (kI (fun z1 h2 hw => ?_))
    refine g_if_ne (dk D_X1_clause_o 90 rfl) rfl (wif_m hw (fun hw => ?_) (fun hw => ?_))
    · refine g_sub [1, 2, 0] rfl ?_
      exact t_X1_clause_o_b182 W p1 (s0) (h2) Q d hW0 hW1 hW2 hW3  hw
    · refine g_iconst (dk D_X1_clause_o 91 rfl) ki_0 ?_
      exact g_zret (dk D_X1_clause_o 92 rfl) rfl ⟨_, rfl, hw⟩
theorem t_X1_clause_o {X : Cx} (W : Nat → Int32 → Hp → (Int32 → Hp → Prop) → Prop) (p1 : Int32) (h : Hp) (Q : Int32 → Hp → Prop) (d : Nat) (hW0 : ∀ (p1 : Int32) (h : Hp) (Q : Int32 → Hp → Prop), W 0 p1 h Q → Con X yX1_unit M_X1_unit_o (10 + d) (300 + 60 * d) 0 [.ref (43), .int (p1)] h (QI Q) Qn) (hW1 : ∀ (p1 : Int32) (h : Hp) (Q : Int32 → Hp → Prop), W 1 p1 h Q → Con X yX1_number M_X1_number_o (10 + d) (300 + 60 * d) 0 [.ref (43), .int (p1)] h (QI Q) Qn) (hW2 : ∀ (p1 : Int32) (h : Hp) (Q : Int32 → Hp → Prop), W 2 p1 h Q → Con X yX1_clause M_X1_clause_o (10 + d) (300 + 60 * d) 0 [.ref (43), .int (p1)] h (QI Q) Qn) (hW3 : ∀ (p1 : Int32) (h : Hp) (Q : Int32 → Hp → Prop), W 3 p1 h Q → Con X yX1_condition M_X1_condition_o (10 + d) (300 + 60 * d) 0 [.ref (43), .int (p1)] h (QI Q) Qn)  (hw : w_X1_clause_o W p1 h Q) : G X M_X1_clause_o (Er (d + 1)) (QM X (Er (d + 1)) (QI Q) Qn) 0 0 [(0, .ref (43)), (1, .int (p1))] [] h := by
  unfold w_X1_clause_o at hw
  refine g_aload_n 0 (dk D_X1_clause_o 0 rfl) rfl rfl ?_
  refine g_getR 0 (t := 1) (dk D_X1_clause_o 1 rfl) kd_43 rfl rfl (by decide) w_285 rfl rfl rfl ?_
  refine g_callV (As := []) (kc := 0) (fr := 0) (lo := 0) (mc := 0) (My := M_X7_start) (dk D_X1_clause_o 2 rfl) kd_1 rfl rfl w_953 w_789 w_790 w_102 w_791 okD_X7_start (er_n d (by decide) (by decide)) (Nat.le_of_ble_eq_true rfl) rfl (c_X7_start (h) _ hw) kxN (kI (fun z1 h2 hw => ?_))
  refine g_istore_n (dk D_X1_clause_o 3 rfl) rfl (by decide) rfl ?_
  refine g_aload_n 1 (dk D_X1_clause_o 4 rfl) rfl rfl ?_
  refine g_getR 0 (t := 1) (dk D_X1_clause_o 5 rfl) kd_43 rfl rfl (by decide) w_285 rfl rfl rfl ?_
  refine g_ldcS 21 (dk D_X1_clause_o 6 rfl) rfl ?_
  refine g_callV (As := [.ref (SB + 2 * 21)]) (kc := 0) (fr := 6) (lo := 200) (mc := 0) (My := M_X7_word) (dk D_X1_clause_o 7 rfl) kd_1 rfl rfl w_955 w_803 w_804 w_102 w_805 okD_X7_word (er_n d (by decide) (by decide)) (Nat.le_of_ble_eq_true rfl) rfl (c_X7_word 21 ((by decide)) (h2) _ hw) kxN (kI (fun z3 h4 hw => ?_))
  refine g_if_eq (dk D_X1_clause_o 8 rfl) rfl (wif_m hw (fun hw => ?_) (fun hw => ?_))
  · refine g_aload_n 1 (dk D_X1_clause_o 32 rfl) rfl rfl ?_
    refine g_getR 0 (t := 1) (dk D_X1_clause_o 33 rfl) kd_43 rfl rfl (by decide) w_285 rfl rfl rfl ?_
    refine g_bipush (dk D_X1_clause_o 34 rfl) kb_91 ?_
    refine g_callV (As := [.int ((91 : Int32))]) (kc := 0) (fr := 1) (lo := 29) (mc := 0) (My := M_X7_sign) (dk D_X1_clause_o 35 rfl) kd_1 rfl rfl w_965 w_924 w_925 w_102 w_926 okD_X7_sign (er_n d (by decide) (by decide)) (Nat.le_of_ble_eq_true rfl) rfl (c_X7_sign ((91 : Int32)) (h4) _ hw) kxN (kI (fun z5 h6 hw => ?_))
    refine g_if_eq (dk D_X1_clause_o 36 rfl) rfl (wif_m hw (fun hw => ?_) (fun hw => ?_))
    · refine g_aload_n 1 (dk D_X1_clause_o 61 rfl) rfl rfl ?_
      refine g_iload_n 2 (dk D_X1_clause_o 62 rfl) rfl rfl ?_
      refine g_callV (As := [.int (p1)]) (kc := 0) (fr := (10 + d)) (lo := (300 + 60 * d)) (mc := 0) (My := M_X1_number_o) (dk D_X1_clause_o 63 rfl) kd_43 rfl rfl w_957 w_959 w_22 w_106 w_960 okD_X1_number_o (er_r d (by decide)) (Nat.le_of_ble_eq_true rfl) rfl (hW1 (p1) (h6) _ hw) kxN (kI (fun z7 h8 hw => ?_))
      refine g_if_ne (dk D_X1_clause_o 64 rfl) rfl (wif_m hw (fun hw => ?_) (fun hw => ?_))
      · refine g_aload_n 1 (dk D_X1_clause_o 67 rfl) rfl rfl ?_
        refine g_getR 0 (t := 1) (dk D_X1_clause_o 68 rfl) kd_43 rfl rfl (by decide) w_285 rfl rfl rfl ?_
        refine g_bipush (dk D_X1_clause_o 69 rfl) kb_60 ?_
        refine g_callV (As := [.int ((60 : Int32))]) (kc := 0) (fr := 1) (lo := 29) (mc := 0) (My := M_X7_sign) (dk D_X1_clause_o 70 rfl) kd_1 rfl rfl w_965 w_924 w_925 w_102 w_926 okD_X7_sign (er_n d (by decide) (by decide)) (Nat.le_of_ble_eq_true rfl) rfl (c_X7_sign ((60 : Int32)) (h8) _ hw) kxN (kI (fun z9 h10 hw => ?_))
        refine g_if_eq (dk D_X1_clause_o 71 rfl) rfl (wif_m hw (fun hw => ?_) (fun hw => ?_))
        · refine g_aload_n 1 (dk D_X1_clause_o 74 rfl) rfl rfl ?_
          refine g_getR 0 (t := 1) (dk D_X1_clause_o 75 rfl) kd_43 rfl rfl (by decide) w_285 rfl rfl rfl ?_
          refine g_bipush (dk D_X1_clause_o 76 rfl) kb_62 ?_
          refine g_callV (As := [.int ((62 : Int32))]) (kc := 0) (fr := 1) (lo := 29) (mc := 0) (My := M_X7_sign) (dk D_X1_clause_o 77 rfl) kd_1 rfl rfl w_965 w_924 w_925 w_102 w_926 okD_X7_sign (er_n d (by decide) (by decide)) (Nat.le_of_ble_eq_true rfl) rfl (c_X7_sign ((62 : Int32)) (h10) _ hw) kxN (kI (fun z11 h12 hw => ?_))
          have hj : G X M_X1_clause_o (Er (d + 1)) (QM X (Er (d + 1)) (QI Q) Qn) 0 161 [(2, .int (z1)), (0, .ref (43)), (1, .int (p1))] [.int ((if z11 = 0 then (-13 : Int32) else (-12 : Int32)))] (h12) := by
            refine g_topi (fun v3_14 ev3_14 => ?_)
            replace hw := hw _ ev3_14
            refine g_istore_n (dk D_X1_clause_o 82 rfl) rfl (by decide) rfl ?_
            refine g_iload_n 0 (dk D_X1_clause_o 83 rfl) rfl rfl ?_
            refine g_bipush (dk D_X1_clause_o 84 rfl) kb_m13 ?_
            refine g_icmp_ne (dk D_X1_clause_o 85 rfl) rfl (wif_m hw (fun hw => ?_) (fun hw => ?_))
            · refine g_sub [2, 3, 0] rfl ?_
              exact t_X1_clause_o_b182 W p1 (v3_14) (h12) Q d hW0 hW1 hW2 hW3  hw
            · refine g_aload_n 2 (dk D_X1_clause_o 86 rfl) rfl rfl ?_
              refine g_getR 0 (t := 1) (dk D_X1_clause_o 87 rfl) kd_43 rfl rfl (by decide) w_285 rfl rfl rfl ?_
              refine g_bipush (dk D_X1_clause_o 88 rfl) kb_61 ?_
              refine g_callV (As := [.int ((61 : Int32))]) (kc := 0) (fr := 2) (lo := 59) (mc := 0) (My := M_X7_must) (dk D_X1_clause_o 89 rfl) kd_1 rfl rfl w_966 w_920 w_921 w_102 w_922 okD_X7_must (er_n d (by decide) (by decide)) (Nat.le_of_ble_eq_true rfl) rfl (c_X7_must ((61 : Int32)) (h12) _ hw) kxN (kI (fun z15 h16 hw => ?_))
              refine g_if_ne (dk D_X1_clause_o 90 rfl) rfl (wif_m hw (fun hw => ?_) (fun hw => ?_))
              · refine g_sub [2, 3, 0] rfl ?_
                exact t_X1_clause_o_b182 W p1 (v3_14) (h16) Q d hW0 hW1 hW2 hW3  hw
              · refine g_iconst (dk D_X1_clause_o 91 rfl) ki_0 ?_
                exact g_zret (dk D_X1_clause_o 92 rfl) rfl ⟨_, rfl, hw⟩
          refine g_if_eq (dk D_X1_clause_o 78 rfl) rfl ?_
          by_cases c13 : z11 = 0
          · rw [if_pos c13] at hj
            refine wif_p c13 ?_
            refine g_bipush (dk D_X1_clause_o 81 rfl) kb_m13 ?_
            exact hj
          · rw [if_neg c13] at hj
            refine wif_n c13 ?_
            refine g_bipush (dk D_X1_clause_o 79 rfl) kb_m12 ?_
            refine g_goto (dk D_X1_clause_o 80 rfl) rfl ?_
            exact hj
        · refine g_bipush (dk D_X1_clause_o 72 rfl) kb_m11 ?_
          refine g_goto (dk D_X1_clause_o 73 rfl) rfl ?_
          refine g_sub [1, 2] rfl ?_
          exact t_X1_clause_o_b161 W p1 ((-11 : Int32)) (h10) Q d hW0 hW1 hW2 hW3  hw
      · refine g_iconst (dk D_X1_clause_o 65 rfl) ki_0 ?_
        exact g_zret (dk D_X1_clause_o 66 rfl) rfl ⟨_, rfl, hw⟩
    · refine g_iload_n 2 (dk D_X1_clause_o 37 rfl) rfl rfl ?_
      refine g_bipush (dk D_X1_clause_o 38 rfl) kb_6 ?_
      refine g_icmp_lt (dk D_X1_clause_o 39 rfl) rfl (wif_m hw (fun hw => ?_) (fun hw => ?_))
      · refine g_aload_n 1 (dk D_X1_clause_o 46 rfl) rfl rfl ?_
        refine g_iload_n 2 (dk D_X1_clause_o 47 rfl) rfl rfl ?_
        refine g_iconst (dk D_X1_clause_o 48 rfl) ki_1 ?_
        refine g_iadd (dk D_X1_clause_o 49 rfl) ?_
        refine g_callV (As := [.int ((p1 + (1 : Int32)))]) (kc := 0) (fr := (10 + d)) (lo := (300 + 60 * d)) (mc := 0) (My := M_X1_condition_o) (dk D_X1_clause_o 50 rfl) kd_43 rfl rfl w_979 w_981 w_24 w_106 w_982 okD_X1_condition_o (er_r d (by decide)) (Nat.le_of_ble_eq_true rfl) rfl (hW3 ((p1 + (1 : Int32))) (h6) _ hw) kxN (kI (fun z17 h18 hw => ?_))
        refine g_if_eq (dk D_X1_clause_o 51 rfl) rfl (wif_m hw (fun hw => ?_) (fun hw => ?_))
        · refine g_iconst (dk D_X1_clause_o 59 rfl) ki_0 ?_
          exact g_zret (dk D_X1_clause_o 60 rfl) rfl ⟨_, rfl, hw⟩
        · refine g_aload_n 1 (dk D_X1_clause_o 52 rfl) rfl rfl ?_
          refine g_getR 0 (t := 1) (dk D_X1_clause_o 53 rfl) kd_43 rfl rfl (by decide) w_285 rfl rfl rfl ?_
          refine g_bipush (dk D_X1_clause_o 54 rfl) kb_93 ?_
          refine g_callV (As := [.int ((93 : Int32))]) (kc := 0) (fr := 2) (lo := 59) (mc := 0) (My := M_X7_must) (dk D_X1_clause_o 55 rfl) kd_1 rfl rfl w_966 w_920 w_921 w_102 w_922 okD_X7_must (er_n d (by decide) (by decide)) (Nat.le_of_ble_eq_true rfl) rfl (c_X7_must ((93 : Int32)) (h18) _ hw) kxN (kI (fun z19 h20 hw => ?_))
          have hj : G X M_X1_clause_o (Er (d + 1)) (QM X (Er (d + 1)) (QI Q) Qn) 0 114 [(2, .int (z1)), (0, .ref (43)), (1, .int (p1))] [.int ((if z19 = 0 then (0 : Int32) else (1 : Int32)))] (h20) := by
            exact g_zret (dk D_X1_clause_o 60 rfl) rfl ⟨_, rfl, hw⟩
          refine g_if_eq (dk D_X1_clause_o 56 rfl) rfl ?_
          by_cases c21 : z19 = 0
          · rw [if_pos c21] at hj
            refine wif_p c21 ?_
            refine g_iconst (dk D_X1_clause_o 59 rfl) ki_0 ?_
            exact hj
          · rw [if_neg c21] at hj
            refine wif_n c21 ?_
            refine g_iconst (dk D_X1_clause_o 57 rfl) ki_1 ?_
            refine g_goto (dk D_X1_clause_o 58 rfl) rfl ?_
            exact hj
      · refine g_aload_n 1 (dk D_X1_clause_o 40 rfl) rfl rfl ?_
        refine g_getR 0 (t := 1) (dk D_X1_clause_o 41 rfl) kd_43 rfl rfl (by decide) w_285 rfl rfl rfl ?_
        refine g_iconst (dk D_X1_clause_o 42 rfl) ki_3 ?_
        refine g_iload_n 0 (dk D_X1_clause_o 43 rfl) rfl rfl ?_
        refine g_callV (As := [.int ((3 : Int32)), .int (z1)]) (kc := 0) (fr := 0) (lo := 0) (mc := 0) (My := M_X7_fail) (dk D_X1_clause_o 44 rfl) kd_1 rfl rfl w_956 w_870 w_871 w_102 w_872 okD_X7_fail (er_n d (by decide) (by decide)) (Nat.le_of_ble_eq_true rfl) rfl (c_X7_fail ((3 : Int32)) (z1) (h6) _ hw) kxN (kI (fun z22 h23 hw => ?_))
        exact g_zret (dk D_X1_clause_o 45 rfl) rfl ⟨_, rfl, hw⟩
  · refine g_iload_n 2 (dk D_X1_clause_o 9 rfl) rfl rfl ?_
    refine g_bipush (dk D_X1_clause_o 10 rfl) kb_6 ?_
    refine g_icmp_lt (dk D_X1_clause_o 11 rfl) rfl (wif_m hw (fun hw => ?_) (fun hw => ?_))
    · refine g_aload_n 1 (dk D_X1_clause_o 18 rfl) rfl rfl ?_
      refine g_iload_n 2 (dk D_X1_clause_o 19 rfl) rfl rfl ?_
      refine g_iconst (dk D_X1_clause_o 20 rfl) ki_1 ?_
      refine g_iadd (dk D_X1_clause_o 21 rfl) ?_
      refine g_callV (As := [.int ((p1 + (1 : Int32)))]) (kc := 0) (fr := (10 + d)) (lo := (300 + 60 * d)) (mc := 0) (My := M_X1_clause_o) (dk D_X1_clause_o 22 rfl) kd_43 rfl rfl w_983 w_985 w_25 w_106 w_986 okD_X1_clause_o (er_r d (by decide)) (Nat.le_of_ble_eq_true rfl) rfl (hW2 ((p1 + (1 : Int32))) (h4) _ hw) kxN (kI (fun z24 h25 hw => ?_))
      refine g_if_ne (dk D_X1_clause_o 23 rfl) rfl (wif_m hw (fun hw => ?_) (fun hw => ?_))
      · refine g_aload_n 1 (dk D_X1_clause_o 26 rfl) rfl rfl ?_
        refine g_getR 1 (t := 30) (dk D_X1_clause_o 27 rfl) kd_43 rfl rfl (by decide) w_286 rfl rfl rfl ?_
        refine g_bipush (dk D_X1_clause_o 28 rfl) kb_m14 ?_
        refine g_callV (As := [.int ((-14 : Int32))]) (kc := 0) (fr := 1) (lo := 30) (mc := 0) (My := M_X0_add) (dk D_X1_clause_o 29 rfl) lawP_30.1 rfl rfl w_974 w_975 w_976 w_104 w_977 okD_X0_add (er_n d (by decide) (by decide)) (Nat.le_of_ble_eq_true rfl) rfl (c_X0_add 30 ((-14 : Int32)) (lawP_30) (h25) _ hw) kxN (kV (fun h26 hw => ?_))
        refine g_iconst (dk D_X1_clause_o 30 rfl) ki_1 ?_
        exact g_zret (dk D_X1_clause_o 31 rfl) rfl ⟨_, rfl, hw⟩
      · refine g_iconst (dk D_X1_clause_o 24 rfl) ki_0 ?_
        exact g_zret (dk D_X1_clause_o 25 rfl) rfl ⟨_, rfl, hw⟩
    · refine g_aload_n 1 (dk D_X1_clause_o 12 rfl) rfl rfl ?_
      refine g_getR 0 (t := 1) (dk D_X1_clause_o 13 rfl) kd_43 rfl rfl (by decide) w_285 rfl rfl rfl ?_
      refine g_iconst (dk D_X1_clause_o 14 rfl) ki_3 ?_
      refine g_iload_n 0 (dk D_X1_clause_o 15 rfl) rfl rfl ?_
      refine g_callV (As := [.int ((3 : Int32)), .int (z1)]) (kc := 0) (fr := 0) (lo := 0) (mc := 0) (My := M_X7_fail) (dk D_X1_clause_o 16 rfl) kd_1 rfl rfl w_956 w_870 w_871 w_102 w_872 okD_X7_fail (er_n d (by decide) (by decide)) (Nat.le_of_ble_eq_true rfl) rfl (c_X7_fail ((3 : Int32)) (z1) (h4) _ hw) kxN (kI (fun z27 h28 hw => ?_))
      exact g_zret (dk D_X1_clause_o 17 rfl) rfl ⟨_, rfl, hw⟩
theorem c_X1_clause_o {X : Cx} (W : Nat → Int32 → Hp → (Int32 → Hp → Prop) → Prop) (p1 : Int32) (d : Nat) (hW0 : ∀ (p1 : Int32) (h : Hp) (Q : Int32 → Hp → Prop), W 0 p1 h Q → Con X yX1_unit M_X1_unit_o (10 + d) (300 + 60 * d) 0 [.ref (43), .int (p1)] h (QI Q) Qn) (hW1 : ∀ (p1 : Int32) (h : Hp) (Q : Int32 → Hp → Prop), W 1 p1 h Q → Con X yX1_number M_X1_number_o (10 + d) (300 + 60 * d) 0 [.ref (43), .int (p1)] h (QI Q) Qn) (hW2 : ∀ (p1 : Int32) (h : Hp) (Q : Int32 → Hp → Prop), W 2 p1 h Q → Con X yX1_clause M_X1_clause_o (10 + d) (300 + 60 * d) 0 [.ref (43), .int (p1)] h (QI Q) Qn) (hW3 : ∀ (p1 : Int32) (h : Hp) (Q : Int32 → Hp → Prop), W 3 p1 h Q → Con X yX1_condition M_X1_condition_o (10 + d) (300 + 60 * d) 0 [.ref (43), .int (p1)] h (QI Q) Qn)  (h : Hp) (Q : Int32 → Hp → Prop) (hw : w_X1_clause_o W p1 h Q) : Con X yX1_clause M_X1_clause_o (10 + (d + 1)) (300 + 60 * (d + 1)) 0 [.ref (43), .int (p1)] h (QI Q) Qn :=
  con_of (by decide +kernel) rfl (Nat.le_of_ble_eq_true rfl) (t_X1_clause_o W p1 h Q d hW0 hW1 hW2 hW3  hw)
theorem t_X1_condition_o_b81 {X : Cx} (W : Nat → Int32 → Hp → (Int32 → Hp → Prop) → Prop) (p1 : Int32) (v2 : Int32) (v3 : Int32) (v4 : Int32) (K7 : Int32 × Int32 × Int32 × Hp → Prop) (h : Hp) (Q : Int32 → Hp → Prop) (d : Nat) (hW0 : ∀ (p1 : Int32) (h : Hp) (Q : Int32 → Hp → Prop), W 0 p1 h Q → Con X yX1_unit M_X1_unit_o (10 + d) (300 + 60 * d) 0 [.ref (43), .int (p1)] h (QI Q) Qn) (hW1 : ∀ (p1 : Int32) (h : Hp) (Q : Int32 → Hp → Prop), W 1 p1 h Q → Con X yX1_number M_X1_number_o (10 + d) (300 + 60 * d) 0 [.ref (43), .int (p1)] h (QI Q) Qn) (hW2 : ∀ (p1 : Int32) (h : Hp) (Q : Int32 → Hp → Prop), W 2 p1 h Q → Con X yX1_clause M_X1_clause_o (10 + d) (300 + 60 * d) 0 [.ref (43), .int (p1)] h (QI Q) Qn) (hW3 : ∀ (p1 : Int32) (h : Hp) (Q : Int32 → Hp → Prop), W 3 p1 h Q → Con X yX1_condition M_X1_condition_o (10 + d) (300 + 60 * d) 0 [.ref (43), .int (p1)] h (QI Q) Qn)  (hK7 : ∀ s : Int32 × Int32 × Int32 × Hp, K7 s → G X M_X1_condition_o (Er (d + 1)) (QM X (Er (d + 1)) (QI Q) Qn) 0 7 [(0, .ref (43)), (1, .int (p1)), (2, .int (s.1)), (3, .int (s.2.1)), (4, .int (s.2.2.1))] [] (s.2.2.2)) (hw : w_X1_condition_o_b81 W p1 v2 v3 v4 K7 h Q) : G X M_X1_condition_o (Er (d + 1)) (QM X (Er (d + 1)) (QI Q) Qn) 0 81 [(0, .ref (43)), (1, .int (p1)), (2, .int (v2)), (3, .int (v3)), (4, .int (v4))] [] h := by
  unfold w_X1_condition_o_b81 at hw
  refine g_iinc 4 (dk D_X1_condition_o 43 rfl) rfl (congrArg (fun z => _ + z) ki_1) (by decide) rfl ?_
  refine g_goto (dk D_X1_condition_o 44 rfl) rfl ?_
  refine g_sub [1, 2, 3, 4, 0] rfl ?_
  exact hK7 (v2, v3, (v4 + (1 : Int32)), h) hw
theorem t_X1_condition_o_b65 {X : Cx} (W : Nat → Int32 → Hp → (Int32 → Hp → Prop) → Prop) (p1 : Int32) (v3 : Int32) (v4 : Int32) (K7 : Int32 × Int32 × Int32 × Hp → Prop) (h : Hp) (Q : Int32 → Hp → Prop) (d : Nat) (hW0 : ∀ (p1 : Int32) (h : Hp) (Q : Int32 → Hp → Prop), W 0 p1 h Q → Con X yX1_unit M_X1_unit_o (10 + d) (300 + 60 * d) 0 [.ref (43), .int (p1)] h (QI Q) Qn) (hW1 : ∀ (p1 : Int32) (h : Hp) (Q : Int32 → Hp → Prop), W 1 p1 h Q → Con X yX1_number M_X1_number_o (10 + d) (300 + 60 * d) 0 [.ref (43), .int (p1)] h (QI Q) Qn) (hW2 : ∀ (p1 : Int32) (h : Hp) (Q : Int32 → Hp → Prop), W 2 p1 h Q → Con X yX1_clause M_X1_clause_o (10 + d) (300 + 60 * d) 0 [.ref (43), .int (p1)] h (QI Q) Qn) (hW3 : ∀ (p1 : Int32) (h : Hp) (Q : Int32 → Hp → Prop), W 3 p1 h Q → Con X yX1_condition M_X1_condition_o (10 + d) (300 + 60 * d) 0 [.ref (43), .int (p1)] h (QI Q) Qn)  (hK7 : ∀ s : Int32 × Int32 × Int32 × Hp, K7 s → G X M_X1_condition_o (Er (d + 1)) (QM X (Er (d + 1)) (QI Q) Qn) 0 7 [(0, .ref (43)), (1, .int (p1)), (2, .int (s.1)), (3, .int (s.2.1)), (4, .int (s.2.2.1))] [] (s.2.2.2)) (hw : w_X1_condition_o_b65 W p1 v3 v4 K7 h Q) : G X M_X1_condition_o (Er (d + 1)) (QM X (Er (d + 1)) (QI Q) Qn) 0 65 [(0, .ref (43)), (1, .int (p1)), (3, .int (v3)), (4, .int (v4))] [] h := by
  unfold w_X1_condition_o_b65 at hw
  refine g_aload_n 0 (dk D_X1_condition_o 34 rfl) rfl rfl ?_
  refine g_getR 0 (t := 1) (dk D_X1_condition_o 35 rfl) kd_43 rfl rfl (by decide) w_285 rfl rfl rfl ?_
  refine g_ldcS 23 (dk D_X1_condition_o 36 rfl) rfl ?_
  refine g_callV (As := [.ref (SB + 2 * 23)]) (kc := 0) (fr := 6) (lo := 200) (mc := 0) (My := M_X7_word) (dk D_X1_condition_o 37 rfl) kd_1 rfl rfl w_955 w_803 w_804 w_102 w_805 okD_X7_word (er_n d (by decide) (by decide)) (Nat.le_of_ble_eq_true rfl) rfl (c_X7_word 23 ((by decide)) (h) _ hw) kxN (kI (fun z1 h2 hw => ?_))
  refine g_istore_n (dk D_X1_condition_o 38 rfl) rfl (by decide) rfl ?_
  refine g_iload_n 0 (dk D_X1_condition_o 39 rfl) rfl rfl ?_
  refine g_if_ne (dk D_X1_condition_o 40 rfl) rfl (wif_m hw (fun hw => ?_) (fun hw => ?_))
  · refine g_sub [1, 2, 0, 3, 4] rfl ?_
    exact t_X1_condition_o_b81 W p1 (z1) (v3) (v4) K7 (h2) Q d hW0 hW1 hW2 hW3  hK7 hw
  · refine g_iconst (dk D_X1_condition_o 41 rfl) ki_1 ?_
    exact g_zret (dk D_X1_condition_o 42 rfl) rfl ⟨_, rfl, hw⟩
theorem t_X1_condition_o_b38 {X : Cx} (W : Nat → Int32 → Hp → (Int32 → Hp → Prop) → Prop) (p1 : Int32) (v2 : Int32) (v4 : Int32) (K7 : Int32 × Int32 × Int32 × Hp → Prop) (h : Hp) (Q : Int32 → Hp → Prop) (d : Nat) (hW0 : ∀ (p1 : Int32) (h : Hp) (Q : Int32 → Hp → Prop), W 0 p1 h Q → Con X yX1_unit M_X1_unit_o (10 + d) (300 + 60 * d) 0 [.ref (43), .int (p1)] h (QI Q) Qn) (hW1 : ∀ (p1 : Int32) (h : Hp) (Q : Int32 → Hp → Prop), W 1 p1 h Q → Con X yX1_number M_X1_number_o (10 + d) (300 + 60 * d) 0 [.ref (43), .int (p1)] h (QI Q) Qn) (hW2 : ∀ (p1 : Int32) (h : Hp) (Q : Int32 → Hp → Prop), W 2 p1 h Q → Con X yX1_clause M_X1_clause_o (10 + d) (300 + 60 * d) 0 [.ref (43), .int (p1)] h (QI Q) Qn) (hW3 : ∀ (p1 : Int32) (h : Hp) (Q : Int32 → Hp → Prop), W 3 p1 h Q → Con X yX1_condition M_X1_condition_o (10 + d) (300 + 60 * d) 0 [.ref (43), .int (p1)] h (QI Q) Qn)  (hK7 : ∀ s : Int32 × Int32 × Int32 × Hp, K7 s → G X M_X1_condition_o (Er (d + 1)) (QM X (Er (d + 1)) (QI Q) Qn) 0 7 [(0, .ref (43)), (1, .int (p1)), (2, .int (s.1)), (3, .int (s.2.1)), (4, .int (s.2.2.1))] [] (s.2.2.2)) (hw : w_X1_condition_o_b38 W p1 v2 v4 K7 h Q) : G X M_X1_condition_o (Er (d + 1)) (QM X (Er (d + 1)) (QI Q) Qn) 0 38 [(0, .ref (43)), (1, .int (p1)), (2, .int (v2)), (4, .int (v4))] [] h := by
  unfold w_X1_condition_o_b38 at hw
  refine g_aload_n 0 (dk D_X1_condition_o 21 rfl) rfl rfl ?_
  refine g_getR 0 (t := 1) (dk D_X1_condition_o 22 rfl) kd_43 rfl rfl (by decide) w_285 rfl rfl rfl ?_
  refine g_ldcS 22 (dk D_X1_condition_o 23 rfl) rfl ?_
  refine g_callV (As := [.ref (SB + 2 * 22)]) (kc := 0) (fr := 6) (lo := 200) (mc := 0) (My := M_X7_word) (dk D_X1_condition_o 24 rfl) kd_1 rfl rfl w_955 w_803 w_804 w_102 w_805 okD_X7_word (er_n d (by decide) (by decide)) (Nat.le_of_ble_eq_true rfl) rfl (c_X7_word 22 ((by decide)) (h) _ hw) kxN (kI (fun z1 h2 hw => ?_))
  refine g_istore_n (dk D_X1_condition_o 25 rfl) rfl (by decide) rfl ?_
  refine g_iload_n 0 (dk D_X1_condition_o 26 rfl) rfl rfl ?_
  refine g_if_ne (dk D_X1_condition_o 27 rfl) rfl (wif_m hw (fun hw => ?_) (fun hw => ?_))
  · refine g_sub [1, 2, 3, 0, 4] rfl ?_
    exact t_X1_condition_o_b81 W p1 (v2) (z1) (v4) K7 (h2) Q d hW0 hW1 hW2 hW3  hK7 hw
  · refine g_iload_n 3 (dk D_X1_condition_o 28 rfl) rfl rfl ?_
    refine g_if_eq (dk D_X1_condition_o 29 rfl) rfl (wif_m hw (fun hw => ?_) (fun hw => ?_))
    · refine g_sub [1, 2, 0, 4] rfl ?_
      exact t_X1_condition_o_b65 W p1 (z1) (v4) K7 (h2) Q d hW0 hW1 hW2 hW3  hK7 hw
    · refine g_aload_n 1 (dk D_X1_condition_o 30 rfl) rfl rfl ?_
      refine g_getR 1 (t := 30) (dk D_X1_condition_o 31 rfl) kd_43 rfl rfl (by decide) w_286 rfl rfl rfl ?_
      refine g_bipush (dk D_X1_condition_o 32 rfl) kb_m16 ?_
      refine g_callV (As := [.int ((-16 : Int32))]) (kc := 0) (fr := 1) (lo := 30) (mc := 0) (My := M_X0_add) (dk D_X1_condition_o 33 rfl) lawP_30.1 rfl rfl w_974 w_975 w_976 w_104 w_977 okD_X0_add (er_n d (by decide) (by decide)) (Nat.le_of_ble_eq_true rfl) rfl (c_X0_add 30 ((-16 : Int32)) (lawP_30) (h2) _ hw) kxN (kV (fun h3 hw => ?_))
      refine g_sub [1, 2, 0, 4] rfl ?_
      exact t_X1_condition_o_b65 W p1 (z1) (v4) K7 (h3) Q d hW0 hW1 hW2 hW3  hK7 hw
theorem t_X1_condition_o_l7 {X : Cx} (W : Nat → Int32 → Hp → (Int32 → Hp → Prop) → Prop) (p1 : Int32) (Q : Int32 → Hp → Prop) (K7 : Int32 × Int32 × Int32 × Hp → Prop) (v2 : Int32) (v3 : Int32) (v4 : Int32) (h : Hp) (d : Nat) (hW0 : ∀ (p1 : Int32) (h : Hp) (Q : Int32 → Hp → Prop), W 0 p1 h Q → Con X yX1_unit M_X1_unit_o (10 + d) (300 + 60 * d) 0 [.ref (43), .int (p1)] h (QI Q) Qn) (hW1 : ∀ (p1 : Int32) (h : Hp) (Q : Int32 → Hp → Prop), W 1 p1 h Q → Con X yX1_number M_X1_number_o (10 + d) (300 + 60 * d) 0 [.ref (43), .int (p1)] h (QI Q) Qn) (hW2 : ∀ (p1 : Int32) (h : Hp) (Q : Int32 → Hp → Prop), W 2 p1 h Q → Con X yX1_clause M_X1_clause_o (10 + d) (300 + 60 * d) 0 [.ref (43), .int (p1)] h (QI Q) Qn) (hW3 : ∀ (p1 : Int32) (h : Hp) (Q : Int32 → Hp → Prop), W 3 p1 h Q → Con X yX1_condition M_X1_condition_o (10 + d) (300 + 60 * d) 0 [.ref (43), .int (p1)] h (QI Q) Qn)  (hK7 : ∀ s : Int32 × Int32 × Int32 × Hp, K7 s → G X M_X1_condition_o (Er (d + 1)) (QM X (Er (d + 1)) (QI Q) Qn) 0 7 [(0, .ref (43)), (1, .int (p1)), (2, .int (s.1)), (3, .int (s.2.1)), (4, .int (s.2.2.1))] [] (s.2.2.2)) (hw : w_X1_condition_o_l7 W p1 Q K7 v2 v3 v4 h) : G X M_X1_condition_o (Er (d + 1)) (QM X (Er (d + 1)) (QI Q) Qn) 0 7 [(0, .ref (43)), (1, .int (p1)), (2, .int (v2)), (3, .int (v3)), (4, .int (v4))] [] h := by
  unfold w_X1_condition_o_l7 at hw
  refine g_iload 4 (dk D_X1_condition_o 6 rfl) rfl ?_
  refine g_sipush (dk D_X1_condition_o 7 rfl) ks_500 ?_
  refine g_icmp_gt (dk D_X1_condition_o 8 rfl) rfl (wif_m hw (fun hw => ?_) (fun hw => ?_))
  · refine g_iconst (dk D_X1_condition_o 45 rfl) ki_0 ?_
    exact g_zret (dk D_X1_condition_o 46 rfl) rfl ⟨_, rfl, hw⟩
  · refine g_aload_n 0 (dk D_X1_condition_o 9 rfl) rfl rfl ?_
    refine g_iload_n 1 (dk D_X1_condition_o 10 rfl) rfl rfl ?_
    refine g_callV (As := [.int (p1)]) (kc := 0) (fr := (10 + d)) (lo := (300 + 60 * d)) (mc := 0) (My := M_X1_clause_o) (dk D_X1_condition_o 11 rfl) kd_43 rfl rfl w_983 w_985 w_25 w_106 w_986 okD_X1_clause_o (er_r d (by decide)) (Nat.le_of_ble_eq_true rfl) rfl (hW2 (p1) (h) _ hw) kxN (kI (fun z1 h2 hw => ?_))
    refine g_if_ne (dk D_X1_condition_o 12 rfl) rfl (wif_m hw (fun hw => ?_) (fun hw => ?_))
    · refine g_iload_n 3 (dk D_X1_condition_o 15 rfl) rfl rfl ?_
      refine g_if_eq (dk D_X1_condition_o 16 rfl) rfl (wif_m hw (fun hw => ?_) (fun hw => ?_))
      · refine g_sub [0, 1, 2, 4] rfl ?_
        exact t_X1_condition_o_b38 W p1 (v2) (v4) K7 (h2) Q d hW0 hW1 hW2 hW3  hK7 hw
      · refine g_aload_n 0 (dk D_X1_condition_o 17 rfl) rfl rfl ?_
        refine g_getR 1 (t := 30) (dk D_X1_condition_o 18 rfl) kd_43 rfl rfl (by decide) w_286 rfl rfl rfl ?_
        refine g_bipush (dk D_X1_condition_o 19 rfl) kb_m15 ?_
        refine g_callV (As := [.int ((-15 : Int32))]) (kc := 0) (fr := 1) (lo := 30) (mc := 0) (My := M_X0_add) (dk D_X1_condition_o 20 rfl) lawP_30.1 rfl rfl w_974 w_975 w_976 w_104 w_977 okD_X0_add (er_n d (by decide) (by decide)) (Nat.le_of_ble_eq_true rfl) rfl (c_X0_add 30 ((-15 : Int32)) (lawP_30) (h2) _ hw) kxN (kV (fun h3 hw => ?_))
        refine g_sub [0, 1, 2, 4] rfl ?_
        exact t_X1_condition_o_b38 W p1 (v2) (v4) K7 (h3) Q d hW0 hW1 hW2 hW3  hK7 hw
    · refine g_iconst (dk D_X1_condition_o 13 rfl) ki_0 ?_
      exact g_zret (dk D_X1_condition_o 14 rfl) rfl ⟨_, rfl, hw⟩
theorem t_X1_condition_o_b7 {X : Cx} (W : Nat → Int32 → Hp → (Int32 → Hp → Prop) → Prop) (p1 : Int32) (Q : Int32 → Hp → Prop) (s : Int32 × Int32 × Int32 × Hp) (d : Nat) (hW0 : ∀ (p1 : Int32) (h : Hp) (Q : Int32 → Hp → Prop), W 0 p1 h Q → Con X yX1_unit M_X1_unit_o (10 + d) (300 + 60 * d) 0 [.ref (43), .int (p1)] h (QI Q) Qn) (hW1 : ∀ (p1 : Int32) (h : Hp) (Q : Int32 → Hp → Prop), W 1 p1 h Q → Con X yX1_number M_X1_number_o (10 + d) (300 + 60 * d) 0 [.ref (43), .int (p1)] h (QI Q) Qn) (hW2 : ∀ (p1 : Int32) (h : Hp) (Q : Int32 → Hp → Prop), W 2 p1 h Q → Con X yX1_clause M_X1_clause_o (10 + d) (300 + 60 * d) 0 [.ref (43), .int (p1)] h (QI Q) Qn) (hW3 : ∀ (p1 : Int32) (h : Hp) (Q : Int32 → Hp → Prop), W 3 p1 h Q → Con X yX1_condition M_X1_condition_o (10 + d) (300 + 60 * d) 0 [.ref (43), .int (p1)] h (QI Q) Qn)  (hw : w_X1_condition_o_b7 W p1 Q s) : G X M_X1_condition_o (Er (d + 1)) (QM X (Er (d + 1)) (QI Q) Qn) 0 7 [(0, .ref (43)), (1, .int (p1)), (2, .int (s.1)), (3, .int (s.2.1)), (4, .int (s.2.2.1))] [] (s.2.2.2) :=
  wl_ind (B := fun K s => w_X1_condition_o_l7 W p1 Q K (s.1) (s.2.1) (s.2.2.1) (s.2.2.2)) (P := fun s => G X M_X1_condition_o (Er (d + 1)) (QM X (Er (d + 1)) (QI Q) Qn) 0 7 [(0, .ref (43)), (1, .int (p1)), (2, .int (s.1)), (3, .int (s.2.1)), (4, .int (s.2.2.1))] [] (s.2.2.2)) (fun K hK s hw => t_X1_condition_o_l7 W p1 Q K (s.1) (s.2.1) (s.2.2.1) (s.2.2.2) d hW0 hW1 hW2 hW3  hK hw) s hw
theorem t_X1_condition_o {X : Cx} (W : Nat → Int32 → Hp → (Int32 → Hp → Prop) → Prop) (p1 : Int32) (h : Hp) (Q : Int32 → Hp → Prop) (d : Nat) (hW0 : ∀ (p1 : Int32) (h : Hp) (Q : Int32 → Hp → Prop), W 0 p1 h Q → Con X yX1_unit M_X1_unit_o (10 + d) (300 + 60 * d) 0 [.ref (43), .int (p1)] h (QI Q) Qn) (hW1 : ∀ (p1 : Int32) (h : Hp) (Q : Int32 → Hp → Prop), W 1 p1 h Q → Con X yX1_number M_X1_number_o (10 + d) (300 + 60 * d) 0 [.ref (43), .int (p1)] h (QI Q) Qn) (hW2 : ∀ (p1 : Int32) (h : Hp) (Q : Int32 → Hp → Prop), W 2 p1 h Q → Con X yX1_clause M_X1_clause_o (10 + d) (300 + 60 * d) 0 [.ref (43), .int (p1)] h (QI Q) Qn) (hW3 : ∀ (p1 : Int32) (h : Hp) (Q : Int32 → Hp → Prop), W 3 p1 h Q → Con X yX1_condition M_X1_condition_o (10 + d) (300 + 60 * d) 0 [.ref (43), .int (p1)] h (QI Q) Qn)  (hw : w_X1_condition_o W p1 h Q) : G X M_X1_condition_o (Er (d + 1)) (QM X (Er (d + 1)) (QI Q) Qn) 0 0 [(0, .ref (43)), (1, .int (p1))] [] h := by
  unfold w_X1_condition_o at hw
  refine g_iconst (dk D_X1_condition_o 0 rfl) ki_0 ?_
  refine g_istore_n (dk D_X1_condition_o 1 rfl) rfl (by decide) rfl ?_
  refine g_iconst (dk D_X1_condition_o 2 rfl) ki_0 ?_
  refine g_istore_n (dk D_X1_condition_o 3 rfl) rfl (by decide) rfl ?_
  refine g_iconst (dk D_X1_condition_o 4 rfl) ki_0 ?_
  refine g_istore (dk D_X1_condition_o 5 rfl) (by decide) rfl ?_
  refine g_sub [3, 4, 2, 1, 0] rfl ?_
  exact t_X1_condition_o_b7 W p1 Q ((0 : Int32), (0 : Int32), (0 : Int32), h) d hW0 hW1 hW2 hW3  hw
theorem c_X1_condition_o {X : Cx} (W : Nat → Int32 → Hp → (Int32 → Hp → Prop) → Prop) (p1 : Int32) (d : Nat) (hW0 : ∀ (p1 : Int32) (h : Hp) (Q : Int32 → Hp → Prop), W 0 p1 h Q → Con X yX1_unit M_X1_unit_o (10 + d) (300 + 60 * d) 0 [.ref (43), .int (p1)] h (QI Q) Qn) (hW1 : ∀ (p1 : Int32) (h : Hp) (Q : Int32 → Hp → Prop), W 1 p1 h Q → Con X yX1_number M_X1_number_o (10 + d) (300 + 60 * d) 0 [.ref (43), .int (p1)] h (QI Q) Qn) (hW2 : ∀ (p1 : Int32) (h : Hp) (Q : Int32 → Hp → Prop), W 2 p1 h Q → Con X yX1_clause M_X1_clause_o (10 + d) (300 + 60 * d) 0 [.ref (43), .int (p1)] h (QI Q) Qn) (hW3 : ∀ (p1 : Int32) (h : Hp) (Q : Int32 → Hp → Prop), W 3 p1 h Q → Con X yX1_condition M_X1_condition_o (10 + d) (300 + 60 * d) 0 [.ref (43), .int (p1)] h (QI Q) Qn)  (h : Hp) (Q : Int32 → Hp → Prop) (hw : w_X1_condition_o W p1 h Q) : Con X yX1_condition M_X1_condition_o (10 + (d + 1)) (300 + 60 * (d + 1)) 0 [.ref (43), .int (p1)] h (QI Q) Qn :=
  con_of (by decide +kernel) rfl (Nat.le_of_ble_eq_true rfl) (t_X1_condition_o W p1 h Q d hW0 hW1 hW2 hW3  hw)
def wR_X1 : Nat → Nat → Int32 → Hp → (Int32 → Hp → Prop) → Prop
  | 0, _, _, _, _ => False
  | d + 1, 0, p, h, Q => w_X1_unit_o (wR_X1 d) p h Q
  | d + 1, 1, p, h, Q => w_X1_number_o (wR_X1 d) p h Q
  | d + 1, 2, p, h, Q => w_X1_clause_o (wR_X1 d) p h Q
  | d + 1, _, p, h, Q => w_X1_condition_o (wR_X1 d) p h Q
theorem cR_X1 {X : Cx} : ∀ d : Nat, (∀ (p1 : Int32) (h : Hp) (Q : Int32 → Hp → Prop), wR_X1 d 0 p1 h Q → Con X yX1_unit M_X1_unit_o (10 + d) (300 + 60 * d) 0 [.ref (43), .int (p1)] h (QI Q) Qn) ∧ (∀ (p1 : Int32) (h : Hp) (Q : Int32 → Hp → Prop), wR_X1 d 1 p1 h Q → Con X yX1_number M_X1_number_o (10 + d) (300 + 60 * d) 0 [.ref (43), .int (p1)] h (QI Q) Qn) ∧ (∀ (p1 : Int32) (h : Hp) (Q : Int32 → Hp → Prop), wR_X1 d 2 p1 h Q → Con X yX1_clause M_X1_clause_o (10 + d) (300 + 60 * d) 0 [.ref (43), .int (p1)] h (QI Q) Qn) ∧ (∀ (p1 : Int32) (h : Hp) (Q : Int32 → Hp → Prop), wR_X1 d 3 p1 h Q → Con X yX1_condition M_X1_condition_o (10 + d) (300 + 60 * d) 0 [.ref (43), .int (p1)] h (QI Q) Qn) := by
  intro d
  induction d with
  | zero => exact ⟨fun p1 h Q hw => hw.elim, fun p1 h Q hw => hw.elim, fun p1 h Q hw => hw.elim, fun p1 h Q hw => hw.elim⟩
  | succ d ih =>
    obtain ⟨h0, h1, h2, h3⟩ := ih
    exact ⟨fun p1 h Q hw => c_X1_unit_o (wR_X1 d) p1 d h0 h1 h2 h3 h Q hw, fun p1 h Q hw => c_X1_number_o (wR_X1 d) p1 d h0 h1 h2 h3 h Q hw, fun p1 h Q hw => c_X1_clause_o (wR_X1 d) p1 d h0 h1 h2 h3 h Q hw, fun p1 h Q hw => c_X1_condition_o (wR_X1 d) p1 d h0 h1 h2 h3 h Q hw⟩
abbrev M_X1_unit : Mi := M_X1_unit_o
theorem okD_X1_unit : okD yX1_unit 1 := okD_X1_unit_o
def w_X1_unit (p1 : Int32) (h : Hp) (Q : Int32 → Hp → Prop) : Prop := wR_X1 60 0 p1 h Q
theorem c_X1_unit {X : Cx} (p1 : Int32) (h : Hp) (Q : Int32 → Hp → Prop) (hw : w_X1_unit p1 h Q) : Con X yX1_unit M_X1_unit 70 3900 0 [.ref (43), .int (p1)] h (QI Q) Qn := (cR_X1 60).1 p1 h Q hw
abbrev M_X1_number : Mi := M_X1_number_o
theorem okD_X1_number : okD yX1_number 1 := okD_X1_number_o
def w_X1_number (p1 : Int32) (h : Hp) (Q : Int32 → Hp → Prop) : Prop := wR_X1 60 1 p1 h Q
theorem c_X1_number {X : Cx} (p1 : Int32) (h : Hp) (Q : Int32 → Hp → Prop) (hw : w_X1_number p1 h Q) : Con X yX1_number M_X1_number 70 3900 0 [.ref (43), .int (p1)] h (QI Q) Qn := (cR_X1 60).2.1 p1 h Q hw
abbrev M_X1_clause : Mi := M_X1_clause_o
theorem okD_X1_clause : okD yX1_clause 1 := okD_X1_clause_o
def w_X1_clause (p1 : Int32) (h : Hp) (Q : Int32 → Hp → Prop) : Prop := wR_X1 60 2 p1 h Q
theorem c_X1_clause {X : Cx} (p1 : Int32) (h : Hp) (Q : Int32 → Hp → Prop) (hw : w_X1_clause p1 h Q) : Con X yX1_clause M_X1_clause 70 3900 0 [.ref (43), .int (p1)] h (QI Q) Qn := (cR_X1 60).2.2.1 p1 h Q hw
abbrev M_X1_condition : Mi := M_X1_condition_o
theorem okD_X1_condition : okD yX1_condition 1 := okD_X1_condition_o
def w_X1_condition (p1 : Int32) (h : Hp) (Q : Int32 → Hp → Prop) : Prop := wR_X1 60 3 p1 h Q
theorem c_X1_condition {X : Cx} (p1 : Int32) (h : Hp) (Q : Int32 → Hp → Prop) (hw : w_X1_condition p1 h Q) : Con X yX1_condition M_X1_condition 70 3900 0 [.ref (43), .int (p1)] h (QI Q) Qn := (cR_X1 60).2.2.2 p1 h Q hw
/-! ShadowTolls$LawReader.rows()Z -/
abbrev M_X1_rows : Mi := (RX1, cX1_rows, 4, (some .boolean))
abbrev E_X1_rows : Rm := (71, 3932, 0, 0)
def rows_X1_rows : List (Nat × Instr × Nat) := [(0, .aload_n 0, 1), (1, .getfield 15, 3), (4, .invokevirtual 19, 3), (7, .iconst 0, 1), (8, .istore_n 1, 1), (9, .iload_n 1, 1), (10, .bipush 10, 2), (12, .if_icmp .gt 131, 3), (15, .aload_n 0, 1), (16, .getfield 9, 3), (19, .invokevirtual 24, 3), (22, .ifCond .eq 121, 3), (25, .aload_n 0, 1), (26, .getfield 9, 3), (29, .invokevirtual 30, 3), (32, .istore_n 2, 1), (33, .aload_n 0, 1), (34, .getfield 9, 3), (37, .ldc 34, 2), (39, .invokevirtual 36, 3), (42, .ifCond .ne 13, 3), (45, .aload_n 0, 1), (46, .getfield 9, 3), (49, .iconst 1, 1), (50, .iload_n 2, 1), (51, .invokevirtual 40, 3), (54, .ireturn, 1), (55, .iload_n 1, 1), (56, .bipush 10, 2), (58, .if_icmp .lt 13, 3), (61, .aload_n 0, 1), (62, .getfield 9, 3), (65, .iconst 3, 1), (66, .iload_n 2, 1), (67, .invokevirtual 40, 3), (70, .ireturn, 1), (71, .aload_n 0, 1), (72, .iconst 0, 1), (73, .invokevirtual 44, 3), (76, .ifCond .ne 5, 3), (79, .iconst 0, 1), (80, .ireturn, 1), (81, .aload_n 0, 1), (82, .getfield 9, 3), (85, .ldc 48, 2), (87, .invokevirtual 36, 3), (90, .istore_n 3, 1), (91, .iload_n 3, 1), (92, .ifCond .eq 13, 3), (95, .aload_n 0, 1), (96, .iconst 0, 1), (97, .invokevirtual 50, 3), (100, .ifCond .ne 5, 3), (103, .iconst 0, 1), (104, .ireturn, 1), (105, .aload_n 0, 1), (106, .getfield 15, 3), (109, .iload_n 3, 1), (110, .ifCond .eq 8, 3), (113, .bipush (-18), 2), (115, .goto 5, 3), (118, .bipush (-17), 2), (120, .invokevirtual 53, 3), (123, .aload_n 0, 1), (124, .getfield 9, 3), (127, .bipush 59, 2), (129, .invokevirtual 57, 3), (132, .ifCond .ne 5, 3), (135, .iconst 0, 1), (136, .ireturn, 1), (137, .iinc 1 1, 3), (140, .goto (-131), 3), (143, .iconst 1, 1), (144, .ireturn, 1)]
theorem D_X1_rows : dkA cX1_rows rows_X1_rows := by
  unfold dkA
  decide +kernel
theorem okD_X1_rows : okD yX1_rows 0 := by
  unfold okD
  decide +kernel
def w_X1_rows_b105 (v1 : Int32) (v3 : Int32) (K9 : Int32 × Hp → Prop) (h : Hp) (Q : Int32 → Hp → Prop) : Prop :=
  w_X0_add 30 ((if v3 = 0 then (-17 : Int32) else (-18 : Int32))) h (fun h2 => w_X7_must ((59 : Int32)) h2 (fun z3 h4 => wif (¬ z3 = 0) (K9 ((v1 + (1 : Int32)), h4)) (Q ((0 : Int32) &&& 1) h4)))
def w_X1_rows_l9 (Q : Int32 → Hp → Prop) (K9 : Int32 × Hp → Prop) (v1 : Int32) (h : Hp) : Prop :=
  wif ((10 : Int32) < v1) (Q ((1 : Int32) &&& 1) h) (w_X7_more  h (fun z1 h2 => wif (z1 = 0) (Q ((1 : Int32) &&& 1) h2) (w_X7_start  h2 (fun z3 h4 => w_X7_word 13 h4 (fun z5 h6 => wif (¬ z5 = 0) (wif (v1 < (10 : Int32)) (w_X1_number ((0 : Int32)) h6 (fun z7 h8 => wif (¬ z7 = 0) (w_X7_word 20 h8 (fun z9 h10 => wif (z9 = 0) (w_X1_rows_b105 (v1) (z9) K9 (h10) Q) (w_X1_condition ((0 : Int32)) h10 (fun z11 h12 => wif (¬ z11 = 0) (w_X1_rows_b105 (v1) (z9) K9 (h12) Q) (Q ((0 : Int32) &&& 1) h12))))) (Q ((0 : Int32) &&& 1) h8))) (w_X7_fail ((3 : Int32)) (z3) h6 (fun z13 h14 => Q (z13 &&& 1) h14))) (w_X7_fail ((1 : Int32)) (z3) h6 (fun z15 h16 => Q (z15 &&& 1) h16)))))))
def w_X1_rows_b9 (Q : Int32 → Hp → Prop) (s : Int32 × Hp) : Prop := wl (fun K s => w_X1_rows_l9 Q K s.1 s.2) s
def w_X1_rows (h : Hp) (Q : Int32 → Hp → Prop) : Prop :=
  w_X0_empty 30 h (fun h1 => w_X1_rows_b9 Q ((0 : Int32), h1))
theorem t_X1_rows_b105 {X : Cx} (v1 : Int32) (v3 : Int32) (K9 : Int32 × Hp → Prop) (h : Hp) (Q : Int32 → Hp → Prop) (hK9 : ∀ s : Int32 × Hp, K9 s → G X M_X1_rows E_X1_rows (QM X E_X1_rows (QI Q) Qn) 0 9 [(0, .ref (43)), (1, .int (s.1))] [] (s.2)) (hw : w_X1_rows_b105 v1 v3 K9 h Q) : G X M_X1_rows E_X1_rows (QM X E_X1_rows (QI Q) Qn) 0 105 [(0, .ref (43)), (1, .int (v1)), (3, .int (v3))] [] h := by
  unfold w_X1_rows_b105 at hw
  refine g_aload_n 0 (dk D_X1_rows 55 rfl) rfl rfl ?_
  refine g_getR 1 (t := 30) (dk D_X1_rows 56 rfl) kd_43 rfl rfl (by decide) w_286 rfl rfl rfl ?_
  refine g_iload_n 2 (dk D_X1_rows 57 rfl) rfl rfl ?_
  have hj : G X M_X1_rows E_X1_rows (QM X E_X1_rows (QI Q) Qn) 0 120 [(0, .ref (43)), (1, .int (v1)), (3, .int (v3))] [.int ((if v3 = 0 then (-17 : Int32) else (-18 : Int32))), .ref (30)] (h) := by
    refine g_callV (As := [.int ((if v3 = 0 then (-17 : Int32) else (-18 : Int32)))]) (kc := 0) (fr := 1) (lo := 30) (mc := 0) (My := M_X0_add) (dk D_X1_rows 62 rfl) lawP_30.1 rfl rfl w_974 w_975 w_976 w_104 w_977 okD_X0_add (by decide) (Nat.le_of_ble_eq_true rfl) rfl (c_X0_add 30 ((if v3 = 0 then (-17 : Int32) else (-18 : Int32))) (lawP_30) (h) _ hw) kxN (kV (fun h2 hw => ?_))
    refine g_aload_n 0 (dk D_X1_rows 63 rfl) rfl rfl ?_
    refine g_getR 0 (t := 1) (dk D_X1_rows 64 rfl) kd_43 rfl rfl (by decide) w_285 rfl rfl rfl ?_
    refine g_bipush (dk D_X1_rows 65 rfl) kb_59 ?_
    refine g_callV (As := [.int ((59 : Int32))]) (kc := 0) (fr := 2) (lo := 59) (mc := 0) (My := M_X7_must) (dk D_X1_rows 66 rfl) kd_1 rfl rfl w_966 w_920 w_921 w_102 w_922 okD_X7_must (by decide) (Nat.le_of_ble_eq_true rfl) rfl (c_X7_must ((59 : Int32)) (h2) _ hw) kxN (kI (fun z3 h4 hw => ?_))
    refine g_if_ne (dk D_X1_rows 67 rfl) rfl (wif_m hw (fun hw => ?_) (fun hw => ?_))
    · refine g_iinc 1 (dk D_X1_rows 70 rfl) rfl (congrArg (fun z => _ + z) ki_1) (by decide) rfl ?_
      refine g_goto (dk D_X1_rows 71 rfl) rfl ?_
      refine g_sub [1, 0] rfl ?_
      exact hK9 ((v1 + (1 : Int32)), h4) hw
    · refine g_iconst (dk D_X1_rows 68 rfl) ki_0 ?_
      exact g_zret (dk D_X1_rows 69 rfl) rfl ⟨_, rfl, hw⟩
  refine g_if_eq (dk D_X1_rows 58 rfl) rfl ?_
  by_cases c1 : v3 = 0
  · rw [if_pos c1] at hj
    refine wif_p c1 ?_
    refine g_bipush (dk D_X1_rows 61 rfl) kb_m17 ?_
    exact hj
  · rw [if_neg c1] at hj
    refine wif_n c1 ?_
    refine g_bipush (dk D_X1_rows 59 rfl) kb_m18 ?_
    refine g_goto (dk D_X1_rows 60 rfl) rfl ?_
    exact hj
theorem t_X1_rows_l9 {X : Cx} (Q : Int32 → Hp → Prop) (K9 : Int32 × Hp → Prop) (v1 : Int32) (h : Hp) (hK9 : ∀ s : Int32 × Hp, K9 s → G X M_X1_rows E_X1_rows (QM X E_X1_rows (QI Q) Qn) 0 9 [(0, .ref (43)), (1, .int (s.1))] [] (s.2)) (hw : w_X1_rows_l9 Q K9 v1 h) : G X M_X1_rows E_X1_rows (QM X E_X1_rows (QI Q) Qn) 0 9 [(0, .ref (43)), (1, .int (v1))] [] h := by
  unfold w_X1_rows_l9 at hw
  refine g_iload_n 1 (dk D_X1_rows 5 rfl) rfl rfl ?_
  refine g_bipush (dk D_X1_rows 6 rfl) kb_10 ?_
  refine g_icmp_gt (dk D_X1_rows 7 rfl) rfl (wif_m hw (fun hw => ?_) (fun hw => ?_))
  · refine g_iconst (dk D_X1_rows 72 rfl) ki_1 ?_
    exact g_zret (dk D_X1_rows 73 rfl) rfl ⟨_, rfl, hw⟩
  · refine g_aload_n 0 (dk D_X1_rows 8 rfl) rfl rfl ?_
    refine g_getR 0 (t := 1) (dk D_X1_rows 9 rfl) kd_43 rfl rfl (by decide) w_285 rfl rfl rfl ?_
    refine g_callV (As := []) (kc := 0) (fr := 1) (lo := 28) (mc := 0) (My := M_X7_more) (dk D_X1_rows 10 rfl) kd_1 rfl rfl w_952 w_785 w_786 w_102 w_787 okD_X7_more (by decide) (Nat.le_of_ble_eq_true rfl) rfl (c_X7_more (h) _ hw) kxN (kI (fun z1 h2 hw => ?_))
    refine g_if_eq (dk D_X1_rows 11 rfl) rfl (wif_m hw (fun hw => ?_) (fun hw => ?_))
    · refine g_iconst (dk D_X1_rows 72 rfl) ki_1 ?_
      exact g_zret (dk D_X1_rows 73 rfl) rfl ⟨_, rfl, hw⟩
    · refine g_aload_n 0 (dk D_X1_rows 12 rfl) rfl rfl ?_
      refine g_getR 0 (t := 1) (dk D_X1_rows 13 rfl) kd_43 rfl rfl (by decide) w_285 rfl rfl rfl ?_
      refine g_callV (As := []) (kc := 0) (fr := 0) (lo := 0) (mc := 0) (My := M_X7_start) (dk D_X1_rows 14 rfl) kd_1 rfl rfl w_953 w_789 w_790 w_102 w_791 okD_X7_start (by decide) (Nat.le_of_ble_eq_true rfl) rfl (c_X7_start (h2) _ hw) kxN (kI (fun z3 h4 hw => ?_))
      refine g_istore_n (dk D_X1_rows 15 rfl) rfl (by decide) rfl ?_
      refine g_aload_n 1 (dk D_X1_rows 16 rfl) rfl rfl ?_
      refine g_getR 0 (t := 1) (dk D_X1_rows 17 rfl) kd_43 rfl rfl (by decide) w_285 rfl rfl rfl ?_
      refine g_ldcS 13 (dk D_X1_rows 18 rfl) rfl ?_
      refine g_callV (As := [.ref (SB + 2 * 13)]) (kc := 0) (fr := 6) (lo := 200) (mc := 0) (My := M_X7_word) (dk D_X1_rows 19 rfl) kd_1 rfl rfl w_955 w_803 w_804 w_102 w_805 okD_X7_word (by decide) (Nat.le_of_ble_eq_true rfl) rfl (c_X7_word 13 ((by decide)) (h4) _ hw) kxN (kI (fun z5 h6 hw => ?_))
      refine g_if_ne (dk D_X1_rows 20 rfl) rfl (wif_m hw (fun hw => ?_) (fun hw => ?_))
      · refine g_iload_n 2 (dk D_X1_rows 27 rfl) rfl rfl ?_
        refine g_bipush (dk D_X1_rows 28 rfl) kb_10 ?_
        refine g_icmp_lt (dk D_X1_rows 29 rfl) rfl (wif_m hw (fun hw => ?_) (fun hw => ?_))
        · refine g_aload_n 1 (dk D_X1_rows 36 rfl) rfl rfl ?_
          refine g_iconst (dk D_X1_rows 37 rfl) ki_0 ?_
          refine g_callV (As := [.int ((0 : Int32))]) (kc := 0) (fr := 70) (lo := 3900) (mc := 0) (My := M_X1_number) (dk D_X1_rows 38 rfl) kd_43 rfl rfl w_957 w_959 w_22 w_106 w_960 okD_X1_number (by decide) (Nat.le_of_ble_eq_true rfl) rfl (c_X1_number ((0 : Int32)) (h6) _ hw) kxN (kI (fun z7 h8 hw => ?_))
          refine g_if_ne (dk D_X1_rows 39 rfl) rfl (wif_m hw (fun hw => ?_) (fun hw => ?_))
          · refine g_aload_n 1 (dk D_X1_rows 42 rfl) rfl rfl ?_
            refine g_getR 0 (t := 1) (dk D_X1_rows 43 rfl) kd_43 rfl rfl (by decide) w_285 rfl rfl rfl ?_
            refine g_ldcS 20 (dk D_X1_rows 44 rfl) rfl ?_
            refine g_callV (As := [.ref (SB + 2 * 20)]) (kc := 0) (fr := 6) (lo := 200) (mc := 0) (My := M_X7_word) (dk D_X1_rows 45 rfl) kd_1 rfl rfl w_955 w_803 w_804 w_102 w_805 okD_X7_word (by decide) (Nat.le_of_ble_eq_true rfl) rfl (c_X7_word 20 ((by decide)) (h8) _ hw) kxN (kI (fun z9 h10 hw => ?_))
            refine g_istore_n (dk D_X1_rows 46 rfl) rfl (by decide) rfl ?_
            refine g_iload_n 0 (dk D_X1_rows 47 rfl) rfl rfl ?_
            refine g_if_eq (dk D_X1_rows 48 rfl) rfl (wif_m hw (fun hw => ?_) (fun hw => ?_))
            · refine g_sub [2, 3, 0] rfl ?_
              exact t_X1_rows_b105 (v1) (z9) K9 (h10) Q hK9 hw
            · refine g_aload_n 2 (dk D_X1_rows 49 rfl) rfl rfl ?_
              refine g_iconst (dk D_X1_rows 50 rfl) ki_0 ?_
              refine g_callV (As := [.int ((0 : Int32))]) (kc := 0) (fr := 70) (lo := 3900) (mc := 0) (My := M_X1_condition) (dk D_X1_rows 51 rfl) kd_43 rfl rfl w_979 w_981 w_24 w_106 w_982 okD_X1_condition (by decide) (Nat.le_of_ble_eq_true rfl) rfl (c_X1_condition ((0 : Int32)) (h10) _ hw) kxN (kI (fun z11 h12 hw => ?_))
              refine g_if_ne (dk D_X1_rows 52 rfl) rfl (wif_m hw (fun hw => ?_) (fun hw => ?_))
              · refine g_sub [2, 3, 0] rfl ?_
                exact t_X1_rows_b105 (v1) (z9) K9 (h12) Q hK9 hw
              · refine g_iconst (dk D_X1_rows 53 rfl) ki_0 ?_
                exact g_zret (dk D_X1_rows 54 rfl) rfl ⟨_, rfl, hw⟩
          · refine g_iconst (dk D_X1_rows 40 rfl) ki_0 ?_
            exact g_zret (dk D_X1_rows 41 rfl) rfl ⟨_, rfl, hw⟩
        · refine g_aload_n 1 (dk D_X1_rows 30 rfl) rfl rfl ?_
          refine g_getR 0 (t := 1) (dk D_X1_rows 31 rfl) kd_43 rfl rfl (by decide) w_285 rfl rfl rfl ?_
          refine g_iconst (dk D_X1_rows 32 rfl) ki_3 ?_
          refine g_iload_n 0 (dk D_X1_rows 33 rfl) rfl rfl ?_
          refine g_callV (As := [.int ((3 : Int32)), .int (z3)]) (kc := 0) (fr := 0) (lo := 0) (mc := 0) (My := M_X7_fail) (dk D_X1_rows 34 rfl) kd_1 rfl rfl w_956 w_870 w_871 w_102 w_872 okD_X7_fail (by decide) (Nat.le_of_ble_eq_true rfl) rfl (c_X7_fail ((3 : Int32)) (z3) (h6) _ hw) kxN (kI (fun z13 h14 hw => ?_))
          exact g_zret (dk D_X1_rows 35 rfl) rfl ⟨_, rfl, hw⟩
      · refine g_aload_n 1 (dk D_X1_rows 21 rfl) rfl rfl ?_
        refine g_getR 0 (t := 1) (dk D_X1_rows 22 rfl) kd_43 rfl rfl (by decide) w_285 rfl rfl rfl ?_
        refine g_iconst (dk D_X1_rows 23 rfl) ki_1 ?_
        refine g_iload_n 0 (dk D_X1_rows 24 rfl) rfl rfl ?_
        refine g_callV (As := [.int ((1 : Int32)), .int (z3)]) (kc := 0) (fr := 0) (lo := 0) (mc := 0) (My := M_X7_fail) (dk D_X1_rows 25 rfl) kd_1 rfl rfl w_956 w_870 w_871 w_102 w_872 okD_X7_fail (by decide) (Nat.le_of_ble_eq_true rfl) rfl (c_X7_fail ((1 : Int32)) (z3) (h6) _ hw) kxN (kI (fun z15 h16 hw => ?_))
        exact g_zret (dk D_X1_rows 26 rfl) rfl ⟨_, rfl, hw⟩
theorem t_X1_rows_b9 {X : Cx} (Q : Int32 → Hp → Prop) (s : Int32 × Hp) (hw : w_X1_rows_b9 Q s) : G X M_X1_rows E_X1_rows (QM X E_X1_rows (QI Q) Qn) 0 9 [(0, .ref (43)), (1, .int (s.1))] [] (s.2) :=
  wl_ind (B := fun K s => w_X1_rows_l9 Q K (s.1) (s.2)) (P := fun s => G X M_X1_rows E_X1_rows (QM X E_X1_rows (QI Q) Qn) 0 9 [(0, .ref (43)), (1, .int (s.1))] [] (s.2)) (fun K hK s hw => t_X1_rows_l9 Q K (s.1) (s.2) hK hw) s hw
theorem t_X1_rows {X : Cx} (h : Hp) (Q : Int32 → Hp → Prop) (hw : w_X1_rows h Q) : G X M_X1_rows E_X1_rows (QM X E_X1_rows (QI Q) Qn) 0 0 [(0, .ref (43))] [] h := by
  unfold w_X1_rows at hw
  refine g_aload_n 0 (dk D_X1_rows 0 rfl) rfl rfl ?_
  refine g_getR 1 (t := 30) (dk D_X1_rows 1 rfl) kd_43 rfl rfl (by decide) w_286 rfl rfl rfl ?_
  refine g_callV (As := []) (kc := 0) (fr := 0) (lo := 0) (mc := 0) (My := M_X0_empty) (dk D_X1_rows 2 rfl) lawP_30.1 rfl rfl w_948 w_949 w_950 w_104 w_951 okD_X0_empty (by decide) (Nat.le_of_ble_eq_true rfl) rfl (c_X0_empty 30 (lawP_30) (h) _ hw) kxN (kV (fun h1 hw => ?_))
  refine g_iconst (dk D_X1_rows 3 rfl) ki_0 ?_
  refine g_istore_n (dk D_X1_rows 4 rfl) rfl (by decide) rfl ?_
  refine g_sub [1, 0] rfl ?_
  exact t_X1_rows_b9 Q ((0 : Int32), h1) hw
theorem c_X1_rows {X : Cx} (h : Hp) (Q : Int32 → Hp → Prop) (hw : w_X1_rows h Q) : Con X yX1_rows M_X1_rows 71 3932 0 [.ref (43)] h (QI Q) Qn :=
  con_of (by decide +kernel) rfl (Nat.le_of_ble_eq_true rfl) (t_X1_rows h Q hw)
/-! ShadowTolls.toll(I)I -/
abbrev M_X8_toll : Mi := (RX8, cX8_toll, 3, (some .int))
abbrev E_X8_toll : Rm := (72, 3963, 1, 6)
def rows_X8_toll : List (Nat × Instr × Nat) := [(0, .iload_n 1, 1), (1, .iconst 0, 1), (2, .aload_n 0, 1), (3, .getfield 10, 3), (6, .getfield 102, 3), (9, .invokestatic 106, 3), (12, .aload_n 0, 1), (13, .getfield 10, 3), (16, .iload_n 1, 1), (17, .invokevirtual 110, 3), (20, .aload_n 0, 1), (21, .getfield 132, 3), (24, .ifCond .lt 15, 3), (27, .aload_n 0, 1), (28, .getfield 132, 3), (31, .aload_n 0, 1), (32, .getfield 28, 3), (35, .arraylength, 1), (36, .if_icmp .lt 5, 3), (39, .iconst (-1), 1), (40, .ireturn, 1), (41, .aload_n 0, 1), (42, .getfield 57, 3), (45, .invokevirtual 135, 3), (48, .ifCond .ne 14, 3), (51, .aload_n 0, 1), (52, .getfield 10, 3), (55, .getfield 117, 3), (58, .bipush 10, 2), (60, .isub, 1), (61, .ireturn, 1), (62, .aload_n 0, 1), (63, .getfield 28, 3), (66, .aload_n 0, 1), (67, .getfield 132, 3), (70, .aaload, 1), (71, .astore_n 2, 1), (72, .aload_n 2, 1), (73, .ifnull 11, 3), (76, .aload_n 2, 1), (77, .aload_n 0, 1), (78, .getfield 33, 3), (81, .invokevirtual 138, 3), (84, .aload_n 0, 1), (85, .dup, 1), (86, .getfield 132, 3), (89, .iconst 1, 1), (90, .iadd, 1), (91, .putfield 132, 3), (94, .aload_n 0, 1), (95, .getfield 132, 3), (98, .iconst 1, 1), (99, .isub, 1), (100, .ireturn, 1)]
theorem D_X8_toll : dkA cX8_toll rows_X8_toll := by
  unfold dkA
  decide +kernel
theorem okD_X8_toll : okD yX8_toll 1 := by
  unfold okD
  decide +kernel
def w_X8_toll_b84 (p1 : Int32) (h : Hp) (Q : Int32 → Hp → Prop) (Qx : String → Hp → Prop) : Prop :=
  wlet (hup h 0 14 ((h 0 14) + (1 : Int32))) (fun h1 => Q ((h1 0 14) - (1 : Int32)) h1)
def w_X8_toll (p1 : Int32) (h : Hp) (Q : Int32 → Hp → Prop) (Qx : String → Hp → Prop) : Prop :=
  w_X8_needBetween (p1) ((0 : Int32)) ((h 1 1)) h (w_X7_open (p1) h (fun h1 => wif ((h1 0 14) < 0) (Q (-1 : Int32) h1) (wif ((h1 0 14) < (4 : Int32)) (w_X1_rows  h1 (fun z2 h3 => wif (¬ z2 = 0) ((vp_in (h3 0 14) 4 ∧ w_X0_copy (14 + 4 * Int32.toNatClampNeg ((h3 0 14))) 30 h3 (fun h5 => w_X8_toll_b84 p1 (h5) Q Qx))) (Q ((h3 1 4) - (10 : Int32)) h3))) (Q (-1 : Int32) h1)))) Qx
theorem t_X8_toll_b84 {X : Cx} (p1 : Int32) (h : Hp) (Q : Int32 → Hp → Prop) (Qx : String → Hp → Prop) (hw : w_X8_toll_b84 p1 h Q Qx) : G X M_X8_toll E_X8_toll (QM X E_X8_toll (QI Q) Qx) 0 84 [(0, .ref (0))] [] h := by
  unfold w_X8_toll_b84 at hw
  refine g_aload_n 0 (dk D_X8_toll 43 rfl) rfl rfl ?_
  refine g_dup (dk D_X8_toll 44 rfl) rfl ?_
  refine g_getI 14 (dk D_X8_toll 45 rfl) kd_0 rfl rfl (by decide) w_448 rfl rfl ?_
  refine g_iconst (dk D_X8_toll 46 rfl) ki_1 ?_
  refine g_iadd (dk D_X8_toll 47 rfl) ?_
  refine g_put 14 (dk D_X8_toll 48 rfl) kd_0 rfl rfl (by decide) w_448 rfl tyX8_ok nmX8 rfl (by decide) rfl (fun z => absurd z (by decide)) ?_
  refine g_heap (fun h1 eh1 => ?_)
  replace hw := hw _ eh1
  refine g_aload_n 0 (dk D_X8_toll 49 rfl) rfl rfl ?_
  refine g_getI 14 (dk D_X8_toll 50 rfl) kd_0 rfl rfl (by decide) w_448 rfl rfl ?_
  refine g_iconst (dk D_X8_toll 51 rfl) ki_1 ?_
  refine g_isub (dk D_X8_toll 52 rfl) ?_
  exact g_iret (dk D_X8_toll 53 rfl) rfl ⟨_, rfl, hw⟩
theorem t_X8_toll {X : Cx} (p1 : Int32) (h : Hp) (Q : Int32 → Hp → Prop) (Qx : String → Hp → Prop) (hw : w_X8_toll p1 h Q Qx) : G X M_X8_toll E_X8_toll (QM X E_X8_toll (QI Q) Qx) 1 0 [(0, .ref (0)), (1, .int (p1))] [] h := by
  unfold w_X8_toll at hw
  refine g_iload_n 1 (dk D_X8_toll 0 rfl) rfl rfl ?_
  refine g_iconst (dk D_X8_toll 1 rfl) ki_0 ?_
  refine g_aload_n 0 (dk D_X8_toll 2 rfl) rfl rfl ?_
  refine g_getR 0 (t := 1) (dk D_X8_toll 3 rfl) kd_0 rfl rfl (by decide) w_434 rfl rfl rfl ?_
  refine g_getNI 1 (dk D_X8_toll 4 rfl) kd_1 rfl rfl (by decide) w_140 rfl rfl ?_
  refine g_callS (As := [.int (p1), .int ((0 : Int32)), .int ((h 1 1))]) (kc := 0) (fr := 6) (lo := 82) (mc := 1) (My := M_X8_needBetween) (dk D_X8_toll 5 rfl) w_703 w_704 w_101 w_705 okD_X8_needBetween (by decide) (Nat.le_of_ble_eq_true rfl) rfl (c_X8_needBetween (p1) ((0 : Int32)) ((h 1 1)) (h) _ _ hw) kxT (kVp (fun hw => ?_))
  refine g_aload_n 0 (dk D_X8_toll 6 rfl) rfl rfl ?_
  refine g_getR 0 (t := 1) (dk D_X8_toll 7 rfl) kd_0 rfl rfl (by decide) w_434 rfl rfl rfl ?_
  refine g_iload_n 1 (dk D_X8_toll 8 rfl) rfl rfl ?_
  refine g_callV (As := [.int (p1)]) (kc := 0) (fr := 0) (lo := 0) (mc := 0) (My := M_X7_open) (dk D_X8_toll 9 rfl) kd_1 rfl rfl w_775 w_776 w_777 w_102 w_778 okD_X7_open (by decide) (Nat.le_of_ble_eq_true rfl) rfl (c_X7_open (p1) (h) _ hw) kxN (kV (fun h1 hw => ?_))
  refine g_aload_n 0 (dk D_X8_toll 10 rfl) rfl rfl ?_
  refine g_getI 14 (dk D_X8_toll 11 rfl) kd_0 rfl rfl (by decide) w_448 rfl rfl ?_
  refine g_if_lt (dk D_X8_toll 12 rfl) rfl (wif_m hw (fun hw => ?_) (fun hw => ?_))
  · refine g_iconst (dk D_X8_toll 19 rfl) ki_m1 ?_
    exact g_iret (dk D_X8_toll 20 rfl) rfl ⟨_, rfl, hw⟩
  · refine g_aload_n 0 (dk D_X8_toll 13 rfl) rfl rfl ?_
    refine g_getI 14 (dk D_X8_toll 14 rfl) kd_0 rfl rfl (by decide) w_448 rfl rfl ?_
    refine g_aload_n 0 (dk D_X8_toll 15 rfl) rfl rfl ?_
    refine g_getR 3 (t := 13) (dk D_X8_toll 16 rfl) kd_0 rfl rfl (by decide) w_437 rfl rfl rfl ?_
    refine g_alenR (dk D_X8_toll 17 rfl) kd_13 rfl ka_4 ?_
    refine g_icmp_lt (dk D_X8_toll 18 rfl) rfl (wif_m hw (fun hw => ?_) (fun hw => ?_))
    · refine g_aload_n 0 (dk D_X8_toll 21 rfl) rfl rfl ?_
      refine g_getR 8 (t := 43) (dk D_X8_toll 22 rfl) kd_0 rfl rfl (by decide) w_442 rfl rfl rfl ?_
      refine g_callV (As := []) (kc := 0) (fr := 71) (lo := 3932) (mc := 0) (My := M_X1_rows) (dk D_X8_toll 23 rfl) kd_43 rfl rfl w_944 w_945 w_946 w_106 w_947 okD_X1_rows (by decide) (Nat.le_of_ble_eq_true rfl) rfl (c_X1_rows (h1) _ hw) kxN (kI (fun z2 h3 hw => ?_))
      refine g_if_ne (dk D_X8_toll 24 rfl) rfl (wif_m hw (fun hw => ?_) (fun hw => ?_))
      · refine g_aload_n 0 (dk D_X8_toll 31 rfl) rfl rfl ?_
        refine g_getR 3 (t := 13) (dk D_X8_toll 32 rfl) kd_0 rfl rfl (by decide) w_437 rfl rfl rfl ?_
        refine g_aload_n 0 (dk D_X8_toll 33 rfl) rfl rfl ?_
        refine g_getI 14 (dk D_X8_toll 34 rfl) kd_0 rfl rfl (by decide) w_448 rfl rfl ?_
        obtain ⟨hi4, hw⟩ := hw
        refine g_aald (dk D_X8_toll 35 rfl) kd_13 rfl rfl hi4 ?_
        refine g_astore_n (dk D_X8_toll 36 rfl) rfl (by decide) rfl ?_
        refine g_aload_n 0 (dk D_X8_toll 37 rfl) rfl rfl ?_
        refine g_ifnull (dk D_X8_toll 38 rfl) ?_
        refine g_aload_n 0 (dk D_X8_toll 39 rfl) rfl rfl ?_
        refine g_aload_n 1 (dk D_X8_toll 40 rfl) rfl rfl ?_
        refine g_getR 4 (t := 30) (dk D_X8_toll 41 rfl) kd_0 rfl rfl (by decide) w_438 rfl rfl rfl ?_
        refine g_callV (As := [.ref (30)]) (kc := 0) (fr := 1) (lo := 30) (mc := 0) (My := M_X0_copy) (dk D_X8_toll 42 rfl) (lawP_i hi4).1 rfl rfl w_990 w_991 w_992 w_104 w_993 okD_X0_copy (by decide) (Nat.le_of_ble_eq_true rfl) rfl (c_X0_copy (14 + 4 * Int32.toNatClampNeg ((h3 0 14))) 30 ((lawP_i hi4)) (lawP_30) (h3) _ hw) kxN (kV (fun h5 hw => ?_))
        refine g_sub [1] rfl ?_
        exact t_X8_toll_b84 p1 (h5) Q Qx hw
      · refine g_aload_n 0 (dk D_X8_toll 25 rfl) rfl rfl ?_
        refine g_getR 0 (t := 1) (dk D_X8_toll 26 rfl) kd_0 rfl rfl (by decide) w_434 rfl rfl rfl ?_
        refine g_getNI 4 (dk D_X8_toll 27 rfl) kd_1 rfl rfl (by decide) w_143 rfl rfl ?_
        refine g_bipush (dk D_X8_toll 28 rfl) kb_10 ?_
        refine g_isub (dk D_X8_toll 29 rfl) ?_
        exact g_iret (dk D_X8_toll 30 rfl) rfl ⟨_, rfl, hw⟩
    · refine g_iconst (dk D_X8_toll 19 rfl) ki_m1 ?_
      exact g_iret (dk D_X8_toll 20 rfl) rfl ⟨_, rfl, hw⟩
theorem c_X8_toll {X : Cx} (p1 : Int32) (h : Hp) (Q : Int32 → Hp → Prop) (Qx : String → Hp → Prop) (hw : w_X8_toll p1 h Q Qx) : Con X yX8_toll M_X8_toll 72 3963 1 [.ref (0), .int (p1)] h (QI Q) Qx :=
  con_of (by decide +kernel) rfl (Nat.le_of_ble_eq_true rfl) (t_X8_toll p1 h Q Qx hw)
