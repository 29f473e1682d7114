/-! ShadowTollsModel.findPlan(IIZ)V -/
abbrev M_X9_findPlan : Mi := (RX9, cX9_findPlan, 9, none)
abbrev E_X9_findPlan : Rm := (6, 207, 0, 0)
def rows_X9_findPlan : List (Nat × Instr × Nat) := [(0, .aload_n 0, 1), (1, .iload_n 2, 1), (2, .iload_n 3, 1), (3, .invokevirtual 362, 3), (6, .aload_n 0, 1), (7, .iload_n 1, 1), (8, .invokevirtual 366, 3), (11, .iconst 0, 1), (12, .istore 4, 2), (14, .bipush 8, 2), (16, .istore 5, 2), (18, .aload_n 0, 1), (19, .aload_n 0, 1), (20, .getfield 92, 3), (23, .iconst 0, 1), (24, .aaload, 1), (25, .bipush 8, 2), (27, .iaload, 1), (28, .ldc_w 345, 3), (31, .idiv, 1), (32, .putfield 369, 3), (35, .aload_n 0, 1), (36, .aload_n 0, 1), (37, .getfield 92, 3), (40, .iconst 0, 1), (41, .aaload, 1), (42, .bipush 8, 2), (44, .iaload, 1), (45, .ldc_w 345, 3), (48, .irem, 1), (49, .putfield 372, 3), (52, .aload_n 0, 1), (53, .iconst 0, 1), (54, .putfield 375, 3), (57, .aload_n 0, 1), (58, .getfield 98, 3), (61, .iconst 0, 1), (62, .iconst 0, 1), (63, .iastore, 1), (64, .aload_n 0, 1), (65, .getfield 98, 3), (68, .iconst 1, 1), (69, .iconst 0, 1), (70, .iastore, 1), (71, .iconst 0, 1), (72, .istore 6, 2), (74, .iload 6, 2), (76, .aload_n 0, 1), (77, .getfield 336, 3), (80, .if_icmp .ge 278, 3), (83, .aload_n 0, 1), (84, .iload 6, 2), (86, .iload 5, 2), (88, .invokevirtual 349, 3), (91, .istore 5, 2), (93, .aload_n 0, 1), (94, .getfield 95, 3), (97, .iload 6, 2), (99, .iconst (-1), 1), (100, .iastore, 1), (101, .iconst 0, 1), (102, .istore 7, 2), (104, .iload 7, 2), (106, .aload_n 0, 1), (107, .getfield 20, 3), (110, .iconst 0, 1), (111, .iaload, 1), (112, .if_icmp .ge 105, 3), (115, .aload_n 0, 1), (116, .getfield 95, 3), (119, .iload 6, 2), (121, .iaload, 1), (122, .iconst (-1), 1), (123, .if_icmp .ne 94, 3), (126, .aload_n 0, 1), (127, .iload 6, 2), (129, .iload_n 1, 1), (130, .iload 4, 2), (132, .iload 7, 2), (134, .invokevirtual 355, 3), (137, .ifCond .eq 74, 3), (140, .aload_n 0, 1), (141, .getfield 81, 3), (144, .iload 6, 2), (146, .aaload, 1), (147, .iload 7, 2), (149, .aaload, 1), (150, .aload_n 0, 1), (151, .iload 7, 2), (153, .iload 5, 2), (155, .invokevirtual 359, 3), (158, .iaload, 1), (159, .aload_n 0, 1), (160, .getfield 92, 3), (163, .iload 6, 2), (165, .iconst 1, 1), (166, .iadd, 1), (167, .aaload, 1), (168, .bipush 9, 2), (170, .iload 4, 2), (172, .iconst 1, 1), (173, .iload 7, 2), (175, .ishl, 1), (176, .ior, 1), (177, .imul, 1), (178, .iload 7, 2), (180, .iadd, 1), (181, .iaload, 1), (182, .iadd, 1), (183, .aload_n 0, 1), (184, .getfield 92, 3), (187, .iload 6, 2), (189, .aaload, 1), (190, .bipush 9, 2), (192, .iload 4, 2), (194, .imul, 1), (195, .iload 5, 2), (197, .iadd, 1), (198, .iaload, 1), (199, .if_icmp .ne 12, 3), (202, .aload_n 0, 1), (203, .getfield 95, 3), (206, .iload 6, 2), (208, .iload 7, 2), (210, .iastore, 1), (211, .iinc 7 1, 3), (214, .goto (-110), 3), (217, .aload_n 0, 1), (218, .getfield 95, 3), (221, .iload 6, 2), (223, .iaload, 1), (224, .iconst (-1), 1), (225, .if_icmp .eq 102, 3), (228, .aload_n 0, 1), (229, .getfield 95, 3), (232, .iload 6, 2), (234, .iaload, 1), (235, .istore 7, 2), (237, .aload_n 0, 1), (238, .iload 6, 2), (240, .invokevirtual 339, 3), (243, .aload_n 0, 1), (244, .getfield 40, 3), (247, .iload 7, 2), (249, .aaload, 1), (250, .iconst 2, 1), (251, .iaload, 1), (252, .isub, 1), (253, .istore 8, 2), (255, .aload_n 0, 1), (256, .getfield 98, 3), (259, .iload 6, 2), (261, .aload_n 0, 1), (262, .getfield 333, 3), (265, .if_icmp .ge 7, 3), (268, .iconst 0, 1), (269, .goto 4, 3), (272, .iconst 1, 1), (273, .dup2, 1), (274, .iaload, 1), (275, .aload_n 0, 1), (276, .getfield 84, 3), (279, .iload 6, 2), (281, .aaload, 1), (282, .iload 7, 2), (284, .aaload, 1), (285, .aload_n 0, 1), (286, .iload 7, 2), (288, .iload 5, 2), (290, .invokevirtual 359, 3), (293, .iaload, 1), (294, .iadd, 1), (295, .iastore, 1), (296, .aload_n 0, 1), (297, .iload 8, 2), (299, .aload_n 0, 1), (300, .getfield 375, 3), (303, .if_icmp .le 8, 3), (306, .iload 8, 2), (308, .goto 7, 3), (311, .aload_n 0, 1), (312, .getfield 375, 3), (315, .putfield 375, 3), (318, .iload 4, 2), (320, .iconst 1, 1), (321, .iload 7, 2), (323, .ishl, 1), (324, .ior, 1), (325, .istore 4, 2), (327, .aload_n 0, 1), (328, .getfield 95, 3), (331, .iload 6, 2), (333, .iaload, 1), (334, .iconst (-1), 1), (335, .if_icmp .ne 8, 3), (338, .bipush 8, 2), (340, .goto 10, 3), (343, .aload_n 0, 1), (344, .getfield 95, 3), (347, .iload 6, 2), (349, .iaload, 1), (350, .istore 5, 2), (352, .iinc 6 1, 3), (355, .goto (-281), 3), (358, .return_, 1)]
theorem D_X9_findPlan : dkA cX9_findPlan rows_X9_findPlan := by
  unfold dkA
  decide +kernel
theorem okD_X9_findPlan : okD yX9_findPlan 3 := by
  unfold okD
  decide +kernel
def w_X9_findPlan_b350 (p1 : Int32) (p2 : Int32) (p3 : Int32) (v4 : Int32) (v6 : Int32) (s0 : Int32) (K74 : Int32 × Int32 × Int32 × Hp → Prop) (h : Hp) (Q : Hp → Prop) : Prop :=
  K74 (v4, s0, (v6 + (1 : Int32)), h)
def w_X9_findPlan_b327 (p1 : Int32) (p2 : Int32) (p3 : Int32) (v4 : Int32) (v6 : Int32) (K74 : Int32 × Int32 × Int32 × Hp → Prop) (h : Hp) (Q : Hp → Prop) : Prop :=
  (vp_in v6 60 ∧ wif (¬ (h 1424 (Int32.toNatClampNeg v6)) = (-1 : Int32)) ((vp_in v6 60 ∧ w_X9_findPlan_b350 p1 p2 p3 (v4) (v6) ((h 1424 (Int32.toNatClampNeg v6))) K74 (h) Q)) (w_X9_findPlan_b350 p1 p2 p3 (v4) (v6) ((8 : Int32)) K74 (h) Q))
def w_X9_findPlan_b217 (p1 : Int32) (p2 : Int32) (p3 : Int32) (v4 : Int32) (v5 : Int32) (v6 : Int32) (K74 : Int32 × Int32 × Int32 × Hp → Prop) (h : Hp) (Q : Hp → Prop) : Prop :=
  (vp_in v6 60 ∧ wif ((h 1424 (Int32.toNatClampNeg v6)) = (-1 : Int32)) (w_X9_findPlan_b327 p1 p2 p3 (v4) (v6) K74 (h) Q) ((vp_in v6 60 ∧ wlet ((h 1424 (Int32.toNatClampNeg v6))) (fun v7_3 => w_X9_minuteOf (v6) h (fun z4 => (vp_in v7_3 8 ∧ (vp_in (2 : Int32) 7 ∧ wlet ((z4 - (h (110 + 1 * Int32.toNatClampNeg (v7_3)) (Int32.toNatClampNeg (2 : Int32))))) (fun v8_7 => (vp_in (if (h 92 42) ≤ v6 then (1 : Int32) else (0 : Int32)) 2 ∧ (vp_in v6 60 ∧ (vp_in v7_3 8 ∧ w_X9_isDark (v7_3) (v5) h (fun z12 => (vp_in z12 2 ∧ (vp_in (if (h 92 42) ≤ v6 then (1 : Int32) else (0 : Int32)) 2 ∧ wlet (hup h 1425 (Int32.toNatClampNeg (if (h 92 42) ≤ v6 then (1 : Int32) else (0 : Int32))) ((h 1425 (Int32.toNatClampNeg (if (h 92 42) ≤ v6 then (1 : Int32) else (0 : Int32)))) + (h (((761 + 9 * Int32.toNatClampNeg (v6)) + 1) + 1 * Int32.toNatClampNeg (v7_3)) (Int32.toNatClampNeg z12)))) (fun h15 => wlet (hup h15 92 46 (if v8_7 ≤ (h15 92 46) then (h15 92 46) else v8_7)) (fun h17 => wlet ((v4 ||| ((1 : Int32) <<< (v7_3 &&& 31)))) (fun v4_18 => w_X9_findPlan_b327 p1 p2 p3 (v4_18) (v6) K74 (h17) Q)))))))))))))))))
def w_X9_findPlan_b211 (p1 : Int32) (p2 : Int32) (p3 : Int32) (v4 : Int32) (v5 : Int32) (v6 : Int32) (v7 : Int32) (K74 : Int32 × Int32 × Int32 × Hp → Prop) (K104 : Int32 × Hp → Prop) (h : Hp) (Q : Hp → Prop) : Prop :=
  K104 ((v7 + (1 : Int32)), h)
def w_X9_findPlan_l104 (p1 : Int32) (p2 : Int32) (p3 : Int32) (v4 : Int32) (v5 : Int32) (v6 : Int32) (K74 : Int32 × Int32 × Int32 × Hp → Prop) (Q : Hp → Prop) (K104 : Int32 × Hp → Prop) (v7 : Int32) (h : Hp) : Prop :=
  (vp_in (0 : Int32) 11 ∧ wif ((h 95 (Int32.toNatClampNeg (0 : Int32))) ≤ v7) (w_X9_findPlan_b217 p1 p2 p3 (v4) (v5) (v6) K74 (h) Q) ((vp_in v6 60 ∧ wif (¬ (h 1424 (Int32.toNatClampNeg v6)) = (-1 : Int32)) (w_X9_findPlan_b217 p1 p2 p3 (v4) (v5) (v6) K74 (h) Q) (w_X9_canHave (v6) (p1) (v4) (v7) h (fun z3 => wif (z3 = 0) (w_X9_findPlan_b211 p1 p2 p3 (v4) (v5) (v6) (v7) K74 K104 (h) Q) ((vp_in v6 60 ∧ (vp_in v7 8 ∧ w_X9_isDark (v7) (v5) h (fun z6 => (vp_in z6 2 ∧ (vp_in (v6 + (1 : Int32)) 61 ∧ (vp_in (((9 : Int32) * (v4 ||| ((1 : Int32) <<< (v7 &&& 31)))) + v7) 2304 ∧ (vp_in v6 61 ∧ (vp_in (((9 : Int32) * v4) + v5) 2304 ∧ wif (¬ ((h (((220 + 9 * Int32.toNatClampNeg (v6)) + 1) + 1 * Int32.toNatClampNeg (v7)) (Int32.toNatClampNeg z6)) + (h (1363 + 1 * Int32.toNatClampNeg ((v6 + (1 : Int32)))) (Int32.toNatClampNeg (((9 : Int32) * (v4 ||| ((1 : Int32) <<< (v7 &&& 31)))) + v7)))) = (h (1363 + 1 * Int32.toNatClampNeg (v6)) (Int32.toNatClampNeg (((9 : Int32) * v4) + v5)))) (w_X9_findPlan_b211 p1 p2 p3 (v4) (v5) (v6) (v7) K74 K104 (h) Q) ((vp_in v6 60 ∧ wlet (hup h 1424 (Int32.toNatClampNeg v6) v7) (fun h13 => w_X9_findPlan_b211 p1 p2 p3 (v4) (v5) (v6) (v7) K74 K104 (h13) Q)))))))))))))))))
def w_X9_findPlan_b104 (p1 : Int32) (p2 : Int32) (p3 : Int32) (v4 : Int32) (v5 : Int32) (v6 : Int32) (K74 : Int32 × Int32 × Int32 × Hp → Prop) (Q : Hp → Prop) (s : Int32 × Hp) : Prop := wl (fun K s => w_X9_findPlan_l104 p1 p2 p3 v4 v5 v6 K74 Q K s.1 s.2) s
def w_X9_findPlan_l74 (p1 : Int32) (p2 : Int32) (p3 : Int32) (Q : Hp → Prop) (K74 : Int32 × Int32 × Int32 × Hp → Prop) (v4 : Int32) (v5 : Int32) (v6 : Int32) (h : Hp) : Prop :=
  wif ((h 92 43) ≤ v6) (Q h) (w_X9_lastAt (v6) (v5) h (fun z1 => (vp_in v6 60 ∧ wlet (hup h 1424 (Int32.toNatClampNeg v6) (-1 : Int32)) (fun h3 => w_X9_findPlan_b104 p1 p2 p3 (v4) (z1) (v6) K74 Q ((0 : Int32), h3)))))
def w_X9_findPlan_b74 (p1 : Int32) (p2 : Int32) (p3 : Int32) (Q : Hp → Prop) (s : Int32 × Int32 × Int32 × Hp) : Prop := wl (fun K s => w_X9_findPlan_l74 p1 p2 p3 Q K s.1 s.2.1 s.2.2.1 s.2.2.2) s
def w_X9_findPlan (p1 : Int32) (p2 : Int32) (p3 : Int32) (h : Hp) (Q : Hp → Prop) : Prop :=
  w_X9_layCoins (p2) (p3) h (fun h1 => w_X9_layLeast (p1) h1 (fun h2 => (vp_in (0 : Int32) 61 ∧ (vp_in (8 : Int32) 2304 ∧ wlet (hup h2 92 44 ((h2 (1363 + 1 * Int32.toNatClampNeg ((0 : Int32))) (Int32.toNatClampNeg (8 : Int32))) / (1000000 : Int32))) (fun h5 => (vp_in (0 : Int32) 61 ∧ (vp_in (8 : Int32) 2304 ∧ wlet (hup h5 92 45 ((h5 (1363 + 1 * Int32.toNatClampNeg ((0 : Int32))) (Int32.toNatClampNeg (8 : Int32))) - (h5 (1363 + 1 * Int32.toNatClampNeg ((0 : Int32))) (Int32.toNatClampNeg (8 : Int32))) / (1000000 : Int32) * (1000000 : Int32))) (fun h8 => wlet (hup h8 92 46 (0 : Int32)) (fun h9 => (vp_in (0 : Int32) 2 ∧ wlet (hup h9 1425 (Int32.toNatClampNeg (0 : Int32)) (0 : Int32)) (fun h11 => (vp_in (1 : Int32) 2 ∧ wlet (hup h11 1425 (Int32.toNatClampNeg (1 : Int32)) (0 : Int32)) (fun h13 => w_X9_findPlan_b74 p1 p2 p3 Q ((0 : Int32), (8 : Int32), (0 : Int32), h13))))))))))))))
theorem t_X9_findPlan_b350 {X : Cx} (p1 : Int32) (p2 : Int32) (p3 : Int32) (v4 : Int32) (v6 : Int32) (s0 : Int32) (K74 : Int32 × Int32 × Int32 × Hp → Prop) (h : Hp) (Q : Hp → Prop) (hK74 : ∀ s : Int32 × Int32 × Int32 × Hp, K74 s → G X M_X9_findPlan E_X9_findPlan (QM X E_X9_findPlan (QV Q) Qn) 0 74 [(0, .ref (92)), (1, .int (p1)), (4, .int (s.1)), (5, .int (s.2.1)), (6, .int (s.2.2.1))] [] (s.2.2.2)) (hw : w_X9_findPlan_b350 p1 p2 p3 v4 v6 s0 K74 h Q) : G X M_X9_findPlan E_X9_findPlan (QM X E_X9_findPlan (QV Q) Qn) 0 350 [(0, .ref (92)), (1, .int (p1)), (4, .int (v4)), (6, .int (v6))] [.int (s0)] h := by
  unfold w_X9_findPlan_b350 at hw
  refine g_istore (dk D_X9_findPlan 201 rfl) (by decide) rfl ?_
  refine g_iinc 4 (dk D_X9_findPlan 202 rfl) rfl (congrArg (fun z => _ + z) ki_1) (by decide) rfl ?_
  refine g_goto (dk D_X9_findPlan 203 rfl) rfl ?_
  refine g_sub [2, 3, 4, 1, 0] rfl ?_
  exact hK74 (v4, s0, (v6 + (1 : Int32)), h) hw
theorem t_X9_findPlan_b327 {X : Cx} (p1 : Int32) (p2 : Int32) (p3 : Int32) (v4 : Int32) (v6 : Int32) (K74 : Int32 × Int32 × Int32 × Hp → Prop) (h : Hp) (Q : Hp → Prop) (hK74 : ∀ s : Int32 × Int32 × Int32 × Hp, K74 s → G X M_X9_findPlan E_X9_findPlan (QM X E_X9_findPlan (QV Q) Qn) 0 74 [(0, .ref (92)), (1, .int (p1)), (4, .int (s.1)), (5, .int (s.2.1)), (6, .int (s.2.2.1))] [] (s.2.2.2)) (hw : w_X9_findPlan_b327 p1 p2 p3 v4 v6 K74 h Q) : G X M_X9_findPlan E_X9_findPlan (QM X E_X9_findPlan (QV Q) Qn) 0 327 [(0, .ref (92)), (1, .int (p1)), (4, .int (v4)), (6, .int (v6))] [] h := by
  unfold w_X9_findPlan_b327 at hw
  refine g_aload_n 0 (dk D_X9_findPlan 189 rfl) rfl rfl ?_
  refine g_getR 41 (t := 1424) (dk D_X9_findPlan 190 rfl) kd_92 rfl rfl (by decide) w_1398 rfl rfl rfl ?_
  refine g_iload 3 (dk D_X9_findPlan 191 rfl) rfl ?_
  obtain ⟨hi1, hw⟩ := hw
  refine g_iald (dk D_X9_findPlan 192 rfl) kd_1424 hi1 ?_
  refine g_iconst (dk D_X9_findPlan 193 rfl) ki_m1 ?_
  refine g_icmp_ne (dk D_X9_findPlan 194 rfl) rfl (wif_m hw (fun hw => ?_) (fun hw => ?_))
  · refine g_aload_n 0 (dk D_X9_findPlan 197 rfl) rfl rfl ?_
    refine g_getR 41 (t := 1424) (dk D_X9_findPlan 198 rfl) kd_92 rfl rfl (by decide) w_1398 rfl rfl rfl ?_
    refine g_iload 3 (dk D_X9_findPlan 199 rfl) rfl ?_
    obtain ⟨hi2, hw⟩ := hw
    refine g_iald (dk D_X9_findPlan 200 rfl) kd_1424 hi2 ?_
    exact t_X9_findPlan_b350 p1 p2 p3 (v4) (v6) ((h 1424 (Int32.toNatClampNeg v6))) K74 (h) Q hK74 hw
  · refine g_bipush (dk D_X9_findPlan 195 rfl) kb_8 ?_
    refine g_goto (dk D_X9_findPlan 196 rfl) rfl ?_
    exact t_X9_findPlan_b350 p1 p2 p3 (v4) (v6) ((8 : Int32)) K74 (h) Q hK74 hw
theorem t_X9_findPlan_b217 {X : Cx} (p1 : Int32) (p2 : Int32) (p3 : Int32) (v4 : Int32) (v5 : Int32) (v6 : Int32) (K74 : Int32 × Int32 × Int32 × Hp → Prop) (h : Hp) (Q : Hp → Prop) (hK74 : ∀ s : Int32 × Int32 × Int32 × Hp, K74 s → G X M_X9_findPlan E_X9_findPlan (QM X E_X9_findPlan (QV Q) Qn) 0 74 [(0, .ref (92)), (1, .int (p1)), (4, .int (s.1)), (5, .int (s.2.1)), (6, .int (s.2.2.1))] [] (s.2.2.2)) (hw : w_X9_findPlan_b217 p1 p2 p3 v4 v5 v6 K74 h Q) : G X M_X9_findPlan E_X9_findPlan (QM X E_X9_findPlan (QV Q) Qn) 0 217 [(0, .ref (92)), (1, .int (p1)), (4, .int (v4)), (5, .int (v5)), (6, .int (v6))] [] h := by
  unfold w_X9_findPlan_b217 at hw
  refine g_aload_n 0 (dk D_X9_findPlan 127 rfl) rfl rfl ?_
  refine g_getR 41 (t := 1424) (dk D_X9_findPlan 128 rfl) kd_92 rfl rfl (by decide) w_1398 rfl rfl rfl ?_
  refine g_iload 4 (dk D_X9_findPlan 129 rfl) rfl ?_
  obtain ⟨hi1, hw⟩ := hw
  refine g_iald (dk D_X9_findPlan 130 rfl) kd_1424 hi1 ?_
  refine g_iconst (dk D_X9_findPlan 131 rfl) ki_m1 ?_
  refine g_icmp_eq (dk D_X9_findPlan 132 rfl) rfl (wif_m hw (fun hw => ?_) (fun hw => ?_))
  · refine g_sub [0, 1, 2, 4] rfl ?_
    exact t_X9_findPlan_b327 p1 p2 p3 (v4) (v6) K74 (h) Q hK74 hw
  · refine g_aload_n 0 (dk D_X9_findPlan 133 rfl) rfl rfl ?_
    refine g_getR 41 (t := 1424) (dk D_X9_findPlan 134 rfl) kd_92 rfl rfl (by decide) w_1398 rfl rfl rfl ?_
    refine g_iload 4 (dk D_X9_findPlan 135 rfl) rfl ?_
    obtain ⟨hi2, hw⟩ := hw
    refine g_iald (dk D_X9_findPlan 136 rfl) kd_1424 hi2 ?_
    refine g_topi (fun v7_3 ev7_3 => ?_)
    replace hw := hw _ ev7_3
    refine g_istore (dk D_X9_findPlan 137 rfl) (by decide) rfl ?_
    refine g_aload_n 1 (dk D_X9_findPlan 138 rfl) rfl rfl ?_
    refine g_iload 5 (dk D_X9_findPlan 139 rfl) rfl ?_
    refine g_callV (As := [.int (v6)]) (kc := 0) (fr := 0) (lo := 0) (mc := 0) (My := M_X9_minuteOf) (dk D_X9_findPlan 140 rfl) kd_92 rfl rfl w_1781 w_1783 w_84 w_110 w_1784 okD_X9_minuteOf (by decide) (Nat.le_of_ble_eq_true rfl) rfl (c_X9_minuteOf (v6) (h) _ hw) kxN (kIp (fun z4 hw => ?_))
    refine g_aload_n 1 (dk D_X9_findPlan 141 rfl) rfl rfl ?_
    refine g_getR 17 (t := 109) (dk D_X9_findPlan 142 rfl) kd_92 rfl rfl (by decide) w_1374 rfl rfl rfl ?_
    refine g_iload 0 (dk D_X9_findPlan 143 rfl) rfl ?_
    obtain ⟨hi5, hw⟩ := hw
    refine g_aald (dk D_X9_findPlan 144 rfl) kd_109 rfl rfl hi5 ?_
    refine g_iconst (dk D_X9_findPlan 145 rfl) ki_2 ?_
    obtain ⟨hi6, hw⟩ := hw
    refine g_iald (dk D_X9_findPlan 146 rfl) (kdf_109 _ (in_lt hi5)) hi6 ?_
    refine g_isub (dk D_X9_findPlan 147 rfl) ?_
    refine g_topi (fun v8_7 ev8_7 => ?_)
    replace hw := hw _ ev8_7
    refine g_istore (dk D_X9_findPlan 148 rfl) (by decide) rfl ?_
    refine g_aload_n 2 (dk D_X9_findPlan 149 rfl) rfl rfl ?_
    refine g_getR 47 (t := 1425) (dk D_X9_findPlan 150 rfl) kd_92 rfl rfl (by decide) w_1404 rfl rfl rfl ?_
    refine g_iload 6 (dk D_X9_findPlan 151 rfl) rfl ?_
    refine g_aload_n 2 (dk D_X9_findPlan 152 rfl) rfl rfl ?_
    refine g_getI 42 (dk D_X9_findPlan 153 rfl) kd_92 rfl rfl (by decide) w_1399 rfl rfl ?_
    have hj : G X M_X9_findPlan E_X9_findPlan (QM X E_X9_findPlan (QV Q) Qn) 0 273 [(8, .int (v8_7)), (7, .int (v7_3)), (0, .ref (92)), (1, .int (p1)), (4, .int (v4)), (5, .int (v5)), (6, .int (v6))] [.int ((if (h 92 42) ≤ v6 then (1 : Int32) else (0 : Int32))), .ref (1425)] (h) := by
      refine g_dup2 (dk D_X9_findPlan 158 rfl) rfl rfl ?_
      obtain ⟨hi9, hw⟩ := hw
      refine g_iald (dk D_X9_findPlan 159 rfl) kd_1425 hi9 ?_
      refine g_aload_n 2 (dk D_X9_findPlan 160 rfl) rfl rfl ?_
      refine g_getR 38 (t := 760) (dk D_X9_findPlan 161 rfl) kd_92 rfl rfl (by decide) w_1395 rfl rfl rfl ?_
      refine g_iload 6 (dk D_X9_findPlan 162 rfl) rfl ?_
      obtain ⟨hi10, hw⟩ := hw
      refine g_aald (dk D_X9_findPlan 163 rfl) kd_760 rfl rfl hi10 ?_
      refine g_iload 1 (dk D_X9_findPlan 164 rfl) rfl ?_
      obtain ⟨hi11, hw⟩ := hw
      refine g_aald (dk D_X9_findPlan 165 rfl) (kdf_760 _ (in_lt hi10)) rfl rfl hi11 ?_
      refine g_aload_n 2 (dk D_X9_findPlan 166 rfl) rfl rfl ?_
      refine g_iload 1 (dk D_X9_findPlan 167 rfl) rfl ?_
      refine g_iload 5 (dk D_X9_findPlan 168 rfl) rfl ?_
      refine g_callV (As := [.int (v7_3), .int (v5)]) (kc := 0) (fr := 1) (lo := 29) (mc := 0) (My := M_X9_isDark) (dk D_X9_findPlan 169 rfl) kd_92 rfl rfl w_1805 w_1807 w_89 w_110 w_1808 okD_X9_isDark (by decide) (Nat.le_of_ble_eq_true rfl) rfl (c_X9_isDark (v7_3) (v5) (h) _ hw) kxN (kIp (fun z12 hw => ?_))
      obtain ⟨hi13, hw⟩ := hw
      refine g_iald (dk D_X9_findPlan 170 rfl) (kdg_760 _ (in_lt hi10) _ (in_lt hi11)) hi13 ?_
      refine g_iadd (dk D_X9_findPlan 171 rfl) ?_
      obtain ⟨hi14, hw⟩ := hw
      refine g_iast (dk D_X9_findPlan 172 rfl) kd_1425 hi14 ?_
      refine g_heap (fun h15 eh15 => ?_)
      replace hw := hw _ eh15
      refine g_aload_n 2 (dk D_X9_findPlan 173 rfl) rfl rfl ?_
      refine g_iload 0 (dk D_X9_findPlan 174 rfl) rfl ?_
      refine g_aload_n 2 (dk D_X9_findPlan 175 rfl) rfl rfl ?_
      refine g_getI 46 (dk D_X9_findPlan 176 rfl) kd_92 rfl rfl (by decide) w_1403 rfl rfl ?_
      have hj : G X M_X9_findPlan E_X9_findPlan (QM X E_X9_findPlan (QV Q) Qn) 0 315 [(8, .int (v8_7)), (7, .int (v7_3)), (0, .ref (92)), (1, .int (p1)), (4, .int (v4)), (5, .int (v5)), (6, .int (v6))] [.int ((if v8_7 ≤ (h15 92 46) then (h15 92 46) else v8_7)), .ref (92)] (h15) := by
        refine g_put 46 (dk D_X9_findPlan 182 rfl) kd_92 rfl rfl (by decide) w_1403 rfl tyX9_ok nmX9 rfl (by decide) rfl (fun z => absurd z (by decide)) ?_
        refine g_heap (fun h17 eh17 => ?_)
        replace hw := hw _ eh17
        refine g_iload 4 (dk D_X9_findPlan 183 rfl) rfl ?_
        refine g_iconst (dk D_X9_findPlan 184 rfl) ki_1 ?_
        refine g_iload 1 (dk D_X9_findPlan 185 rfl) rfl ?_
        refine g_ishl (dk D_X9_findPlan 186 rfl) ?_
        refine g_ior (dk D_X9_findPlan 187 rfl) ?_
        refine g_topi (fun v4_18 ev4_18 => ?_)
        replace hw := hw _ ev4_18
        refine g_istore (dk D_X9_findPlan 188 rfl) (by decide) rfl ?_
        refine g_sub [3, 4, 0, 6] rfl ?_
        exact t_X9_findPlan_b327 p1 p2 p3 (v4_18) (v6) K74 (h17) Q hK74 hw
      refine g_icmp_le (dk D_X9_findPlan 177 rfl) rfl ?_
      by_cases c16 : v8_7 ≤ (h15 92 46)
      · rw [if_pos c16] at hj
        refine wif_p c16 ?_
        refine g_aload_n 2 (dk D_X9_findPlan 180 rfl) rfl rfl ?_
        refine g_getI 46 (dk D_X9_findPlan 181 rfl) kd_92 rfl rfl (by decide) w_1403 rfl rfl ?_
        exact hj
      · rw [if_neg c16] at hj
        refine wif_n c16 ?_
        refine g_iload 0 (dk D_X9_findPlan 178 rfl) rfl ?_
        refine g_goto (dk D_X9_findPlan 179 rfl) rfl ?_
        exact hj
    refine g_icmp_ge (dk D_X9_findPlan 154 rfl) rfl ?_
    by_cases c8 : (h 92 42) ≤ v6
    · rw [if_pos c8] at hj
      refine wif_p c8 ?_
      refine g_iconst (dk D_X9_findPlan 157 rfl) ki_1 ?_
      exact hj
    · rw [if_neg c8] at hj
      refine wif_n c8 ?_
      refine g_iconst (dk D_X9_findPlan 155 rfl) ki_0 ?_
      refine g_goto (dk D_X9_findPlan 156 rfl) rfl ?_
      exact hj
theorem t_X9_findPlan_b211 {X : Cx} (p1 : Int32) (p2 : Int32) (p3 : Int32) (v4 : Int32) (v5 : Int32) (v6 : Int32) (v7 : Int32) (K74 : Int32 × Int32 × Int32 × Hp → Prop) (K104 : Int32 × Hp → Prop) (h : Hp) (Q : Hp → Prop) (hK74 : ∀ s : Int32 × Int32 × Int32 × Hp, K74 s → G X M_X9_findPlan E_X9_findPlan (QM X E_X9_findPlan (QV Q) Qn) 0 74 [(0, .ref (92)), (1, .int (p1)), (4, .int (s.1)), (5, .int (s.2.1)), (6, .int (s.2.2.1))] [] (s.2.2.2)) (hK104 : ∀ s : Int32 × Hp, K104 s → G X M_X9_findPlan E_X9_findPlan (QM X E_X9_findPlan (QV Q) Qn) 0 104 [(0, .ref (92)), (1, .int (p1)), (4, .int (v4)), (5, .int (v5)), (6, .int (v6)), (7, .int (s.1))] [] (s.2)) (hw : w_X9_findPlan_b211 p1 p2 p3 v4 v5 v6 v7 K74 K104 h Q) : G X M_X9_findPlan E_X9_findPlan (QM X E_X9_findPlan (QV Q) Qn) 0 211 [(0, .ref (92)), (1, .int (p1)), (4, .int (v4)), (5, .int (v5)), (6, .int (v6)), (7, .int (v7))] [] h := by
  unfold w_X9_findPlan_b211 at hw
  refine g_iinc 5 (dk D_X9_findPlan 125 rfl) rfl (congrArg (fun z => _ + z) ki_1) (by decide) rfl ?_
  refine g_goto (dk D_X9_findPlan 126 rfl) rfl ?_
  refine g_sub [1, 2, 3, 4, 5, 0] rfl ?_
  exact hK104 ((v7 + (1 : Int32)), h) hw
theorem t_X9_findPlan_l104 {X : Cx} (p1 : Int32) (p2 : Int32) (p3 : Int32) (v4 : Int32) (v5 : Int32) (v6 : Int32) (K74 : Int32 × Int32 × Int32 × Hp → Prop) (Q : Hp → Prop) (K104 : Int32 × Hp → Prop) (v7 : Int32) (h : Hp) (hK74 : ∀ s : Int32 × Int32 × Int32 × Hp, K74 s → G X M_X9_findPlan E_X9_findPlan (QM X E_X9_findPlan (QV Q) Qn) 0 74 [(0, .ref (92)), (1, .int (p1)), (4, .int (s.1)), (5, .int (s.2.1)), (6, .int (s.2.2.1))] [] (s.2.2.2)) (hK104 : ∀ s : Int32 × Hp, K104 s → G X M_X9_findPlan E_X9_findPlan (QM X E_X9_findPlan (QV Q) Qn) 0 104 [(0, .ref (92)), (1, .int (p1)), (4, .int (v4)), (5, .int (v5)), (6, .int (v6)), (7, .int (s.1))] [] (s.2)) (hw : w_X9_findPlan_l104 p1 p2 p3 v4 v5 v6 K74 Q K104 v7 h) : G X M_X9_findPlan E_X9_findPlan (QM X E_X9_findPlan (QV Q) Qn) 0 104 [(0, .ref (92)), (1, .int (p1)), (4, .int (v4)), (5, .int (v5)), (6, .int (v6)), (7, .int (v7))] [] h := by
  unfold w_X9_findPlan_l104 at hw
  refine g_iload 5 (dk D_X9_findPlan 62 rfl) rfl ?_
  refine g_aload_n 0 (dk D_X9_findPlan 63 rfl) rfl rfl ?_
  refine g_getR 11 (t := 95) (dk D_X9_findPlan 64 rfl) kd_92 rfl rfl (by decide) w_1368 rfl rfl rfl ?_
  refine g_iconst (dk D_X9_findPlan 65 rfl) ki_0 ?_
  obtain ⟨hi1, hw⟩ := hw
  refine g_iald (dk D_X9_findPlan 66 rfl) kd_95 hi1 ?_
  refine g_icmp_ge (dk D_X9_findPlan 67 rfl) rfl (wif_m hw (fun hw => ?_) (fun hw => ?_))
  · refine g_sub [0, 1, 2, 3, 4] rfl ?_
    exact t_X9_findPlan_b217 p1 p2 p3 (v4) (v5) (v6) K74 (h) Q hK74 hw
  · refine g_aload_n 0 (dk D_X9_findPlan 68 rfl) rfl rfl ?_
    refine g_getR 41 (t := 1424) (dk D_X9_findPlan 69 rfl) kd_92 rfl rfl (by decide) w_1398 rfl rfl rfl ?_
    refine g_iload 4 (dk D_X9_findPlan 70 rfl) rfl ?_
    obtain ⟨hi2, hw⟩ := hw
    refine g_iald (dk D_X9_findPlan 71 rfl) kd_1424 hi2 ?_
    refine g_iconst (dk D_X9_findPlan 72 rfl) ki_m1 ?_
    refine g_icmp_ne (dk D_X9_findPlan 73 rfl) rfl (wif_m hw (fun hw => ?_) (fun hw => ?_))
    · refine g_sub [0, 1, 2, 3, 4] rfl ?_
      exact t_X9_findPlan_b217 p1 p2 p3 (v4) (v5) (v6) K74 (h) Q hK74 hw
    · refine g_aload_n 0 (dk D_X9_findPlan 74 rfl) rfl rfl ?_
      refine g_iload 4 (dk D_X9_findPlan 75 rfl) rfl ?_
      refine g_iload_n 1 (dk D_X9_findPlan 76 rfl) rfl rfl ?_
      refine g_iload 2 (dk D_X9_findPlan 77 rfl) rfl ?_
      refine g_iload 5 (dk D_X9_findPlan 78 rfl) rfl ?_
      refine g_callV (As := [.int (v6), .int (p1), .int (v4), .int (v7)]) (kc := 0) (fr := 0) (lo := 0) (mc := 0) (My := M_X9_canHave) (dk D_X9_findPlan 79 rfl) kd_92 rfl rfl w_1801 w_1803 w_88 w_110 w_1804 okD_X9_canHave (by decide) (Nat.le_of_ble_eq_true rfl) rfl (c_X9_canHave (v6) (p1) (v4) (v7) (h) _ hw) kxN (kIp (fun z3 hw => ?_))
      refine g_if_eq (dk D_X9_findPlan 80 rfl) rfl (wif_m hw (fun hw => ?_) (fun hw => ?_))
      · exact t_X9_findPlan_b211 p1 p2 p3 (v4) (v5) (v6) (v7) K74 K104 (h) Q hK74 hK104 hw
      · refine g_aload_n 0 (dk D_X9_findPlan 81 rfl) rfl rfl ?_
        refine g_getR 37 (t := 219) (dk D_X9_findPlan 82 rfl) kd_92 rfl rfl (by decide) w_1394 rfl rfl rfl ?_
        refine g_iload 4 (dk D_X9_findPlan 83 rfl) rfl ?_
        obtain ⟨hi4, hw⟩ := hw
        refine g_aald (dk D_X9_findPlan 84 rfl) kd_219 rfl rfl hi4 ?_
        refine g_iload 5 (dk D_X9_findPlan 85 rfl) rfl ?_
        obtain ⟨hi5, hw⟩ := hw
        refine g_aald (dk D_X9_findPlan 86 rfl) (kdf_219 _ (in_lt hi4)) rfl rfl hi5 ?_
        refine g_aload_n 0 (dk D_X9_findPlan 87 rfl) rfl rfl ?_
        refine g_iload 5 (dk D_X9_findPlan 88 rfl) rfl ?_
        refine g_iload 3 (dk D_X9_findPlan 89 rfl) rfl ?_
        refine g_callV (As := [.int (v7), .int (v5)]) (kc := 0) (fr := 1) (lo := 29) (mc := 0) (My := M_X9_isDark) (dk D_X9_findPlan 90 rfl) kd_92 rfl rfl w_1805 w_1807 w_89 w_110 w_1808 okD_X9_isDark (by decide) (Nat.le_of_ble_eq_true rfl) rfl (c_X9_isDark (v7) (v5) (h) _ hw) kxN (kIp (fun z6 hw => ?_))
        obtain ⟨hi7, hw⟩ := hw
        refine g_iald (dk D_X9_findPlan 91 rfl) (kdg_219 _ (in_lt hi4) _ (in_lt hi5)) hi7 ?_
        refine g_aload_n 0 (dk D_X9_findPlan 92 rfl) rfl rfl ?_
        refine g_getR 40 (t := 1362) (dk D_X9_findPlan 93 rfl) kd_92 rfl rfl (by decide) w_1397 rfl rfl rfl ?_
        refine g_iload 4 (dk D_X9_findPlan 94 rfl) rfl ?_
        refine g_iconst (dk D_X9_findPlan 95 rfl) ki_1 ?_
        refine g_iadd (dk D_X9_findPlan 96 rfl) ?_
        obtain ⟨hi8, hw⟩ := hw
        refine g_aald (dk D_X9_findPlan 97 rfl) kd_1362 rfl rfl hi8 ?_
        refine g_bipush (dk D_X9_findPlan 98 rfl) kb_9 ?_
        refine g_iload 2 (dk D_X9_findPlan 99 rfl) rfl ?_
        refine g_iconst (dk D_X9_findPlan 100 rfl) ki_1 ?_
        refine g_iload 5 (dk D_X9_findPlan 101 rfl) rfl ?_
        refine g_ishl (dk D_X9_findPlan 102 rfl) ?_
        refine g_ior (dk D_X9_findPlan 103 rfl) ?_
        refine g_imul (dk D_X9_findPlan 104 rfl) ?_
        refine g_iload 5 (dk D_X9_findPlan 105 rfl) rfl ?_
        refine g_iadd (dk D_X9_findPlan 106 rfl) ?_
        obtain ⟨hi9, hw⟩ := hw
        refine g_iald (dk D_X9_findPlan 107 rfl) (kdf_1362 _ (in_lt hi8)) hi9 ?_
        refine g_iadd (dk D_X9_findPlan 108 rfl) ?_
        refine g_aload_n 0 (dk D_X9_findPlan 109 rfl) rfl rfl ?_
        refine g_getR 40 (t := 1362) (dk D_X9_findPlan 110 rfl) kd_92 rfl rfl (by decide) w_1397 rfl rfl rfl ?_
        refine g_iload 4 (dk D_X9_findPlan 111 rfl) rfl ?_
        obtain ⟨hi10, hw⟩ := hw
        refine g_aald (dk D_X9_findPlan 112 rfl) kd_1362 rfl rfl hi10 ?_
        refine g_bipush (dk D_X9_findPlan 113 rfl) kb_9 ?_
        refine g_iload 2 (dk D_X9_findPlan 114 rfl) rfl ?_
        refine g_imul (dk D_X9_findPlan 115 rfl) ?_
        refine g_iload 3 (dk D_X9_findPlan 116 rfl) rfl ?_
        refine g_iadd (dk D_X9_findPlan 117 rfl) ?_
        obtain ⟨hi11, hw⟩ := hw
        refine g_iald (dk D_X9_findPlan 118 rfl) (kdf_1362 _ (in_lt hi10)) hi11 ?_
        refine g_icmp_ne (dk D_X9_findPlan 119 rfl) rfl (wif_m hw (fun hw => ?_) (fun hw => ?_))
        · exact t_X9_findPlan_b211 p1 p2 p3 (v4) (v5) (v6) (v7) K74 K104 (h) Q hK74 hK104 hw
        · refine g_aload_n 0 (dk D_X9_findPlan 120 rfl) rfl rfl ?_
          refine g_getR 41 (t := 1424) (dk D_X9_findPlan 121 rfl) kd_92 rfl rfl (by decide) w_1398 rfl rfl rfl ?_
          refine g_iload 4 (dk D_X9_findPlan 122 rfl) rfl ?_
          refine g_iload 5 (dk D_X9_findPlan 123 rfl) rfl ?_
          obtain ⟨hi12, hw⟩ := hw
          refine g_iast (dk D_X9_findPlan 124 rfl) kd_1424 hi12 ?_
          refine g_heap (fun h13 eh13 => ?_)
          replace hw := hw _ eh13
          exact t_X9_findPlan_b211 p1 p2 p3 (v4) (v5) (v6) (v7) K74 K104 (h13) Q hK74 hK104 hw
theorem t_X9_findPlan_b104 {X : Cx} (p1 : Int32) (p2 : Int32) (p3 : Int32) (v4 : Int32) (v5 : Int32) (v6 : Int32) (K74 : Int32 × Int32 × Int32 × Hp → Prop) (Q : Hp → Prop) (s : Int32 × Hp) (hK74 : ∀ s : Int32 × Int32 × Int32 × Hp, K74 s → G X M_X9_findPlan E_X9_findPlan (QM X E_X9_findPlan (QV Q) Qn) 0 74 [(0, .ref (92)), (1, .int (p1)), (4, .int (s.1)), (5, .int (s.2.1)), (6, .int (s.2.2.1))] [] (s.2.2.2)) (hw : w_X9_findPlan_b104 p1 p2 p3 v4 v5 v6 K74 Q s) : G X M_X9_findPlan E_X9_findPlan (QM X E_X9_findPlan (QV Q) Qn) 0 104 [(0, .ref (92)), (1, .int (p1)), (4, .int (v4)), (5, .int (v5)), (6, .int (v6)), (7, .int (s.1))] [] (s.2) :=
  wl_ind (B := fun K s => w_X9_findPlan_l104 p1 p2 p3 v4 v5 v6 K74 Q K (s.1) (s.2)) (P := fun s => G X M_X9_findPlan E_X9_findPlan (QM X E_X9_findPlan (QV Q) Qn) 0 104 [(0, .ref (92)), (1, .int (p1)), (4, .int (v4)), (5, .int (v5)), (6, .int (v6)), (7, .int (s.1))] [] (s.2)) (fun K hK s hw => t_X9_findPlan_l104 p1 p2 p3 v4 v5 v6 K74 Q K (s.1) (s.2) hK74 hK hw) s hw
theorem t_X9_findPlan_l74 {X : Cx} (p1 : Int32) (p2 : Int32) (p3 : Int32) (Q : Hp → Prop) (K74 : Int32 × Int32 × Int32 × Hp → Prop) (v4 : Int32) (v5 : Int32) (v6 : Int32) (h : Hp) (hK74 : ∀ s : Int32 × Int32 × Int32 × Hp, K74 s → G X M_X9_findPlan E_X9_findPlan (QM X E_X9_findPlan (QV Q) Qn) 0 74 [(0, .ref (92)), (1, .int (p1)), (4, .int (s.1)), (5, .int (s.2.1)), (6, .int (s.2.2.1))] [] (s.2.2.2)) (hw : w_X9_findPlan_l74 p1 p2 p3 Q K74 v4 v5 v6 h) : G X M_X9_findPlan E_X9_findPlan (QM X E_X9_findPlan (QV Q) Qn) 0 74 [(0, .ref (92)), (1, .int (p1)), (4, .int (v4)), (5, .int (v5)), (6, .int (v6))] [] h := by
  unfold w_X9_findPlan_l74 at hw
  refine g_iload 4 (dk D_X9_findPlan 46 rfl) rfl ?_
  refine g_aload_n 0 (dk D_X9_findPlan 47 rfl) rfl rfl ?_
  refine g_getI 43 (dk D_X9_findPlan 48 rfl) kd_92 rfl rfl (by decide) w_1400 rfl rfl ?_
  refine g_icmp_ge (dk D_X9_findPlan 49 rfl) rfl (wif_m hw (fun hw => ?_) (fun hw => ?_))
  · exact g_vret (dk D_X9_findPlan 204 rfl) rfl ⟨rfl, hw⟩
  · refine g_aload_n 0 (dk D_X9_findPlan 50 rfl) rfl rfl ?_
    refine g_iload 4 (dk D_X9_findPlan 51 rfl) rfl ?_
    refine g_iload 3 (dk D_X9_findPlan 52 rfl) rfl ?_
    refine g_callV (As := [.int (v6), .int (v5)]) (kc := 0) (fr := 0) (lo := 0) (mc := 0) (My := M_X9_lastAt) (dk D_X9_findPlan 53 rfl) kd_92 rfl rfl w_1793 w_1795 w_86 w_110 w_1796 okD_X9_lastAt (by decide) (Nat.le_of_ble_eq_true rfl) rfl (c_X9_lastAt (v6) (v5) (h) _ hw) kxN (kIp (fun z1 hw => ?_))
    refine g_istore (dk D_X9_findPlan 54 rfl) (by decide) rfl ?_
    refine g_aload_n 1 (dk D_X9_findPlan 55 rfl) rfl rfl ?_
    refine g_getR 41 (t := 1424) (dk D_X9_findPlan 56 rfl) kd_92 rfl rfl (by decide) w_1398 rfl rfl rfl ?_
    refine g_iload 4 (dk D_X9_findPlan 57 rfl) rfl ?_
    refine g_iconst (dk D_X9_findPlan 58 rfl) ki_m1 ?_
    obtain ⟨hi2, hw⟩ := hw
    refine g_iast (dk D_X9_findPlan 59 rfl) kd_1424 hi2 ?_
    refine g_heap (fun h3 eh3 => ?_)
    replace hw := hw _ eh3
    refine g_iconst (dk D_X9_findPlan 60 rfl) ki_0 ?_
    refine g_istore (dk D_X9_findPlan 61 rfl) (by decide) rfl ?_
    refine g_sub [2, 3, 4, 1, 5, 0] rfl ?_
    exact t_X9_findPlan_b104 p1 p2 p3 (v4) (z1) (v6) K74 Q ((0 : Int32), h3) hK74 hw
theorem t_X9_findPlan_b74 {X : Cx} (p1 : Int32) (p2 : Int32) (p3 : Int32) (Q : Hp → Prop) (s : Int32 × Int32 × Int32 × Hp) (hw : w_X9_findPlan_b74 p1 p2 p3 Q s) : G X M_X9_findPlan E_X9_findPlan (QM X E_X9_findPlan (QV Q) Qn) 0 74 [(0, .ref (92)), (1, .int (p1)), (4, .int (s.1)), (5, .int (s.2.1)), (6, .int (s.2.2.1))] [] (s.2.2.2) :=
  wl_ind (B := fun K s => w_X9_findPlan_l74 p1 p2 p3 Q K (s.1) (s.2.1) (s.2.2.1) (s.2.2.2)) (P := fun s => G X M_X9_findPlan E_X9_findPlan (QM X E_X9_findPlan (QV Q) Qn) 0 74 [(0, .ref (92)), (1, .int (p1)), (4, .int (s.1)), (5, .int (s.2.1)), (6, .int (s.2.2.1))] [] (s.2.2.2)) (fun K hK s hw => t_X9_findPlan_l74 p1 p2 p3 Q K (s.1) (s.2.1) (s.2.2.1) (s.2.2.2) hK hw) s hw
theorem t_X9_findPlan {X : Cx} (p1 : Int32) (p2 : Int32) (p3 : Int32) (h : Hp) (Q : Hp → Prop) (hw : w_X9_findPlan p1 p2 p3 h Q) : G X M_X9_findPlan E_X9_findPlan (QM X E_X9_findPlan (QV Q) Qn) 0 0 [(0, .ref (92)), (1, .int (p1)), (2, .int (p2)), (3, .int (p3))] [] h := by
  unfold w_X9_findPlan at hw
  refine g_aload_n 0 (dk D_X9_findPlan 0 rfl) rfl rfl ?_
  refine g_iload_n 2 (dk D_X9_findPlan 1 rfl) rfl rfl ?_
  refine g_iload_n 3 (dk D_X9_findPlan 2 rfl) rfl rfl ?_
  refine g_callV (As := [.int (p2), .int (p3)]) (kc := 0) (fr := 5) (lo := 172) (mc := 0) (My := M_X9_layCoins) (dk D_X9_findPlan 3 rfl) kd_92 rfl rfl w_1777 w_1779 w_83 w_110 w_1780 okD_X9_layCoins (by decide) (Nat.le_of_ble_eq_true rfl) rfl (c_X9_layCoins (p2) (p3) (h) _ hw) kxN (kV (fun h1 hw => ?_))
  refine g_aload_n 0 (dk D_X9_findPlan 4 rfl) rfl rfl ?_
  refine g_iload_n 1 (dk D_X9_findPlan 5 rfl) rfl rfl ?_
  refine g_callV (As := [.int (p1)]) (kc := 0) (fr := 3) (lo := 94) (mc := 0) (My := M_X9_layLeast) (dk D_X9_findPlan 6 rfl) kd_92 rfl rfl w_1785 w_1787 w_85 w_110 w_1788 okD_X9_layLeast (by decide) (Nat.le_of_ble_eq_true rfl) rfl (c_X9_layLeast (p1) (h1) _ hw) kxN (kV (fun h2 hw => ?_))
  refine g_iconst (dk D_X9_findPlan 7 rfl) ki_0 ?_
  refine g_istore (dk D_X9_findPlan 8 rfl) (by decide) rfl ?_
  refine g_bipush (dk D_X9_findPlan 9 rfl) kb_8 ?_
  refine g_istore (dk D_X9_findPlan 10 rfl) (by decide) rfl ?_
  refine g_aload_n 2 (dk D_X9_findPlan 11 rfl) rfl rfl ?_
  refine g_aload_n 2 (dk D_X9_findPlan 12 rfl) rfl rfl ?_
  refine g_getR 40 (t := 1362) (dk D_X9_findPlan 13 rfl) kd_92 rfl rfl (by decide) w_1397 rfl rfl rfl ?_
  refine g_iconst (dk D_X9_findPlan 14 rfl) ki_0 ?_
  obtain ⟨hi3, hw⟩ := hw
  refine g_aald (dk D_X9_findPlan 15 rfl) kd_1362 rfl rfl hi3 ?_
  refine g_bipush (dk D_X9_findPlan 16 rfl) kb_8 ?_
  obtain ⟨hi4, hw⟩ := hw
  refine g_iald (dk D_X9_findPlan 17 rfl) (kdf_1362 _ (in_lt hi3)) hi4 ?_
  refine g_ldcw (dk D_X9_findPlan 18 rfl) w_1789 ?_
  refine g_idiv (dk D_X9_findPlan 19 rfl) (by decide) ?_
  refine g_put 44 (dk D_X9_findPlan 20 rfl) kd_92 rfl rfl (by decide) w_1401 rfl tyX9_ok nmX9 rfl (by decide) rfl (fun z => absurd z (by decide)) ?_
  refine g_heap (fun h5 eh5 => ?_)
  replace hw := hw _ eh5
  refine g_aload_n 2 (dk D_X9_findPlan 21 rfl) rfl rfl ?_
  refine g_aload_n 2 (dk D_X9_findPlan 22 rfl) rfl rfl ?_
  refine g_getR 40 (t := 1362) (dk D_X9_findPlan 23 rfl) kd_92 rfl rfl (by decide) w_1397 rfl rfl rfl ?_
  refine g_iconst (dk D_X9_findPlan 24 rfl) ki_0 ?_
  obtain ⟨hi6, hw⟩ := hw
  refine g_aald (dk D_X9_findPlan 25 rfl) kd_1362 rfl rfl hi6 ?_
  refine g_bipush (dk D_X9_findPlan 26 rfl) kb_8 ?_
  obtain ⟨hi7, hw⟩ := hw
  refine g_iald (dk D_X9_findPlan 27 rfl) (kdf_1362 _ (in_lt hi6)) hi7 ?_
  refine g_ldcw (dk D_X9_findPlan 28 rfl) w_1789 ?_
  refine g_irem (dk D_X9_findPlan 29 rfl) (by decide) ?_
  refine g_put 45 (dk D_X9_findPlan 30 rfl) kd_92 rfl rfl (by decide) w_1402 rfl tyX9_ok nmX9 rfl (by decide) rfl (fun z => absurd z (by decide)) ?_
  refine g_heap (fun h8 eh8 => ?_)
  replace hw := hw _ eh8
  refine g_aload_n 2 (dk D_X9_findPlan 31 rfl) rfl rfl ?_
  refine g_iconst (dk D_X9_findPlan 32 rfl) ki_0 ?_
  refine g_put 46 (dk D_X9_findPlan 33 rfl) kd_92 rfl rfl (by decide) w_1403 rfl tyX9_ok nmX9 rfl (by decide) rfl (fun z => absurd z (by decide)) ?_
  refine g_heap (fun h9 eh9 => ?_)
  replace hw := hw _ eh9
  refine g_aload_n 2 (dk D_X9_findPlan 34 rfl) rfl rfl ?_
  refine g_getR 47 (t := 1425) (dk D_X9_findPlan 35 rfl) kd_92 rfl rfl (by decide) w_1404 rfl rfl rfl ?_
  refine g_iconst (dk D_X9_findPlan 36 rfl) ki_0 ?_
  refine g_iconst (dk D_X9_findPlan 37 rfl) ki_0 ?_
  obtain ⟨hi10, hw⟩ := hw
  refine g_iast (dk D_X9_findPlan 38 rfl) kd_1425 hi10 ?_
  refine g_heap (fun h11 eh11 => ?_)
  replace hw := hw _ eh11
  refine g_aload_n 2 (dk D_X9_findPlan 39 rfl) rfl rfl ?_
  refine g_getR 47 (t := 1425) (dk D_X9_findPlan 40 rfl) kd_92 rfl rfl (by decide) w_1404 rfl rfl rfl ?_
  refine g_iconst (dk D_X9_findPlan 41 rfl) ki_1 ?_
  refine g_iconst (dk D_X9_findPlan 42 rfl) ki_0 ?_
  obtain ⟨hi12, hw⟩ := hw
  refine g_iast (dk D_X9_findPlan 43 rfl) kd_1425 hi12 ?_
  refine g_heap (fun h13 eh13 => ?_)
  replace hw := hw _ eh13
  refine g_iconst (dk D_X9_findPlan 44 rfl) ki_0 ?_
  refine g_istore (dk D_X9_findPlan 45 rfl) (by decide) rfl ?_
  refine g_sub [3, 4, 2, 1, 0] rfl ?_
  exact t_X9_findPlan_b74 p1 p2 p3 Q ((0 : Int32), (8 : Int32), (0 : Int32), h13) hw
theorem c_X9_findPlan {X : Cx} (p1 : Int32) (p2 : Int32) (p3 : Int32) (h : Hp) (Q : Hp → Prop) (hw : w_X9_findPlan p1 p2 p3 h Q) : Con X yX9_findPlan M_X9_findPlan 6 207 0 [.ref (92), .int (p1), .int (p2), .int (p3)] h (QV Q) Qn :=
  con_of (by decide +kernel) rfl (Nat.le_of_ble_eq_true rfl) (t_X9_findPlan p1 p2 p3 h Q hw)
/-! ShadowTollsModel.everybody()I -/
abbrev M_X9_everybody : Mi := (RX9, cX9_everybody, 1, (some .int))
abbrev E_X9_everybody : Rm := (0, 0, 0, 0)
def rows_X9_everybody : List (Nat × Instr × Nat) := [(0, .iconst 1, 1), (1, .aload_n 0, 1), (2, .getfield 20, 3), (5, .iconst 0, 1), (6, .iaload, 1), (7, .ishl, 1), (8, .iconst 1, 1), (9, .isub, 1), (10, .ireturn, 1)]
theorem D_X9_everybody : dkA cX9_everybody rows_X9_everybody := by
  unfold dkA
  decide +kernel
theorem okD_X9_everybody : okD yX9_everybody 0 := by
  unfold okD
  decide +kernel
def w_X9_everybody (h : Hp) (Q : Int32 → Prop) : Prop :=
  (vp_in (0 : Int32) 11 ∧ Q (((1 : Int32) <<< ((h 95 (Int32.toNatClampNeg (0 : Int32))) &&& 31)) - (1 : Int32)))
theorem t_X9_everybody {X : Cx} (h : Hp) (Q : Int32 → Prop) (hw : w_X9_everybody h Q) : G X M_X9_everybody E_X9_everybody (QM X E_X9_everybody (QIp h Q) Qn) 0 0 [(0, .ref (92))] [] h := by
  unfold w_X9_everybody at hw
  refine g_iconst (dk D_X9_everybody 0 rfl) ki_1 ?_
  refine g_aload_n 0 (dk D_X9_everybody 1 rfl) rfl rfl ?_
  refine g_getR 11 (t := 95) (dk D_X9_everybody 2 rfl) kd_92 rfl rfl (by decide) w_1368 rfl rfl rfl ?_
  refine g_iconst (dk D_X9_everybody 3 rfl) ki_0 ?_
  obtain ⟨hi1, hw⟩ := hw
  refine g_iald (dk D_X9_everybody 4 rfl) kd_95 hi1 ?_
  refine g_ishl (dk D_X9_everybody 5 rfl) ?_
  refine g_iconst (dk D_X9_everybody 6 rfl) ki_1 ?_
  refine g_isub (dk D_X9_everybody 7 rfl) ?_
  exact g_iret (dk D_X9_everybody 8 rfl) rfl ⟨_, rfl, rfl, hw⟩
theorem c_X9_everybody {X : Cx} (h : Hp) (Q : Int32 → Prop) (hw : w_X9_everybody h Q) : Con X yX9_everybody M_X9_everybody 0 0 0 [.ref (92)] h (QIp h Q) Qn :=
  con_of (by decide +kernel) rfl (Nat.le_of_ble_eq_true rfl) (t_X9_everybody h Q hw)
/-! ShadowTollsModel.isPlan(IIZ)Z -/
abbrev M_X9_isPlan : Mi := (RX9, cX9_isPlan, 4, (some .boolean))
abbrev E_X9_isPlan : Rm := (2, 58, 0, 0)
def rows_X9_isPlan : List (Nat × Instr × Nat) := [(0, .iload_n 1, 1), (1, .iconst 0, 1), (2, .aload_n 0, 1), (3, .invokevirtual 378, 3), (6, .invokestatic 145, 3), (9, .ifCond .eq 29, 3), (12, .iload_n 2, 1), (13, .invokestatic 281, 3), (16, .ifCond .eq 22, 3), (19, .iload_n 3, 1), (20, .ifCond .eq 14, 3), (23, .aload_n 0, 1), (24, .getfield 20, 3), (27, .bipush 8, 2), (29, .iaload, 1), (30, .iconst 1, 1), (31, .if_icmp .ne 7, 3), (34, .iconst 1, 1), (35, .goto 4, 3), (38, .iconst 0, 1), (39, .ireturn, 1)]
theorem D_X9_isPlan : dkA cX9_isPlan rows_X9_isPlan := by
  unfold dkA
  decide +kernel
theorem okD_X9_isPlan : okD yX9_isPlan 3 := by
  unfold okD
  decide +kernel
def w_X9_isPlan_b34 (p1 : Int32) (p2 : Int32) (p3 : Int32) (h : Hp) (Q : Int32 → Prop) : Prop :=
  Q ((1 : Int32) &&& 1)
def w_X9_isPlan (p1 : Int32) (p2 : Int32) (p3 : Int32) (h : Hp) (Q : Int32 → Prop) : Prop :=
  w_X9_everybody  h (fun z1 => w_X9_in (p1) ((0 : Int32)) (z1) h (fun z2 => wif (z2 = 0) (Q ((0 : Int32) &&& 1)) (w_X9_isDay (p2) h (fun z3 => wif (z3 = 0) (Q ((0 : Int32) &&& 1)) (wif (p3 = 0) (w_X9_isPlan_b34 p1 p2 p3 (h) Q) ((vp_in (8 : Int32) 11 ∧ Q ((if ¬ (h 95 (Int32.toNatClampNeg (8 : Int32))) = (1 : Int32) then (0 : Int32) else (1 : Int32)) &&& 1))))))))
theorem t_X9_isPlan_b34 {X : Cx} (p1 : Int32) (p2 : Int32) (p3 : Int32) (h : Hp) (Q : Int32 → Prop) (hw : w_X9_isPlan_b34 p1 p2 p3 h Q) : G X M_X9_isPlan E_X9_isPlan (QM X E_X9_isPlan (QIp h Q) Qn) 0 34 [] [] h := by
  unfold w_X9_isPlan_b34 at hw
  refine g_iconst (dk D_X9_isPlan 17 rfl) ki_1 ?_
  refine g_goto (dk D_X9_isPlan 18 rfl) rfl ?_
  exact g_zret (dk D_X9_isPlan 20 rfl) rfl ⟨_, rfl, rfl, hw⟩
theorem t_X9_isPlan {X : Cx} (p1 : Int32) (p2 : Int32) (p3 : Int32) (h : Hp) (Q : Int32 → Prop) (hw : w_X9_isPlan p1 p2 p3 h Q) : G X M_X9_isPlan E_X9_isPlan (QM X E_X9_isPlan (QIp h Q) Qn) 0 0 [(0, .ref (92)), (1, .int (p1)), (2, .int (p2)), (3, .int (p3))] [] h := by
  unfold w_X9_isPlan at hw
  refine g_iload_n 1 (dk D_X9_isPlan 0 rfl) rfl rfl ?_
  refine g_iconst (dk D_X9_isPlan 1 rfl) ki_0 ?_
  refine g_aload_n 0 (dk D_X9_isPlan 2 rfl) rfl rfl ?_
  refine g_callV (As := []) (kc := 0) (fr := 0) (lo := 0) (mc := 0) (My := M_X9_everybody) (dk D_X9_isPlan 3 rfl) kd_92 rfl rfl w_1769 w_1771 w_81 w_110 w_1772 okD_X9_everybody (by decide) (Nat.le_of_ble_eq_true rfl) rfl (c_X9_everybody (h) _ hw) kxN (kIp (fun z1 hw => ?_))
  refine g_callS (As := [.int (p1), .int ((0 : Int32)), .int (z1)]) (kc := 0) (fr := 0) (lo := 0) (mc := 0) (My := M_X9_in) (dk D_X9_isPlan 4 rfl) w_1527 w_1528 w_110 w_1529 okD_X9_in (by decide) (Nat.le_of_ble_eq_true rfl) rfl (c_X9_in (p1) ((0 : Int32)) (z1) (h) _ hw) kxN (kIp (fun z2 hw => ?_))
  refine g_if_eq (dk D_X9_isPlan 5 rfl) rfl (wif_m hw (fun hw => ?_) (fun hw => ?_))
  · refine g_iconst (dk D_X9_isPlan 19 rfl) ki_0 ?_
    exact g_zret (dk D_X9_isPlan 20 rfl) rfl ⟨_, rfl, rfl, hw⟩
  · refine g_iload_n 2 (dk D_X9_isPlan 6 rfl) rfl rfl ?_
    refine g_callS (As := [.int (p2)]) (kc := 0) (fr := 1) (lo := 30) (mc := 0) (My := M_X9_isDay) (dk D_X9_isPlan 7 rfl) w_1676 w_1677 w_110 w_1678 okD_X9_isDay (by decide) (Nat.le_of_ble_eq_true rfl) rfl (c_X9_isDay (p2) (h) _ hw) kxN (kIp (fun z3 hw => ?_))
    refine g_if_eq (dk D_X9_isPlan 8 rfl) rfl (wif_m hw (fun hw => ?_) (fun hw => ?_))
    · refine g_iconst (dk D_X9_isPlan 19 rfl) ki_0 ?_
      exact g_zret (dk D_X9_isPlan 20 rfl) rfl ⟨_, rfl, rfl, hw⟩
    · refine g_iload_n 3 (dk D_X9_isPlan 9 rfl) rfl rfl ?_
      refine g_if_eq (dk D_X9_isPlan 10 rfl) rfl (wif_m hw (fun hw => ?_) (fun hw => ?_))
      · refine g_sub [] rfl ?_
        exact t_X9_isPlan_b34 p1 p2 p3 (h) Q hw
      · refine g_aload_n 0 (dk D_X9_isPlan 11 rfl) rfl rfl ?_
        refine g_getR 11 (t := 95) (dk D_X9_isPlan 12 rfl) kd_92 rfl rfl (by decide) w_1368 rfl rfl rfl ?_
        refine g_bipush (dk D_X9_isPlan 13 rfl) kb_8 ?_
        obtain ⟨hi4, hw⟩ := hw
        refine g_iald (dk D_X9_isPlan 14 rfl) kd_95 hi4 ?_
        refine g_iconst (dk D_X9_isPlan 15 rfl) ki_1 ?_
        have hj : G X M_X9_isPlan E_X9_isPlan (QM X E_X9_isPlan (QIp h Q) Qn) 0 39 [(0, .ref (92)), (1, .int (p1)), (2, .int (p2)), (3, .int (p3))] [.int ((if ¬ (h 95 (Int32.toNatClampNeg (8 : Int32))) = (1 : Int32) then (0 : Int32) else (1 : Int32)))] (h) := by
          exact g_zret (dk D_X9_isPlan 20 rfl) rfl ⟨_, rfl, rfl, hw⟩
        refine g_icmp_ne (dk D_X9_isPlan 16 rfl) rfl ?_
        by_cases c5 : ¬ (h 95 (Int32.toNatClampNeg (8 : Int32))) = (1 : Int32)
        · rw [if_pos c5] at hj
          refine wif_p c5 ?_
          refine g_iconst (dk D_X9_isPlan 19 rfl) ki_0 ?_
          exact hj
        · rw [if_neg c5] at hj
          refine wif_n c5 ?_
          refine g_iconst (dk D_X9_isPlan 17 rfl) ki_1 ?_
          refine g_goto (dk D_X9_isPlan 18 rfl) rfl ?_
          exact hj
theorem c_X9_isPlan {X : Cx} (p1 : Int32) (p2 : Int32) (p3 : Int32) (h : Hp) (Q : Int32 → Prop) (hw : w_X9_isPlan p1 p2 p3 h Q) : Con X yX9_isPlan M_X9_isPlan 2 58 0 [.ref (92), .int (p1), .int (p2), .int (p3)] h (QIp h Q) Qn :=
  con_of (by decide +kernel) rfl (Nat.le_of_ble_eq_true rfl) (t_X9_isPlan p1 p2 p3 h Q hw)
/-! ShadowTollsModel.plan(IIZI)I -/
abbrev M_X9_plan : Mi := (RX9, cX9_plan, 5, (some .int))
abbrev E_X9_plan : Rm := (7, 243, 0, 0)
def rows_X9_plan : List (Nat × Instr × Nat) := [(0, .aload_n 0, 1), (1, .iconst 0, 1), (2, .putfield 111, 3), (5, .aload_n 0, 1), (6, .aload_n 0, 1), (7, .iload_n 1, 1), (8, .iload_n 2, 1), (9, .iload_n 3, 1), (10, .invokevirtual 381, 3), (13, .ifCond .eq 13, 3), (16, .iload 4, 2), (18, .iconst 0, 1), (19, .iconst 4, 1), (20, .invokestatic 145, 3), (23, .ifCond .ne 7, 3), (26, .iconst 1, 1), (27, .goto 4, 3), (30, .iconst 0, 1), (31, .iconst 1, 1), (32, .invokevirtual 202, 3), (35, .ifCond .eq 5, 3), (38, .iconst 0, 1), (39, .ireturn, 1), (40, .aload_n 0, 1), (41, .iload_n 1, 1), (42, .iload_n 2, 1), (43, .iload_n 3, 1), (44, .invokevirtual 385, 3), (47, .iload 4, 2), (49, .ifCond .ne 10, 3), (52, .aload_n 0, 1), (53, .getfield 369, 3), (56, .goto 38, 3), (59, .iload 4, 2), (61, .iconst 1, 1), (62, .if_icmp .ne 10, 3), (65, .aload_n 0, 1), (66, .getfield 372, 3), (69, .goto 25, 3), (72, .iload 4, 2), (74, .iconst 4, 1), (75, .if_icmp .ne 10, 3), (78, .aload_n 0, 1), (79, .getfield 375, 3), (82, .goto 12, 3), (85, .aload_n 0, 1), (86, .getfield 98, 3), (89, .iload 4, 2), (91, .iconst 2, 1), (92, .isub, 1), (93, .iaload, 1), (94, .ireturn, 1)]
theorem D_X9_plan : dkA cX9_plan rows_X9_plan := by
  unfold dkA
  decide +kernel
theorem okD_X9_plan : okD yX9_plan 4 := by
  unfold okD
  decide +kernel
def w_X9_plan_b31 (p1 : Int32) (p2 : Int32) (p3 : Int32) (p4 : Int32) (s0 : Int32) (h : Hp) (Q : Int32 → Hp → Prop) : Prop :=
  w_X9_bad (s0) ((1 : Int32)) h (fun z1 h2 => wif (z1 = 0) (w_X9_findPlan (p1) (p2) (p3) h2 (fun h3 => wif (¬ p4 = 0) (wif (¬ p4 = (1 : Int32)) (wif (¬ p4 = (4 : Int32)) ((vp_in (p4 - (2 : Int32)) 2 ∧ Q (h3 1425 (Int32.toNatClampNeg (p4 - (2 : Int32)))) h3)) (Q (h3 92 46) h3)) (Q (h3 92 45) h3)) (Q (h3 92 44) h3))) (Q (0 : Int32) h2))
def w_X9_plan_b26 (p1 : Int32) (p2 : Int32) (p3 : Int32) (p4 : Int32) (h : Hp) (Q : Int32 → Hp → Prop) : Prop :=
  w_X9_plan_b31 p1 p2 p3 p4 ((1 : Int32)) (h) Q
def w_X9_plan (p1 : Int32) (p2 : Int32) (p3 : Int32) (p4 : Int32) (h : Hp) (Q : Int32 → Hp → Prop) : Prop :=
  wlet (hup h 92 0 (0 : Int32)) (fun h1 => w_X9_isPlan (p1) (p2) (p3) h1 (fun z2 => wif (z2 = 0) (w_X9_plan_b26 p1 p2 p3 p4 (h1) Q) (w_X9_in (p4) ((0 : Int32)) ((4 : Int32)) h1 (fun z3 => w_X9_bad ((if ¬ z3 = 0 then (0 : Int32) else (1 : Int32))) ((1 : Int32)) h1 (fun z5 h6 => wif (z5 = 0) (w_X9_findPlan (p1) (p2) (p3) h6 (fun h7 => wif (¬ p4 = 0) (wif (¬ p4 = (1 : Int32)) (wif (¬ p4 = (4 : Int32)) ((vp_in (p4 - (2 : Int32)) 2 ∧ Q (h7 1425 (Int32.toNatClampNeg (p4 - (2 : Int32)))) h7)) (Q (h7 92 46) h7)) (Q (h7 92 45) h7)) (Q (h7 92 44) h7))) (Q (0 : Int32) h6))))))
theorem t_X9_plan_b31 {X : Cx} (p1 : Int32) (p2 : Int32) (p3 : Int32) (p4 : Int32) (s0 : Int32) (h : Hp) (Q : Int32 → Hp → Prop) (hw : w_X9_plan_b31 p1 p2 p3 p4 s0 h Q) : G X M_X9_plan E_X9_plan (QM X E_X9_plan (QI Q) Qn) 0 31 [(0, .ref (92)), (1, .int (p1)), (2, .int (p2)), (3, .int (p3)), (4, .int (p4))] [.int (s0), .ref (92)] h := by
  unfold w_X9_plan_b31 at hw
  refine g_iconst (dk D_X9_plan 18 rfl) ki_1 ?_
  refine g_callV (As := [.int (s0), .int ((1 : Int32))]) (kc := 0) (fr := 0) (lo := 0) (mc := 0) (My := M_X9_bad) (dk D_X9_plan 19 rfl) kd_92 rfl rfl w_1530 w_1532 w_42 w_110 w_1533 okD_X9_bad (by decide) (Nat.le_of_ble_eq_true rfl) rfl (c_X9_bad (s0) ((1 : Int32)) (h) _ hw) kxN (kI (fun z1 h2 hw => ?_))
  refine g_if_eq (dk D_X9_plan 20 rfl) rfl (wif_m hw (fun hw => ?_) (fun hw => ?_))
  · refine g_aload_n 0 (dk D_X9_plan 23 rfl) rfl rfl ?_
    refine g_iload_n 1 (dk D_X9_plan 24 rfl) rfl rfl ?_
    refine g_iload_n 2 (dk D_X9_plan 25 rfl) rfl rfl ?_
    refine g_iload_n 3 (dk D_X9_plan 26 rfl) rfl rfl ?_
    refine g_callV (As := [.int (p1), .int (p2), .int (p3)]) (kc := 0) (fr := 6) (lo := 207) (mc := 0) (My := M_X9_findPlan) (dk D_X9_plan 27 rfl) kd_92 rfl rfl w_1773 w_1775 w_82 w_110 w_1776 okD_X9_findPlan (by decide) (Nat.le_of_ble_eq_true rfl) rfl (c_X9_findPlan (p1) (p2) (p3) (h2) _ hw) kxN (kV (fun h3 hw => ?_))
    refine g_iload 4 (dk D_X9_plan 28 rfl) rfl ?_
    refine g_if_ne (dk D_X9_plan 29 rfl) rfl (wif_m hw (fun hw => ?_) (fun hw => ?_))
    · refine g_iload 4 (dk D_X9_plan 33 rfl) rfl ?_
      refine g_iconst (dk D_X9_plan 34 rfl) ki_1 ?_
      refine g_icmp_ne (dk D_X9_plan 35 rfl) rfl (wif_m hw (fun hw => ?_) (fun hw => ?_))
      · refine g_iload 4 (dk D_X9_plan 39 rfl) rfl ?_
        refine g_iconst (dk D_X9_plan 40 rfl) ki_4 ?_
        refine g_icmp_ne (dk D_X9_plan 41 rfl) rfl (wif_m hw (fun hw => ?_) (fun hw => ?_))
        · refine g_aload_n 0 (dk D_X9_plan 45 rfl) rfl rfl ?_
          refine g_getR 47 (t := 1425) (dk D_X9_plan 46 rfl) kd_92 rfl rfl (by decide) w_1404 rfl rfl rfl ?_
          refine g_iload 4 (dk D_X9_plan 47 rfl) rfl ?_
          refine g_iconst (dk D_X9_plan 48 rfl) ki_2 ?_
          refine g_isub (dk D_X9_plan 49 rfl) ?_
          obtain ⟨hi4, hw⟩ := hw
          refine g_iald (dk D_X9_plan 50 rfl) kd_1425 hi4 ?_
          exact g_iret (dk D_X9_plan 51 rfl) rfl ⟨_, rfl, hw⟩
        · refine g_aload_n 0 (dk D_X9_plan 42 rfl) rfl rfl ?_
          refine g_getI 46 (dk D_X9_plan 43 rfl) kd_92 rfl rfl (by decide) w_1403 rfl rfl ?_
          refine g_goto (dk D_X9_plan 44 rfl) rfl ?_
          exact g_iret (dk D_X9_plan 51 rfl) rfl ⟨_, rfl, hw⟩
      · refine g_aload_n 0 (dk D_X9_plan 36 rfl) rfl rfl ?_
        refine g_getI 45 (dk D_X9_plan 37 rfl) kd_92 rfl rfl (by decide) w_1402 rfl rfl ?_
        refine g_goto (dk D_X9_plan 38 rfl) rfl ?_
        exact g_iret (dk D_X9_plan 51 rfl) rfl ⟨_, rfl, hw⟩
    · refine g_aload_n 0 (dk D_X9_plan 30 rfl) rfl rfl ?_
      refine g_getI 44 (dk D_X9_plan 31 rfl) kd_92 rfl rfl (by decide) w_1401 rfl rfl ?_
      refine g_goto (dk D_X9_plan 32 rfl) rfl ?_
      exact g_iret (dk D_X9_plan 51 rfl) rfl ⟨_, rfl, hw⟩
  · refine g_iconst (dk D_X9_plan 21 rfl) ki_0 ?_
    exact g_iret (dk D_X9_plan 22 rfl) rfl ⟨_, rfl, hw⟩
theorem t_X9_plan_b26 {X : Cx} (p1 : Int32) (p2 : Int32) (p3 : Int32) (p4 : Int32) (h : Hp) (Q : Int32 → Hp → Prop) (hw : w_X9_plan_b26 p1 p2 p3 p4 h Q) : G X M_X9_plan E_X9_plan (QM X E_X9_plan (QI Q) Qn) 0 26 [(0, .ref (92)), (1, .int (p1)), (2, .int (p2)), (3, .int (p3)), (4, .int (p4))] [.ref (92)] h := by
  unfold w_X9_plan_b26 at hw
  refine g_iconst (dk D_X9_plan 15 rfl) ki_1 ?_
  refine g_goto (dk D_X9_plan 16 rfl) rfl ?_
  exact t_X9_plan_b31 p1 p2 p3 p4 ((1 : Int32)) (h) Q hw
theorem t_X9_plan {X : Cx} (p1 : Int32) (p2 : Int32) (p3 : Int32) (p4 : Int32) (h : Hp) (Q : Int32 → Hp → Prop) (hw : w_X9_plan p1 p2 p3 p4 h Q) : G X M_X9_plan E_X9_plan (QM X E_X9_plan (QI Q) Qn) 0 0 [(0, .ref (92)), (1, .int (p1)), (2, .int (p2)), (3, .int (p3)), (4, .int (p4))] [] h := by
  unfold w_X9_plan at hw
  refine g_aload_n 0 (dk D_X9_plan 0 rfl) rfl rfl ?_
  refine g_iconst (dk D_X9_plan 1 rfl) ki_0 ?_
  refine g_put 0 (dk D_X9_plan 2 rfl) kd_92 rfl rfl (by decide) w_1357 rfl tyX9_ok nmX9 rfl (by decide) rfl (fun z => absurd z (by decide)) ?_
  refine g_heap (fun h1 eh1 => ?_)
  replace hw := hw _ eh1
  refine g_aload_n 0 (dk D_X9_plan 3 rfl) rfl rfl ?_
  refine g_aload_n 0 (dk D_X9_plan 4 rfl) rfl rfl ?_
  refine g_iload_n 1 (dk D_X9_plan 5 rfl) rfl rfl ?_
  refine g_iload_n 2 (dk D_X9_plan 6 rfl) rfl rfl ?_
  refine g_iload_n 3 (dk D_X9_plan 7 rfl) rfl rfl ?_
  refine g_callV (As := [.int (p1), .int (p2), .int (p3)]) (kc := 0) (fr := 2) (lo := 58) (mc := 0) (My := M_X9_isPlan) (dk D_X9_plan 8 rfl) kd_92 rfl rfl w_1765 w_1767 w_80 w_110 w_1768 okD_X9_isPlan (by decide) (Nat.le_of_ble_eq_true rfl) rfl (c_X9_isPlan (p1) (p2) (p3) (h1) _ hw) kxN (kIp (fun z2 hw => ?_))
  refine g_if_eq (dk D_X9_plan 9 rfl) rfl (wif_m hw (fun hw => ?_) (fun hw => ?_))
  · exact t_X9_plan_b26 p1 p2 p3 p4 (h1) Q hw
  · refine g_iload 4 (dk D_X9_plan 10 rfl) rfl ?_
    refine g_iconst (dk D_X9_plan 11 rfl) ki_0 ?_
    refine g_iconst (dk D_X9_plan 12 rfl) ki_4 ?_
    refine g_callS (As := [.int (p4), .int ((0 : Int32)), .int ((4 : Int32))]) (kc := 0) (fr := 0) (lo := 0) (mc := 0) (My := M_X9_in) (dk D_X9_plan 13 rfl) w_1527 w_1528 w_110 w_1529 okD_X9_in (by decide) (Nat.le_of_ble_eq_true rfl) rfl (c_X9_in (p4) ((0 : Int32)) ((4 : Int32)) (h1) _ hw) kxN (kIp (fun z3 hw => ?_))
    have hj : G X M_X9_plan E_X9_plan (QM X E_X9_plan (QI Q) Qn) 0 31 [(0, .ref (92)), (1, .int (p1)), (2, .int (p2)), (3, .int (p3)), (4, .int (p4))] [.int ((if ¬ z3 = 0 then (0 : Int32) else (1 : Int32))), .ref (92)] (h1) := by
      refine g_iconst (dk D_X9_plan 18 rfl) ki_1 ?_
      refine g_callV (As := [.int ((if ¬ z3 = 0 then (0 : Int32) else (1 : Int32))), .int ((1 : Int32))]) (kc := 0) (fr := 0) (lo := 0) (mc := 0) (My := M_X9_bad) (dk D_X9_plan 19 rfl) kd_92 rfl rfl w_1530 w_1532 w_42 w_110 w_1533 okD_X9_bad (by decide) (Nat.le_of_ble_eq_true rfl) rfl (c_X9_bad ((if ¬ z3 = 0 then (0 : Int32) else (1 : Int32))) ((1 : Int32)) (h1) _ hw) kxN (kI (fun z5 h6 hw => ?_))
      refine g_if_eq (dk D_X9_plan 20 rfl) rfl (wif_m hw (fun hw => ?_) (fun hw => ?_))
      · refine g_aload_n 0 (dk D_X9_plan 23 rfl) rfl rfl ?_
        refine g_iload_n 1 (dk D_X9_plan 24 rfl) rfl rfl ?_
        refine g_iload_n 2 (dk D_X9_plan 25 rfl) rfl rfl ?_
        refine g_iload_n 3 (dk D_X9_plan 26 rfl) rfl rfl ?_
        refine g_callV (As := [.int (p1), .int (p2), .int (p3)]) (kc := 0) (fr := 6) (lo := 207) (mc := 0) (My := M_X9_findPlan) (dk D_X9_plan 27 rfl) kd_92 rfl rfl w_1773 w_1775 w_82 w_110 w_1776 okD_X9_findPlan (by decide) (Nat.le_of_ble_eq_true rfl) rfl (c_X9_findPlan (p1) (p2) (p3) (h6) _ hw) kxN (kV (fun h7 hw => ?_))
        refine g_iload 4 (dk D_X9_plan 28 rfl) rfl ?_
        refine g_if_ne (dk D_X9_plan 29 rfl) rfl (wif_m hw (fun hw => ?_) (fun hw => ?_))
        · refine g_iload 4 (dk D_X9_plan 33 rfl) rfl ?_
          refine g_iconst (dk D_X9_plan 34 rfl) ki_1 ?_
          refine g_icmp_ne (dk D_X9_plan 35 rfl) rfl (wif_m hw (fun hw => ?_) (fun hw => ?_))
          · refine g_iload 4 (dk D_X9_plan 39 rfl) rfl ?_
            refine g_iconst (dk D_X9_plan 40 rfl) ki_4 ?_
            refine g_icmp_ne (dk D_X9_plan 41 rfl) rfl (wif_m hw (fun hw => ?_) (fun hw => ?_))
            · refine g_aload_n 0 (dk D_X9_plan 45 rfl) rfl rfl ?_
              refine g_getR 47 (t := 1425) (dk D_X9_plan 46 rfl) kd_92 rfl rfl (by decide) w_1404 rfl rfl rfl ?_
              refine g_iload 4 (dk D_X9_plan 47 rfl) rfl ?_
              refine g_iconst (dk D_X9_plan 48 rfl) ki_2 ?_
              refine g_isub (dk D_X9_plan 49 rfl) ?_
              obtain ⟨hi8, hw⟩ := hw
              refine g_iald (dk D_X9_plan 50 rfl) kd_1425 hi8 ?_
              exact g_iret (dk D_X9_plan 51 rfl) rfl ⟨_, rfl, hw⟩
            · refine g_aload_n 0 (dk D_X9_plan 42 rfl) rfl rfl ?_
              refine g_getI 46 (dk D_X9_plan 43 rfl) kd_92 rfl rfl (by decide) w_1403 rfl rfl ?_
              refine g_goto (dk D_X9_plan 44 rfl) rfl ?_
              exact g_iret (dk D_X9_plan 51 rfl) rfl ⟨_, rfl, hw⟩
          · refine g_aload_n 0 (dk D_X9_plan 36 rfl) rfl rfl ?_
            refine g_getI 45 (dk D_X9_plan 37 rfl) kd_92 rfl rfl (by decide) w_1402 rfl rfl ?_
            refine g_goto (dk D_X9_plan 38 rfl) rfl ?_
            exact g_iret (dk D_X9_plan 51 rfl) rfl ⟨_, rfl, hw⟩
        · refine g_aload_n 0 (dk D_X9_plan 30 rfl) rfl rfl ?_
          refine g_getI 44 (dk D_X9_plan 31 rfl) kd_92 rfl rfl (by decide) w_1401 rfl rfl ?_
          refine g_goto (dk D_X9_plan 32 rfl) rfl ?_
          exact g_iret (dk D_X9_plan 51 rfl) rfl ⟨_, rfl, hw⟩
      · refine g_iconst (dk D_X9_plan 21 rfl) ki_0 ?_
        exact g_iret (dk D_X9_plan 22 rfl) rfl ⟨_, rfl, hw⟩
    refine g_if_ne (dk D_X9_plan 14 rfl) rfl ?_
    by_cases c4 : ¬ z3 = 0
    · rw [if_pos c4] at hj
      refine wif_p c4 ?_
      refine g_iconst (dk D_X9_plan 17 rfl) ki_0 ?_
      exact hj
    · rw [if_neg c4] at hj
      refine wif_n c4 ?_
      refine g_iconst (dk D_X9_plan 15 rfl) ki_1 ?_
      refine g_goto (dk D_X9_plan 16 rfl) rfl ?_
      exact hj
theorem c_X9_plan {X : Cx} (p1 : Int32) (p2 : Int32) (p3 : Int32) (p4 : Int32) (h : Hp) (Q : Int32 → Hp → Prop) (hw : w_X9_plan p1 p2 p3 p4 h Q) : Con X yX9_plan M_X9_plan 7 243 0 [.ref (92), .int (p1), .int (p2), .int (p3), .int (p4)] h (QI Q) Qn :=
  con_of (by decide +kernel) rfl (Nat.le_of_ble_eq_true rfl) (t_X9_plan p1 p2 p3 p4 h Q hw)
/-! ShadowTollsModel.slot(IIZI)I -/
abbrev M_X9_slot : Mi := (RX9, cX9_slot, 6, (some .int))
abbrev E_X9_slot : Rm := (7, 243, 0, 0)
def rows_X9_slot : List (Nat × Instr × Nat) := [(0, .aload_n 0, 1), (1, .iconst 0, 1), (2, .putfield 111, 3), (5, .aload_n 0, 1), (6, .aload_n 0, 1), (7, .iload 4, 2), (9, .invokevirtual 278, 3), (12, .ifCond .ne 7, 3), (15, .iconst 1, 1), (16, .goto 4, 3), (19, .iconst 0, 1), (20, .iconst 1, 1), (21, .invokevirtual 202, 3), (24, .ifCond .ne 26, 3), (27, .aload_n 0, 1), (28, .aload_n 0, 1), (29, .iload_n 1, 1), (30, .iload_n 2, 1), (31, .iload_n 3, 1), (32, .invokevirtual 381, 3), (35, .ifCond .ne 7, 3), (38, .iconst 1, 1), (39, .goto 4, 3), (42, .iconst 0, 1), (43, .iconst 2, 1), (44, .invokevirtual 202, 3), (47, .ifCond .eq 5, 3), (50, .iconst 0, 1), (51, .ireturn, 1), (52, .aload_n 0, 1), (53, .iload_n 1, 1), (54, .iload_n 2, 1), (55, .iload_n 3, 1), (56, .invokevirtual 385, 3), (59, .iconst 0, 1), (60, .istore 5, 2), (62, .iload 5, 2), (64, .aload_n 0, 1), (65, .getfield 336, 3), (68, .if_icmp .ge 46, 3), (71, .aload_n 0, 1), (72, .getfield 95, 3), (75, .iload 5, 2), (77, .iaload, 1), (78, .iload 4, 2), (80, .if_icmp .ne 28, 3), (83, .iload 5, 2), (85, .aload_n 0, 1), (86, .getfield 333, 3), (89, .if_icmp .ge 8, 3), (92, .iload 5, 2), (94, .goto 13, 3), (97, .bipush 100, 2), (99, .iload 5, 2), (101, .iadd, 1), (102, .aload_n 0, 1), (103, .getfield 333, 3), (106, .isub, 1), (107, .ireturn, 1), (108, .iinc 5 1, 3), (111, .goto (-49), 3), (114, .iconst (-1), 1), (115, .ireturn, 1)]
theorem D_X9_slot : dkA cX9_slot rows_X9_slot := by
  unfold dkA
  decide +kernel
theorem okD_X9_slot : okD yX9_slot 4 := by
  unfold okD
  decide +kernel
def w_X9_slot_l62 (p1 : Int32) (p2 : Int32) (p3 : Int32) (p4 : Int32) (h : Hp) (Q : Int32 → Hp → Prop) (K62 : Int32 → Prop) (v5 : Int32) : Prop :=
  wif ((h 92 43) ≤ v5) (Q (-1 : Int32) h) ((vp_in v5 60 ∧ wif (¬ (h 1424 (Int32.toNatClampNeg v5)) = p4) (K62 ((v5 + (1 : Int32)))) (Q (if (h 92 42) ≤ v5 then (((100 : Int32) + v5) - (h 92 42)) else v5) h)))
def w_X9_slot_b62 (p1 : Int32) (p2 : Int32) (p3 : Int32) (p4 : Int32) (h : Hp) (Q : Int32 → Hp → Prop) (s : Int32) : Prop := wl (fun K s => w_X9_slot_l62 p1 p2 p3 p4 h Q K s) s
def w_X9_slot (p1 : Int32) (p2 : Int32) (p3 : Int32) (p4 : Int32) (h : Hp) (Q : Int32 → Hp → Prop) : Prop :=
  wlet (hup h 92 0 (0 : Int32)) (fun h1 => w_X9_isWho (p4) h1 (fun z2 => w_X9_bad ((if ¬ z2 = 0 then (0 : Int32) else (1 : Int32))) ((1 : Int32)) h1 (fun z4 h5 => wif (¬ z4 = 0) (Q (0 : Int32) h5) (w_X9_isPlan (p1) (p2) (p3) h5 (fun z6 => w_X9_bad ((if ¬ z6 = 0 then (0 : Int32) else (1 : Int32))) ((2 : Int32)) h5 (fun z8 h9 => wif (z8 = 0) (w_X9_findPlan (p1) (p2) (p3) h9 (fun h10 => w_X9_slot_b62 p1 p2 p3 p4 (h10) Q ((0 : Int32)))) (Q (0 : Int32) h9)))))))
theorem t_X9_slot_l62 {X : Cx} (p1 : Int32) (p2 : Int32) (p3 : Int32) (p4 : Int32) (h : Hp) (Q : Int32 → Hp → Prop) (K62 : Int32 → Prop) (v5 : Int32) (hK62 : ∀ s : Int32, K62 s → G X M_X9_slot E_X9_slot (QM X E_X9_slot (QI Q) Qn) 0 62 [(0, .ref (92)), (4, .int (p4)), (5, .int (s))] [] (h)) (hw : w_X9_slot_l62 p1 p2 p3 p4 h Q K62 v5) : G X M_X9_slot E_X9_slot (QM X E_X9_slot (QI Q) Qn) 0 62 [(0, .ref (92)), (4, .int (p4)), (5, .int (v5))] [] h := by
  unfold w_X9_slot_l62 at hw
  refine g_iload 2 (dk D_X9_slot 36 rfl) rfl ?_
  refine g_aload_n 0 (dk D_X9_slot 37 rfl) rfl rfl ?_
  refine g_getI 43 (dk D_X9_slot 38 rfl) kd_92 rfl rfl (by decide) w_1400 rfl rfl ?_
  refine g_icmp_ge (dk D_X9_slot 39 rfl) rfl (wif_m hw (fun hw => ?_) (fun hw => ?_))
  · refine g_iconst (dk D_X9_slot 61 rfl) ki_m1 ?_
    exact g_iret (dk D_X9_slot 62 rfl) rfl ⟨_, rfl, hw⟩
  · refine g_aload_n 0 (dk D_X9_slot 40 rfl) rfl rfl ?_
    refine g_getR 41 (t := 1424) (dk D_X9_slot 41 rfl) kd_92 rfl rfl (by decide) w_1398 rfl rfl rfl ?_
    refine g_iload 2 (dk D_X9_slot 42 rfl) rfl ?_
    obtain ⟨hi1, hw⟩ := hw
    refine g_iald (dk D_X9_slot 43 rfl) kd_1424 hi1 ?_
    refine g_iload 1 (dk D_X9_slot 44 rfl) rfl ?_
    refine g_icmp_ne (dk D_X9_slot 45 rfl) rfl (wif_m hw (fun hw => ?_) (fun hw => ?_))
    · refine g_iinc 2 (dk D_X9_slot 59 rfl) rfl (congrArg (fun z => _ + z) ki_1) (by decide) rfl ?_
      refine g_goto (dk D_X9_slot 60 rfl) rfl ?_
      refine g_sub [1, 2, 0] rfl ?_
      exact hK62 ((v5 + (1 : Int32))) hw
    · refine g_iload 2 (dk D_X9_slot 46 rfl) rfl ?_
      refine g_aload_n 0 (dk D_X9_slot 47 rfl) rfl rfl ?_
      refine g_getI 42 (dk D_X9_slot 48 rfl) kd_92 rfl rfl (by decide) w_1399 rfl rfl ?_
      have hj : G X M_X9_slot E_X9_slot (QM X E_X9_slot (QI Q) Qn) 0 107 [(0, .ref (92)), (4, .int (p4)), (5, .int (v5))] [.int ((if (h 92 42) ≤ v5 then (((100 : Int32) + v5) - (h 92 42)) else v5))] (h) := by
        exact g_iret (dk D_X9_slot 58 rfl) rfl ⟨_, rfl, hw⟩
      refine g_icmp_ge (dk D_X9_slot 49 rfl) rfl ?_
      by_cases c3 : (h 92 42) ≤ v5
      · rw [if_pos c3] at hj
        refine wif_p c3 ?_
        refine g_bipush (dk D_X9_slot 52 rfl) kb_100 ?_
        refine g_iload 2 (dk D_X9_slot 53 rfl) rfl ?_
        refine g_iadd (dk D_X9_slot 54 rfl) ?_
        refine g_aload_n 0 (dk D_X9_slot 55 rfl) rfl rfl ?_
        refine g_getI 42 (dk D_X9_slot 56 rfl) kd_92 rfl rfl (by decide) w_1399 rfl rfl ?_
        refine g_isub (dk D_X9_slot 57 rfl) ?_
        exact hj
      · rw [if_neg c3] at hj
        refine wif_n c3 ?_
        refine g_iload 2 (dk D_X9_slot 50 rfl) rfl ?_
        refine g_goto (dk D_X9_slot 51 rfl) rfl ?_
        exact hj
theorem t_X9_slot_b62 {X : Cx} (p1 : Int32) (p2 : Int32) (p3 : Int32) (p4 : Int32) (h : Hp) (Q : Int32 → Hp → Prop) (s : Int32) (hw : w_X9_slot_b62 p1 p2 p3 p4 h Q s) : G X M_X9_slot E_X9_slot (QM X E_X9_slot (QI Q) Qn) 0 62 [(0, .ref (92)), (4, .int (p4)), (5, .int (s))] [] (h) :=
  wl_ind (B := fun K s => w_X9_slot_l62 p1 p2 p3 p4 h Q K (s)) (P := fun s => G X M_X9_slot E_X9_slot (QM X E_X9_slot (QI Q) Qn) 0 62 [(0, .ref (92)), (4, .int (p4)), (5, .int (s))] [] (h)) (fun K hK s hw => t_X9_slot_l62 p1 p2 p3 p4 h Q K (s) hK hw) s hw
theorem t_X9_slot {X : Cx} (p1 : Int32) (p2 : Int32) (p3 : Int32) (p4 : Int32) (h : Hp) (Q : Int32 → Hp → Prop) (hw : w_X9_slot p1 p2 p3 p4 h Q) : G X M_X9_slot E_X9_slot (QM X E_X9_slot (QI Q) Qn) 0 0 [(0, .ref (92)), (1, .int (p1)), (2, .int (p2)), (3, .int (p3)), (4, .int (p4))] [] h := by
  unfold w_X9_slot at hw
  refine g_aload_n 0 (dk D_X9_slot 0 rfl) rfl rfl ?_
  refine g_iconst (dk D_X9_slot 1 rfl) ki_0 ?_
  refine g_put 0 (dk D_X9_slot 2 rfl) kd_92 rfl rfl (by decide) w_1357 rfl tyX9_ok nmX9 rfl (by decide) rfl (fun z => absurd z (by decide)) ?_
  refine g_heap (fun h1 eh1 => ?_)
  replace hw := hw _ eh1
  refine g_aload_n 0 (dk D_X9_slot 3 rfl) rfl rfl ?_
  refine g_aload_n 0 (dk D_X9_slot 4 rfl) rfl rfl ?_
  refine g_iload 4 (dk D_X9_slot 5 rfl) rfl ?_
  refine g_callV (As := [.int (p4)]) (kc := 0) (fr := 1) (lo := 30) (mc := 0) (My := M_X9_isWho) (dk D_X9_slot 6 rfl) kd_92 rfl rfl w_1668 w_1670 w_68 w_110 w_1671 okD_X9_isWho (by decide) (Nat.le_of_ble_eq_true rfl) rfl (c_X9_isWho (p4) (h1) _ hw) kxN (kIp (fun z2 hw => ?_))
  have hj : G X M_X9_slot E_X9_slot (QM X E_X9_slot (QI Q) Qn) 0 20 [(0, .ref (92)), (1, .int (p1)), (2, .int (p2)), (3, .int (p3)), (4, .int (p4))] [.int ((if ¬ z2 = 0 then (0 : Int32) else (1 : Int32))), .ref (92)] (h1) := by
    refine g_iconst (dk D_X9_slot 11 rfl) ki_1 ?_
    refine g_callV (As := [.int ((if ¬ z2 = 0 then (0 : Int32) else (1 : Int32))), .int ((1 : Int32))]) (kc := 0) (fr := 0) (lo := 0) (mc := 0) (My := M_X9_bad) (dk D_X9_slot 12 rfl) kd_92 rfl rfl w_1530 w_1532 w_42 w_110 w_1533 okD_X9_bad (by decide) (Nat.le_of_ble_eq_true rfl) rfl (c_X9_bad ((if ¬ z2 = 0 then (0 : Int32) else (1 : Int32))) ((1 : Int32)) (h1) _ hw) kxN (kI (fun z4 h5 hw => ?_))
    refine g_if_ne (dk D_X9_slot 13 rfl) rfl (wif_m hw (fun hw => ?_) (fun hw => ?_))
    · refine g_iconst (dk D_X9_slot 27 rfl) ki_0 ?_
      exact g_iret (dk D_X9_slot 28 rfl) rfl ⟨_, rfl, hw⟩
    · refine g_aload_n 0 (dk D_X9_slot 14 rfl) rfl rfl ?_
      refine g_aload_n 0 (dk D_X9_slot 15 rfl) rfl rfl ?_
      refine g_iload_n 1 (dk D_X9_slot 16 rfl) rfl rfl ?_
      refine g_iload_n 2 (dk D_X9_slot 17 rfl) rfl rfl ?_
      refine g_iload_n 3 (dk D_X9_slot 18 rfl) rfl rfl ?_
      refine g_callV (As := [.int (p1), .int (p2), .int (p3)]) (kc := 0) (fr := 2) (lo := 58) (mc := 0) (My := M_X9_isPlan) (dk D_X9_slot 19 rfl) kd_92 rfl rfl w_1765 w_1767 w_80 w_110 w_1768 okD_X9_isPlan (by decide) (Nat.le_of_ble_eq_true rfl) rfl (c_X9_isPlan (p1) (p2) (p3) (h5) _ hw) kxN (kIp (fun z6 hw => ?_))
      have hj : G X M_X9_slot E_X9_slot (QM X E_X9_slot (QI Q) Qn) 0 43 [(0, .ref (92)), (1, .int (p1)), (2, .int (p2)), (3, .int (p3)), (4, .int (p4))] [.int ((if ¬ z6 = 0 then (0 : Int32) else (1 : Int32))), .ref (92)] (h5) := by
        refine g_iconst (dk D_X9_slot 24 rfl) ki_2 ?_
        refine g_callV (As := [.int ((if ¬ z6 = 0 then (0 : Int32) else (1 : Int32))), .int ((2 : Int32))]) (kc := 0) (fr := 0) (lo := 0) (mc := 0) (My := M_X9_bad) (dk D_X9_slot 25 rfl) kd_92 rfl rfl w_1530 w_1532 w_42 w_110 w_1533 okD_X9_bad (by decide) (Nat.le_of_ble_eq_true rfl) rfl (c_X9_bad ((if ¬ z6 = 0 then (0 : Int32) else (1 : Int32))) ((2 : Int32)) (h5) _ hw) kxN (kI (fun z8 h9 hw => ?_))
        refine g_if_eq (dk D_X9_slot 26 rfl) rfl (wif_m hw (fun hw => ?_) (fun hw => ?_))
        · refine g_aload_n 0 (dk D_X9_slot 29 rfl) rfl rfl ?_
          refine g_iload_n 1 (dk D_X9_slot 30 rfl) rfl rfl ?_
          refine g_iload_n 2 (dk D_X9_slot 31 rfl) rfl rfl ?_
          refine g_iload_n 3 (dk D_X9_slot 32 rfl) rfl rfl ?_
          refine g_callV (As := [.int (p1), .int (p2), .int (p3)]) (kc := 0) (fr := 6) (lo := 207) (mc := 0) (My := M_X9_findPlan) (dk D_X9_slot 33 rfl) kd_92 rfl rfl w_1773 w_1775 w_82 w_110 w_1776 okD_X9_findPlan (by decide) (Nat.le_of_ble_eq_true rfl) rfl (c_X9_findPlan (p1) (p2) (p3) (h9) _ hw) kxN (kV (fun h10 hw => ?_))
          refine g_iconst (dk D_X9_slot 34 rfl) ki_0 ?_
          refine g_istore (dk D_X9_slot 35 rfl) (by decide) rfl ?_
          refine g_sub [1, 5, 0] rfl ?_
          exact t_X9_slot_b62 p1 p2 p3 p4 (h10) Q ((0 : Int32)) hw
        · refine g_iconst (dk D_X9_slot 27 rfl) ki_0 ?_
          exact g_iret (dk D_X9_slot 28 rfl) rfl ⟨_, rfl, hw⟩
      refine g_if_ne (dk D_X9_slot 20 rfl) rfl ?_
      by_cases c7 : ¬ z6 = 0
      · rw [if_pos c7] at hj
        refine wif_p c7 ?_
        refine g_iconst (dk D_X9_slot 23 rfl) ki_0 ?_
        exact hj
      · rw [if_neg c7] at hj
        refine wif_n c7 ?_
        refine g_iconst (dk D_X9_slot 21 rfl) ki_1 ?_
        refine g_goto (dk D_X9_slot 22 rfl) rfl ?_
        exact hj
  refine g_if_ne (dk D_X9_slot 7 rfl) rfl ?_
  by_cases c3 : ¬ z2 = 0
  · rw [if_pos c3] at hj
    refine wif_p c3 ?_
    refine g_iconst (dk D_X9_slot 10 rfl) ki_0 ?_
    exact hj
  · rw [if_neg c3] at hj
    refine wif_n c3 ?_
    refine g_iconst (dk D_X9_slot 8 rfl) ki_1 ?_
    refine g_goto (dk D_X9_slot 9 rfl) rfl ?_
    exact hj
theorem c_X9_slot {X : Cx} (p1 : Int32) (p2 : Int32) (p3 : Int32) (p4 : Int32) (h : Hp) (Q : Int32 → Hp → Prop) (hw : w_X9_slot p1 p2 p3 p4 h Q) : Con X yX9_slot M_X9_slot 7 243 0 [.ref (92), .int (p1), .int (p2), .int (p3), .int (p4)] h (QI Q) Qn :=
  con_of (by decide +kernel) rfl (Nat.le_of_ble_eq_true rfl) (t_X9_slot p1 p2 p3 p4 h Q hw)
/-! ShadowTollsModel.mostOf(I)I -/
abbrev M_X9_mostOf : Mi := (RX9, cX9_mostOf, 9, (some .int))
abbrev E_X9_mostOf : Rm := (6, 207, 0, 0)
def rows_X9_mostOf : List (Nat × Instr × Nat) := [(0, .aload_n 0, 1), (1, .iload_n 1, 1), (2, .iconst 0, 1), (3, .invokevirtual 362, 3), (6, .iconst 0, 1), (7, .istore_n 2, 1), (8, .iload_n 2, 1), (9, .sipush 2304, 3), (12, .if_icmp .ge 21, 3), (15, .aload_n 0, 1), (16, .getfield 92, 3), (19, .aload_n 0, 1), (20, .getfield 336, 3), (23, .aaload, 1), (24, .iload_n 2, 1), (25, .iconst 0, 1), (26, .iastore, 1), (27, .iinc 2 1, 3), (30, .goto (-22), 3), (33, .aload_n 0, 1), (34, .getfield 336, 3), (37, .iconst 1, 1), (38, .isub, 1), (39, .istore_n 2, 1), (40, .iload_n 2, 1), (41, .ifCond .lt 163, 3), (44, .iconst 0, 1), (45, .istore_n 3, 1), (46, .iload_n 3, 1), (47, .sipush 2304, 3), (50, .if_icmp .ge 148, 3), (53, .iload_n 3, 1), (54, .bipush 9, 2), (56, .idiv, 1), (57, .istore 4, 2), (59, .iload_n 3, 1), (60, .bipush 9, 2), (62, .irem, 1), (63, .istore 5, 2), (65, .aload_n 0, 1), (66, .getfield 92, 3), (69, .iload_n 2, 1), (70, .iconst 1, 1), (71, .iadd, 1), (72, .aaload, 1), (73, .bipush 9, 2), (75, .iload 4, 2), (77, .imul, 1), (78, .bipush 8, 2), (80, .iadd, 1), (81, .iaload, 1), (82, .istore 6, 2), (84, .iconst 0, 1), (85, .istore 7, 2), (87, .iload 7, 2), (89, .aload_n 0, 1), (90, .getfield 20, 3), (93, .iconst 0, 1), (94, .iaload, 1), (95, .if_icmp .ge 87, 3), (98, .aload_n 0, 1), (99, .iload_n 2, 1), (100, .aload_n 0, 1), (101, .invokevirtual 378, 3), (104, .iload 4, 2), (106, .iload 7, 2), (108, .invokevirtual 355, 3), (111, .ifCond .ne 6, 3), (114, .goto 62, 3), (117, .aload_n 0, 1), (118, .getfield 84, 3), (121, .iload_n 2, 1), (122, .aaload, 1), (123, .iload 7, 2), (125, .aaload, 1), (126, .aload_n 0, 1), (127, .iload 7, 2), (129, .iload 5, 2), (131, .invokevirtual 359, 3), (134, .iaload, 1), (135, .aload_n 0, 1), (136, .getfield 92, 3), (139, .iload_n 2, 1), (140, .iconst 1, 1), (141, .iadd, 1), (142, .aaload, 1), (143, .bipush 9, 2), (145, .iload 4, 2), (147, .iconst 1, 1), (148, .iload 7, 2), (150, .ishl, 1), (151, .ior, 1), (152, .imul, 1), (153, .iload 7, 2), (155, .iadd, 1), (156, .iaload, 1), (157, .iadd, 1), (158, .istore 8, 2), (160, .iload 8, 2), (162, .iload 6, 2), (164, .if_icmp .le 8, 3), (167, .iload 8, 2), (169, .goto 5, 3), (172, .iload 6, 2), (174, .istore 6, 2), (176, .iinc 7 1, 3), (179, .goto (-92), 3), (182, .aload_n 0, 1), (183, .getfield 92, 3), (186, .iload_n 2, 1), (187, .aaload, 1), (188, .iload_n 3, 1), (189, .iload 6, 2), (191, .iastore, 1), (192, .iinc 3 1, 3), (195, .goto (-149), 3), (198, .iinc 2 (-1), 3), (201, .goto (-161), 3), (204, .aload_n 0, 1), (205, .getfield 92, 3), (208, .iconst 0, 1), (209, .aaload, 1), (210, .bipush 8, 2), (212, .iaload, 1), (213, .ireturn, 1)]
theorem D_X9_mostOf : dkA cX9_mostOf rows_X9_mostOf := by
  unfold dkA
  decide +kernel
theorem okD_X9_mostOf : okD yX9_mostOf 1 := by
  unfold okD
  decide +kernel
def w_X9_mostOf_b176 (p1 : Int32) (v2 : Int32) (v3 : Int32) (v4 : Int32) (v5 : Int32) (v6 : Int32) (v7 : Int32) (K40 : Int32 × Hp → Prop) (K46 : Int32 × Hp → Prop) (K87 : Int32 × Int32 → Prop) (h : Hp) (Q : Int32 → Hp → Prop) : Prop :=
  K87 (v6, (v7 + (1 : Int32)))
def w_X9_mostOf_l87 (p1 : Int32) (v2 : Int32) (v3 : Int32) (v4 : Int32) (v5 : Int32) (K40 : Int32 × Hp → Prop) (K46 : Int32 × Hp → Prop) (h : Hp) (Q : Int32 → Hp → Prop) (K87 : Int32 × Int32 → Prop) (v6 : Int32) (v7 : Int32) : Prop :=
  (vp_in (0 : Int32) 11 ∧ wif ((h 95 (Int32.toNatClampNeg (0 : Int32))) ≤ v7) ((vp_in v2 61 ∧ (vp_in v3 2304 ∧ wlet (hup h (1363 + 1 * Int32.toNatClampNeg (v2)) (Int32.toNatClampNeg v3) v6) (fun h4 => K46 ((v3 + (1 : Int32)), h4))))) (w_X9_everybody  h (fun z5 => w_X9_canHave (v2) (z5) (v4) (v7) h (fun z6 => wif (¬ z6 = 0) ((vp_in v2 60 ∧ (vp_in v7 8 ∧ w_X9_isDark (v7) (v5) h (fun z9 => (vp_in z9 2 ∧ (vp_in (v2 + (1 : Int32)) 61 ∧ (vp_in (((9 : Int32) * (v4 ||| ((1 : Int32) <<< (v7 &&& 31)))) + v7) 2304 ∧ wlet (((h (((761 + 9 * Int32.toNatClampNeg (v2)) + 1) + 1 * Int32.toNatClampNeg (v7)) (Int32.toNatClampNeg z9)) + (h (1363 + 1 * Int32.toNatClampNeg ((v2 + (1 : Int32)))) (Int32.toNatClampNeg (((9 : Int32) * (v4 ||| ((1 : Int32) <<< (v7 &&& 31)))) + v7))))) (fun v8_13 => wlet ((if v8_13 ≤ v6 then v6 else v8_13)) (fun v6_15 => w_X9_mostOf_b176 p1 (v2) (v3) (v4) (v5) (v6_15) (v7) K40 K46 K87 (h) Q))))))))) (w_X9_mostOf_b176 p1 (v2) (v3) (v4) (v5) (v6) (v7) K40 K46 K87 (h) Q)))))
def w_X9_mostOf_b87 (p1 : Int32) (v2 : Int32) (v3 : Int32) (v4 : Int32) (v5 : Int32) (K40 : Int32 × Hp → Prop) (K46 : Int32 × Hp → Prop) (h : Hp) (Q : Int32 → Hp → Prop) (s : Int32 × Int32) : Prop := wl (fun K s => w_X9_mostOf_l87 p1 v2 v3 v4 v5 K40 K46 h Q K s.1 s.2) s
def w_X9_mostOf_l46 (p1 : Int32) (v2 : Int32) (K40 : Int32 × Hp → Prop) (Q : Int32 → Hp → Prop) (K46 : Int32 × Hp → Prop) (v3 : Int32) (h : Hp) : Prop :=
  wif ((2304 : Int32) ≤ v3) (K40 ((v2 + (-1 : Int32)), h)) (wlet ((v3 / (9 : Int32))) (fun v4_1 => wlet ((v3 - v3 / (9 : Int32) * (9 : Int32))) (fun v5_2 => (vp_in (v2 + (1 : Int32)) 61 ∧ (vp_in (((9 : Int32) * v4_1) + (8 : Int32)) 2304 ∧ wlet ((h (1363 + 1 * Int32.toNatClampNeg ((v2 + (1 : Int32)))) (Int32.toNatClampNeg (((9 : Int32) * v4_1) + (8 : Int32))))) (fun v6_5 => w_X9_mostOf_b87 p1 (v2) (v3) (v4_1) (v5_2) K40 K46 (h) Q (v6_5, (0 : Int32))))))))
def w_X9_mostOf_b46 (p1 : Int32) (v2 : Int32) (K40 : Int32 × Hp → Prop) (Q : Int32 → Hp → Prop) (s : Int32 × Hp) : Prop := wl (fun K s => w_X9_mostOf_l46 p1 v2 K40 Q K s.1 s.2) s
def w_X9_mostOf_l40 (p1 : Int32) (Q : Int32 → Hp → Prop) (K40 : Int32 × Hp → Prop) (v2 : Int32) (h : Hp) : Prop :=
  wif (v2 < 0) ((vp_in (0 : Int32) 61 ∧ (vp_in (8 : Int32) 2304 ∧ Q (h (1363 + 1 * Int32.toNatClampNeg ((0 : Int32))) (Int32.toNatClampNeg (8 : Int32))) h))) (w_X9_mostOf_b46 p1 (v2) K40 Q ((0 : Int32), h))
def w_X9_mostOf_b40 (p1 : Int32) (Q : Int32 → Hp → Prop) (s : Int32 × Hp) : Prop := wl (fun K s => w_X9_mostOf_l40 p1 Q K s.1 s.2) s
def w_X9_mostOf_l8 (p1 : Int32) (Q : Int32 → Hp → Prop) (K8 : Int32 × Hp → Prop) (v2 : Int32) (h : Hp) : Prop :=
  wif ((2304 : Int32) ≤ v2) (wlet (((h 92 43) - (1 : Int32))) (fun v2_1 => w_X9_mostOf_b40 p1 Q (v2_1, h))) ((vp_in (h 92 43) 61 ∧ (vp_in v2 2304 ∧ wlet (hup h (1363 + 1 * Int32.toNatClampNeg ((h 92 43))) (Int32.toNatClampNeg v2) (0 : Int32)) (fun h4 => K8 ((v2 + (1 : Int32)), h4)))))
def w_X9_mostOf_b8 (p1 : Int32) (Q : Int32 → Hp → Prop) (s : Int32 × Hp) : Prop := wl (fun K s => w_X9_mostOf_l8 p1 Q K s.1 s.2) s
def w_X9_mostOf (p1 : Int32) (h : Hp) (Q : Int32 → Hp → Prop) : Prop :=
  w_X9_layCoins (p1) ((0 : Int32)) h (fun h1 => w_X9_mostOf_b8 p1 Q ((0 : Int32), h1))
theorem t_X9_mostOf_b176 {X : Cx} (p1 : Int32) (v2 : Int32) (v3 : Int32) (v4 : Int32) (v5 : Int32) (v6 : Int32) (v7 : Int32) (K40 : Int32 × Hp → Prop) (K46 : Int32 × Hp → Prop) (K87 : Int32 × Int32 → Prop) (h : Hp) (Q : Int32 → Hp → Prop) (hK40 : ∀ s : Int32 × Hp, K40 s → G X M_X9_mostOf E_X9_mostOf (QM X E_X9_mostOf (QI Q) Qn) 0 40 [(0, .ref (92)), (2, .int (s.1))] [] (s.2)) (hK46 : ∀ s : Int32 × Hp, K46 s → G X M_X9_mostOf E_X9_mostOf (QM X E_X9_mostOf (QI Q) Qn) 0 46 [(0, .ref (92)), (2, .int (v2)), (3, .int (s.1))] [] (s.2)) (hK87 : ∀ s : Int32 × Int32, K87 s → G X M_X9_mostOf E_X9_mostOf (QM X E_X9_mostOf (QI Q) Qn) 0 87 [(0, .ref (92)), (2, .int (v2)), (3, .int (v3)), (4, .int (v4)), (5, .int (v5)), (6, .int (s.1)), (7, .int (s.2))] [] (h)) (hw : w_X9_mostOf_b176 p1 v2 v3 v4 v5 v6 v7 K40 K46 K87 h Q) : G X M_X9_mostOf E_X9_mostOf (QM X E_X9_mostOf (QI Q) Qn) 0 176 [(0, .ref (92)), (2, .int (v2)), (3, .int (v3)), (4, .int (v4)), (5, .int (v5)), (6, .int (v6)), (7, .int (v7))] [] h := by
  unfold w_X9_mostOf_b176 at hw
  refine g_iinc 6 (dk D_X9_mostOf 105 rfl) rfl (congrArg (fun z => _ + z) ki_1) (by decide) rfl ?_
  refine g_goto (dk D_X9_mostOf 106 rfl) rfl ?_
  refine g_sub [1, 2, 3, 4, 5, 6, 0] rfl ?_
  exact hK87 (v6, (v7 + (1 : Int32))) hw
theorem t_X9_mostOf_l87 {X : Cx} (p1 : Int32) (v2 : Int32) (v3 : Int32) (v4 : Int32) (v5 : Int32) (K40 : Int32 × Hp → Prop) (K46 : Int32 × Hp → Prop) (h : Hp) (Q : Int32 → Hp → Prop) (K87 : Int32 × Int32 → Prop) (v6 : Int32) (v7 : Int32) (hK40 : ∀ s : Int32 × Hp, K40 s → G X M_X9_mostOf E_X9_mostOf (QM X E_X9_mostOf (QI Q) Qn) 0 40 [(0, .ref (92)), (2, .int (s.1))] [] (s.2)) (hK46 : ∀ s : Int32 × Hp, K46 s → G X M_X9_mostOf E_X9_mostOf (QM X E_X9_mostOf (QI Q) Qn) 0 46 [(0, .ref (92)), (2, .int (v2)), (3, .int (s.1))] [] (s.2)) (hK87 : ∀ s : Int32 × Int32, K87 s → G X M_X9_mostOf E_X9_mostOf (QM X E_X9_mostOf (QI Q) Qn) 0 87 [(0, .ref (92)), (2, .int (v2)), (3, .int (v3)), (4, .int (v4)), (5, .int (v5)), (6, .int (s.1)), (7, .int (s.2))] [] (h)) (hw : w_X9_mostOf_l87 p1 v2 v3 v4 v5 K40 K46 h Q K87 v6 v7) : G X M_X9_mostOf E_X9_mostOf (QM X E_X9_mostOf (QI Q) Qn) 0 87 [(0, .ref (92)), (2, .int (v2)), (3, .int (v3)), (4, .int (v4)), (5, .int (v5)), (6, .int (v6)), (7, .int (v7))] [] h := by
  unfold w_X9_mostOf_l87 at hw
  refine g_iload 6 (dk D_X9_mostOf 54 rfl) rfl ?_
  refine g_aload_n 0 (dk D_X9_mostOf 55 rfl) rfl rfl ?_
  refine g_getR 11 (t := 95) (dk D_X9_mostOf 56 rfl) kd_92 rfl rfl (by decide) w_1368 rfl rfl rfl ?_
  refine g_iconst (dk D_X9_mostOf 57 rfl) ki_0 ?_
  obtain ⟨hi1, hw⟩ := hw
  refine g_iald (dk D_X9_mostOf 58 rfl) kd_95 hi1 ?_
  refine g_icmp_ge (dk D_X9_mostOf 59 rfl) rfl (wif_m hw (fun hw => ?_) (fun hw => ?_))
  · refine g_aload_n 0 (dk D_X9_mostOf 107 rfl) rfl rfl ?_
    refine g_getR 40 (t := 1362) (dk D_X9_mostOf 108 rfl) kd_92 rfl rfl (by decide) w_1397 rfl rfl rfl ?_
    refine g_iload_n 1 (dk D_X9_mostOf 109 rfl) rfl rfl ?_
    obtain ⟨hi2, hw⟩ := hw
    refine g_aald (dk D_X9_mostOf 110 rfl) kd_1362 rfl rfl hi2 ?_
    refine g_iload_n 2 (dk D_X9_mostOf 111 rfl) rfl rfl ?_
    refine g_iload 5 (dk D_X9_mostOf 112 rfl) rfl ?_
    obtain ⟨hi3, hw⟩ := hw
    refine g_iast (dk D_X9_mostOf 113 rfl) (kdf_1362 _ (in_lt hi2)) hi3 ?_
    refine g_heap (fun h4 eh4 => ?_)
    replace hw := hw _ eh4
    refine g_iinc 2 (dk D_X9_mostOf 114 rfl) rfl (congrArg (fun z => _ + z) ki_1) (by decide) rfl ?_
    refine g_goto (dk D_X9_mostOf 115 rfl) rfl ?_
    refine g_sub [1, 2, 0] rfl ?_
    exact hK46 ((v3 + (1 : Int32)), h4) hw
  · refine g_aload_n 0 (dk D_X9_mostOf 60 rfl) rfl rfl ?_
    refine g_iload_n 1 (dk D_X9_mostOf 61 rfl) rfl rfl ?_
    refine g_aload_n 0 (dk D_X9_mostOf 62 rfl) rfl rfl ?_
    refine g_callV (As := []) (kc := 0) (fr := 0) (lo := 0) (mc := 0) (My := M_X9_everybody) (dk D_X9_mostOf 63 rfl) kd_92 rfl rfl w_1769 w_1771 w_81 w_110 w_1772 okD_X9_everybody (by decide) (Nat.le_of_ble_eq_true rfl) rfl (c_X9_everybody (h) _ hw) kxN (kIp (fun z5 hw => ?_))
    refine g_iload 3 (dk D_X9_mostOf 64 rfl) rfl ?_
    refine g_iload 6 (dk D_X9_mostOf 65 rfl) rfl ?_
    refine g_callV (As := [.int (v2), .int (z5), .int (v4), .int (v7)]) (kc := 0) (fr := 0) (lo := 0) (mc := 0) (My := M_X9_canHave) (dk D_X9_mostOf 66 rfl) kd_92 rfl rfl w_1801 w_1803 w_88 w_110 w_1804 okD_X9_canHave (by decide) (Nat.le_of_ble_eq_true rfl) rfl (c_X9_canHave (v2) (z5) (v4) (v7) (h) _ hw) kxN (kIp (fun z6 hw => ?_))
    refine g_if_ne (dk D_X9_mostOf 67 rfl) rfl (wif_m hw (fun hw => ?_) (fun hw => ?_))
    · refine g_aload_n 0 (dk D_X9_mostOf 69 rfl) rfl rfl ?_
      refine g_getR 38 (t := 760) (dk D_X9_mostOf 70 rfl) kd_92 rfl rfl (by decide) w_1395 rfl rfl rfl ?_
      refine g_iload_n 1 (dk D_X9_mostOf 71 rfl) rfl rfl ?_
      obtain ⟨hi7, hw⟩ := hw
      refine g_aald (dk D_X9_mostOf 72 rfl) kd_760 rfl rfl hi7 ?_
      refine g_iload 6 (dk D_X9_mostOf 73 rfl) rfl ?_
      obtain ⟨hi8, hw⟩ := hw
      refine g_aald (dk D_X9_mostOf 74 rfl) (kdf_760 _ (in_lt hi7)) rfl rfl hi8 ?_
      refine g_aload_n 0 (dk D_X9_mostOf 75 rfl) rfl rfl ?_
      refine g_iload 6 (dk D_X9_mostOf 76 rfl) rfl ?_
      refine g_iload 4 (dk D_X9_mostOf 77 rfl) rfl ?_
      refine g_callV (As := [.int (v7), .int (v5)]) (kc := 0) (fr := 1) (lo := 29) (mc := 0) (My := M_X9_isDark) (dk D_X9_mostOf 78 rfl) kd_92 rfl rfl w_1805 w_1807 w_89 w_110 w_1808 okD_X9_isDark (by decide) (Nat.le_of_ble_eq_true rfl) rfl (c_X9_isDark (v7) (v5) (h) _ hw) kxN (kIp (fun z9 hw => ?_))
      obtain ⟨hi10, hw⟩ := hw
      refine g_iald (dk D_X9_mostOf 79 rfl) (kdg_760 _ (in_lt hi7) _ (in_lt hi8)) hi10 ?_
      refine g_aload_n 0 (dk D_X9_mostOf 80 rfl) rfl rfl ?_
      refine g_getR 40 (t := 1362) (dk D_X9_mostOf 81 rfl) kd_92 rfl rfl (by decide) w_1397 rfl rfl rfl ?_
      refine g_iload_n 1 (dk D_X9_mostOf 82 rfl) rfl rfl ?_
      refine g_iconst (dk D_X9_mostOf 83 rfl) ki_1 ?_
      refine g_iadd (dk D_X9_mostOf 84 rfl) ?_
      obtain ⟨hi11, hw⟩ := hw
      refine g_aald (dk D_X9_mostOf 85 rfl) kd_1362 rfl rfl hi11 ?_
      refine g_bipush (dk D_X9_mostOf 86 rfl) kb_9 ?_
      refine g_iload 3 (dk D_X9_mostOf 87 rfl) rfl ?_
      refine g_iconst (dk D_X9_mostOf 88 rfl) ki_1 ?_
      refine g_iload 6 (dk D_X9_mostOf 89 rfl) rfl ?_
      refine g_ishl (dk D_X9_mostOf 90 rfl) ?_
      refine g_ior (dk D_X9_mostOf 91 rfl) ?_
      refine g_imul (dk D_X9_mostOf 92 rfl) ?_
      refine g_iload 6 (dk D_X9_mostOf 93 rfl) rfl ?_
      refine g_iadd (dk D_X9_mostOf 94 rfl) ?_
      obtain ⟨hi12, hw⟩ := hw
      refine g_iald (dk D_X9_mostOf 95 rfl) (kdf_1362 _ (in_lt hi11)) hi12 ?_
      refine g_iadd (dk D_X9_mostOf 96 rfl) ?_
      refine g_topi (fun v8_13 ev8_13 => ?_)
      replace hw := hw _ ev8_13
      refine g_istore (dk D_X9_mostOf 97 rfl) (by decide) rfl ?_
      refine g_iload 0 (dk D_X9_mostOf 98 rfl) rfl ?_
      refine g_iload 6 (dk D_X9_mostOf 99 rfl) rfl ?_
      have hj : G X M_X9_mostOf E_X9_mostOf (QM X E_X9_mostOf (QI Q) Qn) 0 174 [(8, .int (v8_13)), (0, .ref (92)), (2, .int (v2)), (3, .int (v3)), (4, .int (v4)), (5, .int (v5)), (6, .int (v6)), (7, .int (v7))] [.int ((if v8_13 ≤ v6 then v6 else v8_13))] (h) := by
        refine g_topi (fun v6_15 ev6_15 => ?_)
        replace hw := hw _ ev6_15
        refine g_istore (dk D_X9_mostOf 104 rfl) (by decide) rfl ?_
        refine g_sub [2, 3, 4, 5, 6, 0, 7] rfl ?_
        exact t_X9_mostOf_b176 p1 (v2) (v3) (v4) (v5) (v6_15) (v7) K40 K46 K87 (h) Q hK40 hK46 hK87 hw
      refine g_icmp_le (dk D_X9_mostOf 100 rfl) rfl ?_
      by_cases c14 : v8_13 ≤ v6
      · rw [if_pos c14] at hj
        refine wif_p c14 ?_
        refine g_iload 6 (dk D_X9_mostOf 103 rfl) rfl ?_
        exact hj
      · rw [if_neg c14] at hj
        refine wif_n c14 ?_
        refine g_iload 0 (dk D_X9_mostOf 101 rfl) rfl ?_
        refine g_goto (dk D_X9_mostOf 102 rfl) rfl ?_
        exact hj
    · refine g_goto (dk D_X9_mostOf 68 rfl) rfl ?_
      exact t_X9_mostOf_b176 p1 (v2) (v3) (v4) (v5) (v6) (v7) K40 K46 K87 (h) Q hK40 hK46 hK87 hw
theorem t_X9_mostOf_b87 {X : Cx} (p1 : Int32) (v2 : Int32) (v3 : Int32) (v4 : Int32) (v5 : Int32) (K40 : Int32 × Hp → Prop) (K46 : Int32 × Hp → Prop) (h : Hp) (Q : Int32 → Hp → Prop) (s : Int32 × Int32) (hK40 : ∀ s : Int32 × Hp, K40 s → G X M_X9_mostOf E_X9_mostOf (QM X E_X9_mostOf (QI Q) Qn) 0 40 [(0, .ref (92)), (2, .int (s.1))] [] (s.2)) (hK46 : ∀ s : Int32 × Hp, K46 s → G X M_X9_mostOf E_X9_mostOf (QM X E_X9_mostOf (QI Q) Qn) 0 46 [(0, .ref (92)), (2, .int (v2)), (3, .int (s.1))] [] (s.2)) (hw : w_X9_mostOf_b87 p1 v2 v3 v4 v5 K40 K46 h Q s) : G X M_X9_mostOf E_X9_mostOf (QM X E_X9_mostOf (QI Q) Qn) 0 87 [(0, .ref (92)), (2, .int (v2)), (3, .int (v3)), (4, .int (v4)), (5, .int (v5)), (6, .int (s.1)), (7, .int (s.2))] [] (h) :=
  wl_ind (B := fun K s => w_X9_mostOf_l87 p1 v2 v3 v4 v5 K40 K46 h Q K (s.1) (s.2)) (P := fun s => G X M_X9_mostOf E_X9_mostOf (QM X E_X9_mostOf (QI Q) Qn) 0 87 [(0, .ref (92)), (2, .int (v2)), (3, .int (v3)), (4, .int (v4)), (5, .int (v5)), (6, .int (s.1)), (7, .int (s.2))] [] (h)) (fun K hK s hw => t_X9_mostOf_l87 p1 v2 v3 v4 v5 K40 K46 h Q K (s.1) (s.2) hK40 hK46 hK hw) s hw
theorem t_X9_mostOf_l46 {X : Cx} (p1 : Int32) (v2 : Int32) (K40 : Int32 × Hp → Prop) (Q : Int32 → Hp → Prop) (K46 : Int32 × Hp → Prop) (v3 : Int32) (h : Hp) (hK40 : ∀ s : Int32 × Hp, K40 s → G X M_X9_mostOf E_X9_mostOf (QM X E_X9_mostOf (QI Q) Qn) 0 40 [(0, .ref (92)), (2, .int (s.1))] [] (s.2)) (hK46 : ∀ s : Int32 × Hp, K46 s → G X M_X9_mostOf E_X9_mostOf (QM X E_X9_mostOf (QI Q) Qn) 0 46 [(0, .ref (92)), (2, .int (v2)), (3, .int (s.1))] [] (s.2)) (hw : w_X9_mostOf_l46 p1 v2 K40 Q K46 v3 h) : G X M_X9_mostOf E_X9_mostOf (QM X E_X9_mostOf (QI Q) Qn) 0 46 [(0, .ref (92)), (2, .int (v2)), (3, .int (v3))] [] h := by
  unfold w_X9_mostOf_l46 at hw
  refine g_iload_n 2 (dk D_X9_mostOf 28 rfl) rfl rfl ?_
  refine g_sipush (dk D_X9_mostOf 29 rfl) ks_2304 ?_
  refine g_icmp_ge (dk D_X9_mostOf 30 rfl) rfl (wif_m hw (fun hw => ?_) (fun hw => ?_))
  · refine g_iinc 1 (dk D_X9_mostOf 116 rfl) rfl (congrArg (fun z => _ + z) ki_m1) (by decide) rfl ?_
    refine g_goto (dk D_X9_mostOf 117 rfl) rfl ?_
    refine g_sub [1, 0] rfl ?_
    exact hK40 ((v2 + (-1 : Int32)), h) hw
  · refine g_iload_n 2 (dk D_X9_mostOf 31 rfl) rfl rfl ?_
    refine g_bipush (dk D_X9_mostOf 32 rfl) kb_9 ?_
    refine g_idiv (dk D_X9_mostOf 33 rfl) (by decide) ?_
    refine g_topi (fun v4_1 ev4_1 => ?_)
    replace hw := hw _ ev4_1
    refine g_istore (dk D_X9_mostOf 34 rfl) (by decide) rfl ?_
    refine g_iload_n 3 (dk D_X9_mostOf 35 rfl) rfl rfl ?_
    refine g_bipush (dk D_X9_mostOf 36 rfl) kb_9 ?_
    refine g_irem (dk D_X9_mostOf 37 rfl) (by decide) ?_
    refine g_topi (fun v5_2 ev5_2 => ?_)
    replace hw := hw _ ev5_2
    refine g_istore (dk D_X9_mostOf 38 rfl) (by decide) rfl ?_
    refine g_aload_n 2 (dk D_X9_mostOf 39 rfl) rfl rfl ?_
    refine g_getR 40 (t := 1362) (dk D_X9_mostOf 40 rfl) kd_92 rfl rfl (by decide) w_1397 rfl rfl rfl ?_
    refine g_iload_n 3 (dk D_X9_mostOf 41 rfl) rfl rfl ?_
    refine g_iconst (dk D_X9_mostOf 42 rfl) ki_1 ?_
    refine g_iadd (dk D_X9_mostOf 43 rfl) ?_
    obtain ⟨hi3, hw⟩ := hw
    refine g_aald (dk D_X9_mostOf 44 rfl) kd_1362 rfl rfl hi3 ?_
    refine g_bipush (dk D_X9_mostOf 45 rfl) kb_9 ?_
    refine g_iload 1 (dk D_X9_mostOf 46 rfl) rfl ?_
    refine g_imul (dk D_X9_mostOf 47 rfl) ?_
    refine g_bipush (dk D_X9_mostOf 48 rfl) kb_8 ?_
    refine g_iadd (dk D_X9_mostOf 49 rfl) ?_
    obtain ⟨hi4, hw⟩ := hw
    refine g_iald (dk D_X9_mostOf 50 rfl) (kdf_1362 _ (in_lt hi3)) hi4 ?_
    refine g_topi (fun v6_5 ev6_5 => ?_)
    replace hw := hw _ ev6_5
    refine g_istore (dk D_X9_mostOf 51 rfl) (by decide) rfl ?_
    refine g_iconst (dk D_X9_mostOf 52 rfl) ki_0 ?_
    refine g_istore (dk D_X9_mostOf 53 rfl) (by decide) rfl ?_
    refine g_sub [4, 5, 6, 3, 2, 1, 0] rfl ?_
    exact t_X9_mostOf_b87 p1 (v2) (v3) (v4_1) (v5_2) K40 K46 (h) Q (v6_5, (0 : Int32)) hK40 hK46 hw
theorem t_X9_mostOf_b46 {X : Cx} (p1 : Int32) (v2 : Int32) (K40 : Int32 × Hp → Prop) (Q : Int32 → Hp → Prop) (s : Int32 × Hp) (hK40 : ∀ s : Int32 × Hp, K40 s → G X M_X9_mostOf E_X9_mostOf (QM X E_X9_mostOf (QI Q) Qn) 0 40 [(0, .ref (92)), (2, .int (s.1))] [] (s.2)) (hw : w_X9_mostOf_b46 p1 v2 K40 Q s) : G X M_X9_mostOf E_X9_mostOf (QM X E_X9_mostOf (QI Q) Qn) 0 46 [(0, .ref (92)), (2, .int (v2)), (3, .int (s.1))] [] (s.2) :=
  wl_ind (B := fun K s => w_X9_mostOf_l46 p1 v2 K40 Q K (s.1) (s.2)) (P := fun s => G X M_X9_mostOf E_X9_mostOf (QM X E_X9_mostOf (QI Q) Qn) 0 46 [(0, .ref (92)), (2, .int (v2)), (3, .int (s.1))] [] (s.2)) (fun K hK s hw => t_X9_mostOf_l46 p1 v2 K40 Q K (s.1) (s.2) hK40 hK hw) s hw
theorem t_X9_mostOf_l40 {X : Cx} (p1 : Int32) (Q : Int32 → Hp → Prop) (K40 : Int32 × Hp → Prop) (v2 : Int32) (h : Hp) (hK40 : ∀ s : Int32 × Hp, K40 s → G X M_X9_mostOf E_X9_mostOf (QM X E_X9_mostOf (QI Q) Qn) 0 40 [(0, .ref (92)), (2, .int (s.1))] [] (s.2)) (hw : w_X9_mostOf_l40 p1 Q K40 v2 h) : G X M_X9_mostOf E_X9_mostOf (QM X E_X9_mostOf (QI Q) Qn) 0 40 [(0, .ref (92)), (2, .int (v2))] [] h := by
  unfold w_X9_mostOf_l40 at hw
  refine g_iload_n 1 (dk D_X9_mostOf 24 rfl) rfl rfl ?_
  refine g_if_lt (dk D_X9_mostOf 25 rfl) rfl (wif_m hw (fun hw => ?_) (fun hw => ?_))
  · refine g_aload_n 0 (dk D_X9_mostOf 118 rfl) rfl rfl ?_
    refine g_getR 40 (t := 1362) (dk D_X9_mostOf 119 rfl) kd_92 rfl rfl (by decide) w_1397 rfl rfl rfl ?_
    refine g_iconst (dk D_X9_mostOf 120 rfl) ki_0 ?_
    obtain ⟨hi1, hw⟩ := hw
    refine g_aald (dk D_X9_mostOf 121 rfl) kd_1362 rfl rfl hi1 ?_
    refine g_bipush (dk D_X9_mostOf 122 rfl) kb_8 ?_
    obtain ⟨hi2, hw⟩ := hw
    refine g_iald (dk D_X9_mostOf 123 rfl) (kdf_1362 _ (in_lt hi1)) hi2 ?_
    exact g_iret (dk D_X9_mostOf 124 rfl) rfl ⟨_, rfl, hw⟩
  · refine g_iconst (dk D_X9_mostOf 26 rfl) ki_0 ?_
    refine g_istore_n (dk D_X9_mostOf 27 rfl) rfl (by decide) rfl ?_
    refine g_sub [1, 2, 0] rfl ?_
    exact t_X9_mostOf_b46 p1 (v2) K40 Q ((0 : Int32), h) hK40 hw
theorem t_X9_mostOf_b40 {X : Cx} (p1 : Int32) (Q : Int32 → Hp → Prop) (s : Int32 × Hp) (hw : w_X9_mostOf_b40 p1 Q s) : G X M_X9_mostOf E_X9_mostOf (QM X E_X9_mostOf (QI Q) Qn) 0 40 [(0, .ref (92)), (2, .int (s.1))] [] (s.2) :=
  wl_ind (B := fun K s => w_X9_mostOf_l40 p1 Q K (s.1) (s.2)) (P := fun s => G X M_X9_mostOf E_X9_mostOf (QM X E_X9_mostOf (QI Q) Qn) 0 40 [(0, .ref (92)), (2, .int (s.1))] [] (s.2)) (fun K hK s hw => t_X9_mostOf_l40 p1 Q K (s.1) (s.2) hK hw) s hw
theorem t_X9_mostOf_l8 {X : Cx} (p1 : Int32) (Q : Int32 → Hp → Prop) (K8 : Int32 × Hp → Prop) (v2 : Int32) (h : Hp) (hK8 : ∀ s : Int32 × Hp, K8 s → G X M_X9_mostOf E_X9_mostOf (QM X E_X9_mostOf (QI Q) Qn) 0 8 [(0, .ref (92)), (2, .int (s.1))] [] (s.2)) (hw : w_X9_mostOf_l8 p1 Q K8 v2 h) : G X M_X9_mostOf E_X9_mostOf (QM X E_X9_mostOf (QI Q) Qn) 0 8 [(0, .ref (92)), (2, .int (v2))] [] h := by
  unfold w_X9_mostOf_l8 at hw
  refine g_iload_n 1 (dk D_X9_mostOf 6 rfl) rfl rfl ?_
  refine g_sipush (dk D_X9_mostOf 7 rfl) ks_2304 ?_
  refine g_icmp_ge (dk D_X9_mostOf 8 rfl) rfl (wif_m hw (fun hw => ?_) (fun hw => ?_))
  · refine g_aload_n 0 (dk D_X9_mostOf 19 rfl) rfl rfl ?_
    refine g_getI 43 (dk D_X9_mostOf 20 rfl) kd_92 rfl rfl (by decide) w_1400 rfl rfl ?_
    refine g_iconst (dk D_X9_mostOf 21 rfl) ki_1 ?_
    refine g_isub (dk D_X9_mostOf 22 rfl) ?_
    refine g_topi (fun v2_1 ev2_1 => ?_)
    replace hw := hw _ ev2_1
    refine g_istore_n (dk D_X9_mostOf 23 rfl) rfl (by decide) rfl ?_
    refine g_sub [1, 0] rfl ?_
    exact t_X9_mostOf_b40 p1 Q (v2_1, h) hw
  · refine g_aload_n 0 (dk D_X9_mostOf 9 rfl) rfl rfl ?_
    refine g_getR 40 (t := 1362) (dk D_X9_mostOf 10 rfl) kd_92 rfl rfl (by decide) w_1397 rfl rfl rfl ?_
    refine g_aload_n 0 (dk D_X9_mostOf 11 rfl) rfl rfl ?_
    refine g_getI 43 (dk D_X9_mostOf 12 rfl) kd_92 rfl rfl (by decide) w_1400 rfl rfl ?_
    obtain ⟨hi2, hw⟩ := hw
    refine g_aald (dk D_X9_mostOf 13 rfl) kd_1362 rfl rfl hi2 ?_
    refine g_iload_n 1 (dk D_X9_mostOf 14 rfl) rfl rfl ?_
    refine g_iconst (dk D_X9_mostOf 15 rfl) ki_0 ?_
    obtain ⟨hi3, hw⟩ := hw
    refine g_iast (dk D_X9_mostOf 16 rfl) (kdf_1362 _ (in_lt hi2)) hi3 ?_
    refine g_heap (fun h4 eh4 => ?_)
    replace hw := hw _ eh4
    refine g_iinc 1 (dk D_X9_mostOf 17 rfl) rfl (congrArg (fun z => _ + z) ki_1) (by decide) rfl ?_
    refine g_goto (dk D_X9_mostOf 18 rfl) rfl ?_
    refine g_sub [1, 0] rfl ?_
    exact hK8 ((v2 + (1 : Int32)), h4) hw
theorem t_X9_mostOf_b8 {X : Cx} (p1 : Int32) (Q : Int32 → Hp → Prop) (s : Int32 × Hp) (hw : w_X9_mostOf_b8 p1 Q s) : G X M_X9_mostOf E_X9_mostOf (QM X E_X9_mostOf (QI Q) Qn) 0 8 [(0, .ref (92)), (2, .int (s.1))] [] (s.2) :=
  wl_ind (B := fun K s => w_X9_mostOf_l8 p1 Q K (s.1) (s.2)) (P := fun s => G X M_X9_mostOf E_X9_mostOf (QM X E_X9_mostOf (QI Q) Qn) 0 8 [(0, .ref (92)), (2, .int (s.1))] [] (s.2)) (fun K hK s hw => t_X9_mostOf_l8 p1 Q K (s.1) (s.2) hK hw) s hw
theorem t_X9_mostOf {X : Cx} (p1 : Int32) (h : Hp) (Q : Int32 → Hp → Prop) (hw : w_X9_mostOf p1 h Q) : G X M_X9_mostOf E_X9_mostOf (QM X E_X9_mostOf (QI Q) Qn) 0 0 [(0, .ref (92)), (1, .int (p1))] [] h := by
  unfold w_X9_mostOf at hw
  refine g_aload_n 0 (dk D_X9_mostOf 0 rfl) rfl rfl ?_
  refine g_iload_n 1 (dk D_X9_mostOf 1 rfl) rfl rfl ?_
  refine g_iconst (dk D_X9_mostOf 2 rfl) ki_0 ?_
  refine g_callV (As := [.int (p1), .int ((0 : Int32))]) (kc := 0) (fr := 5) (lo := 172) (mc := 0) (My := M_X9_layCoins) (dk D_X9_mostOf 3 rfl) kd_92 rfl rfl w_1777 w_1779 w_83 w_110 w_1780 okD_X9_layCoins (by decide) (Nat.le_of_ble_eq_true rfl) rfl (c_X9_layCoins (p1) ((0 : Int32)) (h) _ hw) kxN (kV (fun h1 hw => ?_))
  refine g_iconst (dk D_X9_mostOf 4 rfl) ki_0 ?_
  refine g_istore_n (dk D_X9_mostOf 5 rfl) rfl (by decide) rfl ?_
  refine g_sub [1, 0] rfl ?_
  exact t_X9_mostOf_b8 p1 Q ((0 : Int32), h1) hw
theorem c_X9_mostOf {X : Cx} (p1 : Int32) (h : Hp) (Q : Int32 → Hp → Prop) (hw : w_X9_mostOf p1 h Q) : Con X yX9_mostOf M_X9_mostOf 6 207 0 [.ref (92), .int (p1)] h (QI Q) Qn :=
  con_of (by decide +kernel) rfl (Nat.le_of_ble_eq_true rfl) (t_X9_mostOf p1 h Q hw)
/-! ShadowTollsModel.most(I)I -/
abbrev M_X9_most : Mi := (RX9, cX9_most, 2, (some .int))
abbrev E_X9_most : Rm := (7, 243, 0, 0)
def rows_X9_most : List (Nat × Instr × Nat) := [(0, .aload_n 0, 1), (1, .iconst 0, 1), (2, .putfield 111, 3), (5, .aload_n 0, 1), (6, .iload_n 1, 1), (7, .invokestatic 281, 3), (10, .ifCond .ne 7, 3), (13, .iconst 1, 1), (14, .goto 4, 3), (17, .iconst 0, 1), (18, .iconst 1, 1), (19, .invokevirtual 202, 3), (22, .ifCond .eq 5, 3), (25, .iconst 0, 1), (26, .ireturn, 1), (27, .aload_n 0, 1), (28, .iload_n 1, 1), (29, .invokevirtual 389, 3), (32, .ireturn, 1)]
theorem D_X9_most : dkA cX9_most rows_X9_most := by
  unfold dkA
  decide +kernel
theorem okD_X9_most : okD yX9_most 1 := by
  unfold okD
  decide +kernel
def w_X9_most (p1 : Int32) (h : Hp) (Q : Int32 → Hp → Prop) : Prop :=
  wlet (hup h 92 0 (0 : Int32)) (fun h1 => w_X9_isDay (p1) h1 (fun z2 => w_X9_bad ((if ¬ z2 = 0 then (0 : Int32) else (1 : Int32))) ((1 : Int32)) h1 (fun z4 h5 => wif (z4 = 0) (w_X9_mostOf (p1) h5 (fun z6 h7 => Q z6 h7)) (Q (0 : Int32) h5))))
theorem t_X9_most {X : Cx} (p1 : Int32) (h : Hp) (Q : Int32 → Hp → Prop) (hw : w_X9_most p1 h Q) : G X M_X9_most E_X9_most (QM X E_X9_most (QI Q) Qn) 0 0 [(0, .ref (92)), (1, .int (p1))] [] h := by
  unfold w_X9_most at hw
  refine g_aload_n 0 (dk D_X9_most 0 rfl) rfl rfl ?_
  refine g_iconst (dk D_X9_most 1 rfl) ki_0 ?_
  refine g_put 0 (dk D_X9_most 2 rfl) kd_92 rfl rfl (by decide) w_1357 rfl tyX9_ok nmX9 rfl (by decide) rfl (fun z => absurd z (by decide)) ?_
  refine g_heap (fun h1 eh1 => ?_)
  replace hw := hw _ eh1
  refine g_aload_n 0 (dk D_X9_most 3 rfl) rfl rfl ?_
  refine g_iload_n 1 (dk D_X9_most 4 rfl) rfl rfl ?_
  refine g_callS (As := [.int (p1)]) (kc := 0) (fr := 1) (lo := 30) (mc := 0) (My := M_X9_isDay) (dk D_X9_most 5 rfl) w_1676 w_1677 w_110 w_1678 okD_X9_isDay (by decide) (Nat.le_of_ble_eq_true rfl) rfl (c_X9_isDay (p1) (h1) _ hw) kxN (kIp (fun z2 hw => ?_))
  have hj : G X M_X9_most E_X9_most (QM X E_X9_most (QI Q) Qn) 0 18 [(0, .ref (92)), (1, .int (p1))] [.int ((if ¬ z2 = 0 then (0 : Int32) else (1 : Int32))), .ref (92)] (h1) := by
    refine g_iconst (dk D_X9_most 10 rfl) ki_1 ?_
    refine g_callV (As := [.int ((if ¬ z2 = 0 then (0 : Int32) else (1 : Int32))), .int ((1 : Int32))]) (kc := 0) (fr := 0) (lo := 0) (mc := 0) (My := M_X9_bad) (dk D_X9_most 11 rfl) kd_92 rfl rfl w_1530 w_1532 w_42 w_110 w_1533 okD_X9_bad (by decide) (Nat.le_of_ble_eq_true rfl) rfl (c_X9_bad ((if ¬ z2 = 0 then (0 : Int32) else (1 : Int32))) ((1 : Int32)) (h1) _ hw) kxN (kI (fun z4 h5 hw => ?_))
    refine g_if_eq (dk D_X9_most 12 rfl) rfl (wif_m hw (fun hw => ?_) (fun hw => ?_))
    · refine g_aload_n 0 (dk D_X9_most 15 rfl) rfl rfl ?_
      refine g_iload_n 1 (dk D_X9_most 16 rfl) rfl rfl ?_
      refine g_callV (As := [.int (p1)]) (kc := 0) (fr := 6) (lo := 207) (mc := 0) (My := M_X9_mostOf) (dk D_X9_most 17 rfl) kd_92 rfl rfl w_1821 w_1823 w_91 w_110 w_1824 okD_X9_mostOf (by decide) (Nat.le_of_ble_eq_true rfl) rfl (c_X9_mostOf (p1) (h5) _ hw) kxN (kI (fun z6 h7 hw => ?_))
      exact g_iret (dk D_X9_most 18 rfl) rfl ⟨_, rfl, hw⟩
    · refine g_iconst (dk D_X9_most 13 rfl) ki_0 ?_
      exact g_iret (dk D_X9_most 14 rfl) rfl ⟨_, rfl, hw⟩
  refine g_if_ne (dk D_X9_most 6 rfl) rfl ?_
  by_cases c3 : ¬ z2 = 0
  · rw [if_pos c3] at hj
    refine wif_p c3 ?_
    refine g_iconst (dk D_X9_most 9 rfl) ki_0 ?_
    exact hj
  · rw [if_neg c3] at hj
    refine wif_n c3 ?_
    refine g_iconst (dk D_X9_most 7 rfl) ki_1 ?_
    refine g_goto (dk D_X9_most 8 rfl) rfl ?_
    exact hj
theorem c_X9_most {X : Cx} (p1 : Int32) (h : Hp) (Q : Int32 → Hp → Prop) (hw : w_X9_most p1 h Q) : Con X yX9_most M_X9_most 7 243 0 [.ref (92), .int (p1)] h (QI Q) Qn :=
  con_of (by decide +kernel) rfl (Nat.le_of_ble_eq_true rfl) (t_X9_most p1 h Q hw)
/-! ShadowTollsModel.cross(IIII)I -/
abbrev M_X9_cross : Mi := (RX9, cX9_cross, 5, (some .int))
abbrev E_X9_cross : Rm := (5, 172, 0, 0)
def rows_X9_cross : List (Nat × Instr × Nat) := [(0, .aload_n 0, 1), (1, .iconst 0, 1), (2, .putfield 111, 3), (5, .aload_n 0, 1), (6, .aload_n 0, 1), (7, .iload_n 1, 1), (8, .invokevirtual 290, 3), (11, .ifCond .ne 7, 3), (14, .iconst 1, 1), (15, .goto 4, 3), (18, .iconst 0, 1), (19, .iconst 1, 1), (20, .invokevirtual 202, 3), (23, .ifCond .ne 52, 3), (26, .aload_n 0, 1), (27, .aload_n 0, 1), (28, .iload_n 2, 1), (29, .invokevirtual 278, 3), (32, .ifCond .ne 7, 3), (35, .iconst 1, 1), (36, .goto 4, 3), (39, .iconst 0, 1), (40, .iconst 2, 1), (41, .invokevirtual 202, 3), (44, .ifCond .ne 31, 3), (47, .aload_n 0, 1), (48, .iload_n 3, 1), (49, .invokestatic 281, 3), (52, .ifCond .eq 11, 3), (55, .iload 4, 2), (57, .invokestatic 293, 3), (60, .ifCond .ne 7, 3), (63, .iconst 1, 1), (64, .goto 4, 3), (67, .iconst 0, 1), (68, .iconst 3, 1), (69, .invokevirtual 202, 3), (72, .ifCond .eq 5, 3), (75, .iconst 0, 1), (76, .ireturn, 1), (77, .aload_n 0, 1), (78, .getfield 212, 3), (81, .bipush 60, 2), (83, .if_icmp .ne 5, 3), (86, .iconst (-1), 1), (87, .ireturn, 1), (88, .aload_n 0, 1), (89, .iload_n 2, 1), (90, .iload 4, 2), (92, .invokevirtual 320, 3), (95, .ifCond .ne 6, 3), (98, .bipush (-2), 2), (100, .ireturn, 1), (101, .aload_n 0, 1), (102, .getfield 70, 3), (105, .aload_n 0, 1), (106, .getfield 212, 3), (109, .aaload, 1), (110, .iconst 0, 1), (111, .iload_n 3, 1), (112, .iastore, 1), (113, .aload_n 0, 1), (114, .getfield 70, 3), (117, .aload_n 0, 1), (118, .getfield 212, 3), (121, .aaload, 1), (122, .iconst 1, 1), (123, .aload_n 0, 1), (124, .iload_n 1, 1), (125, .iload_n 2, 1), (126, .iload_n 3, 1), (127, .iload 4, 2), (129, .iconst 0, 1), (130, .invokevirtual 316, 3), (133, .iastore, 1), (134, .aload_n 0, 1), (135, .dup, 1), (136, .getfield 212, 3), (139, .iconst 1, 1), (140, .iadd, 1), (141, .putfield 212, 3), (144, .aload_n 0, 1), (145, .getfield 70, 3), (148, .aload_n 0, 1), (149, .getfield 212, 3), (152, .iconst 1, 1), (153, .isub, 1), (154, .aaload, 1), (155, .iconst 1, 1), (156, .iaload, 1), (157, .ireturn, 1)]
theorem D_X9_cross : dkA cX9_cross rows_X9_cross := by
  unfold dkA
  decide +kernel
theorem okD_X9_cross : okD yX9_cross 4 := by
  unfold okD
  decide +kernel
def w_X9_cross_b68 (p1 : Int32) (p2 : Int32) (p3 : Int32) (p4 : Int32) (s0 : Int32) (h : Hp) (Q : Int32 → Hp → Prop) : Prop :=
  w_X9_bad (s0) ((3 : Int32)) h (fun z1 h2 => wif (z1 = 0) (wif (¬ (h2 92 30) = (60 : Int32)) (w_X9_canCome (p2) (p4) h2 (fun z3 => wif (¬ z3 = 0) ((vp_in (h2 92 30) 60 ∧ (vp_in (0 : Int32) 2 ∧ wlet (hup h2 (144 + 1 * Int32.toNatClampNeg ((h2 92 30))) (Int32.toNatClampNeg (0 : Int32)) p3) (fun h6 => (vp_in (h6 92 30) 60 ∧ w_X9_coinsOf (p1) (p2) (p3) (p4) ((0 : Int32)) h6 (fun z8 h9 => (vp_in (1 : Int32) 2 ∧ wlet (hup h9 (144 + 1 * Int32.toNatClampNeg ((h6 92 30))) (Int32.toNatClampNeg (1 : Int32)) z8) (fun h11 => wlet (hup h11 92 30 ((h11 92 30) + (1 : Int32))) (fun h12 => (vp_in ((h12 92 30) - (1 : Int32)) 60 ∧ (vp_in (1 : Int32) 2 ∧ Q (h12 (144 + 1 * Int32.toNatClampNeg (((h12 92 30) - (1 : Int32)))) (Int32.toNatClampNeg (1 : Int32))) h12))))))))))) (Q (-2 : Int32) h2))) (Q (-1 : Int32) h2)) (Q (0 : Int32) h2))
def w_X9_cross_b63 (p1 : Int32) (p2 : Int32) (p3 : Int32) (p4 : Int32) (h : Hp) (Q : Int32 → Hp → Prop) : Prop :=
  w_X9_cross_b68 p1 p2 p3 p4 ((1 : Int32)) (h) Q
def w_X9_cross (p1 : Int32) (p2 : Int32) (p3 : Int32) (p4 : Int32) (h : Hp) (Q : Int32 → Hp → Prop) : Prop :=
  wlet (hup h 92 0 (0 : Int32)) (fun h1 => w_X9_isBridge (p1) h1 (fun z2 => w_X9_bad ((if ¬ z2 = 0 then (0 : Int32) else (1 : Int32))) ((1 : Int32)) h1 (fun z4 h5 => wif (¬ z4 = 0) (Q (0 : Int32) h5) (w_X9_isWho (p2) h5 (fun z6 => w_X9_bad ((if ¬ z6 = 0 then (0 : Int32) else (1 : Int32))) ((2 : Int32)) h5 (fun z8 h9 => wif (¬ z8 = 0) (Q (0 : Int32) h9) (w_X9_isDay (p3) h9 (fun z10 => wif (z10 = 0) (w_X9_cross_b63 p1 p2 p3 p4 (h9) Q) (w_X9_isMinute (p4) h9 (fun z11 => w_X9_bad ((if ¬ z11 = 0 then (0 : Int32) else (1 : Int32))) ((3 : Int32)) h9 (fun z13 h14 => wif (z13 = 0) (wif (¬ (h14 92 30) = (60 : Int32)) (w_X9_canCome (p2) (p4) h14 (fun z15 => wif (¬ z15 = 0) ((vp_in (h14 92 30) 60 ∧ (vp_in (0 : Int32) 2 ∧ wlet (hup h14 (144 + 1 * Int32.toNatClampNeg ((h14 92 30))) (Int32.toNatClampNeg (0 : Int32)) p3) (fun h18 => (vp_in (h18 92 30) 60 ∧ w_X9_coinsOf (p1) (p2) (p3) (p4) ((0 : Int32)) h18 (fun z20 h21 => (vp_in (1 : Int32) 2 ∧ wlet (hup h21 (144 + 1 * Int32.toNatClampNeg ((h18 92 30))) (Int32.toNatClampNeg (1 : Int32)) z20) (fun h23 => wlet (hup h23 92 30 ((h23 92 30) + (1 : Int32))) (fun h24 => (vp_in ((h24 92 30) - (1 : Int32)) 60 ∧ (vp_in (1 : Int32) 2 ∧ Q (h24 (144 + 1 * Int32.toNatClampNeg (((h24 92 30) - (1 : Int32)))) (Int32.toNatClampNeg (1 : Int32))) h24))))))))))) (Q (-2 : Int32) h14))) (Q (-1 : Int32) h14)) (Q (0 : Int32) h14))))))))))))
theorem t_X9_cross_b68 {X : Cx} (p1 : Int32) (p2 : Int32) (p3 : Int32) (p4 : Int32) (s0 : Int32) (h : Hp) (Q : Int32 → Hp → Prop) (hw : w_X9_cross_b68 p1 p2 p3 p4 s0 h Q) : G X M_X9_cross E_X9_cross (QM X E_X9_cross (QI Q) Qn) 0 68 [(0, .ref (92)), (1, .int (p1)), (2, .int (p2)), (3, .int (p3)), (4, .int (p4))] [.int (s0), .ref (92)] h := by
  unfold w_X9_cross_b68 at hw
  refine g_iconst (dk D_X9_cross 35 rfl) ki_3 ?_
  refine g_callV (As := [.int (s0), .int ((3 : Int32))]) (kc := 0) (fr := 0) (lo := 0) (mc := 0) (My := M_X9_bad) (dk D_X9_cross 36 rfl) kd_92 rfl rfl w_1530 w_1532 w_42 w_110 w_1533 okD_X9_bad (by decide) (Nat.le_of_ble_eq_true rfl) rfl (c_X9_bad (s0) ((3 : Int32)) (h) _ hw) kxN (kI (fun z1 h2 hw => ?_))
  refine g_if_eq (dk D_X9_cross 37 rfl) rfl (wif_m hw (fun hw => ?_) (fun hw => ?_))
  · refine g_aload_n 0 (dk D_X9_cross 40 rfl) rfl rfl ?_
    refine g_getI 30 (dk D_X9_cross 41 rfl) kd_92 rfl rfl (by decide) w_1387 rfl rfl ?_
    refine g_bipush (dk D_X9_cross 42 rfl) kb_60 ?_
    refine g_icmp_ne (dk D_X9_cross 43 rfl) rfl (wif_m hw (fun hw => ?_) (fun hw => ?_))
    · refine g_aload_n 0 (dk D_X9_cross 46 rfl) rfl rfl ?_
      refine g_iload_n 2 (dk D_X9_cross 47 rfl) rfl rfl ?_
      refine g_iload 4 (dk D_X9_cross 48 rfl) rfl ?_
      refine g_callV (As := [.int (p2), .int (p4)]) (kc := 0) (fr := 1) (lo := 30) (mc := 0) (My := M_X9_canCome) (dk D_X9_cross 49 rfl) kd_92 rfl rfl w_1741 w_1743 w_77 w_110 w_1744 okD_X9_canCome (by decide) (Nat.le_of_ble_eq_true rfl) rfl (c_X9_canCome (p2) (p4) (h2) _ hw) kxN (kIp (fun z3 hw => ?_))
      refine g_if_ne (dk D_X9_cross 50 rfl) rfl (wif_m hw (fun hw => ?_) (fun hw => ?_))
      · refine g_aload_n 0 (dk D_X9_cross 53 rfl) rfl rfl ?_
        refine g_getR 33 (t := 143) (dk D_X9_cross 54 rfl) kd_92 rfl rfl (by decide) w_1390 rfl rfl rfl ?_
        refine g_aload_n 0 (dk D_X9_cross 55 rfl) rfl rfl ?_
        refine g_getI 30 (dk D_X9_cross 56 rfl) kd_92 rfl rfl (by decide) w_1387 rfl rfl ?_
        obtain ⟨hi4, hw⟩ := hw
        refine g_aald (dk D_X9_cross 57 rfl) kd_143 rfl rfl hi4 ?_
        refine g_iconst (dk D_X9_cross 58 rfl) ki_0 ?_
        refine g_iload_n 3 (dk D_X9_cross 59 rfl) rfl rfl ?_
        obtain ⟨hi5, hw⟩ := hw
        refine g_iast (dk D_X9_cross 60 rfl) (kdf_143 _ (in_lt hi4)) hi5 ?_
        refine g_heap (fun h6 eh6 => ?_)
        replace hw := hw _ eh6
        refine g_aload_n 0 (dk D_X9_cross 61 rfl) rfl rfl ?_
        refine g_getR 33 (t := 143) (dk D_X9_cross 62 rfl) kd_92 rfl rfl (by decide) w_1390 rfl rfl rfl ?_
        refine g_aload_n 0 (dk D_X9_cross 63 rfl) rfl rfl ?_
        refine g_getI 30 (dk D_X9_cross 64 rfl) kd_92 rfl rfl (by decide) w_1387 rfl rfl ?_
        obtain ⟨hi7, hw⟩ := hw
        refine g_aald (dk D_X9_cross 65 rfl) kd_143 rfl rfl hi7 ?_
        refine g_iconst (dk D_X9_cross 66 rfl) ki_1 ?_
        refine g_aload_n 0 (dk D_X9_cross 67 rfl) rfl rfl ?_
        refine g_iload_n 1 (dk D_X9_cross 68 rfl) rfl rfl ?_
        refine g_iload_n 2 (dk D_X9_cross 69 rfl) rfl rfl ?_
        refine g_iload_n 3 (dk D_X9_cross 70 rfl) rfl rfl ?_
        refine g_iload 4 (dk D_X9_cross 71 rfl) rfl ?_
        refine g_iconst (dk D_X9_cross 72 rfl) ki_0 ?_
        refine g_callV (As := [.int (p1), .int (p2), .int (p3), .int (p4), .int ((0 : Int32))]) (kc := 0) (fr := 4) (lo := 136) (mc := 0) (My := M_X9_coinsOf) (dk D_X9_cross 73 rfl) kd_92 rfl rfl w_1717 w_1719 w_73 w_110 w_1720 okD_X9_coinsOf (by decide) (Nat.le_of_ble_eq_true rfl) rfl (c_X9_coinsOf (p1) (p2) (p3) (p4) ((0 : Int32)) (h6) _ hw) kxN (kI (fun z8 h9 hw => ?_))
        obtain ⟨hi10, hw⟩ := hw
        refine g_iast (dk D_X9_cross 74 rfl) (kdf_143 _ (in_lt hi7)) hi10 ?_
        refine g_heap (fun h11 eh11 => ?_)
        replace hw := hw _ eh11
        refine g_aload_n 0 (dk D_X9_cross 75 rfl) rfl rfl ?_
        refine g_dup (dk D_X9_cross 76 rfl) rfl ?_
        refine g_getI 30 (dk D_X9_cross 77 rfl) kd_92 rfl rfl (by decide) w_1387 rfl rfl ?_
        refine g_iconst (dk D_X9_cross 78 rfl) ki_1 ?_
        refine g_iadd (dk D_X9_cross 79 rfl) ?_
        refine g_put 30 (dk D_X9_cross 80 rfl) kd_92 rfl rfl (by decide) w_1387 rfl tyX9_ok nmX9 rfl (by decide) rfl (fun z => absurd z (by decide)) ?_
        refine g_heap (fun h12 eh12 => ?_)
        replace hw := hw _ eh12
        refine g_aload_n 0 (dk D_X9_cross 81 rfl) rfl rfl ?_
        refine g_getR 33 (t := 143) (dk D_X9_cross 82 rfl) kd_92 rfl rfl (by decide) w_1390 rfl rfl rfl ?_
        refine g_aload_n 0 (dk D_X9_cross 83 rfl) rfl rfl ?_
        refine g_getI 30 (dk D_X9_cross 84 rfl) kd_92 rfl rfl (by decide) w_1387 rfl rfl ?_
        refine g_iconst (dk D_X9_cross 85 rfl) ki_1 ?_
        refine g_isub (dk D_X9_cross 86 rfl) ?_
        obtain ⟨hi13, hw⟩ := hw
        refine g_aald (dk D_X9_cross 87 rfl) kd_143 rfl rfl hi13 ?_
        refine g_iconst (dk D_X9_cross 88 rfl) ki_1 ?_
        obtain ⟨hi14, hw⟩ := hw
        refine g_iald (dk D_X9_cross 89 rfl) (kdf_143 _ (in_lt hi13)) hi14 ?_
        exact g_iret (dk D_X9_cross 90 rfl) rfl ⟨_, rfl, hw⟩
      · refine g_bipush (dk D_X9_cross 51 rfl) kb_m2 ?_
        exact g_iret (dk D_X9_cross 52 rfl) rfl ⟨_, rfl, hw⟩
    · refine g_iconst (dk D_X9_cross 44 rfl) ki_m1 ?_
      exact g_iret (dk D_X9_cross 45 rfl) rfl ⟨_, rfl, hw⟩
  · refine g_iconst (dk D_X9_cross 38 rfl) ki_0 ?_
    exact g_iret (dk D_X9_cross 39 rfl) rfl ⟨_, rfl, hw⟩
theorem t_X9_cross_b63 {X : Cx} (p1 : Int32) (p2 : Int32) (p3 : Int32) (p4 : Int32) (h : Hp) (Q : Int32 → Hp → Prop) (hw : w_X9_cross_b63 p1 p2 p3 p4 h Q) : G X M_X9_cross E_X9_cross (QM X E_X9_cross (QI Q) Qn) 0 63 [(0, .ref (92)), (1, .int (p1)), (2, .int (p2)), (3, .int (p3)), (4, .int (p4))] [.ref (92)] h := by
  unfold w_X9_cross_b63 at hw
  refine g_iconst (dk D_X9_cross 32 rfl) ki_1 ?_
  refine g_goto (dk D_X9_cross 33 rfl) rfl ?_
  exact t_X9_cross_b68 p1 p2 p3 p4 ((1 : Int32)) (h) Q hw
theorem t_X9_cross {X : Cx} (p1 : Int32) (p2 : Int32) (p3 : Int32) (p4 : Int32) (h : Hp) (Q : Int32 → Hp → Prop) (hw : w_X9_cross p1 p2 p3 p4 h Q) : G X M_X9_cross E_X9_cross (QM X E_X9_cross (QI Q) Qn) 0 0 [(0, .ref (92)), (1, .int (p1)), (2, .int (p2)), (3, .int (p3)), (4, .int (p4))] [] h := by
  unfold w_X9_cross at hw
  refine g_aload_n 0 (dk D_X9_cross 0 rfl) rfl rfl ?_
  refine g_iconst (dk D_X9_cross 1 rfl) ki_0 ?_
  refine g_put 0 (dk D_X9_cross 2 rfl) kd_92 rfl rfl (by decide) w_1357 rfl tyX9_ok nmX9 rfl (by decide) rfl (fun z => absurd z (by decide)) ?_
  refine g_heap (fun h1 eh1 => ?_)
  replace hw := hw _ eh1
  refine g_aload_n 0 (dk D_X9_cross 3 rfl) rfl rfl ?_
  refine g_aload_n 0 (dk D_X9_cross 4 rfl) rfl rfl ?_
  refine g_iload_n 1 (dk D_X9_cross 5 rfl) rfl rfl ?_
  refine g_callV (As := [.int (p1)]) (kc := 0) (fr := 0) (lo := 0) (mc := 0) (My := M_X9_isBridge) (dk D_X9_cross 6 rfl) kd_92 rfl rfl w_1687 w_1689 w_70 w_110 w_1690 okD_X9_isBridge (by decide) (Nat.le_of_ble_eq_true rfl) rfl (c_X9_isBridge (p1) (h1) _ hw) kxN (kIp (fun z2 hw => ?_))
  have hj : G X M_X9_cross E_X9_cross (QM X E_X9_cross (QI Q) Qn) 0 19 [(0, .ref (92)), (1, .int (p1)), (2, .int (p2)), (3, .int (p3)), (4, .int (p4))] [.int ((if ¬ z2 = 0 then (0 : Int32) else (1 : Int32))), .ref (92)] (h1) := by
    refine g_iconst (dk D_X9_cross 11 rfl) ki_1 ?_
    refine g_callV (As := [.int ((if ¬ z2 = 0 then (0 : Int32) else (1 : Int32))), .int ((1 : Int32))]) (kc := 0) (fr := 0) (lo := 0) (mc := 0) (My := M_X9_bad) (dk D_X9_cross 12 rfl) kd_92 rfl rfl w_1530 w_1532 w_42 w_110 w_1533 okD_X9_bad (by decide) (Nat.le_of_ble_eq_true rfl) rfl (c_X9_bad ((if ¬ z2 = 0 then (0 : Int32) else (1 : Int32))) ((1 : Int32)) (h1) _ hw) kxN (kI (fun z4 h5 hw => ?_))
    refine g_if_ne (dk D_X9_cross 13 rfl) rfl (wif_m hw (fun hw => ?_) (fun hw => ?_))
    · refine g_iconst (dk D_X9_cross 38 rfl) ki_0 ?_
      exact g_iret (dk D_X9_cross 39 rfl) rfl ⟨_, rfl, hw⟩
    · refine g_aload_n 0 (dk D_X9_cross 14 rfl) rfl rfl ?_
      refine g_aload_n 0 (dk D_X9_cross 15 rfl) rfl rfl ?_
      refine g_iload_n 2 (dk D_X9_cross 16 rfl) rfl rfl ?_
      refine g_callV (As := [.int (p2)]) (kc := 0) (fr := 1) (lo := 30) (mc := 0) (My := M_X9_isWho) (dk D_X9_cross 17 rfl) kd_92 rfl rfl w_1668 w_1670 w_68 w_110 w_1671 okD_X9_isWho (by decide) (Nat.le_of_ble_eq_true rfl) rfl (c_X9_isWho (p2) (h5) _ hw) kxN (kIp (fun z6 hw => ?_))
      have hj : G X M_X9_cross E_X9_cross (QM X E_X9_cross (QI Q) Qn) 0 40 [(0, .ref (92)), (1, .int (p1)), (2, .int (p2)), (3, .int (p3)), (4, .int (p4))] [.int ((if ¬ z6 = 0 then (0 : Int32) else (1 : Int32))), .ref (92)] (h5) := by
        refine g_iconst (dk D_X9_cross 22 rfl) ki_2 ?_
        refine g_callV (As := [.int ((if ¬ z6 = 0 then (0 : Int32) else (1 : Int32))), .int ((2 : Int32))]) (kc := 0) (fr := 0) (lo := 0) (mc := 0) (My := M_X9_bad) (dk D_X9_cross 23 rfl) kd_92 rfl rfl w_1530 w_1532 w_42 w_110 w_1533 okD_X9_bad (by decide) (Nat.le_of_ble_eq_true rfl) rfl (c_X9_bad ((if ¬ z6 = 0 then (0 : Int32) else (1 : Int32))) ((2 : Int32)) (h5) _ hw) kxN (kI (fun z8 h9 hw => ?_))
        refine g_if_ne (dk D_X9_cross 24 rfl) rfl (wif_m hw (fun hw => ?_) (fun hw => ?_))
        · refine g_iconst (dk D_X9_cross 38 rfl) ki_0 ?_
          exact g_iret (dk D_X9_cross 39 rfl) rfl ⟨_, rfl, hw⟩
        · refine g_aload_n 0 (dk D_X9_cross 25 rfl) rfl rfl ?_
          refine g_iload_n 3 (dk D_X9_cross 26 rfl) rfl rfl ?_
          refine g_callS (As := [.int (p3)]) (kc := 0) (fr := 1) (lo := 30) (mc := 0) (My := M_X9_isDay) (dk D_X9_cross 27 rfl) w_1676 w_1677 w_110 w_1678 okD_X9_isDay (by decide) (Nat.le_of_ble_eq_true rfl) rfl (c_X9_isDay (p3) (h9) _ hw) kxN (kIp (fun z10 hw => ?_))
          refine g_if_eq (dk D_X9_cross 28 rfl) rfl (wif_m hw (fun hw => ?_) (fun hw => ?_))
          · exact t_X9_cross_b63 p1 p2 p3 p4 (h9) Q hw
          · refine g_iload 4 (dk D_X9_cross 29 rfl) rfl ?_
            refine g_callS (As := [.int (p4)]) (kc := 0) (fr := 1) (lo := 30) (mc := 0) (My := M_X9_isMinute) (dk D_X9_cross 30 rfl) w_1691 w_1692 w_110 w_1693 okD_X9_isMinute (by decide) (Nat.le_of_ble_eq_true rfl) rfl (c_X9_isMinute (p4) (h9) _ hw) kxN (kIp (fun z11 hw => ?_))
            have hj : G X M_X9_cross E_X9_cross (QM X E_X9_cross (QI Q) Qn) 0 68 [(0, .ref (92)), (1, .int (p1)), (2, .int (p2)), (3, .int (p3)), (4, .int (p4))] [.int ((if ¬ z11 = 0 then (0 : Int32) else (1 : Int32))), .ref (92)] (h9) := by
              refine g_iconst (dk D_X9_cross 35 rfl) ki_3 ?_
              refine g_callV (As := [.int ((if ¬ z11 = 0 then (0 : Int32) else (1 : Int32))), .int ((3 : Int32))]) (kc := 0) (fr := 0) (lo := 0) (mc := 0) (My := M_X9_bad) (dk D_X9_cross 36 rfl) kd_92 rfl rfl w_1530 w_1532 w_42 w_110 w_1533 okD_X9_bad (by decide) (Nat.le_of_ble_eq_true rfl) rfl (c_X9_bad ((if ¬ z11 = 0 then (0 : Int32) else (1 : Int32))) ((3 : Int32)) (h9) _ hw) kxN (kI (fun z13 h14 hw => ?_))
              refine g_if_eq (dk D_X9_cross 37 rfl) rfl (wif_m hw (fun hw => ?_) (fun hw => ?_))
              · refine g_aload_n 0 (dk D_X9_cross 40 rfl) rfl rfl ?_
                refine g_getI 30 (dk D_X9_cross 41 rfl) kd_92 rfl rfl (by decide) w_1387 rfl rfl ?_
                refine g_bipush (dk D_X9_cross 42 rfl) kb_60 ?_
                refine g_icmp_ne (dk D_X9_cross 43 rfl) rfl (wif_m hw (fun hw => ?_) (fun hw => ?_))
                · refine g_aload_n 0 (dk D_X9_cross 46 rfl) rfl rfl ?_
                  refine g_iload_n 2 (dk D_X9_cross 47 rfl) rfl rfl ?_
                  refine g_iload 4 (dk D_X9_cross 48 rfl) rfl ?_
                  refine g_callV (As := [.int (p2), .int (p4)]) (kc := 0) (fr := 1) (lo := 30) (mc := 0) (My := M_X9_canCome) (dk D_X9_cross 49 rfl) kd_92 rfl rfl w_1741 w_1743 w_77 w_110 w_1744 okD_X9_canCome (by decide) (Nat.le_of_ble_eq_true rfl) rfl (c_X9_canCome (p2) (p4) (h14) _ hw) kxN (kIp (fun z15 hw => ?_))
                  refine g_if_ne (dk D_X9_cross 50 rfl) rfl (wif_m hw (fun hw => ?_) (fun hw => ?_))
                  · refine g_aload_n 0 (dk D_X9_cross 53 rfl) rfl rfl ?_
                    refine g_getR 33 (t := 143) (dk D_X9_cross 54 rfl) kd_92 rfl rfl (by decide) w_1390 rfl rfl rfl ?_
                    refine g_aload_n 0 (dk D_X9_cross 55 rfl) rfl rfl ?_
                    refine g_getI 30 (dk D_X9_cross 56 rfl) kd_92 rfl rfl (by decide) w_1387 rfl rfl ?_
                    obtain ⟨hi16, hw⟩ := hw
                    refine g_aald (dk D_X9_cross 57 rfl) kd_143 rfl rfl hi16 ?_
                    refine g_iconst (dk D_X9_cross 58 rfl) ki_0 ?_
                    refine g_iload_n 3 (dk D_X9_cross 59 rfl) rfl rfl ?_
                    obtain ⟨hi17, hw⟩ := hw
                    refine g_iast (dk D_X9_cross 60 rfl) (kdf_143 _ (in_lt hi16)) hi17 ?_
                    refine g_heap (fun h18 eh18 => ?_)
                    replace hw := hw _ eh18
                    refine g_aload_n 0 (dk D_X9_cross 61 rfl) rfl rfl ?_
                    refine g_getR 33 (t := 143) (dk D_X9_cross 62 rfl) kd_92 rfl rfl (by decide) w_1390 rfl rfl rfl ?_
                    refine g_aload_n 0 (dk D_X9_cross 63 rfl) rfl rfl ?_
                    refine g_getI 30 (dk D_X9_cross 64 rfl) kd_92 rfl rfl (by decide) w_1387 rfl rfl ?_
                    obtain ⟨hi19, hw⟩ := hw
                    refine g_aald (dk D_X9_cross 65 rfl) kd_143 rfl rfl hi19 ?_
                    refine g_iconst (dk D_X9_cross 66 rfl) ki_1 ?_
                    refine g_aload_n 0 (dk D_X9_cross 67 rfl) rfl rfl ?_
                    refine g_iload_n 1 (dk D_X9_cross 68 rfl) rfl rfl ?_
                    refine g_iload_n 2 (dk D_X9_cross 69 rfl) rfl rfl ?_
                    refine g_iload_n 3 (dk D_X9_cross 70 rfl) rfl rfl ?_
                    refine g_iload 4 (dk D_X9_cross 71 rfl) rfl ?_
                    refine g_iconst (dk D_X9_cross 72 rfl) ki_0 ?_
                    refine g_callV (As := [.int (p1), .int (p2), .int (p3), .int (p4), .int ((0 : Int32))]) (kc := 0) (fr := 4) (lo := 136) (mc := 0) (My := M_X9_coinsOf) (dk D_X9_cross 73 rfl) kd_92 rfl rfl w_1717 w_1719 w_73 w_110 w_1720 okD_X9_coinsOf (by decide) (Nat.le_of_ble_eq_true rfl) rfl (c_X9_coinsOf (p1) (p2) (p3) (p4) ((0 : Int32)) (h18) _ hw) kxN (kI (fun z20 h21 hw => ?_))
                    obtain ⟨hi22, hw⟩ := hw
                    refine g_iast (dk D_X9_cross 74 rfl) (kdf_143 _ (in_lt hi19)) hi22 ?_
                    refine g_heap (fun h23 eh23 => ?_)
                    replace hw := hw _ eh23
                    refine g_aload_n 0 (dk D_X9_cross 75 rfl) rfl rfl ?_
                    refine g_dup (dk D_X9_cross 76 rfl) rfl ?_
                    refine g_getI 30 (dk D_X9_cross 77 rfl) kd_92 rfl rfl (by decide) w_1387 rfl rfl ?_
                    refine g_iconst (dk D_X9_cross 78 rfl) ki_1 ?_
                    refine g_iadd (dk D_X9_cross 79 rfl) ?_
                    refine g_put 30 (dk D_X9_cross 80 rfl) kd_92 rfl rfl (by decide) w_1387 rfl tyX9_ok nmX9 rfl (by decide) rfl (fun z => absurd z (by decide)) ?_
                    refine g_heap (fun h24 eh24 => ?_)
                    replace hw := hw _ eh24
                    refine g_aload_n 0 (dk D_X9_cross 81 rfl) rfl rfl ?_
                    refine g_getR 33 (t := 143) (dk D_X9_cross 82 rfl) kd_92 rfl rfl (by decide) w_1390 rfl rfl rfl ?_
                    refine g_aload_n 0 (dk D_X9_cross 83 rfl) rfl rfl ?_
                    refine g_getI 30 (dk D_X9_cross 84 rfl) kd_92 rfl rfl (by decide) w_1387 rfl rfl ?_
                    refine g_iconst (dk D_X9_cross 85 rfl) ki_1 ?_
                    refine g_isub (dk D_X9_cross 86 rfl) ?_
                    obtain ⟨hi25, hw⟩ := hw
                    refine g_aald (dk D_X9_cross 87 rfl) kd_143 rfl rfl hi25 ?_
                    refine g_iconst (dk D_X9_cross 88 rfl) ki_1 ?_
                    obtain ⟨hi26, hw⟩ := hw
                    refine g_iald (dk D_X9_cross 89 rfl) (kdf_143 _ (in_lt hi25)) hi26 ?_
                    exact g_iret (dk D_X9_cross 90 rfl) rfl ⟨_, rfl, hw⟩
                  · refine g_bipush (dk D_X9_cross 51 rfl) kb_m2 ?_
                    exact g_iret (dk D_X9_cross 52 rfl) rfl ⟨_, rfl, hw⟩
                · refine g_iconst (dk D_X9_cross 44 rfl) ki_m1 ?_
                  exact g_iret (dk D_X9_cross 45 rfl) rfl ⟨_, rfl, hw⟩
              · refine g_iconst (dk D_X9_cross 38 rfl) ki_0 ?_
                exact g_iret (dk D_X9_cross 39 rfl) rfl ⟨_, rfl, hw⟩
            refine g_if_ne (dk D_X9_cross 31 rfl) rfl ?_
            by_cases c12 : ¬ z11 = 0
            · rw [if_pos c12] at hj
              refine wif_p c12 ?_
              refine g_iconst (dk D_X9_cross 34 rfl) ki_0 ?_
              exact hj
            · rw [if_neg c12] at hj
              refine wif_n c12 ?_
              refine g_iconst (dk D_X9_cross 32 rfl) ki_1 ?_
              refine g_goto (dk D_X9_cross 33 rfl) rfl ?_
              exact hj
      refine g_if_ne (dk D_X9_cross 18 rfl) rfl ?_
      by_cases c7 : ¬ z6 = 0
      · rw [if_pos c7] at hj
        refine wif_p c7 ?_
        refine g_iconst (dk D_X9_cross 21 rfl) ki_0 ?_
        exact hj
      · rw [if_neg c7] at hj
        refine wif_n c7 ?_
        refine g_iconst (dk D_X9_cross 19 rfl) ki_1 ?_
        refine g_goto (dk D_X9_cross 20 rfl) rfl ?_
        exact hj
  refine g_if_ne (dk D_X9_cross 7 rfl) rfl ?_
  by_cases c3 : ¬ z2 = 0
  · rw [if_pos c3] at hj
    refine wif_p c3 ?_
    refine g_iconst (dk D_X9_cross 10 rfl) ki_0 ?_
    exact hj
  · rw [if_neg c3] at hj
    refine wif_n c3 ?_
    refine g_iconst (dk D_X9_cross 8 rfl) ki_1 ?_
    refine g_goto (dk D_X9_cross 9 rfl) rfl ?_
    exact hj
theorem c_X9_cross {X : Cx} (p1 : Int32) (p2 : Int32) (p3 : Int32) (p4 : Int32) (h : Hp) (Q : Int32 → Hp → Prop) (hw : w_X9_cross p1 p2 p3 p4 h Q) : Con X yX9_cross M_X9_cross 5 172 0 [.ref (92), .int (p1), .int (p2), .int (p3), .int (p4)] h (QI Q) Qn :=
  con_of (by decide +kernel) rfl (Nat.le_of_ble_eq_true rfl) (t_X9_cross p1 p2 p3 p4 h Q hw)
/-! ShadowTollsModel.undo()I -/
abbrev M_X9_undo : Mi := (RX9, cX9_undo, 1, (some .int))
abbrev E_X9_undo : Rm := (0, 0, 0, 0)
def rows_X9_undo : List (Nat × Instr × Nat) := [(0, .aload_n 0, 1), (1, .iconst 0, 1), (2, .putfield 111, 3), (5, .aload_n 0, 1), (6, .getfield 212, 3), (9, .ifCond .ne 5, 3), (12, .iconst (-1), 1), (13, .ireturn, 1), (14, .aload_n 0, 1), (15, .dup, 1), (16, .getfield 212, 3), (19, .iconst 1, 1), (20, .isub, 1), (21, .putfield 212, 3), (24, .aload_n 0, 1), (25, .getfield 70, 3), (28, .aload_n 0, 1), (29, .getfield 212, 3), (32, .aaload, 1), (33, .iconst 1, 1), (34, .iaload, 1), (35, .ireturn, 1)]
theorem D_X9_undo : dkA cX9_undo rows_X9_undo := by
  unfold dkA
  decide +kernel
theorem okD_X9_undo : okD yX9_undo 0 := by
  unfold okD
  decide +kernel
def w_X9_undo (h : Hp) (Q : Int32 → Hp → Prop) : Prop :=
  wlet (hup h 92 0 (0 : Int32)) (fun h1 => wif (¬ (h1 92 30) = 0) (wlet (hup h1 92 30 ((h1 92 30) - (1 : Int32))) (fun h2 => (vp_in (h2 92 30) 60 ∧ (vp_in (1 : Int32) 2 ∧ Q (h2 (144 + 1 * Int32.toNatClampNeg ((h2 92 30))) (Int32.toNatClampNeg (1 : Int32))) h2)))) (Q (-1 : Int32) h1))
theorem t_X9_undo {X : Cx} (h : Hp) (Q : Int32 → Hp → Prop) (hw : w_X9_undo h Q) : G X M_X9_undo E_X9_undo (QM X E_X9_undo (QI Q) Qn) 0 0 [(0, .ref (92))] [] h := by
  unfold w_X9_undo at hw
  refine g_aload_n 0 (dk D_X9_undo 0 rfl) rfl rfl ?_
  refine g_iconst (dk D_X9_undo 1 rfl) ki_0 ?_
  refine g_put 0 (dk D_X9_undo 2 rfl) kd_92 rfl rfl (by decide) w_1357 rfl tyX9_ok nmX9 rfl (by decide) rfl (fun z => absurd z (by decide)) ?_
  refine g_heap (fun h1 eh1 => ?_)
  replace hw := hw _ eh1
  refine g_aload_n 0 (dk D_X9_undo 3 rfl) rfl rfl ?_
  refine g_getI 30 (dk D_X9_undo 4 rfl) kd_92 rfl rfl (by decide) w_1387 rfl rfl ?_
  refine g_if_ne (dk D_X9_undo 5 rfl) rfl (wif_m hw (fun hw => ?_) (fun hw => ?_))
  · refine g_aload_n 0 (dk D_X9_undo 8 rfl) rfl rfl ?_
    refine g_dup (dk D_X9_undo 9 rfl) rfl ?_
    refine g_getI 30 (dk D_X9_undo 10 rfl) kd_92 rfl rfl (by decide) w_1387 rfl rfl ?_
    refine g_iconst (dk D_X9_undo 11 rfl) ki_1 ?_
    refine g_isub (dk D_X9_undo 12 rfl) ?_
    refine g_put 30 (dk D_X9_undo 13 rfl) kd_92 rfl rfl (by decide) w_1387 rfl tyX9_ok nmX9 rfl (by decide) rfl (fun z => absurd z (by decide)) ?_
    refine g_heap (fun h2 eh2 => ?_)
    replace hw := hw _ eh2
    refine g_aload_n 0 (dk D_X9_undo 14 rfl) rfl rfl ?_
    refine g_getR 33 (t := 143) (dk D_X9_undo 15 rfl) kd_92 rfl rfl (by decide) w_1390 rfl rfl rfl ?_
    refine g_aload_n 0 (dk D_X9_undo 16 rfl) rfl rfl ?_
    refine g_getI 30 (dk D_X9_undo 17 rfl) kd_92 rfl rfl (by decide) w_1387 rfl rfl ?_
    obtain ⟨hi3, hw⟩ := hw
    refine g_aald (dk D_X9_undo 18 rfl) kd_143 rfl rfl hi3 ?_
    refine g_iconst (dk D_X9_undo 19 rfl) ki_1 ?_
    obtain ⟨hi4, hw⟩ := hw
    refine g_iald (dk D_X9_undo 20 rfl) (kdf_143 _ (in_lt hi3)) hi4 ?_
    exact g_iret (dk D_X9_undo 21 rfl) rfl ⟨_, rfl, hw⟩
  · refine g_iconst (dk D_X9_undo 6 rfl) ki_m1 ?_
    exact g_iret (dk D_X9_undo 7 rfl) rfl ⟨_, rfl, hw⟩
theorem c_X9_undo {X : Cx} (h : Hp) (Q : Int32 → Hp → Prop) (hw : w_X9_undo h Q) : Con X yX9_undo M_X9_undo 0 0 0 [.ref (92)] h (QI Q) Qn :=
  con_of (by decide +kernel) rfl (Nat.le_of_ble_eq_true rfl) (t_X9_undo h Q hw)
/-! ShadowTollsModel.takenOf(I)I -/
abbrev M_X9_takenOf : Mi := (RX9, cX9_takenOf, 4, (some .int))
abbrev E_X9_takenOf : Rm := (0, 0, 0, 0)
def rows_X9_takenOf : List (Nat × Instr × Nat) := [(0, .iconst 0, 1), (1, .istore_n 2, 1), (2, .iconst 0, 1), (3, .istore_n 3, 1), (4, .iload_n 3, 1), (5, .aload_n 0, 1), (6, .getfield 212, 3), (9, .if_icmp .ge 41, 3), (12, .iload_n 2, 1), (13, .iload_n 1, 1), (14, .iconst (-1), 1), (15, .if_icmp .eq 15, 3), (18, .aload_n 0, 1), (19, .getfield 70, 3), (22, .iload_n 3, 1), (23, .aaload, 1), (24, .iconst 0, 1), (25, .iaload, 1), (26, .iload_n 1, 1), (27, .if_icmp .ne 14, 3), (30, .aload_n 0, 1), (31, .getfield 70, 3), (34, .iload_n 3, 1), (35, .aaload, 1), (36, .iconst 1, 1), (37, .iaload, 1), (38, .goto 4, 3), (41, .iconst 0, 1), (42, .iadd, 1), (43, .istore_n 2, 1), (44, .iinc 3 1, 3), (47, .goto (-43), 3), (50, .iload_n 2, 1), (51, .ireturn, 1)]
theorem D_X9_takenOf : dkA cX9_takenOf rows_X9_takenOf := by
  unfold dkA
  decide +kernel
theorem okD_X9_takenOf : okD yX9_takenOf 1 := by
  unfold okD
  decide +kernel
def w_X9_takenOf_b42 (p1 : Int32) (v3 : Int32) (s0 : Int32) (s1 : Int32) (K4 : Int32 × Int32 → Prop) (h : Hp) (Q : Int32 → Prop) : Prop :=
  wlet ((s1 + s0)) (fun v2_1 => K4 (v2_1, (v3 + (1 : Int32))))
def w_X9_takenOf_b30 (p1 : Int32) (v3 : Int32) (s0 : Int32) (K4 : Int32 × Int32 → Prop) (h : Hp) (Q : Int32 → Prop) : Prop :=
  (vp_in v3 60 ∧ (vp_in (1 : Int32) 2 ∧ w_X9_takenOf_b42 p1 (v3) ((h (144 + 1 * Int32.toNatClampNeg (v3)) (Int32.toNatClampNeg (1 : Int32)))) (s0) K4 (h) Q))
def w_X9_takenOf_l4 (p1 : Int32) (h : Hp) (Q : Int32 → Prop) (K4 : Int32 × Int32 → Prop) (v2 : Int32) (v3 : Int32) : Prop :=
  wif ((h 92 30) ≤ v3) (Q v2) (wif (p1 = (-1 : Int32)) (w_X9_takenOf_b30 p1 (v3) (v2) K4 (h) Q) ((vp_in v3 60 ∧ (vp_in (0 : Int32) 2 ∧ wif (¬ (h (144 + 1 * Int32.toNatClampNeg (v3)) (Int32.toNatClampNeg (0 : Int32))) = p1) (w_X9_takenOf_b42 p1 (v3) ((0 : Int32)) (v2) K4 (h) Q) (w_X9_takenOf_b30 p1 (v3) (v2) K4 (h) Q)))))
def w_X9_takenOf_b4 (p1 : Int32) (h : Hp) (Q : Int32 → Prop) (s : Int32 × Int32) : Prop := wl (fun K s => w_X9_takenOf_l4 p1 h Q K s.1 s.2) s
def w_X9_takenOf (p1 : Int32) (h : Hp) (Q : Int32 → Prop) : Prop :=
  w_X9_takenOf_b4 p1 (h) Q ((0 : Int32), (0 : Int32))
theorem t_X9_takenOf_b42 {X : Cx} (p1 : Int32) (v3 : Int32) (s0 : Int32) (s1 : Int32) (K4 : Int32 × Int32 → Prop) (h : Hp) (Q : Int32 → Prop) (hK4 : ∀ s : Int32 × Int32, K4 s → G X M_X9_takenOf E_X9_takenOf (QM X E_X9_takenOf (QIp h Q) Qn) 0 4 [(0, .ref (92)), (1, .int (p1)), (2, .int (s.1)), (3, .int (s.2))] [] (h)) (hw : w_X9_takenOf_b42 p1 v3 s0 s1 K4 h Q) : G X M_X9_takenOf E_X9_takenOf (QM X E_X9_takenOf (QIp h Q) Qn) 0 42 [(0, .ref (92)), (1, .int (p1)), (3, .int (v3))] [.int (s0), .int (s1)] h := by
  unfold w_X9_takenOf_b42 at hw
  refine g_iadd (dk D_X9_takenOf 28 rfl) ?_
  refine g_topi (fun v2_1 ev2_1 => ?_)
  replace hw := hw _ ev2_1
  refine g_istore_n (dk D_X9_takenOf 29 rfl) rfl (by decide) rfl ?_
  refine g_iinc 3 (dk D_X9_takenOf 30 rfl) rfl (congrArg (fun z => _ + z) ki_1) (by decide) rfl ?_
  refine g_goto (dk D_X9_takenOf 31 rfl) rfl ?_
  refine g_sub [2, 3, 1, 0] rfl ?_
  exact hK4 (v2_1, (v3 + (1 : Int32))) hw
theorem t_X9_takenOf_b30 {X : Cx} (p1 : Int32) (v3 : Int32) (s0 : Int32) (K4 : Int32 × Int32 → Prop) (h : Hp) (Q : Int32 → Prop) (hK4 : ∀ s : Int32 × Int32, K4 s → G X M_X9_takenOf E_X9_takenOf (QM X E_X9_takenOf (QIp h Q) Qn) 0 4 [(0, .ref (92)), (1, .int (p1)), (2, .int (s.1)), (3, .int (s.2))] [] (h)) (hw : w_X9_takenOf_b30 p1 v3 s0 K4 h Q) : G X M_X9_takenOf E_X9_takenOf (QM X E_X9_takenOf (QIp h Q) Qn) 0 30 [(0, .ref (92)), (1, .int (p1)), (3, .int (v3))] [.int (s0)] h := by
  unfold w_X9_takenOf_b30 at hw
  refine g_aload_n 0 (dk D_X9_takenOf 20 rfl) rfl rfl ?_
  refine g_getR 33 (t := 143) (dk D_X9_takenOf 21 rfl) kd_92 rfl rfl (by decide) w_1390 rfl rfl rfl ?_
  refine g_iload_n 2 (dk D_X9_takenOf 22 rfl) rfl rfl ?_
  obtain ⟨hi1, hw⟩ := hw
  refine g_aald (dk D_X9_takenOf 23 rfl) kd_143 rfl rfl hi1 ?_
  refine g_iconst (dk D_X9_takenOf 24 rfl) ki_1 ?_
  obtain ⟨hi2, hw⟩ := hw
  refine g_iald (dk D_X9_takenOf 25 rfl) (kdf_143 _ (in_lt hi1)) hi2 ?_
  refine g_goto (dk D_X9_takenOf 26 rfl) rfl ?_
  exact t_X9_takenOf_b42 p1 (v3) ((h (144 + 1 * Int32.toNatClampNeg (v3)) (Int32.toNatClampNeg (1 : Int32)))) (s0) K4 (h) Q hK4 hw
theorem t_X9_takenOf_l4 {X : Cx} (p1 : Int32) (h : Hp) (Q : Int32 → Prop) (K4 : Int32 × Int32 → Prop) (v2 : Int32) (v3 : Int32) (hK4 : ∀ s : Int32 × Int32, K4 s → G X M_X9_takenOf E_X9_takenOf (QM X E_X9_takenOf (QIp h Q) Qn) 0 4 [(0, .ref (92)), (1, .int (p1)), (2, .int (s.1)), (3, .int (s.2))] [] (h)) (hw : w_X9_takenOf_l4 p1 h Q K4 v2 v3) : G X M_X9_takenOf E_X9_takenOf (QM X E_X9_takenOf (QIp h Q) Qn) 0 4 [(0, .ref (92)), (1, .int (p1)), (2, .int (v2)), (3, .int (v3))] [] h := by
  unfold w_X9_takenOf_l4 at hw
  refine g_iload_n 3 (dk D_X9_takenOf 4 rfl) rfl rfl ?_
  refine g_aload_n 0 (dk D_X9_takenOf 5 rfl) rfl rfl ?_
  refine g_getI 30 (dk D_X9_takenOf 6 rfl) kd_92 rfl rfl (by decide) w_1387 rfl rfl ?_
  refine g_icmp_ge (dk D_X9_takenOf 7 rfl) rfl (wif_m hw (fun hw => ?_) (fun hw => ?_))
  · refine g_iload_n 2 (dk D_X9_takenOf 32 rfl) rfl rfl ?_
    exact g_iret (dk D_X9_takenOf 33 rfl) rfl ⟨_, rfl, rfl, hw⟩
  · refine g_iload_n 2 (dk D_X9_takenOf 8 rfl) rfl rfl ?_
    refine g_iload_n 1 (dk D_X9_takenOf 9 rfl) rfl rfl ?_
    refine g_iconst (dk D_X9_takenOf 10 rfl) ki_m1 ?_
    refine g_icmp_eq (dk D_X9_takenOf 11 rfl) rfl (wif_m hw (fun hw => ?_) (fun hw => ?_))
    · refine g_sub [0, 1, 3] rfl ?_
      exact t_X9_takenOf_b30 p1 (v3) (v2) K4 (h) Q hK4 hw
    · refine g_aload_n 0 (dk D_X9_takenOf 12 rfl) rfl rfl ?_
      refine g_getR 33 (t := 143) (dk D_X9_takenOf 13 rfl) kd_92 rfl rfl (by decide) w_1390 rfl rfl rfl ?_
      refine g_iload_n 3 (dk D_X9_takenOf 14 rfl) rfl rfl ?_
      obtain ⟨hi1, hw⟩ := hw
      refine g_aald (dk D_X9_takenOf 15 rfl) kd_143 rfl rfl hi1 ?_
      refine g_iconst (dk D_X9_takenOf 16 rfl) ki_0 ?_
      obtain ⟨hi2, hw⟩ := hw
      refine g_iald (dk D_X9_takenOf 17 rfl) (kdf_143 _ (in_lt hi1)) hi2 ?_
      refine g_iload_n 1 (dk D_X9_takenOf 18 rfl) rfl rfl ?_
      refine g_icmp_ne (dk D_X9_takenOf 19 rfl) rfl (wif_m hw (fun hw => ?_) (fun hw => ?_))
      · refine g_iconst (dk D_X9_takenOf 27 rfl) ki_0 ?_
        refine g_sub [0, 1, 3] rfl ?_
        exact t_X9_takenOf_b42 p1 (v3) ((0 : Int32)) (v2) K4 (h) Q hK4 hw
      · refine g_sub [0, 1, 3] rfl ?_
        exact t_X9_takenOf_b30 p1 (v3) (v2) K4 (h) Q hK4 hw
theorem t_X9_takenOf_b4 {X : Cx} (p1 : Int32) (h : Hp) (Q : Int32 → Prop) (s : Int32 × Int32) (hw : w_X9_takenOf_b4 p1 h Q s) : G X M_X9_takenOf E_X9_takenOf (QM X E_X9_takenOf (QIp h Q) Qn) 0 4 [(0, .ref (92)), (1, .int (p1)), (2, .int (s.1)), (3, .int (s.2))] [] (h) :=
  wl_ind (B := fun K s => w_X9_takenOf_l4 p1 h Q K (s.1) (s.2)) (P := fun s => G X M_X9_takenOf E_X9_takenOf (QM X E_X9_takenOf (QIp h Q) Qn) 0 4 [(0, .ref (92)), (1, .int (p1)), (2, .int (s.1)), (3, .int (s.2))] [] (h)) (fun K hK s hw => t_X9_takenOf_l4 p1 h Q K (s.1) (s.2) hK hw) s hw
theorem t_X9_takenOf {X : Cx} (p1 : Int32) (h : Hp) (Q : Int32 → Prop) (hw : w_X9_takenOf p1 h Q) : G X M_X9_takenOf E_X9_takenOf (QM X E_X9_takenOf (QIp h Q) Qn) 0 0 [(0, .ref (92)), (1, .int (p1))] [] h := by
  unfold w_X9_takenOf at hw
  refine g_iconst (dk D_X9_takenOf 0 rfl) ki_0 ?_
  refine g_istore_n (dk D_X9_takenOf 1 rfl) rfl (by decide) rfl ?_
  refine g_iconst (dk D_X9_takenOf 2 rfl) ki_0 ?_
  refine g_istore_n (dk D_X9_takenOf 3 rfl) rfl (by decide) rfl ?_
  refine g_sub [2, 3, 1, 0] rfl ?_
  exact t_X9_takenOf_b4 p1 (h) Q ((0 : Int32), (0 : Int32)) hw
theorem c_X9_takenOf {X : Cx} (p1 : Int32) (h : Hp) (Q : Int32 → Prop) (hw : w_X9_takenOf p1 h Q) : Con X yX9_takenOf M_X9_takenOf 0 0 0 [.ref (92), .int (p1)] h (QIp h Q) Qn :=
  con_of (by decide +kernel) rfl (Nat.le_of_ble_eq_true rfl) (t_X9_takenOf p1 h Q hw)
/-! ShadowTollsModel.taken(I)I -/
abbrev M_X9_taken : Mi := (RX9, cX9_taken, 2, (some .int))
abbrev E_X9_taken : Rm := (2, 58, 0, 0)
def rows_X9_taken : List (Nat × Instr × Nat) := [(0, .aload_n 0, 1), (1, .iconst 0, 1), (2, .putfield 111, 3), (5, .aload_n 0, 1), (6, .iload_n 1, 1), (7, .iconst (-1), 1), (8, .if_icmp .eq 14, 3), (11, .iload_n 1, 1), (12, .invokestatic 281, 3), (15, .ifCond .ne 7, 3), (18, .iconst 1, 1), (19, .goto 4, 3), (22, .iconst 0, 1), (23, .iconst 1, 1), (24, .invokevirtual 202, 3), (27, .ifCond .eq 5, 3), (30, .iconst 0, 1), (31, .ireturn, 1), (32, .aload_n 0, 1), (33, .iload_n 1, 1), (34, .invokevirtual 392, 3), (37, .ireturn, 1)]
theorem D_X9_taken : dkA cX9_taken rows_X9_taken := by
  unfold dkA
  decide +kernel
theorem okD_X9_taken : okD yX9_taken 1 := by
  unfold okD
  decide +kernel
def w_X9_taken_b23 (p1 : Int32) (s0 : Int32) (h : Hp) (Q : Int32 → Hp → Prop) : Prop :=
  w_X9_bad (s0) ((1 : Int32)) h (fun z1 h2 => wif (z1 = 0) (w_X9_takenOf (p1) h2 (fun z3 => Q z3 h2)) (Q (0 : Int32) h2))
def w_X9_taken_b22 (p1 : Int32) (h : Hp) (Q : Int32 → Hp → Prop) : Prop :=
  w_X9_taken_b23 p1 ((0 : Int32)) (h) Q
def w_X9_taken (p1 : Int32) (h : Hp) (Q : Int32 → Hp → Prop) : Prop :=
  wlet (hup h 92 0 (0 : Int32)) (fun h1 => wif (p1 = (-1 : Int32)) (w_X9_taken_b22 p1 (h1) Q) (w_X9_isDay (p1) h1 (fun z2 => w_X9_bad ((if ¬ z2 = 0 then (0 : Int32) else (1 : Int32))) ((1 : Int32)) h1 (fun z4 h5 => wif (z4 = 0) (w_X9_takenOf (p1) h5 (fun z6 => Q z6 h5)) (Q (0 : Int32) h5)))))
theorem t_X9_taken_b23 {X : Cx} (p1 : Int32) (s0 : Int32) (h : Hp) (Q : Int32 → Hp → Prop) (hw : w_X9_taken_b23 p1 s0 h Q) : G X M_X9_taken E_X9_taken (QM X E_X9_taken (QI Q) Qn) 0 23 [(0, .ref (92)), (1, .int (p1))] [.int (s0), .ref (92)] h := by
  unfold w_X9_taken_b23 at hw
  refine g_iconst (dk D_X9_taken 13 rfl) ki_1 ?_
  refine g_callV (As := [.int (s0), .int ((1 : Int32))]) (kc := 0) (fr := 0) (lo := 0) (mc := 0) (My := M_X9_bad) (dk D_X9_taken 14 rfl) kd_92 rfl rfl w_1530 w_1532 w_42 w_110 w_1533 okD_X9_bad (by decide) (Nat.le_of_ble_eq_true rfl) rfl (c_X9_bad (s0) ((1 : Int32)) (h) _ hw) kxN (kI (fun z1 h2 hw => ?_))
  refine g_if_eq (dk D_X9_taken 15 rfl) rfl (wif_m hw (fun hw => ?_) (fun hw => ?_))
  · refine g_aload_n 0 (dk D_X9_taken 18 rfl) rfl rfl ?_
    refine g_iload_n 1 (dk D_X9_taken 19 rfl) rfl rfl ?_
    refine g_callV (As := [.int (p1)]) (kc := 0) (fr := 0) (lo := 0) (mc := 0) (My := M_X9_takenOf) (dk D_X9_taken 20 rfl) kd_92 rfl rfl w_1837 w_1839 w_92 w_110 w_1840 okD_X9_takenOf (by decide) (Nat.le_of_ble_eq_true rfl) rfl (c_X9_takenOf (p1) (h2) _ hw) kxN (kIp (fun z3 hw => ?_))
    exact g_iret (dk D_X9_taken 21 rfl) rfl ⟨_, rfl, hw⟩
  · refine g_iconst (dk D_X9_taken 16 rfl) ki_0 ?_
    exact g_iret (dk D_X9_taken 17 rfl) rfl ⟨_, rfl, hw⟩
theorem t_X9_taken_b22 {X : Cx} (p1 : Int32) (h : Hp) (Q : Int32 → Hp → Prop) (hw : w_X9_taken_b22 p1 h Q) : G X M_X9_taken E_X9_taken (QM X E_X9_taken (QI Q) Qn) 0 22 [(0, .ref (92)), (1, .int (p1))] [.ref (92)] h := by
  unfold w_X9_taken_b22 at hw
  refine g_iconst (dk D_X9_taken 12 rfl) ki_0 ?_
  exact t_X9_taken_b23 p1 ((0 : Int32)) (h) Q hw
theorem t_X9_taken {X : Cx} (p1 : Int32) (h : Hp) (Q : Int32 → Hp → Prop) (hw : w_X9_taken p1 h Q) : G X M_X9_taken E_X9_taken (QM X E_X9_taken (QI Q) Qn) 0 0 [(0, .ref (92)), (1, .int (p1))] [] h := by
  unfold w_X9_taken at hw
  refine g_aload_n 0 (dk D_X9_taken 0 rfl) rfl rfl ?_
  refine g_iconst (dk D_X9_taken 1 rfl) ki_0 ?_
  refine g_put 0 (dk D_X9_taken 2 rfl) kd_92 rfl rfl (by decide) w_1357 rfl tyX9_ok nmX9 rfl (by decide) rfl (fun z => absurd z (by decide)) ?_
  refine g_heap (fun h1 eh1 => ?_)
  replace hw := hw _ eh1
  refine g_aload_n 0 (dk D_X9_taken 3 rfl) rfl rfl ?_
  refine g_iload_n 1 (dk D_X9_taken 4 rfl) rfl rfl ?_
  refine g_iconst (dk D_X9_taken 5 rfl) ki_m1 ?_
  refine g_icmp_eq (dk D_X9_taken 6 rfl) rfl (wif_m hw (fun hw => ?_) (fun hw => ?_))
  · exact t_X9_taken_b22 p1 (h1) Q hw
  · refine g_iload_n 1 (dk D_X9_taken 7 rfl) rfl rfl ?_
    refine g_callS (As := [.int (p1)]) (kc := 0) (fr := 1) (lo := 30) (mc := 0) (My := M_X9_isDay) (dk D_X9_taken 8 rfl) w_1676 w_1677 w_110 w_1678 okD_X9_isDay (by decide) (Nat.le_of_ble_eq_true rfl) rfl (c_X9_isDay (p1) (h1) _ hw) kxN (kIp (fun z2 hw => ?_))
    have hj : G X M_X9_taken E_X9_taken (QM X E_X9_taken (QI Q) Qn) 0 23 [(0, .ref (92)), (1, .int (p1))] [.int ((if ¬ z2 = 0 then (0 : Int32) else (1 : Int32))), .ref (92)] (h1) := by
      refine g_iconst (dk D_X9_taken 13 rfl) ki_1 ?_
      refine g_callV (As := [.int ((if ¬ z2 = 0 then (0 : Int32) else (1 : Int32))), .int ((1 : Int32))]) (kc := 0) (fr := 0) (lo := 0) (mc := 0) (My := M_X9_bad) (dk D_X9_taken 14 rfl) kd_92 rfl rfl w_1530 w_1532 w_42 w_110 w_1533 okD_X9_bad (by decide) (Nat.le_of_ble_eq_true rfl) rfl (c_X9_bad ((if ¬ z2 = 0 then (0 : Int32) else (1 : Int32))) ((1 : Int32)) (h1) _ hw) kxN (kI (fun z4 h5 hw => ?_))
      refine g_if_eq (dk D_X9_taken 15 rfl) rfl (wif_m hw (fun hw => ?_) (fun hw => ?_))
      · refine g_aload_n 0 (dk D_X9_taken 18 rfl) rfl rfl ?_
        refine g_iload_n 1 (dk D_X9_taken 19 rfl) rfl rfl ?_
        refine g_callV (As := [.int (p1)]) (kc := 0) (fr := 0) (lo := 0) (mc := 0) (My := M_X9_takenOf) (dk D_X9_taken 20 rfl) kd_92 rfl rfl w_1837 w_1839 w_92 w_110 w_1840 okD_X9_takenOf (by decide) (Nat.le_of_ble_eq_true rfl) rfl (c_X9_takenOf (p1) (h5) _ hw) kxN (kIp (fun z6 hw => ?_))
        exact g_iret (dk D_X9_taken 21 rfl) rfl ⟨_, rfl, hw⟩
      · refine g_iconst (dk D_X9_taken 16 rfl) ki_0 ?_
        exact g_iret (dk D_X9_taken 17 rfl) rfl ⟨_, rfl, hw⟩
    refine g_if_ne (dk D_X9_taken 9 rfl) rfl ?_
    by_cases c3 : ¬ z2 = 0
    · rw [if_pos c3] at hj
      refine wif_p c3 ?_
      refine g_iconst (dk D_X9_taken 12 rfl) ki_0 ?_
      exact hj
    · rw [if_neg c3] at hj
      refine wif_n c3 ?_
      refine g_iconst (dk D_X9_taken 10 rfl) ki_1 ?_
      refine g_goto (dk D_X9_taken 11 rfl) rfl ?_
      exact hj
theorem c_X9_taken {X : Cx} (p1 : Int32) (h : Hp) (Q : Int32 → Hp → Prop) (hw : w_X9_taken p1 h Q) : Con X yX9_taken M_X9_taken 2 58 0 [.ref (92), .int (p1)] h (QI Q) Qn :=
  con_of (by decide +kernel) rfl (Nat.le_of_ble_eq_true rfl) (t_X9_taken p1 h Q hw)
/-! ShadowTollsModel.write(II)I -/
abbrev M_X9_write : Mi := (RX9, cX9_write, 4, (some .int))
abbrev E_X9_write : Rm := (2, 58, 0, 0)
def rows_X9_write : List (Nat × Instr × Nat) := [(0, .aload_n 0, 1), (1, .iconst 0, 1), (2, .putfield 111, 3), (5, .aload_n 0, 1), (6, .iload_n 1, 1), (7, .invokestatic 281, 3), (10, .ifCond .eq 14, 3), (13, .iload_n 2, 1), (14, .iconst (-1), 1), (15, .ldc_w 395, 3), (18, .invokestatic 145, 3), (21, .ifCond .ne 7, 3), (24, .iconst 1, 1), (25, .goto 4, 3), (28, .iconst 0, 1), (29, .iconst 1, 1), (30, .invokevirtual 202, 3), (33, .ifCond .eq 5, 3), (36, .iconst 0, 1), (37, .ireturn, 1), (38, .aload_n 0, 1), (39, .getfield 67, 3), (42, .iload_n 1, 1), (43, .iaload, 1), (44, .istore_n 3, 1), (45, .aload_n 0, 1), (46, .getfield 67, 3), (49, .iload_n 1, 1), (50, .iload_n 2, 1), (51, .iastore, 1), (52, .iload_n 3, 1), (53, .ireturn, 1)]
theorem D_X9_write : dkA cX9_write rows_X9_write := by
  unfold dkA
  decide +kernel
theorem okD_X9_write : okD yX9_write 2 := by
  unfold okD
  decide +kernel
def w_X9_write_b29 (p1 : Int32) (p2 : Int32) (s0 : Int32) (h : Hp) (Q : Int32 → Hp → Prop) : Prop :=
  w_X9_bad (s0) ((1 : Int32)) h (fun z1 h2 => wif (z1 = 0) ((vp_in p1 30 ∧ wlet ((h2 142 (Int32.toNatClampNeg p1))) (fun v3_4 => (vp_in p1 30 ∧ wlet (hup h2 142 (Int32.toNatClampNeg p1) p2) (fun h6 => Q v3_4 h6))))) (Q (0 : Int32) h2))
def w_X9_write_b24 (p1 : Int32) (p2 : Int32) (h : Hp) (Q : Int32 → Hp → Prop) : Prop :=
  w_X9_write_b29 p1 p2 ((1 : Int32)) (h) Q
def w_X9_write (p1 : Int32) (p2 : Int32) (h : Hp) (Q : Int32 → Hp → Prop) : Prop :=
  wlet (hup h 92 0 (0 : Int32)) (fun h1 => w_X9_isDay (p1) h1 (fun z2 => wif (z2 = 0) (w_X9_write_b24 p1 p2 (h1) Q) (w_X9_in (p2) ((-1 : Int32)) ((99999 : Int32)) h1 (fun z3 => w_X9_bad ((if ¬ z3 = 0 then (0 : Int32) else (1 : Int32))) ((1 : Int32)) h1 (fun z5 h6 => wif (z5 = 0) ((vp_in p1 30 ∧ wlet ((h6 142 (Int32.toNatClampNeg p1))) (fun v3_8 => (vp_in p1 30 ∧ wlet (hup h6 142 (Int32.toNatClampNeg p1) p2) (fun h10 => Q v3_8 h10))))) (Q (0 : Int32) h6))))))
theorem t_X9_write_b29 {X : Cx} (p1 : Int32) (p2 : Int32) (s0 : Int32) (h : Hp) (Q : Int32 → Hp → Prop) (hw : w_X9_write_b29 p1 p2 s0 h Q) : G X M_X9_write E_X9_write (QM X E_X9_write (QI Q) Qn) 0 29 [(0, .ref (92)), (1, .int (p1)), (2, .int (p2))] [.int (s0), .ref (92)] h := by
  unfold w_X9_write_b29 at hw
  refine g_iconst (dk D_X9_write 15 rfl) ki_1 ?_
  refine g_callV (As := [.int (s0), .int ((1 : Int32))]) (kc := 0) (fr := 0) (lo := 0) (mc := 0) (My := M_X9_bad) (dk D_X9_write 16 rfl) kd_92 rfl rfl w_1530 w_1532 w_42 w_110 w_1533 okD_X9_bad (by decide) (Nat.le_of_ble_eq_true rfl) rfl (c_X9_bad (s0) ((1 : Int32)) (h) _ hw) kxN (kI (fun z1 h2 hw => ?_))
  refine g_if_eq (dk D_X9_write 17 rfl) rfl (wif_m hw (fun hw => ?_) (fun hw => ?_))
  · refine g_aload_n 0 (dk D_X9_write 20 rfl) rfl rfl ?_
    refine g_getR 29 (t := 142) (dk D_X9_write 21 rfl) kd_92 rfl rfl (by decide) w_1386 rfl rfl rfl ?_
    refine g_iload_n 1 (dk D_X9_write 22 rfl) rfl rfl ?_
    obtain ⟨hi3, hw⟩ := hw
    refine g_iald (dk D_X9_write 23 rfl) kd_142 hi3 ?_
    refine g_topi (fun v3_4 ev3_4 => ?_)
    replace hw := hw _ ev3_4
    refine g_istore_n (dk D_X9_write 24 rfl) rfl (by decide) rfl ?_
    refine g_aload_n 1 (dk D_X9_write 25 rfl) rfl rfl ?_
    refine g_getR 29 (t := 142) (dk D_X9_write 26 rfl) kd_92 rfl rfl (by decide) w_1386 rfl rfl rfl ?_
    refine g_iload_n 2 (dk D_X9_write 27 rfl) rfl rfl ?_
    refine g_iload_n 3 (dk D_X9_write 28 rfl) rfl rfl ?_
    obtain ⟨hi5, hw⟩ := hw
    refine g_iast (dk D_X9_write 29 rfl) kd_142 hi5 ?_
    refine g_heap (fun h6 eh6 => ?_)
    replace hw := hw _ eh6
    refine g_iload_n 0 (dk D_X9_write 30 rfl) rfl rfl ?_
    exact g_iret (dk D_X9_write 31 rfl) rfl ⟨_, rfl, hw⟩
  · refine g_iconst (dk D_X9_write 18 rfl) ki_0 ?_
    exact g_iret (dk D_X9_write 19 rfl) rfl ⟨_, rfl, hw⟩
theorem t_X9_write_b24 {X : Cx} (p1 : Int32) (p2 : Int32) (h : Hp) (Q : Int32 → Hp → Prop) (hw : w_X9_write_b24 p1 p2 h Q) : G X M_X9_write E_X9_write (QM X E_X9_write (QI Q) Qn) 0 24 [(0, .ref (92)), (1, .int (p1)), (2, .int (p2))] [.ref (92)] h := by
  unfold w_X9_write_b24 at hw
  refine g_iconst (dk D_X9_write 12 rfl) ki_1 ?_
  refine g_goto (dk D_X9_write 13 rfl) rfl ?_
  exact t_X9_write_b29 p1 p2 ((1 : Int32)) (h) Q hw
theorem t_X9_write {X : Cx} (p1 : Int32) (p2 : Int32) (h : Hp) (Q : Int32 → Hp → Prop) (hw : w_X9_write p1 p2 h Q) : G X M_X9_write E_X9_write (QM X E_X9_write (QI Q) Qn) 0 0 [(0, .ref (92)), (1, .int (p1)), (2, .int (p2))] [] h := by
  unfold w_X9_write at hw
  refine g_aload_n 0 (dk D_X9_write 0 rfl) rfl rfl ?_
  refine g_iconst (dk D_X9_write 1 rfl) ki_0 ?_
  refine g_put 0 (dk D_X9_write 2 rfl) kd_92 rfl rfl (by decide) w_1357 rfl tyX9_ok nmX9 rfl (by decide) rfl (fun z => absurd z (by decide)) ?_
  refine g_heap (fun h1 eh1 => ?_)
  replace hw := hw _ eh1
  refine g_aload_n 0 (dk D_X9_write 3 rfl) rfl rfl ?_
  refine g_iload_n 1 (dk D_X9_write 4 rfl) rfl rfl ?_
  refine g_callS (As := [.int (p1)]) (kc := 0) (fr := 1) (lo := 30) (mc := 0) (My := M_X9_isDay) (dk D_X9_write 5 rfl) w_1676 w_1677 w_110 w_1678 okD_X9_isDay (by decide) (Nat.le_of_ble_eq_true rfl) rfl (c_X9_isDay (p1) (h1) _ hw) kxN (kIp (fun z2 hw => ?_))
  refine g_if_eq (dk D_X9_write 6 rfl) rfl (wif_m hw (fun hw => ?_) (fun hw => ?_))
  · exact t_X9_write_b24 p1 p2 (h1) Q hw
  · refine g_iload_n 2 (dk D_X9_write 7 rfl) rfl rfl ?_
    refine g_iconst (dk D_X9_write 8 rfl) ki_m1 ?_
    refine g_ldcw (dk D_X9_write 9 rfl) w_1845 ?_
    refine g_callS (As := [.int (p2), .int ((-1 : Int32)), .int ((99999 : Int32))]) (kc := 0) (fr := 0) (lo := 0) (mc := 0) (My := M_X9_in) (dk D_X9_write 10 rfl) w_1527 w_1528 w_110 w_1529 okD_X9_in (by decide) (Nat.le_of_ble_eq_true rfl) rfl (c_X9_in (p2) ((-1 : Int32)) ((99999 : Int32)) (h1) _ hw) kxN (kIp (fun z3 hw => ?_))
    have hj : G X M_X9_write E_X9_write (QM X E_X9_write (QI Q) Qn) 0 29 [(0, .ref (92)), (1, .int (p1)), (2, .int (p2))] [.int ((if ¬ z3 = 0 then (0 : Int32) else (1 : Int32))), .ref (92)] (h1) := by
      refine g_iconst (dk D_X9_write 15 rfl) ki_1 ?_
      refine g_callV (As := [.int ((if ¬ z3 = 0 then (0 : Int32) else (1 : Int32))), .int ((1 : Int32))]) (kc := 0) (fr := 0) (lo := 0) (mc := 0) (My := M_X9_bad) (dk D_X9_write 16 rfl) kd_92 rfl rfl w_1530 w_1532 w_42 w_110 w_1533 okD_X9_bad (by decide) (Nat.le_of_ble_eq_true rfl) rfl (c_X9_bad ((if ¬ z3 = 0 then (0 : Int32) else (1 : Int32))) ((1 : Int32)) (h1) _ hw) kxN (kI (fun z5 h6 hw => ?_))
      refine g_if_eq (dk D_X9_write 17 rfl) rfl (wif_m hw (fun hw => ?_) (fun hw => ?_))
      · refine g_aload_n 0 (dk D_X9_write 20 rfl) rfl rfl ?_
        refine g_getR 29 (t := 142) (dk D_X9_write 21 rfl) kd_92 rfl rfl (by decide) w_1386 rfl rfl rfl ?_
        refine g_iload_n 1 (dk D_X9_write 22 rfl) rfl rfl ?_
        obtain ⟨hi7, hw⟩ := hw
        refine g_iald (dk D_X9_write 23 rfl) kd_142 hi7 ?_
        refine g_topi (fun v3_8 ev3_8 => ?_)
        replace hw := hw _ ev3_8
        refine g_istore_n (dk D_X9_write 24 rfl) rfl (by decide) rfl ?_
        refine g_aload_n 1 (dk D_X9_write 25 rfl) rfl rfl ?_
        refine g_getR 29 (t := 142) (dk D_X9_write 26 rfl) kd_92 rfl rfl (by decide) w_1386 rfl rfl rfl ?_
        refine g_iload_n 2 (dk D_X9_write 27 rfl) rfl rfl ?_
        refine g_iload_n 3 (dk D_X9_write 28 rfl) rfl rfl ?_
        obtain ⟨hi9, hw⟩ := hw
        refine g_iast (dk D_X9_write 29 rfl) kd_142 hi9 ?_
        refine g_heap (fun h10 eh10 => ?_)
        replace hw := hw _ eh10
        refine g_iload_n 0 (dk D_X9_write 30 rfl) rfl rfl ?_
        exact g_iret (dk D_X9_write 31 rfl) rfl ⟨_, rfl, hw⟩
      · refine g_iconst (dk D_X9_write 18 rfl) ki_0 ?_
        exact g_iret (dk D_X9_write 19 rfl) rfl ⟨_, rfl, hw⟩
    refine g_if_ne (dk D_X9_write 11 rfl) rfl ?_
    by_cases c4 : ¬ z3 = 0
    · rw [if_pos c4] at hj
      refine wif_p c4 ?_
      refine g_iconst (dk D_X9_write 14 rfl) ki_0 ?_
      exact hj
    · rw [if_neg c4] at hj
      refine wif_n c4 ?_
      refine g_iconst (dk D_X9_write 12 rfl) ki_1 ?_
      refine g_goto (dk D_X9_write 13 rfl) rfl ?_
      exact hj
theorem c_X9_write {X : Cx} (p1 : Int32) (p2 : Int32) (h : Hp) (Q : Int32 → Hp → Prop) (hw : w_X9_write p1 p2 h Q) : Con X yX9_write M_X9_write 2 58 0 [.ref (92), .int (p1), .int (p2)] h (QI Q) Qn :=
  con_of (by decide +kernel) rfl (Nat.le_of_ble_eq_true rfl) (t_X9_write p1 p2 h Q hw)
/-! ShadowTollsModel.stolen(I)I -/
abbrev M_X9_stolen : Mi := (RX9, cX9_stolen, 2, (some .int))
abbrev E_X9_stolen : Rm := (2, 58, 0, 0)
def rows_X9_stolen : List (Nat × Instr × Nat) := [(0, .aload_n 0, 1), (1, .iconst 0, 1), (2, .putfield 111, 3), (5, .aload_n 0, 1), (6, .iload_n 1, 1), (7, .invokestatic 281, 3), (10, .ifCond .ne 7, 3), (13, .iconst 1, 1), (14, .goto 4, 3), (17, .iconst 0, 1), (18, .iconst 1, 1), (19, .invokevirtual 202, 3), (22, .ifCond .eq 5, 3), (25, .iconst 0, 1), (26, .ireturn, 1), (27, .aload_n 0, 1), (28, .getfield 67, 3), (31, .iload_n 1, 1), (32, .iaload, 1), (33, .iconst (-1), 1), (34, .if_icmp .ne 7, 3), (37, .iconst 0, 1), (38, .goto 15, 3), (41, .aload_n 0, 1), (42, .iload_n 1, 1), (43, .invokevirtual 392, 3), (46, .aload_n 0, 1), (47, .getfield 67, 3), (50, .iload_n 1, 1), (51, .iaload, 1), (52, .isub, 1), (53, .ireturn, 1)]
theorem D_X9_stolen : dkA cX9_stolen rows_X9_stolen := by
  unfold dkA
  decide +kernel
theorem okD_X9_stolen : okD yX9_stolen 1 := by
  unfold okD
  decide +kernel
def w_X9_stolen (p1 : Int32) (h : Hp) (Q : Int32 → Hp → Prop) : Prop :=
  wlet (hup h 92 0 (0 : Int32)) (fun h1 => w_X9_isDay (p1) h1 (fun z2 => w_X9_bad ((if ¬ z2 = 0 then (0 : Int32) else (1 : Int32))) ((1 : Int32)) h1 (fun z4 h5 => wif (z4 = 0) ((vp_in p1 30 ∧ wif (¬ (h5 142 (Int32.toNatClampNeg p1)) = (-1 : Int32)) (w_X9_takenOf (p1) h5 (fun z7 => (vp_in p1 30 ∧ Q (z7 - (h5 142 (Int32.toNatClampNeg p1))) h5))) (Q (0 : Int32) h5))) (Q (0 : Int32) h5))))
theorem t_X9_stolen {X : Cx} (p1 : Int32) (h : Hp) (Q : Int32 → Hp → Prop) (hw : w_X9_stolen p1 h Q) : G X M_X9_stolen E_X9_stolen (QM X E_X9_stolen (QI Q) Qn) 0 0 [(0, .ref (92)), (1, .int (p1))] [] h := by
  unfold w_X9_stolen at hw
  refine g_aload_n 0 (dk D_X9_stolen 0 rfl) rfl rfl ?_
  refine g_iconst (dk D_X9_stolen 1 rfl) ki_0 ?_
  refine g_put 0 (dk D_X9_stolen 2 rfl) kd_92 rfl rfl (by decide) w_1357 rfl tyX9_ok nmX9 rfl (by decide) rfl (fun z => absurd z (by decide)) ?_
  refine g_heap (fun h1 eh1 => ?_)
  replace hw := hw _ eh1
  refine g_aload_n 0 (dk D_X9_stolen 3 rfl) rfl rfl ?_
  refine g_iload_n 1 (dk D_X9_stolen 4 rfl) rfl rfl ?_
  refine g_callS (As := [.int (p1)]) (kc := 0) (fr := 1) (lo := 30) (mc := 0) (My := M_X9_isDay) (dk D_X9_stolen 5 rfl) w_1676 w_1677 w_110 w_1678 okD_X9_isDay (by decide) (Nat.le_of_ble_eq_true rfl) rfl (c_X9_isDay (p1) (h1) _ hw) kxN (kIp (fun z2 hw => ?_))
  have hj : G X M_X9_stolen E_X9_stolen (QM X E_X9_stolen (QI Q) Qn) 0 18 [(0, .ref (92)), (1, .int (p1))] [.int ((if ¬ z2 = 0 then (0 : Int32) else (1 : Int32))), .ref (92)] (h1) := by
    refine g_iconst (dk D_X9_stolen 10 rfl) ki_1 ?_
    refine g_callV (As := [.int ((if ¬ z2 = 0 then (0 : Int32) else (1 : Int32))), .int ((1 : Int32))]) (kc := 0) (fr := 0) (lo := 0) (mc := 0) (My := M_X9_bad) (dk D_X9_stolen 11 rfl) kd_92 rfl rfl w_1530 w_1532 w_42 w_110 w_1533 okD_X9_bad (by decide) (Nat.le_of_ble_eq_true rfl) rfl (c_X9_bad ((if ¬ z2 = 0 then (0 : Int32) else (1 : Int32))) ((1 : Int32)) (h1) _ hw) kxN (kI (fun z4 h5 hw => ?_))
    refine g_if_eq (dk D_X9_stolen 12 rfl) rfl (wif_m hw (fun hw => ?_) (fun hw => ?_))
    · refine g_aload_n 0 (dk D_X9_stolen 15 rfl) rfl rfl ?_
      refine g_getR 29 (t := 142) (dk D_X9_stolen 16 rfl) kd_92 rfl rfl (by decide) w_1386 rfl rfl rfl ?_
      refine g_iload_n 1 (dk D_X9_stolen 17 rfl) rfl rfl ?_
      obtain ⟨hi6, hw⟩ := hw
      refine g_iald (dk D_X9_stolen 18 rfl) kd_142 hi6 ?_
      refine g_iconst (dk D_X9_stolen 19 rfl) ki_m1 ?_
      refine g_icmp_ne (dk D_X9_stolen 20 rfl) rfl (wif_m hw (fun hw => ?_) (fun hw => ?_))
      · refine g_aload_n 0 (dk D_X9_stolen 23 rfl) rfl rfl ?_
        refine g_iload_n 1 (dk D_X9_stolen 24 rfl) rfl rfl ?_
        refine g_callV (As := [.int (p1)]) (kc := 0) (fr := 0) (lo := 0) (mc := 0) (My := M_X9_takenOf) (dk D_X9_stolen 25 rfl) kd_92 rfl rfl w_1837 w_1839 w_92 w_110 w_1840 okD_X9_takenOf (by decide) (Nat.le_of_ble_eq_true rfl) rfl (c_X9_takenOf (p1) (h5) _ hw) kxN (kIp (fun z7 hw => ?_))
        refine g_aload_n 0 (dk D_X9_stolen 26 rfl) rfl rfl ?_
        refine g_getR 29 (t := 142) (dk D_X9_stolen 27 rfl) kd_92 rfl rfl (by decide) w_1386 rfl rfl rfl ?_
        refine g_iload_n 1 (dk D_X9_stolen 28 rfl) rfl rfl ?_
        obtain ⟨hi8, hw⟩ := hw
        refine g_iald (dk D_X9_stolen 29 rfl) kd_142 hi8 ?_
        refine g_isub (dk D_X9_stolen 30 rfl) ?_
        exact g_iret (dk D_X9_stolen 31 rfl) rfl ⟨_, rfl, hw⟩
      · refine g_iconst (dk D_X9_stolen 21 rfl) ki_0 ?_
        refine g_goto (dk D_X9_stolen 22 rfl) rfl ?_
        exact g_iret (dk D_X9_stolen 31 rfl) rfl ⟨_, rfl, hw⟩
    · refine g_iconst (dk D_X9_stolen 13 rfl) ki_0 ?_
      exact g_iret (dk D_X9_stolen 14 rfl) rfl ⟨_, rfl, hw⟩
  refine g_if_ne (dk D_X9_stolen 6 rfl) rfl ?_
  by_cases c3 : ¬ z2 = 0
  · rw [if_pos c3] at hj
    refine wif_p c3 ?_
    refine g_iconst (dk D_X9_stolen 9 rfl) ki_0 ?_
    exact hj
  · rw [if_neg c3] at hj
    refine wif_n c3 ?_
    refine g_iconst (dk D_X9_stolen 7 rfl) ki_1 ?_
    refine g_goto (dk D_X9_stolen 8 rfl) rfl ?_
    exact hj
theorem c_X9_stolen {X : Cx} (p1 : Int32) (h : Hp) (Q : Int32 → Hp → Prop) (hw : w_X9_stolen p1 h Q) : Con X yX9_stolen M_X9_stolen 2 58 0 [.ref (92), .int (p1)] h (QI Q) Qn :=
  con_of (by decide +kernel) rfl (Nat.le_of_ble_eq_true rfl) (t_X9_stolen p1 h Q hw)
