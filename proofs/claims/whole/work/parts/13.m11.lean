/-! ShadowTollsModel.much()I -/
abbrev M_X9_much : Mi := (RX9, cX9_much, 2, (some .int))
abbrev E_X9_much : Rm := (7, 243, 0, 0)
def rows_X9_much : List (Nat × Instr × Nat) := [(0, .aload_n 0, 1), (1, .iconst 0, 1), (2, .putfield 111, 3), (5, .iconst 0, 1), (6, .istore_n 1, 1), (7, .iload_n 1, 1), (8, .bipush 30, 2), (10, .if_icmp .ge 35, 3), (13, .aload_n 0, 1), (14, .getfield 67, 3), (17, .iload_n 1, 1), (18, .iaload, 1), (19, .iconst (-1), 1), (20, .if_icmp .eq 19, 3), (23, .aload_n 0, 1), (24, .getfield 67, 3), (27, .iload_n 1, 1), (28, .iaload, 1), (29, .aload_n 0, 1), (30, .iload_n 1, 1), (31, .invokevirtual 389, 3), (34, .if_icmp .le 5, 3), (37, .iload_n 1, 1), (38, .ireturn, 1), (39, .iinc 1 1, 3), (42, .goto (-35), 3), (45, .iconst (-1), 1), (46, .ireturn, 1)]
theorem D_X9_much : dkA cX9_much rows_X9_much := by
  unfold dkA
  decide +kernel
theorem okD_X9_much : okD yX9_much 0 := by
  unfold okD
  decide +kernel
def w_X9_much_b39 (v1 : Int32) (K7 : Int32 × Hp → Prop) (h : Hp) (Q : Int32 → Hp → Prop) : Prop :=
  K7 ((v1 + (1 : Int32)), h)
def w_X9_much_l7 (Q : Int32 → Hp → Prop) (K7 : Int32 × Hp → Prop) (v1 : Int32) (h : Hp) : Prop :=
  wif ((30 : Int32) ≤ v1) (Q (-1 : Int32) h) ((vp_in v1 30 ∧ wif ((h 142 (Int32.toNatClampNeg v1)) = (-1 : Int32)) (w_X9_much_b39 (v1) K7 (h) Q) ((vp_in v1 30 ∧ w_X9_mostOf (v1) h (fun z3 h4 => wif ((h 142 (Int32.toNatClampNeg v1)) ≤ z3) (w_X9_much_b39 (v1) K7 (h4) Q) (Q v1 h4))))))
def w_X9_much_b7 (Q : Int32 → Hp → Prop) (s : Int32 × Hp) : Prop := wl (fun K s => w_X9_much_l7 Q K s.1 s.2) s
def w_X9_much (h : Hp) (Q : Int32 → Hp → Prop) : Prop :=
  wlet (hup h 92 0 (0 : Int32)) (fun h1 => w_X9_much_b7 Q ((0 : Int32), h1))
theorem t_X9_much_b39 {X : Cx} (v1 : Int32) (K7 : Int32 × Hp → Prop) (h : Hp) (Q : Int32 → Hp → Prop) (hK7 : ∀ s : Int32 × Hp, K7 s → G X M_X9_much E_X9_much (QM X E_X9_much (QI Q) Qn) 0 7 [(0, .ref (92)), (1, .int (s.1))] [] (s.2)) (hw : w_X9_much_b39 v1 K7 h Q) : G X M_X9_much E_X9_much (QM X E_X9_much (QI Q) Qn) 0 39 [(0, .ref (92)), (1, .int (v1))] [] h := by
  unfold w_X9_much_b39 at hw
  refine g_iinc 1 (dk D_X9_much 24 rfl) rfl (congrArg (fun z => _ + z) ki_1) (by decide) rfl ?_
  refine g_goto (dk D_X9_much 25 rfl) rfl ?_
  refine g_sub [1, 0] rfl ?_
  exact hK7 ((v1 + (1 : Int32)), h) hw
theorem t_X9_much_l7 {X : Cx} (Q : Int32 → Hp → Prop) (K7 : Int32 × Hp → Prop) (v1 : Int32) (h : Hp) (hK7 : ∀ s : Int32 × Hp, K7 s → G X M_X9_much E_X9_much (QM X E_X9_much (QI Q) Qn) 0 7 [(0, .ref (92)), (1, .int (s.1))] [] (s.2)) (hw : w_X9_much_l7 Q K7 v1 h) : G X M_X9_much E_X9_much (QM X E_X9_much (QI Q) Qn) 0 7 [(0, .ref (92)), (1, .int (v1))] [] h := by
  unfold w_X9_much_l7 at hw
  refine g_iload_n 1 (dk D_X9_much 5 rfl) rfl rfl ?_
  refine g_bipush (dk D_X9_much 6 rfl) kb_30 ?_
  refine g_icmp_ge (dk D_X9_much 7 rfl) rfl (wif_m hw (fun hw => ?_) (fun hw => ?_))
  · refine g_iconst (dk D_X9_much 26 rfl) ki_m1 ?_
    exact g_iret (dk D_X9_much 27 rfl) rfl ⟨_, rfl, hw⟩
  · refine g_aload_n 0 (dk D_X9_much 8 rfl) rfl rfl ?_
    refine g_getR 29 (t := 142) (dk D_X9_much 9 rfl) kd_92 rfl rfl (by decide) w_1386 rfl rfl rfl ?_
    refine g_iload_n 1 (dk D_X9_much 10 rfl) rfl rfl ?_
    obtain ⟨hi1, hw⟩ := hw
    refine g_iald (dk D_X9_much 11 rfl) kd_142 hi1 ?_
    refine g_iconst (dk D_X9_much 12 rfl) ki_m1 ?_
    refine g_icmp_eq (dk D_X9_much 13 rfl) rfl (wif_m hw (fun hw => ?_) (fun hw => ?_))
    · exact t_X9_much_b39 (v1) K7 (h) Q hK7 hw
    · refine g_aload_n 0 (dk D_X9_much 14 rfl) rfl rfl ?_
      refine g_getR 29 (t := 142) (dk D_X9_much 15 rfl) kd_92 rfl rfl (by decide) w_1386 rfl rfl rfl ?_
      refine g_iload_n 1 (dk D_X9_much 16 rfl) rfl rfl ?_
      obtain ⟨hi2, hw⟩ := hw
      refine g_iald (dk D_X9_much 17 rfl) kd_142 hi2 ?_
      refine g_aload_n 0 (dk D_X9_much 18 rfl) rfl rfl ?_
      refine g_iload_n 1 (dk D_X9_much 19 rfl) rfl rfl ?_
      refine g_callV (As := [.int (v1)]) (kc := 0) (fr := 6) (lo := 207) (mc := 0) (My := M_X9_mostOf) (dk D_X9_much 20 rfl) kd_92 rfl rfl w_1821 w_1823 w_91 w_110 w_1824 okD_X9_mostOf (by decide) (Nat.le_of_ble_eq_true rfl) rfl (c_X9_mostOf (v1) (h) _ hw) kxN (kI (fun z3 h4 hw => ?_))
      refine g_icmp_le (dk D_X9_much 21 rfl) rfl (wif_m hw (fun hw => ?_) (fun hw => ?_))
      · exact t_X9_much_b39 (v1) K7 (h4) Q hK7 hw
      · refine g_iload_n 1 (dk D_X9_much 22 rfl) rfl rfl ?_
        exact g_iret (dk D_X9_much 23 rfl) rfl ⟨_, rfl, hw⟩
theorem t_X9_much_b7 {X : Cx} (Q : Int32 → Hp → Prop) (s : Int32 × Hp) (hw : w_X9_much_b7 Q s) : G X M_X9_much E_X9_much (QM X E_X9_much (QI Q) Qn) 0 7 [(0, .ref (92)), (1, .int (s.1))] [] (s.2) :=
  wl_ind (B := fun K s => w_X9_much_l7 Q K (s.1) (s.2)) (P := fun s => G X M_X9_much E_X9_much (QM X E_X9_much (QI Q) Qn) 0 7 [(0, .ref (92)), (1, .int (s.1))] [] (s.2)) (fun K hK s hw => t_X9_much_l7 Q K (s.1) (s.2) hK hw) s hw
theorem t_X9_much {X : Cx} (h : Hp) (Q : Int32 → Hp → Prop) (hw : w_X9_much h Q) : G X M_X9_much E_X9_much (QM X E_X9_much (QI Q) Qn) 0 0 [(0, .ref (92))] [] h := by
  unfold w_X9_much at hw
  refine g_aload_n 0 (dk D_X9_much 0 rfl) rfl rfl ?_
  refine g_iconst (dk D_X9_much 1 rfl) ki_0 ?_
  refine g_put 0 (dk D_X9_much 2 rfl) kd_92 rfl rfl (by decide) w_1357 rfl tyX9_ok nmX9 rfl (by decide) rfl (fun z => absurd z (by decide)) ?_
  refine g_heap (fun h1 eh1 => ?_)
  replace hw := hw _ eh1
  refine g_iconst (dk D_X9_much 3 rfl) ki_0 ?_
  refine g_istore_n (dk D_X9_much 4 rfl) rfl (by decide) rfl ?_
  refine g_sub [1, 0] rfl ?_
  exact t_X9_much_b7 Q ((0 : Int32), h1) hw
theorem c_X9_much {X : Cx} (h : Hp) (Q : Int32 → Hp → Prop) (hw : w_X9_much h Q) : Con X yX9_much M_X9_much 7 243 0 [.ref (92)] h (QI Q) Qn :=
  con_of (by decide +kernel) rfl (Nat.le_of_ble_eq_true rfl) (t_X9_much h Q hw)
/-! ShadowTollsModel.lines(III)I -/
abbrev M_X9_lines : Mi := (RX9, cX9_lines, 10, (some .int))
abbrev E_X9_lines : Rm := (7, 243, 0, 0)
def rows_X9_lines : List (Nat × Instr × Nat) := [(0, .aload_n 0, 1), (1, .iconst 0, 1), (2, .putfield 111, 3), (5, .aload_n 0, 1), (6, .iload_n 1, 1), (7, .invokestatic 281, 3), (10, .ifCond .eq 22, 3), (13, .iload_n 2, 1), (14, .iconst 0, 1), (15, .bipush 9, 2), (17, .invokestatic 145, 3), (20, .ifCond .eq 12, 3), (23, .iload_n 3, 1), (24, .iconst 0, 1), (25, .iconst 2, 1), (26, .invokestatic 145, 3), (29, .ifCond .ne 7, 3), (32, .iconst 1, 1), (33, .goto 4, 3), (36, .iconst 0, 1), (37, .iconst 1, 1), (38, .invokevirtual 202, 3), (41, .ifCond .eq 5, 3), (44, .iconst 0, 1), (45, .ireturn, 1), (46, .iconst (-1), 1), (47, .istore 4, 2), (49, .iconst 0, 1), (50, .istore 5, 2), (52, .iconst 0, 1), (53, .istore 6, 2), (55, .iconst 0, 1), (56, .istore 7, 2), (58, .iconst 0, 1), (59, .istore 8, 2), (61, .iload 8, 2), (63, .bipush 100, 2), (65, .if_icmp .ge 90, 3), (68, .aload_n 0, 1), (69, .iload 8, 2), (71, .bipush 10, 2), (73, .idiv, 1), (74, .putfield 101, 3), (77, .aload_n 0, 1), (78, .iload 8, 2), (80, .bipush 10, 2), (82, .irem, 1), (83, .putfield 303, 3), (86, .aload_n 0, 1), (87, .aload_n 0, 1), (88, .invokevirtual 378, 3), (91, .iload_n 1, 1), (92, .iconst 0, 1), (93, .invokevirtual 385, 3), (96, .aload_n 0, 1), (97, .getfield 98, 3), (100, .iconst 0, 1), (101, .iaload, 1), (102, .iload_n 2, 1), (103, .aload_n 0, 1), (104, .getfield 375, 3), (107, .imul, 1), (108, .isub, 1), (109, .istore 9, 2), (111, .iload 4, 2), (113, .iconst (-1), 1), (114, .if_icmp .eq 13, 3), (117, .iload 9, 2), (119, .iload 5, 2), (121, .if_icmp .gt 6, 3), (124, .goto 25, 3), (127, .iload 8, 2), (129, .istore 4, 2), (131, .iload 9, 2), (133, .istore 5, 2), (135, .aload_n 0, 1), (136, .getfield 98, 3), (139, .iconst 0, 1), (140, .iaload, 1), (141, .istore 6, 2), (143, .aload_n 0, 1), (144, .getfield 375, 3), (147, .istore 7, 2), (149, .iinc 8 1, 3), (152, .goto (-91), 3), (155, .aload_n 0, 1), (156, .iconst (-1), 1), (157, .putfield 101, 3), (160, .iload_n 3, 1), (161, .ifCond .ne 8, 3), (164, .iload 4, 2), (166, .goto 15, 3), (169, .iload_n 3, 1), (170, .iconst 1, 1), (171, .if_icmp .ne 8, 3), (174, .iload 6, 2), (176, .goto 5, 3), (179, .iload 7, 2), (181, .ireturn, 1)]
theorem D_X9_lines : dkA cX9_lines rows_X9_lines := by
  unfold dkA
  decide +kernel
theorem okD_X9_lines : okD yX9_lines 3 := by
  unfold okD
  decide +kernel
def w_X9_lines_b149 (p1 : Int32) (p2 : Int32) (p3 : Int32) (v4 : Int32) (v5 : Int32) (v6 : Int32) (v7 : Int32) (v8 : Int32) (K61 : Int32 × Int32 × Int32 × Int32 × Int32 × Hp → Prop) (h : Hp) (Q : Int32 → Hp → Prop) : Prop :=
  K61 (v4, v5, v6, v7, (v8 + (1 : Int32)), h)
def w_X9_lines_b127 (p1 : Int32) (p2 : Int32) (p3 : Int32) (v8 : Int32) (v9 : Int32) (K61 : Int32 × Int32 × Int32 × Int32 × Int32 × Hp → Prop) (h : Hp) (Q : Int32 → Hp → Prop) : Prop :=
  (vp_in (0 : Int32) 2 ∧ wlet ((h 1425 (Int32.toNatClampNeg (0 : Int32)))) (fun v6_2 => wlet ((h 92 46)) (fun v7_3 => w_X9_lines_b149 p1 p2 p3 (v8) (v9) (v6_2) (v7_3) (v8) K61 (h) Q)))
def w_X9_lines_l61 (p1 : Int32) (p2 : Int32) (p3 : Int32) (Q : Int32 → Hp → Prop) (K61 : Int32 × Int32 × Int32 × Int32 × Int32 × Hp → Prop) (v4 : Int32) (v5 : Int32) (v6 : Int32) (v7 : Int32) (v8 : Int32) (h : Hp) : Prop :=
  wif ((100 : Int32) ≤ v8) (wlet (hup h 92 48 (-1 : Int32)) (fun h1 => Q (if ¬ p3 = 0 then (if ¬ p3 = (1 : Int32) then v7 else v6) else v4) h1)) (wlet (hup h 92 48 (v8 / (10 : Int32))) (fun h4 => wlet (hup h4 92 49 (v8 - v8 / (10 : Int32) * (10 : Int32))) (fun h5 => w_X9_everybody  h5 (fun z6 => w_X9_findPlan (z6) (p1) ((0 : Int32)) h5 (fun h7 => (vp_in (0 : Int32) 2 ∧ wlet (((h7 1425 (Int32.toNatClampNeg (0 : Int32))) - (p2 * (h7 92 46)))) (fun v9_9 => wif (v4 = (-1 : Int32)) (w_X9_lines_b127 p1 p2 p3 (v8) (v9_9) K61 (h7) Q) (wif (v5 < v9_9) (w_X9_lines_b127 p1 p2 p3 (v8) (v9_9) K61 (h7) Q) (w_X9_lines_b149 p1 p2 p3 (v4) (v5) (v6) (v7) (v8) K61 (h7) Q)))))))))
def w_X9_lines_b61 (p1 : Int32) (p2 : Int32) (p3 : Int32) (Q : Int32 → Hp → Prop) (s : Int32 × Int32 × Int32 × Int32 × Int32 × Hp) : Prop := wl (fun K s => w_X9_lines_l61 p1 p2 p3 Q K s.1 s.2.1 s.2.2.1 s.2.2.2.1 s.2.2.2.2.1 s.2.2.2.2.2) s
def w_X9_lines_b37 (p1 : Int32) (p2 : Int32) (p3 : Int32) (s0 : Int32) (h : Hp) (Q : Int32 → Hp → Prop) : Prop :=
  w_X9_bad (s0) ((1 : Int32)) h (fun z1 h2 => wif (z1 = 0) (w_X9_lines_b61 p1 p2 p3 Q ((-1 : Int32), (0 : Int32), (0 : Int32), (0 : Int32), (0 : Int32), h2)) (Q (0 : Int32) h2))
def w_X9_lines_b32 (p1 : Int32) (p2 : Int32) (p3 : Int32) (h : Hp) (Q : Int32 → Hp → Prop) : Prop :=
  w_X9_lines_b37 p1 p2 p3 ((1 : Int32)) (h) Q
def w_X9_lines (p1 : Int32) (p2 : Int32) (p3 : Int32) (h : Hp) (Q : Int32 → Hp → Prop) : Prop :=
  wlet (hup h 92 0 (0 : Int32)) (fun h1 => w_X9_isDay (p1) h1 (fun z2 => wif (z2 = 0) (w_X9_lines_b32 p1 p2 p3 (h1) Q) (w_X9_in (p2) ((0 : Int32)) ((9 : Int32)) h1 (fun z3 => wif (z3 = 0) (w_X9_lines_b32 p1 p2 p3 (h1) Q) (w_X9_in (p3) ((0 : Int32)) ((2 : Int32)) h1 (fun z4 => w_X9_bad ((if ¬ z4 = 0 then (0 : Int32) else (1 : Int32))) ((1 : Int32)) h1 (fun z6 h7 => wif (z6 = 0) (w_X9_lines_b61 p1 p2 p3 Q ((-1 : Int32), (0 : Int32), (0 : Int32), (0 : Int32), (0 : Int32), h7)) (Q (0 : Int32) h7))))))))
theorem t_X9_lines_b149 {X : Cx} (p1 : Int32) (p2 : Int32) (p3 : Int32) (v4 : Int32) (v5 : Int32) (v6 : Int32) (v7 : Int32) (v8 : Int32) (K61 : Int32 × Int32 × Int32 × Int32 × Int32 × Hp → Prop) (h : Hp) (Q : Int32 → Hp → Prop) (hK61 : ∀ s : Int32 × Int32 × Int32 × Int32 × Int32 × Hp, K61 s → G X M_X9_lines E_X9_lines (QM X E_X9_lines (QI Q) Qn) 0 61 [(0, .ref (92)), (1, .int (p1)), (2, .int (p2)), (3, .int (p3)), (4, .int (s.1)), (5, .int (s.2.1)), (6, .int (s.2.2.1)), (7, .int (s.2.2.2.1)), (8, .int (s.2.2.2.2.1))] [] (s.2.2.2.2.2)) (hw : w_X9_lines_b149 p1 p2 p3 v4 v5 v6 v7 v8 K61 h Q) : G X M_X9_lines E_X9_lines (QM X E_X9_lines (QI Q) Qn) 0 149 [(0, .ref (92)), (1, .int (p1)), (2, .int (p2)), (3, .int (p3)), (4, .int (v4)), (5, .int (v5)), (6, .int (v6)), (7, .int (v7)), (8, .int (v8))] [] h := by
  unfold w_X9_lines_b149 at hw
  refine g_iinc 8 (dk D_X9_lines 83 rfl) rfl (congrArg (fun z => _ + z) ki_1) (by decide) rfl ?_
  refine g_goto (dk D_X9_lines 84 rfl) rfl ?_
  refine g_sub [1, 2, 3, 4, 5, 6, 7, 8, 0] rfl ?_
  exact hK61 (v4, v5, v6, v7, (v8 + (1 : Int32)), h) hw
theorem t_X9_lines_b127 {X : Cx} (p1 : Int32) (p2 : Int32) (p3 : Int32) (v8 : Int32) (v9 : Int32) (K61 : Int32 × Int32 × Int32 × Int32 × Int32 × Hp → Prop) (h : Hp) (Q : Int32 → Hp → Prop) (hK61 : ∀ s : Int32 × Int32 × Int32 × Int32 × Int32 × Hp, K61 s → G X M_X9_lines E_X9_lines (QM X E_X9_lines (QI Q) Qn) 0 61 [(0, .ref (92)), (1, .int (p1)), (2, .int (p2)), (3, .int (p3)), (4, .int (s.1)), (5, .int (s.2.1)), (6, .int (s.2.2.1)), (7, .int (s.2.2.2.1)), (8, .int (s.2.2.2.2.1))] [] (s.2.2.2.2.2)) (hw : w_X9_lines_b127 p1 p2 p3 v8 v9 K61 h Q) : G X M_X9_lines E_X9_lines (QM X E_X9_lines (QI Q) Qn) 0 127 [(0, .ref (92)), (1, .int (p1)), (2, .int (p2)), (3, .int (p3)), (8, .int (v8)), (9, .int (v9))] [] h := by
  unfold w_X9_lines_b127 at hw
  refine g_iload 4 (dk D_X9_lines 71 rfl) rfl ?_
  refine g_istore (dk D_X9_lines 72 rfl) (by decide) rfl ?_
  refine g_iload 6 (dk D_X9_lines 73 rfl) rfl ?_
  refine g_istore (dk D_X9_lines 74 rfl) (by decide) rfl ?_
  refine g_aload_n 2 (dk D_X9_lines 75 rfl) rfl rfl ?_
  refine g_getR 47 (t := 1425) (dk D_X9_lines 76 rfl) kd_92 rfl rfl (by decide) w_1404 rfl rfl rfl ?_
  refine g_iconst (dk D_X9_lines 77 rfl) ki_0 ?_
  obtain ⟨hi1, hw⟩ := hw
  refine g_iald (dk D_X9_lines 78 rfl) kd_1425 hi1 ?_
  refine g_topi (fun v6_2 ev6_2 => ?_)
  replace hw := hw _ ev6_2
  refine g_istore (dk D_X9_lines 79 rfl) (by decide) rfl ?_
  refine g_aload_n 3 (dk D_X9_lines 80 rfl) rfl rfl ?_
  refine g_getI 46 (dk D_X9_lines 81 rfl) kd_92 rfl rfl (by decide) w_1403 rfl rfl ?_
  refine g_topi (fun v7_3 ev7_3 => ?_)
  replace hw := hw _ ev7_3
  refine g_istore (dk D_X9_lines 82 rfl) (by decide) rfl ?_
  refine g_sub [4, 5, 6, 7, 3, 2, 1, 0, 8] rfl ?_
  exact t_X9_lines_b149 p1 p2 p3 (v8) (v9) (v6_2) (v7_3) (v8) K61 (h) Q hK61 hw
theorem t_X9_lines_l61 {X : Cx} (p1 : Int32) (p2 : Int32) (p3 : Int32) (Q : Int32 → Hp → Prop) (K61 : Int32 × Int32 × Int32 × Int32 × Int32 × Hp → Prop) (v4 : Int32) (v5 : Int32) (v6 : Int32) (v7 : Int32) (v8 : Int32) (h : Hp) (hK61 : ∀ s : Int32 × Int32 × Int32 × Int32 × Int32 × Hp, K61 s → G X M_X9_lines E_X9_lines (QM X E_X9_lines (QI Q) Qn) 0 61 [(0, .ref (92)), (1, .int (p1)), (2, .int (p2)), (3, .int (p3)), (4, .int (s.1)), (5, .int (s.2.1)), (6, .int (s.2.2.1)), (7, .int (s.2.2.2.1)), (8, .int (s.2.2.2.2.1))] [] (s.2.2.2.2.2)) (hw : w_X9_lines_l61 p1 p2 p3 Q K61 v4 v5 v6 v7 v8 h) : G X M_X9_lines E_X9_lines (QM X E_X9_lines (QI Q) Qn) 0 61 [(0, .ref (92)), (1, .int (p1)), (2, .int (p2)), (3, .int (p3)), (4, .int (v4)), (5, .int (v5)), (6, .int (v6)), (7, .int (v7)), (8, .int (v8))] [] h := by
  unfold w_X9_lines_l61 at hw
  refine g_iload 8 (dk D_X9_lines 35 rfl) rfl ?_
  refine g_bipush (dk D_X9_lines 36 rfl) kb_100 ?_
  refine g_icmp_ge (dk D_X9_lines 37 rfl) rfl (wif_m hw (fun hw => ?_) (fun hw => ?_))
  · refine g_aload_n 0 (dk D_X9_lines 85 rfl) rfl rfl ?_
    refine g_iconst (dk D_X9_lines 86 rfl) ki_m1 ?_
    refine g_put 48 (dk D_X9_lines 87 rfl) kd_92 rfl rfl (by decide) w_1405 rfl tyX9_ok nmX9 rfl (by decide) rfl (fun z => absurd z (by decide)) ?_
    refine g_heap (fun h1 eh1 => ?_)
    replace hw := hw _ eh1
    refine g_iload_n 3 (dk D_X9_lines 88 rfl) rfl rfl ?_
    have hj : G X M_X9_lines E_X9_lines (QM X E_X9_lines (QI Q) Qn) 0 181 [(0, .ref (92)), (1, .int (p1)), (2, .int (p2)), (3, .int (p3)), (4, .int (v4)), (5, .int (v5)), (6, .int (v6)), (7, .int (v7)), (8, .int (v8))] [.int ((if ¬ p3 = 0 then (if ¬ p3 = (1 : Int32) then v7 else v6) else v4))] (h1) := by
      exact g_iret (dk D_X9_lines 98 rfl) rfl ⟨_, rfl, hw⟩
    refine g_if_ne (dk D_X9_lines 89 rfl) rfl ?_
    by_cases c3 : ¬ p3 = 0
    · rw [if_pos c3] at hj
      refine wif_p c3 ?_
      refine g_iload_n 3 (dk D_X9_lines 92 rfl) rfl rfl ?_
      refine g_iconst (dk D_X9_lines 93 rfl) ki_1 ?_
      refine g_icmp_ne (dk D_X9_lines 94 rfl) rfl ?_
      by_cases c2 : ¬ p3 = (1 : Int32)
      · rw [if_pos c2] at hj
        refine wif_p c2 ?_
        refine g_iload 7 (dk D_X9_lines 97 rfl) rfl ?_
        exact hj
      · rw [if_neg c2] at hj
        refine wif_n c2 ?_
        refine g_iload 6 (dk D_X9_lines 95 rfl) rfl ?_
        refine g_goto (dk D_X9_lines 96 rfl) rfl ?_
        exact hj
    · rw [if_neg c3] at hj
      refine wif_n c3 ?_
      refine g_iload 4 (dk D_X9_lines 90 rfl) rfl ?_
      refine g_goto (dk D_X9_lines 91 rfl) rfl ?_
      exact hj
  · refine g_aload_n 0 (dk D_X9_lines 38 rfl) rfl rfl ?_
    refine g_iload 8 (dk D_X9_lines 39 rfl) rfl ?_
    refine g_bipush (dk D_X9_lines 40 rfl) kb_10 ?_
    refine g_idiv (dk D_X9_lines 41 rfl) (by decide) ?_
    refine g_put 48 (dk D_X9_lines 42 rfl) kd_92 rfl rfl (by decide) w_1405 rfl tyX9_ok nmX9 rfl (by decide) rfl (fun z => absurd z (by decide)) ?_
    refine g_heap (fun h4 eh4 => ?_)
    replace hw := hw _ eh4
    refine g_aload_n 0 (dk D_X9_lines 43 rfl) rfl rfl ?_
    refine g_iload 8 (dk D_X9_lines 44 rfl) rfl ?_
    refine g_bipush (dk D_X9_lines 45 rfl) kb_10 ?_
    refine g_irem (dk D_X9_lines 46 rfl) (by decide) ?_
    refine g_put 49 (dk D_X9_lines 47 rfl) kd_92 rfl rfl (by decide) w_1406 rfl tyX9_ok nmX9 rfl (by decide) rfl (fun z => absurd z (by decide)) ?_
    refine g_heap (fun h5 eh5 => ?_)
    replace hw := hw _ eh5
    refine g_aload_n 0 (dk D_X9_lines 48 rfl) rfl rfl ?_
    refine g_aload_n 0 (dk D_X9_lines 49 rfl) rfl rfl ?_
    refine g_callV (As := []) (kc := 0) (fr := 0) (lo := 0) (mc := 0) (My := M_X9_everybody) (dk D_X9_lines 50 rfl) kd_92 rfl rfl w_1769 w_1771 w_81 w_110 w_1772 okD_X9_everybody (by decide) (Nat.le_of_ble_eq_true rfl) rfl (c_X9_everybody (h5) _ hw) kxN (kIp (fun z6 hw => ?_))
    refine g_iload_n 1 (dk D_X9_lines 51 rfl) rfl rfl ?_
    refine g_iconst (dk D_X9_lines 52 rfl) ki_0 ?_
    refine g_callV (As := [.int (z6), .int (p1), .int ((0 : Int32))]) (kc := 0) (fr := 6) (lo := 207) (mc := 0) (My := M_X9_findPlan) (dk D_X9_lines 53 rfl) kd_92 rfl rfl w_1773 w_1775 w_82 w_110 w_1776 okD_X9_findPlan (by decide) (Nat.le_of_ble_eq_true rfl) rfl (c_X9_findPlan (z6) (p1) ((0 : Int32)) (h5) _ hw) kxN (kV (fun h7 hw => ?_))
    refine g_aload_n 0 (dk D_X9_lines 54 rfl) rfl rfl ?_
    refine g_getR 47 (t := 1425) (dk D_X9_lines 55 rfl) kd_92 rfl rfl (by decide) w_1404 rfl rfl rfl ?_
    refine g_iconst (dk D_X9_lines 56 rfl) ki_0 ?_
    obtain ⟨hi8, hw⟩ := hw
    refine g_iald (dk D_X9_lines 57 rfl) kd_1425 hi8 ?_
    refine g_iload_n 2 (dk D_X9_lines 58 rfl) rfl rfl ?_
    refine g_aload_n 0 (dk D_X9_lines 59 rfl) rfl rfl ?_
    refine g_getI 46 (dk D_X9_lines 60 rfl) kd_92 rfl rfl (by decide) w_1403 rfl rfl ?_
    refine g_imul (dk D_X9_lines 61 rfl) ?_
    refine g_isub (dk D_X9_lines 62 rfl) ?_
    refine g_topi (fun v9_9 ev9_9 => ?_)
    replace hw := hw _ ev9_9
    refine g_istore (dk D_X9_lines 63 rfl) (by decide) rfl ?_
    refine g_iload 5 (dk D_X9_lines 64 rfl) rfl ?_
    refine g_iconst (dk D_X9_lines 65 rfl) ki_m1 ?_
    refine g_icmp_eq (dk D_X9_lines 66 rfl) rfl (wif_m hw (fun hw => ?_) (fun hw => ?_))
    · refine g_sub [1, 2, 3, 4, 9, 0] rfl ?_
      exact t_X9_lines_b127 p1 p2 p3 (v8) (v9_9) K61 (h7) Q hK61 hw
    · refine g_iload 0 (dk D_X9_lines 67 rfl) rfl ?_
      refine g_iload 6 (dk D_X9_lines 68 rfl) rfl ?_
      refine g_icmp_gt (dk D_X9_lines 69 rfl) rfl (wif_m hw (fun hw => ?_) (fun hw => ?_))
      · refine g_sub [1, 2, 3, 4, 9, 0] rfl ?_
        exact t_X9_lines_b127 p1 p2 p3 (v8) (v9_9) K61 (h7) Q hK61 hw
      · refine g_goto (dk D_X9_lines 70 rfl) rfl ?_
        refine g_sub [1, 2, 3, 4, 5, 6, 7, 8, 9] rfl ?_
        exact t_X9_lines_b149 p1 p2 p3 (v4) (v5) (v6) (v7) (v8) K61 (h7) Q hK61 hw
theorem t_X9_lines_b61 {X : Cx} (p1 : Int32) (p2 : Int32) (p3 : Int32) (Q : Int32 → Hp → Prop) (s : Int32 × Int32 × Int32 × Int32 × Int32 × Hp) (hw : w_X9_lines_b61 p1 p2 p3 Q s) : G X M_X9_lines E_X9_lines (QM X E_X9_lines (QI Q) Qn) 0 61 [(0, .ref (92)), (1, .int (p1)), (2, .int (p2)), (3, .int (p3)), (4, .int (s.1)), (5, .int (s.2.1)), (6, .int (s.2.2.1)), (7, .int (s.2.2.2.1)), (8, .int (s.2.2.2.2.1))] [] (s.2.2.2.2.2) :=
  wl_ind (B := fun K s => w_X9_lines_l61 p1 p2 p3 Q K (s.1) (s.2.1) (s.2.2.1) (s.2.2.2.1) (s.2.2.2.2.1) (s.2.2.2.2.2)) (P := fun s => G X M_X9_lines E_X9_lines (QM X E_X9_lines (QI Q) Qn) 0 61 [(0, .ref (92)), (1, .int (p1)), (2, .int (p2)), (3, .int (p3)), (4, .int (s.1)), (5, .int (s.2.1)), (6, .int (s.2.2.1)), (7, .int (s.2.2.2.1)), (8, .int (s.2.2.2.2.1))] [] (s.2.2.2.2.2)) (fun K hK s hw => t_X9_lines_l61 p1 p2 p3 Q K (s.1) (s.2.1) (s.2.2.1) (s.2.2.2.1) (s.2.2.2.2.1) (s.2.2.2.2.2) hK hw) s hw
theorem t_X9_lines_b37 {X : Cx} (p1 : Int32) (p2 : Int32) (p3 : Int32) (s0 : Int32) (h : Hp) (Q : Int32 → Hp → Prop) (hw : w_X9_lines_b37 p1 p2 p3 s0 h Q) : G X M_X9_lines E_X9_lines (QM X E_X9_lines (QI Q) Qn) 0 37 [(0, .ref (92)), (1, .int (p1)), (2, .int (p2)), (3, .int (p3))] [.int (s0), .ref (92)] h := by
  unfold w_X9_lines_b37 at hw
  refine g_iconst (dk D_X9_lines 20 rfl) ki_1 ?_
  refine g_callV (As := [.int (s0), .int ((1 : Int32))]) (kc := 0) (fr := 0) (lo := 0) (mc := 0) (My := M_X9_bad) (dk D_X9_lines 21 rfl) kd_92 rfl rfl w_1530 w_1532 w_42 w_110 w_1533 okD_X9_bad (by decide) (Nat.le_of_ble_eq_true rfl) rfl (c_X9_bad (s0) ((1 : Int32)) (h) _ hw) kxN (kI (fun z1 h2 hw => ?_))
  refine g_if_eq (dk D_X9_lines 22 rfl) rfl (wif_m hw (fun hw => ?_) (fun hw => ?_))
  · refine g_iconst (dk D_X9_lines 25 rfl) ki_m1 ?_
    refine g_istore (dk D_X9_lines 26 rfl) (by decide) rfl ?_
    refine g_iconst (dk D_X9_lines 27 rfl) ki_0 ?_
    refine g_istore (dk D_X9_lines 28 rfl) (by decide) rfl ?_
    refine g_iconst (dk D_X9_lines 29 rfl) ki_0 ?_
    refine g_istore (dk D_X9_lines 30 rfl) (by decide) rfl ?_
    refine g_iconst (dk D_X9_lines 31 rfl) ki_0 ?_
    refine g_istore (dk D_X9_lines 32 rfl) (by decide) rfl ?_
    refine g_iconst (dk D_X9_lines 33 rfl) ki_0 ?_
    refine g_istore (dk D_X9_lines 34 rfl) (by decide) rfl ?_
    refine g_sub [5, 6, 7, 8, 4, 3, 2, 1, 0] rfl ?_
    exact t_X9_lines_b61 p1 p2 p3 Q ((-1 : Int32), (0 : Int32), (0 : Int32), (0 : Int32), (0 : Int32), h2) hw
  · refine g_iconst (dk D_X9_lines 23 rfl) ki_0 ?_
    exact g_iret (dk D_X9_lines 24 rfl) rfl ⟨_, rfl, hw⟩
theorem t_X9_lines_b32 {X : Cx} (p1 : Int32) (p2 : Int32) (p3 : Int32) (h : Hp) (Q : Int32 → Hp → Prop) (hw : w_X9_lines_b32 p1 p2 p3 h Q) : G X M_X9_lines E_X9_lines (QM X E_X9_lines (QI Q) Qn) 0 32 [(0, .ref (92)), (1, .int (p1)), (2, .int (p2)), (3, .int (p3))] [.ref (92)] h := by
  unfold w_X9_lines_b32 at hw
  refine g_iconst (dk D_X9_lines 17 rfl) ki_1 ?_
  refine g_goto (dk D_X9_lines 18 rfl) rfl ?_
  exact t_X9_lines_b37 p1 p2 p3 ((1 : Int32)) (h) Q hw
theorem t_X9_lines {X : Cx} (p1 : Int32) (p2 : Int32) (p3 : Int32) (h : Hp) (Q : Int32 → Hp → Prop) (hw : w_X9_lines p1 p2 p3 h Q) : G X M_X9_lines E_X9_lines (QM X E_X9_lines (QI Q) Qn) 0 0 [(0, .ref (92)), (1, .int (p1)), (2, .int (p2)), (3, .int (p3))] [] h := by
  unfold w_X9_lines at hw
  refine g_aload_n 0 (dk D_X9_lines 0 rfl) rfl rfl ?_
  refine g_iconst (dk D_X9_lines 1 rfl) ki_0 ?_
  refine g_put 0 (dk D_X9_lines 2 rfl) kd_92 rfl rfl (by decide) w_1357 rfl tyX9_ok nmX9 rfl (by decide) rfl (fun z => absurd z (by decide)) ?_
  refine g_heap (fun h1 eh1 => ?_)
  replace hw := hw _ eh1
  refine g_aload_n 0 (dk D_X9_lines 3 rfl) rfl rfl ?_
  refine g_iload_n 1 (dk D_X9_lines 4 rfl) rfl rfl ?_
  refine g_callS (As := [.int (p1)]) (kc := 0) (fr := 1) (lo := 30) (mc := 0) (My := M_X9_isDay) (dk D_X9_lines 5 rfl) w_1676 w_1677 w_110 w_1678 okD_X9_isDay (by decide) (Nat.le_of_ble_eq_true rfl) rfl (c_X9_isDay (p1) (h1) _ hw) kxN (kIp (fun z2 hw => ?_))
  refine g_if_eq (dk D_X9_lines 6 rfl) rfl (wif_m hw (fun hw => ?_) (fun hw => ?_))
  · exact t_X9_lines_b32 p1 p2 p3 (h1) Q hw
  · refine g_iload_n 2 (dk D_X9_lines 7 rfl) rfl rfl ?_
    refine g_iconst (dk D_X9_lines 8 rfl) ki_0 ?_
    refine g_bipush (dk D_X9_lines 9 rfl) kb_9 ?_
    refine g_callS (As := [.int (p2), .int ((0 : Int32)), .int ((9 : Int32))]) (kc := 0) (fr := 0) (lo := 0) (mc := 0) (My := M_X9_in) (dk D_X9_lines 10 rfl) w_1527 w_1528 w_110 w_1529 okD_X9_in (by decide) (Nat.le_of_ble_eq_true rfl) rfl (c_X9_in (p2) ((0 : Int32)) ((9 : Int32)) (h1) _ hw) kxN (kIp (fun z3 hw => ?_))
    refine g_if_eq (dk D_X9_lines 11 rfl) rfl (wif_m hw (fun hw => ?_) (fun hw => ?_))
    · exact t_X9_lines_b32 p1 p2 p3 (h1) Q hw
    · refine g_iload_n 3 (dk D_X9_lines 12 rfl) rfl rfl ?_
      refine g_iconst (dk D_X9_lines 13 rfl) ki_0 ?_
      refine g_iconst (dk D_X9_lines 14 rfl) ki_2 ?_
      refine g_callS (As := [.int (p3), .int ((0 : Int32)), .int ((2 : Int32))]) (kc := 0) (fr := 0) (lo := 0) (mc := 0) (My := M_X9_in) (dk D_X9_lines 15 rfl) w_1527 w_1528 w_110 w_1529 okD_X9_in (by decide) (Nat.le_of_ble_eq_true rfl) rfl (c_X9_in (p3) ((0 : Int32)) ((2 : Int32)) (h1) _ hw) kxN (kIp (fun z4 hw => ?_))
      have hj : G X M_X9_lines E_X9_lines (QM X E_X9_lines (QI Q) Qn) 0 37 [(0, .ref (92)), (1, .int (p1)), (2, .int (p2)), (3, .int (p3))] [.int ((if ¬ z4 = 0 then (0 : Int32) else (1 : Int32))), .ref (92)] (h1) := by
        refine g_iconst (dk D_X9_lines 20 rfl) ki_1 ?_
        refine g_callV (As := [.int ((if ¬ z4 = 0 then (0 : Int32) else (1 : Int32))), .int ((1 : Int32))]) (kc := 0) (fr := 0) (lo := 0) (mc := 0) (My := M_X9_bad) (dk D_X9_lines 21 rfl) kd_92 rfl rfl w_1530 w_1532 w_42 w_110 w_1533 okD_X9_bad (by decide) (Nat.le_of_ble_eq_true rfl) rfl (c_X9_bad ((if ¬ z4 = 0 then (0 : Int32) else (1 : Int32))) ((1 : Int32)) (h1) _ hw) kxN (kI (fun z6 h7 hw => ?_))
        refine g_if_eq (dk D_X9_lines 22 rfl) rfl (wif_m hw (fun hw => ?_) (fun hw => ?_))
        · refine g_iconst (dk D_X9_lines 25 rfl) ki_m1 ?_
          refine g_istore (dk D_X9_lines 26 rfl) (by decide) rfl ?_
          refine g_iconst (dk D_X9_lines 27 rfl) ki_0 ?_
          refine g_istore (dk D_X9_lines 28 rfl) (by decide) rfl ?_
          refine g_iconst (dk D_X9_lines 29 rfl) ki_0 ?_
          refine g_istore (dk D_X9_lines 30 rfl) (by decide) rfl ?_
          refine g_iconst (dk D_X9_lines 31 rfl) ki_0 ?_
          refine g_istore (dk D_X9_lines 32 rfl) (by decide) rfl ?_
          refine g_iconst (dk D_X9_lines 33 rfl) ki_0 ?_
          refine g_istore (dk D_X9_lines 34 rfl) (by decide) rfl ?_
          refine g_sub [5, 6, 7, 8, 4, 3, 2, 1, 0] rfl ?_
          exact t_X9_lines_b61 p1 p2 p3 Q ((-1 : Int32), (0 : Int32), (0 : Int32), (0 : Int32), (0 : Int32), h7) hw
        · refine g_iconst (dk D_X9_lines 23 rfl) ki_0 ?_
          exact g_iret (dk D_X9_lines 24 rfl) rfl ⟨_, rfl, hw⟩
      refine g_if_ne (dk D_X9_lines 16 rfl) rfl ?_
      by_cases c5 : ¬ z4 = 0
      · rw [if_pos c5] at hj
        refine wif_p c5 ?_
        refine g_iconst (dk D_X9_lines 19 rfl) ki_0 ?_
        exact hj
      · rw [if_neg c5] at hj
        refine wif_n c5 ?_
        refine g_iconst (dk D_X9_lines 17 rfl) ki_1 ?_
        refine g_goto (dk D_X9_lines 18 rfl) rfl ?_
        exact hj
theorem c_X9_lines {X : Cx} (p1 : Int32) (p2 : Int32) (p3 : Int32) (h : Hp) (Q : Int32 → Hp → Prop) (hw : w_X9_lines p1 p2 p3 h Q) : Con X yX9_lines M_X9_lines 7 243 0 [.ref (92), .int (p1), .int (p2), .int (p3)] h (QI Q) Qn :=
  con_of (by decide +kernel) rfl (Nat.le_of_ble_eq_true rfl) (t_X9_lines p1 p2 p3 h Q hw)
/-! ShadowTollsModel.answers(II)I -/
abbrev M_X9_answers : Mi := (RX9, cX9_answers, 7, (some .int))
abbrev E_X9_answers : Rm := (7, 243, 0, 0)
def rows_X9_answers : List (Nat × Instr × Nat) := [(0, .aload_n 0, 1), (1, .getfield 64, 3), (4, .iload_n 1, 1), (5, .iaload, 1), (6, .istore_n 3, 1), (7, .iconst (-1), 1), (8, .istore 4, 2), (10, .iconst 0, 1), (11, .istore 5, 2), (13, .iconst 0, 1), (14, .istore 6, 2), (16, .iload 6, 2), (18, .aload_n 0, 1), (19, .getfield 221, 3), (22, .if_icmp .ge 59, 3), (25, .aload_n 0, 1), (26, .getfield 64, 3), (29, .iload_n 1, 1), (30, .iload 6, 2), (32, .iastore, 1), (33, .aload_n 0, 1), (34, .aload_n 0, 1), (35, .invokevirtual 378, 3), (38, .iload_n 2, 1), (39, .iconst 1, 1), (40, .invokevirtual 385, 3), (43, .iload 4, 2), (45, .iconst (-1), 1), (46, .if_icmp .eq 17, 3), (49, .aload_n 0, 1), (50, .getfield 98, 3), (53, .iload_n 1, 1), (54, .iaload, 1), (55, .iload 5, 2), (57, .if_icmp .gt 6, 3), (60, .goto 15, 3), (63, .iload 6, 2), (65, .istore 4, 2), (67, .aload_n 0, 1), (68, .getfield 98, 3), (71, .iload_n 1, 1), (72, .iaload, 1), (73, .istore 5, 2), (75, .iinc 6 1, 3), (78, .goto (-62), 3), (81, .aload_n 0, 1), (82, .getfield 64, 3), (85, .iload_n 1, 1), (86, .iload_n 3, 1), (87, .iastore, 1), (88, .iload 4, 2), (90, .ireturn, 1)]
theorem D_X9_answers : dkA cX9_answers rows_X9_answers := by
  unfold dkA
  decide +kernel
theorem okD_X9_answers : okD yX9_answers 2 := by
  unfold okD
  decide +kernel
def w_X9_answers_b75 (p1 : Int32) (p2 : Int32) (v3 : Int32) (v4 : Int32) (v5 : Int32) (v6 : Int32) (K16 : Int32 × Int32 × Int32 × Hp → Prop) (h : Hp) (Q : Int32 → Hp → Prop) : Prop :=
  K16 (v4, v5, (v6 + (1 : Int32)), h)
def w_X9_answers_b63 (p1 : Int32) (p2 : Int32) (v3 : Int32) (v6 : Int32) (K16 : Int32 × Int32 × Int32 × Hp → Prop) (h : Hp) (Q : Int32 → Hp → Prop) : Prop :=
  (vp_in p1 2 ∧ wlet ((h 1425 (Int32.toNatClampNeg p1))) (fun v5_2 => w_X9_answers_b75 p1 p2 (v3) (v6) (v5_2) (v6) K16 (h) Q))
def w_X9_answers_l16 (p1 : Int32) (p2 : Int32) (v3 : Int32) (Q : Int32 → Hp → Prop) (K16 : Int32 × Int32 × Int32 × Hp → Prop) (v4 : Int32) (v5 : Int32) (v6 : Int32) (h : Hp) : Prop :=
  wif ((h 92 18) ≤ v6) ((vp_in p1 2 ∧ wlet (hup h 141 (Int32.toNatClampNeg p1) v3) (fun h2 => Q v4 h2))) ((vp_in p1 2 ∧ wlet (hup h 141 (Int32.toNatClampNeg p1) v6) (fun h4 => w_X9_everybody  h4 (fun z5 => w_X9_findPlan (z5) (p2) ((1 : Int32)) h4 (fun h6 => wif (v4 = (-1 : Int32)) (w_X9_answers_b63 p1 p2 (v3) (v6) K16 (h6) Q) ((vp_in p1 2 ∧ wif (v5 < (h6 1425 (Int32.toNatClampNeg p1))) (w_X9_answers_b63 p1 p2 (v3) (v6) K16 (h6) Q) (w_X9_answers_b75 p1 p2 (v3) (v4) (v5) (v6) K16 (h6) Q))))))))
def w_X9_answers_b16 (p1 : Int32) (p2 : Int32) (v3 : Int32) (Q : Int32 → Hp → Prop) (s : Int32 × Int32 × Int32 × Hp) : Prop := wl (fun K s => w_X9_answers_l16 p1 p2 v3 Q K s.1 s.2.1 s.2.2.1 s.2.2.2) s
def w_X9_answers (p1 : Int32) (p2 : Int32) (h : Hp) (Q : Int32 → Hp → Prop) : Prop :=
  (vp_in p1 2 ∧ wlet ((h 141 (Int32.toNatClampNeg p1))) (fun v3_2 => w_X9_answers_b16 p1 p2 (v3_2) Q ((-1 : Int32), (0 : Int32), (0 : Int32), h)))
theorem t_X9_answers_b75 {X : Cx} (p1 : Int32) (p2 : Int32) (v3 : Int32) (v4 : Int32) (v5 : Int32) (v6 : Int32) (K16 : Int32 × Int32 × Int32 × Hp → Prop) (h : Hp) (Q : Int32 → Hp → Prop) (hK16 : ∀ s : Int32 × Int32 × Int32 × Hp, K16 s → G X M_X9_answers E_X9_answers (QM X E_X9_answers (QI Q) Qn) 0 16 [(0, .ref (92)), (1, .int (p1)), (2, .int (p2)), (3, .int (v3)), (4, .int (s.1)), (5, .int (s.2.1)), (6, .int (s.2.2.1))] [] (s.2.2.2)) (hw : w_X9_answers_b75 p1 p2 v3 v4 v5 v6 K16 h Q) : G X M_X9_answers E_X9_answers (QM X E_X9_answers (QI Q) Qn) 0 75 [(0, .ref (92)), (1, .int (p1)), (2, .int (p2)), (3, .int (v3)), (4, .int (v4)), (5, .int (v5)), (6, .int (v6))] [] h := by
  unfold w_X9_answers_b75 at hw
  refine g_iinc 6 (dk D_X9_answers 43 rfl) rfl (congrArg (fun z => _ + z) ki_1) (by decide) rfl ?_
  refine g_goto (dk D_X9_answers 44 rfl) rfl ?_
  refine g_sub [1, 2, 3, 4, 5, 6, 0] rfl ?_
  exact hK16 (v4, v5, (v6 + (1 : Int32)), h) hw
theorem t_X9_answers_b63 {X : Cx} (p1 : Int32) (p2 : Int32) (v3 : Int32) (v6 : Int32) (K16 : Int32 × Int32 × Int32 × Hp → Prop) (h : Hp) (Q : Int32 → Hp → Prop) (hK16 : ∀ s : Int32 × Int32 × Int32 × Hp, K16 s → G X M_X9_answers E_X9_answers (QM X E_X9_answers (QI Q) Qn) 0 16 [(0, .ref (92)), (1, .int (p1)), (2, .int (p2)), (3, .int (v3)), (4, .int (s.1)), (5, .int (s.2.1)), (6, .int (s.2.2.1))] [] (s.2.2.2)) (hw : w_X9_answers_b63 p1 p2 v3 v6 K16 h Q) : G X M_X9_answers E_X9_answers (QM X E_X9_answers (QI Q) Qn) 0 63 [(0, .ref (92)), (1, .int (p1)), (2, .int (p2)), (3, .int (v3)), (6, .int (v6))] [] h := by
  unfold w_X9_answers_b63 at hw
  refine g_iload 4 (dk D_X9_answers 36 rfl) rfl ?_
  refine g_istore (dk D_X9_answers 37 rfl) (by decide) rfl ?_
  refine g_aload_n 1 (dk D_X9_answers 38 rfl) rfl rfl ?_
  refine g_getR 47 (t := 1425) (dk D_X9_answers 39 rfl) kd_92 rfl rfl (by decide) w_1404 rfl rfl rfl ?_
  refine g_iload_n 2 (dk D_X9_answers 40 rfl) rfl rfl ?_
  obtain ⟨hi1, hw⟩ := hw
  refine g_iald (dk D_X9_answers 41 rfl) kd_1425 hi1 ?_
  refine g_topi (fun v5_2 ev5_2 => ?_)
  replace hw := hw _ ev5_2
  refine g_istore (dk D_X9_answers 42 rfl) (by decide) rfl ?_
  refine g_sub [2, 3, 4, 5, 1, 0, 6] rfl ?_
  exact t_X9_answers_b75 p1 p2 (v3) (v6) (v5_2) (v6) K16 (h) Q hK16 hw
theorem t_X9_answers_l16 {X : Cx} (p1 : Int32) (p2 : Int32) (v3 : Int32) (Q : Int32 → Hp → Prop) (K16 : Int32 × Int32 × Int32 × Hp → Prop) (v4 : Int32) (v5 : Int32) (v6 : Int32) (h : Hp) (hK16 : ∀ s : Int32 × Int32 × Int32 × Hp, K16 s → G X M_X9_answers E_X9_answers (QM X E_X9_answers (QI Q) Qn) 0 16 [(0, .ref (92)), (1, .int (p1)), (2, .int (p2)), (3, .int (v3)), (4, .int (s.1)), (5, .int (s.2.1)), (6, .int (s.2.2.1))] [] (s.2.2.2)) (hw : w_X9_answers_l16 p1 p2 v3 Q K16 v4 v5 v6 h) : G X M_X9_answers E_X9_answers (QM X E_X9_answers (QI Q) Qn) 0 16 [(0, .ref (92)), (1, .int (p1)), (2, .int (p2)), (3, .int (v3)), (4, .int (v4)), (5, .int (v5)), (6, .int (v6))] [] h := by
  unfold w_X9_answers_l16 at hw
  refine g_iload 6 (dk D_X9_answers 11 rfl) rfl ?_
  refine g_aload_n 0 (dk D_X9_answers 12 rfl) rfl rfl ?_
  refine g_getI 18 (dk D_X9_answers 13 rfl) kd_92 rfl rfl (by decide) w_1375 rfl rfl ?_
  refine g_icmp_ge (dk D_X9_answers 14 rfl) rfl (wif_m hw (fun hw => ?_) (fun hw => ?_))
  · refine g_aload_n 0 (dk D_X9_answers 45 rfl) rfl rfl ?_
    refine g_getR 28 (t := 141) (dk D_X9_answers 46 rfl) kd_92 rfl rfl (by decide) w_1385 rfl rfl rfl ?_
    refine g_iload_n 1 (dk D_X9_answers 47 rfl) rfl rfl ?_
    refine g_iload_n 3 (dk D_X9_answers 48 rfl) rfl rfl ?_
    obtain ⟨hi1, hw⟩ := hw
    refine g_iast (dk D_X9_answers 49 rfl) kd_141 hi1 ?_
    refine g_heap (fun h2 eh2 => ?_)
    replace hw := hw _ eh2
    refine g_iload 4 (dk D_X9_answers 50 rfl) rfl ?_
    exact g_iret (dk D_X9_answers 51 rfl) rfl ⟨_, rfl, hw⟩
  · refine g_aload_n 0 (dk D_X9_answers 15 rfl) rfl rfl ?_
    refine g_getR 28 (t := 141) (dk D_X9_answers 16 rfl) kd_92 rfl rfl (by decide) w_1385 rfl rfl rfl ?_
    refine g_iload_n 1 (dk D_X9_answers 17 rfl) rfl rfl ?_
    refine g_iload 6 (dk D_X9_answers 18 rfl) rfl ?_
    obtain ⟨hi3, hw⟩ := hw
    refine g_iast (dk D_X9_answers 19 rfl) kd_141 hi3 ?_
    refine g_heap (fun h4 eh4 => ?_)
    replace hw := hw _ eh4
    refine g_aload_n 0 (dk D_X9_answers 20 rfl) rfl rfl ?_
    refine g_aload_n 0 (dk D_X9_answers 21 rfl) rfl rfl ?_
    refine g_callV (As := []) (kc := 0) (fr := 0) (lo := 0) (mc := 0) (My := M_X9_everybody) (dk D_X9_answers 22 rfl) kd_92 rfl rfl w_1769 w_1771 w_81 w_110 w_1772 okD_X9_everybody (by decide) (Nat.le_of_ble_eq_true rfl) rfl (c_X9_everybody (h4) _ hw) kxN (kIp (fun z5 hw => ?_))
    refine g_iload_n 2 (dk D_X9_answers 23 rfl) rfl rfl ?_
    refine g_iconst (dk D_X9_answers 24 rfl) ki_1 ?_
    refine g_callV (As := [.int (z5), .int (p2), .int ((1 : Int32))]) (kc := 0) (fr := 6) (lo := 207) (mc := 0) (My := M_X9_findPlan) (dk D_X9_answers 25 rfl) kd_92 rfl rfl w_1773 w_1775 w_82 w_110 w_1776 okD_X9_findPlan (by decide) (Nat.le_of_ble_eq_true rfl) rfl (c_X9_findPlan (z5) (p2) ((1 : Int32)) (h4) _ hw) kxN (kV (fun h6 hw => ?_))
    refine g_iload 4 (dk D_X9_answers 26 rfl) rfl ?_
    refine g_iconst (dk D_X9_answers 27 rfl) ki_m1 ?_
    refine g_icmp_eq (dk D_X9_answers 28 rfl) rfl (wif_m hw (fun hw => ?_) (fun hw => ?_))
    · refine g_sub [0, 1, 2, 3, 6] rfl ?_
      exact t_X9_answers_b63 p1 p2 (v3) (v6) K16 (h6) Q hK16 hw
    · refine g_aload_n 0 (dk D_X9_answers 29 rfl) rfl rfl ?_
      refine g_getR 47 (t := 1425) (dk D_X9_answers 30 rfl) kd_92 rfl rfl (by decide) w_1404 rfl rfl rfl ?_
      refine g_iload_n 1 (dk D_X9_answers 31 rfl) rfl rfl ?_
      obtain ⟨hi7, hw⟩ := hw
      refine g_iald (dk D_X9_answers 32 rfl) kd_1425 hi7 ?_
      refine g_iload 5 (dk D_X9_answers 33 rfl) rfl ?_
      refine g_icmp_gt (dk D_X9_answers 34 rfl) rfl (wif_m hw (fun hw => ?_) (fun hw => ?_))
      · refine g_sub [0, 1, 2, 3, 6] rfl ?_
        exact t_X9_answers_b63 p1 p2 (v3) (v6) K16 (h6) Q hK16 hw
      · refine g_goto (dk D_X9_answers 35 rfl) rfl ?_
        exact t_X9_answers_b75 p1 p2 (v3) (v4) (v5) (v6) K16 (h6) Q hK16 hw
theorem t_X9_answers_b16 {X : Cx} (p1 : Int32) (p2 : Int32) (v3 : Int32) (Q : Int32 → Hp → Prop) (s : Int32 × Int32 × Int32 × Hp) (hw : w_X9_answers_b16 p1 p2 v3 Q s) : G X M_X9_answers E_X9_answers (QM X E_X9_answers (QI Q) Qn) 0 16 [(0, .ref (92)), (1, .int (p1)), (2, .int (p2)), (3, .int (v3)), (4, .int (s.1)), (5, .int (s.2.1)), (6, .int (s.2.2.1))] [] (s.2.2.2) :=
  wl_ind (B := fun K s => w_X9_answers_l16 p1 p2 v3 Q K (s.1) (s.2.1) (s.2.2.1) (s.2.2.2)) (P := fun s => G X M_X9_answers E_X9_answers (QM X E_X9_answers (QI Q) Qn) 0 16 [(0, .ref (92)), (1, .int (p1)), (2, .int (p2)), (3, .int (v3)), (4, .int (s.1)), (5, .int (s.2.1)), (6, .int (s.2.2.1))] [] (s.2.2.2)) (fun K hK s hw => t_X9_answers_l16 p1 p2 v3 Q K (s.1) (s.2.1) (s.2.2.1) (s.2.2.2) hK hw) s hw
theorem t_X9_answers {X : Cx} (p1 : Int32) (p2 : Int32) (h : Hp) (Q : Int32 → Hp → Prop) (hw : w_X9_answers p1 p2 h Q) : G X M_X9_answers E_X9_answers (QM X E_X9_answers (QI Q) Qn) 0 0 [(0, .ref (92)), (1, .int (p1)), (2, .int (p2))] [] h := by
  unfold w_X9_answers at hw
  refine g_aload_n 0 (dk D_X9_answers 0 rfl) rfl rfl ?_
  refine g_getR 28 (t := 141) (dk D_X9_answers 1 rfl) kd_92 rfl rfl (by decide) w_1385 rfl rfl rfl ?_
  refine g_iload_n 1 (dk D_X9_answers 2 rfl) rfl rfl ?_
  obtain ⟨hi1, hw⟩ := hw
  refine g_iald (dk D_X9_answers 3 rfl) kd_141 hi1 ?_
  refine g_topi (fun v3_2 ev3_2 => ?_)
  replace hw := hw _ ev3_2
  refine g_istore_n (dk D_X9_answers 4 rfl) rfl (by decide) rfl ?_
  refine g_iconst (dk D_X9_answers 5 rfl) ki_m1 ?_
  refine g_istore (dk D_X9_answers 6 rfl) (by decide) rfl ?_
  refine g_iconst (dk D_X9_answers 7 rfl) ki_0 ?_
  refine g_istore (dk D_X9_answers 8 rfl) (by decide) rfl ?_
  refine g_iconst (dk D_X9_answers 9 rfl) ki_0 ?_
  refine g_istore (dk D_X9_answers 10 rfl) (by decide) rfl ?_
  refine g_sub [4, 5, 6, 3, 2, 1, 0] rfl ?_
  exact t_X9_answers_b16 p1 p2 (v3_2) Q ((-1 : Int32), (0 : Int32), (0 : Int32), h) hw
theorem c_X9_answers {X : Cx} (p1 : Int32) (p2 : Int32) (h : Hp) (Q : Int32 → Hp → Prop) (hw : w_X9_answers p1 p2 h Q) : Con X yX9_answers M_X9_answers 7 243 0 [.ref (92), .int (p1), .int (p2)] h (QI Q) Qn :=
  con_of (by decide +kernel) rfl (Nat.le_of_ble_eq_true rfl) (t_X9_answers p1 p2 h Q hw)
/-! ShadowTollsModel.war(III)I -/
abbrev M_X9_war : Mi := (RX9, cX9_war, 7, (some .int))
abbrev E_X9_war : Rm := (8, 277, 0, 0)
def rows_X9_war : List (Nat × Instr × Nat) := [(0, .aload_n 0, 1), (1, .iconst 0, 1), (2, .putfield 111, 3), (5, .aload_n 0, 1), (6, .iload_n 1, 1), (7, .invokestatic 281, 3), (10, .ifCond .eq 22, 3), (13, .iload_n 2, 1), (14, .iconst 0, 1), (15, .bipush 20, 2), (17, .invokestatic 145, 3), (20, .ifCond .eq 12, 3), (23, .iload_n 3, 1), (24, .iconst 0, 1), (25, .iconst 1, 1), (26, .invokestatic 145, 3), (29, .ifCond .ne 7, 3), (32, .iconst 1, 1), (33, .goto 4, 3), (36, .iconst 0, 1), (37, .iconst 1, 1), (38, .invokevirtual 202, 3), (41, .ifCond .ne 33, 3), (44, .aload_n 0, 1), (45, .aload_n 0, 1), (46, .getfield 20, 3), (49, .bipush 8, 2), (51, .iaload, 1), (52, .ifCond .eq 10, 3), (55, .aload_n 0, 1), (56, .getfield 221, 3), (59, .ifCond .ne 7, 3), (62, .iconst 1, 1), (63, .goto 4, 3), (66, .iconst 0, 1), (67, .iconst 2, 1), (68, .invokevirtual 202, 3), (71, .ifCond .eq 5, 3), (74, .iconst 0, 1), (75, .ireturn, 1), (76, .aload_n 0, 1), (77, .getfield 64, 3), (80, .iconst 0, 1), (81, .iaload, 1), (82, .istore 4, 2), (84, .aload_n 0, 1), (85, .getfield 64, 3), (88, .iconst 1, 1), (89, .iaload, 1), (90, .istore 5, 2), (92, .iconst 0, 1), (93, .istore 6, 2), (95, .iload 6, 2), (97, .iload_n 2, 1), (98, .if_icmp .ge 27, 3), (101, .aload_n 0, 1), (102, .getfield 64, 3), (105, .iload 6, 2), (107, .iconst 2, 1), (108, .irem, 1), (109, .aload_n 0, 1), (110, .iload 6, 2), (112, .iconst 2, 1), (113, .irem, 1), (114, .iload_n 1, 1), (115, .invokevirtual 396, 3), (118, .iastore, 1), (119, .iinc 6 1, 3), (122, .goto (-27), 3), (125, .bipush 10, 2), (127, .aload_n 0, 1), (128, .getfield 64, 3), (131, .iconst 0, 1), (132, .iaload, 1), (133, .imul, 1), (134, .aload_n 0, 1), (135, .getfield 64, 3), (138, .iconst 1, 1), (139, .iaload, 1), (140, .iadd, 1), (141, .istore 6, 2), (143, .iload_n 3, 1), (144, .iconst 1, 1), (145, .if_icmp .ne 40, 3), (148, .aload_n 0, 1), (149, .iconst 0, 1), (150, .iload_n 1, 1), (151, .invokevirtual 396, 3), (154, .aload_n 0, 1), (155, .getfield 64, 3), (158, .iconst 0, 1), (159, .iaload, 1), (160, .if_icmp .ne 22, 3), (163, .aload_n 0, 1), (164, .iconst 1, 1), (165, .iload_n 1, 1), (166, .invokevirtual 396, 3), (169, .aload_n 0, 1), (170, .getfield 64, 3), (173, .iconst 1, 1), (174, .iaload, 1), (175, .if_icmp .ne 7, 3), (178, .iconst 1, 1), (179, .goto 4, 3), (182, .iconst 0, 1), (183, .istore 6, 2), (185, .aload_n 0, 1), (186, .getfield 64, 3), (189, .iconst 0, 1), (190, .iload 4, 2), (192, .iastore, 1), (193, .aload_n 0, 1), (194, .getfield 64, 3), (197, .iconst 1, 1), (198, .iload 5, 2), (200, .iastore, 1), (201, .iload 6, 2), (203, .ireturn, 1)]
theorem D_X9_war : dkA cX9_war rows_X9_war := by
  unfold dkA
  decide +kernel
theorem okD_X9_war : okD yX9_war 3 := by
  unfold okD
  decide +kernel
def w_X9_war_b185 (p1 : Int32) (p2 : Int32) (p3 : Int32) (v4 : Int32) (v5 : Int32) (v6 : Int32) (h : Hp) (Q : Int32 → Hp → Prop) : Prop :=
  (vp_in (0 : Int32) 2 ∧ wlet (hup h 141 (Int32.toNatClampNeg (0 : Int32)) v4) (fun h2 => (vp_in (1 : Int32) 2 ∧ wlet (hup h2 141 (Int32.toNatClampNeg (1 : Int32)) v5) (fun h4 => Q v6 h4))))
def w_X9_war_b183 (p1 : Int32) (p2 : Int32) (p3 : Int32) (v4 : Int32) (v5 : Int32) (s0 : Int32) (h : Hp) (Q : Int32 → Hp → Prop) : Prop :=
  w_X9_war_b185 p1 p2 p3 (v4) (v5) (s0) (h) Q
def w_X9_war_b182 (p1 : Int32) (p2 : Int32) (p3 : Int32) (v4 : Int32) (v5 : Int32) (h : Hp) (Q : Int32 → Hp → Prop) : Prop :=
  w_X9_war_b183 p1 p2 p3 (v4) (v5) ((0 : Int32)) (h) Q
def w_X9_war_l95 (p1 : Int32) (p2 : Int32) (p3 : Int32) (v4 : Int32) (v5 : Int32) (Q : Int32 → Hp → Prop) (K95 : Int32 × Hp → Prop) (v6 : Int32) (h : Hp) : Prop :=
  wif (p2 ≤ v6) ((vp_in (0 : Int32) 2 ∧ (vp_in (1 : Int32) 2 ∧ wlet ((((10 : Int32) * (h 141 (Int32.toNatClampNeg (0 : Int32)))) + (h 141 (Int32.toNatClampNeg (1 : Int32))))) (fun v6_3 => wif (¬ p3 = (1 : Int32)) (w_X9_war_b185 p1 p2 p3 (v4) (v5) (v6_3) (h) Q) (w_X9_answers ((0 : Int32)) (p1) h (fun z4 h5 => (vp_in (0 : Int32) 2 ∧ wif (¬ z4 = (h5 141 (Int32.toNatClampNeg (0 : Int32)))) (w_X9_war_b182 p1 p2 p3 (v4) (v5) (h5) Q) (w_X9_answers ((1 : Int32)) (p1) h5 (fun z7 h8 => (vp_in (1 : Int32) 2 ∧ wlet ((if ¬ z7 = (h8 141 (Int32.toNatClampNeg (1 : Int32))) then (0 : Int32) else (1 : Int32))) (fun v6_11 => w_X9_war_b185 p1 p2 p3 (v4) (v5) (v6_11) (h8) Q))))))))))) (w_X9_answers ((v6 - v6 / (2 : Int32) * (2 : Int32))) (p1) h (fun z12 h13 => (vp_in (v6 - v6 / (2 : Int32) * (2 : Int32)) 2 ∧ wlet (hup h13 141 (Int32.toNatClampNeg (v6 - v6 / (2 : Int32) * (2 : Int32))) z12) (fun h15 => K95 ((v6 + (1 : Int32)), h15)))))
def w_X9_war_b95 (p1 : Int32) (p2 : Int32) (p3 : Int32) (v4 : Int32) (v5 : Int32) (Q : Int32 → Hp → Prop) (s : Int32 × Hp) : Prop := wl (fun K s => w_X9_war_l95 p1 p2 p3 v4 v5 Q K s.1 s.2) s
def w_X9_war_b37 (p1 : Int32) (p2 : Int32) (p3 : Int32) (s0 : Int32) (h : Hp) (Q : Int32 → Hp → Prop) : Prop :=
  w_X9_bad (s0) ((1 : Int32)) h (fun z1 h2 => wif (¬ z1 = 0) (Q (0 : Int32) h2) ((vp_in (8 : Int32) 11 ∧ w_X9_bad ((if (h2 95 (Int32.toNatClampNeg (8 : Int32))) = 0 then (1 : Int32) else (if ¬ (h2 92 18) = 0 then (0 : Int32) else (1 : Int32)))) ((2 : Int32)) h2 (fun z6 h7 => wif (z6 = 0) ((vp_in (0 : Int32) 2 ∧ wlet ((h7 141 (Int32.toNatClampNeg (0 : Int32)))) (fun v4_9 => (vp_in (1 : Int32) 2 ∧ wlet ((h7 141 (Int32.toNatClampNeg (1 : Int32)))) (fun v5_11 => w_X9_war_b95 p1 p2 p3 (v4_9) (v5_11) Q ((0 : Int32), h7)))))) (Q (0 : Int32) h7)))))
def w_X9_war_b32 (p1 : Int32) (p2 : Int32) (p3 : Int32) (h : Hp) (Q : Int32 → Hp → Prop) : Prop :=
  w_X9_war_b37 p1 p2 p3 ((1 : Int32)) (h) Q
def w_X9_war (p1 : Int32) (p2 : Int32) (p3 : Int32) (h : Hp) (Q : Int32 → Hp → Prop) : Prop :=
  wlet (hup h 92 0 (0 : Int32)) (fun h1 => w_X9_isDay (p1) h1 (fun z2 => wif (z2 = 0) (w_X9_war_b32 p1 p2 p3 (h1) Q) (w_X9_in (p2) ((0 : Int32)) ((20 : Int32)) h1 (fun z3 => wif (z3 = 0) (w_X9_war_b32 p1 p2 p3 (h1) Q) (w_X9_in (p3) ((0 : Int32)) ((1 : Int32)) h1 (fun z4 => w_X9_bad ((if ¬ z4 = 0 then (0 : Int32) else (1 : Int32))) ((1 : Int32)) h1 (fun z6 h7 => wif (¬ z6 = 0) (Q (0 : Int32) h7) ((vp_in (8 : Int32) 11 ∧ w_X9_bad ((if (h7 95 (Int32.toNatClampNeg (8 : Int32))) = 0 then (1 : Int32) else (if ¬ (h7 92 18) = 0 then (0 : Int32) else (1 : Int32)))) ((2 : Int32)) h7 (fun z11 h12 => wif (z11 = 0) ((vp_in (0 : Int32) 2 ∧ wlet ((h12 141 (Int32.toNatClampNeg (0 : Int32)))) (fun v4_14 => (vp_in (1 : Int32) 2 ∧ wlet ((h12 141 (Int32.toNatClampNeg (1 : Int32)))) (fun v5_16 => w_X9_war_b95 p1 p2 p3 (v4_14) (v5_16) Q ((0 : Int32), h12)))))) (Q (0 : Int32) h12)))))))))))
theorem t_X9_war_b185 {X : Cx} (p1 : Int32) (p2 : Int32) (p3 : Int32) (v4 : Int32) (v5 : Int32) (v6 : Int32) (h : Hp) (Q : Int32 → Hp → Prop) (hw : w_X9_war_b185 p1 p2 p3 v4 v5 v6 h Q) : G X M_X9_war E_X9_war (QM X E_X9_war (QI Q) Qn) 0 185 [(0, .ref (92)), (4, .int (v4)), (5, .int (v5)), (6, .int (v6))] [] h := by
  unfold w_X9_war_b185 at hw
  refine g_aload_n 0 (dk D_X9_war 106 rfl) rfl rfl ?_
  refine g_getR 28 (t := 141) (dk D_X9_war 107 rfl) kd_92 rfl rfl (by decide) w_1385 rfl rfl rfl ?_
  refine g_iconst (dk D_X9_war 108 rfl) ki_0 ?_
  refine g_iload 1 (dk D_X9_war 109 rfl) rfl ?_
  obtain ⟨hi1, hw⟩ := hw
  refine g_iast (dk D_X9_war 110 rfl) kd_141 hi1 ?_
  refine g_heap (fun h2 eh2 => ?_)
  replace hw := hw _ eh2
  refine g_aload_n 0 (dk D_X9_war 111 rfl) rfl rfl ?_
  refine g_getR 28 (t := 141) (dk D_X9_war 112 rfl) kd_92 rfl rfl (by decide) w_1385 rfl rfl rfl ?_
  refine g_iconst (dk D_X9_war 113 rfl) ki_1 ?_
  refine g_iload 2 (dk D_X9_war 114 rfl) rfl ?_
  obtain ⟨hi3, hw⟩ := hw
  refine g_iast (dk D_X9_war 115 rfl) kd_141 hi3 ?_
  refine g_heap (fun h4 eh4 => ?_)
  replace hw := hw _ eh4
  refine g_iload 3 (dk D_X9_war 116 rfl) rfl ?_
  exact g_iret (dk D_X9_war 117 rfl) rfl ⟨_, rfl, hw⟩
theorem t_X9_war_b183 {X : Cx} (p1 : Int32) (p2 : Int32) (p3 : Int32) (v4 : Int32) (v5 : Int32) (s0 : Int32) (h : Hp) (Q : Int32 → Hp → Prop) (hw : w_X9_war_b183 p1 p2 p3 v4 v5 s0 h Q) : G X M_X9_war E_X9_war (QM X E_X9_war (QI Q) Qn) 0 183 [(0, .ref (92)), (4, .int (v4)), (5, .int (v5))] [.int (s0)] h := by
  unfold w_X9_war_b183 at hw
  refine g_istore (dk D_X9_war 105 rfl) (by decide) rfl ?_
  refine g_sub [1, 2, 3, 0] rfl ?_
  exact t_X9_war_b185 p1 p2 p3 (v4) (v5) (s0) (h) Q hw
theorem t_X9_war_b182 {X : Cx} (p1 : Int32) (p2 : Int32) (p3 : Int32) (v4 : Int32) (v5 : Int32) (h : Hp) (Q : Int32 → Hp → Prop) (hw : w_X9_war_b182 p1 p2 p3 v4 v5 h Q) : G X M_X9_war E_X9_war (QM X E_X9_war (QI Q) Qn) 0 182 [(0, .ref (92)), (4, .int (v4)), (5, .int (v5))] [] h := by
  unfold w_X9_war_b182 at hw
  refine g_iconst (dk D_X9_war 104 rfl) ki_0 ?_
  exact t_X9_war_b183 p1 p2 p3 (v4) (v5) ((0 : Int32)) (h) Q hw
theorem t_X9_war_l95 {X : Cx} (p1 : Int32) (p2 : Int32) (p3 : Int32) (v4 : Int32) (v5 : Int32) (Q : Int32 → Hp → Prop) (K95 : Int32 × Hp → Prop) (v6 : Int32) (h : Hp) (hK95 : ∀ s : Int32 × Hp, K95 s → G X M_X9_war E_X9_war (QM X E_X9_war (QI Q) Qn) 0 95 [(0, .ref (92)), (1, .int (p1)), (2, .int (p2)), (3, .int (p3)), (4, .int (v4)), (5, .int (v5)), (6, .int (s.1))] [] (s.2)) (hw : w_X9_war_l95 p1 p2 p3 v4 v5 Q K95 v6 h) : G X M_X9_war E_X9_war (QM X E_X9_war (QI Q) Qn) 0 95 [(0, .ref (92)), (1, .int (p1)), (2, .int (p2)), (3, .int (p3)), (4, .int (v4)), (5, .int (v5)), (6, .int (v6))] [] h := by
  unfold w_X9_war_l95 at hw
  refine g_iload 6 (dk D_X9_war 52 rfl) rfl ?_
  refine g_iload_n 2 (dk D_X9_war 53 rfl) rfl rfl ?_
  refine g_icmp_ge (dk D_X9_war 54 rfl) rfl (wif_m hw (fun hw => ?_) (fun hw => ?_))
  · refine g_bipush (dk D_X9_war 69 rfl) kb_10 ?_
    refine g_aload_n 0 (dk D_X9_war 70 rfl) rfl rfl ?_
    refine g_getR 28 (t := 141) (dk D_X9_war 71 rfl) kd_92 rfl rfl (by decide) w_1385 rfl rfl rfl ?_
    refine g_iconst (dk D_X9_war 72 rfl) ki_0 ?_
    obtain ⟨hi1, hw⟩ := hw
    refine g_iald (dk D_X9_war 73 rfl) kd_141 hi1 ?_
    refine g_imul (dk D_X9_war 74 rfl) ?_
    refine g_aload_n 0 (dk D_X9_war 75 rfl) rfl rfl ?_
    refine g_getR 28 (t := 141) (dk D_X9_war 76 rfl) kd_92 rfl rfl (by decide) w_1385 rfl rfl rfl ?_
    refine g_iconst (dk D_X9_war 77 rfl) ki_1 ?_
    obtain ⟨hi2, hw⟩ := hw
    refine g_iald (dk D_X9_war 78 rfl) kd_141 hi2 ?_
    refine g_iadd (dk D_X9_war 79 rfl) ?_
    refine g_topi (fun v6_3 ev6_3 => ?_)
    replace hw := hw _ ev6_3
    refine g_istore (dk D_X9_war 80 rfl) (by decide) rfl ?_
    refine g_iload_n 4 (dk D_X9_war 81 rfl) rfl rfl ?_
    refine g_iconst (dk D_X9_war 82 rfl) ki_1 ?_
    refine g_icmp_ne (dk D_X9_war 83 rfl) rfl (wif_m hw (fun hw => ?_) (fun hw => ?_))
    · refine g_sub [1, 5, 6, 0] rfl ?_
      exact t_X9_war_b185 p1 p2 p3 (v4) (v5) (v6_3) (h) Q hw
    · refine g_aload_n 1 (dk D_X9_war 84 rfl) rfl rfl ?_
      refine g_iconst (dk D_X9_war 85 rfl) ki_0 ?_
      refine g_iload_n 2 (dk D_X9_war 86 rfl) rfl rfl ?_
      refine g_callV (As := [.int ((0 : Int32)), .int (p1)]) (kc := 0) (fr := 7) (lo := 243) (mc := 0) (My := M_X9_answers) (dk D_X9_war 87 rfl) kd_92 rfl rfl w_1862 w_1864 w_93 w_110 w_1865 okD_X9_answers (by decide) (Nat.le_of_ble_eq_true rfl) rfl (c_X9_answers ((0 : Int32)) (p1) (h) _ hw) kxN (kI (fun z4 h5 hw => ?_))
      refine g_aload_n 1 (dk D_X9_war 88 rfl) rfl rfl ?_
      refine g_getR 28 (t := 141) (dk D_X9_war 89 rfl) kd_92 rfl rfl (by decide) w_1385 rfl rfl rfl ?_
      refine g_iconst (dk D_X9_war 90 rfl) ki_0 ?_
      obtain ⟨hi6, hw⟩ := hw
      refine g_iald (dk D_X9_war 91 rfl) kd_141 hi6 ?_
      refine g_icmp_ne (dk D_X9_war 92 rfl) rfl (wif_m hw (fun hw => ?_) (fun hw => ?_))
      · refine g_sub [1, 5, 6] rfl ?_
        exact t_X9_war_b182 p1 p2 p3 (v4) (v5) (h5) Q hw
      · refine g_aload_n 1 (dk D_X9_war 93 rfl) rfl rfl ?_
        refine g_iconst (dk D_X9_war 94 rfl) ki_1 ?_
        refine g_iload_n 2 (dk D_X9_war 95 rfl) rfl rfl ?_
        refine g_callV (As := [.int ((1 : Int32)), .int (p1)]) (kc := 0) (fr := 7) (lo := 243) (mc := 0) (My := M_X9_answers) (dk D_X9_war 96 rfl) kd_92 rfl rfl w_1862 w_1864 w_93 w_110 w_1865 okD_X9_answers (by decide) (Nat.le_of_ble_eq_true rfl) rfl (c_X9_answers ((1 : Int32)) (p1) (h5) _ hw) kxN (kI (fun z7 h8 hw => ?_))
        refine g_aload_n 1 (dk D_X9_war 97 rfl) rfl rfl ?_
        refine g_getR 28 (t := 141) (dk D_X9_war 98 rfl) kd_92 rfl rfl (by decide) w_1385 rfl rfl rfl ?_
        refine g_iconst (dk D_X9_war 99 rfl) ki_1 ?_
        obtain ⟨hi9, hw⟩ := hw
        refine g_iald (dk D_X9_war 100 rfl) kd_141 hi9 ?_
        have hj : G X M_X9_war E_X9_war (QM X E_X9_war (QI Q) Qn) 0 183 [(6, .int (v6_3)), (0, .ref (92)), (1, .int (p1)), (2, .int (p2)), (3, .int (p3)), (4, .int (v4)), (5, .int (v5))] [.int ((if ¬ z7 = (h8 141 (Int32.toNatClampNeg (1 : Int32))) then (0 : Int32) else (1 : Int32)))] (h8) := by
          refine g_topi (fun v6_11 ev6_11 => ?_)
          replace hw := hw _ ev6_11
          refine g_istore (dk D_X9_war 105 rfl) (by decide) rfl ?_
          refine g_sub [1, 5, 6, 0] rfl ?_
          exact t_X9_war_b185 p1 p2 p3 (v4) (v5) (v6_11) (h8) Q hw
        refine g_icmp_ne (dk D_X9_war 101 rfl) rfl ?_
        by_cases c10 : ¬ z7 = (h8 141 (Int32.toNatClampNeg (1 : Int32)))
        · rw [if_pos c10] at hj
          refine wif_p c10 ?_
          refine g_iconst (dk D_X9_war 104 rfl) ki_0 ?_
          exact hj
        · rw [if_neg c10] at hj
          refine wif_n c10 ?_
          refine g_iconst (dk D_X9_war 102 rfl) ki_1 ?_
          refine g_goto (dk D_X9_war 103 rfl) rfl ?_
          exact hj
  · refine g_aload_n 0 (dk D_X9_war 55 rfl) rfl rfl ?_
    refine g_getR 28 (t := 141) (dk D_X9_war 56 rfl) kd_92 rfl rfl (by decide) w_1385 rfl rfl rfl ?_
    refine g_iload 6 (dk D_X9_war 57 rfl) rfl ?_
    refine g_iconst (dk D_X9_war 58 rfl) ki_2 ?_
    refine g_irem (dk D_X9_war 59 rfl) (by decide) ?_
    refine g_aload_n 0 (dk D_X9_war 60 rfl) rfl rfl ?_
    refine g_iload 6 (dk D_X9_war 61 rfl) rfl ?_
    refine g_iconst (dk D_X9_war 62 rfl) ki_2 ?_
    refine g_irem (dk D_X9_war 63 rfl) (by decide) ?_
    refine g_iload_n 1 (dk D_X9_war 64 rfl) rfl rfl ?_
    refine g_callV (As := [.int ((v6 - v6 / (2 : Int32) * (2 : Int32))), .int (p1)]) (kc := 0) (fr := 7) (lo := 243) (mc := 0) (My := M_X9_answers) (dk D_X9_war 65 rfl) kd_92 rfl rfl w_1862 w_1864 w_93 w_110 w_1865 okD_X9_answers (by decide) (Nat.le_of_ble_eq_true rfl) rfl (c_X9_answers ((v6 - v6 / (2 : Int32) * (2 : Int32))) (p1) (h) _ hw) kxN (kI (fun z12 h13 hw => ?_))
    obtain ⟨hi14, hw⟩ := hw
    refine g_iast (dk D_X9_war 66 rfl) kd_141 hi14 ?_
    refine g_heap (fun h15 eh15 => ?_)
    replace hw := hw _ eh15
    refine g_iinc 6 (dk D_X9_war 67 rfl) rfl (congrArg (fun z => _ + z) ki_1) (by decide) rfl ?_
    refine g_goto (dk D_X9_war 68 rfl) rfl ?_
    refine g_sub [1, 2, 3, 4, 5, 6, 0] rfl ?_
    exact hK95 ((v6 + (1 : Int32)), h15) hw
theorem t_X9_war_b95 {X : Cx} (p1 : Int32) (p2 : Int32) (p3 : Int32) (v4 : Int32) (v5 : Int32) (Q : Int32 → Hp → Prop) (s : Int32 × Hp) (hw : w_X9_war_b95 p1 p2 p3 v4 v5 Q s) : G X M_X9_war E_X9_war (QM X E_X9_war (QI Q) Qn) 0 95 [(0, .ref (92)), (1, .int (p1)), (2, .int (p2)), (3, .int (p3)), (4, .int (v4)), (5, .int (v5)), (6, .int (s.1))] [] (s.2) :=
  wl_ind (B := fun K s => w_X9_war_l95 p1 p2 p3 v4 v5 Q K (s.1) (s.2)) (P := fun s => G X M_X9_war E_X9_war (QM X E_X9_war (QI Q) Qn) 0 95 [(0, .ref (92)), (1, .int (p1)), (2, .int (p2)), (3, .int (p3)), (4, .int (v4)), (5, .int (v5)), (6, .int (s.1))] [] (s.2)) (fun K hK s hw => t_X9_war_l95 p1 p2 p3 v4 v5 Q K (s.1) (s.2) hK hw) s hw
theorem t_X9_war_b37 {X : Cx} (p1 : Int32) (p2 : Int32) (p3 : Int32) (s0 : Int32) (h : Hp) (Q : Int32 → Hp → Prop) (hw : w_X9_war_b37 p1 p2 p3 s0 h Q) : G X M_X9_war E_X9_war (QM X E_X9_war (QI Q) Qn) 0 37 [(0, .ref (92)), (1, .int (p1)), (2, .int (p2)), (3, .int (p3))] [.int (s0), .ref (92)] h := by
  unfold w_X9_war_b37 at hw
  refine g_iconst (dk D_X9_war 20 rfl) ki_1 ?_
  refine g_callV (As := [.int (s0), .int ((1 : Int32))]) (kc := 0) (fr := 0) (lo := 0) (mc := 0) (My := M_X9_bad) (dk D_X9_war 21 rfl) kd_92 rfl rfl w_1530 w_1532 w_42 w_110 w_1533 okD_X9_bad (by decide) (Nat.le_of_ble_eq_true rfl) rfl (c_X9_bad (s0) ((1 : Int32)) (h) _ hw) kxN (kI (fun z1 h2 hw => ?_))
  refine g_if_ne (dk D_X9_war 22 rfl) rfl (wif_m hw (fun hw => ?_) (fun hw => ?_))
  · refine g_iconst (dk D_X9_war 38 rfl) ki_0 ?_
    exact g_iret (dk D_X9_war 39 rfl) rfl ⟨_, rfl, hw⟩
  · refine g_aload_n 0 (dk D_X9_war 23 rfl) rfl rfl ?_
    refine g_aload_n 0 (dk D_X9_war 24 rfl) rfl rfl ?_
    refine g_getR 11 (t := 95) (dk D_X9_war 25 rfl) kd_92 rfl rfl (by decide) w_1368 rfl rfl rfl ?_
    refine g_bipush (dk D_X9_war 26 rfl) kb_8 ?_
    obtain ⟨hi3, hw⟩ := hw
    refine g_iald (dk D_X9_war 27 rfl) kd_95 hi3 ?_
    have hj : G X M_X9_war E_X9_war (QM X E_X9_war (QI Q) Qn) 0 67 [(0, .ref (92)), (1, .int (p1)), (2, .int (p2)), (3, .int (p3))] [.int ((if (h2 95 (Int32.toNatClampNeg (8 : Int32))) = 0 then (1 : Int32) else (if ¬ (h2 92 18) = 0 then (0 : Int32) else (1 : Int32)))), .ref (92)] (h2) := by
      refine g_iconst (dk D_X9_war 35 rfl) ki_2 ?_
      refine g_callV (As := [.int ((if (h2 95 (Int32.toNatClampNeg (8 : Int32))) = 0 then (1 : Int32) else (if ¬ (h2 92 18) = 0 then (0 : Int32) else (1 : Int32)))), .int ((2 : Int32))]) (kc := 0) (fr := 0) (lo := 0) (mc := 0) (My := M_X9_bad) (dk D_X9_war 36 rfl) kd_92 rfl rfl w_1530 w_1532 w_42 w_110 w_1533 okD_X9_bad (by decide) (Nat.le_of_ble_eq_true rfl) rfl (c_X9_bad ((if (h2 95 (Int32.toNatClampNeg (8 : Int32))) = 0 then (1 : Int32) else (if ¬ (h2 92 18) = 0 then (0 : Int32) else (1 : Int32)))) ((2 : Int32)) (h2) _ hw) kxN (kI (fun z6 h7 hw => ?_))
      refine g_if_eq (dk D_X9_war 37 rfl) rfl (wif_m hw (fun hw => ?_) (fun hw => ?_))
      · refine g_aload_n 0 (dk D_X9_war 40 rfl) rfl rfl ?_
        refine g_getR 28 (t := 141) (dk D_X9_war 41 rfl) kd_92 rfl rfl (by decide) w_1385 rfl rfl rfl ?_
        refine g_iconst (dk D_X9_war 42 rfl) ki_0 ?_
        obtain ⟨hi8, hw⟩ := hw
        refine g_iald (dk D_X9_war 43 rfl) kd_141 hi8 ?_
        refine g_topi (fun v4_9 ev4_9 => ?_)
        replace hw := hw _ ev4_9
        refine g_istore (dk D_X9_war 44 rfl) (by decide) rfl ?_
        refine g_aload_n 1 (dk D_X9_war 45 rfl) rfl rfl ?_
        refine g_getR 28 (t := 141) (dk D_X9_war 46 rfl) kd_92 rfl rfl (by decide) w_1385 rfl rfl rfl ?_
        refine g_iconst (dk D_X9_war 47 rfl) ki_1 ?_
        obtain ⟨hi10, hw⟩ := hw
        refine g_iald (dk D_X9_war 48 rfl) kd_141 hi10 ?_
        refine g_topi (fun v5_11 ev5_11 => ?_)
        replace hw := hw _ ev5_11
        refine g_istore (dk D_X9_war 49 rfl) (by decide) rfl ?_
        refine g_iconst (dk D_X9_war 50 rfl) ki_0 ?_
        refine g_istore (dk D_X9_war 51 rfl) (by decide) rfl ?_
        refine g_sub [3, 4, 5, 6, 2, 1, 0] rfl ?_
        exact t_X9_war_b95 p1 p2 p3 (v4_9) (v5_11) Q ((0 : Int32), h7) hw
      · refine g_iconst (dk D_X9_war 38 rfl) ki_0 ?_
        exact g_iret (dk D_X9_war 39 rfl) rfl ⟨_, rfl, hw⟩
    refine g_if_eq (dk D_X9_war 28 rfl) rfl ?_
    by_cases c5 : (h2 95 (Int32.toNatClampNeg (8 : Int32))) = 0
    · rw [if_pos c5] at hj
      refine wif_p c5 ?_
      refine g_iconst (dk D_X9_war 32 rfl) ki_1 ?_
      refine g_goto (dk D_X9_war 33 rfl) rfl ?_
      exact hj
    · rw [if_neg c5] at hj
      refine wif_n c5 ?_
      refine g_aload_n 0 (dk D_X9_war 29 rfl) rfl rfl ?_
      refine g_getI 18 (dk D_X9_war 30 rfl) kd_92 rfl rfl (by decide) w_1375 rfl rfl ?_
      refine g_if_ne (dk D_X9_war 31 rfl) rfl ?_
      by_cases c4 : ¬ (h2 92 18) = 0
      · rw [if_pos c4] at hj
        refine wif_p c4 ?_
        refine g_iconst (dk D_X9_war 34 rfl) ki_0 ?_
        exact hj
      · rw [if_neg c4] at hj
        refine wif_n c4 ?_
        refine g_iconst (dk D_X9_war 32 rfl) ki_1 ?_
        refine g_goto (dk D_X9_war 33 rfl) rfl ?_
        exact hj
theorem t_X9_war_b32 {X : Cx} (p1 : Int32) (p2 : Int32) (p3 : Int32) (h : Hp) (Q : Int32 → Hp → Prop) (hw : w_X9_war_b32 p1 p2 p3 h Q) : G X M_X9_war E_X9_war (QM X E_X9_war (QI Q) Qn) 0 32 [(0, .ref (92)), (1, .int (p1)), (2, .int (p2)), (3, .int (p3))] [.ref (92)] h := by
  unfold w_X9_war_b32 at hw
  refine g_iconst (dk D_X9_war 17 rfl) ki_1 ?_
  refine g_goto (dk D_X9_war 18 rfl) rfl ?_
  exact t_X9_war_b37 p1 p2 p3 ((1 : Int32)) (h) Q hw
theorem t_X9_war {X : Cx} (p1 : Int32) (p2 : Int32) (p3 : Int32) (h : Hp) (Q : Int32 → Hp → Prop) (hw : w_X9_war p1 p2 p3 h Q) : G X M_X9_war E_X9_war (QM X E_X9_war (QI Q) Qn) 0 0 [(0, .ref (92)), (1, .int (p1)), (2, .int (p2)), (3, .int (p3))] [] h := by
  unfold w_X9_war at hw
  refine g_aload_n 0 (dk D_X9_war 0 rfl) rfl rfl ?_
  refine g_iconst (dk D_X9_war 1 rfl) ki_0 ?_
  refine g_put 0 (dk D_X9_war 2 rfl) kd_92 rfl rfl (by decide) w_1357 rfl tyX9_ok nmX9 rfl (by decide) rfl (fun z => absurd z (by decide)) ?_
  refine g_heap (fun h1 eh1 => ?_)
  replace hw := hw _ eh1
  refine g_aload_n 0 (dk D_X9_war 3 rfl) rfl rfl ?_
  refine g_iload_n 1 (dk D_X9_war 4 rfl) rfl rfl ?_
  refine g_callS (As := [.int (p1)]) (kc := 0) (fr := 1) (lo := 30) (mc := 0) (My := M_X9_isDay) (dk D_X9_war 5 rfl) w_1676 w_1677 w_110 w_1678 okD_X9_isDay (by decide) (Nat.le_of_ble_eq_true rfl) rfl (c_X9_isDay (p1) (h1) _ hw) kxN (kIp (fun z2 hw => ?_))
  refine g_if_eq (dk D_X9_war 6 rfl) rfl (wif_m hw (fun hw => ?_) (fun hw => ?_))
  · exact t_X9_war_b32 p1 p2 p3 (h1) Q hw
  · refine g_iload_n 2 (dk D_X9_war 7 rfl) rfl rfl ?_
    refine g_iconst (dk D_X9_war 8 rfl) ki_0 ?_
    refine g_bipush (dk D_X9_war 9 rfl) kb_20 ?_
    refine g_callS (As := [.int (p2), .int ((0 : Int32)), .int ((20 : Int32))]) (kc := 0) (fr := 0) (lo := 0) (mc := 0) (My := M_X9_in) (dk D_X9_war 10 rfl) w_1527 w_1528 w_110 w_1529 okD_X9_in (by decide) (Nat.le_of_ble_eq_true rfl) rfl (c_X9_in (p2) ((0 : Int32)) ((20 : Int32)) (h1) _ hw) kxN (kIp (fun z3 hw => ?_))
    refine g_if_eq (dk D_X9_war 11 rfl) rfl (wif_m hw (fun hw => ?_) (fun hw => ?_))
    · exact t_X9_war_b32 p1 p2 p3 (h1) Q hw
    · refine g_iload_n 3 (dk D_X9_war 12 rfl) rfl rfl ?_
      refine g_iconst (dk D_X9_war 13 rfl) ki_0 ?_
      refine g_iconst (dk D_X9_war 14 rfl) ki_1 ?_
      refine g_callS (As := [.int (p3), .int ((0 : Int32)), .int ((1 : Int32))]) (kc := 0) (fr := 0) (lo := 0) (mc := 0) (My := M_X9_in) (dk D_X9_war 15 rfl) w_1527 w_1528 w_110 w_1529 okD_X9_in (by decide) (Nat.le_of_ble_eq_true rfl) rfl (c_X9_in (p3) ((0 : Int32)) ((1 : Int32)) (h1) _ hw) kxN (kIp (fun z4 hw => ?_))
      have hj : G X M_X9_war E_X9_war (QM X E_X9_war (QI Q) Qn) 0 37 [(0, .ref (92)), (1, .int (p1)), (2, .int (p2)), (3, .int (p3))] [.int ((if ¬ z4 = 0 then (0 : Int32) else (1 : Int32))), .ref (92)] (h1) := by
        refine g_iconst (dk D_X9_war 20 rfl) ki_1 ?_
        refine g_callV (As := [.int ((if ¬ z4 = 0 then (0 : Int32) else (1 : Int32))), .int ((1 : Int32))]) (kc := 0) (fr := 0) (lo := 0) (mc := 0) (My := M_X9_bad) (dk D_X9_war 21 rfl) kd_92 rfl rfl w_1530 w_1532 w_42 w_110 w_1533 okD_X9_bad (by decide) (Nat.le_of_ble_eq_true rfl) rfl (c_X9_bad ((if ¬ z4 = 0 then (0 : Int32) else (1 : Int32))) ((1 : Int32)) (h1) _ hw) kxN (kI (fun z6 h7 hw => ?_))
        refine g_if_ne (dk D_X9_war 22 rfl) rfl (wif_m hw (fun hw => ?_) (fun hw => ?_))
        · refine g_iconst (dk D_X9_war 38 rfl) ki_0 ?_
          exact g_iret (dk D_X9_war 39 rfl) rfl ⟨_, rfl, hw⟩
        · refine g_aload_n 0 (dk D_X9_war 23 rfl) rfl rfl ?_
          refine g_aload_n 0 (dk D_X9_war 24 rfl) rfl rfl ?_
          refine g_getR 11 (t := 95) (dk D_X9_war 25 rfl) kd_92 rfl rfl (by decide) w_1368 rfl rfl rfl ?_
          refine g_bipush (dk D_X9_war 26 rfl) kb_8 ?_
          obtain ⟨hi8, hw⟩ := hw
          refine g_iald (dk D_X9_war 27 rfl) kd_95 hi8 ?_
          have hj : G X M_X9_war E_X9_war (QM X E_X9_war (QI Q) Qn) 0 67 [(0, .ref (92)), (1, .int (p1)), (2, .int (p2)), (3, .int (p3))] [.int ((if (h7 95 (Int32.toNatClampNeg (8 : Int32))) = 0 then (1 : Int32) else (if ¬ (h7 92 18) = 0 then (0 : Int32) else (1 : Int32)))), .ref (92)] (h7) := by
            refine g_iconst (dk D_X9_war 35 rfl) ki_2 ?_
            refine g_callV (As := [.int ((if (h7 95 (Int32.toNatClampNeg (8 : Int32))) = 0 then (1 : Int32) else (if ¬ (h7 92 18) = 0 then (0 : Int32) else (1 : Int32)))), .int ((2 : Int32))]) (kc := 0) (fr := 0) (lo := 0) (mc := 0) (My := M_X9_bad) (dk D_X9_war 36 rfl) kd_92 rfl rfl w_1530 w_1532 w_42 w_110 w_1533 okD_X9_bad (by decide) (Nat.le_of_ble_eq_true rfl) rfl (c_X9_bad ((if (h7 95 (Int32.toNatClampNeg (8 : Int32))) = 0 then (1 : Int32) else (if ¬ (h7 92 18) = 0 then (0 : Int32) else (1 : Int32)))) ((2 : Int32)) (h7) _ hw) kxN (kI (fun z11 h12 hw => ?_))
            refine g_if_eq (dk D_X9_war 37 rfl) rfl (wif_m hw (fun hw => ?_) (fun hw => ?_))
            · refine g_aload_n 0 (dk D_X9_war 40 rfl) rfl rfl ?_
              refine g_getR 28 (t := 141) (dk D_X9_war 41 rfl) kd_92 rfl rfl (by decide) w_1385 rfl rfl rfl ?_
              refine g_iconst (dk D_X9_war 42 rfl) ki_0 ?_
              obtain ⟨hi13, hw⟩ := hw
              refine g_iald (dk D_X9_war 43 rfl) kd_141 hi13 ?_
              refine g_topi (fun v4_14 ev4_14 => ?_)
              replace hw := hw _ ev4_14
              refine g_istore (dk D_X9_war 44 rfl) (by decide) rfl ?_
              refine g_aload_n 1 (dk D_X9_war 45 rfl) rfl rfl ?_
              refine g_getR 28 (t := 141) (dk D_X9_war 46 rfl) kd_92 rfl rfl (by decide) w_1385 rfl rfl rfl ?_
              refine g_iconst (dk D_X9_war 47 rfl) ki_1 ?_
              obtain ⟨hi15, hw⟩ := hw
              refine g_iald (dk D_X9_war 48 rfl) kd_141 hi15 ?_
              refine g_topi (fun v5_16 ev5_16 => ?_)
              replace hw := hw _ ev5_16
              refine g_istore (dk D_X9_war 49 rfl) (by decide) rfl ?_
              refine g_iconst (dk D_X9_war 50 rfl) ki_0 ?_
              refine g_istore (dk D_X9_war 51 rfl) (by decide) rfl ?_
              refine g_sub [3, 4, 5, 6, 2, 1, 0] rfl ?_
              exact t_X9_war_b95 p1 p2 p3 (v4_14) (v5_16) Q ((0 : Int32), h12) hw
            · refine g_iconst (dk D_X9_war 38 rfl) ki_0 ?_
              exact g_iret (dk D_X9_war 39 rfl) rfl ⟨_, rfl, hw⟩
          refine g_if_eq (dk D_X9_war 28 rfl) rfl ?_
          by_cases c10 : (h7 95 (Int32.toNatClampNeg (8 : Int32))) = 0
          · rw [if_pos c10] at hj
            refine wif_p c10 ?_
            refine g_iconst (dk D_X9_war 32 rfl) ki_1 ?_
            refine g_goto (dk D_X9_war 33 rfl) rfl ?_
            exact hj
          · rw [if_neg c10] at hj
            refine wif_n c10 ?_
            refine g_aload_n 0 (dk D_X9_war 29 rfl) rfl rfl ?_
            refine g_getI 18 (dk D_X9_war 30 rfl) kd_92 rfl rfl (by decide) w_1375 rfl rfl ?_
            refine g_if_ne (dk D_X9_war 31 rfl) rfl ?_
            by_cases c9 : ¬ (h7 92 18) = 0
            · rw [if_pos c9] at hj
              refine wif_p c9 ?_
              refine g_iconst (dk D_X9_war 34 rfl) ki_0 ?_
              exact hj
            · rw [if_neg c9] at hj
              refine wif_n c9 ?_
              refine g_iconst (dk D_X9_war 32 rfl) ki_1 ?_
              refine g_goto (dk D_X9_war 33 rfl) rfl ?_
              exact hj
      refine g_if_ne (dk D_X9_war 16 rfl) rfl ?_
      by_cases c5 : ¬ z4 = 0
      · rw [if_pos c5] at hj
        refine wif_p c5 ?_
        refine g_iconst (dk D_X9_war 19 rfl) ki_0 ?_
        exact hj
      · rw [if_neg c5] at hj
        refine wif_n c5 ?_
        refine g_iconst (dk D_X9_war 17 rfl) ki_1 ?_
        refine g_goto (dk D_X9_war 18 rfl) rfl ?_
        exact hj
theorem c_X9_war {X : Cx} (p1 : Int32) (p2 : Int32) (p3 : Int32) (h : Hp) (Q : Int32 → Hp → Prop) (hw : w_X9_war p1 p2 p3 h Q) : Con X yX9_war M_X9_war 8 277 0 [.ref (92), .int (p1), .int (p2), .int (p3)] h (QI Q) Qn :=
  con_of (by decide +kernel) rfl (Nat.le_of_ble_eq_true rfl) (t_X9_war p1 p2 p3 h Q hw)
/-! ShadowTollsModel.ledger(II)I -/
abbrev M_X9_ledger : Mi := (RX9, cX9_ledger, 3, (some .int))
abbrev E_X9_ledger : Rm := (2, 58, 0, 0)
def rows_X9_ledger : List (Nat × Instr × Nat) := [(0, .aload_n 0, 1), (1, .iconst 0, 1), (2, .putfield 111, 3), (5, .aload_n 0, 1), (6, .iload_n 1, 1), (7, .invokestatic 293, 3), (10, .ifCond .eq 14, 3), (13, .iload_n 2, 1), (14, .iconst 0, 1), (15, .sipush 9999, 3), (18, .invokestatic 145, 3), (21, .ifCond .ne 7, 3), (24, .iconst 1, 1), (25, .goto 4, 3), (28, .iconst 0, 1), (29, .iconst 1, 1), (30, .invokevirtual 202, 3), (33, .ifCond .eq 5, 3), (36, .iconst 0, 1), (37, .ireturn, 1), (38, .aload_n 0, 1), (39, .getfield 215, 3), (42, .bipush 10, 2), (44, .if_icmp .ne 5, 3), (47, .iconst (-1), 1), (48, .ireturn, 1), (49, .aload_n 0, 1), (50, .getfield 73, 3), (53, .aload_n 0, 1), (54, .getfield 215, 3), (57, .aaload, 1), (58, .iconst 0, 1), (59, .iload_n 1, 1), (60, .iastore, 1), (61, .aload_n 0, 1), (62, .getfield 73, 3), (65, .aload_n 0, 1), (66, .getfield 215, 3), (69, .aaload, 1), (70, .iconst 1, 1), (71, .iload_n 2, 1), (72, .iastore, 1), (73, .aload_n 0, 1), (74, .dup, 1), (75, .getfield 215, 3), (78, .iconst 1, 1), (79, .iadd, 1), (80, .putfield 215, 3), (83, .aload_n 0, 1), (84, .getfield 215, 3), (87, .ireturn, 1)]
theorem D_X9_ledger : dkA cX9_ledger rows_X9_ledger := by
  unfold dkA
  decide +kernel
theorem okD_X9_ledger : okD yX9_ledger 2 := by
  unfold okD
  decide +kernel
def w_X9_ledger_b29 (p1 : Int32) (p2 : Int32) (s0 : Int32) (h : Hp) (Q : Int32 → Hp → Prop) : Prop :=
  w_X9_bad (s0) ((1 : Int32)) h (fun z1 h2 => wif (z1 = 0) (wif (¬ (h2 92 31) = (10 : Int32)) ((vp_in (h2 92 31) 10 ∧ (vp_in (0 : Int32) 2 ∧ wlet (hup h2 (205 + 1 * Int32.toNatClampNeg ((h2 92 31))) (Int32.toNatClampNeg (0 : Int32)) p1) (fun h5 => (vp_in (h5 92 31) 10 ∧ (vp_in (1 : Int32) 2 ∧ wlet (hup h5 (205 + 1 * Int32.toNatClampNeg ((h5 92 31))) (Int32.toNatClampNeg (1 : Int32)) p2) (fun h8 => wlet (hup h8 92 31 ((h8 92 31) + (1 : Int32))) (fun h9 => Q (h9 92 31) h9)))))))) (Q (-1 : Int32) h2)) (Q (0 : Int32) h2))
def w_X9_ledger_b24 (p1 : Int32) (p2 : Int32) (h : Hp) (Q : Int32 → Hp → Prop) : Prop :=
  w_X9_ledger_b29 p1 p2 ((1 : Int32)) (h) Q
def w_X9_ledger (p1 : Int32) (p2 : Int32) (h : Hp) (Q : Int32 → Hp → Prop) : Prop :=
  wlet (hup h 92 0 (0 : Int32)) (fun h1 => w_X9_isMinute (p1) h1 (fun z2 => wif (z2 = 0) (w_X9_ledger_b24 p1 p2 (h1) Q) (w_X9_in (p2) ((0 : Int32)) ((9999 : Int32)) h1 (fun z3 => w_X9_bad ((if ¬ z3 = 0 then (0 : Int32) else (1 : Int32))) ((1 : Int32)) h1 (fun z5 h6 => wif (z5 = 0) (wif (¬ (h6 92 31) = (10 : Int32)) ((vp_in (h6 92 31) 10 ∧ (vp_in (0 : Int32) 2 ∧ wlet (hup h6 (205 + 1 * Int32.toNatClampNeg ((h6 92 31))) (Int32.toNatClampNeg (0 : Int32)) p1) (fun h9 => (vp_in (h9 92 31) 10 ∧ (vp_in (1 : Int32) 2 ∧ wlet (hup h9 (205 + 1 * Int32.toNatClampNeg ((h9 92 31))) (Int32.toNatClampNeg (1 : Int32)) p2) (fun h12 => wlet (hup h12 92 31 ((h12 92 31) + (1 : Int32))) (fun h13 => Q (h13 92 31) h13)))))))) (Q (-1 : Int32) h6)) (Q (0 : Int32) h6))))))
theorem t_X9_ledger_b29 {X : Cx} (p1 : Int32) (p2 : Int32) (s0 : Int32) (h : Hp) (Q : Int32 → Hp → Prop) (hw : w_X9_ledger_b29 p1 p2 s0 h Q) : G X M_X9_ledger E_X9_ledger (QM X E_X9_ledger (QI Q) Qn) 0 29 [(0, .ref (92)), (1, .int (p1)), (2, .int (p2))] [.int (s0), .ref (92)] h := by
  unfold w_X9_ledger_b29 at hw
  refine g_iconst (dk D_X9_ledger 15 rfl) ki_1 ?_
  refine g_callV (As := [.int (s0), .int ((1 : Int32))]) (kc := 0) (fr := 0) (lo := 0) (mc := 0) (My := M_X9_bad) (dk D_X9_ledger 16 rfl) kd_92 rfl rfl w_1530 w_1532 w_42 w_110 w_1533 okD_X9_bad (by decide) (Nat.le_of_ble_eq_true rfl) rfl (c_X9_bad (s0) ((1 : Int32)) (h) _ hw) kxN (kI (fun z1 h2 hw => ?_))
  refine g_if_eq (dk D_X9_ledger 17 rfl) rfl (wif_m hw (fun hw => ?_) (fun hw => ?_))
  · refine g_aload_n 0 (dk D_X9_ledger 20 rfl) rfl rfl ?_
    refine g_getI 31 (dk D_X9_ledger 21 rfl) kd_92 rfl rfl (by decide) w_1388 rfl rfl ?_
    refine g_bipush (dk D_X9_ledger 22 rfl) kb_10 ?_
    refine g_icmp_ne (dk D_X9_ledger 23 rfl) rfl (wif_m hw (fun hw => ?_) (fun hw => ?_))
    · refine g_aload_n 0 (dk D_X9_ledger 26 rfl) rfl rfl ?_
      refine g_getR 34 (t := 204) (dk D_X9_ledger 27 rfl) kd_92 rfl rfl (by decide) w_1391 rfl rfl rfl ?_
      refine g_aload_n 0 (dk D_X9_ledger 28 rfl) rfl rfl ?_
      refine g_getI 31 (dk D_X9_ledger 29 rfl) kd_92 rfl rfl (by decide) w_1388 rfl rfl ?_
      obtain ⟨hi3, hw⟩ := hw
      refine g_aald (dk D_X9_ledger 30 rfl) kd_204 rfl rfl hi3 ?_
      refine g_iconst (dk D_X9_ledger 31 rfl) ki_0 ?_
      refine g_iload_n 1 (dk D_X9_ledger 32 rfl) rfl rfl ?_
      obtain ⟨hi4, hw⟩ := hw
      refine g_iast (dk D_X9_ledger 33 rfl) (kdf_204 _ (in_lt hi3)) hi4 ?_
      refine g_heap (fun h5 eh5 => ?_)
      replace hw := hw _ eh5
      refine g_aload_n 0 (dk D_X9_ledger 34 rfl) rfl rfl ?_
      refine g_getR 34 (t := 204) (dk D_X9_ledger 35 rfl) kd_92 rfl rfl (by decide) w_1391 rfl rfl rfl ?_
      refine g_aload_n 0 (dk D_X9_ledger 36 rfl) rfl rfl ?_
      refine g_getI 31 (dk D_X9_ledger 37 rfl) kd_92 rfl rfl (by decide) w_1388 rfl rfl ?_
      obtain ⟨hi6, hw⟩ := hw
      refine g_aald (dk D_X9_ledger 38 rfl) kd_204 rfl rfl hi6 ?_
      refine g_iconst (dk D_X9_ledger 39 rfl) ki_1 ?_
      refine g_iload_n 2 (dk D_X9_ledger 40 rfl) rfl rfl ?_
      obtain ⟨hi7, hw⟩ := hw
      refine g_iast (dk D_X9_ledger 41 rfl) (kdf_204 _ (in_lt hi6)) hi7 ?_
      refine g_heap (fun h8 eh8 => ?_)
      replace hw := hw _ eh8
      refine g_aload_n 0 (dk D_X9_ledger 42 rfl) rfl rfl ?_
      refine g_dup (dk D_X9_ledger 43 rfl) rfl ?_
      refine g_getI 31 (dk D_X9_ledger 44 rfl) kd_92 rfl rfl (by decide) w_1388 rfl rfl ?_
      refine g_iconst (dk D_X9_ledger 45 rfl) ki_1 ?_
      refine g_iadd (dk D_X9_ledger 46 rfl) ?_
      refine g_put 31 (dk D_X9_ledger 47 rfl) kd_92 rfl rfl (by decide) w_1388 rfl tyX9_ok nmX9 rfl (by decide) rfl (fun z => absurd z (by decide)) ?_
      refine g_heap (fun h9 eh9 => ?_)
      replace hw := hw _ eh9
      refine g_aload_n 0 (dk D_X9_ledger 48 rfl) rfl rfl ?_
      refine g_getI 31 (dk D_X9_ledger 49 rfl) kd_92 rfl rfl (by decide) w_1388 rfl rfl ?_
      exact g_iret (dk D_X9_ledger 50 rfl) rfl ⟨_, rfl, hw⟩
    · refine g_iconst (dk D_X9_ledger 24 rfl) ki_m1 ?_
      exact g_iret (dk D_X9_ledger 25 rfl) rfl ⟨_, rfl, hw⟩
  · refine g_iconst (dk D_X9_ledger 18 rfl) ki_0 ?_
    exact g_iret (dk D_X9_ledger 19 rfl) rfl ⟨_, rfl, hw⟩
theorem t_X9_ledger_b24 {X : Cx} (p1 : Int32) (p2 : Int32) (h : Hp) (Q : Int32 → Hp → Prop) (hw : w_X9_ledger_b24 p1 p2 h Q) : G X M_X9_ledger E_X9_ledger (QM X E_X9_ledger (QI Q) Qn) 0 24 [(0, .ref (92)), (1, .int (p1)), (2, .int (p2))] [.ref (92)] h := by
  unfold w_X9_ledger_b24 at hw
  refine g_iconst (dk D_X9_ledger 12 rfl) ki_1 ?_
  refine g_goto (dk D_X9_ledger 13 rfl) rfl ?_
  exact t_X9_ledger_b29 p1 p2 ((1 : Int32)) (h) Q hw
theorem t_X9_ledger {X : Cx} (p1 : Int32) (p2 : Int32) (h : Hp) (Q : Int32 → Hp → Prop) (hw : w_X9_ledger p1 p2 h Q) : G X M_X9_ledger E_X9_ledger (QM X E_X9_ledger (QI Q) Qn) 0 0 [(0, .ref (92)), (1, .int (p1)), (2, .int (p2))] [] h := by
  unfold w_X9_ledger at hw
  refine g_aload_n 0 (dk D_X9_ledger 0 rfl) rfl rfl ?_
  refine g_iconst (dk D_X9_ledger 1 rfl) ki_0 ?_
  refine g_put 0 (dk D_X9_ledger 2 rfl) kd_92 rfl rfl (by decide) w_1357 rfl tyX9_ok nmX9 rfl (by decide) rfl (fun z => absurd z (by decide)) ?_
  refine g_heap (fun h1 eh1 => ?_)
  replace hw := hw _ eh1
  refine g_aload_n 0 (dk D_X9_ledger 3 rfl) rfl rfl ?_
  refine g_iload_n 1 (dk D_X9_ledger 4 rfl) rfl rfl ?_
  refine g_callS (As := [.int (p1)]) (kc := 0) (fr := 1) (lo := 30) (mc := 0) (My := M_X9_isMinute) (dk D_X9_ledger 5 rfl) w_1691 w_1692 w_110 w_1693 okD_X9_isMinute (by decide) (Nat.le_of_ble_eq_true rfl) rfl (c_X9_isMinute (p1) (h1) _ hw) kxN (kIp (fun z2 hw => ?_))
  refine g_if_eq (dk D_X9_ledger 6 rfl) rfl (wif_m hw (fun hw => ?_) (fun hw => ?_))
  · exact t_X9_ledger_b24 p1 p2 (h1) Q hw
  · refine g_iload_n 2 (dk D_X9_ledger 7 rfl) rfl rfl ?_
    refine g_iconst (dk D_X9_ledger 8 rfl) ki_0 ?_
    refine g_sipush (dk D_X9_ledger 9 rfl) ks_9999 ?_
    refine g_callS (As := [.int (p2), .int ((0 : Int32)), .int ((9999 : Int32))]) (kc := 0) (fr := 0) (lo := 0) (mc := 0) (My := M_X9_in) (dk D_X9_ledger 10 rfl) w_1527 w_1528 w_110 w_1529 okD_X9_in (by decide) (Nat.le_of_ble_eq_true rfl) rfl (c_X9_in (p2) ((0 : Int32)) ((9999 : Int32)) (h1) _ hw) kxN (kIp (fun z3 hw => ?_))
    have hj : G X M_X9_ledger E_X9_ledger (QM X E_X9_ledger (QI Q) Qn) 0 29 [(0, .ref (92)), (1, .int (p1)), (2, .int (p2))] [.int ((if ¬ z3 = 0 then (0 : Int32) else (1 : Int32))), .ref (92)] (h1) := by
      refine g_iconst (dk D_X9_ledger 15 rfl) ki_1 ?_
      refine g_callV (As := [.int ((if ¬ z3 = 0 then (0 : Int32) else (1 : Int32))), .int ((1 : Int32))]) (kc := 0) (fr := 0) (lo := 0) (mc := 0) (My := M_X9_bad) (dk D_X9_ledger 16 rfl) kd_92 rfl rfl w_1530 w_1532 w_42 w_110 w_1533 okD_X9_bad (by decide) (Nat.le_of_ble_eq_true rfl) rfl (c_X9_bad ((if ¬ z3 = 0 then (0 : Int32) else (1 : Int32))) ((1 : Int32)) (h1) _ hw) kxN (kI (fun z5 h6 hw => ?_))
      refine g_if_eq (dk D_X9_ledger 17 rfl) rfl (wif_m hw (fun hw => ?_) (fun hw => ?_))
      · refine g_aload_n 0 (dk D_X9_ledger 20 rfl) rfl rfl ?_
        refine g_getI 31 (dk D_X9_ledger 21 rfl) kd_92 rfl rfl (by decide) w_1388 rfl rfl ?_
        refine g_bipush (dk D_X9_ledger 22 rfl) kb_10 ?_
        refine g_icmp_ne (dk D_X9_ledger 23 rfl) rfl (wif_m hw (fun hw => ?_) (fun hw => ?_))
        · refine g_aload_n 0 (dk D_X9_ledger 26 rfl) rfl rfl ?_
          refine g_getR 34 (t := 204) (dk D_X9_ledger 27 rfl) kd_92 rfl rfl (by decide) w_1391 rfl rfl rfl ?_
          refine g_aload_n 0 (dk D_X9_ledger 28 rfl) rfl rfl ?_
          refine g_getI 31 (dk D_X9_ledger 29 rfl) kd_92 rfl rfl (by decide) w_1388 rfl rfl ?_
          obtain ⟨hi7, hw⟩ := hw
          refine g_aald (dk D_X9_ledger 30 rfl) kd_204 rfl rfl hi7 ?_
          refine g_iconst (dk D_X9_ledger 31 rfl) ki_0 ?_
          refine g_iload_n 1 (dk D_X9_ledger 32 rfl) rfl rfl ?_
          obtain ⟨hi8, hw⟩ := hw
          refine g_iast (dk D_X9_ledger 33 rfl) (kdf_204 _ (in_lt hi7)) hi8 ?_
          refine g_heap (fun h9 eh9 => ?_)
          replace hw := hw _ eh9
          refine g_aload_n 0 (dk D_X9_ledger 34 rfl) rfl rfl ?_
          refine g_getR 34 (t := 204) (dk D_X9_ledger 35 rfl) kd_92 rfl rfl (by decide) w_1391 rfl rfl rfl ?_
          refine g_aload_n 0 (dk D_X9_ledger 36 rfl) rfl rfl ?_
          refine g_getI 31 (dk D_X9_ledger 37 rfl) kd_92 rfl rfl (by decide) w_1388 rfl rfl ?_
          obtain ⟨hi10, hw⟩ := hw
          refine g_aald (dk D_X9_ledger 38 rfl) kd_204 rfl rfl hi10 ?_
          refine g_iconst (dk D_X9_ledger 39 rfl) ki_1 ?_
          refine g_iload_n 2 (dk D_X9_ledger 40 rfl) rfl rfl ?_
          obtain ⟨hi11, hw⟩ := hw
          refine g_iast (dk D_X9_ledger 41 rfl) (kdf_204 _ (in_lt hi10)) hi11 ?_
          refine g_heap (fun h12 eh12 => ?_)
          replace hw := hw _ eh12
          refine g_aload_n 0 (dk D_X9_ledger 42 rfl) rfl rfl ?_
          refine g_dup (dk D_X9_ledger 43 rfl) rfl ?_
          refine g_getI 31 (dk D_X9_ledger 44 rfl) kd_92 rfl rfl (by decide) w_1388 rfl rfl ?_
          refine g_iconst (dk D_X9_ledger 45 rfl) ki_1 ?_
          refine g_iadd (dk D_X9_ledger 46 rfl) ?_
          refine g_put 31 (dk D_X9_ledger 47 rfl) kd_92 rfl rfl (by decide) w_1388 rfl tyX9_ok nmX9 rfl (by decide) rfl (fun z => absurd z (by decide)) ?_
          refine g_heap (fun h13 eh13 => ?_)
          replace hw := hw _ eh13
          refine g_aload_n 0 (dk D_X9_ledger 48 rfl) rfl rfl ?_
          refine g_getI 31 (dk D_X9_ledger 49 rfl) kd_92 rfl rfl (by decide) w_1388 rfl rfl ?_
          exact g_iret (dk D_X9_ledger 50 rfl) rfl ⟨_, rfl, hw⟩
        · refine g_iconst (dk D_X9_ledger 24 rfl) ki_m1 ?_
          exact g_iret (dk D_X9_ledger 25 rfl) rfl ⟨_, rfl, hw⟩
      · refine g_iconst (dk D_X9_ledger 18 rfl) ki_0 ?_
        exact g_iret (dk D_X9_ledger 19 rfl) rfl ⟨_, rfl, hw⟩
    refine g_if_ne (dk D_X9_ledger 11 rfl) rfl ?_
    by_cases c4 : ¬ z3 = 0
    · rw [if_pos c4] at hj
      refine wif_p c4 ?_
      refine g_iconst (dk D_X9_ledger 14 rfl) ki_0 ?_
      exact hj
    · rw [if_neg c4] at hj
      refine wif_n c4 ?_
      refine g_iconst (dk D_X9_ledger 12 rfl) ki_1 ?_
      refine g_goto (dk D_X9_ledger 13 rfl) rfl ?_
      exact hj
theorem c_X9_ledger {X : Cx} (p1 : Int32) (p2 : Int32) (h : Hp) (Q : Int32 → Hp → Prop) (hw : w_X9_ledger p1 p2 h Q) : Con X yX9_ledger M_X9_ledger 2 58 0 [.ref (92), .int (p1), .int (p2)] h (QI Q) Qn :=
  con_of (by decide +kernel) rfl (Nat.le_of_ble_eq_true rfl) (t_X9_ledger p1 p2 h Q hw)
/-! ShadowTollsModel.forget()I -/
abbrev M_X9_forget : Mi := (RX9, cX9_forget, 2, (some .int))
abbrev E_X9_forget : Rm := (0, 0, 0, 0)
def rows_X9_forget : List (Nat × Instr × Nat) := [(0, .aload_n 0, 1), (1, .iconst 0, 1), (2, .putfield 111, 3), (5, .aload_n 0, 1), (6, .getfield 215, 3), (9, .istore_n 1, 1), (10, .aload_n 0, 1), (11, .iconst 0, 1), (12, .putfield 215, 3), (15, .iload_n 1, 1), (16, .ireturn, 1)]
theorem D_X9_forget : dkA cX9_forget rows_X9_forget := by
  unfold dkA
  decide +kernel
theorem okD_X9_forget : okD yX9_forget 0 := by
  unfold okD
  decide +kernel
def w_X9_forget (h : Hp) (Q : Int32 → Hp → Prop) : Prop :=
  wlet (hup h 92 0 (0 : Int32)) (fun h1 => wlet ((h1 92 31)) (fun v1_2 => wlet (hup h1 92 31 (0 : Int32)) (fun h3 => Q v1_2 h3)))
theorem t_X9_forget {X : Cx} (h : Hp) (Q : Int32 → Hp → Prop) (hw : w_X9_forget h Q) : G X M_X9_forget E_X9_forget (QM X E_X9_forget (QI Q) Qn) 0 0 [(0, .ref (92))] [] h := by
  unfold w_X9_forget at hw
  refine g_aload_n 0 (dk D_X9_forget 0 rfl) rfl rfl ?_
  refine g_iconst (dk D_X9_forget 1 rfl) ki_0 ?_
  refine g_put 0 (dk D_X9_forget 2 rfl) kd_92 rfl rfl (by decide) w_1357 rfl tyX9_ok nmX9 rfl (by decide) rfl (fun z => absurd z (by decide)) ?_
  refine g_heap (fun h1 eh1 => ?_)
  replace hw := hw _ eh1
  refine g_aload_n 0 (dk D_X9_forget 3 rfl) rfl rfl ?_
  refine g_getI 31 (dk D_X9_forget 4 rfl) kd_92 rfl rfl (by decide) w_1388 rfl rfl ?_
  refine g_topi (fun v1_2 ev1_2 => ?_)
  replace hw := hw _ ev1_2
  refine g_istore_n (dk D_X9_forget 5 rfl) rfl (by decide) rfl ?_
  refine g_aload_n 1 (dk D_X9_forget 6 rfl) rfl rfl ?_
  refine g_iconst (dk D_X9_forget 7 rfl) ki_0 ?_
  refine g_put 31 (dk D_X9_forget 8 rfl) kd_92 rfl rfl (by decide) w_1388 rfl tyX9_ok nmX9 rfl (by decide) rfl (fun z => absurd z (by decide)) ?_
  refine g_heap (fun h3 eh3 => ?_)
  replace hw := hw _ eh3
  refine g_iload_n 0 (dk D_X9_forget 9 rfl) rfl rfl ?_
  exact g_iret (dk D_X9_forget 10 rfl) rfl ⟨_, rfl, hw⟩
theorem c_X9_forget {X : Cx} (h : Hp) (Q : Int32 → Hp → Prop) (hw : w_X9_forget h Q) : Con X yX9_forget M_X9_forget 0 0 0 [.ref (92)] h (QI Q) Qn :=
  con_of (by decide +kernel) rfl (Nat.le_of_ble_eq_true rfl) (t_X9_forget h Q hw)
/-! ShadowTollsModel.fits(III)I -/
abbrev M_X9_fits : Mi := (RX9, cX9_fits, 10, (some .int))
abbrev E_X9_fits : Rm := (4, 136, 0, 0)
def rows_X9_fits : List (Nat × Instr × Nat) := [(0, .aload_n 0, 1), (1, .iconst 0, 1), (2, .putfield 111, 3), (5, .aload_n 0, 1), (6, .iload_n 1, 1), (7, .iconst 0, 1), (8, .aload_n 0, 1), (9, .getfield 221, 3), (12, .iconst 1, 1), (13, .isub, 1), (14, .invokestatic 145, 3), (17, .ifCond .eq 23, 3), (20, .iload_n 2, 1), (21, .iconst 1, 1), (22, .sipush 999, 3), (25, .invokestatic 145, 3), (28, .ifCond .eq 12, 3), (31, .iload_n 3, 1), (32, .iconst 0, 1), (33, .iconst 1, 1), (34, .invokestatic 145, 3), (37, .ifCond .ne 7, 3), (40, .iconst 1, 1), (41, .goto 4, 3), (44, .iconst 0, 1), (45, .iconst 1, 1), (46, .invokevirtual 202, 3), (49, .ifCond .eq 5, 3), (52, .iconst 0, 1), (53, .ireturn, 1), (54, .iconst 0, 1), (55, .istore 4, 2), (57, .iconst (-1), 1), (58, .istore 5, 2), (60, .iconst 0, 1), (61, .istore 6, 2), (63, .iload 6, 2), (65, .bipush 30, 2), (67, .if_icmp .ge 135, 3), (70, .bipush 50, 2), (72, .istore 7, 2), (74, .iload 7, 2), (76, .sipush 400, 3), (79, .if_icmp .gt 117, 3), (82, .iconst 1, 1), (83, .istore 8, 2), (85, .iconst 0, 1), (86, .istore 9, 2), (88, .iload 9, 2), (90, .aload_n 0, 1), (91, .getfield 215, 3), (94, .if_icmp .ge 54, 3), (97, .iload 8, 2), (99, .ifCond .eq 49, 3), (102, .aload_n 0, 1), (103, .iload_n 1, 1), (104, .iconst 0, 1), (105, .iload 6, 2), (107, .aload_n 0, 1), (108, .getfield 73, 3), (111, .iload 9, 2), (113, .aaload, 1), (114, .iconst 0, 1), (115, .iaload, 1), (116, .iload 7, 2), (118, .iload_n 2, 1), (119, .iconst 0, 1), (120, .invokevirtual 312, 3), (123, .aload_n 0, 1), (124, .getfield 73, 3), (127, .iload 9, 2), (129, .aaload, 1), (130, .iconst 1, 1), (131, .iaload, 1), (132, .if_icmp .ne 7, 3), (135, .iconst 1, 1), (136, .goto 4, 3), (139, .iconst 0, 1), (140, .istore 8, 2), (142, .iinc 9 1, 3), (145, .goto (-57), 3), (148, .iload 8, 2), (150, .ifCond .eq 21, 3), (153, .iload 5, 2), (155, .iconst (-1), 1), (156, .if_icmp .ne 15, 3), (159, .sipush 1000, 3), (162, .iload 6, 2), (164, .imul, 1), (165, .iload 7, 2), (167, .iadd, 1), (168, .goto 5, 3), (171, .iload 5, 2), (173, .istore 5, 2), (175, .iload 4, 2), (177, .iload 8, 2), (179, .ifCond .eq 7, 3), (182, .iconst 1, 1), (183, .goto 4, 3), (186, .iconst 0, 1), (187, .iadd, 1), (188, .istore 4, 2), (190, .iinc 7 1, 3), (193, .goto (-119), 3), (196, .iinc 6 1, 3), (199, .goto (-136), 3), (202, .iload_n 3, 1), (203, .ifCond .ne 8, 3), (206, .iload 4, 2), (208, .goto 5, 3), (211, .iload 5, 2), (213, .ireturn, 1)]
theorem D_X9_fits : dkA cX9_fits rows_X9_fits := by
  unfold dkA
  decide +kernel
theorem okD_X9_fits : okD yX9_fits 3 := by
  unfold okD
  decide +kernel
def w_X9_fits_b148 (p1 : Int32) (p2 : Int32) (p3 : Int32) (v4 : Int32) (v5 : Int32) (v6 : Int32) (v7 : Int32) (v8 : Int32) (K63 : Int32 × Int32 × Int32 × Hp → Prop) (K74 : Int32 × Int32 × Int32 × Hp → Prop) (h : Hp) (Q : Int32 → Hp → Prop) : Prop :=
  wlet ((if v8 = 0 then v5 else (if ¬ v5 = (-1 : Int32) then v5 else (((1000 : Int32) * v6) + v7)))) (fun v5_3 => wlet ((v4 + (if v8 = 0 then (0 : Int32) else (1 : Int32)))) (fun v4_5 => K74 (v4_5, v5_3, (v7 + (1 : Int32)), h)))
def w_X9_fits_l88 (p1 : Int32) (p2 : Int32) (p3 : Int32) (v4 : Int32) (v5 : Int32) (v6 : Int32) (v7 : Int32) (K63 : Int32 × Int32 × Int32 × Hp → Prop) (K74 : Int32 × Int32 × Int32 × Hp → Prop) (Q : Int32 → Hp → Prop) (K88 : Int32 × Int32 × Hp → Prop) (v8 : Int32) (v9 : Int32) (h : Hp) : Prop :=
  wif ((h 92 31) ≤ v9) (w_X9_fits_b148 p1 p2 p3 (v4) (v5) (v6) (v7) (v8) K63 K74 (h) Q) (wif (v8 = 0) (w_X9_fits_b148 p1 p2 p3 (v4) (v5) (v6) (v7) (v8) K63 K74 (h) Q) ((vp_in v9 10 ∧ (vp_in (0 : Int32) 2 ∧ w_X9_paid (p1) ((0 : Int32)) (v6) ((h (205 + 1 * Int32.toNatClampNeg (v9)) (Int32.toNatClampNeg (0 : Int32)))) (v7) (p2) ((0 : Int32)) h (fun z3 h4 => (vp_in v9 10 ∧ (vp_in (1 : Int32) 2 ∧ wlet ((if ¬ z3 = (h4 (205 + 1 * Int32.toNatClampNeg (v9)) (Int32.toNatClampNeg (1 : Int32))) then (0 : Int32) else (1 : Int32))) (fun v8_8 => K88 (v8_8, (v9 + (1 : Int32)), h4)))))))))
def w_X9_fits_b88 (p1 : Int32) (p2 : Int32) (p3 : Int32) (v4 : Int32) (v5 : Int32) (v6 : Int32) (v7 : Int32) (K63 : Int32 × Int32 × Int32 × Hp → Prop) (K74 : Int32 × Int32 × Int32 × Hp → Prop) (Q : Int32 → Hp → Prop) (s : Int32 × Int32 × Hp) : Prop := wl (fun K s => w_X9_fits_l88 p1 p2 p3 v4 v5 v6 v7 K63 K74 Q K s.1 s.2.1 s.2.2) s
def w_X9_fits_l74 (p1 : Int32) (p2 : Int32) (p3 : Int32) (v6 : Int32) (K63 : Int32 × Int32 × Int32 × Hp → Prop) (Q : Int32 → Hp → Prop) (K74 : Int32 × Int32 × Int32 × Hp → Prop) (v4 : Int32) (v5 : Int32) (v7 : Int32) (h : Hp) : Prop :=
  wif ((400 : Int32) < v7) (K63 (v4, v5, (v6 + (1 : Int32)), h)) (w_X9_fits_b88 p1 p2 p3 (v4) (v5) (v6) (v7) K63 K74 Q ((1 : Int32), (0 : Int32), h))
def w_X9_fits_b74 (p1 : Int32) (p2 : Int32) (p3 : Int32) (v6 : Int32) (K63 : Int32 × Int32 × Int32 × Hp → Prop) (Q : Int32 → Hp → Prop) (s : Int32 × Int32 × Int32 × Hp) : Prop := wl (fun K s => w_X9_fits_l74 p1 p2 p3 v6 K63 Q K s.1 s.2.1 s.2.2.1 s.2.2.2) s
def w_X9_fits_l63 (p1 : Int32) (p2 : Int32) (p3 : Int32) (Q : Int32 → Hp → Prop) (K63 : Int32 × Int32 × Int32 × Hp → Prop) (v4 : Int32) (v5 : Int32) (v6 : Int32) (h : Hp) : Prop :=
  wif ((30 : Int32) ≤ v6) (Q (if ¬ p3 = 0 then v5 else v4) h) (w_X9_fits_b74 p1 p2 p3 (v6) K63 Q (v4, v5, (50 : Int32), h))
def w_X9_fits_b63 (p1 : Int32) (p2 : Int32) (p3 : Int32) (Q : Int32 → Hp → Prop) (s : Int32 × Int32 × Int32 × Hp) : Prop := wl (fun K s => w_X9_fits_l63 p1 p2 p3 Q K s.1 s.2.1 s.2.2.1 s.2.2.2) s
def w_X9_fits_b45 (p1 : Int32) (p2 : Int32) (p3 : Int32) (s0 : Int32) (h : Hp) (Q : Int32 → Hp → Prop) : Prop :=
  w_X9_bad (s0) ((1 : Int32)) h (fun z1 h2 => wif (z1 = 0) (w_X9_fits_b63 p1 p2 p3 Q ((0 : Int32), (-1 : Int32), (0 : Int32), h2)) (Q (0 : Int32) h2))
def w_X9_fits_b40 (p1 : Int32) (p2 : Int32) (p3 : Int32) (h : Hp) (Q : Int32 → Hp → Prop) : Prop :=
  w_X9_fits_b45 p1 p2 p3 ((1 : Int32)) (h) Q
def w_X9_fits (p1 : Int32) (p2 : Int32) (p3 : Int32) (h : Hp) (Q : Int32 → Hp → Prop) : Prop :=
  wlet (hup h 92 0 (0 : Int32)) (fun h1 => w_X9_in (p1) ((0 : Int32)) (((h1 92 18) - (1 : Int32))) h1 (fun z2 => wif (z2 = 0) (w_X9_fits_b40 p1 p2 p3 (h1) Q) (w_X9_in (p2) ((1 : Int32)) ((999 : Int32)) h1 (fun z3 => wif (z3 = 0) (w_X9_fits_b40 p1 p2 p3 (h1) Q) (w_X9_in (p3) ((0 : Int32)) ((1 : Int32)) h1 (fun z4 => w_X9_bad ((if ¬ z4 = 0 then (0 : Int32) else (1 : Int32))) ((1 : Int32)) h1 (fun z6 h7 => wif (z6 = 0) (w_X9_fits_b63 p1 p2 p3 Q ((0 : Int32), (-1 : Int32), (0 : Int32), h7)) (Q (0 : Int32) h7))))))))
theorem t_X9_fits_b148 {X : Cx} (p1 : Int32) (p2 : Int32) (p3 : Int32) (v4 : Int32) (v5 : Int32) (v6 : Int32) (v7 : Int32) (v8 : Int32) (K63 : Int32 × Int32 × Int32 × Hp → Prop) (K74 : Int32 × Int32 × Int32 × Hp → Prop) (h : Hp) (Q : Int32 → Hp → Prop) (hK63 : ∀ s : Int32 × Int32 × Int32 × Hp, K63 s → G X M_X9_fits E_X9_fits (QM X E_X9_fits (QI Q) Qn) 0 63 [(0, .ref (92)), (1, .int (p1)), (2, .int (p2)), (3, .int (p3)), (4, .int (s.1)), (5, .int (s.2.1)), (6, .int (s.2.2.1))] [] (s.2.2.2)) (hK74 : ∀ s : Int32 × Int32 × Int32 × Hp, K74 s → G X M_X9_fits E_X9_fits (QM X E_X9_fits (QI Q) Qn) 0 74 [(0, .ref (92)), (1, .int (p1)), (2, .int (p2)), (3, .int (p3)), (4, .int (s.1)), (5, .int (s.2.1)), (6, .int (v6)), (7, .int (s.2.2.1))] [] (s.2.2.2)) (hw : w_X9_fits_b148 p1 p2 p3 v4 v5 v6 v7 v8 K63 K74 h Q) : G X M_X9_fits E_X9_fits (QM X E_X9_fits (QI Q) Qn) 0 148 [(0, .ref (92)), (1, .int (p1)), (2, .int (p2)), (3, .int (p3)), (4, .int (v4)), (5, .int (v5)), (6, .int (v6)), (7, .int (v7)), (8, .int (v8))] [] h := by
  unfold w_X9_fits_b148 at hw
  refine g_iload 8 (dk D_X9_fits 81 rfl) rfl ?_
  have hj : G X M_X9_fits E_X9_fits (QM X E_X9_fits (QI Q) Qn) 0 173 [(0, .ref (92)), (1, .int (p1)), (2, .int (p2)), (3, .int (p3)), (4, .int (v4)), (5, .int (v5)), (6, .int (v6)), (7, .int (v7)), (8, .int (v8))] [.int ((if v8 = 0 then v5 else (if ¬ v5 = (-1 : Int32) then v5 else (((1000 : Int32) * v6) + v7))))] (h) := by
    refine g_topi (fun v5_3 ev5_3 => ?_)
    replace hw := hw _ ev5_3
    refine g_istore (dk D_X9_fits 93 rfl) (by decide) rfl ?_
    refine g_iload 5 (dk D_X9_fits 94 rfl) rfl ?_
    refine g_iload 8 (dk D_X9_fits 95 rfl) rfl ?_
    have hj : G X M_X9_fits E_X9_fits (QM X E_X9_fits (QI Q) Qn) 0 187 [(5, .int (v5_3)), (0, .ref (92)), (1, .int (p1)), (2, .int (p2)), (3, .int (p3)), (4, .int (v4)), (6, .int (v6)), (7, .int (v7)), (8, .int (v8))] [.int ((if v8 = 0 then (0 : Int32) else (1 : Int32))), .int (v4)] (h) := by
      refine g_iadd (dk D_X9_fits 100 rfl) ?_
      refine g_topi (fun v4_5 ev4_5 => ?_)
      replace hw := hw _ ev4_5
      refine g_istore (dk D_X9_fits 101 rfl) (by decide) rfl ?_
      refine g_iinc 7 (dk D_X9_fits 102 rfl) rfl (congrArg (fun z => _ + z) ki_1) (by decide) rfl ?_
      refine g_goto (dk D_X9_fits 103 rfl) rfl ?_
      refine g_sub [3, 4, 5, 6, 1, 2, 7, 0] rfl ?_
      exact hK74 (v4_5, v5_3, (v7 + (1 : Int32)), h) hw
    refine g_if_eq (dk D_X9_fits 96 rfl) rfl ?_
    by_cases c4 : v8 = 0
    · rw [if_pos c4] at hj
      refine wif_p c4 ?_
      refine g_iconst (dk D_X9_fits 99 rfl) ki_0 ?_
      exact hj
    · rw [if_neg c4] at hj
      refine wif_n c4 ?_
      refine g_iconst (dk D_X9_fits 97 rfl) ki_1 ?_
      refine g_goto (dk D_X9_fits 98 rfl) rfl ?_
      exact hj
  refine g_if_eq (dk D_X9_fits 82 rfl) rfl ?_
  by_cases c2 : v8 = 0
  · rw [if_pos c2] at hj
    refine wif_p c2 ?_
    refine g_iload 5 (dk D_X9_fits 92 rfl) rfl ?_
    exact hj
  · rw [if_neg c2] at hj
    refine wif_n c2 ?_
    refine g_iload 5 (dk D_X9_fits 83 rfl) rfl ?_
    refine g_iconst (dk D_X9_fits 84 rfl) ki_m1 ?_
    refine g_icmp_ne (dk D_X9_fits 85 rfl) rfl ?_
    by_cases c1 : ¬ v5 = (-1 : Int32)
    · rw [if_pos c1] at hj
      refine wif_p c1 ?_
      refine g_iload 5 (dk D_X9_fits 92 rfl) rfl ?_
      exact hj
    · rw [if_neg c1] at hj
      refine wif_n c1 ?_
      refine g_sipush (dk D_X9_fits 86 rfl) ks_1000 ?_
      refine g_iload 6 (dk D_X9_fits 87 rfl) rfl ?_
      refine g_imul (dk D_X9_fits 88 rfl) ?_
      refine g_iload 7 (dk D_X9_fits 89 rfl) rfl ?_
      refine g_iadd (dk D_X9_fits 90 rfl) ?_
      refine g_goto (dk D_X9_fits 91 rfl) rfl ?_
      exact hj
theorem t_X9_fits_l88 {X : Cx} (p1 : Int32) (p2 : Int32) (p3 : Int32) (v4 : Int32) (v5 : Int32) (v6 : Int32) (v7 : Int32) (K63 : Int32 × Int32 × Int32 × Hp → Prop) (K74 : Int32 × Int32 × Int32 × Hp → Prop) (Q : Int32 → Hp → Prop) (K88 : Int32 × Int32 × Hp → Prop) (v8 : Int32) (v9 : Int32) (h : Hp) (hK63 : ∀ s : Int32 × Int32 × Int32 × Hp, K63 s → G X M_X9_fits E_X9_fits (QM X E_X9_fits (QI Q) Qn) 0 63 [(0, .ref (92)), (1, .int (p1)), (2, .int (p2)), (3, .int (p3)), (4, .int (s.1)), (5, .int (s.2.1)), (6, .int (s.2.2.1))] [] (s.2.2.2)) (hK74 : ∀ s : Int32 × Int32 × Int32 × Hp, K74 s → G X M_X9_fits E_X9_fits (QM X E_X9_fits (QI Q) Qn) 0 74 [(0, .ref (92)), (1, .int (p1)), (2, .int (p2)), (3, .int (p3)), (4, .int (s.1)), (5, .int (s.2.1)), (6, .int (v6)), (7, .int (s.2.2.1))] [] (s.2.2.2)) (hK88 : ∀ s : Int32 × Int32 × Hp, K88 s → G X M_X9_fits E_X9_fits (QM X E_X9_fits (QI Q) Qn) 0 88 [(0, .ref (92)), (1, .int (p1)), (2, .int (p2)), (3, .int (p3)), (4, .int (v4)), (5, .int (v5)), (6, .int (v6)), (7, .int (v7)), (8, .int (s.1)), (9, .int (s.2.1))] [] (s.2.2)) (hw : w_X9_fits_l88 p1 p2 p3 v4 v5 v6 v7 K63 K74 Q K88 v8 v9 h) : G X M_X9_fits E_X9_fits (QM X E_X9_fits (QI Q) Qn) 0 88 [(0, .ref (92)), (1, .int (p1)), (2, .int (p2)), (3, .int (p3)), (4, .int (v4)), (5, .int (v5)), (6, .int (v6)), (7, .int (v7)), (8, .int (v8)), (9, .int (v9))] [] h := by
  unfold w_X9_fits_l88 at hw
  refine g_iload 9 (dk D_X9_fits 48 rfl) rfl ?_
  refine g_aload_n 0 (dk D_X9_fits 49 rfl) rfl rfl ?_
  refine g_getI 31 (dk D_X9_fits 50 rfl) kd_92 rfl rfl (by decide) w_1388 rfl rfl ?_
  refine g_icmp_ge (dk D_X9_fits 51 rfl) rfl (wif_m hw (fun hw => ?_) (fun hw => ?_))
  · refine g_sub [0, 1, 2, 3, 4, 5, 6, 7, 8] rfl ?_
    exact t_X9_fits_b148 p1 p2 p3 (v4) (v5) (v6) (v7) (v8) K63 K74 (h) Q hK63 hK74 hw
  · refine g_iload 8 (dk D_X9_fits 52 rfl) rfl ?_
    refine g_if_eq (dk D_X9_fits 53 rfl) rfl (wif_m hw (fun hw => ?_) (fun hw => ?_))
    · refine g_sub [0, 1, 2, 3, 4, 5, 6, 7, 8] rfl ?_
      exact t_X9_fits_b148 p1 p2 p3 (v4) (v5) (v6) (v7) (v8) K63 K74 (h) Q hK63 hK74 hw
    · refine g_aload_n 0 (dk D_X9_fits 54 rfl) rfl rfl ?_
      refine g_iload_n 1 (dk D_X9_fits 55 rfl) rfl rfl ?_
      refine g_iconst (dk D_X9_fits 56 rfl) ki_0 ?_
      refine g_iload 6 (dk D_X9_fits 57 rfl) rfl ?_
      refine g_aload_n 0 (dk D_X9_fits 58 rfl) rfl rfl ?_
      refine g_getR 34 (t := 204) (dk D_X9_fits 59 rfl) kd_92 rfl rfl (by decide) w_1391 rfl rfl rfl ?_
      refine g_iload 9 (dk D_X9_fits 60 rfl) rfl ?_
      obtain ⟨hi1, hw⟩ := hw
      refine g_aald (dk D_X9_fits 61 rfl) kd_204 rfl rfl hi1 ?_
      refine g_iconst (dk D_X9_fits 62 rfl) ki_0 ?_
      obtain ⟨hi2, hw⟩ := hw
      refine g_iald (dk D_X9_fits 63 rfl) (kdf_204 _ (in_lt hi1)) hi2 ?_
      refine g_iload 7 (dk D_X9_fits 64 rfl) rfl ?_
      refine g_iload_n 2 (dk D_X9_fits 65 rfl) rfl rfl ?_
      refine g_iconst (dk D_X9_fits 66 rfl) ki_0 ?_
      refine g_callV (As := [.int (p1), .int ((0 : Int32)), .int (v6), .int ((h (205 + 1 * Int32.toNatClampNeg (v9)) (Int32.toNatClampNeg (0 : Int32)))), .int (v7), .int (p2), .int ((0 : Int32))]) (kc := 0) (fr := 3) (lo := 97) (mc := 0) (My := M_X9_paid) (dk D_X9_fits 67 rfl) kd_92 rfl rfl w_1721 w_1723 w_74 w_110 w_1724 okD_X9_paid (by decide) (Nat.le_of_ble_eq_true rfl) rfl (c_X9_paid (p1) ((0 : Int32)) (v6) ((h (205 + 1 * Int32.toNatClampNeg (v9)) (Int32.toNatClampNeg (0 : Int32)))) (v7) (p2) ((0 : Int32)) (h) _ hw) kxN (kI (fun z3 h4 hw => ?_))
      refine g_aload_n 0 (dk D_X9_fits 68 rfl) rfl rfl ?_
      refine g_getR 34 (t := 204) (dk D_X9_fits 69 rfl) kd_92 rfl rfl (by decide) w_1391 rfl rfl rfl ?_
      refine g_iload 9 (dk D_X9_fits 70 rfl) rfl ?_
      obtain ⟨hi5, hw⟩ := hw
      refine g_aald (dk D_X9_fits 71 rfl) kd_204 rfl rfl hi5 ?_
      refine g_iconst (dk D_X9_fits 72 rfl) ki_1 ?_
      obtain ⟨hi6, hw⟩ := hw
      refine g_iald (dk D_X9_fits 73 rfl) (kdf_204 _ (in_lt hi5)) hi6 ?_
      have hj : G X M_X9_fits E_X9_fits (QM X E_X9_fits (QI Q) Qn) 0 140 [(0, .ref (92)), (1, .int (p1)), (2, .int (p2)), (3, .int (p3)), (4, .int (v4)), (5, .int (v5)), (6, .int (v6)), (7, .int (v7)), (8, .int (v8)), (9, .int (v9))] [.int ((if ¬ z3 = (h4 (205 + 1 * Int32.toNatClampNeg (v9)) (Int32.toNatClampNeg (1 : Int32))) then (0 : Int32) else (1 : Int32)))] (h4) := by
        refine g_topi (fun v8_8 ev8_8 => ?_)
        replace hw := hw _ ev8_8
        refine g_istore (dk D_X9_fits 78 rfl) (by decide) rfl ?_
        refine g_iinc 9 (dk D_X9_fits 79 rfl) rfl (congrArg (fun z => _ + z) ki_1) (by decide) rfl ?_
        refine g_goto (dk D_X9_fits 80 rfl) rfl ?_
        refine g_sub [2, 3, 4, 5, 6, 7, 8, 9, 1, 0] rfl ?_
        exact hK88 (v8_8, (v9 + (1 : Int32)), h4) hw
      refine g_icmp_ne (dk D_X9_fits 74 rfl) rfl ?_
      by_cases c7 : ¬ z3 = (h4 (205 + 1 * Int32.toNatClampNeg (v9)) (Int32.toNatClampNeg (1 : Int32)))
      · rw [if_pos c7] at hj
        refine wif_p c7 ?_
        refine g_iconst (dk D_X9_fits 77 rfl) ki_0 ?_
        exact hj
      · rw [if_neg c7] at hj
        refine wif_n c7 ?_
        refine g_iconst (dk D_X9_fits 75 rfl) ki_1 ?_
        refine g_goto (dk D_X9_fits 76 rfl) rfl ?_
        exact hj
theorem t_X9_fits_b88 {X : Cx} (p1 : Int32) (p2 : Int32) (p3 : Int32) (v4 : Int32) (v5 : Int32) (v6 : Int32) (v7 : Int32) (K63 : Int32 × Int32 × Int32 × Hp → Prop) (K74 : Int32 × Int32 × Int32 × Hp → Prop) (Q : Int32 → Hp → Prop) (s : Int32 × Int32 × Hp) (hK63 : ∀ s : Int32 × Int32 × Int32 × Hp, K63 s → G X M_X9_fits E_X9_fits (QM X E_X9_fits (QI Q) Qn) 0 63 [(0, .ref (92)), (1, .int (p1)), (2, .int (p2)), (3, .int (p3)), (4, .int (s.1)), (5, .int (s.2.1)), (6, .int (s.2.2.1))] [] (s.2.2.2)) (hK74 : ∀ s : Int32 × Int32 × Int32 × Hp, K74 s → G X M_X9_fits E_X9_fits (QM X E_X9_fits (QI Q) Qn) 0 74 [(0, .ref (92)), (1, .int (p1)), (2, .int (p2)), (3, .int (p3)), (4, .int (s.1)), (5, .int (s.2.1)), (6, .int (v6)), (7, .int (s.2.2.1))] [] (s.2.2.2)) (hw : w_X9_fits_b88 p1 p2 p3 v4 v5 v6 v7 K63 K74 Q s) : G X M_X9_fits E_X9_fits (QM X E_X9_fits (QI Q) Qn) 0 88 [(0, .ref (92)), (1, .int (p1)), (2, .int (p2)), (3, .int (p3)), (4, .int (v4)), (5, .int (v5)), (6, .int (v6)), (7, .int (v7)), (8, .int (s.1)), (9, .int (s.2.1))] [] (s.2.2) :=
  wl_ind (B := fun K s => w_X9_fits_l88 p1 p2 p3 v4 v5 v6 v7 K63 K74 Q K (s.1) (s.2.1) (s.2.2)) (P := fun s => G X M_X9_fits E_X9_fits (QM X E_X9_fits (QI Q) Qn) 0 88 [(0, .ref (92)), (1, .int (p1)), (2, .int (p2)), (3, .int (p3)), (4, .int (v4)), (5, .int (v5)), (6, .int (v6)), (7, .int (v7)), (8, .int (s.1)), (9, .int (s.2.1))] [] (s.2.2)) (fun K hK s hw => t_X9_fits_l88 p1 p2 p3 v4 v5 v6 v7 K63 K74 Q K (s.1) (s.2.1) (s.2.2) hK63 hK74 hK hw) s hw
theorem t_X9_fits_l74 {X : Cx} (p1 : Int32) (p2 : Int32) (p3 : Int32) (v6 : Int32) (K63 : Int32 × Int32 × Int32 × Hp → Prop) (Q : Int32 → Hp → Prop) (K74 : Int32 × Int32 × Int32 × Hp → Prop) (v4 : Int32) (v5 : Int32) (v7 : Int32) (h : Hp) (hK63 : ∀ s : Int32 × Int32 × Int32 × Hp, K63 s → G X M_X9_fits E_X9_fits (QM X E_X9_fits (QI Q) Qn) 0 63 [(0, .ref (92)), (1, .int (p1)), (2, .int (p2)), (3, .int (p3)), (4, .int (s.1)), (5, .int (s.2.1)), (6, .int (s.2.2.1))] [] (s.2.2.2)) (hK74 : ∀ s : Int32 × Int32 × Int32 × Hp, K74 s → G X M_X9_fits E_X9_fits (QM X E_X9_fits (QI Q) Qn) 0 74 [(0, .ref (92)), (1, .int (p1)), (2, .int (p2)), (3, .int (p3)), (4, .int (s.1)), (5, .int (s.2.1)), (6, .int (v6)), (7, .int (s.2.2.1))] [] (s.2.2.2)) (hw : w_X9_fits_l74 p1 p2 p3 v6 K63 Q K74 v4 v5 v7 h) : G X M_X9_fits E_X9_fits (QM X E_X9_fits (QI Q) Qn) 0 74 [(0, .ref (92)), (1, .int (p1)), (2, .int (p2)), (3, .int (p3)), (4, .int (v4)), (5, .int (v5)), (6, .int (v6)), (7, .int (v7))] [] h := by
  unfold w_X9_fits_l74 at hw
  refine g_iload 7 (dk D_X9_fits 41 rfl) rfl ?_
  refine g_sipush (dk D_X9_fits 42 rfl) ks_400 ?_
  refine g_icmp_gt (dk D_X9_fits 43 rfl) rfl (wif_m hw (fun hw => ?_) (fun hw => ?_))
  · refine g_iinc 6 (dk D_X9_fits 104 rfl) rfl (congrArg (fun z => _ + z) ki_1) (by decide) rfl ?_
    refine g_goto (dk D_X9_fits 105 rfl) rfl ?_
    refine g_sub [1, 2, 3, 4, 5, 6, 0] rfl ?_
    exact hK63 (v4, v5, (v6 + (1 : Int32)), h) hw
  · refine g_iconst (dk D_X9_fits 44 rfl) ki_1 ?_
    refine g_istore (dk D_X9_fits 45 rfl) (by decide) rfl ?_
    refine g_iconst (dk D_X9_fits 46 rfl) ki_0 ?_
    refine g_istore (dk D_X9_fits 47 rfl) (by decide) rfl ?_
    refine g_sub [2, 3, 4, 5, 6, 7, 8, 9, 1, 0] rfl ?_
    exact t_X9_fits_b88 p1 p2 p3 (v4) (v5) (v6) (v7) K63 K74 Q ((1 : Int32), (0 : Int32), h) hK63 hK74 hw
theorem t_X9_fits_b74 {X : Cx} (p1 : Int32) (p2 : Int32) (p3 : Int32) (v6 : Int32) (K63 : Int32 × Int32 × Int32 × Hp → Prop) (Q : Int32 → Hp → Prop) (s : Int32 × Int32 × Int32 × Hp) (hK63 : ∀ s : Int32 × Int32 × Int32 × Hp, K63 s → G X M_X9_fits E_X9_fits (QM X E_X9_fits (QI Q) Qn) 0 63 [(0, .ref (92)), (1, .int (p1)), (2, .int (p2)), (3, .int (p3)), (4, .int (s.1)), (5, .int (s.2.1)), (6, .int (s.2.2.1))] [] (s.2.2.2)) (hw : w_X9_fits_b74 p1 p2 p3 v6 K63 Q s) : G X M_X9_fits E_X9_fits (QM X E_X9_fits (QI Q) Qn) 0 74 [(0, .ref (92)), (1, .int (p1)), (2, .int (p2)), (3, .int (p3)), (4, .int (s.1)), (5, .int (s.2.1)), (6, .int (v6)), (7, .int (s.2.2.1))] [] (s.2.2.2) :=
  wl_ind (B := fun K s => w_X9_fits_l74 p1 p2 p3 v6 K63 Q K (s.1) (s.2.1) (s.2.2.1) (s.2.2.2)) (P := fun s => G X M_X9_fits E_X9_fits (QM X E_X9_fits (QI Q) Qn) 0 74 [(0, .ref (92)), (1, .int (p1)), (2, .int (p2)), (3, .int (p3)), (4, .int (s.1)), (5, .int (s.2.1)), (6, .int (v6)), (7, .int (s.2.2.1))] [] (s.2.2.2)) (fun K hK s hw => t_X9_fits_l74 p1 p2 p3 v6 K63 Q K (s.1) (s.2.1) (s.2.2.1) (s.2.2.2) hK63 hK hw) s hw
theorem t_X9_fits_l63 {X : Cx} (p1 : Int32) (p2 : Int32) (p3 : Int32) (Q : Int32 → Hp → Prop) (K63 : Int32 × Int32 × Int32 × Hp → Prop) (v4 : Int32) (v5 : Int32) (v6 : Int32) (h : Hp) (hK63 : ∀ s : Int32 × Int32 × Int32 × Hp, K63 s → G X M_X9_fits E_X9_fits (QM X E_X9_fits (QI Q) Qn) 0 63 [(0, .ref (92)), (1, .int (p1)), (2, .int (p2)), (3, .int (p3)), (4, .int (s.1)), (5, .int (s.2.1)), (6, .int (s.2.2.1))] [] (s.2.2.2)) (hw : w_X9_fits_l63 p1 p2 p3 Q K63 v4 v5 v6 h) : G X M_X9_fits E_X9_fits (QM X E_X9_fits (QI Q) Qn) 0 63 [(0, .ref (92)), (1, .int (p1)), (2, .int (p2)), (3, .int (p3)), (4, .int (v4)), (5, .int (v5)), (6, .int (v6))] [] h := by
  unfold w_X9_fits_l63 at hw
  refine g_iload 6 (dk D_X9_fits 36 rfl) rfl ?_
  refine g_bipush (dk D_X9_fits 37 rfl) kb_30 ?_
  refine g_icmp_ge (dk D_X9_fits 38 rfl) rfl (wif_m hw (fun hw => ?_) (fun hw => ?_))
  · refine g_iload_n 3 (dk D_X9_fits 106 rfl) rfl rfl ?_
    have hj : G X M_X9_fits E_X9_fits (QM X E_X9_fits (QI Q) Qn) 0 213 [(0, .ref (92)), (1, .int (p1)), (2, .int (p2)), (3, .int (p3)), (4, .int (v4)), (5, .int (v5)), (6, .int (v6))] [.int ((if ¬ p3 = 0 then v5 else v4))] (h) := by
      exact g_iret (dk D_X9_fits 111 rfl) rfl ⟨_, rfl, hw⟩
    refine g_if_ne (dk D_X9_fits 107 rfl) rfl ?_
    by_cases c2 : ¬ p3 = 0
    · rw [if_pos c2] at hj
      refine wif_p c2 ?_
      refine g_iload 5 (dk D_X9_fits 110 rfl) rfl ?_
      exact hj
    · rw [if_neg c2] at hj
      refine wif_n c2 ?_
      refine g_iload 4 (dk D_X9_fits 108 rfl) rfl ?_
      refine g_goto (dk D_X9_fits 109 rfl) rfl ?_
      exact hj
  · refine g_bipush (dk D_X9_fits 39 rfl) kb_50 ?_
    refine g_istore (dk D_X9_fits 40 rfl) (by decide) rfl ?_
    refine g_sub [1, 2, 3, 4, 5, 6, 7, 0] rfl ?_
    exact t_X9_fits_b74 p1 p2 p3 (v6) K63 Q (v4, v5, (50 : Int32), h) hK63 hw
theorem t_X9_fits_b63 {X : Cx} (p1 : Int32) (p2 : Int32) (p3 : Int32) (Q : Int32 → Hp → Prop) (s : Int32 × Int32 × Int32 × Hp) (hw : w_X9_fits_b63 p1 p2 p3 Q s) : G X M_X9_fits E_X9_fits (QM X E_X9_fits (QI Q) Qn) 0 63 [(0, .ref (92)), (1, .int (p1)), (2, .int (p2)), (3, .int (p3)), (4, .int (s.1)), (5, .int (s.2.1)), (6, .int (s.2.2.1))] [] (s.2.2.2) :=
  wl_ind (B := fun K s => w_X9_fits_l63 p1 p2 p3 Q K (s.1) (s.2.1) (s.2.2.1) (s.2.2.2)) (P := fun s => G X M_X9_fits E_X9_fits (QM X E_X9_fits (QI Q) Qn) 0 63 [(0, .ref (92)), (1, .int (p1)), (2, .int (p2)), (3, .int (p3)), (4, .int (s.1)), (5, .int (s.2.1)), (6, .int (s.2.2.1))] [] (s.2.2.2)) (fun K hK s hw => t_X9_fits_l63 p1 p2 p3 Q K (s.1) (s.2.1) (s.2.2.1) (s.2.2.2) hK hw) s hw
theorem t_X9_fits_b45 {X : Cx} (p1 : Int32) (p2 : Int32) (p3 : Int32) (s0 : Int32) (h : Hp) (Q : Int32 → Hp → Prop) (hw : w_X9_fits_b45 p1 p2 p3 s0 h Q) : G X M_X9_fits E_X9_fits (QM X E_X9_fits (QI Q) Qn) 0 45 [(0, .ref (92)), (1, .int (p1)), (2, .int (p2)), (3, .int (p3))] [.int (s0), .ref (92)] h := by
  unfold w_X9_fits_b45 at hw
  refine g_iconst (dk D_X9_fits 25 rfl) ki_1 ?_
  refine g_callV (As := [.int (s0), .int ((1 : Int32))]) (kc := 0) (fr := 0) (lo := 0) (mc := 0) (My := M_X9_bad) (dk D_X9_fits 26 rfl) kd_92 rfl rfl w_1530 w_1532 w_42 w_110 w_1533 okD_X9_bad (by decide) (Nat.le_of_ble_eq_true rfl) rfl (c_X9_bad (s0) ((1 : Int32)) (h) _ hw) kxN (kI (fun z1 h2 hw => ?_))
  refine g_if_eq (dk D_X9_fits 27 rfl) rfl (wif_m hw (fun hw => ?_) (fun hw => ?_))
  · refine g_iconst (dk D_X9_fits 30 rfl) ki_0 ?_
    refine g_istore (dk D_X9_fits 31 rfl) (by decide) rfl ?_
    refine g_iconst (dk D_X9_fits 32 rfl) ki_m1 ?_
    refine g_istore (dk D_X9_fits 33 rfl) (by decide) rfl ?_
    refine g_iconst (dk D_X9_fits 34 rfl) ki_0 ?_
    refine g_istore (dk D_X9_fits 35 rfl) (by decide) rfl ?_
    refine g_sub [3, 4, 5, 6, 2, 1, 0] rfl ?_
    exact t_X9_fits_b63 p1 p2 p3 Q ((0 : Int32), (-1 : Int32), (0 : Int32), h2) hw
  · refine g_iconst (dk D_X9_fits 28 rfl) ki_0 ?_
    exact g_iret (dk D_X9_fits 29 rfl) rfl ⟨_, rfl, hw⟩
theorem t_X9_fits_b40 {X : Cx} (p1 : Int32) (p2 : Int32) (p3 : Int32) (h : Hp) (Q : Int32 → Hp → Prop) (hw : w_X9_fits_b40 p1 p2 p3 h Q) : G X M_X9_fits E_X9_fits (QM X E_X9_fits (QI Q) Qn) 0 40 [(0, .ref (92)), (1, .int (p1)), (2, .int (p2)), (3, .int (p3))] [.ref (92)] h := by
  unfold w_X9_fits_b40 at hw
  refine g_iconst (dk D_X9_fits 22 rfl) ki_1 ?_
  refine g_goto (dk D_X9_fits 23 rfl) rfl ?_
  exact t_X9_fits_b45 p1 p2 p3 ((1 : Int32)) (h) Q hw
theorem t_X9_fits {X : Cx} (p1 : Int32) (p2 : Int32) (p3 : Int32) (h : Hp) (Q : Int32 → Hp → Prop) (hw : w_X9_fits p1 p2 p3 h Q) : G X M_X9_fits E_X9_fits (QM X E_X9_fits (QI Q) Qn) 0 0 [(0, .ref (92)), (1, .int (p1)), (2, .int (p2)), (3, .int (p3))] [] h := by
  unfold w_X9_fits at hw
  refine g_aload_n 0 (dk D_X9_fits 0 rfl) rfl rfl ?_
  refine g_iconst (dk D_X9_fits 1 rfl) ki_0 ?_
  refine g_put 0 (dk D_X9_fits 2 rfl) kd_92 rfl rfl (by decide) w_1357 rfl tyX9_ok nmX9 rfl (by decide) rfl (fun z => absurd z (by decide)) ?_
  refine g_heap (fun h1 eh1 => ?_)
  replace hw := hw _ eh1
  refine g_aload_n 0 (dk D_X9_fits 3 rfl) rfl rfl ?_
  refine g_iload_n 1 (dk D_X9_fits 4 rfl) rfl rfl ?_
  refine g_iconst (dk D_X9_fits 5 rfl) ki_0 ?_
  refine g_aload_n 0 (dk D_X9_fits 6 rfl) rfl rfl ?_
  refine g_getI 18 (dk D_X9_fits 7 rfl) kd_92 rfl rfl (by decide) w_1375 rfl rfl ?_
  refine g_iconst (dk D_X9_fits 8 rfl) ki_1 ?_
  refine g_isub (dk D_X9_fits 9 rfl) ?_
  refine g_callS (As := [.int (p1), .int ((0 : Int32)), .int (((h1 92 18) - (1 : Int32)))]) (kc := 0) (fr := 0) (lo := 0) (mc := 0) (My := M_X9_in) (dk D_X9_fits 10 rfl) w_1527 w_1528 w_110 w_1529 okD_X9_in (by decide) (Nat.le_of_ble_eq_true rfl) rfl (c_X9_in (p1) ((0 : Int32)) (((h1 92 18) - (1 : Int32))) (h1) _ hw) kxN (kIp (fun z2 hw => ?_))
  refine g_if_eq (dk D_X9_fits 11 rfl) rfl (wif_m hw (fun hw => ?_) (fun hw => ?_))
  · exact t_X9_fits_b40 p1 p2 p3 (h1) Q hw
  · refine g_iload_n 2 (dk D_X9_fits 12 rfl) rfl rfl ?_
    refine g_iconst (dk D_X9_fits 13 rfl) ki_1 ?_
    refine g_sipush (dk D_X9_fits 14 rfl) ks_999 ?_
    refine g_callS (As := [.int (p2), .int ((1 : Int32)), .int ((999 : Int32))]) (kc := 0) (fr := 0) (lo := 0) (mc := 0) (My := M_X9_in) (dk D_X9_fits 15 rfl) w_1527 w_1528 w_110 w_1529 okD_X9_in (by decide) (Nat.le_of_ble_eq_true rfl) rfl (c_X9_in (p2) ((1 : Int32)) ((999 : Int32)) (h1) _ hw) kxN (kIp (fun z3 hw => ?_))
    refine g_if_eq (dk D_X9_fits 16 rfl) rfl (wif_m hw (fun hw => ?_) (fun hw => ?_))
    · exact t_X9_fits_b40 p1 p2 p3 (h1) Q hw
    · refine g_iload_n 3 (dk D_X9_fits 17 rfl) rfl rfl ?_
      refine g_iconst (dk D_X9_fits 18 rfl) ki_0 ?_
      refine g_iconst (dk D_X9_fits 19 rfl) ki_1 ?_
      refine g_callS (As := [.int (p3), .int ((0 : Int32)), .int ((1 : Int32))]) (kc := 0) (fr := 0) (lo := 0) (mc := 0) (My := M_X9_in) (dk D_X9_fits 20 rfl) w_1527 w_1528 w_110 w_1529 okD_X9_in (by decide) (Nat.le_of_ble_eq_true rfl) rfl (c_X9_in (p3) ((0 : Int32)) ((1 : Int32)) (h1) _ hw) kxN (kIp (fun z4 hw => ?_))
      have hj : G X M_X9_fits E_X9_fits (QM X E_X9_fits (QI Q) Qn) 0 45 [(0, .ref (92)), (1, .int (p1)), (2, .int (p2)), (3, .int (p3))] [.int ((if ¬ z4 = 0 then (0 : Int32) else (1 : Int32))), .ref (92)] (h1) := by
        refine g_iconst (dk D_X9_fits 25 rfl) ki_1 ?_
        refine g_callV (As := [.int ((if ¬ z4 = 0 then (0 : Int32) else (1 : Int32))), .int ((1 : Int32))]) (kc := 0) (fr := 0) (lo := 0) (mc := 0) (My := M_X9_bad) (dk D_X9_fits 26 rfl) kd_92 rfl rfl w_1530 w_1532 w_42 w_110 w_1533 okD_X9_bad (by decide) (Nat.le_of_ble_eq_true rfl) rfl (c_X9_bad ((if ¬ z4 = 0 then (0 : Int32) else (1 : Int32))) ((1 : Int32)) (h1) _ hw) kxN (kI (fun z6 h7 hw => ?_))
        refine g_if_eq (dk D_X9_fits 27 rfl) rfl (wif_m hw (fun hw => ?_) (fun hw => ?_))
        · refine g_iconst (dk D_X9_fits 30 rfl) ki_0 ?_
          refine g_istore (dk D_X9_fits 31 rfl) (by decide) rfl ?_
          refine g_iconst (dk D_X9_fits 32 rfl) ki_m1 ?_
          refine g_istore (dk D_X9_fits 33 rfl) (by decide) rfl ?_
          refine g_iconst (dk D_X9_fits 34 rfl) ki_0 ?_
          refine g_istore (dk D_X9_fits 35 rfl) (by decide) rfl ?_
          refine g_sub [3, 4, 5, 6, 2, 1, 0] rfl ?_
          exact t_X9_fits_b63 p1 p2 p3 Q ((0 : Int32), (-1 : Int32), (0 : Int32), h7) hw
        · refine g_iconst (dk D_X9_fits 28 rfl) ki_0 ?_
          exact g_iret (dk D_X9_fits 29 rfl) rfl ⟨_, rfl, hw⟩
      refine g_if_ne (dk D_X9_fits 21 rfl) rfl ?_
      by_cases c5 : ¬ z4 = 0
      · rw [if_pos c5] at hj
        refine wif_p c5 ?_
        refine g_iconst (dk D_X9_fits 24 rfl) ki_0 ?_
        exact hj
      · rw [if_neg c5] at hj
        refine wif_n c5 ?_
        refine g_iconst (dk D_X9_fits 22 rfl) ki_1 ?_
        refine g_goto (dk D_X9_fits 23 rfl) rfl ?_
        exact hj
theorem c_X9_fits {X : Cx} (p1 : Int32) (p2 : Int32) (p3 : Int32) (h : Hp) (Q : Int32 → Hp → Prop) (hw : w_X9_fits p1 p2 p3 h Q) : Con X yX9_fits M_X9_fits 4 136 0 [.ref (92), .int (p1), .int (p2), .int (p3)] h (QI Q) Qn :=
  con_of (by decide +kernel) rfl (Nat.le_of_ble_eq_true rfl) (t_X9_fits p1 p2 p3 h Q hw)
/-! ShadowTollsModel.skyNow()I -/
abbrev M_X9_skyNow : Mi := (RX9, cX9_skyNow, 3, (some .int))
abbrev E_X9_skyNow : Rm := (0, 0, 0, 0)
def rows_X9_skyNow : List (Nat × Instr × Nat) := [(0, .iconst 0, 1), (1, .istore_n 1, 1), (2, .iconst 0, 1), (3, .istore_n 2, 1), (4, .iload_n 2, 1), (5, .bipush 24, 2), (7, .if_icmp .ge 54, 3), (10, .aload_n 0, 1), (11, .aload_n 0, 1), (12, .getfield 399, 3), (15, .ldc_w 402, 3), (18, .imul, 1), (19, .sipush 12345, 3), (22, .iadd, 1), (23, .putfield 399, 3), (26, .iload_n 1, 1), (27, .aload_n 0, 1), (28, .getfield 399, 3), (31, .bipush 16, 2), (33, .ishr, 1), (34, .bipush 15, 2), (36, .iand, 1), (37, .aload_n 0, 1), (38, .getfield 20, 3), (41, .iconst 5, 1), (42, .iaload, 1), (43, .if_icmp .ge 9, 3), (46, .iconst 1, 1), (47, .iload_n 2, 1), (48, .ishl, 1), (49, .goto 4, 3), (52, .iconst 0, 1), (53, .ior, 1), (54, .istore_n 1, 1), (55, .iinc 2 1, 3), (58, .goto (-54), 3), (61, .iload_n 1, 1), (62, .ireturn, 1)]
theorem D_X9_skyNow : dkA cX9_skyNow rows_X9_skyNow := by
  unfold dkA
  decide +kernel
theorem okD_X9_skyNow : okD yX9_skyNow 0 := by
  unfold okD
  decide +kernel
def w_X9_skyNow_l4 (Q : Int32 → Hp → Prop) (K4 : Int32 × Int32 × Hp → Prop) (v1 : Int32) (v2 : Int32) (h : Hp) : Prop :=
  wif ((24 : Int32) ≤ v2) (Q v1 h) (wlet (hup h 92 51 (((h 92 51) * (1103515245 : Int32)) + (12345 : Int32))) (fun h1 => (vp_in (5 : Int32) 11 ∧ wlet ((v1 ||| (if (h1 95 (Int32.toNatClampNeg (5 : Int32))) ≤ (((h1 92 51) >>> ((16 : Int32) &&& 31)) &&& (15 : Int32)) then (0 : Int32) else ((1 : Int32) <<< (v2 &&& 31))))) (fun v1_4 => K4 (v1_4, (v2 + (1 : Int32)), h1)))))
def w_X9_skyNow_b4 (Q : Int32 → Hp → Prop) (s : Int32 × Int32 × Hp) : Prop := wl (fun K s => w_X9_skyNow_l4 Q K s.1 s.2.1 s.2.2) s
def w_X9_skyNow (h : Hp) (Q : Int32 → Hp → Prop) : Prop :=
  w_X9_skyNow_b4 Q ((0 : Int32), (0 : Int32), h)
theorem t_X9_skyNow_l4 {X : Cx} (Q : Int32 → Hp → Prop) (K4 : Int32 × Int32 × Hp → Prop) (v1 : Int32) (v2 : Int32) (h : Hp) (hK4 : ∀ s : Int32 × Int32 × Hp, K4 s → G X M_X9_skyNow E_X9_skyNow (QM X E_X9_skyNow (QI Q) Qn) 0 4 [(0, .ref (92)), (1, .int (s.1)), (2, .int (s.2.1))] [] (s.2.2)) (hw : w_X9_skyNow_l4 Q K4 v1 v2 h) : G X M_X9_skyNow E_X9_skyNow (QM X E_X9_skyNow (QI Q) Qn) 0 4 [(0, .ref (92)), (1, .int (v1)), (2, .int (v2))] [] h := by
  unfold w_X9_skyNow_l4 at hw
  refine g_iload_n 2 (dk D_X9_skyNow 4 rfl) rfl rfl ?_
  refine g_bipush (dk D_X9_skyNow 5 rfl) kb_24 ?_
  refine g_icmp_ge (dk D_X9_skyNow 6 rfl) rfl (wif_m hw (fun hw => ?_) (fun hw => ?_))
  · refine g_iload_n 1 (dk D_X9_skyNow 36 rfl) rfl rfl ?_
    exact g_iret (dk D_X9_skyNow 37 rfl) rfl ⟨_, rfl, hw⟩
  · refine g_aload_n 0 (dk D_X9_skyNow 7 rfl) rfl rfl ?_
    refine g_aload_n 0 (dk D_X9_skyNow 8 rfl) rfl rfl ?_
    refine g_getI 51 (dk D_X9_skyNow 9 rfl) kd_92 rfl rfl (by decide) w_1408 rfl rfl ?_
    refine g_ldcw (dk D_X9_skyNow 10 rfl) w_1886 ?_
    refine g_imul (dk D_X9_skyNow 11 rfl) ?_
    refine g_sipush (dk D_X9_skyNow 12 rfl) ks_12345 ?_
    refine g_iadd (dk D_X9_skyNow 13 rfl) ?_
    refine g_put 51 (dk D_X9_skyNow 14 rfl) kd_92 rfl rfl (by decide) w_1408 rfl tyX9_ok nmX9 rfl (by decide) rfl (fun z => absurd z (by decide)) ?_
    refine g_heap (fun h1 eh1 => ?_)
    replace hw := hw _ eh1
    refine g_iload_n 1 (dk D_X9_skyNow 15 rfl) rfl rfl ?_
    refine g_aload_n 0 (dk D_X9_skyNow 16 rfl) rfl rfl ?_
    refine g_getI 51 (dk D_X9_skyNow 17 rfl) kd_92 rfl rfl (by decide) w_1408 rfl rfl ?_
    refine g_bipush (dk D_X9_skyNow 18 rfl) kb_16 ?_
    refine g_ishr (dk D_X9_skyNow 19 rfl) ?_
    refine g_bipush (dk D_X9_skyNow 20 rfl) kb_15 ?_
    refine g_iand (dk D_X9_skyNow 21 rfl) ?_
    refine g_aload_n 0 (dk D_X9_skyNow 22 rfl) rfl rfl ?_
    refine g_getR 11 (t := 95) (dk D_X9_skyNow 23 rfl) kd_92 rfl rfl (by decide) w_1368 rfl rfl rfl ?_
    refine g_iconst (dk D_X9_skyNow 24 rfl) ki_5 ?_
    obtain ⟨hi2, hw⟩ := hw
    refine g_iald (dk D_X9_skyNow 25 rfl) kd_95 hi2 ?_
    have hj : G X M_X9_skyNow E_X9_skyNow (QM X E_X9_skyNow (QI Q) Qn) 0 53 [(0, .ref (92)), (1, .int (v1)), (2, .int (v2))] [.int ((if (h1 95 (Int32.toNatClampNeg (5 : Int32))) ≤ (((h1 92 51) >>> ((16 : Int32) &&& 31)) &&& (15 : Int32)) then (0 : Int32) else ((1 : Int32) <<< (v2 &&& 31)))), .int (v1)] (h1) := by
      refine g_ior (dk D_X9_skyNow 32 rfl) ?_
      refine g_topi (fun v1_4 ev1_4 => ?_)
      replace hw := hw _ ev1_4
      refine g_istore_n (dk D_X9_skyNow 33 rfl) rfl (by decide) rfl ?_
      refine g_iinc 2 (dk D_X9_skyNow 34 rfl) rfl (congrArg (fun z => _ + z) ki_1) (by decide) rfl ?_
      refine g_goto (dk D_X9_skyNow 35 rfl) rfl ?_
      refine g_sub [2, 1, 0] rfl ?_
      exact hK4 (v1_4, (v2 + (1 : Int32)), h1) hw
    refine g_icmp_ge (dk D_X9_skyNow 26 rfl) rfl ?_
    by_cases c3 : (h1 95 (Int32.toNatClampNeg (5 : Int32))) ≤ (((h1 92 51) >>> ((16 : Int32) &&& 31)) &&& (15 : Int32))
    · rw [if_pos c3] at hj
      refine wif_p c3 ?_
      refine g_iconst (dk D_X9_skyNow 31 rfl) ki_0 ?_
      exact hj
    · rw [if_neg c3] at hj
      refine wif_n c3 ?_
      refine g_iconst (dk D_X9_skyNow 27 rfl) ki_1 ?_
      refine g_iload_n 2 (dk D_X9_skyNow 28 rfl) rfl rfl ?_
      refine g_ishl (dk D_X9_skyNow 29 rfl) ?_
      refine g_goto (dk D_X9_skyNow 30 rfl) rfl ?_
      exact hj
theorem t_X9_skyNow_b4 {X : Cx} (Q : Int32 → Hp → Prop) (s : Int32 × Int32 × Hp) (hw : w_X9_skyNow_b4 Q s) : G X M_X9_skyNow E_X9_skyNow (QM X E_X9_skyNow (QI Q) Qn) 0 4 [(0, .ref (92)), (1, .int (s.1)), (2, .int (s.2.1))] [] (s.2.2) :=
  wl_ind (B := fun K s => w_X9_skyNow_l4 Q K (s.1) (s.2.1) (s.2.2)) (P := fun s => G X M_X9_skyNow E_X9_skyNow (QM X E_X9_skyNow (QI Q) Qn) 0 4 [(0, .ref (92)), (1, .int (s.1)), (2, .int (s.2.1))] [] (s.2.2)) (fun K hK s hw => t_X9_skyNow_l4 Q K (s.1) (s.2.1) (s.2.2) hK hw) s hw
theorem t_X9_skyNow {X : Cx} (h : Hp) (Q : Int32 → Hp → Prop) (hw : w_X9_skyNow h Q) : G X M_X9_skyNow E_X9_skyNow (QM X E_X9_skyNow (QI Q) Qn) 0 0 [(0, .ref (92))] [] h := by
  unfold w_X9_skyNow at hw
  refine g_iconst (dk D_X9_skyNow 0 rfl) ki_0 ?_
  refine g_istore_n (dk D_X9_skyNow 1 rfl) rfl (by decide) rfl ?_
  refine g_iconst (dk D_X9_skyNow 2 rfl) ki_0 ?_
  refine g_istore_n (dk D_X9_skyNow 3 rfl) rfl (by decide) rfl ?_
  refine g_sub [2, 1, 0] rfl ?_
  exact t_X9_skyNow_b4 Q ((0 : Int32), (0 : Int32), h) hw
theorem c_X9_skyNow {X : Cx} (h : Hp) (Q : Int32 → Hp → Prop) (hw : w_X9_skyNow h Q) : Con X yX9_skyNow M_X9_skyNow 0 0 0 [.ref (92)] h (QI Q) Qn :=
  con_of (by decide +kernel) rfl (Nat.le_of_ble_eq_true rfl) (t_X9_skyNow h Q hw)
/-! ShadowTollsModel.sky(I)I -/
abbrev M_X9_sky : Mi := (RX9, cX9_sky, 2, (some .int))
abbrev E_X9_sky : Rm := (1, 30, 0, 0)
def rows_X9_sky : List (Nat × Instr × Nat) := [(0, .aload_n 0, 1), (1, .iconst 0, 1), (2, .putfield 111, 3), (5, .aload_n 0, 1), (6, .iload_n 1, 1), (7, .putfield 399, 3), (10, .aload_n 0, 1), (11, .invokevirtual 403, 3), (14, .ireturn, 1)]
theorem D_X9_sky : dkA cX9_sky rows_X9_sky := by
  unfold dkA
  decide +kernel
theorem okD_X9_sky : okD yX9_sky 1 := by
  unfold okD
  decide +kernel
def w_X9_sky (p1 : Int32) (h : Hp) (Q : Int32 → Hp → Prop) : Prop :=
  wlet (hup h 92 0 (0 : Int32)) (fun h1 => wlet (hup h1 92 51 p1) (fun h2 => w_X9_skyNow  h2 (fun z3 h4 => Q z3 h4)))
theorem t_X9_sky {X : Cx} (p1 : Int32) (h : Hp) (Q : Int32 → Hp → Prop) (hw : w_X9_sky p1 h Q) : G X M_X9_sky E_X9_sky (QM X E_X9_sky (QI Q) Qn) 0 0 [(0, .ref (92)), (1, .int (p1))] [] h := by
  unfold w_X9_sky at hw
  refine g_aload_n 0 (dk D_X9_sky 0 rfl) rfl rfl ?_
  refine g_iconst (dk D_X9_sky 1 rfl) ki_0 ?_
  refine g_put 0 (dk D_X9_sky 2 rfl) kd_92 rfl rfl (by decide) w_1357 rfl tyX9_ok nmX9 rfl (by decide) rfl (fun z => absurd z (by decide)) ?_
  refine g_heap (fun h1 eh1 => ?_)
  replace hw := hw _ eh1
  refine g_aload_n 0 (dk D_X9_sky 3 rfl) rfl rfl ?_
  refine g_iload_n 1 (dk D_X9_sky 4 rfl) rfl rfl ?_
  refine g_put 51 (dk D_X9_sky 5 rfl) kd_92 rfl rfl (by decide) w_1408 rfl tyX9_ok nmX9 rfl (by decide) rfl (fun z => absurd z (by decide)) ?_
  refine g_heap (fun h2 eh2 => ?_)
  replace hw := hw _ eh2
  refine g_aload_n 0 (dk D_X9_sky 6 rfl) rfl rfl ?_
  refine g_callV (As := []) (kc := 0) (fr := 0) (lo := 0) (mc := 0) (My := M_X9_skyNow) (dk D_X9_sky 7 rfl) kd_92 rfl rfl w_1882 w_1884 w_94 w_110 w_1885 okD_X9_skyNow (by decide) (Nat.le_of_ble_eq_true rfl) rfl (c_X9_skyNow (h2) _ hw) kxN (kI (fun z3 h4 hw => ?_))
  exact g_iret (dk D_X9_sky 8 rfl) rfl ⟨_, rfl, hw⟩
theorem c_X9_sky {X : Cx} (p1 : Int32) (h : Hp) (Q : Int32 → Hp → Prop) (hw : w_X9_sky p1 h Q) : Con X yX9_sky M_X9_sky 1 30 0 [.ref (92), .int (p1)] h (QI Q) Qn :=
  con_of (by decide +kernel) rfl (Nat.le_of_ble_eq_true rfl) (t_X9_sky p1 h Q hw)
/-! ShadowTollsModel.layPlans(II)V -/
abbrev M_X9_layPlans : Mi := (RX9, cX9_layPlans, 5, none)
abbrev E_X9_layPlans : Rm := (7, 243, 0, 0)
def rows_X9_layPlans : List (Nat × Instr × Nat) := [(0, .iconst 0, 1), (1, .istore_n 3, 1), (2, .iload_n 3, 1), (3, .iload_n 2, 1), (4, .if_icmp .ge 55, 3), (7, .aload_n 0, 1), (8, .aload_n 0, 1), (9, .invokevirtual 378, 3), (12, .iload_n 1, 1), (13, .iload_n 3, 1), (14, .iadd, 1), (15, .iconst 0, 1), (16, .invokevirtual 385, 3), (19, .iconst 0, 1), (20, .istore 4, 2), (22, .iload 4, 2), (24, .aload_n 0, 1), (25, .getfield 336, 3), (28, .if_icmp .ge 25, 3), (31, .aload_n 0, 1), (32, .getfield 104, 3), (35, .iload_n 3, 1), (36, .aaload, 1), (37, .iload 4, 2), (39, .aload_n 0, 1), (40, .getfield 95, 3), (43, .iload 4, 2), (45, .iaload, 1), (46, .iastore, 1), (47, .iinc 4 1, 3), (50, .goto (-28), 3), (53, .iinc 3 1, 3), (56, .goto (-54), 3), (59, .return_, 1)]
theorem D_X9_layPlans : dkA cX9_layPlans rows_X9_layPlans := by
  unfold dkA
  decide +kernel
theorem okD_X9_layPlans : okD yX9_layPlans 2 := by
  unfold okD
  decide +kernel
def w_X9_layPlans_l22 (p1 : Int32) (p2 : Int32) (v3 : Int32) (K2 : Int32 × Hp → Prop) (Q : Hp → Prop) (K22 : Int32 × Hp → Prop) (v4 : Int32) (h : Hp) : Prop :=
  wif ((h 92 43) ≤ v4) (K2 ((v3 + (1 : Int32)), h)) ((vp_in v3 30 ∧ (vp_in v4 60 ∧ (vp_in v4 30 ∧ wlet (hup h (1427 + 1 * Int32.toNatClampNeg (v3)) (Int32.toNatClampNeg v4) (h 1424 (Int32.toNatClampNeg v4))) (fun h4 => K22 ((v4 + (1 : Int32)), h4))))))
def w_X9_layPlans_b22 (p1 : Int32) (p2 : Int32) (v3 : Int32) (K2 : Int32 × Hp → Prop) (Q : Hp → Prop) (s : Int32 × Hp) : Prop := wl (fun K s => w_X9_layPlans_l22 p1 p2 v3 K2 Q K s.1 s.2) s
def w_X9_layPlans_l2 (p1 : Int32) (p2 : Int32) (Q : Hp → Prop) (K2 : Int32 × Hp → Prop) (v3 : Int32) (h : Hp) : Prop :=
  wif (p2 ≤ v3) (Q h) (w_X9_everybody  h (fun z1 => w_X9_findPlan (z1) ((p1 + v3)) ((0 : Int32)) h (fun h2 => w_X9_layPlans_b22 p1 p2 (v3) K2 Q ((0 : Int32), h2))))
def w_X9_layPlans_b2 (p1 : Int32) (p2 : Int32) (Q : Hp → Prop) (s : Int32 × Hp) : Prop := wl (fun K s => w_X9_layPlans_l2 p1 p2 Q K s.1 s.2) s
def w_X9_layPlans (p1 : Int32) (p2 : Int32) (h : Hp) (Q : Hp → Prop) : Prop :=
  w_X9_layPlans_b2 p1 p2 Q ((0 : Int32), h)
theorem t_X9_layPlans_l22 {X : Cx} (p1 : Int32) (p2 : Int32) (v3 : Int32) (K2 : Int32 × Hp → Prop) (Q : Hp → Prop) (K22 : Int32 × Hp → Prop) (v4 : Int32) (h : Hp) (hK2 : ∀ s : Int32 × Hp, K2 s → G X M_X9_layPlans E_X9_layPlans (QM X E_X9_layPlans (QV Q) Qn) 0 2 [(0, .ref (92)), (1, .int (p1)), (2, .int (p2)), (3, .int (s.1))] [] (s.2)) (hK22 : ∀ s : Int32 × Hp, K22 s → G X M_X9_layPlans E_X9_layPlans (QM X E_X9_layPlans (QV Q) Qn) 0 22 [(0, .ref (92)), (1, .int (p1)), (2, .int (p2)), (3, .int (v3)), (4, .int (s.1))] [] (s.2)) (hw : w_X9_layPlans_l22 p1 p2 v3 K2 Q K22 v4 h) : G X M_X9_layPlans E_X9_layPlans (QM X E_X9_layPlans (QV Q) Qn) 0 22 [(0, .ref (92)), (1, .int (p1)), (2, .int (p2)), (3, .int (v3)), (4, .int (v4))] [] h := by
  unfold w_X9_layPlans_l22 at hw
  refine g_iload 4 (dk D_X9_layPlans 15 rfl) rfl ?_
  refine g_aload_n 0 (dk D_X9_layPlans 16 rfl) rfl rfl ?_
  refine g_getI 43 (dk D_X9_layPlans 17 rfl) kd_92 rfl rfl (by decide) w_1400 rfl rfl ?_
  refine g_icmp_ge (dk D_X9_layPlans 18 rfl) rfl (wif_m hw (fun hw => ?_) (fun hw => ?_))
  · refine g_iinc 3 (dk D_X9_layPlans 31 rfl) rfl (congrArg (fun z => _ + z) ki_1) (by decide) rfl ?_
    refine g_goto (dk D_X9_layPlans 32 rfl) rfl ?_
    refine g_sub [1, 2, 3, 0] rfl ?_
    exact hK2 ((v3 + (1 : Int32)), h) hw
  · refine g_aload_n 0 (dk D_X9_layPlans 19 rfl) rfl rfl ?_
    refine g_getR 50 (t := 1426) (dk D_X9_layPlans 20 rfl) kd_92 rfl rfl (by decide) w_1407 rfl rfl rfl ?_
    refine g_iload_n 3 (dk D_X9_layPlans 21 rfl) rfl rfl ?_
    obtain ⟨hi1, hw⟩ := hw
    refine g_aald (dk D_X9_layPlans 22 rfl) kd_1426 rfl rfl hi1 ?_
    refine g_iload 4 (dk D_X9_layPlans 23 rfl) rfl ?_
    refine g_aload_n 0 (dk D_X9_layPlans 24 rfl) rfl rfl ?_
    refine g_getR 41 (t := 1424) (dk D_X9_layPlans 25 rfl) kd_92 rfl rfl (by decide) w_1398 rfl rfl rfl ?_
    refine g_iload 4 (dk D_X9_layPlans 26 rfl) rfl ?_
    obtain ⟨hi2, hw⟩ := hw
    refine g_iald (dk D_X9_layPlans 27 rfl) kd_1424 hi2 ?_
    obtain ⟨hi3, hw⟩ := hw
    refine g_iast (dk D_X9_layPlans 28 rfl) (kdf_1426 _ (in_lt hi1)) hi3 ?_
    refine g_heap (fun h4 eh4 => ?_)
    replace hw := hw _ eh4
    refine g_iinc 4 (dk D_X9_layPlans 29 rfl) rfl (congrArg (fun z => _ + z) ki_1) (by decide) rfl ?_
    refine g_goto (dk D_X9_layPlans 30 rfl) rfl ?_
    refine g_sub [1, 2, 3, 4, 0] rfl ?_
    exact hK22 ((v4 + (1 : Int32)), h4) hw
theorem t_X9_layPlans_b22 {X : Cx} (p1 : Int32) (p2 : Int32) (v3 : Int32) (K2 : Int32 × Hp → Prop) (Q : Hp → Prop) (s : Int32 × Hp) (hK2 : ∀ s : Int32 × Hp, K2 s → G X M_X9_layPlans E_X9_layPlans (QM X E_X9_layPlans (QV Q) Qn) 0 2 [(0, .ref (92)), (1, .int (p1)), (2, .int (p2)), (3, .int (s.1))] [] (s.2)) (hw : w_X9_layPlans_b22 p1 p2 v3 K2 Q s) : G X M_X9_layPlans E_X9_layPlans (QM X E_X9_layPlans (QV Q) Qn) 0 22 [(0, .ref (92)), (1, .int (p1)), (2, .int (p2)), (3, .int (v3)), (4, .int (s.1))] [] (s.2) :=
  wl_ind (B := fun K s => w_X9_layPlans_l22 p1 p2 v3 K2 Q K (s.1) (s.2)) (P := fun s => G X M_X9_layPlans E_X9_layPlans (QM X E_X9_layPlans (QV Q) Qn) 0 22 [(0, .ref (92)), (1, .int (p1)), (2, .int (p2)), (3, .int (v3)), (4, .int (s.1))] [] (s.2)) (fun K hK s hw => t_X9_layPlans_l22 p1 p2 v3 K2 Q K (s.1) (s.2) hK2 hK hw) s hw
theorem t_X9_layPlans_l2 {X : Cx} (p1 : Int32) (p2 : Int32) (Q : Hp → Prop) (K2 : Int32 × Hp → Prop) (v3 : Int32) (h : Hp) (hK2 : ∀ s : Int32 × Hp, K2 s → G X M_X9_layPlans E_X9_layPlans (QM X E_X9_layPlans (QV Q) Qn) 0 2 [(0, .ref (92)), (1, .int (p1)), (2, .int (p2)), (3, .int (s.1))] [] (s.2)) (hw : w_X9_layPlans_l2 p1 p2 Q K2 v3 h) : G X M_X9_layPlans E_X9_layPlans (QM X E_X9_layPlans (QV Q) Qn) 0 2 [(0, .ref (92)), (1, .int (p1)), (2, .int (p2)), (3, .int (v3))] [] h := by
  unfold w_X9_layPlans_l2 at hw
  refine g_iload_n 3 (dk D_X9_layPlans 2 rfl) rfl rfl ?_
  refine g_iload_n 2 (dk D_X9_layPlans 3 rfl) rfl rfl ?_
  refine g_icmp_ge (dk D_X9_layPlans 4 rfl) rfl (wif_m hw (fun hw => ?_) (fun hw => ?_))
  · exact g_vret (dk D_X9_layPlans 33 rfl) rfl ⟨rfl, hw⟩
  · refine g_aload_n 0 (dk D_X9_layPlans 5 rfl) rfl rfl ?_
    refine g_aload_n 0 (dk D_X9_layPlans 6 rfl) rfl rfl ?_
    refine g_callV (As := []) (kc := 0) (fr := 0) (lo := 0) (mc := 0) (My := M_X9_everybody) (dk D_X9_layPlans 7 rfl) kd_92 rfl rfl w_1769 w_1771 w_81 w_110 w_1772 okD_X9_everybody (by decide) (Nat.le_of_ble_eq_true rfl) rfl (c_X9_everybody (h) _ hw) kxN (kIp (fun z1 hw => ?_))
    refine g_iload_n 1 (dk D_X9_layPlans 8 rfl) rfl rfl ?_
    refine g_iload_n 3 (dk D_X9_layPlans 9 rfl) rfl rfl ?_
    refine g_iadd (dk D_X9_layPlans 10 rfl) ?_
    refine g_iconst (dk D_X9_layPlans 11 rfl) ki_0 ?_
    refine g_callV (As := [.int (z1), .int ((p1 + v3)), .int ((0 : Int32))]) (kc := 0) (fr := 6) (lo := 207) (mc := 0) (My := M_X9_findPlan) (dk D_X9_layPlans 12 rfl) kd_92 rfl rfl w_1773 w_1775 w_82 w_110 w_1776 okD_X9_findPlan (by decide) (Nat.le_of_ble_eq_true rfl) rfl (c_X9_findPlan (z1) ((p1 + v3)) ((0 : Int32)) (h) _ hw) kxN (kV (fun h2 hw => ?_))
    refine g_iconst (dk D_X9_layPlans 13 rfl) ki_0 ?_
    refine g_istore (dk D_X9_layPlans 14 rfl) (by decide) rfl ?_
    refine g_sub [1, 2, 3, 4, 0] rfl ?_
    exact t_X9_layPlans_b22 p1 p2 (v3) K2 Q ((0 : Int32), h2) hK2 hw
theorem t_X9_layPlans_b2 {X : Cx} (p1 : Int32) (p2 : Int32) (Q : Hp → Prop) (s : Int32 × Hp) (hw : w_X9_layPlans_b2 p1 p2 Q s) : G X M_X9_layPlans E_X9_layPlans (QM X E_X9_layPlans (QV Q) Qn) 0 2 [(0, .ref (92)), (1, .int (p1)), (2, .int (p2)), (3, .int (s.1))] [] (s.2) :=
  wl_ind (B := fun K s => w_X9_layPlans_l2 p1 p2 Q K (s.1) (s.2)) (P := fun s => G X M_X9_layPlans E_X9_layPlans (QM X E_X9_layPlans (QV Q) Qn) 0 2 [(0, .ref (92)), (1, .int (p1)), (2, .int (p2)), (3, .int (s.1))] [] (s.2)) (fun K hK s hw => t_X9_layPlans_l2 p1 p2 Q K (s.1) (s.2) hK hw) s hw
theorem t_X9_layPlans {X : Cx} (p1 : Int32) (p2 : Int32) (h : Hp) (Q : Hp → Prop) (hw : w_X9_layPlans p1 p2 h Q) : G X M_X9_layPlans E_X9_layPlans (QM X E_X9_layPlans (QV Q) Qn) 0 0 [(0, .ref (92)), (1, .int (p1)), (2, .int (p2))] [] h := by
  unfold w_X9_layPlans at hw
  refine g_iconst (dk D_X9_layPlans 0 rfl) ki_0 ?_
  refine g_istore_n (dk D_X9_layPlans 1 rfl) rfl (by decide) rfl ?_
  refine g_sub [1, 2, 3, 0] rfl ?_
  exact t_X9_layPlans_b2 p1 p2 Q ((0 : Int32), h) hw
theorem c_X9_layPlans {X : Cx} (p1 : Int32) (p2 : Int32) (h : Hp) (Q : Hp → Prop) (hw : w_X9_layPlans p1 p2 h Q) : Con X yX9_layPlans M_X9_layPlans 7 243 0 [.ref (92), .int (p1), .int (p2)] h (QV Q) Qn :=
  con_of (by decide +kernel) rfl (Nat.le_of_ble_eq_true rfl) (t_X9_layPlans p1 p2 h Q hw)
/-! ShadowTollsModel.seasonOf(III)I -/
abbrev M_X9_seasonOf : Mi := (RX9, cX9_seasonOf, 11, (some .int))
abbrev E_X9_seasonOf : Rm := (5, 172, 0, 0)
def rows_X9_seasonOf : List (Nat × Instr × Nat) := [(0, .aload_n 0, 1), (1, .iload_n 3, 1), (2, .putfield 399, 3), (5, .iconst 0, 1), (6, .istore 4, 2), (8, .iconst 0, 1), (9, .istore 5, 2), (11, .iload 5, 2), (13, .iload_n 2, 1), (14, .if_icmp .ge 127, 3), (17, .aload_n 0, 1), (18, .invokevirtual 403, 3), (21, .istore 6, 2), (23, .bipush 8, 2), (25, .istore 7, 2), (27, .iconst 0, 1), (28, .istore 8, 2), (30, .iload 8, 2), (32, .aload_n 0, 1), (33, .getfield 333, 3), (36, .if_icmp .ge 99, 3), (39, .aload_n 0, 1), (40, .getfield 104, 3), (43, .iload 5, 2), (45, .aaload, 1), (46, .iload 8, 2), (48, .iaload, 1), (49, .istore 9, 2), (51, .aload_n 0, 1), (52, .iload 8, 2), (54, .invokevirtual 339, 3), (57, .istore 10, 2), (59, .iload 9, 2), (61, .iconst (-1), 1), (62, .if_icmp .eq 52, 3), (65, .iload 4, 2), (67, .aload_n 0, 1), (68, .iconst 0, 1), (69, .iload 9, 2), (71, .iload_n 1, 1), (72, .iload 5, 2), (74, .iadd, 1), (75, .iload 10, 2), (77, .aload_n 0, 1), (78, .iload 9, 2), (80, .iload 7, 2), (82, .invokevirtual 359, 3), (85, .iconst 1, 1), (86, .if_icmp .eq 17, 3), (89, .iload 6, 2), (91, .iload 10, 2), (93, .bipush 60, 2), (95, .idiv, 1), (96, .ishr, 1), (97, .iconst 1, 1), (98, .iand, 1), (99, .iconst 1, 1), (100, .if_icmp .ne 7, 3), (103, .iconst 1, 1), (104, .goto 4, 3), (107, .iconst 0, 1), (108, .invokevirtual 316, 3), (111, .iadd, 1), (112, .istore 4, 2), (114, .iload 9, 2), (116, .iconst (-1), 1), (117, .if_icmp .ne 8, 3), (120, .bipush 8, 2), (122, .goto 5, 3), (125, .iload 9, 2), (127, .istore 7, 2), (129, .iinc 8 1, 3), (132, .goto (-102), 3), (135, .iinc 5 1, 3), (138, .goto (-127), 3), (141, .iload 4, 2), (143, .ireturn, 1)]
theorem D_X9_seasonOf : dkA cX9_seasonOf rows_X9_seasonOf := by
  unfold dkA
  decide +kernel
theorem okD_X9_seasonOf : okD yX9_seasonOf 3 := by
  unfold okD
  decide +kernel
def w_X9_seasonOf_b114 (p1 : Int32) (p2 : Int32) (p3 : Int32) (v4 : Int32) (v5 : Int32) (v6 : Int32) (v8 : Int32) (v9 : Int32) (K11 : Int32 × Int32 × Hp → Prop) (K30 : Int32 × Int32 × Int32 × Hp → Prop) (h : Hp) (Q : Int32 → Hp → Prop) : Prop :=
  wlet ((if ¬ v9 = (-1 : Int32) then v9 else (8 : Int32))) (fun v7_2 => K30 (v4, v7_2, (v8 + (1 : Int32)), h))
def w_X9_seasonOf_b108 (p1 : Int32) (p2 : Int32) (p3 : Int32) (v5 : Int32) (v6 : Int32) (v8 : Int32) (v9 : Int32) (s0 : Int32) (s1 : Int32) (s2 : Int32) (s3 : Int32) (s4 : Int32) (s6 : Int32) (K11 : Int32 × Int32 × Hp → Prop) (K30 : Int32 × Int32 × Int32 × Hp → Prop) (h : Hp) (Q : Int32 → Hp → Prop) : Prop :=
  w_X9_coinsOf (s4) (s3) (s2) (s1) (s0) h (fun z1 h2 => wlet ((s6 + z1)) (fun v4_3 => w_X9_seasonOf_b114 p1 p2 p3 (v4_3) (v5) (v6) (v8) (v9) K11 K30 (h2) Q))
def w_X9_seasonOf_b103 (p1 : Int32) (p2 : Int32) (p3 : Int32) (v5 : Int32) (v6 : Int32) (v8 : Int32) (v9 : Int32) (s0 : Int32) (s1 : Int32) (s2 : Int32) (s3 : Int32) (s5 : Int32) (K11 : Int32 × Int32 × Hp → Prop) (K30 : Int32 × Int32 × Int32 × Hp → Prop) (h : Hp) (Q : Int32 → Hp → Prop) : Prop :=
  w_X9_seasonOf_b108 p1 p2 p3 (v5) (v6) (v8) (v9) ((1 : Int32)) (s0) (s1) (s2) (s3) (s5) K11 K30 (h) Q
def w_X9_seasonOf_l30 (p1 : Int32) (p2 : Int32) (p3 : Int32) (v5 : Int32) (v6 : Int32) (K11 : Int32 × Int32 × Hp → Prop) (Q : Int32 → Hp → Prop) (K30 : Int32 × Int32 × Int32 × Hp → Prop) (v4 : Int32) (v7 : Int32) (v8 : Int32) (h : Hp) : Prop :=
  wif ((h 92 42) ≤ v8) (K11 (v4, (v5 + (1 : Int32)), h)) ((vp_in v5 30 ∧ (vp_in v8 30 ∧ wlet ((h (1427 + 1 * Int32.toNatClampNeg (v5)) (Int32.toNatClampNeg v8))) (fun v9_3 => w_X9_minuteOf (v8) h (fun z4 => wif (v9_3 = (-1 : Int32)) (w_X9_seasonOf_b114 p1 p2 p3 (v4) (v5) (v6) (v8) (v9_3) K11 K30 (h) Q) (w_X9_isDark (v9_3) (v7) h (fun z6 => wif (z6 = (1 : Int32)) (w_X9_seasonOf_b103 p1 p2 p3 (v5) (v6) (v8) (v9_3) (z4) ((p1 + v5)) (v9_3) ((0 : Int32)) (v4) K11 K30 (h) Q) (w_X9_coinsOf ((0 : Int32)) (v9_3) ((p1 + v5)) (z4) ((if ¬ ((v6 >>> ((z4 / (60 : Int32)) &&& 31)) &&& (1 : Int32)) = (1 : Int32) then (0 : Int32) else (1 : Int32))) h (fun z8 h9 => wlet ((v4 + z8)) (fun v4_10 => w_X9_seasonOf_b114 p1 p2 p3 (v4_10) (v5) (v6) (v8) (v9_3) K11 K30 (h9) Q))))))))))
def w_X9_seasonOf_b30 (p1 : Int32) (p2 : Int32) (p3 : Int32) (v5 : Int32) (v6 : Int32) (K11 : Int32 × Int32 × Hp → Prop) (Q : Int32 → Hp → Prop) (s : Int32 × Int32 × Int32 × Hp) : Prop := wl (fun K s => w_X9_seasonOf_l30 p1 p2 p3 v5 v6 K11 Q K s.1 s.2.1 s.2.2.1 s.2.2.2) s
def w_X9_seasonOf_l11 (p1 : Int32) (p2 : Int32) (p3 : Int32) (Q : Int32 → Hp → Prop) (K11 : Int32 × Int32 × Hp → Prop) (v4 : Int32) (v5 : Int32) (h : Hp) : Prop :=
  wif (p2 ≤ v5) (Q v4 h) (w_X9_skyNow  h (fun z1 h2 => w_X9_seasonOf_b30 p1 p2 p3 (v5) (z1) K11 Q (v4, (8 : Int32), (0 : Int32), h2)))
def w_X9_seasonOf_b11 (p1 : Int32) (p2 : Int32) (p3 : Int32) (Q : Int32 → Hp → Prop) (s : Int32 × Int32 × Hp) : Prop := wl (fun K s => w_X9_seasonOf_l11 p1 p2 p3 Q K s.1 s.2.1 s.2.2) s
def w_X9_seasonOf (p1 : Int32) (p2 : Int32) (p3 : Int32) (h : Hp) (Q : Int32 → Hp → Prop) : Prop :=
  wlet (hup h 92 51 p3) (fun h1 => w_X9_seasonOf_b11 p1 p2 p3 Q ((0 : Int32), (0 : Int32), h1))
theorem t_X9_seasonOf_b114 {X : Cx} (p1 : Int32) (p2 : Int32) (p3 : Int32) (v4 : Int32) (v5 : Int32) (v6 : Int32) (v8 : Int32) (v9 : Int32) (K11 : Int32 × Int32 × Hp → Prop) (K30 : Int32 × Int32 × Int32 × Hp → Prop) (h : Hp) (Q : Int32 → Hp → Prop) (hK11 : ∀ s : Int32 × Int32 × Hp, K11 s → G X M_X9_seasonOf E_X9_seasonOf (QM X E_X9_seasonOf (QI Q) Qn) 0 11 [(0, .ref (92)), (1, .int (p1)), (2, .int (p2)), (4, .int (s.1)), (5, .int (s.2.1))] [] (s.2.2)) (hK30 : ∀ s : Int32 × Int32 × Int32 × Hp, K30 s → G X M_X9_seasonOf E_X9_seasonOf (QM X E_X9_seasonOf (QI Q) Qn) 0 30 [(0, .ref (92)), (1, .int (p1)), (2, .int (p2)), (4, .int (s.1)), (5, .int (v5)), (6, .int (v6)), (7, .int (s.2.1)), (8, .int (s.2.2.1))] [] (s.2.2.2)) (hw : w_X9_seasonOf_b114 p1 p2 p3 v4 v5 v6 v8 v9 K11 K30 h Q) : G X M_X9_seasonOf E_X9_seasonOf (QM X E_X9_seasonOf (QI Q) Qn) 0 114 [(0, .ref (92)), (1, .int (p1)), (2, .int (p2)), (4, .int (v4)), (5, .int (v5)), (6, .int (v6)), (8, .int (v8)), (9, .int (v9))] [] h := by
  unfold w_X9_seasonOf_b114 at hw
  refine g_iload 7 (dk D_X9_seasonOf 64 rfl) rfl ?_
  refine g_iconst (dk D_X9_seasonOf 65 rfl) ki_m1 ?_
  have hj : G X M_X9_seasonOf E_X9_seasonOf (QM X E_X9_seasonOf (QI Q) Qn) 0 127 [(0, .ref (92)), (1, .int (p1)), (2, .int (p2)), (4, .int (v4)), (5, .int (v5)), (6, .int (v6)), (8, .int (v8)), (9, .int (v9))] [.int ((if ¬ v9 = (-1 : Int32) then v9 else (8 : Int32)))] (h) := by
    refine g_topi (fun v7_2 ev7_2 => ?_)
    replace hw := hw _ ev7_2
    refine g_istore (dk D_X9_seasonOf 70 rfl) (by decide) rfl ?_
    refine g_iinc 7 (dk D_X9_seasonOf 71 rfl) rfl (congrArg (fun z => _ + z) ki_1) (by decide) rfl ?_
    refine g_goto (dk D_X9_seasonOf 72 rfl) rfl ?_
    refine g_sub [2, 3, 4, 5, 6, 7, 1, 0] rfl ?_
    exact hK30 (v4, v7_2, (v8 + (1 : Int32)), h) hw
  refine g_icmp_ne (dk D_X9_seasonOf 66 rfl) rfl ?_
  by_cases c1 : ¬ v9 = (-1 : Int32)
  · rw [if_pos c1] at hj
    refine wif_p c1 ?_
    refine g_iload 7 (dk D_X9_seasonOf 69 rfl) rfl ?_
    exact hj
  · rw [if_neg c1] at hj
    refine wif_n c1 ?_
    refine g_bipush (dk D_X9_seasonOf 67 rfl) kb_8 ?_
    refine g_goto (dk D_X9_seasonOf 68 rfl) rfl ?_
    exact hj
theorem t_X9_seasonOf_b108 {X : Cx} (p1 : Int32) (p2 : Int32) (p3 : Int32) (v5 : Int32) (v6 : Int32) (v8 : Int32) (v9 : Int32) (s0 : Int32) (s1 : Int32) (s2 : Int32) (s3 : Int32) (s4 : Int32) (s6 : Int32) (K11 : Int32 × Int32 × Hp → Prop) (K30 : Int32 × Int32 × Int32 × Hp → Prop) (h : Hp) (Q : Int32 → Hp → Prop) (hK11 : ∀ s : Int32 × Int32 × Hp, K11 s → G X M_X9_seasonOf E_X9_seasonOf (QM X E_X9_seasonOf (QI Q) Qn) 0 11 [(0, .ref (92)), (1, .int (p1)), (2, .int (p2)), (4, .int (s.1)), (5, .int (s.2.1))] [] (s.2.2)) (hK30 : ∀ s : Int32 × Int32 × Int32 × Hp, K30 s → G X M_X9_seasonOf E_X9_seasonOf (QM X E_X9_seasonOf (QI Q) Qn) 0 30 [(0, .ref (92)), (1, .int (p1)), (2, .int (p2)), (4, .int (s.1)), (5, .int (v5)), (6, .int (v6)), (7, .int (s.2.1)), (8, .int (s.2.2.1))] [] (s.2.2.2)) (hw : w_X9_seasonOf_b108 p1 p2 p3 v5 v6 v8 v9 s0 s1 s2 s3 s4 s6 K11 K30 h Q) : G X M_X9_seasonOf E_X9_seasonOf (QM X E_X9_seasonOf (QI Q) Qn) 0 108 [(0, .ref (92)), (1, .int (p1)), (2, .int (p2)), (5, .int (v5)), (6, .int (v6)), (8, .int (v8)), (9, .int (v9))] [.int (s0), .int (s1), .int (s2), .int (s3), .int (s4), .ref (92), .int (s6)] h := by
  unfold w_X9_seasonOf_b108 at hw
  refine g_callV (As := [.int (s4), .int (s3), .int (s2), .int (s1), .int (s0)]) (kc := 0) (fr := 4) (lo := 136) (mc := 0) (My := M_X9_coinsOf) (dk D_X9_seasonOf 61 rfl) kd_92 rfl rfl w_1717 w_1719 w_73 w_110 w_1720 okD_X9_coinsOf (by decide) (Nat.le_of_ble_eq_true rfl) rfl (c_X9_coinsOf (s4) (s3) (s2) (s1) (s0) (h) _ hw) kxN (kI (fun z1 h2 hw => ?_))
  refine g_iadd (dk D_X9_seasonOf 62 rfl) ?_
  refine g_topi (fun v4_3 ev4_3 => ?_)
  replace hw := hw _ ev4_3
  refine g_istore (dk D_X9_seasonOf 63 rfl) (by decide) rfl ?_
  refine g_sub [1, 2, 3, 0, 4, 5, 6, 7] rfl ?_
  exact t_X9_seasonOf_b114 p1 p2 p3 (v4_3) (v5) (v6) (v8) (v9) K11 K30 (h2) Q hK11 hK30 hw
theorem t_X9_seasonOf_b103 {X : Cx} (p1 : Int32) (p2 : Int32) (p3 : Int32) (v5 : Int32) (v6 : Int32) (v8 : Int32) (v9 : Int32) (s0 : Int32) (s1 : Int32) (s2 : Int32) (s3 : Int32) (s5 : Int32) (K11 : Int32 × Int32 × Hp → Prop) (K30 : Int32 × Int32 × Int32 × Hp → Prop) (h : Hp) (Q : Int32 → Hp → Prop) (hK11 : ∀ s : Int32 × Int32 × Hp, K11 s → G X M_X9_seasonOf E_X9_seasonOf (QM X E_X9_seasonOf (QI Q) Qn) 0 11 [(0, .ref (92)), (1, .int (p1)), (2, .int (p2)), (4, .int (s.1)), (5, .int (s.2.1))] [] (s.2.2)) (hK30 : ∀ s : Int32 × Int32 × Int32 × Hp, K30 s → G X M_X9_seasonOf E_X9_seasonOf (QM X E_X9_seasonOf (QI Q) Qn) 0 30 [(0, .ref (92)), (1, .int (p1)), (2, .int (p2)), (4, .int (s.1)), (5, .int (v5)), (6, .int (v6)), (7, .int (s.2.1)), (8, .int (s.2.2.1))] [] (s.2.2.2)) (hw : w_X9_seasonOf_b103 p1 p2 p3 v5 v6 v8 v9 s0 s1 s2 s3 s5 K11 K30 h Q) : G X M_X9_seasonOf E_X9_seasonOf (QM X E_X9_seasonOf (QI Q) Qn) 0 103 [(0, .ref (92)), (1, .int (p1)), (2, .int (p2)), (5, .int (v5)), (6, .int (v6)), (8, .int (v8)), (9, .int (v9))] [.int (s0), .int (s1), .int (s2), .int (s3), .ref (92), .int (s5)] h := by
  unfold w_X9_seasonOf_b103 at hw
  refine g_iconst (dk D_X9_seasonOf 58 rfl) ki_1 ?_
  refine g_goto (dk D_X9_seasonOf 59 rfl) rfl ?_
  exact t_X9_seasonOf_b108 p1 p2 p3 (v5) (v6) (v8) (v9) ((1 : Int32)) (s0) (s1) (s2) (s3) (s5) K11 K30 (h) Q hK11 hK30 hw
theorem t_X9_seasonOf_l30 {X : Cx} (p1 : Int32) (p2 : Int32) (p3 : Int32) (v5 : Int32) (v6 : Int32) (K11 : Int32 × Int32 × Hp → Prop) (Q : Int32 → Hp → Prop) (K30 : Int32 × Int32 × Int32 × Hp → Prop) (v4 : Int32) (v7 : Int32) (v8 : Int32) (h : Hp) (hK11 : ∀ s : Int32 × Int32 × Hp, K11 s → G X M_X9_seasonOf E_X9_seasonOf (QM X E_X9_seasonOf (QI Q) Qn) 0 11 [(0, .ref (92)), (1, .int (p1)), (2, .int (p2)), (4, .int (s.1)), (5, .int (s.2.1))] [] (s.2.2)) (hK30 : ∀ s : Int32 × Int32 × Int32 × Hp, K30 s → G X M_X9_seasonOf E_X9_seasonOf (QM X E_X9_seasonOf (QI Q) Qn) 0 30 [(0, .ref (92)), (1, .int (p1)), (2, .int (p2)), (4, .int (s.1)), (5, .int (v5)), (6, .int (v6)), (7, .int (s.2.1)), (8, .int (s.2.2.1))] [] (s.2.2.2)) (hw : w_X9_seasonOf_l30 p1 p2 p3 v5 v6 K11 Q K30 v4 v7 v8 h) : G X M_X9_seasonOf E_X9_seasonOf (QM X E_X9_seasonOf (QI Q) Qn) 0 30 [(0, .ref (92)), (1, .int (p1)), (2, .int (p2)), (4, .int (v4)), (5, .int (v5)), (6, .int (v6)), (7, .int (v7)), (8, .int (v8))] [] h := by
  unfold w_X9_seasonOf_l30 at hw
  refine g_iload 7 (dk D_X9_seasonOf 17 rfl) rfl ?_
  refine g_aload_n 0 (dk D_X9_seasonOf 18 rfl) rfl rfl ?_
  refine g_getI 42 (dk D_X9_seasonOf 19 rfl) kd_92 rfl rfl (by decide) w_1399 rfl rfl ?_
  refine g_icmp_ge (dk D_X9_seasonOf 20 rfl) rfl (wif_m hw (fun hw => ?_) (fun hw => ?_))
  · refine g_iinc 4 (dk D_X9_seasonOf 73 rfl) rfl (congrArg (fun z => _ + z) ki_1) (by decide) rfl ?_
    refine g_goto (dk D_X9_seasonOf 74 rfl) rfl ?_
    refine g_sub [1, 2, 3, 4, 0] rfl ?_
    exact hK11 (v4, (v5 + (1 : Int32)), h) hw
  · refine g_aload_n 0 (dk D_X9_seasonOf 21 rfl) rfl rfl ?_
    refine g_getR 50 (t := 1426) (dk D_X9_seasonOf 22 rfl) kd_92 rfl rfl (by decide) w_1407 rfl rfl rfl ?_
    refine g_iload 4 (dk D_X9_seasonOf 23 rfl) rfl ?_
    obtain ⟨hi1, hw⟩ := hw
    refine g_aald (dk D_X9_seasonOf 24 rfl) kd_1426 rfl rfl hi1 ?_
    refine g_iload 7 (dk D_X9_seasonOf 25 rfl) rfl ?_
    obtain ⟨hi2, hw⟩ := hw
    refine g_iald (dk D_X9_seasonOf 26 rfl) (kdf_1426 _ (in_lt hi1)) hi2 ?_
    refine g_topi (fun v9_3 ev9_3 => ?_)
    replace hw := hw _ ev9_3
    refine g_istore (dk D_X9_seasonOf 27 rfl) (by decide) rfl ?_
    refine g_aload_n 1 (dk D_X9_seasonOf 28 rfl) rfl rfl ?_
    refine g_iload 8 (dk D_X9_seasonOf 29 rfl) rfl ?_
    refine g_callV (As := [.int (v8)]) (kc := 0) (fr := 0) (lo := 0) (mc := 0) (My := M_X9_minuteOf) (dk D_X9_seasonOf 30 rfl) kd_92 rfl rfl w_1781 w_1783 w_84 w_110 w_1784 okD_X9_minuteOf (by decide) (Nat.le_of_ble_eq_true rfl) rfl (c_X9_minuteOf (v8) (h) _ hw) kxN (kIp (fun z4 hw => ?_))
    refine g_istore (dk D_X9_seasonOf 31 rfl) (by decide) rfl ?_
    refine g_iload 1 (dk D_X9_seasonOf 32 rfl) rfl ?_
    refine g_iconst (dk D_X9_seasonOf 33 rfl) ki_m1 ?_
    refine g_icmp_eq (dk D_X9_seasonOf 34 rfl) rfl (wif_m hw (fun hw => ?_) (fun hw => ?_))
    · refine g_sub [2, 3, 4, 5, 6, 7, 9, 1] rfl ?_
      exact t_X9_seasonOf_b114 p1 p2 p3 (v4) (v5) (v6) (v8) (v9_3) K11 K30 (h) Q hK11 hK30 hw
    · refine g_iload 5 (dk D_X9_seasonOf 35 rfl) rfl ?_
      refine g_aload_n 2 (dk D_X9_seasonOf 36 rfl) rfl rfl ?_
      refine g_iconst (dk D_X9_seasonOf 37 rfl) ki_0 ?_
      refine g_iload 1 (dk D_X9_seasonOf 38 rfl) rfl ?_
      refine g_iload_n 3 (dk D_X9_seasonOf 39 rfl) rfl rfl ?_
      refine g_iload 6 (dk D_X9_seasonOf 40 rfl) rfl ?_
      refine g_iadd (dk D_X9_seasonOf 41 rfl) ?_
      refine g_iload 0 (dk D_X9_seasonOf 42 rfl) rfl ?_
      refine g_aload_n 2 (dk D_X9_seasonOf 43 rfl) rfl rfl ?_
      refine g_iload 1 (dk D_X9_seasonOf 44 rfl) rfl ?_
      refine g_iload 8 (dk D_X9_seasonOf 45 rfl) rfl ?_
      refine g_callV (As := [.int (v9_3), .int (v7)]) (kc := 0) (fr := 1) (lo := 29) (mc := 0) (My := M_X9_isDark) (dk D_X9_seasonOf 46 rfl) kd_92 rfl rfl w_1805 w_1807 w_89 w_110 w_1808 okD_X9_isDark (by decide) (Nat.le_of_ble_eq_true rfl) rfl (c_X9_isDark (v9_3) (v7) (h) _ hw) kxN (kIp (fun z6 hw => ?_))
      refine g_iconst (dk D_X9_seasonOf 47 rfl) ki_1 ?_
      refine g_icmp_eq (dk D_X9_seasonOf 48 rfl) rfl (wif_m hw (fun hw => ?_) (fun hw => ?_))
      · refine g_sub [2, 3, 4, 6, 7, 9, 1] rfl ?_
        exact t_X9_seasonOf_b103 p1 p2 p3 (v5) (v6) (v8) (v9_3) (z4) ((p1 + v5)) (v9_3) ((0 : Int32)) (v4) K11 K30 (h) Q hK11 hK30 hw
      · refine g_iload 7 (dk D_X9_seasonOf 49 rfl) rfl ?_
        refine g_iload 0 (dk D_X9_seasonOf 50 rfl) rfl ?_
        refine g_bipush (dk D_X9_seasonOf 51 rfl) kb_60 ?_
        refine g_idiv (dk D_X9_seasonOf 52 rfl) (by decide) ?_
        refine g_ishr (dk D_X9_seasonOf 53 rfl) ?_
        refine g_iconst (dk D_X9_seasonOf 54 rfl) ki_1 ?_
        refine g_iand (dk D_X9_seasonOf 55 rfl) ?_
        refine g_iconst (dk D_X9_seasonOf 56 rfl) ki_1 ?_
        have hj : G X M_X9_seasonOf E_X9_seasonOf (QM X E_X9_seasonOf (QI Q) Qn) 0 108 [(10, .int (z4)), (9, .int (v9_3)), (0, .ref (92)), (1, .int (p1)), (2, .int (p2)), (4, .int (v4)), (5, .int (v5)), (6, .int (v6)), (7, .int (v7)), (8, .int (v8))] [.int ((if ¬ ((v6 >>> ((z4 / (60 : Int32)) &&& 31)) &&& (1 : Int32)) = (1 : Int32) then (0 : Int32) else (1 : Int32))), .int (z4), .int ((p1 + v5)), .int (v9_3), .int ((0 : Int32)), .ref (92), .int (v4)] (h) := by
          refine g_callV (As := [.int ((0 : Int32)), .int (v9_3), .int ((p1 + v5)), .int (z4), .int ((if ¬ ((v6 >>> ((z4 / (60 : Int32)) &&& 31)) &&& (1 : Int32)) = (1 : Int32) then (0 : Int32) else (1 : Int32)))]) (kc := 0) (fr := 4) (lo := 136) (mc := 0) (My := M_X9_coinsOf) (dk D_X9_seasonOf 61 rfl) kd_92 rfl rfl w_1717 w_1719 w_73 w_110 w_1720 okD_X9_coinsOf (by decide) (Nat.le_of_ble_eq_true rfl) rfl (c_X9_coinsOf ((0 : Int32)) (v9_3) ((p1 + v5)) (z4) ((if ¬ ((v6 >>> ((z4 / (60 : Int32)) &&& 31)) &&& (1 : Int32)) = (1 : Int32) then (0 : Int32) else (1 : Int32))) (h) _ hw) kxN (kI (fun z8 h9 hw => ?_))
          refine g_iadd (dk D_X9_seasonOf 62 rfl) ?_
          refine g_topi (fun v4_10 ev4_10 => ?_)
          replace hw := hw _ ev4_10
          refine g_istore (dk D_X9_seasonOf 63 rfl) (by decide) rfl ?_
          refine g_sub [3, 4, 5, 0, 6, 7, 9, 2] rfl ?_
          exact t_X9_seasonOf_b114 p1 p2 p3 (v4_10) (v5) (v6) (v8) (v9_3) K11 K30 (h9) Q hK11 hK30 hw
        refine g_icmp_ne (dk D_X9_seasonOf 57 rfl) rfl ?_
        by_cases c7 : ¬ ((v6 >>> ((z4 / (60 : Int32)) &&& 31)) &&& (1 : Int32)) = (1 : Int32)
        · rw [if_pos c7] at hj
          refine wif_p c7 ?_
          refine g_iconst (dk D_X9_seasonOf 60 rfl) ki_0 ?_
          exact hj
        · rw [if_neg c7] at hj
          refine wif_n c7 ?_
          refine g_iconst (dk D_X9_seasonOf 58 rfl) ki_1 ?_
          refine g_goto (dk D_X9_seasonOf 59 rfl) rfl ?_
          exact hj
theorem t_X9_seasonOf_b30 {X : Cx} (p1 : Int32) (p2 : Int32) (p3 : Int32) (v5 : Int32) (v6 : Int32) (K11 : Int32 × Int32 × Hp → Prop) (Q : Int32 → Hp → Prop) (s : Int32 × Int32 × Int32 × Hp) (hK11 : ∀ s : Int32 × Int32 × Hp, K11 s → G X M_X9_seasonOf E_X9_seasonOf (QM X E_X9_seasonOf (QI Q) Qn) 0 11 [(0, .ref (92)), (1, .int (p1)), (2, .int (p2)), (4, .int (s.1)), (5, .int (s.2.1))] [] (s.2.2)) (hw : w_X9_seasonOf_b30 p1 p2 p3 v5 v6 K11 Q s) : G X M_X9_seasonOf E_X9_seasonOf (QM X E_X9_seasonOf (QI Q) Qn) 0 30 [(0, .ref (92)), (1, .int (p1)), (2, .int (p2)), (4, .int (s.1)), (5, .int (v5)), (6, .int (v6)), (7, .int (s.2.1)), (8, .int (s.2.2.1))] [] (s.2.2.2) :=
  wl_ind (B := fun K s => w_X9_seasonOf_l30 p1 p2 p3 v5 v6 K11 Q K (s.1) (s.2.1) (s.2.2.1) (s.2.2.2)) (P := fun s => G X M_X9_seasonOf E_X9_seasonOf (QM X E_X9_seasonOf (QI Q) Qn) 0 30 [(0, .ref (92)), (1, .int (p1)), (2, .int (p2)), (4, .int (s.1)), (5, .int (v5)), (6, .int (v6)), (7, .int (s.2.1)), (8, .int (s.2.2.1))] [] (s.2.2.2)) (fun K hK s hw => t_X9_seasonOf_l30 p1 p2 p3 v5 v6 K11 Q K (s.1) (s.2.1) (s.2.2.1) (s.2.2.2) hK11 hK hw) s hw
theorem t_X9_seasonOf_l11 {X : Cx} (p1 : Int32) (p2 : Int32) (p3 : Int32) (Q : Int32 → Hp → Prop) (K11 : Int32 × Int32 × Hp → Prop) (v4 : Int32) (v5 : Int32) (h : Hp) (hK11 : ∀ s : Int32 × Int32 × Hp, K11 s → G X M_X9_seasonOf E_X9_seasonOf (QM X E_X9_seasonOf (QI Q) Qn) 0 11 [(0, .ref (92)), (1, .int (p1)), (2, .int (p2)), (4, .int (s.1)), (5, .int (s.2.1))] [] (s.2.2)) (hw : w_X9_seasonOf_l11 p1 p2 p3 Q K11 v4 v5 h) : G X M_X9_seasonOf E_X9_seasonOf (QM X E_X9_seasonOf (QI Q) Qn) 0 11 [(0, .ref (92)), (1, .int (p1)), (2, .int (p2)), (4, .int (v4)), (5, .int (v5))] [] h := by
  unfold w_X9_seasonOf_l11 at hw
  refine g_iload 4 (dk D_X9_seasonOf 7 rfl) rfl ?_
  refine g_iload_n 2 (dk D_X9_seasonOf 8 rfl) rfl rfl ?_
  refine g_icmp_ge (dk D_X9_seasonOf 9 rfl) rfl (wif_m hw (fun hw => ?_) (fun hw => ?_))
  · refine g_iload 3 (dk D_X9_seasonOf 75 rfl) rfl ?_
    exact g_iret (dk D_X9_seasonOf 76 rfl) rfl ⟨_, rfl, hw⟩
  · refine g_aload_n 0 (dk D_X9_seasonOf 10 rfl) rfl rfl ?_
    refine g_callV (As := []) (kc := 0) (fr := 0) (lo := 0) (mc := 0) (My := M_X9_skyNow) (dk D_X9_seasonOf 11 rfl) kd_92 rfl rfl w_1882 w_1884 w_94 w_110 w_1885 okD_X9_skyNow (by decide) (Nat.le_of_ble_eq_true rfl) rfl (c_X9_skyNow (h) _ hw) kxN (kI (fun z1 h2 hw => ?_))
    refine g_istore (dk D_X9_seasonOf 12 rfl) (by decide) rfl ?_
    refine g_bipush (dk D_X9_seasonOf 13 rfl) kb_8 ?_
    refine g_istore (dk D_X9_seasonOf 14 rfl) (by decide) rfl ?_
    refine g_iconst (dk D_X9_seasonOf 15 rfl) ki_0 ?_
    refine g_istore (dk D_X9_seasonOf 16 rfl) (by decide) rfl ?_
    refine g_sub [3, 4, 5, 6, 7, 2, 1, 0] rfl ?_
    exact t_X9_seasonOf_b30 p1 p2 p3 (v5) (z1) K11 Q (v4, (8 : Int32), (0 : Int32), h2) hK11 hw
theorem t_X9_seasonOf_b11 {X : Cx} (p1 : Int32) (p2 : Int32) (p3 : Int32) (Q : Int32 → Hp → Prop) (s : Int32 × Int32 × Hp) (hw : w_X9_seasonOf_b11 p1 p2 p3 Q s) : G X M_X9_seasonOf E_X9_seasonOf (QM X E_X9_seasonOf (QI Q) Qn) 0 11 [(0, .ref (92)), (1, .int (p1)), (2, .int (p2)), (4, .int (s.1)), (5, .int (s.2.1))] [] (s.2.2) :=
  wl_ind (B := fun K s => w_X9_seasonOf_l11 p1 p2 p3 Q K (s.1) (s.2.1) (s.2.2)) (P := fun s => G X M_X9_seasonOf E_X9_seasonOf (QM X E_X9_seasonOf (QI Q) Qn) 0 11 [(0, .ref (92)), (1, .int (p1)), (2, .int (p2)), (4, .int (s.1)), (5, .int (s.2.1))] [] (s.2.2)) (fun K hK s hw => t_X9_seasonOf_l11 p1 p2 p3 Q K (s.1) (s.2.1) (s.2.2) hK hw) s hw
theorem t_X9_seasonOf {X : Cx} (p1 : Int32) (p2 : Int32) (p3 : Int32) (h : Hp) (Q : Int32 → Hp → Prop) (hw : w_X9_seasonOf p1 p2 p3 h Q) : G X M_X9_seasonOf E_X9_seasonOf (QM X E_X9_seasonOf (QI Q) Qn) 0 0 [(0, .ref (92)), (1, .int (p1)), (2, .int (p2)), (3, .int (p3))] [] h := by
  unfold w_X9_seasonOf at hw
  refine g_aload_n 0 (dk D_X9_seasonOf 0 rfl) rfl rfl ?_
  refine g_iload_n 3 (dk D_X9_seasonOf 1 rfl) rfl rfl ?_
  refine g_put 51 (dk D_X9_seasonOf 2 rfl) kd_92 rfl rfl (by decide) w_1408 rfl tyX9_ok nmX9 rfl (by decide) rfl (fun z => absurd z (by decide)) ?_
  refine g_heap (fun h1 eh1 => ?_)
  replace hw := hw _ eh1
  refine g_iconst (dk D_X9_seasonOf 3 rfl) ki_0 ?_
  refine g_istore (dk D_X9_seasonOf 4 rfl) (by decide) rfl ?_
  refine g_iconst (dk D_X9_seasonOf 5 rfl) ki_0 ?_
  refine g_istore (dk D_X9_seasonOf 6 rfl) (by decide) rfl ?_
  refine g_sub [2, 3, 4, 1, 0] rfl ?_
  exact t_X9_seasonOf_b11 p1 p2 p3 Q ((0 : Int32), (0 : Int32), h1) hw
theorem c_X9_seasonOf {X : Cx} (p1 : Int32) (p2 : Int32) (p3 : Int32) (h : Hp) (Q : Int32 → Hp → Prop) (hw : w_X9_seasonOf p1 p2 p3 h Q) : Con X yX9_seasonOf M_X9_seasonOf 5 172 0 [.ref (92), .int (p1), .int (p2), .int (p3)] h (QI Q) Qn :=
  con_of (by decide +kernel) rfl (Nat.le_of_ble_eq_true rfl) (t_X9_seasonOf p1 p2 p3 h Q hw)
/-! ShadowTollsModel.areDays(II)Z -/
abbrev M_X9_areDays : Mi := (RX9, cX9_areDays, 3, (some .boolean))
abbrev E_X9_areDays : Rm := (2, 58, 0, 0)
def rows_X9_areDays : List (Nat × Instr × Nat) := [(0, .iload_n 1, 1), (1, .invokestatic 281, 3), (4, .ifCond .eq 19, 3), (7, .iload_n 2, 1), (8, .iconst 1, 1), (9, .bipush 30, 2), (11, .iload_n 1, 1), (12, .isub, 1), (13, .invokestatic 145, 3), (16, .ifCond .eq 7, 3), (19, .iconst 1, 1), (20, .goto 4, 3), (23, .iconst 0, 1), (24, .ireturn, 1)]
theorem D_X9_areDays : dkA cX9_areDays rows_X9_areDays := by
  unfold dkA
  decide +kernel
theorem okD_X9_areDays : okD yX9_areDays 2 := by
  unfold okD
  decide +kernel
def w_X9_areDays (p1 : Int32) (p2 : Int32) (h : Hp) (Q : Int32 → Prop) : Prop :=
  w_X9_isDay (p1) h (fun z1 => wif (z1 = 0) (Q ((0 : Int32) &&& 1)) (w_X9_in (p2) ((1 : Int32)) (((30 : Int32) - p1)) h (fun z2 => Q ((if z2 = 0 then (0 : Int32) else (1 : Int32)) &&& 1))))
theorem t_X9_areDays {X : Cx} (p1 : Int32) (p2 : Int32) (h : Hp) (Q : Int32 → Prop) (hw : w_X9_areDays p1 p2 h Q) : G X M_X9_areDays E_X9_areDays (QM X E_X9_areDays (QIp h Q) Qn) 0 0 [(0, .ref (92)), (1, .int (p1)), (2, .int (p2))] [] h := by
  unfold w_X9_areDays at hw
  refine g_iload_n 1 (dk D_X9_areDays 0 rfl) rfl rfl ?_
  refine g_callS (As := [.int (p1)]) (kc := 0) (fr := 1) (lo := 30) (mc := 0) (My := M_X9_isDay) (dk D_X9_areDays 1 rfl) w_1676 w_1677 w_110 w_1678 okD_X9_isDay (by decide) (Nat.le_of_ble_eq_true rfl) rfl (c_X9_isDay (p1) (h) _ hw) kxN (kIp (fun z1 hw => ?_))
  refine g_if_eq (dk D_X9_areDays 2 rfl) rfl (wif_m hw (fun hw => ?_) (fun hw => ?_))
  · refine g_iconst (dk D_X9_areDays 12 rfl) ki_0 ?_
    exact g_zret (dk D_X9_areDays 13 rfl) rfl ⟨_, rfl, rfl, hw⟩
  · refine g_iload_n 2 (dk D_X9_areDays 3 rfl) rfl rfl ?_
    refine g_iconst (dk D_X9_areDays 4 rfl) ki_1 ?_
    refine g_bipush (dk D_X9_areDays 5 rfl) kb_30 ?_
    refine g_iload_n 1 (dk D_X9_areDays 6 rfl) rfl rfl ?_
    refine g_isub (dk D_X9_areDays 7 rfl) ?_
    refine g_callS (As := [.int (p2), .int ((1 : Int32)), .int (((30 : Int32) - p1))]) (kc := 0) (fr := 0) (lo := 0) (mc := 0) (My := M_X9_in) (dk D_X9_areDays 8 rfl) w_1527 w_1528 w_110 w_1529 okD_X9_in (by decide) (Nat.le_of_ble_eq_true rfl) rfl (c_X9_in (p2) ((1 : Int32)) (((30 : Int32) - p1)) (h) _ hw) kxN (kIp (fun z2 hw => ?_))
    have hj : G X M_X9_areDays E_X9_areDays (QM X E_X9_areDays (QIp h Q) Qn) 0 24 [(0, .ref (92)), (1, .int (p1)), (2, .int (p2))] [.int ((if z2 = 0 then (0 : Int32) else (1 : Int32)))] (h) := by
      exact g_zret (dk D_X9_areDays 13 rfl) rfl ⟨_, rfl, rfl, hw⟩
    refine g_if_eq (dk D_X9_areDays 9 rfl) rfl ?_
    by_cases c3 : z2 = 0
    · rw [if_pos c3] at hj
      refine wif_p c3 ?_
      refine g_iconst (dk D_X9_areDays 12 rfl) ki_0 ?_
      exact hj
    · rw [if_neg c3] at hj
      refine wif_n c3 ?_
      refine g_iconst (dk D_X9_areDays 10 rfl) ki_1 ?_
      refine g_goto (dk D_X9_areDays 11 rfl) rfl ?_
      exact hj
theorem c_X9_areDays {X : Cx} (p1 : Int32) (p2 : Int32) (h : Hp) (Q : Int32 → Prop) (hw : w_X9_areDays p1 p2 h Q) : Con X yX9_areDays M_X9_areDays 2 58 0 [.ref (92), .int (p1), .int (p2)] h (QIp h Q) Qn :=
  con_of (by decide +kernel) rfl (Nat.le_of_ble_eq_true rfl) (t_X9_areDays p1 p2 h Q hw)
/-! ShadowTollsModel.season(III)I -/
abbrev M_X9_season : Mi := (RX9, cX9_season, 4, (some .int))
abbrev E_X9_season : Rm := (8, 275, 0, 0)
def rows_X9_season : List (Nat × Instr × Nat) := [(0, .aload_n 0, 1), (1, .iconst 0, 1), (2, .putfield 111, 3), (5, .aload_n 0, 1), (6, .aload_n 0, 1), (7, .iload_n 1, 1), (8, .iload_n 2, 1), (9, .invokevirtual 406, 3), (12, .ifCond .ne 7, 3), (15, .iconst 1, 1), (16, .goto 4, 3), (19, .iconst 0, 1), (20, .iconst 1, 1), (21, .invokevirtual 202, 3), (24, .ifCond .eq 5, 3), (27, .iconst 0, 1), (28, .ireturn, 1), (29, .aload_n 0, 1), (30, .iload_n 1, 1), (31, .iload_n 2, 1), (32, .invokevirtual 409, 3), (35, .aload_n 0, 1), (36, .iload_n 1, 1), (37, .iload_n 2, 1), (38, .iload_n 3, 1), (39, .invokevirtual 412, 3), (42, .ireturn, 1)]
theorem D_X9_season : dkA cX9_season rows_X9_season := by
  unfold dkA
  decide +kernel
theorem okD_X9_season : okD yX9_season 3 := by
  unfold okD
  decide +kernel
def w_X9_season (p1 : Int32) (p2 : Int32) (p3 : Int32) (h : Hp) (Q : Int32 → Hp → Prop) : Prop :=
  wlet (hup h 92 0 (0 : Int32)) (fun h1 => w_X9_areDays (p1) (p2) h1 (fun z2 => w_X9_bad ((if ¬ z2 = 0 then (0 : Int32) else (1 : Int32))) ((1 : Int32)) h1 (fun z4 h5 => wif (z4 = 0) (w_X9_layPlans (p1) (p2) h5 (fun h6 => w_X9_seasonOf (p1) (p2) (p3) h6 (fun z7 h8 => Q z7 h8))) (Q (0 : Int32) h5))))
theorem t_X9_season {X : Cx} (p1 : Int32) (p2 : Int32) (p3 : Int32) (h : Hp) (Q : Int32 → Hp → Prop) (hw : w_X9_season p1 p2 p3 h Q) : G X M_X9_season E_X9_season (QM X E_X9_season (QI Q) Qn) 0 0 [(0, .ref (92)), (1, .int (p1)), (2, .int (p2)), (3, .int (p3))] [] h := by
  unfold w_X9_season at hw
  refine g_aload_n 0 (dk D_X9_season 0 rfl) rfl rfl ?_
  refine g_iconst (dk D_X9_season 1 rfl) ki_0 ?_
  refine g_put 0 (dk D_X9_season 2 rfl) kd_92 rfl rfl (by decide) w_1357 rfl tyX9_ok nmX9 rfl (by decide) rfl (fun z => absurd z (by decide)) ?_
  refine g_heap (fun h1 eh1 => ?_)
  replace hw := hw _ eh1
  refine g_aload_n 0 (dk D_X9_season 3 rfl) rfl rfl ?_
  refine g_aload_n 0 (dk D_X9_season 4 rfl) rfl rfl ?_
  refine g_iload_n 1 (dk D_X9_season 5 rfl) rfl rfl ?_
  refine g_iload_n 2 (dk D_X9_season 6 rfl) rfl rfl ?_
  refine g_callV (As := [.int (p1), .int (p2)]) (kc := 0) (fr := 2) (lo := 58) (mc := 0) (My := M_X9_areDays) (dk D_X9_season 7 rfl) kd_92 rfl rfl w_1891 w_1893 w_95 w_110 w_1894 okD_X9_areDays (by decide) (Nat.le_of_ble_eq_true rfl) rfl (c_X9_areDays (p1) (p2) (h1) _ hw) kxN (kIp (fun z2 hw => ?_))
  have hj : G X M_X9_season E_X9_season (QM X E_X9_season (QI Q) Qn) 0 20 [(0, .ref (92)), (1, .int (p1)), (2, .int (p2)), (3, .int (p3))] [.int ((if ¬ z2 = 0 then (0 : Int32) else (1 : Int32))), .ref (92)] (h1) := by
    refine g_iconst (dk D_X9_season 12 rfl) ki_1 ?_
    refine g_callV (As := [.int ((if ¬ z2 = 0 then (0 : Int32) else (1 : Int32))), .int ((1 : Int32))]) (kc := 0) (fr := 0) (lo := 0) (mc := 0) (My := M_X9_bad) (dk D_X9_season 13 rfl) kd_92 rfl rfl w_1530 w_1532 w_42 w_110 w_1533 okD_X9_bad (by decide) (Nat.le_of_ble_eq_true rfl) rfl (c_X9_bad ((if ¬ z2 = 0 then (0 : Int32) else (1 : Int32))) ((1 : Int32)) (h1) _ hw) kxN (kI (fun z4 h5 hw => ?_))
    refine g_if_eq (dk D_X9_season 14 rfl) rfl (wif_m hw (fun hw => ?_) (fun hw => ?_))
    · refine g_aload_n 0 (dk D_X9_season 17 rfl) rfl rfl ?_
      refine g_iload_n 1 (dk D_X9_season 18 rfl) rfl rfl ?_
      refine g_iload_n 2 (dk D_X9_season 19 rfl) rfl rfl ?_
      refine g_callV (As := [.int (p1), .int (p2)]) (kc := 0) (fr := 7) (lo := 243) (mc := 0) (My := M_X9_layPlans) (dk D_X9_season 20 rfl) kd_92 rfl rfl w_1895 w_1897 w_96 w_110 w_1898 okD_X9_layPlans (by decide) (Nat.le_of_ble_eq_true rfl) rfl (c_X9_layPlans (p1) (p2) (h5) _ hw) kxN (kV (fun h6 hw => ?_))
      refine g_aload_n 0 (dk D_X9_season 21 rfl) rfl rfl ?_
      refine g_iload_n 1 (dk D_X9_season 22 rfl) rfl rfl ?_
      refine g_iload_n 2 (dk D_X9_season 23 rfl) rfl rfl ?_
      refine g_iload_n 3 (dk D_X9_season 24 rfl) rfl rfl ?_
      refine g_callV (As := [.int (p1), .int (p2), .int (p3)]) (kc := 0) (fr := 5) (lo := 172) (mc := 0) (My := M_X9_seasonOf) (dk D_X9_season 25 rfl) kd_92 rfl rfl w_1899 w_1901 w_97 w_110 w_1902 okD_X9_seasonOf (by decide) (Nat.le_of_ble_eq_true rfl) rfl (c_X9_seasonOf (p1) (p2) (p3) (h6) _ hw) kxN (kI (fun z7 h8 hw => ?_))
      exact g_iret (dk D_X9_season 26 rfl) rfl ⟨_, rfl, hw⟩
    · refine g_iconst (dk D_X9_season 15 rfl) ki_0 ?_
      exact g_iret (dk D_X9_season 16 rfl) rfl ⟨_, rfl, hw⟩
  refine g_if_ne (dk D_X9_season 8 rfl) rfl ?_
  by_cases c3 : ¬ z2 = 0
  · rw [if_pos c3] at hj
    refine wif_p c3 ?_
    refine g_iconst (dk D_X9_season 11 rfl) ki_0 ?_
    exact hj
  · rw [if_neg c3] at hj
    refine wif_n c3 ?_
    refine g_iconst (dk D_X9_season 9 rfl) ki_1 ?_
    refine g_goto (dk D_X9_season 10 rfl) rfl ?_
    exact hj
theorem c_X9_season {X : Cx} (p1 : Int32) (p2 : Int32) (p3 : Int32) (h : Hp) (Q : Int32 → Hp → Prop) (hw : w_X9_season p1 p2 p3 h Q) : Con X yX9_season M_X9_season 8 275 0 [.ref (92), .int (p1), .int (p2), .int (p3)] h (QI Q) Qn :=
  con_of (by decide +kernel) rfl (Nat.le_of_ble_eq_true rfl) (t_X9_season p1 p2 p3 h Q hw)
/-! ShadowTollsModel.span(IIIII)I -/
abbrev M_X9_span : Mi := (RX9, cX9_span, 9, (some .int))
abbrev E_X9_span : Rm := (8, 275, 0, 0)
def rows_X9_span : List (Nat × Instr × Nat) := [(0, .aload_n 0, 1), (1, .iconst 0, 1), (2, .putfield 111, 3), (5, .aload_n 0, 1), (6, .aload_n 0, 1), (7, .iload_n 1, 1), (8, .iload_n 2, 1), (9, .invokevirtual 406, 3), (12, .ifCond .eq 24, 3), (15, .iload 4, 2), (17, .iconst 1, 1), (18, .bipush 50, 2), (20, .invokestatic 145, 3), (23, .ifCond .eq 13, 3), (26, .iload 5, 2), (28, .iconst 0, 1), (29, .iconst 1, 1), (30, .invokestatic 145, 3), (33, .ifCond .ne 7, 3), (36, .iconst 1, 1), (37, .goto 4, 3), (40, .iconst 0, 1), (41, .iconst 1, 1), (42, .invokevirtual 202, 3), (45, .ifCond .eq 5, 3), (48, .iconst 0, 1), (49, .ireturn, 1), (50, .aload_n 0, 1), (51, .iload_n 1, 1), (52, .iload_n 2, 1), (53, .invokevirtual 409, 3), (56, .aload_n 0, 1), (57, .iload_n 1, 1), (58, .iload_n 2, 1), (59, .iload_n 3, 1), (60, .invokevirtual 412, 3), (63, .istore 6, 2), (65, .iconst 1, 1), (66, .istore 7, 2), (68, .iload 7, 2), (70, .iload 4, 2), (72, .if_icmp .ge 52, 3), (75, .aload_n 0, 1), (76, .iload_n 1, 1), (77, .iload_n 2, 1), (78, .iload_n 3, 1), (79, .iload 7, 2), (81, .iadd, 1), (82, .invokevirtual 412, 3), (85, .istore 8, 2), (87, .iload 5, 2), (89, .ifCond .ne 13, 3), (92, .iload 8, 2), (94, .iload 6, 2), (96, .if_icmp .ge 18, 3), (99, .goto 10, 3), (102, .iload 8, 2), (104, .iload 6, 2), (106, .if_icmp .le 8, 3), (109, .iload 8, 2), (111, .goto 5, 3), (114, .iload 6, 2), (116, .istore 6, 2), (118, .iinc 7 1, 3), (121, .goto (-53), 3), (124, .iload 6, 2), (126, .ireturn, 1)]
theorem D_X9_span : dkA cX9_span rows_X9_span := by
  unfold dkA
  decide +kernel
theorem okD_X9_span : okD yX9_span 5 := by
  unfold okD
  decide +kernel
def w_X9_span_l68 (p1 : Int32) (p2 : Int32) (p3 : Int32) (p4 : Int32) (p5 : Int32) (Q : Int32 → Hp → Prop) (K68 : Int32 × Int32 × Hp → Prop) (v6 : Int32) (v7 : Int32) (h : Hp) : Prop :=
  wif (p4 ≤ v7) (Q v6 h) (w_X9_seasonOf (p1) (p2) ((p3 + v7)) h (fun z1 h2 => wlet ((if ¬ p5 = 0 then (if z1 ≤ v6 then v6 else z1) else (if v6 ≤ z1 then v6 else z1))) (fun v6_6 => K68 (v6_6, (v7 + (1 : Int32)), h2))))
def w_X9_span_b68 (p1 : Int32) (p2 : Int32) (p3 : Int32) (p4 : Int32) (p5 : Int32) (Q : Int32 → Hp → Prop) (s : Int32 × Int32 × Hp) : Prop := wl (fun K s => w_X9_span_l68 p1 p2 p3 p4 p5 Q K s.1 s.2.1 s.2.2) s
def w_X9_span_b41 (p1 : Int32) (p2 : Int32) (p3 : Int32) (p4 : Int32) (p5 : Int32) (s0 : Int32) (h : Hp) (Q : Int32 → Hp → Prop) : Prop :=
  w_X9_bad (s0) ((1 : Int32)) h (fun z1 h2 => wif (z1 = 0) (w_X9_layPlans (p1) (p2) h2 (fun h3 => w_X9_seasonOf (p1) (p2) (p3) h3 (fun z4 h5 => w_X9_span_b68 p1 p2 p3 p4 p5 Q (z4, (1 : Int32), h5)))) (Q (0 : Int32) h2))
def w_X9_span_b36 (p1 : Int32) (p2 : Int32) (p3 : Int32) (p4 : Int32) (p5 : Int32) (h : Hp) (Q : Int32 → Hp → Prop) : Prop :=
  w_X9_span_b41 p1 p2 p3 p4 p5 ((1 : Int32)) (h) Q
def w_X9_span (p1 : Int32) (p2 : Int32) (p3 : Int32) (p4 : Int32) (p5 : Int32) (h : Hp) (Q : Int32 → Hp → Prop) : Prop :=
  wlet (hup h 92 0 (0 : Int32)) (fun h1 => w_X9_areDays (p1) (p2) h1 (fun z2 => wif (z2 = 0) (w_X9_span_b36 p1 p2 p3 p4 p5 (h1) Q) (w_X9_in (p4) ((1 : Int32)) ((50 : Int32)) h1 (fun z3 => wif (z3 = 0) (w_X9_span_b36 p1 p2 p3 p4 p5 (h1) Q) (w_X9_in (p5) ((0 : Int32)) ((1 : Int32)) h1 (fun z4 => w_X9_bad ((if ¬ z4 = 0 then (0 : Int32) else (1 : Int32))) ((1 : Int32)) h1 (fun z6 h7 => wif (z6 = 0) (w_X9_layPlans (p1) (p2) h7 (fun h8 => w_X9_seasonOf (p1) (p2) (p3) h8 (fun z9 h10 => w_X9_span_b68 p1 p2 p3 p4 p5 Q (z9, (1 : Int32), h10)))) (Q (0 : Int32) h7))))))))
theorem t_X9_span_l68 {X : Cx} (p1 : Int32) (p2 : Int32) (p3 : Int32) (p4 : Int32) (p5 : Int32) (Q : Int32 → Hp → Prop) (K68 : Int32 × Int32 × Hp → Prop) (v6 : Int32) (v7 : Int32) (h : Hp) (hK68 : ∀ s : Int32 × Int32 × Hp, K68 s → G X M_X9_span E_X9_span (QM X E_X9_span (QI Q) Qn) 0 68 [(0, .ref (92)), (1, .int (p1)), (2, .int (p2)), (3, .int (p3)), (4, .int (p4)), (5, .int (p5)), (6, .int (s.1)), (7, .int (s.2.1))] [] (s.2.2)) (hw : w_X9_span_l68 p1 p2 p3 p4 p5 Q K68 v6 v7 h) : G X M_X9_span E_X9_span (QM X E_X9_span (QI Q) Qn) 0 68 [(0, .ref (92)), (1, .int (p1)), (2, .int (p2)), (3, .int (p3)), (4, .int (p4)), (5, .int (p5)), (6, .int (v6)), (7, .int (v7))] [] h := by
  unfold w_X9_span_l68 at hw
  refine g_iload 7 (dk D_X9_span 39 rfl) rfl ?_
  refine g_iload 4 (dk D_X9_span 40 rfl) rfl ?_
  refine g_icmp_ge (dk D_X9_span 41 rfl) rfl (wif_m hw (fun hw => ?_) (fun hw => ?_))
  · refine g_iload 6 (dk D_X9_span 65 rfl) rfl ?_
    exact g_iret (dk D_X9_span 66 rfl) rfl ⟨_, rfl, hw⟩
  · refine g_aload_n 0 (dk D_X9_span 42 rfl) rfl rfl ?_
    refine g_iload_n 1 (dk D_X9_span 43 rfl) rfl rfl ?_
    refine g_iload_n 2 (dk D_X9_span 44 rfl) rfl rfl ?_
    refine g_iload_n 3 (dk D_X9_span 45 rfl) rfl rfl ?_
    refine g_iload 7 (dk D_X9_span 46 rfl) rfl ?_
    refine g_iadd (dk D_X9_span 47 rfl) ?_
    refine g_callV (As := [.int (p1), .int (p2), .int ((p3 + v7))]) (kc := 0) (fr := 5) (lo := 172) (mc := 0) (My := M_X9_seasonOf) (dk D_X9_span 48 rfl) kd_92 rfl rfl w_1899 w_1901 w_97 w_110 w_1902 okD_X9_seasonOf (by decide) (Nat.le_of_ble_eq_true rfl) rfl (c_X9_seasonOf (p1) (p2) ((p3 + v7)) (h) _ hw) kxN (kI (fun z1 h2 hw => ?_))
    refine g_istore (dk D_X9_span 49 rfl) (by decide) rfl ?_
    refine g_iload 6 (dk D_X9_span 50 rfl) rfl ?_
    have hj : G X M_X9_span E_X9_span (QM X E_X9_span (QI Q) Qn) 0 116 [(8, .int (z1)), (0, .ref (92)), (1, .int (p1)), (2, .int (p2)), (3, .int (p3)), (4, .int (p4)), (5, .int (p5)), (6, .int (v6)), (7, .int (v7))] [.int ((if ¬ p5 = 0 then (if z1 ≤ v6 then v6 else z1) else (if v6 ≤ z1 then v6 else z1)))] (h2) := by
      refine g_topi (fun v6_6 ev6_6 => ?_)
      replace hw := hw _ ev6_6
      refine g_istore (dk D_X9_span 62 rfl) (by decide) rfl ?_
      refine g_iinc 8 (dk D_X9_span 63 rfl) rfl (congrArg (fun z => _ + z) ki_1) (by decide) rfl ?_
      refine g_goto (dk D_X9_span 64 rfl) rfl ?_
      refine g_sub [3, 4, 5, 6, 7, 8, 1, 0] rfl ?_
      exact hK68 (v6_6, (v7 + (1 : Int32)), h2) hw
    refine g_if_ne (dk D_X9_span 51 rfl) rfl ?_
    by_cases c5 : ¬ p5 = 0
    · rw [if_pos c5] at hj
      refine wif_p c5 ?_
      refine g_iload 0 (dk D_X9_span 56 rfl) rfl ?_
      refine g_iload 7 (dk D_X9_span 57 rfl) rfl ?_
      refine g_icmp_le (dk D_X9_span 58 rfl) rfl ?_
      by_cases c3 : z1 ≤ v6
      · rw [if_pos c3] at hj
        refine wif_p c3 ?_
        refine g_iload 7 (dk D_X9_span 61 rfl) rfl ?_
        exact hj
      · rw [if_neg c3] at hj
        refine wif_n c3 ?_
        refine g_iload 0 (dk D_X9_span 59 rfl) rfl ?_
        refine g_goto (dk D_X9_span 60 rfl) rfl ?_
        exact hj
    · rw [if_neg c5] at hj
      refine wif_n c5 ?_
      refine g_iload 0 (dk D_X9_span 52 rfl) rfl ?_
      refine g_iload 7 (dk D_X9_span 53 rfl) rfl ?_
      refine g_icmp_ge (dk D_X9_span 54 rfl) rfl ?_
      by_cases c4 : v6 ≤ z1
      · rw [if_pos c4] at hj
        refine wif_p c4 ?_
        refine g_iload 7 (dk D_X9_span 61 rfl) rfl ?_
        exact hj
      · rw [if_neg c4] at hj
        refine wif_n c4 ?_
        refine g_goto (dk D_X9_span 55 rfl) rfl ?_
        refine g_iload 0 (dk D_X9_span 59 rfl) rfl ?_
        refine g_goto (dk D_X9_span 60 rfl) rfl ?_
        exact hj
theorem t_X9_span_b68 {X : Cx} (p1 : Int32) (p2 : Int32) (p3 : Int32) (p4 : Int32) (p5 : Int32) (Q : Int32 → Hp → Prop) (s : Int32 × Int32 × Hp) (hw : w_X9_span_b68 p1 p2 p3 p4 p5 Q s) : G X M_X9_span E_X9_span (QM X E_X9_span (QI Q) Qn) 0 68 [(0, .ref (92)), (1, .int (p1)), (2, .int (p2)), (3, .int (p3)), (4, .int (p4)), (5, .int (p5)), (6, .int (s.1)), (7, .int (s.2.1))] [] (s.2.2) :=
  wl_ind (B := fun K s => w_X9_span_l68 p1 p2 p3 p4 p5 Q K (s.1) (s.2.1) (s.2.2)) (P := fun s => G X M_X9_span E_X9_span (QM X E_X9_span (QI Q) Qn) 0 68 [(0, .ref (92)), (1, .int (p1)), (2, .int (p2)), (3, .int (p3)), (4, .int (p4)), (5, .int (p5)), (6, .int (s.1)), (7, .int (s.2.1))] [] (s.2.2)) (fun K hK s hw => t_X9_span_l68 p1 p2 p3 p4 p5 Q K (s.1) (s.2.1) (s.2.2) hK hw) s hw
theorem t_X9_span_b41 {X : Cx} (p1 : Int32) (p2 : Int32) (p3 : Int32) (p4 : Int32) (p5 : Int32) (s0 : Int32) (h : Hp) (Q : Int32 → Hp → Prop) (hw : w_X9_span_b41 p1 p2 p3 p4 p5 s0 h Q) : G X M_X9_span E_X9_span (QM X E_X9_span (QI Q) Qn) 0 41 [(0, .ref (92)), (1, .int (p1)), (2, .int (p2)), (3, .int (p3)), (4, .int (p4)), (5, .int (p5))] [.int (s0), .ref (92)] h := by
  unfold w_X9_span_b41 at hw
  refine g_iconst (dk D_X9_span 22 rfl) ki_1 ?_
  refine g_callV (As := [.int (s0), .int ((1 : Int32))]) (kc := 0) (fr := 0) (lo := 0) (mc := 0) (My := M_X9_bad) (dk D_X9_span 23 rfl) kd_92 rfl rfl w_1530 w_1532 w_42 w_110 w_1533 okD_X9_bad (by decide) (Nat.le_of_ble_eq_true rfl) rfl (c_X9_bad (s0) ((1 : Int32)) (h) _ hw) kxN (kI (fun z1 h2 hw => ?_))
  refine g_if_eq (dk D_X9_span 24 rfl) rfl (wif_m hw (fun hw => ?_) (fun hw => ?_))
  · refine g_aload_n 0 (dk D_X9_span 27 rfl) rfl rfl ?_
    refine g_iload_n 1 (dk D_X9_span 28 rfl) rfl rfl ?_
    refine g_iload_n 2 (dk D_X9_span 29 rfl) rfl rfl ?_
    refine g_callV (As := [.int (p1), .int (p2)]) (kc := 0) (fr := 7) (lo := 243) (mc := 0) (My := M_X9_layPlans) (dk D_X9_span 30 rfl) kd_92 rfl rfl w_1895 w_1897 w_96 w_110 w_1898 okD_X9_layPlans (by decide) (Nat.le_of_ble_eq_true rfl) rfl (c_X9_layPlans (p1) (p2) (h2) _ hw) kxN (kV (fun h3 hw => ?_))
    refine g_aload_n 0 (dk D_X9_span 31 rfl) rfl rfl ?_
    refine g_iload_n 1 (dk D_X9_span 32 rfl) rfl rfl ?_
    refine g_iload_n 2 (dk D_X9_span 33 rfl) rfl rfl ?_
    refine g_iload_n 3 (dk D_X9_span 34 rfl) rfl rfl ?_
    refine g_callV (As := [.int (p1), .int (p2), .int (p3)]) (kc := 0) (fr := 5) (lo := 172) (mc := 0) (My := M_X9_seasonOf) (dk D_X9_span 35 rfl) kd_92 rfl rfl w_1899 w_1901 w_97 w_110 w_1902 okD_X9_seasonOf (by decide) (Nat.le_of_ble_eq_true rfl) rfl (c_X9_seasonOf (p1) (p2) (p3) (h3) _ hw) kxN (kI (fun z4 h5 hw => ?_))
    refine g_istore (dk D_X9_span 36 rfl) (by decide) rfl ?_
    refine g_iconst (dk D_X9_span 37 rfl) ki_1 ?_
    refine g_istore (dk D_X9_span 38 rfl) (by decide) rfl ?_
    refine g_sub [2, 3, 4, 5, 6, 7, 1, 0] rfl ?_
    exact t_X9_span_b68 p1 p2 p3 p4 p5 Q (z4, (1 : Int32), h5) hw
  · refine g_iconst (dk D_X9_span 25 rfl) ki_0 ?_
    exact g_iret (dk D_X9_span 26 rfl) rfl ⟨_, rfl, hw⟩
theorem t_X9_span_b36 {X : Cx} (p1 : Int32) (p2 : Int32) (p3 : Int32) (p4 : Int32) (p5 : Int32) (h : Hp) (Q : Int32 → Hp → Prop) (hw : w_X9_span_b36 p1 p2 p3 p4 p5 h Q) : G X M_X9_span E_X9_span (QM X E_X9_span (QI Q) Qn) 0 36 [(0, .ref (92)), (1, .int (p1)), (2, .int (p2)), (3, .int (p3)), (4, .int (p4)), (5, .int (p5))] [.ref (92)] h := by
  unfold w_X9_span_b36 at hw
  refine g_iconst (dk D_X9_span 19 rfl) ki_1 ?_
  refine g_goto (dk D_X9_span 20 rfl) rfl ?_
  exact t_X9_span_b41 p1 p2 p3 p4 p5 ((1 : Int32)) (h) Q hw
theorem t_X9_span {X : Cx} (p1 : Int32) (p2 : Int32) (p3 : Int32) (p4 : Int32) (p5 : Int32) (h : Hp) (Q : Int32 → Hp → Prop) (hw : w_X9_span p1 p2 p3 p4 p5 h Q) : G X M_X9_span E_X9_span (QM X E_X9_span (QI Q) Qn) 0 0 [(0, .ref (92)), (1, .int (p1)), (2, .int (p2)), (3, .int (p3)), (4, .int (p4)), (5, .int (p5))] [] h := by
  unfold w_X9_span at hw
  refine g_aload_n 0 (dk D_X9_span 0 rfl) rfl rfl ?_
  refine g_iconst (dk D_X9_span 1 rfl) ki_0 ?_
  refine g_put 0 (dk D_X9_span 2 rfl) kd_92 rfl rfl (by decide) w_1357 rfl tyX9_ok nmX9 rfl (by decide) rfl (fun z => absurd z (by decide)) ?_
  refine g_heap (fun h1 eh1 => ?_)
  replace hw := hw _ eh1
  refine g_aload_n 0 (dk D_X9_span 3 rfl) rfl rfl ?_
  refine g_aload_n 0 (dk D_X9_span 4 rfl) rfl rfl ?_
  refine g_iload_n 1 (dk D_X9_span 5 rfl) rfl rfl ?_
  refine g_iload_n 2 (dk D_X9_span 6 rfl) rfl rfl ?_
  refine g_callV (As := [.int (p1), .int (p2)]) (kc := 0) (fr := 2) (lo := 58) (mc := 0) (My := M_X9_areDays) (dk D_X9_span 7 rfl) kd_92 rfl rfl w_1891 w_1893 w_95 w_110 w_1894 okD_X9_areDays (by decide) (Nat.le_of_ble_eq_true rfl) rfl (c_X9_areDays (p1) (p2) (h1) _ hw) kxN (kIp (fun z2 hw => ?_))
  refine g_if_eq (dk D_X9_span 8 rfl) rfl (wif_m hw (fun hw => ?_) (fun hw => ?_))
  · exact t_X9_span_b36 p1 p2 p3 p4 p5 (h1) Q hw
  · refine g_iload 4 (dk D_X9_span 9 rfl) rfl ?_
    refine g_iconst (dk D_X9_span 10 rfl) ki_1 ?_
    refine g_bipush (dk D_X9_span 11 rfl) kb_50 ?_
    refine g_callS (As := [.int (p4), .int ((1 : Int32)), .int ((50 : Int32))]) (kc := 0) (fr := 0) (lo := 0) (mc := 0) (My := M_X9_in) (dk D_X9_span 12 rfl) w_1527 w_1528 w_110 w_1529 okD_X9_in (by decide) (Nat.le_of_ble_eq_true rfl) rfl (c_X9_in (p4) ((1 : Int32)) ((50 : Int32)) (h1) _ hw) kxN (kIp (fun z3 hw => ?_))
    refine g_if_eq (dk D_X9_span 13 rfl) rfl (wif_m hw (fun hw => ?_) (fun hw => ?_))
    · exact t_X9_span_b36 p1 p2 p3 p4 p5 (h1) Q hw
    · refine g_iload 5 (dk D_X9_span 14 rfl) rfl ?_
      refine g_iconst (dk D_X9_span 15 rfl) ki_0 ?_
      refine g_iconst (dk D_X9_span 16 rfl) ki_1 ?_
      refine g_callS (As := [.int (p5), .int ((0 : Int32)), .int ((1 : Int32))]) (kc := 0) (fr := 0) (lo := 0) (mc := 0) (My := M_X9_in) (dk D_X9_span 17 rfl) w_1527 w_1528 w_110 w_1529 okD_X9_in (by decide) (Nat.le_of_ble_eq_true rfl) rfl (c_X9_in (p5) ((0 : Int32)) ((1 : Int32)) (h1) _ hw) kxN (kIp (fun z4 hw => ?_))
      have hj : G X M_X9_span E_X9_span (QM X E_X9_span (QI Q) Qn) 0 41 [(0, .ref (92)), (1, .int (p1)), (2, .int (p2)), (3, .int (p3)), (4, .int (p4)), (5, .int (p5))] [.int ((if ¬ z4 = 0 then (0 : Int32) else (1 : Int32))), .ref (92)] (h1) := by
        refine g_iconst (dk D_X9_span 22 rfl) ki_1 ?_
        refine g_callV (As := [.int ((if ¬ z4 = 0 then (0 : Int32) else (1 : Int32))), .int ((1 : Int32))]) (kc := 0) (fr := 0) (lo := 0) (mc := 0) (My := M_X9_bad) (dk D_X9_span 23 rfl) kd_92 rfl rfl w_1530 w_1532 w_42 w_110 w_1533 okD_X9_bad (by decide) (Nat.le_of_ble_eq_true rfl) rfl (c_X9_bad ((if ¬ z4 = 0 then (0 : Int32) else (1 : Int32))) ((1 : Int32)) (h1) _ hw) kxN (kI (fun z6 h7 hw => ?_))
        refine g_if_eq (dk D_X9_span 24 rfl) rfl (wif_m hw (fun hw => ?_) (fun hw => ?_))
        · refine g_aload_n 0 (dk D_X9_span 27 rfl) rfl rfl ?_
          refine g_iload_n 1 (dk D_X9_span 28 rfl) rfl rfl ?_
          refine g_iload_n 2 (dk D_X9_span 29 rfl) rfl rfl ?_
          refine g_callV (As := [.int (p1), .int (p2)]) (kc := 0) (fr := 7) (lo := 243) (mc := 0) (My := M_X9_layPlans) (dk D_X9_span 30 rfl) kd_92 rfl rfl w_1895 w_1897 w_96 w_110 w_1898 okD_X9_layPlans (by decide) (Nat.le_of_ble_eq_true rfl) rfl (c_X9_layPlans (p1) (p2) (h7) _ hw) kxN (kV (fun h8 hw => ?_))
          refine g_aload_n 0 (dk D_X9_span 31 rfl) rfl rfl ?_
          refine g_iload_n 1 (dk D_X9_span 32 rfl) rfl rfl ?_
          refine g_iload_n 2 (dk D_X9_span 33 rfl) rfl rfl ?_
          refine g_iload_n 3 (dk D_X9_span 34 rfl) rfl rfl ?_
          refine g_callV (As := [.int (p1), .int (p2), .int (p3)]) (kc := 0) (fr := 5) (lo := 172) (mc := 0) (My := M_X9_seasonOf) (dk D_X9_span 35 rfl) kd_92 rfl rfl w_1899 w_1901 w_97 w_110 w_1902 okD_X9_seasonOf (by decide) (Nat.le_of_ble_eq_true rfl) rfl (c_X9_seasonOf (p1) (p2) (p3) (h8) _ hw) kxN (kI (fun z9 h10 hw => ?_))
          refine g_istore (dk D_X9_span 36 rfl) (by decide) rfl ?_
          refine g_iconst (dk D_X9_span 37 rfl) ki_1 ?_
          refine g_istore (dk D_X9_span 38 rfl) (by decide) rfl ?_
          refine g_sub [2, 3, 4, 5, 6, 7, 1, 0] rfl ?_
          exact t_X9_span_b68 p1 p2 p3 p4 p5 Q (z9, (1 : Int32), h10) hw
        · refine g_iconst (dk D_X9_span 25 rfl) ki_0 ?_
          exact g_iret (dk D_X9_span 26 rfl) rfl ⟨_, rfl, hw⟩
      refine g_if_ne (dk D_X9_span 18 rfl) rfl ?_
      by_cases c5 : ¬ z4 = 0
      · rw [if_pos c5] at hj
        refine wif_p c5 ?_
        refine g_iconst (dk D_X9_span 21 rfl) ki_0 ?_
        exact hj
      · rw [if_neg c5] at hj
        refine wif_n c5 ?_
        refine g_iconst (dk D_X9_span 19 rfl) ki_1 ?_
        refine g_goto (dk D_X9_span 20 rfl) rfl ?_
        exact hj
theorem c_X9_span {X : Cx} (p1 : Int32) (p2 : Int32) (p3 : Int32) (p4 : Int32) (p5 : Int32) (h : Hp) (Q : Int32 → Hp → Prop) (hw : w_X9_span p1 p2 p3 p4 p5 h Q) : Con X yX9_span M_X9_span 8 275 0 [.ref (92), .int (p1), .int (p2), .int (p3), .int (p4), .int (p5)] h (QI Q) Qn :=
  con_of (by decide +kernel) rfl (Nat.le_of_ble_eq_true rfl) (t_X9_span p1 p2 p3 p4 p5 h Q hw)
