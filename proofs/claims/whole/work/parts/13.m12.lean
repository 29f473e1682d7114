/-! ShadowTollsModel.moves([IIZ)I -/
abbrev M_X9_moves : Mi := (RX9, cX9_moves, 4, (some .int))
abbrev E_X9_moves : Rm := (0, 0, 0, 0)
def rows_X9_moves : List (Nat × Instr × Nat) := [(0, .iload_n 3, 1), (1, .ifCond .ne 10, 3), (4, .aload_n 1, 1), (5, .aload_n 0, 1), (6, .getfield 415, 3), (9, .iload_n 2, 1), (10, .iastore, 1), (11, .aload_n 0, 1), (12, .dup, 1), (13, .getfield 415, 3), (16, .iconst 1, 1), (17, .iadd, 1), (18, .putfield 415, 3), (21, .aload_n 1, 1), (22, .aload_n 0, 1), (23, .getfield 415, 3), (26, .iconst 1, 1), (27, .isub, 1), (28, .iaload, 1), (29, .ireturn, 1)]
theorem D_X9_moves : dkA cX9_moves rows_X9_moves := by
  unfold dkA
  decide +kernel
theorem okD_X9_moves : okD yX9_moves 3 := by
  unfold okD
  decide +kernel
def w_X9_moves_b11 (r1 : Nat) (n1 : Nat) (p2 : Int32) (p3 : Int32) (h : Hp) (Q : Int32 → Hp → Prop) : Prop :=
  wlet (hup h 92 36 ((h 92 36) + (1 : Int32))) (fun h1 => (vp_in ((h1 92 36) - (1 : Int32)) n1 ∧ Q (h1 r1 (Int32.toNatClampNeg ((h1 92 36) - (1 : Int32)))) h1))
def w_X9_moves (r1 : Nat) (n1 : Nat) (p2 : Int32) (p3 : Int32) (h : Hp) (Q : Int32 → Hp → Prop) : Prop :=
  wif (¬ p3 = 0) (w_X9_moves_b11 r1 n1 p2 p3 (h) Q) ((vp_in (h 92 36) n1 ∧ wlet (hup h r1 (Int32.toNatClampNeg (h 92 36)) p2) (fun h2 => w_X9_moves_b11 r1 n1 p2 p3 (h2) Q)))
theorem t_X9_moves_b11 {X : Cx} (r1 : Nat) (n1 : Nat) (p2 : Int32) (p3 : Int32) (h : Hp) (Q : Int32 → Hp → Prop) (hr1 : kd r1 = (1, n1, 0, 0, 0)) (hw : w_X9_moves_b11 r1 n1 p2 p3 h Q) : G X M_X9_moves E_X9_moves (QM X E_X9_moves (QI Q) Qn) 0 11 [(0, .ref (92)), (1, .ref (r1))] [] h := by
  unfold w_X9_moves_b11 at hw
  refine g_aload_n 0 (dk D_X9_moves 7 rfl) rfl rfl ?_
  refine g_dup (dk D_X9_moves 8 rfl) rfl ?_
  refine g_getI 36 (dk D_X9_moves 9 rfl) kd_92 rfl rfl (by decide) w_1393 rfl rfl ?_
  refine g_iconst (dk D_X9_moves 10 rfl) ki_1 ?_
  refine g_iadd (dk D_X9_moves 11 rfl) ?_
  refine g_put 36 (dk D_X9_moves 12 rfl) kd_92 rfl rfl (by decide) w_1393 rfl tyX9_ok nmX9 rfl (by decide) rfl (fun z => absurd z (by decide)) ?_
  refine g_heap (fun h1 eh1 => ?_)
  replace hw := hw _ eh1
  refine g_aload_n 1 (dk D_X9_moves 13 rfl) rfl rfl ?_
  refine g_aload_n 0 (dk D_X9_moves 14 rfl) rfl rfl ?_
  refine g_getI 36 (dk D_X9_moves 15 rfl) kd_92 rfl rfl (by decide) w_1393 rfl rfl ?_
  refine g_iconst (dk D_X9_moves 16 rfl) ki_1 ?_
  refine g_isub (dk D_X9_moves 17 rfl) ?_
  obtain ⟨hi2, hw⟩ := hw
  refine g_iald (dk D_X9_moves 18 rfl) hr1 hi2 ?_
  exact g_iret (dk D_X9_moves 19 rfl) rfl ⟨_, rfl, hw⟩
theorem t_X9_moves {X : Cx} (r1 : Nat) (n1 : Nat) (p2 : Int32) (p3 : Int32) (h : Hp) (Q : Int32 → Hp → Prop) (hr1 : kd r1 = (1, n1, 0, 0, 0)) (hw : w_X9_moves r1 n1 p2 p3 h Q) : G X M_X9_moves E_X9_moves (QM X E_X9_moves (QI Q) Qn) 0 0 [(0, .ref (92)), (1, .ref (r1)), (2, .int (p2)), (3, .int (p3))] [] h := by
  unfold w_X9_moves at hw
  refine g_iload_n 3 (dk D_X9_moves 0 rfl) rfl rfl ?_
  refine g_if_ne (dk D_X9_moves 1 rfl) rfl (wif_m hw (fun hw => ?_) (fun hw => ?_))
  · refine g_sub [0, 1] rfl ?_
    exact t_X9_moves_b11 r1 n1 p2 p3 (h) Q hr1 hw
  · refine g_aload_n 1 (dk D_X9_moves 2 rfl) rfl rfl ?_
    refine g_aload_n 0 (dk D_X9_moves 3 rfl) rfl rfl ?_
    refine g_getI 36 (dk D_X9_moves 4 rfl) kd_92 rfl rfl (by decide) w_1393 rfl rfl ?_
    refine g_iload_n 2 (dk D_X9_moves 5 rfl) rfl rfl ?_
    obtain ⟨hi1, hw⟩ := hw
    refine g_iast (dk D_X9_moves 6 rfl) hr1 hi1 ?_
    refine g_heap (fun h2 eh2 => ?_)
    replace hw := hw _ eh2
    refine g_sub [0, 1] rfl ?_
    exact t_X9_moves_b11 r1 n1 p2 p3 (h2) Q hr1 hw
theorem c_X9_moves {X : Cx} (r1 : Nat) (n1 : Nat) (p2 : Int32) (p3 : Int32) (hr1 : kd r1 = (1, n1, 0, 0, 0)) (h : Hp) (Q : Int32 → Hp → Prop) (hw : w_X9_moves r1 n1 p2 p3 h Q) : Con X yX9_moves M_X9_moves 0 0 0 [.ref (92), .ref (r1), .int (p2), .int (p3)] h (QI Q) Qn :=
  con_of (by decide +kernel) rfl (Nat.le_of_ble_eq_true rfl) (t_X9_moves r1 n1 p2 p3 h Q hr1 hw)
/-! ShadowTollsModel.movesAll([IZ)V -/
abbrev M_X9_movesAll : Mi := (RX9, cX9_movesAll, 5, none)
abbrev E_X9_movesAll : Rm := (1, 31, 0, 0)
def rows_X9_movesAll : List (Nat × Instr × Nat) := [(0, .aload_n 0, 1), (1, .iconst 0, 1), (2, .putfield 415, 3), (5, .aload_n 0, 1), (6, .getfield 64, 3), (9, .iconst 0, 1), (10, .aload_n 0, 1), (11, .aload_n 1, 1), (12, .aload_n 0, 1), (13, .getfield 64, 3), (16, .iconst 0, 1), (17, .iaload, 1), (18, .iload_n 2, 1), (19, .invokevirtual 418, 3), (22, .iastore, 1), (23, .aload_n 0, 1), (24, .getfield 64, 3), (27, .iconst 1, 1), (28, .aload_n 0, 1), (29, .aload_n 1, 1), (30, .aload_n 0, 1), (31, .getfield 64, 3), (34, .iconst 1, 1), (35, .iaload, 1), (36, .iload_n 2, 1), (37, .invokevirtual 418, 3), (40, .iastore, 1), (41, .aload_n 0, 1), (42, .aload_n 0, 1), (43, .aload_n 1, 1), (44, .aload_n 0, 1), (45, .getfield 212, 3), (48, .iload_n 2, 1), (49, .invokevirtual 418, 3), (52, .putfield 212, 3), (55, .aload_n 0, 1), (56, .aload_n 0, 1), (57, .aload_n 1, 1), (58, .aload_n 0, 1), (59, .getfield 215, 3), (62, .iload_n 2, 1), (63, .invokevirtual 418, 3), (66, .putfield 215, 3), (69, .iconst 0, 1), (70, .istore_n 3, 1), (71, .iload_n 3, 1), (72, .bipush 30, 2), (74, .if_icmp .ge 27, 3), (77, .aload_n 0, 1), (78, .getfield 67, 3), (81, .iload_n 3, 1), (82, .aload_n 0, 1), (83, .aload_n 1, 1), (84, .aload_n 0, 1), (85, .getfield 67, 3), (88, .iload_n 3, 1), (89, .iaload, 1), (90, .iload_n 2, 1), (91, .invokevirtual 418, 3), (94, .iastore, 1), (95, .iinc 3 1, 3), (98, .goto (-27), 3), (101, .iconst 0, 1), (102, .istore_n 3, 1), (103, .iload_n 3, 1), (104, .bipush 60, 2), (106, .if_icmp .ge 48, 3), (109, .iconst 0, 1), (110, .istore 4, 2), (112, .iload 4, 2), (114, .iconst 2, 1), (115, .if_icmp .ge 33, 3), (118, .aload_n 0, 1), (119, .getfield 70, 3), (122, .iload_n 3, 1), (123, .aaload, 1), (124, .iload 4, 2), (126, .aload_n 0, 1), (127, .aload_n 1, 1), (128, .aload_n 0, 1), (129, .getfield 70, 3), (132, .iload_n 3, 1), (133, .aaload, 1), (134, .iload 4, 2), (136, .iaload, 1), (137, .iload_n 2, 1), (138, .invokevirtual 418, 3), (141, .iastore, 1), (142, .iinc 4 1, 3), (145, .goto (-33), 3), (148, .iinc 3 1, 3), (151, .goto (-48), 3), (154, .iconst 0, 1), (155, .istore_n 3, 1), (156, .iload_n 3, 1), (157, .bipush 10, 2), (159, .if_icmp .ge 48, 3), (162, .iconst 0, 1), (163, .istore 4, 2), (165, .iload 4, 2), (167, .iconst 2, 1), (168, .if_icmp .ge 33, 3), (171, .aload_n 0, 1), (172, .getfield 73, 3), (175, .iload_n 3, 1), (176, .aaload, 1), (177, .iload 4, 2), (179, .aload_n 0, 1), (180, .aload_n 1, 1), (181, .aload_n 0, 1), (182, .getfield 73, 3), (185, .iload_n 3, 1), (186, .aaload, 1), (187, .iload 4, 2), (189, .iaload, 1), (190, .iload_n 2, 1), (191, .invokevirtual 418, 3), (194, .iastore, 1), (195, .iinc 4 1, 3), (198, .goto (-33), 3), (201, .iinc 3 1, 3), (204, .goto (-48), 3), (207, .return_, 1)]
theorem D_X9_movesAll : dkA cX9_movesAll rows_X9_movesAll := by
  unfold dkA
  decide +kernel
theorem okD_X9_movesAll : okD yX9_movesAll 2 := by
  unfold okD
  decide +kernel
def w_X9_movesAll_l165 (r1 : Nat) (n1 : Nat) (p2 : Int32) (v3 : Int32) (K156 : Int32 × Hp → Prop) (Q : Hp → Prop) (K165 : Int32 × Hp → Prop) (v4 : Int32) (h : Hp) : Prop :=
  wif ((2 : Int32) ≤ v4) (K156 ((v3 + (1 : Int32)), h)) ((vp_in v3 10 ∧ (vp_in v3 10 ∧ (vp_in v4 2 ∧ w_X9_moves r1 n1 ((h (205 + 1 * Int32.toNatClampNeg (v3)) (Int32.toNatClampNeg v4))) (p2) h (fun z4 h5 => (vp_in v4 2 ∧ wlet (hup h5 (205 + 1 * Int32.toNatClampNeg (v3)) (Int32.toNatClampNeg v4) z4) (fun h7 => K165 ((v4 + (1 : Int32)), h7))))))))
def w_X9_movesAll_b165 (r1 : Nat) (n1 : Nat) (p2 : Int32) (v3 : Int32) (K156 : Int32 × Hp → Prop) (Q : Hp → Prop) (s : Int32 × Hp) : Prop := wl (fun K s => w_X9_movesAll_l165 r1 n1 p2 v3 K156 Q K s.1 s.2) s
def w_X9_movesAll_l156 (r1 : Nat) (n1 : Nat) (p2 : Int32) (Q : Hp → Prop) (K156 : Int32 × Hp → Prop) (v3 : Int32) (h : Hp) : Prop :=
  wif ((10 : Int32) ≤ v3) (Q h) (w_X9_movesAll_b165 r1 n1 p2 (v3) K156 Q ((0 : Int32), h))
def w_X9_movesAll_b156 (r1 : Nat) (n1 : Nat) (p2 : Int32) (Q : Hp → Prop) (s : Int32 × Hp) : Prop := wl (fun K s => w_X9_movesAll_l156 r1 n1 p2 Q K s.1 s.2) s
def w_X9_movesAll_l112 (r1 : Nat) (n1 : Nat) (p2 : Int32) (v3 : Int32) (K103 : Int32 × Hp → Prop) (Q : Hp → Prop) (K112 : Int32 × Hp → Prop) (v4 : Int32) (h : Hp) : Prop :=
  wif ((2 : Int32) ≤ v4) (K103 ((v3 + (1 : Int32)), h)) ((vp_in v3 60 ∧ (vp_in v3 60 ∧ (vp_in v4 2 ∧ w_X9_moves r1 n1 ((h (144 + 1 * Int32.toNatClampNeg (v3)) (Int32.toNatClampNeg v4))) (p2) h (fun z4 h5 => (vp_in v4 2 ∧ wlet (hup h5 (144 + 1 * Int32.toNatClampNeg (v3)) (Int32.toNatClampNeg v4) z4) (fun h7 => K112 ((v4 + (1 : Int32)), h7))))))))
def w_X9_movesAll_b112 (r1 : Nat) (n1 : Nat) (p2 : Int32) (v3 : Int32) (K103 : Int32 × Hp → Prop) (Q : Hp → Prop) (s : Int32 × Hp) : Prop := wl (fun K s => w_X9_movesAll_l112 r1 n1 p2 v3 K103 Q K s.1 s.2) s
def w_X9_movesAll_l103 (r1 : Nat) (n1 : Nat) (p2 : Int32) (Q : Hp → Prop) (K103 : Int32 × Hp → Prop) (v3 : Int32) (h : Hp) : Prop :=
  wif ((60 : Int32) ≤ v3) (w_X9_movesAll_b156 r1 n1 p2 Q ((0 : Int32), h)) (w_X9_movesAll_b112 r1 n1 p2 (v3) K103 Q ((0 : Int32), h))
def w_X9_movesAll_b103 (r1 : Nat) (n1 : Nat) (p2 : Int32) (Q : Hp → Prop) (s : Int32 × Hp) : Prop := wl (fun K s => w_X9_movesAll_l103 r1 n1 p2 Q K s.1 s.2) s
def w_X9_movesAll_l71 (r1 : Nat) (n1 : Nat) (p2 : Int32) (Q : Hp → Prop) (K71 : Int32 × Hp → Prop) (v3 : Int32) (h : Hp) : Prop :=
  wif ((30 : Int32) ≤ v3) (w_X9_movesAll_b103 r1 n1 p2 Q ((0 : Int32), h)) ((vp_in v3 30 ∧ w_X9_moves r1 n1 ((h 142 (Int32.toNatClampNeg v3))) (p2) h (fun z2 h3 => (vp_in v3 30 ∧ wlet (hup h3 142 (Int32.toNatClampNeg v3) z2) (fun h5 => K71 ((v3 + (1 : Int32)), h5))))))
def w_X9_movesAll_b71 (r1 : Nat) (n1 : Nat) (p2 : Int32) (Q : Hp → Prop) (s : Int32 × Hp) : Prop := wl (fun K s => w_X9_movesAll_l71 r1 n1 p2 Q K s.1 s.2) s
def w_X9_movesAll (r1 : Nat) (n1 : Nat) (p2 : Int32) (h : Hp) (Q : Hp → Prop) : Prop :=
  wlet (hup h 92 36 (0 : Int32)) (fun h1 => (vp_in (0 : Int32) 2 ∧ w_X9_moves r1 n1 ((h1 141 (Int32.toNatClampNeg (0 : Int32)))) (p2) h1 (fun z3 h4 => (vp_in (0 : Int32) 2 ∧ wlet (hup h4 141 (Int32.toNatClampNeg (0 : Int32)) z3) (fun h6 => (vp_in (1 : Int32) 2 ∧ w_X9_moves r1 n1 ((h6 141 (Int32.toNatClampNeg (1 : Int32)))) (p2) h6 (fun z8 h9 => (vp_in (1 : Int32) 2 ∧ wlet (hup h9 141 (Int32.toNatClampNeg (1 : Int32)) z8) (fun h11 => w_X9_moves r1 n1 ((h11 92 30)) (p2) h11 (fun z12 h13 => wlet (hup h13 92 30 z12) (fun h14 => w_X9_moves r1 n1 ((h14 92 31)) (p2) h14 (fun z15 h16 => wlet (hup h16 92 31 z15) (fun h17 => w_X9_movesAll_b71 r1 n1 p2 Q ((0 : Int32), h17))))))))))))))
theorem t_X9_movesAll_l165 {X : Cx} (r1 : Nat) (n1 : Nat) (p2 : Int32) (v3 : Int32) (K156 : Int32 × Hp → Prop) (Q : Hp → Prop) (K165 : Int32 × Hp → Prop) (v4 : Int32) (h : Hp) (hr1 : kd r1 = (1, n1, 0, 0, 0)) (hK156 : ∀ s : Int32 × Hp, K156 s → G X M_X9_movesAll E_X9_movesAll (QM X E_X9_movesAll (QV Q) Qn) 0 156 [(0, .ref (92)), (1, .ref (r1)), (2, .int (p2)), (3, .int (s.1))] [] (s.2)) (hK165 : ∀ s : Int32 × Hp, K165 s → G X M_X9_movesAll E_X9_movesAll (QM X E_X9_movesAll (QV Q) Qn) 0 165 [(0, .ref (92)), (1, .ref (r1)), (2, .int (p2)), (3, .int (v3)), (4, .int (s.1))] [] (s.2)) (hw : w_X9_movesAll_l165 r1 n1 p2 v3 K156 Q K165 v4 h) : G X M_X9_movesAll E_X9_movesAll (QM X E_X9_movesAll (QV Q) Qn) 0 165 [(0, .ref (92)), (1, .ref (r1)), (2, .int (p2)), (3, .int (v3)), (4, .int (v4))] [] h := by
  unfold w_X9_movesAll_l165 at hw
  refine g_iload 4 (dk D_X9_movesAll 99 rfl) rfl ?_
  refine g_iconst (dk D_X9_movesAll 100 rfl) ki_2 ?_
  refine g_icmp_ge (dk D_X9_movesAll 101 rfl) rfl (wif_m hw (fun hw => ?_) (fun hw => ?_))
  · refine g_iinc 3 (dk D_X9_movesAll 120 rfl) rfl (congrArg (fun z => _ + z) ki_1) (by decide) rfl ?_
    refine g_goto (dk D_X9_movesAll 121 rfl) rfl ?_
    refine g_sub [1, 2, 3, 0] rfl ?_
    exact hK156 ((v3 + (1 : Int32)), h) hw
  · refine g_aload_n 0 (dk D_X9_movesAll 102 rfl) rfl rfl ?_
    refine g_getR 34 (t := 204) (dk D_X9_movesAll 103 rfl) kd_92 rfl rfl (by decide) w_1391 rfl rfl rfl ?_
    refine g_iload_n 3 (dk D_X9_movesAll 104 rfl) rfl rfl ?_
    obtain ⟨hi1, hw⟩ := hw
    refine g_aald (dk D_X9_movesAll 105 rfl) kd_204 rfl rfl hi1 ?_
    refine g_iload 4 (dk D_X9_movesAll 106 rfl) rfl ?_
    refine g_aload_n 0 (dk D_X9_movesAll 107 rfl) rfl rfl ?_
    refine g_aload_n 1 (dk D_X9_movesAll 108 rfl) rfl rfl ?_
    refine g_aload_n 0 (dk D_X9_movesAll 109 rfl) rfl rfl ?_
    refine g_getR 34 (t := 204) (dk D_X9_movesAll 110 rfl) kd_92 rfl rfl (by decide) w_1391 rfl rfl rfl ?_
    refine g_iload_n 3 (dk D_X9_movesAll 111 rfl) rfl rfl ?_
    obtain ⟨hi2, hw⟩ := hw
    refine g_aald (dk D_X9_movesAll 112 rfl) kd_204 rfl rfl hi2 ?_
    refine g_iload 4 (dk D_X9_movesAll 113 rfl) rfl ?_
    obtain ⟨hi3, hw⟩ := hw
    refine g_iald (dk D_X9_movesAll 114 rfl) (kdf_204 _ (in_lt hi2)) hi3 ?_
    refine g_iload_n 2 (dk D_X9_movesAll 115 rfl) rfl rfl ?_
    refine g_callV (As := [.ref (r1), .int ((h (205 + 1 * Int32.toNatClampNeg (v3)) (Int32.toNatClampNeg v4))), .int (p2)]) (kc := 0) (fr := 0) (lo := 0) (mc := 0) (My := M_X9_moves) (dk D_X9_movesAll 116 rfl) kd_92 rfl rfl w_1915 w_1917 w_99 w_110 w_1918 okD_X9_moves (by decide) (Nat.le_of_ble_eq_true rfl) rfl (c_X9_moves r1 n1 ((h (205 + 1 * Int32.toNatClampNeg (v3)) (Int32.toNatClampNeg v4))) (p2) (hr1) (h) _ hw) kxN (kI (fun z4 h5 hw => ?_))
    obtain ⟨hi6, hw⟩ := hw
    refine g_iast (dk D_X9_movesAll 117 rfl) (kdf_204 _ (in_lt hi1)) hi6 ?_
    refine g_heap (fun h7 eh7 => ?_)
    replace hw := hw _ eh7
    refine g_iinc 4 (dk D_X9_movesAll 118 rfl) rfl (congrArg (fun z => _ + z) ki_1) (by decide) rfl ?_
    refine g_goto (dk D_X9_movesAll 119 rfl) rfl ?_
    refine g_sub [1, 2, 3, 4, 0] rfl ?_
    exact hK165 ((v4 + (1 : Int32)), h7) hw
theorem t_X9_movesAll_b165 {X : Cx} (r1 : Nat) (n1 : Nat) (p2 : Int32) (v3 : Int32) (K156 : Int32 × Hp → Prop) (Q : Hp → Prop) (s : Int32 × Hp) (hr1 : kd r1 = (1, n1, 0, 0, 0)) (hK156 : ∀ s : Int32 × Hp, K156 s → G X M_X9_movesAll E_X9_movesAll (QM X E_X9_movesAll (QV Q) Qn) 0 156 [(0, .ref (92)), (1, .ref (r1)), (2, .int (p2)), (3, .int (s.1))] [] (s.2)) (hw : w_X9_movesAll_b165 r1 n1 p2 v3 K156 Q s) : G X M_X9_movesAll E_X9_movesAll (QM X E_X9_movesAll (QV Q) Qn) 0 165 [(0, .ref (92)), (1, .ref (r1)), (2, .int (p2)), (3, .int (v3)), (4, .int (s.1))] [] (s.2) :=
  wl_ind (B := fun K s => w_X9_movesAll_l165 r1 n1 p2 v3 K156 Q K (s.1) (s.2)) (P := fun s => G X M_X9_movesAll E_X9_movesAll (QM X E_X9_movesAll (QV Q) Qn) 0 165 [(0, .ref (92)), (1, .ref (r1)), (2, .int (p2)), (3, .int (v3)), (4, .int (s.1))] [] (s.2)) (fun K hK s hw => t_X9_movesAll_l165 r1 n1 p2 v3 K156 Q K (s.1) (s.2) hr1 hK156 hK hw) s hw
theorem t_X9_movesAll_l156 {X : Cx} (r1 : Nat) (n1 : Nat) (p2 : Int32) (Q : Hp → Prop) (K156 : Int32 × Hp → Prop) (v3 : Int32) (h : Hp) (hr1 : kd r1 = (1, n1, 0, 0, 0)) (hK156 : ∀ s : Int32 × Hp, K156 s → G X M_X9_movesAll E_X9_movesAll (QM X E_X9_movesAll (QV Q) Qn) 0 156 [(0, .ref (92)), (1, .ref (r1)), (2, .int (p2)), (3, .int (s.1))] [] (s.2)) (hw : w_X9_movesAll_l156 r1 n1 p2 Q K156 v3 h) : G X M_X9_movesAll E_X9_movesAll (QM X E_X9_movesAll (QV Q) Qn) 0 156 [(0, .ref (92)), (1, .ref (r1)), (2, .int (p2)), (3, .int (v3))] [] h := by
  unfold w_X9_movesAll_l156 at hw
  refine g_iload_n 3 (dk D_X9_movesAll 94 rfl) rfl rfl ?_
  refine g_bipush (dk D_X9_movesAll 95 rfl) kb_10 ?_
  refine g_icmp_ge (dk D_X9_movesAll 96 rfl) rfl (wif_m hw (fun hw => ?_) (fun hw => ?_))
  · exact g_vret (dk D_X9_movesAll 122 rfl) rfl ⟨rfl, hw⟩
  · refine g_iconst (dk D_X9_movesAll 97 rfl) ki_0 ?_
    refine g_istore (dk D_X9_movesAll 98 rfl) (by decide) rfl ?_
    refine g_sub [1, 2, 3, 4, 0] rfl ?_
    exact t_X9_movesAll_b165 r1 n1 p2 (v3) K156 Q ((0 : Int32), h) hr1 hK156 hw
theorem t_X9_movesAll_b156 {X : Cx} (r1 : Nat) (n1 : Nat) (p2 : Int32) (Q : Hp → Prop) (s : Int32 × Hp) (hr1 : kd r1 = (1, n1, 0, 0, 0)) (hw : w_X9_movesAll_b156 r1 n1 p2 Q s) : G X M_X9_movesAll E_X9_movesAll (QM X E_X9_movesAll (QV Q) Qn) 0 156 [(0, .ref (92)), (1, .ref (r1)), (2, .int (p2)), (3, .int (s.1))] [] (s.2) :=
  wl_ind (B := fun K s => w_X9_movesAll_l156 r1 n1 p2 Q K (s.1) (s.2)) (P := fun s => G X M_X9_movesAll E_X9_movesAll (QM X E_X9_movesAll (QV Q) Qn) 0 156 [(0, .ref (92)), (1, .ref (r1)), (2, .int (p2)), (3, .int (s.1))] [] (s.2)) (fun K hK s hw => t_X9_movesAll_l156 r1 n1 p2 Q K (s.1) (s.2) hr1 hK hw) s hw
theorem t_X9_movesAll_l112 {X : Cx} (r1 : Nat) (n1 : Nat) (p2 : Int32) (v3 : Int32) (K103 : Int32 × Hp → Prop) (Q : Hp → Prop) (K112 : Int32 × Hp → Prop) (v4 : Int32) (h : Hp) (hr1 : kd r1 = (1, n1, 0, 0, 0)) (hK103 : ∀ s : Int32 × Hp, K103 s → G X M_X9_movesAll E_X9_movesAll (QM X E_X9_movesAll (QV Q) Qn) 0 103 [(0, .ref (92)), (1, .ref (r1)), (2, .int (p2)), (3, .int (s.1))] [] (s.2)) (hK112 : ∀ s : Int32 × Hp, K112 s → G X M_X9_movesAll E_X9_movesAll (QM X E_X9_movesAll (QV Q) Qn) 0 112 [(0, .ref (92)), (1, .ref (r1)), (2, .int (p2)), (3, .int (v3)), (4, .int (s.1))] [] (s.2)) (hw : w_X9_movesAll_l112 r1 n1 p2 v3 K103 Q K112 v4 h) : G X M_X9_movesAll E_X9_movesAll (QM X E_X9_movesAll (QV Q) Qn) 0 112 [(0, .ref (92)), (1, .ref (r1)), (2, .int (p2)), (3, .int (v3)), (4, .int (v4))] [] h := by
  unfold w_X9_movesAll_l112 at hw
  refine g_iload 4 (dk D_X9_movesAll 69 rfl) rfl ?_
  refine g_iconst (dk D_X9_movesAll 70 rfl) ki_2 ?_
  refine g_icmp_ge (dk D_X9_movesAll 71 rfl) rfl (wif_m hw (fun hw => ?_) (fun hw => ?_))
  · refine g_iinc 3 (dk D_X9_movesAll 90 rfl) rfl (congrArg (fun z => _ + z) ki_1) (by decide) rfl ?_
    refine g_goto (dk D_X9_movesAll 91 rfl) rfl ?_
    refine g_sub [1, 2, 3, 0] rfl ?_
    exact hK103 ((v3 + (1 : Int32)), h) hw
  · refine g_aload_n 0 (dk D_X9_movesAll 72 rfl) rfl rfl ?_
    refine g_getR 33 (t := 143) (dk D_X9_movesAll 73 rfl) kd_92 rfl rfl (by decide) w_1390 rfl rfl rfl ?_
    refine g_iload_n 3 (dk D_X9_movesAll 74 rfl) rfl rfl ?_
    obtain ⟨hi1, hw⟩ := hw
    refine g_aald (dk D_X9_movesAll 75 rfl) kd_143 rfl rfl hi1 ?_
    refine g_iload 4 (dk D_X9_movesAll 76 rfl) rfl ?_
    refine g_aload_n 0 (dk D_X9_movesAll 77 rfl) rfl rfl ?_
    refine g_aload_n 1 (dk D_X9_movesAll 78 rfl) rfl rfl ?_
    refine g_aload_n 0 (dk D_X9_movesAll 79 rfl) rfl rfl ?_
    refine g_getR 33 (t := 143) (dk D_X9_movesAll 80 rfl) kd_92 rfl rfl (by decide) w_1390 rfl rfl rfl ?_
    refine g_iload_n 3 (dk D_X9_movesAll 81 rfl) rfl rfl ?_
    obtain ⟨hi2, hw⟩ := hw
    refine g_aald (dk D_X9_movesAll 82 rfl) kd_143 rfl rfl hi2 ?_
    refine g_iload 4 (dk D_X9_movesAll 83 rfl) rfl ?_
    obtain ⟨hi3, hw⟩ := hw
    refine g_iald (dk D_X9_movesAll 84 rfl) (kdf_143 _ (in_lt hi2)) hi3 ?_
    refine g_iload_n 2 (dk D_X9_movesAll 85 rfl) rfl rfl ?_
    refine g_callV (As := [.ref (r1), .int ((h (144 + 1 * Int32.toNatClampNeg (v3)) (Int32.toNatClampNeg v4))), .int (p2)]) (kc := 0) (fr := 0) (lo := 0) (mc := 0) (My := M_X9_moves) (dk D_X9_movesAll 86 rfl) kd_92 rfl rfl w_1915 w_1917 w_99 w_110 w_1918 okD_X9_moves (by decide) (Nat.le_of_ble_eq_true rfl) rfl (c_X9_moves r1 n1 ((h (144 + 1 * Int32.toNatClampNeg (v3)) (Int32.toNatClampNeg v4))) (p2) (hr1) (h) _ hw) kxN (kI (fun z4 h5 hw => ?_))
    obtain ⟨hi6, hw⟩ := hw
    refine g_iast (dk D_X9_movesAll 87 rfl) (kdf_143 _ (in_lt hi1)) hi6 ?_
    refine g_heap (fun h7 eh7 => ?_)
    replace hw := hw _ eh7
    refine g_iinc 4 (dk D_X9_movesAll 88 rfl) rfl (congrArg (fun z => _ + z) ki_1) (by decide) rfl ?_
    refine g_goto (dk D_X9_movesAll 89 rfl) rfl ?_
    refine g_sub [1, 2, 3, 4, 0] rfl ?_
    exact hK112 ((v4 + (1 : Int32)), h7) hw
theorem t_X9_movesAll_b112 {X : Cx} (r1 : Nat) (n1 : Nat) (p2 : Int32) (v3 : Int32) (K103 : Int32 × Hp → Prop) (Q : Hp → Prop) (s : Int32 × Hp) (hr1 : kd r1 = (1, n1, 0, 0, 0)) (hK103 : ∀ s : Int32 × Hp, K103 s → G X M_X9_movesAll E_X9_movesAll (QM X E_X9_movesAll (QV Q) Qn) 0 103 [(0, .ref (92)), (1, .ref (r1)), (2, .int (p2)), (3, .int (s.1))] [] (s.2)) (hw : w_X9_movesAll_b112 r1 n1 p2 v3 K103 Q s) : G X M_X9_movesAll E_X9_movesAll (QM X E_X9_movesAll (QV Q) Qn) 0 112 [(0, .ref (92)), (1, .ref (r1)), (2, .int (p2)), (3, .int (v3)), (4, .int (s.1))] [] (s.2) :=
  wl_ind (B := fun K s => w_X9_movesAll_l112 r1 n1 p2 v3 K103 Q K (s.1) (s.2)) (P := fun s => G X M_X9_movesAll E_X9_movesAll (QM X E_X9_movesAll (QV Q) Qn) 0 112 [(0, .ref (92)), (1, .ref (r1)), (2, .int (p2)), (3, .int (v3)), (4, .int (s.1))] [] (s.2)) (fun K hK s hw => t_X9_movesAll_l112 r1 n1 p2 v3 K103 Q K (s.1) (s.2) hr1 hK103 hK hw) s hw
theorem t_X9_movesAll_l103 {X : Cx} (r1 : Nat) (n1 : Nat) (p2 : Int32) (Q : Hp → Prop) (K103 : Int32 × Hp → Prop) (v3 : Int32) (h : Hp) (hr1 : kd r1 = (1, n1, 0, 0, 0)) (hK103 : ∀ s : Int32 × Hp, K103 s → G X M_X9_movesAll E_X9_movesAll (QM X E_X9_movesAll (QV Q) Qn) 0 103 [(0, .ref (92)), (1, .ref (r1)), (2, .int (p2)), (3, .int (s.1))] [] (s.2)) (hw : w_X9_movesAll_l103 r1 n1 p2 Q K103 v3 h) : G X M_X9_movesAll E_X9_movesAll (QM X E_X9_movesAll (QV Q) Qn) 0 103 [(0, .ref (92)), (1, .ref (r1)), (2, .int (p2)), (3, .int (v3))] [] h := by
  unfold w_X9_movesAll_l103 at hw
  refine g_iload_n 3 (dk D_X9_movesAll 64 rfl) rfl rfl ?_
  refine g_bipush (dk D_X9_movesAll 65 rfl) kb_60 ?_
  refine g_icmp_ge (dk D_X9_movesAll 66 rfl) rfl (wif_m hw (fun hw => ?_) (fun hw => ?_))
  · refine g_iconst (dk D_X9_movesAll 92 rfl) ki_0 ?_
    refine g_istore_n (dk D_X9_movesAll 93 rfl) rfl (by decide) rfl ?_
    refine g_sub [1, 2, 3, 0] rfl ?_
    exact t_X9_movesAll_b156 r1 n1 p2 Q ((0 : Int32), h) hr1 hw
  · refine g_iconst (dk D_X9_movesAll 67 rfl) ki_0 ?_
    refine g_istore (dk D_X9_movesAll 68 rfl) (by decide) rfl ?_
    refine g_sub [1, 2, 3, 4, 0] rfl ?_
    exact t_X9_movesAll_b112 r1 n1 p2 (v3) K103 Q ((0 : Int32), h) hr1 hK103 hw
theorem t_X9_movesAll_b103 {X : Cx} (r1 : Nat) (n1 : Nat) (p2 : Int32) (Q : Hp → Prop) (s : Int32 × Hp) (hr1 : kd r1 = (1, n1, 0, 0, 0)) (hw : w_X9_movesAll_b103 r1 n1 p2 Q s) : G X M_X9_movesAll E_X9_movesAll (QM X E_X9_movesAll (QV Q) Qn) 0 103 [(0, .ref (92)), (1, .ref (r1)), (2, .int (p2)), (3, .int (s.1))] [] (s.2) :=
  wl_ind (B := fun K s => w_X9_movesAll_l103 r1 n1 p2 Q K (s.1) (s.2)) (P := fun s => G X M_X9_movesAll E_X9_movesAll (QM X E_X9_movesAll (QV Q) Qn) 0 103 [(0, .ref (92)), (1, .ref (r1)), (2, .int (p2)), (3, .int (s.1))] [] (s.2)) (fun K hK s hw => t_X9_movesAll_l103 r1 n1 p2 Q K (s.1) (s.2) hr1 hK hw) s hw
theorem t_X9_movesAll_l71 {X : Cx} (r1 : Nat) (n1 : Nat) (p2 : Int32) (Q : Hp → Prop) (K71 : Int32 × Hp → Prop) (v3 : Int32) (h : Hp) (hr1 : kd r1 = (1, n1, 0, 0, 0)) (hK71 : ∀ s : Int32 × Hp, K71 s → G X M_X9_movesAll E_X9_movesAll (QM X E_X9_movesAll (QV Q) Qn) 0 71 [(0, .ref (92)), (1, .ref (r1)), (2, .int (p2)), (3, .int (s.1))] [] (s.2)) (hw : w_X9_movesAll_l71 r1 n1 p2 Q K71 v3 h) : G X M_X9_movesAll E_X9_movesAll (QM X E_X9_movesAll (QV Q) Qn) 0 71 [(0, .ref (92)), (1, .ref (r1)), (2, .int (p2)), (3, .int (v3))] [] h := by
  unfold w_X9_movesAll_l71 at hw
  refine g_iload_n 3 (dk D_X9_movesAll 45 rfl) rfl rfl ?_
  refine g_bipush (dk D_X9_movesAll 46 rfl) kb_30 ?_
  refine g_icmp_ge (dk D_X9_movesAll 47 rfl) rfl (wif_m hw (fun hw => ?_) (fun hw => ?_))
  · refine g_iconst (dk D_X9_movesAll 62 rfl) ki_0 ?_
    refine g_istore_n (dk D_X9_movesAll 63 rfl) rfl (by decide) rfl ?_
    refine g_sub [1, 2, 3, 0] rfl ?_
    exact t_X9_movesAll_b103 r1 n1 p2 Q ((0 : Int32), h) hr1 hw
  · refine g_aload_n 0 (dk D_X9_movesAll 48 rfl) rfl rfl ?_
    refine g_getR 29 (t := 142) (dk D_X9_movesAll 49 rfl) kd_92 rfl rfl (by decide) w_1386 rfl rfl rfl ?_
    refine g_iload_n 3 (dk D_X9_movesAll 50 rfl) rfl rfl ?_
    refine g_aload_n 0 (dk D_X9_movesAll 51 rfl) rfl rfl ?_
    refine g_aload_n 1 (dk D_X9_movesAll 52 rfl) rfl rfl ?_
    refine g_aload_n 0 (dk D_X9_movesAll 53 rfl) rfl rfl ?_
    refine g_getR 29 (t := 142) (dk D_X9_movesAll 54 rfl) kd_92 rfl rfl (by decide) w_1386 rfl rfl rfl ?_
    refine g_iload_n 3 (dk D_X9_movesAll 55 rfl) rfl rfl ?_
    obtain ⟨hi1, hw⟩ := hw
    refine g_iald (dk D_X9_movesAll 56 rfl) kd_142 hi1 ?_
    refine g_iload_n 2 (dk D_X9_movesAll 57 rfl) rfl rfl ?_
    refine g_callV (As := [.ref (r1), .int ((h 142 (Int32.toNatClampNeg v3))), .int (p2)]) (kc := 0) (fr := 0) (lo := 0) (mc := 0) (My := M_X9_moves) (dk D_X9_movesAll 58 rfl) kd_92 rfl rfl w_1915 w_1917 w_99 w_110 w_1918 okD_X9_moves (by decide) (Nat.le_of_ble_eq_true rfl) rfl (c_X9_moves r1 n1 ((h 142 (Int32.toNatClampNeg v3))) (p2) (hr1) (h) _ hw) kxN (kI (fun z2 h3 hw => ?_))
    obtain ⟨hi4, hw⟩ := hw
    refine g_iast (dk D_X9_movesAll 59 rfl) kd_142 hi4 ?_
    refine g_heap (fun h5 eh5 => ?_)
    replace hw := hw _ eh5
    refine g_iinc 3 (dk D_X9_movesAll 60 rfl) rfl (congrArg (fun z => _ + z) ki_1) (by decide) rfl ?_
    refine g_goto (dk D_X9_movesAll 61 rfl) rfl ?_
    refine g_sub [1, 2, 3, 0] rfl ?_
    exact hK71 ((v3 + (1 : Int32)), h5) hw
theorem t_X9_movesAll_b71 {X : Cx} (r1 : Nat) (n1 : Nat) (p2 : Int32) (Q : Hp → Prop) (s : Int32 × Hp) (hr1 : kd r1 = (1, n1, 0, 0, 0)) (hw : w_X9_movesAll_b71 r1 n1 p2 Q s) : G X M_X9_movesAll E_X9_movesAll (QM X E_X9_movesAll (QV Q) Qn) 0 71 [(0, .ref (92)), (1, .ref (r1)), (2, .int (p2)), (3, .int (s.1))] [] (s.2) :=
  wl_ind (B := fun K s => w_X9_movesAll_l71 r1 n1 p2 Q K (s.1) (s.2)) (P := fun s => G X M_X9_movesAll E_X9_movesAll (QM X E_X9_movesAll (QV Q) Qn) 0 71 [(0, .ref (92)), (1, .ref (r1)), (2, .int (p2)), (3, .int (s.1))] [] (s.2)) (fun K hK s hw => t_X9_movesAll_l71 r1 n1 p2 Q K (s.1) (s.2) hr1 hK hw) s hw
theorem t_X9_movesAll {X : Cx} (r1 : Nat) (n1 : Nat) (p2 : Int32) (h : Hp) (Q : Hp → Prop) (hr1 : kd r1 = (1, n1, 0, 0, 0)) (hw : w_X9_movesAll r1 n1 p2 h Q) : G X M_X9_movesAll E_X9_movesAll (QM X E_X9_movesAll (QV Q) Qn) 0 0 [(0, .ref (92)), (1, .ref (r1)), (2, .int (p2))] [] h := by
  unfold w_X9_movesAll at hw
  refine g_aload_n 0 (dk D_X9_movesAll 0 rfl) rfl rfl ?_
  refine g_iconst (dk D_X9_movesAll 1 rfl) ki_0 ?_
  refine g_put 36 (dk D_X9_movesAll 2 rfl) kd_92 rfl rfl (by decide) w_1393 rfl tyX9_ok nmX9 rfl (by decide) rfl (fun z => absurd z (by decide)) ?_
  refine g_heap (fun h1 eh1 => ?_)
  replace hw := hw _ eh1
  refine g_aload_n 0 (dk D_X9_movesAll 3 rfl) rfl rfl ?_
  refine g_getR 28 (t := 141) (dk D_X9_movesAll 4 rfl) kd_92 rfl rfl (by decide) w_1385 rfl rfl rfl ?_
  refine g_iconst (dk D_X9_movesAll 5 rfl) ki_0 ?_
  refine g_aload_n 0 (dk D_X9_movesAll 6 rfl) rfl rfl ?_
  refine g_aload_n 1 (dk D_X9_movesAll 7 rfl) rfl rfl ?_
  refine g_aload_n 0 (dk D_X9_movesAll 8 rfl) rfl rfl ?_
  refine g_getR 28 (t := 141) (dk D_X9_movesAll 9 rfl) kd_92 rfl rfl (by decide) w_1385 rfl rfl rfl ?_
  refine g_iconst (dk D_X9_movesAll 10 rfl) ki_0 ?_
  obtain ⟨hi2, hw⟩ := hw
  refine g_iald (dk D_X9_movesAll 11 rfl) kd_141 hi2 ?_
  refine g_iload_n 2 (dk D_X9_movesAll 12 rfl) rfl rfl ?_
  refine g_callV (As := [.ref (r1), .int ((h1 141 (Int32.toNatClampNeg (0 : Int32)))), .int (p2)]) (kc := 0) (fr := 0) (lo := 0) (mc := 0) (My := M_X9_moves) (dk D_X9_movesAll 13 rfl) kd_92 rfl rfl w_1915 w_1917 w_99 w_110 w_1918 okD_X9_moves (by decide) (Nat.le_of_ble_eq_true rfl) rfl (c_X9_moves r1 n1 ((h1 141 (Int32.toNatClampNeg (0 : Int32)))) (p2) (hr1) (h1) _ hw) kxN (kI (fun z3 h4 hw => ?_))
  obtain ⟨hi5, hw⟩ := hw
  refine g_iast (dk D_X9_movesAll 14 rfl) kd_141 hi5 ?_
  refine g_heap (fun h6 eh6 => ?_)
  replace hw := hw _ eh6
  refine g_aload_n 0 (dk D_X9_movesAll 15 rfl) rfl rfl ?_
  refine g_getR 28 (t := 141) (dk D_X9_movesAll 16 rfl) kd_92 rfl rfl (by decide) w_1385 rfl rfl rfl ?_
  refine g_iconst (dk D_X9_movesAll 17 rfl) ki_1 ?_
  refine g_aload_n 0 (dk D_X9_movesAll 18 rfl) rfl rfl ?_
  refine g_aload_n 1 (dk D_X9_movesAll 19 rfl) rfl rfl ?_
  refine g_aload_n 0 (dk D_X9_movesAll 20 rfl) rfl rfl ?_
  refine g_getR 28 (t := 141) (dk D_X9_movesAll 21 rfl) kd_92 rfl rfl (by decide) w_1385 rfl rfl rfl ?_
  refine g_iconst (dk D_X9_movesAll 22 rfl) ki_1 ?_
  obtain ⟨hi7, hw⟩ := hw
  refine g_iald (dk D_X9_movesAll 23 rfl) kd_141 hi7 ?_
  refine g_iload_n 2 (dk D_X9_movesAll 24 rfl) rfl rfl ?_
  refine g_callV (As := [.ref (r1), .int ((h6 141 (Int32.toNatClampNeg (1 : Int32)))), .int (p2)]) (kc := 0) (fr := 0) (lo := 0) (mc := 0) (My := M_X9_moves) (dk D_X9_movesAll 25 rfl) kd_92 rfl rfl w_1915 w_1917 w_99 w_110 w_1918 okD_X9_moves (by decide) (Nat.le_of_ble_eq_true rfl) rfl (c_X9_moves r1 n1 ((h6 141 (Int32.toNatClampNeg (1 : Int32)))) (p2) (hr1) (h6) _ hw) kxN (kI (fun z8 h9 hw => ?_))
  obtain ⟨hi10, hw⟩ := hw
  refine g_iast (dk D_X9_movesAll 26 rfl) kd_141 hi10 ?_
  refine g_heap (fun h11 eh11 => ?_)
  replace hw := hw _ eh11
  refine g_aload_n 0 (dk D_X9_movesAll 27 rfl) rfl rfl ?_
  refine g_aload_n 0 (dk D_X9_movesAll 28 rfl) rfl rfl ?_
  refine g_aload_n 1 (dk D_X9_movesAll 29 rfl) rfl rfl ?_
  refine g_aload_n 0 (dk D_X9_movesAll 30 rfl) rfl rfl ?_
  refine g_getI 30 (dk D_X9_movesAll 31 rfl) kd_92 rfl rfl (by decide) w_1387 rfl rfl ?_
  refine g_iload_n 2 (dk D_X9_movesAll 32 rfl) rfl rfl ?_
  refine g_callV (As := [.ref (r1), .int ((h11 92 30)), .int (p2)]) (kc := 0) (fr := 0) (lo := 0) (mc := 0) (My := M_X9_moves) (dk D_X9_movesAll 33 rfl) kd_92 rfl rfl w_1915 w_1917 w_99 w_110 w_1918 okD_X9_moves (by decide) (Nat.le_of_ble_eq_true rfl) rfl (c_X9_moves r1 n1 ((h11 92 30)) (p2) (hr1) (h11) _ hw) kxN (kI (fun z12 h13 hw => ?_))
  refine g_put 30 (dk D_X9_movesAll 34 rfl) kd_92 rfl rfl (by decide) w_1387 rfl tyX9_ok nmX9 rfl (by decide) rfl (fun z => absurd z (by decide)) ?_
  refine g_heap (fun h14 eh14 => ?_)
  replace hw := hw _ eh14
  refine g_aload_n 0 (dk D_X9_movesAll 35 rfl) rfl rfl ?_
  refine g_aload_n 0 (dk D_X9_movesAll 36 rfl) rfl rfl ?_
  refine g_aload_n 1 (dk D_X9_movesAll 37 rfl) rfl rfl ?_
  refine g_aload_n 0 (dk D_X9_movesAll 38 rfl) rfl rfl ?_
  refine g_getI 31 (dk D_X9_movesAll 39 rfl) kd_92 rfl rfl (by decide) w_1388 rfl rfl ?_
  refine g_iload_n 2 (dk D_X9_movesAll 40 rfl) rfl rfl ?_
  refine g_callV (As := [.ref (r1), .int ((h14 92 31)), .int (p2)]) (kc := 0) (fr := 0) (lo := 0) (mc := 0) (My := M_X9_moves) (dk D_X9_movesAll 41 rfl) kd_92 rfl rfl w_1915 w_1917 w_99 w_110 w_1918 okD_X9_moves (by decide) (Nat.le_of_ble_eq_true rfl) rfl (c_X9_moves r1 n1 ((h14 92 31)) (p2) (hr1) (h14) _ hw) kxN (kI (fun z15 h16 hw => ?_))
  refine g_put 31 (dk D_X9_movesAll 42 rfl) kd_92 rfl rfl (by decide) w_1388 rfl tyX9_ok nmX9 rfl (by decide) rfl (fun z => absurd z (by decide)) ?_
  refine g_heap (fun h17 eh17 => ?_)
  replace hw := hw _ eh17
  refine g_iconst (dk D_X9_movesAll 43 rfl) ki_0 ?_
  refine g_istore_n (dk D_X9_movesAll 44 rfl) rfl (by decide) rfl ?_
  refine g_sub [1, 2, 3, 0] rfl ?_
  exact t_X9_movesAll_b71 r1 n1 p2 Q ((0 : Int32), h17) hr1 hw
theorem c_X9_movesAll {X : Cx} (r1 : Nat) (n1 : Nat) (p2 : Int32) (hr1 : kd r1 = (1, n1, 0, 0, 0)) (h : Hp) (Q : Hp → Prop) (hw : w_X9_movesAll r1 n1 p2 h Q) : Con X yX9_movesAll M_X9_movesAll 1 31 0 [.ref (92), .ref (r1), .int (p2)] h (QV Q) Qn :=
  con_of (by decide +kernel) rfl (Nat.le_of_ble_eq_true rfl) (t_X9_movesAll r1 n1 p2 h Q hr1 hw)
/-! ShadowTollsModel.image()I -/
abbrev M_X9_image : Mi := (RX9, cX9_image, 1, (some .int))
abbrev E_X9_image : Rm := (2, 63, 0, 0)
def rows_X9_image : List (Nat × Instr × Nat) := [(0, .aload_n 0, 1), (1, .iconst 0, 1), (2, .putfield 111, 3), (5, .aload_n 0, 1), (6, .getfield 218, 3), (9, .iconst 3, 1), (10, .if_icmp .ne 5, 3), (13, .iconst (-1), 1), (14, .ireturn, 1), (15, .aload_n 0, 1), (16, .aload_n 0, 1), (17, .getfield 76, 3), (20, .aload_n 0, 1), (21, .getfield 218, 3), (24, .aaload, 1), (25, .iconst 0, 1), (26, .invokevirtual 422, 3), (29, .aload_n 0, 1), (30, .dup, 1), (31, .getfield 218, 3), (34, .iconst 1, 1), (35, .iadd, 1), (36, .putfield 218, 3), (39, .aload_n 0, 1), (40, .getfield 218, 3), (43, .ireturn, 1)]
theorem D_X9_image : dkA cX9_image rows_X9_image := by
  unfold dkA
  decide +kernel
theorem okD_X9_image : okD yX9_image 0 := by
  unfold okD
  decide +kernel
def w_X9_image (h : Hp) (Q : Int32 → Hp → Prop) : Prop :=
  wlet (hup h 92 0 (0 : Int32)) (fun h1 => wif (¬ (h1 92 32) = (3 : Int32)) ((vp_in (h1 92 32) 3 ∧ w_X9_movesAll (216 + 1 * Int32.toNatClampNeg ((h1 92 32))) 200 ((0 : Int32)) h1 (fun h3 => wlet (hup h3 92 32 ((h3 92 32) + (1 : Int32))) (fun h4 => Q (h4 92 32) h4)))) (Q (-1 : Int32) h1))
theorem t_X9_image {X : Cx} (h : Hp) (Q : Int32 → Hp → Prop) (hw : w_X9_image h Q) : G X M_X9_image E_X9_image (QM X E_X9_image (QI Q) Qn) 0 0 [(0, .ref (92))] [] h := by
  unfold w_X9_image at hw
  refine g_aload_n 0 (dk D_X9_image 0 rfl) rfl rfl ?_
  refine g_iconst (dk D_X9_image 1 rfl) ki_0 ?_
  refine g_put 0 (dk D_X9_image 2 rfl) kd_92 rfl rfl (by decide) w_1357 rfl tyX9_ok nmX9 rfl (by decide) rfl (fun z => absurd z (by decide)) ?_
  refine g_heap (fun h1 eh1 => ?_)
  replace hw := hw _ eh1
  refine g_aload_n 0 (dk D_X9_image 3 rfl) rfl rfl ?_
  refine g_getI 32 (dk D_X9_image 4 rfl) kd_92 rfl rfl (by decide) w_1389 rfl rfl ?_
  refine g_iconst (dk D_X9_image 5 rfl) ki_3 ?_
  refine g_icmp_ne (dk D_X9_image 6 rfl) rfl (wif_m hw (fun hw => ?_) (fun hw => ?_))
  · refine g_aload_n 0 (dk D_X9_image 9 rfl) rfl rfl ?_
    refine g_aload_n 0 (dk D_X9_image 10 rfl) rfl rfl ?_
    refine g_getR 35 (t := 215) (dk D_X9_image 11 rfl) kd_92 rfl rfl (by decide) w_1392 rfl rfl rfl ?_
    refine g_aload_n 0 (dk D_X9_image 12 rfl) rfl rfl ?_
    refine g_getI 32 (dk D_X9_image 13 rfl) kd_92 rfl rfl (by decide) w_1389 rfl rfl ?_
    obtain ⟨hi2, hw⟩ := hw
    refine g_aald (dk D_X9_image 14 rfl) kd_215 rfl rfl hi2 ?_
    refine g_iconst (dk D_X9_image 15 rfl) ki_0 ?_
    refine g_callV (As := [.ref ((216 + 1 * Int32.toNatClampNeg ((h1 92 32)))), .int ((0 : Int32))]) (kc := 0) (fr := 1) (lo := 31) (mc := 0) (My := M_X9_movesAll) (dk D_X9_image 16 rfl) kd_92 rfl rfl w_1911 w_1913 w_98 w_110 w_1914 okD_X9_movesAll (by decide) (Nat.le_of_ble_eq_true rfl) rfl (c_X9_movesAll (216 + 1 * Int32.toNatClampNeg ((h1 92 32))) 200 ((0 : Int32)) ((kdf_215 _ (in_lt hi2))) (h1) _ hw) kxN (kV (fun h3 hw => ?_))
    refine g_aload_n 0 (dk D_X9_image 17 rfl) rfl rfl ?_
    refine g_dup (dk D_X9_image 18 rfl) rfl ?_
    refine g_getI 32 (dk D_X9_image 19 rfl) kd_92 rfl rfl (by decide) w_1389 rfl rfl ?_
    refine g_iconst (dk D_X9_image 20 rfl) ki_1 ?_
    refine g_iadd (dk D_X9_image 21 rfl) ?_
    refine g_put 32 (dk D_X9_image 22 rfl) kd_92 rfl rfl (by decide) w_1389 rfl tyX9_ok nmX9 rfl (by decide) rfl (fun z => absurd z (by decide)) ?_
    refine g_heap (fun h4 eh4 => ?_)
    replace hw := hw _ eh4
    refine g_aload_n 0 (dk D_X9_image 23 rfl) rfl rfl ?_
    refine g_getI 32 (dk D_X9_image 24 rfl) kd_92 rfl rfl (by decide) w_1389 rfl rfl ?_
    exact g_iret (dk D_X9_image 25 rfl) rfl ⟨_, rfl, hw⟩
  · refine g_iconst (dk D_X9_image 7 rfl) ki_m1 ?_
    exact g_iret (dk D_X9_image 8 rfl) rfl ⟨_, rfl, hw⟩
theorem c_X9_image {X : Cx} (h : Hp) (Q : Int32 → Hp → Prop) (hw : w_X9_image h Q) : Con X yX9_image M_X9_image 2 63 0 [.ref (92)] h (QI Q) Qn :=
  con_of (by decide +kernel) rfl (Nat.le_of_ble_eq_true rfl) (t_X9_image h Q hw)
/-! ShadowTollsModel.restore()I -/
abbrev M_X9_restore : Mi := (RX9, cX9_restore, 1, (some .int))
abbrev E_X9_restore : Rm := (2, 63, 0, 0)
def rows_X9_restore : List (Nat × Instr × Nat) := [(0, .aload_n 0, 1), (1, .iconst 0, 1), (2, .putfield 111, 3), (5, .aload_n 0, 1), (6, .getfield 218, 3), (9, .ifCond .ne 5, 3), (12, .iconst (-1), 1), (13, .ireturn, 1), (14, .aload_n 0, 1), (15, .dup, 1), (16, .getfield 218, 3), (19, .iconst 1, 1), (20, .isub, 1), (21, .putfield 218, 3), (24, .aload_n 0, 1), (25, .aload_n 0, 1), (26, .getfield 76, 3), (29, .aload_n 0, 1), (30, .getfield 218, 3), (33, .aaload, 1), (34, .iconst 1, 1), (35, .invokevirtual 422, 3), (38, .aload_n 0, 1), (39, .getfield 218, 3), (42, .ireturn, 1)]
theorem D_X9_restore : dkA cX9_restore rows_X9_restore := by
  unfold dkA
  decide +kernel
theorem okD_X9_restore : okD yX9_restore 0 := by
  unfold okD
  decide +kernel
def w_X9_restore (h : Hp) (Q : Int32 → Hp → Prop) : Prop :=
  wlet (hup h 92 0 (0 : Int32)) (fun h1 => wif (¬ (h1 92 32) = 0) (wlet (hup h1 92 32 ((h1 92 32) - (1 : Int32))) (fun h2 => (vp_in (h2 92 32) 3 ∧ w_X9_movesAll (216 + 1 * Int32.toNatClampNeg ((h2 92 32))) 200 ((1 : Int32)) h2 (fun h4 => Q (h4 92 32) h4)))) (Q (-1 : Int32) h1))
theorem t_X9_restore {X : Cx} (h : Hp) (Q : Int32 → Hp → Prop) (hw : w_X9_restore h Q) : G X M_X9_restore E_X9_restore (QM X E_X9_restore (QI Q) Qn) 0 0 [(0, .ref (92))] [] h := by
  unfold w_X9_restore at hw
  refine g_aload_n 0 (dk D_X9_restore 0 rfl) rfl rfl ?_
  refine g_iconst (dk D_X9_restore 1 rfl) ki_0 ?_
  refine g_put 0 (dk D_X9_restore 2 rfl) kd_92 rfl rfl (by decide) w_1357 rfl tyX9_ok nmX9 rfl (by decide) rfl (fun z => absurd z (by decide)) ?_
  refine g_heap (fun h1 eh1 => ?_)
  replace hw := hw _ eh1
  refine g_aload_n 0 (dk D_X9_restore 3 rfl) rfl rfl ?_
  refine g_getI 32 (dk D_X9_restore 4 rfl) kd_92 rfl rfl (by decide) w_1389 rfl rfl ?_
  refine g_if_ne (dk D_X9_restore 5 rfl) rfl (wif_m hw (fun hw => ?_) (fun hw => ?_))
  · refine g_aload_n 0 (dk D_X9_restore 8 rfl) rfl rfl ?_
    refine g_dup (dk D_X9_restore 9 rfl) rfl ?_
    refine g_getI 32 (dk D_X9_restore 10 rfl) kd_92 rfl rfl (by decide) w_1389 rfl rfl ?_
    refine g_iconst (dk D_X9_restore 11 rfl) ki_1 ?_
    refine g_isub (dk D_X9_restore 12 rfl) ?_
    refine g_put 32 (dk D_X9_restore 13 rfl) kd_92 rfl rfl (by decide) w_1389 rfl tyX9_ok nmX9 rfl (by decide) rfl (fun z => absurd z (by decide)) ?_
    refine g_heap (fun h2 eh2 => ?_)
    replace hw := hw _ eh2
    refine g_aload_n 0 (dk D_X9_restore 14 rfl) rfl rfl ?_
    refine g_aload_n 0 (dk D_X9_restore 15 rfl) rfl rfl ?_
    refine g_getR 35 (t := 215) (dk D_X9_restore 16 rfl) kd_92 rfl rfl (by decide) w_1392 rfl rfl rfl ?_
    refine g_aload_n 0 (dk D_X9_restore 17 rfl) rfl rfl ?_
    refine g_getI 32 (dk D_X9_restore 18 rfl) kd_92 rfl rfl (by decide) w_1389 rfl rfl ?_
    obtain ⟨hi3, hw⟩ := hw
    refine g_aald (dk D_X9_restore 19 rfl) kd_215 rfl rfl hi3 ?_
    refine g_iconst (dk D_X9_restore 20 rfl) ki_1 ?_
    refine g_callV (As := [.ref ((216 + 1 * Int32.toNatClampNeg ((h2 92 32)))), .int ((1 : Int32))]) (kc := 0) (fr := 1) (lo := 31) (mc := 0) (My := M_X9_movesAll) (dk D_X9_restore 21 rfl) kd_92 rfl rfl w_1911 w_1913 w_98 w_110 w_1914 okD_X9_movesAll (by decide) (Nat.le_of_ble_eq_true rfl) rfl (c_X9_movesAll (216 + 1 * Int32.toNatClampNeg ((h2 92 32))) 200 ((1 : Int32)) ((kdf_215 _ (in_lt hi3))) (h2) _ hw) kxN (kV (fun h4 hw => ?_))
    refine g_aload_n 0 (dk D_X9_restore 22 rfl) rfl rfl ?_
    refine g_getI 32 (dk D_X9_restore 23 rfl) kd_92 rfl rfl (by decide) w_1389 rfl rfl ?_
    exact g_iret (dk D_X9_restore 24 rfl) rfl ⟨_, rfl, hw⟩
  · refine g_iconst (dk D_X9_restore 6 rfl) ki_m1 ?_
    exact g_iret (dk D_X9_restore 7 rfl) rfl ⟨_, rfl, hw⟩
theorem c_X9_restore {X : Cx} (h : Hp) (Q : Int32 → Hp → Prop) (hw : w_X9_restore h Q) : Con X yX9_restore M_X9_restore 2 63 0 [.ref (92)] h (QI Q) Qn :=
  con_of (by decide +kernel) rfl (Nat.le_of_ble_eq_true rfl) (t_X9_restore h Q hw)
/-! ShadowTollsModel.count(I)I -/
abbrev M_X9_count : Mi := (RX9, cX9_count, 4, (some .int))
abbrev E_X9_count : Rm := (0, 0, 0, 0)
def rows_X9_count : List (Nat × Instr × Nat) := [(0, .aload_n 0, 1), (1, .iconst 0, 1), (2, .putfield 111, 3), (5, .iconst 0, 1), (6, .istore_n 2, 1), (7, .iconst 0, 1), (8, .istore_n 3, 1), (9, .iload_n 3, 1), (10, .bipush 30, 2), (12, .if_icmp .ge 27, 3), (15, .iload_n 2, 1), (16, .aload_n 0, 1), (17, .getfield 67, 3), (20, .iload_n 3, 1), (21, .iaload, 1), (22, .iconst (-1), 1), (23, .if_icmp .ne 7, 3), (26, .iconst 0, 1), (27, .goto 4, 3), (30, .iconst 1, 1), (31, .iadd, 1), (32, .istore_n 2, 1), (33, .iinc 3 1, 3), (36, .goto (-27), 3), (39, .iload_n 1, 1), (40, .tableswitch 58 0 4 #[36, 41, 46, 48, 53], 36), (76, .aload_n 0, 1), (77, .getfield 212, 3), (80, .ireturn, 1), (81, .aload_n 0, 1), (82, .getfield 215, 3), (85, .ireturn, 1), (86, .iload_n 2, 1), (87, .ireturn, 1), (88, .aload_n 0, 1), (89, .getfield 218, 3), (92, .ireturn, 1), (93, .aload_n 0, 1), (94, .getfield 114, 3), (97, .ireturn, 1), (98, .iconst (-1), 1), (99, .ireturn, 1)]
theorem D_X9_count : dkA cX9_count rows_X9_count := by
  unfold dkA
  decide +kernel
theorem okD_X9_count : okD yX9_count 1 := by
  unfold okD
  decide +kernel
def w_X9_count_l9 (p1 : Int32) (h : Hp) (Q : Int32 → Hp → Prop) (K9 : Int32 × Int32 → Prop) (v2 : Int32) (v3 : Int32) : Prop :=
  wif ((30 : Int32) ≤ v3) (wsw p1 [((0 : Int32), Q (h 92 30) h), ((1 : Int32), Q (h 92 31) h), ((2 : Int32), Q v2 h), ((3 : Int32), Q (h 92 32) h), ((4 : Int32), Q (h 92 1) h)] (Q (-1 : Int32) h)) ((vp_in v3 30 ∧ wlet ((v2 + (if ¬ (h 142 (Int32.toNatClampNeg v3)) = (-1 : Int32) then (1 : Int32) else (0 : Int32)))) (fun v2_3 => K9 (v2_3, (v3 + (1 : Int32))))))
def w_X9_count_b9 (p1 : Int32) (h : Hp) (Q : Int32 → Hp → Prop) (s : Int32 × Int32) : Prop := wl (fun K s => w_X9_count_l9 p1 h Q K s.1 s.2) s
def w_X9_count (p1 : Int32) (h : Hp) (Q : Int32 → Hp → Prop) : Prop :=
  wlet (hup h 92 0 (0 : Int32)) (fun h1 => w_X9_count_b9 p1 (h1) Q ((0 : Int32), (0 : Int32)))
theorem t_X9_count_l9 {X : Cx} (p1 : Int32) (h : Hp) (Q : Int32 → Hp → Prop) (K9 : Int32 × Int32 → Prop) (v2 : Int32) (v3 : Int32) (hK9 : ∀ s : Int32 × Int32, K9 s → G X M_X9_count E_X9_count (QM X E_X9_count (QI Q) Qn) 0 9 [(0, .ref (92)), (1, .int (p1)), (2, .int (s.1)), (3, .int (s.2))] [] (h)) (hw : w_X9_count_l9 p1 h Q K9 v2 v3) : G X M_X9_count E_X9_count (QM X E_X9_count (QI Q) Qn) 0 9 [(0, .ref (92)), (1, .int (p1)), (2, .int (v2)), (3, .int (v3))] [] h := by
  unfold w_X9_count_l9 at hw
  refine g_iload_n 3 (dk D_X9_count 7 rfl) rfl rfl ?_
  refine g_bipush (dk D_X9_count 8 rfl) kb_30 ?_
  refine g_icmp_ge (dk D_X9_count 9 rfl) rfl (wif_m hw (fun hw => ?_) (fun hw => ?_))
  · refine g_iload_n 1 (dk D_X9_count 24 rfl) rfl rfl ?_
    refine g_sw [((0 : Int32), 76), ((1 : Int32), 81), ((2 : Int32), 86), ((3 : Int32), 88), ((4 : Int32), 93)] 98 (dk D_X9_count 25 rfl) (by decide +kernel) (by decide +kernel) (by decide) (by decide) (wsw_m hw ⟨rfl, (fun hw => ?_), rfl, (fun hw => ?_), rfl, (fun hw => ?_), rfl, (fun hw => ?_), rfl, (fun hw => ?_), trivial⟩ (fun hw => ?_))
    · refine g_aload_n 0 (dk D_X9_count 26 rfl) rfl rfl ?_
      refine g_getI 30 (dk D_X9_count 27 rfl) kd_92 rfl rfl (by decide) w_1387 rfl rfl ?_
      exact g_iret (dk D_X9_count 28 rfl) rfl ⟨_, rfl, hw⟩
    · refine g_aload_n 0 (dk D_X9_count 29 rfl) rfl rfl ?_
      refine g_getI 31 (dk D_X9_count 30 rfl) kd_92 rfl rfl (by decide) w_1388 rfl rfl ?_
      exact g_iret (dk D_X9_count 31 rfl) rfl ⟨_, rfl, hw⟩
    · refine g_iload_n 2 (dk D_X9_count 32 rfl) rfl rfl ?_
      exact g_iret (dk D_X9_count 33 rfl) rfl ⟨_, rfl, hw⟩
    · refine g_aload_n 0 (dk D_X9_count 34 rfl) rfl rfl ?_
      refine g_getI 32 (dk D_X9_count 35 rfl) kd_92 rfl rfl (by decide) w_1389 rfl rfl ?_
      exact g_iret (dk D_X9_count 36 rfl) rfl ⟨_, rfl, hw⟩
    · refine g_aload_n 0 (dk D_X9_count 37 rfl) rfl rfl ?_
      refine g_getI 1 (dk D_X9_count 38 rfl) kd_92 rfl rfl (by decide) w_1358 rfl rfl ?_
      exact g_iret (dk D_X9_count 39 rfl) rfl ⟨_, rfl, hw⟩
    · refine g_iconst (dk D_X9_count 40 rfl) ki_m1 ?_
      exact g_iret (dk D_X9_count 41 rfl) rfl ⟨_, rfl, hw⟩
  · refine g_iload_n 2 (dk D_X9_count 10 rfl) rfl rfl ?_
    refine g_aload_n 0 (dk D_X9_count 11 rfl) rfl rfl ?_
    refine g_getR 29 (t := 142) (dk D_X9_count 12 rfl) kd_92 rfl rfl (by decide) w_1386 rfl rfl rfl ?_
    refine g_iload_n 3 (dk D_X9_count 13 rfl) rfl rfl ?_
    obtain ⟨hi1, hw⟩ := hw
    refine g_iald (dk D_X9_count 14 rfl) kd_142 hi1 ?_
    refine g_iconst (dk D_X9_count 15 rfl) ki_m1 ?_
    have hj : G X M_X9_count E_X9_count (QM X E_X9_count (QI Q) Qn) 0 31 [(0, .ref (92)), (1, .int (p1)), (2, .int (v2)), (3, .int (v3))] [.int ((if ¬ (h 142 (Int32.toNatClampNeg v3)) = (-1 : Int32) then (1 : Int32) else (0 : Int32))), .int (v2)] (h) := by
      refine g_iadd (dk D_X9_count 20 rfl) ?_
      refine g_topi (fun v2_3 ev2_3 => ?_)
      replace hw := hw _ ev2_3
      refine g_istore_n (dk D_X9_count 21 rfl) rfl (by decide) rfl ?_
      refine g_iinc 3 (dk D_X9_count 22 rfl) rfl (congrArg (fun z => _ + z) ki_1) (by decide) rfl ?_
      refine g_goto (dk D_X9_count 23 rfl) rfl ?_
      refine g_sub [2, 3, 1, 0] rfl ?_
      exact hK9 (v2_3, (v3 + (1 : Int32))) hw
    refine g_icmp_ne (dk D_X9_count 16 rfl) rfl ?_
    by_cases c2 : ¬ (h 142 (Int32.toNatClampNeg v3)) = (-1 : Int32)
    · rw [if_pos c2] at hj
      refine wif_p c2 ?_
      refine g_iconst (dk D_X9_count 19 rfl) ki_1 ?_
      exact hj
    · rw [if_neg c2] at hj
      refine wif_n c2 ?_
      refine g_iconst (dk D_X9_count 17 rfl) ki_0 ?_
      refine g_goto (dk D_X9_count 18 rfl) rfl ?_
      exact hj
theorem t_X9_count_b9 {X : Cx} (p1 : Int32) (h : Hp) (Q : Int32 → Hp → Prop) (s : Int32 × Int32) (hw : w_X9_count_b9 p1 h Q s) : G X M_X9_count E_X9_count (QM X E_X9_count (QI Q) Qn) 0 9 [(0, .ref (92)), (1, .int (p1)), (2, .int (s.1)), (3, .int (s.2))] [] (h) :=
  wl_ind (B := fun K s => w_X9_count_l9 p1 h Q K (s.1) (s.2)) (P := fun s => G X M_X9_count E_X9_count (QM X E_X9_count (QI Q) Qn) 0 9 [(0, .ref (92)), (1, .int (p1)), (2, .int (s.1)), (3, .int (s.2))] [] (h)) (fun K hK s hw => t_X9_count_l9 p1 h Q K (s.1) (s.2) hK hw) s hw
theorem t_X9_count {X : Cx} (p1 : Int32) (h : Hp) (Q : Int32 → Hp → Prop) (hw : w_X9_count p1 h Q) : G X M_X9_count E_X9_count (QM X E_X9_count (QI Q) Qn) 0 0 [(0, .ref (92)), (1, .int (p1))] [] h := by
  unfold w_X9_count at hw
  refine g_aload_n 0 (dk D_X9_count 0 rfl) rfl rfl ?_
  refine g_iconst (dk D_X9_count 1 rfl) ki_0 ?_
  refine g_put 0 (dk D_X9_count 2 rfl) kd_92 rfl rfl (by decide) w_1357 rfl tyX9_ok nmX9 rfl (by decide) rfl (fun z => absurd z (by decide)) ?_
  refine g_heap (fun h1 eh1 => ?_)
  replace hw := hw _ eh1
  refine g_iconst (dk D_X9_count 3 rfl) ki_0 ?_
  refine g_istore_n (dk D_X9_count 4 rfl) rfl (by decide) rfl ?_
  refine g_iconst (dk D_X9_count 5 rfl) ki_0 ?_
  refine g_istore_n (dk D_X9_count 6 rfl) rfl (by decide) rfl ?_
  refine g_sub [2, 3, 1, 0] rfl ?_
  exact t_X9_count_b9 p1 (h1) Q ((0 : Int32), (0 : Int32)) hw
theorem c_X9_count {X : Cx} (p1 : Int32) (h : Hp) (Q : Int32 → Hp → Prop) (hw : w_X9_count p1 h Q) : Con X yX9_count M_X9_count 0 0 0 [.ref (92), .int (p1)] h (QI Q) Qn :=
  con_of (by decide +kernel) rfl (Nat.le_of_ble_eq_true rfl) (t_X9_count p1 h Q hw)
