/-! ShadowTollsModel.fault()I -/
abbrev M_X9_fault : Mi := (RX9, cX9_fault, 1, (some .int))
abbrev E_X9_fault : Rm := (0, 0, 0, 0)
def rows_X9_fault : List (Nat × Instr × Nat) := [(0, .aload_n 0, 1), (1, .iconst 0, 1), (2, .putfield 111, 3), (5, .aload_n 0, 1), (6, .getfield 9, 3), (9, .ireturn, 1)]
theorem D_X9_fault : dkA cX9_fault rows_X9_fault := by
  unfold dkA
  decide +kernel
theorem okD_X9_fault : okD yX9_fault 0 := by
  unfold okD
  decide +kernel
def w_X9_fault (h : Hp) (Q : Int32 → Hp → Prop) : Prop :=
  wlet (hup h 92 0 (0 : Int32)) (fun h1 => Q (h1 92 3) h1)
theorem t_X9_fault {X : Cx} (h : Hp) (Q : Int32 → Hp → Prop) (hw : w_X9_fault h Q) : G X M_X9_fault E_X9_fault (QM X E_X9_fault (QI Q) Qn) 0 0 [(0, .ref (92))] [] h := by
  unfold w_X9_fault at hw
  refine g_aload_n 0 (dk D_X9_fault 0 rfl) rfl rfl ?_
  refine g_iconst (dk D_X9_fault 1 rfl) ki_0 ?_
  refine g_put 0 (dk D_X9_fault 2 rfl) kd_92 rfl rfl (by decide) w_1357 rfl tyX9_ok nmX9 rfl (by decide) rfl (fun z => absurd z (by decide)) ?_
  refine g_heap (fun h1 eh1 => ?_)
  replace hw := hw _ eh1
  refine g_aload_n 0 (dk D_X9_fault 3 rfl) rfl rfl ?_
  refine g_getI 3 (dk D_X9_fault 4 rfl) kd_92 rfl rfl (by decide) w_1360 rfl rfl ?_
  exact g_iret (dk D_X9_fault 5 rfl) rfl ⟨_, rfl, hw⟩
theorem c_X9_fault {X : Cx} (h : Hp) (Q : Int32 → Hp → Prop) (hw : w_X9_fault h Q) : Con X yX9_fault M_X9_fault 0 0 0 [.ref (92)] h (QI Q) Qn :=
  con_of (by decide +kernel) rfl (Nat.le_of_ble_eq_true rfl) (t_X9_fault h Q hw)
/-! ShadowTollsModel.both(III)I -/
abbrev M_X9_both : Mi := (RX9, cX9_both, 3, (some .int))
abbrev E_X9_both : Rm := (0, 0, 0, 0)
def rows_X9_both : List (Nat × Instr × Nat) := [(0, .iload_n 0, 1), (1, .tableswitch 112 10 18 #[51, 55, 59, 63, 75, 86, 97, 112, 108], 51), (52, .iload_n 1, 1), (53, .iload_n 2, 1), (54, .iadd, 1), (55, .ireturn, 1), (56, .iload_n 1, 1), (57, .iload_n 2, 1), (58, .isub, 1), (59, .ireturn, 1), (60, .iload_n 1, 1), (61, .iload_n 2, 1), (62, .imul, 1), (63, .ireturn, 1), (64, .iload_n 2, 1), (65, .ifCond .ne 7, 3), (68, .iconst 0, 1), (69, .goto 6, 3), (72, .iload_n 1, 1), (73, .iload_n 2, 1), (74, .idiv, 1), (75, .ireturn, 1), (76, .iload_n 1, 1), (77, .iload_n 2, 1), (78, .if_icmp .ge 7, 3), (81, .iconst 1, 1), (82, .goto 4, 3), (85, .iconst 0, 1), (86, .ireturn, 1), (87, .iload_n 1, 1), (88, .iload_n 2, 1), (89, .if_icmp .le 7, 3), (92, .iconst 1, 1), (93, .goto 4, 3), (96, .iconst 0, 1), (97, .ireturn, 1), (98, .iload_n 1, 1), (99, .iload_n 2, 1), (100, .if_icmp .ne 7, 3), (103, .iconst 1, 1), (104, .goto 4, 3), (107, .iconst 0, 1), (108, .ireturn, 1), (109, .iload_n 1, 1), (110, .iload_n 2, 1), (111, .imul, 1), (112, .ireturn, 1), (113, .iload_n 1, 1), (114, .iload_n 2, 1), (115, .iadd, 1), (116, .ifCond .le 7, 3), (119, .iconst 1, 1), (120, .goto 4, 3), (123, .iconst 0, 1), (124, .ireturn, 1)]
theorem D_X9_both : dkA cX9_both rows_X9_both := by
  unfold dkA
  decide +kernel
theorem okD_X9_both : okD yX9_both 3 := by
  unfold okD
  decide +kernel
def w_X9_both (p0 : Int32) (p1 : Int32) (p2 : Int32) (h : Hp) (Q : Int32 → Prop) : Prop :=
  wsw p0 [((10 : Int32), Q (p1 + p2)), ((11 : Int32), Q (p1 - p2)), ((12 : Int32), Q (p1 * p2)), ((13 : Int32), wif (¬ p2 = 0) ((¬ p2 = 0 ∧ Q (p1 / p2))) (Q (0 : Int32))), ((14 : Int32), Q (if p2 ≤ p1 then (0 : Int32) else (1 : Int32))), ((15 : Int32), Q (if p1 ≤ p2 then (0 : Int32) else (1 : Int32))), ((16 : Int32), Q (if ¬ p1 = p2 then (0 : Int32) else (1 : Int32))), ((17 : Int32), Q (if (p1 + p2) ≤ 0 then (0 : Int32) else (1 : Int32))), ((18 : Int32), Q (p1 * p2))] (Q (if (p1 + p2) ≤ 0 then (0 : Int32) else (1 : Int32)))
theorem t_X9_both {X : Cx} (p0 : Int32) (p1 : Int32) (p2 : Int32) (h : Hp) (Q : Int32 → Prop) (hw : w_X9_both p0 p1 p2 h Q) : G X M_X9_both E_X9_both (QM X E_X9_both (QIp h Q) Qn) 0 0 [(0, .int (p0)), (1, .int (p1)), (2, .int (p2))] [] h := by
  unfold w_X9_both at hw
  refine g_iload_n 0 (dk D_X9_both 0 rfl) rfl rfl ?_
  refine g_sw [((10 : Int32), 52), ((11 : Int32), 56), ((12 : Int32), 60), ((13 : Int32), 64), ((14 : Int32), 76), ((15 : Int32), 87), ((16 : Int32), 98), ((17 : Int32), 113), ((18 : Int32), 109)] 113 (dk D_X9_both 1 rfl) (by decide +kernel) (by decide +kernel) (by decide) (by decide) (wsw_m hw ⟨rfl, (fun hw => ?_), rfl, (fun hw => ?_), rfl, (fun hw => ?_), rfl, (fun hw => ?_), rfl, (fun hw => ?_), rfl, (fun hw => ?_), rfl, (fun hw => ?_), rfl, (fun hw => ?_), rfl, (fun hw => ?_), trivial⟩ (fun hw => ?_))
  · refine g_iload_n 1 (dk D_X9_both 2 rfl) rfl rfl ?_
    refine g_iload_n 2 (dk D_X9_both 3 rfl) rfl rfl ?_
    refine g_iadd (dk D_X9_both 4 rfl) ?_
    exact g_iret (dk D_X9_both 5 rfl) rfl ⟨_, rfl, rfl, hw⟩
  · refine g_iload_n 1 (dk D_X9_both 6 rfl) rfl rfl ?_
    refine g_iload_n 2 (dk D_X9_both 7 rfl) rfl rfl ?_
    refine g_isub (dk D_X9_both 8 rfl) ?_
    exact g_iret (dk D_X9_both 9 rfl) rfl ⟨_, rfl, rfl, hw⟩
  · refine g_iload_n 1 (dk D_X9_both 10 rfl) rfl rfl ?_
    refine g_iload_n 2 (dk D_X9_both 11 rfl) rfl rfl ?_
    refine g_imul (dk D_X9_both 12 rfl) ?_
    exact g_iret (dk D_X9_both 13 rfl) rfl ⟨_, rfl, rfl, hw⟩
  · refine g_iload_n 2 (dk D_X9_both 14 rfl) rfl rfl ?_
    refine g_if_ne (dk D_X9_both 15 rfl) rfl (wif_m hw (fun hw => ?_) (fun hw => ?_))
    · refine g_iload_n 1 (dk D_X9_both 18 rfl) rfl rfl ?_
      refine g_iload_n 2 (dk D_X9_both 19 rfl) rfl rfl ?_
      obtain ⟨d1, hw⟩ := hw
      refine g_idiv (dk D_X9_both 20 rfl) d1 ?_
      exact g_iret (dk D_X9_both 21 rfl) rfl ⟨_, rfl, rfl, hw⟩
    · refine g_iconst (dk D_X9_both 16 rfl) ki_0 ?_
      refine g_goto (dk D_X9_both 17 rfl) rfl ?_
      exact g_iret (dk D_X9_both 21 rfl) rfl ⟨_, rfl, rfl, hw⟩
  · refine g_iload_n 1 (dk D_X9_both 22 rfl) rfl rfl ?_
    refine g_iload_n 2 (dk D_X9_both 23 rfl) rfl rfl ?_
    have hj : G X M_X9_both E_X9_both (QM X E_X9_both (QIp h Q) Qn) 0 86 [(0, .int (p0)), (1, .int (p1)), (2, .int (p2))] [.int ((if p2 ≤ p1 then (0 : Int32) else (1 : Int32)))] (h) := by
      exact g_iret (dk D_X9_both 28 rfl) rfl ⟨_, rfl, rfl, hw⟩
    refine g_icmp_ge (dk D_X9_both 24 rfl) rfl ?_
    by_cases c2 : p2 ≤ p1
    · rw [if_pos c2] at hj
      refine wif_p c2 ?_
      refine g_iconst (dk D_X9_both 27 rfl) ki_0 ?_
      exact hj
    · rw [if_neg c2] at hj
      refine wif_n c2 ?_
      refine g_iconst (dk D_X9_both 25 rfl) ki_1 ?_
      refine g_goto (dk D_X9_both 26 rfl) rfl ?_
      exact hj
  · refine g_iload_n 1 (dk D_X9_both 29 rfl) rfl rfl ?_
    refine g_iload_n 2 (dk D_X9_both 30 rfl) rfl rfl ?_
    have hj : G X M_X9_both E_X9_both (QM X E_X9_both (QIp h Q) Qn) 0 97 [(0, .int (p0)), (1, .int (p1)), (2, .int (p2))] [.int ((if p1 ≤ p2 then (0 : Int32) else (1 : Int32)))] (h) := by
      exact g_iret (dk D_X9_both 35 rfl) rfl ⟨_, rfl, rfl, hw⟩
    refine g_icmp_le (dk D_X9_both 31 rfl) rfl ?_
    by_cases c3 : p1 ≤ p2
    · rw [if_pos c3] at hj
      refine wif_p c3 ?_
      refine g_iconst (dk D_X9_both 34 rfl) ki_0 ?_
      exact hj
    · rw [if_neg c3] at hj
      refine wif_n c3 ?_
      refine g_iconst (dk D_X9_both 32 rfl) ki_1 ?_
      refine g_goto (dk D_X9_both 33 rfl) rfl ?_
      exact hj
  · refine g_iload_n 1 (dk D_X9_both 36 rfl) rfl rfl ?_
    refine g_iload_n 2 (dk D_X9_both 37 rfl) rfl rfl ?_
    have hj : G X M_X9_both E_X9_both (QM X E_X9_both (QIp h Q) Qn) 0 108 [(0, .int (p0)), (1, .int (p1)), (2, .int (p2))] [.int ((if ¬ p1 = p2 then (0 : Int32) else (1 : Int32)))] (h) := by
      exact g_iret (dk D_X9_both 42 rfl) rfl ⟨_, rfl, rfl, hw⟩
    refine g_icmp_ne (dk D_X9_both 38 rfl) rfl ?_
    by_cases c4 : ¬ p1 = p2
    · rw [if_pos c4] at hj
      refine wif_p c4 ?_
      refine g_iconst (dk D_X9_both 41 rfl) ki_0 ?_
      exact hj
    · rw [if_neg c4] at hj
      refine wif_n c4 ?_
      refine g_iconst (dk D_X9_both 39 rfl) ki_1 ?_
      refine g_goto (dk D_X9_both 40 rfl) rfl ?_
      exact hj
  · refine g_iload_n 1 (dk D_X9_both 47 rfl) rfl rfl ?_
    refine g_iload_n 2 (dk D_X9_both 48 rfl) rfl rfl ?_
    refine g_iadd (dk D_X9_both 49 rfl) ?_
    have hj : G X M_X9_both E_X9_both (QM X E_X9_both (QIp h Q) Qn) 0 124 [(0, .int (p0)), (1, .int (p1)), (2, .int (p2))] [.int ((if (p1 + p2) ≤ 0 then (0 : Int32) else (1 : Int32)))] (h) := by
      exact g_iret (dk D_X9_both 54 rfl) rfl ⟨_, rfl, rfl, hw⟩
    refine g_if_le (dk D_X9_both 50 rfl) rfl ?_
    by_cases c5 : (p1 + p2) ≤ 0
    · rw [if_pos c5] at hj
      refine wif_p c5 ?_
      refine g_iconst (dk D_X9_both 53 rfl) ki_0 ?_
      exact hj
    · rw [if_neg c5] at hj
      refine wif_n c5 ?_
      refine g_iconst (dk D_X9_both 51 rfl) ki_1 ?_
      refine g_goto (dk D_X9_both 52 rfl) rfl ?_
      exact hj
  · refine g_iload_n 1 (dk D_X9_both 43 rfl) rfl rfl ?_
    refine g_iload_n 2 (dk D_X9_both 44 rfl) rfl rfl ?_
    refine g_imul (dk D_X9_both 45 rfl) ?_
    exact g_iret (dk D_X9_both 46 rfl) rfl ⟨_, rfl, rfl, hw⟩
  · refine g_iload_n 1 (dk D_X9_both 47 rfl) rfl rfl ?_
    refine g_iload_n 2 (dk D_X9_both 48 rfl) rfl rfl ?_
    refine g_iadd (dk D_X9_both 49 rfl) ?_
    have hj : G X M_X9_both E_X9_both (QM X E_X9_both (QIp h Q) Qn) 0 124 [(0, .int (p0)), (1, .int (p1)), (2, .int (p2))] [.int ((if (p1 + p2) ≤ 0 then (0 : Int32) else (1 : Int32)))] (h) := by
      exact g_iret (dk D_X9_both 54 rfl) rfl ⟨_, rfl, rfl, hw⟩
    refine g_if_le (dk D_X9_both 50 rfl) rfl ?_
    by_cases c6 : (p1 + p2) ≤ 0
    · rw [if_pos c6] at hj
      refine wif_p c6 ?_
      refine g_iconst (dk D_X9_both 53 rfl) ki_0 ?_
      exact hj
    · rw [if_neg c6] at hj
      refine wif_n c6 ?_
      refine g_iconst (dk D_X9_both 51 rfl) ki_1 ?_
      refine g_goto (dk D_X9_both 52 rfl) rfl ?_
      exact hj
theorem c_X9_both {X : Cx} (p0 : Int32) (p1 : Int32) (p2 : Int32) (h : Hp) (Q : Int32 → Prop) (hw : w_X9_both p0 p1 p2 h Q) : Con X yX9_both M_X9_both 0 0 0 [.int (p0), .int (p1), .int (p2)] h (QIp h Q) Qn :=
  con_of (by decide +kernel) rfl (Nat.le_of_ble_eq_true rfl) (t_X9_both p0 p1 p2 h Q hw)
/-! ShadowTollsModel.comes([III)I -/
abbrev M_X9_comes : Mi := (RX9, cX9_comes, 6, (some .int))
abbrev E_X9_comes : Rm := (1, 30, 0, 0)
def rows_X9_comes : List (Nat × Instr × Nat) := [(0, .iconst 0, 1), (1, .istore 4, 2), (3, .iload_n 2, 1), (4, .istore 5, 2), (6, .iload 5, 2), (8, .iload_n 3, 1), (9, .if_icmp .ge 142, 3), (12, .aload_n 1, 1), (13, .iload 5, 2), (15, .iaload, 1), (16, .bipush 7, 2), (18, .if_icmp .ge 60, 3), (21, .aload_n 0, 1), (22, .getfield 58, 3), (25, .iload 4, 2), (27, .aload_n 1, 1), (28, .iload 5, 2), (30, .iaload, 1), (31, .ifCond .ne 12, 3), (34, .aload_n 1, 1), (35, .iload 5, 2), (37, .iconst 1, 1), (38, .iadd, 1), (39, .iaload, 1), (40, .goto 14, 3), (43, .aload_n 0, 1), (44, .getfield 61, 3), (47, .aload_n 1, 1), (48, .iload 5, 2), (50, .iaload, 1), (51, .iconst 1, 1), (52, .isub, 1), (53, .iaload, 1), (54, .iastore, 1), (55, .iload 5, 2), (57, .aload_n 1, 1), (58, .iload 5, 2), (60, .iaload, 1), (61, .ifCond .ne 7, 3), (64, .iconst 1, 1), (65, .goto 4, 3), (68, .iconst 0, 1), (69, .iadd, 1), (70, .istore 5, 2), (72, .iinc 4 1, 3), (75, .goto 70, 3), (78, .aload_n 1, 1), (79, .iload 5, 2), (81, .iaload, 1), (82, .bipush 17, 2), (84, .if_icmp .ne 26, 3), (87, .aload_n 0, 1), (88, .getfield 58, 3), (91, .iload 4, 2), (93, .iconst 1, 1), (94, .isub, 1), (95, .iconst 1, 1), (96, .aload_n 0, 1), (97, .getfield 58, 3), (100, .iload 4, 2), (102, .iconst 1, 1), (103, .isub, 1), (104, .iaload, 1), (105, .isub, 1), (106, .iastore, 1), (107, .goto 38, 3), (110, .iinc 4 (-1), 3), (113, .aload_n 0, 1), (114, .getfield 58, 3), (117, .iload 4, 2), (119, .iconst 1, 1), (120, .isub, 1), (121, .aload_n 1, 1), (122, .iload 5, 2), (124, .iaload, 1), (125, .aload_n 0, 1), (126, .getfield 58, 3), (129, .iload 4, 2), (131, .iconst 1, 1), (132, .isub, 1), (133, .iaload, 1), (134, .aload_n 0, 1), (135, .getfield 58, 3), (138, .iload 4, 2), (140, .iaload, 1), (141, .invokestatic 274, 3), (144, .iastore, 1), (145, .iinc 5 1, 3), (148, .goto (-142), 3), (151, .aload_n 0, 1), (152, .getfield 58, 3), (155, .iconst 0, 1), (156, .iaload, 1), (157, .ireturn, 1)]
theorem D_X9_comes : dkA cX9_comes rows_X9_comes := by
  unfold dkA
  decide +kernel
theorem okD_X9_comes : okD yX9_comes 3 := by
  unfold okD
  decide +kernel
def w_X9_comes_b145 (r1 : Nat) (n1 : Nat) (p2 : Int32) (p3 : Int32) (v4 : Int32) (v5 : Int32) (K6 : Int32 × Int32 × Hp → Prop) (h : Hp) (Q : Int32 → Hp → Prop) : Prop :=
  K6 (v4, (v5 + (1 : Int32)), h)
def w_X9_comes_b54 (r1 : Nat) (n1 : Nat) (p2 : Int32) (p3 : Int32) (v4 : Int32) (v5 : Int32) (s0 : Int32) (s1 : Int32) (K6 : Int32 × Int32 × Hp → Prop) (h : Hp) (Q : Int32 → Hp → Prop) : Prop :=
  (vp_in s1 800 ∧ wlet (hup h 139 (Int32.toNatClampNeg s1) s0) (fun h2 => (vp_in v5 n1 ∧ wlet ((v5 + (if ¬ (h2 r1 (Int32.toNatClampNeg v5)) = 0 then (0 : Int32) else (1 : Int32)))) (fun v5_5 => w_X9_comes_b145 r1 n1 p2 p3 ((v4 + (1 : Int32))) (v5_5) K6 (h2) Q))))
def w_X9_comes_l6 (r1 : Nat) (n1 : Nat) (p2 : Int32) (p3 : Int32) (Q : Int32 → Hp → Prop) (K6 : Int32 × Int32 × Hp → Prop) (v4 : Int32) (v5 : Int32) (h : Hp) : Prop :=
  wif (p3 ≤ v5) ((vp_in (0 : Int32) 800 ∧ Q (h 139 (Int32.toNatClampNeg (0 : Int32))) h)) ((vp_in v5 n1 ∧ wif ((7 : Int32) ≤ (h r1 (Int32.toNatClampNeg v5))) ((vp_in v5 n1 ∧ wif (¬ (h r1 (Int32.toNatClampNeg v5)) = (17 : Int32)) ((vp_in v5 n1 ∧ (vp_in ((v4 + (-1 : Int32)) - (1 : Int32)) 800 ∧ (vp_in (v4 + (-1 : Int32)) 800 ∧ w_X9_both ((h r1 (Int32.toNatClampNeg v5))) ((h 139 (Int32.toNatClampNeg ((v4 + (-1 : Int32)) - (1 : Int32))))) ((h 139 (Int32.toNatClampNeg (v4 + (-1 : Int32))))) h (fun z7 => (vp_in ((v4 + (-1 : Int32)) - (1 : Int32)) 800 ∧ wlet (hup h 139 (Int32.toNatClampNeg ((v4 + (-1 : Int32)) - (1 : Int32))) z7) (fun h9 => w_X9_comes_b145 r1 n1 p2 p3 ((v4 + (-1 : Int32))) (v5) K6 (h9) Q))))))) ((vp_in (v4 - (1 : Int32)) 800 ∧ (vp_in (v4 - (1 : Int32)) 800 ∧ wlet (hup h 139 (Int32.toNatClampNeg (v4 - (1 : Int32))) ((1 : Int32) - (h 139 (Int32.toNatClampNeg (v4 - (1 : Int32)))))) (fun h12 => w_X9_comes_b145 r1 n1 p2 p3 (v4) (v5) K6 (h12) Q)))))) ((vp_in v5 n1 ∧ wif (¬ (h r1 (Int32.toNatClampNeg v5)) = 0) ((vp_in v5 n1 ∧ (vp_in ((h r1 (Int32.toNatClampNeg v5)) - (1 : Int32)) 6 ∧ w_X9_comes_b54 r1 n1 p2 p3 (v4) (v5) ((h 140 (Int32.toNatClampNeg ((h r1 (Int32.toNatClampNeg v5)) - (1 : Int32))))) (v4) K6 (h) Q))) ((vp_in (v5 + (1 : Int32)) n1 ∧ w_X9_comes_b54 r1 n1 p2 p3 (v4) (v5) ((h r1 (Int32.toNatClampNeg (v5 + (1 : Int32))))) (v4) K6 (h) Q))))))
def w_X9_comes_b6 (r1 : Nat) (n1 : Nat) (p2 : Int32) (p3 : Int32) (Q : Int32 → Hp → Prop) (s : Int32 × Int32 × Hp) : Prop := wl (fun K s => w_X9_comes_l6 r1 n1 p2 p3 Q K s.1 s.2.1 s.2.2) s
def w_X9_comes (r1 : Nat) (n1 : Nat) (p2 : Int32) (p3 : Int32) (h : Hp) (Q : Int32 → Hp → Prop) : Prop :=
  w_X9_comes_b6 r1 n1 p2 p3 Q ((0 : Int32), p2, h)
theorem t_X9_comes_b145 {X : Cx} (r1 : Nat) (n1 : Nat) (p2 : Int32) (p3 : Int32) (v4 : Int32) (v5 : Int32) (K6 : Int32 × Int32 × Hp → Prop) (h : Hp) (Q : Int32 → Hp → Prop) (hr1 : kd r1 = (1, n1, 0, 0, 0)) (hK6 : ∀ s : Int32 × Int32 × Hp, K6 s → G X M_X9_comes E_X9_comes (QM X E_X9_comes (QI Q) Qn) 0 6 [(0, .ref (92)), (1, .ref (r1)), (3, .int (p3)), (4, .int (s.1)), (5, .int (s.2.1))] [] (s.2.2)) (hw : w_X9_comes_b145 r1 n1 p2 p3 v4 v5 K6 h Q) : G X M_X9_comes E_X9_comes (QM X E_X9_comes (QI Q) Qn) 0 145 [(0, .ref (92)), (1, .ref (r1)), (3, .int (p3)), (4, .int (v4)), (5, .int (v5))] [] h := by
  unfold w_X9_comes_b145 at hw
  refine g_iinc 4 (dk D_X9_comes 87 rfl) rfl (congrArg (fun z => _ + z) ki_1) (by decide) rfl ?_
  refine g_goto (dk D_X9_comes 88 rfl) rfl ?_
  refine g_sub [1, 2, 3, 4, 0] rfl ?_
  exact hK6 (v4, (v5 + (1 : Int32)), h) hw
theorem t_X9_comes_b54 {X : Cx} (r1 : Nat) (n1 : Nat) (p2 : Int32) (p3 : Int32) (v4 : Int32) (v5 : Int32) (s0 : Int32) (s1 : Int32) (K6 : Int32 × Int32 × Hp → Prop) (h : Hp) (Q : Int32 → Hp → Prop) (hr1 : kd r1 = (1, n1, 0, 0, 0)) (hK6 : ∀ s : Int32 × Int32 × Hp, K6 s → G X M_X9_comes E_X9_comes (QM X E_X9_comes (QI Q) Qn) 0 6 [(0, .ref (92)), (1, .ref (r1)), (3, .int (p3)), (4, .int (s.1)), (5, .int (s.2.1))] [] (s.2.2)) (hw : w_X9_comes_b54 r1 n1 p2 p3 v4 v5 s0 s1 K6 h Q) : G X M_X9_comes E_X9_comes (QM X E_X9_comes (QI Q) Qn) 0 54 [(0, .ref (92)), (1, .ref (r1)), (3, .int (p3)), (4, .int (v4)), (5, .int (v5))] [.int (s0), .int (s1), .ref (139)] h := by
  unfold w_X9_comes_b54 at hw
  obtain ⟨hi1, hw⟩ := hw
  refine g_iast (dk D_X9_comes 33 rfl) kd_139 hi1 ?_
  refine g_heap (fun h2 eh2 => ?_)
  replace hw := hw _ eh2
  refine g_iload 4 (dk D_X9_comes 34 rfl) rfl ?_
  refine g_aload_n 1 (dk D_X9_comes 35 rfl) rfl rfl ?_
  refine g_iload 4 (dk D_X9_comes 36 rfl) rfl ?_
  obtain ⟨hi3, hw⟩ := hw
  refine g_iald (dk D_X9_comes 37 rfl) hr1 hi3 ?_
  have hj : G X M_X9_comes E_X9_comes (QM X E_X9_comes (QI Q) Qn) 0 69 [(0, .ref (92)), (1, .ref (r1)), (3, .int (p3)), (4, .int (v4)), (5, .int (v5))] [.int ((if ¬ (h2 r1 (Int32.toNatClampNeg v5)) = 0 then (0 : Int32) else (1 : Int32))), .int (v5)] (h2) := by
    refine g_iadd (dk D_X9_comes 42 rfl) ?_
    refine g_topi (fun v5_5 ev5_5 => ?_)
    replace hw := hw _ ev5_5
    refine g_istore (dk D_X9_comes 43 rfl) (by decide) rfl ?_
    refine g_iinc 4 (dk D_X9_comes 44 rfl) rfl (congrArg (fun z => _ + z) ki_1) (by decide) rfl ?_
    refine g_goto (dk D_X9_comes 45 rfl) rfl ?_
    refine g_sub [2, 3, 4, 0, 1] rfl ?_
    exact t_X9_comes_b145 r1 n1 p2 p3 ((v4 + (1 : Int32))) (v5_5) K6 (h2) Q hr1 hK6 hw
  refine g_if_ne (dk D_X9_comes 38 rfl) rfl ?_
  by_cases c4 : ¬ (h2 r1 (Int32.toNatClampNeg v5)) = 0
  · rw [if_pos c4] at hj
    refine wif_p c4 ?_
    refine g_iconst (dk D_X9_comes 41 rfl) ki_0 ?_
    exact hj
  · rw [if_neg c4] at hj
    refine wif_n c4 ?_
    refine g_iconst (dk D_X9_comes 39 rfl) ki_1 ?_
    refine g_goto (dk D_X9_comes 40 rfl) rfl ?_
    exact hj
theorem t_X9_comes_l6 {X : Cx} (r1 : Nat) (n1 : Nat) (p2 : Int32) (p3 : Int32) (Q : Int32 → Hp → Prop) (K6 : Int32 × Int32 × Hp → Prop) (v4 : Int32) (v5 : Int32) (h : Hp) (hr1 : kd r1 = (1, n1, 0, 0, 0)) (hK6 : ∀ s : Int32 × Int32 × Hp, K6 s → G X M_X9_comes E_X9_comes (QM X E_X9_comes (QI Q) Qn) 0 6 [(0, .ref (92)), (1, .ref (r1)), (3, .int (p3)), (4, .int (s.1)), (5, .int (s.2.1))] [] (s.2.2)) (hw : w_X9_comes_l6 r1 n1 p2 p3 Q K6 v4 v5 h) : G X M_X9_comes E_X9_comes (QM X E_X9_comes (QI Q) Qn) 0 6 [(0, .ref (92)), (1, .ref (r1)), (3, .int (p3)), (4, .int (v4)), (5, .int (v5))] [] h := by
  unfold w_X9_comes_l6 at hw
  refine g_iload 4 (dk D_X9_comes 4 rfl) rfl ?_
  refine g_iload_n 2 (dk D_X9_comes 5 rfl) rfl rfl ?_
  refine g_icmp_ge (dk D_X9_comes 6 rfl) rfl (wif_m hw (fun hw => ?_) (fun hw => ?_))
  · refine g_aload_n 0 (dk D_X9_comes 89 rfl) rfl rfl ?_
    refine g_getR 26 (t := 139) (dk D_X9_comes 90 rfl) kd_92 rfl rfl (by decide) w_1383 rfl rfl rfl ?_
    refine g_iconst (dk D_X9_comes 91 rfl) ki_0 ?_
    obtain ⟨hi1, hw⟩ := hw
    refine g_iald (dk D_X9_comes 92 rfl) kd_139 hi1 ?_
    exact g_iret (dk D_X9_comes 93 rfl) rfl ⟨_, rfl, hw⟩
  · refine g_aload_n 1 (dk D_X9_comes 7 rfl) rfl rfl ?_
    refine g_iload 4 (dk D_X9_comes 8 rfl) rfl ?_
    obtain ⟨hi2, hw⟩ := hw
    refine g_iald (dk D_X9_comes 9 rfl) hr1 hi2 ?_
    refine g_bipush (dk D_X9_comes 10 rfl) kb_7 ?_
    refine g_icmp_ge (dk D_X9_comes 11 rfl) rfl (wif_m hw (fun hw => ?_) (fun hw => ?_))
    · refine g_aload_n 1 (dk D_X9_comes 46 rfl) rfl rfl ?_
      refine g_iload 4 (dk D_X9_comes 47 rfl) rfl ?_
      obtain ⟨hi3, hw⟩ := hw
      refine g_iald (dk D_X9_comes 48 rfl) hr1 hi3 ?_
      refine g_bipush (dk D_X9_comes 49 rfl) kb_17 ?_
      refine g_icmp_ne (dk D_X9_comes 50 rfl) rfl (wif_m hw (fun hw => ?_) (fun hw => ?_))
      · refine g_iinc 3 (dk D_X9_comes 66 rfl) rfl (congrArg (fun z => _ + z) ki_m1) (by decide) rfl ?_
        refine g_aload_n 1 (dk D_X9_comes 67 rfl) rfl rfl ?_
        refine g_getR 26 (t := 139) (dk D_X9_comes 68 rfl) kd_92 rfl rfl (by decide) w_1383 rfl rfl rfl ?_
        refine g_iload 0 (dk D_X9_comes 69 rfl) rfl ?_
        refine g_iconst (dk D_X9_comes 70 rfl) ki_1 ?_
        refine g_isub (dk D_X9_comes 71 rfl) ?_
        refine g_aload_n 2 (dk D_X9_comes 72 rfl) rfl rfl ?_
        refine g_iload 4 (dk D_X9_comes 73 rfl) rfl ?_
        obtain ⟨hi4, hw⟩ := hw
        refine g_iald (dk D_X9_comes 74 rfl) hr1 hi4 ?_
        refine g_aload_n 1 (dk D_X9_comes 75 rfl) rfl rfl ?_
        refine g_getR 26 (t := 139) (dk D_X9_comes 76 rfl) kd_92 rfl rfl (by decide) w_1383 rfl rfl rfl ?_
        refine g_iload 0 (dk D_X9_comes 77 rfl) rfl ?_
        refine g_iconst (dk D_X9_comes 78 rfl) ki_1 ?_
        refine g_isub (dk D_X9_comes 79 rfl) ?_
        obtain ⟨hi5, hw⟩ := hw
        refine g_iald (dk D_X9_comes 80 rfl) kd_139 hi5 ?_
        refine g_aload_n 1 (dk D_X9_comes 81 rfl) rfl rfl ?_
        refine g_getR 26 (t := 139) (dk D_X9_comes 82 rfl) kd_92 rfl rfl (by decide) w_1383 rfl rfl rfl ?_
        refine g_iload 0 (dk D_X9_comes 83 rfl) rfl ?_
        obtain ⟨hi6, hw⟩ := hw
        refine g_iald (dk D_X9_comes 84 rfl) kd_139 hi6 ?_
        refine g_callS (As := [.int ((h r1 (Int32.toNatClampNeg v5))), .int ((h 139 (Int32.toNatClampNeg ((v4 + (-1 : Int32)) - (1 : Int32))))), .int ((h 139 (Int32.toNatClampNeg (v4 + (-1 : Int32)))))]) (kc := 0) (fr := 0) (lo := 0) (mc := 0) (My := M_X9_both) (dk D_X9_comes 85 rfl) w_1729 w_1730 w_110 w_1731 okD_X9_both (by decide) (Nat.le_of_ble_eq_true rfl) rfl (c_X9_both ((h r1 (Int32.toNatClampNeg v5))) ((h 139 (Int32.toNatClampNeg ((v4 + (-1 : Int32)) - (1 : Int32))))) ((h 139 (Int32.toNatClampNeg (v4 + (-1 : Int32))))) (h) _ hw) kxN (kIp (fun z7 hw => ?_))
        obtain ⟨hi8, hw⟩ := hw
        refine g_iast (dk D_X9_comes 86 rfl) kd_139 hi8 ?_
        refine g_heap (fun h9 eh9 => ?_)
        replace hw := hw _ eh9
        refine g_sub [1, 2, 3, 0, 4] rfl ?_
        exact t_X9_comes_b145 r1 n1 p2 p3 ((v4 + (-1 : Int32))) (v5) K6 (h9) Q hr1 hK6 hw
      · refine g_aload_n 0 (dk D_X9_comes 51 rfl) rfl rfl ?_
        refine g_getR 26 (t := 139) (dk D_X9_comes 52 rfl) kd_92 rfl rfl (by decide) w_1383 rfl rfl rfl ?_
        refine g_iload 3 (dk D_X9_comes 53 rfl) rfl ?_
        refine g_iconst (dk D_X9_comes 54 rfl) ki_1 ?_
        refine g_isub (dk D_X9_comes 55 rfl) ?_
        refine g_iconst (dk D_X9_comes 56 rfl) ki_1 ?_
        refine g_aload_n 0 (dk D_X9_comes 57 rfl) rfl rfl ?_
        refine g_getR 26 (t := 139) (dk D_X9_comes 58 rfl) kd_92 rfl rfl (by decide) w_1383 rfl rfl rfl ?_
        refine g_iload 3 (dk D_X9_comes 59 rfl) rfl ?_
        refine g_iconst (dk D_X9_comes 60 rfl) ki_1 ?_
        refine g_isub (dk D_X9_comes 61 rfl) ?_
        obtain ⟨hi10, hw⟩ := hw
        refine g_iald (dk D_X9_comes 62 rfl) kd_139 hi10 ?_
        refine g_isub (dk D_X9_comes 63 rfl) ?_
        obtain ⟨hi11, hw⟩ := hw
        refine g_iast (dk D_X9_comes 64 rfl) kd_139 hi11 ?_
        refine g_heap (fun h12 eh12 => ?_)
        replace hw := hw _ eh12
        refine g_goto (dk D_X9_comes 65 rfl) rfl ?_
        exact t_X9_comes_b145 r1 n1 p2 p3 (v4) (v5) K6 (h12) Q hr1 hK6 hw
    · refine g_aload_n 0 (dk D_X9_comes 12 rfl) rfl rfl ?_
      refine g_getR 26 (t := 139) (dk D_X9_comes 13 rfl) kd_92 rfl rfl (by decide) w_1383 rfl rfl rfl ?_
      refine g_iload 3 (dk D_X9_comes 14 rfl) rfl ?_
      refine g_aload_n 1 (dk D_X9_comes 15 rfl) rfl rfl ?_
      refine g_iload 4 (dk D_X9_comes 16 rfl) rfl ?_
      obtain ⟨hi13, hw⟩ := hw
      refine g_iald (dk D_X9_comes 17 rfl) hr1 hi13 ?_
      refine g_if_ne (dk D_X9_comes 18 rfl) rfl (wif_m hw (fun hw => ?_) (fun hw => ?_))
      · refine g_aload_n 0 (dk D_X9_comes 25 rfl) rfl rfl ?_
        refine g_getR 27 (t := 140) (dk D_X9_comes 26 rfl) kd_92 rfl rfl (by decide) w_1384 rfl rfl rfl ?_
        refine g_aload_n 1 (dk D_X9_comes 27 rfl) rfl rfl ?_
        refine g_iload 4 (dk D_X9_comes 28 rfl) rfl ?_
        obtain ⟨hi14, hw⟩ := hw
        refine g_iald (dk D_X9_comes 29 rfl) hr1 hi14 ?_
        refine g_iconst (dk D_X9_comes 30 rfl) ki_1 ?_
        refine g_isub (dk D_X9_comes 31 rfl) ?_
        obtain ⟨hi15, hw⟩ := hw
        refine g_iald (dk D_X9_comes 32 rfl) kd_140 hi15 ?_
        exact t_X9_comes_b54 r1 n1 p2 p3 (v4) (v5) ((h 140 (Int32.toNatClampNeg ((h r1 (Int32.toNatClampNeg v5)) - (1 : Int32))))) (v4) K6 (h) Q hr1 hK6 hw
      · refine g_aload_n 1 (dk D_X9_comes 19 rfl) rfl rfl ?_
        refine g_iload 4 (dk D_X9_comes 20 rfl) rfl ?_
        refine g_iconst (dk D_X9_comes 21 rfl) ki_1 ?_
        refine g_iadd (dk D_X9_comes 22 rfl) ?_
        obtain ⟨hi16, hw⟩ := hw
        refine g_iald (dk D_X9_comes 23 rfl) hr1 hi16 ?_
        refine g_goto (dk D_X9_comes 24 rfl) rfl ?_
        exact t_X9_comes_b54 r1 n1 p2 p3 (v4) (v5) ((h r1 (Int32.toNatClampNeg (v5 + (1 : Int32))))) (v4) K6 (h) Q hr1 hK6 hw
theorem t_X9_comes_b6 {X : Cx} (r1 : Nat) (n1 : Nat) (p2 : Int32) (p3 : Int32) (Q : Int32 → Hp → Prop) (s : Int32 × Int32 × Hp) (hr1 : kd r1 = (1, n1, 0, 0, 0)) (hw : w_X9_comes_b6 r1 n1 p2 p3 Q s) : G X M_X9_comes E_X9_comes (QM X E_X9_comes (QI Q) Qn) 0 6 [(0, .ref (92)), (1, .ref (r1)), (3, .int (p3)), (4, .int (s.1)), (5, .int (s.2.1))] [] (s.2.2) :=
  wl_ind (B := fun K s => w_X9_comes_l6 r1 n1 p2 p3 Q K (s.1) (s.2.1) (s.2.2)) (P := fun s => G X M_X9_comes E_X9_comes (QM X E_X9_comes (QI Q) Qn) 0 6 [(0, .ref (92)), (1, .ref (r1)), (3, .int (p3)), (4, .int (s.1)), (5, .int (s.2.1))] [] (s.2.2)) (fun K hK s hw => t_X9_comes_l6 r1 n1 p2 p3 Q K (s.1) (s.2.1) (s.2.2) hr1 hK hw) s hw
theorem t_X9_comes {X : Cx} (r1 : Nat) (n1 : Nat) (p2 : Int32) (p3 : Int32) (h : Hp) (Q : Int32 → Hp → Prop) (hr1 : kd r1 = (1, n1, 0, 0, 0)) (hw : w_X9_comes r1 n1 p2 p3 h Q) : G X M_X9_comes E_X9_comes (QM X E_X9_comes (QI Q) Qn) 0 0 [(0, .ref (92)), (1, .ref (r1)), (2, .int (p2)), (3, .int (p3))] [] h := by
  unfold w_X9_comes at hw
  refine g_iconst (dk D_X9_comes 0 rfl) ki_0 ?_
  refine g_istore (dk D_X9_comes 1 rfl) (by decide) rfl ?_
  refine g_iload_n 3 (dk D_X9_comes 2 rfl) rfl rfl ?_
  refine g_istore (dk D_X9_comes 3 rfl) (by decide) rfl ?_
  refine g_sub [2, 3, 5, 1, 0] rfl ?_
  exact t_X9_comes_b6 r1 n1 p2 p3 Q ((0 : Int32), p2, h) hr1 hw
theorem c_X9_comes {X : Cx} (r1 : Nat) (n1 : Nat) (p2 : Int32) (p3 : Int32) (hr1 : kd r1 = (1, n1, 0, 0, 0)) (h : Hp) (Q : Int32 → Hp → Prop) (hw : w_X9_comes r1 n1 p2 p3 h Q) : Con X yX9_comes M_X9_comes 1 30 0 [.ref (92), .ref (r1), .int (p2), .int (p3)] h (QI Q) Qn :=
  con_of (by decide +kernel) rfl (Nat.le_of_ble_eq_true rfl) (t_X9_comes r1 n1 p2 p3 h Q hr1 hw)
/-! ShadowTollsModel.told(I)I -/
abbrev M_X9_told : Mi := (RX9, cX9_told, 2, (some .int))
abbrev E_X9_told : Rm := (1, 30, 0, 0)
def rows_X9_told : List (Nat × Instr × Nat) := [(0, .aload_n 0, 1), (1, .iconst 0, 1), (2, .putfield 111, 3), (5, .aload_n 0, 1), (6, .iload_n 1, 1), (7, .iconst 0, 1), (8, .bipush 9, 2), (10, .invokestatic 145, 3), (13, .ifCond .ne 7, 3), (16, .iconst 1, 1), (17, .goto 4, 3), (20, .iconst 0, 1), (21, .iconst 1, 1), (22, .invokevirtual 202, 3), (25, .ifCond .eq 5, 3), (28, .iconst 0, 1), (29, .ireturn, 1), (30, .iload_n 1, 1), (31, .bipush 9, 2), (33, .if_icmp .ne 10, 3), (36, .aload_n 0, 1), (37, .getfield 221, 3), (40, .goto 9, 3), (43, .aload_n 0, 1), (44, .getfield 20, 3), (47, .iload_n 1, 1), (48, .iaload, 1), (49, .ireturn, 1)]
theorem D_X9_told : dkA cX9_told rows_X9_told := by
  unfold dkA
  decide +kernel
theorem okD_X9_told : okD yX9_told 1 := by
  unfold okD
  decide +kernel
def w_X9_told (p1 : Int32) (h : Hp) (Q : Int32 → Hp → Prop) : Prop :=
  wlet (hup h 92 0 (0 : Int32)) (fun h1 => w_X9_in (p1) ((0 : Int32)) ((9 : Int32)) h1 (fun z2 => w_X9_bad ((if ¬ z2 = 0 then (0 : Int32) else (1 : Int32))) ((1 : Int32)) h1 (fun z4 h5 => wif (z4 = 0) (wif (¬ p1 = (9 : Int32)) ((vp_in p1 11 ∧ Q (h5 95 (Int32.toNatClampNeg p1)) h5)) (Q (h5 92 18) h5)) (Q (0 : Int32) h5))))
theorem t_X9_told {X : Cx} (p1 : Int32) (h : Hp) (Q : Int32 → Hp → Prop) (hw : w_X9_told p1 h Q) : G X M_X9_told E_X9_told (QM X E_X9_told (QI Q) Qn) 0 0 [(0, .ref (92)), (1, .int (p1))] [] h := by
  unfold w_X9_told at hw
  refine g_aload_n 0 (dk D_X9_told 0 rfl) rfl rfl ?_
  refine g_iconst (dk D_X9_told 1 rfl) ki_0 ?_
  refine g_put 0 (dk D_X9_told 2 rfl) kd_92 rfl rfl (by decide) w_1357 rfl tyX9_ok nmX9 rfl (by decide) rfl (fun z => absurd z (by decide)) ?_
  refine g_heap (fun h1 eh1 => ?_)
  replace hw := hw _ eh1
  refine g_aload_n 0 (dk D_X9_told 3 rfl) rfl rfl ?_
  refine g_iload_n 1 (dk D_X9_told 4 rfl) rfl rfl ?_
  refine g_iconst (dk D_X9_told 5 rfl) ki_0 ?_
  refine g_bipush (dk D_X9_told 6 rfl) kb_9 ?_
  refine g_callS (As := [.int (p1), .int ((0 : Int32)), .int ((9 : Int32))]) (kc := 0) (fr := 0) (lo := 0) (mc := 0) (My := M_X9_in) (dk D_X9_told 7 rfl) w_1527 w_1528 w_110 w_1529 okD_X9_in (by decide) (Nat.le_of_ble_eq_true rfl) rfl (c_X9_in (p1) ((0 : Int32)) ((9 : Int32)) (h1) _ hw) kxN (kIp (fun z2 hw => ?_))
  have hj : G X M_X9_told E_X9_told (QM X E_X9_told (QI Q) Qn) 0 21 [(0, .ref (92)), (1, .int (p1))] [.int ((if ¬ z2 = 0 then (0 : Int32) else (1 : Int32))), .ref (92)] (h1) := by
    refine g_iconst (dk D_X9_told 12 rfl) ki_1 ?_
    refine g_callV (As := [.int ((if ¬ z2 = 0 then (0 : Int32) else (1 : Int32))), .int ((1 : Int32))]) (kc := 0) (fr := 0) (lo := 0) (mc := 0) (My := M_X9_bad) (dk D_X9_told 13 rfl) kd_92 rfl rfl w_1530 w_1532 w_42 w_110 w_1533 okD_X9_bad (by decide) (Nat.le_of_ble_eq_true rfl) rfl (c_X9_bad ((if ¬ z2 = 0 then (0 : Int32) else (1 : Int32))) ((1 : Int32)) (h1) _ hw) kxN (kI (fun z4 h5 hw => ?_))
    refine g_if_eq (dk D_X9_told 14 rfl) rfl (wif_m hw (fun hw => ?_) (fun hw => ?_))
    · refine g_iload_n 1 (dk D_X9_told 17 rfl) rfl rfl ?_
      refine g_bipush (dk D_X9_told 18 rfl) kb_9 ?_
      refine g_icmp_ne (dk D_X9_told 19 rfl) rfl (wif_m hw (fun hw => ?_) (fun hw => ?_))
      · refine g_aload_n 0 (dk D_X9_told 23 rfl) rfl rfl ?_
        refine g_getR 11 (t := 95) (dk D_X9_told 24 rfl) kd_92 rfl rfl (by decide) w_1368 rfl rfl rfl ?_
        refine g_iload_n 1 (dk D_X9_told 25 rfl) rfl rfl ?_
        obtain ⟨hi6, hw⟩ := hw
        refine g_iald (dk D_X9_told 26 rfl) kd_95 hi6 ?_
        exact g_iret (dk D_X9_told 27 rfl) rfl ⟨_, rfl, hw⟩
      · refine g_aload_n 0 (dk D_X9_told 20 rfl) rfl rfl ?_
        refine g_getI 18 (dk D_X9_told 21 rfl) kd_92 rfl rfl (by decide) w_1375 rfl rfl ?_
        refine g_goto (dk D_X9_told 22 rfl) rfl ?_
        exact g_iret (dk D_X9_told 27 rfl) rfl ⟨_, rfl, hw⟩
    · refine g_iconst (dk D_X9_told 15 rfl) ki_0 ?_
      exact g_iret (dk D_X9_told 16 rfl) rfl ⟨_, rfl, hw⟩
  refine g_if_ne (dk D_X9_told 8 rfl) rfl ?_
  by_cases c3 : ¬ z2 = 0
  · rw [if_pos c3] at hj
    refine wif_p c3 ?_
    refine g_iconst (dk D_X9_told 11 rfl) ki_0 ?_
    exact hj
  · rw [if_neg c3] at hj
    refine wif_n c3 ?_
    refine g_iconst (dk D_X9_told 9 rfl) ki_1 ?_
    refine g_goto (dk D_X9_told 10 rfl) rfl ?_
    exact hj
theorem c_X9_told {X : Cx} (p1 : Int32) (h : Hp) (Q : Int32 → Hp → Prop) (hw : w_X9_told p1 h Q) : Con X yX9_told M_X9_told 1 30 0 [.ref (92), .int (p1)] h (QI Q) Qn :=
  con_of (by decide +kernel) rfl (Nat.le_of_ble_eq_true rfl) (t_X9_told p1 h Q hw)
/-! ShadowTollsModel.isWho(I)Z -/
abbrev M_X9_isWho : Mi := (RX9, cX9_isWho, 2, (some .boolean))
abbrev E_X9_isWho : Rm := (1, 30, 0, 0)
def rows_X9_isWho : List (Nat × Instr × Nat) := [(0, .iload_n 1, 1), (1, .iconst 0, 1), (2, .aload_n 0, 1), (3, .getfield 20, 3), (6, .iconst 0, 1), (7, .iaload, 1), (8, .iconst 1, 1), (9, .isub, 1), (10, .invokestatic 145, 3), (13, .ireturn, 1)]
theorem D_X9_isWho : dkA cX9_isWho rows_X9_isWho := by
  unfold dkA
  decide +kernel
theorem okD_X9_isWho : okD yX9_isWho 1 := by
  unfold okD
  decide +kernel
def w_X9_isWho (p1 : Int32) (h : Hp) (Q : Int32 → Prop) : Prop :=
  (vp_in (0 : Int32) 11 ∧ w_X9_in (p1) ((0 : Int32)) (((h 95 (Int32.toNatClampNeg (0 : Int32))) - (1 : Int32))) h (fun z2 => Q (z2 &&& 1)))
theorem t_X9_isWho {X : Cx} (p1 : Int32) (h : Hp) (Q : Int32 → Prop) (hw : w_X9_isWho p1 h Q) : G X M_X9_isWho E_X9_isWho (QM X E_X9_isWho (QIp h Q) Qn) 0 0 [(0, .ref (92)), (1, .int (p1))] [] h := by
  unfold w_X9_isWho at hw
  refine g_iload_n 1 (dk D_X9_isWho 0 rfl) rfl rfl ?_
  refine g_iconst (dk D_X9_isWho 1 rfl) ki_0 ?_
  refine g_aload_n 0 (dk D_X9_isWho 2 rfl) rfl rfl ?_
  refine g_getR 11 (t := 95) (dk D_X9_isWho 3 rfl) kd_92 rfl rfl (by decide) w_1368 rfl rfl rfl ?_
  refine g_iconst (dk D_X9_isWho 4 rfl) ki_0 ?_
  obtain ⟨hi1, hw⟩ := hw
  refine g_iald (dk D_X9_isWho 5 rfl) kd_95 hi1 ?_
  refine g_iconst (dk D_X9_isWho 6 rfl) ki_1 ?_
  refine g_isub (dk D_X9_isWho 7 rfl) ?_
  refine g_callS (As := [.int (p1), .int ((0 : Int32)), .int (((h 95 (Int32.toNatClampNeg (0 : Int32))) - (1 : Int32)))]) (kc := 0) (fr := 0) (lo := 0) (mc := 0) (My := M_X9_in) (dk D_X9_isWho 8 rfl) w_1527 w_1528 w_110 w_1529 okD_X9_in (by decide) (Nat.le_of_ble_eq_true rfl) rfl (c_X9_in (p1) ((0 : Int32)) (((h 95 (Int32.toNatClampNeg (0 : Int32))) - (1 : Int32))) (h) _ hw) kxN (kIp (fun z2 hw => ?_))
  exact g_zret (dk D_X9_isWho 9 rfl) rfl ⟨_, rfl, rfl, hw⟩
theorem c_X9_isWho {X : Cx} (p1 : Int32) (h : Hp) (Q : Int32 → Prop) (hw : w_X9_isWho p1 h Q) : Con X yX9_isWho M_X9_isWho 1 30 0 [.ref (92), .int (p1)] h (QIp h Q) Qn :=
  con_of (by decide +kernel) rfl (Nat.le_of_ble_eq_true rfl) (t_X9_isWho p1 h Q hw)
/-! ShadowTollsModel.traveller(II)I -/
abbrev M_X9_traveller : Mi := (RX9, cX9_traveller, 3, (some .int))
abbrev E_X9_traveller : Rm := (2, 59, 0, 0)
def rows_X9_traveller : List (Nat × Instr × Nat) := [(0, .aload_n 0, 1), (1, .iconst 0, 1), (2, .putfield 111, 3), (5, .aload_n 0, 1), (6, .aload_n 0, 1), (7, .iload_n 1, 1), (8, .invokevirtual 278, 3), (11, .ifCond .ne 7, 3), (14, .iconst 1, 1), (15, .goto 4, 3), (18, .iconst 0, 1), (19, .iconst 1, 1), (20, .invokevirtual 202, 3), (23, .ifCond .ne 26, 3), (26, .aload_n 0, 1), (27, .iload_n 2, 1), (28, .iconst 0, 1), (29, .bipush 6, 2), (31, .invokestatic 145, 3), (34, .ifCond .ne 7, 3), (37, .iconst 1, 1), (38, .goto 4, 3), (41, .iconst 0, 1), (42, .iconst 2, 1), (43, .invokevirtual 202, 3), (46, .ifCond .eq 5, 3), (49, .iconst 0, 1), (50, .ireturn, 1), (51, .aload_n 0, 1), (52, .getfield 40, 3), (55, .iload_n 1, 1), (56, .aaload, 1), (57, .iload_n 2, 1), (58, .iaload, 1), (59, .ireturn, 1)]
theorem D_X9_traveller : dkA cX9_traveller rows_X9_traveller := by
  unfold dkA
  decide +kernel
theorem okD_X9_traveller : okD yX9_traveller 2 := by
  unfold okD
  decide +kernel
def w_X9_traveller (p1 : Int32) (p2 : Int32) (h : Hp) (Q : Int32 → Hp → Prop) : Prop :=
  wlet (hup h 92 0 (0 : Int32)) (fun h1 => w_X9_isWho (p1) h1 (fun z2 => w_X9_bad ((if ¬ z2 = 0 then (0 : Int32) else (1 : Int32))) ((1 : Int32)) h1 (fun z4 h5 => wif (¬ z4 = 0) (Q (0 : Int32) h5) (w_X9_in (p2) ((0 : Int32)) ((6 : Int32)) h5 (fun z6 => w_X9_bad ((if ¬ z6 = 0 then (0 : Int32) else (1 : Int32))) ((2 : Int32)) h5 (fun z8 h9 => wif (z8 = 0) ((vp_in p1 8 ∧ (vp_in p2 7 ∧ Q (h9 (110 + 1 * Int32.toNatClampNeg (p1)) (Int32.toNatClampNeg p2)) h9))) (Q (0 : Int32) h9)))))))
theorem t_X9_traveller {X : Cx} (p1 : Int32) (p2 : Int32) (h : Hp) (Q : Int32 → Hp → Prop) (hw : w_X9_traveller p1 p2 h Q) : G X M_X9_traveller E_X9_traveller (QM X E_X9_traveller (QI Q) Qn) 0 0 [(0, .ref (92)), (1, .int (p1)), (2, .int (p2))] [] h := by
  unfold w_X9_traveller at hw
  refine g_aload_n 0 (dk D_X9_traveller 0 rfl) rfl rfl ?_
  refine g_iconst (dk D_X9_traveller 1 rfl) ki_0 ?_
  refine g_put 0 (dk D_X9_traveller 2 rfl) kd_92 rfl rfl (by decide) w_1357 rfl tyX9_ok nmX9 rfl (by decide) rfl (fun z => absurd z (by decide)) ?_
  refine g_heap (fun h1 eh1 => ?_)
  replace hw := hw _ eh1
  refine g_aload_n 0 (dk D_X9_traveller 3 rfl) rfl rfl ?_
  refine g_aload_n 0 (dk D_X9_traveller 4 rfl) rfl rfl ?_
  refine g_iload_n 1 (dk D_X9_traveller 5 rfl) rfl rfl ?_
  refine g_callV (As := [.int (p1)]) (kc := 0) (fr := 1) (lo := 30) (mc := 0) (My := M_X9_isWho) (dk D_X9_traveller 6 rfl) kd_92 rfl rfl w_1668 w_1670 w_68 w_110 w_1671 okD_X9_isWho (by decide) (Nat.le_of_ble_eq_true rfl) rfl (c_X9_isWho (p1) (h1) _ hw) kxN (kIp (fun z2 hw => ?_))
  have hj : G X M_X9_traveller E_X9_traveller (QM X E_X9_traveller (QI Q) Qn) 0 19 [(0, .ref (92)), (1, .int (p1)), (2, .int (p2))] [.int ((if ¬ z2 = 0 then (0 : Int32) else (1 : Int32))), .ref (92)] (h1) := by
    refine g_iconst (dk D_X9_traveller 11 rfl) ki_1 ?_
    refine g_callV (As := [.int ((if ¬ z2 = 0 then (0 : Int32) else (1 : Int32))), .int ((1 : Int32))]) (kc := 0) (fr := 0) (lo := 0) (mc := 0) (My := M_X9_bad) (dk D_X9_traveller 12 rfl) kd_92 rfl rfl w_1530 w_1532 w_42 w_110 w_1533 okD_X9_bad (by decide) (Nat.le_of_ble_eq_true rfl) rfl (c_X9_bad ((if ¬ z2 = 0 then (0 : Int32) else (1 : Int32))) ((1 : Int32)) (h1) _ hw) kxN (kI (fun z4 h5 hw => ?_))
    refine g_if_ne (dk D_X9_traveller 13 rfl) rfl (wif_m hw (fun hw => ?_) (fun hw => ?_))
    · refine g_iconst (dk D_X9_traveller 26 rfl) ki_0 ?_
      exact g_iret (dk D_X9_traveller 27 rfl) rfl ⟨_, rfl, hw⟩
    · refine g_aload_n 0 (dk D_X9_traveller 14 rfl) rfl rfl ?_
      refine g_iload_n 2 (dk D_X9_traveller 15 rfl) rfl rfl ?_
      refine g_iconst (dk D_X9_traveller 16 rfl) ki_0 ?_
      refine g_bipush (dk D_X9_traveller 17 rfl) kb_6 ?_
      refine g_callS (As := [.int (p2), .int ((0 : Int32)), .int ((6 : Int32))]) (kc := 0) (fr := 0) (lo := 0) (mc := 0) (My := M_X9_in) (dk D_X9_traveller 18 rfl) w_1527 w_1528 w_110 w_1529 okD_X9_in (by decide) (Nat.le_of_ble_eq_true rfl) rfl (c_X9_in (p2) ((0 : Int32)) ((6 : Int32)) (h5) _ hw) kxN (kIp (fun z6 hw => ?_))
      have hj : G X M_X9_traveller E_X9_traveller (QM X E_X9_traveller (QI Q) Qn) 0 42 [(0, .ref (92)), (1, .int (p1)), (2, .int (p2))] [.int ((if ¬ z6 = 0 then (0 : Int32) else (1 : Int32))), .ref (92)] (h5) := by
        refine g_iconst (dk D_X9_traveller 23 rfl) ki_2 ?_
        refine g_callV (As := [.int ((if ¬ z6 = 0 then (0 : Int32) else (1 : Int32))), .int ((2 : Int32))]) (kc := 0) (fr := 0) (lo := 0) (mc := 0) (My := M_X9_bad) (dk D_X9_traveller 24 rfl) kd_92 rfl rfl w_1530 w_1532 w_42 w_110 w_1533 okD_X9_bad (by decide) (Nat.le_of_ble_eq_true rfl) rfl (c_X9_bad ((if ¬ z6 = 0 then (0 : Int32) else (1 : Int32))) ((2 : Int32)) (h5) _ hw) kxN (kI (fun z8 h9 hw => ?_))
        refine g_if_eq (dk D_X9_traveller 25 rfl) rfl (wif_m hw (fun hw => ?_) (fun hw => ?_))
        · refine g_aload_n 0 (dk D_X9_traveller 28 rfl) rfl rfl ?_
          refine g_getR 17 (t := 109) (dk D_X9_traveller 29 rfl) kd_92 rfl rfl (by decide) w_1374 rfl rfl rfl ?_
          refine g_iload_n 1 (dk D_X9_traveller 30 rfl) rfl rfl ?_
          obtain ⟨hi10, hw⟩ := hw
          refine g_aald (dk D_X9_traveller 31 rfl) kd_109 rfl rfl hi10 ?_
          refine g_iload_n 2 (dk D_X9_traveller 32 rfl) rfl rfl ?_
          obtain ⟨hi11, hw⟩ := hw
          refine g_iald (dk D_X9_traveller 33 rfl) (kdf_109 _ (in_lt hi10)) hi11 ?_
          exact g_iret (dk D_X9_traveller 34 rfl) rfl ⟨_, rfl, hw⟩
        · refine g_iconst (dk D_X9_traveller 26 rfl) ki_0 ?_
          exact g_iret (dk D_X9_traveller 27 rfl) rfl ⟨_, rfl, hw⟩
      refine g_if_ne (dk D_X9_traveller 19 rfl) rfl ?_
      by_cases c7 : ¬ z6 = 0
      · rw [if_pos c7] at hj
        refine wif_p c7 ?_
        refine g_iconst (dk D_X9_traveller 22 rfl) ki_0 ?_
        exact hj
      · rw [if_neg c7] at hj
        refine wif_n c7 ?_
        refine g_iconst (dk D_X9_traveller 20 rfl) ki_1 ?_
        refine g_goto (dk D_X9_traveller 21 rfl) rfl ?_
        exact hj
  refine g_if_ne (dk D_X9_traveller 7 rfl) rfl ?_
  by_cases c3 : ¬ z2 = 0
  · rw [if_pos c3] at hj
    refine wif_p c3 ?_
    refine g_iconst (dk D_X9_traveller 10 rfl) ki_0 ?_
    exact hj
  · rw [if_neg c3] at hj
    refine wif_n c3 ?_
    refine g_iconst (dk D_X9_traveller 8 rfl) ki_1 ?_
    refine g_goto (dk D_X9_traveller 9 rfl) rfl ?_
    exact hj
theorem c_X9_traveller {X : Cx} (p1 : Int32) (p2 : Int32) (h : Hp) (Q : Int32 → Hp → Prop) (hw : w_X9_traveller p1 p2 h Q) : Con X yX9_traveller M_X9_traveller 2 59 0 [.ref (92), .int (p1), .int (p2)] h (QI Q) Qn :=
  con_of (by decide +kernel) rfl (Nat.le_of_ble_eq_true rfl) (t_X9_traveller p1 p2 h Q hw)
/-! ShadowTollsModel.noon(I)I -/
abbrev M_X9_noon : Mi := (RX9, cX9_noon, 4, (some .int))
abbrev E_X9_noon : Rm := (0, 0, 0, 0)
def rows_X9_noon : List (Nat × Instr × Nat) := [(0, .sipush 2700, 3), (3, .istore_n 2, 1), (4, .iconst 0, 1), (5, .istore_n 3, 1), (6, .iload_n 3, 1), (7, .iload_n 1, 1), (8, .if_icmp .gt 30, 3), (11, .aload_n 0, 1), (12, .getfield 26, 3), (15, .iload_n 3, 1), (16, .iaload, 1), (17, .iconst (-1), 1), (18, .if_icmp .ne 7, 3), (21, .iload_n 2, 1), (22, .goto 9, 3), (25, .aload_n 0, 1), (26, .getfield 26, 3), (29, .iload_n 3, 1), (30, .iaload, 1), (31, .istore_n 2, 1), (32, .iinc 3 1, 3), (35, .goto (-29), 3), (38, .iload_n 2, 1), (39, .ireturn, 1)]
theorem D_X9_noon : dkA cX9_noon rows_X9_noon := by
  unfold dkA
  decide +kernel
theorem okD_X9_noon : okD yX9_noon 1 := by
  unfold okD
  decide +kernel
def w_X9_noon_b31 (p1 : Int32) (v3 : Int32) (s0 : Int32) (K6 : Int32 × Int32 → Prop) (h : Hp) (Q : Int32 → Prop) : Prop :=
  K6 (s0, (v3 + (1 : Int32)))
def w_X9_noon_l6 (p1 : Int32) (h : Hp) (Q : Int32 → Prop) (K6 : Int32 × Int32 → Prop) (v2 : Int32) (v3 : Int32) : Prop :=
  wif (p1 < v3) (Q v2) ((vp_in v3 30 ∧ wif (¬ (h 97 (Int32.toNatClampNeg v3)) = (-1 : Int32)) ((vp_in v3 30 ∧ w_X9_noon_b31 p1 (v3) ((h 97 (Int32.toNatClampNeg v3))) K6 (h) Q)) (w_X9_noon_b31 p1 (v3) (v2) K6 (h) Q)))
def w_X9_noon_b6 (p1 : Int32) (h : Hp) (Q : Int32 → Prop) (s : Int32 × Int32) : Prop := wl (fun K s => w_X9_noon_l6 p1 h Q K s.1 s.2) s
def w_X9_noon (p1 : Int32) (h : Hp) (Q : Int32 → Prop) : Prop :=
  w_X9_noon_b6 p1 (h) Q ((2700 : Int32), (0 : Int32))
theorem t_X9_noon_b31 {X : Cx} (p1 : Int32) (v3 : Int32) (s0 : Int32) (K6 : Int32 × Int32 → Prop) (h : Hp) (Q : Int32 → Prop) (hK6 : ∀ s : Int32 × Int32, K6 s → G X M_X9_noon E_X9_noon (QM X E_X9_noon (QIp h Q) Qn) 0 6 [(0, .ref (92)), (1, .int (p1)), (2, .int (s.1)), (3, .int (s.2))] [] (h)) (hw : w_X9_noon_b31 p1 v3 s0 K6 h Q) : G X M_X9_noon E_X9_noon (QM X E_X9_noon (QIp h Q) Qn) 0 31 [(0, .ref (92)), (1, .int (p1)), (3, .int (v3))] [.int (s0)] h := by
  unfold w_X9_noon_b31 at hw
  refine g_istore_n (dk D_X9_noon 19 rfl) rfl (by decide) rfl ?_
  refine g_iinc 3 (dk D_X9_noon 20 rfl) rfl (congrArg (fun z => _ + z) ki_1) (by decide) rfl ?_
  refine g_goto (dk D_X9_noon 21 rfl) rfl ?_
  refine g_sub [2, 3, 1, 0] rfl ?_
  exact hK6 (s0, (v3 + (1 : Int32))) hw
theorem t_X9_noon_l6 {X : Cx} (p1 : Int32) (h : Hp) (Q : Int32 → Prop) (K6 : Int32 × Int32 → Prop) (v2 : Int32) (v3 : Int32) (hK6 : ∀ s : Int32 × Int32, K6 s → G X M_X9_noon E_X9_noon (QM X E_X9_noon (QIp h Q) Qn) 0 6 [(0, .ref (92)), (1, .int (p1)), (2, .int (s.1)), (3, .int (s.2))] [] (h)) (hw : w_X9_noon_l6 p1 h Q K6 v2 v3) : G X M_X9_noon E_X9_noon (QM X E_X9_noon (QIp h Q) Qn) 0 6 [(0, .ref (92)), (1, .int (p1)), (2, .int (v2)), (3, .int (v3))] [] h := by
  unfold w_X9_noon_l6 at hw
  refine g_iload_n 3 (dk D_X9_noon 4 rfl) rfl rfl ?_
  refine g_iload_n 1 (dk D_X9_noon 5 rfl) rfl rfl ?_
  refine g_icmp_gt (dk D_X9_noon 6 rfl) rfl (wif_m hw (fun hw => ?_) (fun hw => ?_))
  · refine g_iload_n 2 (dk D_X9_noon 22 rfl) rfl rfl ?_
    exact g_iret (dk D_X9_noon 23 rfl) rfl ⟨_, rfl, rfl, hw⟩
  · refine g_aload_n 0 (dk D_X9_noon 7 rfl) rfl rfl ?_
    refine g_getR 13 (t := 97) (dk D_X9_noon 8 rfl) kd_92 rfl rfl (by decide) w_1370 rfl rfl rfl ?_
    refine g_iload_n 3 (dk D_X9_noon 9 rfl) rfl rfl ?_
    obtain ⟨hi1, hw⟩ := hw
    refine g_iald (dk D_X9_noon 10 rfl) kd_97 hi1 ?_
    refine g_iconst (dk D_X9_noon 11 rfl) ki_m1 ?_
    refine g_icmp_ne (dk D_X9_noon 12 rfl) rfl (wif_m hw (fun hw => ?_) (fun hw => ?_))
    · refine g_aload_n 0 (dk D_X9_noon 15 rfl) rfl rfl ?_
      refine g_getR 13 (t := 97) (dk D_X9_noon 16 rfl) kd_92 rfl rfl (by decide) w_1370 rfl rfl rfl ?_
      refine g_iload_n 3 (dk D_X9_noon 17 rfl) rfl rfl ?_
      obtain ⟨hi2, hw⟩ := hw
      refine g_iald (dk D_X9_noon 18 rfl) kd_97 hi2 ?_
      refine g_sub [0, 1, 3] rfl ?_
      exact t_X9_noon_b31 p1 (v3) ((h 97 (Int32.toNatClampNeg v3))) K6 (h) Q hK6 hw
    · refine g_iload_n 2 (dk D_X9_noon 13 rfl) rfl rfl ?_
      refine g_goto (dk D_X9_noon 14 rfl) rfl ?_
      refine g_sub [0, 1, 3] rfl ?_
      exact t_X9_noon_b31 p1 (v3) (v2) K6 (h) Q hK6 hw
theorem t_X9_noon_b6 {X : Cx} (p1 : Int32) (h : Hp) (Q : Int32 → Prop) (s : Int32 × Int32) (hw : w_X9_noon_b6 p1 h Q s) : G X M_X9_noon E_X9_noon (QM X E_X9_noon (QIp h Q) Qn) 0 6 [(0, .ref (92)), (1, .int (p1)), (2, .int (s.1)), (3, .int (s.2))] [] (h) :=
  wl_ind (B := fun K s => w_X9_noon_l6 p1 h Q K (s.1) (s.2)) (P := fun s => G X M_X9_noon E_X9_noon (QM X E_X9_noon (QIp h Q) Qn) 0 6 [(0, .ref (92)), (1, .int (p1)), (2, .int (s.1)), (3, .int (s.2))] [] (h)) (fun K hK s hw => t_X9_noon_l6 p1 h Q K (s.1) (s.2) hK hw) s hw
theorem t_X9_noon {X : Cx} (p1 : Int32) (h : Hp) (Q : Int32 → Prop) (hw : w_X9_noon p1 h Q) : G X M_X9_noon E_X9_noon (QM X E_X9_noon (QIp h Q) Qn) 0 0 [(0, .ref (92)), (1, .int (p1))] [] h := by
  unfold w_X9_noon at hw
  refine g_sipush (dk D_X9_noon 0 rfl) ks_2700 ?_
  refine g_istore_n (dk D_X9_noon 1 rfl) rfl (by decide) rfl ?_
  refine g_iconst (dk D_X9_noon 2 rfl) ki_0 ?_
  refine g_istore_n (dk D_X9_noon 3 rfl) rfl (by decide) rfl ?_
  refine g_sub [2, 3, 1, 0] rfl ?_
  exact t_X9_noon_b6 p1 (h) Q ((2700 : Int32), (0 : Int32)) hw
theorem c_X9_noon {X : Cx} (p1 : Int32) (h : Hp) (Q : Int32 → Prop) (hw : w_X9_noon p1 h Q) : Con X yX9_noon M_X9_noon 0 0 0 [.ref (92), .int (p1)] h (QIp h Q) Qn :=
  con_of (by decide +kernel) rfl (Nat.le_of_ble_eq_true rfl) (t_X9_noon p1 h Q hw)
/-! ShadowTollsModel.isDay(I)Z -/
abbrev M_X9_isDay : Mi := (RX9, cX9_isDay, 1, (some .boolean))
abbrev E_X9_isDay : Rm := (1, 30, 0, 0)
def rows_X9_isDay : List (Nat × Instr × Nat) := [(0, .iload_n 0, 1), (1, .iconst 0, 1), (2, .bipush 29, 2), (4, .invokestatic 145, 3), (7, .ireturn, 1)]
theorem D_X9_isDay : dkA cX9_isDay rows_X9_isDay := by
  unfold dkA
  decide +kernel
theorem okD_X9_isDay : okD yX9_isDay 1 := by
  unfold okD
  decide +kernel
def w_X9_isDay (p0 : Int32) (h : Hp) (Q : Int32 → Prop) : Prop :=
  w_X9_in (p0) ((0 : Int32)) ((29 : Int32)) h (fun z1 => Q (z1 &&& 1))
theorem t_X9_isDay {X : Cx} (p0 : Int32) (h : Hp) (Q : Int32 → Prop) (hw : w_X9_isDay p0 h Q) : G X M_X9_isDay E_X9_isDay (QM X E_X9_isDay (QIp h Q) Qn) 0 0 [(0, .int (p0))] [] h := by
  unfold w_X9_isDay at hw
  refine g_iload_n 0 (dk D_X9_isDay 0 rfl) rfl rfl ?_
  refine g_iconst (dk D_X9_isDay 1 rfl) ki_0 ?_
  refine g_bipush (dk D_X9_isDay 2 rfl) kb_29 ?_
  refine g_callS (As := [.int (p0), .int ((0 : Int32)), .int ((29 : Int32))]) (kc := 0) (fr := 0) (lo := 0) (mc := 0) (My := M_X9_in) (dk D_X9_isDay 3 rfl) w_1527 w_1528 w_110 w_1529 okD_X9_in (by decide) (Nat.le_of_ble_eq_true rfl) rfl (c_X9_in (p0) ((0 : Int32)) ((29 : Int32)) (h) _ hw) kxN (kIp (fun z1 hw => ?_))
  exact g_zret (dk D_X9_isDay 4 rfl) rfl ⟨_, rfl, rfl, hw⟩
theorem c_X9_isDay {X : Cx} (p0 : Int32) (h : Hp) (Q : Int32 → Prop) (hw : w_X9_isDay p0 h Q) : Con X yX9_isDay M_X9_isDay 1 30 0 [.int (p0)] h (QIp h Q) Qn :=
  con_of (by decide +kernel) rfl (Nat.le_of_ble_eq_true rfl) (t_X9_isDay p0 h Q hw)
/-! ShadowTollsModel.isMinute(I)Z -/
abbrev M_X9_isMinute : Mi := (RX9, cX9_isMinute, 1, (some .boolean))
abbrev E_X9_isMinute : Rm := (1, 30, 0, 0)
def rows_X9_isMinute : List (Nat × Instr × Nat) := [(0, .iload_n 0, 1), (1, .iconst 0, 1), (2, .sipush 1439, 3), (5, .invokestatic 145, 3), (8, .ireturn, 1)]
theorem D_X9_isMinute : dkA cX9_isMinute rows_X9_isMinute := by
  unfold dkA
  decide +kernel
theorem okD_X9_isMinute : okD yX9_isMinute 1 := by
  unfold okD
  decide +kernel
def w_X9_isMinute (p0 : Int32) (h : Hp) (Q : Int32 → Prop) : Prop :=
  w_X9_in (p0) ((0 : Int32)) ((1439 : Int32)) h (fun z1 => Q (z1 &&& 1))
theorem t_X9_isMinute {X : Cx} (p0 : Int32) (h : Hp) (Q : Int32 → Prop) (hw : w_X9_isMinute p0 h Q) : G X M_X9_isMinute E_X9_isMinute (QM X E_X9_isMinute (QIp h Q) Qn) 0 0 [(0, .int (p0))] [] h := by
  unfold w_X9_isMinute at hw
  refine g_iload_n 0 (dk D_X9_isMinute 0 rfl) rfl rfl ?_
  refine g_iconst (dk D_X9_isMinute 1 rfl) ki_0 ?_
  refine g_sipush (dk D_X9_isMinute 2 rfl) ks_1439 ?_
  refine g_callS (As := [.int (p0), .int ((0 : Int32)), .int ((1439 : Int32))]) (kc := 0) (fr := 0) (lo := 0) (mc := 0) (My := M_X9_in) (dk D_X9_isMinute 3 rfl) w_1527 w_1528 w_110 w_1529 okD_X9_in (by decide) (Nat.le_of_ble_eq_true rfl) rfl (c_X9_in (p0) ((0 : Int32)) ((1439 : Int32)) (h) _ hw) kxN (kIp (fun z1 hw => ?_))
  exact g_zret (dk D_X9_isMinute 4 rfl) rfl ⟨_, rfl, rfl, hw⟩
theorem c_X9_isMinute {X : Cx} (p0 : Int32) (h : Hp) (Q : Int32 → Prop) (hw : w_X9_isMinute p0 h Q) : Con X yX9_isMinute M_X9_isMinute 1 30 0 [.int (p0)] h (QIp h Q) Qn :=
  con_of (by decide +kernel) rfl (Nat.le_of_ble_eq_true rfl) (t_X9_isMinute p0 h Q hw)
/-! ShadowTollsModel.day(II)I -/
abbrev M_X9_day : Mi := (RX9, cX9_day, 3, (some .int))
abbrev E_X9_day : Rm := (2, 58, 0, 0)
def rows_X9_day : List (Nat × Instr × Nat) := [(0, .aload_n 0, 1), (1, .iconst 0, 1), (2, .putfield 111, 3), (5, .aload_n 0, 1), (6, .iload_n 1, 1), (7, .invokestatic 281, 3), (10, .ifCond .eq 12, 3), (13, .iload_n 2, 1), (14, .iconst 0, 1), (15, .iconst 1, 1), (16, .invokestatic 145, 3), (19, .ifCond .ne 7, 3), (22, .iconst 1, 1), (23, .goto 4, 3), (26, .iconst 0, 1), (27, .iconst 1, 1), (28, .invokevirtual 202, 3), (31, .ifCond .eq 5, 3), (34, .iconst 0, 1), (35, .ireturn, 1), (36, .iload_n 2, 1), (37, .ifCond .ne 11, 3), (40, .aload_n 0, 1), (41, .iload_n 1, 1), (42, .invokevirtual 284, 3), (45, .goto 9, 3), (48, .aload_n 0, 1), (49, .getfield 32, 3), (52, .iload_n 1, 1), (53, .iaload, 1), (54, .ireturn, 1)]
theorem D_X9_day : dkA cX9_day rows_X9_day := by
  unfold dkA
  decide +kernel
theorem okD_X9_day : okD yX9_day 2 := by
  unfold okD
  decide +kernel
def w_X9_day_b27 (p1 : Int32) (p2 : Int32) (s0 : Int32) (h : Hp) (Q : Int32 → Hp → Prop) : Prop :=
  w_X9_bad (s0) ((1 : Int32)) h (fun z1 h2 => wif (z1 = 0) (wif (¬ p2 = 0) ((vp_in p1 30 ∧ Q (h2 99 (Int32.toNatClampNeg p1)) h2)) (w_X9_noon (p1) h2 (fun z4 => Q z4 h2))) (Q (0 : Int32) h2))
def w_X9_day_b22 (p1 : Int32) (p2 : Int32) (h : Hp) (Q : Int32 → Hp → Prop) : Prop :=
  w_X9_day_b27 p1 p2 ((1 : Int32)) (h) Q
def w_X9_day (p1 : Int32) (p2 : Int32) (h : Hp) (Q : Int32 → Hp → Prop) : Prop :=
  wlet (hup h 92 0 (0 : Int32)) (fun h1 => w_X9_isDay (p1) h1 (fun z2 => wif (z2 = 0) (w_X9_day_b22 p1 p2 (h1) Q) (w_X9_in (p2) ((0 : Int32)) ((1 : Int32)) h1 (fun z3 => w_X9_bad ((if ¬ z3 = 0 then (0 : Int32) else (1 : Int32))) ((1 : Int32)) h1 (fun z5 h6 => wif (z5 = 0) (wif (¬ p2 = 0) ((vp_in p1 30 ∧ Q (h6 99 (Int32.toNatClampNeg p1)) h6)) (w_X9_noon (p1) h6 (fun z8 => Q z8 h6))) (Q (0 : Int32) h6))))))
theorem t_X9_day_b27 {X : Cx} (p1 : Int32) (p2 : Int32) (s0 : Int32) (h : Hp) (Q : Int32 → Hp → Prop) (hw : w_X9_day_b27 p1 p2 s0 h Q) : G X M_X9_day E_X9_day (QM X E_X9_day (QI Q) Qn) 0 27 [(0, .ref (92)), (1, .int (p1)), (2, .int (p2))] [.int (s0), .ref (92)] h := by
  unfold w_X9_day_b27 at hw
  refine g_iconst (dk D_X9_day 15 rfl) ki_1 ?_
  refine g_callV (As := [.int (s0), .int ((1 : Int32))]) (kc := 0) (fr := 0) (lo := 0) (mc := 0) (My := M_X9_bad) (dk D_X9_day 16 rfl) kd_92 rfl rfl w_1530 w_1532 w_42 w_110 w_1533 okD_X9_bad (by decide) (Nat.le_of_ble_eq_true rfl) rfl (c_X9_bad (s0) ((1 : Int32)) (h) _ hw) kxN (kI (fun z1 h2 hw => ?_))
  refine g_if_eq (dk D_X9_day 17 rfl) rfl (wif_m hw (fun hw => ?_) (fun hw => ?_))
  · refine g_iload_n 2 (dk D_X9_day 20 rfl) rfl rfl ?_
    refine g_if_ne (dk D_X9_day 21 rfl) rfl (wif_m hw (fun hw => ?_) (fun hw => ?_))
    · refine g_aload_n 0 (dk D_X9_day 26 rfl) rfl rfl ?_
      refine g_getR 15 (t := 99) (dk D_X9_day 27 rfl) kd_92 rfl rfl (by decide) w_1372 rfl rfl rfl ?_
      refine g_iload_n 1 (dk D_X9_day 28 rfl) rfl rfl ?_
      obtain ⟨hi3, hw⟩ := hw
      refine g_iald (dk D_X9_day 29 rfl) kd_99 hi3 ?_
      exact g_iret (dk D_X9_day 30 rfl) rfl ⟨_, rfl, hw⟩
    · refine g_aload_n 0 (dk D_X9_day 22 rfl) rfl rfl ?_
      refine g_iload_n 1 (dk D_X9_day 23 rfl) rfl rfl ?_
      refine g_callV (As := [.int (p1)]) (kc := 0) (fr := 0) (lo := 0) (mc := 0) (My := M_X9_noon) (dk D_X9_day 24 rfl) kd_92 rfl rfl w_1679 w_1681 w_69 w_110 w_1682 okD_X9_noon (by decide) (Nat.le_of_ble_eq_true rfl) rfl (c_X9_noon (p1) (h2) _ hw) kxN (kIp (fun z4 hw => ?_))
      refine g_goto (dk D_X9_day 25 rfl) rfl ?_
      exact g_iret (dk D_X9_day 30 rfl) rfl ⟨_, rfl, hw⟩
  · refine g_iconst (dk D_X9_day 18 rfl) ki_0 ?_
    exact g_iret (dk D_X9_day 19 rfl) rfl ⟨_, rfl, hw⟩
theorem t_X9_day_b22 {X : Cx} (p1 : Int32) (p2 : Int32) (h : Hp) (Q : Int32 → Hp → Prop) (hw : w_X9_day_b22 p1 p2 h Q) : G X M_X9_day E_X9_day (QM X E_X9_day (QI Q) Qn) 0 22 [(0, .ref (92)), (1, .int (p1)), (2, .int (p2))] [.ref (92)] h := by
  unfold w_X9_day_b22 at hw
  refine g_iconst (dk D_X9_day 12 rfl) ki_1 ?_
  refine g_goto (dk D_X9_day 13 rfl) rfl ?_
  exact t_X9_day_b27 p1 p2 ((1 : Int32)) (h) Q hw
theorem t_X9_day {X : Cx} (p1 : Int32) (p2 : Int32) (h : Hp) (Q : Int32 → Hp → Prop) (hw : w_X9_day p1 p2 h Q) : G X M_X9_day E_X9_day (QM X E_X9_day (QI Q) Qn) 0 0 [(0, .ref (92)), (1, .int (p1)), (2, .int (p2))] [] h := by
  unfold w_X9_day at hw
  refine g_aload_n 0 (dk D_X9_day 0 rfl) rfl rfl ?_
  refine g_iconst (dk D_X9_day 1 rfl) ki_0 ?_
  refine g_put 0 (dk D_X9_day 2 rfl) kd_92 rfl rfl (by decide) w_1357 rfl tyX9_ok nmX9 rfl (by decide) rfl (fun z => absurd z (by decide)) ?_
  refine g_heap (fun h1 eh1 => ?_)
  replace hw := hw _ eh1
  refine g_aload_n 0 (dk D_X9_day 3 rfl) rfl rfl ?_
  refine g_iload_n 1 (dk D_X9_day 4 rfl) rfl rfl ?_
  refine g_callS (As := [.int (p1)]) (kc := 0) (fr := 1) (lo := 30) (mc := 0) (My := M_X9_isDay) (dk D_X9_day 5 rfl) w_1676 w_1677 w_110 w_1678 okD_X9_isDay (by decide) (Nat.le_of_ble_eq_true rfl) rfl (c_X9_isDay (p1) (h1) _ hw) kxN (kIp (fun z2 hw => ?_))
  refine g_if_eq (dk D_X9_day 6 rfl) rfl (wif_m hw (fun hw => ?_) (fun hw => ?_))
  · exact t_X9_day_b22 p1 p2 (h1) Q hw
  · refine g_iload_n 2 (dk D_X9_day 7 rfl) rfl rfl ?_
    refine g_iconst (dk D_X9_day 8 rfl) ki_0 ?_
    refine g_iconst (dk D_X9_day 9 rfl) ki_1 ?_
    refine g_callS (As := [.int (p2), .int ((0 : Int32)), .int ((1 : Int32))]) (kc := 0) (fr := 0) (lo := 0) (mc := 0) (My := M_X9_in) (dk D_X9_day 10 rfl) w_1527 w_1528 w_110 w_1529 okD_X9_in (by decide) (Nat.le_of_ble_eq_true rfl) rfl (c_X9_in (p2) ((0 : Int32)) ((1 : Int32)) (h1) _ hw) kxN (kIp (fun z3 hw => ?_))
    have hj : G X M_X9_day E_X9_day (QM X E_X9_day (QI Q) Qn) 0 27 [(0, .ref (92)), (1, .int (p1)), (2, .int (p2))] [.int ((if ¬ z3 = 0 then (0 : Int32) else (1 : Int32))), .ref (92)] (h1) := by
      refine g_iconst (dk D_X9_day 15 rfl) ki_1 ?_
      refine g_callV (As := [.int ((if ¬ z3 = 0 then (0 : Int32) else (1 : Int32))), .int ((1 : Int32))]) (kc := 0) (fr := 0) (lo := 0) (mc := 0) (My := M_X9_bad) (dk D_X9_day 16 rfl) kd_92 rfl rfl w_1530 w_1532 w_42 w_110 w_1533 okD_X9_bad (by decide) (Nat.le_of_ble_eq_true rfl) rfl (c_X9_bad ((if ¬ z3 = 0 then (0 : Int32) else (1 : Int32))) ((1 : Int32)) (h1) _ hw) kxN (kI (fun z5 h6 hw => ?_))
      refine g_if_eq (dk D_X9_day 17 rfl) rfl (wif_m hw (fun hw => ?_) (fun hw => ?_))
      · refine g_iload_n 2 (dk D_X9_day 20 rfl) rfl rfl ?_
        refine g_if_ne (dk D_X9_day 21 rfl) rfl (wif_m hw (fun hw => ?_) (fun hw => ?_))
        · refine g_aload_n 0 (dk D_X9_day 26 rfl) rfl rfl ?_
          refine g_getR 15 (t := 99) (dk D_X9_day 27 rfl) kd_92 rfl rfl (by decide) w_1372 rfl rfl rfl ?_
          refine g_iload_n 1 (dk D_X9_day 28 rfl) rfl rfl ?_
          obtain ⟨hi7, hw⟩ := hw
          refine g_iald (dk D_X9_day 29 rfl) kd_99 hi7 ?_
          exact g_iret (dk D_X9_day 30 rfl) rfl ⟨_, rfl, hw⟩
        · refine g_aload_n 0 (dk D_X9_day 22 rfl) rfl rfl ?_
          refine g_iload_n 1 (dk D_X9_day 23 rfl) rfl rfl ?_
          refine g_callV (As := [.int (p1)]) (kc := 0) (fr := 0) (lo := 0) (mc := 0) (My := M_X9_noon) (dk D_X9_day 24 rfl) kd_92 rfl rfl w_1679 w_1681 w_69 w_110 w_1682 okD_X9_noon (by decide) (Nat.le_of_ble_eq_true rfl) rfl (c_X9_noon (p1) (h6) _ hw) kxN (kIp (fun z8 hw => ?_))
          refine g_goto (dk D_X9_day 25 rfl) rfl ?_
          exact g_iret (dk D_X9_day 30 rfl) rfl ⟨_, rfl, hw⟩
      · refine g_iconst (dk D_X9_day 18 rfl) ki_0 ?_
        exact g_iret (dk D_X9_day 19 rfl) rfl ⟨_, rfl, hw⟩
    refine g_if_ne (dk D_X9_day 11 rfl) rfl ?_
    by_cases c4 : ¬ z3 = 0
    · rw [if_pos c4] at hj
      refine wif_p c4 ?_
      refine g_iconst (dk D_X9_day 14 rfl) ki_0 ?_
      exact hj
    · rw [if_neg c4] at hj
      refine wif_n c4 ?_
      refine g_iconst (dk D_X9_day 12 rfl) ki_1 ?_
      refine g_goto (dk D_X9_day 13 rfl) rfl ?_
      exact hj
theorem c_X9_day {X : Cx} (p1 : Int32) (p2 : Int32) (h : Hp) (Q : Int32 → Hp → Prop) (hw : w_X9_day p1 p2 h Q) : Con X yX9_day M_X9_day 2 58 0 [.ref (92), .int (p1), .int (p2)] h (QI Q) Qn :=
  con_of (by decide +kernel) rfl (Nat.le_of_ble_eq_true rfl) (t_X9_day p1 p2 h Q hw)
/-! ShadowTollsModel.isBridge(I)Z -/
abbrev M_X9_isBridge : Mi := (RX9, cX9_isBridge, 2, (some .boolean))
abbrev E_X9_isBridge : Rm := (0, 0, 0, 0)
def rows_X9_isBridge : List (Nat × Instr × Nat) := [(0, .iload_n 1, 1), (1, .ifCond .eq 19, 3), (4, .iload_n 1, 1), (5, .iconst 1, 1), (6, .if_icmp .ne 18, 3), (9, .aload_n 0, 1), (10, .getfield 20, 3), (13, .bipush 8, 2), (15, .iaload, 1), (16, .iconst 1, 1), (17, .if_icmp .ne 7, 3), (20, .iconst 1, 1), (21, .goto 4, 3), (24, .iconst 0, 1), (25, .ireturn, 1)]
theorem D_X9_isBridge : dkA cX9_isBridge rows_X9_isBridge := by
  unfold dkA
  decide +kernel
theorem okD_X9_isBridge : okD yX9_isBridge 1 := by
  unfold okD
  decide +kernel
def w_X9_isBridge_b20 (p1 : Int32) (h : Hp) (Q : Int32 → Prop) : Prop :=
  Q ((1 : Int32) &&& 1)
def w_X9_isBridge (p1 : Int32) (h : Hp) (Q : Int32 → Prop) : Prop :=
  wif (p1 = 0) (w_X9_isBridge_b20 p1 (h) Q) (wif (¬ p1 = (1 : Int32)) (Q ((0 : Int32) &&& 1)) ((vp_in (8 : Int32) 11 ∧ Q ((if ¬ (h 95 (Int32.toNatClampNeg (8 : Int32))) = (1 : Int32) then (0 : Int32) else (1 : Int32)) &&& 1))))
theorem t_X9_isBridge_b20 {X : Cx} (p1 : Int32) (h : Hp) (Q : Int32 → Prop) (hw : w_X9_isBridge_b20 p1 h Q) : G X M_X9_isBridge E_X9_isBridge (QM X E_X9_isBridge (QIp h Q) Qn) 0 20 [] [] h := by
  unfold w_X9_isBridge_b20 at hw
  refine g_iconst (dk D_X9_isBridge 11 rfl) ki_1 ?_
  refine g_goto (dk D_X9_isBridge 12 rfl) rfl ?_
  exact g_zret (dk D_X9_isBridge 14 rfl) rfl ⟨_, rfl, rfl, hw⟩
theorem t_X9_isBridge {X : Cx} (p1 : Int32) (h : Hp) (Q : Int32 → Prop) (hw : w_X9_isBridge p1 h Q) : G X M_X9_isBridge E_X9_isBridge (QM X E_X9_isBridge (QIp h Q) Qn) 0 0 [(0, .ref (92)), (1, .int (p1))] [] h := by
  unfold w_X9_isBridge at hw
  refine g_iload_n 1 (dk D_X9_isBridge 0 rfl) rfl rfl ?_
  refine g_if_eq (dk D_X9_isBridge 1 rfl) rfl (wif_m hw (fun hw => ?_) (fun hw => ?_))
  · refine g_sub [] rfl ?_
    exact t_X9_isBridge_b20 p1 (h) Q hw
  · refine g_iload_n 1 (dk D_X9_isBridge 2 rfl) rfl rfl ?_
    refine g_iconst (dk D_X9_isBridge 3 rfl) ki_1 ?_
    refine g_icmp_ne (dk D_X9_isBridge 4 rfl) rfl (wif_m hw (fun hw => ?_) (fun hw => ?_))
    · refine g_iconst (dk D_X9_isBridge 13 rfl) ki_0 ?_
      exact g_zret (dk D_X9_isBridge 14 rfl) rfl ⟨_, rfl, rfl, hw⟩
    · refine g_aload_n 0 (dk D_X9_isBridge 5 rfl) rfl rfl ?_
      refine g_getR 11 (t := 95) (dk D_X9_isBridge 6 rfl) kd_92 rfl rfl (by decide) w_1368 rfl rfl rfl ?_
      refine g_bipush (dk D_X9_isBridge 7 rfl) kb_8 ?_
      obtain ⟨hi1, hw⟩ := hw
      refine g_iald (dk D_X9_isBridge 8 rfl) kd_95 hi1 ?_
      refine g_iconst (dk D_X9_isBridge 9 rfl) ki_1 ?_
      have hj : G X M_X9_isBridge E_X9_isBridge (QM X E_X9_isBridge (QIp h Q) Qn) 0 25 [(0, .ref (92)), (1, .int (p1))] [.int ((if ¬ (h 95 (Int32.toNatClampNeg (8 : Int32))) = (1 : Int32) then (0 : Int32) else (1 : Int32)))] (h) := by
        exact g_zret (dk D_X9_isBridge 14 rfl) rfl ⟨_, rfl, rfl, hw⟩
      refine g_icmp_ne (dk D_X9_isBridge 10 rfl) rfl ?_
      by_cases c2 : ¬ (h 95 (Int32.toNatClampNeg (8 : Int32))) = (1 : Int32)
      · rw [if_pos c2] at hj
        refine wif_p c2 ?_
        refine g_iconst (dk D_X9_isBridge 13 rfl) ki_0 ?_
        exact hj
      · rw [if_neg c2] at hj
        refine wif_n c2 ?_
        refine g_iconst (dk D_X9_isBridge 11 rfl) ki_1 ?_
        refine g_goto (dk D_X9_isBridge 12 rfl) rfl ?_
        exact hj
theorem c_X9_isBridge {X : Cx} (p1 : Int32) (h : Hp) (Q : Int32 → Prop) (hw : w_X9_isBridge p1 h Q) : Con X yX9_isBridge M_X9_isBridge 0 0 0 [.ref (92), .int (p1)] h (QIp h Q) Qn :=
  con_of (by decide +kernel) rfl (Nat.le_of_ble_eq_true rfl) (t_X9_isBridge p1 h Q hw)
/-! ShadowTollsModel.altitudeOf(III)I -/
abbrev M_X9_altitudeOf : Mi := (RX9, cX9_altitudeOf, 5, (some .int))
abbrev E_X9_altitudeOf : Rm := (1, 31, 0, 0)
def rows_X9_altitudeOf : List (Nat × Instr × Nat) := [(0, .aload_n 0, 1), (1, .iload_n 2, 1), (2, .invokevirtual 284, 3), (5, .aload_n 0, 1), (6, .getfield 20, 3), (9, .iconst 1, 1), (10, .iaload, 1), (11, .iload_n 3, 1), (12, .sipush 720, 3), (15, .isub, 1), (16, .iload_n 1, 1), (17, .iconst 1, 1), (18, .if_icmp .ne 13, 3), (21, .aload_n 0, 1), (22, .getfield 20, 3), (25, .bipush 9, 2), (27, .iaload, 1), (28, .goto 4, 3), (31, .iconst 0, 1), (32, .iadd, 1), (33, .invokestatic 287, 3), (36, .imul, 1), (37, .isub, 1), (38, .istore 4, 2), (40, .iload 4, 2), (42, .iconst 1, 1), (43, .if_icmp .ge 13, 3), (46, .aload_n 0, 1), (47, .getfield 20, 3), (50, .bipush 6, 2), (52, .iaload, 1), (53, .goto 5, 3), (56, .iload 4, 2), (58, .ireturn, 1)]
theorem D_X9_altitudeOf : dkA cX9_altitudeOf rows_X9_altitudeOf := by
  unfold dkA
  decide +kernel
theorem okD_X9_altitudeOf : okD yX9_altitudeOf 3 := by
  unfold okD
  decide +kernel
def w_X9_altitudeOf_b32 (p1 : Int32) (p2 : Int32) (p3 : Int32) (s0 : Int32) (s1 : Int32) (s2 : Int32) (s3 : Int32) (h : Hp) (Q : Int32 → Prop) : Prop :=
  w_X9_amount ((s1 + s0)) h (fun z1 => wlet ((s3 - (s2 * z1))) (fun v4_2 => wif ((1 : Int32) ≤ v4_2) (Q v4_2) ((vp_in (6 : Int32) 11 ∧ Q (h 95 (Int32.toNatClampNeg (6 : Int32)))))))
def w_X9_altitudeOf (p1 : Int32) (p2 : Int32) (p3 : Int32) (h : Hp) (Q : Int32 → Prop) : Prop :=
  w_X9_noon (p2) h (fun z1 => (vp_in (1 : Int32) 11 ∧ wif (¬ p1 = (1 : Int32)) (w_X9_altitudeOf_b32 p1 p2 p3 ((0 : Int32)) ((p3 - (720 : Int32))) ((h 95 (Int32.toNatClampNeg (1 : Int32)))) (z1) (h) Q) ((vp_in (9 : Int32) 11 ∧ w_X9_altitudeOf_b32 p1 p2 p3 ((h 95 (Int32.toNatClampNeg (9 : Int32)))) ((p3 - (720 : Int32))) ((h 95 (Int32.toNatClampNeg (1 : Int32)))) (z1) (h) Q))))
theorem t_X9_altitudeOf_b32 {X : Cx} (p1 : Int32) (p2 : Int32) (p3 : Int32) (s0 : Int32) (s1 : Int32) (s2 : Int32) (s3 : Int32) (h : Hp) (Q : Int32 → Prop) (hw : w_X9_altitudeOf_b32 p1 p2 p3 s0 s1 s2 s3 h Q) : G X M_X9_altitudeOf E_X9_altitudeOf (QM X E_X9_altitudeOf (QIp h Q) Qn) 0 32 [(0, .ref (92))] [.int (s0), .int (s1), .int (s2), .int (s3)] h := by
  unfold w_X9_altitudeOf_b32 at hw
  refine g_iadd (dk D_X9_altitudeOf 19 rfl) ?_
  refine g_callS (As := [.int ((s1 + s0))]) (kc := 0) (fr := 0) (lo := 0) (mc := 0) (My := M_X9_amount) (dk D_X9_altitudeOf 20 rfl) w_1698 w_1699 w_110 w_1700 okD_X9_amount (by decide) (Nat.le_of_ble_eq_true rfl) rfl (c_X9_amount ((s1 + s0)) (h) _ hw) kxN (kIp (fun z1 hw => ?_))
  refine g_imul (dk D_X9_altitudeOf 21 rfl) ?_
  refine g_isub (dk D_X9_altitudeOf 22 rfl) ?_
  refine g_topi (fun v4_2 ev4_2 => ?_)
  replace hw := hw _ ev4_2
  refine g_istore (dk D_X9_altitudeOf 23 rfl) (by decide) rfl ?_
  refine g_iload 0 (dk D_X9_altitudeOf 24 rfl) rfl ?_
  refine g_iconst (dk D_X9_altitudeOf 25 rfl) ki_1 ?_
  refine g_icmp_ge (dk D_X9_altitudeOf 26 rfl) rfl (wif_m hw (fun hw => ?_) (fun hw => ?_))
  · refine g_iload 0 (dk D_X9_altitudeOf 32 rfl) rfl ?_
    exact g_iret (dk D_X9_altitudeOf 33 rfl) rfl ⟨_, rfl, rfl, hw⟩
  · refine g_aload_n 1 (dk D_X9_altitudeOf 27 rfl) rfl rfl ?_
    refine g_getR 11 (t := 95) (dk D_X9_altitudeOf 28 rfl) kd_92 rfl rfl (by decide) w_1368 rfl rfl rfl ?_
    refine g_bipush (dk D_X9_altitudeOf 29 rfl) kb_6 ?_
    obtain ⟨hi3, hw⟩ := hw
    refine g_iald (dk D_X9_altitudeOf 30 rfl) kd_95 hi3 ?_
    refine g_goto (dk D_X9_altitudeOf 31 rfl) rfl ?_
    exact g_iret (dk D_X9_altitudeOf 33 rfl) rfl ⟨_, rfl, rfl, hw⟩
theorem t_X9_altitudeOf {X : Cx} (p1 : Int32) (p2 : Int32) (p3 : Int32) (h : Hp) (Q : Int32 → Prop) (hw : w_X9_altitudeOf p1 p2 p3 h Q) : G X M_X9_altitudeOf E_X9_altitudeOf (QM X E_X9_altitudeOf (QIp h Q) Qn) 0 0 [(0, .ref (92)), (1, .int (p1)), (2, .int (p2)), (3, .int (p3))] [] h := by
  unfold w_X9_altitudeOf at hw
  refine g_aload_n 0 (dk D_X9_altitudeOf 0 rfl) rfl rfl ?_
  refine g_iload_n 2 (dk D_X9_altitudeOf 1 rfl) rfl rfl ?_
  refine g_callV (As := [.int (p2)]) (kc := 0) (fr := 0) (lo := 0) (mc := 0) (My := M_X9_noon) (dk D_X9_altitudeOf 2 rfl) kd_92 rfl rfl w_1679 w_1681 w_69 w_110 w_1682 okD_X9_noon (by decide) (Nat.le_of_ble_eq_true rfl) rfl (c_X9_noon (p2) (h) _ hw) kxN (kIp (fun z1 hw => ?_))
  refine g_aload_n 0 (dk D_X9_altitudeOf 3 rfl) rfl rfl ?_
  refine g_getR 11 (t := 95) (dk D_X9_altitudeOf 4 rfl) kd_92 rfl rfl (by decide) w_1368 rfl rfl rfl ?_
  refine g_iconst (dk D_X9_altitudeOf 5 rfl) ki_1 ?_
  obtain ⟨hi2, hw⟩ := hw
  refine g_iald (dk D_X9_altitudeOf 6 rfl) kd_95 hi2 ?_
  refine g_iload_n 3 (dk D_X9_altitudeOf 7 rfl) rfl rfl ?_
  refine g_sipush (dk D_X9_altitudeOf 8 rfl) ks_720 ?_
  refine g_isub (dk D_X9_altitudeOf 9 rfl) ?_
  refine g_iload_n 1 (dk D_X9_altitudeOf 10 rfl) rfl rfl ?_
  refine g_iconst (dk D_X9_altitudeOf 11 rfl) ki_1 ?_
  refine g_icmp_ne (dk D_X9_altitudeOf 12 rfl) rfl (wif_m hw (fun hw => ?_) (fun hw => ?_))
  · refine g_iconst (dk D_X9_altitudeOf 18 rfl) ki_0 ?_
    refine g_sub [0] rfl ?_
    exact t_X9_altitudeOf_b32 p1 p2 p3 ((0 : Int32)) ((p3 - (720 : Int32))) ((h 95 (Int32.toNatClampNeg (1 : Int32)))) (z1) (h) Q hw
  · refine g_aload_n 0 (dk D_X9_altitudeOf 13 rfl) rfl rfl ?_
    refine g_getR 11 (t := 95) (dk D_X9_altitudeOf 14 rfl) kd_92 rfl rfl (by decide) w_1368 rfl rfl rfl ?_
    refine g_bipush (dk D_X9_altitudeOf 15 rfl) kb_9 ?_
    obtain ⟨hi3, hw⟩ := hw
    refine g_iald (dk D_X9_altitudeOf 16 rfl) kd_95 hi3 ?_
    refine g_goto (dk D_X9_altitudeOf 17 rfl) rfl ?_
    refine g_sub [0] rfl ?_
    exact t_X9_altitudeOf_b32 p1 p2 p3 ((h 95 (Int32.toNatClampNeg (9 : Int32)))) ((p3 - (720 : Int32))) ((h 95 (Int32.toNatClampNeg (1 : Int32)))) (z1) (h) Q hw
theorem c_X9_altitudeOf {X : Cx} (p1 : Int32) (p2 : Int32) (p3 : Int32) (h : Hp) (Q : Int32 → Prop) (hw : w_X9_altitudeOf p1 p2 p3 h Q) : Con X yX9_altitudeOf M_X9_altitudeOf 1 31 0 [.ref (92), .int (p1), .int (p2), .int (p3)] h (QIp h Q) Qn :=
  con_of (by decide +kernel) rfl (Nat.le_of_ble_eq_true rfl) (t_X9_altitudeOf p1 p2 p3 h Q hw)
/-! ShadowTollsModel.altitude(III)I -/
abbrev M_X9_altitude : Mi := (RX9, cX9_altitude, 4, (some .int))
abbrev E_X9_altitude : Rm := (2, 63, 0, 0)
def rows_X9_altitude : List (Nat × Instr × Nat) := [(0, .aload_n 0, 1), (1, .iconst 0, 1), (2, .putfield 111, 3), (5, .aload_n 0, 1), (6, .aload_n 0, 1), (7, .iload_n 1, 1), (8, .invokevirtual 290, 3), (11, .ifCond .ne 7, 3), (14, .iconst 1, 1), (15, .goto 4, 3), (18, .iconst 0, 1), (19, .iconst 1, 1), (20, .invokevirtual 202, 3), (23, .ifCond .ne 30, 3), (26, .aload_n 0, 1), (27, .iload_n 2, 1), (28, .invokestatic 281, 3), (31, .ifCond .eq 10, 3), (34, .iload_n 3, 1), (35, .invokestatic 293, 3), (38, .ifCond .ne 7, 3), (41, .iconst 1, 1), (42, .goto 4, 3), (45, .iconst 0, 1), (46, .iconst 2, 1), (47, .invokevirtual 202, 3), (50, .ifCond .eq 5, 3), (53, .iconst 0, 1), (54, .ireturn, 1), (55, .aload_n 0, 1), (56, .iload_n 1, 1), (57, .iload_n 2, 1), (58, .iload_n 3, 1), (59, .invokevirtual 296, 3), (62, .ireturn, 1)]
theorem D_X9_altitude : dkA cX9_altitude rows_X9_altitude := by
  unfold dkA
  decide +kernel
theorem okD_X9_altitude : okD yX9_altitude 3 := by
  unfold okD
  decide +kernel
def w_X9_altitude_b46 (p1 : Int32) (p2 : Int32) (p3 : Int32) (s0 : Int32) (h : Hp) (Q : Int32 → Hp → Prop) : Prop :=
  w_X9_bad (s0) ((2 : Int32)) h (fun z1 h2 => wif (z1 = 0) (w_X9_altitudeOf (p1) (p2) (p3) h2 (fun z3 => Q z3 h2)) (Q (0 : Int32) h2))
def w_X9_altitude_b41 (p1 : Int32) (p2 : Int32) (p3 : Int32) (h : Hp) (Q : Int32 → Hp → Prop) : Prop :=
  w_X9_altitude_b46 p1 p2 p3 ((1 : Int32)) (h) Q
def w_X9_altitude (p1 : Int32) (p2 : Int32) (p3 : Int32) (h : Hp) (Q : Int32 → Hp → Prop) : Prop :=
  wlet (hup h 92 0 (0 : Int32)) (fun h1 => w_X9_isBridge (p1) h1 (fun z2 => w_X9_bad ((if ¬ z2 = 0 then (0 : Int32) else (1 : Int32))) ((1 : Int32)) h1 (fun z4 h5 => wif (¬ z4 = 0) (Q (0 : Int32) h5) (w_X9_isDay (p2) h5 (fun z6 => wif (z6 = 0) (w_X9_altitude_b41 p1 p2 p3 (h5) Q) (w_X9_isMinute (p3) h5 (fun z7 => w_X9_bad ((if ¬ z7 = 0 then (0 : Int32) else (1 : Int32))) ((2 : Int32)) h5 (fun z9 h10 => wif (z9 = 0) (w_X9_altitudeOf (p1) (p2) (p3) h10 (fun z11 => Q z11 h10)) (Q (0 : Int32) h10)))))))))
theorem t_X9_altitude_b46 {X : Cx} (p1 : Int32) (p2 : Int32) (p3 : Int32) (s0 : Int32) (h : Hp) (Q : Int32 → Hp → Prop) (hw : w_X9_altitude_b46 p1 p2 p3 s0 h Q) : G X M_X9_altitude E_X9_altitude (QM X E_X9_altitude (QI Q) Qn) 0 46 [(0, .ref (92)), (1, .int (p1)), (2, .int (p2)), (3, .int (p3))] [.int (s0), .ref (92)] h := by
  unfold w_X9_altitude_b46 at hw
  refine g_iconst (dk D_X9_altitude 24 rfl) ki_2 ?_
  refine g_callV (As := [.int (s0), .int ((2 : Int32))]) (kc := 0) (fr := 0) (lo := 0) (mc := 0) (My := M_X9_bad) (dk D_X9_altitude 25 rfl) kd_92 rfl rfl w_1530 w_1532 w_42 w_110 w_1533 okD_X9_bad (by decide) (Nat.le_of_ble_eq_true rfl) rfl (c_X9_bad (s0) ((2 : Int32)) (h) _ hw) kxN (kI (fun z1 h2 hw => ?_))
  refine g_if_eq (dk D_X9_altitude 26 rfl) rfl (wif_m hw (fun hw => ?_) (fun hw => ?_))
  · refine g_aload_n 0 (dk D_X9_altitude 29 rfl) rfl rfl ?_
    refine g_iload_n 1 (dk D_X9_altitude 30 rfl) rfl rfl ?_
    refine g_iload_n 2 (dk D_X9_altitude 31 rfl) rfl rfl ?_
    refine g_iload_n 3 (dk D_X9_altitude 32 rfl) rfl rfl ?_
    refine g_callV (As := [.int (p1), .int (p2), .int (p3)]) (kc := 0) (fr := 1) (lo := 31) (mc := 0) (My := M_X9_altitudeOf) (dk D_X9_altitude 33 rfl) kd_92 rfl rfl w_1694 w_1696 w_71 w_110 w_1697 okD_X9_altitudeOf (by decide) (Nat.le_of_ble_eq_true rfl) rfl (c_X9_altitudeOf (p1) (p2) (p3) (h2) _ hw) kxN (kIp (fun z3 hw => ?_))
    exact g_iret (dk D_X9_altitude 34 rfl) rfl ⟨_, rfl, hw⟩
  · refine g_iconst (dk D_X9_altitude 27 rfl) ki_0 ?_
    exact g_iret (dk D_X9_altitude 28 rfl) rfl ⟨_, rfl, hw⟩
theorem t_X9_altitude_b41 {X : Cx} (p1 : Int32) (p2 : Int32) (p3 : Int32) (h : Hp) (Q : Int32 → Hp → Prop) (hw : w_X9_altitude_b41 p1 p2 p3 h Q) : G X M_X9_altitude E_X9_altitude (QM X E_X9_altitude (QI Q) Qn) 0 41 [(0, .ref (92)), (1, .int (p1)), (2, .int (p2)), (3, .int (p3))] [.ref (92)] h := by
  unfold w_X9_altitude_b41 at hw
  refine g_iconst (dk D_X9_altitude 21 rfl) ki_1 ?_
  refine g_goto (dk D_X9_altitude 22 rfl) rfl ?_
  exact t_X9_altitude_b46 p1 p2 p3 ((1 : Int32)) (h) Q hw
theorem t_X9_altitude {X : Cx} (p1 : Int32) (p2 : Int32) (p3 : Int32) (h : Hp) (Q : Int32 → Hp → Prop) (hw : w_X9_altitude p1 p2 p3 h Q) : G X M_X9_altitude E_X9_altitude (QM X E_X9_altitude (QI Q) Qn) 0 0 [(0, .ref (92)), (1, .int (p1)), (2, .int (p2)), (3, .int (p3))] [] h := by
  unfold w_X9_altitude at hw
  refine g_aload_n 0 (dk D_X9_altitude 0 rfl) rfl rfl ?_
  refine g_iconst (dk D_X9_altitude 1 rfl) ki_0 ?_
  refine g_put 0 (dk D_X9_altitude 2 rfl) kd_92 rfl rfl (by decide) w_1357 rfl tyX9_ok nmX9 rfl (by decide) rfl (fun z => absurd z (by decide)) ?_
  refine g_heap (fun h1 eh1 => ?_)
  replace hw := hw _ eh1
  refine g_aload_n 0 (dk D_X9_altitude 3 rfl) rfl rfl ?_
  refine g_aload_n 0 (dk D_X9_altitude 4 rfl) rfl rfl ?_
  refine g_iload_n 1 (dk D_X9_altitude 5 rfl) rfl rfl ?_
  refine g_callV (As := [.int (p1)]) (kc := 0) (fr := 0) (lo := 0) (mc := 0) (My := M_X9_isBridge) (dk D_X9_altitude 6 rfl) kd_92 rfl rfl w_1687 w_1689 w_70 w_110 w_1690 okD_X9_isBridge (by decide) (Nat.le_of_ble_eq_true rfl) rfl (c_X9_isBridge (p1) (h1) _ hw) kxN (kIp (fun z2 hw => ?_))
  have hj : G X M_X9_altitude E_X9_altitude (QM X E_X9_altitude (QI Q) Qn) 0 19 [(0, .ref (92)), (1, .int (p1)), (2, .int (p2)), (3, .int (p3))] [.int ((if ¬ z2 = 0 then (0 : Int32) else (1 : Int32))), .ref (92)] (h1) := by
    refine g_iconst (dk D_X9_altitude 11 rfl) ki_1 ?_
    refine g_callV (As := [.int ((if ¬ z2 = 0 then (0 : Int32) else (1 : Int32))), .int ((1 : Int32))]) (kc := 0) (fr := 0) (lo := 0) (mc := 0) (My := M_X9_bad) (dk D_X9_altitude 12 rfl) kd_92 rfl rfl w_1530 w_1532 w_42 w_110 w_1533 okD_X9_bad (by decide) (Nat.le_of_ble_eq_true rfl) rfl (c_X9_bad ((if ¬ z2 = 0 then (0 : Int32) else (1 : Int32))) ((1 : Int32)) (h1) _ hw) kxN (kI (fun z4 h5 hw => ?_))
    refine g_if_ne (dk D_X9_altitude 13 rfl) rfl (wif_m hw (fun hw => ?_) (fun hw => ?_))
    · refine g_iconst (dk D_X9_altitude 27 rfl) ki_0 ?_
      exact g_iret (dk D_X9_altitude 28 rfl) rfl ⟨_, rfl, hw⟩
    · refine g_aload_n 0 (dk D_X9_altitude 14 rfl) rfl rfl ?_
      refine g_iload_n 2 (dk D_X9_altitude 15 rfl) rfl rfl ?_
      refine g_callS (As := [.int (p2)]) (kc := 0) (fr := 1) (lo := 30) (mc := 0) (My := M_X9_isDay) (dk D_X9_altitude 16 rfl) w_1676 w_1677 w_110 w_1678 okD_X9_isDay (by decide) (Nat.le_of_ble_eq_true rfl) rfl (c_X9_isDay (p2) (h5) _ hw) kxN (kIp (fun z6 hw => ?_))
      refine g_if_eq (dk D_X9_altitude 17 rfl) rfl (wif_m hw (fun hw => ?_) (fun hw => ?_))
      · exact t_X9_altitude_b41 p1 p2 p3 (h5) Q hw
      · refine g_iload_n 3 (dk D_X9_altitude 18 rfl) rfl rfl ?_
        refine g_callS (As := [.int (p3)]) (kc := 0) (fr := 1) (lo := 30) (mc := 0) (My := M_X9_isMinute) (dk D_X9_altitude 19 rfl) w_1691 w_1692 w_110 w_1693 okD_X9_isMinute (by decide) (Nat.le_of_ble_eq_true rfl) rfl (c_X9_isMinute (p3) (h5) _ hw) kxN (kIp (fun z7 hw => ?_))
        have hj : G X M_X9_altitude E_X9_altitude (QM X E_X9_altitude (QI Q) Qn) 0 46 [(0, .ref (92)), (1, .int (p1)), (2, .int (p2)), (3, .int (p3))] [.int ((if ¬ z7 = 0 then (0 : Int32) else (1 : Int32))), .ref (92)] (h5) := by
          refine g_iconst (dk D_X9_altitude 24 rfl) ki_2 ?_
          refine g_callV (As := [.int ((if ¬ z7 = 0 then (0 : Int32) else (1 : Int32))), .int ((2 : Int32))]) (kc := 0) (fr := 0) (lo := 0) (mc := 0) (My := M_X9_bad) (dk D_X9_altitude 25 rfl) kd_92 rfl rfl w_1530 w_1532 w_42 w_110 w_1533 okD_X9_bad (by decide) (Nat.le_of_ble_eq_true rfl) rfl (c_X9_bad ((if ¬ z7 = 0 then (0 : Int32) else (1 : Int32))) ((2 : Int32)) (h5) _ hw) kxN (kI (fun z9 h10 hw => ?_))
          refine g_if_eq (dk D_X9_altitude 26 rfl) rfl (wif_m hw (fun hw => ?_) (fun hw => ?_))
          · refine g_aload_n 0 (dk D_X9_altitude 29 rfl) rfl rfl ?_
            refine g_iload_n 1 (dk D_X9_altitude 30 rfl) rfl rfl ?_
            refine g_iload_n 2 (dk D_X9_altitude 31 rfl) rfl rfl ?_
            refine g_iload_n 3 (dk D_X9_altitude 32 rfl) rfl rfl ?_
            refine g_callV (As := [.int (p1), .int (p2), .int (p3)]) (kc := 0) (fr := 1) (lo := 31) (mc := 0) (My := M_X9_altitudeOf) (dk D_X9_altitude 33 rfl) kd_92 rfl rfl w_1694 w_1696 w_71 w_110 w_1697 okD_X9_altitudeOf (by decide) (Nat.le_of_ble_eq_true rfl) rfl (c_X9_altitudeOf (p1) (p2) (p3) (h10) _ hw) kxN (kIp (fun z11 hw => ?_))
            exact g_iret (dk D_X9_altitude 34 rfl) rfl ⟨_, rfl, hw⟩
          · refine g_iconst (dk D_X9_altitude 27 rfl) ki_0 ?_
            exact g_iret (dk D_X9_altitude 28 rfl) rfl ⟨_, rfl, hw⟩
        refine g_if_ne (dk D_X9_altitude 20 rfl) rfl ?_
        by_cases c8 : ¬ z7 = 0
        · rw [if_pos c8] at hj
          refine wif_p c8 ?_
          refine g_iconst (dk D_X9_altitude 23 rfl) ki_0 ?_
          exact hj
        · rw [if_neg c8] at hj
          refine wif_n c8 ?_
          refine g_iconst (dk D_X9_altitude 21 rfl) ki_1 ?_
          refine g_goto (dk D_X9_altitude 22 rfl) rfl ?_
          exact hj
  refine g_if_ne (dk D_X9_altitude 7 rfl) rfl ?_
  by_cases c3 : ¬ z2 = 0
  · rw [if_pos c3] at hj
    refine wif_p c3 ?_
    refine g_iconst (dk D_X9_altitude 10 rfl) ki_0 ?_
    exact hj
  · rw [if_neg c3] at hj
    refine wif_n c3 ?_
    refine g_iconst (dk D_X9_altitude 8 rfl) ki_1 ?_
    refine g_goto (dk D_X9_altitude 9 rfl) rfl ?_
    exact hj
theorem c_X9_altitude {X : Cx} (p1 : Int32) (p2 : Int32) (p3 : Int32) (h : Hp) (Q : Int32 → Hp → Prop) (hw : w_X9_altitude p1 p2 p3 h Q) : Con X yX9_altitude M_X9_altitude 2 63 0 [.ref (92), .int (p1), .int (p2), .int (p3)] h (QI Q) Qn :=
  con_of (by decide +kernel) rfl (Nat.le_of_ble_eq_true rfl) (t_X9_altitude p1 p2 p3 h Q hw)
/-! ShadowTollsModel.shadowOf(IIII)I -/
abbrev M_X9_shadowOf : Mi := (RX9, cX9_shadowOf, 7, (some .int))
abbrev E_X9_shadowOf : Rm := (2, 63, 0, 0)
def rows_X9_shadowOf : List (Nat × Instr × Nat) := [(0, .aload_n 0, 1), (1, .iload_n 1, 1), (2, .iload_n 2, 1), (3, .iload_n 3, 1), (4, .invokevirtual 296, 3), (7, .istore 5, 2), (9, .iload 5, 2), (11, .ifCond .ne 5, 3), (14, .iconst 0, 1), (15, .ireturn, 1), (16, .iload 4, 2), (18, .sipush 5400, 3), (21, .iload 5, 2), (23, .isub, 1), (24, .imul, 1), (25, .iload 5, 2), (27, .idiv, 1), (28, .istore 6, 2), (30, .iload 6, 2), (32, .sipush 9999, 3), (35, .if_icmp .le 9, 3), (38, .sipush 9999, 3), (41, .goto 5, 3), (44, .iload 6, 2), (46, .ireturn, 1)]
theorem D_X9_shadowOf : dkA cX9_shadowOf rows_X9_shadowOf := by
  unfold dkA
  decide +kernel
theorem okD_X9_shadowOf : okD yX9_shadowOf 4 := by
  unfold okD
  decide +kernel
def w_X9_shadowOf (p1 : Int32) (p2 : Int32) (p3 : Int32) (p4 : Int32) (h : Hp) (Q : Int32 → Prop) : Prop :=
  w_X9_altitudeOf (p1) (p2) (p3) h (fun z1 => wif (¬ z1 = 0) ((¬ z1 = 0 ∧ wlet (((p4 * ((5400 : Int32) - z1)) / z1)) (fun v6_3 => Q (if v6_3 ≤ (9999 : Int32) then v6_3 else (9999 : Int32))))) (Q (0 : Int32)))
theorem t_X9_shadowOf {X : Cx} (p1 : Int32) (p2 : Int32) (p3 : Int32) (p4 : Int32) (h : Hp) (Q : Int32 → Prop) (hw : w_X9_shadowOf p1 p2 p3 p4 h Q) : G X M_X9_shadowOf E_X9_shadowOf (QM X E_X9_shadowOf (QIp h Q) Qn) 0 0 [(0, .ref (92)), (1, .int (p1)), (2, .int (p2)), (3, .int (p3)), (4, .int (p4))] [] h := by
  unfold w_X9_shadowOf at hw
  refine g_aload_n 0 (dk D_X9_shadowOf 0 rfl) rfl rfl ?_
  refine g_iload_n 1 (dk D_X9_shadowOf 1 rfl) rfl rfl ?_
  refine g_iload_n 2 (dk D_X9_shadowOf 2 rfl) rfl rfl ?_
  refine g_iload_n 3 (dk D_X9_shadowOf 3 rfl) rfl rfl ?_
  refine g_callV (As := [.int (p1), .int (p2), .int (p3)]) (kc := 0) (fr := 1) (lo := 31) (mc := 0) (My := M_X9_altitudeOf) (dk D_X9_shadowOf 4 rfl) kd_92 rfl rfl w_1694 w_1696 w_71 w_110 w_1697 okD_X9_altitudeOf (by decide) (Nat.le_of_ble_eq_true rfl) rfl (c_X9_altitudeOf (p1) (p2) (p3) (h) _ hw) kxN (kIp (fun z1 hw => ?_))
  refine g_istore (dk D_X9_shadowOf 5 rfl) (by decide) rfl ?_
  refine g_iload 0 (dk D_X9_shadowOf 6 rfl) rfl ?_
  refine g_if_ne (dk D_X9_shadowOf 7 rfl) rfl (wif_m hw (fun hw => ?_) (fun hw => ?_))
  · refine g_iload 5 (dk D_X9_shadowOf 10 rfl) rfl ?_
    refine g_sipush (dk D_X9_shadowOf 11 rfl) ks_5400 ?_
    refine g_iload 0 (dk D_X9_shadowOf 12 rfl) rfl ?_
    refine g_isub (dk D_X9_shadowOf 13 rfl) ?_
    refine g_imul (dk D_X9_shadowOf 14 rfl) ?_
    refine g_iload 0 (dk D_X9_shadowOf 15 rfl) rfl ?_
    obtain ⟨d2, hw⟩ := hw
    refine g_idiv (dk D_X9_shadowOf 16 rfl) d2 ?_
    refine g_topi (fun v6_3 ev6_3 => ?_)
    replace hw := hw _ ev6_3
    refine g_istore (dk D_X9_shadowOf 17 rfl) (by decide) rfl ?_
    refine g_iload 0 (dk D_X9_shadowOf 18 rfl) rfl ?_
    refine g_sipush (dk D_X9_shadowOf 19 rfl) ks_9999 ?_
    have hj : G X M_X9_shadowOf E_X9_shadowOf (QM X E_X9_shadowOf (QIp h Q) Qn) 0 46 [(6, .int (v6_3)), (5, .int (z1)), (0, .ref (92)), (1, .int (p1)), (2, .int (p2)), (3, .int (p3)), (4, .int (p4))] [.int ((if v6_3 ≤ (9999 : Int32) then v6_3 else (9999 : Int32)))] (h) := by
      exact g_iret (dk D_X9_shadowOf 24 rfl) rfl ⟨_, rfl, rfl, hw⟩
    refine g_icmp_le (dk D_X9_shadowOf 20 rfl) rfl ?_
    by_cases c4 : v6_3 ≤ (9999 : Int32)
    · rw [if_pos c4] at hj
      refine wif_p c4 ?_
      refine g_iload 0 (dk D_X9_shadowOf 23 rfl) rfl ?_
      exact hj
    · rw [if_neg c4] at hj
      refine wif_n c4 ?_
      refine g_sipush (dk D_X9_shadowOf 21 rfl) ks_9999 ?_
      refine g_goto (dk D_X9_shadowOf 22 rfl) rfl ?_
      exact hj
  · refine g_iconst (dk D_X9_shadowOf 8 rfl) ki_0 ?_
    exact g_iret (dk D_X9_shadowOf 9 rfl) rfl ⟨_, rfl, rfl, hw⟩
theorem c_X9_shadowOf {X : Cx} (p1 : Int32) (p2 : Int32) (p3 : Int32) (p4 : Int32) (h : Hp) (Q : Int32 → Prop) (hw : w_X9_shadowOf p1 p2 p3 p4 h Q) : Con X yX9_shadowOf M_X9_shadowOf 2 63 0 [.ref (92), .int (p1), .int (p2), .int (p3), .int (p4)] h (QIp h Q) Qn :=
  con_of (by decide +kernel) rfl (Nat.le_of_ble_eq_true rfl) (t_X9_shadowOf p1 p2 p3 p4 h Q hw)
/-! ShadowTollsModel.shadow(IIII)I -/
abbrev M_X9_shadow : Mi := (RX9, cX9_shadow, 5, (some .int))
abbrev E_X9_shadow : Rm := (3, 97, 0, 0)
def rows_X9_shadow : List (Nat × Instr × Nat) := [(0, .aload_n 0, 1), (1, .iconst 0, 1), (2, .putfield 111, 3), (5, .aload_n 0, 1), (6, .aload_n 0, 1), (7, .iload_n 1, 1), (8, .invokevirtual 290, 3), (11, .ifCond .ne 7, 3), (14, .iconst 1, 1), (15, .goto 4, 3), (18, .iconst 0, 1), (19, .iconst 1, 1), (20, .invokevirtual 202, 3), (23, .ifCond .ne 42, 3), (26, .aload_n 0, 1), (27, .iload_n 2, 1), (28, .invokestatic 281, 3), (31, .ifCond .eq 22, 3), (34, .iload_n 3, 1), (35, .invokestatic 293, 3), (38, .ifCond .eq 15, 3), (41, .iload 4, 2), (43, .iconst 1, 1), (44, .sipush 999, 3), (47, .invokestatic 145, 3), (50, .ifCond .ne 7, 3), (53, .iconst 1, 1), (54, .goto 4, 3), (57, .iconst 0, 1), (58, .iconst 2, 1), (59, .invokevirtual 202, 3), (62, .ifCond .eq 5, 3), (65, .iconst 0, 1), (66, .ireturn, 1), (67, .aload_n 0, 1), (68, .iload_n 1, 1), (69, .iload_n 2, 1), (70, .iload_n 3, 1), (71, .iload 4, 2), (73, .invokevirtual 299, 3), (76, .ireturn, 1)]
theorem D_X9_shadow : dkA cX9_shadow rows_X9_shadow := by
  unfold dkA
  decide +kernel
theorem okD_X9_shadow : okD yX9_shadow 4 := by
  unfold okD
  decide +kernel
def w_X9_shadow_b58 (p1 : Int32) (p2 : Int32) (p3 : Int32) (p4 : Int32) (s0 : Int32) (h : Hp) (Q : Int32 → Hp → Prop) : Prop :=
  w_X9_bad (s0) ((2 : Int32)) h (fun z1 h2 => wif (z1 = 0) (w_X9_shadowOf (p1) (p2) (p3) (p4) h2 (fun z3 => Q z3 h2)) (Q (0 : Int32) h2))
def w_X9_shadow_b53 (p1 : Int32) (p2 : Int32) (p3 : Int32) (p4 : Int32) (h : Hp) (Q : Int32 → Hp → Prop) : Prop :=
  w_X9_shadow_b58 p1 p2 p3 p4 ((1 : Int32)) (h) Q
def w_X9_shadow (p1 : Int32) (p2 : Int32) (p3 : Int32) (p4 : Int32) (h : Hp) (Q : Int32 → Hp → Prop) : Prop :=
  wlet (hup h 92 0 (0 : Int32)) (fun h1 => w_X9_isBridge (p1) h1 (fun z2 => w_X9_bad ((if ¬ z2 = 0 then (0 : Int32) else (1 : Int32))) ((1 : Int32)) h1 (fun z4 h5 => wif (¬ z4 = 0) (Q (0 : Int32) h5) (w_X9_isDay (p2) h5 (fun z6 => wif (z6 = 0) (w_X9_shadow_b53 p1 p2 p3 p4 (h5) Q) (w_X9_isMinute (p3) h5 (fun z7 => wif (z7 = 0) (w_X9_shadow_b53 p1 p2 p3 p4 (h5) Q) (w_X9_in (p4) ((1 : Int32)) ((999 : Int32)) h5 (fun z8 => w_X9_bad ((if ¬ z8 = 0 then (0 : Int32) else (1 : Int32))) ((2 : Int32)) h5 (fun z10 h11 => wif (z10 = 0) (w_X9_shadowOf (p1) (p2) (p3) (p4) h11 (fun z12 => Q z12 h11)) (Q (0 : Int32) h11)))))))))))
theorem t_X9_shadow_b58 {X : Cx} (p1 : Int32) (p2 : Int32) (p3 : Int32) (p4 : Int32) (s0 : Int32) (h : Hp) (Q : Int32 → Hp → Prop) (hw : w_X9_shadow_b58 p1 p2 p3 p4 s0 h Q) : G X M_X9_shadow E_X9_shadow (QM X E_X9_shadow (QI Q) Qn) 0 58 [(0, .ref (92)), (1, .int (p1)), (2, .int (p2)), (3, .int (p3)), (4, .int (p4))] [.int (s0), .ref (92)] h := by
  unfold w_X9_shadow_b58 at hw
  refine g_iconst (dk D_X9_shadow 29 rfl) ki_2 ?_
  refine g_callV (As := [.int (s0), .int ((2 : Int32))]) (kc := 0) (fr := 0) (lo := 0) (mc := 0) (My := M_X9_bad) (dk D_X9_shadow 30 rfl) kd_92 rfl rfl w_1530 w_1532 w_42 w_110 w_1533 okD_X9_bad (by decide) (Nat.le_of_ble_eq_true rfl) rfl (c_X9_bad (s0) ((2 : Int32)) (h) _ hw) kxN (kI (fun z1 h2 hw => ?_))
  refine g_if_eq (dk D_X9_shadow 31 rfl) rfl (wif_m hw (fun hw => ?_) (fun hw => ?_))
  · refine g_aload_n 0 (dk D_X9_shadow 34 rfl) rfl rfl ?_
    refine g_iload_n 1 (dk D_X9_shadow 35 rfl) rfl rfl ?_
    refine g_iload_n 2 (dk D_X9_shadow 36 rfl) rfl rfl ?_
    refine g_iload_n 3 (dk D_X9_shadow 37 rfl) rfl rfl ?_
    refine g_iload 4 (dk D_X9_shadow 38 rfl) rfl ?_
    refine g_callV (As := [.int (p1), .int (p2), .int (p3), .int (p4)]) (kc := 0) (fr := 2) (lo := 63) (mc := 0) (My := M_X9_shadowOf) (dk D_X9_shadow 39 rfl) kd_92 rfl rfl w_1705 w_1707 w_72 w_110 w_1708 okD_X9_shadowOf (by decide) (Nat.le_of_ble_eq_true rfl) rfl (c_X9_shadowOf (p1) (p2) (p3) (p4) (h2) _ hw) kxN (kIp (fun z3 hw => ?_))
    exact g_iret (dk D_X9_shadow 40 rfl) rfl ⟨_, rfl, hw⟩
  · refine g_iconst (dk D_X9_shadow 32 rfl) ki_0 ?_
    exact g_iret (dk D_X9_shadow 33 rfl) rfl ⟨_, rfl, hw⟩
theorem t_X9_shadow_b53 {X : Cx} (p1 : Int32) (p2 : Int32) (p3 : Int32) (p4 : Int32) (h : Hp) (Q : Int32 → Hp → Prop) (hw : w_X9_shadow_b53 p1 p2 p3 p4 h Q) : G X M_X9_shadow E_X9_shadow (QM X E_X9_shadow (QI Q) Qn) 0 53 [(0, .ref (92)), (1, .int (p1)), (2, .int (p2)), (3, .int (p3)), (4, .int (p4))] [.ref (92)] h := by
  unfold w_X9_shadow_b53 at hw
  refine g_iconst (dk D_X9_shadow 26 rfl) ki_1 ?_
  refine g_goto (dk D_X9_shadow 27 rfl) rfl ?_
  exact t_X9_shadow_b58 p1 p2 p3 p4 ((1 : Int32)) (h) Q hw
theorem t_X9_shadow {X : Cx} (p1 : Int32) (p2 : Int32) (p3 : Int32) (p4 : Int32) (h : Hp) (Q : Int32 → Hp → Prop) (hw : w_X9_shadow p1 p2 p3 p4 h Q) : G X M_X9_shadow E_X9_shadow (QM X E_X9_shadow (QI Q) Qn) 0 0 [(0, .ref (92)), (1, .int (p1)), (2, .int (p2)), (3, .int (p3)), (4, .int (p4))] [] h := by
  unfold w_X9_shadow at hw
  refine g_aload_n 0 (dk D_X9_shadow 0 rfl) rfl rfl ?_
  refine g_iconst (dk D_X9_shadow 1 rfl) ki_0 ?_
  refine g_put 0 (dk D_X9_shadow 2 rfl) kd_92 rfl rfl (by decide) w_1357 rfl tyX9_ok nmX9 rfl (by decide) rfl (fun z => absurd z (by decide)) ?_
  refine g_heap (fun h1 eh1 => ?_)
  replace hw := hw _ eh1
  refine g_aload_n 0 (dk D_X9_shadow 3 rfl) rfl rfl ?_
  refine g_aload_n 0 (dk D_X9_shadow 4 rfl) rfl rfl ?_
  refine g_iload_n 1 (dk D_X9_shadow 5 rfl) rfl rfl ?_
  refine g_callV (As := [.int (p1)]) (kc := 0) (fr := 0) (lo := 0) (mc := 0) (My := M_X9_isBridge) (dk D_X9_shadow 6 rfl) kd_92 rfl rfl w_1687 w_1689 w_70 w_110 w_1690 okD_X9_isBridge (by decide) (Nat.le_of_ble_eq_true rfl) rfl (c_X9_isBridge (p1) (h1) _ hw) kxN (kIp (fun z2 hw => ?_))
  have hj : G X M_X9_shadow E_X9_shadow (QM X E_X9_shadow (QI Q) Qn) 0 19 [(0, .ref (92)), (1, .int (p1)), (2, .int (p2)), (3, .int (p3)), (4, .int (p4))] [.int ((if ¬ z2 = 0 then (0 : Int32) else (1 : Int32))), .ref (92)] (h1) := by
    refine g_iconst (dk D_X9_shadow 11 rfl) ki_1 ?_
    refine g_callV (As := [.int ((if ¬ z2 = 0 then (0 : Int32) else (1 : Int32))), .int ((1 : Int32))]) (kc := 0) (fr := 0) (lo := 0) (mc := 0) (My := M_X9_bad) (dk D_X9_shadow 12 rfl) kd_92 rfl rfl w_1530 w_1532 w_42 w_110 w_1533 okD_X9_bad (by decide) (Nat.le_of_ble_eq_true rfl) rfl (c_X9_bad ((if ¬ z2 = 0 then (0 : Int32) else (1 : Int32))) ((1 : Int32)) (h1) _ hw) kxN (kI (fun z4 h5 hw => ?_))
    refine g_if_ne (dk D_X9_shadow 13 rfl) rfl (wif_m hw (fun hw => ?_) (fun hw => ?_))
    · refine g_iconst (dk D_X9_shadow 32 rfl) ki_0 ?_
      exact g_iret (dk D_X9_shadow 33 rfl) rfl ⟨_, rfl, hw⟩
    · refine g_aload_n 0 (dk D_X9_shadow 14 rfl) rfl rfl ?_
      refine g_iload_n 2 (dk D_X9_shadow 15 rfl) rfl rfl ?_
      refine g_callS (As := [.int (p2)]) (kc := 0) (fr := 1) (lo := 30) (mc := 0) (My := M_X9_isDay) (dk D_X9_shadow 16 rfl) w_1676 w_1677 w_110 w_1678 okD_X9_isDay (by decide) (Nat.le_of_ble_eq_true rfl) rfl (c_X9_isDay (p2) (h5) _ hw) kxN (kIp (fun z6 hw => ?_))
      refine g_if_eq (dk D_X9_shadow 17 rfl) rfl (wif_m hw (fun hw => ?_) (fun hw => ?_))
      · exact t_X9_shadow_b53 p1 p2 p3 p4 (h5) Q hw
      · refine g_iload_n 3 (dk D_X9_shadow 18 rfl) rfl rfl ?_
        refine g_callS (As := [.int (p3)]) (kc := 0) (fr := 1) (lo := 30) (mc := 0) (My := M_X9_isMinute) (dk D_X9_shadow 19 rfl) w_1691 w_1692 w_110 w_1693 okD_X9_isMinute (by decide) (Nat.le_of_ble_eq_true rfl) rfl (c_X9_isMinute (p3) (h5) _ hw) kxN (kIp (fun z7 hw => ?_))
        refine g_if_eq (dk D_X9_shadow 20 rfl) rfl (wif_m hw (fun hw => ?_) (fun hw => ?_))
        · exact t_X9_shadow_b53 p1 p2 p3 p4 (h5) Q hw
        · refine g_iload 4 (dk D_X9_shadow 21 rfl) rfl ?_
          refine g_iconst (dk D_X9_shadow 22 rfl) ki_1 ?_
          refine g_sipush (dk D_X9_shadow 23 rfl) ks_999 ?_
          refine g_callS (As := [.int (p4), .int ((1 : Int32)), .int ((999 : Int32))]) (kc := 0) (fr := 0) (lo := 0) (mc := 0) (My := M_X9_in) (dk D_X9_shadow 24 rfl) w_1527 w_1528 w_110 w_1529 okD_X9_in (by decide) (Nat.le_of_ble_eq_true rfl) rfl (c_X9_in (p4) ((1 : Int32)) ((999 : Int32)) (h5) _ hw) kxN (kIp (fun z8 hw => ?_))
          have hj : G X M_X9_shadow E_X9_shadow (QM X E_X9_shadow (QI Q) Qn) 0 58 [(0, .ref (92)), (1, .int (p1)), (2, .int (p2)), (3, .int (p3)), (4, .int (p4))] [.int ((if ¬ z8 = 0 then (0 : Int32) else (1 : Int32))), .ref (92)] (h5) := by
            refine g_iconst (dk D_X9_shadow 29 rfl) ki_2 ?_
            refine g_callV (As := [.int ((if ¬ z8 = 0 then (0 : Int32) else (1 : Int32))), .int ((2 : Int32))]) (kc := 0) (fr := 0) (lo := 0) (mc := 0) (My := M_X9_bad) (dk D_X9_shadow 30 rfl) kd_92 rfl rfl w_1530 w_1532 w_42 w_110 w_1533 okD_X9_bad (by decide) (Nat.le_of_ble_eq_true rfl) rfl (c_X9_bad ((if ¬ z8 = 0 then (0 : Int32) else (1 : Int32))) ((2 : Int32)) (h5) _ hw) kxN (kI (fun z10 h11 hw => ?_))
            refine g_if_eq (dk D_X9_shadow 31 rfl) rfl (wif_m hw (fun hw => ?_) (fun hw => ?_))
            · refine g_aload_n 0 (dk D_X9_shadow 34 rfl) rfl rfl ?_
              refine g_iload_n 1 (dk D_X9_shadow 35 rfl) rfl rfl ?_
              refine g_iload_n 2 (dk D_X9_shadow 36 rfl) rfl rfl ?_
              refine g_iload_n 3 (dk D_X9_shadow 37 rfl) rfl rfl ?_
              refine g_iload 4 (dk D_X9_shadow 38 rfl) rfl ?_
              refine g_callV (As := [.int (p1), .int (p2), .int (p3), .int (p4)]) (kc := 0) (fr := 2) (lo := 63) (mc := 0) (My := M_X9_shadowOf) (dk D_X9_shadow 39 rfl) kd_92 rfl rfl w_1705 w_1707 w_72 w_110 w_1708 okD_X9_shadowOf (by decide) (Nat.le_of_ble_eq_true rfl) rfl (c_X9_shadowOf (p1) (p2) (p3) (p4) (h11) _ hw) kxN (kIp (fun z12 hw => ?_))
              exact g_iret (dk D_X9_shadow 40 rfl) rfl ⟨_, rfl, hw⟩
            · refine g_iconst (dk D_X9_shadow 32 rfl) ki_0 ?_
              exact g_iret (dk D_X9_shadow 33 rfl) rfl ⟨_, rfl, hw⟩
          refine g_if_ne (dk D_X9_shadow 25 rfl) rfl ?_
          by_cases c9 : ¬ z8 = 0
          · rw [if_pos c9] at hj
            refine wif_p c9 ?_
            refine g_iconst (dk D_X9_shadow 28 rfl) ki_0 ?_
            exact hj
          · rw [if_neg c9] at hj
            refine wif_n c9 ?_
            refine g_iconst (dk D_X9_shadow 26 rfl) ki_1 ?_
            refine g_goto (dk D_X9_shadow 27 rfl) rfl ?_
            exact hj
  refine g_if_ne (dk D_X9_shadow 7 rfl) rfl ?_
  by_cases c3 : ¬ z2 = 0
  · rw [if_pos c3] at hj
    refine wif_p c3 ?_
    refine g_iconst (dk D_X9_shadow 10 rfl) ki_0 ?_
    exact hj
  · rw [if_neg c3] at hj
    refine wif_n c3 ?_
    refine g_iconst (dk D_X9_shadow 8 rfl) ki_1 ?_
    refine g_goto (dk D_X9_shadow 9 rfl) rfl ?_
    exact hj
theorem c_X9_shadow {X : Cx} (p1 : Int32) (p2 : Int32) (p3 : Int32) (p4 : Int32) (h : Hp) (Q : Int32 → Hp → Prop) (hw : w_X9_shadow p1 p2 p3 p4 h Q) : Con X yX9_shadow M_X9_shadow 3 97 0 [.ref (92), .int (p1), .int (p2), .int (p3), .int (p4)] h (QI Q) Qn :=
  con_of (by decide +kernel) rfl (Nat.le_of_ble_eq_true rfl) (t_X9_shadow p1 p2 p3 p4 h Q hw)
/-! ShadowTollsModel.law(II)I -/
abbrev M_X9_law : Mi := (RX9, cX9_law, 4, (some .int))
abbrev E_X9_law : Rm := (1, 30, 0, 0)
def rows_X9_law : List (Nat × Instr × Nat) := [(0, .aload_n 0, 1), (1, .iconst 0, 1), (2, .putfield 111, 3), (5, .aload_n 0, 1), (6, .aload_n 0, 1), (7, .iload_n 1, 1), (8, .invokevirtual 290, 3), (11, .ifCond .ne 7, 3), (14, .iconst 1, 1), (15, .goto 4, 3), (18, .iconst 0, 1), (19, .iconst 1, 1), (20, .invokevirtual 202, 3), (23, .ifCond .ne 30, 3), (26, .aload_n 0, 1), (27, .iload_n 2, 1), (28, .iconst 0, 1), (29, .aload_n 0, 1), (30, .getfield 221, 3), (33, .iconst 1, 1), (34, .isub, 1), (35, .invokestatic 145, 3), (38, .ifCond .ne 7, 3), (41, .iconst 1, 1), (42, .goto 4, 3), (45, .iconst 0, 1), (46, .iconst 2, 1), (47, .invokevirtual 202, 3), (50, .ifCond .eq 5, 3), (53, .iconst 0, 1), (54, .ireturn, 1), (55, .aload_n 0, 1), (56, .getfield 64, 3), (59, .iload_n 1, 1), (60, .iaload, 1), (61, .istore_n 3, 1), (62, .aload_n 0, 1), (63, .getfield 64, 3), (66, .iload_n 1, 1), (67, .iload_n 2, 1), (68, .iastore, 1), (69, .iload_n 3, 1), (70, .ireturn, 1)]
theorem D_X9_law : dkA cX9_law rows_X9_law := by
  unfold dkA
  decide +kernel
theorem okD_X9_law : okD yX9_law 2 := by
  unfold okD
  decide +kernel
def w_X9_law (p1 : Int32) (p2 : Int32) (h : Hp) (Q : Int32 → Hp → Prop) : Prop :=
  wlet (hup h 92 0 (0 : Int32)) (fun h1 => w_X9_isBridge (p1) h1 (fun z2 => w_X9_bad ((if ¬ z2 = 0 then (0 : Int32) else (1 : Int32))) ((1 : Int32)) h1 (fun z4 h5 => wif (¬ z4 = 0) (Q (0 : Int32) h5) (w_X9_in (p2) ((0 : Int32)) (((h5 92 18) - (1 : Int32))) h5 (fun z6 => w_X9_bad ((if ¬ z6 = 0 then (0 : Int32) else (1 : Int32))) ((2 : Int32)) h5 (fun z8 h9 => wif (z8 = 0) ((vp_in p1 2 ∧ wlet ((h9 141 (Int32.toNatClampNeg p1))) (fun v3_11 => (vp_in p1 2 ∧ wlet (hup h9 141 (Int32.toNatClampNeg p1) p2) (fun h13 => Q v3_11 h13))))) (Q (0 : Int32) h9)))))))
theorem t_X9_law {X : Cx} (p1 : Int32) (p2 : Int32) (h : Hp) (Q : Int32 → Hp → Prop) (hw : w_X9_law p1 p2 h Q) : G X M_X9_law E_X9_law (QM X E_X9_law (QI Q) Qn) 0 0 [(0, .ref (92)), (1, .int (p1)), (2, .int (p2))] [] h := by
  unfold w_X9_law at hw
  refine g_aload_n 0 (dk D_X9_law 0 rfl) rfl rfl ?_
  refine g_iconst (dk D_X9_law 1 rfl) ki_0 ?_
  refine g_put 0 (dk D_X9_law 2 rfl) kd_92 rfl rfl (by decide) w_1357 rfl tyX9_ok nmX9 rfl (by decide) rfl (fun z => absurd z (by decide)) ?_
  refine g_heap (fun h1 eh1 => ?_)
  replace hw := hw _ eh1
  refine g_aload_n 0 (dk D_X9_law 3 rfl) rfl rfl ?_
  refine g_aload_n 0 (dk D_X9_law 4 rfl) rfl rfl ?_
  refine g_iload_n 1 (dk D_X9_law 5 rfl) rfl rfl ?_
  refine g_callV (As := [.int (p1)]) (kc := 0) (fr := 0) (lo := 0) (mc := 0) (My := M_X9_isBridge) (dk D_X9_law 6 rfl) kd_92 rfl rfl w_1687 w_1689 w_70 w_110 w_1690 okD_X9_isBridge (by decide) (Nat.le_of_ble_eq_true rfl) rfl (c_X9_isBridge (p1) (h1) _ hw) kxN (kIp (fun z2 hw => ?_))
  have hj : G X M_X9_law E_X9_law (QM X E_X9_law (QI Q) Qn) 0 19 [(0, .ref (92)), (1, .int (p1)), (2, .int (p2))] [.int ((if ¬ z2 = 0 then (0 : Int32) else (1 : Int32))), .ref (92)] (h1) := by
    refine g_iconst (dk D_X9_law 11 rfl) ki_1 ?_
    refine g_callV (As := [.int ((if ¬ z2 = 0 then (0 : Int32) else (1 : Int32))), .int ((1 : Int32))]) (kc := 0) (fr := 0) (lo := 0) (mc := 0) (My := M_X9_bad) (dk D_X9_law 12 rfl) kd_92 rfl rfl w_1530 w_1532 w_42 w_110 w_1533 okD_X9_bad (by decide) (Nat.le_of_ble_eq_true rfl) rfl (c_X9_bad ((if ¬ z2 = 0 then (0 : Int32) else (1 : Int32))) ((1 : Int32)) (h1) _ hw) kxN (kI (fun z4 h5 hw => ?_))
    refine g_if_ne (dk D_X9_law 13 rfl) rfl (wif_m hw (fun hw => ?_) (fun hw => ?_))
    · refine g_iconst (dk D_X9_law 29 rfl) ki_0 ?_
      exact g_iret (dk D_X9_law 30 rfl) rfl ⟨_, rfl, hw⟩
    · refine g_aload_n 0 (dk D_X9_law 14 rfl) rfl rfl ?_
      refine g_iload_n 2 (dk D_X9_law 15 rfl) rfl rfl ?_
      refine g_iconst (dk D_X9_law 16 rfl) ki_0 ?_
      refine g_aload_n 0 (dk D_X9_law 17 rfl) rfl rfl ?_
      refine g_getI 18 (dk D_X9_law 18 rfl) kd_92 rfl rfl (by decide) w_1375 rfl rfl ?_
      refine g_iconst (dk D_X9_law 19 rfl) ki_1 ?_
      refine g_isub (dk D_X9_law 20 rfl) ?_
      refine g_callS (As := [.int (p2), .int ((0 : Int32)), .int (((h5 92 18) - (1 : Int32)))]) (kc := 0) (fr := 0) (lo := 0) (mc := 0) (My := M_X9_in) (dk D_X9_law 21 rfl) w_1527 w_1528 w_110 w_1529 okD_X9_in (by decide) (Nat.le_of_ble_eq_true rfl) rfl (c_X9_in (p2) ((0 : Int32)) (((h5 92 18) - (1 : Int32))) (h5) _ hw) kxN (kIp (fun z6 hw => ?_))
      have hj : G X M_X9_law E_X9_law (QM X E_X9_law (QI Q) Qn) 0 46 [(0, .ref (92)), (1, .int (p1)), (2, .int (p2))] [.int ((if ¬ z6 = 0 then (0 : Int32) else (1 : Int32))), .ref (92)] (h5) := by
        refine g_iconst (dk D_X9_law 26 rfl) ki_2 ?_
        refine g_callV (As := [.int ((if ¬ z6 = 0 then (0 : Int32) else (1 : Int32))), .int ((2 : Int32))]) (kc := 0) (fr := 0) (lo := 0) (mc := 0) (My := M_X9_bad) (dk D_X9_law 27 rfl) kd_92 rfl rfl w_1530 w_1532 w_42 w_110 w_1533 okD_X9_bad (by decide) (Nat.le_of_ble_eq_true rfl) rfl (c_X9_bad ((if ¬ z6 = 0 then (0 : Int32) else (1 : Int32))) ((2 : Int32)) (h5) _ hw) kxN (kI (fun z8 h9 hw => ?_))
        refine g_if_eq (dk D_X9_law 28 rfl) rfl (wif_m hw (fun hw => ?_) (fun hw => ?_))
        · refine g_aload_n 0 (dk D_X9_law 31 rfl) rfl rfl ?_
          refine g_getR 28 (t := 141) (dk D_X9_law 32 rfl) kd_92 rfl rfl (by decide) w_1385 rfl rfl rfl ?_
          refine g_iload_n 1 (dk D_X9_law 33 rfl) rfl rfl ?_
          obtain ⟨hi10, hw⟩ := hw
          refine g_iald (dk D_X9_law 34 rfl) kd_141 hi10 ?_
          refine g_topi (fun v3_11 ev3_11 => ?_)
          replace hw := hw _ ev3_11
          refine g_istore_n (dk D_X9_law 35 rfl) rfl (by decide) rfl ?_
          refine g_aload_n 1 (dk D_X9_law 36 rfl) rfl rfl ?_
          refine g_getR 28 (t := 141) (dk D_X9_law 37 rfl) kd_92 rfl rfl (by decide) w_1385 rfl rfl rfl ?_
          refine g_iload_n 2 (dk D_X9_law 38 rfl) rfl rfl ?_
          refine g_iload_n 3 (dk D_X9_law 39 rfl) rfl rfl ?_
          obtain ⟨hi12, hw⟩ := hw
          refine g_iast (dk D_X9_law 40 rfl) kd_141 hi12 ?_
          refine g_heap (fun h13 eh13 => ?_)
          replace hw := hw _ eh13
          refine g_iload_n 0 (dk D_X9_law 41 rfl) rfl rfl ?_
          exact g_iret (dk D_X9_law 42 rfl) rfl ⟨_, rfl, hw⟩
        · refine g_iconst (dk D_X9_law 29 rfl) ki_0 ?_
          exact g_iret (dk D_X9_law 30 rfl) rfl ⟨_, rfl, hw⟩
      refine g_if_ne (dk D_X9_law 22 rfl) rfl ?_
      by_cases c7 : ¬ z6 = 0
      · rw [if_pos c7] at hj
        refine wif_p c7 ?_
        refine g_iconst (dk D_X9_law 25 rfl) ki_0 ?_
        exact hj
      · rw [if_neg c7] at hj
        refine wif_n c7 ?_
        refine g_iconst (dk D_X9_law 23 rfl) ki_1 ?_
        refine g_goto (dk D_X9_law 24 rfl) rfl ?_
        exact hj
  refine g_if_ne (dk D_X9_law 7 rfl) rfl ?_
  by_cases c3 : ¬ z2 = 0
  · rw [if_pos c3] at hj
    refine wif_p c3 ?_
    refine g_iconst (dk D_X9_law 10 rfl) ki_0 ?_
    exact hj
  · rw [if_neg c3] at hj
    refine wif_n c3 ?_
    refine g_iconst (dk D_X9_law 8 rfl) ki_1 ?_
    refine g_goto (dk D_X9_law 9 rfl) rfl ?_
    exact hj
theorem c_X9_law {X : Cx} (p1 : Int32) (p2 : Int32) (h : Hp) (Q : Int32 → Hp → Prop) (hw : w_X9_law p1 p2 h Q) : Con X yX9_law M_X9_law 1 30 0 [.ref (92), .int (p1), .int (p2)] h (QI Q) Qn :=
  con_of (by decide +kernel) rfl (Nat.le_of_ble_eq_true rfl) (t_X9_law p1 p2 h Q hw)
/-! ShadowTollsModel.paid(IIIIIIZ)I -/
abbrev M_X9_paid : Mi := (RX9, cX9_paid, 12, (some .int))
abbrev E_X9_paid : Rm := (3, 97, 0, 0)
def rows_X9_paid : List (Nat × Instr × Nat) := [(0, .aload_n 0, 1), (1, .getfield 61, 3), (4, .iconst 0, 1), (5, .iload 7, 2), (7, .ifCond .eq 7, 3), (10, .iconst 0, 1), (11, .goto 13, 3), (14, .aload_n 0, 1), (15, .iload_n 2, 1), (16, .iload_n 3, 1), (17, .iload 4, 2), (19, .iload 5, 2), (21, .invokevirtual 299, 3), (24, .iastore, 1), (25, .aload_n 0, 1), (26, .getfield 61, 3), (29, .iconst 1, 1), (30, .iload 5, 2), (32, .iastore, 1), (33, .aload_n 0, 1), (34, .getfield 61, 3), (37, .iconst 2, 1), (38, .iload 6, 2), (40, .iastore, 1), (41, .aload_n 0, 1), (42, .getfield 61, 3), (45, .iconst 3, 1), (46, .iload 4, 2), (48, .bipush 60, 2), (50, .idiv, 1), (51, .iastore, 1), (52, .aload_n 0, 1), (53, .getfield 61, 3), (56, .iconst 4, 1), (57, .iload_n 3, 1), (58, .iastore, 1), (59, .aload_n 0, 1), (60, .getfield 61, 3), (63, .iconst 5, 1), (64, .aload_n 0, 1), (65, .getfield 32, 3), (68, .iload_n 3, 1), (69, .iaload, 1), (70, .iastore, 1), (71, .lconst 0, 1), (72, .lstore 8, 2), (74, .aload_n 0, 1), (75, .getfield 101, 3), (78, .iconst (-1), 1), (79, .if_icmp .eq 31, 3), (82, .aload_n 0, 1), (83, .getfield 61, 3), (86, .iconst 0, 1), (87, .iaload, 1), (88, .aload_n 0, 1), (89, .getfield 101, 3), (92, .imul, 1), (93, .bipush 100, 2), (95, .idiv, 1), (96, .iload 6, 2), (98, .aload_n 0, 1), (99, .getfield 303, 3), (102, .imul, 1), (103, .bipush 10, 2), (105, .idiv, 1), (106, .iadd, 1), (107, .i2l, 1), (108, .lstore 8, 2), (110, .iconst 0, 1), (111, .istore 10, 2), (113, .aload_n 0, 1), (114, .getfield 101, 3), (117, .iconst (-1), 1), (118, .if_icmp .ne 127, 3), (121, .iload_n 1, 1), (122, .aload_n 0, 1), (123, .getfield 221, 3), (126, .if_icmp .ge 119, 3), (129, .iload 10, 2), (131, .aload_n 0, 1), (132, .getfield 43, 3), (135, .iload_n 1, 1), (136, .iaload, 1), (137, .if_icmp .ge 108, 3), (140, .aload_n 0, 1), (141, .getfield 52, 3), (144, .iload_n 1, 1), (145, .aaload, 1), (146, .iload 10, 2), (148, .iaload, 1), (149, .aload_n 0, 1), (150, .getfield 49, 3), (153, .iload_n 1, 1), (154, .aaload, 1), (155, .iload 10, 2), (157, .iaload, 1), (158, .if_icmp .eq 35, 3), (161, .aload_n 0, 1), (162, .aload_n 0, 1), (163, .getfield 55, 3), (166, .iload_n 1, 1), (167, .aaload, 1), (168, .aload_n 0, 1), (169, .getfield 49, 3), (172, .iload_n 1, 1), (173, .aaload, 1), (174, .iload 10, 2), (176, .iaload, 1), (177, .aload_n 0, 1), (178, .getfield 52, 3), (181, .iload_n 1, 1), (182, .aaload, 1), (183, .iload 10, 2), (185, .iaload, 1), (186, .invokevirtual 306, 3), (189, .iconst 1, 1), (190, .if_icmp .ne 7, 3), (193, .iconst 1, 1), (194, .goto 4, 3), (197, .iconst 0, 1), (198, .istore 11, 2), (200, .iload 11, 2), (202, .ifCond .eq 37, 3), (205, .lload 8, 2), (207, .aload_n 0, 1), (208, .aload_n 0, 1), (209, .getfield 55, 3), (212, .iload_n 1, 1), (213, .aaload, 1), (214, .aload_n 0, 1), (215, .getfield 46, 3), (218, .iload_n 1, 1), (219, .aaload, 1), (220, .iload 10, 2), (222, .iaload, 1), (223, .aload_n 0, 1), (224, .getfield 49, 3), (227, .iload_n 1, 1), (228, .aaload, 1), (229, .iload 10, 2), (231, .iaload, 1), (232, .invokevirtual 306, 3), (235, .i2l, 1), (236, .ladd, 1), (237, .lstore 8, 2), (239, .iinc 10 1, 3), (242, .goto (-129), 3), (245, .lload 8, 2), (247, .lconst 0, 1), (248, .lcmp, 1), (249, .ifCond .ge 7, 3), (252, .iconst 0, 1), (253, .goto 21, 3), (256, .lload 8, 2), (258, .ldc2_w 310, 3), (261, .lcmp, 1), (262, .ifCond .le 9, 3), (265, .sipush 9999, 3), (268, .goto 6, 3), (271, .lload 8, 2), (273, .l2i, 1), (274, .ireturn, 1)]
theorem D_X9_paid : dkA cX9_paid rows_X9_paid := by
  unfold dkA
  decide +kernel
theorem okD_X9_paid : okD yX9_paid 7 := by
  unfold okD
  decide +kernel
def w_X9_paid_b245 (p1 : Int32) (p2 : Int32) (p3 : Int32) (p4 : Int32) (p5 : Int32) (p6 : Int32) (p7 : Int32) (v8 : Int64) (h : Hp) (Q : Int32 → Hp → Prop) : Prop :=
  wif (0 ≤ (lg_cmp v8 (0 : Int64))) (Q (if (lg_cmp v8 (9999 : Int64)) ≤ 0 then (Int64.toInt32 v8) else (9999 : Int32)) h) (Q (0 : Int32) h)
def w_X9_paid_b239 (p1 : Int32) (p2 : Int32) (p3 : Int32) (p4 : Int32) (p5 : Int32) (p6 : Int32) (p7 : Int32) (v8 : Int64) (v10 : Int32) (K113 : Int64 × Int32 × Hp → Prop) (h : Hp) (Q : Int32 → Hp → Prop) : Prop :=
  K113 (v8, (v10 + (1 : Int32)), h)
def w_X9_paid_b198 (p1 : Int32) (p2 : Int32) (p3 : Int32) (p4 : Int32) (p5 : Int32) (p6 : Int32) (p7 : Int32) (v8 : Int64) (v10 : Int32) (s0 : Int32) (K113 : Int64 × Int32 × Hp → Prop) (h : Hp) (Q : Int32 → Hp → Prop) : Prop :=
  wif (s0 = 0) (w_X9_paid_b239 p1 p2 p3 p4 p5 p6 p7 (v8) (v10) K113 (h) Q) ((vp_in p1 4 ∧ (vp_in p1 4 ∧ (vp_in v10 10 ∧ (vp_in p1 4 ∧ (vp_in v10 10 ∧ w_X9_comes (135 + 1 * Int32.toNatClampNeg (p1)) 800 ((h (120 + 1 * Int32.toNatClampNeg (p1)) (Int32.toNatClampNeg v10))) ((h (125 + 1 * Int32.toNatClampNeg (p1)) (Int32.toNatClampNeg v10))) h (fun z6 h7 => wlet ((v8 + (Int32.toInt64 z6))) (fun v8_8 => w_X9_paid_b239 p1 p2 p3 p4 p5 p6 p7 (v8_8) (v10) K113 (h7) Q))))))))
def w_X9_paid_b193 (p1 : Int32) (p2 : Int32) (p3 : Int32) (p4 : Int32) (p5 : Int32) (p6 : Int32) (p7 : Int32) (v8 : Int64) (v10 : Int32) (K113 : Int64 × Int32 × Hp → Prop) (h : Hp) (Q : Int32 → Hp → Prop) : Prop :=
  w_X9_paid_b198 p1 p2 p3 p4 p5 p6 p7 (v8) (v10) ((1 : Int32)) K113 (h) Q
def w_X9_paid_l113 (p1 : Int32) (p2 : Int32) (p3 : Int32) (p4 : Int32) (p5 : Int32) (p6 : Int32) (p7 : Int32) (Q : Int32 → Hp → Prop) (K113 : Int64 × Int32 × Hp → Prop) (v8 : Int64) (v10 : Int32) (h : Hp) : Prop :=
  wif (¬ (h 92 48) = (-1 : Int32)) (w_X9_paid_b245 p1 p2 p3 p4 p5 p6 p7 (v8) (h) Q) (wif ((h 92 18) ≤ p1) (w_X9_paid_b245 p1 p2 p3 p4 p5 p6 p7 (v8) (h) Q) ((vp_in p1 4 ∧ wif ((h 118 (Int32.toNatClampNeg p1)) ≤ v10) (w_X9_paid_b245 p1 p2 p3 p4 p5 p6 p7 (v8) (h) Q) ((vp_in p1 4 ∧ (vp_in v10 10 ∧ (vp_in p1 4 ∧ (vp_in v10 10 ∧ wif ((h (130 + 1 * Int32.toNatClampNeg (p1)) (Int32.toNatClampNeg v10)) = (h (125 + 1 * Int32.toNatClampNeg (p1)) (Int32.toNatClampNeg v10))) (w_X9_paid_b193 p1 p2 p3 p4 p5 p6 p7 (v8) (v10) K113 (h) Q) ((vp_in p1 4 ∧ (vp_in p1 4 ∧ (vp_in v10 10 ∧ (vp_in p1 4 ∧ (vp_in v10 10 ∧ w_X9_comes (135 + 1 * Int32.toNatClampNeg (p1)) 800 ((h (125 + 1 * Int32.toNatClampNeg (p1)) (Int32.toNatClampNeg v10))) ((h (130 + 1 * Int32.toNatClampNeg (p1)) (Int32.toNatClampNeg v10))) h (fun z11 h12 => wlet ((if ¬ z11 = (1 : Int32) then (0 : Int32) else (1 : Int32))) (fun v11_14 => wif (v11_14 = 0) (w_X9_paid_b239 p1 p2 p3 p4 p5 p6 p7 (v8) (v10) K113 (h12) Q) ((vp_in p1 4 ∧ (vp_in p1 4 ∧ (vp_in v10 10 ∧ (vp_in p1 4 ∧ (vp_in v10 10 ∧ w_X9_comes (135 + 1 * Int32.toNatClampNeg (p1)) 800 ((h12 (120 + 1 * Int32.toNatClampNeg (p1)) (Int32.toNatClampNeg v10))) ((h12 (125 + 1 * Int32.toNatClampNeg (p1)) (Int32.toNatClampNeg v10))) h12 (fun z20 h21 => wlet ((v8 + (Int32.toInt64 z20))) (fun v8_22 => w_X9_paid_b239 p1 p2 p3 p4 p5 p6 p7 (v8_22) (v10) K113 (h21) Q))))))))))))))))))))))))
def w_X9_paid_b113 (p1 : Int32) (p2 : Int32) (p3 : Int32) (p4 : Int32) (p5 : Int32) (p6 : Int32) (p7 : Int32) (Q : Int32 → Hp → Prop) (s : Int64 × Int32 × Hp) : Prop := wl (fun K s => w_X9_paid_l113 p1 p2 p3 p4 p5 p6 p7 Q K s.1 s.2.1 s.2.2) s
def w_X9_paid_b110 (p1 : Int32) (p2 : Int32) (p3 : Int32) (p4 : Int32) (p5 : Int32) (p6 : Int32) (p7 : Int32) (v8 : Int64) (h : Hp) (Q : Int32 → Hp → Prop) : Prop :=
  w_X9_paid_b113 p1 p2 p3 p4 p5 p6 p7 Q (v8, (0 : Int32), h)
def w_X9_paid_b24 (p1 : Int32) (p2 : Int32) (p3 : Int32) (p4 : Int32) (p5 : Int32) (p6 : Int32) (p7 : Int32) (s0 : Int32) (s1 : Int32) (h : Hp) (Q : Int32 → Hp → Prop) : Prop :=
  (vp_in s1 6 ∧ wlet (hup h 140 (Int32.toNatClampNeg s1) s0) (fun h2 => (vp_in (1 : Int32) 6 ∧ wlet (hup h2 140 (Int32.toNatClampNeg (1 : Int32)) p5) (fun h4 => (vp_in (2 : Int32) 6 ∧ wlet (hup h4 140 (Int32.toNatClampNeg (2 : Int32)) p6) (fun h6 => (vp_in (3 : Int32) 6 ∧ wlet (hup h6 140 (Int32.toNatClampNeg (3 : Int32)) (p4 / (60 : Int32))) (fun h8 => (vp_in (4 : Int32) 6 ∧ wlet (hup h8 140 (Int32.toNatClampNeg (4 : Int32)) p3) (fun h10 => (vp_in p3 30 ∧ (vp_in (5 : Int32) 6 ∧ wlet (hup h10 140 (Int32.toNatClampNeg (5 : Int32)) (h10 99 (Int32.toNatClampNeg p3))) (fun h13 => wif ((h13 92 48) = (-1 : Int32)) (w_X9_paid_b110 p1 p2 p3 p4 p5 p6 p7 ((0 : Int64)) (h13) Q) ((vp_in (0 : Int32) 6 ∧ wlet ((Int32.toInt64 ((((h13 140 (Int32.toNatClampNeg (0 : Int32))) * (h13 92 48)) / (100 : Int32)) + ((p6 * (h13 92 49)) / (10 : Int32))))) (fun v8_15 => w_X9_paid_b110 p1 p2 p3 p4 p5 p6 p7 (v8_15) (h13) Q))))))))))))))))
def w_X9_paid (p1 : Int32) (p2 : Int32) (p3 : Int32) (p4 : Int32) (p5 : Int32) (p6 : Int32) (p7 : Int32) (h : Hp) (Q : Int32 → Hp → Prop) : Prop :=
  wif (p7 = 0) (w_X9_shadowOf (p2) (p3) (p4) (p5) h (fun z1 => w_X9_paid_b24 p1 p2 p3 p4 p5 p6 p7 (z1) ((0 : Int32)) (h) Q)) (w_X9_paid_b24 p1 p2 p3 p4 p5 p6 p7 ((0 : Int32)) ((0 : Int32)) (h) Q)
theorem t_X9_paid_b245 {X : Cx} (p1 : Int32) (p2 : Int32) (p3 : Int32) (p4 : Int32) (p5 : Int32) (p6 : Int32) (p7 : Int32) (v8 : Int64) (h : Hp) (Q : Int32 → Hp → Prop) (hw : w_X9_paid_b245 p1 p2 p3 p4 p5 p6 p7 v8 h Q) : G X M_X9_paid E_X9_paid (QM X E_X9_paid (QI Q) Qn) 0 245 [(8, .long (v8))] [] h := by
  unfold w_X9_paid_b245 at hw
  refine g_lload 0 (dk D_X9_paid 147 rfl) rfl ?_
  refine g_lconst (dk D_X9_paid 148 rfl) kl_0 ?_
  refine g_lcmp (dk D_X9_paid 149 rfl) ?_
  refine g_if_ge (dk D_X9_paid 150 rfl) rfl (wif_m hw (fun hw => ?_) (fun hw => ?_))
  · refine g_lload 0 (dk D_X9_paid 153 rfl) rfl ?_
    refine g_ldc2 (dk D_X9_paid 154 rfl) w_1732 ?_
    refine g_lcmp (dk D_X9_paid 155 rfl) ?_
    have hj : G X M_X9_paid E_X9_paid (QM X E_X9_paid (QI Q) Qn) 0 274 [(8, .long (v8))] [.int ((if (lg_cmp v8 (9999 : Int64)) ≤ 0 then (Int64.toInt32 v8) else (9999 : Int32)))] (h) := by
      exact g_iret (dk D_X9_paid 161 rfl) rfl ⟨_, rfl, hw⟩
    refine g_if_le (dk D_X9_paid 156 rfl) rfl ?_
    by_cases c1 : (lg_cmp v8 (9999 : Int64)) ≤ 0
    · rw [if_pos c1] at hj
      refine wif_p c1 ?_
      refine g_lload 0 (dk D_X9_paid 159 rfl) rfl ?_
      refine g_l2i (dk D_X9_paid 160 rfl) ?_
      exact hj
    · rw [if_neg c1] at hj
      refine wif_n c1 ?_
      refine g_sipush (dk D_X9_paid 157 rfl) ks_9999 ?_
      refine g_goto (dk D_X9_paid 158 rfl) rfl ?_
      exact hj
  · refine g_iconst (dk D_X9_paid 151 rfl) ki_0 ?_
    refine g_goto (dk D_X9_paid 152 rfl) rfl ?_
    exact g_iret (dk D_X9_paid 161 rfl) rfl ⟨_, rfl, hw⟩
theorem t_X9_paid_b239 {X : Cx} (p1 : Int32) (p2 : Int32) (p3 : Int32) (p4 : Int32) (p5 : Int32) (p6 : Int32) (p7 : Int32) (v8 : Int64) (v10 : Int32) (K113 : Int64 × Int32 × Hp → Prop) (h : Hp) (Q : Int32 → Hp → Prop) (hK113 : ∀ s : Int64 × Int32 × Hp, K113 s → G X M_X9_paid E_X9_paid (QM X E_X9_paid (QI Q) Qn) 0 113 [(0, .ref (92)), (1, .int (p1)), (8, .long (s.1)), (10, .int (s.2.1))] [] (s.2.2)) (hw : w_X9_paid_b239 p1 p2 p3 p4 p5 p6 p7 v8 v10 K113 h Q) : G X M_X9_paid E_X9_paid (QM X E_X9_paid (QI Q) Qn) 0 239 [(0, .ref (92)), (1, .int (p1)), (8, .long (v8)), (10, .int (v10))] [] h := by
  unfold w_X9_paid_b239 at hw
  refine g_iinc 3 (dk D_X9_paid 145 rfl) rfl (congrArg (fun z => _ + z) ki_1) (by decide) rfl ?_
  refine g_goto (dk D_X9_paid 146 rfl) rfl ?_
  refine g_sub [1, 2, 3, 0] rfl ?_
  exact hK113 (v8, (v10 + (1 : Int32)), h) hw
theorem t_X9_paid_b198 {X : Cx} (p1 : Int32) (p2 : Int32) (p3 : Int32) (p4 : Int32) (p5 : Int32) (p6 : Int32) (p7 : Int32) (v8 : Int64) (v10 : Int32) (s0 : Int32) (K113 : Int64 × Int32 × Hp → Prop) (h : Hp) (Q : Int32 → Hp → Prop) (hK113 : ∀ s : Int64 × Int32 × Hp, K113 s → G X M_X9_paid E_X9_paid (QM X E_X9_paid (QI Q) Qn) 0 113 [(0, .ref (92)), (1, .int (p1)), (8, .long (s.1)), (10, .int (s.2.1))] [] (s.2.2)) (hw : w_X9_paid_b198 p1 p2 p3 p4 p5 p6 p7 v8 v10 s0 K113 h Q) : G X M_X9_paid E_X9_paid (QM X E_X9_paid (QI Q) Qn) 0 198 [(0, .ref (92)), (1, .int (p1)), (8, .long (v8)), (10, .int (v10))] [.int (s0)] h := by
  unfold w_X9_paid_b198 at hw
  refine g_istore (dk D_X9_paid 120 rfl) (by decide) rfl ?_
  refine g_iload 0 (dk D_X9_paid 121 rfl) rfl ?_
  refine g_if_eq (dk D_X9_paid 122 rfl) rfl (wif_m hw (fun hw => ?_) (fun hw => ?_))
  · refine g_sub [1, 2, 3, 4] rfl ?_
    exact t_X9_paid_b239 p1 p2 p3 p4 p5 p6 p7 (v8) (v10) K113 (h) Q hK113 hw
  · refine g_lload 3 (dk D_X9_paid 123 rfl) rfl ?_
    refine g_aload_n 1 (dk D_X9_paid 124 rfl) rfl rfl ?_
    refine g_aload_n 1 (dk D_X9_paid 125 rfl) rfl rfl ?_
    refine g_getR 25 (t := 134) (dk D_X9_paid 126 rfl) kd_92 rfl rfl (by decide) w_1382 rfl rfl rfl ?_
    refine g_iload_n 2 (dk D_X9_paid 127 rfl) rfl rfl ?_
    obtain ⟨hi1, hw⟩ := hw
    refine g_aald (dk D_X9_paid 128 rfl) kd_134 rfl rfl hi1 ?_
    refine g_aload_n 1 (dk D_X9_paid 129 rfl) rfl rfl ?_
    refine g_getR 22 (t := 119) (dk D_X9_paid 130 rfl) kd_92 rfl rfl (by decide) w_1379 rfl rfl rfl ?_
    refine g_iload_n 2 (dk D_X9_paid 131 rfl) rfl rfl ?_
    obtain ⟨hi2, hw⟩ := hw
    refine g_aald (dk D_X9_paid 132 rfl) kd_119 rfl rfl hi2 ?_
    refine g_iload 4 (dk D_X9_paid 133 rfl) rfl ?_
    obtain ⟨hi3, hw⟩ := hw
    refine g_iald (dk D_X9_paid 134 rfl) (kdf_119 _ (in_lt hi2)) hi3 ?_
    refine g_aload_n 1 (dk D_X9_paid 135 rfl) rfl rfl ?_
    refine g_getR 23 (t := 124) (dk D_X9_paid 136 rfl) kd_92 rfl rfl (by decide) w_1380 rfl rfl rfl ?_
    refine g_iload_n 2 (dk D_X9_paid 137 rfl) rfl rfl ?_
    obtain ⟨hi4, hw⟩ := hw
    refine g_aald (dk D_X9_paid 138 rfl) kd_124 rfl rfl hi4 ?_
    refine g_iload 4 (dk D_X9_paid 139 rfl) rfl ?_
    obtain ⟨hi5, hw⟩ := hw
    refine g_iald (dk D_X9_paid 140 rfl) (kdf_124 _ (in_lt hi4)) hi5 ?_
    refine g_callV (As := [.ref ((135 + 1 * Int32.toNatClampNeg (p1))), .int ((h (120 + 1 * Int32.toNatClampNeg (p1)) (Int32.toNatClampNeg v10))), .int ((h (125 + 1 * Int32.toNatClampNeg (p1)) (Int32.toNatClampNeg v10)))]) (kc := 0) (fr := 1) (lo := 30) (mc := 0) (My := M_X9_comes) (dk D_X9_paid 141 rfl) kd_92 rfl rfl w_1725 w_1727 w_75 w_110 w_1728 okD_X9_comes (by decide) (Nat.le_of_ble_eq_true rfl) rfl (c_X9_comes (135 + 1 * Int32.toNatClampNeg (p1)) 800 ((h (120 + 1 * Int32.toNatClampNeg (p1)) (Int32.toNatClampNeg v10))) ((h (125 + 1 * Int32.toNatClampNeg (p1)) (Int32.toNatClampNeg v10))) ((kdf_134 _ (in_lt hi1))) (h) _ hw) kxN (kI (fun z6 h7 hw => ?_))
    refine g_i2l (dk D_X9_paid 142 rfl) ?_
    refine g_ladd (dk D_X9_paid 143 rfl) ?_
    refine g_topl (fun v8_8 ev8_8 => ?_)
    replace hw := hw _ ev8_8
    refine g_lstore (dk D_X9_paid 144 rfl) (by decide) rfl ?_
    refine g_sub [2, 3, 0, 4] rfl ?_
    exact t_X9_paid_b239 p1 p2 p3 p4 p5 p6 p7 (v8_8) (v10) K113 (h7) Q hK113 hw
theorem t_X9_paid_b193 {X : Cx} (p1 : Int32) (p2 : Int32) (p3 : Int32) (p4 : Int32) (p5 : Int32) (p6 : Int32) (p7 : Int32) (v8 : Int64) (v10 : Int32) (K113 : Int64 × Int32 × Hp → Prop) (h : Hp) (Q : Int32 → Hp → Prop) (hK113 : ∀ s : Int64 × Int32 × Hp, K113 s → G X M_X9_paid E_X9_paid (QM X E_X9_paid (QI Q) Qn) 0 113 [(0, .ref (92)), (1, .int (p1)), (8, .long (s.1)), (10, .int (s.2.1))] [] (s.2.2)) (hw : w_X9_paid_b193 p1 p2 p3 p4 p5 p6 p7 v8 v10 K113 h Q) : G X M_X9_paid E_X9_paid (QM X E_X9_paid (QI Q) Qn) 0 193 [(0, .ref (92)), (1, .int (p1)), (8, .long (v8)), (10, .int (v10))] [] h := by
  unfold w_X9_paid_b193 at hw
  refine g_iconst (dk D_X9_paid 117 rfl) ki_1 ?_
  refine g_goto (dk D_X9_paid 118 rfl) rfl ?_
  exact t_X9_paid_b198 p1 p2 p3 p4 p5 p6 p7 (v8) (v10) ((1 : Int32)) K113 (h) Q hK113 hw
theorem t_X9_paid_l113 {X : Cx} (p1 : Int32) (p2 : Int32) (p3 : Int32) (p4 : Int32) (p5 : Int32) (p6 : Int32) (p7 : Int32) (Q : Int32 → Hp → Prop) (K113 : Int64 × Int32 × Hp → Prop) (v8 : Int64) (v10 : Int32) (h : Hp) (hK113 : ∀ s : Int64 × Int32 × Hp, K113 s → G X M_X9_paid E_X9_paid (QM X E_X9_paid (QI Q) Qn) 0 113 [(0, .ref (92)), (1, .int (p1)), (8, .long (s.1)), (10, .int (s.2.1))] [] (s.2.2)) (hw : w_X9_paid_l113 p1 p2 p3 p4 p5 p6 p7 Q K113 v8 v10 h) : G X M_X9_paid E_X9_paid (QM X E_X9_paid (QI Q) Qn) 0 113 [(0, .ref (92)), (1, .int (p1)), (8, .long (v8)), (10, .int (v10))] [] h := by
  unfold w_X9_paid_l113 at hw
  refine g_aload_n 0 (dk D_X9_paid 70 rfl) rfl rfl ?_
  refine g_getI 48 (dk D_X9_paid 71 rfl) kd_92 rfl rfl (by decide) w_1405 rfl rfl ?_
  refine g_iconst (dk D_X9_paid 72 rfl) ki_m1 ?_
  refine g_icmp_ne (dk D_X9_paid 73 rfl) rfl (wif_m hw (fun hw => ?_) (fun hw => ?_))
  · refine g_sub [2] rfl ?_
    exact t_X9_paid_b245 p1 p2 p3 p4 p5 p6 p7 (v8) (h) Q hw
  · refine g_iload_n 1 (dk D_X9_paid 74 rfl) rfl rfl ?_
    refine g_aload_n 0 (dk D_X9_paid 75 rfl) rfl rfl ?_
    refine g_getI 18 (dk D_X9_paid 76 rfl) kd_92 rfl rfl (by decide) w_1375 rfl rfl ?_
    refine g_icmp_ge (dk D_X9_paid 77 rfl) rfl (wif_m hw (fun hw => ?_) (fun hw => ?_))
    · refine g_sub [2] rfl ?_
      exact t_X9_paid_b245 p1 p2 p3 p4 p5 p6 p7 (v8) (h) Q hw
    · refine g_iload 3 (dk D_X9_paid 78 rfl) rfl ?_
      refine g_aload_n 0 (dk D_X9_paid 79 rfl) rfl rfl ?_
      refine g_getR 21 (t := 118) (dk D_X9_paid 80 rfl) kd_92 rfl rfl (by decide) w_1378 rfl rfl rfl ?_
      refine g_iload_n 1 (dk D_X9_paid 81 rfl) rfl rfl ?_
      obtain ⟨hi1, hw⟩ := hw
      refine g_iald (dk D_X9_paid 82 rfl) kd_118 hi1 ?_
      refine g_icmp_ge (dk D_X9_paid 83 rfl) rfl (wif_m hw (fun hw => ?_) (fun hw => ?_))
      · refine g_sub [2] rfl ?_
        exact t_X9_paid_b245 p1 p2 p3 p4 p5 p6 p7 (v8) (h) Q hw
      · refine g_aload_n 0 (dk D_X9_paid 84 rfl) rfl rfl ?_
        refine g_getR 24 (t := 129) (dk D_X9_paid 85 rfl) kd_92 rfl rfl (by decide) w_1381 rfl rfl rfl ?_
        refine g_iload_n 1 (dk D_X9_paid 86 rfl) rfl rfl ?_
        obtain ⟨hi2, hw⟩ := hw
        refine g_aald (dk D_X9_paid 87 rfl) kd_129 rfl rfl hi2 ?_
        refine g_iload 3 (dk D_X9_paid 88 rfl) rfl ?_
        obtain ⟨hi3, hw⟩ := hw
        refine g_iald (dk D_X9_paid 89 rfl) (kdf_129 _ (in_lt hi2)) hi3 ?_
        refine g_aload_n 0 (dk D_X9_paid 90 rfl) rfl rfl ?_
        refine g_getR 23 (t := 124) (dk D_X9_paid 91 rfl) kd_92 rfl rfl (by decide) w_1380 rfl rfl rfl ?_
        refine g_iload_n 1 (dk D_X9_paid 92 rfl) rfl rfl ?_
        obtain ⟨hi4, hw⟩ := hw
        refine g_aald (dk D_X9_paid 93 rfl) kd_124 rfl rfl hi4 ?_
        refine g_iload 3 (dk D_X9_paid 94 rfl) rfl ?_
        obtain ⟨hi5, hw⟩ := hw
        refine g_iald (dk D_X9_paid 95 rfl) (kdf_124 _ (in_lt hi4)) hi5 ?_
        refine g_icmp_eq (dk D_X9_paid 96 rfl) rfl (wif_m hw (fun hw => ?_) (fun hw => ?_))
        · exact t_X9_paid_b193 p1 p2 p3 p4 p5 p6 p7 (v8) (v10) K113 (h) Q hK113 hw
        · refine g_aload_n 0 (dk D_X9_paid 97 rfl) rfl rfl ?_
          refine g_aload_n 0 (dk D_X9_paid 98 rfl) rfl rfl ?_
          refine g_getR 25 (t := 134) (dk D_X9_paid 99 rfl) kd_92 rfl rfl (by decide) w_1382 rfl rfl rfl ?_
          refine g_iload_n 1 (dk D_X9_paid 100 rfl) rfl rfl ?_
          obtain ⟨hi6, hw⟩ := hw
          refine g_aald (dk D_X9_paid 101 rfl) kd_134 rfl rfl hi6 ?_
          refine g_aload_n 0 (dk D_X9_paid 102 rfl) rfl rfl ?_
          refine g_getR 23 (t := 124) (dk D_X9_paid 103 rfl) kd_92 rfl rfl (by decide) w_1380 rfl rfl rfl ?_
          refine g_iload_n 1 (dk D_X9_paid 104 rfl) rfl rfl ?_
          obtain ⟨hi7, hw⟩ := hw
          refine g_aald (dk D_X9_paid 105 rfl) kd_124 rfl rfl hi7 ?_
          refine g_iload 3 (dk D_X9_paid 106 rfl) rfl ?_
          obtain ⟨hi8, hw⟩ := hw
          refine g_iald (dk D_X9_paid 107 rfl) (kdf_124 _ (in_lt hi7)) hi8 ?_
          refine g_aload_n 0 (dk D_X9_paid 108 rfl) rfl rfl ?_
          refine g_getR 24 (t := 129) (dk D_X9_paid 109 rfl) kd_92 rfl rfl (by decide) w_1381 rfl rfl rfl ?_
          refine g_iload_n 1 (dk D_X9_paid 110 rfl) rfl rfl ?_
          obtain ⟨hi9, hw⟩ := hw
          refine g_aald (dk D_X9_paid 111 rfl) kd_129 rfl rfl hi9 ?_
          refine g_iload 3 (dk D_X9_paid 112 rfl) rfl ?_
          obtain ⟨hi10, hw⟩ := hw
          refine g_iald (dk D_X9_paid 113 rfl) (kdf_129 _ (in_lt hi9)) hi10 ?_
          refine g_callV (As := [.ref ((135 + 1 * Int32.toNatClampNeg (p1))), .int ((h (125 + 1 * Int32.toNatClampNeg (p1)) (Int32.toNatClampNeg v10))), .int ((h (130 + 1 * Int32.toNatClampNeg (p1)) (Int32.toNatClampNeg v10)))]) (kc := 0) (fr := 1) (lo := 30) (mc := 0) (My := M_X9_comes) (dk D_X9_paid 114 rfl) kd_92 rfl rfl w_1725 w_1727 w_75 w_110 w_1728 okD_X9_comes (by decide) (Nat.le_of_ble_eq_true rfl) rfl (c_X9_comes (135 + 1 * Int32.toNatClampNeg (p1)) 800 ((h (125 + 1 * Int32.toNatClampNeg (p1)) (Int32.toNatClampNeg v10))) ((h (130 + 1 * Int32.toNatClampNeg (p1)) (Int32.toNatClampNeg v10))) ((kdf_134 _ (in_lt hi6))) (h) _ hw) kxN (kI (fun z11 h12 hw => ?_))
          refine g_iconst (dk D_X9_paid 115 rfl) ki_1 ?_
          have hj : G X M_X9_paid E_X9_paid (QM X E_X9_paid (QI Q) Qn) 0 198 [(0, .ref (92)), (1, .int (p1)), (8, .long (v8)), (10, .int (v10))] [.int ((if ¬ z11 = (1 : Int32) then (0 : Int32) else (1 : Int32)))] (h12) := by
            refine g_topi (fun v11_14 ev11_14 => ?_)
            replace hw := hw _ ev11_14
            refine g_istore (dk D_X9_paid 120 rfl) (by decide) rfl ?_
            refine g_iload 0 (dk D_X9_paid 121 rfl) rfl ?_
            refine g_if_eq (dk D_X9_paid 122 rfl) rfl (wif_m hw (fun hw => ?_) (fun hw => ?_))
            · refine g_sub [1, 2, 3, 4] rfl ?_
              exact t_X9_paid_b239 p1 p2 p3 p4 p5 p6 p7 (v8) (v10) K113 (h12) Q hK113 hw
            · refine g_lload 3 (dk D_X9_paid 123 rfl) rfl ?_
              refine g_aload_n 1 (dk D_X9_paid 124 rfl) rfl rfl ?_
              refine g_aload_n 1 (dk D_X9_paid 125 rfl) rfl rfl ?_
              refine g_getR 25 (t := 134) (dk D_X9_paid 126 rfl) kd_92 rfl rfl (by decide) w_1382 rfl rfl rfl ?_
              refine g_iload_n 2 (dk D_X9_paid 127 rfl) rfl rfl ?_
              obtain ⟨hi15, hw⟩ := hw
              refine g_aald (dk D_X9_paid 128 rfl) kd_134 rfl rfl hi15 ?_
              refine g_aload_n 1 (dk D_X9_paid 129 rfl) rfl rfl ?_
              refine g_getR 22 (t := 119) (dk D_X9_paid 130 rfl) kd_92 rfl rfl (by decide) w_1379 rfl rfl rfl ?_
              refine g_iload_n 2 (dk D_X9_paid 131 rfl) rfl rfl ?_
              obtain ⟨hi16, hw⟩ := hw
              refine g_aald (dk D_X9_paid 132 rfl) kd_119 rfl rfl hi16 ?_
              refine g_iload 4 (dk D_X9_paid 133 rfl) rfl ?_
              obtain ⟨hi17, hw⟩ := hw
              refine g_iald (dk D_X9_paid 134 rfl) (kdf_119 _ (in_lt hi16)) hi17 ?_
              refine g_aload_n 1 (dk D_X9_paid 135 rfl) rfl rfl ?_
              refine g_getR 23 (t := 124) (dk D_X9_paid 136 rfl) kd_92 rfl rfl (by decide) w_1380 rfl rfl rfl ?_
              refine g_iload_n 2 (dk D_X9_paid 137 rfl) rfl rfl ?_
              obtain ⟨hi18, hw⟩ := hw
              refine g_aald (dk D_X9_paid 138 rfl) kd_124 rfl rfl hi18 ?_
              refine g_iload 4 (dk D_X9_paid 139 rfl) rfl ?_
              obtain ⟨hi19, hw⟩ := hw
              refine g_iald (dk D_X9_paid 140 rfl) (kdf_124 _ (in_lt hi18)) hi19 ?_
              refine g_callV (As := [.ref ((135 + 1 * Int32.toNatClampNeg (p1))), .int ((h12 (120 + 1 * Int32.toNatClampNeg (p1)) (Int32.toNatClampNeg v10))), .int ((h12 (125 + 1 * Int32.toNatClampNeg (p1)) (Int32.toNatClampNeg v10)))]) (kc := 0) (fr := 1) (lo := 30) (mc := 0) (My := M_X9_comes) (dk D_X9_paid 141 rfl) kd_92 rfl rfl w_1725 w_1727 w_75 w_110 w_1728 okD_X9_comes (by decide) (Nat.le_of_ble_eq_true rfl) rfl (c_X9_comes (135 + 1 * Int32.toNatClampNeg (p1)) 800 ((h12 (120 + 1 * Int32.toNatClampNeg (p1)) (Int32.toNatClampNeg v10))) ((h12 (125 + 1 * Int32.toNatClampNeg (p1)) (Int32.toNatClampNeg v10))) ((kdf_134 _ (in_lt hi15))) (h12) _ hw) kxN (kI (fun z20 h21 hw => ?_))
              refine g_i2l (dk D_X9_paid 142 rfl) ?_
              refine g_ladd (dk D_X9_paid 143 rfl) ?_
              refine g_topl (fun v8_22 ev8_22 => ?_)
              replace hw := hw _ ev8_22
              refine g_lstore (dk D_X9_paid 144 rfl) (by decide) rfl ?_
              refine g_sub [2, 3, 0, 4] rfl ?_
              exact t_X9_paid_b239 p1 p2 p3 p4 p5 p6 p7 (v8_22) (v10) K113 (h21) Q hK113 hw
          refine g_icmp_ne (dk D_X9_paid 116 rfl) rfl ?_
          by_cases c13 : ¬ z11 = (1 : Int32)
          · rw [if_pos c13] at hj
            refine wif_p c13 ?_
            refine g_iconst (dk D_X9_paid 119 rfl) ki_0 ?_
            exact hj
          · rw [if_neg c13] at hj
            refine wif_n c13 ?_
            refine g_iconst (dk D_X9_paid 117 rfl) ki_1 ?_
            refine g_goto (dk D_X9_paid 118 rfl) rfl ?_
            exact hj
theorem t_X9_paid_b113 {X : Cx} (p1 : Int32) (p2 : Int32) (p3 : Int32) (p4 : Int32) (p5 : Int32) (p6 : Int32) (p7 : Int32) (Q : Int32 → Hp → Prop) (s : Int64 × Int32 × Hp) (hw : w_X9_paid_b113 p1 p2 p3 p4 p5 p6 p7 Q s) : G X M_X9_paid E_X9_paid (QM X E_X9_paid (QI Q) Qn) 0 113 [(0, .ref (92)), (1, .int (p1)), (8, .long (s.1)), (10, .int (s.2.1))] [] (s.2.2) :=
  wl_ind (B := fun K s => w_X9_paid_l113 p1 p2 p3 p4 p5 p6 p7 Q K (s.1) (s.2.1) (s.2.2)) (P := fun s => G X M_X9_paid E_X9_paid (QM X E_X9_paid (QI Q) Qn) 0 113 [(0, .ref (92)), (1, .int (p1)), (8, .long (s.1)), (10, .int (s.2.1))] [] (s.2.2)) (fun K hK s hw => t_X9_paid_l113 p1 p2 p3 p4 p5 p6 p7 Q K (s.1) (s.2.1) (s.2.2) hK hw) s hw
theorem t_X9_paid_b110 {X : Cx} (p1 : Int32) (p2 : Int32) (p3 : Int32) (p4 : Int32) (p5 : Int32) (p6 : Int32) (p7 : Int32) (v8 : Int64) (h : Hp) (Q : Int32 → Hp → Prop) (hw : w_X9_paid_b110 p1 p2 p3 p4 p5 p6 p7 v8 h Q) : G X M_X9_paid E_X9_paid (QM X E_X9_paid (QI Q) Qn) 0 110 [(0, .ref (92)), (1, .int (p1)), (8, .long (v8))] [] h := by
  unfold w_X9_paid_b110 at hw
  refine g_iconst (dk D_X9_paid 68 rfl) ki_0 ?_
  refine g_istore (dk D_X9_paid 69 rfl) (by decide) rfl ?_
  refine g_sub [1, 2, 3, 0] rfl ?_
  exact t_X9_paid_b113 p1 p2 p3 p4 p5 p6 p7 Q (v8, (0 : Int32), h) hw
theorem t_X9_paid_b24 {X : Cx} (p1 : Int32) (p2 : Int32) (p3 : Int32) (p4 : Int32) (p5 : Int32) (p6 : Int32) (p7 : Int32) (s0 : Int32) (s1 : Int32) (h : Hp) (Q : Int32 → Hp → Prop) (hw : w_X9_paid_b24 p1 p2 p3 p4 p5 p6 p7 s0 s1 h Q) : G X M_X9_paid E_X9_paid (QM X E_X9_paid (QI Q) Qn) 0 24 [(0, .ref (92)), (1, .int (p1)), (3, .int (p3)), (4, .int (p4)), (5, .int (p5)), (6, .int (p6))] [.int (s0), .int (s1), .ref (140)] h := by
  unfold w_X9_paid_b24 at hw
  obtain ⟨hi1, hw⟩ := hw
  refine g_iast (dk D_X9_paid 13 rfl) kd_140 hi1 ?_
  refine g_heap (fun h2 eh2 => ?_)
  replace hw := hw _ eh2
  refine g_aload_n 0 (dk D_X9_paid 14 rfl) rfl rfl ?_
  refine g_getR 27 (t := 140) (dk D_X9_paid 15 rfl) kd_92 rfl rfl (by decide) w_1384 rfl rfl rfl ?_
  refine g_iconst (dk D_X9_paid 16 rfl) ki_1 ?_
  refine g_iload 4 (dk D_X9_paid 17 rfl) rfl ?_
  obtain ⟨hi3, hw⟩ := hw
  refine g_iast (dk D_X9_paid 18 rfl) kd_140 hi3 ?_
  refine g_heap (fun h4 eh4 => ?_)
  replace hw := hw _ eh4
  refine g_aload_n 0 (dk D_X9_paid 19 rfl) rfl rfl ?_
  refine g_getR 27 (t := 140) (dk D_X9_paid 20 rfl) kd_92 rfl rfl (by decide) w_1384 rfl rfl rfl ?_
  refine g_iconst (dk D_X9_paid 21 rfl) ki_2 ?_
  refine g_iload 5 (dk D_X9_paid 22 rfl) rfl ?_
  obtain ⟨hi5, hw⟩ := hw
  refine g_iast (dk D_X9_paid 23 rfl) kd_140 hi5 ?_
  refine g_heap (fun h6 eh6 => ?_)
  replace hw := hw _ eh6
  refine g_aload_n 0 (dk D_X9_paid 24 rfl) rfl rfl ?_
  refine g_getR 27 (t := 140) (dk D_X9_paid 25 rfl) kd_92 rfl rfl (by decide) w_1384 rfl rfl rfl ?_
  refine g_iconst (dk D_X9_paid 26 rfl) ki_3 ?_
  refine g_iload 3 (dk D_X9_paid 27 rfl) rfl ?_
  refine g_bipush (dk D_X9_paid 28 rfl) kb_60 ?_
  refine g_idiv (dk D_X9_paid 29 rfl) (by decide) ?_
  obtain ⟨hi7, hw⟩ := hw
  refine g_iast (dk D_X9_paid 30 rfl) kd_140 hi7 ?_
  refine g_heap (fun h8 eh8 => ?_)
  replace hw := hw _ eh8
  refine g_aload_n 0 (dk D_X9_paid 31 rfl) rfl rfl ?_
  refine g_getR 27 (t := 140) (dk D_X9_paid 32 rfl) kd_92 rfl rfl (by decide) w_1384 rfl rfl rfl ?_
  refine g_iconst (dk D_X9_paid 33 rfl) ki_4 ?_
  refine g_iload_n 2 (dk D_X9_paid 34 rfl) rfl rfl ?_
  obtain ⟨hi9, hw⟩ := hw
  refine g_iast (dk D_X9_paid 35 rfl) kd_140 hi9 ?_
  refine g_heap (fun h10 eh10 => ?_)
  replace hw := hw _ eh10
  refine g_aload_n 0 (dk D_X9_paid 36 rfl) rfl rfl ?_
  refine g_getR 27 (t := 140) (dk D_X9_paid 37 rfl) kd_92 rfl rfl (by decide) w_1384 rfl rfl rfl ?_
  refine g_iconst (dk D_X9_paid 38 rfl) ki_5 ?_
  refine g_aload_n 0 (dk D_X9_paid 39 rfl) rfl rfl ?_
  refine g_getR 15 (t := 99) (dk D_X9_paid 40 rfl) kd_92 rfl rfl (by decide) w_1372 rfl rfl rfl ?_
  refine g_iload_n 2 (dk D_X9_paid 41 rfl) rfl rfl ?_
  obtain ⟨hi11, hw⟩ := hw
  refine g_iald (dk D_X9_paid 42 rfl) kd_99 hi11 ?_
  obtain ⟨hi12, hw⟩ := hw
  refine g_iast (dk D_X9_paid 43 rfl) kd_140 hi12 ?_
  refine g_heap (fun h13 eh13 => ?_)
  replace hw := hw _ eh13
  refine g_lconst (dk D_X9_paid 44 rfl) kl_0 ?_
  refine g_lstore (dk D_X9_paid 45 rfl) (by decide) rfl ?_
  refine g_aload_n 1 (dk D_X9_paid 46 rfl) rfl rfl ?_
  refine g_getI 48 (dk D_X9_paid 47 rfl) kd_92 rfl rfl (by decide) w_1405 rfl rfl ?_
  refine g_iconst (dk D_X9_paid 48 rfl) ki_m1 ?_
  refine g_icmp_eq (dk D_X9_paid 49 rfl) rfl (wif_m hw (fun hw => ?_) (fun hw => ?_))
  · refine g_sub [1, 2, 0] rfl ?_
    exact t_X9_paid_b110 p1 p2 p3 p4 p5 p6 p7 ((0 : Int64)) (h13) Q hw
  · refine g_aload_n 1 (dk D_X9_paid 50 rfl) rfl rfl ?_
    refine g_getR 27 (t := 140) (dk D_X9_paid 51 rfl) kd_92 rfl rfl (by decide) w_1384 rfl rfl rfl ?_
    refine g_iconst (dk D_X9_paid 52 rfl) ki_0 ?_
    obtain ⟨hi14, hw⟩ := hw
    refine g_iald (dk D_X9_paid 53 rfl) kd_140 hi14 ?_
    refine g_aload_n 1 (dk D_X9_paid 54 rfl) rfl rfl ?_
    refine g_getI 48 (dk D_X9_paid 55 rfl) kd_92 rfl rfl (by decide) w_1405 rfl rfl ?_
    refine g_imul (dk D_X9_paid 56 rfl) ?_
    refine g_bipush (dk D_X9_paid 57 rfl) kb_100 ?_
    refine g_idiv (dk D_X9_paid 58 rfl) (by decide) ?_
    refine g_iload 6 (dk D_X9_paid 59 rfl) rfl ?_
    refine g_aload_n 1 (dk D_X9_paid 60 rfl) rfl rfl ?_
    refine g_getI 49 (dk D_X9_paid 61 rfl) kd_92 rfl rfl (by decide) w_1406 rfl rfl ?_
    refine g_imul (dk D_X9_paid 62 rfl) ?_
    refine g_bipush (dk D_X9_paid 63 rfl) kb_10 ?_
    refine g_idiv (dk D_X9_paid 64 rfl) (by decide) ?_
    refine g_iadd (dk D_X9_paid 65 rfl) ?_
    refine g_i2l (dk D_X9_paid 66 rfl) ?_
    refine g_topl (fun v8_15 ev8_15 => ?_)
    replace hw := hw _ ev8_15
    refine g_lstore (dk D_X9_paid 67 rfl) (by decide) rfl ?_
    refine g_sub [1, 2, 0] rfl ?_
    exact t_X9_paid_b110 p1 p2 p3 p4 p5 p6 p7 (v8_15) (h13) Q hw
theorem t_X9_paid {X : Cx} (p1 : Int32) (p2 : Int32) (p3 : Int32) (p4 : Int32) (p5 : Int32) (p6 : Int32) (p7 : Int32) (h : Hp) (Q : Int32 → Hp → Prop) (hw : w_X9_paid p1 p2 p3 p4 p5 p6 p7 h Q) : G X M_X9_paid E_X9_paid (QM X E_X9_paid (QI Q) Qn) 0 0 [(0, .ref (92)), (1, .int (p1)), (2, .int (p2)), (3, .int (p3)), (4, .int (p4)), (5, .int (p5)), (6, .int (p6)), (7, .int (p7))] [] h := by
  unfold w_X9_paid at hw
  refine g_aload_n 0 (dk D_X9_paid 0 rfl) rfl rfl ?_
  refine g_getR 27 (t := 140) (dk D_X9_paid 1 rfl) kd_92 rfl rfl (by decide) w_1384 rfl rfl rfl ?_
  refine g_iconst (dk D_X9_paid 2 rfl) ki_0 ?_
  refine g_iload 7 (dk D_X9_paid 3 rfl) rfl ?_
  refine g_if_eq (dk D_X9_paid 4 rfl) rfl (wif_m hw (fun hw => ?_) (fun hw => ?_))
  · refine g_aload_n 0 (dk D_X9_paid 7 rfl) rfl rfl ?_
    refine g_iload_n 2 (dk D_X9_paid 8 rfl) rfl rfl ?_
    refine g_iload_n 3 (dk D_X9_paid 9 rfl) rfl rfl ?_
    refine g_iload 4 (dk D_X9_paid 10 rfl) rfl ?_
    refine g_iload 5 (dk D_X9_paid 11 rfl) rfl ?_
    refine g_callV (As := [.int (p2), .int (p3), .int (p4), .int (p5)]) (kc := 0) (fr := 2) (lo := 63) (mc := 0) (My := M_X9_shadowOf) (dk D_X9_paid 12 rfl) kd_92 rfl rfl w_1705 w_1707 w_72 w_110 w_1708 okD_X9_shadowOf (by decide) (Nat.le_of_ble_eq_true rfl) rfl (c_X9_shadowOf (p2) (p3) (p4) (p5) (h) _ hw) kxN (kIp (fun z1 hw => ?_))
    refine g_sub [0, 1, 3, 4, 5, 6] rfl ?_
    exact t_X9_paid_b24 p1 p2 p3 p4 p5 p6 p7 (z1) ((0 : Int32)) (h) Q hw
  · refine g_iconst (dk D_X9_paid 5 rfl) ki_0 ?_
    refine g_goto (dk D_X9_paid 6 rfl) rfl ?_
    refine g_sub [0, 1, 3, 4, 5, 6] rfl ?_
    exact t_X9_paid_b24 p1 p2 p3 p4 p5 p6 p7 ((0 : Int32)) ((0 : Int32)) (h) Q hw
theorem c_X9_paid {X : Cx} (p1 : Int32) (p2 : Int32) (p3 : Int32) (p4 : Int32) (p5 : Int32) (p6 : Int32) (p7 : Int32) (h : Hp) (Q : Int32 → Hp → Prop) (hw : w_X9_paid p1 p2 p3 p4 p5 p6 p7 h Q) : Con X yX9_paid M_X9_paid 3 97 0 [.ref (92), .int (p1), .int (p2), .int (p3), .int (p4), .int (p5), .int (p6), .int (p7)] h (QI Q) Qn :=
  con_of (by decide +kernel) rfl (Nat.le_of_ble_eq_true rfl) (t_X9_paid p1 p2 p3 p4 p5 p6 p7 h Q hw)
/-! ShadowTollsModel.coinsOf(IIIIZ)I -/
abbrev M_X9_coinsOf : Mi := (RX9, cX9_coinsOf, 9, (some .int))
abbrev E_X9_coinsOf : Rm := (4, 136, 0, 0)
def rows_X9_coinsOf : List (Nat × Instr × Nat) := [(0, .aload_n 0, 1), (1, .getfield 40, 3), (4, .iload_n 2, 1), (5, .aaload, 1), (6, .astore 6, 2), (8, .aload_n 0, 1), (9, .aload_n 0, 1), (10, .getfield 64, 3), (13, .iload_n 1, 1), (14, .iaload, 1), (15, .iload_n 1, 1), (16, .iload_n 3, 1), (17, .iload 4, 2), (19, .aload 6, 2), (21, .iconst 0, 1), (22, .iaload, 1), (23, .aload 6, 2), (25, .iconst 5, 1), (26, .iaload, 1), (27, .iadd, 1), (28, .aload 6, 2), (30, .iconst 1, 1), (31, .iaload, 1), (32, .iload 5, 2), (34, .invokevirtual 312, 3), (37, .istore 7, 2), (39, .aload 6, 2), (41, .bipush 6, 2), (43, .iaload, 1), (44, .ifCond .ne 6, 3), (47, .iload 7, 2), (49, .ireturn, 1), (50, .aload_n 0, 1), (51, .aload_n 0, 1), (52, .getfield 64, 3), (55, .iload_n 1, 1), (56, .iaload, 1), (57, .iload_n 1, 1), (58, .iload_n 3, 1), (59, .iload 4, 2), (61, .aload 6, 2), (63, .bipush 6, 2), (65, .iaload, 1), (66, .iconst 2, 1), (67, .aload 6, 2), (69, .iconst 1, 1), (70, .iaload, 1), (71, .imul, 1), (72, .iload 5, 2), (74, .invokevirtual 312, 3), (77, .istore 8, 2), (79, .iload 8, 2), (81, .iload 7, 2), (83, .if_icmp .ge 8, 3), (86, .iload 8, 2), (88, .goto 5, 3), (91, .iload 7, 2), (93, .ireturn, 1)]
theorem D_X9_coinsOf : dkA cX9_coinsOf rows_X9_coinsOf := by
  unfold dkA
  decide +kernel
theorem okD_X9_coinsOf : okD yX9_coinsOf 5 := by
  unfold okD
  decide +kernel
def w_X9_coinsOf (p1 : Int32) (p2 : Int32) (p3 : Int32) (p4 : Int32) (p5 : Int32) (h : Hp) (Q : Int32 → Hp → Prop) : Prop :=
  (vp_in p2 8 ∧ (vp_in p1 2 ∧ (vp_in (0 : Int32) 7 ∧ (vp_in (5 : Int32) 7 ∧ (vp_in (1 : Int32) 7 ∧ w_X9_paid ((h 141 (Int32.toNatClampNeg p1))) (p1) (p3) (p4) (((h (110 + 1 * Int32.toNatClampNeg (p2)) (Int32.toNatClampNeg (0 : Int32))) + (h (110 + 1 * Int32.toNatClampNeg (p2)) (Int32.toNatClampNeg (5 : Int32))))) ((h (110 + 1 * Int32.toNatClampNeg (p2)) (Int32.toNatClampNeg (1 : Int32)))) (p5) h (fun z6 h7 => (vp_in (6 : Int32) 7 ∧ wif (¬ (h7 (110 + 1 * Int32.toNatClampNeg (p2)) (Int32.toNatClampNeg (6 : Int32))) = 0) ((vp_in p1 2 ∧ (vp_in (6 : Int32) 7 ∧ (vp_in (1 : Int32) 7 ∧ w_X9_paid ((h7 141 (Int32.toNatClampNeg p1))) (p1) (p3) (p4) ((h7 (110 + 1 * Int32.toNatClampNeg (p2)) (Int32.toNatClampNeg (6 : Int32)))) (((2 : Int32) * (h7 (110 + 1 * Int32.toNatClampNeg (p2)) (Int32.toNatClampNeg (1 : Int32))))) (p5) h7 (fun z12 h13 => Q (if z6 ≤ z12 then z6 else z12) h13))))) (Q z6 h7))))))))
theorem t_X9_coinsOf {X : Cx} (p1 : Int32) (p2 : Int32) (p3 : Int32) (p4 : Int32) (p5 : Int32) (h : Hp) (Q : Int32 → Hp → Prop) (hw : w_X9_coinsOf p1 p2 p3 p4 p5 h Q) : G X M_X9_coinsOf E_X9_coinsOf (QM X E_X9_coinsOf (QI Q) Qn) 0 0 [(0, .ref (92)), (1, .int (p1)), (2, .int (p2)), (3, .int (p3)), (4, .int (p4)), (5, .int (p5))] [] h := by
  unfold w_X9_coinsOf at hw
  refine g_aload_n 0 (dk D_X9_coinsOf 0 rfl) rfl rfl ?_
  refine g_getR 17 (t := 109) (dk D_X9_coinsOf 1 rfl) kd_92 rfl rfl (by decide) w_1374 rfl rfl rfl ?_
  refine g_iload_n 2 (dk D_X9_coinsOf 2 rfl) rfl rfl ?_
  obtain ⟨hi1, hw⟩ := hw
  refine g_aald (dk D_X9_coinsOf 3 rfl) kd_109 rfl rfl hi1 ?_
  refine g_astore (dk D_X9_coinsOf 4 rfl) (by decide) rfl ?_
  refine g_aload_n 1 (dk D_X9_coinsOf 5 rfl) rfl rfl ?_
  refine g_aload_n 1 (dk D_X9_coinsOf 6 rfl) rfl rfl ?_
  refine g_getR 28 (t := 141) (dk D_X9_coinsOf 7 rfl) kd_92 rfl rfl (by decide) w_1385 rfl rfl rfl ?_
  refine g_iload_n 2 (dk D_X9_coinsOf 8 rfl) rfl rfl ?_
  obtain ⟨hi2, hw⟩ := hw
  refine g_iald (dk D_X9_coinsOf 9 rfl) kd_141 hi2 ?_
  refine g_iload_n 2 (dk D_X9_coinsOf 10 rfl) rfl rfl ?_
  refine g_iload_n 4 (dk D_X9_coinsOf 11 rfl) rfl rfl ?_
  refine g_iload 5 (dk D_X9_coinsOf 12 rfl) rfl ?_
  refine g_aload 0 (dk D_X9_coinsOf 13 rfl) rfl ?_
  refine g_iconst (dk D_X9_coinsOf 14 rfl) ki_0 ?_
  obtain ⟨hi3, hw⟩ := hw
  refine g_iald (dk D_X9_coinsOf 15 rfl) (kdf_109 _ (in_lt hi1)) hi3 ?_
  refine g_aload 0 (dk D_X9_coinsOf 16 rfl) rfl ?_
  refine g_iconst (dk D_X9_coinsOf 17 rfl) ki_5 ?_
  obtain ⟨hi4, hw⟩ := hw
  refine g_iald (dk D_X9_coinsOf 18 rfl) (kdf_109 _ (in_lt hi1)) hi4 ?_
  refine g_iadd (dk D_X9_coinsOf 19 rfl) ?_
  refine g_aload 0 (dk D_X9_coinsOf 20 rfl) rfl ?_
  refine g_iconst (dk D_X9_coinsOf 21 rfl) ki_1 ?_
  obtain ⟨hi5, hw⟩ := hw
  refine g_iald (dk D_X9_coinsOf 22 rfl) (kdf_109 _ (in_lt hi1)) hi5 ?_
  refine g_iload 6 (dk D_X9_coinsOf 23 rfl) rfl ?_
  refine g_callV (As := [.int ((h 141 (Int32.toNatClampNeg p1))), .int (p1), .int (p3), .int (p4), .int (((h (110 + 1 * Int32.toNatClampNeg (p2)) (Int32.toNatClampNeg (0 : Int32))) + (h (110 + 1 * Int32.toNatClampNeg (p2)) (Int32.toNatClampNeg (5 : Int32))))), .int ((h (110 + 1 * Int32.toNatClampNeg (p2)) (Int32.toNatClampNeg (1 : Int32)))), .int (p5)]) (kc := 0) (fr := 3) (lo := 97) (mc := 0) (My := M_X9_paid) (dk D_X9_coinsOf 24 rfl) kd_92 rfl rfl w_1721 w_1723 w_74 w_110 w_1724 okD_X9_paid (by decide) (Nat.le_of_ble_eq_true rfl) rfl (c_X9_paid ((h 141 (Int32.toNatClampNeg p1))) (p1) (p3) (p4) (((h (110 + 1 * Int32.toNatClampNeg (p2)) (Int32.toNatClampNeg (0 : Int32))) + (h (110 + 1 * Int32.toNatClampNeg (p2)) (Int32.toNatClampNeg (5 : Int32))))) ((h (110 + 1 * Int32.toNatClampNeg (p2)) (Int32.toNatClampNeg (1 : Int32)))) (p5) (h) _ hw) kxN (kI (fun z6 h7 hw => ?_))
  refine g_istore (dk D_X9_coinsOf 25 rfl) (by decide) rfl ?_
  refine g_aload 1 (dk D_X9_coinsOf 26 rfl) rfl ?_
  refine g_bipush (dk D_X9_coinsOf 27 rfl) kb_6 ?_
  obtain ⟨hi8, hw⟩ := hw
  refine g_iald (dk D_X9_coinsOf 28 rfl) (kdf_109 _ (in_lt hi1)) hi8 ?_
  refine g_if_ne (dk D_X9_coinsOf 29 rfl) rfl (wif_m hw (fun hw => ?_) (fun hw => ?_))
  · refine g_aload_n 2 (dk D_X9_coinsOf 32 rfl) rfl rfl ?_
    refine g_aload_n 2 (dk D_X9_coinsOf 33 rfl) rfl rfl ?_
    refine g_getR 28 (t := 141) (dk D_X9_coinsOf 34 rfl) kd_92 rfl rfl (by decide) w_1385 rfl rfl rfl ?_
    refine g_iload_n 3 (dk D_X9_coinsOf 35 rfl) rfl rfl ?_
    obtain ⟨hi9, hw⟩ := hw
    refine g_iald (dk D_X9_coinsOf 36 rfl) kd_141 hi9 ?_
    refine g_iload_n 3 (dk D_X9_coinsOf 37 rfl) rfl rfl ?_
    refine g_iload_n 5 (dk D_X9_coinsOf 38 rfl) rfl rfl ?_
    refine g_iload 6 (dk D_X9_coinsOf 39 rfl) rfl ?_
    refine g_aload 1 (dk D_X9_coinsOf 40 rfl) rfl ?_
    refine g_bipush (dk D_X9_coinsOf 41 rfl) kb_6 ?_
    obtain ⟨hi10, hw⟩ := hw
    refine g_iald (dk D_X9_coinsOf 42 rfl) (kdf_109 _ (in_lt hi1)) hi10 ?_
    refine g_iconst (dk D_X9_coinsOf 43 rfl) ki_2 ?_
    refine g_aload 1 (dk D_X9_coinsOf 44 rfl) rfl ?_
    refine g_iconst (dk D_X9_coinsOf 45 rfl) ki_1 ?_
    obtain ⟨hi11, hw⟩ := hw
    refine g_iald (dk D_X9_coinsOf 46 rfl) (kdf_109 _ (in_lt hi1)) hi11 ?_
    refine g_imul (dk D_X9_coinsOf 47 rfl) ?_
    refine g_iload 7 (dk D_X9_coinsOf 48 rfl) rfl ?_
    refine g_callV (As := [.int ((h7 141 (Int32.toNatClampNeg p1))), .int (p1), .int (p3), .int (p4), .int ((h7 (110 + 1 * Int32.toNatClampNeg (p2)) (Int32.toNatClampNeg (6 : Int32)))), .int (((2 : Int32) * (h7 (110 + 1 * Int32.toNatClampNeg (p2)) (Int32.toNatClampNeg (1 : Int32))))), .int (p5)]) (kc := 0) (fr := 3) (lo := 97) (mc := 0) (My := M_X9_paid) (dk D_X9_coinsOf 49 rfl) kd_92 rfl rfl w_1721 w_1723 w_74 w_110 w_1724 okD_X9_paid (by decide) (Nat.le_of_ble_eq_true rfl) rfl (c_X9_paid ((h7 141 (Int32.toNatClampNeg p1))) (p1) (p3) (p4) ((h7 (110 + 1 * Int32.toNatClampNeg (p2)) (Int32.toNatClampNeg (6 : Int32)))) (((2 : Int32) * (h7 (110 + 1 * Int32.toNatClampNeg (p2)) (Int32.toNatClampNeg (1 : Int32))))) (p5) (h7) _ hw) kxN (kI (fun z12 h13 hw => ?_))
    refine g_istore (dk D_X9_coinsOf 50 rfl) (by decide) rfl ?_
    refine g_iload 0 (dk D_X9_coinsOf 51 rfl) rfl ?_
    refine g_iload 1 (dk D_X9_coinsOf 52 rfl) rfl ?_
    have hj : G X M_X9_coinsOf E_X9_coinsOf (QM X E_X9_coinsOf (QI Q) Qn) 0 93 [(8, .int (z12)), (7, .int (z6)), (6, .ref ((110 + 1 * Int32.toNatClampNeg (p2)))), (0, .ref (92)), (1, .int (p1)), (2, .int (p2)), (3, .int (p3)), (4, .int (p4)), (5, .int (p5))] [.int ((if z6 ≤ z12 then z6 else z12))] (h13) := by
      exact g_iret (dk D_X9_coinsOf 57 rfl) rfl ⟨_, rfl, hw⟩
    refine g_icmp_ge (dk D_X9_coinsOf 53 rfl) rfl ?_
    by_cases c14 : z6 ≤ z12
    · rw [if_pos c14] at hj
      refine wif_p c14 ?_
      refine g_iload 1 (dk D_X9_coinsOf 56 rfl) rfl ?_
      exact hj
    · rw [if_neg c14] at hj
      refine wif_n c14 ?_
      refine g_iload 0 (dk D_X9_coinsOf 54 rfl) rfl ?_
      refine g_goto (dk D_X9_coinsOf 55 rfl) rfl ?_
      exact hj
  · refine g_iload 0 (dk D_X9_coinsOf 30 rfl) rfl ?_
    exact g_iret (dk D_X9_coinsOf 31 rfl) rfl ⟨_, rfl, hw⟩
theorem c_X9_coinsOf {X : Cx} (p1 : Int32) (p2 : Int32) (p3 : Int32) (p4 : Int32) (p5 : Int32) (h : Hp) (Q : Int32 → Hp → Prop) (hw : w_X9_coinsOf p1 p2 p3 p4 p5 h Q) : Con X yX9_coinsOf M_X9_coinsOf 4 136 0 [.ref (92), .int (p1), .int (p2), .int (p3), .int (p4), .int (p5)] h (QI Q) Qn :=
  con_of (by decide +kernel) rfl (Nat.le_of_ble_eq_true rfl) (t_X9_coinsOf p1 p2 p3 p4 p5 h Q hw)
