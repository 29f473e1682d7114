/-! ShadowTolls.coins(IIIIZ)I -/
abbrev M_X8_coins : Mi := (RX8, cX8_coins, 6, (some .int))
abbrev E_X8_coins : Rm := (7, 134, 4, 24)
def rows_X8_coins : List (Nat × Instr × Nat) := [(0, .aload_n 0, 1), (1, .iload_n 1, 1), (2, .invokevirtual 196, 3), (5, .aload_n 0, 1), (6, .iload_n 2, 1), (7, .invokevirtual 176, 3), (10, .iload_n 3, 1), (11, .invokestatic 183, 3), (14, .iload 4, 2), (16, .invokestatic 199, 3), (19, .aload_n 0, 1), (20, .getfield 19, 3), (23, .aload_n 0, 1), (24, .iload_n 1, 1), (25, .invokevirtual 216, 3), (28, .iload_n 1, 1), (29, .iload_n 2, 1), (30, .iload_n 3, 1), (31, .iload 4, 2), (33, .iload 5, 2), (35, .invokevirtual 220, 3), (38, .ireturn, 1)]
theorem D_X8_coins : dkA cX8_coins rows_X8_coins := by
  unfold dkA
  decide +kernel
theorem okD_X8_coins : okD yX8_coins 5 := by
  unfold okD
  decide +kernel
def w_X8_coins (p1 : Int32) (p2 : Int32) (p3 : Int32) (p4 : Int32) (p5 : Int32) (h : Hp) (Q : Int32 → Hp → Prop) (Qx : String → Hp → Prop) : Prop :=
  w_X8_needBridge (p1) h (w_X8_needTraveller (p2) h (w_X8_needDay (p3) h (w_X8_needMinute (p4) h (w_X8_lawOf (p1) h (fun q1 => w_X4_fare 3 q1 (p1) (p2) (p3) (p4) (p5) h (fun z2 h3 => Q z2 h3))) Qx) Qx) Qx) Qx
theorem t_X8_coins {X : Cx} (p1 : Int32) (p2 : Int32) (p3 : Int32) (p4 : Int32) (p5 : Int32) (h : Hp) (Q : Int32 → Hp → Prop) (Qx : String → Hp → Prop) (hw : w_X8_coins p1 p2 p3 p4 p5 h Q Qx) : G X M_X8_coins E_X8_coins (QM X E_X8_coins (QI Q) Qx) 4 0 [(0, .ref (0)), (1, .int (p1)), (2, .int (p2)), (3, .int (p3)), (4, .int (p4)), (5, .int (p5))] [] h := by
  unfold w_X8_coins at hw
  refine g_aload_n 0 (dk D_X8_coins 0 rfl) rfl rfl ?_
  refine g_iload_n 1 (dk D_X8_coins 1 rfl) rfl rfl ?_
  refine g_callV (As := [.int (p1)]) (kc := 3) (fr := 6) (lo := 82) (mc := 1) (My := M_X8_needBridge) (dk D_X8_coins 2 rfl) kd_0 rfl rfl w_1051 w_1053 w_27 w_101 w_1054 okD_X8_needBridge (by decide) (Nat.le_of_ble_eq_true rfl) rfl (c_X8_needBridge (p1) (h) _ _ hw) kxT (kVp (fun hw => ?_))
  refine g_aload_n 0 (dk D_X8_coins 3 rfl) rfl rfl ?_
  refine g_iload_n 2 (dk D_X8_coins 4 rfl) rfl rfl ?_
  refine g_callV (As := [.int (p2)]) (kc := 2) (fr := 6) (lo := 82) (mc := 1) (My := M_X8_needTraveller) (dk D_X8_coins 5 rfl) kd_0 rfl rfl w_1011 w_1013 w_26 w_101 w_1014 okD_X8_needTraveller (by decide) (Nat.le_of_ble_eq_true rfl) rfl (c_X8_needTraveller (p2) (h) _ _ hw) kxT (kVp (fun hw => ?_))
  refine g_iload_n 3 (dk D_X8_coins 6 rfl) rfl rfl ?_
  refine g_callS (As := [.int (p3)]) (kc := 1) (fr := 6) (lo := 82) (mc := 1) (My := M_X8_needDay) (dk D_X8_coins 7 rfl) w_1039 w_1040 w_101 w_1041 okD_X8_needDay (by decide) (Nat.le_of_ble_eq_true rfl) rfl (c_X8_needDay (p3) (h) _ _ hw) kxT (kVp (fun hw => ?_))
  refine g_iload 4 (dk D_X8_coins 8 rfl) rfl ?_
  refine g_callS (As := [.int (p4)]) (kc := 0) (fr := 6) (lo := 82) (mc := 1) (My := M_X8_needMinute) (dk D_X8_coins 9 rfl) w_1071 w_1072 w_101 w_1073 okD_X8_needMinute (by decide) (Nat.le_of_ble_eq_true rfl) rfl (c_X8_needMinute (p4) (h) _ _ hw) kxT (kVp (fun hw => ?_))
  refine g_aload_n 0 (dk D_X8_coins 10 rfl) rfl rfl ?_
  refine g_getR 1 (t := 3) (dk D_X8_coins 11 rfl) kd_0 rfl rfl (by decide) w_435 rfl rfl rfl ?_
  refine g_aload_n 0 (dk D_X8_coins 12 rfl) rfl rfl ?_
  refine g_iload_n 1 (dk D_X8_coins 13 rfl) rfl rfl ?_
  refine g_callV (As := [.int (p1)]) (kc := 0) (fr := 1) (lo := 30) (mc := 0) (My := M_X8_lawOf) (dk D_X8_coins 14 rfl) kd_0 rfl rfl w_551 w_553 w_4 w_101 w_554 okD_X8_lawOf (by decide) (Nat.le_of_ble_eq_true rfl) rfl (c_X8_lawOf (p1) (h) _ hw) kxN (kLaw (fun q1 hq1 hw => ?_))
  refine g_iload_n 1 (dk D_X8_coins 15 rfl) rfl rfl ?_
  refine g_iload_n 2 (dk D_X8_coins 16 rfl) rfl rfl ?_
  refine g_iload_n 3 (dk D_X8_coins 17 rfl) rfl rfl ?_
  refine g_iload 4 (dk D_X8_coins 18 rfl) rfl ?_
  refine g_iload 5 (dk D_X8_coins 19 rfl) rfl ?_
  refine g_callV (As := [.ref (q1), .int (p1), .int (p2), .int (p3), .int (p4), .int (p5)]) (kc := 0) (fr := 3) (lo := 97) (mc := 0) (My := M_X4_fare) (dk D_X8_coins 20 rfl) roadP_3.1 rfl rfl w_1099 w_572 w_573 w_103 w_574 okD_X4_fare (by decide) (Nat.le_of_ble_eq_true rfl) rfl (c_X4_fare 3 q1 (p1) (p2) (p3) (p4) (p5) (roadP_3) (hq1) (h) _ hw) kxN (kI (fun z2 h3 hw => ?_))
  exact g_iret (dk D_X8_coins 21 rfl) rfl ⟨_, rfl, hw⟩
theorem c_X8_coins {X : Cx} (p1 : Int32) (p2 : Int32) (p3 : Int32) (p4 : Int32) (p5 : Int32) (h : Hp) (Q : Int32 → Hp → Prop) (Qx : String → Hp → Prop) (hw : w_X8_coins p1 p2 p3 p4 p5 h Q Qx) : Con X yX8_coins M_X8_coins 7 134 4 [.ref (0), .int (p1), .int (p2), .int (p3), .int (p4), .int (p5)] h (QI Q) Qx :=
  con_of (by decide +kernel) rfl (Nat.le_of_ble_eq_true rfl) (t_X8_coins p1 p2 p3 p4 p5 h Q Qx hw)
/-! ShadowTolls.expense(IIII)I -/
abbrev M_X8_expense : Mi := (RX8, cX8_expense, 5, (some .int))
abbrev E_X8_expense : Rm := (4, 134, 0, 0)
def rows_X8_expense : List (Nat × Instr × Nat) := [(0, .aload_n 0, 1), (1, .getfield 19, 3), (4, .aload_n 0, 1), (5, .iload_n 1, 1), (6, .invokevirtual 216, 3), (9, .iload_n 1, 1), (10, .iload_n 2, 1), (11, .iload_n 3, 1), (12, .iload 4, 2), (14, .iconst 0, 1), (15, .invokevirtual 220, 3), (18, .aload_n 0, 1), (19, .getfield 19, 3), (22, .iload_n 1, 1), (23, .iload_n 2, 1), (24, .iload 4, 2), (26, .invokevirtual 363, 3), (29, .iadd, 1), (30, .ireturn, 1)]
theorem D_X8_expense : dkA cX8_expense rows_X8_expense := by
  unfold dkA
  decide +kernel
theorem okD_X8_expense : okD yX8_expense 4 := by
  unfold okD
  decide +kernel
def w_X8_expense (p1 : Int32) (p2 : Int32) (p3 : Int32) (p4 : Int32) (h : Hp) (Q : Int32 → Hp → Prop) : Prop :=
  w_X8_lawOf (p1) h (fun q1 => w_X4_fare 3 q1 (p1) (p2) (p3) (p4) ((0 : Int32)) h (fun z2 h3 => w_X4_extra 3 (p1) (p2) (p4) h3 (fun z4 => Q (z2 + z4) h3)))
theorem t_X8_expense {X : Cx} (p1 : Int32) (p2 : Int32) (p3 : Int32) (p4 : Int32) (h : Hp) (Q : Int32 → Hp → Prop) (hw : w_X8_expense p1 p2 p3 p4 h Q) : G X M_X8_expense E_X8_expense (QM X E_X8_expense (QI Q) Qn) 0 0 [(0, .ref (0)), (1, .int (p1)), (2, .int (p2)), (3, .int (p3)), (4, .int (p4))] [] h := by
  unfold w_X8_expense at hw
  refine g_aload_n 0 (dk D_X8_expense 0 rfl) rfl rfl ?_
  refine g_getR 1 (t := 3) (dk D_X8_expense 1 rfl) kd_0 rfl rfl (by decide) w_435 rfl rfl rfl ?_
  refine g_aload_n 0 (dk D_X8_expense 2 rfl) rfl rfl ?_
  refine g_iload_n 1 (dk D_X8_expense 3 rfl) rfl rfl ?_
  refine g_callV (As := [.int (p1)]) (kc := 0) (fr := 1) (lo := 30) (mc := 0) (My := M_X8_lawOf) (dk D_X8_expense 4 rfl) kd_0 rfl rfl w_551 w_553 w_4 w_101 w_554 okD_X8_lawOf (by decide) (Nat.le_of_ble_eq_true rfl) rfl (c_X8_lawOf (p1) (h) _ hw) kxN (kLaw (fun q1 hq1 hw => ?_))
  refine g_iload_n 1 (dk D_X8_expense 5 rfl) rfl rfl ?_
  refine g_iload_n 2 (dk D_X8_expense 6 rfl) rfl rfl ?_
  refine g_iload_n 3 (dk D_X8_expense 7 rfl) rfl rfl ?_
  refine g_iload 4 (dk D_X8_expense 8 rfl) rfl ?_
  refine g_iconst (dk D_X8_expense 9 rfl) ki_0 ?_
  refine g_callV (As := [.ref (q1), .int (p1), .int (p2), .int (p3), .int (p4), .int ((0 : Int32))]) (kc := 0) (fr := 3) (lo := 97) (mc := 0) (My := M_X4_fare) (dk D_X8_expense 10 rfl) roadP_3.1 rfl rfl w_1099 w_572 w_573 w_103 w_574 okD_X4_fare (by decide) (Nat.le_of_ble_eq_true rfl) rfl (c_X4_fare 3 q1 (p1) (p2) (p3) (p4) ((0 : Int32)) (roadP_3) (hq1) (h) _ hw) kxN (kI (fun z2 h3 hw => ?_))
  refine g_aload_n 0 (dk D_X8_expense 11 rfl) rfl rfl ?_
  refine g_getR 1 (t := 3) (dk D_X8_expense 12 rfl) kd_0 rfl rfl (by decide) w_435 rfl rfl rfl ?_
  refine g_iload_n 1 (dk D_X8_expense 13 rfl) rfl rfl ?_
  refine g_iload_n 2 (dk D_X8_expense 14 rfl) rfl rfl ?_
  refine g_iload 4 (dk D_X8_expense 15 rfl) rfl ?_
  refine g_callV (As := [.int (p1), .int (p2), .int (p4)]) (kc := 0) (fr := 2) (lo := 59) (mc := 0) (My := M_X4_extra) (dk D_X8_expense 16 rfl) roadP_3.1 rfl rfl w_1118 w_612 w_613 w_103 w_614 okD_X4_extra (by decide) (Nat.le_of_ble_eq_true rfl) rfl (c_X4_extra 3 (p1) (p2) (p4) (roadP_3) (h3) _ hw) kxN (kIp (fun z4 hw => ?_))
  refine g_iadd (dk D_X8_expense 17 rfl) ?_
  exact g_iret (dk D_X8_expense 18 rfl) rfl ⟨_, rfl, hw⟩
theorem c_X8_expense {X : Cx} (p1 : Int32) (p2 : Int32) (p3 : Int32) (p4 : Int32) (h : Hp) (Q : Int32 → Hp → Prop) (hw : w_X8_expense p1 p2 p3 p4 h Q) : Con X yX8_expense M_X8_expense 4 134 0 [.ref (0), .int (p1), .int (p2), .int (p3), .int (p4)] h (QI Q) Qn :=
  con_of (by decide +kernel) rfl (Nat.le_of_ble_eq_true rfl) (t_X8_expense p1 p2 p3 p4 h Q hw)
/-! ShadowTolls.bestMinute(III)I -/
abbrev M_X8_bestMinute : Mi := (RX8, cX8_bestMinute, 10, (some .int))
abbrev E_X8_bestMinute : Rm := (5, 166, 0, 0)
def rows_X8_bestMinute : List (Nat × Instr × Nat) := [(0, .aload_n 0, 1), (1, .getfield 19, 3), (4, .getfield 147, 3), (7, .aload_n 0, 1), (8, .getfield 19, 3), (11, .iload_n 2, 1), (12, .iconst 2, 1), (13, .invokevirtual 179, 3), (16, .invokestatic 330, 3), (19, .istore 4, 2), (21, .aload_n 0, 1), (22, .getfield 19, 3), (25, .getfield 150, 3), (28, .aload_n 0, 1), (29, .getfield 19, 3), (32, .iload_n 2, 1), (33, .iconst 3, 1), (34, .invokevirtual 179, 3), (37, .invokestatic 325, 3), (40, .istore 5, 2), (42, .iconst (-1), 1), (43, .istore 6, 2), (45, .iconst 0, 1), (46, .istore 7, 2), (48, .iload 4, 2), (50, .istore 8, 2), (52, .iload 8, 2), (54, .iload 5, 2), (56, .if_icmp .gt 49, 3), (59, .iload 8, 2), (61, .sipush 1440, 3), (64, .if_icmp .ge 41, 3), (67, .aload_n 0, 1), (68, .iload_n 1, 1), (69, .iload_n 2, 1), (70, .iload_n 3, 1), (71, .iload 8, 2), (73, .invokevirtual 227, 3), (76, .istore 9, 2), (78, .iload 6, 2), (80, .iconst (-1), 1), (81, .if_icmp .eq 10, 3), (84, .iload 9, 2), (86, .iload 7, 2), (88, .if_icmp .ge 11, 3), (91, .iload 8, 2), (93, .istore 6, 2), (95, .iload 9, 2), (97, .istore 7, 2), (99, .iinc 8 1, 3), (102, .goto (-50), 3), (105, .iload 6, 2), (107, .ireturn, 1)]
theorem D_X8_bestMinute : dkA cX8_bestMinute rows_X8_bestMinute := by
  unfold dkA
  decide +kernel
theorem okD_X8_bestMinute : okD yX8_bestMinute 3 := by
  unfold okD
  decide +kernel
def w_X8_bestMinute_b99 (p1 : Int32) (p2 : Int32) (p3 : Int32) (v5 : Int32) (v6 : Int32) (v7 : Int32) (v8 : Int32) (K52 : Int32 × Int32 × Int32 × Hp → Prop) (h : Hp) (Q : Int32 → Hp → Prop) : Prop :=
  K52 (v6, v7, (v8 + (1 : Int32)), h)
def w_X8_bestMinute_b91 (p1 : Int32) (p2 : Int32) (p3 : Int32) (v5 : Int32) (v8 : Int32) (v9 : Int32) (K52 : Int32 × Int32 × Int32 × Hp → Prop) (h : Hp) (Q : Int32 → Hp → Prop) : Prop :=
  w_X8_bestMinute_b99 p1 p2 p3 (v5) (v8) (v9) (v8) K52 (h) Q
def w_X8_bestMinute_l52 (p1 : Int32) (p2 : Int32) (p3 : Int32) (v5 : Int32) (Q : Int32 → Hp → Prop) (K52 : Int32 × Int32 × Int32 × Hp → Prop) (v6 : Int32) (v7 : Int32) (v8 : Int32) (h : Hp) : Prop :=
  wif (v5 < v8) (Q v6 h) (wif ((1440 : Int32) ≤ v8) (Q v6 h) (w_X8_expense (p1) (p2) (p3) (v8) h (fun z1 h2 => wif (v6 = (-1 : Int32)) (w_X8_bestMinute_b91 p1 p2 p3 (v5) (v8) (z1) K52 (h2) Q) (wif (v7 ≤ z1) (w_X8_bestMinute_b99 p1 p2 p3 (v5) (v6) (v7) (v8) K52 (h2) Q) (w_X8_bestMinute_b91 p1 p2 p3 (v5) (v8) (z1) K52 (h2) Q)))))
def w_X8_bestMinute_b52 (p1 : Int32) (p2 : Int32) (p3 : Int32) (v5 : Int32) (Q : Int32 → Hp → Prop) (s : Int32 × Int32 × Int32 × Hp) : Prop := wl (fun K s => w_X8_bestMinute_l52 p1 p2 p3 v5 Q K s.1 s.2.1 s.2.2.1 s.2.2.2) s
def w_X8_bestMinute (p1 : Int32) (p2 : Int32) (p3 : Int32) (h : Hp) (Q : Int32 → Hp → Prop) : Prop :=
  w_X4_trait 3 (p2) ((2 : Int32)) h (fun z1 => wlet ((if (h 3 6) < z1 then z1 else (h 3 6))) (fun v4_2 => w_X4_trait 3 (p2) ((3 : Int32)) h (fun z3 => wlet ((if z3 < (h 3 7) then z3 else (h 3 7))) (fun v5_4 => w_X8_bestMinute_b52 p1 p2 p3 (v5_4) Q ((-1 : Int32), (0 : Int32), v4_2, h)))))
theorem t_X8_bestMinute_b99 {X : Cx} (p1 : Int32) (p2 : Int32) (p3 : Int32) (v5 : Int32) (v6 : Int32) (v7 : Int32) (v8 : Int32) (K52 : Int32 × Int32 × Int32 × Hp → Prop) (h : Hp) (Q : Int32 → Hp → Prop) (hK52 : ∀ s : Int32 × Int32 × Int32 × Hp, K52 s → G X M_X8_bestMinute E_X8_bestMinute (QM X E_X8_bestMinute (QI Q) Qn) 0 52 [(0, .ref (0)), (1, .int (p1)), (2, .int (p2)), (3, .int (p3)), (5, .int (v5)), (6, .int (s.1)), (7, .int (s.2.1)), (8, .int (s.2.2.1))] [] (s.2.2.2)) (hw : w_X8_bestMinute_b99 p1 p2 p3 v5 v6 v7 v8 K52 h Q) : G X M_X8_bestMinute E_X8_bestMinute (QM X E_X8_bestMinute (QI Q) Qn) 0 99 [(0, .ref (0)), (1, .int (p1)), (2, .int (p2)), (3, .int (p3)), (5, .int (v5)), (6, .int (v6)), (7, .int (v7)), (8, .int (v8))] [] h := by
  unfold w_X8_bestMinute_b99 at hw
  refine g_iinc 7 (dk D_X8_bestMinute 49 rfl) rfl (congrArg (fun z => _ + z) ki_1) (by decide) rfl ?_
  refine g_goto (dk D_X8_bestMinute 50 rfl) rfl ?_
  refine g_sub [1, 2, 3, 4, 5, 6, 7, 0] rfl ?_
  exact hK52 (v6, v7, (v8 + (1 : Int32)), h) hw
theorem t_X8_bestMinute_b91 {X : Cx} (p1 : Int32) (p2 : Int32) (p3 : Int32) (v5 : Int32) (v8 : Int32) (v9 : Int32) (K52 : Int32 × Int32 × Int32 × Hp → Prop) (h : Hp) (Q : Int32 → Hp → Prop) (hK52 : ∀ s : Int32 × Int32 × Int32 × Hp, K52 s → G X M_X8_bestMinute E_X8_bestMinute (QM X E_X8_bestMinute (QI Q) Qn) 0 52 [(0, .ref (0)), (1, .int (p1)), (2, .int (p2)), (3, .int (p3)), (5, .int (v5)), (6, .int (s.1)), (7, .int (s.2.1)), (8, .int (s.2.2.1))] [] (s.2.2.2)) (hw : w_X8_bestMinute_b91 p1 p2 p3 v5 v8 v9 K52 h Q) : G X M_X8_bestMinute E_X8_bestMinute (QM X E_X8_bestMinute (QI Q) Qn) 0 91 [(0, .ref (0)), (1, .int (p1)), (2, .int (p2)), (3, .int (p3)), (5, .int (v5)), (8, .int (v8)), (9, .int (v9))] [] h := by
  unfold w_X8_bestMinute_b91 at hw
  refine g_iload 5 (dk D_X8_bestMinute 45 rfl) rfl ?_
  refine g_istore (dk D_X8_bestMinute 46 rfl) (by decide) rfl ?_
  refine g_iload 7 (dk D_X8_bestMinute 47 rfl) rfl ?_
  refine g_istore (dk D_X8_bestMinute 48 rfl) (by decide) rfl ?_
  refine g_sub [2, 3, 4, 5, 6, 1, 0, 7] rfl ?_
  exact t_X8_bestMinute_b99 p1 p2 p3 (v5) (v8) (v9) (v8) K52 (h) Q hK52 hw
theorem t_X8_bestMinute_l52 {X : Cx} (p1 : Int32) (p2 : Int32) (p3 : Int32) (v5 : Int32) (Q : Int32 → Hp → Prop) (K52 : Int32 × Int32 × Int32 × Hp → Prop) (v6 : Int32) (v7 : Int32) (v8 : Int32) (h : Hp) (hK52 : ∀ s : Int32 × Int32 × Int32 × Hp, K52 s → G X M_X8_bestMinute E_X8_bestMinute (QM X E_X8_bestMinute (QI Q) Qn) 0 52 [(0, .ref (0)), (1, .int (p1)), (2, .int (p2)), (3, .int (p3)), (5, .int (v5)), (6, .int (s.1)), (7, .int (s.2.1)), (8, .int (s.2.2.1))] [] (s.2.2.2)) (hw : w_X8_bestMinute_l52 p1 p2 p3 v5 Q K52 v6 v7 v8 h) : G X M_X8_bestMinute E_X8_bestMinute (QM X E_X8_bestMinute (QI Q) Qn) 0 52 [(0, .ref (0)), (1, .int (p1)), (2, .int (p2)), (3, .int (p3)), (5, .int (v5)), (6, .int (v6)), (7, .int (v7)), (8, .int (v8))] [] h := by
  unfold w_X8_bestMinute_l52 at hw
  refine g_iload 7 (dk D_X8_bestMinute 26 rfl) rfl ?_
  refine g_iload 4 (dk D_X8_bestMinute 27 rfl) rfl ?_
  refine g_icmp_gt (dk D_X8_bestMinute 28 rfl) rfl (wif_m hw (fun hw => ?_) (fun hw => ?_))
  · refine g_iload 5 (dk D_X8_bestMinute 51 rfl) rfl ?_
    exact g_iret (dk D_X8_bestMinute 52 rfl) rfl ⟨_, rfl, hw⟩
  · refine g_iload 7 (dk D_X8_bestMinute 29 rfl) rfl ?_
    refine g_sipush (dk D_X8_bestMinute 30 rfl) ks_1440 ?_
    refine g_icmp_ge (dk D_X8_bestMinute 31 rfl) rfl (wif_m hw (fun hw => ?_) (fun hw => ?_))
    · refine g_iload 5 (dk D_X8_bestMinute 51 rfl) rfl ?_
      exact g_iret (dk D_X8_bestMinute 52 rfl) rfl ⟨_, rfl, hw⟩
    · refine g_aload_n 0 (dk D_X8_bestMinute 32 rfl) rfl rfl ?_
      refine g_iload_n 1 (dk D_X8_bestMinute 33 rfl) rfl rfl ?_
      refine g_iload_n 2 (dk D_X8_bestMinute 34 rfl) rfl rfl ?_
      refine g_iload_n 3 (dk D_X8_bestMinute 35 rfl) rfl rfl ?_
      refine g_iload 7 (dk D_X8_bestMinute 36 rfl) rfl ?_
      refine g_callV (As := [.int (p1), .int (p2), .int (p3), .int (v8)]) (kc := 0) (fr := 4) (lo := 134) (mc := 0) (My := M_X8_expense) (dk D_X8_bestMinute 37 rfl) kd_0 rfl rfl w_1114 w_1116 w_29 w_101 w_1117 okD_X8_expense (by decide) (Nat.le_of_ble_eq_true rfl) rfl (c_X8_expense (p1) (p2) (p3) (v8) (h) _ hw) kxN (kI (fun z1 h2 hw => ?_))
      refine g_istore (dk D_X8_bestMinute 38 rfl) (by decide) rfl ?_
      refine g_iload 6 (dk D_X8_bestMinute 39 rfl) rfl ?_
      refine g_iconst (dk D_X8_bestMinute 40 rfl) ki_m1 ?_
      refine g_icmp_eq (dk D_X8_bestMinute 41 rfl) rfl (wif_m hw (fun hw => ?_) (fun hw => ?_))
      · refine g_sub [1, 2, 3, 4, 5, 8, 0] rfl ?_
        exact t_X8_bestMinute_b91 p1 p2 p3 (v5) (v8) (z1) K52 (h2) Q hK52 hw
      · refine g_iload 0 (dk D_X8_bestMinute 42 rfl) rfl ?_
        refine g_iload 7 (dk D_X8_bestMinute 43 rfl) rfl ?_
        refine g_icmp_ge (dk D_X8_bestMinute 44 rfl) rfl (wif_m hw (fun hw => ?_) (fun hw => ?_))
        · refine g_sub [1, 2, 3, 4, 5, 6, 7, 8] rfl ?_
          exact t_X8_bestMinute_b99 p1 p2 p3 (v5) (v6) (v7) (v8) K52 (h2) Q hK52 hw
        · refine g_sub [1, 2, 3, 4, 5, 8, 0] rfl ?_
          exact t_X8_bestMinute_b91 p1 p2 p3 (v5) (v8) (z1) K52 (h2) Q hK52 hw
theorem t_X8_bestMinute_b52 {X : Cx} (p1 : Int32) (p2 : Int32) (p3 : Int32) (v5 : Int32) (Q : Int32 → Hp → Prop) (s : Int32 × Int32 × Int32 × Hp) (hw : w_X8_bestMinute_b52 p1 p2 p3 v5 Q s) : G X M_X8_bestMinute E_X8_bestMinute (QM X E_X8_bestMinute (QI Q) Qn) 0 52 [(0, .ref (0)), (1, .int (p1)), (2, .int (p2)), (3, .int (p3)), (5, .int (v5)), (6, .int (s.1)), (7, .int (s.2.1)), (8, .int (s.2.2.1))] [] (s.2.2.2) :=
  wl_ind (B := fun K s => w_X8_bestMinute_l52 p1 p2 p3 v5 Q K (s.1) (s.2.1) (s.2.2.1) (s.2.2.2)) (P := fun s => G X M_X8_bestMinute E_X8_bestMinute (QM X E_X8_bestMinute (QI Q) Qn) 0 52 [(0, .ref (0)), (1, .int (p1)), (2, .int (p2)), (3, .int (p3)), (5, .int (v5)), (6, .int (s.1)), (7, .int (s.2.1)), (8, .int (s.2.2.1))] [] (s.2.2.2)) (fun K hK s hw => t_X8_bestMinute_l52 p1 p2 p3 v5 Q K (s.1) (s.2.1) (s.2.2.1) (s.2.2.2) hK hw) s hw
theorem t_X8_bestMinute {X : Cx} (p1 : Int32) (p2 : Int32) (p3 : Int32) (h : Hp) (Q : Int32 → Hp → Prop) (hw : w_X8_bestMinute p1 p2 p3 h Q) : G X M_X8_bestMinute E_X8_bestMinute (QM X E_X8_bestMinute (QI Q) Qn) 0 0 [(0, .ref (0)), (1, .int (p1)), (2, .int (p2)), (3, .int (p3))] [] h := by
  unfold w_X8_bestMinute at hw
  refine g_aload_n 0 (dk D_X8_bestMinute 0 rfl) rfl rfl ?_
  refine g_getR 1 (t := 3) (dk D_X8_bestMinute 1 rfl) kd_0 rfl rfl (by decide) w_435 rfl rfl rfl ?_
  refine g_getNI 6 (dk D_X8_bestMinute 2 rfl) roadP_3.1 rfl rfl (by decide) w_189 rfl rfl ?_
  refine g_aload_n 0 (dk D_X8_bestMinute 3 rfl) rfl rfl ?_
  refine g_getR 1 (t := 3) (dk D_X8_bestMinute 4 rfl) kd_0 rfl rfl (by decide) w_435 rfl rfl rfl ?_
  refine g_iload_n 2 (dk D_X8_bestMinute 5 rfl) rfl rfl ?_
  refine g_iconst (dk D_X8_bestMinute 6 rfl) ki_2 ?_
  refine g_callV (As := [.int (p2), .int ((2 : Int32))]) (kc := 0) (fr := 1) (lo := 29) (mc := 0) (My := M_X4_trait) (dk D_X8_bestMinute 7 rfl) roadP_3.1 rfl rfl w_1031 w_546 w_547 w_103 w_548 okD_X4_trait (by decide) (Nat.le_of_ble_eq_true rfl) rfl (c_X4_trait 3 (p2) ((2 : Int32)) (roadP_3) (h) _ hw) kxN (kIp (fun z1 hw => ?_))
  refine g_mmax (dk D_X8_bestMinute 8 rfl) w_1111 (by decide) (Nat.le_of_ble_eq_true rfl) ?_
  refine g_topi (fun v4_2 ev4_2 => ?_)
  replace hw := hw _ ev4_2
  refine g_istore (dk D_X8_bestMinute 9 rfl) (by decide) rfl ?_
  refine g_aload_n 1 (dk D_X8_bestMinute 10 rfl) rfl rfl ?_
  refine g_getR 1 (t := 3) (dk D_X8_bestMinute 11 rfl) kd_0 rfl rfl (by decide) w_435 rfl rfl rfl ?_
  refine g_getNI 7 (dk D_X8_bestMinute 12 rfl) roadP_3.1 rfl rfl (by decide) w_192 rfl rfl ?_
  refine g_aload_n 1 (dk D_X8_bestMinute 13 rfl) rfl rfl ?_
  refine g_getR 1 (t := 3) (dk D_X8_bestMinute 14 rfl) kd_0 rfl rfl (by decide) w_435 rfl rfl rfl ?_
  refine g_iload_n 3 (dk D_X8_bestMinute 15 rfl) rfl rfl ?_
  refine g_iconst (dk D_X8_bestMinute 16 rfl) ki_3 ?_
  refine g_callV (As := [.int (p2), .int ((3 : Int32))]) (kc := 0) (fr := 1) (lo := 29) (mc := 0) (My := M_X4_trait) (dk D_X8_bestMinute 17 rfl) roadP_3.1 rfl rfl w_1031 w_546 w_547 w_103 w_548 okD_X4_trait (by decide) (Nat.le_of_ble_eq_true rfl) rfl (c_X4_trait 3 (p2) ((3 : Int32)) (roadP_3) (h) _ hw) kxN (kIp (fun z3 hw => ?_))
  refine g_mmin (dk D_X8_bestMinute 18 rfl) w_590 (by decide) (Nat.le_of_ble_eq_true rfl) ?_
  refine g_topi (fun v5_4 ev5_4 => ?_)
  replace hw := hw _ ev5_4
  refine g_istore (dk D_X8_bestMinute 19 rfl) (by decide) rfl ?_
  refine g_iconst (dk D_X8_bestMinute 20 rfl) ki_m1 ?_
  refine g_istore (dk D_X8_bestMinute 21 rfl) (by decide) rfl ?_
  refine g_iconst (dk D_X8_bestMinute 22 rfl) ki_0 ?_
  refine g_istore (dk D_X8_bestMinute 23 rfl) (by decide) rfl ?_
  refine g_iload 3 (dk D_X8_bestMinute 24 rfl) rfl ?_
  refine g_istore (dk D_X8_bestMinute 25 rfl) (by decide) rfl ?_
  refine g_sub [5, 6, 7, 8, 3, 2, 1, 0] rfl ?_
  exact t_X8_bestMinute_b52 p1 p2 p3 (v5_4) Q ((-1 : Int32), (0 : Int32), v4_2, h) hw
theorem c_X8_bestMinute {X : Cx} (p1 : Int32) (p2 : Int32) (p3 : Int32) (h : Hp) (Q : Int32 → Hp → Prop) (hw : w_X8_bestMinute p1 p2 p3 h Q) : Con X yX8_bestMinute M_X8_bestMinute 5 166 0 [.ref (0), .int (p1), .int (p2), .int (p3)] h (QI Q) Qn :=
  con_of (by decide +kernel) rfl (Nat.le_of_ble_eq_true rfl) (t_X8_bestMinute p1 p2 p3 h Q hw)
/-! ShadowTolls.best(IIII)I -/
abbrev M_X8_best : Mi := (RX8, cX8_best, 6, (some .int))
abbrev E_X8_best : Rm := (7, 203, 4, 24)
def rows_X8_best : List (Nat × Instr × Nat) := [(0, .aload_n 0, 1), (1, .iload_n 1, 1), (2, .invokevirtual 196, 3), (5, .aload_n 0, 1), (6, .iload_n 2, 1), (7, .invokevirtual 176, 3), (10, .iload_n 3, 1), (11, .invokestatic 183, 3), (14, .iload 4, 2), (16, .iconst 0, 1), (17, .iconst 1, 1), (18, .invokestatic 106, 3), (21, .aload_n 0, 1), (22, .iload_n 1, 1), (23, .iload_n 2, 1), (24, .iload_n 3, 1), (25, .invokevirtual 224, 3), (28, .istore 5, 2), (30, .iload 4, 2), (32, .ifCond .eq 9, 3), (35, .iload 5, 2), (37, .iconst (-1), 1), (38, .if_icmp .ne 6, 3), (41, .iload 5, 2), (43, .ireturn, 1), (44, .aload_n 0, 1), (45, .iload_n 1, 1), (46, .iload_n 2, 1), (47, .iload_n 3, 1), (48, .iload 5, 2), (50, .invokevirtual 227, 3), (53, .ireturn, 1)]
theorem D_X8_best : dkA cX8_best rows_X8_best := by
  unfold dkA
  decide +kernel
theorem okD_X8_best : okD yX8_best 4 := by
  unfold okD
  decide +kernel
def w_X8_best (p1 : Int32) (p2 : Int32) (p3 : Int32) (p4 : Int32) (h : Hp) (Q : Int32 → Hp → Prop) (Qx : String → Hp → Prop) : Prop :=
  w_X8_needBridge (p1) h (w_X8_needTraveller (p2) h (w_X8_needDay (p3) h (w_X8_needBetween (p4) ((0 : Int32)) ((1 : Int32)) h (w_X8_bestMinute (p1) (p2) (p3) h (fun z1 h2 => wif (p4 = 0) (Q z1 h2) (wif (¬ z1 = (-1 : Int32)) (w_X8_expense (p1) (p2) (p3) (z1) h2 (fun z3 h4 => Q z3 h4)) (Q z1 h2)))) Qx) Qx) Qx) Qx
theorem t_X8_best {X : Cx} (p1 : Int32) (p2 : Int32) (p3 : Int32) (p4 : Int32) (h : Hp) (Q : Int32 → Hp → Prop) (Qx : String → Hp → Prop) (hw : w_X8_best p1 p2 p3 p4 h Q Qx) : G X M_X8_best E_X8_best (QM X E_X8_best (QI Q) Qx) 4 0 [(0, .ref (0)), (1, .int (p1)), (2, .int (p2)), (3, .int (p3)), (4, .int (p4))] [] h := by
  unfold w_X8_best at hw
  refine g_aload_n 0 (dk D_X8_best 0 rfl) rfl rfl ?_
  refine g_iload_n 1 (dk D_X8_best 1 rfl) rfl rfl ?_
  refine g_callV (As := [.int (p1)]) (kc := 3) (fr := 6) (lo := 82) (mc := 1) (My := M_X8_needBridge) (dk D_X8_best 2 rfl) kd_0 rfl rfl w_1051 w_1053 w_27 w_101 w_1054 okD_X8_needBridge (by decide) (Nat.le_of_ble_eq_true rfl) rfl (c_X8_needBridge (p1) (h) _ _ hw) kxT (kVp (fun hw => ?_))
  refine g_aload_n 0 (dk D_X8_best 3 rfl) rfl rfl ?_
  refine g_iload_n 2 (dk D_X8_best 4 rfl) rfl rfl ?_
  refine g_callV (As := [.int (p2)]) (kc := 2) (fr := 6) (lo := 82) (mc := 1) (My := M_X8_needTraveller) (dk D_X8_best 5 rfl) kd_0 rfl rfl w_1011 w_1013 w_26 w_101 w_1014 okD_X8_needTraveller (by decide) (Nat.le_of_ble_eq_true rfl) rfl (c_X8_needTraveller (p2) (h) _ _ hw) kxT (kVp (fun hw => ?_))
  refine g_iload_n 3 (dk D_X8_best 6 rfl) rfl rfl ?_
  refine g_callS (As := [.int (p3)]) (kc := 1) (fr := 6) (lo := 82) (mc := 1) (My := M_X8_needDay) (dk D_X8_best 7 rfl) w_1039 w_1040 w_101 w_1041 okD_X8_needDay (by decide) (Nat.le_of_ble_eq_true rfl) rfl (c_X8_needDay (p3) (h) _ _ hw) kxT (kVp (fun hw => ?_))
  refine g_iload 4 (dk D_X8_best 8 rfl) rfl ?_
  refine g_iconst (dk D_X8_best 9 rfl) ki_0 ?_
  refine g_iconst (dk D_X8_best 10 rfl) ki_1 ?_
  refine g_callS (As := [.int (p4), .int ((0 : Int32)), .int ((1 : Int32))]) (kc := 0) (fr := 6) (lo := 82) (mc := 1) (My := M_X8_needBetween) (dk D_X8_best 11 rfl) w_703 w_704 w_101 w_705 okD_X8_needBetween (by decide) (Nat.le_of_ble_eq_true rfl) rfl (c_X8_needBetween (p4) ((0 : Int32)) ((1 : Int32)) (h) _ _ hw) kxT (kVp (fun hw => ?_))
  refine g_aload_n 0 (dk D_X8_best 12 rfl) rfl rfl ?_
  refine g_iload_n 1 (dk D_X8_best 13 rfl) rfl rfl ?_
  refine g_iload_n 2 (dk D_X8_best 14 rfl) rfl rfl ?_
  refine g_iload_n 3 (dk D_X8_best 15 rfl) rfl rfl ?_
  refine g_callV (As := [.int (p1), .int (p2), .int (p3)]) (kc := 0) (fr := 5) (lo := 166) (mc := 0) (My := M_X8_bestMinute) (dk D_X8_best 16 rfl) kd_0 rfl rfl w_1107 w_1109 w_28 w_101 w_1110 okD_X8_bestMinute (by decide) (Nat.le_of_ble_eq_true rfl) rfl (c_X8_bestMinute (p1) (p2) (p3) (h) _ hw) kxN (kI (fun z1 h2 hw => ?_))
  refine g_istore (dk D_X8_best 17 rfl) (by decide) rfl ?_
  refine g_iload 5 (dk D_X8_best 18 rfl) rfl ?_
  refine g_if_eq (dk D_X8_best 19 rfl) rfl (wif_m hw (fun hw => ?_) (fun hw => ?_))
  · refine g_iload 0 (dk D_X8_best 23 rfl) rfl ?_
    exact g_iret (dk D_X8_best 24 rfl) rfl ⟨_, rfl, hw⟩
  · refine g_iload 0 (dk D_X8_best 20 rfl) rfl ?_
    refine g_iconst (dk D_X8_best 21 rfl) ki_m1 ?_
    refine g_icmp_ne (dk D_X8_best 22 rfl) rfl (wif_m hw (fun hw => ?_) (fun hw => ?_))
    · refine g_aload_n 1 (dk D_X8_best 25 rfl) rfl rfl ?_
      refine g_iload_n 2 (dk D_X8_best 26 rfl) rfl rfl ?_
      refine g_iload_n 3 (dk D_X8_best 27 rfl) rfl rfl ?_
      refine g_iload_n 4 (dk D_X8_best 28 rfl) rfl rfl ?_
      refine g_iload 0 (dk D_X8_best 29 rfl) rfl ?_
      refine g_callV (As := [.int (p1), .int (p2), .int (p3), .int (z1)]) (kc := 0) (fr := 4) (lo := 134) (mc := 0) (My := M_X8_expense) (dk D_X8_best 30 rfl) kd_0 rfl rfl w_1114 w_1116 w_29 w_101 w_1117 okD_X8_expense (by decide) (Nat.le_of_ble_eq_true rfl) rfl (c_X8_expense (p1) (p2) (p3) (z1) (h2) _ hw) kxN (kI (fun z3 h4 hw => ?_))
      exact g_iret (dk D_X8_best 31 rfl) rfl ⟨_, rfl, hw⟩
    · refine g_iload 0 (dk D_X8_best 23 rfl) rfl ?_
      exact g_iret (dk D_X8_best 24 rfl) rfl ⟨_, rfl, hw⟩
theorem c_X8_best {X : Cx} (p1 : Int32) (p2 : Int32) (p3 : Int32) (p4 : Int32) (h : Hp) (Q : Int32 → Hp → Prop) (Qx : String → Hp → Prop) (hw : w_X8_best p1 p2 p3 p4 h Q Qx) : Con X yX8_best M_X8_best 7 203 4 [.ref (0), .int (p1), .int (p2), .int (p3), .int (p4)] h (QI Q) Qx :=
  con_of (by decide +kernel) rfl (Nat.le_of_ble_eq_true rfl) (t_X8_best p1 p2 p3 p4 h Q Qx hw)
/-! ShadowTolls.week(II)I -/
abbrev M_X8_week : Mi := (RX8, cX8_week, 8, (some .int))
abbrev E_X8_week : Rm := (7, 203, 2, 12)
def rows_X8_week : List (Nat × Instr × Nat) := [(0, .aload_n 0, 1), (1, .iload_n 1, 1), (2, .invokevirtual 196, 3), (5, .aload_n 0, 1), (6, .iload_n 2, 1), (7, .invokevirtual 176, 3), (10, .iconst (-1), 1), (11, .istore_n 3, 1), (12, .iconst 0, 1), (13, .istore 4, 2), (15, .iconst 0, 1), (16, .istore 5, 2), (18, .iload 5, 2), (20, .bipush 30, 2), (22, .if_icmp .ge 66, 3), (25, .aload_n 0, 1), (26, .iload_n 1, 1), (27, .iload_n 2, 1), (28, .iload 5, 2), (30, .invokevirtual 224, 3), (33, .istore 6, 2), (35, .iload 6, 2), (37, .iconst (-1), 1), (38, .if_icmp .ne 7, 3), (41, .iconst 0, 1), (42, .goto 13, 3), (45, .aload_n 0, 1), (46, .iload_n 1, 1), (47, .iload_n 2, 1), (48, .iload 5, 2), (50, .iload 6, 2), (52, .invokevirtual 227, 3), (55, .istore 7, 2), (57, .iload 6, 2), (59, .iconst (-1), 1), (60, .if_icmp .eq 22, 3), (63, .iload_n 3, 1), (64, .iconst (-1), 1), (65, .if_icmp .eq 10, 3), (68, .iload 7, 2), (70, .iload 4, 2), (72, .if_icmp .ge 10, 3), (75, .iload 5, 2), (77, .istore_n 3, 1), (78, .iload 7, 2), (80, .istore 4, 2), (82, .iinc 5 1, 3), (85, .goto (-67), 3), (88, .iload_n 3, 1), (89, .ireturn, 1)]
theorem D_X8_week : dkA cX8_week rows_X8_week := by
  unfold dkA
  decide +kernel
theorem okD_X8_week : okD yX8_week 2 := by
  unfold okD
  decide +kernel
def w_X8_week_b82 (p1 : Int32) (p2 : Int32) (v3 : Int32) (v4 : Int32) (v5 : Int32) (K18 : Int32 × Int32 × Int32 × Hp → Prop) (h : Hp) (Q : Int32 → Hp → Prop) (Qx : String → Hp → Prop) : Prop :=
  K18 (v3, v4, (v5 + (1 : Int32)), h)
def w_X8_week_b75 (p1 : Int32) (p2 : Int32) (v5 : Int32) (v7 : Int32) (K18 : Int32 × Int32 × Int32 × Hp → Prop) (h : Hp) (Q : Int32 → Hp → Prop) (Qx : String → Hp → Prop) : Prop :=
  w_X8_week_b82 p1 p2 (v5) (v7) (v5) K18 (h) Q Qx
def w_X8_week_b55 (p1 : Int32) (p2 : Int32) (v3 : Int32) (v4 : Int32) (v5 : Int32) (v6 : Int32) (s0 : Int32) (K18 : Int32 × Int32 × Int32 × Hp → Prop) (h : Hp) (Q : Int32 → Hp → Prop) (Qx : String → Hp → Prop) : Prop :=
  wif (v6 = (-1 : Int32)) (w_X8_week_b82 p1 p2 (v3) (v4) (v5) K18 (h) Q Qx) (wif (v3 = (-1 : Int32)) (w_X8_week_b75 p1 p2 (v5) (s0) K18 (h) Q Qx) (wif (v4 ≤ s0) (w_X8_week_b82 p1 p2 (v3) (v4) (v5) K18 (h) Q Qx) (w_X8_week_b75 p1 p2 (v5) (s0) K18 (h) Q Qx)))
def w_X8_week_l18 (p1 : Int32) (p2 : Int32) (Q : Int32 → Hp → Prop) (Qx : String → Hp → Prop) (K18 : Int32 × Int32 × Int32 × Hp → Prop) (v3 : Int32) (v4 : Int32) (v5 : Int32) (h : Hp) : Prop :=
  wif ((30 : Int32) ≤ v5) (Q v3 h) (w_X8_bestMinute (p1) (p2) (v5) h (fun z1 h2 => wif (¬ z1 = (-1 : Int32)) (w_X8_expense (p1) (p2) (v5) (z1) h2 (fun z3 h4 => w_X8_week_b55 p1 p2 (v3) (v4) (v5) (z1) (z3) K18 (h4) Q Qx)) (w_X8_week_b55 p1 p2 (v3) (v4) (v5) (z1) ((0 : Int32)) K18 (h2) Q Qx)))
def w_X8_week_b18 (p1 : Int32) (p2 : Int32) (Q : Int32 → Hp → Prop) (Qx : String → Hp → Prop) (s : Int32 × Int32 × Int32 × Hp) : Prop := wl (fun K s => w_X8_week_l18 p1 p2 Q Qx K s.1 s.2.1 s.2.2.1 s.2.2.2) s
def w_X8_week (p1 : Int32) (p2 : Int32) (h : Hp) (Q : Int32 → Hp → Prop) (Qx : String → Hp → Prop) : Prop :=
  w_X8_needBridge (p1) h (w_X8_needTraveller (p2) h (w_X8_week_b18 p1 p2 Q Qx ((-1 : Int32), (0 : Int32), (0 : Int32), h)) Qx) Qx
theorem t_X8_week_b82 {X : Cx} (p1 : Int32) (p2 : Int32) (v3 : Int32) (v4 : Int32) (v5 : Int32) (K18 : Int32 × Int32 × Int32 × Hp → Prop) (h : Hp) (Q : Int32 → Hp → Prop) (Qx : String → Hp → Prop) (hK18 : ∀ s : Int32 × Int32 × Int32 × Hp, K18 s → G X M_X8_week E_X8_week (QM X E_X8_week (QI Q) Qx) 0 18 [(0, .ref (0)), (1, .int (p1)), (2, .int (p2)), (3, .int (s.1)), (4, .int (s.2.1)), (5, .int (s.2.2.1))] [] (s.2.2.2)) (hw : w_X8_week_b82 p1 p2 v3 v4 v5 K18 h Q Qx) : G X M_X8_week E_X8_week (QM X E_X8_week (QI Q) Qx) 0 82 [(0, .ref (0)), (1, .int (p1)), (2, .int (p2)), (3, .int (v3)), (4, .int (v4)), (5, .int (v5))] [] h := by
  unfold w_X8_week_b82 at hw
  refine g_iinc 5 (dk D_X8_week 46 rfl) rfl (congrArg (fun z => _ + z) ki_1) (by decide) rfl ?_
  refine g_goto (dk D_X8_week 47 rfl) rfl ?_
  refine g_sub [1, 2, 3, 4, 5, 0] rfl ?_
  exact hK18 (v3, v4, (v5 + (1 : Int32)), h) hw
theorem t_X8_week_b75 {X : Cx} (p1 : Int32) (p2 : Int32) (v5 : Int32) (v7 : Int32) (K18 : Int32 × Int32 × Int32 × Hp → Prop) (h : Hp) (Q : Int32 → Hp → Prop) (Qx : String → Hp → Prop) (hK18 : ∀ s : Int32 × Int32 × Int32 × Hp, K18 s → G X M_X8_week E_X8_week (QM X E_X8_week (QI Q) Qx) 0 18 [(0, .ref (0)), (1, .int (p1)), (2, .int (p2)), (3, .int (s.1)), (4, .int (s.2.1)), (5, .int (s.2.2.1))] [] (s.2.2.2)) (hw : w_X8_week_b75 p1 p2 v5 v7 K18 h Q Qx) : G X M_X8_week E_X8_week (QM X E_X8_week (QI Q) Qx) 0 75 [(0, .ref (0)), (1, .int (p1)), (2, .int (p2)), (5, .int (v5)), (7, .int (v7))] [] h := by
  unfold w_X8_week_b75 at hw
  refine g_iload 3 (dk D_X8_week 42 rfl) rfl ?_
  refine g_istore_n (dk D_X8_week 43 rfl) rfl (by decide) rfl ?_
  refine g_iload 5 (dk D_X8_week 44 rfl) rfl ?_
  refine g_istore (dk D_X8_week 45 rfl) (by decide) rfl ?_
  refine g_sub [2, 3, 4, 1, 0, 5] rfl ?_
  exact t_X8_week_b82 p1 p2 (v5) (v7) (v5) K18 (h) Q Qx hK18 hw
theorem t_X8_week_b55 {X : Cx} (p1 : Int32) (p2 : Int32) (v3 : Int32) (v4 : Int32) (v5 : Int32) (v6 : Int32) (s0 : Int32) (K18 : Int32 × Int32 × Int32 × Hp → Prop) (h : Hp) (Q : Int32 → Hp → Prop) (Qx : String → Hp → Prop) (hK18 : ∀ s : Int32 × Int32 × Int32 × Hp, K18 s → G X M_X8_week E_X8_week (QM X E_X8_week (QI Q) Qx) 0 18 [(0, .ref (0)), (1, .int (p1)), (2, .int (p2)), (3, .int (s.1)), (4, .int (s.2.1)), (5, .int (s.2.2.1))] [] (s.2.2.2)) (hw : w_X8_week_b55 p1 p2 v3 v4 v5 v6 s0 K18 h Q Qx) : G X M_X8_week E_X8_week (QM X E_X8_week (QI Q) Qx) 0 55 [(0, .ref (0)), (1, .int (p1)), (2, .int (p2)), (3, .int (v3)), (4, .int (v4)), (5, .int (v5)), (6, .int (v6))] [.int (s0)] h := by
  unfold w_X8_week_b55 at hw
  refine g_istore (dk D_X8_week 32 rfl) (by decide) rfl ?_
  refine g_iload 7 (dk D_X8_week 33 rfl) rfl ?_
  refine g_iconst (dk D_X8_week 34 rfl) ki_m1 ?_
  refine g_icmp_eq (dk D_X8_week 35 rfl) rfl (wif_m hw (fun hw => ?_) (fun hw => ?_))
  · refine g_sub [1, 2, 3, 4, 5, 6] rfl ?_
    exact t_X8_week_b82 p1 p2 (v3) (v4) (v5) K18 (h) Q Qx hK18 hw
  · refine g_iload_n 4 (dk D_X8_week 36 rfl) rfl rfl ?_
    refine g_iconst (dk D_X8_week 37 rfl) ki_m1 ?_
    refine g_icmp_eq (dk D_X8_week 38 rfl) rfl (wif_m hw (fun hw => ?_) (fun hw => ?_))
    · refine g_sub [1, 2, 3, 6, 0] rfl ?_
      exact t_X8_week_b75 p1 p2 (v5) (s0) K18 (h) Q Qx hK18 hw
    · refine g_iload 0 (dk D_X8_week 39 rfl) rfl ?_
      refine g_iload 5 (dk D_X8_week 40 rfl) rfl ?_
      refine g_icmp_ge (dk D_X8_week 41 rfl) rfl (wif_m hw (fun hw => ?_) (fun hw => ?_))
      · refine g_sub [1, 2, 3, 4, 5, 6] rfl ?_
        exact t_X8_week_b82 p1 p2 (v3) (v4) (v5) K18 (h) Q Qx hK18 hw
      · refine g_sub [1, 2, 3, 6, 0] rfl ?_
        exact t_X8_week_b75 p1 p2 (v5) (s0) K18 (h) Q Qx hK18 hw
theorem t_X8_week_l18 {X : Cx} (p1 : Int32) (p2 : Int32) (Q : Int32 → Hp → Prop) (Qx : String → Hp → Prop) (K18 : Int32 × Int32 × Int32 × Hp → Prop) (v3 : Int32) (v4 : Int32) (v5 : Int32) (h : Hp) (hK18 : ∀ s : Int32 × Int32 × Int32 × Hp, K18 s → G X M_X8_week E_X8_week (QM X E_X8_week (QI Q) Qx) 0 18 [(0, .ref (0)), (1, .int (p1)), (2, .int (p2)), (3, .int (s.1)), (4, .int (s.2.1)), (5, .int (s.2.2.1))] [] (s.2.2.2)) (hw : w_X8_week_l18 p1 p2 Q Qx K18 v3 v4 v5 h) : G X M_X8_week E_X8_week (QM X E_X8_week (QI Q) Qx) 0 18 [(0, .ref (0)), (1, .int (p1)), (2, .int (p2)), (3, .int (v3)), (4, .int (v4)), (5, .int (v5))] [] h := by
  unfold w_X8_week_l18 at hw
  refine g_iload 5 (dk D_X8_week 12 rfl) rfl ?_
  refine g_bipush (dk D_X8_week 13 rfl) kb_30 ?_
  refine g_icmp_ge (dk D_X8_week 14 rfl) rfl (wif_m hw (fun hw => ?_) (fun hw => ?_))
  · refine g_iload_n 3 (dk D_X8_week 48 rfl) rfl rfl ?_
    exact g_iret (dk D_X8_week 49 rfl) rfl ⟨_, rfl, hw⟩
  · refine g_aload_n 0 (dk D_X8_week 15 rfl) rfl rfl ?_
    refine g_iload_n 1 (dk D_X8_week 16 rfl) rfl rfl ?_
    refine g_iload_n 2 (dk D_X8_week 17 rfl) rfl rfl ?_
    refine g_iload 5 (dk D_X8_week 18 rfl) rfl ?_
    refine g_callV (As := [.int (p1), .int (p2), .int (v5)]) (kc := 0) (fr := 5) (lo := 166) (mc := 0) (My := M_X8_bestMinute) (dk D_X8_week 19 rfl) kd_0 rfl rfl w_1107 w_1109 w_28 w_101 w_1110 okD_X8_bestMinute (by decide) (Nat.le_of_ble_eq_true rfl) rfl (c_X8_bestMinute (p1) (p2) (v5) (h) _ hw) kxN (kI (fun z1 h2 hw => ?_))
    refine g_istore (dk D_X8_week 20 rfl) (by decide) rfl ?_
    refine g_iload 0 (dk D_X8_week 21 rfl) rfl ?_
    refine g_iconst (dk D_X8_week 22 rfl) ki_m1 ?_
    refine g_icmp_ne (dk D_X8_week 23 rfl) rfl (wif_m hw (fun hw => ?_) (fun hw => ?_))
    · refine g_aload_n 1 (dk D_X8_week 26 rfl) rfl rfl ?_
      refine g_iload_n 2 (dk D_X8_week 27 rfl) rfl rfl ?_
      refine g_iload_n 3 (dk D_X8_week 28 rfl) rfl rfl ?_
      refine g_iload 6 (dk D_X8_week 29 rfl) rfl ?_
      refine g_iload 0 (dk D_X8_week 30 rfl) rfl ?_
      refine g_callV (As := [.int (p1), .int (p2), .int (v5), .int (z1)]) (kc := 0) (fr := 4) (lo := 134) (mc := 0) (My := M_X8_expense) (dk D_X8_week 31 rfl) kd_0 rfl rfl w_1114 w_1116 w_29 w_101 w_1117 okD_X8_expense (by decide) (Nat.le_of_ble_eq_true rfl) rfl (c_X8_expense (p1) (p2) (v5) (z1) (h2) _ hw) kxN (kI (fun z3 h4 hw => ?_))
      refine g_sub [1, 2, 3, 4, 5, 6, 0] rfl ?_
      exact t_X8_week_b55 p1 p2 (v3) (v4) (v5) (z1) (z3) K18 (h4) Q Qx hK18 hw
    · refine g_iconst (dk D_X8_week 24 rfl) ki_0 ?_
      refine g_goto (dk D_X8_week 25 rfl) rfl ?_
      refine g_sub [1, 2, 3, 4, 5, 6, 0] rfl ?_
      exact t_X8_week_b55 p1 p2 (v3) (v4) (v5) (z1) ((0 : Int32)) K18 (h2) Q Qx hK18 hw
theorem t_X8_week_b18 {X : Cx} (p1 : Int32) (p2 : Int32) (Q : Int32 → Hp → Prop) (Qx : String → Hp → Prop) (s : Int32 × Int32 × Int32 × Hp) (hw : w_X8_week_b18 p1 p2 Q Qx s) : G X M_X8_week E_X8_week (QM X E_X8_week (QI Q) Qx) 0 18 [(0, .ref (0)), (1, .int (p1)), (2, .int (p2)), (3, .int (s.1)), (4, .int (s.2.1)), (5, .int (s.2.2.1))] [] (s.2.2.2) :=
  wl_ind (B := fun K s => w_X8_week_l18 p1 p2 Q Qx K (s.1) (s.2.1) (s.2.2.1) (s.2.2.2)) (P := fun s => G X M_X8_week E_X8_week (QM X E_X8_week (QI Q) Qx) 0 18 [(0, .ref (0)), (1, .int (p1)), (2, .int (p2)), (3, .int (s.1)), (4, .int (s.2.1)), (5, .int (s.2.2.1))] [] (s.2.2.2)) (fun K hK s hw => t_X8_week_l18 p1 p2 Q Qx K (s.1) (s.2.1) (s.2.2.1) (s.2.2.2) hK hw) s hw
theorem t_X8_week {X : Cx} (p1 : Int32) (p2 : Int32) (h : Hp) (Q : Int32 → Hp → Prop) (Qx : String → Hp → Prop) (hw : w_X8_week p1 p2 h Q Qx) : G X M_X8_week E_X8_week (QM X E_X8_week (QI Q) Qx) 2 0 [(0, .ref (0)), (1, .int (p1)), (2, .int (p2))] [] h := by
  unfold w_X8_week at hw
  refine g_aload_n 0 (dk D_X8_week 0 rfl) rfl rfl ?_
  refine g_iload_n 1 (dk D_X8_week 1 rfl) rfl rfl ?_
  refine g_callV (As := [.int (p1)]) (kc := 1) (fr := 6) (lo := 82) (mc := 1) (My := M_X8_needBridge) (dk D_X8_week 2 rfl) kd_0 rfl rfl w_1051 w_1053 w_27 w_101 w_1054 okD_X8_needBridge (by decide) (Nat.le_of_ble_eq_true rfl) rfl (c_X8_needBridge (p1) (h) _ _ hw) kxT (kVp (fun hw => ?_))
  refine g_aload_n 0 (dk D_X8_week 3 rfl) rfl rfl ?_
  refine g_iload_n 2 (dk D_X8_week 4 rfl) rfl rfl ?_
  refine g_callV (As := [.int (p2)]) (kc := 0) (fr := 6) (lo := 82) (mc := 1) (My := M_X8_needTraveller) (dk D_X8_week 5 rfl) kd_0 rfl rfl w_1011 w_1013 w_26 w_101 w_1014 okD_X8_needTraveller (by decide) (Nat.le_of_ble_eq_true rfl) rfl (c_X8_needTraveller (p2) (h) _ _ hw) kxT (kVp (fun hw => ?_))
  refine g_iconst (dk D_X8_week 6 rfl) ki_m1 ?_
  refine g_istore_n (dk D_X8_week 7 rfl) rfl (by decide) rfl ?_
  refine g_iconst (dk D_X8_week 8 rfl) ki_0 ?_
  refine g_istore (dk D_X8_week 9 rfl) (by decide) rfl ?_
  refine g_iconst (dk D_X8_week 10 rfl) ki_0 ?_
  refine g_istore (dk D_X8_week 11 rfl) (by decide) rfl ?_
  refine g_sub [3, 4, 5, 2, 1, 0] rfl ?_
  exact t_X8_week_b18 p1 p2 Q Qx ((-1 : Int32), (0 : Int32), (0 : Int32), h) hw
theorem c_X8_week {X : Cx} (p1 : Int32) (p2 : Int32) (h : Hp) (Q : Int32 → Hp → Prop) (Qx : String → Hp → Prop) (hw : w_X8_week p1 p2 h Q Qx) : Con X yX8_week M_X8_week 7 203 2 [.ref (0), .int (p1), .int (p2)] h (QI Q) Qx :=
  con_of (by decide +kernel) rfl (Nat.le_of_ble_eq_true rfl) (t_X8_week p1 p2 h Q Qx hw)
/-! ShadowTolls.needPlan(IIZ)V -/
abbrev M_X8_needPlan : Mi := (RX8, cX8_needPlan, 4, none)
abbrev E_X8_needPlan : Rm := (7, 110, 1, 6)
def rows_X8_needPlan : List (Nat × Instr × Nat) := [(0, .iload_n 1, 1), (1, .aload_n 0, 1), (2, .getfield 19, 3), (5, .invokevirtual 289, 3), (8, .iconst (-1), 1), (9, .ixor, 1), (10, .iand, 1), (11, .ifCond .eq 14, 3), (14, .new 169, 3), (17, .dup, 1), (18, .ldc_w 359, 3), (21, .invokespecial 173, 3), (24, .athrow, 1), (25, .iload_n 3, 1), (26, .ifCond .eq 24, 3), (29, .aload_n 0, 1), (30, .getfield 19, 3), (33, .getfield 166, 3), (36, .ifCond .ne 14, 3), (39, .new 169, 3), (42, .dup, 1), (43, .ldc_w 361, 3), (46, .invokespecial 173, 3), (49, .athrow, 1), (50, .iload_n 2, 1), (51, .invokestatic 183, 3), (54, .return_, 1)]
theorem D_X8_needPlan : dkA cX8_needPlan rows_X8_needPlan := by
  unfold dkA
  decide +kernel
theorem okD_X8_needPlan : okD yX8_needPlan 3 := by
  unfold okD
  decide +kernel
def w_X8_needPlan_b50 (p1 : Int32) (p2 : Int32) (p3 : Int32) (h : Hp) (Q : Prop) (Qx : String → Hp → Prop) : Prop :=
  w_X8_needDay (p2) h (Q) Qx
def w_X8_needPlan (p1 : Int32) (p2 : Int32) (p3 : Int32) (h : Hp) (Q : Prop) (Qx : String → Hp → Prop) : Prop :=
  w_X4_everybody 3 h (fun z1 => wif ((p1 &&& (z1 ^^^ (-1 : Int32))) = 0) (wif (p3 = 0) (w_X8_needPlan_b50 p1 p2 p3 (h) Q Qx) (wif (¬ (h 3 14 &&& 1) = 0) (w_X8_needPlan_b50 p1 p2 p3 (h) Q Qx) (Qx "java/lang/IllegalArgumentException" h))) (Qx "java/lang/IllegalArgumentException" h))
theorem t_X8_needPlan_b50 {X : Cx} (p1 : Int32) (p2 : Int32) (p3 : Int32) (h : Hp) (Q : Prop) (Qx : String → Hp → Prop) (hw : w_X8_needPlan_b50 p1 p2 p3 h Q Qx) : G X M_X8_needPlan E_X8_needPlan (QM X E_X8_needPlan (QVp h Q) Qx) 1 50 [(2, .int (p2))] [] h := by
  unfold w_X8_needPlan_b50 at hw
  refine g_iload_n 0 (dk D_X8_needPlan 24 rfl) rfl rfl ?_
  refine g_callS (As := [.int (p2)]) (kc := 0) (fr := 6) (lo := 82) (mc := 1) (My := M_X8_needDay) (dk D_X8_needPlan 25 rfl) w_1039 w_1040 w_101 w_1041 okD_X8_needDay (by decide) (Nat.le_of_ble_eq_true rfl) rfl (c_X8_needDay (p2) (h) _ _ hw) kxT (kVp (fun hw => ?_))
  exact g_vret (dk D_X8_needPlan 26 rfl) rfl ⟨rfl, rfl, hw⟩
theorem t_X8_needPlan {X : Cx} (p1 : Int32) (p2 : Int32) (p3 : Int32) (h : Hp) (Q : Prop) (Qx : String → Hp → Prop) (hw : w_X8_needPlan p1 p2 p3 h Q Qx) : G X M_X8_needPlan E_X8_needPlan (QM X E_X8_needPlan (QVp h Q) Qx) 1 0 [(0, .ref (0)), (1, .int (p1)), (2, .int (p2)), (3, .int (p3))] [] h := by
  unfold w_X8_needPlan at hw
  refine g_iload_n 1 (dk D_X8_needPlan 0 rfl) rfl rfl ?_
  refine g_aload_n 0 (dk D_X8_needPlan 1 rfl) rfl rfl ?_
  refine g_getR 1 (t := 3) (dk D_X8_needPlan 2 rfl) kd_0 rfl rfl (by decide) w_435 rfl rfl rfl ?_
  refine g_callV (As := []) (kc := 1) (fr := 0) (lo := 0) (mc := 0) (My := M_X4_everybody) (dk D_X8_needPlan 3 rfl) roadP_3.1 rfl rfl w_528 w_529 w_530 w_103 w_531 okD_X4_everybody (by decide) (Nat.le_of_ble_eq_true rfl) rfl (c_X4_everybody 3 (roadP_3) (h) _ hw) kxN (kIp (fun z1 hw => ?_))
  refine g_iconst (dk D_X8_needPlan 4 rfl) ki_m1 ?_
  refine g_ixor (dk D_X8_needPlan 5 rfl) ?_
  refine g_iand (dk D_X8_needPlan 6 rfl) ?_
  refine g_if_eq (dk D_X8_needPlan 7 rfl) rfl (wif_m hw (fun hw => ?_) (fun hw => ?_))
  · refine g_iload_n 3 (dk D_X8_needPlan 13 rfl) rfl rfl ?_
    refine g_if_eq (dk D_X8_needPlan 14 rfl) rfl (wif_m hw (fun hw => ?_) (fun hw => ?_))
    · refine g_sub [2] rfl ?_
      exact t_X8_needPlan_b50 p1 p2 p3 (h) Q Qx hw
    · refine g_aload_n 0 (dk D_X8_needPlan 15 rfl) rfl rfl ?_
      refine g_getR 1 (t := 3) (dk D_X8_needPlan 16 rfl) kd_0 rfl rfl (by decide) w_435 rfl rfl rfl ?_
      refine g_getNZ 14 (dk D_X8_needPlan 17 rfl) roadP_3.1 rfl rfl (by decide) w_213 rfl rfl ?_
      refine g_if_ne (dk D_X8_needPlan 18 rfl) rfl (wif_m hw (fun hw => ?_) (fun hw => ?_))
      · refine g_sub [2] rfl ?_
        exact t_X8_needPlan_b50 p1 p2 p3 (h) Q Qx hw
      · exact g_throwSW (kc := 0) 30 xnm rfl (by decide +kernel) xnm_ok rfl w_706 w_114 atS_173 (dk D_X8_needPlan 19 rfl) (dk D_X8_needPlan 20 rfl) (dk D_X8_needPlan 21 rfl) (dk D_X8_needPlan 22 rfl) (dk D_X8_needPlan 23 rfl) (by decide) (by decide) hw
  · exact g_throwSW (kc := 0) 29 xnm rfl (by decide +kernel) xnm_ok rfl w_706 w_114 atS_173 (dk D_X8_needPlan 8 rfl) (dk D_X8_needPlan 9 rfl) (dk D_X8_needPlan 10 rfl) (dk D_X8_needPlan 11 rfl) (dk D_X8_needPlan 12 rfl) (by decide) (by decide) hw
theorem c_X8_needPlan {X : Cx} (p1 : Int32) (p2 : Int32) (p3 : Int32) (h : Hp) (Q : Prop) (Qx : String → Hp → Prop) (hw : w_X8_needPlan p1 p2 p3 h Q Qx) : Con X yX8_needPlan M_X8_needPlan 7 110 1 [.ref (0), .int (p1), .int (p2), .int (p3)] h (QVp h Q) Qx :=
  con_of (by decide +kernel) rfl (Nat.le_of_ble_eq_true rfl) (t_X8_needPlan p1 p2 p3 h Q Qx hw)
/-! ShadowTolls.planFor(IIZLShadowTolls$Law;LShadowTolls$Law;)V -/
abbrev M_X8_planFor : Mi := (RX8, cX8_planFor, 6, none)
abbrev E_X8_planFor : Rm := (6, 186, 0, 0)
def rows_X8_planFor : List (Nat × Instr × Nat) := [(0, .aload_n 0, 1), (1, .getfield 66, 3), (4, .iload_n 1, 1), (5, .iload_n 3, 1), (6, .invokevirtual 366, 3), (9, .aload_n 0, 1), (10, .getfield 66, 3), (13, .aload 4, 2), (15, .iconst 0, 1), (16, .iload_n 2, 1), (17, .invokevirtual 370, 3), (20, .iload_n 3, 1), (21, .ifCond .eq 14, 3), (24, .aload_n 0, 1), (25, .getfield 66, 3), (28, .aload 5, 2), (30, .iconst 1, 1), (31, .iload_n 2, 1), (32, .invokevirtual 370, 3), (35, .aload_n 0, 1), (36, .getfield 66, 3), (39, .ldc_w 374, 3), (42, .invokevirtual 375, 3), (45, .aload_n 0, 1), (46, .getfield 66, 3), (49, .invokevirtual 378, 3), (52, .return_, 1)]
theorem D_X8_planFor : dkA cX8_planFor rows_X8_planFor := by
  unfold dkA
  decide +kernel
theorem okD_X8_planFor : okD yX8_planFor 5 := by
  unfold okD
  decide +kernel
def w_X8_planFor_b35 (p1 : Int32) (p2 : Int32) (p3 : Int32) (r4 : Nat) (r5 : Nat) (h : Hp) (Q : Hp → Prop) : Prop :=
  w_X2_solve ((1048576 : Int32)) h (fun h1 => w_X2_seat  h1 (fun h2 => Q h2))
def w_X8_planFor (p1 : Int32) (p2 : Int32) (p3 : Int32) (r4 : Nat) (r5 : Nat) (h : Hp) (Q : Hp → Prop) : Prop :=
  w_X2_begin (p1) (p3) h (fun h1 => w_X2_price r4 ((0 : Int32)) (p2) h1 (fun h2 => wif (p3 = 0) (w_X8_planFor_b35 p1 p2 p3 r4 r5 (h2) Q) (w_X2_price r5 ((1 : Int32)) (p2) h2 (fun h3 => w_X8_planFor_b35 p1 p2 p3 r4 r5 (h3) Q))))
theorem t_X8_planFor_b35 {X : Cx} (p1 : Int32) (p2 : Int32) (p3 : Int32) (r4 : Nat) (r5 : Nat) (h : Hp) (Q : Hp → Prop) (hr4 : LawP r4) (hr5 : LawP r5) (hw : w_X8_planFor_b35 p1 p2 p3 r4 r5 h Q) : G X M_X8_planFor E_X8_planFor (QM X E_X8_planFor (QV Q) Qn) 0 35 [(0, .ref (0))] [] h := by
  unfold w_X8_planFor_b35 at hw
  refine g_aload_n 0 (dk D_X8_planFor 19 rfl) rfl rfl ?_
  refine g_getR 9 (t := 44) (dk D_X8_planFor 20 rfl) kd_0 rfl rfl (by decide) w_443 rfl rfl rfl ?_
  refine g_ldcw (dk D_X8_planFor 21 rfl) w_1143 ?_
  refine g_callV (As := [.int ((1048576 : Int32))]) (kc := 0) (fr := 4) (lo := 129) (mc := 0) (My := M_X2_solve) (dk D_X8_planFor 22 rfl) kd_44 rfl rfl w_1144 w_621 w_622 w_107 w_623 okD_X2_solve (by decide) (Nat.le_of_ble_eq_true rfl) rfl (c_X2_solve ((1048576 : Int32)) (h) _ hw) kxN (kV (fun h1 hw => ?_))
  refine g_aload_n 0 (dk D_X8_planFor 23 rfl) rfl rfl ?_
  refine g_getR 9 (t := 44) (dk D_X8_planFor 24 rfl) kd_0 rfl rfl (by decide) w_443 rfl rfl rfl ?_
  refine g_callV (As := []) (kc := 0) (fr := 5) (lo := 154) (mc := 0) (My := M_X2_seat) (dk D_X8_planFor 25 rfl) kd_44 rfl rfl w_1145 w_1146 w_1147 w_107 w_1148 okD_X2_seat (by decide) (Nat.le_of_ble_eq_true rfl) rfl (c_X2_seat (h1) _ hw) kxN (kV (fun h2 hw => ?_))
  exact g_vret (dk D_X8_planFor 26 rfl) rfl ⟨rfl, hw⟩
theorem t_X8_planFor {X : Cx} (p1 : Int32) (p2 : Int32) (p3 : Int32) (r4 : Nat) (r5 : Nat) (h : Hp) (Q : Hp → Prop) (hr4 : LawP r4) (hr5 : LawP r5) (hw : w_X8_planFor p1 p2 p3 r4 r5 h Q) : G X M_X8_planFor E_X8_planFor (QM X E_X8_planFor (QV Q) Qn) 0 0 [(0, .ref (0)), (1, .int (p1)), (2, .int (p2)), (3, .int (p3)), (4, .ref (r4)), (5, .ref (r5))] [] h := by
  unfold w_X8_planFor at hw
  refine g_aload_n 0 (dk D_X8_planFor 0 rfl) rfl rfl ?_
  refine g_getR 9 (t := 44) (dk D_X8_planFor 1 rfl) kd_0 rfl rfl (by decide) w_443 rfl rfl rfl ?_
  refine g_iload_n 1 (dk D_X8_planFor 2 rfl) rfl rfl ?_
  refine g_iload_n 3 (dk D_X8_planFor 3 rfl) rfl rfl ?_
  refine g_callV (As := [.int (p1), .int (p3)]) (kc := 0) (fr := 4) (lo := 120) (mc := 0) (My := M_X2_begin) (dk D_X8_planFor 4 rfl) kd_44 rfl rfl w_532 w_533 w_534 w_107 w_535 okD_X2_begin (by decide) (Nat.le_of_ble_eq_true rfl) rfl (c_X2_begin (p1) (p3) (h) _ hw) kxN (kV (fun h1 hw => ?_))
  refine g_aload_n 0 (dk D_X8_planFor 5 rfl) rfl rfl ?_
  refine g_getR 9 (t := 44) (dk D_X8_planFor 6 rfl) kd_0 rfl rfl (by decide) w_443 rfl rfl rfl ?_
  refine g_aload 4 (dk D_X8_planFor 7 rfl) rfl ?_
  refine g_iconst (dk D_X8_planFor 8 rfl) ki_0 ?_
  refine g_iload_n 2 (dk D_X8_planFor 9 rfl) rfl rfl ?_
  refine g_callV (As := [.ref (r4), .int ((0 : Int32)), .int (p2)]) (kc := 0) (fr := 4) (lo := 134) (mc := 0) (My := M_X2_price) (dk D_X8_planFor 10 rfl) kd_44 rfl rfl w_559 w_560 w_561 w_107 w_562 okD_X2_price (by decide) (Nat.le_of_ble_eq_true rfl) rfl (c_X2_price r4 ((0 : Int32)) (p2) (hr4) (h1) _ hw) kxN (kV (fun h2 hw => ?_))
  refine g_iload_n 3 (dk D_X8_planFor 11 rfl) rfl rfl ?_
  refine g_if_eq (dk D_X8_planFor 12 rfl) rfl (wif_m hw (fun hw => ?_) (fun hw => ?_))
  · refine g_sub [0] rfl ?_
    exact t_X8_planFor_b35 p1 p2 p3 r4 r5 (h2) Q hr4 hr5 hw
  · refine g_aload_n 0 (dk D_X8_planFor 13 rfl) rfl rfl ?_
    refine g_getR 9 (t := 44) (dk D_X8_planFor 14 rfl) kd_0 rfl rfl (by decide) w_443 rfl rfl rfl ?_
    refine g_aload 5 (dk D_X8_planFor 15 rfl) rfl ?_
    refine g_iconst (dk D_X8_planFor 16 rfl) ki_1 ?_
    refine g_iload_n 2 (dk D_X8_planFor 17 rfl) rfl rfl ?_
    refine g_callV (As := [.ref (r5), .int ((1 : Int32)), .int (p2)]) (kc := 0) (fr := 4) (lo := 134) (mc := 0) (My := M_X2_price) (dk D_X8_planFor 18 rfl) kd_44 rfl rfl w_559 w_560 w_561 w_107 w_562 okD_X2_price (by decide) (Nat.le_of_ble_eq_true rfl) rfl (c_X2_price r5 ((1 : Int32)) (p2) (hr5) (h2) _ hw) kxN (kV (fun h3 hw => ?_))
    refine g_sub [0] rfl ?_
    exact t_X8_planFor_b35 p1 p2 p3 r4 r5 (h3) Q hr4 hr5 hw
theorem c_X8_planFor {X : Cx} (p1 : Int32) (p2 : Int32) (p3 : Int32) (r4 : Nat) (r5 : Nat) (hr4 : LawP r4) (hr5 : LawP r5) (h : Hp) (Q : Hp → Prop) (hw : w_X8_planFor p1 p2 p3 r4 r5 h Q) : Con X yX8_planFor M_X8_planFor 6 186 0 [.ref (0), .int (p1), .int (p2), .int (p3), .ref (r4), .ref (r5)] h (QV Q) Qn :=
  con_of (by decide +kernel) rfl (Nat.le_of_ble_eq_true rfl) (t_X8_planFor p1 p2 p3 r4 r5 h Q hr4 hr5 hw)
/-! ShadowTolls.plan(IIZI)I -/
abbrev M_X8_plan : Mi := (RX8, cX8_plan, 5, (some .int))
abbrev E_X8_plan : Rm := (8, 219, 2, 12)
def rows_X8_plan : List (Nat × Instr × Nat) := [(0, .aload_n 0, 1), (1, .iload_n 1, 1), (2, .iload_n 2, 1), (3, .iload_n 3, 1), (4, .invokevirtual 231, 3), (7, .iload 4, 2), (9, .iconst 0, 1), (10, .iconst 4, 1), (11, .invokestatic 106, 3), (14, .aload_n 0, 1), (15, .iload_n 1, 1), (16, .iload_n 2, 1), (17, .iload_n 3, 1), (18, .aload_n 0, 1), (19, .iconst 0, 1), (20, .invokevirtual 216, 3), (23, .aload_n 0, 1), (24, .iconst 1, 1), (25, .invokevirtual 216, 3), (28, .invokevirtual 235, 3), (31, .iload 4, 2), (33, .tableswitch 65 0 3 #[31, 39, 47, 56], 31), (64, .aload_n 0, 1), (65, .getfield 66, 3), (68, .getfield 239, 3), (71, .ireturn, 1), (72, .aload_n 0, 1), (73, .getfield 66, 3), (76, .getfield 242, 3), (79, .ireturn, 1), (80, .aload_n 0, 1), (81, .getfield 66, 3), (84, .iconst 0, 1), (85, .invokevirtual 245, 3), (88, .ireturn, 1), (89, .aload_n 0, 1), (90, .getfield 66, 3), (93, .iconst 1, 1), (94, .invokevirtual 245, 3), (97, .ireturn, 1), (98, .aload_n 0, 1), (99, .getfield 66, 3), (102, .getfield 249, 3), (105, .ireturn, 1)]
theorem D_X8_plan : dkA cX8_plan rows_X8_plan := by
  unfold dkA
  decide +kernel
theorem okD_X8_plan : okD yX8_plan 4 := by
  unfold okD
  decide +kernel
def w_X8_plan (p1 : Int32) (p2 : Int32) (p3 : Int32) (p4 : Int32) (h : Hp) (Q : Int32 → Hp → Prop) (Qx : String → Hp → Prop) : Prop :=
  w_X8_needPlan (p1) (p2) (p3) h (w_X8_needBetween (p4) ((0 : Int32)) ((4 : Int32)) h (w_X8_lawOf ((0 : Int32)) h (fun q1 => w_X8_lawOf ((1 : Int32)) h (fun q2 => w_X8_planFor (p1) (p2) (p3) q1 q2 h (fun h3 => wsw p4 [((0 : Int32), Q (h3 44 17) h3), ((1 : Int32), Q (h3 44 18) h3), ((2 : Int32), w_X2_earnedAt ((0 : Int32)) h3 (fun z4 => Q z4 h3)), ((3 : Int32), w_X2_earnedAt ((1 : Int32)) h3 (fun z5 => Q z5 h3))] (Q (h3 44 19) h3))))) Qx) Qx
theorem t_X8_plan {X : Cx} (p1 : Int32) (p2 : Int32) (p3 : Int32) (p4 : Int32) (h : Hp) (Q : Int32 → Hp → Prop) (Qx : String → Hp → Prop) (hw : w_X8_plan p1 p2 p3 p4 h Q Qx) : G X M_X8_plan E_X8_plan (QM X E_X8_plan (QI Q) Qx) 2 0 [(0, .ref (0)), (1, .int (p1)), (2, .int (p2)), (3, .int (p3)), (4, .int (p4))] [] h := by
  unfold w_X8_plan at hw
  refine g_aload_n 0 (dk D_X8_plan 0 rfl) rfl rfl ?_
  refine g_iload_n 1 (dk D_X8_plan 1 rfl) rfl rfl ?_
  refine g_iload_n 2 (dk D_X8_plan 2 rfl) rfl rfl ?_
  refine g_iload_n 3 (dk D_X8_plan 3 rfl) rfl rfl ?_
  refine g_callV (As := [.int (p1), .int (p2), .int (p3)]) (kc := 1) (fr := 7) (lo := 110) (mc := 1) (My := M_X8_needPlan) (dk D_X8_plan 4 rfl) kd_0 rfl rfl w_1133 w_1135 w_30 w_101 w_1136 okD_X8_needPlan (by decide) (Nat.le_of_ble_eq_true rfl) rfl (c_X8_needPlan (p1) (p2) (p3) (h) _ _ hw) kxT (kVp (fun hw => ?_))
  refine g_iload 4 (dk D_X8_plan 5 rfl) rfl ?_
  refine g_iconst (dk D_X8_plan 6 rfl) ki_0 ?_
  refine g_iconst (dk D_X8_plan 7 rfl) ki_4 ?_
  refine g_callS (As := [.int (p4), .int ((0 : Int32)), .int ((4 : Int32))]) (kc := 0) (fr := 6) (lo := 82) (mc := 1) (My := M_X8_needBetween) (dk D_X8_plan 8 rfl) w_703 w_704 w_101 w_705 okD_X8_needBetween (by decide) (Nat.le_of_ble_eq_true rfl) rfl (c_X8_needBetween (p4) ((0 : Int32)) ((4 : Int32)) (h) _ _ hw) kxT (kVp (fun hw => ?_))
  refine g_aload_n 0 (dk D_X8_plan 9 rfl) rfl rfl ?_
  refine g_iload_n 1 (dk D_X8_plan 10 rfl) rfl rfl ?_
  refine g_iload_n 2 (dk D_X8_plan 11 rfl) rfl rfl ?_
  refine g_iload_n 3 (dk D_X8_plan 12 rfl) rfl rfl ?_
  refine g_aload_n 0 (dk D_X8_plan 13 rfl) rfl rfl ?_
  refine g_iconst (dk D_X8_plan 14 rfl) ki_0 ?_
  refine g_callV (As := [.int ((0 : Int32))]) (kc := 0) (fr := 1) (lo := 30) (mc := 0) (My := M_X8_lawOf) (dk D_X8_plan 15 rfl) kd_0 rfl rfl w_551 w_553 w_4 w_101 w_554 okD_X8_lawOf (by decide) (Nat.le_of_ble_eq_true rfl) rfl (c_X8_lawOf ((0 : Int32)) (h) _ hw) kxN (kLaw (fun q1 hq1 hw => ?_))
  refine g_aload_n 0 (dk D_X8_plan 16 rfl) rfl rfl ?_
  refine g_iconst (dk D_X8_plan 17 rfl) ki_1 ?_
  refine g_callV (As := [.int ((1 : Int32))]) (kc := 0) (fr := 1) (lo := 30) (mc := 0) (My := M_X8_lawOf) (dk D_X8_plan 18 rfl) kd_0 rfl rfl w_551 w_553 w_4 w_101 w_554 okD_X8_lawOf (by decide) (Nat.le_of_ble_eq_true rfl) rfl (c_X8_lawOf ((1 : Int32)) (h) _ hw) kxN (kLaw (fun q2 hq2 hw => ?_))
  refine g_callV (As := [.int (p1), .int (p2), .int (p3), .ref (q1), .ref (q2)]) (kc := 0) (fr := 6) (lo := 186) (mc := 0) (My := M_X8_planFor) (dk D_X8_plan 19 rfl) kd_0 rfl rfl w_1139 w_1141 w_31 w_101 w_1142 okD_X8_planFor (by decide) (Nat.le_of_ble_eq_true rfl) rfl (c_X8_planFor (p1) (p2) (p3) q1 q2 (hq1) (hq2) (h) _ hw) kxN (kV (fun h3 hw => ?_))
  refine g_iload 4 (dk D_X8_plan 20 rfl) rfl ?_
  refine g_sw [((0 : Int32), 64), ((1 : Int32), 72), ((2 : Int32), 80), ((3 : Int32), 89)] 98 (dk D_X8_plan 21 rfl) (by decide +kernel) (by decide +kernel) (by decide) (by decide) (wsw_m hw ⟨rfl, (fun hw => ?_), rfl, (fun hw => ?_), rfl, (fun hw => ?_), rfl, (fun hw => ?_), trivial⟩ (fun hw => ?_))
  · refine g_aload_n 0 (dk D_X8_plan 22 rfl) rfl rfl ?_
    refine g_getR 9 (t := 44) (dk D_X8_plan 23 rfl) kd_0 rfl rfl (by decide) w_443 rfl rfl rfl ?_
    refine g_getNI 17 (dk D_X8_plan 24 rfl) kd_44 rfl rfl (by decide) w_319 rfl rfl ?_
    exact g_iret (dk D_X8_plan 25 rfl) rfl ⟨_, rfl, hw⟩
  · refine g_aload_n 0 (dk D_X8_plan 26 rfl) rfl rfl ?_
    refine g_getR 9 (t := 44) (dk D_X8_plan 27 rfl) kd_0 rfl rfl (by decide) w_443 rfl rfl rfl ?_
    refine g_getNI 18 (dk D_X8_plan 28 rfl) kd_44 rfl rfl (by decide) w_321 rfl rfl ?_
    exact g_iret (dk D_X8_plan 29 rfl) rfl ⟨_, rfl, hw⟩
  · refine g_aload_n 0 (dk D_X8_plan 30 rfl) rfl rfl ?_
    refine g_getR 9 (t := 44) (dk D_X8_plan 31 rfl) kd_0 rfl rfl (by decide) w_443 rfl rfl rfl ?_
    refine g_iconst (dk D_X8_plan 32 rfl) ki_0 ?_
    refine g_callV (As := [.int ((0 : Int32))]) (kc := 0) (fr := 1) (lo := 29) (mc := 0) (My := M_X2_earnedAt) (dk D_X8_plan 33 rfl) kd_44 rfl rfl w_1172 w_1173 w_1174 w_107 w_1175 okD_X2_earnedAt (by decide) (Nat.le_of_ble_eq_true rfl) rfl (c_X2_earnedAt ((0 : Int32)) (h3) _ hw) kxN (kIp (fun z4 hw => ?_))
    exact g_iret (dk D_X8_plan 34 rfl) rfl ⟨_, rfl, hw⟩
  · refine g_aload_n 0 (dk D_X8_plan 35 rfl) rfl rfl ?_
    refine g_getR 9 (t := 44) (dk D_X8_plan 36 rfl) kd_0 rfl rfl (by decide) w_443 rfl rfl rfl ?_
    refine g_iconst (dk D_X8_plan 37 rfl) ki_1 ?_
    refine g_callV (As := [.int ((1 : Int32))]) (kc := 0) (fr := 1) (lo := 29) (mc := 0) (My := M_X2_earnedAt) (dk D_X8_plan 38 rfl) kd_44 rfl rfl w_1172 w_1173 w_1174 w_107 w_1175 okD_X2_earnedAt (by decide) (Nat.le_of_ble_eq_true rfl) rfl (c_X2_earnedAt ((1 : Int32)) (h3) _ hw) kxN (kIp (fun z5 hw => ?_))
    exact g_iret (dk D_X8_plan 39 rfl) rfl ⟨_, rfl, hw⟩
  · refine g_aload_n 0 (dk D_X8_plan 40 rfl) rfl rfl ?_
    refine g_getR 9 (t := 44) (dk D_X8_plan 41 rfl) kd_0 rfl rfl (by decide) w_443 rfl rfl rfl ?_
    refine g_getNI 19 (dk D_X8_plan 42 rfl) kd_44 rfl rfl (by decide) w_323 rfl rfl ?_
    exact g_iret (dk D_X8_plan 43 rfl) rfl ⟨_, rfl, hw⟩
theorem c_X8_plan {X : Cx} (p1 : Int32) (p2 : Int32) (p3 : Int32) (p4 : Int32) (h : Hp) (Q : Int32 → Hp → Prop) (Qx : String → Hp → Prop) (hw : w_X8_plan p1 p2 p3 p4 h Q Qx) : Con X yX8_plan M_X8_plan 8 219 2 [.ref (0), .int (p1), .int (p2), .int (p3), .int (p4)] h (QI Q) Qx :=
  con_of (by decide +kernel) rfl (Nat.le_of_ble_eq_true rfl) (t_X8_plan p1 p2 p3 p4 h Q Qx hw)
/-! ShadowTolls.slot(IIZI)I -/
abbrev M_X8_slot : Mi := (RX8, cX8_slot, 5, (some .int))
abbrev E_X8_slot : Rm := (8, 219, 2, 12)
def rows_X8_slot : List (Nat × Instr × Nat) := [(0, .aload_n 0, 1), (1, .iload 4, 2), (3, .invokevirtual 176, 3), (6, .aload_n 0, 1), (7, .iload_n 1, 1), (8, .iload_n 2, 1), (9, .iload_n 3, 1), (10, .invokevirtual 231, 3), (13, .aload_n 0, 1), (14, .iload_n 1, 1), (15, .iload_n 2, 1), (16, .iload_n 3, 1), (17, .aload_n 0, 1), (18, .iconst 0, 1), (19, .invokevirtual 216, 3), (22, .aload_n 0, 1), (23, .iconst 1, 1), (24, .invokevirtual 216, 3), (27, .invokevirtual 235, 3), (30, .aload_n 0, 1), (31, .getfield 66, 3), (34, .iload 4, 2), (36, .invokevirtual 252, 3), (39, .ireturn, 1)]
theorem D_X8_slot : dkA cX8_slot rows_X8_slot := by
  unfold dkA
  decide +kernel
theorem okD_X8_slot : okD yX8_slot 4 := by
  unfold okD
  decide +kernel
def w_X8_slot (p1 : Int32) (p2 : Int32) (p3 : Int32) (p4 : Int32) (h : Hp) (Q : Int32 → Hp → Prop) (Qx : String → Hp → Prop) : Prop :=
  w_X8_needTraveller (p4) h (w_X8_needPlan (p1) (p2) (p3) h (w_X8_lawOf ((0 : Int32)) h (fun q1 => w_X8_lawOf ((1 : Int32)) h (fun q2 => w_X8_planFor (p1) (p2) (p3) q1 q2 h (fun h3 => w_X2_slotOf (p4) h3 (fun z4 => Q z4 h3))))) Qx) Qx
theorem t_X8_slot {X : Cx} (p1 : Int32) (p2 : Int32) (p3 : Int32) (p4 : Int32) (h : Hp) (Q : Int32 → Hp → Prop) (Qx : String → Hp → Prop) (hw : w_X8_slot p1 p2 p3 p4 h Q Qx) : G X M_X8_slot E_X8_slot (QM X E_X8_slot (QI Q) Qx) 2 0 [(0, .ref (0)), (1, .int (p1)), (2, .int (p2)), (3, .int (p3)), (4, .int (p4))] [] h := by
  unfold w_X8_slot at hw
  refine g_aload_n 0 (dk D_X8_slot 0 rfl) rfl rfl ?_
  refine g_iload 4 (dk D_X8_slot 1 rfl) rfl ?_
  refine g_callV (As := [.int (p4)]) (kc := 1) (fr := 6) (lo := 82) (mc := 1) (My := M_X8_needTraveller) (dk D_X8_slot 2 rfl) kd_0 rfl rfl w_1011 w_1013 w_26 w_101 w_1014 okD_X8_needTraveller (by decide) (Nat.le_of_ble_eq_true rfl) rfl (c_X8_needTraveller (p4) (h) _ _ hw) kxT (kVp (fun hw => ?_))
  refine g_aload_n 0 (dk D_X8_slot 3 rfl) rfl rfl ?_
  refine g_iload_n 1 (dk D_X8_slot 4 rfl) rfl rfl ?_
  refine g_iload_n 2 (dk D_X8_slot 5 rfl) rfl rfl ?_
  refine g_iload_n 3 (dk D_X8_slot 6 rfl) rfl rfl ?_
  refine g_callV (As := [.int (p1), .int (p2), .int (p3)]) (kc := 0) (fr := 7) (lo := 110) (mc := 1) (My := M_X8_needPlan) (dk D_X8_slot 7 rfl) kd_0 rfl rfl w_1133 w_1135 w_30 w_101 w_1136 okD_X8_needPlan (by decide) (Nat.le_of_ble_eq_true rfl) rfl (c_X8_needPlan (p1) (p2) (p3) (h) _ _ hw) kxT (kVp (fun hw => ?_))
  refine g_aload_n 0 (dk D_X8_slot 8 rfl) rfl rfl ?_
  refine g_iload_n 1 (dk D_X8_slot 9 rfl) rfl rfl ?_
  refine g_iload_n 2 (dk D_X8_slot 10 rfl) rfl rfl ?_
  refine g_iload_n 3 (dk D_X8_slot 11 rfl) rfl rfl ?_
  refine g_aload_n 0 (dk D_X8_slot 12 rfl) rfl rfl ?_
  refine g_iconst (dk D_X8_slot 13 rfl) ki_0 ?_
  refine g_callV (As := [.int ((0 : Int32))]) (kc := 0) (fr := 1) (lo := 30) (mc := 0) (My := M_X8_lawOf) (dk D_X8_slot 14 rfl) kd_0 rfl rfl w_551 w_553 w_4 w_101 w_554 okD_X8_lawOf (by decide) (Nat.le_of_ble_eq_true rfl) rfl (c_X8_lawOf ((0 : Int32)) (h) _ hw) kxN (kLaw (fun q1 hq1 hw => ?_))
  refine g_aload_n 0 (dk D_X8_slot 15 rfl) rfl rfl ?_
  refine g_iconst (dk D_X8_slot 16 rfl) ki_1 ?_
  refine g_callV (As := [.int ((1 : Int32))]) (kc := 0) (fr := 1) (lo := 30) (mc := 0) (My := M_X8_lawOf) (dk D_X8_slot 17 rfl) kd_0 rfl rfl w_551 w_553 w_4 w_101 w_554 okD_X8_lawOf (by decide) (Nat.le_of_ble_eq_true rfl) rfl (c_X8_lawOf ((1 : Int32)) (h) _ hw) kxN (kLaw (fun q2 hq2 hw => ?_))
  refine g_callV (As := [.int (p1), .int (p2), .int (p3), .ref (q1), .ref (q2)]) (kc := 0) (fr := 6) (lo := 186) (mc := 0) (My := M_X8_planFor) (dk D_X8_slot 18 rfl) kd_0 rfl rfl w_1139 w_1141 w_31 w_101 w_1142 okD_X8_planFor (by decide) (Nat.le_of_ble_eq_true rfl) rfl (c_X8_planFor (p1) (p2) (p3) q1 q2 (hq1) (hq2) (h) _ hw) kxN (kV (fun h3 hw => ?_))
  refine g_aload_n 0 (dk D_X8_slot 19 rfl) rfl rfl ?_
  refine g_getR 9 (t := 44) (dk D_X8_slot 20 rfl) kd_0 rfl rfl (by decide) w_443 rfl rfl rfl ?_
  refine g_iload 4 (dk D_X8_slot 21 rfl) rfl ?_
  refine g_callV (As := [.int (p4)]) (kc := 0) (fr := 1) (lo := 29) (mc := 0) (My := M_X2_slotOf) (dk D_X8_slot 22 rfl) kd_44 rfl rfl w_1183 w_1184 w_1185 w_107 w_1186 okD_X2_slotOf (by decide) (Nat.le_of_ble_eq_true rfl) rfl (c_X2_slotOf (p4) (h3) _ hw) kxN (kIp (fun z4 hw => ?_))
  exact g_iret (dk D_X8_slot 23 rfl) rfl ⟨_, rfl, hw⟩
theorem c_X8_slot {X : Cx} (p1 : Int32) (p2 : Int32) (p3 : Int32) (p4 : Int32) (h : Hp) (Q : Int32 → Hp → Prop) (Qx : String → Hp → Prop) (hw : w_X8_slot p1 p2 p3 p4 h Q Qx) : Con X yX8_slot M_X8_slot 8 219 2 [.ref (0), .int (p1), .int (p2), .int (p3), .int (p4)] h (QI Q) Qx :=
  con_of (by decide +kernel) rfl (Nat.le_of_ble_eq_true rfl) (t_X8_slot p1 p2 p3 p4 h Q Qx hw)
/-! ShadowTolls.slots()I -/
abbrev M_X8_slots : Mi := (RX8, cX8_slots, 1, (some .int))
abbrev E_X8_slots : Rm := (2, 58, 0, 0)
def rows_X8_slots : List (Nat × Instr × Nat) := [(0, .aload_n 0, 1), (1, .getfield 19, 3), (4, .invokevirtual 255, 3), (7, .ireturn, 1)]
theorem D_X8_slots : dkA cX8_slots rows_X8_slots := by
  unfold dkA
  decide +kernel
theorem okD_X8_slots : okD yX8_slots 0 := by
  unfold okD
  decide +kernel
def w_X8_slots (h : Hp) (Q : Int32 → Prop) : Prop :=
  w_X4_slotCount 3 h (fun z1 => Q z1)
theorem t_X8_slots {X : Cx} (h : Hp) (Q : Int32 → Prop) (hw : w_X8_slots h Q) : G X M_X8_slots E_X8_slots (QM X E_X8_slots (QIp h Q) Qn) 0 0 [(0, .ref (0))] [] h := by
  unfold w_X8_slots at hw
  refine g_aload_n 0 (dk D_X8_slots 0 rfl) rfl rfl ?_
  refine g_getR 1 (t := 3) (dk D_X8_slots 1 rfl) kd_0 rfl rfl (by decide) w_435 rfl rfl rfl ?_
  refine g_callV (As := []) (kc := 0) (fr := 1) (lo := 30) (mc := 0) (My := M_X4_slotCount) (dk D_X8_slots 2 rfl) roadP_3.1 rfl rfl w_506 w_507 w_508 w_103 w_509 okD_X4_slotCount (by decide) (Nat.le_of_ble_eq_true rfl) rfl (c_X4_slotCount 3 (roadP_3) (h) _ hw) kxN (kIp (fun z1 hw => ?_))
  exact g_iret (dk D_X8_slots 3 rfl) rfl ⟨_, rfl, rfl, hw⟩
theorem c_X8_slots {X : Cx} (h : Hp) (Q : Int32 → Prop) (hw : w_X8_slots h Q) : Con X yX8_slots M_X8_slots 2 58 0 [.ref (0)] h (QIp h Q) Qn :=
  con_of (by decide +kernel) rfl (Nat.le_of_ble_eq_true rfl) (t_X8_slots h Q hw)
/-! ShadowTolls.mostOf(I)I -/
abbrev M_X8_mostOf : Mi := (RX8, cX8_mostOf, 2, (some .int))
abbrev E_X8_mostOf : Rm := (6, 189, 0, 0)
def rows_X8_mostOf : List (Nat × Instr × Nat) := [(0, .aload_n 0, 1), (1, .getfield 66, 3), (4, .aload_n 0, 1), (5, .getfield 19, 3), (8, .invokevirtual 289, 3), (11, .iconst 0, 1), (12, .invokevirtual 366, 3), (15, .aload_n 0, 1), (16, .getfield 66, 3), (19, .aload_n 0, 1), (20, .iconst 0, 1), (21, .invokevirtual 216, 3), (24, .iconst 0, 1), (25, .iload_n 1, 1), (26, .invokevirtual 370, 3), (29, .aload_n 0, 1), (30, .getfield 66, 3), (33, .invokevirtual 381, 3), (36, .ireturn, 1)]
theorem D_X8_mostOf : dkA cX8_mostOf rows_X8_mostOf := by
  unfold dkA
  decide +kernel
theorem okD_X8_mostOf : okD yX8_mostOf 1 := by
  unfold okD
  decide +kernel
def w_X8_mostOf (p1 : Int32) (h : Hp) (Q : Int32 → Hp → Prop) : Prop :=
  w_X4_everybody 3 h (fun z1 => w_X2_begin (z1) ((0 : Int32)) h (fun h2 => w_X8_lawOf ((0 : Int32)) h2 (fun q3 => w_X2_price q3 ((0 : Int32)) (p1) h2 (fun h4 => w_X2_greatestTaking  h4 (fun z5 h6 => Q z5 h6)))))
theorem t_X8_mostOf {X : Cx} (p1 : Int32) (h : Hp) (Q : Int32 → Hp → Prop) (hw : w_X8_mostOf p1 h Q) : G X M_X8_mostOf E_X8_mostOf (QM X E_X8_mostOf (QI Q) Qn) 0 0 [(0, .ref (0)), (1, .int (p1))] [] h := by
  unfold w_X8_mostOf at hw
  refine g_aload_n 0 (dk D_X8_mostOf 0 rfl) rfl rfl ?_
  refine g_getR 9 (t := 44) (dk D_X8_mostOf 1 rfl) kd_0 rfl rfl (by decide) w_443 rfl rfl rfl ?_
  refine g_aload_n 0 (dk D_X8_mostOf 2 rfl) rfl rfl ?_
  refine g_getR 1 (t := 3) (dk D_X8_mostOf 3 rfl) kd_0 rfl rfl (by decide) w_435 rfl rfl rfl ?_
  refine g_callV (As := []) (kc := 0) (fr := 0) (lo := 0) (mc := 0) (My := M_X4_everybody) (dk D_X8_mostOf 4 rfl) roadP_3.1 rfl rfl w_528 w_529 w_530 w_103 w_531 okD_X4_everybody (by decide) (Nat.le_of_ble_eq_true rfl) rfl (c_X4_everybody 3 (roadP_3) (h) _ hw) kxN (kIp (fun z1 hw => ?_))
  refine g_iconst (dk D_X8_mostOf 5 rfl) ki_0 ?_
  refine g_callV (As := [.int (z1), .int ((0 : Int32))]) (kc := 0) (fr := 4) (lo := 120) (mc := 0) (My := M_X2_begin) (dk D_X8_mostOf 6 rfl) kd_44 rfl rfl w_532 w_533 w_534 w_107 w_535 okD_X2_begin (by decide) (Nat.le_of_ble_eq_true rfl) rfl (c_X2_begin (z1) ((0 : Int32)) (h) _ hw) kxN (kV (fun h2 hw => ?_))
  refine g_aload_n 0 (dk D_X8_mostOf 7 rfl) rfl rfl ?_
  refine g_getR 9 (t := 44) (dk D_X8_mostOf 8 rfl) kd_0 rfl rfl (by decide) w_443 rfl rfl rfl ?_
  refine g_aload_n 0 (dk D_X8_mostOf 9 rfl) rfl rfl ?_
  refine g_iconst (dk D_X8_mostOf 10 rfl) ki_0 ?_
  refine g_callV (As := [.int ((0 : Int32))]) (kc := 0) (fr := 1) (lo := 30) (mc := 0) (My := M_X8_lawOf) (dk D_X8_mostOf 11 rfl) kd_0 rfl rfl w_551 w_553 w_4 w_101 w_554 okD_X8_lawOf (by decide) (Nat.le_of_ble_eq_true rfl) rfl (c_X8_lawOf ((0 : Int32)) (h2) _ hw) kxN (kLaw (fun q3 hq3 hw => ?_))
  refine g_iconst (dk D_X8_mostOf 12 rfl) ki_0 ?_
  refine g_iload_n 1 (dk D_X8_mostOf 13 rfl) rfl rfl ?_
  refine g_callV (As := [.ref (q3), .int ((0 : Int32)), .int (p1)]) (kc := 0) (fr := 4) (lo := 134) (mc := 0) (My := M_X2_price) (dk D_X8_mostOf 14 rfl) kd_44 rfl rfl w_559 w_560 w_561 w_107 w_562 okD_X2_price (by decide) (Nat.le_of_ble_eq_true rfl) rfl (c_X2_price q3 ((0 : Int32)) (p1) (hq3) (h2) _ hw) kxN (kV (fun h4 hw => ?_))
  refine g_aload_n 0 (dk D_X8_mostOf 15 rfl) rfl rfl ?_
  refine g_getR 9 (t := 44) (dk D_X8_mostOf 16 rfl) kd_0 rfl rfl (by decide) w_443 rfl rfl rfl ?_
  refine g_callV (As := []) (kc := 0) (fr := 5) (lo := 160) (mc := 0) (My := M_X2_greatestTaking) (dk D_X8_mostOf 17 rfl) kd_44 rfl rfl w_615 w_616 w_617 w_107 w_618 okD_X2_greatestTaking (by decide) (Nat.le_of_ble_eq_true rfl) rfl (c_X2_greatestTaking (h4) _ hw) kxN (kI (fun z5 h6 hw => ?_))
  exact g_iret (dk D_X8_mostOf 18 rfl) rfl ⟨_, rfl, hw⟩
theorem c_X8_mostOf {X : Cx} (p1 : Int32) (h : Hp) (Q : Int32 → Hp → Prop) (hw : w_X8_mostOf p1 h Q) : Con X yX8_mostOf M_X8_mostOf 6 189 0 [.ref (0), .int (p1)] h (QI Q) Qn :=
  con_of (by decide +kernel) rfl (Nat.le_of_ble_eq_true rfl) (t_X8_mostOf p1 h Q hw)
/-! ShadowTolls.most(I)I -/
abbrev M_X8_most : Mi := (RX8, cX8_most, 2, (some .int))
abbrev E_X8_most : Rm := (7, 218, 1, 6)
def rows_X8_most : List (Nat × Instr × Nat) := [(0, .iload_n 1, 1), (1, .invokestatic 183, 3), (4, .aload_n 0, 1), (5, .iload_n 1, 1), (6, .invokevirtual 259, 3), (9, .ireturn, 1)]
theorem D_X8_most : dkA cX8_most rows_X8_most := by
  unfold dkA
  decide +kernel
theorem okD_X8_most : okD yX8_most 1 := by
  unfold okD
  decide +kernel
def w_X8_most (p1 : Int32) (h : Hp) (Q : Int32 → Hp → Prop) (Qx : String → Hp → Prop) : Prop :=
  w_X8_needDay (p1) h (w_X8_mostOf (p1) h (fun z1 h2 => Q z1 h2)) Qx
theorem t_X8_most {X : Cx} (p1 : Int32) (h : Hp) (Q : Int32 → Hp → Prop) (Qx : String → Hp → Prop) (hw : w_X8_most p1 h Q Qx) : G X M_X8_most E_X8_most (QM X E_X8_most (QI Q) Qx) 1 0 [(0, .ref (0)), (1, .int (p1))] [] h := by
  unfold w_X8_most at hw
  refine g_iload_n 1 (dk D_X8_most 0 rfl) rfl rfl ?_
  refine g_callS (As := [.int (p1)]) (kc := 0) (fr := 6) (lo := 82) (mc := 1) (My := M_X8_needDay) (dk D_X8_most 1 rfl) w_1039 w_1040 w_101 w_1041 okD_X8_needDay (by decide) (Nat.le_of_ble_eq_true rfl) rfl (c_X8_needDay (p1) (h) _ _ hw) kxT (kVp (fun hw => ?_))
  refine g_aload_n 0 (dk D_X8_most 2 rfl) rfl rfl ?_
  refine g_iload_n 1 (dk D_X8_most 3 rfl) rfl rfl ?_
  refine g_callV (As := [.int (p1)]) (kc := 0) (fr := 6) (lo := 189) (mc := 0) (My := M_X8_mostOf) (dk D_X8_most 4 rfl) kd_0 rfl rfl w_524 w_526 w_2 w_101 w_527 okD_X8_mostOf (by decide) (Nat.le_of_ble_eq_true rfl) rfl (c_X8_mostOf (p1) (h) _ hw) kxN (kI (fun z1 h2 hw => ?_))
  exact g_iret (dk D_X8_most 5 rfl) rfl ⟨_, rfl, hw⟩
theorem c_X8_most {X : Cx} (p1 : Int32) (h : Hp) (Q : Int32 → Hp → Prop) (Qx : String → Hp → Prop) (hw : w_X8_most p1 h Q Qx) : Con X yX8_most M_X8_most 7 218 1 [.ref (0), .int (p1)] h (QI Q) Qx :=
  con_of (by decide +kernel) rfl (Nat.le_of_ble_eq_true rfl) (t_X8_most p1 h Q Qx hw)
/-! ShadowTolls.cross(IIII)I -/
abbrev M_X8_cross : Mi := (RX8, cX8_cross, 6, (some .int))
abbrev E_X8_cross : Rm := (7, 134, 4, 24)
def rows_X8_cross : List (Nat × Instr × Nat) := [(0, .aload_n 0, 1), (1, .iload_n 1, 1), (2, .invokevirtual 196, 3), (5, .aload_n 0, 1), (6, .iload_n 2, 1), (7, .invokevirtual 176, 3), (10, .iload_n 3, 1), (11, .invokestatic 183, 3), (14, .iload 4, 2), (16, .invokestatic 199, 3), (19, .aload_n 0, 1), (20, .getfield 82, 3), (23, .getfield 262, 3), (26, .bipush 60, 2), (28, .if_icmp .lt 5, 3), (31, .iconst (-1), 1), (32, .ireturn, 1), (33, .aload_n 0, 1), (34, .getfield 19, 3), (37, .iload 4, 2), (39, .invokevirtual 265, 3), (42, .ifCond .eq 16, 3), (45, .aload_n 0, 1), (46, .getfield 19, 3), (49, .iload_n 2, 1), (50, .iload 4, 2), (52, .invokevirtual 268, 3), (55, .ifCond .ne 6, 3), (58, .bipush (-2), 2), (60, .ireturn, 1), (61, .aload_n 0, 1), (62, .getfield 19, 3), (65, .aload_n 0, 1), (66, .iload_n 1, 1), (67, .invokevirtual 216, 3), (70, .iload_n 1, 1), (71, .iload_n 2, 1), (72, .iload_n 3, 1), (73, .iload 4, 2), (75, .iconst 0, 1), (76, .invokevirtual 220, 3), (79, .istore 5, 2), (81, .aload_n 0, 1), (82, .getfield 82, 3), (85, .iload_n 3, 1), (86, .iload 5, 2), (88, .invokevirtual 272, 3), (91, .iload 5, 2), (93, .ireturn, 1)]
theorem D_X8_cross : dkA cX8_cross rows_X8_cross := by
  unfold dkA
  decide +kernel
theorem okD_X8_cross : okD yX8_cross 4 := by
  unfold okD
  decide +kernel
def w_X8_cross (p1 : Int32) (p2 : Int32) (p3 : Int32) (p4 : Int32) (h : Hp) (Q : Int32 → Hp → Prop) (Qx : String → Hp → Prop) : Prop :=
  w_X8_needBridge (p1) h (w_X8_needTraveller (p2) h (w_X8_needDay (p3) h (w_X8_needMinute (p4) h (wif ((h 62 6) < (60 : Int32)) (w_X4_isOpen 3 (p4) h (fun z1 => wif (z1 = 0) (Q (-2 : Int32) h) (w_X4_mayCome 3 (p2) (p4) h (fun z2 => wif (¬ z2 = 0) (w_X8_lawOf (p1) h (fun q3 => w_X4_fare 3 q3 (p1) (p2) (p3) (p4) ((0 : Int32)) h (fun z4 h5 => w_X3_addCrossing 62 (p3) (z4) h5 (fun h6 => Q z4 h6)))) (Q (-2 : Int32) h))))) (Q (-1 : Int32) h)) Qx) Qx) Qx) Qx
theorem t_X8_cross {X : Cx} (p1 : Int32) (p2 : Int32) (p3 : Int32) (p4 : Int32) (h : Hp) (Q : Int32 → Hp → Prop) (Qx : String → Hp → Prop) (hw : w_X8_cross p1 p2 p3 p4 h Q Qx) : G X M_X8_cross E_X8_cross (QM X E_X8_cross (QI Q) Qx) 4 0 [(0, .ref (0)), (1, .int (p1)), (2, .int (p2)), (3, .int (p3)), (4, .int (p4))] [] h := by
  unfold w_X8_cross at hw
  refine g_aload_n 0 (dk D_X8_cross 0 rfl) rfl rfl ?_
  refine g_iload_n 1 (dk D_X8_cross 1 rfl) rfl rfl ?_
  refine g_callV (As := [.int (p1)]) (kc := 3) (fr := 6) (lo := 82) (mc := 1) (My := M_X8_needBridge) (dk D_X8_cross 2 rfl) kd_0 rfl rfl w_1051 w_1053 w_27 w_101 w_1054 okD_X8_needBridge (by decide) (Nat.le_of_ble_eq_true rfl) rfl (c_X8_needBridge (p1) (h) _ _ hw) kxT (kVp (fun hw => ?_))
  refine g_aload_n 0 (dk D_X8_cross 3 rfl) rfl rfl ?_
  refine g_iload_n 2 (dk D_X8_cross 4 rfl) rfl rfl ?_
  refine g_callV (As := [.int (p2)]) (kc := 2) (fr := 6) (lo := 82) (mc := 1) (My := M_X8_needTraveller) (dk D_X8_cross 5 rfl) kd_0 rfl rfl w_1011 w_1013 w_26 w_101 w_1014 okD_X8_needTraveller (by decide) (Nat.le_of_ble_eq_true rfl) rfl (c_X8_needTraveller (p2) (h) _ _ hw) kxT (kVp (fun hw => ?_))
  refine g_iload_n 3 (dk D_X8_cross 6 rfl) rfl rfl ?_
  refine g_callS (As := [.int (p3)]) (kc := 1) (fr := 6) (lo := 82) (mc := 1) (My := M_X8_needDay) (dk D_X8_cross 7 rfl) w_1039 w_1040 w_101 w_1041 okD_X8_needDay (by decide) (Nat.le_of_ble_eq_true rfl) rfl (c_X8_needDay (p3) (h) _ _ hw) kxT (kVp (fun hw => ?_))
  refine g_iload 4 (dk D_X8_cross 8 rfl) rfl ?_
  refine g_callS (As := [.int (p4)]) (kc := 0) (fr := 6) (lo := 82) (mc := 1) (My := M_X8_needMinute) (dk D_X8_cross 9 rfl) w_1071 w_1072 w_101 w_1073 okD_X8_needMinute (by decide) (Nat.le_of_ble_eq_true rfl) rfl (c_X8_needMinute (p4) (h) _ _ hw) kxT (kVp (fun hw => ?_))
  refine g_aload_n 0 (dk D_X8_cross 10 rfl) rfl rfl ?_
  refine g_getR 11 (t := 62) (dk D_X8_cross 11 rfl) kd_0 rfl rfl (by decide) w_445 rfl rfl rfl ?_
  refine g_getNI 6 (dk D_X8_cross 12 rfl) recP_62.1 rfl rfl (by decide) w_413 rfl rfl ?_
  refine g_bipush (dk D_X8_cross 13 rfl) kb_60 ?_
  refine g_icmp_lt (dk D_X8_cross 14 rfl) rfl (wif_m hw (fun hw => ?_) (fun hw => ?_))
  · refine g_aload_n 0 (dk D_X8_cross 17 rfl) rfl rfl ?_
    refine g_getR 1 (t := 3) (dk D_X8_cross 18 rfl) kd_0 rfl rfl (by decide) w_435 rfl rfl rfl ?_
    refine g_iload 4 (dk D_X8_cross 19 rfl) rfl ?_
    refine g_callV (As := [.int (p4)]) (kc := 0) (fr := 0) (lo := 0) (mc := 0) (My := M_X4_isOpen) (dk D_X8_cross 20 rfl) roadP_3.1 rfl rfl w_1201 w_1202 w_1203 w_103 w_1204 okD_X4_isOpen (by decide) (Nat.le_of_ble_eq_true rfl) rfl (c_X4_isOpen 3 (p4) (roadP_3) (h) _ hw) kxN (kIp (fun z1 hw => ?_))
    refine g_if_eq (dk D_X8_cross 21 rfl) rfl (wif_m hw (fun hw => ?_) (fun hw => ?_))
    · refine g_bipush (dk D_X8_cross 28 rfl) kb_m2 ?_
      exact g_iret (dk D_X8_cross 29 rfl) rfl ⟨_, rfl, hw⟩
    · refine g_aload_n 0 (dk D_X8_cross 22 rfl) rfl rfl ?_
      refine g_getR 1 (t := 3) (dk D_X8_cross 23 rfl) kd_0 rfl rfl (by decide) w_435 rfl rfl rfl ?_
      refine g_iload_n 2 (dk D_X8_cross 24 rfl) rfl rfl ?_
      refine g_iload 4 (dk D_X8_cross 25 rfl) rfl ?_
      refine g_callV (As := [.int (p2), .int (p4)]) (kc := 0) (fr := 2) (lo := 59) (mc := 0) (My := M_X4_mayCome) (dk D_X8_cross 26 rfl) roadP_3.1 rfl rfl w_1205 w_568 w_569 w_103 w_570 okD_X4_mayCome (by decide) (Nat.le_of_ble_eq_true rfl) rfl (c_X4_mayCome 3 (p2) (p4) (roadP_3) (h) _ hw) kxN (kIp (fun z2 hw => ?_))
      refine g_if_ne (dk D_X8_cross 27 rfl) rfl (wif_m hw (fun hw => ?_) (fun hw => ?_))
      · refine g_aload_n 0 (dk D_X8_cross 30 rfl) rfl rfl ?_
        refine g_getR 1 (t := 3) (dk D_X8_cross 31 rfl) kd_0 rfl rfl (by decide) w_435 rfl rfl rfl ?_
        refine g_aload_n 0 (dk D_X8_cross 32 rfl) rfl rfl ?_
        refine g_iload_n 1 (dk D_X8_cross 33 rfl) rfl rfl ?_
        refine g_callV (As := [.int (p1)]) (kc := 0) (fr := 1) (lo := 30) (mc := 0) (My := M_X8_lawOf) (dk D_X8_cross 34 rfl) kd_0 rfl rfl w_551 w_553 w_4 w_101 w_554 okD_X8_lawOf (by decide) (Nat.le_of_ble_eq_true rfl) rfl (c_X8_lawOf (p1) (h) _ hw) kxN (kLaw (fun q3 hq3 hw => ?_))
        refine g_iload_n 1 (dk D_X8_cross 35 rfl) rfl rfl ?_
        refine g_iload_n 2 (dk D_X8_cross 36 rfl) rfl rfl ?_
        refine g_iload_n 3 (dk D_X8_cross 37 rfl) rfl rfl ?_
        refine g_iload 4 (dk D_X8_cross 38 rfl) rfl ?_
        refine g_iconst (dk D_X8_cross 39 rfl) ki_0 ?_
        refine g_callV (As := [.ref (q3), .int (p1), .int (p2), .int (p3), .int (p4), .int ((0 : Int32))]) (kc := 0) (fr := 3) (lo := 97) (mc := 0) (My := M_X4_fare) (dk D_X8_cross 40 rfl) roadP_3.1 rfl rfl w_1099 w_572 w_573 w_103 w_574 okD_X4_fare (by decide) (Nat.le_of_ble_eq_true rfl) rfl (c_X4_fare 3 q3 (p1) (p2) (p3) (p4) ((0 : Int32)) (roadP_3) (hq3) (h) _ hw) kxN (kI (fun z4 h5 hw => ?_))
        refine g_istore (dk D_X8_cross 41 rfl) (by decide) rfl ?_
        refine g_aload_n 1 (dk D_X8_cross 42 rfl) rfl rfl ?_
        refine g_getR 11 (t := 62) (dk D_X8_cross 43 rfl) kd_0 rfl rfl (by decide) w_445 rfl rfl rfl ?_
        refine g_iload_n 4 (dk D_X8_cross 44 rfl) rfl rfl ?_
        refine g_iload 0 (dk D_X8_cross 45 rfl) rfl ?_
        refine g_callV (As := [.int (p3), .int (z4)]) (kc := 0) (fr := 1) (lo := 30) (mc := 0) (My := M_X3_addCrossing) (dk D_X8_cross 46 rfl) recP_62.1 rfl rfl w_1206 w_1207 w_1208 w_109 w_1209 okD_X3_addCrossing (by decide) (Nat.le_of_ble_eq_true rfl) rfl (c_X3_addCrossing 62 (p3) (z4) (recP_62) (h5) _ hw) kxN (kV (fun h6 hw => ?_))
        refine g_iload 0 (dk D_X8_cross 47 rfl) rfl ?_
        exact g_iret (dk D_X8_cross 48 rfl) rfl ⟨_, rfl, hw⟩
      · refine g_bipush (dk D_X8_cross 28 rfl) kb_m2 ?_
        exact g_iret (dk D_X8_cross 29 rfl) rfl ⟨_, rfl, hw⟩
  · refine g_iconst (dk D_X8_cross 15 rfl) ki_m1 ?_
    exact g_iret (dk D_X8_cross 16 rfl) rfl ⟨_, rfl, hw⟩
theorem c_X8_cross {X : Cx} (p1 : Int32) (p2 : Int32) (p3 : Int32) (p4 : Int32) (h : Hp) (Q : Int32 → Hp → Prop) (Qx : String → Hp → Prop) (hw : w_X8_cross p1 p2 p3 p4 h Q Qx) : Con X yX8_cross M_X8_cross 7 134 4 [.ref (0), .int (p1), .int (p2), .int (p3), .int (p4)] h (QI Q) Qx :=
  con_of (by decide +kernel) rfl (Nat.le_of_ble_eq_true rfl) (t_X8_cross p1 p2 p3 p4 h Q Qx hw)
/-! ShadowTolls.undo()I -/
abbrev M_X8_undo : Mi := (RX8, cX8_undo, 1, (some .int))
abbrev E_X8_undo : Rm := (1, 29, 0, 0)
def rows_X8_undo : List (Nat × Instr × Nat) := [(0, .aload_n 0, 1), (1, .getfield 82, 3), (4, .getfield 262, 3), (7, .ifCond .gt 5, 3), (10, .iconst (-1), 1), (11, .ireturn, 1), (12, .aload_n 0, 1), (13, .getfield 82, 3), (16, .dup, 1), (17, .getfield 262, 3), (20, .iconst 1, 1), (21, .isub, 1), (22, .putfield 262, 3), (25, .aload_n 0, 1), (26, .getfield 82, 3), (29, .getfield 276, 3), (32, .aload_n 0, 1), (33, .getfield 82, 3), (36, .getfield 262, 3), (39, .invokestatic 189, 3), (42, .ireturn, 1)]
theorem D_X8_undo : dkA cX8_undo rows_X8_undo := by
  unfold dkA
  decide +kernel
theorem okD_X8_undo : okD yX8_undo 0 := by
  unfold okD
  decide +kernel
def w_X8_undo (h : Hp) (Q : Int32 → Hp → Prop) : Prop :=
  wif (0 < (h 62 6)) (wlet (hup h 62 6 ((h 62 6) - (1 : Int32))) (fun h1 => w_X8_at 65 60 ((h1 62 6)) h1 (fun z2 => Q z2 h1))) (Q (-1 : Int32) h)
theorem t_X8_undo {X : Cx} (h : Hp) (Q : Int32 → Hp → Prop) (hw : w_X8_undo h Q) : G X M_X8_undo E_X8_undo (QM X E_X8_undo (QI Q) Qn) 0 0 [(0, .ref (0))] [] h := by
  unfold w_X8_undo at hw
  refine g_aload_n 0 (dk D_X8_undo 0 rfl) rfl rfl ?_
  refine g_getR 11 (t := 62) (dk D_X8_undo 1 rfl) kd_0 rfl rfl (by decide) w_445 rfl rfl rfl ?_
  refine g_getNI 6 (dk D_X8_undo 2 rfl) recP_62.1 rfl rfl (by decide) w_413 rfl rfl ?_
  refine g_if_gt (dk D_X8_undo 3 rfl) rfl (wif_m hw (fun hw => ?_) (fun hw => ?_))
  · refine g_aload_n 0 (dk D_X8_undo 6 rfl) rfl rfl ?_
    refine g_getR 11 (t := 62) (dk D_X8_undo 7 rfl) kd_0 rfl rfl (by decide) w_445 rfl rfl rfl ?_
    refine g_dup (dk D_X8_undo 8 rfl) rfl ?_
    refine g_getNI 6 (dk D_X8_undo 9 rfl) recP_62.1 rfl rfl (by decide) w_413 rfl rfl ?_
    refine g_iconst (dk D_X8_undo 10 rfl) ki_1 ?_
    refine g_isub (dk D_X8_undo 11 rfl) ?_
    refine g_putN 6 (dk D_X8_undo 12 rfl) recP_62.1 rfl rfl (by decide) w_413 rfl tyX3_ok nmX3 rfl (by decide) rfl (fun z => absurd z (by decide)) ?_
    refine g_heap (fun h1 eh1 => ?_)
    replace hw := hw _ eh1
    refine g_aload_n 0 (dk D_X8_undo 13 rfl) rfl rfl ?_
    refine g_getR 11 (t := 62) (dk D_X8_undo 14 rfl) kd_0 rfl rfl (by decide) w_445 rfl rfl rfl ?_
    refine g_getNR 2 (t := 65) (dk D_X8_undo 15 rfl) recP_62.1 rfl rfl (by decide) w_405 rfl rfl rfl ?_
    refine g_aload_n 0 (dk D_X8_undo 16 rfl) rfl rfl ?_
    refine g_getR 11 (t := 62) (dk D_X8_undo 17 rfl) kd_0 rfl rfl (by decide) w_445 rfl rfl rfl ?_
    refine g_getNI 6 (dk D_X8_undo 18 rfl) recP_62.1 rfl rfl (by decide) w_413 rfl rfl ?_
    refine g_callS (As := [.ref (65), .int ((h1 62 6))]) (kc := 0) (fr := 0) (lo := 0) (mc := 0) (My := M_X8_at) (dk D_X8_undo 19 rfl) w_517 w_518 w_101 w_519 okD_X8_at (by decide) (Nat.le_of_ble_eq_true rfl) rfl (c_X8_at 65 60 ((h1 62 6)) (kd_65) (h1) _ hw) kxN (kIp (fun z2 hw => ?_))
    exact g_iret (dk D_X8_undo 20 rfl) rfl ⟨_, rfl, hw⟩
  · refine g_iconst (dk D_X8_undo 4 rfl) ki_m1 ?_
    exact g_iret (dk D_X8_undo 5 rfl) rfl ⟨_, rfl, hw⟩
theorem c_X8_undo {X : Cx} (h : Hp) (Q : Int32 → Hp → Prop) (hw : w_X8_undo h Q) : Con X yX8_undo M_X8_undo 1 29 0 [.ref (0)] h (QI Q) Qn :=
  con_of (by decide +kernel) rfl (Nat.le_of_ble_eq_true rfl) (t_X8_undo h Q hw)
/-! ShadowTolls.taken(I)I -/
abbrev M_X8_taken : Mi := (RX8, cX8_taken, 2, (some .int))
abbrev E_X8_taken : Rm := (7, 110, 1, 6)
def rows_X8_taken : List (Nat × Instr × Nat) := [(0, .iload_n 1, 1), (1, .iconst (-1), 1), (2, .if_icmp .eq 7, 3), (5, .iload_n 1, 1), (6, .invokestatic 183, 3), (9, .aload_n 0, 1), (10, .getfield 82, 3), (13, .iload_n 1, 1), (14, .invokevirtual 279, 3), (17, .ireturn, 1)]
theorem D_X8_taken : dkA cX8_taken rows_X8_taken := by
  unfold dkA
  decide +kernel
theorem okD_X8_taken : okD yX8_taken 1 := by
  unfold okD
  decide +kernel
def w_X8_taken_b9 (p1 : Int32) (h : Hp) (Q : Int32 → Prop) (Qx : String → Hp → Prop) : Prop :=
  w_X3_sum 62 (p1) h (fun z1 => Q z1)
def w_X8_taken (p1 : Int32) (h : Hp) (Q : Int32 → Prop) (Qx : String → Hp → Prop) : Prop :=
  wif (p1 = (-1 : Int32)) (w_X8_taken_b9 p1 (h) Q Qx) (w_X8_needDay (p1) h (w_X8_taken_b9 p1 (h) Q Qx) Qx)
theorem t_X8_taken_b9 {X : Cx} (p1 : Int32) (h : Hp) (Q : Int32 → Prop) (Qx : String → Hp → Prop) (hw : w_X8_taken_b9 p1 h Q Qx) : G X M_X8_taken E_X8_taken (QM X E_X8_taken (QIp h Q) Qx) 0 9 [(0, .ref (0)), (1, .int (p1))] [] h := by
  unfold w_X8_taken_b9 at hw
  refine g_aload_n 0 (dk D_X8_taken 5 rfl) rfl rfl ?_
  refine g_getR 11 (t := 62) (dk D_X8_taken 6 rfl) kd_0 rfl rfl (by decide) w_445 rfl rfl rfl ?_
  refine g_iload_n 1 (dk D_X8_taken 7 rfl) rfl rfl ?_
  refine g_callV (As := [.int (p1)]) (kc := 0) (fr := 1) (lo := 29) (mc := 0) (My := M_X3_sum) (dk D_X8_taken 8 rfl) recP_62.1 rfl rfl w_1218 w_1219 w_1220 w_109 w_1221 okD_X3_sum (by decide) (Nat.le_of_ble_eq_true rfl) rfl (c_X3_sum 62 (p1) (recP_62) (h) _ hw) kxN (kIp (fun z1 hw => ?_))
  exact g_iret (dk D_X8_taken 9 rfl) rfl ⟨_, rfl, rfl, hw⟩
theorem t_X8_taken {X : Cx} (p1 : Int32) (h : Hp) (Q : Int32 → Prop) (Qx : String → Hp → Prop) (hw : w_X8_taken p1 h Q Qx) : G X M_X8_taken E_X8_taken (QM X E_X8_taken (QIp h Q) Qx) 1 0 [(0, .ref (0)), (1, .int (p1))] [] h := by
  unfold w_X8_taken at hw
  refine g_iload_n 1 (dk D_X8_taken 0 rfl) rfl rfl ?_
  refine g_iconst (dk D_X8_taken 1 rfl) ki_m1 ?_
  refine g_icmp_eq (dk D_X8_taken 2 rfl) rfl (wif_m hw (fun hw => ?_) (fun hw => ?_))
  · refine g_less (kc' := 0) (by decide) ?_
    exact t_X8_taken_b9 p1 (h) Q Qx hw
  · refine g_iload_n 1 (dk D_X8_taken 3 rfl) rfl rfl ?_
    refine g_callS (As := [.int (p1)]) (kc := 0) (fr := 6) (lo := 82) (mc := 1) (My := M_X8_needDay) (dk D_X8_taken 4 rfl) w_1039 w_1040 w_101 w_1041 okD_X8_needDay (by decide) (Nat.le_of_ble_eq_true rfl) rfl (c_X8_needDay (p1) (h) _ _ hw) kxT (kVp (fun hw => ?_))
    exact t_X8_taken_b9 p1 (h) Q Qx hw
theorem c_X8_taken {X : Cx} (p1 : Int32) (h : Hp) (Q : Int32 → Prop) (Qx : String → Hp → Prop) (hw : w_X8_taken p1 h Q Qx) : Con X yX8_taken M_X8_taken 7 110 1 [.ref (0), .int (p1)] h (QIp h Q) Qx :=
  con_of (by decide +kernel) rfl (Nat.le_of_ble_eq_true rfl) (t_X8_taken p1 h Q Qx hw)
/-! ShadowTolls.write(II)I -/
abbrev M_X8_write : Mi := (RX8, cX8_write, 4, (some .int))
abbrev E_X8_write : Rm := (7, 112, 2, 12)
def rows_X8_write : List (Nat × Instr × Nat) := [(0, .iload_n 1, 1), (1, .invokestatic 183, 3), (4, .iload_n 2, 1), (5, .iconst (-1), 1), (6, .if_icmp .eq 11, 3), (9, .iload_n 2, 1), (10, .iconst 0, 1), (11, .ldc_w 282, 3), (14, .invokestatic 106, 3), (17, .aload_n 0, 1), (18, .getfield 82, 3), (21, .getfield 283, 3), (24, .iload_n 1, 1), (25, .invokestatic 189, 3), (28, .istore_n 3, 1), (29, .aload_n 0, 1), (30, .getfield 82, 3), (33, .getfield 283, 3), (36, .iload_n 1, 1), (37, .iload_n 2, 1), (38, .invokestatic 212, 3), (41, .iload_n 3, 1), (42, .ireturn, 1)]
theorem D_X8_write : dkA cX8_write rows_X8_write := by
  unfold dkA
  decide +kernel
theorem okD_X8_write : okD yX8_write 2 := by
  unfold okD
  decide +kernel
def w_X8_write_b17 (p1 : Int32) (p2 : Int32) (h : Hp) (Q : Int32 → Hp → Prop) (Qx : String → Hp → Prop) : Prop :=
  w_X8_at 66 30 (p1) h (fun z1 => w_X8_put 66 30 (p1) (p2) h (fun h2 => Q z1 h2))
def w_X8_write (p1 : Int32) (p2 : Int32) (h : Hp) (Q : Int32 → Hp → Prop) (Qx : String → Hp → Prop) : Prop :=
  w_X8_needDay (p1) h (wif (p2 = (-1 : Int32)) (w_X8_write_b17 p1 p2 (h) Q Qx) (w_X8_needBetween (p2) ((0 : Int32)) ((99999 : Int32)) h (w_X8_write_b17 p1 p2 (h) Q Qx) Qx)) Qx
theorem t_X8_write_b17 {X : Cx} (p1 : Int32) (p2 : Int32) (h : Hp) (Q : Int32 → Hp → Prop) (Qx : String → Hp → Prop) (hw : w_X8_write_b17 p1 p2 h Q Qx) : G X M_X8_write E_X8_write (QM X E_X8_write (QI Q) Qx) 0 17 [(0, .ref (0)), (1, .int (p1)), (2, .int (p2))] [] h := by
  unfold w_X8_write_b17 at hw
  refine g_aload_n 0 (dk D_X8_write 9 rfl) rfl rfl ?_
  refine g_getR 11 (t := 62) (dk D_X8_write 10 rfl) kd_0 rfl rfl (by decide) w_445 rfl rfl rfl ?_
  refine g_getNR 3 (t := 66) (dk D_X8_write 11 rfl) recP_62.1 rfl rfl (by decide) w_407 rfl rfl rfl ?_
  refine g_iload_n 1 (dk D_X8_write 12 rfl) rfl rfl ?_
  refine g_callS (As := [.ref (66), .int (p1)]) (kc := 0) (fr := 0) (lo := 0) (mc := 0) (My := M_X8_at) (dk D_X8_write 13 rfl) w_517 w_518 w_101 w_519 okD_X8_at (by decide) (Nat.le_of_ble_eq_true rfl) rfl (c_X8_at 66 30 (p1) (kd_66) (h) _ hw) kxN (kIp (fun z1 hw => ?_))
  refine g_istore_n (dk D_X8_write 14 rfl) rfl (by decide) rfl ?_
  refine g_aload_n 1 (dk D_X8_write 15 rfl) rfl rfl ?_
  refine g_getR 11 (t := 62) (dk D_X8_write 16 rfl) kd_0 rfl rfl (by decide) w_445 rfl rfl rfl ?_
  refine g_getNR 3 (t := 66) (dk D_X8_write 17 rfl) recP_62.1 rfl rfl (by decide) w_407 rfl rfl rfl ?_
  refine g_iload_n 2 (dk D_X8_write 18 rfl) rfl rfl ?_
  refine g_iload_n 3 (dk D_X8_write 19 rfl) rfl rfl ?_
  refine g_callS (As := [.ref (66), .int (p1), .int (p2)]) (kc := 0) (fr := 0) (lo := 0) (mc := 0) (My := M_X8_put) (dk D_X8_write 20 rfl) w_1091 w_496 w_101 w_497 okD_X8_put (by decide) (Nat.le_of_ble_eq_true rfl) rfl (c_X8_put 66 30 (p1) (p2) (kd_66) (h) _ hw) kxN (kV (fun h2 hw => ?_))
  refine g_iload_n 0 (dk D_X8_write 21 rfl) rfl rfl ?_
  exact g_iret (dk D_X8_write 22 rfl) rfl ⟨_, rfl, hw⟩
theorem t_X8_write {X : Cx} (p1 : Int32) (p2 : Int32) (h : Hp) (Q : Int32 → Hp → Prop) (Qx : String → Hp → Prop) (hw : w_X8_write p1 p2 h Q Qx) : G X M_X8_write E_X8_write (QM X E_X8_write (QI Q) Qx) 2 0 [(0, .ref (0)), (1, .int (p1)), (2, .int (p2))] [] h := by
  unfold w_X8_write at hw
  refine g_iload_n 1 (dk D_X8_write 0 rfl) rfl rfl ?_
  refine g_callS (As := [.int (p1)]) (kc := 1) (fr := 6) (lo := 82) (mc := 1) (My := M_X8_needDay) (dk D_X8_write 1 rfl) w_1039 w_1040 w_101 w_1041 okD_X8_needDay (by decide) (Nat.le_of_ble_eq_true rfl) rfl (c_X8_needDay (p1) (h) _ _ hw) kxT (kVp (fun hw => ?_))
  refine g_iload_n 2 (dk D_X8_write 2 rfl) rfl rfl ?_
  refine g_iconst (dk D_X8_write 3 rfl) ki_m1 ?_
  refine g_icmp_eq (dk D_X8_write 4 rfl) rfl (wif_m hw (fun hw => ?_) (fun hw => ?_))
  · refine g_less (kc' := 0) (by decide) ?_
    exact t_X8_write_b17 p1 p2 (h) Q Qx hw
  · refine g_iload_n 2 (dk D_X8_write 5 rfl) rfl rfl ?_
    refine g_iconst (dk D_X8_write 6 rfl) ki_0 ?_
    refine g_ldcw (dk D_X8_write 7 rfl) w_1229 ?_
    refine g_callS (As := [.int (p2), .int ((0 : Int32)), .int ((99999 : Int32))]) (kc := 0) (fr := 6) (lo := 82) (mc := 1) (My := M_X8_needBetween) (dk D_X8_write 8 rfl) w_703 w_704 w_101 w_705 okD_X8_needBetween (by decide) (Nat.le_of_ble_eq_true rfl) rfl (c_X8_needBetween (p2) ((0 : Int32)) ((99999 : Int32)) (h) _ _ hw) kxT (kVp (fun hw => ?_))
    exact t_X8_write_b17 p1 p2 (h) Q Qx hw
theorem c_X8_write {X : Cx} (p1 : Int32) (p2 : Int32) (h : Hp) (Q : Int32 → Hp → Prop) (Qx : String → Hp → Prop) (hw : w_X8_write p1 p2 h Q Qx) : Con X yX8_write M_X8_write 7 112 2 [.ref (0), .int (p1), .int (p2)] h (QI Q) Qx :=
  con_of (by decide +kernel) rfl (Nat.le_of_ble_eq_true rfl) (t_X8_write p1 p2 h Q Qx hw)
/-! ShadowTolls.stolen(I)I -/
abbrev M_X8_stolen : Mi := (RX8, cX8_stolen, 3, (some .int))
abbrev E_X8_stolen : Rm := (7, 110, 1, 6)
def rows_X8_stolen : List (Nat × Instr × Nat) := [(0, .iload_n 1, 1), (1, .invokestatic 183, 3), (4, .aload_n 0, 1), (5, .getfield 82, 3), (8, .getfield 283, 3), (11, .iload_n 1, 1), (12, .invokestatic 189, 3), (15, .istore_n 2, 1), (16, .iload_n 2, 1), (17, .iconst (-1), 1), (18, .if_icmp .ne 7, 3), (21, .iconst 0, 1), (22, .goto 13, 3), (25, .aload_n 0, 1), (26, .getfield 82, 3), (29, .iload_n 1, 1), (30, .invokevirtual 279, 3), (33, .iload_n 2, 1), (34, .isub, 1), (35, .ireturn, 1)]
theorem D_X8_stolen : dkA cX8_stolen rows_X8_stolen := by
  unfold dkA
  decide +kernel
theorem okD_X8_stolen : okD yX8_stolen 1 := by
  unfold okD
  decide +kernel
def w_X8_stolen (p1 : Int32) (h : Hp) (Q : Int32 → Prop) (Qx : String → Hp → Prop) : Prop :=
  w_X8_needDay (p1) h (w_X8_at 66 30 (p1) h (fun z1 => wif (¬ z1 = (-1 : Int32)) (w_X3_sum 62 (p1) h (fun z2 => Q (z2 - z1))) (Q (0 : Int32)))) Qx
theorem t_X8_stolen {X : Cx} (p1 : Int32) (h : Hp) (Q : Int32 → Prop) (Qx : String → Hp → Prop) (hw : w_X8_stolen p1 h Q Qx) : G X M_X8_stolen E_X8_stolen (QM X E_X8_stolen (QIp h Q) Qx) 1 0 [(0, .ref (0)), (1, .int (p1))] [] h := by
  unfold w_X8_stolen at hw
  refine g_iload_n 1 (dk D_X8_stolen 0 rfl) rfl rfl ?_
  refine g_callS (As := [.int (p1)]) (kc := 0) (fr := 6) (lo := 82) (mc := 1) (My := M_X8_needDay) (dk D_X8_stolen 1 rfl) w_1039 w_1040 w_101 w_1041 okD_X8_needDay (by decide) (Nat.le_of_ble_eq_true rfl) rfl (c_X8_needDay (p1) (h) _ _ hw) kxT (kVp (fun hw => ?_))
  refine g_aload_n 0 (dk D_X8_stolen 2 rfl) rfl rfl ?_
  refine g_getR 11 (t := 62) (dk D_X8_stolen 3 rfl) kd_0 rfl rfl (by decide) w_445 rfl rfl rfl ?_
  refine g_getNR 3 (t := 66) (dk D_X8_stolen 4 rfl) recP_62.1 rfl rfl (by decide) w_407 rfl rfl rfl ?_
  refine g_iload_n 1 (dk D_X8_stolen 5 rfl) rfl rfl ?_
  refine g_callS (As := [.ref (66), .int (p1)]) (kc := 0) (fr := 0) (lo := 0) (mc := 0) (My := M_X8_at) (dk D_X8_stolen 6 rfl) w_517 w_518 w_101 w_519 okD_X8_at (by decide) (Nat.le_of_ble_eq_true rfl) rfl (c_X8_at 66 30 (p1) (kd_66) (h) _ hw) kxN (kIp (fun z1 hw => ?_))
  refine g_istore_n (dk D_X8_stolen 7 rfl) rfl (by decide) rfl ?_
  refine g_iload_n 0 (dk D_X8_stolen 8 rfl) rfl rfl ?_
  refine g_iconst (dk D_X8_stolen 9 rfl) ki_m1 ?_
  refine g_icmp_ne (dk D_X8_stolen 10 rfl) rfl (wif_m hw (fun hw => ?_) (fun hw => ?_))
  · refine g_aload_n 1 (dk D_X8_stolen 13 rfl) rfl rfl ?_
    refine g_getR 11 (t := 62) (dk D_X8_stolen 14 rfl) kd_0 rfl rfl (by decide) w_445 rfl rfl rfl ?_
    refine g_iload_n 2 (dk D_X8_stolen 15 rfl) rfl rfl ?_
    refine g_callV (As := [.int (p1)]) (kc := 0) (fr := 1) (lo := 29) (mc := 0) (My := M_X3_sum) (dk D_X8_stolen 16 rfl) recP_62.1 rfl rfl w_1218 w_1219 w_1220 w_109 w_1221 okD_X3_sum (by decide) (Nat.le_of_ble_eq_true rfl) rfl (c_X3_sum 62 (p1) (recP_62) (h) _ hw) kxN (kIp (fun z2 hw => ?_))
    refine g_iload_n 0 (dk D_X8_stolen 17 rfl) rfl rfl ?_
    refine g_isub (dk D_X8_stolen 18 rfl) ?_
    exact g_iret (dk D_X8_stolen 19 rfl) rfl ⟨_, rfl, rfl, hw⟩
  · refine g_iconst (dk D_X8_stolen 11 rfl) ki_0 ?_
    refine g_goto (dk D_X8_stolen 12 rfl) rfl ?_
    exact g_iret (dk D_X8_stolen 19 rfl) rfl ⟨_, rfl, rfl, hw⟩
theorem c_X8_stolen {X : Cx} (p1 : Int32) (h : Hp) (Q : Int32 → Prop) (Qx : String → Hp → Prop) (hw : w_X8_stolen p1 h Q Qx) : Con X yX8_stolen M_X8_stolen 7 110 1 [.ref (0), .int (p1)] h (QIp h Q) Qx :=
  con_of (by decide +kernel) rfl (Nat.le_of_ble_eq_true rfl) (t_X8_stolen p1 h Q Qx hw)
/-! ShadowTolls.much()I -/
abbrev M_X8_much : Mi := (RX8, cX8_much, 3, (some .int))
abbrev E_X8_much : Rm := (7, 218, 0, 0)
def rows_X8_much : List (Nat × Instr × Nat) := [(0, .iconst 0, 1), (1, .istore_n 1, 1), (2, .iload_n 1, 1), (3, .bipush 30, 2), (5, .if_icmp .ge 37, 3), (8, .aload_n 0, 1), (9, .getfield 82, 3), (12, .getfield 283, 3), (15, .iload_n 1, 1), (16, .invokestatic 189, 3), (19, .istore_n 2, 1), (20, .iload_n 2, 1), (21, .iconst (-1), 1), (22, .if_icmp .eq 14, 3), (25, .iload_n 2, 1), (26, .aload_n 0, 1), (27, .iload_n 1, 1), (28, .invokevirtual 259, 3), (31, .if_icmp .le 5, 3), (34, .iload_n 1, 1), (35, .ireturn, 1), (36, .iinc 1 1, 3), (39, .goto (-37), 3), (42, .iconst (-1), 1), (43, .ireturn, 1)]
theorem D_X8_much : dkA cX8_much rows_X8_much := by
  unfold dkA
  decide +kernel
theorem okD_X8_much : okD yX8_much 0 := by
  unfold okD
  decide +kernel
def w_X8_much_b36 (v1 : Int32) (K2 : Int32 × Hp → Prop) (h : Hp) (Q : Int32 → Hp → Prop) : Prop :=
  K2 ((v1 + (1 : Int32)), h)
def w_X8_much_l2 (Q : Int32 → Hp → Prop) (K2 : Int32 × Hp → Prop) (v1 : Int32) (h : Hp) : Prop :=
  wif ((30 : Int32) ≤ v1) (Q (-1 : Int32) h) (w_X8_at 66 30 (v1) h (fun z1 => wif (z1 = (-1 : Int32)) (w_X8_much_b36 (v1) K2 (h) Q) (w_X8_mostOf (v1) h (fun z2 h3 => wif (z1 ≤ z2) (w_X8_much_b36 (v1) K2 (h3) Q) (Q v1 h3)))))
def w_X8_much_b2 (Q : Int32 → Hp → Prop) (s : Int32 × Hp) : Prop := wl (fun K s => w_X8_much_l2 Q K s.1 s.2) s
def w_X8_much (h : Hp) (Q : Int32 → Hp → Prop) : Prop :=
  w_X8_much_b2 Q ((0 : Int32), h)
theorem t_X8_much_b36 {X : Cx} (v1 : Int32) (K2 : Int32 × Hp → Prop) (h : Hp) (Q : Int32 → Hp → Prop) (hK2 : ∀ s : Int32 × Hp, K2 s → G X M_X8_much E_X8_much (QM X E_X8_much (QI Q) Qn) 0 2 [(0, .ref (0)), (1, .int (s.1))] [] (s.2)) (hw : w_X8_much_b36 v1 K2 h Q) : G X M_X8_much E_X8_much (QM X E_X8_much (QI Q) Qn) 0 36 [(0, .ref (0)), (1, .int (v1))] [] h := by
  unfold w_X8_much_b36 at hw
  refine g_iinc 1 (dk D_X8_much 21 rfl) rfl (congrArg (fun z => _ + z) ki_1) (by decide) rfl ?_
  refine g_goto (dk D_X8_much 22 rfl) rfl ?_
  refine g_sub [1, 0] rfl ?_
  exact hK2 ((v1 + (1 : Int32)), h) hw
theorem t_X8_much_l2 {X : Cx} (Q : Int32 → Hp → Prop) (K2 : Int32 × Hp → Prop) (v1 : Int32) (h : Hp) (hK2 : ∀ s : Int32 × Hp, K2 s → G X M_X8_much E_X8_much (QM X E_X8_much (QI Q) Qn) 0 2 [(0, .ref (0)), (1, .int (s.1))] [] (s.2)) (hw : w_X8_much_l2 Q K2 v1 h) : G X M_X8_much E_X8_much (QM X E_X8_much (QI Q) Qn) 0 2 [(0, .ref (0)), (1, .int (v1))] [] h := by
  unfold w_X8_much_l2 at hw
  refine g_iload_n 1 (dk D_X8_much 2 rfl) rfl rfl ?_
  refine g_bipush (dk D_X8_much 3 rfl) kb_30 ?_
  refine g_icmp_ge (dk D_X8_much 4 rfl) rfl (wif_m hw (fun hw => ?_) (fun hw => ?_))
  · refine g_iconst (dk D_X8_much 23 rfl) ki_m1 ?_
    exact g_iret (dk D_X8_much 24 rfl) rfl ⟨_, rfl, hw⟩
  · refine g_aload_n 0 (dk D_X8_much 5 rfl) rfl rfl ?_
    refine g_getR 11 (t := 62) (dk D_X8_much 6 rfl) kd_0 rfl rfl (by decide) w_445 rfl rfl rfl ?_
    refine g_getNR 3 (t := 66) (dk D_X8_much 7 rfl) recP_62.1 rfl rfl (by decide) w_407 rfl rfl rfl ?_
    refine g_iload_n 1 (dk D_X8_much 8 rfl) rfl rfl ?_
    refine g_callS (As := [.ref (66), .int (v1)]) (kc := 0) (fr := 0) (lo := 0) (mc := 0) (My := M_X8_at) (dk D_X8_much 9 rfl) w_517 w_518 w_101 w_519 okD_X8_at (by decide) (Nat.le_of_ble_eq_true rfl) rfl (c_X8_at 66 30 (v1) (kd_66) (h) _ hw) kxN (kIp (fun z1 hw => ?_))
    refine g_istore_n (dk D_X8_much 10 rfl) rfl (by decide) rfl ?_
    refine g_iload_n 0 (dk D_X8_much 11 rfl) rfl rfl ?_
    refine g_iconst (dk D_X8_much 12 rfl) ki_m1 ?_
    refine g_icmp_eq (dk D_X8_much 13 rfl) rfl (wif_m hw (fun hw => ?_) (fun hw => ?_))
    · refine g_sub [1, 2] rfl ?_
      exact t_X8_much_b36 (v1) K2 (h) Q hK2 hw
    · refine g_iload_n 0 (dk D_X8_much 14 rfl) rfl rfl ?_
      refine g_aload_n 1 (dk D_X8_much 15 rfl) rfl rfl ?_
      refine g_iload_n 2 (dk D_X8_much 16 rfl) rfl rfl ?_
      refine g_callV (As := [.int (v1)]) (kc := 0) (fr := 6) (lo := 189) (mc := 0) (My := M_X8_mostOf) (dk D_X8_much 17 rfl) kd_0 rfl rfl w_524 w_526 w_2 w_101 w_527 okD_X8_mostOf (by decide) (Nat.le_of_ble_eq_true rfl) rfl (c_X8_mostOf (v1) (h) _ hw) kxN (kI (fun z2 h3 hw => ?_))
      refine g_icmp_le (dk D_X8_much 18 rfl) rfl (wif_m hw (fun hw => ?_) (fun hw => ?_))
      · refine g_sub [1, 2] rfl ?_
        exact t_X8_much_b36 (v1) K2 (h3) Q hK2 hw
      · refine g_iload_n 2 (dk D_X8_much 19 rfl) rfl rfl ?_
        exact g_iret (dk D_X8_much 20 rfl) rfl ⟨_, rfl, hw⟩
theorem t_X8_much_b2 {X : Cx} (Q : Int32 → Hp → Prop) (s : Int32 × Hp) (hw : w_X8_much_b2 Q s) : G X M_X8_much E_X8_much (QM X E_X8_much (QI Q) Qn) 0 2 [(0, .ref (0)), (1, .int (s.1))] [] (s.2) :=
  wl_ind (B := fun K s => w_X8_much_l2 Q K (s.1) (s.2)) (P := fun s => G X M_X8_much E_X8_much (QM X E_X8_much (QI Q) Qn) 0 2 [(0, .ref (0)), (1, .int (s.1))] [] (s.2)) (fun K hK s hw => t_X8_much_l2 Q K (s.1) (s.2) hK hw) s hw
theorem t_X8_much {X : Cx} (h : Hp) (Q : Int32 → Hp → Prop) (hw : w_X8_much h Q) : G X M_X8_much E_X8_much (QM X E_X8_much (QI Q) Qn) 0 0 [(0, .ref (0))] [] h := by
  unfold w_X8_much at hw
  refine g_iconst (dk D_X8_much 0 rfl) ki_0 ?_
  refine g_istore_n (dk D_X8_much 1 rfl) rfl (by decide) rfl ?_
  refine g_sub [1, 0] rfl ?_
  exact t_X8_much_b2 Q ((0 : Int32), h) hw
theorem c_X8_much {X : Cx} (h : Hp) (Q : Int32 → Hp → Prop) (hw : w_X8_much h Q) : Con X yX8_much M_X8_much 7 218 0 [.ref (0)] h (QI Q) Qn :=
  con_of (by decide +kernel) rfl (Nat.le_of_ble_eq_true rfl) (t_X8_much h Q hw)
/-! ShadowTolls.lines(III)I -/
abbrev M_X8_lines : Mi := (RX8, cX8_lines, 9, (some .int))
abbrev E_X8_lines : Rm := (7, 219, 3, 18)
def rows_X8_lines : List (Nat × Instr × Nat) := [(0, .iload_n 1, 1), (1, .invokestatic 183, 3), (4, .iload_n 2, 1), (5, .iconst 0, 1), (6, .bipush 9, 2), (8, .invokestatic 106, 3), (11, .iload_n 3, 1), (12, .iconst 0, 1), (13, .iconst 2, 1), (14, .invokestatic 106, 3), (17, .iconst 0, 1), (18, .istore 4, 2), (20, .iconst 0, 1), (21, .istore 5, 2), (23, .iconst 0, 1), (24, .istore 6, 2), (26, .iload 6, 2), (28, .bipush 10, 2), (30, .if_icmp .ge 138, 3), (33, .iconst 0, 1), (34, .istore 7, 2), (36, .iload 7, 2), (38, .bipush 10, 2), (40, .if_icmp .ge 122, 3), (43, .aload_n 0, 1), (44, .getfield 40, 3), (47, .iload 6, 2), (49, .iload 7, 2), (51, .invokevirtual 286, 3), (54, .aload_n 0, 1), (55, .aload_n 0, 1), (56, .getfield 19, 3), (59, .invokevirtual 289, 3), (62, .iload_n 1, 1), (63, .iconst 0, 1), (64, .aload_n 0, 1), (65, .getfield 40, 3), (68, .aload_n 0, 1), (69, .getfield 37, 3), (72, .invokevirtual 235, 3), (75, .aload_n 0, 1), (76, .getfield 66, 3), (79, .iconst 0, 1), (80, .invokevirtual 245, 3), (83, .iload_n 2, 1), (84, .aload_n 0, 1), (85, .getfield 66, 3), (88, .getfield 249, 3), (91, .imul, 1), (92, .isub, 1), (93, .istore 8, 2), (95, .iload 6, 2), (97, .ifCond .ne 8, 3), (100, .iload 7, 2), (102, .ifCond .eq 10, 3), (105, .iload 8, 2), (107, .iload 5, 2), (109, .if_icmp .le 47, 3), (112, .iload 8, 2), (114, .istore 5, 2), (116, .iload_n 3, 1), (117, .ifCond .ne 14, 3), (120, .bipush 10, 2), (122, .iload 6, 2), (124, .imul, 1), (125, .iload 7, 2), (127, .iadd, 1), (128, .goto 26, 3), (131, .iload_n 3, 1), (132, .iconst 1, 1), (133, .if_icmp .ne 14, 3), (136, .aload_n 0, 1), (137, .getfield 66, 3), (140, .iconst 0, 1), (141, .invokevirtual 245, 3), (144, .goto 10, 3), (147, .aload_n 0, 1), (148, .getfield 66, 3), (151, .getfield 249, 3), (154, .istore 4, 2), (156, .iinc 7 1, 3), (159, .goto (-123), 3), (162, .iinc 6 1, 3), (165, .goto (-139), 3), (168, .iload 4, 2), (170, .ireturn, 1)]
theorem D_X8_lines : dkA cX8_lines rows_X8_lines := by
  unfold dkA
  decide +kernel
theorem okD_X8_lines : okD yX8_lines 3 := by
  unfold okD
  decide +kernel
def w_X8_lines_b156 (p1 : Int32) (p2 : Int32) (p3 : Int32) (v4 : Int32) (v5 : Int32) (v6 : Int32) (v7 : Int32) (K26 : Int32 × Int32 × Int32 × Hp → Prop) (K36 : Int32 × Int32 × Int32 × Hp → Prop) (h : Hp) (Q : Int32 → Hp → Prop) (Qx : String → Hp → Prop) : Prop :=
  K36 (v4, v5, (v7 + (1 : Int32)), h)
def w_X8_lines_b154 (p1 : Int32) (p2 : Int32) (p3 : Int32) (v5 : Int32) (v6 : Int32) (v7 : Int32) (s0 : Int32) (K26 : Int32 × Int32 × Int32 × Hp → Prop) (K36 : Int32 × Int32 × Int32 × Hp → Prop) (h : Hp) (Q : Int32 → Hp → Prop) (Qx : String → Hp → Prop) : Prop :=
  w_X8_lines_b156 p1 p2 p3 (s0) (v5) (v6) (v7) K26 K36 (h) Q Qx
def w_X8_lines_b112 (p1 : Int32) (p2 : Int32) (p3 : Int32) (v6 : Int32) (v7 : Int32) (v8 : Int32) (K26 : Int32 × Int32 × Int32 × Hp → Prop) (K36 : Int32 × Int32 × Int32 × Hp → Prop) (h : Hp) (Q : Int32 → Hp → Prop) (Qx : String → Hp → Prop) : Prop :=
  wif (¬ p3 = 0) (wif (¬ p3 = (1 : Int32)) (w_X8_lines_b154 p1 p2 p3 (v8) (v6) (v7) ((h 44 19)) K26 K36 (h) Q Qx) (w_X2_earnedAt ((0 : Int32)) h (fun z1 => w_X8_lines_b154 p1 p2 p3 (v8) (v6) (v7) (z1) K26 K36 (h) Q Qx))) (w_X8_lines_b154 p1 p2 p3 (v8) (v6) (v7) ((((10 : Int32) * v6) + v7)) K26 K36 (h) Q Qx)
def w_X8_lines_b105 (p1 : Int32) (p2 : Int32) (p3 : Int32) (v4 : Int32) (v5 : Int32) (v6 : Int32) (v7 : Int32) (v8 : Int32) (K26 : Int32 × Int32 × Int32 × Hp → Prop) (K36 : Int32 × Int32 × Int32 × Hp → Prop) (h : Hp) (Q : Int32 → Hp → Prop) (Qx : String → Hp → Prop) : Prop :=
  wif (v8 ≤ v5) (w_X8_lines_b156 p1 p2 p3 (v4) (v5) (v6) (v7) K26 K36 (h) Q Qx) (w_X8_lines_b112 p1 p2 p3 (v6) (v7) (v8) K26 K36 (h) Q Qx)
def w_X8_lines_l36 (p1 : Int32) (p2 : Int32) (p3 : Int32) (v6 : Int32) (K26 : Int32 × Int32 × Int32 × Hp → Prop) (Q : Int32 → Hp → Prop) (Qx : String → Hp → Prop) (K36 : Int32 × Int32 × Int32 × Hp → Prop) (v4 : Int32) (v5 : Int32) (v7 : Int32) (h : Hp) : Prop :=
  wif ((10 : Int32) ≤ v7) (K26 (v4, v5, (v6 + (1 : Int32)), h)) (w_X0_beTwoLines 38 (v6) (v7) h (fun h1 => w_X4_everybody 3 h1 (fun z2 => w_X8_planFor (z2) (p1) ((0 : Int32)) 38 34 h1 (fun h3 => w_X2_earnedAt ((0 : Int32)) h3 (fun z4 => wlet ((z4 - (p2 * (h3 44 19)))) (fun v8_5 => wif (¬ v6 = 0) (w_X8_lines_b105 p1 p2 p3 (v4) (v5) (v6) (v7) (v8_5) K26 K36 (h3) Q Qx) (wif (v7 = 0) (w_X8_lines_b112 p1 p2 p3 (v6) (v7) (v8_5) K26 K36 (h3) Q Qx) (w_X8_lines_b105 p1 p2 p3 (v4) (v5) (v6) (v7) (v8_5) K26 K36 (h3) Q Qx))))))))
def w_X8_lines_b36 (p1 : Int32) (p2 : Int32) (p3 : Int32) (v6 : Int32) (K26 : Int32 × Int32 × Int32 × Hp → Prop) (Q : Int32 → Hp → Prop) (Qx : String → Hp → Prop) (s : Int32 × Int32 × Int32 × Hp) : Prop := wl (fun K s => w_X8_lines_l36 p1 p2 p3 v6 K26 Q Qx K s.1 s.2.1 s.2.2.1 s.2.2.2) s
def w_X8_lines_l26 (p1 : Int32) (p2 : Int32) (p3 : Int32) (Q : Int32 → Hp → Prop) (Qx : String → Hp → Prop) (K26 : Int32 × Int32 × Int32 × Hp → Prop) (v4 : Int32) (v5 : Int32) (v6 : Int32) (h : Hp) : Prop :=
  wif ((10 : Int32) ≤ v6) (Q v4 h) (w_X8_lines_b36 p1 p2 p3 (v6) K26 Q Qx (v4, v5, (0 : Int32), h))
def w_X8_lines_b26 (p1 : Int32) (p2 : Int32) (p3 : Int32) (Q : Int32 → Hp → Prop) (Qx : String → Hp → Prop) (s : Int32 × Int32 × Int32 × Hp) : Prop := wl (fun K s => w_X8_lines_l26 p1 p2 p3 Q Qx K s.1 s.2.1 s.2.2.1 s.2.2.2) s
def w_X8_lines (p1 : Int32) (p2 : Int32) (p3 : Int32) (h : Hp) (Q : Int32 → Hp → Prop) (Qx : String → Hp → Prop) : Prop :=
  w_X8_needDay (p1) h (w_X8_needBetween (p2) ((0 : Int32)) ((9 : Int32)) h (w_X8_needBetween (p3) ((0 : Int32)) ((2 : Int32)) h (w_X8_lines_b26 p1 p2 p3 Q Qx ((0 : Int32), (0 : Int32), (0 : Int32), h)) Qx) Qx) Qx
theorem t_X8_lines_b156 {X : Cx} (p1 : Int32) (p2 : Int32) (p3 : Int32) (v4 : Int32) (v5 : Int32) (v6 : Int32) (v7 : Int32) (K26 : Int32 × Int32 × Int32 × Hp → Prop) (K36 : Int32 × Int32 × Int32 × Hp → Prop) (h : Hp) (Q : Int32 → Hp → Prop) (Qx : String → Hp → Prop) (hK26 : ∀ s : Int32 × Int32 × Int32 × Hp, K26 s → G X M_X8_lines E_X8_lines (QM X E_X8_lines (QI Q) Qx) 0 26 [(0, .ref (0)), (1, .int (p1)), (2, .int (p2)), (3, .int (p3)), (4, .int (s.1)), (5, .int (s.2.1)), (6, .int (s.2.2.1))] [] (s.2.2.2)) (hK36 : ∀ s : Int32 × Int32 × Int32 × Hp, K36 s → G X M_X8_lines E_X8_lines (QM X E_X8_lines (QI Q) Qx) 0 36 [(0, .ref (0)), (1, .int (p1)), (2, .int (p2)), (3, .int (p3)), (4, .int (s.1)), (5, .int (s.2.1)), (6, .int (v6)), (7, .int (s.2.2.1))] [] (s.2.2.2)) (hw : w_X8_lines_b156 p1 p2 p3 v4 v5 v6 v7 K26 K36 h Q Qx) : G X M_X8_lines E_X8_lines (QM X E_X8_lines (QI Q) Qx) 0 156 [(0, .ref (0)), (1, .int (p1)), (2, .int (p2)), (3, .int (p3)), (4, .int (v4)), (5, .int (v5)), (6, .int (v6)), (7, .int (v7))] [] h := by
  unfold w_X8_lines_b156 at hw
  refine g_iinc 7 (dk D_X8_lines 80 rfl) rfl (congrArg (fun z => _ + z) ki_1) (by decide) rfl ?_
  refine g_goto (dk D_X8_lines 81 rfl) rfl ?_
  refine g_sub [1, 2, 3, 4, 5, 6, 7, 0] rfl ?_
  exact hK36 (v4, v5, (v7 + (1 : Int32)), h) hw
theorem t_X8_lines_b154 {X : Cx} (p1 : Int32) (p2 : Int32) (p3 : Int32) (v5 : Int32) (v6 : Int32) (v7 : Int32) (s0 : Int32) (K26 : Int32 × Int32 × Int32 × Hp → Prop) (K36 : Int32 × Int32 × Int32 × Hp → Prop) (h : Hp) (Q : Int32 → Hp → Prop) (Qx : String → Hp → Prop) (hK26 : ∀ s : Int32 × Int32 × Int32 × Hp, K26 s → G X M_X8_lines E_X8_lines (QM X E_X8_lines (QI Q) Qx) 0 26 [(0, .ref (0)), (1, .int (p1)), (2, .int (p2)), (3, .int (p3)), (4, .int (s.1)), (5, .int (s.2.1)), (6, .int (s.2.2.1))] [] (s.2.2.2)) (hK36 : ∀ s : Int32 × Int32 × Int32 × Hp, K36 s → G X M_X8_lines E_X8_lines (QM X E_X8_lines (QI Q) Qx) 0 36 [(0, .ref (0)), (1, .int (p1)), (2, .int (p2)), (3, .int (p3)), (4, .int (s.1)), (5, .int (s.2.1)), (6, .int (v6)), (7, .int (s.2.2.1))] [] (s.2.2.2)) (hw : w_X8_lines_b154 p1 p2 p3 v5 v6 v7 s0 K26 K36 h Q Qx) : G X M_X8_lines E_X8_lines (QM X E_X8_lines (QI Q) Qx) 0 154 [(0, .ref (0)), (1, .int (p1)), (2, .int (p2)), (3, .int (p3)), (5, .int (v5)), (6, .int (v6)), (7, .int (v7))] [.int (s0)] h := by
  unfold w_X8_lines_b154 at hw
  refine g_istore (dk D_X8_lines 79 rfl) (by decide) rfl ?_
  refine g_sub [1, 2, 3, 4, 0, 5, 6, 7] rfl ?_
  exact t_X8_lines_b156 p1 p2 p3 (s0) (v5) (v6) (v7) K26 K36 (h) Q Qx hK26 hK36 hw
theorem t_X8_lines_b112 {X : Cx} (p1 : Int32) (p2 : Int32) (p3 : Int32) (v6 : Int32) (v7 : Int32) (v8 : Int32) (K26 : Int32 × Int32 × Int32 × Hp → Prop) (K36 : Int32 × Int32 × Int32 × Hp → Prop) (h : Hp) (Q : Int32 → Hp → Prop) (Qx : String → Hp → Prop) (hK26 : ∀ s : Int32 × Int32 × Int32 × Hp, K26 s → G X M_X8_lines E_X8_lines (QM X E_X8_lines (QI Q) Qx) 0 26 [(0, .ref (0)), (1, .int (p1)), (2, .int (p2)), (3, .int (p3)), (4, .int (s.1)), (5, .int (s.2.1)), (6, .int (s.2.2.1))] [] (s.2.2.2)) (hK36 : ∀ s : Int32 × Int32 × Int32 × Hp, K36 s → G X M_X8_lines E_X8_lines (QM X E_X8_lines (QI Q) Qx) 0 36 [(0, .ref (0)), (1, .int (p1)), (2, .int (p2)), (3, .int (p3)), (4, .int (s.1)), (5, .int (s.2.1)), (6, .int (v6)), (7, .int (s.2.2.1))] [] (s.2.2.2)) (hw : w_X8_lines_b112 p1 p2 p3 v6 v7 v8 K26 K36 h Q Qx) : G X M_X8_lines E_X8_lines (QM X E_X8_lines (QI Q) Qx) 0 112 [(0, .ref (0)), (1, .int (p1)), (2, .int (p2)), (3, .int (p3)), (6, .int (v6)), (7, .int (v7)), (8, .int (v8))] [] h := by
  unfold w_X8_lines_b112 at hw
  refine g_iload 6 (dk D_X8_lines 58 rfl) rfl ?_
  refine g_istore (dk D_X8_lines 59 rfl) (by decide) rfl ?_
  refine g_iload_n 4 (dk D_X8_lines 60 rfl) rfl rfl ?_
  refine g_if_ne (dk D_X8_lines 61 rfl) rfl (wif_m hw (fun hw => ?_) (fun hw => ?_))
  · refine g_iload_n 4 (dk D_X8_lines 68 rfl) rfl rfl ?_
    refine g_iconst (dk D_X8_lines 69 rfl) ki_1 ?_
    refine g_icmp_ne (dk D_X8_lines 70 rfl) rfl (wif_m hw (fun hw => ?_) (fun hw => ?_))
    · refine g_aload_n 1 (dk D_X8_lines 76 rfl) rfl rfl ?_
      refine g_getR 9 (t := 44) (dk D_X8_lines 77 rfl) kd_0 rfl rfl (by decide) w_443 rfl rfl rfl ?_
      refine g_getNI 19 (dk D_X8_lines 78 rfl) kd_44 rfl rfl (by decide) w_323 rfl rfl ?_
      refine g_sub [1, 2, 3, 4, 0, 5, 6] rfl ?_
      exact t_X8_lines_b154 p1 p2 p3 (v8) (v6) (v7) ((h 44 19)) K26 K36 (h) Q Qx hK26 hK36 hw
    · refine g_aload_n 1 (dk D_X8_lines 71 rfl) rfl rfl ?_
      refine g_getR 9 (t := 44) (dk D_X8_lines 72 rfl) kd_0 rfl rfl (by decide) w_443 rfl rfl rfl ?_
      refine g_iconst (dk D_X8_lines 73 rfl) ki_0 ?_
      refine g_callV (As := [.int ((0 : Int32))]) (kc := 0) (fr := 1) (lo := 29) (mc := 0) (My := M_X2_earnedAt) (dk D_X8_lines 74 rfl) kd_44 rfl rfl w_1172 w_1173 w_1174 w_107 w_1175 okD_X2_earnedAt (by decide) (Nat.le_of_ble_eq_true rfl) rfl (c_X2_earnedAt ((0 : Int32)) (h) _ hw) kxN (kIp (fun z1 hw => ?_))
      refine g_goto (dk D_X8_lines 75 rfl) rfl ?_
      refine g_sub [1, 2, 3, 4, 0, 5, 6] rfl ?_
      exact t_X8_lines_b154 p1 p2 p3 (v8) (v6) (v7) (z1) K26 K36 (h) Q Qx hK26 hK36 hw
  · refine g_bipush (dk D_X8_lines 62 rfl) kb_10 ?_
    refine g_iload 5 (dk D_X8_lines 63 rfl) rfl ?_
    refine g_imul (dk D_X8_lines 64 rfl) ?_
    refine g_iload 6 (dk D_X8_lines 65 rfl) rfl ?_
    refine g_iadd (dk D_X8_lines 66 rfl) ?_
    refine g_goto (dk D_X8_lines 67 rfl) rfl ?_
    refine g_sub [1, 2, 3, 4, 0, 5, 6] rfl ?_
    exact t_X8_lines_b154 p1 p2 p3 (v8) (v6) (v7) ((((10 : Int32) * v6) + v7)) K26 K36 (h) Q Qx hK26 hK36 hw
theorem t_X8_lines_b105 {X : Cx} (p1 : Int32) (p2 : Int32) (p3 : Int32) (v4 : Int32) (v5 : Int32) (v6 : Int32) (v7 : Int32) (v8 : Int32) (K26 : Int32 × Int32 × Int32 × Hp → Prop) (K36 : Int32 × Int32 × Int32 × Hp → Prop) (h : Hp) (Q : Int32 → Hp → Prop) (Qx : String → Hp → Prop) (hK26 : ∀ s : Int32 × Int32 × Int32 × Hp, K26 s → G X M_X8_lines E_X8_lines (QM X E_X8_lines (QI Q) Qx) 0 26 [(0, .ref (0)), (1, .int (p1)), (2, .int (p2)), (3, .int (p3)), (4, .int (s.1)), (5, .int (s.2.1)), (6, .int (s.2.2.1))] [] (s.2.2.2)) (hK36 : ∀ s : Int32 × Int32 × Int32 × Hp, K36 s → G X M_X8_lines E_X8_lines (QM X E_X8_lines (QI Q) Qx) 0 36 [(0, .ref (0)), (1, .int (p1)), (2, .int (p2)), (3, .int (p3)), (4, .int (s.1)), (5, .int (s.2.1)), (6, .int (v6)), (7, .int (s.2.2.1))] [] (s.2.2.2)) (hw : w_X8_lines_b105 p1 p2 p3 v4 v5 v6 v7 v8 K26 K36 h Q Qx) : G X M_X8_lines E_X8_lines (QM X E_X8_lines (QI Q) Qx) 0 105 [(0, .ref (0)), (1, .int (p1)), (2, .int (p2)), (3, .int (p3)), (4, .int (v4)), (5, .int (v5)), (6, .int (v6)), (7, .int (v7)), (8, .int (v8))] [] h := by
  unfold w_X8_lines_b105 at hw
  refine g_iload 8 (dk D_X8_lines 55 rfl) rfl ?_
  refine g_iload 5 (dk D_X8_lines 56 rfl) rfl ?_
  refine g_icmp_le (dk D_X8_lines 57 rfl) rfl (wif_m hw (fun hw => ?_) (fun hw => ?_))
  · refine g_sub [0, 1, 2, 3, 4, 5, 6, 7] rfl ?_
    exact t_X8_lines_b156 p1 p2 p3 (v4) (v5) (v6) (v7) K26 K36 (h) Q Qx hK26 hK36 hw
  · refine g_sub [0, 1, 2, 3, 6, 7, 8] rfl ?_
    exact t_X8_lines_b112 p1 p2 p3 (v6) (v7) (v8) K26 K36 (h) Q Qx hK26 hK36 hw
theorem t_X8_lines_l36 {X : Cx} (p1 : Int32) (p2 : Int32) (p3 : Int32) (v6 : Int32) (K26 : Int32 × Int32 × Int32 × Hp → Prop) (Q : Int32 → Hp → Prop) (Qx : String → Hp → Prop) (K36 : Int32 × Int32 × Int32 × Hp → Prop) (v4 : Int32) (v5 : Int32) (v7 : Int32) (h : Hp) (hK26 : ∀ s : Int32 × Int32 × Int32 × Hp, K26 s → G X M_X8_lines E_X8_lines (QM X E_X8_lines (QI Q) Qx) 0 26 [(0, .ref (0)), (1, .int (p1)), (2, .int (p2)), (3, .int (p3)), (4, .int (s.1)), (5, .int (s.2.1)), (6, .int (s.2.2.1))] [] (s.2.2.2)) (hK36 : ∀ s : Int32 × Int32 × Int32 × Hp, K36 s → G X M_X8_lines E_X8_lines (QM X E_X8_lines (QI Q) Qx) 0 36 [(0, .ref (0)), (1, .int (p1)), (2, .int (p2)), (3, .int (p3)), (4, .int (s.1)), (5, .int (s.2.1)), (6, .int (v6)), (7, .int (s.2.2.1))] [] (s.2.2.2)) (hw : w_X8_lines_l36 p1 p2 p3 v6 K26 Q Qx K36 v4 v5 v7 h) : G X M_X8_lines E_X8_lines (QM X E_X8_lines (QI Q) Qx) 0 36 [(0, .ref (0)), (1, .int (p1)), (2, .int (p2)), (3, .int (p3)), (4, .int (v4)), (5, .int (v5)), (6, .int (v6)), (7, .int (v7))] [] h := by
  unfold w_X8_lines_l36 at hw
  refine g_iload 7 (dk D_X8_lines 21 rfl) rfl ?_
  refine g_bipush (dk D_X8_lines 22 rfl) kb_10 ?_
  refine g_icmp_ge (dk D_X8_lines 23 rfl) rfl (wif_m hw (fun hw => ?_) (fun hw => ?_))
  · refine g_iinc 6 (dk D_X8_lines 82 rfl) rfl (congrArg (fun z => _ + z) ki_1) (by decide) rfl ?_
    refine g_goto (dk D_X8_lines 83 rfl) rfl ?_
    refine g_sub [1, 2, 3, 4, 5, 6, 0] rfl ?_
    exact hK26 (v4, v5, (v6 + (1 : Int32)), h) hw
  · refine g_aload_n 0 (dk D_X8_lines 24 rfl) rfl rfl ?_
    refine g_getR 6 (t := 38) (dk D_X8_lines 25 rfl) kd_0 rfl rfl (by decide) w_440 rfl rfl rfl ?_
    refine g_iload 6 (dk D_X8_lines 26 rfl) rfl ?_
    refine g_iload 7 (dk D_X8_lines 27 rfl) rfl ?_
    refine g_callV (As := [.int (v6), .int (v7)]) (kc := 0) (fr := 3) (lo := 90) (mc := 0) (My := M_X0_beTwoLines) (dk D_X8_lines 28 rfl) lawP_38.1 rfl rfl w_1244 w_1245 w_1246 w_104 w_1247 okD_X0_beTwoLines (by decide) (Nat.le_of_ble_eq_true rfl) rfl (c_X0_beTwoLines 38 (v6) (v7) (lawP_38) (h) _ hw) kxN (kV (fun h1 hw => ?_))
    refine g_aload_n 0 (dk D_X8_lines 29 rfl) rfl rfl ?_
    refine g_aload_n 0 (dk D_X8_lines 30 rfl) rfl rfl ?_
    refine g_getR 1 (t := 3) (dk D_X8_lines 31 rfl) kd_0 rfl rfl (by decide) w_435 rfl rfl rfl ?_
    refine g_callV (As := []) (kc := 0) (fr := 0) (lo := 0) (mc := 0) (My := M_X4_everybody) (dk D_X8_lines 32 rfl) roadP_3.1 rfl rfl w_528 w_529 w_530 w_103 w_531 okD_X4_everybody (by decide) (Nat.le_of_ble_eq_true rfl) rfl (c_X4_everybody 3 (roadP_3) (h1) _ hw) kxN (kIp (fun z2 hw => ?_))
    refine g_iload_n 1 (dk D_X8_lines 33 rfl) rfl rfl ?_
    refine g_iconst (dk D_X8_lines 34 rfl) ki_0 ?_
    refine g_aload_n 0 (dk D_X8_lines 35 rfl) rfl rfl ?_
    refine g_getR 6 (t := 38) (dk D_X8_lines 36 rfl) kd_0 rfl rfl (by decide) w_440 rfl rfl rfl ?_
    refine g_aload_n 0 (dk D_X8_lines 37 rfl) rfl rfl ?_
    refine g_getR 5 (t := 34) (dk D_X8_lines 38 rfl) kd_0 rfl rfl (by decide) w_439 rfl rfl rfl ?_
    refine g_callV (As := [.int (z2), .int (p1), .int ((0 : Int32)), .ref (38), .ref (34)]) (kc := 0) (fr := 6) (lo := 186) (mc := 0) (My := M_X8_planFor) (dk D_X8_lines 39 rfl) kd_0 rfl rfl w_1139 w_1141 w_31 w_101 w_1142 okD_X8_planFor (by decide) (Nat.le_of_ble_eq_true rfl) rfl (c_X8_planFor (z2) (p1) ((0 : Int32)) 38 34 (lawP_38) (lawP_34) (h1) _ hw) kxN (kV (fun h3 hw => ?_))
    refine g_aload_n 0 (dk D_X8_lines 40 rfl) rfl rfl ?_
    refine g_getR 9 (t := 44) (dk D_X8_lines 41 rfl) kd_0 rfl rfl (by decide) w_443 rfl rfl rfl ?_
    refine g_iconst (dk D_X8_lines 42 rfl) ki_0 ?_
    refine g_callV (As := [.int ((0 : Int32))]) (kc := 0) (fr := 1) (lo := 29) (mc := 0) (My := M_X2_earnedAt) (dk D_X8_lines 43 rfl) kd_44 rfl rfl w_1172 w_1173 w_1174 w_107 w_1175 okD_X2_earnedAt (by decide) (Nat.le_of_ble_eq_true rfl) rfl (c_X2_earnedAt ((0 : Int32)) (h3) _ hw) kxN (kIp (fun z4 hw => ?_))
    refine g_iload_n 2 (dk D_X8_lines 44 rfl) rfl rfl ?_
    refine g_aload_n 0 (dk D_X8_lines 45 rfl) rfl rfl ?_
    refine g_getR 9 (t := 44) (dk D_X8_lines 46 rfl) kd_0 rfl rfl (by decide) w_443 rfl rfl rfl ?_
    refine g_getNI 19 (dk D_X8_lines 47 rfl) kd_44 rfl rfl (by decide) w_323 rfl rfl ?_
    refine g_imul (dk D_X8_lines 48 rfl) ?_
    refine g_isub (dk D_X8_lines 49 rfl) ?_
    refine g_topi (fun v8_5 ev8_5 => ?_)
    replace hw := hw _ ev8_5
    refine g_istore (dk D_X8_lines 50 rfl) (by decide) rfl ?_
    refine g_iload 7 (dk D_X8_lines 51 rfl) rfl ?_
    refine g_if_ne (dk D_X8_lines 52 rfl) rfl (wif_m hw (fun hw => ?_) (fun hw => ?_))
    · refine g_sub [1, 2, 3, 4, 5, 6, 7, 8, 0] rfl ?_
      exact t_X8_lines_b105 p1 p2 p3 (v4) (v5) (v6) (v7) (v8_5) K26 K36 (h3) Q Qx hK26 hK36 hw
    · refine g_iload 8 (dk D_X8_lines 53 rfl) rfl ?_
      refine g_if_eq (dk D_X8_lines 54 rfl) rfl (wif_m hw (fun hw => ?_) (fun hw => ?_))
      · refine g_sub [1, 2, 3, 4, 7, 8, 0] rfl ?_
        exact t_X8_lines_b112 p1 p2 p3 (v6) (v7) (v8_5) K26 K36 (h3) Q Qx hK26 hK36 hw
      · refine g_sub [1, 2, 3, 4, 5, 6, 7, 8, 0] rfl ?_
        exact t_X8_lines_b105 p1 p2 p3 (v4) (v5) (v6) (v7) (v8_5) K26 K36 (h3) Q Qx hK26 hK36 hw
theorem t_X8_lines_b36 {X : Cx} (p1 : Int32) (p2 : Int32) (p3 : Int32) (v6 : Int32) (K26 : Int32 × Int32 × Int32 × Hp → Prop) (Q : Int32 → Hp → Prop) (Qx : String → Hp → Prop) (s : Int32 × Int32 × Int32 × Hp) (hK26 : ∀ s : Int32 × Int32 × Int32 × Hp, K26 s → G X M_X8_lines E_X8_lines (QM X E_X8_lines (QI Q) Qx) 0 26 [(0, .ref (0)), (1, .int (p1)), (2, .int (p2)), (3, .int (p3)), (4, .int (s.1)), (5, .int (s.2.1)), (6, .int (s.2.2.1))] [] (s.2.2.2)) (hw : w_X8_lines_b36 p1 p2 p3 v6 K26 Q Qx s) : G X M_X8_lines E_X8_lines (QM X E_X8_lines (QI Q) Qx) 0 36 [(0, .ref (0)), (1, .int (p1)), (2, .int (p2)), (3, .int (p3)), (4, .int (s.1)), (5, .int (s.2.1)), (6, .int (v6)), (7, .int (s.2.2.1))] [] (s.2.2.2) :=
  wl_ind (B := fun K s => w_X8_lines_l36 p1 p2 p3 v6 K26 Q Qx K (s.1) (s.2.1) (s.2.2.1) (s.2.2.2)) (P := fun s => G X M_X8_lines E_X8_lines (QM X E_X8_lines (QI Q) Qx) 0 36 [(0, .ref (0)), (1, .int (p1)), (2, .int (p2)), (3, .int (p3)), (4, .int (s.1)), (5, .int (s.2.1)), (6, .int (v6)), (7, .int (s.2.2.1))] [] (s.2.2.2)) (fun K hK s hw => t_X8_lines_l36 p1 p2 p3 v6 K26 Q Qx K (s.1) (s.2.1) (s.2.2.1) (s.2.2.2) hK26 hK hw) s hw
theorem t_X8_lines_l26 {X : Cx} (p1 : Int32) (p2 : Int32) (p3 : Int32) (Q : Int32 → Hp → Prop) (Qx : String → Hp → Prop) (K26 : Int32 × Int32 × Int32 × Hp → Prop) (v4 : Int32) (v5 : Int32) (v6 : Int32) (h : Hp) (hK26 : ∀ s : Int32 × Int32 × Int32 × Hp, K26 s → G X M_X8_lines E_X8_lines (QM X E_X8_lines (QI Q) Qx) 0 26 [(0, .ref (0)), (1, .int (p1)), (2, .int (p2)), (3, .int (p3)), (4, .int (s.1)), (5, .int (s.2.1)), (6, .int (s.2.2.1))] [] (s.2.2.2)) (hw : w_X8_lines_l26 p1 p2 p3 Q Qx K26 v4 v5 v6 h) : G X M_X8_lines E_X8_lines (QM X E_X8_lines (QI Q) Qx) 0 26 [(0, .ref (0)), (1, .int (p1)), (2, .int (p2)), (3, .int (p3)), (4, .int (v4)), (5, .int (v5)), (6, .int (v6))] [] h := by
  unfold w_X8_lines_l26 at hw
  refine g_iload 6 (dk D_X8_lines 16 rfl) rfl ?_
  refine g_bipush (dk D_X8_lines 17 rfl) kb_10 ?_
  refine g_icmp_ge (dk D_X8_lines 18 rfl) rfl (wif_m hw (fun hw => ?_) (fun hw => ?_))
  · refine g_iload 4 (dk D_X8_lines 84 rfl) rfl ?_
    exact g_iret (dk D_X8_lines 85 rfl) rfl ⟨_, rfl, hw⟩
  · refine g_iconst (dk D_X8_lines 19 rfl) ki_0 ?_
    refine g_istore (dk D_X8_lines 20 rfl) (by decide) rfl ?_
    refine g_sub [1, 2, 3, 4, 5, 6, 7, 0] rfl ?_
    exact t_X8_lines_b36 p1 p2 p3 (v6) K26 Q Qx (v4, v5, (0 : Int32), h) hK26 hw
theorem t_X8_lines_b26 {X : Cx} (p1 : Int32) (p2 : Int32) (p3 : Int32) (Q : Int32 → Hp → Prop) (Qx : String → Hp → Prop) (s : Int32 × Int32 × Int32 × Hp) (hw : w_X8_lines_b26 p1 p2 p3 Q Qx s) : G X M_X8_lines E_X8_lines (QM X E_X8_lines (QI Q) Qx) 0 26 [(0, .ref (0)), (1, .int (p1)), (2, .int (p2)), (3, .int (p3)), (4, .int (s.1)), (5, .int (s.2.1)), (6, .int (s.2.2.1))] [] (s.2.2.2) :=
  wl_ind (B := fun K s => w_X8_lines_l26 p1 p2 p3 Q Qx K (s.1) (s.2.1) (s.2.2.1) (s.2.2.2)) (P := fun s => G X M_X8_lines E_X8_lines (QM X E_X8_lines (QI Q) Qx) 0 26 [(0, .ref (0)), (1, .int (p1)), (2, .int (p2)), (3, .int (p3)), (4, .int (s.1)), (5, .int (s.2.1)), (6, .int (s.2.2.1))] [] (s.2.2.2)) (fun K hK s hw => t_X8_lines_l26 p1 p2 p3 Q Qx K (s.1) (s.2.1) (s.2.2.1) (s.2.2.2) hK hw) s hw
theorem t_X8_lines {X : Cx} (p1 : Int32) (p2 : Int32) (p3 : Int32) (h : Hp) (Q : Int32 → Hp → Prop) (Qx : String → Hp → Prop) (hw : w_X8_lines p1 p2 p3 h Q Qx) : G X M_X8_lines E_X8_lines (QM X E_X8_lines (QI Q) Qx) 3 0 [(0, .ref (0)), (1, .int (p1)), (2, .int (p2)), (3, .int (p3))] [] h := by
  unfold w_X8_lines at hw
  refine g_iload_n 1 (dk D_X8_lines 0 rfl) rfl rfl ?_
  refine g_callS (As := [.int (p1)]) (kc := 2) (fr := 6) (lo := 82) (mc := 1) (My := M_X8_needDay) (dk D_X8_lines 1 rfl) w_1039 w_1040 w_101 w_1041 okD_X8_needDay (by decide) (Nat.le_of_ble_eq_true rfl) rfl (c_X8_needDay (p1) (h) _ _ hw) kxT (kVp (fun hw => ?_))
  refine g_iload_n 2 (dk D_X8_lines 2 rfl) rfl rfl ?_
  refine g_iconst (dk D_X8_lines 3 rfl) ki_0 ?_
  refine g_bipush (dk D_X8_lines 4 rfl) kb_9 ?_
  refine g_callS (As := [.int (p2), .int ((0 : Int32)), .int ((9 : Int32))]) (kc := 1) (fr := 6) (lo := 82) (mc := 1) (My := M_X8_needBetween) (dk D_X8_lines 5 rfl) w_703 w_704 w_101 w_705 okD_X8_needBetween (by decide) (Nat.le_of_ble_eq_true rfl) rfl (c_X8_needBetween (p2) ((0 : Int32)) ((9 : Int32)) (h) _ _ hw) kxT (kVp (fun hw => ?_))
  refine g_iload_n 3 (dk D_X8_lines 6 rfl) rfl rfl ?_
  refine g_iconst (dk D_X8_lines 7 rfl) ki_0 ?_
  refine g_iconst (dk D_X8_lines 8 rfl) ki_2 ?_
  refine g_callS (As := [.int (p3), .int ((0 : Int32)), .int ((2 : Int32))]) (kc := 0) (fr := 6) (lo := 82) (mc := 1) (My := M_X8_needBetween) (dk D_X8_lines 9 rfl) w_703 w_704 w_101 w_705 okD_X8_needBetween (by decide) (Nat.le_of_ble_eq_true rfl) rfl (c_X8_needBetween (p3) ((0 : Int32)) ((2 : Int32)) (h) _ _ hw) kxT (kVp (fun hw => ?_))
  refine g_iconst (dk D_X8_lines 10 rfl) ki_0 ?_
  refine g_istore (dk D_X8_lines 11 rfl) (by decide) rfl ?_
  refine g_iconst (dk D_X8_lines 12 rfl) ki_0 ?_
  refine g_istore (dk D_X8_lines 13 rfl) (by decide) rfl ?_
  refine g_iconst (dk D_X8_lines 14 rfl) ki_0 ?_
  refine g_istore (dk D_X8_lines 15 rfl) (by decide) rfl ?_
  refine g_sub [3, 4, 5, 6, 2, 1, 0] rfl ?_
  exact t_X8_lines_b26 p1 p2 p3 Q Qx ((0 : Int32), (0 : Int32), (0 : Int32), h) hw
theorem c_X8_lines {X : Cx} (p1 : Int32) (p2 : Int32) (p3 : Int32) (h : Hp) (Q : Int32 → Hp → Prop) (Qx : String → Hp → Prop) (hw : w_X8_lines p1 p2 p3 h Q Qx) : Con X yX8_lines M_X8_lines 7 219 3 [.ref (0), .int (p1), .int (p2), .int (p3)] h (QI Q) Qx :=
  con_of (by decide +kernel) rfl (Nat.le_of_ble_eq_true rfl) (t_X8_lines p1 p2 p3 h Q Qx hw)
/-! ShadowTolls.takingsIndex(III)I -/
abbrev M_X8_takingsIndex : Mi := (RX8, cX8_takingsIndex, 3, (some .int))
abbrev E_X8_takingsIndex : Rm := (0, 0, 0, 0)
def rows_X8_takingsIndex : List (Nat × Instr × Nat) := [(0, .iload_n 0, 1), (1, .iconst 4, 1), (2, .imul, 1), (3, .iload_n 1, 1), (4, .iadd, 1), (5, .iconst 4, 1), (6, .imul, 1), (7, .iload_n 2, 1), (8, .iadd, 1), (9, .ireturn, 1)]
theorem D_X8_takingsIndex : dkA cX8_takingsIndex rows_X8_takingsIndex := by
  unfold dkA
  decide +kernel
theorem okD_X8_takingsIndex : okD yX8_takingsIndex 3 := by
  unfold okD
  decide +kernel
def w_X8_takingsIndex (p0 : Int32) (p1 : Int32) (p2 : Int32) (h : Hp) (Q : Int32 → Prop) : Prop :=
  Q ((((p0 * (4 : Int32)) + p1) * (4 : Int32)) + p2)
theorem t_X8_takingsIndex {X : Cx} (p0 : Int32) (p1 : Int32) (p2 : Int32) (h : Hp) (Q : Int32 → Prop) (hw : w_X8_takingsIndex p0 p1 p2 h Q) : G X M_X8_takingsIndex E_X8_takingsIndex (QM X E_X8_takingsIndex (QIp h Q) Qn) 0 0 [(0, .int (p0)), (1, .int (p1)), (2, .int (p2))] [] h := by
  unfold w_X8_takingsIndex at hw
  refine g_iload_n 0 (dk D_X8_takingsIndex 0 rfl) rfl rfl ?_
  refine g_iconst (dk D_X8_takingsIndex 1 rfl) ki_4 ?_
  refine g_imul (dk D_X8_takingsIndex 2 rfl) ?_
  refine g_iload_n 1 (dk D_X8_takingsIndex 3 rfl) rfl rfl ?_
  refine g_iadd (dk D_X8_takingsIndex 4 rfl) ?_
  refine g_iconst (dk D_X8_takingsIndex 5 rfl) ki_4 ?_
  refine g_imul (dk D_X8_takingsIndex 6 rfl) ?_
  refine g_iload_n 2 (dk D_X8_takingsIndex 7 rfl) rfl rfl ?_
  refine g_iadd (dk D_X8_takingsIndex 8 rfl) ?_
  exact g_iret (dk D_X8_takingsIndex 9 rfl) rfl ⟨_, rfl, rfl, hw⟩
theorem c_X8_takingsIndex {X : Cx} (p0 : Int32) (p1 : Int32) (p2 : Int32) (h : Hp) (Q : Int32 → Prop) (hw : w_X8_takingsIndex p0 p1 p2 h Q) : Con X yX8_takingsIndex M_X8_takingsIndex 0 0 0 [.int (p0), .int (p1), .int (p2)] h (QIp h Q) Qn :=
  con_of (by decide +kernel) rfl (Nat.le_of_ble_eq_true rfl) (t_X8_takingsIndex p0 p1 p2 h Q hw)
/-! ShadowTolls.reckonTakings(I)V -/
abbrev M_X8_reckonTakings : Mi := (RX8, cX8_reckonTakings, 4, none)
abbrev E_X8_reckonTakings : Rm := (7, 219, 0, 0)
def rows_X8_reckonTakings : List (Nat × Instr × Nat) := [(0, .iconst 0, 1), (1, .istore_n 2, 1), (2, .iload_n 2, 1), (3, .aload_n 0, 1), (4, .getfield 132, 3), (7, .if_icmp .ge 90, 3), (10, .iconst 0, 1), (11, .istore_n 3, 1), (12, .iload_n 3, 1), (13, .aload_n 0, 1), (14, .getfield 132, 3), (17, .if_icmp .ge 74, 3), (20, .aload_n 0, 1), (21, .aload_n 0, 1), (22, .getfield 19, 3), (25, .invokevirtual 289, 3), (28, .iload_n 1, 1), (29, .iconst 1, 1), (30, .aload_n 0, 1), (31, .iload_n 2, 1), (32, .invokevirtual 309, 3), (35, .aload_n 0, 1), (36, .iload_n 3, 1), (37, .invokevirtual 309, 3), (40, .invokevirtual 235, 3), (43, .aload_n 0, 1), (44, .getfield 90, 3), (47, .iconst 0, 1), (48, .iload_n 2, 1), (49, .iload_n 3, 1), (50, .invokestatic 387, 3), (53, .aload_n 0, 1), (54, .getfield 66, 3), (57, .iconst 0, 1), (58, .invokevirtual 245, 3), (61, .invokestatic 212, 3), (64, .aload_n 0, 1), (65, .getfield 90, 3), (68, .iconst 1, 1), (69, .iload_n 3, 1), (70, .iload_n 2, 1), (71, .invokestatic 387, 3), (74, .aload_n 0, 1), (75, .getfield 66, 3), (78, .iconst 1, 1), (79, .invokevirtual 245, 3), (82, .invokestatic 212, 3), (85, .iinc 3 1, 3), (88, .goto (-76), 3), (91, .iinc 2 1, 3), (94, .goto (-92), 3), (97, .return_, 1)]
theorem D_X8_reckonTakings : dkA cX8_reckonTakings rows_X8_reckonTakings := by
  unfold dkA
  decide +kernel
theorem okD_X8_reckonTakings : okD yX8_reckonTakings 1 := by
  unfold okD
  decide +kernel
def w_X8_reckonTakings_l12 (p1 : Int32) (v2 : Int32) (K2 : Int32 × Hp → Prop) (Q : Hp → Prop) (K12 : Int32 × Hp → Prop) (v3 : Int32) (h : Hp) : Prop :=
  wif ((h 0 14) ≤ v3) (K2 ((v2 + (1 : Int32)), h)) (w_X4_everybody 3 h (fun z1 => w_X8_lawAt (v2) h (fun q2 => w_X8_lawAt (v3) h (fun q3 => w_X8_planFor (z1) (p1) ((1 : Int32)) q2 q3 h (fun h4 => w_X8_takingsIndex ((0 : Int32)) (v2) (v3) h4 (fun z5 => w_X2_earnedAt ((0 : Int32)) h4 (fun z6 => w_X8_put 91 32 (z5) (z6) h4 (fun h7 => w_X8_takingsIndex ((1 : Int32)) (v3) (v2) h7 (fun z8 => w_X2_earnedAt ((1 : Int32)) h7 (fun z9 => w_X8_put 91 32 (z8) (z9) h7 (fun h10 => K12 ((v3 + (1 : Int32)), h10))))))))))))
def w_X8_reckonTakings_b12 (p1 : Int32) (v2 : Int32) (K2 : Int32 × Hp → Prop) (Q : Hp → Prop) (s : Int32 × Hp) : Prop := wl (fun K s => w_X8_reckonTakings_l12 p1 v2 K2 Q K s.1 s.2) s
def w_X8_reckonTakings_l2 (p1 : Int32) (Q : Hp → Prop) (K2 : Int32 × Hp → Prop) (v2 : Int32) (h : Hp) : Prop :=
  wif ((h 0 14) ≤ v2) (Q h) (w_X8_reckonTakings_b12 p1 (v2) K2 Q ((0 : Int32), h))
def w_X8_reckonTakings_b2 (p1 : Int32) (Q : Hp → Prop) (s : Int32 × Hp) : Prop := wl (fun K s => w_X8_reckonTakings_l2 p1 Q K s.1 s.2) s
def w_X8_reckonTakings (p1 : Int32) (h : Hp) (Q : Hp → Prop) : Prop :=
  w_X8_reckonTakings_b2 p1 Q ((0 : Int32), h)
theorem t_X8_reckonTakings_l12 {X : Cx} (p1 : Int32) (v2 : Int32) (K2 : Int32 × Hp → Prop) (Q : Hp → Prop) (K12 : Int32 × Hp → Prop) (v3 : Int32) (h : Hp) (hK2 : ∀ s : Int32 × Hp, K2 s → G X M_X8_reckonTakings E_X8_reckonTakings (QM X E_X8_reckonTakings (QV Q) Qn) 0 2 [(0, .ref (0)), (1, .int (p1)), (2, .int (s.1))] [] (s.2)) (hK12 : ∀ s : Int32 × Hp, K12 s → G X M_X8_reckonTakings E_X8_reckonTakings (QM X E_X8_reckonTakings (QV Q) Qn) 0 12 [(0, .ref (0)), (1, .int (p1)), (2, .int (v2)), (3, .int (s.1))] [] (s.2)) (hw : w_X8_reckonTakings_l12 p1 v2 K2 Q K12 v3 h) : G X M_X8_reckonTakings E_X8_reckonTakings (QM X E_X8_reckonTakings (QV Q) Qn) 0 12 [(0, .ref (0)), (1, .int (p1)), (2, .int (v2)), (3, .int (v3))] [] h := by
  unfold w_X8_reckonTakings_l12 at hw
  refine g_iload_n 3 (dk D_X8_reckonTakings 8 rfl) rfl rfl ?_
  refine g_aload_n 0 (dk D_X8_reckonTakings 9 rfl) rfl rfl ?_
  refine g_getI 14 (dk D_X8_reckonTakings 10 rfl) kd_0 rfl rfl (by decide) w_448 rfl rfl ?_
  refine g_icmp_ge (dk D_X8_reckonTakings 11 rfl) rfl (wif_m hw (fun hw => ?_) (fun hw => ?_))
  · refine g_iinc 2 (dk D_X8_reckonTakings 49 rfl) rfl (congrArg (fun z => _ + z) ki_1) (by decide) rfl ?_
    refine g_goto (dk D_X8_reckonTakings 50 rfl) rfl ?_
    refine g_sub [1, 2, 0] rfl ?_
    exact hK2 ((v2 + (1 : Int32)), h) hw
  · refine g_aload_n 0 (dk D_X8_reckonTakings 12 rfl) rfl rfl ?_
    refine g_aload_n 0 (dk D_X8_reckonTakings 13 rfl) rfl rfl ?_
    refine g_getR 1 (t := 3) (dk D_X8_reckonTakings 14 rfl) kd_0 rfl rfl (by decide) w_435 rfl rfl rfl ?_
    refine g_callV (As := []) (kc := 0) (fr := 0) (lo := 0) (mc := 0) (My := M_X4_everybody) (dk D_X8_reckonTakings 15 rfl) roadP_3.1 rfl rfl w_528 w_529 w_530 w_103 w_531 okD_X4_everybody (by decide) (Nat.le_of_ble_eq_true rfl) rfl (c_X4_everybody 3 (roadP_3) (h) _ hw) kxN (kIp (fun z1 hw => ?_))
    refine g_iload_n 1 (dk D_X8_reckonTakings 16 rfl) rfl rfl ?_
    refine g_iconst (dk D_X8_reckonTakings 17 rfl) ki_1 ?_
    refine g_aload_n 0 (dk D_X8_reckonTakings 18 rfl) rfl rfl ?_
    refine g_iload_n 2 (dk D_X8_reckonTakings 19 rfl) rfl rfl ?_
    refine g_callV (As := [.int (v2)]) (kc := 0) (fr := 0) (lo := 0) (mc := 0) (My := M_X8_lawAt) (dk D_X8_reckonTakings 20 rfl) kd_0 rfl rfl w_555 w_557 w_5 w_101 w_558 okD_X8_lawAt (by decide) (Nat.le_of_ble_eq_true rfl) rfl (c_X8_lawAt (v2) (h) _ hw) kxN (kLaw (fun q2 hq2 hw => ?_))
    refine g_aload_n 0 (dk D_X8_reckonTakings 21 rfl) rfl rfl ?_
    refine g_iload_n 3 (dk D_X8_reckonTakings 22 rfl) rfl rfl ?_
    refine g_callV (As := [.int (v3)]) (kc := 0) (fr := 0) (lo := 0) (mc := 0) (My := M_X8_lawAt) (dk D_X8_reckonTakings 23 rfl) kd_0 rfl rfl w_555 w_557 w_5 w_101 w_558 okD_X8_lawAt (by decide) (Nat.le_of_ble_eq_true rfl) rfl (c_X8_lawAt (v3) (h) _ hw) kxN (kLaw (fun q3 hq3 hw => ?_))
    refine g_callV (As := [.int (z1), .int (p1), .int ((1 : Int32)), .ref (q2), .ref (q3)]) (kc := 0) (fr := 6) (lo := 186) (mc := 0) (My := M_X8_planFor) (dk D_X8_reckonTakings 24 rfl) kd_0 rfl rfl w_1139 w_1141 w_31 w_101 w_1142 okD_X8_planFor (by decide) (Nat.le_of_ble_eq_true rfl) rfl (c_X8_planFor (z1) (p1) ((1 : Int32)) q2 q3 (hq2) (hq3) (h) _ hw) kxN (kV (fun h4 hw => ?_))
    refine g_aload_n 0 (dk D_X8_reckonTakings 25 rfl) rfl rfl ?_
    refine g_getR 13 (t := 91) (dk D_X8_reckonTakings 26 rfl) kd_0 rfl rfl (by decide) w_447 rfl rfl rfl ?_
    refine g_iconst (dk D_X8_reckonTakings 27 rfl) ki_0 ?_
    refine g_iload_n 2 (dk D_X8_reckonTakings 28 rfl) rfl rfl ?_
    refine g_iload_n 3 (dk D_X8_reckonTakings 29 rfl) rfl rfl ?_
    refine g_callS (As := [.int ((0 : Int32)), .int (v2), .int (v3)]) (kc := 0) (fr := 0) (lo := 0) (mc := 0) (My := M_X8_takingsIndex) (dk D_X8_reckonTakings 30 rfl) w_1282 w_1283 w_101 w_1284 okD_X8_takingsIndex (by decide) (Nat.le_of_ble_eq_true rfl) rfl (c_X8_takingsIndex ((0 : Int32)) (v2) (v3) (h4) _ hw) kxN (kIp (fun z5 hw => ?_))
    refine g_aload_n 0 (dk D_X8_reckonTakings 31 rfl) rfl rfl ?_
    refine g_getR 9 (t := 44) (dk D_X8_reckonTakings 32 rfl) kd_0 rfl rfl (by decide) w_443 rfl rfl rfl ?_
    refine g_iconst (dk D_X8_reckonTakings 33 rfl) ki_0 ?_
    refine g_callV (As := [.int ((0 : Int32))]) (kc := 0) (fr := 1) (lo := 29) (mc := 0) (My := M_X2_earnedAt) (dk D_X8_reckonTakings 34 rfl) kd_44 rfl rfl w_1172 w_1173 w_1174 w_107 w_1175 okD_X2_earnedAt (by decide) (Nat.le_of_ble_eq_true rfl) rfl (c_X2_earnedAt ((0 : Int32)) (h4) _ hw) kxN (kIp (fun z6 hw => ?_))
    refine g_callS (As := [.ref (91), .int (z5), .int (z6)]) (kc := 0) (fr := 0) (lo := 0) (mc := 0) (My := M_X8_put) (dk D_X8_reckonTakings 35 rfl) w_1091 w_496 w_101 w_497 okD_X8_put (by decide) (Nat.le_of_ble_eq_true rfl) rfl (c_X8_put 91 32 (z5) (z6) (kd_91) (h4) _ hw) kxN (kV (fun h7 hw => ?_))
    refine g_aload_n 0 (dk D_X8_reckonTakings 36 rfl) rfl rfl ?_
    refine g_getR 13 (t := 91) (dk D_X8_reckonTakings 37 rfl) kd_0 rfl rfl (by decide) w_447 rfl rfl rfl ?_
    refine g_iconst (dk D_X8_reckonTakings 38 rfl) ki_1 ?_
    refine g_iload_n 3 (dk D_X8_reckonTakings 39 rfl) rfl rfl ?_
    refine g_iload_n 2 (dk D_X8_reckonTakings 40 rfl) rfl rfl ?_
    refine g_callS (As := [.int ((1 : Int32)), .int (v3), .int (v2)]) (kc := 0) (fr := 0) (lo := 0) (mc := 0) (My := M_X8_takingsIndex) (dk D_X8_reckonTakings 41 rfl) w_1282 w_1283 w_101 w_1284 okD_X8_takingsIndex (by decide) (Nat.le_of_ble_eq_true rfl) rfl (c_X8_takingsIndex ((1 : Int32)) (v3) (v2) (h7) _ hw) kxN (kIp (fun z8 hw => ?_))
    refine g_aload_n 0 (dk D_X8_reckonTakings 42 rfl) rfl rfl ?_
    refine g_getR 9 (t := 44) (dk D_X8_reckonTakings 43 rfl) kd_0 rfl rfl (by decide) w_443 rfl rfl rfl ?_
    refine g_iconst (dk D_X8_reckonTakings 44 rfl) ki_1 ?_
    refine g_callV (As := [.int ((1 : Int32))]) (kc := 0) (fr := 1) (lo := 29) (mc := 0) (My := M_X2_earnedAt) (dk D_X8_reckonTakings 45 rfl) kd_44 rfl rfl w_1172 w_1173 w_1174 w_107 w_1175 okD_X2_earnedAt (by decide) (Nat.le_of_ble_eq_true rfl) rfl (c_X2_earnedAt ((1 : Int32)) (h7) _ hw) kxN (kIp (fun z9 hw => ?_))
    refine g_callS (As := [.ref (91), .int (z8), .int (z9)]) (kc := 0) (fr := 0) (lo := 0) (mc := 0) (My := M_X8_put) (dk D_X8_reckonTakings 46 rfl) w_1091 w_496 w_101 w_497 okD_X8_put (by decide) (Nat.le_of_ble_eq_true rfl) rfl (c_X8_put 91 32 (z8) (z9) (kd_91) (h7) _ hw) kxN (kV (fun h10 hw => ?_))
    refine g_iinc 3 (dk D_X8_reckonTakings 47 rfl) rfl (congrArg (fun z => _ + z) ki_1) (by decide) rfl ?_
    refine g_goto (dk D_X8_reckonTakings 48 rfl) rfl ?_
    refine g_sub [1, 2, 3, 0] rfl ?_
    exact hK12 ((v3 + (1 : Int32)), h10) hw
theorem t_X8_reckonTakings_b12 {X : Cx} (p1 : Int32) (v2 : Int32) (K2 : Int32 × Hp → Prop) (Q : Hp → Prop) (s : Int32 × Hp) (hK2 : ∀ s : Int32 × Hp, K2 s → G X M_X8_reckonTakings E_X8_reckonTakings (QM X E_X8_reckonTakings (QV Q) Qn) 0 2 [(0, .ref (0)), (1, .int (p1)), (2, .int (s.1))] [] (s.2)) (hw : w_X8_reckonTakings_b12 p1 v2 K2 Q s) : G X M_X8_reckonTakings E_X8_reckonTakings (QM X E_X8_reckonTakings (QV Q) Qn) 0 12 [(0, .ref (0)), (1, .int (p1)), (2, .int (v2)), (3, .int (s.1))] [] (s.2) :=
  wl_ind (B := fun K s => w_X8_reckonTakings_l12 p1 v2 K2 Q K (s.1) (s.2)) (P := fun s => G X M_X8_reckonTakings E_X8_reckonTakings (QM X E_X8_reckonTakings (QV Q) Qn) 0 12 [(0, .ref (0)), (1, .int (p1)), (2, .int (v2)), (3, .int (s.1))] [] (s.2)) (fun K hK s hw => t_X8_reckonTakings_l12 p1 v2 K2 Q K (s.1) (s.2) hK2 hK hw) s hw
theorem t_X8_reckonTakings_l2 {X : Cx} (p1 : Int32) (Q : Hp → Prop) (K2 : Int32 × Hp → Prop) (v2 : Int32) (h : Hp) (hK2 : ∀ s : Int32 × Hp, K2 s → G X M_X8_reckonTakings E_X8_reckonTakings (QM X E_X8_reckonTakings (QV Q) Qn) 0 2 [(0, .ref (0)), (1, .int (p1)), (2, .int (s.1))] [] (s.2)) (hw : w_X8_reckonTakings_l2 p1 Q K2 v2 h) : G X M_X8_reckonTakings E_X8_reckonTakings (QM X E_X8_reckonTakings (QV Q) Qn) 0 2 [(0, .ref (0)), (1, .int (p1)), (2, .int (v2))] [] h := by
  unfold w_X8_reckonTakings_l2 at hw
  refine g_iload_n 2 (dk D_X8_reckonTakings 2 rfl) rfl rfl ?_
  refine g_aload_n 0 (dk D_X8_reckonTakings 3 rfl) rfl rfl ?_
  refine g_getI 14 (dk D_X8_reckonTakings 4 rfl) kd_0 rfl rfl (by decide) w_448 rfl rfl ?_
  refine g_icmp_ge (dk D_X8_reckonTakings 5 rfl) rfl (wif_m hw (fun hw => ?_) (fun hw => ?_))
  · exact g_vret (dk D_X8_reckonTakings 51 rfl) rfl ⟨rfl, hw⟩
  · refine g_iconst (dk D_X8_reckonTakings 6 rfl) ki_0 ?_
    refine g_istore_n (dk D_X8_reckonTakings 7 rfl) rfl (by decide) rfl ?_
    refine g_sub [1, 2, 3, 0] rfl ?_
    exact t_X8_reckonTakings_b12 p1 (v2) K2 Q ((0 : Int32), h) hK2 hw
theorem t_X8_reckonTakings_b2 {X : Cx} (p1 : Int32) (Q : Hp → Prop) (s : Int32 × Hp) (hw : w_X8_reckonTakings_b2 p1 Q s) : G X M_X8_reckonTakings E_X8_reckonTakings (QM X E_X8_reckonTakings (QV Q) Qn) 0 2 [(0, .ref (0)), (1, .int (p1)), (2, .int (s.1))] [] (s.2) :=
  wl_ind (B := fun K s => w_X8_reckonTakings_l2 p1 Q K (s.1) (s.2)) (P := fun s => G X M_X8_reckonTakings E_X8_reckonTakings (QM X E_X8_reckonTakings (QV Q) Qn) 0 2 [(0, .ref (0)), (1, .int (p1)), (2, .int (s.1))] [] (s.2)) (fun K hK s hw => t_X8_reckonTakings_l2 p1 Q K (s.1) (s.2) hK hw) s hw
theorem t_X8_reckonTakings {X : Cx} (p1 : Int32) (h : Hp) (Q : Hp → Prop) (hw : w_X8_reckonTakings p1 h Q) : G X M_X8_reckonTakings E_X8_reckonTakings (QM X E_X8_reckonTakings (QV Q) Qn) 0 0 [(0, .ref (0)), (1, .int (p1))] [] h := by
  unfold w_X8_reckonTakings at hw
  refine g_iconst (dk D_X8_reckonTakings 0 rfl) ki_0 ?_
  refine g_istore_n (dk D_X8_reckonTakings 1 rfl) rfl (by decide) rfl ?_
  refine g_sub [1, 2, 0] rfl ?_
  exact t_X8_reckonTakings_b2 p1 Q ((0 : Int32), h) hw
theorem c_X8_reckonTakings {X : Cx} (p1 : Int32) (h : Hp) (Q : Hp → Prop) (hw : w_X8_reckonTakings p1 h Q) : Con X yX8_reckonTakings M_X8_reckonTakings 7 219 0 [.ref (0), .int (p1)] h (QV Q) Qn :=
  con_of (by decide +kernel) rfl (Nat.le_of_ble_eq_true rfl) (t_X8_reckonTakings p1 h Q hw)
/-! ShadowTolls.bestReply(II)I -/
abbrev M_X8_bestReply : Mi := (RX8, cX8_bestReply, 5, (some .int))
abbrev E_X8_bestReply : Rm := (1, 30, 0, 0)
def rows_X8_bestReply : List (Nat × Instr × Nat) := [(0, .iconst 0, 1), (1, .istore_n 3, 1), (2, .iconst 1, 1), (3, .istore 4, 2), (5, .iload 4, 2), (7, .aload_n 0, 1), (8, .getfield 132, 3), (11, .if_icmp .ge 42, 3), (14, .aload_n 0, 1), (15, .getfield 90, 3), (18, .iload_n 1, 1), (19, .iload 4, 2), (21, .iload_n 2, 1), (22, .invokestatic 387, 3), (25, .invokestatic 189, 3), (28, .aload_n 0, 1), (29, .getfield 90, 3), (32, .iload_n 1, 1), (33, .iload_n 3, 1), (34, .iload_n 2, 1), (35, .invokestatic 387, 3), (38, .invokestatic 189, 3), (41, .if_icmp .le 6, 3), (44, .iload 4, 2), (46, .istore_n 3, 1), (47, .iinc 4 1, 3), (50, .goto (-45), 3), (53, .iload_n 3, 1), (54, .ireturn, 1)]
theorem D_X8_bestReply : dkA cX8_bestReply rows_X8_bestReply := by
  unfold dkA
  decide +kernel
theorem okD_X8_bestReply : okD yX8_bestReply 2 := by
  unfold okD
  decide +kernel
def w_X8_bestReply_b47 (p1 : Int32) (p2 : Int32) (v3 : Int32) (v4 : Int32) (K5 : Int32 × Int32 → Prop) (h : Hp) (Q : Int32 → Prop) : Prop :=
  K5 (v3, (v4 + (1 : Int32)))
def w_X8_bestReply_l5 (p1 : Int32) (p2 : Int32) (h : Hp) (Q : Int32 → Prop) (K5 : Int32 × Int32 → Prop) (v3 : Int32) (v4 : Int32) : Prop :=
  wif ((h 0 14) ≤ v4) (Q v3) (w_X8_takingsIndex (p1) (v4) (p2) h (fun z1 => w_X8_at 91 32 (z1) h (fun z2 => w_X8_takingsIndex (p1) (v3) (p2) h (fun z3 => w_X8_at 91 32 (z3) h (fun z4 => wif (z2 ≤ z4) (w_X8_bestReply_b47 p1 p2 (v3) (v4) K5 (h) Q) (w_X8_bestReply_b47 p1 p2 (v4) (v4) K5 (h) Q))))))
def w_X8_bestReply_b5 (p1 : Int32) (p2 : Int32) (h : Hp) (Q : Int32 → Prop) (s : Int32 × Int32) : Prop := wl (fun K s => w_X8_bestReply_l5 p1 p2 h Q K s.1 s.2) s
def w_X8_bestReply (p1 : Int32) (p2 : Int32) (h : Hp) (Q : Int32 → Prop) : Prop :=
  w_X8_bestReply_b5 p1 p2 (h) Q ((0 : Int32), (1 : Int32))
theorem t_X8_bestReply_b47 {X : Cx} (p1 : Int32) (p2 : Int32) (v3 : Int32) (v4 : Int32) (K5 : Int32 × Int32 → Prop) (h : Hp) (Q : Int32 → Prop) (hK5 : ∀ s : Int32 × Int32, K5 s → G X M_X8_bestReply E_X8_bestReply (QM X E_X8_bestReply (QIp h Q) Qn) 0 5 [(0, .ref (0)), (1, .int (p1)), (2, .int (p2)), (3, .int (s.1)), (4, .int (s.2))] [] (h)) (hw : w_X8_bestReply_b47 p1 p2 v3 v4 K5 h Q) : G X M_X8_bestReply E_X8_bestReply (QM X E_X8_bestReply (QIp h Q) Qn) 0 47 [(0, .ref (0)), (1, .int (p1)), (2, .int (p2)), (3, .int (v3)), (4, .int (v4))] [] h := by
  unfold w_X8_bestReply_b47 at hw
  refine g_iinc 4 (dk D_X8_bestReply 25 rfl) rfl (congrArg (fun z => _ + z) ki_1) (by decide) rfl ?_
  refine g_goto (dk D_X8_bestReply 26 rfl) rfl ?_
  refine g_sub [1, 2, 3, 4, 0] rfl ?_
  exact hK5 (v3, (v4 + (1 : Int32))) hw
theorem t_X8_bestReply_l5 {X : Cx} (p1 : Int32) (p2 : Int32) (h : Hp) (Q : Int32 → Prop) (K5 : Int32 × Int32 → Prop) (v3 : Int32) (v4 : Int32) (hK5 : ∀ s : Int32 × Int32, K5 s → G X M_X8_bestReply E_X8_bestReply (QM X E_X8_bestReply (QIp h Q) Qn) 0 5 [(0, .ref (0)), (1, .int (p1)), (2, .int (p2)), (3, .int (s.1)), (4, .int (s.2))] [] (h)) (hw : w_X8_bestReply_l5 p1 p2 h Q K5 v3 v4) : G X M_X8_bestReply E_X8_bestReply (QM X E_X8_bestReply (QIp h Q) Qn) 0 5 [(0, .ref (0)), (1, .int (p1)), (2, .int (p2)), (3, .int (v3)), (4, .int (v4))] [] h := by
  unfold w_X8_bestReply_l5 at hw
  refine g_iload 4 (dk D_X8_bestReply 4 rfl) rfl ?_
  refine g_aload_n 0 (dk D_X8_bestReply 5 rfl) rfl rfl ?_
  refine g_getI 14 (dk D_X8_bestReply 6 rfl) kd_0 rfl rfl (by decide) w_448 rfl rfl ?_
  refine g_icmp_ge (dk D_X8_bestReply 7 rfl) rfl (wif_m hw (fun hw => ?_) (fun hw => ?_))
  · refine g_iload_n 3 (dk D_X8_bestReply 27 rfl) rfl rfl ?_
    exact g_iret (dk D_X8_bestReply 28 rfl) rfl ⟨_, rfl, rfl, hw⟩
  · refine g_aload_n 0 (dk D_X8_bestReply 8 rfl) rfl rfl ?_
    refine g_getR 13 (t := 91) (dk D_X8_bestReply 9 rfl) kd_0 rfl rfl (by decide) w_447 rfl rfl rfl ?_
    refine g_iload_n 1 (dk D_X8_bestReply 10 rfl) rfl rfl ?_
    refine g_iload 4 (dk D_X8_bestReply 11 rfl) rfl ?_
    refine g_iload_n 2 (dk D_X8_bestReply 12 rfl) rfl rfl ?_
    refine g_callS (As := [.int (p1), .int (v4), .int (p2)]) (kc := 0) (fr := 0) (lo := 0) (mc := 0) (My := M_X8_takingsIndex) (dk D_X8_bestReply 13 rfl) w_1282 w_1283 w_101 w_1284 okD_X8_takingsIndex (by decide) (Nat.le_of_ble_eq_true rfl) rfl (c_X8_takingsIndex (p1) (v4) (p2) (h) _ hw) kxN (kIp (fun z1 hw => ?_))
    refine g_callS (As := [.ref (91), .int (z1)]) (kc := 0) (fr := 0) (lo := 0) (mc := 0) (My := M_X8_at) (dk D_X8_bestReply 14 rfl) w_517 w_518 w_101 w_519 okD_X8_at (by decide) (Nat.le_of_ble_eq_true rfl) rfl (c_X8_at 91 32 (z1) (kd_91) (h) _ hw) kxN (kIp (fun z2 hw => ?_))
    refine g_aload_n 0 (dk D_X8_bestReply 15 rfl) rfl rfl ?_
    refine g_getR 13 (t := 91) (dk D_X8_bestReply 16 rfl) kd_0 rfl rfl (by decide) w_447 rfl rfl rfl ?_
    refine g_iload_n 1 (dk D_X8_bestReply 17 rfl) rfl rfl ?_
    refine g_iload_n 3 (dk D_X8_bestReply 18 rfl) rfl rfl ?_
    refine g_iload_n 2 (dk D_X8_bestReply 19 rfl) rfl rfl ?_
    refine g_callS (As := [.int (p1), .int (v3), .int (p2)]) (kc := 0) (fr := 0) (lo := 0) (mc := 0) (My := M_X8_takingsIndex) (dk D_X8_bestReply 20 rfl) w_1282 w_1283 w_101 w_1284 okD_X8_takingsIndex (by decide) (Nat.le_of_ble_eq_true rfl) rfl (c_X8_takingsIndex (p1) (v3) (p2) (h) _ hw) kxN (kIp (fun z3 hw => ?_))
    refine g_callS (As := [.ref (91), .int (z3)]) (kc := 0) (fr := 0) (lo := 0) (mc := 0) (My := M_X8_at) (dk D_X8_bestReply 21 rfl) w_517 w_518 w_101 w_519 okD_X8_at (by decide) (Nat.le_of_ble_eq_true rfl) rfl (c_X8_at 91 32 (z3) (kd_91) (h) _ hw) kxN (kIp (fun z4 hw => ?_))
    refine g_icmp_le (dk D_X8_bestReply 22 rfl) rfl (wif_m hw (fun hw => ?_) (fun hw => ?_))
    · exact t_X8_bestReply_b47 p1 p2 (v3) (v4) K5 (h) Q hK5 hw
    · refine g_iload 4 (dk D_X8_bestReply 23 rfl) rfl ?_
      refine g_istore_n (dk D_X8_bestReply 24 rfl) rfl (by decide) rfl ?_
      refine g_sub [1, 2, 3, 0, 4] rfl ?_
      exact t_X8_bestReply_b47 p1 p2 (v4) (v4) K5 (h) Q hK5 hw
theorem t_X8_bestReply_b5 {X : Cx} (p1 : Int32) (p2 : Int32) (h : Hp) (Q : Int32 → Prop) (s : Int32 × Int32) (hw : w_X8_bestReply_b5 p1 p2 h Q s) : G X M_X8_bestReply E_X8_bestReply (QM X E_X8_bestReply (QIp h Q) Qn) 0 5 [(0, .ref (0)), (1, .int (p1)), (2, .int (p2)), (3, .int (s.1)), (4, .int (s.2))] [] (h) :=
  wl_ind (B := fun K s => w_X8_bestReply_l5 p1 p2 h Q K (s.1) (s.2)) (P := fun s => G X M_X8_bestReply E_X8_bestReply (QM X E_X8_bestReply (QIp h Q) Qn) 0 5 [(0, .ref (0)), (1, .int (p1)), (2, .int (p2)), (3, .int (s.1)), (4, .int (s.2))] [] (h)) (fun K hK s hw => t_X8_bestReply_l5 p1 p2 h Q K (s.1) (s.2) hK hw) s hw
theorem t_X8_bestReply {X : Cx} (p1 : Int32) (p2 : Int32) (h : Hp) (Q : Int32 → Prop) (hw : w_X8_bestReply p1 p2 h Q) : G X M_X8_bestReply E_X8_bestReply (QM X E_X8_bestReply (QIp h Q) Qn) 0 0 [(0, .ref (0)), (1, .int (p1)), (2, .int (p2))] [] h := by
  unfold w_X8_bestReply at hw
  refine g_iconst (dk D_X8_bestReply 0 rfl) ki_0 ?_
  refine g_istore_n (dk D_X8_bestReply 1 rfl) rfl (by decide) rfl ?_
  refine g_iconst (dk D_X8_bestReply 2 rfl) ki_1 ?_
  refine g_istore (dk D_X8_bestReply 3 rfl) (by decide) rfl ?_
  refine g_sub [2, 3, 4, 1, 0] rfl ?_
  exact t_X8_bestReply_b5 p1 p2 (h) Q ((0 : Int32), (1 : Int32)) hw
theorem c_X8_bestReply {X : Cx} (p1 : Int32) (p2 : Int32) (h : Hp) (Q : Int32 → Prop) (hw : w_X8_bestReply p1 p2 h Q) : Con X yX8_bestReply M_X8_bestReply 1 30 0 [.ref (0), .int (p1), .int (p2)] h (QIp h Q) Qn :=
  con_of (by decide +kernel) rfl (Nat.le_of_ble_eq_true rfl) (t_X8_bestReply p1 p2 h Q hw)
/-! ShadowTolls.war(III)I -/
abbrev M_X8_war : Mi := (RX8, cX8_war, 7, (some .int))
abbrev E_X8_war : Rm := (8, 250, 4, 24)
def rows_X8_war : List (Nat × Instr × Nat) := [(0, .iload_n 1, 1), (1, .invokestatic 183, 3), (4, .iload_n 2, 1), (5, .iconst 0, 1), (6, .bipush 20, 2), (8, .invokestatic 106, 3), (11, .iload_n 3, 1), (12, .iconst 0, 1), (13, .iconst 1, 1), (14, .invokestatic 106, 3), (17, .aload_n 0, 1), (18, .getfield 19, 3), (21, .getfield 166, 3), (24, .ifCond .eq 10, 3), (27, .aload_n 0, 1), (28, .getfield 132, 3), (31, .ifCond .gt 14, 3), (34, .new 292, 3), (37, .dup, 1), (38, .ldc_w 294, 3), (41, .invokespecial 296, 3), (44, .athrow, 1), (45, .aload_n 0, 1), (46, .iload_n 1, 1), (47, .invokevirtual 297, 3), (50, .aload_n 0, 1), (51, .getfield 82, 3), (54, .getfield 209, 3), (57, .iconst 0, 1), (58, .invokestatic 189, 3), (61, .istore 4, 2), (63, .aload_n 0, 1), (64, .getfield 82, 3), (67, .getfield 209, 3), (70, .iconst 1, 1), (71, .invokestatic 189, 3), (74, .istore 5, 2), (76, .iconst 0, 1), (77, .istore 6, 2), (79, .iload 6, 2), (81, .iload_n 2, 1), (82, .if_icmp .ge 37, 3), (85, .iload 6, 2), (87, .iconst 2, 1), (88, .irem, 1), (89, .ifCond .ne 15, 3), (92, .aload_n 0, 1), (93, .iconst 0, 1), (94, .iload 5, 2), (96, .invokevirtual 300, 3), (99, .istore 4, 2), (101, .goto 12, 3), (104, .aload_n 0, 1), (105, .iconst 1, 1), (106, .iload 4, 2), (108, .invokevirtual 300, 3), (111, .istore 5, 2), (113, .iinc 6 1, 3), (116, .goto (-37), 3), (119, .iload_n 3, 1), (120, .ifCond .ne 12, 3), (123, .bipush 10, 2), (125, .iload 4, 2), (127, .imul, 1), (128, .iload 5, 2), (130, .iadd, 1), (131, .ireturn, 1), (132, .aload_n 0, 1), (133, .iconst 0, 1), (134, .iload 5, 2), (136, .invokevirtual 300, 3), (139, .iload 4, 2), (141, .if_icmp .ne 19, 3), (144, .aload_n 0, 1), (145, .iconst 1, 1), (146, .iload 4, 2), (148, .invokevirtual 300, 3), (151, .iload 5, 2), (153, .if_icmp .ne 7, 3), (156, .iconst 1, 1), (157, .goto 4, 3), (160, .iconst 0, 1), (161, .ireturn, 1)]
theorem D_X8_war : dkA cX8_war rows_X8_war := by
  unfold dkA
  decide +kernel
theorem okD_X8_war : okD yX8_war 3 := by
  unfold okD
  decide +kernel
def w_X8_war_b113 (p1 : Int32) (p2 : Int32) (p3 : Int32) (v4 : Int32) (v5 : Int32) (v6 : Int32) (K79 : Int32 × Int32 × Int32 → Prop) (h : Hp) (Q : Int32 → Hp → Prop) (Qx : String → Hp → Prop) : Prop :=
  K79 (v4, v5, (v6 + (1 : Int32)))
def w_X8_war_l79 (p1 : Int32) (p2 : Int32) (p3 : Int32) (h : Hp) (Q : Int32 → Hp → Prop) (Qx : String → Hp → Prop) (K79 : Int32 × Int32 × Int32 → Prop) (v4 : Int32) (v5 : Int32) (v6 : Int32) : Prop :=
  wif (p2 ≤ v6) (wif (¬ p3 = 0) (w_X8_bestReply ((0 : Int32)) (v5) h (fun z1 => wif (¬ z1 = v4) (Q (0 : Int32) h) (w_X8_bestReply ((1 : Int32)) (v4) h (fun z2 => Q (if ¬ z2 = v5 then (0 : Int32) else (1 : Int32)) h)))) (Q (((10 : Int32) * v4) + v5) h)) (wif (¬ (v6 - v6 / (2 : Int32) * (2 : Int32)) = 0) (w_X8_bestReply ((1 : Int32)) (v4) h (fun z4 => w_X8_war_b113 p1 p2 p3 (v4) (z4) (v6) K79 (h) Q Qx)) (w_X8_bestReply ((0 : Int32)) (v5) h (fun z5 => w_X8_war_b113 p1 p2 p3 (z5) (v5) (v6) K79 (h) Q Qx)))
def w_X8_war_b79 (p1 : Int32) (p2 : Int32) (p3 : Int32) (h : Hp) (Q : Int32 → Hp → Prop) (Qx : String → Hp → Prop) (s : Int32 × Int32 × Int32) : Prop := wl (fun K s => w_X8_war_l79 p1 p2 p3 h Q Qx K s.1 s.2.1 s.2.2) s
def w_X8_war (p1 : Int32) (p2 : Int32) (p3 : Int32) (h : Hp) (Q : Int32 → Hp → Prop) (Qx : String → Hp → Prop) : Prop :=
  w_X8_needDay (p1) h (w_X8_needBetween (p2) ((0 : Int32)) ((20 : Int32)) h (w_X8_needBetween (p3) ((0 : Int32)) ((1 : Int32)) h (wif ((h 3 14 &&& 1) = 0) (Qx "java/lang/IllegalStateException" h) (wif (0 < (h 0 14)) (w_X8_reckonTakings (p1) h (fun h1 => w_X8_at 63 2 ((0 : Int32)) h1 (fun z2 => w_X8_at 63 2 ((1 : Int32)) h1 (fun z3 => w_X8_war_b79 p1 p2 p3 (h1) Q Qx (z2, z3, (0 : Int32)))))) (Qx "java/lang/IllegalStateException" h))) Qx) Qx) Qx
theorem t_X8_war_b113 {X : Cx} (p1 : Int32) (p2 : Int32) (p3 : Int32) (v4 : Int32) (v5 : Int32) (v6 : Int32) (K79 : Int32 × Int32 × Int32 → Prop) (h : Hp) (Q : Int32 → Hp → Prop) (Qx : String → Hp → Prop) (hK79 : ∀ s : Int32 × Int32 × Int32, K79 s → G X M_X8_war E_X8_war (QM X E_X8_war (QI Q) Qx) 0 79 [(0, .ref (0)), (2, .int (p2)), (3, .int (p3)), (4, .int (s.1)), (5, .int (s.2.1)), (6, .int (s.2.2))] [] (h)) (hw : w_X8_war_b113 p1 p2 p3 v4 v5 v6 K79 h Q Qx) : G X M_X8_war E_X8_war (QM X E_X8_war (QI Q) Qx) 0 113 [(0, .ref (0)), (2, .int (p2)), (3, .int (p3)), (4, .int (v4)), (5, .int (v5)), (6, .int (v6))] [] h := by
  unfold w_X8_war_b113 at hw
  refine g_iinc 5 (dk D_X8_war 57 rfl) rfl (congrArg (fun z => _ + z) ki_1) (by decide) rfl ?_
  refine g_goto (dk D_X8_war 58 rfl) rfl ?_
  refine g_sub [1, 2, 3, 4, 5, 0] rfl ?_
  exact hK79 (v4, v5, (v6 + (1 : Int32))) hw
theorem t_X8_war_l79 {X : Cx} (p1 : Int32) (p2 : Int32) (p3 : Int32) (h : Hp) (Q : Int32 → Hp → Prop) (Qx : String → Hp → Prop) (K79 : Int32 × Int32 × Int32 → Prop) (v4 : Int32) (v5 : Int32) (v6 : Int32) (hK79 : ∀ s : Int32 × Int32 × Int32, K79 s → G X M_X8_war E_X8_war (QM X E_X8_war (QI Q) Qx) 0 79 [(0, .ref (0)), (2, .int (p2)), (3, .int (p3)), (4, .int (s.1)), (5, .int (s.2.1)), (6, .int (s.2.2))] [] (h)) (hw : w_X8_war_l79 p1 p2 p3 h Q Qx K79 v4 v5 v6) : G X M_X8_war E_X8_war (QM X E_X8_war (QI Q) Qx) 0 79 [(0, .ref (0)), (2, .int (p2)), (3, .int (p3)), (4, .int (v4)), (5, .int (v5)), (6, .int (v6))] [] h := by
  unfold w_X8_war_l79 at hw
  refine g_iload 5 (dk D_X8_war 39 rfl) rfl ?_
  refine g_iload_n 1 (dk D_X8_war 40 rfl) rfl rfl ?_
  refine g_icmp_ge (dk D_X8_war 41 rfl) rfl (wif_m hw (fun hw => ?_) (fun hw => ?_))
  · refine g_iload_n 2 (dk D_X8_war 59 rfl) rfl rfl ?_
    refine g_if_ne (dk D_X8_war 60 rfl) rfl (wif_m hw (fun hw => ?_) (fun hw => ?_))
    · refine g_aload_n 0 (dk D_X8_war 67 rfl) rfl rfl ?_
      refine g_iconst (dk D_X8_war 68 rfl) ki_0 ?_
      refine g_iload 4 (dk D_X8_war 69 rfl) rfl ?_
      refine g_callV (As := [.int ((0 : Int32)), .int (v5)]) (kc := 0) (fr := 1) (lo := 30) (mc := 0) (My := M_X8_bestReply) (dk D_X8_war 70 rfl) kd_0 rfl rfl w_1285 w_1287 w_39 w_101 w_1288 okD_X8_bestReply (by decide) (Nat.le_of_ble_eq_true rfl) rfl (c_X8_bestReply ((0 : Int32)) (v5) (h) _ hw) kxN (kIp (fun z1 hw => ?_))
      refine g_iload 3 (dk D_X8_war 71 rfl) rfl ?_
      refine g_icmp_ne (dk D_X8_war 72 rfl) rfl (wif_m hw (fun hw => ?_) (fun hw => ?_))
      · refine g_iconst (dk D_X8_war 81 rfl) ki_0 ?_
        exact g_iret (dk D_X8_war 82 rfl) rfl ⟨_, rfl, hw⟩
      · refine g_aload_n 0 (dk D_X8_war 73 rfl) rfl rfl ?_
        refine g_iconst (dk D_X8_war 74 rfl) ki_1 ?_
        refine g_iload 3 (dk D_X8_war 75 rfl) rfl ?_
        refine g_callV (As := [.int ((1 : Int32)), .int (v4)]) (kc := 0) (fr := 1) (lo := 30) (mc := 0) (My := M_X8_bestReply) (dk D_X8_war 76 rfl) kd_0 rfl rfl w_1285 w_1287 w_39 w_101 w_1288 okD_X8_bestReply (by decide) (Nat.le_of_ble_eq_true rfl) rfl (c_X8_bestReply ((1 : Int32)) (v4) (h) _ hw) kxN (kIp (fun z2 hw => ?_))
        refine g_iload 4 (dk D_X8_war 77 rfl) rfl ?_
        have hj : G X M_X8_war E_X8_war (QM X E_X8_war (QI Q) Qx) 0 161 [(0, .ref (0)), (2, .int (p2)), (3, .int (p3)), (4, .int (v4)), (5, .int (v5)), (6, .int (v6))] [.int ((if ¬ z2 = v5 then (0 : Int32) else (1 : Int32)))] (h) := by
          exact g_iret (dk D_X8_war 82 rfl) rfl ⟨_, rfl, hw⟩
        refine g_icmp_ne (dk D_X8_war 78 rfl) rfl ?_
        by_cases c3 : ¬ z2 = v5
        · rw [if_pos c3] at hj
          refine wif_p c3 ?_
          refine g_iconst (dk D_X8_war 81 rfl) ki_0 ?_
          exact hj
        · rw [if_neg c3] at hj
          refine wif_n c3 ?_
          refine g_iconst (dk D_X8_war 79 rfl) ki_1 ?_
          refine g_goto (dk D_X8_war 80 rfl) rfl ?_
          exact hj
    · refine g_bipush (dk D_X8_war 61 rfl) kb_10 ?_
      refine g_iload 3 (dk D_X8_war 62 rfl) rfl ?_
      refine g_imul (dk D_X8_war 63 rfl) ?_
      refine g_iload 4 (dk D_X8_war 64 rfl) rfl ?_
      refine g_iadd (dk D_X8_war 65 rfl) ?_
      exact g_iret (dk D_X8_war 66 rfl) rfl ⟨_, rfl, hw⟩
  · refine g_iload 5 (dk D_X8_war 42 rfl) rfl ?_
    refine g_iconst (dk D_X8_war 43 rfl) ki_2 ?_
    refine g_irem (dk D_X8_war 44 rfl) (by decide) ?_
    refine g_if_ne (dk D_X8_war 45 rfl) rfl (wif_m hw (fun hw => ?_) (fun hw => ?_))
    · refine g_aload_n 0 (dk D_X8_war 52 rfl) rfl rfl ?_
      refine g_iconst (dk D_X8_war 53 rfl) ki_1 ?_
      refine g_iload 3 (dk D_X8_war 54 rfl) rfl ?_
      refine g_callV (As := [.int ((1 : Int32)), .int (v4)]) (kc := 0) (fr := 1) (lo := 30) (mc := 0) (My := M_X8_bestReply) (dk D_X8_war 55 rfl) kd_0 rfl rfl w_1285 w_1287 w_39 w_101 w_1288 okD_X8_bestReply (by decide) (Nat.le_of_ble_eq_true rfl) rfl (c_X8_bestReply ((1 : Int32)) (v4) (h) _ hw) kxN (kIp (fun z4 hw => ?_))
      refine g_istore (dk D_X8_war 56 rfl) (by decide) rfl ?_
      refine g_sub [1, 2, 3, 4, 0, 5] rfl ?_
      exact t_X8_war_b113 p1 p2 p3 (v4) (z4) (v6) K79 (h) Q Qx hK79 hw
    · refine g_aload_n 0 (dk D_X8_war 46 rfl) rfl rfl ?_
      refine g_iconst (dk D_X8_war 47 rfl) ki_0 ?_
      refine g_iload 4 (dk D_X8_war 48 rfl) rfl ?_
      refine g_callV (As := [.int ((0 : Int32)), .int (v5)]) (kc := 0) (fr := 1) (lo := 30) (mc := 0) (My := M_X8_bestReply) (dk D_X8_war 49 rfl) kd_0 rfl rfl w_1285 w_1287 w_39 w_101 w_1288 okD_X8_bestReply (by decide) (Nat.le_of_ble_eq_true rfl) rfl (c_X8_bestReply ((0 : Int32)) (v5) (h) _ hw) kxN (kIp (fun z5 hw => ?_))
      refine g_istore (dk D_X8_war 50 rfl) (by decide) rfl ?_
      refine g_goto (dk D_X8_war 51 rfl) rfl ?_
      refine g_sub [1, 2, 3, 0, 4, 5] rfl ?_
      exact t_X8_war_b113 p1 p2 p3 (z5) (v5) (v6) K79 (h) Q Qx hK79 hw
theorem t_X8_war_b79 {X : Cx} (p1 : Int32) (p2 : Int32) (p3 : Int32) (h : Hp) (Q : Int32 → Hp → Prop) (Qx : String → Hp → Prop) (s : Int32 × Int32 × Int32) (hw : w_X8_war_b79 p1 p2 p3 h Q Qx s) : G X M_X8_war E_X8_war (QM X E_X8_war (QI Q) Qx) 0 79 [(0, .ref (0)), (2, .int (p2)), (3, .int (p3)), (4, .int (s.1)), (5, .int (s.2.1)), (6, .int (s.2.2))] [] (h) :=
  wl_ind (B := fun K s => w_X8_war_l79 p1 p2 p3 h Q Qx K (s.1) (s.2.1) (s.2.2)) (P := fun s => G X M_X8_war E_X8_war (QM X E_X8_war (QI Q) Qx) 0 79 [(0, .ref (0)), (2, .int (p2)), (3, .int (p3)), (4, .int (s.1)), (5, .int (s.2.1)), (6, .int (s.2.2))] [] (h)) (fun K hK s hw => t_X8_war_l79 p1 p2 p3 h Q Qx K (s.1) (s.2.1) (s.2.2) hK hw) s hw
theorem t_X8_war {X : Cx} (p1 : Int32) (p2 : Int32) (p3 : Int32) (h : Hp) (Q : Int32 → Hp → Prop) (Qx : String → Hp → Prop) (hw : w_X8_war p1 p2 p3 h Q Qx) : G X M_X8_war E_X8_war (QM X E_X8_war (QI Q) Qx) 4 0 [(0, .ref (0)), (1, .int (p1)), (2, .int (p2)), (3, .int (p3))] [] h := by
  unfold w_X8_war at hw
  refine g_iload_n 1 (dk D_X8_war 0 rfl) rfl rfl ?_
  refine g_callS (As := [.int (p1)]) (kc := 3) (fr := 6) (lo := 82) (mc := 1) (My := M_X8_needDay) (dk D_X8_war 1 rfl) w_1039 w_1040 w_101 w_1041 okD_X8_needDay (by decide) (Nat.le_of_ble_eq_true rfl) rfl (c_X8_needDay (p1) (h) _ _ hw) kxT (kVp (fun hw => ?_))
  refine g_iload_n 2 (dk D_X8_war 2 rfl) rfl rfl ?_
  refine g_iconst (dk D_X8_war 3 rfl) ki_0 ?_
  refine g_bipush (dk D_X8_war 4 rfl) kb_20 ?_
  refine g_callS (As := [.int (p2), .int ((0 : Int32)), .int ((20 : Int32))]) (kc := 2) (fr := 6) (lo := 82) (mc := 1) (My := M_X8_needBetween) (dk D_X8_war 5 rfl) w_703 w_704 w_101 w_705 okD_X8_needBetween (by decide) (Nat.le_of_ble_eq_true rfl) rfl (c_X8_needBetween (p2) ((0 : Int32)) ((20 : Int32)) (h) _ _ hw) kxT (kVp (fun hw => ?_))
  refine g_iload_n 3 (dk D_X8_war 6 rfl) rfl rfl ?_
  refine g_iconst (dk D_X8_war 7 rfl) ki_0 ?_
  refine g_iconst (dk D_X8_war 8 rfl) ki_1 ?_
  refine g_callS (As := [.int (p3), .int ((0 : Int32)), .int ((1 : Int32))]) (kc := 1) (fr := 6) (lo := 82) (mc := 1) (My := M_X8_needBetween) (dk D_X8_war 9 rfl) w_703 w_704 w_101 w_705 okD_X8_needBetween (by decide) (Nat.le_of_ble_eq_true rfl) rfl (c_X8_needBetween (p3) ((0 : Int32)) ((1 : Int32)) (h) _ _ hw) kxT (kVp (fun hw => ?_))
  refine g_aload_n 0 (dk D_X8_war 10 rfl) rfl rfl ?_
  refine g_getR 1 (t := 3) (dk D_X8_war 11 rfl) kd_0 rfl rfl (by decide) w_435 rfl rfl rfl ?_
  refine g_getNZ 14 (dk D_X8_war 12 rfl) roadP_3.1 rfl rfl (by decide) w_213 rfl rfl ?_
  refine g_if_eq (dk D_X8_war 13 rfl) rfl (wif_m hw (fun hw => ?_) (fun hw => ?_))
  · exact g_throwSW (kc := 0) 31 xnm rfl (by decide +kernel) xnm_ok rfl w_1262 w_123 atS_296 (dk D_X8_war 17 rfl) (dk D_X8_war 18 rfl) (dk D_X8_war 19 rfl) (dk D_X8_war 20 rfl) (dk D_X8_war 21 rfl) (by decide) (by decide) hw
  · refine g_aload_n 0 (dk D_X8_war 14 rfl) rfl rfl ?_
    refine g_getI 14 (dk D_X8_war 15 rfl) kd_0 rfl rfl (by decide) w_448 rfl rfl ?_
    refine g_if_gt (dk D_X8_war 16 rfl) rfl (wif_m hw (fun hw => ?_) (fun hw => ?_))
    · refine g_aload_n 0 (dk D_X8_war 22 rfl) rfl rfl ?_
      refine g_iload_n 1 (dk D_X8_war 23 rfl) rfl rfl ?_
      refine g_callV (As := [.int (p1)]) (kc := 1) (fr := 7) (lo := 219) (mc := 0) (My := M_X8_reckonTakings) (dk D_X8_war 24 rfl) kd_0 rfl rfl w_1278 w_1280 w_38 w_101 w_1281 okD_X8_reckonTakings (by decide) (Nat.le_of_ble_eq_true rfl) rfl (c_X8_reckonTakings (p1) (h) _ hw) kxN (kV (fun h1 hw => ?_))
      refine g_aload_n 0 (dk D_X8_war 25 rfl) rfl rfl ?_
      refine g_getR 11 (t := 62) (dk D_X8_war 26 rfl) kd_0 rfl rfl (by decide) w_445 rfl rfl rfl ?_
      refine g_getNR 0 (t := 63) (dk D_X8_war 27 rfl) recP_62.1 rfl rfl (by decide) w_402 rfl rfl rfl ?_
      refine g_iconst (dk D_X8_war 28 rfl) ki_0 ?_
      refine g_callS (As := [.ref (63), .int ((0 : Int32))]) (kc := 1) (fr := 0) (lo := 0) (mc := 0) (My := M_X8_at) (dk D_X8_war 29 rfl) w_517 w_518 w_101 w_519 okD_X8_at (by decide) (Nat.le_of_ble_eq_true rfl) rfl (c_X8_at 63 2 ((0 : Int32)) (kd_63) (h1) _ hw) kxN (kIp (fun z2 hw => ?_))
      refine g_istore (dk D_X8_war 30 rfl) (by decide) rfl ?_
      refine g_aload_n 1 (dk D_X8_war 31 rfl) rfl rfl ?_
      refine g_getR 11 (t := 62) (dk D_X8_war 32 rfl) kd_0 rfl rfl (by decide) w_445 rfl rfl rfl ?_
      refine g_getNR 0 (t := 63) (dk D_X8_war 33 rfl) recP_62.1 rfl rfl (by decide) w_402 rfl rfl rfl ?_
      refine g_iconst (dk D_X8_war 34 rfl) ki_1 ?_
      refine g_callS (As := [.ref (63), .int ((1 : Int32))]) (kc := 1) (fr := 0) (lo := 0) (mc := 0) (My := M_X8_at) (dk D_X8_war 35 rfl) w_517 w_518 w_101 w_519 okD_X8_at (by decide) (Nat.le_of_ble_eq_true rfl) rfl (c_X8_at 63 2 ((1 : Int32)) (kd_63) (h1) _ hw) kxN (kIp (fun z3 hw => ?_))
      refine g_istore (dk D_X8_war 36 rfl) (by decide) rfl ?_
      refine g_iconst (dk D_X8_war 37 rfl) ki_0 ?_
      refine g_istore (dk D_X8_war 38 rfl) (by decide) rfl ?_
      refine g_less (kc' := 0) (by decide) ?_
      refine g_sub [3, 5, 6, 2, 1, 0] rfl ?_
      exact t_X8_war_b79 p1 p2 p3 (h1) Q Qx (z2, z3, (0 : Int32)) hw
    · exact g_throwSW (kc := 0) 31 xnm rfl (by decide +kernel) xnm_ok rfl w_1262 w_123 atS_296 (dk D_X8_war 17 rfl) (dk D_X8_war 18 rfl) (dk D_X8_war 19 rfl) (dk D_X8_war 20 rfl) (dk D_X8_war 21 rfl) (by decide) (by decide) hw
theorem c_X8_war {X : Cx} (p1 : Int32) (p2 : Int32) (p3 : Int32) (h : Hp) (Q : Int32 → Hp → Prop) (Qx : String → Hp → Prop) (hw : w_X8_war p1 p2 p3 h Q Qx) : Con X yX8_war M_X8_war 8 250 4 [.ref (0), .int (p1), .int (p2), .int (p3)] h (QI Q) Qx :=
  con_of (by decide +kernel) rfl (Nat.le_of_ble_eq_true rfl) (t_X8_war p1 p2 p3 h Q Qx hw)
