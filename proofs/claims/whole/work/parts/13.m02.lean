/-! ShadowTolls$Road.fare(LShadowTolls$Law;IIIIZ)I -/
abbrev M_X4_fare : Mi := (RX4, cX4_fare, 10, (some .int))
abbrev E_X4_fare : Rm := (3, 97, 0, 0)
def rows_X4_fare : List (Nat × Instr × Nat) := [(0, .iload 6, 2), (2, .ifCond .eq 7, 3), (5, .iconst 0, 1), (6, .goto 12, 3), (9, .aload_n 0, 1), (10, .iload_n 2, 1), (11, .iload 4, 2), (13, .iload 5, 2), (15, .invokevirtual 104, 3), (18, .istore 7, 2), (20, .aload_n 0, 1), (21, .aload_n 1, 1), (22, .iload 7, 2), (24, .aload_n 0, 1), (25, .iload_n 3, 1), (26, .invokevirtual 108, 3), (29, .aload_n 0, 1), (30, .iload_n 3, 1), (31, .iconst 1, 1), (32, .invokevirtual 78, 3), (35, .iload 4, 2), (37, .iload 5, 2), (39, .invokevirtual 111, 3), (42, .istore 8, 2), (44, .aload_n 0, 1), (45, .iload_n 3, 1), (46, .bipush 6, 2), (48, .invokevirtual 78, 3), (51, .istore 9, 2), (53, .iload 9, 2), (55, .ifCond .ne 6, 3), (58, .iload 8, 2), (60, .ireturn, 1), (61, .iload 8, 2), (63, .aload_n 0, 1), (64, .aload_n 1, 1), (65, .iload 7, 2), (67, .iload 9, 2), (69, .iconst 2, 1), (70, .aload_n 0, 1), (71, .iload_n 3, 1), (72, .iconst 1, 1), (73, .invokevirtual 78, 3), (76, .imul, 1), (77, .iload 4, 2), (79, .iload 5, 2), (81, .invokevirtual 111, 3), (84, .invokestatic 82, 3), (87, .ireturn, 1)]
theorem D_X4_fare : dkA cX4_fare rows_X4_fare := by
  unfold dkA
  decide +kernel
theorem okD_X4_fare : okD yX4_fare 6 := by
  unfold okD
  decide +kernel
def w_X4_fare_b18 (this : Nat) (r1 : Nat) (p2 : Int32) (p3 : Int32) (p4 : Int32) (p5 : Int32) (p6 : Int32) (s0 : Int32) (h : Hp) (Q : Int32 → Hp → Prop) : Prop :=
  w_X4_standing this (p3) h (fun z1 => w_X4_trait this (p3) ((1 : Int32)) h (fun z2 => w_X4_charge this r1 (s0) (z1) (z2) (p4) (p5) h (fun z3 h4 => w_X4_trait this (p3) ((6 : Int32)) h4 (fun z5 => wif (¬ z5 = 0) (w_X4_trait this (p3) ((1 : Int32)) h4 (fun z6 => w_X4_charge this r1 (s0) (z5) (((2 : Int32) * z6)) (p4) (p5) h4 (fun z7 h8 => Q (if z7 < z3 then z7 else z3) h8))) (Q z3 h4)))))
def w_X4_fare (this : Nat) (r1 : Nat) (p2 : Int32) (p3 : Int32) (p4 : Int32) (p5 : Int32) (p6 : Int32) (h : Hp) (Q : Int32 → Hp → Prop) : Prop :=
  wif (p6 = 0) (w_X4_altitudeAt this (p2) (p4) (p5) h (fun z1 => w_X4_fare_b18 this r1 p2 p3 p4 p5 p6 (z1) (h) Q)) (w_X4_fare_b18 this r1 p2 p3 p4 p5 p6 ((0 : Int32)) (h) Q)
theorem t_X4_fare_b18 {X : Cx} (this : Nat) (r1 : Nat) (p2 : Int32) (p3 : Int32) (p4 : Int32) (p5 : Int32) (p6 : Int32) (s0 : Int32) (h : Hp) (Q : Int32 → Hp → Prop) (hthis : RoadP this) (hr1 : LawP r1) (hw : w_X4_fare_b18 this r1 p2 p3 p4 p5 p6 s0 h Q) : G X M_X4_fare E_X4_fare (QM X E_X4_fare (QI Q) Qn) 0 18 [(0, .ref (this)), (1, .ref (r1)), (3, .int (p3)), (4, .int (p4)), (5, .int (p5))] [.int (s0)] h := by
  unfold w_X4_fare_b18 at hw
  refine g_istore (dk D_X4_fare 9 rfl) (by decide) rfl ?_
  refine g_aload_n 1 (dk D_X4_fare 10 rfl) rfl rfl ?_
  refine g_aload_n 2 (dk D_X4_fare 11 rfl) rfl rfl ?_
  refine g_iload 0 (dk D_X4_fare 12 rfl) rfl ?_
  refine g_aload_n 1 (dk D_X4_fare 13 rfl) rfl rfl ?_
  refine g_iload_n 3 (dk D_X4_fare 14 rfl) rfl rfl ?_
  refine g_callV (As := [.int (p3)]) (kc := 0) (fr := 2) (lo := 59) (mc := 0) (My := M_X4_standing) (dk D_X4_fare 15 rfl) hthis.1 rfl rfl w_582 w_542 w_543 w_103 w_544 okD_X4_standing (by decide) (Nat.le_of_ble_eq_true rfl) rfl (c_X4_standing this (p3) (hthis) (h) _ hw) kxN (kIp (fun z1 hw => ?_))
  refine g_aload_n 1 (dk D_X4_fare 16 rfl) rfl rfl ?_
  refine g_iload_n 3 (dk D_X4_fare 17 rfl) rfl rfl ?_
  refine g_iconst (dk D_X4_fare 18 rfl) ki_1 ?_
  refine g_callV (As := [.int (p3), .int ((1 : Int32))]) (kc := 0) (fr := 1) (lo := 29) (mc := 0) (My := M_X4_trait) (dk D_X4_fare 19 rfl) hthis.1 rfl rfl w_545 w_546 w_547 w_103 w_548 okD_X4_trait (by decide) (Nat.le_of_ble_eq_true rfl) rfl (c_X4_trait this (p3) ((1 : Int32)) (hthis) (h) _ hw) kxN (kIp (fun z2 hw => ?_))
  refine g_iload 4 (dk D_X4_fare 20 rfl) rfl ?_
  refine g_iload 5 (dk D_X4_fare 21 rfl) rfl ?_
  refine g_callV (As := [.ref (r1), .int (s0), .int (z1), .int (z2), .int (p4), .int (p5)]) (kc := 0) (fr := 2) (lo := 63) (mc := 0) (My := M_X4_charge) (dk D_X4_fare 22 rfl) hthis.1 rfl rfl w_583 w_584 w_585 w_103 w_586 okD_X4_charge (by decide) (Nat.le_of_ble_eq_true rfl) rfl (c_X4_charge this r1 (s0) (z1) (z2) (p4) (p5) (hthis) (hr1) (h) _ hw) kxN (kI (fun z3 h4 hw => ?_))
  refine g_istore (dk D_X4_fare 23 rfl) (by decide) rfl ?_
  refine g_aload_n 2 (dk D_X4_fare 24 rfl) rfl rfl ?_
  refine g_iload_n 4 (dk D_X4_fare 25 rfl) rfl rfl ?_
  refine g_bipush (dk D_X4_fare 26 rfl) kb_6 ?_
  refine g_callV (As := [.int (p3), .int ((6 : Int32))]) (kc := 0) (fr := 1) (lo := 29) (mc := 0) (My := M_X4_trait) (dk D_X4_fare 27 rfl) hthis.1 rfl rfl w_545 w_546 w_547 w_103 w_548 okD_X4_trait (by decide) (Nat.le_of_ble_eq_true rfl) rfl (c_X4_trait this (p3) ((6 : Int32)) (hthis) (h4) _ hw) kxN (kIp (fun z5 hw => ?_))
  refine g_istore (dk D_X4_fare 28 rfl) (by decide) rfl ?_
  refine g_iload 0 (dk D_X4_fare 29 rfl) rfl ?_
  refine g_if_ne (dk D_X4_fare 30 rfl) rfl (wif_m hw (fun hw => ?_) (fun hw => ?_))
  · refine g_iload 1 (dk D_X4_fare 33 rfl) rfl ?_
    refine g_aload_n 3 (dk D_X4_fare 34 rfl) rfl rfl ?_
    refine g_aload_n 4 (dk D_X4_fare 35 rfl) rfl rfl ?_
    refine g_iload 2 (dk D_X4_fare 36 rfl) rfl ?_
    refine g_iload 0 (dk D_X4_fare 37 rfl) rfl ?_
    refine g_iconst (dk D_X4_fare 38 rfl) ki_2 ?_
    refine g_aload_n 3 (dk D_X4_fare 39 rfl) rfl rfl ?_
    refine g_iload_n 5 (dk D_X4_fare 40 rfl) rfl rfl ?_
    refine g_iconst (dk D_X4_fare 41 rfl) ki_1 ?_
    refine g_callV (As := [.int (p3), .int ((1 : Int32))]) (kc := 0) (fr := 1) (lo := 29) (mc := 0) (My := M_X4_trait) (dk D_X4_fare 42 rfl) hthis.1 rfl rfl w_545 w_546 w_547 w_103 w_548 okD_X4_trait (by decide) (Nat.le_of_ble_eq_true rfl) rfl (c_X4_trait this (p3) ((1 : Int32)) (hthis) (h4) _ hw) kxN (kIp (fun z6 hw => ?_))
    refine g_imul (dk D_X4_fare 43 rfl) ?_
    refine g_iload 6 (dk D_X4_fare 44 rfl) rfl ?_
    refine g_iload 7 (dk D_X4_fare 45 rfl) rfl ?_
    refine g_callV (As := [.ref (r1), .int (s0), .int (z5), .int (((2 : Int32) * z6)), .int (p4), .int (p5)]) (kc := 0) (fr := 2) (lo := 63) (mc := 0) (My := M_X4_charge) (dk D_X4_fare 46 rfl) hthis.1 rfl rfl w_583 w_584 w_585 w_103 w_586 okD_X4_charge (by decide) (Nat.le_of_ble_eq_true rfl) rfl (c_X4_charge this r1 (s0) (z5) (((2 : Int32) * z6)) (p4) (p5) (hthis) (hr1) (h4) _ hw) kxN (kI (fun z7 h8 hw => ?_))
    refine g_mmin (dk D_X4_fare 47 rfl) w_510 (by decide) (Nat.le_of_ble_eq_true rfl) ?_
    exact g_iret (dk D_X4_fare 48 rfl) rfl ⟨_, rfl, hw⟩
  · refine g_iload 1 (dk D_X4_fare 31 rfl) rfl ?_
    exact g_iret (dk D_X4_fare 32 rfl) rfl ⟨_, rfl, hw⟩
theorem t_X4_fare {X : Cx} (this : Nat) (r1 : Nat) (p2 : Int32) (p3 : Int32) (p4 : Int32) (p5 : Int32) (p6 : Int32) (h : Hp) (Q : Int32 → Hp → Prop) (hthis : RoadP this) (hr1 : LawP r1) (hw : w_X4_fare this r1 p2 p3 p4 p5 p6 h Q) : G X M_X4_fare E_X4_fare (QM X E_X4_fare (QI Q) Qn) 0 0 [(0, .ref (this)), (1, .ref (r1)), (2, .int (p2)), (3, .int (p3)), (4, .int (p4)), (5, .int (p5)), (6, .int (p6))] [] h := by
  unfold w_X4_fare at hw
  refine g_iload 6 (dk D_X4_fare 0 rfl) rfl ?_
  refine g_if_eq (dk D_X4_fare 1 rfl) rfl (wif_m hw (fun hw => ?_) (fun hw => ?_))
  · refine g_aload_n 0 (dk D_X4_fare 4 rfl) rfl rfl ?_
    refine g_iload_n 2 (dk D_X4_fare 5 rfl) rfl rfl ?_
    refine g_iload 4 (dk D_X4_fare 6 rfl) rfl ?_
    refine g_iload 5 (dk D_X4_fare 7 rfl) rfl ?_
    refine g_callV (As := [.int (p2), .int (p4), .int (p5)]) (kc := 0) (fr := 1) (lo := 30) (mc := 0) (My := M_X4_altitudeAt) (dk D_X4_fare 8 rfl) hthis.1 rfl rfl w_575 w_576 w_577 w_103 w_578 okD_X4_altitudeAt (by decide) (Nat.le_of_ble_eq_true rfl) rfl (c_X4_altitudeAt this (p2) (p4) (p5) (hthis) (h) _ hw) kxN (kIp (fun z1 hw => ?_))
    refine g_sub [0, 1, 3, 4, 5] rfl ?_
    exact t_X4_fare_b18 this r1 p2 p3 p4 p5 p6 (z1) (h) Q hthis hr1 hw
  · refine g_iconst (dk D_X4_fare 2 rfl) ki_0 ?_
    refine g_goto (dk D_X4_fare 3 rfl) rfl ?_
    refine g_sub [0, 1, 3, 4, 5] rfl ?_
    exact t_X4_fare_b18 this r1 p2 p3 p4 p5 p6 ((0 : Int32)) (h) Q hthis hr1 hw
theorem c_X4_fare {X : Cx} (this : Nat) (r1 : Nat) (p2 : Int32) (p3 : Int32) (p4 : Int32) (p5 : Int32) (p6 : Int32) (hthis : RoadP this) (hr1 : LawP r1) (h : Hp) (Q : Int32 → Hp → Prop) (hw : w_X4_fare this r1 p2 p3 p4 p5 p6 h Q) : Con X yX4_fare M_X4_fare 3 97 0 [.ref (this), .ref (r1), .int (p2), .int (p3), .int (p4), .int (p5), .int (p6)] h (QI Q) Qn :=
  con_of (by decide +kernel) rfl (Nat.le_of_ble_eq_true rfl) (t_X4_fare this r1 p2 p3 p4 p5 p6 h Q hthis hr1 hw)
/-! ShadowTolls$Road.extra(III)I -/
abbrev M_X4_extra : Mi := (RX4, cX4_extra, 4, (some .int))
abbrev E_X4_extra : Rm := (2, 59, 0, 0)
def rows_X4_extra : List (Nat × Instr × Nat) := [(0, .aload_n 0, 1), (1, .iload_n 2, 1), (2, .iconst 4, 1), (3, .invokevirtual 78, 3), (6, .iload_n 3, 1), (7, .aload_n 0, 1), (8, .iload_n 2, 1), (9, .iconst 2, 1), (10, .invokevirtual 78, 3), (13, .isub, 1), (14, .imul, 1), (15, .iload_n 1, 1), (16, .ifCond .ne 7, 3), (19, .iconst 0, 1), (20, .goto 7, 3), (23, .aload_n 0, 1), (24, .getfield 56, 3), (27, .iadd, 1), (28, .ireturn, 1)]
theorem D_X4_extra : dkA cX4_extra rows_X4_extra := by
  unfold dkA
  decide +kernel
theorem okD_X4_extra : okD yX4_extra 3 := by
  unfold okD
  decide +kernel
def w_X4_extra (this : Nat) (p1 : Int32) (p2 : Int32) (p3 : Int32) (h : Hp) (Q : Int32 → Prop) : Prop :=
  w_X4_trait this (p2) ((4 : Int32)) h (fun z1 => w_X4_trait this (p2) ((2 : Int32)) h (fun z2 => Q ((z1 * (p3 - z2)) + (if ¬ p1 = 0 then (h this 12) else (0 : Int32)))))
theorem t_X4_extra {X : Cx} (this : Nat) (p1 : Int32) (p2 : Int32) (p3 : Int32) (h : Hp) (Q : Int32 → Prop) (hthis : RoadP this) (hw : w_X4_extra this p1 p2 p3 h Q) : G X M_X4_extra E_X4_extra (QM X E_X4_extra (QIp h Q) Qn) 0 0 [(0, .ref (this)), (1, .int (p1)), (2, .int (p2)), (3, .int (p3))] [] h := by
  unfold w_X4_extra at hw
  refine g_aload_n 0 (dk D_X4_extra 0 rfl) rfl rfl ?_
  refine g_iload_n 2 (dk D_X4_extra 1 rfl) rfl rfl ?_
  refine g_iconst (dk D_X4_extra 2 rfl) ki_4 ?_
  refine g_callV (As := [.int (p2), .int ((4 : Int32))]) (kc := 0) (fr := 1) (lo := 29) (mc := 0) (My := M_X4_trait) (dk D_X4_extra 3 rfl) hthis.1 rfl rfl w_545 w_546 w_547 w_103 w_548 okD_X4_trait (by decide) (Nat.le_of_ble_eq_true rfl) rfl (c_X4_trait this (p2) ((4 : Int32)) (hthis) (h) _ hw) kxN (kIp (fun z1 hw => ?_))
  refine g_iload_n 3 (dk D_X4_extra 4 rfl) rfl rfl ?_
  refine g_aload_n 0 (dk D_X4_extra 5 rfl) rfl rfl ?_
  refine g_iload_n 2 (dk D_X4_extra 6 rfl) rfl rfl ?_
  refine g_iconst (dk D_X4_extra 7 rfl) ki_2 ?_
  refine g_callV (As := [.int (p2), .int ((2 : Int32))]) (kc := 0) (fr := 1) (lo := 29) (mc := 0) (My := M_X4_trait) (dk D_X4_extra 8 rfl) hthis.1 rfl rfl w_545 w_546 w_547 w_103 w_548 okD_X4_trait (by decide) (Nat.le_of_ble_eq_true rfl) rfl (c_X4_trait this (p2) ((2 : Int32)) (hthis) (h) _ hw) kxN (kIp (fun z2 hw => ?_))
  refine g_isub (dk D_X4_extra 9 rfl) ?_
  refine g_imul (dk D_X4_extra 10 rfl) ?_
  refine g_iload_n 1 (dk D_X4_extra 11 rfl) rfl rfl ?_
  have hj : G X M_X4_extra E_X4_extra (QM X E_X4_extra (QIp h Q) Qn) 0 27 [(0, .ref (this)), (1, .int (p1)), (2, .int (p2)), (3, .int (p3))] [.int ((if ¬ p1 = 0 then (h this 12) else (0 : Int32))), .int ((z1 * (p3 - z2)))] (h) := by
    refine g_iadd (dk D_X4_extra 17 rfl) ?_
    exact g_iret (dk D_X4_extra 18 rfl) rfl ⟨_, rfl, rfl, hw⟩
  refine g_if_ne (dk D_X4_extra 12 rfl) rfl ?_
  by_cases c3 : ¬ p1 = 0
  · rw [if_pos c3] at hj
    refine wif_p c3 ?_
    refine g_aload_n 0 (dk D_X4_extra 15 rfl) rfl rfl ?_
    refine g_getI 12 (dk D_X4_extra 16 rfl) hthis.1 rfl rfl (by decide) w_206 rfl rfl ?_
    exact hj
  · rw [if_neg c3] at hj
    refine wif_n c3 ?_
    refine g_iconst (dk D_X4_extra 13 rfl) ki_0 ?_
    refine g_goto (dk D_X4_extra 14 rfl) rfl ?_
    exact hj
theorem c_X4_extra {X : Cx} (this : Nat) (p1 : Int32) (p2 : Int32) (p3 : Int32) (hthis : RoadP this) (h : Hp) (Q : Int32 → Prop) (hw : w_X4_extra this p1 p2 p3 h Q) : Con X yX4_extra M_X4_extra 2 59 0 [.ref (this), .int (p1), .int (p2), .int (p3)] h (QIp h Q) Qn :=
  con_of (by decide +kernel) rfl (Nat.le_of_ble_eq_true rfl) (t_X4_extra this p1 p2 p3 h Q hthis hw)
/-! ShadowTolls$Planner.price(LShadowTolls$Law;II)V -/
abbrev M_X2_price : Mi := (RX2, cX2_price, 9, none)
abbrev E_X2_price : Rm := (4, 134, 0, 0)
def rows_X2_price : List (Nat × Instr × Nat) := [(0, .iconst 0, 1), (1, .istore 4, 2), (3, .iload 4, 2), (5, .aload_n 0, 1), (6, .getfield 66, 3), (9, .if_icmp .ge 184, 3), (12, .aload_n 0, 1), (13, .getfield 52, 3), (16, .iload 4, 2), (18, .invokevirtual 83, 3), (21, .istore 5, 2), (23, .iload_n 2, 1), (24, .aload_n 0, 1), (25, .getfield 66, 3), (28, .imul, 1), (29, .iload 4, 2), (31, .iadd, 1), (32, .istore 6, 2), (34, .iconst 0, 1), (35, .istore 7, 2), (37, .iconst 0, 1), (38, .istore 8, 2), (40, .iload 8, 2), (42, .bipush 8, 2), (44, .if_icmp .ge 132, 3), (47, .aload_n 0, 1), (48, .getfield 56, 3), (51, .iload 8, 2), (53, .ishr, 1), (54, .iconst 1, 1), (55, .iand, 1), (56, .iconst 1, 1), (57, .if_icmp .ne 113, 3), (60, .aload_n 0, 1), (61, .getfield 52, 3), (64, .iload 8, 2), (66, .iload 5, 2), (68, .invokevirtual 86, 3), (71, .ifCond .eq 99, 3), (74, .iload 7, 2), (76, .iconst 1, 1), (77, .iload 8, 2), (79, .ishl, 1), (80, .ior, 1), (81, .istore 7, 2), (83, .aload_n 0, 1), (84, .getfield 15, 3), (87, .iload 6, 2), (89, .bipush 8, 2), (91, .imul, 1), (92, .iload 8, 2), (94, .iadd, 1), (95, .aload_n 0, 1), (96, .getfield 52, 3), (99, .aload_n 1, 1), (100, .iload_n 2, 1), (101, .iload 8, 2), (103, .iload_n 3, 1), (104, .iload 5, 2), (106, .iconst 0, 1), (107, .invokevirtual 90, 3), (110, .invokestatic 79, 3), (113, .aload_n 0, 1), (114, .getfield 18, 3), (117, .iload 6, 2), (119, .bipush 8, 2), (121, .imul, 1), (122, .iload 8, 2), (124, .iadd, 1), (125, .aload_n 0, 1), (126, .getfield 52, 3), (129, .aload_n 1, 1), (130, .iload_n 2, 1), (131, .iload 8, 2), (133, .iload_n 3, 1), (134, .iload 5, 2), (136, .iconst 1, 1), (137, .invokevirtual 90, 3), (140, .invokestatic 79, 3), (143, .aload_n 0, 1), (144, .getfield 21, 3), (147, .iload 6, 2), (149, .bipush 8, 2), (151, .imul, 1), (152, .iload 8, 2), (154, .iadd, 1), (155, .aload_n 0, 1), (156, .getfield 52, 3), (159, .iload_n 2, 1), (160, .iload 8, 2), (162, .iload 5, 2), (164, .invokevirtual 94, 3), (167, .invokestatic 79, 3), (170, .iinc 8 1, 3), (173, .goto (-133), 3), (176, .aload_n 0, 1), (177, .getfield 9, 3), (180, .iload 6, 2), (182, .iload 7, 2), (184, .invokestatic 79, 3), (187, .iinc 4 1, 3), (190, .goto (-187), 3), (193, .return_, 1)]
theorem D_X2_price : dkA cX2_price rows_X2_price := by
  unfold dkA
  decide +kernel
theorem okD_X2_price : okD yX2_price 3 := by
  unfold okD
  decide +kernel
def w_X2_price_b170 (r1 : Nat) (p2 : Int32) (p3 : Int32) (v4 : Int32) (v5 : Int32) (v6 : Int32) (v7 : Int32) (v8 : Int32) (K3 : Int32 × Hp → Prop) (K40 : Int32 × Int32 × Hp → Prop) (h : Hp) (Q : Hp → Prop) : Prop :=
  K40 (v7, (v8 + (1 : Int32)), h)
def w_X2_price_l40 (r1 : Nat) (p2 : Int32) (p3 : Int32) (v4 : Int32) (v5 : Int32) (v6 : Int32) (K3 : Int32 × Hp → Prop) (Q : Hp → Prop) (K40 : Int32 × Int32 × Hp → Prop) (v7 : Int32) (v8 : Int32) (h : Hp) : Prop :=
  wif ((8 : Int32) ≤ v8) (w_X8_put 45 60 (v6) (v7) h (fun h1 => K3 ((v4 + (1 : Int32)), h1))) (wif (¬ (((h 44 14) >>> (v8 &&& 31)) &&& (1 : Int32)) = (1 : Int32)) (w_X2_price_b170 r1 p2 p3 (v4) (v5) (v6) (v7) (v8) K3 K40 (h) Q) (w_X4_mayCome 3 (v8) (v5) h (fun z2 => wif (z2 = 0) (w_X2_price_b170 r1 p2 p3 (v4) (v5) (v6) (v7) (v8) K3 K40 (h) Q) (wlet ((v7 ||| ((1 : Int32) <<< (v8 &&& 31)))) (fun v7_3 => w_X4_fare 3 r1 (p2) (v8) (p3) (v5) ((0 : Int32)) h (fun z4 h5 => w_X8_put 46 480 (((v6 * (8 : Int32)) + v8)) (z4) h5 (fun h6 => w_X4_fare 3 r1 (p2) (v8) (p3) (v5) ((1 : Int32)) h6 (fun z7 h8 => w_X8_put 47 480 (((v6 * (8 : Int32)) + v8)) (z7) h8 (fun h9 => w_X4_extra 3 (p2) (v8) (v5) h9 (fun z10 => w_X8_put 48 480 (((v6 * (8 : Int32)) + v8)) (z10) h9 (fun h11 => w_X2_price_b170 r1 p2 p3 (v4) (v5) (v6) (v7_3) (v8) K3 K40 (h11) Q)))))))))))
def w_X2_price_b40 (r1 : Nat) (p2 : Int32) (p3 : Int32) (v4 : Int32) (v5 : Int32) (v6 : Int32) (K3 : Int32 × Hp → Prop) (Q : Hp → Prop) (s : Int32 × Int32 × Hp) : Prop := wl (fun K s => w_X2_price_l40 r1 p2 p3 v4 v5 v6 K3 Q K s.1 s.2.1 s.2.2) s
def w_X2_price_l3 (r1 : Nat) (p2 : Int32) (p3 : Int32) (Q : Hp → Prop) (K3 : Int32 × Hp → Prop) (v4 : Int32) (h : Hp) : Prop :=
  wif ((h 44 15) ≤ v4) (Q h) (w_X4_slotMinute 3 (v4) h (fun z1 => wlet (((p2 * (h 44 15)) + v4)) (fun v6_2 => w_X2_price_b40 r1 p2 p3 (v4) (z1) (v6_2) K3 Q ((0 : Int32), (0 : Int32), h))))
def w_X2_price_b3 (r1 : Nat) (p2 : Int32) (p3 : Int32) (Q : Hp → Prop) (s : Int32 × Hp) : Prop := wl (fun K s => w_X2_price_l3 r1 p2 p3 Q K s.1 s.2) s
def w_X2_price (r1 : Nat) (p2 : Int32) (p3 : Int32) (h : Hp) (Q : Hp → Prop) : Prop :=
  w_X2_price_b3 r1 p2 p3 Q ((0 : Int32), h)
theorem t_X2_price_b170 {X : Cx} (r1 : Nat) (p2 : Int32) (p3 : Int32) (v4 : Int32) (v5 : Int32) (v6 : Int32) (v7 : Int32) (v8 : Int32) (K3 : Int32 × Hp → Prop) (K40 : Int32 × Int32 × Hp → Prop) (h : Hp) (Q : Hp → Prop) (hr1 : LawP r1) (hK3 : ∀ s : Int32 × Hp, K3 s → G X M_X2_price E_X2_price (QM X E_X2_price (QV Q) Qn) 0 3 [(0, .ref (44)), (1, .ref (r1)), (2, .int (p2)), (3, .int (p3)), (4, .int (s.1))] [] (s.2)) (hK40 : ∀ s : Int32 × Int32 × Hp, K40 s → G X M_X2_price E_X2_price (QM X E_X2_price (QV Q) Qn) 0 40 [(0, .ref (44)), (1, .ref (r1)), (2, .int (p2)), (3, .int (p3)), (4, .int (v4)), (5, .int (v5)), (6, .int (v6)), (7, .int (s.1)), (8, .int (s.2.1))] [] (s.2.2)) (hw : w_X2_price_b170 r1 p2 p3 v4 v5 v6 v7 v8 K3 K40 h Q) : G X M_X2_price E_X2_price (QM X E_X2_price (QV Q) Qn) 0 170 [(0, .ref (44)), (1, .ref (r1)), (2, .int (p2)), (3, .int (p3)), (4, .int (v4)), (5, .int (v5)), (6, .int (v6)), (7, .int (v7)), (8, .int (v8))] [] h := by
  unfold w_X2_price_b170 at hw
  refine g_iinc 8 (dk D_X2_price 93 rfl) rfl (congrArg (fun z => _ + z) ki_1) (by decide) rfl ?_
  refine g_goto (dk D_X2_price 94 rfl) rfl ?_
  refine g_sub [1, 2, 3, 4, 5, 6, 7, 8, 0] rfl ?_
  exact hK40 (v7, (v8 + (1 : Int32)), h) hw
theorem t_X2_price_l40 {X : Cx} (r1 : Nat) (p2 : Int32) (p3 : Int32) (v4 : Int32) (v5 : Int32) (v6 : Int32) (K3 : Int32 × Hp → Prop) (Q : Hp → Prop) (K40 : Int32 × Int32 × Hp → Prop) (v7 : Int32) (v8 : Int32) (h : Hp) (hr1 : LawP r1) (hK3 : ∀ s : Int32 × Hp, K3 s → G X M_X2_price E_X2_price (QM X E_X2_price (QV Q) Qn) 0 3 [(0, .ref (44)), (1, .ref (r1)), (2, .int (p2)), (3, .int (p3)), (4, .int (s.1))] [] (s.2)) (hK40 : ∀ s : Int32 × Int32 × Hp, K40 s → G X M_X2_price E_X2_price (QM X E_X2_price (QV Q) Qn) 0 40 [(0, .ref (44)), (1, .ref (r1)), (2, .int (p2)), (3, .int (p3)), (4, .int (v4)), (5, .int (v5)), (6, .int (v6)), (7, .int (s.1)), (8, .int (s.2.1))] [] (s.2.2)) (hw : w_X2_price_l40 r1 p2 p3 v4 v5 v6 K3 Q K40 v7 v8 h) : G X M_X2_price E_X2_price (QM X E_X2_price (QV Q) Qn) 0 40 [(0, .ref (44)), (1, .ref (r1)), (2, .int (p2)), (3, .int (p3)), (4, .int (v4)), (5, .int (v5)), (6, .int (v6)), (7, .int (v7)), (8, .int (v8))] [] h := by
  unfold w_X2_price_l40 at hw
  refine g_iload 8 (dk D_X2_price 22 rfl) rfl ?_
  refine g_bipush (dk D_X2_price 23 rfl) kb_8 ?_
  refine g_icmp_ge (dk D_X2_price 24 rfl) rfl (wif_m hw (fun hw => ?_) (fun hw => ?_))
  · refine g_aload_n 0 (dk D_X2_price 95 rfl) rfl rfl ?_
    refine g_getR 1 (t := 45) (dk D_X2_price 96 rfl) kd_44 rfl rfl (by decide) w_300 rfl rfl rfl ?_
    refine g_iload 6 (dk D_X2_price 97 rfl) rfl ?_
    refine g_iload 7 (dk D_X2_price 98 rfl) rfl ?_
    refine g_callSN (As := [.ref (45), .int (v6), .int (v7)]) (kc := 0) (fr := 0) (lo := 0) (mc := 0) (My := M_X8_put) (dk D_X2_price 99 rfl) w_550 w_496 w_101 w_497 okD_X8_put (by decide) (Nat.le_of_ble_eq_true rfl) rfl (c_X8_put 45 60 (v6) (v7) (kd_45) (h) _ hw) kxN (kV (fun h1 hw => ?_))
    refine g_iinc 4 (dk D_X2_price 100 rfl) rfl (congrArg (fun z => _ + z) ki_1) (by decide) rfl ?_
    refine g_goto (dk D_X2_price 101 rfl) rfl ?_
    refine g_sub [1, 2, 3, 4, 0] rfl ?_
    exact hK3 ((v4 + (1 : Int32)), h1) hw
  · refine g_aload_n 0 (dk D_X2_price 25 rfl) rfl rfl ?_
    refine g_getI 14 (dk D_X2_price 26 rfl) kd_44 rfl rfl (by decide) w_315 rfl rfl ?_
    refine g_iload 8 (dk D_X2_price 27 rfl) rfl ?_
    refine g_ishr (dk D_X2_price 28 rfl) ?_
    refine g_iconst (dk D_X2_price 29 rfl) ki_1 ?_
    refine g_iand (dk D_X2_price 30 rfl) ?_
    refine g_iconst (dk D_X2_price 31 rfl) ki_1 ?_
    refine g_icmp_ne (dk D_X2_price 32 rfl) rfl (wif_m hw (fun hw => ?_) (fun hw => ?_))
    · exact t_X2_price_b170 r1 p2 p3 (v4) (v5) (v6) (v7) (v8) K3 K40 (h) Q hr1 hK3 hK40 hw
    · refine g_aload_n 0 (dk D_X2_price 33 rfl) rfl rfl ?_
      refine g_getR 0 (t := 3) (dk D_X2_price 34 rfl) kd_44 rfl rfl (by decide) w_299 rfl rfl rfl ?_
      refine g_iload 8 (dk D_X2_price 35 rfl) rfl ?_
      refine g_iload 5 (dk D_X2_price 36 rfl) rfl ?_
      refine g_callV (As := [.int (v8), .int (v5)]) (kc := 0) (fr := 2) (lo := 59) (mc := 0) (My := M_X4_mayCome) (dk D_X2_price 37 rfl) roadP_3.1 rfl rfl w_567 w_568 w_569 w_103 w_570 okD_X4_mayCome (by decide) (Nat.le_of_ble_eq_true rfl) rfl (c_X4_mayCome 3 (v8) (v5) (roadP_3) (h) _ hw) kxN (kIp (fun z2 hw => ?_))
      refine g_if_eq (dk D_X2_price 38 rfl) rfl (wif_m hw (fun hw => ?_) (fun hw => ?_))
      · exact t_X2_price_b170 r1 p2 p3 (v4) (v5) (v6) (v7) (v8) K3 K40 (h) Q hr1 hK3 hK40 hw
      · refine g_iload 7 (dk D_X2_price 39 rfl) rfl ?_
        refine g_iconst (dk D_X2_price 40 rfl) ki_1 ?_
        refine g_iload 8 (dk D_X2_price 41 rfl) rfl ?_
        refine g_ishl (dk D_X2_price 42 rfl) ?_
        refine g_ior (dk D_X2_price 43 rfl) ?_
        refine g_topi (fun v7_3 ev7_3 => ?_)
        replace hw := hw _ ev7_3
        refine g_istore (dk D_X2_price 44 rfl) (by decide) rfl ?_
        refine g_aload_n 1 (dk D_X2_price 45 rfl) rfl rfl ?_
        refine g_getR 2 (t := 46) (dk D_X2_price 46 rfl) kd_44 rfl rfl (by decide) w_301 rfl rfl rfl ?_
        refine g_iload 7 (dk D_X2_price 47 rfl) rfl ?_
        refine g_bipush (dk D_X2_price 48 rfl) kb_8 ?_
        refine g_imul (dk D_X2_price 49 rfl) ?_
        refine g_iload 8 (dk D_X2_price 50 rfl) rfl ?_
        refine g_iadd (dk D_X2_price 51 rfl) ?_
        refine g_aload_n 1 (dk D_X2_price 52 rfl) rfl rfl ?_
        refine g_getR 0 (t := 3) (dk D_X2_price 53 rfl) kd_44 rfl rfl (by decide) w_299 rfl rfl rfl ?_
        refine g_aload_n 2 (dk D_X2_price 54 rfl) rfl rfl ?_
        refine g_iload_n 3 (dk D_X2_price 55 rfl) rfl rfl ?_
        refine g_iload 8 (dk D_X2_price 56 rfl) rfl ?_
        refine g_iload_n 4 (dk D_X2_price 57 rfl) rfl rfl ?_
        refine g_iload 6 (dk D_X2_price 58 rfl) rfl ?_
        refine g_iconst (dk D_X2_price 59 rfl) ki_0 ?_
        refine g_callV (As := [.ref (r1), .int (p2), .int (v8), .int (p3), .int (v5), .int ((0 : Int32))]) (kc := 0) (fr := 3) (lo := 97) (mc := 0) (My := M_X4_fare) (dk D_X2_price 60 rfl) roadP_3.1 rfl rfl w_571 w_572 w_573 w_103 w_574 okD_X4_fare (by decide) (Nat.le_of_ble_eq_true rfl) rfl (c_X4_fare 3 r1 (p2) (v8) (p3) (v5) ((0 : Int32)) (roadP_3) (hr1) (h) _ hw) kxN (kI (fun z4 h5 hw => ?_))
        refine g_callSN (As := [.ref (46), .int (((v6 * (8 : Int32)) + v8)), .int (z4)]) (kc := 0) (fr := 0) (lo := 0) (mc := 0) (My := M_X8_put) (dk D_X2_price 61 rfl) w_550 w_496 w_101 w_497 okD_X8_put (by decide) (Nat.le_of_ble_eq_true rfl) rfl (c_X8_put 46 480 (((v6 * (8 : Int32)) + v8)) (z4) (kd_46) (h5) _ hw) kxN (kV (fun h6 hw => ?_))
        refine g_aload_n 1 (dk D_X2_price 62 rfl) rfl rfl ?_
        refine g_getR 3 (t := 47) (dk D_X2_price 63 rfl) kd_44 rfl rfl (by decide) w_302 rfl rfl rfl ?_
        refine g_iload 7 (dk D_X2_price 64 rfl) rfl ?_
        refine g_bipush (dk D_X2_price 65 rfl) kb_8 ?_
        refine g_imul (dk D_X2_price 66 rfl) ?_
        refine g_iload 8 (dk D_X2_price 67 rfl) rfl ?_
        refine g_iadd (dk D_X2_price 68 rfl) ?_
        refine g_aload_n 1 (dk D_X2_price 69 rfl) rfl rfl ?_
        refine g_getR 0 (t := 3) (dk D_X2_price 70 rfl) kd_44 rfl rfl (by decide) w_299 rfl rfl rfl ?_
        refine g_aload_n 2 (dk D_X2_price 71 rfl) rfl rfl ?_
        refine g_iload_n 3 (dk D_X2_price 72 rfl) rfl rfl ?_
        refine g_iload 8 (dk D_X2_price 73 rfl) rfl ?_
        refine g_iload_n 4 (dk D_X2_price 74 rfl) rfl rfl ?_
        refine g_iload 6 (dk D_X2_price 75 rfl) rfl ?_
        refine g_iconst (dk D_X2_price 76 rfl) ki_1 ?_
        refine g_callV (As := [.ref (r1), .int (p2), .int (v8), .int (p3), .int (v5), .int ((1 : Int32))]) (kc := 0) (fr := 3) (lo := 97) (mc := 0) (My := M_X4_fare) (dk D_X2_price 77 rfl) roadP_3.1 rfl rfl w_571 w_572 w_573 w_103 w_574 okD_X4_fare (by decide) (Nat.le_of_ble_eq_true rfl) rfl (c_X4_fare 3 r1 (p2) (v8) (p3) (v5) ((1 : Int32)) (roadP_3) (hr1) (h6) _ hw) kxN (kI (fun z7 h8 hw => ?_))
        refine g_callSN (As := [.ref (47), .int (((v6 * (8 : Int32)) + v8)), .int (z7)]) (kc := 0) (fr := 0) (lo := 0) (mc := 0) (My := M_X8_put) (dk D_X2_price 78 rfl) w_550 w_496 w_101 w_497 okD_X8_put (by decide) (Nat.le_of_ble_eq_true rfl) rfl (c_X8_put 47 480 (((v6 * (8 : Int32)) + v8)) (z7) (kd_47) (h8) _ hw) kxN (kV (fun h9 hw => ?_))
        refine g_aload_n 1 (dk D_X2_price 79 rfl) rfl rfl ?_
        refine g_getR 4 (t := 48) (dk D_X2_price 80 rfl) kd_44 rfl rfl (by decide) w_304 rfl rfl rfl ?_
        refine g_iload 7 (dk D_X2_price 81 rfl) rfl ?_
        refine g_bipush (dk D_X2_price 82 rfl) kb_8 ?_
        refine g_imul (dk D_X2_price 83 rfl) ?_
        refine g_iload 8 (dk D_X2_price 84 rfl) rfl ?_
        refine g_iadd (dk D_X2_price 85 rfl) ?_
        refine g_aload_n 1 (dk D_X2_price 86 rfl) rfl rfl ?_
        refine g_getR 0 (t := 3) (dk D_X2_price 87 rfl) kd_44 rfl rfl (by decide) w_299 rfl rfl rfl ?_
        refine g_iload_n 3 (dk D_X2_price 88 rfl) rfl rfl ?_
        refine g_iload 8 (dk D_X2_price 89 rfl) rfl ?_
        refine g_iload 6 (dk D_X2_price 90 rfl) rfl ?_
        refine g_callV (As := [.int (p2), .int (v8), .int (v5)]) (kc := 0) (fr := 2) (lo := 59) (mc := 0) (My := M_X4_extra) (dk D_X2_price 91 rfl) roadP_3.1 rfl rfl w_611 w_612 w_613 w_103 w_614 okD_X4_extra (by decide) (Nat.le_of_ble_eq_true rfl) rfl (c_X4_extra 3 (p2) (v8) (v5) (roadP_3) (h9) _ hw) kxN (kIp (fun z10 hw => ?_))
        refine g_callSN (As := [.ref (48), .int (((v6 * (8 : Int32)) + v8)), .int (z10)]) (kc := 0) (fr := 0) (lo := 0) (mc := 0) (My := M_X8_put) (dk D_X2_price 92 rfl) w_550 w_496 w_101 w_497 okD_X8_put (by decide) (Nat.le_of_ble_eq_true rfl) rfl (c_X8_put 48 480 (((v6 * (8 : Int32)) + v8)) (z10) (kd_48) (h9) _ hw) kxN (kV (fun h11 hw => ?_))
        refine g_sub [1, 2, 3, 4, 5, 6, 7, 0, 8] rfl ?_
        exact t_X2_price_b170 r1 p2 p3 (v4) (v5) (v6) (v7_3) (v8) K3 K40 (h11) Q hr1 hK3 hK40 hw
theorem t_X2_price_b40 {X : Cx} (r1 : Nat) (p2 : Int32) (p3 : Int32) (v4 : Int32) (v5 : Int32) (v6 : Int32) (K3 : Int32 × Hp → Prop) (Q : Hp → Prop) (s : Int32 × Int32 × Hp) (hr1 : LawP r1) (hK3 : ∀ s : Int32 × Hp, K3 s → G X M_X2_price E_X2_price (QM X E_X2_price (QV Q) Qn) 0 3 [(0, .ref (44)), (1, .ref (r1)), (2, .int (p2)), (3, .int (p3)), (4, .int (s.1))] [] (s.2)) (hw : w_X2_price_b40 r1 p2 p3 v4 v5 v6 K3 Q s) : G X M_X2_price E_X2_price (QM X E_X2_price (QV Q) Qn) 0 40 [(0, .ref (44)), (1, .ref (r1)), (2, .int (p2)), (3, .int (p3)), (4, .int (v4)), (5, .int (v5)), (6, .int (v6)), (7, .int (s.1)), (8, .int (s.2.1))] [] (s.2.2) :=
  wl_ind (B := fun K s => w_X2_price_l40 r1 p2 p3 v4 v5 v6 K3 Q K (s.1) (s.2.1) (s.2.2)) (P := fun s => G X M_X2_price E_X2_price (QM X E_X2_price (QV Q) Qn) 0 40 [(0, .ref (44)), (1, .ref (r1)), (2, .int (p2)), (3, .int (p3)), (4, .int (v4)), (5, .int (v5)), (6, .int (v6)), (7, .int (s.1)), (8, .int (s.2.1))] [] (s.2.2)) (fun K hK s hw => t_X2_price_l40 r1 p2 p3 v4 v5 v6 K3 Q K (s.1) (s.2.1) (s.2.2) hr1 hK3 hK hw) s hw
theorem t_X2_price_l3 {X : Cx} (r1 : Nat) (p2 : Int32) (p3 : Int32) (Q : Hp → Prop) (K3 : Int32 × Hp → Prop) (v4 : Int32) (h : Hp) (hr1 : LawP r1) (hK3 : ∀ s : Int32 × Hp, K3 s → G X M_X2_price E_X2_price (QM X E_X2_price (QV Q) Qn) 0 3 [(0, .ref (44)), (1, .ref (r1)), (2, .int (p2)), (3, .int (p3)), (4, .int (s.1))] [] (s.2)) (hw : w_X2_price_l3 r1 p2 p3 Q K3 v4 h) : G X M_X2_price E_X2_price (QM X E_X2_price (QV Q) Qn) 0 3 [(0, .ref (44)), (1, .ref (r1)), (2, .int (p2)), (3, .int (p3)), (4, .int (v4))] [] h := by
  unfold w_X2_price_l3 at hw
  refine g_iload 4 (dk D_X2_price 2 rfl) rfl ?_
  refine g_aload_n 0 (dk D_X2_price 3 rfl) rfl rfl ?_
  refine g_getI 15 (dk D_X2_price 4 rfl) kd_44 rfl rfl (by decide) w_316 rfl rfl ?_
  refine g_icmp_ge (dk D_X2_price 5 rfl) rfl (wif_m hw (fun hw => ?_) (fun hw => ?_))
  · exact g_vret (dk D_X2_price 102 rfl) rfl ⟨rfl, hw⟩
  · refine g_aload_n 0 (dk D_X2_price 6 rfl) rfl rfl ?_
    refine g_getR 0 (t := 3) (dk D_X2_price 7 rfl) kd_44 rfl rfl (by decide) w_299 rfl rfl rfl ?_
    refine g_iload 4 (dk D_X2_price 8 rfl) rfl ?_
    refine g_callV (As := [.int (v4)]) (kc := 0) (fr := 0) (lo := 0) (mc := 0) (My := M_X4_slotMinute) (dk D_X2_price 9 rfl) roadP_3.1 rfl rfl w_563 w_564 w_565 w_103 w_566 okD_X4_slotMinute (by decide) (Nat.le_of_ble_eq_true rfl) rfl (c_X4_slotMinute 3 (v4) (roadP_3) (h) _ hw) kxN (kIp (fun z1 hw => ?_))
    refine g_istore (dk D_X2_price 10 rfl) (by decide) rfl ?_
    refine g_iload_n 3 (dk D_X2_price 11 rfl) rfl rfl ?_
    refine g_aload_n 1 (dk D_X2_price 12 rfl) rfl rfl ?_
    refine g_getI 15 (dk D_X2_price 13 rfl) kd_44 rfl rfl (by decide) w_316 rfl rfl ?_
    refine g_imul (dk D_X2_price 14 rfl) ?_
    refine g_iload 5 (dk D_X2_price 15 rfl) rfl ?_
    refine g_iadd (dk D_X2_price 16 rfl) ?_
    refine g_topi (fun v6_2 ev6_2 => ?_)
    replace hw := hw _ ev6_2
    refine g_istore (dk D_X2_price 17 rfl) (by decide) rfl ?_
    refine g_iconst (dk D_X2_price 18 rfl) ki_0 ?_
    refine g_istore (dk D_X2_price 19 rfl) (by decide) rfl ?_
    refine g_iconst (dk D_X2_price 20 rfl) ki_0 ?_
    refine g_istore (dk D_X2_price 21 rfl) (by decide) rfl ?_
    refine g_sub [4, 5, 6, 7, 8, 3, 2, 1, 0] rfl ?_
    exact t_X2_price_b40 r1 p2 p3 (v4) (z1) (v6_2) K3 Q ((0 : Int32), (0 : Int32), h) hr1 hK3 hw
theorem t_X2_price_b3 {X : Cx} (r1 : Nat) (p2 : Int32) (p3 : Int32) (Q : Hp → Prop) (s : Int32 × Hp) (hr1 : LawP r1) (hw : w_X2_price_b3 r1 p2 p3 Q s) : G X M_X2_price E_X2_price (QM X E_X2_price (QV Q) Qn) 0 3 [(0, .ref (44)), (1, .ref (r1)), (2, .int (p2)), (3, .int (p3)), (4, .int (s.1))] [] (s.2) :=
  wl_ind (B := fun K s => w_X2_price_l3 r1 p2 p3 Q K (s.1) (s.2)) (P := fun s => G X M_X2_price E_X2_price (QM X E_X2_price (QV Q) Qn) 0 3 [(0, .ref (44)), (1, .ref (r1)), (2, .int (p2)), (3, .int (p3)), (4, .int (s.1))] [] (s.2)) (fun K hK s hw => t_X2_price_l3 r1 p2 p3 Q K (s.1) (s.2) hr1 hK hw) s hw
theorem t_X2_price {X : Cx} (r1 : Nat) (p2 : Int32) (p3 : Int32) (h : Hp) (Q : Hp → Prop) (hr1 : LawP r1) (hw : w_X2_price r1 p2 p3 h Q) : G X M_X2_price E_X2_price (QM X E_X2_price (QV Q) Qn) 0 0 [(0, .ref (44)), (1, .ref (r1)), (2, .int (p2)), (3, .int (p3))] [] h := by
  unfold w_X2_price at hw
  refine g_iconst (dk D_X2_price 0 rfl) ki_0 ?_
  refine g_istore (dk D_X2_price 1 rfl) (by decide) rfl ?_
  refine g_sub [1, 2, 3, 4, 0] rfl ?_
  exact t_X2_price_b3 r1 p2 p3 Q ((0 : Int32), h) hr1 hw
theorem c_X2_price {X : Cx} (r1 : Nat) (p2 : Int32) (p3 : Int32) (hr1 : LawP r1) (h : Hp) (Q : Hp → Prop) (hw : w_X2_price r1 p2 p3 h Q) : Con X yX2_price M_X2_price 4 134 0 [.ref (44), .ref (r1), .int (p2), .int (p3)] h (QV Q) Qn :=
  con_of (by decide +kernel) rfl (Nat.le_of_ble_eq_true rfl) (t_X2_price r1 p2 p3 h Q hr1 hw)
/-! ShadowTolls$Planner.index(III)I -/
abbrev M_X2_index : Mi := (RX2, cX2_index, 3, (some .int))
abbrev E_X2_index : Rm := (0, 0, 0, 0)
def rows_X2_index : List (Nat × Instr × Nat) := [(0, .iload_n 0, 1), (1, .sipush 256, 3), (4, .imul, 1), (5, .iload_n 1, 1), (6, .iadd, 1), (7, .bipush 9, 2), (9, .imul, 1), (10, .iload_n 2, 1), (11, .iadd, 1), (12, .ireturn, 1)]
theorem D_X2_index : dkA cX2_index rows_X2_index := by
  unfold dkA
  decide +kernel
theorem okD_X2_index : okD yX2_index 3 := by
  unfold okD
  decide +kernel
def w_X2_index (p0 : Int32) (p1 : Int32) (p2 : Int32) (h : Hp) (Q : Int32 → Prop) : Prop :=
  Q ((((p0 * (256 : Int32)) + p1) * (9 : Int32)) + p2)
theorem t_X2_index {X : Cx} (p0 : Int32) (p1 : Int32) (p2 : Int32) (h : Hp) (Q : Int32 → Prop) (hw : w_X2_index p0 p1 p2 h Q) : G X M_X2_index E_X2_index (QM X E_X2_index (QIp h Q) Qn) 0 0 [(0, .int (p0)), (1, .int (p1)), (2, .int (p2))] [] h := by
  unfold w_X2_index at hw
  refine g_iload_n 0 (dk D_X2_index 0 rfl) rfl rfl ?_
  refine g_sipush (dk D_X2_index 1 rfl) ks_256 ?_
  refine g_imul (dk D_X2_index 2 rfl) ?_
  refine g_iload_n 1 (dk D_X2_index 3 rfl) rfl rfl ?_
  refine g_iadd (dk D_X2_index 4 rfl) ?_
  refine g_bipush (dk D_X2_index 5 rfl) kb_9 ?_
  refine g_imul (dk D_X2_index 6 rfl) ?_
  refine g_iload_n 2 (dk D_X2_index 7 rfl) rfl rfl ?_
  refine g_iadd (dk D_X2_index 8 rfl) ?_
  exact g_iret (dk D_X2_index 9 rfl) rfl ⟨_, rfl, rfl, hw⟩
theorem c_X2_index {X : Cx} (p0 : Int32) (p1 : Int32) (p2 : Int32) (h : Hp) (Q : Int32 → Prop) (hw : w_X2_index p0 p1 p2 h Q) : Con X yX2_index M_X2_index 0 0 0 [.int (p0), .int (p1), .int (p2)] h (QIp h Q) Qn :=
  con_of (by decide +kernel) rfl (Nat.le_of_ble_eq_true rfl) (t_X2_index p0 p1 p2 h Q hw)
/-! java/lang/Integer.bitCount(I)I -/
abbrev M_J6_bitCount_0f7a4 : Mi := (RJ6, cJ6_bitCount_0f7a4, 1, (some .int))
abbrev E_J6_bitCount_0f7a4 : Rm := (0, 0, 0, 0)
def rows_J6_bitCount_0f7a4 : List (Nat × Instr × Nat) := [(0, .iload_n 0, 1), (1, .iload_n 0, 1), (2, .iconst 1, 1), (3, .iushr, 1), (4, .ldc_w 265, 3), (7, .iand, 1), (8, .isub, 1), (9, .istore_n 0, 1), (10, .iload_n 0, 1), (11, .ldc_w 266, 3), (14, .iand, 1), (15, .iload_n 0, 1), (16, .iconst 2, 1), (17, .iushr, 1), (18, .ldc_w 266, 3), (21, .iand, 1), (22, .iadd, 1), (23, .istore_n 0, 1), (24, .iload_n 0, 1), (25, .iload_n 0, 1), (26, .iconst 4, 1), (27, .iushr, 1), (28, .iadd, 1), (29, .ldc_w 267, 3), (32, .iand, 1), (33, .istore_n 0, 1), (34, .iload_n 0, 1), (35, .iload_n 0, 1), (36, .bipush 8, 2), (38, .iushr, 1), (39, .iadd, 1), (40, .istore_n 0, 1), (41, .iload_n 0, 1), (42, .iload_n 0, 1), (43, .bipush 16, 2), (45, .iushr, 1), (46, .iadd, 1), (47, .istore_n 0, 1), (48, .iload_n 0, 1), (49, .bipush 63, 2), (51, .iand, 1), (52, .ireturn, 1)]
theorem D_J6_bitCount_0f7a4 : dkA cJ6_bitCount_0f7a4 rows_J6_bitCount_0f7a4 := by
  unfold dkA
  decide +kernel
theorem okD_J6_bitCount_0f7a4 : okD yJ6_bitCount_0f7a4 1 := by
  unfold okD
  decide +kernel
def w_J6_bitCount_0f7a4 (p0 : Int32) (h : Hp) (Q : Int32 → Prop) : Prop :=
  wlet ((p0 - (((p0).toUInt32 >>> (((1 : Int32)).toUInt32 &&& Int32.toUInt32 31)).toInt32 &&& (1431655765 : Int32)))) (fun v0_1 => wlet (((v0_1 &&& (858993459 : Int32)) + (((v0_1).toUInt32 >>> (((2 : Int32)).toUInt32 &&& Int32.toUInt32 31)).toInt32 &&& (858993459 : Int32)))) (fun v0_2 => wlet (((v0_2 + ((v0_2).toUInt32 >>> (((4 : Int32)).toUInt32 &&& Int32.toUInt32 31)).toInt32) &&& (252645135 : Int32))) (fun v0_3 => wlet ((v0_3 + ((v0_3).toUInt32 >>> (((8 : Int32)).toUInt32 &&& Int32.toUInt32 31)).toInt32)) (fun v0_4 => wlet ((v0_4 + ((v0_4).toUInt32 >>> (((16 : Int32)).toUInt32 &&& Int32.toUInt32 31)).toInt32)) (fun v0_5 => Q (v0_5 &&& (63 : Int32)))))))
theorem t_J6_bitCount_0f7a4 {X : Cx} (p0 : Int32) (h : Hp) (Q : Int32 → Prop) (hw : w_J6_bitCount_0f7a4 p0 h Q) : G X M_J6_bitCount_0f7a4 E_J6_bitCount_0f7a4 (QM X E_J6_bitCount_0f7a4 (QIp h Q) Qn) 0 0 [(0, .int (p0))] [] h := by
  unfold w_J6_bitCount_0f7a4 at hw
  refine g_iload_n 0 (dk D_J6_bitCount_0f7a4 0 rfl) rfl rfl ?_
  refine g_iload_n 0 (dk D_J6_bitCount_0f7a4 1 rfl) rfl rfl ?_
  refine g_iconst (dk D_J6_bitCount_0f7a4 2 rfl) ki_1 ?_
  refine g_iushr (dk D_J6_bitCount_0f7a4 3 rfl) ?_
  refine g_ldcw (dk D_J6_bitCount_0f7a4 4 rfl) w_630 ?_
  refine g_iand (dk D_J6_bitCount_0f7a4 5 rfl) ?_
  refine g_isub (dk D_J6_bitCount_0f7a4 6 rfl) ?_
  refine g_topi (fun v0_1 ev0_1 => ?_)
  replace hw := hw _ ev0_1
  refine g_istore_n (dk D_J6_bitCount_0f7a4 7 rfl) rfl (by decide) rfl ?_
  refine g_iload_n 0 (dk D_J6_bitCount_0f7a4 8 rfl) rfl rfl ?_
  refine g_ldcw (dk D_J6_bitCount_0f7a4 9 rfl) w_631 ?_
  refine g_iand (dk D_J6_bitCount_0f7a4 10 rfl) ?_
  refine g_iload_n 0 (dk D_J6_bitCount_0f7a4 11 rfl) rfl rfl ?_
  refine g_iconst (dk D_J6_bitCount_0f7a4 12 rfl) ki_2 ?_
  refine g_iushr (dk D_J6_bitCount_0f7a4 13 rfl) ?_
  refine g_ldcw (dk D_J6_bitCount_0f7a4 14 rfl) w_631 ?_
  refine g_iand (dk D_J6_bitCount_0f7a4 15 rfl) ?_
  refine g_iadd (dk D_J6_bitCount_0f7a4 16 rfl) ?_
  refine g_topi (fun v0_2 ev0_2 => ?_)
  replace hw := hw _ ev0_2
  refine g_istore_n (dk D_J6_bitCount_0f7a4 17 rfl) rfl (by decide) rfl ?_
  refine g_iload_n 0 (dk D_J6_bitCount_0f7a4 18 rfl) rfl rfl ?_
  refine g_iload_n 0 (dk D_J6_bitCount_0f7a4 19 rfl) rfl rfl ?_
  refine g_iconst (dk D_J6_bitCount_0f7a4 20 rfl) ki_4 ?_
  refine g_iushr (dk D_J6_bitCount_0f7a4 21 rfl) ?_
  refine g_iadd (dk D_J6_bitCount_0f7a4 22 rfl) ?_
  refine g_ldcw (dk D_J6_bitCount_0f7a4 23 rfl) w_632 ?_
  refine g_iand (dk D_J6_bitCount_0f7a4 24 rfl) ?_
  refine g_topi (fun v0_3 ev0_3 => ?_)
  replace hw := hw _ ev0_3
  refine g_istore_n (dk D_J6_bitCount_0f7a4 25 rfl) rfl (by decide) rfl ?_
  refine g_iload_n 0 (dk D_J6_bitCount_0f7a4 26 rfl) rfl rfl ?_
  refine g_iload_n 0 (dk D_J6_bitCount_0f7a4 27 rfl) rfl rfl ?_
  refine g_bipush (dk D_J6_bitCount_0f7a4 28 rfl) kb_8 ?_
  refine g_iushr (dk D_J6_bitCount_0f7a4 29 rfl) ?_
  refine g_iadd (dk D_J6_bitCount_0f7a4 30 rfl) ?_
  refine g_topi (fun v0_4 ev0_4 => ?_)
  replace hw := hw _ ev0_4
  refine g_istore_n (dk D_J6_bitCount_0f7a4 31 rfl) rfl (by decide) rfl ?_
  refine g_iload_n 0 (dk D_J6_bitCount_0f7a4 32 rfl) rfl rfl ?_
  refine g_iload_n 0 (dk D_J6_bitCount_0f7a4 33 rfl) rfl rfl ?_
  refine g_bipush (dk D_J6_bitCount_0f7a4 34 rfl) kb_16 ?_
  refine g_iushr (dk D_J6_bitCount_0f7a4 35 rfl) ?_
  refine g_iadd (dk D_J6_bitCount_0f7a4 36 rfl) ?_
  refine g_topi (fun v0_5 ev0_5 => ?_)
  replace hw := hw _ ev0_5
  refine g_istore_n (dk D_J6_bitCount_0f7a4 37 rfl) rfl (by decide) rfl ?_
  refine g_iload_n 0 (dk D_J6_bitCount_0f7a4 38 rfl) rfl rfl ?_
  refine g_bipush (dk D_J6_bitCount_0f7a4 39 rfl) kb_63 ?_
  refine g_iand (dk D_J6_bitCount_0f7a4 40 rfl) ?_
  exact g_iret (dk D_J6_bitCount_0f7a4 41 rfl) rfl ⟨_, rfl, rfl, hw⟩
theorem c_J6_bitCount_0f7a4 {X : Cx} (p0 : Int32) (h : Hp) (Q : Int32 → Prop) (hw : w_J6_bitCount_0f7a4 p0 h Q) : Con X yJ6_bitCount_0f7a4 M_J6_bitCount_0f7a4 0 0 0 [.int (p0)] h (QIp h Q) Qn :=
  con_of (by decide +kernel) rfl (Nat.le_of_ble_eq_true rfl) (t_J6_bitCount_0f7a4 p0 h Q hw)
/-! ShadowTolls$Planner.shadeReaches(I)Z -/
abbrev M_X2_shadeReaches : Mi := (RX2, cX2_shadeReaches, 2, (some .boolean))
abbrev E_X2_shadeReaches : Rm := (0, 0, 0, 0)
def rows_X2_shadeReaches : List (Nat × Instr × Nat) := [(0, .aload_n 0, 1), (1, .getfield 52, 3), (4, .getfield 134, 3), (7, .ifCond .eq 27, 3), (10, .iload_n 1, 1), (11, .ifCond .eq 23, 3), (14, .iload_n 1, 1), (15, .aload_n 0, 1), (16, .getfield 66, 3), (19, .if_icmp .eq 15, 3), (22, .iload_n 1, 1), (23, .aload_n 0, 1), (24, .getfield 69, 3), (27, .if_icmp .ge 7, 3), (30, .iconst 1, 1), (31, .goto 4, 3), (34, .iconst 0, 1), (35, .ireturn, 1)]
theorem D_X2_shadeReaches : dkA cX2_shadeReaches rows_X2_shadeReaches := by
  unfold dkA
  decide +kernel
theorem okD_X2_shadeReaches : okD yX2_shadeReaches 1 := by
  unfold okD
  decide +kernel
def w_X2_shadeReaches (p1 : Int32) (h : Hp) (Q : Int32 → Prop) : Prop :=
  wif ((h 3 13 &&& 1) = 0) (Q ((0 : Int32) &&& 1)) (Q ((if p1 = 0 then (0 : Int32) else (if p1 = (h 44 15) then (0 : Int32) else (if (h 44 16) ≤ p1 then (0 : Int32) else (1 : Int32)))) &&& 1))
theorem t_X2_shadeReaches {X : Cx} (p1 : Int32) (h : Hp) (Q : Int32 → Prop) (hw : w_X2_shadeReaches p1 h Q) : G X M_X2_shadeReaches E_X2_shadeReaches (QM X E_X2_shadeReaches (QIp h Q) Qn) 0 0 [(0, .ref (44)), (1, .int (p1))] [] h := by
  unfold w_X2_shadeReaches at hw
  refine g_aload_n 0 (dk D_X2_shadeReaches 0 rfl) rfl rfl ?_
  refine g_getR 0 (t := 3) (dk D_X2_shadeReaches 1 rfl) kd_44 rfl rfl (by decide) w_299 rfl rfl rfl ?_
  refine g_getNZ 13 (dk D_X2_shadeReaches 2 rfl) roadP_3.1 rfl rfl (by decide) w_211 rfl rfl ?_
  refine g_if_eq (dk D_X2_shadeReaches 3 rfl) rfl (wif_m hw (fun hw => ?_) (fun hw => ?_))
  · refine g_iconst (dk D_X2_shadeReaches 16 rfl) ki_0 ?_
    exact g_zret (dk D_X2_shadeReaches 17 rfl) rfl ⟨_, rfl, rfl, hw⟩
  · refine g_iload_n 1 (dk D_X2_shadeReaches 4 rfl) rfl rfl ?_
    have hj : G X M_X2_shadeReaches E_X2_shadeReaches (QM X E_X2_shadeReaches (QIp h Q) Qn) 0 35 [(0, .ref (44)), (1, .int (p1))] [.int ((if p1 = 0 then (0 : Int32) else (if p1 = (h 44 15) then (0 : Int32) else (if (h 44 16) ≤ p1 then (0 : Int32) else (1 : Int32)))))] (h) := by
      exact g_zret (dk D_X2_shadeReaches 17 rfl) rfl ⟨_, rfl, rfl, hw⟩
    refine g_if_eq (dk D_X2_shadeReaches 5 rfl) rfl ?_
    by_cases c3 : p1 = 0
    · rw [if_pos c3] at hj
      refine wif_p c3 ?_
      refine g_iconst (dk D_X2_shadeReaches 16 rfl) ki_0 ?_
      exact hj
    · rw [if_neg c3] at hj
      refine wif_n c3 ?_
      refine g_iload_n 1 (dk D_X2_shadeReaches 6 rfl) rfl rfl ?_
      refine g_aload_n 0 (dk D_X2_shadeReaches 7 rfl) rfl rfl ?_
      refine g_getI 15 (dk D_X2_shadeReaches 8 rfl) kd_44 rfl rfl (by decide) w_316 rfl rfl ?_
      refine g_icmp_eq (dk D_X2_shadeReaches 9 rfl) rfl ?_
      by_cases c2 : p1 = (h 44 15)
      · rw [if_pos c2] at hj
        refine wif_p c2 ?_
        refine g_iconst (dk D_X2_shadeReaches 16 rfl) ki_0 ?_
        exact hj
      · rw [if_neg c2] at hj
        refine wif_n c2 ?_
        refine g_iload_n 1 (dk D_X2_shadeReaches 10 rfl) rfl rfl ?_
        refine g_aload_n 0 (dk D_X2_shadeReaches 11 rfl) rfl rfl ?_
        refine g_getI 16 (dk D_X2_shadeReaches 12 rfl) kd_44 rfl rfl (by decide) w_317 rfl rfl ?_
        refine g_icmp_ge (dk D_X2_shadeReaches 13 rfl) rfl ?_
        by_cases c1 : (h 44 16) ≤ p1
        · rw [if_pos c1] at hj
          refine wif_p c1 ?_
          refine g_iconst (dk D_X2_shadeReaches 16 rfl) ki_0 ?_
          exact hj
        · rw [if_neg c1] at hj
          refine wif_n c1 ?_
          refine g_iconst (dk D_X2_shadeReaches 14 rfl) ki_1 ?_
          refine g_goto (dk D_X2_shadeReaches 15 rfl) rfl ?_
          exact hj
theorem c_X2_shadeReaches {X : Cx} (p1 : Int32) (h : Hp) (Q : Int32 → Prop) (hw : w_X2_shadeReaches p1 h Q) : Con X yX2_shadeReaches M_X2_shadeReaches 0 0 0 [.ref (44), .int (p1)] h (QIp h Q) Qn :=
  con_of (by decide +kernel) rfl (Nat.le_of_ble_eq_true rfl) (t_X2_shadeReaches p1 h Q hw)
/-! ShadowTolls$Planner.restBehind(III)I -/
abbrev M_X2_restBehind : Mi := (RX2, cX2_restBehind, 5, (some .int))
abbrev E_X2_restBehind : Rm := (1, 30, 0, 0)
def rows_X2_restBehind : List (Nat × Instr × Nat) := [(0, .aload_n 0, 1), (1, .iload_n 1, 1), (2, .iconst 1, 1), (3, .iadd, 1), (4, .invokevirtual 121, 3), (7, .ifCond .eq 7, 3), (10, .iload_n 3, 1), (11, .goto 5, 3), (14, .bipush 8, 2), (16, .istore 4, 2), (18, .aload_n 0, 1), (19, .getfield 21, 3), (22, .iload_n 1, 1), (23, .bipush 8, 2), (25, .imul, 1), (26, .iload_n 3, 1), (27, .iadd, 1), (28, .invokestatic 98, 3), (31, .aload_n 0, 1), (32, .getfield 25, 3), (35, .iload_n 1, 1), (36, .iconst 1, 1), (37, .iadd, 1), (38, .iload_n 2, 1), (39, .iconst 1, 1), (40, .iload_n 3, 1), (41, .ishl, 1), (42, .ior, 1), (43, .iload 4, 2), (45, .invokestatic 106, 3), (48, .invokestatic 98, 3), (51, .iadd, 1), (52, .ireturn, 1)]
theorem D_X2_restBehind : dkA cX2_restBehind rows_X2_restBehind := by
  unfold dkA
  decide +kernel
theorem okD_X2_restBehind : okD yX2_restBehind 3 := by
  unfold okD
  decide +kernel
def w_X2_restBehind (p1 : Int32) (p2 : Int32) (p3 : Int32) (h : Hp) (Q : Int32 → Prop) : Prop :=
  w_X2_shadeReaches ((p1 + (1 : Int32))) h (fun z1 => wlet ((if z1 = 0 then (8 : Int32) else p3)) (fun v4_3 => w_X8_at 48 480 (((p1 * (8 : Int32)) + p3)) h (fun z4 => w_X2_index ((p1 + (1 : Int32))) ((p2 ||| ((1 : Int32) <<< (p3 &&& 31)))) (v4_3) h (fun z5 => w_X8_at 49 140544 (z5) h (fun z6 => Q (z4 + z6))))))
theorem t_X2_restBehind {X : Cx} (p1 : Int32) (p2 : Int32) (p3 : Int32) (h : Hp) (Q : Int32 → Prop) (hw : w_X2_restBehind p1 p2 p3 h Q) : G X M_X2_restBehind E_X2_restBehind (QM X E_X2_restBehind (QIp h Q) Qn) 0 0 [(0, .ref (44)), (1, .int (p1)), (2, .int (p2)), (3, .int (p3))] [] h := by
  unfold w_X2_restBehind at hw
  refine g_aload_n 0 (dk D_X2_restBehind 0 rfl) rfl rfl ?_
  refine g_iload_n 1 (dk D_X2_restBehind 1 rfl) rfl rfl ?_
  refine g_iconst (dk D_X2_restBehind 2 rfl) ki_1 ?_
  refine g_iadd (dk D_X2_restBehind 3 rfl) ?_
  refine g_callV (As := [.int ((p1 + (1 : Int32)))]) (kc := 0) (fr := 0) (lo := 0) (mc := 0) (My := M_X2_shadeReaches) (dk D_X2_restBehind 4 rfl) kd_44 rfl rfl w_645 w_647 w_9 w_107 w_648 okD_X2_shadeReaches (by decide) (Nat.le_of_ble_eq_true rfl) rfl (c_X2_shadeReaches ((p1 + (1 : Int32))) (h) _ hw) kxN (kIp (fun z1 hw => ?_))
  have hj : G X M_X2_restBehind E_X2_restBehind (QM X E_X2_restBehind (QIp h Q) Qn) 0 16 [(0, .ref (44)), (1, .int (p1)), (2, .int (p2)), (3, .int (p3))] [.int ((if z1 = 0 then (8 : Int32) else p3))] (h) := by
    refine g_topi (fun v4_3 ev4_3 => ?_)
    replace hw := hw _ ev4_3
    refine g_istore (dk D_X2_restBehind 9 rfl) (by decide) rfl ?_
    refine g_aload_n 1 (dk D_X2_restBehind 10 rfl) rfl rfl ?_
    refine g_getR 4 (t := 48) (dk D_X2_restBehind 11 rfl) kd_44 rfl rfl (by decide) w_304 rfl rfl rfl ?_
    refine g_iload_n 2 (dk D_X2_restBehind 12 rfl) rfl rfl ?_
    refine g_bipush (dk D_X2_restBehind 13 rfl) kb_8 ?_
    refine g_imul (dk D_X2_restBehind 14 rfl) ?_
    refine g_iload_n 4 (dk D_X2_restBehind 15 rfl) rfl rfl ?_
    refine g_iadd (dk D_X2_restBehind 16 rfl) ?_
    refine g_callSN (As := [.ref (48), .int (((p1 * (8 : Int32)) + p3))]) (kc := 0) (fr := 0) (lo := 0) (mc := 0) (My := M_X8_at) (dk D_X2_restBehind 17 rfl) w_619 w_518 w_101 w_519 okD_X8_at (by decide) (Nat.le_of_ble_eq_true rfl) rfl (c_X8_at 48 480 (((p1 * (8 : Int32)) + p3)) (kd_48) (h) _ hw) kxN (kIp (fun z4 hw => ?_))
    refine g_aload_n 1 (dk D_X2_restBehind 18 rfl) rfl rfl ?_
    refine g_getR 5 (t := 49) (dk D_X2_restBehind 19 rfl) kd_44 rfl rfl (by decide) w_305 rfl rfl rfl ?_
    refine g_iload_n 2 (dk D_X2_restBehind 20 rfl) rfl rfl ?_
    refine g_iconst (dk D_X2_restBehind 21 rfl) ki_1 ?_
    refine g_iadd (dk D_X2_restBehind 22 rfl) ?_
    refine g_iload_n 3 (dk D_X2_restBehind 23 rfl) rfl rfl ?_
    refine g_iconst (dk D_X2_restBehind 24 rfl) ki_1 ?_
    refine g_iload_n 4 (dk D_X2_restBehind 25 rfl) rfl rfl ?_
    refine g_ishl (dk D_X2_restBehind 26 rfl) ?_
    refine g_ior (dk D_X2_restBehind 27 rfl) ?_
    refine g_iload 0 (dk D_X2_restBehind 28 rfl) rfl ?_
    refine g_callS (As := [.int ((p1 + (1 : Int32))), .int ((p2 ||| ((1 : Int32) <<< (p3 &&& 31)))), .int (v4_3)]) (kc := 0) (fr := 0) (lo := 0) (mc := 0) (My := M_X2_index) (dk D_X2_restBehind 29 rfl) w_624 w_625 w_107 w_626 okD_X2_index (by decide) (Nat.le_of_ble_eq_true rfl) rfl (c_X2_index ((p1 + (1 : Int32))) ((p2 ||| ((1 : Int32) <<< (p3 &&& 31)))) (v4_3) (h) _ hw) kxN (kIp (fun z5 hw => ?_))
    refine g_callSN (As := [.ref (49), .int (z5)]) (kc := 0) (fr := 0) (lo := 0) (mc := 0) (My := M_X8_at) (dk D_X2_restBehind 30 rfl) w_619 w_518 w_101 w_519 okD_X8_at (by decide) (Nat.le_of_ble_eq_true rfl) rfl (c_X8_at 49 140544 (z5) (kd_49) (h) _ hw) kxN (kIp (fun z6 hw => ?_))
    refine g_iadd (dk D_X2_restBehind 31 rfl) ?_
    exact g_iret (dk D_X2_restBehind 32 rfl) rfl ⟨_, rfl, rfl, hw⟩
  refine g_if_eq (dk D_X2_restBehind 5 rfl) rfl ?_
  by_cases c2 : z1 = 0
  · rw [if_pos c2] at hj
    refine wif_p c2 ?_
    refine g_bipush (dk D_X2_restBehind 8 rfl) kb_8 ?_
    exact hj
  · rw [if_neg c2] at hj
    refine wif_n c2 ?_
    refine g_iload_n 3 (dk D_X2_restBehind 6 rfl) rfl rfl ?_
    refine g_goto (dk D_X2_restBehind 7 rfl) rfl ?_
    exact hj
theorem c_X2_restBehind {X : Cx} (p1 : Int32) (p2 : Int32) (p3 : Int32) (h : Hp) (Q : Int32 → Prop) (hw : w_X2_restBehind p1 p2 p3 h Q) : Con X yX2_restBehind M_X2_restBehind 1 30 0 [.ref (44), .int (p1), .int (p2), .int (p3)] h (QIp h Q) Qn :=
  con_of (by decide +kernel) rfl (Nat.le_of_ble_eq_true rfl) (t_X2_restBehind p1 p2 p3 h Q hw)
/-! ShadowTolls$Planner.weigh(II)V -/
abbrev M_X2_weigh : Mi := (RX2, cX2_weigh, 8, none)
abbrev E_X2_weigh : Rm := (2, 62, 0, 0)
def rows_X2_weigh : List (Nat × Instr × Nat) := [(0, .aload_n 0, 1), (1, .getfield 9, 3), (4, .iload_n 1, 1), (5, .invokestatic 98, 3), (8, .iload_n 2, 1), (9, .iconst (-1), 1), (10, .ixor, 1), (11, .iand, 1), (12, .istore_n 3, 1), (13, .aload_n 0, 1), (14, .getfield 25, 3), (17, .iload_n 1, 1), (18, .iconst 1, 1), (19, .iadd, 1), (20, .iload_n 2, 1), (21, .bipush 8, 2), (23, .invokestatic 106, 3), (26, .invokestatic 98, 3), (29, .istore 4, 2), (31, .aload_n 0, 1), (32, .getfield 46, 3), (35, .iconst 0, 1), (36, .iload 4, 2), (38, .invokestatic 79, 3), (41, .iconst 0, 1), (42, .istore 5, 2), (44, .iload 5, 2), (46, .bipush 8, 2), (48, .if_icmp .ge 102, 3), (51, .aload_n 0, 1), (52, .getfield 37, 3), (55, .iload 5, 2), (57, .invokestatic 98, 3), (60, .istore 6, 2), (62, .aload_n 0, 1), (63, .getfield 46, 3), (66, .iload 5, 2), (68, .invokestatic 98, 3), (71, .istore 7, 2), (73, .iload_n 3, 1), (74, .iload 6, 2), (76, .ishr, 1), (77, .iconst 1, 1), (78, .iand, 1), (79, .iconst 1, 1), (80, .if_icmp .ne 51, 3), (83, .aload_n 0, 1), (84, .getfield 43, 3), (87, .iload 6, 2), (89, .aload_n 0, 1), (90, .iload_n 1, 1), (91, .iload_n 2, 1), (92, .iload 6, 2), (94, .invokevirtual 131, 3), (97, .invokestatic 79, 3), (100, .iload 7, 2), (102, .aload_n 0, 1), (103, .getfield 18, 3), (106, .iload_n 1, 1), (107, .bipush 8, 2), (109, .imul, 1), (110, .iload 6, 2), (112, .iadd, 1), (113, .invokestatic 98, 3), (116, .aload_n 0, 1), (117, .getfield 43, 3), (120, .iload 6, 2), (122, .invokestatic 98, 3), (125, .iadd, 1), (126, .invokestatic 125, 3), (129, .istore 7, 2), (131, .aload_n 0, 1), (132, .getfield 46, 3), (135, .iload 5, 2), (137, .iconst 1, 1), (138, .iadd, 1), (139, .iload 7, 2), (141, .invokestatic 79, 3), (144, .iinc 5 1, 3), (147, .goto (-103), 3), (150, .aload_n 0, 1), (151, .getfield 49, 3), (154, .bipush 8, 2), (156, .iload 4, 2), (158, .invokestatic 79, 3), (161, .bipush 7, 2), (163, .istore 5, 2), (165, .iload 5, 2), (167, .ifCond .lt 85, 3), (170, .aload_n 0, 1), (171, .getfield 37, 3), (174, .iload 5, 2), (176, .invokestatic 98, 3), (179, .istore 6, 2), (181, .aload_n 0, 1), (182, .getfield 49, 3), (185, .iload 5, 2), (187, .iconst 1, 1), (188, .iadd, 1), (189, .invokestatic 98, 3), (192, .istore 7, 2), (194, .iload_n 3, 1), (195, .iload 6, 2), (197, .ishr, 1), (198, .iconst 1, 1), (199, .iand, 1), (200, .iconst 1, 1), (201, .if_icmp .ne 34, 3), (204, .iload 7, 2), (206, .aload_n 0, 1), (207, .getfield 15, 3), (210, .iload_n 1, 1), (211, .bipush 8, 2), (213, .imul, 1), (214, .iload 6, 2), (216, .iadd, 1), (217, .invokestatic 98, 3), (220, .aload_n 0, 1), (221, .getfield 43, 3), (224, .iload 6, 2), (226, .invokestatic 98, 3), (229, .iadd, 1), (230, .invokestatic 125, 3), (233, .istore 7, 2), (235, .aload_n 0, 1), (236, .getfield 49, 3), (239, .iload 5, 2), (241, .iload 7, 2), (243, .invokestatic 79, 3), (246, .iinc 5 (-1), 3), (249, .goto (-84), 3), (252, .return_, 1)]
theorem D_X2_weigh : dkA cX2_weigh rows_X2_weigh := by
  unfold dkA
  decide +kernel
theorem okD_X2_weigh : okD yX2_weigh 2 := by
  unfold okD
  decide +kernel
def w_X2_weigh_b235 (p1 : Int32) (p2 : Int32) (v3 : Int32) (v5 : Int32) (v7 : Int32) (K165 : Int32 × Hp → Prop) (h : Hp) (Q : Hp → Prop) : Prop :=
  w_X8_put 57 9 (v5) (v7) h (fun h1 => K165 ((v5 + (-1 : Int32)), h1))
def w_X2_weigh_l165 (p1 : Int32) (p2 : Int32) (v3 : Int32) (Q : Hp → Prop) (K165 : Int32 × Hp → Prop) (v5 : Int32) (h : Hp) : Prop :=
  wif (v5 < 0) (Q h) (w_X8_at 53 8 (v5) h (fun z1 => w_X8_at 57 9 ((v5 + (1 : Int32))) h (fun z2 => wif (¬ ((v3 >>> (z1 &&& 31)) &&& (1 : Int32)) = (1 : Int32)) (w_X2_weigh_b235 p1 p2 (v3) (v5) (z2) K165 (h) Q) (w_X8_at 46 480 (((p1 * (8 : Int32)) + z1)) h (fun z3 => w_X8_at 55 8 (z1) h (fun z4 => wlet ((if (z3 + z4) < z2 then (z3 + z4) else z2)) (fun v7_5 => w_X2_weigh_b235 p1 p2 (v3) (v5) (v7_5) K165 (h) Q)))))))
def w_X2_weigh_b165 (p1 : Int32) (p2 : Int32) (v3 : Int32) (Q : Hp → Prop) (s : Int32 × Hp) : Prop := wl (fun K s => w_X2_weigh_l165 p1 p2 v3 Q K s.1 s.2) s
def w_X2_weigh_b131 (p1 : Int32) (p2 : Int32) (v3 : Int32) (v4 : Int32) (v5 : Int32) (v7 : Int32) (K44 : Int32 × Hp → Prop) (h : Hp) (Q : Hp → Prop) : Prop :=
  w_X8_put 56 9 ((v5 + (1 : Int32))) (v7) h (fun h1 => K44 ((v5 + (1 : Int32)), h1))
def w_X2_weigh_l44 (p1 : Int32) (p2 : Int32) (v3 : Int32) (v4 : Int32) (Q : Hp → Prop) (K44 : Int32 × Hp → Prop) (v5 : Int32) (h : Hp) : Prop :=
  wif ((8 : Int32) ≤ v5) (w_X8_put 57 9 ((8 : Int32)) (v4) h (fun h1 => w_X2_weigh_b165 p1 p2 (v3) Q ((7 : Int32), h1))) (w_X8_at 53 8 (v5) h (fun z2 => w_X8_at 56 9 (v5) h (fun z3 => wif (¬ ((v3 >>> (z2 &&& 31)) &&& (1 : Int32)) = (1 : Int32)) (w_X2_weigh_b131 p1 p2 (v3) (v4) (v5) (z3) K44 (h) Q) (w_X2_restBehind (p1) (p2) (z2) h (fun z4 => w_X8_put 55 8 (z2) (z4) h (fun h5 => w_X8_at 47 480 (((p1 * (8 : Int32)) + z2)) h5 (fun z6 => w_X8_at 55 8 (z2) h5 (fun z7 => wlet ((if (z6 + z7) < z3 then (z6 + z7) else z3)) (fun v7_8 => w_X2_weigh_b131 p1 p2 (v3) (v4) (v5) (v7_8) K44 (h5) Q)))))))))
def w_X2_weigh_b44 (p1 : Int32) (p2 : Int32) (v3 : Int32) (v4 : Int32) (Q : Hp → Prop) (s : Int32 × Hp) : Prop := wl (fun K s => w_X2_weigh_l44 p1 p2 v3 v4 Q K s.1 s.2) s
def w_X2_weigh (p1 : Int32) (p2 : Int32) (h : Hp) (Q : Hp → Prop) : Prop :=
  w_X8_at 45 60 (p1) h (fun z1 => wlet ((z1 &&& (p2 ^^^ (-1 : Int32)))) (fun v3_2 => w_X2_index ((p1 + (1 : Int32))) (p2) ((8 : Int32)) h (fun z3 => w_X8_at 49 140544 (z3) h (fun z4 => w_X8_put 56 9 ((0 : Int32)) (z4) h (fun h5 => w_X2_weigh_b44 p1 p2 (v3_2) (z4) Q ((0 : Int32), h5))))))
theorem t_X2_weigh_b235 {X : Cx} (p1 : Int32) (p2 : Int32) (v3 : Int32) (v5 : Int32) (v7 : Int32) (K165 : Int32 × Hp → Prop) (h : Hp) (Q : Hp → Prop) (hK165 : ∀ s : Int32 × Hp, K165 s → G X M_X2_weigh E_X2_weigh (QM X E_X2_weigh (QV Q) Qn) 0 165 [(0, .ref (44)), (1, .int (p1)), (3, .int (v3)), (5, .int (s.1))] [] (s.2)) (hw : w_X2_weigh_b235 p1 p2 v3 v5 v7 K165 h Q) : G X M_X2_weigh E_X2_weigh (QM X E_X2_weigh (QV Q) Qn) 0 235 [(0, .ref (44)), (1, .int (p1)), (3, .int (v3)), (5, .int (v5)), (7, .int (v7))] [] h := by
  unfold w_X2_weigh_b235 at hw
  refine g_aload_n 0 (dk D_X2_weigh 124 rfl) rfl rfl ?_
  refine g_getR 13 (t := 57) (dk D_X2_weigh 125 rfl) kd_44 rfl rfl (by decide) w_314 rfl rfl rfl ?_
  refine g_iload 3 (dk D_X2_weigh 126 rfl) rfl ?_
  refine g_iload 4 (dk D_X2_weigh 127 rfl) rfl ?_
  refine g_callSN (As := [.ref (57), .int (v5), .int (v7)]) (kc := 0) (fr := 0) (lo := 0) (mc := 0) (My := M_X8_put) (dk D_X2_weigh 128 rfl) w_550 w_496 w_101 w_497 okD_X8_put (by decide) (Nat.le_of_ble_eq_true rfl) rfl (c_X8_put 57 9 (v5) (v7) (kd_57) (h) _ hw) kxN (kV (fun h1 hw => ?_))
  refine g_iinc 3 (dk D_X2_weigh 129 rfl) rfl (congrArg (fun z => _ + z) ki_m1) (by decide) rfl ?_
  refine g_goto (dk D_X2_weigh 130 rfl) rfl ?_
  refine g_sub [1, 2, 3, 0] rfl ?_
  exact hK165 ((v5 + (-1 : Int32)), h1) hw
theorem t_X2_weigh_l165 {X : Cx} (p1 : Int32) (p2 : Int32) (v3 : Int32) (Q : Hp → Prop) (K165 : Int32 × Hp → Prop) (v5 : Int32) (h : Hp) (hK165 : ∀ s : Int32 × Hp, K165 s → G X M_X2_weigh E_X2_weigh (QM X E_X2_weigh (QV Q) Qn) 0 165 [(0, .ref (44)), (1, .int (p1)), (3, .int (v3)), (5, .int (s.1))] [] (s.2)) (hw : w_X2_weigh_l165 p1 p2 v3 Q K165 v5 h) : G X M_X2_weigh E_X2_weigh (QM X E_X2_weigh (QV Q) Qn) 0 165 [(0, .ref (44)), (1, .int (p1)), (3, .int (v3)), (5, .int (v5))] [] h := by
  unfold w_X2_weigh_l165 at hw
  refine g_iload 3 (dk D_X2_weigh 87 rfl) rfl ?_
  refine g_if_lt (dk D_X2_weigh 88 rfl) rfl (wif_m hw (fun hw => ?_) (fun hw => ?_))
  · exact g_vret (dk D_X2_weigh 131 rfl) rfl ⟨rfl, hw⟩
  · refine g_aload_n 0 (dk D_X2_weigh 89 rfl) rfl rfl ?_
    refine g_getR 9 (t := 53) (dk D_X2_weigh 90 rfl) kd_44 rfl rfl (by decide) w_310 rfl rfl rfl ?_
    refine g_iload 3 (dk D_X2_weigh 91 rfl) rfl ?_
    refine g_callSN (As := [.ref (53), .int (v5)]) (kc := 0) (fr := 0) (lo := 0) (mc := 0) (My := M_X8_at) (dk D_X2_weigh 92 rfl) w_619 w_518 w_101 w_519 okD_X8_at (by decide) (Nat.le_of_ble_eq_true rfl) rfl (c_X8_at 53 8 (v5) (kd_53) (h) _ hw) kxN (kIp (fun z1 hw => ?_))
    refine g_istore (dk D_X2_weigh 93 rfl) (by decide) rfl ?_
    refine g_aload_n 1 (dk D_X2_weigh 94 rfl) rfl rfl ?_
    refine g_getR 13 (t := 57) (dk D_X2_weigh 95 rfl) kd_44 rfl rfl (by decide) w_314 rfl rfl rfl ?_
    refine g_iload 4 (dk D_X2_weigh 96 rfl) rfl ?_
    refine g_iconst (dk D_X2_weigh 97 rfl) ki_1 ?_
    refine g_iadd (dk D_X2_weigh 98 rfl) ?_
    refine g_callSN (As := [.ref (57), .int ((v5 + (1 : Int32)))]) (kc := 0) (fr := 0) (lo := 0) (mc := 0) (My := M_X8_at) (dk D_X2_weigh 99 rfl) w_619 w_518 w_101 w_519 okD_X8_at (by decide) (Nat.le_of_ble_eq_true rfl) rfl (c_X8_at 57 9 ((v5 + (1 : Int32))) (kd_57) (h) _ hw) kxN (kIp (fun z2 hw => ?_))
    refine g_istore (dk D_X2_weigh 100 rfl) (by decide) rfl ?_
    refine g_iload_n 4 (dk D_X2_weigh 101 rfl) rfl rfl ?_
    refine g_iload 1 (dk D_X2_weigh 102 rfl) rfl ?_
    refine g_ishr (dk D_X2_weigh 103 rfl) ?_
    refine g_iconst (dk D_X2_weigh 104 rfl) ki_1 ?_
    refine g_iand (dk D_X2_weigh 105 rfl) ?_
    refine g_iconst (dk D_X2_weigh 106 rfl) ki_1 ?_
    refine g_icmp_ne (dk D_X2_weigh 107 rfl) rfl (wif_m hw (fun hw => ?_) (fun hw => ?_))
    · refine g_sub [2, 3, 4, 5, 0] rfl ?_
      exact t_X2_weigh_b235 p1 p2 (v3) (v5) (z2) K165 (h) Q hK165 hw
    · refine g_iload 0 (dk D_X2_weigh 108 rfl) rfl ?_
      refine g_aload_n 2 (dk D_X2_weigh 109 rfl) rfl rfl ?_
      refine g_getR 2 (t := 46) (dk D_X2_weigh 110 rfl) kd_44 rfl rfl (by decide) w_301 rfl rfl rfl ?_
      refine g_iload_n 3 (dk D_X2_weigh 111 rfl) rfl rfl ?_
      refine g_bipush (dk D_X2_weigh 112 rfl) kb_8 ?_
      refine g_imul (dk D_X2_weigh 113 rfl) ?_
      refine g_iload 1 (dk D_X2_weigh 114 rfl) rfl ?_
      refine g_iadd (dk D_X2_weigh 115 rfl) ?_
      refine g_callSN (As := [.ref (46), .int (((p1 * (8 : Int32)) + z1))]) (kc := 0) (fr := 0) (lo := 0) (mc := 0) (My := M_X8_at) (dk D_X2_weigh 116 rfl) w_619 w_518 w_101 w_519 okD_X8_at (by decide) (Nat.le_of_ble_eq_true rfl) rfl (c_X8_at 46 480 (((p1 * (8 : Int32)) + z1)) (kd_46) (h) _ hw) kxN (kIp (fun z3 hw => ?_))
      refine g_aload_n 2 (dk D_X2_weigh 117 rfl) rfl rfl ?_
      refine g_getR 11 (t := 55) (dk D_X2_weigh 118 rfl) kd_44 rfl rfl (by decide) w_312 rfl rfl rfl ?_
      refine g_iload 1 (dk D_X2_weigh 119 rfl) rfl ?_
      refine g_callSN (As := [.ref (55), .int (z1)]) (kc := 0) (fr := 0) (lo := 0) (mc := 0) (My := M_X8_at) (dk D_X2_weigh 120 rfl) w_619 w_518 w_101 w_519 okD_X8_at (by decide) (Nat.le_of_ble_eq_true rfl) rfl (c_X8_at 55 8 (z1) (kd_55) (h) _ hw) kxN (kIp (fun z4 hw => ?_))
      refine g_iadd (dk D_X2_weigh 121 rfl) ?_
      refine g_mmin (dk D_X2_weigh 122 rfl) w_649 (by decide) (Nat.le_of_ble_eq_true rfl) ?_
      refine g_topi (fun v7_5 ev7_5 => ?_)
      replace hw := hw _ ev7_5
      refine g_istore (dk D_X2_weigh 123 rfl) (by decide) rfl ?_
      refine g_sub [2, 3, 4, 5, 0] rfl ?_
      exact t_X2_weigh_b235 p1 p2 (v3) (v5) (v7_5) K165 (h) Q hK165 hw
theorem t_X2_weigh_b165 {X : Cx} (p1 : Int32) (p2 : Int32) (v3 : Int32) (Q : Hp → Prop) (s : Int32 × Hp) (hw : w_X2_weigh_b165 p1 p2 v3 Q s) : G X M_X2_weigh E_X2_weigh (QM X E_X2_weigh (QV Q) Qn) 0 165 [(0, .ref (44)), (1, .int (p1)), (3, .int (v3)), (5, .int (s.1))] [] (s.2) :=
  wl_ind (B := fun K s => w_X2_weigh_l165 p1 p2 v3 Q K (s.1) (s.2)) (P := fun s => G X M_X2_weigh E_X2_weigh (QM X E_X2_weigh (QV Q) Qn) 0 165 [(0, .ref (44)), (1, .int (p1)), (3, .int (v3)), (5, .int (s.1))] [] (s.2)) (fun K hK s hw => t_X2_weigh_l165 p1 p2 v3 Q K (s.1) (s.2) hK hw) s hw
theorem t_X2_weigh_b131 {X : Cx} (p1 : Int32) (p2 : Int32) (v3 : Int32) (v4 : Int32) (v5 : Int32) (v7 : Int32) (K44 : Int32 × Hp → Prop) (h : Hp) (Q : Hp → Prop) (hK44 : ∀ s : Int32 × Hp, K44 s → G X M_X2_weigh E_X2_weigh (QM X E_X2_weigh (QV Q) Qn) 0 44 [(0, .ref (44)), (1, .int (p1)), (2, .int (p2)), (3, .int (v3)), (4, .int (v4)), (5, .int (s.1))] [] (s.2)) (hw : w_X2_weigh_b131 p1 p2 v3 v4 v5 v7 K44 h Q) : G X M_X2_weigh E_X2_weigh (QM X E_X2_weigh (QV Q) Qn) 0 131 [(0, .ref (44)), (1, .int (p1)), (2, .int (p2)), (3, .int (v3)), (4, .int (v4)), (5, .int (v5)), (7, .int (v7))] [] h := by
  unfold w_X2_weigh_b131 at hw
  refine g_aload_n 0 (dk D_X2_weigh 71 rfl) rfl rfl ?_
  refine g_getR 12 (t := 56) (dk D_X2_weigh 72 rfl) kd_44 rfl rfl (by decide) w_313 rfl rfl rfl ?_
  refine g_iload 5 (dk D_X2_weigh 73 rfl) rfl ?_
  refine g_iconst (dk D_X2_weigh 74 rfl) ki_1 ?_
  refine g_iadd (dk D_X2_weigh 75 rfl) ?_
  refine g_iload 6 (dk D_X2_weigh 76 rfl) rfl ?_
  refine g_callSN (As := [.ref (56), .int ((v5 + (1 : Int32))), .int (v7)]) (kc := 0) (fr := 0) (lo := 0) (mc := 0) (My := M_X8_put) (dk D_X2_weigh 77 rfl) w_550 w_496 w_101 w_497 okD_X8_put (by decide) (Nat.le_of_ble_eq_true rfl) rfl (c_X8_put 56 9 ((v5 + (1 : Int32))) (v7) (kd_56) (h) _ hw) kxN (kV (fun h1 hw => ?_))
  refine g_iinc 5 (dk D_X2_weigh 78 rfl) rfl (congrArg (fun z => _ + z) ki_1) (by decide) rfl ?_
  refine g_goto (dk D_X2_weigh 79 rfl) rfl ?_
  refine g_sub [1, 2, 3, 4, 5, 0] rfl ?_
  exact hK44 ((v5 + (1 : Int32)), h1) hw
theorem t_X2_weigh_l44 {X : Cx} (p1 : Int32) (p2 : Int32) (v3 : Int32) (v4 : Int32) (Q : Hp → Prop) (K44 : Int32 × Hp → Prop) (v5 : Int32) (h : Hp) (hK44 : ∀ s : Int32 × Hp, K44 s → G X M_X2_weigh E_X2_weigh (QM X E_X2_weigh (QV Q) Qn) 0 44 [(0, .ref (44)), (1, .int (p1)), (2, .int (p2)), (3, .int (v3)), (4, .int (v4)), (5, .int (s.1))] [] (s.2)) (hw : w_X2_weigh_l44 p1 p2 v3 v4 Q K44 v5 h) : G X M_X2_weigh E_X2_weigh (QM X E_X2_weigh (QV Q) Qn) 0 44 [(0, .ref (44)), (1, .int (p1)), (2, .int (p2)), (3, .int (v3)), (4, .int (v4)), (5, .int (v5))] [] h := by
  unfold w_X2_weigh_l44 at hw
  refine g_iload 5 (dk D_X2_weigh 26 rfl) rfl ?_
  refine g_bipush (dk D_X2_weigh 27 rfl) kb_8 ?_
  refine g_icmp_ge (dk D_X2_weigh 28 rfl) rfl (wif_m hw (fun hw => ?_) (fun hw => ?_))
  · refine g_aload_n 0 (dk D_X2_weigh 80 rfl) rfl rfl ?_
    refine g_getR 13 (t := 57) (dk D_X2_weigh 81 rfl) kd_44 rfl rfl (by decide) w_314 rfl rfl rfl ?_
    refine g_bipush (dk D_X2_weigh 82 rfl) kb_8 ?_
    refine g_iload 4 (dk D_X2_weigh 83 rfl) rfl ?_
    refine g_callSN (As := [.ref (57), .int ((8 : Int32)), .int (v4)]) (kc := 0) (fr := 0) (lo := 0) (mc := 0) (My := M_X8_put) (dk D_X2_weigh 84 rfl) w_550 w_496 w_101 w_497 okD_X8_put (by decide) (Nat.le_of_ble_eq_true rfl) rfl (c_X8_put 57 9 ((8 : Int32)) (v4) (kd_57) (h) _ hw) kxN (kV (fun h1 hw => ?_))
    refine g_bipush (dk D_X2_weigh 85 rfl) kb_7 ?_
    refine g_istore (dk D_X2_weigh 86 rfl) (by decide) rfl ?_
    refine g_sub [1, 2, 4, 0] rfl ?_
    exact t_X2_weigh_b165 p1 p2 (v3) Q ((7 : Int32), h1) hw
  · refine g_aload_n 0 (dk D_X2_weigh 29 rfl) rfl rfl ?_
    refine g_getR 9 (t := 53) (dk D_X2_weigh 30 rfl) kd_44 rfl rfl (by decide) w_310 rfl rfl rfl ?_
    refine g_iload 5 (dk D_X2_weigh 31 rfl) rfl ?_
    refine g_callSN (As := [.ref (53), .int (v5)]) (kc := 0) (fr := 0) (lo := 0) (mc := 0) (My := M_X8_at) (dk D_X2_weigh 32 rfl) w_619 w_518 w_101 w_519 okD_X8_at (by decide) (Nat.le_of_ble_eq_true rfl) rfl (c_X8_at 53 8 (v5) (kd_53) (h) _ hw) kxN (kIp (fun z2 hw => ?_))
    refine g_istore (dk D_X2_weigh 33 rfl) (by decide) rfl ?_
    refine g_aload_n 1 (dk D_X2_weigh 34 rfl) rfl rfl ?_
    refine g_getR 12 (t := 56) (dk D_X2_weigh 35 rfl) kd_44 rfl rfl (by decide) w_313 rfl rfl rfl ?_
    refine g_iload 6 (dk D_X2_weigh 36 rfl) rfl ?_
    refine g_callSN (As := [.ref (56), .int (v5)]) (kc := 0) (fr := 0) (lo := 0) (mc := 0) (My := M_X8_at) (dk D_X2_weigh 37 rfl) w_619 w_518 w_101 w_519 okD_X8_at (by decide) (Nat.le_of_ble_eq_true rfl) rfl (c_X8_at 56 9 (v5) (kd_56) (h) _ hw) kxN (kIp (fun z3 hw => ?_))
    refine g_istore (dk D_X2_weigh 38 rfl) (by decide) rfl ?_
    refine g_iload_n 5 (dk D_X2_weigh 39 rfl) rfl rfl ?_
    refine g_iload 1 (dk D_X2_weigh 40 rfl) rfl ?_
    refine g_ishr (dk D_X2_weigh 41 rfl) ?_
    refine g_iconst (dk D_X2_weigh 42 rfl) ki_1 ?_
    refine g_iand (dk D_X2_weigh 43 rfl) ?_
    refine g_iconst (dk D_X2_weigh 44 rfl) ki_1 ?_
    refine g_icmp_ne (dk D_X2_weigh 45 rfl) rfl (wif_m hw (fun hw => ?_) (fun hw => ?_))
    · refine g_sub [2, 3, 4, 5, 6, 7, 0] rfl ?_
      exact t_X2_weigh_b131 p1 p2 (v3) (v4) (v5) (z3) K44 (h) Q hK44 hw
    · refine g_aload_n 2 (dk D_X2_weigh 46 rfl) rfl rfl ?_
      refine g_getR 11 (t := 55) (dk D_X2_weigh 47 rfl) kd_44 rfl rfl (by decide) w_312 rfl rfl rfl ?_
      refine g_iload 1 (dk D_X2_weigh 48 rfl) rfl ?_
      refine g_aload_n 2 (dk D_X2_weigh 49 rfl) rfl rfl ?_
      refine g_iload_n 3 (dk D_X2_weigh 50 rfl) rfl rfl ?_
      refine g_iload_n 4 (dk D_X2_weigh 51 rfl) rfl rfl ?_
      refine g_iload 1 (dk D_X2_weigh 52 rfl) rfl ?_
      refine g_callV (As := [.int (p1), .int (p2), .int (z2)]) (kc := 0) (fr := 1) (lo := 30) (mc := 0) (My := M_X2_restBehind) (dk D_X2_weigh 53 rfl) kd_44 rfl rfl w_641 w_643 w_8 w_107 w_644 okD_X2_restBehind (by decide) (Nat.le_of_ble_eq_true rfl) rfl (c_X2_restBehind (p1) (p2) (z2) (h) _ hw) kxN (kIp (fun z4 hw => ?_))
      refine g_callSN (As := [.ref (55), .int (z2), .int (z4)]) (kc := 0) (fr := 0) (lo := 0) (mc := 0) (My := M_X8_put) (dk D_X2_weigh 54 rfl) w_550 w_496 w_101 w_497 okD_X8_put (by decide) (Nat.le_of_ble_eq_true rfl) rfl (c_X8_put 55 8 (z2) (z4) (kd_55) (h) _ hw) kxN (kV (fun h5 hw => ?_))
      refine g_iload 0 (dk D_X2_weigh 55 rfl) rfl ?_
      refine g_aload_n 2 (dk D_X2_weigh 56 rfl) rfl rfl ?_
      refine g_getR 3 (t := 47) (dk D_X2_weigh 57 rfl) kd_44 rfl rfl (by decide) w_302 rfl rfl rfl ?_
      refine g_iload_n 3 (dk D_X2_weigh 58 rfl) rfl rfl ?_
      refine g_bipush (dk D_X2_weigh 59 rfl) kb_8 ?_
      refine g_imul (dk D_X2_weigh 60 rfl) ?_
      refine g_iload 1 (dk D_X2_weigh 61 rfl) rfl ?_
      refine g_iadd (dk D_X2_weigh 62 rfl) ?_
      refine g_callSN (As := [.ref (47), .int (((p1 * (8 : Int32)) + z2))]) (kc := 0) (fr := 0) (lo := 0) (mc := 0) (My := M_X8_at) (dk D_X2_weigh 63 rfl) w_619 w_518 w_101 w_519 okD_X8_at (by decide) (Nat.le_of_ble_eq_true rfl) rfl (c_X8_at 47 480 (((p1 * (8 : Int32)) + z2)) (kd_47) (h5) _ hw) kxN (kIp (fun z6 hw => ?_))
      refine g_aload_n 2 (dk D_X2_weigh 64 rfl) rfl rfl ?_
      refine g_getR 11 (t := 55) (dk D_X2_weigh 65 rfl) kd_44 rfl rfl (by decide) w_312 rfl rfl rfl ?_
      refine g_iload 1 (dk D_X2_weigh 66 rfl) rfl ?_
      refine g_callSN (As := [.ref (55), .int (z2)]) (kc := 0) (fr := 0) (lo := 0) (mc := 0) (My := M_X8_at) (dk D_X2_weigh 67 rfl) w_619 w_518 w_101 w_519 okD_X8_at (by decide) (Nat.le_of_ble_eq_true rfl) rfl (c_X8_at 55 8 (z2) (kd_55) (h5) _ hw) kxN (kIp (fun z7 hw => ?_))
      refine g_iadd (dk D_X2_weigh 68 rfl) ?_
      refine g_mmin (dk D_X2_weigh 69 rfl) w_649 (by decide) (Nat.le_of_ble_eq_true rfl) ?_
      refine g_topi (fun v7_8 ev7_8 => ?_)
      replace hw := hw _ ev7_8
      refine g_istore (dk D_X2_weigh 70 rfl) (by decide) rfl ?_
      refine g_sub [2, 3, 4, 5, 6, 7, 0] rfl ?_
      exact t_X2_weigh_b131 p1 p2 (v3) (v4) (v5) (v7_8) K44 (h5) Q hK44 hw
theorem t_X2_weigh_b44 {X : Cx} (p1 : Int32) (p2 : Int32) (v3 : Int32) (v4 : Int32) (Q : Hp → Prop) (s : Int32 × Hp) (hw : w_X2_weigh_b44 p1 p2 v3 v4 Q s) : G X M_X2_weigh E_X2_weigh (QM X E_X2_weigh (QV Q) Qn) 0 44 [(0, .ref (44)), (1, .int (p1)), (2, .int (p2)), (3, .int (v3)), (4, .int (v4)), (5, .int (s.1))] [] (s.2) :=
  wl_ind (B := fun K s => w_X2_weigh_l44 p1 p2 v3 v4 Q K (s.1) (s.2)) (P := fun s => G X M_X2_weigh E_X2_weigh (QM X E_X2_weigh (QV Q) Qn) 0 44 [(0, .ref (44)), (1, .int (p1)), (2, .int (p2)), (3, .int (v3)), (4, .int (v4)), (5, .int (s.1))] [] (s.2)) (fun K hK s hw => t_X2_weigh_l44 p1 p2 v3 v4 Q K (s.1) (s.2) hK hw) s hw
theorem t_X2_weigh {X : Cx} (p1 : Int32) (p2 : Int32) (h : Hp) (Q : Hp → Prop) (hw : w_X2_weigh p1 p2 h Q) : G X M_X2_weigh E_X2_weigh (QM X E_X2_weigh (QV Q) Qn) 0 0 [(0, .ref (44)), (1, .int (p1)), (2, .int (p2))] [] h := by
  unfold w_X2_weigh at hw
  refine g_aload_n 0 (dk D_X2_weigh 0 rfl) rfl rfl ?_
  refine g_getR 1 (t := 45) (dk D_X2_weigh 1 rfl) kd_44 rfl rfl (by decide) w_300 rfl rfl rfl ?_
  refine g_iload_n 1 (dk D_X2_weigh 2 rfl) rfl rfl ?_
  refine g_callSN (As := [.ref (45), .int (p1)]) (kc := 0) (fr := 0) (lo := 0) (mc := 0) (My := M_X8_at) (dk D_X2_weigh 3 rfl) w_619 w_518 w_101 w_519 okD_X8_at (by decide) (Nat.le_of_ble_eq_true rfl) rfl (c_X8_at 45 60 (p1) (kd_45) (h) _ hw) kxN (kIp (fun z1 hw => ?_))
  refine g_iload_n 2 (dk D_X2_weigh 4 rfl) rfl rfl ?_
  refine g_iconst (dk D_X2_weigh 5 rfl) ki_m1 ?_
  refine g_ixor (dk D_X2_weigh 6 rfl) ?_
  refine g_iand (dk D_X2_weigh 7 rfl) ?_
  refine g_topi (fun v3_2 ev3_2 => ?_)
  replace hw := hw _ ev3_2
  refine g_istore_n (dk D_X2_weigh 8 rfl) rfl (by decide) rfl ?_
  refine g_aload_n 1 (dk D_X2_weigh 9 rfl) rfl rfl ?_
  refine g_getR 5 (t := 49) (dk D_X2_weigh 10 rfl) kd_44 rfl rfl (by decide) w_305 rfl rfl rfl ?_
  refine g_iload_n 2 (dk D_X2_weigh 11 rfl) rfl rfl ?_
  refine g_iconst (dk D_X2_weigh 12 rfl) ki_1 ?_
  refine g_iadd (dk D_X2_weigh 13 rfl) ?_
  refine g_iload_n 3 (dk D_X2_weigh 14 rfl) rfl rfl ?_
  refine g_bipush (dk D_X2_weigh 15 rfl) kb_8 ?_
  refine g_callS (As := [.int ((p1 + (1 : Int32))), .int (p2), .int ((8 : Int32))]) (kc := 0) (fr := 0) (lo := 0) (mc := 0) (My := M_X2_index) (dk D_X2_weigh 16 rfl) w_624 w_625 w_107 w_626 okD_X2_index (by decide) (Nat.le_of_ble_eq_true rfl) rfl (c_X2_index ((p1 + (1 : Int32))) (p2) ((8 : Int32)) (h) _ hw) kxN (kIp (fun z3 hw => ?_))
  refine g_callSN (As := [.ref (49), .int (z3)]) (kc := 0) (fr := 0) (lo := 0) (mc := 0) (My := M_X8_at) (dk D_X2_weigh 17 rfl) w_619 w_518 w_101 w_519 okD_X8_at (by decide) (Nat.le_of_ble_eq_true rfl) rfl (c_X8_at 49 140544 (z3) (kd_49) (h) _ hw) kxN (kIp (fun z4 hw => ?_))
  refine g_istore (dk D_X2_weigh 18 rfl) (by decide) rfl ?_
  refine g_aload_n 2 (dk D_X2_weigh 19 rfl) rfl rfl ?_
  refine g_getR 12 (t := 56) (dk D_X2_weigh 20 rfl) kd_44 rfl rfl (by decide) w_313 rfl rfl rfl ?_
  refine g_iconst (dk D_X2_weigh 21 rfl) ki_0 ?_
  refine g_iload 0 (dk D_X2_weigh 22 rfl) rfl ?_
  refine g_callSN (As := [.ref (56), .int ((0 : Int32)), .int (z4)]) (kc := 0) (fr := 0) (lo := 0) (mc := 0) (My := M_X8_put) (dk D_X2_weigh 23 rfl) w_550 w_496 w_101 w_497 okD_X8_put (by decide) (Nat.le_of_ble_eq_true rfl) rfl (c_X8_put 56 9 ((0 : Int32)) (z4) (kd_56) (h) _ hw) kxN (kV (fun h5 hw => ?_))
  refine g_iconst (dk D_X2_weigh 24 rfl) ki_0 ?_
  refine g_istore (dk D_X2_weigh 25 rfl) (by decide) rfl ?_
  refine g_sub [3, 4, 5, 2, 1, 0] rfl ?_
  exact t_X2_weigh_b44 p1 p2 (v3_2) (z4) Q ((0 : Int32), h5) hw
theorem c_X2_weigh {X : Cx} (p1 : Int32) (p2 : Int32) (h : Hp) (Q : Hp → Prop) (hw : w_X2_weigh p1 p2 h Q) : Con X yX2_weigh M_X2_weigh 2 62 0 [.ref (44), .int (p1), .int (p2)] h (QV Q) Qn :=
  con_of (by decide +kernel) rfl (Nat.le_of_ble_eq_true rfl) (t_X2_weigh p1 p2 h Q hw)
/-! ShadowTolls$Planner.solveFrom(II)V -/
abbrev M_X2_solveFrom : Mi := (RX2, cX2_solveFrom, 5, none)
abbrev E_X2_solveFrom : Rm := (3, 97, 0, 0)
def rows_X2_solveFrom : List (Nat × Instr × Nat) := [(0, .aload_n 0, 1), (1, .iload_n 1, 1), (2, .iload_n 2, 1), (3, .invokevirtual 118, 3), (6, .aload_n 0, 1), (7, .getfield 25, 3), (10, .iload_n 1, 1), (11, .iload_n 2, 1), (12, .bipush 8, 2), (14, .invokestatic 106, 3), (17, .aload_n 0, 1), (18, .getfield 49, 3), (21, .iconst 0, 1), (22, .invokestatic 98, 3), (25, .invokestatic 79, 3), (28, .aload_n 0, 1), (29, .iload_n 1, 1), (30, .invokevirtual 121, 3), (33, .ifCond .ne 4, 3), (36, .return_, 1), (37, .iconst 0, 1), (38, .istore_n 3, 1), (39, .iload_n 3, 1), (40, .bipush 8, 2), (42, .if_icmp .ge 62, 3), (45, .iload_n 2, 1), (46, .iload_n 3, 1), (47, .ishr, 1), (48, .iconst 1, 1), (49, .iand, 1), (50, .iconst 1, 1), (51, .if_icmp .ne 47, 3), (54, .aload_n 0, 1), (55, .getfield 40, 3), (58, .iload_n 3, 1), (59, .invokestatic 98, 3), (62, .istore 4, 2), (64, .aload_n 0, 1), (65, .getfield 25, 3), (68, .iload_n 1, 1), (69, .iload_n 2, 1), (70, .iload_n 3, 1), (71, .invokestatic 106, 3), (74, .aload_n 0, 1), (75, .getfield 46, 3), (78, .iload 4, 2), (80, .invokestatic 98, 3), (83, .aload_n 0, 1), (84, .getfield 49, 3), (87, .iload 4, 2), (89, .invokestatic 98, 3), (92, .invokestatic 125, 3), (95, .invokestatic 79, 3), (98, .iinc 3 1, 3), (101, .goto (-62), 3), (104, .return_, 1)]
theorem D_X2_solveFrom : dkA cX2_solveFrom rows_X2_solveFrom := by
  unfold dkA
  decide +kernel
theorem okD_X2_solveFrom : okD yX2_solveFrom 2 := by
  unfold okD
  decide +kernel
def w_X2_solveFrom_b98 (p1 : Int32) (p2 : Int32) (v3 : Int32) (K39 : Int32 × Hp → Prop) (h : Hp) (Q : Hp → Prop) : Prop :=
  K39 ((v3 + (1 : Int32)), h)
def w_X2_solveFrom_l39 (p1 : Int32) (p2 : Int32) (Q : Hp → Prop) (K39 : Int32 × Hp → Prop) (v3 : Int32) (h : Hp) : Prop :=
  wif ((8 : Int32) ≤ v3) (Q h) (wif (¬ ((p2 >>> (v3 &&& 31)) &&& (1 : Int32)) = (1 : Int32)) (w_X2_solveFrom_b98 p1 p2 (v3) K39 (h) Q) (w_X8_at 54 8 (v3) h (fun z1 => w_X2_index (p1) (p2) (v3) h (fun z2 => w_X8_at 56 9 (z1) h (fun z3 => w_X8_at 57 9 (z1) h (fun z4 => w_X8_put 49 140544 (z2) ((if z4 < z3 then z4 else z3)) h (fun h5 => w_X2_solveFrom_b98 p1 p2 (v3) K39 (h5) Q)))))))
def w_X2_solveFrom_b39 (p1 : Int32) (p2 : Int32) (Q : Hp → Prop) (s : Int32 × Hp) : Prop := wl (fun K s => w_X2_solveFrom_l39 p1 p2 Q K s.1 s.2) s
def w_X2_solveFrom (p1 : Int32) (p2 : Int32) (h : Hp) (Q : Hp → Prop) : Prop :=
  w_X2_weigh (p1) (p2) h (fun h1 => w_X2_index (p1) (p2) ((8 : Int32)) h1 (fun z2 => w_X8_at 57 9 ((0 : Int32)) h1 (fun z3 => w_X8_put 49 140544 (z2) (z3) h1 (fun h4 => w_X2_shadeReaches (p1) h4 (fun z5 => wif (¬ z5 = 0) (w_X2_solveFrom_b39 p1 p2 Q ((0 : Int32), h4)) (Q h4))))))
theorem t_X2_solveFrom_b98 {X : Cx} (p1 : Int32) (p2 : Int32) (v3 : Int32) (K39 : Int32 × Hp → Prop) (h : Hp) (Q : Hp → Prop) (hK39 : ∀ s : Int32 × Hp, K39 s → G X M_X2_solveFrom E_X2_solveFrom (QM X E_X2_solveFrom (QV Q) Qn) 0 39 [(0, .ref (44)), (1, .int (p1)), (2, .int (p2)), (3, .int (s.1))] [] (s.2)) (hw : w_X2_solveFrom_b98 p1 p2 v3 K39 h Q) : G X M_X2_solveFrom E_X2_solveFrom (QM X E_X2_solveFrom (QV Q) Qn) 0 98 [(0, .ref (44)), (1, .int (p1)), (2, .int (p2)), (3, .int (v3))] [] h := by
  unfold w_X2_solveFrom_b98 at hw
  refine g_iinc 3 (dk D_X2_solveFrom 53 rfl) rfl (congrArg (fun z => _ + z) ki_1) (by decide) rfl ?_
  refine g_goto (dk D_X2_solveFrom 54 rfl) rfl ?_
  refine g_sub [1, 2, 3, 0] rfl ?_
  exact hK39 ((v3 + (1 : Int32)), h) hw
theorem t_X2_solveFrom_l39 {X : Cx} (p1 : Int32) (p2 : Int32) (Q : Hp → Prop) (K39 : Int32 × Hp → Prop) (v3 : Int32) (h : Hp) (hK39 : ∀ s : Int32 × Hp, K39 s → G X M_X2_solveFrom E_X2_solveFrom (QM X E_X2_solveFrom (QV Q) Qn) 0 39 [(0, .ref (44)), (1, .int (p1)), (2, .int (p2)), (3, .int (s.1))] [] (s.2)) (hw : w_X2_solveFrom_l39 p1 p2 Q K39 v3 h) : G X M_X2_solveFrom E_X2_solveFrom (QM X E_X2_solveFrom (QV Q) Qn) 0 39 [(0, .ref (44)), (1, .int (p1)), (2, .int (p2)), (3, .int (v3))] [] h := by
  unfold w_X2_solveFrom_l39 at hw
  refine g_iload_n 3 (dk D_X2_solveFrom 22 rfl) rfl rfl ?_
  refine g_bipush (dk D_X2_solveFrom 23 rfl) kb_8 ?_
  refine g_icmp_ge (dk D_X2_solveFrom 24 rfl) rfl (wif_m hw (fun hw => ?_) (fun hw => ?_))
  · exact g_vret (dk D_X2_solveFrom 55 rfl) rfl ⟨rfl, hw⟩
  · refine g_iload_n 2 (dk D_X2_solveFrom 25 rfl) rfl rfl ?_
    refine g_iload_n 3 (dk D_X2_solveFrom 26 rfl) rfl rfl ?_
    refine g_ishr (dk D_X2_solveFrom 27 rfl) ?_
    refine g_iconst (dk D_X2_solveFrom 28 rfl) ki_1 ?_
    refine g_iand (dk D_X2_solveFrom 29 rfl) ?_
    refine g_iconst (dk D_X2_solveFrom 30 rfl) ki_1 ?_
    refine g_icmp_ne (dk D_X2_solveFrom 31 rfl) rfl (wif_m hw (fun hw => ?_) (fun hw => ?_))
    · exact t_X2_solveFrom_b98 p1 p2 (v3) K39 (h) Q hK39 hw
    · refine g_aload_n 0 (dk D_X2_solveFrom 32 rfl) rfl rfl ?_
      refine g_getR 10 (t := 54) (dk D_X2_solveFrom 33 rfl) kd_44 rfl rfl (by decide) w_311 rfl rfl rfl ?_
      refine g_iload_n 3 (dk D_X2_solveFrom 34 rfl) rfl rfl ?_
      refine g_callSN (As := [.ref (54), .int (v3)]) (kc := 0) (fr := 0) (lo := 0) (mc := 0) (My := M_X8_at) (dk D_X2_solveFrom 35 rfl) w_619 w_518 w_101 w_519 okD_X8_at (by decide) (Nat.le_of_ble_eq_true rfl) rfl (c_X8_at 54 8 (v3) (kd_54) (h) _ hw) kxN (kIp (fun z1 hw => ?_))
      refine g_istore (dk D_X2_solveFrom 36 rfl) (by decide) rfl ?_
      refine g_aload_n 1 (dk D_X2_solveFrom 37 rfl) rfl rfl ?_
      refine g_getR 5 (t := 49) (dk D_X2_solveFrom 38 rfl) kd_44 rfl rfl (by decide) w_305 rfl rfl rfl ?_
      refine g_iload_n 2 (dk D_X2_solveFrom 39 rfl) rfl rfl ?_
      refine g_iload_n 3 (dk D_X2_solveFrom 40 rfl) rfl rfl ?_
      refine g_iload_n 4 (dk D_X2_solveFrom 41 rfl) rfl rfl ?_
      refine g_callS (As := [.int (p1), .int (p2), .int (v3)]) (kc := 0) (fr := 0) (lo := 0) (mc := 0) (My := M_X2_index) (dk D_X2_solveFrom 42 rfl) w_624 w_625 w_107 w_626 okD_X2_index (by decide) (Nat.le_of_ble_eq_true rfl) rfl (c_X2_index (p1) (p2) (v3) (h) _ hw) kxN (kIp (fun z2 hw => ?_))
      refine g_aload_n 1 (dk D_X2_solveFrom 43 rfl) rfl rfl ?_
      refine g_getR 12 (t := 56) (dk D_X2_solveFrom 44 rfl) kd_44 rfl rfl (by decide) w_313 rfl rfl rfl ?_
      refine g_iload 0 (dk D_X2_solveFrom 45 rfl) rfl ?_
      refine g_callSN (As := [.ref (56), .int (z1)]) (kc := 0) (fr := 0) (lo := 0) (mc := 0) (My := M_X8_at) (dk D_X2_solveFrom 46 rfl) w_619 w_518 w_101 w_519 okD_X8_at (by decide) (Nat.le_of_ble_eq_true rfl) rfl (c_X8_at 56 9 (z1) (kd_56) (h) _ hw) kxN (kIp (fun z3 hw => ?_))
      refine g_aload_n 1 (dk D_X2_solveFrom 47 rfl) rfl rfl ?_
      refine g_getR 13 (t := 57) (dk D_X2_solveFrom 48 rfl) kd_44 rfl rfl (by decide) w_314 rfl rfl rfl ?_
      refine g_iload 0 (dk D_X2_solveFrom 49 rfl) rfl ?_
      refine g_callSN (As := [.ref (57), .int (z1)]) (kc := 0) (fr := 0) (lo := 0) (mc := 0) (My := M_X8_at) (dk D_X2_solveFrom 50 rfl) w_619 w_518 w_101 w_519 okD_X8_at (by decide) (Nat.le_of_ble_eq_true rfl) rfl (c_X8_at 57 9 (z1) (kd_57) (h) _ hw) kxN (kIp (fun z4 hw => ?_))
      refine g_mmin (dk D_X2_solveFrom 51 rfl) w_649 (by decide) (Nat.le_of_ble_eq_true rfl) ?_
      refine g_callSN (As := [.ref (49), .int (z2), .int ((if z4 < z3 then z4 else z3))]) (kc := 0) (fr := 0) (lo := 0) (mc := 0) (My := M_X8_put) (dk D_X2_solveFrom 52 rfl) w_550 w_496 w_101 w_497 okD_X8_put (by decide) (Nat.le_of_ble_eq_true rfl) rfl (c_X8_put 49 140544 (z2) ((if z4 < z3 then z4 else z3)) (kd_49) (h) _ hw) kxN (kV (fun h5 hw => ?_))
      refine g_sub [1, 2, 3, 4] rfl ?_
      exact t_X2_solveFrom_b98 p1 p2 (v3) K39 (h5) Q hK39 hw
theorem t_X2_solveFrom_b39 {X : Cx} (p1 : Int32) (p2 : Int32) (Q : Hp → Prop) (s : Int32 × Hp) (hw : w_X2_solveFrom_b39 p1 p2 Q s) : G X M_X2_solveFrom E_X2_solveFrom (QM X E_X2_solveFrom (QV Q) Qn) 0 39 [(0, .ref (44)), (1, .int (p1)), (2, .int (p2)), (3, .int (s.1))] [] (s.2) :=
  wl_ind (B := fun K s => w_X2_solveFrom_l39 p1 p2 Q K (s.1) (s.2)) (P := fun s => G X M_X2_solveFrom E_X2_solveFrom (QM X E_X2_solveFrom (QV Q) Qn) 0 39 [(0, .ref (44)), (1, .int (p1)), (2, .int (p2)), (3, .int (s.1))] [] (s.2)) (fun K hK s hw => t_X2_solveFrom_l39 p1 p2 Q K (s.1) (s.2) hK hw) s hw
theorem t_X2_solveFrom {X : Cx} (p1 : Int32) (p2 : Int32) (h : Hp) (Q : Hp → Prop) (hw : w_X2_solveFrom p1 p2 h Q) : G X M_X2_solveFrom E_X2_solveFrom (QM X E_X2_solveFrom (QV Q) Qn) 0 0 [(0, .ref (44)), (1, .int (p1)), (2, .int (p2))] [] h := by
  unfold w_X2_solveFrom at hw
  refine g_aload_n 0 (dk D_X2_solveFrom 0 rfl) rfl rfl ?_
  refine g_iload_n 1 (dk D_X2_solveFrom 1 rfl) rfl rfl ?_
  refine g_iload_n 2 (dk D_X2_solveFrom 2 rfl) rfl rfl ?_
  refine g_callV (As := [.int (p1), .int (p2)]) (kc := 0) (fr := 2) (lo := 62) (mc := 0) (My := M_X2_weigh) (dk D_X2_solveFrom 3 rfl) kd_44 rfl rfl w_637 w_639 w_7 w_107 w_640 okD_X2_weigh (by decide) (Nat.le_of_ble_eq_true rfl) rfl (c_X2_weigh (p1) (p2) (h) _ hw) kxN (kV (fun h1 hw => ?_))
  refine g_aload_n 0 (dk D_X2_solveFrom 4 rfl) rfl rfl ?_
  refine g_getR 5 (t := 49) (dk D_X2_solveFrom 5 rfl) kd_44 rfl rfl (by decide) w_305 rfl rfl rfl ?_
  refine g_iload_n 1 (dk D_X2_solveFrom 6 rfl) rfl rfl ?_
  refine g_iload_n 2 (dk D_X2_solveFrom 7 rfl) rfl rfl ?_
  refine g_bipush (dk D_X2_solveFrom 8 rfl) kb_8 ?_
  refine g_callS (As := [.int (p1), .int (p2), .int ((8 : Int32))]) (kc := 0) (fr := 0) (lo := 0) (mc := 0) (My := M_X2_index) (dk D_X2_solveFrom 9 rfl) w_624 w_625 w_107 w_626 okD_X2_index (by decide) (Nat.le_of_ble_eq_true rfl) rfl (c_X2_index (p1) (p2) ((8 : Int32)) (h1) _ hw) kxN (kIp (fun z2 hw => ?_))
  refine g_aload_n 0 (dk D_X2_solveFrom 10 rfl) rfl rfl ?_
  refine g_getR 13 (t := 57) (dk D_X2_solveFrom 11 rfl) kd_44 rfl rfl (by decide) w_314 rfl rfl rfl ?_
  refine g_iconst (dk D_X2_solveFrom 12 rfl) ki_0 ?_
  refine g_callSN (As := [.ref (57), .int ((0 : Int32))]) (kc := 0) (fr := 0) (lo := 0) (mc := 0) (My := M_X8_at) (dk D_X2_solveFrom 13 rfl) w_619 w_518 w_101 w_519 okD_X8_at (by decide) (Nat.le_of_ble_eq_true rfl) rfl (c_X8_at 57 9 ((0 : Int32)) (kd_57) (h1) _ hw) kxN (kIp (fun z3 hw => ?_))
  refine g_callSN (As := [.ref (49), .int (z2), .int (z3)]) (kc := 0) (fr := 0) (lo := 0) (mc := 0) (My := M_X8_put) (dk D_X2_solveFrom 14 rfl) w_550 w_496 w_101 w_497 okD_X8_put (by decide) (Nat.le_of_ble_eq_true rfl) rfl (c_X8_put 49 140544 (z2) (z3) (kd_49) (h1) _ hw) kxN (kV (fun h4 hw => ?_))
  refine g_aload_n 0 (dk D_X2_solveFrom 15 rfl) rfl rfl ?_
  refine g_iload_n 1 (dk D_X2_solveFrom 16 rfl) rfl rfl ?_
  refine g_callV (As := [.int (p1)]) (kc := 0) (fr := 0) (lo := 0) (mc := 0) (My := M_X2_shadeReaches) (dk D_X2_solveFrom 17 rfl) kd_44 rfl rfl w_645 w_647 w_9 w_107 w_648 okD_X2_shadeReaches (by decide) (Nat.le_of_ble_eq_true rfl) rfl (c_X2_shadeReaches (p1) (h4) _ hw) kxN (kIp (fun z5 hw => ?_))
  refine g_if_ne (dk D_X2_solveFrom 18 rfl) rfl (wif_m hw (fun hw => ?_) (fun hw => ?_))
  · refine g_iconst (dk D_X2_solveFrom 20 rfl) ki_0 ?_
    refine g_istore_n (dk D_X2_solveFrom 21 rfl) rfl (by decide) rfl ?_
    refine g_sub [1, 2, 3, 0] rfl ?_
    exact t_X2_solveFrom_b39 p1 p2 Q ((0 : Int32), h4) hw
  · exact g_vret (dk D_X2_solveFrom 19 rfl) rfl ⟨rfl, hw⟩
theorem c_X2_solveFrom {X : Cx} (p1 : Int32) (p2 : Int32) (h : Hp) (Q : Hp → Prop) (hw : w_X2_solveFrom p1 p2 h Q) : Con X yX2_solveFrom M_X2_solveFrom 3 97 0 [.ref (44), .int (p1), .int (p2)] h (QV Q) Qn :=
  con_of (by decide +kernel) rfl (Nat.le_of_ble_eq_true rfl) (t_X2_solveFrom p1 p2 h Q hw)
/-! ShadowTolls$Planner.solve(I)V -/
abbrev M_X2_solve : Mi := (RX2, cX2_solve, 4, none)
abbrev E_X2_solve : Rm := (4, 129, 0, 0)
def rows_X2_solve : List (Nat × Instr × Nat) := [(0, .iconst 0, 1), (1, .istore_n 2, 1), (2, .iload_n 2, 1), (3, .sipush 256, 3), (6, .if_icmp .ge 39, 3), (9, .aload_n 0, 1), (10, .getfield 25, 3), (13, .aload_n 0, 1), (14, .getfield 69, 3), (17, .iload_n 2, 1), (18, .bipush 8, 2), (20, .invokestatic 106, 3), (23, .iload_n 1, 1), (24, .aload_n 0, 1), (25, .getfield 56, 3), (28, .iload_n 2, 1), (29, .iconst (-1), 1), (30, .ixor, 1), (31, .iand, 1), (32, .invokestatic 109, 3), (35, .imul, 1), (36, .invokestatic 79, 3), (39, .iinc 2 1, 3), (42, .goto (-40), 3), (45, .aload_n 0, 1), (46, .getfield 69, 3), (49, .iconst 1, 1), (50, .isub, 1), (51, .istore_n 2, 1), (52, .iload_n 2, 1), (53, .ifCond .lt 41, 3), (56, .iconst 0, 1), (57, .istore_n 3, 1), (58, .iload_n 3, 1), (59, .sipush 256, 3), (62, .if_icmp .ge 26, 3), (65, .iload_n 3, 1), (66, .aload_n 0, 1), (67, .getfield 56, 3), (70, .iconst (-1), 1), (71, .ixor, 1), (72, .iand, 1), (73, .ifCond .ne 9, 3), (76, .aload_n 0, 1), (77, .iload_n 2, 1), (78, .iload_n 3, 1), (79, .invokevirtual 114, 3), (82, .iinc 3 1, 3), (85, .goto (-27), 3), (88, .iinc 2 (-1), 3), (91, .goto (-39), 3), (94, .return_, 1)]
theorem D_X2_solve : dkA cX2_solve rows_X2_solve := by
  unfold dkA
  decide +kernel
theorem okD_X2_solve : okD yX2_solve 1 := by
  unfold okD
  decide +kernel
def w_X2_solve_b82 (p1 : Int32) (v2 : Int32) (v3 : Int32) (K52 : Int32 × Hp → Prop) (K58 : Int32 × Hp → Prop) (h : Hp) (Q : Hp → Prop) : Prop :=
  K58 ((v3 + (1 : Int32)), h)
def w_X2_solve_l58 (p1 : Int32) (v2 : Int32) (K52 : Int32 × Hp → Prop) (Q : Hp → Prop) (K58 : Int32 × Hp → Prop) (v3 : Int32) (h : Hp) : Prop :=
  wif ((256 : Int32) ≤ v3) (K52 ((v2 + (-1 : Int32)), h)) (wif (¬ (v3 &&& ((h 44 14) ^^^ (-1 : Int32))) = 0) (w_X2_solve_b82 p1 (v2) (v3) K52 K58 (h) Q) (w_X2_solveFrom (v2) (v3) h (fun h1 => w_X2_solve_b82 p1 (v2) (v3) K52 K58 (h1) Q)))
def w_X2_solve_b58 (p1 : Int32) (v2 : Int32) (K52 : Int32 × Hp → Prop) (Q : Hp → Prop) (s : Int32 × Hp) : Prop := wl (fun K s => w_X2_solve_l58 p1 v2 K52 Q K s.1 s.2) s
def w_X2_solve_l52 (p1 : Int32) (Q : Hp → Prop) (K52 : Int32 × Hp → Prop) (v2 : Int32) (h : Hp) : Prop :=
  wif (v2 < 0) (Q h) (w_X2_solve_b58 p1 (v2) K52 Q ((0 : Int32), h))
def w_X2_solve_b52 (p1 : Int32) (Q : Hp → Prop) (s : Int32 × Hp) : Prop := wl (fun K s => w_X2_solve_l52 p1 Q K s.1 s.2) s
def w_X2_solve_l2 (p1 : Int32) (Q : Hp → Prop) (K2 : Int32 × Hp → Prop) (v2 : Int32) (h : Hp) : Prop :=
  wif ((256 : Int32) ≤ v2) (wlet (((h 44 16) - (1 : Int32))) (fun v2_1 => w_X2_solve_b52 p1 Q (v2_1, h))) (w_X2_index ((h 44 16)) (v2) ((8 : Int32)) h (fun z2 => w_J6_bitCount_0f7a4 (((h 44 14) &&& (v2 ^^^ (-1 : Int32)))) h (fun z3 => w_X8_put 49 140544 (z2) ((p1 * z3)) h (fun h4 => K2 ((v2 + (1 : Int32)), h4)))))
def w_X2_solve_b2 (p1 : Int32) (Q : Hp → Prop) (s : Int32 × Hp) : Prop := wl (fun K s => w_X2_solve_l2 p1 Q K s.1 s.2) s
def w_X2_solve (p1 : Int32) (h : Hp) (Q : Hp → Prop) : Prop :=
  w_X2_solve_b2 p1 Q ((0 : Int32), h)
theorem t_X2_solve_b82 {X : Cx} (p1 : Int32) (v2 : Int32) (v3 : Int32) (K52 : Int32 × Hp → Prop) (K58 : Int32 × Hp → Prop) (h : Hp) (Q : Hp → Prop) (hK52 : ∀ s : Int32 × Hp, K52 s → G X M_X2_solve E_X2_solve (QM X E_X2_solve (QV Q) Qn) 0 52 [(0, .ref (44)), (2, .int (s.1))] [] (s.2)) (hK58 : ∀ s : Int32 × Hp, K58 s → G X M_X2_solve E_X2_solve (QM X E_X2_solve (QV Q) Qn) 0 58 [(0, .ref (44)), (2, .int (v2)), (3, .int (s.1))] [] (s.2)) (hw : w_X2_solve_b82 p1 v2 v3 K52 K58 h Q) : G X M_X2_solve E_X2_solve (QM X E_X2_solve (QV Q) Qn) 0 82 [(0, .ref (44)), (2, .int (v2)), (3, .int (v3))] [] h := by
  unfold w_X2_solve_b82 at hw
  refine g_iinc 2 (dk D_X2_solve 47 rfl) rfl (congrArg (fun z => _ + z) ki_1) (by decide) rfl ?_
  refine g_goto (dk D_X2_solve 48 rfl) rfl ?_
  refine g_sub [1, 2, 0] rfl ?_
  exact hK58 ((v3 + (1 : Int32)), h) hw
theorem t_X2_solve_l58 {X : Cx} (p1 : Int32) (v2 : Int32) (K52 : Int32 × Hp → Prop) (Q : Hp → Prop) (K58 : Int32 × Hp → Prop) (v3 : Int32) (h : Hp) (hK52 : ∀ s : Int32 × Hp, K52 s → G X M_X2_solve E_X2_solve (QM X E_X2_solve (QV Q) Qn) 0 52 [(0, .ref (44)), (2, .int (s.1))] [] (s.2)) (hK58 : ∀ s : Int32 × Hp, K58 s → G X M_X2_solve E_X2_solve (QM X E_X2_solve (QV Q) Qn) 0 58 [(0, .ref (44)), (2, .int (v2)), (3, .int (s.1))] [] (s.2)) (hw : w_X2_solve_l58 p1 v2 K52 Q K58 v3 h) : G X M_X2_solve E_X2_solve (QM X E_X2_solve (QV Q) Qn) 0 58 [(0, .ref (44)), (2, .int (v2)), (3, .int (v3))] [] h := by
  unfold w_X2_solve_l58 at hw
  refine g_iload_n 2 (dk D_X2_solve 33 rfl) rfl rfl ?_
  refine g_sipush (dk D_X2_solve 34 rfl) ks_256 ?_
  refine g_icmp_ge (dk D_X2_solve 35 rfl) rfl (wif_m hw (fun hw => ?_) (fun hw => ?_))
  · refine g_iinc 1 (dk D_X2_solve 49 rfl) rfl (congrArg (fun z => _ + z) ki_m1) (by decide) rfl ?_
    refine g_goto (dk D_X2_solve 50 rfl) rfl ?_
    refine g_sub [1, 0] rfl ?_
    exact hK52 ((v2 + (-1 : Int32)), h) hw
  · refine g_iload_n 2 (dk D_X2_solve 36 rfl) rfl rfl ?_
    refine g_aload_n 0 (dk D_X2_solve 37 rfl) rfl rfl ?_
    refine g_getI 14 (dk D_X2_solve 38 rfl) kd_44 rfl rfl (by decide) w_315 rfl rfl ?_
    refine g_iconst (dk D_X2_solve 39 rfl) ki_m1 ?_
    refine g_ixor (dk D_X2_solve 40 rfl) ?_
    refine g_iand (dk D_X2_solve 41 rfl) ?_
    refine g_if_ne (dk D_X2_solve 42 rfl) rfl (wif_m hw (fun hw => ?_) (fun hw => ?_))
    · exact t_X2_solve_b82 p1 (v2) (v3) K52 K58 (h) Q hK52 hK58 hw
    · refine g_aload_n 0 (dk D_X2_solve 43 rfl) rfl rfl ?_
      refine g_iload_n 1 (dk D_X2_solve 44 rfl) rfl rfl ?_
      refine g_iload_n 2 (dk D_X2_solve 45 rfl) rfl rfl ?_
      refine g_callV (As := [.int (v2), .int (v3)]) (kc := 0) (fr := 3) (lo := 97) (mc := 0) (My := M_X2_solveFrom) (dk D_X2_solve 46 rfl) kd_44 rfl rfl w_633 w_635 w_6 w_107 w_636 okD_X2_solveFrom (by decide) (Nat.le_of_ble_eq_true rfl) rfl (c_X2_solveFrom (v2) (v3) (h) _ hw) kxN (kV (fun h1 hw => ?_))
      exact t_X2_solve_b82 p1 (v2) (v3) K52 K58 (h1) Q hK52 hK58 hw
theorem t_X2_solve_b58 {X : Cx} (p1 : Int32) (v2 : Int32) (K52 : Int32 × Hp → Prop) (Q : Hp → Prop) (s : Int32 × Hp) (hK52 : ∀ s : Int32 × Hp, K52 s → G X M_X2_solve E_X2_solve (QM X E_X2_solve (QV Q) Qn) 0 52 [(0, .ref (44)), (2, .int (s.1))] [] (s.2)) (hw : w_X2_solve_b58 p1 v2 K52 Q s) : G X M_X2_solve E_X2_solve (QM X E_X2_solve (QV Q) Qn) 0 58 [(0, .ref (44)), (2, .int (v2)), (3, .int (s.1))] [] (s.2) :=
  wl_ind (B := fun K s => w_X2_solve_l58 p1 v2 K52 Q K (s.1) (s.2)) (P := fun s => G X M_X2_solve E_X2_solve (QM X E_X2_solve (QV Q) Qn) 0 58 [(0, .ref (44)), (2, .int (v2)), (3, .int (s.1))] [] (s.2)) (fun K hK s hw => t_X2_solve_l58 p1 v2 K52 Q K (s.1) (s.2) hK52 hK hw) s hw
theorem t_X2_solve_l52 {X : Cx} (p1 : Int32) (Q : Hp → Prop) (K52 : Int32 × Hp → Prop) (v2 : Int32) (h : Hp) (hK52 : ∀ s : Int32 × Hp, K52 s → G X M_X2_solve E_X2_solve (QM X E_X2_solve (QV Q) Qn) 0 52 [(0, .ref (44)), (2, .int (s.1))] [] (s.2)) (hw : w_X2_solve_l52 p1 Q K52 v2 h) : G X M_X2_solve E_X2_solve (QM X E_X2_solve (QV Q) Qn) 0 52 [(0, .ref (44)), (2, .int (v2))] [] h := by
  unfold w_X2_solve_l52 at hw
  refine g_iload_n 1 (dk D_X2_solve 29 rfl) rfl rfl ?_
  refine g_if_lt (dk D_X2_solve 30 rfl) rfl (wif_m hw (fun hw => ?_) (fun hw => ?_))
  · exact g_vret (dk D_X2_solve 51 rfl) rfl ⟨rfl, hw⟩
  · refine g_iconst (dk D_X2_solve 31 rfl) ki_0 ?_
    refine g_istore_n (dk D_X2_solve 32 rfl) rfl (by decide) rfl ?_
    refine g_sub [1, 2, 0] rfl ?_
    exact t_X2_solve_b58 p1 (v2) K52 Q ((0 : Int32), h) hK52 hw
theorem t_X2_solve_b52 {X : Cx} (p1 : Int32) (Q : Hp → Prop) (s : Int32 × Hp) (hw : w_X2_solve_b52 p1 Q s) : G X M_X2_solve E_X2_solve (QM X E_X2_solve (QV Q) Qn) 0 52 [(0, .ref (44)), (2, .int (s.1))] [] (s.2) :=
  wl_ind (B := fun K s => w_X2_solve_l52 p1 Q K (s.1) (s.2)) (P := fun s => G X M_X2_solve E_X2_solve (QM X E_X2_solve (QV Q) Qn) 0 52 [(0, .ref (44)), (2, .int (s.1))] [] (s.2)) (fun K hK s hw => t_X2_solve_l52 p1 Q K (s.1) (s.2) hK hw) s hw
theorem t_X2_solve_l2 {X : Cx} (p1 : Int32) (Q : Hp → Prop) (K2 : Int32 × Hp → Prop) (v2 : Int32) (h : Hp) (hK2 : ∀ s : Int32 × Hp, K2 s → G X M_X2_solve E_X2_solve (QM X E_X2_solve (QV Q) Qn) 0 2 [(0, .ref (44)), (1, .int (p1)), (2, .int (s.1))] [] (s.2)) (hw : w_X2_solve_l2 p1 Q K2 v2 h) : G X M_X2_solve E_X2_solve (QM X E_X2_solve (QV Q) Qn) 0 2 [(0, .ref (44)), (1, .int (p1)), (2, .int (v2))] [] h := by
  unfold w_X2_solve_l2 at hw
  refine g_iload_n 2 (dk D_X2_solve 2 rfl) rfl rfl ?_
  refine g_sipush (dk D_X2_solve 3 rfl) ks_256 ?_
  refine g_icmp_ge (dk D_X2_solve 4 rfl) rfl (wif_m hw (fun hw => ?_) (fun hw => ?_))
  · refine g_aload_n 0 (dk D_X2_solve 24 rfl) rfl rfl ?_
    refine g_getI 16 (dk D_X2_solve 25 rfl) kd_44 rfl rfl (by decide) w_317 rfl rfl ?_
    refine g_iconst (dk D_X2_solve 26 rfl) ki_1 ?_
    refine g_isub (dk D_X2_solve 27 rfl) ?_
    refine g_topi (fun v2_1 ev2_1 => ?_)
    replace hw := hw _ ev2_1
    refine g_istore_n (dk D_X2_solve 28 rfl) rfl (by decide) rfl ?_
    refine g_sub [1, 0] rfl ?_
    exact t_X2_solve_b52 p1 Q (v2_1, h) hw
  · refine g_aload_n 0 (dk D_X2_solve 5 rfl) rfl rfl ?_
    refine g_getR 5 (t := 49) (dk D_X2_solve 6 rfl) kd_44 rfl rfl (by decide) w_305 rfl rfl rfl ?_
    refine g_aload_n 0 (dk D_X2_solve 7 rfl) rfl rfl ?_
    refine g_getI 16 (dk D_X2_solve 8 rfl) kd_44 rfl rfl (by decide) w_317 rfl rfl ?_
    refine g_iload_n 2 (dk D_X2_solve 9 rfl) rfl rfl ?_
    refine g_bipush (dk D_X2_solve 10 rfl) kb_8 ?_
    refine g_callS (As := [.int ((h 44 16)), .int (v2), .int ((8 : Int32))]) (kc := 0) (fr := 0) (lo := 0) (mc := 0) (My := M_X2_index) (dk D_X2_solve 11 rfl) w_624 w_625 w_107 w_626 okD_X2_index (by decide) (Nat.le_of_ble_eq_true rfl) rfl (c_X2_index ((h 44 16)) (v2) ((8 : Int32)) (h) _ hw) kxN (kIp (fun z2 hw => ?_))
    refine g_iload_n 1 (dk D_X2_solve 12 rfl) rfl rfl ?_
    refine g_aload_n 0 (dk D_X2_solve 13 rfl) rfl rfl ?_
    refine g_getI 14 (dk D_X2_solve 14 rfl) kd_44 rfl rfl (by decide) w_315 rfl rfl ?_
    refine g_iload_n 2 (dk D_X2_solve 15 rfl) rfl rfl ?_
    refine g_iconst (dk D_X2_solve 16 rfl) ki_m1 ?_
    refine g_ixor (dk D_X2_solve 17 rfl) ?_
    refine g_iand (dk D_X2_solve 18 rfl) ?_
    refine g_callS (As := [.int (((h 44 14) &&& (v2 ^^^ (-1 : Int32))))]) (kc := 0) (fr := 0) (lo := 0) (mc := 0) (My := M_J6_bitCount_0f7a4) (dk D_X2_solve 19 rfl) w_627 w_628 w_122 w_629 okD_J6_bitCount_0f7a4 (by decide) (Nat.le_of_ble_eq_true rfl) rfl (c_J6_bitCount_0f7a4 (((h 44 14) &&& (v2 ^^^ (-1 : Int32)))) (h) _ hw) kxN (kIp (fun z3 hw => ?_))
    refine g_imul (dk D_X2_solve 20 rfl) ?_
    refine g_callSN (As := [.ref (49), .int (z2), .int ((p1 * z3))]) (kc := 0) (fr := 0) (lo := 0) (mc := 0) (My := M_X8_put) (dk D_X2_solve 21 rfl) w_550 w_496 w_101 w_497 okD_X8_put (by decide) (Nat.le_of_ble_eq_true rfl) rfl (c_X8_put 49 140544 (z2) ((p1 * z3)) (kd_49) (h) _ hw) kxN (kV (fun h4 hw => ?_))
    refine g_iinc 2 (dk D_X2_solve 22 rfl) rfl (congrArg (fun z => _ + z) ki_1) (by decide) rfl ?_
    refine g_goto (dk D_X2_solve 23 rfl) rfl ?_
    refine g_sub [1, 2, 0] rfl ?_
    exact hK2 ((v2 + (1 : Int32)), h4) hw
theorem t_X2_solve_b2 {X : Cx} (p1 : Int32) (Q : Hp → Prop) (s : Int32 × Hp) (hw : w_X2_solve_b2 p1 Q s) : G X M_X2_solve E_X2_solve (QM X E_X2_solve (QV Q) Qn) 0 2 [(0, .ref (44)), (1, .int (p1)), (2, .int (s.1))] [] (s.2) :=
  wl_ind (B := fun K s => w_X2_solve_l2 p1 Q K (s.1) (s.2)) (P := fun s => G X M_X2_solve E_X2_solve (QM X E_X2_solve (QV Q) Qn) 0 2 [(0, .ref (44)), (1, .int (p1)), (2, .int (s.1))] [] (s.2)) (fun K hK s hw => t_X2_solve_l2 p1 Q K (s.1) (s.2) hK hw) s hw
theorem t_X2_solve {X : Cx} (p1 : Int32) (h : Hp) (Q : Hp → Prop) (hw : w_X2_solve p1 h Q) : G X M_X2_solve E_X2_solve (QM X E_X2_solve (QV Q) Qn) 0 0 [(0, .ref (44)), (1, .int (p1))] [] h := by
  unfold w_X2_solve at hw
  refine g_iconst (dk D_X2_solve 0 rfl) ki_0 ?_
  refine g_istore_n (dk D_X2_solve 1 rfl) rfl (by decide) rfl ?_
  refine g_sub [1, 2, 0] rfl ?_
  exact t_X2_solve_b2 p1 Q ((0 : Int32), h) hw
theorem c_X2_solve {X : Cx} (p1 : Int32) (h : Hp) (Q : Hp → Prop) (hw : w_X2_solve p1 h Q) : Con X yX2_solve M_X2_solve 4 129 0 [.ref (44), .int (p1)] h (QV Q) Qn :=
  con_of (by decide +kernel) rfl (Nat.le_of_ble_eq_true rfl) (t_X2_solve p1 h Q hw)
/-! ShadowTolls$Planner.greatestTaking()I -/
abbrev M_X2_greatestTaking : Mi := (RX2, cX2_greatestTaking, 2, (some .int))
abbrev E_X2_greatestTaking : Rm := (5, 160, 0, 0)
def rows_X2_greatestTaking : List (Nat × Instr × Nat) := [(0, .iconst 0, 1), (1, .istore_n 1, 1), (2, .iload_n 1, 1), (3, .aload_n 0, 1), (4, .getfield 69, 3), (7, .bipush 8, 2), (9, .imul, 1), (10, .if_icmp .ge 52, 3), (13, .aload_n 0, 1), (14, .getfield 15, 3), (17, .iload_n 1, 1), (18, .aload_n 0, 1), (19, .getfield 15, 3), (22, .iload_n 1, 1), (23, .invokestatic 98, 3), (26, .ineg, 1), (27, .invokestatic 79, 3), (30, .aload_n 0, 1), (31, .getfield 18, 3), (34, .iload_n 1, 1), (35, .aload_n 0, 1), (36, .getfield 18, 3), (39, .iload_n 1, 1), (40, .invokestatic 98, 3), (43, .ineg, 1), (44, .invokestatic 79, 3), (47, .aload_n 0, 1), (48, .getfield 21, 3), (51, .iload_n 1, 1), (52, .iconst 0, 1), (53, .invokestatic 79, 3), (56, .iinc 1 1, 3), (59, .goto (-57), 3), (62, .aload_n 0, 1), (63, .iconst 0, 1), (64, .invokevirtual 102, 3), (67, .aload_n 0, 1), (68, .getfield 25, 3), (71, .iconst 0, 1), (72, .iconst 0, 1), (73, .bipush 8, 2), (75, .invokestatic 106, 3), (78, .invokestatic 98, 3), (81, .ineg, 1), (82, .ireturn, 1)]
theorem D_X2_greatestTaking : dkA cX2_greatestTaking rows_X2_greatestTaking := by
  unfold dkA
  decide +kernel
theorem okD_X2_greatestTaking : okD yX2_greatestTaking 0 := by
  unfold okD
  decide +kernel
def w_X2_greatestTaking_l2 (Q : Int32 → Hp → Prop) (K2 : Int32 × Hp → Prop) (v1 : Int32) (h : Hp) : Prop :=
  wif (((h 44 16) * (8 : Int32)) ≤ v1) (w_X2_solve ((0 : Int32)) h (fun h1 => w_X2_index ((0 : Int32)) ((0 : Int32)) ((8 : Int32)) h1 (fun z2 => w_X8_at 49 140544 (z2) h1 (fun z3 => Q (0 - z3) h1)))) (w_X8_at 46 480 (v1) h (fun z4 => w_X8_put 46 480 (v1) ((0 - z4)) h (fun h5 => w_X8_at 47 480 (v1) h5 (fun z6 => w_X8_put 47 480 (v1) ((0 - z6)) h5 (fun h7 => w_X8_put 48 480 (v1) ((0 : Int32)) h7 (fun h8 => K2 ((v1 + (1 : Int32)), h8)))))))
def w_X2_greatestTaking_b2 (Q : Int32 → Hp → Prop) (s : Int32 × Hp) : Prop := wl (fun K s => w_X2_greatestTaking_l2 Q K s.1 s.2) s
def w_X2_greatestTaking (h : Hp) (Q : Int32 → Hp → Prop) : Prop :=
  w_X2_greatestTaking_b2 Q ((0 : Int32), h)
theorem t_X2_greatestTaking_l2 {X : Cx} (Q : Int32 → Hp → Prop) (K2 : Int32 × Hp → Prop) (v1 : Int32) (h : Hp) (hK2 : ∀ s : Int32 × Hp, K2 s → G X M_X2_greatestTaking E_X2_greatestTaking (QM X E_X2_greatestTaking (QI Q) Qn) 0 2 [(0, .ref (44)), (1, .int (s.1))] [] (s.2)) (hw : w_X2_greatestTaking_l2 Q K2 v1 h) : G X M_X2_greatestTaking E_X2_greatestTaking (QM X E_X2_greatestTaking (QI Q) Qn) 0 2 [(0, .ref (44)), (1, .int (v1))] [] h := by
  unfold w_X2_greatestTaking_l2 at hw
  refine g_iload_n 1 (dk D_X2_greatestTaking 2 rfl) rfl rfl ?_
  refine g_aload_n 0 (dk D_X2_greatestTaking 3 rfl) rfl rfl ?_
  refine g_getI 16 (dk D_X2_greatestTaking 4 rfl) kd_44 rfl rfl (by decide) w_317 rfl rfl ?_
  refine g_bipush (dk D_X2_greatestTaking 5 rfl) kb_8 ?_
  refine g_imul (dk D_X2_greatestTaking 6 rfl) ?_
  refine g_icmp_ge (dk D_X2_greatestTaking 7 rfl) rfl (wif_m hw (fun hw => ?_) (fun hw => ?_))
  · refine g_aload_n 0 (dk D_X2_greatestTaking 33 rfl) rfl rfl ?_
    refine g_iconst (dk D_X2_greatestTaking 34 rfl) ki_0 ?_
    refine g_callV (As := [.int ((0 : Int32))]) (kc := 0) (fr := 4) (lo := 129) (mc := 0) (My := M_X2_solve) (dk D_X2_greatestTaking 35 rfl) kd_44 rfl rfl w_620 w_621 w_622 w_107 w_623 okD_X2_solve (by decide) (Nat.le_of_ble_eq_true rfl) rfl (c_X2_solve ((0 : Int32)) (h) _ hw) kxN (kV (fun h1 hw => ?_))
    refine g_aload_n 0 (dk D_X2_greatestTaking 36 rfl) rfl rfl ?_
    refine g_getR 5 (t := 49) (dk D_X2_greatestTaking 37 rfl) kd_44 rfl rfl (by decide) w_305 rfl rfl rfl ?_
    refine g_iconst (dk D_X2_greatestTaking 38 rfl) ki_0 ?_
    refine g_iconst (dk D_X2_greatestTaking 39 rfl) ki_0 ?_
    refine g_bipush (dk D_X2_greatestTaking 40 rfl) kb_8 ?_
    refine g_callS (As := [.int ((0 : Int32)), .int ((0 : Int32)), .int ((8 : Int32))]) (kc := 0) (fr := 0) (lo := 0) (mc := 0) (My := M_X2_index) (dk D_X2_greatestTaking 41 rfl) w_624 w_625 w_107 w_626 okD_X2_index (by decide) (Nat.le_of_ble_eq_true rfl) rfl (c_X2_index ((0 : Int32)) ((0 : Int32)) ((8 : Int32)) (h1) _ hw) kxN (kIp (fun z2 hw => ?_))
    refine g_callSN (As := [.ref (49), .int (z2)]) (kc := 0) (fr := 0) (lo := 0) (mc := 0) (My := M_X8_at) (dk D_X2_greatestTaking 42 rfl) w_619 w_518 w_101 w_519 okD_X8_at (by decide) (Nat.le_of_ble_eq_true rfl) rfl (c_X8_at 49 140544 (z2) (kd_49) (h1) _ hw) kxN (kIp (fun z3 hw => ?_))
    refine g_ineg (dk D_X2_greatestTaking 43 rfl) ?_
    exact g_iret (dk D_X2_greatestTaking 44 rfl) rfl ⟨_, rfl, hw⟩
  · refine g_aload_n 0 (dk D_X2_greatestTaking 8 rfl) rfl rfl ?_
    refine g_getR 2 (t := 46) (dk D_X2_greatestTaking 9 rfl) kd_44 rfl rfl (by decide) w_301 rfl rfl rfl ?_
    refine g_iload_n 1 (dk D_X2_greatestTaking 10 rfl) rfl rfl ?_
    refine g_aload_n 0 (dk D_X2_greatestTaking 11 rfl) rfl rfl ?_
    refine g_getR 2 (t := 46) (dk D_X2_greatestTaking 12 rfl) kd_44 rfl rfl (by decide) w_301 rfl rfl rfl ?_
    refine g_iload_n 1 (dk D_X2_greatestTaking 13 rfl) rfl rfl ?_
    refine g_callSN (As := [.ref (46), .int (v1)]) (kc := 0) (fr := 0) (lo := 0) (mc := 0) (My := M_X8_at) (dk D_X2_greatestTaking 14 rfl) w_619 w_518 w_101 w_519 okD_X8_at (by decide) (Nat.le_of_ble_eq_true rfl) rfl (c_X8_at 46 480 (v1) (kd_46) (h) _ hw) kxN (kIp (fun z4 hw => ?_))
    refine g_ineg (dk D_X2_greatestTaking 15 rfl) ?_
    refine g_callSN (As := [.ref (46), .int (v1), .int ((0 - z4))]) (kc := 0) (fr := 0) (lo := 0) (mc := 0) (My := M_X8_put) (dk D_X2_greatestTaking 16 rfl) w_550 w_496 w_101 w_497 okD_X8_put (by decide) (Nat.le_of_ble_eq_true rfl) rfl (c_X8_put 46 480 (v1) ((0 - z4)) (kd_46) (h) _ hw) kxN (kV (fun h5 hw => ?_))
    refine g_aload_n 0 (dk D_X2_greatestTaking 17 rfl) rfl rfl ?_
    refine g_getR 3 (t := 47) (dk D_X2_greatestTaking 18 rfl) kd_44 rfl rfl (by decide) w_302 rfl rfl rfl ?_
    refine g_iload_n 1 (dk D_X2_greatestTaking 19 rfl) rfl rfl ?_
    refine g_aload_n 0 (dk D_X2_greatestTaking 20 rfl) rfl rfl ?_
    refine g_getR 3 (t := 47) (dk D_X2_greatestTaking 21 rfl) kd_44 rfl rfl (by decide) w_302 rfl rfl rfl ?_
    refine g_iload_n 1 (dk D_X2_greatestTaking 22 rfl) rfl rfl ?_
    refine g_callSN (As := [.ref (47), .int (v1)]) (kc := 0) (fr := 0) (lo := 0) (mc := 0) (My := M_X8_at) (dk D_X2_greatestTaking 23 rfl) w_619 w_518 w_101 w_519 okD_X8_at (by decide) (Nat.le_of_ble_eq_true rfl) rfl (c_X8_at 47 480 (v1) (kd_47) (h5) _ hw) kxN (kIp (fun z6 hw => ?_))
    refine g_ineg (dk D_X2_greatestTaking 24 rfl) ?_
    refine g_callSN (As := [.ref (47), .int (v1), .int ((0 - z6))]) (kc := 0) (fr := 0) (lo := 0) (mc := 0) (My := M_X8_put) (dk D_X2_greatestTaking 25 rfl) w_550 w_496 w_101 w_497 okD_X8_put (by decide) (Nat.le_of_ble_eq_true rfl) rfl (c_X8_put 47 480 (v1) ((0 - z6)) (kd_47) (h5) _ hw) kxN (kV (fun h7 hw => ?_))
    refine g_aload_n 0 (dk D_X2_greatestTaking 26 rfl) rfl rfl ?_
    refine g_getR 4 (t := 48) (dk D_X2_greatestTaking 27 rfl) kd_44 rfl rfl (by decide) w_304 rfl rfl rfl ?_
    refine g_iload_n 1 (dk D_X2_greatestTaking 28 rfl) rfl rfl ?_
    refine g_iconst (dk D_X2_greatestTaking 29 rfl) ki_0 ?_
    refine g_callSN (As := [.ref (48), .int (v1), .int ((0 : Int32))]) (kc := 0) (fr := 0) (lo := 0) (mc := 0) (My := M_X8_put) (dk D_X2_greatestTaking 30 rfl) w_550 w_496 w_101 w_497 okD_X8_put (by decide) (Nat.le_of_ble_eq_true rfl) rfl (c_X8_put 48 480 (v1) ((0 : Int32)) (kd_48) (h7) _ hw) kxN (kV (fun h8 hw => ?_))
    refine g_iinc 1 (dk D_X2_greatestTaking 31 rfl) rfl (congrArg (fun z => _ + z) ki_1) (by decide) rfl ?_
    refine g_goto (dk D_X2_greatestTaking 32 rfl) rfl ?_
    refine g_sub [1, 0] rfl ?_
    exact hK2 ((v1 + (1 : Int32)), h8) hw
theorem t_X2_greatestTaking_b2 {X : Cx} (Q : Int32 → Hp → Prop) (s : Int32 × Hp) (hw : w_X2_greatestTaking_b2 Q s) : G X M_X2_greatestTaking E_X2_greatestTaking (QM X E_X2_greatestTaking (QI Q) Qn) 0 2 [(0, .ref (44)), (1, .int (s.1))] [] (s.2) :=
  wl_ind (B := fun K s => w_X2_greatestTaking_l2 Q K (s.1) (s.2)) (P := fun s => G X M_X2_greatestTaking E_X2_greatestTaking (QM X E_X2_greatestTaking (QI Q) Qn) 0 2 [(0, .ref (44)), (1, .int (s.1))] [] (s.2)) (fun K hK s hw => t_X2_greatestTaking_l2 Q K (s.1) (s.2) hK hw) s hw
theorem t_X2_greatestTaking {X : Cx} (h : Hp) (Q : Int32 → Hp → Prop) (hw : w_X2_greatestTaking h Q) : G X M_X2_greatestTaking E_X2_greatestTaking (QM X E_X2_greatestTaking (QI Q) Qn) 0 0 [(0, .ref (44))] [] h := by
  unfold w_X2_greatestTaking at hw
  refine g_iconst (dk D_X2_greatestTaking 0 rfl) ki_0 ?_
  refine g_istore_n (dk D_X2_greatestTaking 1 rfl) rfl (by decide) rfl ?_
  refine g_sub [1, 0] rfl ?_
  exact t_X2_greatestTaking_b2 Q ((0 : Int32), h) hw
theorem c_X2_greatestTaking {X : Cx} (h : Hp) (Q : Int32 → Hp → Prop) (hw : w_X2_greatestTaking h Q) : Con X yX2_greatestTaking M_X2_greatestTaking 5 160 0 [.ref (44)] h (QI Q) Qn :=
  con_of (by decide +kernel) rfl (Nat.le_of_ble_eq_true rfl) (t_X2_greatestTaking h Q hw)
/-! ShadowTolls$Planner.coinsIn(III)I -/
abbrev M_X2_coinsIn : Mi := (RX2, cX2_coinsIn, 5, (some .int))
abbrev E_X2_coinsIn : Rm := (3, 88, 0, 0)
def rows_X2_coinsIn : List (Nat × Instr × Nat) := [(0, .iload_n 3, 1), (1, .bipush 8, 2), (3, .if_icmp .eq 26, 3), (6, .aload_n 0, 1), (7, .getfield 52, 3), (10, .iload_n 3, 1), (11, .invokevirtual 75, 3), (14, .aload_n 0, 1), (15, .getfield 52, 3), (18, .iload_n 2, 1), (19, .invokevirtual 75, 3), (22, .if_icmp .le 7, 3), (25, .iconst 1, 1), (26, .goto 4, 3), (29, .iconst 0, 1), (30, .istore 4, 2), (32, .iload 4, 2), (34, .ifCond .eq 19, 3), (37, .aload_n 0, 1), (38, .getfield 18, 3), (41, .iload_n 1, 1), (42, .bipush 8, 2), (44, .imul, 1), (45, .iload_n 2, 1), (46, .iadd, 1), (47, .invokestatic 98, 3), (50, .goto 16, 3), (53, .aload_n 0, 1), (54, .getfield 15, 3), (57, .iload_n 1, 1), (58, .bipush 8, 2), (60, .imul, 1), (61, .iload_n 2, 1), (62, .iadd, 1), (63, .invokestatic 98, 3), (66, .ireturn, 1)]
theorem D_X2_coinsIn : dkA cX2_coinsIn rows_X2_coinsIn := by
  unfold dkA
  decide +kernel
theorem okD_X2_coinsIn : okD yX2_coinsIn 3 := by
  unfold okD
  decide +kernel
def w_X2_coinsIn_b30 (p1 : Int32) (p2 : Int32) (p3 : Int32) (s0 : Int32) (h : Hp) (Q : Int32 → Prop) : Prop :=
  wif (s0 = 0) (w_X8_at 46 480 (((p1 * (8 : Int32)) + p2)) h (fun z1 => Q z1)) (w_X8_at 47 480 (((p1 * (8 : Int32)) + p2)) h (fun z2 => Q z2))
def w_X2_coinsIn_b29 (p1 : Int32) (p2 : Int32) (p3 : Int32) (h : Hp) (Q : Int32 → Prop) : Prop :=
  w_X2_coinsIn_b30 p1 p2 p3 ((0 : Int32)) (h) Q
def w_X2_coinsIn (p1 : Int32) (p2 : Int32) (p3 : Int32) (h : Hp) (Q : Int32 → Prop) : Prop :=
  wif (p3 = (8 : Int32)) (w_X2_coinsIn_b29 p1 p2 p3 (h) Q) (w_X4_standing 3 (p3) h (fun z1 => w_X4_standing 3 (p2) h (fun z2 => wlet ((if z1 ≤ z2 then (0 : Int32) else (1 : Int32))) (fun v4_4 => wif (v4_4 = 0) (w_X8_at 46 480 (((p1 * (8 : Int32)) + p2)) h (fun z5 => Q z5)) (w_X8_at 47 480 (((p1 * (8 : Int32)) + p2)) h (fun z6 => Q z6))))))
theorem t_X2_coinsIn_b30 {X : Cx} (p1 : Int32) (p2 : Int32) (p3 : Int32) (s0 : Int32) (h : Hp) (Q : Int32 → Prop) (hw : w_X2_coinsIn_b30 p1 p2 p3 s0 h Q) : G X M_X2_coinsIn E_X2_coinsIn (QM X E_X2_coinsIn (QIp h Q) Qn) 0 30 [(0, .ref (44)), (1, .int (p1)), (2, .int (p2))] [.int (s0)] h := by
  unfold w_X2_coinsIn_b30 at hw
  refine g_istore (dk D_X2_coinsIn 15 rfl) (by decide) rfl ?_
  refine g_iload 0 (dk D_X2_coinsIn 16 rfl) rfl ?_
  refine g_if_eq (dk D_X2_coinsIn 17 rfl) rfl (wif_m hw (fun hw => ?_) (fun hw => ?_))
  · refine g_aload_n 1 (dk D_X2_coinsIn 27 rfl) rfl rfl ?_
    refine g_getR 2 (t := 46) (dk D_X2_coinsIn 28 rfl) kd_44 rfl rfl (by decide) w_301 rfl rfl rfl ?_
    refine g_iload_n 2 (dk D_X2_coinsIn 29 rfl) rfl rfl ?_
    refine g_bipush (dk D_X2_coinsIn 30 rfl) kb_8 ?_
    refine g_imul (dk D_X2_coinsIn 31 rfl) ?_
    refine g_iload_n 3 (dk D_X2_coinsIn 32 rfl) rfl rfl ?_
    refine g_iadd (dk D_X2_coinsIn 33 rfl) ?_
    refine g_callSN (As := [.ref (46), .int (((p1 * (8 : Int32)) + p2))]) (kc := 0) (fr := 0) (lo := 0) (mc := 0) (My := M_X8_at) (dk D_X2_coinsIn 34 rfl) w_619 w_518 w_101 w_519 okD_X8_at (by decide) (Nat.le_of_ble_eq_true rfl) rfl (c_X8_at 46 480 (((p1 * (8 : Int32)) + p2)) (kd_46) (h) _ hw) kxN (kIp (fun z1 hw => ?_))
    exact g_iret (dk D_X2_coinsIn 35 rfl) rfl ⟨_, rfl, rfl, hw⟩
  · refine g_aload_n 1 (dk D_X2_coinsIn 18 rfl) rfl rfl ?_
    refine g_getR 3 (t := 47) (dk D_X2_coinsIn 19 rfl) kd_44 rfl rfl (by decide) w_302 rfl rfl rfl ?_
    refine g_iload_n 2 (dk D_X2_coinsIn 20 rfl) rfl rfl ?_
    refine g_bipush (dk D_X2_coinsIn 21 rfl) kb_8 ?_
    refine g_imul (dk D_X2_coinsIn 22 rfl) ?_
    refine g_iload_n 3 (dk D_X2_coinsIn 23 rfl) rfl rfl ?_
    refine g_iadd (dk D_X2_coinsIn 24 rfl) ?_
    refine g_callSN (As := [.ref (47), .int (((p1 * (8 : Int32)) + p2))]) (kc := 0) (fr := 0) (lo := 0) (mc := 0) (My := M_X8_at) (dk D_X2_coinsIn 25 rfl) w_619 w_518 w_101 w_519 okD_X8_at (by decide) (Nat.le_of_ble_eq_true rfl) rfl (c_X8_at 47 480 (((p1 * (8 : Int32)) + p2)) (kd_47) (h) _ hw) kxN (kIp (fun z2 hw => ?_))
    refine g_goto (dk D_X2_coinsIn 26 rfl) rfl ?_
    exact g_iret (dk D_X2_coinsIn 35 rfl) rfl ⟨_, rfl, rfl, hw⟩
theorem t_X2_coinsIn_b29 {X : Cx} (p1 : Int32) (p2 : Int32) (p3 : Int32) (h : Hp) (Q : Int32 → Prop) (hw : w_X2_coinsIn_b29 p1 p2 p3 h Q) : G X M_X2_coinsIn E_X2_coinsIn (QM X E_X2_coinsIn (QIp h Q) Qn) 0 29 [(0, .ref (44)), (1, .int (p1)), (2, .int (p2))] [] h := by
  unfold w_X2_coinsIn_b29 at hw
  refine g_iconst (dk D_X2_coinsIn 14 rfl) ki_0 ?_
  exact t_X2_coinsIn_b30 p1 p2 p3 ((0 : Int32)) (h) Q hw
theorem t_X2_coinsIn {X : Cx} (p1 : Int32) (p2 : Int32) (p3 : Int32) (h : Hp) (Q : Int32 → Prop) (hw : w_X2_coinsIn p1 p2 p3 h Q) : G X M_X2_coinsIn E_X2_coinsIn (QM X E_X2_coinsIn (QIp h Q) Qn) 0 0 [(0, .ref (44)), (1, .int (p1)), (2, .int (p2)), (3, .int (p3))] [] h := by
  unfold w_X2_coinsIn at hw
  refine g_iload_n 3 (dk D_X2_coinsIn 0 rfl) rfl rfl ?_
  refine g_bipush (dk D_X2_coinsIn 1 rfl) kb_8 ?_
  refine g_icmp_eq (dk D_X2_coinsIn 2 rfl) rfl (wif_m hw (fun hw => ?_) (fun hw => ?_))
  · refine g_sub [0, 1, 2] rfl ?_
    exact t_X2_coinsIn_b29 p1 p2 p3 (h) Q hw
  · refine g_aload_n 0 (dk D_X2_coinsIn 3 rfl) rfl rfl ?_
    refine g_getR 0 (t := 3) (dk D_X2_coinsIn 4 rfl) kd_44 rfl rfl (by decide) w_299 rfl rfl rfl ?_
    refine g_iload_n 3 (dk D_X2_coinsIn 5 rfl) rfl rfl ?_
    refine g_callV (As := [.int (p3)]) (kc := 0) (fr := 2) (lo := 59) (mc := 0) (My := M_X4_standing) (dk D_X2_coinsIn 6 rfl) roadP_3.1 rfl rfl w_541 w_542 w_543 w_103 w_544 okD_X4_standing (by decide) (Nat.le_of_ble_eq_true rfl) rfl (c_X4_standing 3 (p3) (roadP_3) (h) _ hw) kxN (kIp (fun z1 hw => ?_))
    refine g_aload_n 0 (dk D_X2_coinsIn 7 rfl) rfl rfl ?_
    refine g_getR 0 (t := 3) (dk D_X2_coinsIn 8 rfl) kd_44 rfl rfl (by decide) w_299 rfl rfl rfl ?_
    refine g_iload_n 2 (dk D_X2_coinsIn 9 rfl) rfl rfl ?_
    refine g_callV (As := [.int (p2)]) (kc := 0) (fr := 2) (lo := 59) (mc := 0) (My := M_X4_standing) (dk D_X2_coinsIn 10 rfl) roadP_3.1 rfl rfl w_541 w_542 w_543 w_103 w_544 okD_X4_standing (by decide) (Nat.le_of_ble_eq_true rfl) rfl (c_X4_standing 3 (p2) (roadP_3) (h) _ hw) kxN (kIp (fun z2 hw => ?_))
    have hj : G X M_X2_coinsIn E_X2_coinsIn (QM X E_X2_coinsIn (QIp h Q) Qn) 0 30 [(0, .ref (44)), (1, .int (p1)), (2, .int (p2)), (3, .int (p3))] [.int ((if z1 ≤ z2 then (0 : Int32) else (1 : Int32)))] (h) := by
      refine g_topi (fun v4_4 ev4_4 => ?_)
      replace hw := hw _ ev4_4
      refine g_istore (dk D_X2_coinsIn 15 rfl) (by decide) rfl ?_
      refine g_iload 0 (dk D_X2_coinsIn 16 rfl) rfl ?_
      refine g_if_eq (dk D_X2_coinsIn 17 rfl) rfl (wif_m hw (fun hw => ?_) (fun hw => ?_))
      · refine g_aload_n 1 (dk D_X2_coinsIn 27 rfl) rfl rfl ?_
        refine g_getR 2 (t := 46) (dk D_X2_coinsIn 28 rfl) kd_44 rfl rfl (by decide) w_301 rfl rfl rfl ?_
        refine g_iload_n 2 (dk D_X2_coinsIn 29 rfl) rfl rfl ?_
        refine g_bipush (dk D_X2_coinsIn 30 rfl) kb_8 ?_
        refine g_imul (dk D_X2_coinsIn 31 rfl) ?_
        refine g_iload_n 3 (dk D_X2_coinsIn 32 rfl) rfl rfl ?_
        refine g_iadd (dk D_X2_coinsIn 33 rfl) ?_
        refine g_callSN (As := [.ref (46), .int (((p1 * (8 : Int32)) + p2))]) (kc := 0) (fr := 0) (lo := 0) (mc := 0) (My := M_X8_at) (dk D_X2_coinsIn 34 rfl) w_619 w_518 w_101 w_519 okD_X8_at (by decide) (Nat.le_of_ble_eq_true rfl) rfl (c_X8_at 46 480 (((p1 * (8 : Int32)) + p2)) (kd_46) (h) _ hw) kxN (kIp (fun z5 hw => ?_))
        exact g_iret (dk D_X2_coinsIn 35 rfl) rfl ⟨_, rfl, rfl, hw⟩
      · refine g_aload_n 1 (dk D_X2_coinsIn 18 rfl) rfl rfl ?_
        refine g_getR 3 (t := 47) (dk D_X2_coinsIn 19 rfl) kd_44 rfl rfl (by decide) w_302 rfl rfl rfl ?_
        refine g_iload_n 2 (dk D_X2_coinsIn 20 rfl) rfl rfl ?_
        refine g_bipush (dk D_X2_coinsIn 21 rfl) kb_8 ?_
        refine g_imul (dk D_X2_coinsIn 22 rfl) ?_
        refine g_iload_n 3 (dk D_X2_coinsIn 23 rfl) rfl rfl ?_
        refine g_iadd (dk D_X2_coinsIn 24 rfl) ?_
        refine g_callSN (As := [.ref (47), .int (((p1 * (8 : Int32)) + p2))]) (kc := 0) (fr := 0) (lo := 0) (mc := 0) (My := M_X8_at) (dk D_X2_coinsIn 25 rfl) w_619 w_518 w_101 w_519 okD_X8_at (by decide) (Nat.le_of_ble_eq_true rfl) rfl (c_X8_at 47 480 (((p1 * (8 : Int32)) + p2)) (kd_47) (h) _ hw) kxN (kIp (fun z6 hw => ?_))
        refine g_goto (dk D_X2_coinsIn 26 rfl) rfl ?_
        exact g_iret (dk D_X2_coinsIn 35 rfl) rfl ⟨_, rfl, rfl, hw⟩
    refine g_icmp_le (dk D_X2_coinsIn 11 rfl) rfl ?_
    by_cases c3 : z1 ≤ z2
    · rw [if_pos c3] at hj
      refine wif_p c3 ?_
      refine g_iconst (dk D_X2_coinsIn 14 rfl) ki_0 ?_
      exact hj
    · rw [if_neg c3] at hj
      refine wif_n c3 ?_
      refine g_iconst (dk D_X2_coinsIn 12 rfl) ki_1 ?_
      refine g_goto (dk D_X2_coinsIn 13 rfl) rfl ?_
      exact hj
theorem c_X2_coinsIn {X : Cx} (p1 : Int32) (p2 : Int32) (p3 : Int32) (h : Hp) (Q : Int32 → Prop) (hw : w_X2_coinsIn p1 p2 p3 h Q) : Con X yX2_coinsIn M_X2_coinsIn 3 88 0 [.ref (44), .int (p1), .int (p2), .int (p3)] h (QIp h Q) Qn :=
  con_of (by decide +kernel) rfl (Nat.le_of_ble_eq_true rfl) (t_X2_coinsIn p1 p2 p3 h Q hw)
/-! ShadowTolls.fillRow([II)V -/
abbrev M_X8_fillRow : Mi := (RX8, cX8_fillRow, 3, none)
abbrev E_X8_fillRow : Rm := (0, 0, 0, 0)
def rows_X8_fillRow : List (Nat × Instr × Nat) := [(0, .iconst 0, 1), (1, .istore_n 2, 1), (2, .iload_n 2, 1), (3, .aload_n 0, 1), (4, .arraylength, 1), (5, .if_icmp .ge 13, 3), (8, .aload_n 0, 1), (9, .iload_n 2, 1), (10, .iload_n 1, 1), (11, .iastore, 1), (12, .iinc 2 1, 3), (15, .goto (-13), 3), (18, .return_, 1)]
theorem D_X8_fillRow : dkA cX8_fillRow rows_X8_fillRow := by
  unfold dkA
  decide +kernel
theorem okD_X8_fillRow : okD yX8_fillRow 2 := by
  unfold okD
  decide +kernel
def w_X8_fillRow_l2 (r0 : Nat) (n0 : Nat) (p1 : Int32) (Q : Hp → Prop) (K2 : Int32 × Hp → Prop) (v2 : Int32) (h : Hp) : Prop :=
  wif ((nI n0) ≤ v2) (Q h) ((vp_in v2 n0 ∧ wlet (hup h r0 (Int32.toNatClampNeg v2) p1) (fun h2 => K2 ((v2 + (1 : Int32)), h2))))
def w_X8_fillRow_b2 (r0 : Nat) (n0 : Nat) (p1 : Int32) (Q : Hp → Prop) (s : Int32 × Hp) : Prop := wl (fun K s => w_X8_fillRow_l2 r0 n0 p1 Q K s.1 s.2) s
def w_X8_fillRow (r0 : Nat) (n0 : Nat) (p1 : Int32) (h : Hp) (Q : Hp → Prop) : Prop :=
  w_X8_fillRow_b2 r0 n0 p1 Q ((0 : Int32), h)
theorem t_X8_fillRow_l2 {X : Cx} (r0 : Nat) (n0 : Nat) (p1 : Int32) (Q : Hp → Prop) (K2 : Int32 × Hp → Prop) (v2 : Int32) (h : Hp) (hr0 : kd r0 = (1, n0, 0, 0, 0)) (hK2 : ∀ s : Int32 × Hp, K2 s → G X M_X8_fillRow E_X8_fillRow (QM X E_X8_fillRow (QV Q) Qn) 0 2 [(0, .ref (r0)), (1, .int (p1)), (2, .int (s.1))] [] (s.2)) (hw : w_X8_fillRow_l2 r0 n0 p1 Q K2 v2 h) : G X M_X8_fillRow E_X8_fillRow (QM X E_X8_fillRow (QV Q) Qn) 0 2 [(0, .ref (r0)), (1, .int (p1)), (2, .int (v2))] [] h := by
  unfold w_X8_fillRow_l2 at hw
  refine g_iload_n 2 (dk D_X8_fillRow 2 rfl) rfl rfl ?_
  refine g_aload_n 0 (dk D_X8_fillRow 3 rfl) rfl rfl ?_
  refine g_alen (dk D_X8_fillRow 4 rfl) hr0 rfl ?_
  refine g_icmp_ge (dk D_X8_fillRow 5 rfl) rfl (wif_m hw (fun hw => ?_) (fun hw => ?_))
  · exact g_vret (dk D_X8_fillRow 12 rfl) rfl ⟨rfl, hw⟩
  · refine g_aload_n 0 (dk D_X8_fillRow 6 rfl) rfl rfl ?_
    refine g_iload_n 2 (dk D_X8_fillRow 7 rfl) rfl rfl ?_
    refine g_iload_n 1 (dk D_X8_fillRow 8 rfl) rfl rfl ?_
    obtain ⟨hi1, hw⟩ := hw
    refine g_iast (dk D_X8_fillRow 9 rfl) hr0 hi1 ?_
    refine g_heap (fun h2 eh2 => ?_)
    replace hw := hw _ eh2
    refine g_iinc 2 (dk D_X8_fillRow 10 rfl) rfl (congrArg (fun z => _ + z) ki_1) (by decide) rfl ?_
    refine g_goto (dk D_X8_fillRow 11 rfl) rfl ?_
    refine g_sub [1, 2, 0] rfl ?_
    exact hK2 ((v2 + (1 : Int32)), h2) hw
theorem t_X8_fillRow_b2 {X : Cx} (r0 : Nat) (n0 : Nat) (p1 : Int32) (Q : Hp → Prop) (s : Int32 × Hp) (hr0 : kd r0 = (1, n0, 0, 0, 0)) (hw : w_X8_fillRow_b2 r0 n0 p1 Q s) : G X M_X8_fillRow E_X8_fillRow (QM X E_X8_fillRow (QV Q) Qn) 0 2 [(0, .ref (r0)), (1, .int (p1)), (2, .int (s.1))] [] (s.2) :=
  wl_ind (B := fun K s => w_X8_fillRow_l2 r0 n0 p1 Q K (s.1) (s.2)) (P := fun s => G X M_X8_fillRow E_X8_fillRow (QM X E_X8_fillRow (QV Q) Qn) 0 2 [(0, .ref (r0)), (1, .int (p1)), (2, .int (s.1))] [] (s.2)) (fun K hK s hw => t_X8_fillRow_l2 r0 n0 p1 Q K (s.1) (s.2) hr0 hK hw) s hw
theorem t_X8_fillRow {X : Cx} (r0 : Nat) (n0 : Nat) (p1 : Int32) (h : Hp) (Q : Hp → Prop) (hr0 : kd r0 = (1, n0, 0, 0, 0)) (hw : w_X8_fillRow r0 n0 p1 h Q) : G X M_X8_fillRow E_X8_fillRow (QM X E_X8_fillRow (QV Q) Qn) 0 0 [(0, .ref (r0)), (1, .int (p1))] [] h := by
  unfold w_X8_fillRow at hw
  refine g_iconst (dk D_X8_fillRow 0 rfl) ki_0 ?_
  refine g_istore_n (dk D_X8_fillRow 1 rfl) rfl (by decide) rfl ?_
  refine g_sub [1, 2, 0] rfl ?_
  exact t_X8_fillRow_b2 r0 n0 p1 Q ((0 : Int32), h) hr0 hw
theorem c_X8_fillRow {X : Cx} (r0 : Nat) (n0 : Nat) (p1 : Int32) (hr0 : kd r0 = (1, n0, 0, 0, 0)) (h : Hp) (Q : Hp → Prop) (hw : w_X8_fillRow r0 n0 p1 h Q) : Con X yX8_fillRow M_X8_fillRow 0 0 0 [.ref (r0), .int (p1)] h (QV Q) Qn :=
  con_of (by decide +kernel) rfl (Nat.le_of_ble_eq_true rfl) (t_X8_fillRow r0 n0 p1 h Q hr0 hw)
/-! ShadowTolls$Planner.forgetSums()V -/
abbrev M_X2_forgetSums : Mi := (RX2, cX2_forgetSums, 1, none)
abbrev E_X2_forgetSums : Rm := (1, 30, 0, 0)
def rows_X2_forgetSums : List (Nat × Instr × Nat) := [(0, .aload_n 0, 1), (1, .iconst 0, 1), (2, .putfield 153, 3), (5, .aload_n 0, 1), (6, .getfield 34, 3), (9, .iconst 0, 1), (10, .invokestatic 156, 3), (13, .aload_n 0, 1), (14, .iconst 0, 1), (15, .putfield 160, 3), (18, .return_, 1)]
theorem D_X2_forgetSums : dkA cX2_forgetSums rows_X2_forgetSums := by
  unfold dkA
  decide +kernel
theorem okD_X2_forgetSums : okD yX2_forgetSums 0 := by
  unfold okD
  decide +kernel
def w_X2_forgetSums (h : Hp) (Q : Hp → Prop) : Prop :=
  wlet (hup h 44 18 (0 : Int32)) (fun h1 => w_X8_fillRow 52 2 ((0 : Int32)) h1 (fun h2 => wlet (hup h2 44 19 (0 : Int32)) (fun h3 => Q h3)))
theorem t_X2_forgetSums {X : Cx} (h : Hp) (Q : Hp → Prop) (hw : w_X2_forgetSums h Q) : G X M_X2_forgetSums E_X2_forgetSums (QM X E_X2_forgetSums (QV Q) Qn) 0 0 [(0, .ref (44))] [] h := by
  unfold w_X2_forgetSums at hw
  refine g_aload_n 0 (dk D_X2_forgetSums 0 rfl) rfl rfl ?_
  refine g_iconst (dk D_X2_forgetSums 1 rfl) ki_0 ?_
  refine g_put 18 (dk D_X2_forgetSums 2 rfl) kd_44 rfl rfl (by decide) w_320 rfl tyX2_ok nmX2 rfl (by decide) rfl (fun z => absurd z (by decide)) ?_
  refine g_heap (fun h1 eh1 => ?_)
  replace hw := hw _ eh1
  refine g_aload_n 0 (dk D_X2_forgetSums 3 rfl) rfl rfl ?_
  refine g_getR 8 (t := 52) (dk D_X2_forgetSums 4 rfl) kd_44 rfl rfl (by decide) w_309 rfl rfl rfl ?_
  refine g_iconst (dk D_X2_forgetSums 5 rfl) ki_0 ?_
  refine g_callSN (As := [.ref (52), .int ((0 : Int32))]) (kc := 0) (fr := 0) (lo := 0) (mc := 0) (My := M_X8_fillRow) (dk D_X2_forgetSums 6 rfl) w_1153 w_172 w_101 w_173 okD_X8_fillRow (by decide) (Nat.le_of_ble_eq_true rfl) rfl (c_X8_fillRow 52 2 ((0 : Int32)) (kd_52) (h1) _ hw) kxN (kV (fun h2 hw => ?_))
  refine g_aload_n 0 (dk D_X2_forgetSums 7 rfl) rfl rfl ?_
  refine g_iconst (dk D_X2_forgetSums 8 rfl) ki_0 ?_
  refine g_put 19 (dk D_X2_forgetSums 9 rfl) kd_44 rfl rfl (by decide) w_322 rfl tyX2_ok nmX2 rfl (by decide) rfl (fun z => absurd z (by decide)) ?_
  refine g_heap (fun h3 eh3 => ?_)
  replace hw := hw _ eh3
  exact g_vret (dk D_X2_forgetSums 10 rfl) rfl ⟨rfl, hw⟩
theorem c_X2_forgetSums {X : Cx} (h : Hp) (Q : Hp → Prop) (hw : w_X2_forgetSums h Q) : Con X yX2_forgetSums M_X2_forgetSums 1 30 0 [.ref (44)] h (QV Q) Qn :=
  con_of (by decide +kernel) rfl (Nat.le_of_ble_eq_true rfl) (t_X2_forgetSums h Q hw)
/-! ShadowTolls$Planner.holderOf(III)I -/
abbrev M_X2_holderOf : Mi := (RX2, cX2_holderOf, 7, (some .int))
abbrev E_X2_holderOf : Rm := (4, 120, 0, 0)
def rows_X2_holderOf : List (Nat × Instr × Nat) := [(0, .aload_n 0, 1), (1, .getfield 25, 3), (4, .iload_n 1, 1), (5, .iload_n 2, 1), (6, .iload_n 3, 1), (7, .invokestatic 106, 3), (10, .invokestatic 98, 3), (13, .istore 4, 2), (15, .aload_n 0, 1), (16, .getfield 9, 3), (19, .iload_n 1, 1), (20, .invokestatic 98, 3), (23, .iload_n 2, 1), (24, .iconst (-1), 1), (25, .ixor, 1), (26, .iand, 1), (27, .istore 5, 2), (29, .iconst 0, 1), (30, .istore 6, 2), (32, .iload 6, 2), (34, .bipush 8, 2), (36, .if_icmp .ge 45, 3), (39, .iload 5, 2), (41, .iload 6, 2), (43, .ishr, 1), (44, .iconst 1, 1), (45, .iand, 1), (46, .iconst 1, 1), (47, .if_icmp .ne 28, 3), (50, .aload_n 0, 1), (51, .iload_n 1, 1), (52, .iload 6, 2), (54, .iload_n 3, 1), (55, .invokevirtual 144, 3), (58, .aload_n 0, 1), (59, .iload_n 1, 1), (60, .iload_n 2, 1), (61, .iload 6, 2), (63, .invokevirtual 131, 3), (66, .iadd, 1), (67, .iload 4, 2), (69, .if_icmp .ne 6, 3), (72, .iload 6, 2), (74, .ireturn, 1), (75, .iinc 6 1, 3), (78, .goto (-46), 3), (81, .bipush 8, 2), (83, .ireturn, 1)]
theorem D_X2_holderOf : dkA cX2_holderOf rows_X2_holderOf := by
  unfold dkA
  decide +kernel
theorem okD_X2_holderOf : okD yX2_holderOf 3 := by
  unfold okD
  decide +kernel
def w_X2_holderOf_b75 (p1 : Int32) (p2 : Int32) (p3 : Int32) (v4 : Int32) (v5 : Int32) (v6 : Int32) (K32 : Int32 → Prop) (h : Hp) (Q : Int32 → Prop) : Prop :=
  K32 ((v6 + (1 : Int32)))
def w_X2_holderOf_l32 (p1 : Int32) (p2 : Int32) (p3 : Int32) (v4 : Int32) (v5 : Int32) (h : Hp) (Q : Int32 → Prop) (K32 : Int32 → Prop) (v6 : Int32) : Prop :=
  wif ((8 : Int32) ≤ v6) (Q (8 : Int32)) (wif (¬ ((v5 >>> (v6 &&& 31)) &&& (1 : Int32)) = (1 : Int32)) (w_X2_holderOf_b75 p1 p2 p3 (v4) (v5) (v6) K32 (h) Q) (w_X2_coinsIn (p1) (v6) (p3) h (fun z1 => w_X2_restBehind (p1) (p2) (v6) h (fun z2 => wif (¬ (z1 + z2) = v4) (w_X2_holderOf_b75 p1 p2 p3 (v4) (v5) (v6) K32 (h) Q) (Q v6)))))
def w_X2_holderOf_b32 (p1 : Int32) (p2 : Int32) (p3 : Int32) (v4 : Int32) (v5 : Int32) (h : Hp) (Q : Int32 → Prop) (s : Int32) : Prop := wl (fun K s => w_X2_holderOf_l32 p1 p2 p3 v4 v5 h Q K s) s
def w_X2_holderOf (p1 : Int32) (p2 : Int32) (p3 : Int32) (h : Hp) (Q : Int32 → Prop) : Prop :=
  w_X2_index (p1) (p2) (p3) h (fun z1 => w_X8_at 49 140544 (z1) h (fun z2 => w_X8_at 45 60 (p1) h (fun z3 => wlet ((z3 &&& (p2 ^^^ (-1 : Int32)))) (fun v5_4 => w_X2_holderOf_b32 p1 p2 p3 (z2) (v5_4) (h) Q ((0 : Int32))))))
theorem t_X2_holderOf_b75 {X : Cx} (p1 : Int32) (p2 : Int32) (p3 : Int32) (v4 : Int32) (v5 : Int32) (v6 : Int32) (K32 : Int32 → Prop) (h : Hp) (Q : Int32 → Prop) (hK32 : ∀ s : Int32, K32 s → G X M_X2_holderOf E_X2_holderOf (QM X E_X2_holderOf (QIp h Q) Qn) 0 32 [(0, .ref (44)), (1, .int (p1)), (2, .int (p2)), (3, .int (p3)), (4, .int (v4)), (5, .int (v5)), (6, .int (s))] [] (h)) (hw : w_X2_holderOf_b75 p1 p2 p3 v4 v5 v6 K32 h Q) : G X M_X2_holderOf E_X2_holderOf (QM X E_X2_holderOf (QIp h Q) Qn) 0 75 [(0, .ref (44)), (1, .int (p1)), (2, .int (p2)), (3, .int (p3)), (4, .int (v4)), (5, .int (v5)), (6, .int (v6))] [] h := by
  unfold w_X2_holderOf_b75 at hw
  refine g_iinc 6 (dk D_X2_holderOf 44 rfl) rfl (congrArg (fun z => _ + z) ki_1) (by decide) rfl ?_
  refine g_goto (dk D_X2_holderOf 45 rfl) rfl ?_
  refine g_sub [1, 2, 3, 4, 5, 6, 0] rfl ?_
  exact hK32 ((v6 + (1 : Int32))) hw
theorem t_X2_holderOf_l32 {X : Cx} (p1 : Int32) (p2 : Int32) (p3 : Int32) (v4 : Int32) (v5 : Int32) (h : Hp) (Q : Int32 → Prop) (K32 : Int32 → Prop) (v6 : Int32) (hK32 : ∀ s : Int32, K32 s → G X M_X2_holderOf E_X2_holderOf (QM X E_X2_holderOf (QIp h Q) Qn) 0 32 [(0, .ref (44)), (1, .int (p1)), (2, .int (p2)), (3, .int (p3)), (4, .int (v4)), (5, .int (v5)), (6, .int (s))] [] (h)) (hw : w_X2_holderOf_l32 p1 p2 p3 v4 v5 h Q K32 v6) : G X M_X2_holderOf E_X2_holderOf (QM X E_X2_holderOf (QIp h Q) Qn) 0 32 [(0, .ref (44)), (1, .int (p1)), (2, .int (p2)), (3, .int (p3)), (4, .int (v4)), (5, .int (v5)), (6, .int (v6))] [] h := by
  unfold w_X2_holderOf_l32 at hw
  refine g_iload 6 (dk D_X2_holderOf 19 rfl) rfl ?_
  refine g_bipush (dk D_X2_holderOf 20 rfl) kb_8 ?_
  refine g_icmp_ge (dk D_X2_holderOf 21 rfl) rfl (wif_m hw (fun hw => ?_) (fun hw => ?_))
  · refine g_bipush (dk D_X2_holderOf 46 rfl) kb_8 ?_
    exact g_iret (dk D_X2_holderOf 47 rfl) rfl ⟨_, rfl, rfl, hw⟩
  · refine g_iload 5 (dk D_X2_holderOf 22 rfl) rfl ?_
    refine g_iload 6 (dk D_X2_holderOf 23 rfl) rfl ?_
    refine g_ishr (dk D_X2_holderOf 24 rfl) ?_
    refine g_iconst (dk D_X2_holderOf 25 rfl) ki_1 ?_
    refine g_iand (dk D_X2_holderOf 26 rfl) ?_
    refine g_iconst (dk D_X2_holderOf 27 rfl) ki_1 ?_
    refine g_icmp_ne (dk D_X2_holderOf 28 rfl) rfl (wif_m hw (fun hw => ?_) (fun hw => ?_))
    · exact t_X2_holderOf_b75 p1 p2 p3 (v4) (v5) (v6) K32 (h) Q hK32 hw
    · refine g_aload_n 0 (dk D_X2_holderOf 29 rfl) rfl rfl ?_
      refine g_iload_n 1 (dk D_X2_holderOf 30 rfl) rfl rfl ?_
      refine g_iload 6 (dk D_X2_holderOf 31 rfl) rfl ?_
      refine g_iload_n 3 (dk D_X2_holderOf 32 rfl) rfl rfl ?_
      refine g_callV (As := [.int (p1), .int (v6), .int (p3)]) (kc := 0) (fr := 3) (lo := 88) (mc := 0) (My := M_X2_coinsIn) (dk D_X2_holderOf 33 rfl) kd_44 rfl rfl w_1158 w_1160 w_34 w_107 w_1161 okD_X2_coinsIn (by decide) (Nat.le_of_ble_eq_true rfl) rfl (c_X2_coinsIn (p1) (v6) (p3) (h) _ hw) kxN (kIp (fun z1 hw => ?_))
      refine g_aload_n 0 (dk D_X2_holderOf 34 rfl) rfl rfl ?_
      refine g_iload_n 1 (dk D_X2_holderOf 35 rfl) rfl rfl ?_
      refine g_iload_n 2 (dk D_X2_holderOf 36 rfl) rfl rfl ?_
      refine g_iload 6 (dk D_X2_holderOf 37 rfl) rfl ?_
      refine g_callV (As := [.int (p1), .int (p2), .int (v6)]) (kc := 0) (fr := 1) (lo := 30) (mc := 0) (My := M_X2_restBehind) (dk D_X2_holderOf 38 rfl) kd_44 rfl rfl w_641 w_643 w_8 w_107 w_644 okD_X2_restBehind (by decide) (Nat.le_of_ble_eq_true rfl) rfl (c_X2_restBehind (p1) (p2) (v6) (h) _ hw) kxN (kIp (fun z2 hw => ?_))
      refine g_iadd (dk D_X2_holderOf 39 rfl) ?_
      refine g_iload 4 (dk D_X2_holderOf 40 rfl) rfl ?_
      refine g_icmp_ne (dk D_X2_holderOf 41 rfl) rfl (wif_m hw (fun hw => ?_) (fun hw => ?_))
      · exact t_X2_holderOf_b75 p1 p2 p3 (v4) (v5) (v6) K32 (h) Q hK32 hw
      · refine g_iload 6 (dk D_X2_holderOf 42 rfl) rfl ?_
        exact g_iret (dk D_X2_holderOf 43 rfl) rfl ⟨_, rfl, rfl, hw⟩
theorem t_X2_holderOf_b32 {X : Cx} (p1 : Int32) (p2 : Int32) (p3 : Int32) (v4 : Int32) (v5 : Int32) (h : Hp) (Q : Int32 → Prop) (s : Int32) (hw : w_X2_holderOf_b32 p1 p2 p3 v4 v5 h Q s) : G X M_X2_holderOf E_X2_holderOf (QM X E_X2_holderOf (QIp h Q) Qn) 0 32 [(0, .ref (44)), (1, .int (p1)), (2, .int (p2)), (3, .int (p3)), (4, .int (v4)), (5, .int (v5)), (6, .int (s))] [] (h) :=
  wl_ind (B := fun K s => w_X2_holderOf_l32 p1 p2 p3 v4 v5 h Q K (s)) (P := fun s => G X M_X2_holderOf E_X2_holderOf (QM X E_X2_holderOf (QIp h Q) Qn) 0 32 [(0, .ref (44)), (1, .int (p1)), (2, .int (p2)), (3, .int (p3)), (4, .int (v4)), (5, .int (v5)), (6, .int (s))] [] (h)) (fun K hK s hw => t_X2_holderOf_l32 p1 p2 p3 v4 v5 h Q K (s) hK hw) s hw
theorem t_X2_holderOf {X : Cx} (p1 : Int32) (p2 : Int32) (p3 : Int32) (h : Hp) (Q : Int32 → Prop) (hw : w_X2_holderOf p1 p2 p3 h Q) : G X M_X2_holderOf E_X2_holderOf (QM X E_X2_holderOf (QIp h Q) Qn) 0 0 [(0, .ref (44)), (1, .int (p1)), (2, .int (p2)), (3, .int (p3))] [] h := by
  unfold w_X2_holderOf at hw
  refine g_aload_n 0 (dk D_X2_holderOf 0 rfl) rfl rfl ?_
  refine g_getR 5 (t := 49) (dk D_X2_holderOf 1 rfl) kd_44 rfl rfl (by decide) w_305 rfl rfl rfl ?_
  refine g_iload_n 1 (dk D_X2_holderOf 2 rfl) rfl rfl ?_
  refine g_iload_n 2 (dk D_X2_holderOf 3 rfl) rfl rfl ?_
  refine g_iload_n 3 (dk D_X2_holderOf 4 rfl) rfl rfl ?_
  refine g_callS (As := [.int (p1), .int (p2), .int (p3)]) (kc := 0) (fr := 0) (lo := 0) (mc := 0) (My := M_X2_index) (dk D_X2_holderOf 5 rfl) w_624 w_625 w_107 w_626 okD_X2_index (by decide) (Nat.le_of_ble_eq_true rfl) rfl (c_X2_index (p1) (p2) (p3) (h) _ hw) kxN (kIp (fun z1 hw => ?_))
  refine g_callSN (As := [.ref (49), .int (z1)]) (kc := 0) (fr := 0) (lo := 0) (mc := 0) (My := M_X8_at) (dk D_X2_holderOf 6 rfl) w_619 w_518 w_101 w_519 okD_X8_at (by decide) (Nat.le_of_ble_eq_true rfl) rfl (c_X8_at 49 140544 (z1) (kd_49) (h) _ hw) kxN (kIp (fun z2 hw => ?_))
  refine g_istore (dk D_X2_holderOf 7 rfl) (by decide) rfl ?_
  refine g_aload_n 1 (dk D_X2_holderOf 8 rfl) rfl rfl ?_
  refine g_getR 1 (t := 45) (dk D_X2_holderOf 9 rfl) kd_44 rfl rfl (by decide) w_300 rfl rfl rfl ?_
  refine g_iload_n 2 (dk D_X2_holderOf 10 rfl) rfl rfl ?_
  refine g_callSN (As := [.ref (45), .int (p1)]) (kc := 0) (fr := 0) (lo := 0) (mc := 0) (My := M_X8_at) (dk D_X2_holderOf 11 rfl) w_619 w_518 w_101 w_519 okD_X8_at (by decide) (Nat.le_of_ble_eq_true rfl) rfl (c_X8_at 45 60 (p1) (kd_45) (h) _ hw) kxN (kIp (fun z3 hw => ?_))
  refine g_iload_n 3 (dk D_X2_holderOf 12 rfl) rfl rfl ?_
  refine g_iconst (dk D_X2_holderOf 13 rfl) ki_m1 ?_
  refine g_ixor (dk D_X2_holderOf 14 rfl) ?_
  refine g_iand (dk D_X2_holderOf 15 rfl) ?_
  refine g_topi (fun v5_4 ev5_4 => ?_)
  replace hw := hw _ ev5_4
  refine g_istore (dk D_X2_holderOf 16 rfl) (by decide) rfl ?_
  refine g_iconst (dk D_X2_holderOf 17 rfl) ki_0 ?_
  refine g_istore (dk D_X2_holderOf 18 rfl) (by decide) rfl ?_
  refine g_sub [3, 4, 5, 6, 2, 1, 0] rfl ?_
  exact t_X2_holderOf_b32 p1 p2 p3 (z2) (v5_4) (h) Q ((0 : Int32)) hw
theorem c_X2_holderOf {X : Cx} (p1 : Int32) (p2 : Int32) (p3 : Int32) (h : Hp) (Q : Int32 → Prop) (hw : w_X2_holderOf p1 p2 p3 h Q) : Con X yX2_holderOf M_X2_holderOf 4 120 0 [.ref (44), .int (p1), .int (p2), .int (p3)] h (QIp h Q) Qn :=
  con_of (by decide +kernel) rfl (Nat.le_of_ble_eq_true rfl) (t_X2_holderOf p1 p2 p3 h Q hw)
/-! ShadowTolls$Planner.minuteOf(I)I -/
abbrev M_X2_minuteOf : Mi := (RX2, cX2_minuteOf, 2, (some .int))
abbrev E_X2_minuteOf : Rm := (1, 29, 0, 0)
def rows_X2_minuteOf : List (Nat × Instr × Nat) := [(0, .aload_n 0, 1), (1, .getfield 52, 3), (4, .iload_n 1, 1), (5, .aload_n 0, 1), (6, .getfield 66, 3), (9, .if_icmp .ge 7, 3), (12, .iload_n 1, 1), (13, .goto 9, 3), (16, .iload_n 1, 1), (17, .aload_n 0, 1), (18, .getfield 66, 3), (21, .isub, 1), (22, .invokevirtual 83, 3), (25, .ireturn, 1)]
theorem D_X2_minuteOf : dkA cX2_minuteOf rows_X2_minuteOf := by
  unfold dkA
  decide +kernel
theorem okD_X2_minuteOf : okD yX2_minuteOf 1 := by
  unfold okD
  decide +kernel
def w_X2_minuteOf (p1 : Int32) (h : Hp) (Q : Int32 → Prop) : Prop :=
  w_X4_slotMinute 3 ((if (h 44 15) ≤ p1 then (p1 - (h 44 15)) else p1)) h (fun z2 => Q z2)
theorem t_X2_minuteOf {X : Cx} (p1 : Int32) (h : Hp) (Q : Int32 → Prop) (hw : w_X2_minuteOf p1 h Q) : G X M_X2_minuteOf E_X2_minuteOf (QM X E_X2_minuteOf (QIp h Q) Qn) 0 0 [(0, .ref (44)), (1, .int (p1))] [] h := by
  unfold w_X2_minuteOf at hw
  refine g_aload_n 0 (dk D_X2_minuteOf 0 rfl) rfl rfl ?_
  refine g_getR 0 (t := 3) (dk D_X2_minuteOf 1 rfl) kd_44 rfl rfl (by decide) w_299 rfl rfl rfl ?_
  refine g_iload_n 1 (dk D_X2_minuteOf 2 rfl) rfl rfl ?_
  refine g_aload_n 0 (dk D_X2_minuteOf 3 rfl) rfl rfl ?_
  refine g_getI 15 (dk D_X2_minuteOf 4 rfl) kd_44 rfl rfl (by decide) w_316 rfl rfl ?_
  have hj : G X M_X2_minuteOf E_X2_minuteOf (QM X E_X2_minuteOf (QIp h Q) Qn) 0 22 [(0, .ref (44)), (1, .int (p1))] [.int ((if (h 44 15) ≤ p1 then (p1 - (h 44 15)) else p1)), .ref (3)] (h) := by
    refine g_callV (As := [.int ((if (h 44 15) ≤ p1 then (p1 - (h 44 15)) else p1))]) (kc := 0) (fr := 0) (lo := 0) (mc := 0) (My := M_X4_slotMinute) (dk D_X2_minuteOf 12 rfl) roadP_3.1 rfl rfl w_563 w_564 w_565 w_103 w_566 okD_X4_slotMinute (by decide) (Nat.le_of_ble_eq_true rfl) rfl (c_X4_slotMinute 3 ((if (h 44 15) ≤ p1 then (p1 - (h 44 15)) else p1)) (roadP_3) (h) _ hw) kxN (kIp (fun z2 hw => ?_))
    exact g_iret (dk D_X2_minuteOf 13 rfl) rfl ⟨_, rfl, rfl, hw⟩
  refine g_icmp_ge (dk D_X2_minuteOf 5 rfl) rfl ?_
  by_cases c1 : (h 44 15) ≤ p1
  · rw [if_pos c1] at hj
    refine wif_p c1 ?_
    refine g_iload_n 1 (dk D_X2_minuteOf 8 rfl) rfl rfl ?_
    refine g_aload_n 0 (dk D_X2_minuteOf 9 rfl) rfl rfl ?_
    refine g_getI 15 (dk D_X2_minuteOf 10 rfl) kd_44 rfl rfl (by decide) w_316 rfl rfl ?_
    refine g_isub (dk D_X2_minuteOf 11 rfl) ?_
    exact hj
  · rw [if_neg c1] at hj
    refine wif_n c1 ?_
    refine g_iload_n 1 (dk D_X2_minuteOf 6 rfl) rfl rfl ?_
    refine g_goto (dk D_X2_minuteOf 7 rfl) rfl ?_
    exact hj
theorem c_X2_minuteOf {X : Cx} (p1 : Int32) (h : Hp) (Q : Int32 → Prop) (hw : w_X2_minuteOf p1 h Q) : Con X yX2_minuteOf M_X2_minuteOf 1 29 0 [.ref (44), .int (p1)] h (QIp h Q) Qn :=
  con_of (by decide +kernel) rfl (Nat.le_of_ble_eq_true rfl) (t_X2_minuteOf p1 h Q hw)
/-! ShadowTolls$Planner.addUp(II)V -/
abbrev M_X2_addUp : Mi := (RX2, cX2_addUp, 5, none)
abbrev E_X2_addUp : Rm := (2, 59, 0, 0)
def rows_X2_addUp : List (Nat × Instr × Nat) := [(0, .aload_n 0, 1), (1, .getfield 31, 3), (4, .iload_n 1, 1), (5, .invokestatic 98, 3), (8, .istore_n 3, 1), (9, .aload_n 0, 1), (10, .dup, 1), (11, .getfield 153, 3), (14, .iload_n 3, 1), (15, .aload_n 0, 1), (16, .getfield 21, 3), (19, .iload_n 1, 1), (20, .bipush 8, 2), (22, .imul, 1), (23, .iload_n 2, 1), (24, .iadd, 1), (25, .invokestatic 98, 3), (28, .iadd, 1), (29, .iadd, 1), (30, .putfield 153, 3), (33, .iload_n 1, 1), (34, .aload_n 0, 1), (35, .getfield 66, 3), (38, .if_icmp .ge 7, 3), (41, .iconst 0, 1), (42, .goto 4, 3), (45, .iconst 1, 1), (46, .istore 4, 2), (48, .aload_n 0, 1), (49, .getfield 34, 3), (52, .iload 4, 2), (54, .aload_n 0, 1), (55, .getfield 34, 3), (58, .iload 4, 2), (60, .invokestatic 98, 3), (63, .iload_n 3, 1), (64, .iadd, 1), (65, .invokestatic 79, 3), (68, .aload_n 0, 1), (69, .aload_n 0, 1), (70, .getfield 160, 3), (73, .aload_n 0, 1), (74, .iload_n 1, 1), (75, .invokevirtual 163, 3), (78, .aload_n 0, 1), (79, .getfield 52, 3), (82, .iload_n 2, 1), (83, .iconst 2, 1), (84, .invokevirtual 166, 3), (87, .isub, 1), (88, .invokestatic 169, 3), (91, .putfield 160, 3), (94, .return_, 1)]
theorem D_X2_addUp : dkA cX2_addUp rows_X2_addUp := by
  unfold dkA
  decide +kernel
theorem okD_X2_addUp : okD yX2_addUp 2 := by
  unfold okD
  decide +kernel
def w_X2_addUp (p1 : Int32) (p2 : Int32) (h : Hp) (Q : Hp → Prop) : Prop :=
  w_X8_at 51 60 (p1) h (fun z1 => w_X8_at 48 480 (((p1 * (8 : Int32)) + p2)) h (fun z2 => wlet (hup h 44 18 ((h 44 18) + (z1 + z2))) (fun h3 => wlet ((if (h3 44 15) ≤ p1 then (1 : Int32) else (0 : Int32))) (fun v4_5 => w_X8_at 52 2 (v4_5) h3 (fun z6 => w_X8_put 52 2 (v4_5) ((z6 + z1)) h3 (fun h7 => w_X2_minuteOf (p1) h7 (fun z8 => w_X4_trait 3 (p2) ((2 : Int32)) h7 (fun z9 => wlet (hup h7 44 19 (if (h7 44 19) < (z8 - z9) then (z8 - z9) else (h7 44 19))) (fun h10 => Q h10)))))))))
theorem t_X2_addUp {X : Cx} (p1 : Int32) (p2 : Int32) (h : Hp) (Q : Hp → Prop) (hw : w_X2_addUp p1 p2 h Q) : G X M_X2_addUp E_X2_addUp (QM X E_X2_addUp (QV Q) Qn) 0 0 [(0, .ref (44)), (1, .int (p1)), (2, .int (p2))] [] h := by
  unfold w_X2_addUp at hw
  refine g_aload_n 0 (dk D_X2_addUp 0 rfl) rfl rfl ?_
  refine g_getR 7 (t := 51) (dk D_X2_addUp 1 rfl) kd_44 rfl rfl (by decide) w_307 rfl rfl rfl ?_
  refine g_iload_n 1 (dk D_X2_addUp 2 rfl) rfl rfl ?_
  refine g_callSN (As := [.ref (51), .int (p1)]) (kc := 0) (fr := 0) (lo := 0) (mc := 0) (My := M_X8_at) (dk D_X2_addUp 3 rfl) w_619 w_518 w_101 w_519 okD_X8_at (by decide) (Nat.le_of_ble_eq_true rfl) rfl (c_X8_at 51 60 (p1) (kd_51) (h) _ hw) kxN (kIp (fun z1 hw => ?_))
  refine g_istore_n (dk D_X2_addUp 4 rfl) rfl (by decide) rfl ?_
  refine g_aload_n 1 (dk D_X2_addUp 5 rfl) rfl rfl ?_
  refine g_dup (dk D_X2_addUp 6 rfl) rfl ?_
  refine g_getI 18 (dk D_X2_addUp 7 rfl) kd_44 rfl rfl (by decide) w_320 rfl rfl ?_
  refine g_iload_n 0 (dk D_X2_addUp 8 rfl) rfl rfl ?_
  refine g_aload_n 1 (dk D_X2_addUp 9 rfl) rfl rfl ?_
  refine g_getR 4 (t := 48) (dk D_X2_addUp 10 rfl) kd_44 rfl rfl (by decide) w_304 rfl rfl rfl ?_
  refine g_iload_n 2 (dk D_X2_addUp 11 rfl) rfl rfl ?_
  refine g_bipush (dk D_X2_addUp 12 rfl) kb_8 ?_
  refine g_imul (dk D_X2_addUp 13 rfl) ?_
  refine g_iload_n 3 (dk D_X2_addUp 14 rfl) rfl rfl ?_
  refine g_iadd (dk D_X2_addUp 15 rfl) ?_
  refine g_callSN (As := [.ref (48), .int (((p1 * (8 : Int32)) + p2))]) (kc := 0) (fr := 0) (lo := 0) (mc := 0) (My := M_X8_at) (dk D_X2_addUp 16 rfl) w_619 w_518 w_101 w_519 okD_X8_at (by decide) (Nat.le_of_ble_eq_true rfl) rfl (c_X8_at 48 480 (((p1 * (8 : Int32)) + p2)) (kd_48) (h) _ hw) kxN (kIp (fun z2 hw => ?_))
  refine g_iadd (dk D_X2_addUp 17 rfl) ?_
  refine g_iadd (dk D_X2_addUp 18 rfl) ?_
  refine g_put 18 (dk D_X2_addUp 19 rfl) kd_44 rfl rfl (by decide) w_320 rfl tyX2_ok nmX2 rfl (by decide) rfl (fun z => absurd z (by decide)) ?_
  refine g_heap (fun h3 eh3 => ?_)
  replace hw := hw _ eh3
  refine g_iload_n 2 (dk D_X2_addUp 20 rfl) rfl rfl ?_
  refine g_aload_n 1 (dk D_X2_addUp 21 rfl) rfl rfl ?_
  refine g_getI 15 (dk D_X2_addUp 22 rfl) kd_44 rfl rfl (by decide) w_316 rfl rfl ?_
  have hj : G X M_X2_addUp E_X2_addUp (QM X E_X2_addUp (QV Q) Qn) 0 46 [(3, .int (z1)), (0, .ref (44)), (1, .int (p1)), (2, .int (p2))] [.int ((if (h3 44 15) ≤ p1 then (1 : Int32) else (0 : Int32)))] (h3) := by
    refine g_topi (fun v4_5 ev4_5 => ?_)
    replace hw := hw _ ev4_5
    refine g_istore (dk D_X2_addUp 27 rfl) (by decide) rfl ?_
    refine g_aload_n 2 (dk D_X2_addUp 28 rfl) rfl rfl ?_
    refine g_getR 8 (t := 52) (dk D_X2_addUp 29 rfl) kd_44 rfl rfl (by decide) w_309 rfl rfl rfl ?_
    refine g_iload 0 (dk D_X2_addUp 30 rfl) rfl ?_
    refine g_aload_n 2 (dk D_X2_addUp 31 rfl) rfl rfl ?_
    refine g_getR 8 (t := 52) (dk D_X2_addUp 32 rfl) kd_44 rfl rfl (by decide) w_309 rfl rfl rfl ?_
    refine g_iload 0 (dk D_X2_addUp 33 rfl) rfl ?_
    refine g_callSN (As := [.ref (52), .int (v4_5)]) (kc := 0) (fr := 0) (lo := 0) (mc := 0) (My := M_X8_at) (dk D_X2_addUp 34 rfl) w_619 w_518 w_101 w_519 okD_X8_at (by decide) (Nat.le_of_ble_eq_true rfl) rfl (c_X8_at 52 2 (v4_5) (kd_52) (h3) _ hw) kxN (kIp (fun z6 hw => ?_))
    refine g_iload_n 1 (dk D_X2_addUp 35 rfl) rfl rfl ?_
    refine g_iadd (dk D_X2_addUp 36 rfl) ?_
    refine g_callSN (As := [.ref (52), .int (v4_5), .int ((z6 + z1))]) (kc := 0) (fr := 0) (lo := 0) (mc := 0) (My := M_X8_put) (dk D_X2_addUp 37 rfl) w_550 w_496 w_101 w_497 okD_X8_put (by decide) (Nat.le_of_ble_eq_true rfl) rfl (c_X8_put 52 2 (v4_5) ((z6 + z1)) (kd_52) (h3) _ hw) kxN (kV (fun h7 hw => ?_))
    refine g_aload_n 2 (dk D_X2_addUp 38 rfl) rfl rfl ?_
    refine g_aload_n 2 (dk D_X2_addUp 39 rfl) rfl rfl ?_
    refine g_getI 19 (dk D_X2_addUp 40 rfl) kd_44 rfl rfl (by decide) w_322 rfl rfl ?_
    refine g_aload_n 2 (dk D_X2_addUp 41 rfl) rfl rfl ?_
    refine g_iload_n 3 (dk D_X2_addUp 42 rfl) rfl rfl ?_
    refine g_callV (As := [.int (p1)]) (kc := 0) (fr := 1) (lo := 29) (mc := 0) (My := M_X2_minuteOf) (dk D_X2_addUp 43 rfl) kd_44 rfl rfl w_1166 w_1168 w_36 w_107 w_1169 okD_X2_minuteOf (by decide) (Nat.le_of_ble_eq_true rfl) rfl (c_X2_minuteOf (p1) (h7) _ hw) kxN (kIp (fun z8 hw => ?_))
    refine g_aload_n 2 (dk D_X2_addUp 44 rfl) rfl rfl ?_
    refine g_getR 0 (t := 3) (dk D_X2_addUp 45 rfl) kd_44 rfl rfl (by decide) w_299 rfl rfl rfl ?_
    refine g_iload_n 4 (dk D_X2_addUp 46 rfl) rfl rfl ?_
    refine g_iconst (dk D_X2_addUp 47 rfl) ki_2 ?_
    refine g_callV (As := [.int (p2), .int ((2 : Int32))]) (kc := 0) (fr := 1) (lo := 29) (mc := 0) (My := M_X4_trait) (dk D_X2_addUp 48 rfl) roadP_3.1 rfl rfl w_1170 w_546 w_547 w_103 w_548 okD_X4_trait (by decide) (Nat.le_of_ble_eq_true rfl) rfl (c_X4_trait 3 (p2) ((2 : Int32)) (roadP_3) (h7) _ hw) kxN (kIp (fun z9 hw => ?_))
    refine g_isub (dk D_X2_addUp 49 rfl) ?_
    refine g_mmax (dk D_X2_addUp 50 rfl) w_1171 (by decide) (Nat.le_of_ble_eq_true rfl) ?_
    refine g_put 19 (dk D_X2_addUp 51 rfl) kd_44 rfl rfl (by decide) w_322 rfl tyX2_ok nmX2 rfl (by decide) rfl (fun z => absurd z (by decide)) ?_
    refine g_heap (fun h10 eh10 => ?_)
    replace hw := hw _ eh10
    exact g_vret (dk D_X2_addUp 52 rfl) rfl ⟨rfl, hw⟩
  refine g_icmp_ge (dk D_X2_addUp 23 rfl) rfl ?_
  by_cases c4 : (h3 44 15) ≤ p1
  · rw [if_pos c4] at hj
    refine wif_p c4 ?_
    refine g_iconst (dk D_X2_addUp 26 rfl) ki_1 ?_
    exact hj
  · rw [if_neg c4] at hj
    refine wif_n c4 ?_
    refine g_iconst (dk D_X2_addUp 24 rfl) ki_0 ?_
    refine g_goto (dk D_X2_addUp 25 rfl) rfl ?_
    exact hj
theorem c_X2_addUp {X : Cx} (p1 : Int32) (p2 : Int32) (h : Hp) (Q : Hp → Prop) (hw : w_X2_addUp p1 p2 h Q) : Con X yX2_addUp M_X2_addUp 2 59 0 [.ref (44), .int (p1), .int (p2)] h (QV Q) Qn :=
  con_of (by decide +kernel) rfl (Nat.le_of_ble_eq_true rfl) (t_X2_addUp p1 p2 h Q hw)
