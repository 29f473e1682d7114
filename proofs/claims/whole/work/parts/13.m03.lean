/-! ShadowTolls$Planner.seat()V -/
abbrev M_X2_seat : Mi := (RX2, cX2_seat, 5, none)
abbrev E_X2_seat : Rm := (5, 154, 0, 0)
def rows_X2_seat : List (Nat × Instr × Nat) := [(0, .iconst 0, 1), (1, .istore_n 1, 1), (2, .bipush 8, 2), (4, .istore_n 2, 1), (5, .aload_n 0, 1), (6, .invokevirtual 138, 3), (9, .iconst 0, 1), (10, .istore_n 3, 1), (11, .iload_n 3, 1), (12, .aload_n 0, 1), (13, .getfield 69, 3), (16, .if_icmp .ge 83, 3), (19, .aload_n 0, 1), (20, .iload_n 3, 1), (21, .invokevirtual 121, 3), (24, .ifCond .eq 7, 3), (27, .iload_n 2, 1), (28, .goto 5, 3), (31, .bipush 8, 2), (33, .istore_n 2, 1), (34, .aload_n 0, 1), (35, .iload_n 3, 1), (36, .iload_n 1, 1), (37, .iload_n 2, 1), (38, .invokevirtual 141, 3), (41, .istore 4, 2), (43, .aload_n 0, 1), (44, .getfield 28, 3), (47, .iload_n 3, 1), (48, .iload 4, 2), (50, .invokestatic 79, 3), (53, .iload 4, 2), (55, .bipush 8, 2), (57, .if_icmp .eq 33, 3), (60, .aload_n 0, 1), (61, .getfield 31, 3), (64, .iload_n 3, 1), (65, .aload_n 0, 1), (66, .iload_n 3, 1), (67, .iload 4, 2), (69, .iload_n 2, 1), (70, .invokevirtual 144, 3), (73, .invokestatic 79, 3), (76, .aload_n 0, 1), (77, .iload_n 3, 1), (78, .iload 4, 2), (80, .invokevirtual 147, 3), (83, .iload_n 1, 1), (84, .iconst 1, 1), (85, .iload 4, 2), (87, .ishl, 1), (88, .ior, 1), (89, .istore_n 1, 1), (90, .iload 4, 2), (92, .istore_n 2, 1), (93, .iinc 3 1, 3), (96, .goto (-85), 3), (99, .aload_n 0, 1), (100, .aload_n 0, 1), (101, .getfield 56, 3), (104, .iload_n 1, 1), (105, .iconst (-1), 1), (106, .ixor, 1), (107, .iand, 1), (108, .invokestatic 109, 3), (111, .putfield 150, 3), (114, .return_, 1)]
theorem D_X2_seat : dkA cX2_seat rows_X2_seat := by
  unfold dkA
  decide +kernel
theorem okD_X2_seat : okD yX2_seat 0 := by
  unfold okD
  decide +kernel
def w_X2_seat_b90 (v1 : Int32) (v3 : Int32) (v4 : Int32) (K11 : Int32 × Int32 × Int32 × Hp → Prop) (h : Hp) (Q : Hp → Prop) : Prop :=
  K11 (v1, v4, (v3 + (1 : Int32)), h)
def w_X2_seat_l11 (Q : Hp → Prop) (K11 : Int32 × Int32 × Int32 × Hp → Prop) (v1 : Int32) (v2 : Int32) (v3 : Int32) (h : Hp) : Prop :=
  wif ((h 44 16) ≤ v3) (w_J6_bitCount_0f7a4 (((h 44 14) &&& (v1 ^^^ (-1 : Int32)))) h (fun z1 => wlet (hup h 44 17 z1) (fun h2 => Q h2))) (w_X2_shadeReaches (v3) h (fun z3 => wlet ((if z3 = 0 then (8 : Int32) else v2)) (fun v2_5 => w_X2_holderOf (v3) (v1) (v2_5) h (fun z6 => w_X8_put 50 60 (v3) (z6) h (fun h7 => wif (z6 = (8 : Int32)) (w_X2_seat_b90 (v1) (v3) (z6) K11 (h7) Q) (w_X2_coinsIn (v3) (z6) (v2_5) h7 (fun z8 => w_X8_put 51 60 (v3) (z8) h7 (fun h9 => w_X2_addUp (v3) (z6) h9 (fun h10 => wlet ((v1 ||| ((1 : Int32) <<< (z6 &&& 31)))) (fun v1_11 => w_X2_seat_b90 (v1_11) (v3) (z6) K11 (h10) Q))))))))))
def w_X2_seat_b11 (Q : Hp → Prop) (s : Int32 × Int32 × Int32 × Hp) : Prop := wl (fun K s => w_X2_seat_l11 Q K s.1 s.2.1 s.2.2.1 s.2.2.2) s
def w_X2_seat (h : Hp) (Q : Hp → Prop) : Prop :=
  w_X2_forgetSums  h (fun h1 => w_X2_seat_b11 Q ((0 : Int32), (8 : Int32), (0 : Int32), h1))
theorem t_X2_seat_b90 {X : Cx} (v1 : Int32) (v3 : Int32) (v4 : Int32) (K11 : Int32 × Int32 × Int32 × Hp → Prop) (h : Hp) (Q : Hp → Prop) (hK11 : ∀ s : Int32 × Int32 × Int32 × Hp, K11 s → G X M_X2_seat E_X2_seat (QM X E_X2_seat (QV Q) Qn) 0 11 [(0, .ref (44)), (1, .int (s.1)), (2, .int (s.2.1)), (3, .int (s.2.2.1))] [] (s.2.2.2)) (hw : w_X2_seat_b90 v1 v3 v4 K11 h Q) : G X M_X2_seat E_X2_seat (QM X E_X2_seat (QV Q) Qn) 0 90 [(0, .ref (44)), (1, .int (v1)), (3, .int (v3)), (4, .int (v4))] [] h := by
  unfold w_X2_seat_b90 at hw
  refine g_iload 3 (dk D_X2_seat 53 rfl) rfl ?_
  refine g_istore_n (dk D_X2_seat 54 rfl) rfl (by decide) rfl ?_
  refine g_iinc 3 (dk D_X2_seat 55 rfl) rfl (congrArg (fun z => _ + z) ki_1) (by decide) rfl ?_
  refine g_goto (dk D_X2_seat 56 rfl) rfl ?_
  refine g_sub [2, 3, 1, 0] rfl ?_
  exact hK11 (v1, v4, (v3 + (1 : Int32)), h) hw
theorem t_X2_seat_l11 {X : Cx} (Q : Hp → Prop) (K11 : Int32 × Int32 × Int32 × Hp → Prop) (v1 : Int32) (v2 : Int32) (v3 : Int32) (h : Hp) (hK11 : ∀ s : Int32 × Int32 × Int32 × Hp, K11 s → G X M_X2_seat E_X2_seat (QM X E_X2_seat (QV Q) Qn) 0 11 [(0, .ref (44)), (1, .int (s.1)), (2, .int (s.2.1)), (3, .int (s.2.2.1))] [] (s.2.2.2)) (hw : w_X2_seat_l11 Q K11 v1 v2 v3 h) : G X M_X2_seat E_X2_seat (QM X E_X2_seat (QV Q) Qn) 0 11 [(0, .ref (44)), (1, .int (v1)), (2, .int (v2)), (3, .int (v3))] [] h := by
  unfold w_X2_seat_l11 at hw
  refine g_iload_n 3 (dk D_X2_seat 8 rfl) rfl rfl ?_
  refine g_aload_n 0 (dk D_X2_seat 9 rfl) rfl rfl ?_
  refine g_getI 16 (dk D_X2_seat 10 rfl) kd_44 rfl rfl (by decide) w_317 rfl rfl ?_
  refine g_icmp_ge (dk D_X2_seat 11 rfl) rfl (wif_m hw (fun hw => ?_) (fun hw => ?_))
  · refine g_aload_n 0 (dk D_X2_seat 57 rfl) rfl rfl ?_
    refine g_aload_n 0 (dk D_X2_seat 58 rfl) rfl rfl ?_
    refine g_getI 14 (dk D_X2_seat 59 rfl) kd_44 rfl rfl (by decide) w_315 rfl rfl ?_
    refine g_iload_n 1 (dk D_X2_seat 60 rfl) rfl rfl ?_
    refine g_iconst (dk D_X2_seat 61 rfl) ki_m1 ?_
    refine g_ixor (dk D_X2_seat 62 rfl) ?_
    refine g_iand (dk D_X2_seat 63 rfl) ?_
    refine g_callS (As := [.int (((h 44 14) &&& (v1 ^^^ (-1 : Int32))))]) (kc := 0) (fr := 0) (lo := 0) (mc := 0) (My := M_J6_bitCount_0f7a4) (dk D_X2_seat 64 rfl) w_627 w_628 w_122 w_629 okD_J6_bitCount_0f7a4 (by decide) (Nat.le_of_ble_eq_true rfl) rfl (c_J6_bitCount_0f7a4 (((h 44 14) &&& (v1 ^^^ (-1 : Int32)))) (h) _ hw) kxN (kIp (fun z1 hw => ?_))
    refine g_put 17 (dk D_X2_seat 65 rfl) kd_44 rfl rfl (by decide) w_318 rfl tyX2_ok nmX2 rfl (by decide) rfl (fun z => absurd z (by decide)) ?_
    refine g_heap (fun h2 eh2 => ?_)
    replace hw := hw _ eh2
    exact g_vret (dk D_X2_seat 66 rfl) rfl ⟨rfl, hw⟩
  · refine g_aload_n 0 (dk D_X2_seat 12 rfl) rfl rfl ?_
    refine g_iload_n 3 (dk D_X2_seat 13 rfl) rfl rfl ?_
    refine g_callV (As := [.int (v3)]) (kc := 0) (fr := 0) (lo := 0) (mc := 0) (My := M_X2_shadeReaches) (dk D_X2_seat 14 rfl) kd_44 rfl rfl w_645 w_647 w_9 w_107 w_648 okD_X2_shadeReaches (by decide) (Nat.le_of_ble_eq_true rfl) rfl (c_X2_shadeReaches (v3) (h) _ hw) kxN (kIp (fun z3 hw => ?_))
    have hj : G X M_X2_seat E_X2_seat (QM X E_X2_seat (QV Q) Qn) 0 33 [(0, .ref (44)), (1, .int (v1)), (2, .int (v2)), (3, .int (v3))] [.int ((if z3 = 0 then (8 : Int32) else v2))] (h) := by
      refine g_topi (fun v2_5 ev2_5 => ?_)
      replace hw := hw _ ev2_5
      refine g_istore_n (dk D_X2_seat 19 rfl) rfl (by decide) rfl ?_
      refine g_aload_n 1 (dk D_X2_seat 20 rfl) rfl rfl ?_
      refine g_iload_n 3 (dk D_X2_seat 21 rfl) rfl rfl ?_
      refine g_iload_n 2 (dk D_X2_seat 22 rfl) rfl rfl ?_
      refine g_iload_n 0 (dk D_X2_seat 23 rfl) rfl rfl ?_
      refine g_callV (As := [.int (v3), .int (v1), .int (v2_5)]) (kc := 0) (fr := 4) (lo := 120) (mc := 0) (My := M_X2_holderOf) (dk D_X2_seat 24 rfl) kd_44 rfl rfl w_1154 w_1156 w_33 w_107 w_1157 okD_X2_holderOf (by decide) (Nat.le_of_ble_eq_true rfl) rfl (c_X2_holderOf (v3) (v1) (v2_5) (h) _ hw) kxN (kIp (fun z6 hw => ?_))
      refine g_istore (dk D_X2_seat 25 rfl) (by decide) rfl ?_
      refine g_aload_n 2 (dk D_X2_seat 26 rfl) rfl rfl ?_
      refine g_getR 6 (t := 50) (dk D_X2_seat 27 rfl) kd_44 rfl rfl (by decide) w_306 rfl rfl rfl ?_
      refine g_iload_n 4 (dk D_X2_seat 28 rfl) rfl rfl ?_
      refine g_iload 0 (dk D_X2_seat 29 rfl) rfl ?_
      refine g_callSN (As := [.ref (50), .int (v3), .int (z6)]) (kc := 0) (fr := 0) (lo := 0) (mc := 0) (My := M_X8_put) (dk D_X2_seat 30 rfl) w_550 w_496 w_101 w_497 okD_X8_put (by decide) (Nat.le_of_ble_eq_true rfl) rfl (c_X8_put 50 60 (v3) (z6) (kd_50) (h) _ hw) kxN (kV (fun h7 hw => ?_))
      refine g_iload 0 (dk D_X2_seat 31 rfl) rfl ?_
      refine g_bipush (dk D_X2_seat 32 rfl) kb_8 ?_
      refine g_icmp_eq (dk D_X2_seat 33 rfl) rfl (wif_m hw (fun hw => ?_) (fun hw => ?_))
      · refine g_sub [2, 3, 4, 0] rfl ?_
        exact t_X2_seat_b90 (v1) (v3) (z6) K11 (h7) Q hK11 hw
      · refine g_aload_n 2 (dk D_X2_seat 34 rfl) rfl rfl ?_
        refine g_getR 7 (t := 51) (dk D_X2_seat 35 rfl) kd_44 rfl rfl (by decide) w_307 rfl rfl rfl ?_
        refine g_iload_n 4 (dk D_X2_seat 36 rfl) rfl rfl ?_
        refine g_aload_n 2 (dk D_X2_seat 37 rfl) rfl rfl ?_
        refine g_iload_n 4 (dk D_X2_seat 38 rfl) rfl rfl ?_
        refine g_iload 0 (dk D_X2_seat 39 rfl) rfl ?_
        refine g_iload_n 1 (dk D_X2_seat 40 rfl) rfl rfl ?_
        refine g_callV (As := [.int (v3), .int (z6), .int (v2_5)]) (kc := 0) (fr := 3) (lo := 88) (mc := 0) (My := M_X2_coinsIn) (dk D_X2_seat 41 rfl) kd_44 rfl rfl w_1158 w_1160 w_34 w_107 w_1161 okD_X2_coinsIn (by decide) (Nat.le_of_ble_eq_true rfl) rfl (c_X2_coinsIn (v3) (z6) (v2_5) (h7) _ hw) kxN (kIp (fun z8 hw => ?_))
        refine g_callSN (As := [.ref (51), .int (v3), .int (z8)]) (kc := 0) (fr := 0) (lo := 0) (mc := 0) (My := M_X8_put) (dk D_X2_seat 42 rfl) w_550 w_496 w_101 w_497 okD_X8_put (by decide) (Nat.le_of_ble_eq_true rfl) rfl (c_X8_put 51 60 (v3) (z8) (kd_51) (h7) _ hw) kxN (kV (fun h9 hw => ?_))
        refine g_aload_n 2 (dk D_X2_seat 43 rfl) rfl rfl ?_
        refine g_iload_n 4 (dk D_X2_seat 44 rfl) rfl rfl ?_
        refine g_iload 0 (dk D_X2_seat 45 rfl) rfl ?_
        refine g_callV (As := [.int (v3), .int (z6)]) (kc := 0) (fr := 2) (lo := 59) (mc := 0) (My := M_X2_addUp) (dk D_X2_seat 46 rfl) kd_44 rfl rfl w_1162 w_1164 w_35 w_107 w_1165 okD_X2_addUp (by decide) (Nat.le_of_ble_eq_true rfl) rfl (c_X2_addUp (v3) (z6) (h9) _ hw) kxN (kV (fun h10 hw => ?_))
        refine g_iload_n 3 (dk D_X2_seat 47 rfl) rfl rfl ?_
        refine g_iconst (dk D_X2_seat 48 rfl) ki_1 ?_
        refine g_iload 0 (dk D_X2_seat 49 rfl) rfl ?_
        refine g_ishl (dk D_X2_seat 50 rfl) ?_
        refine g_ior (dk D_X2_seat 51 rfl) ?_
        refine g_topi (fun v1_11 ev1_11 => ?_)
        replace hw := hw _ ev1_11
        refine g_istore_n (dk D_X2_seat 52 rfl) rfl (by decide) rfl ?_
        refine g_sub [3, 0, 4, 1] rfl ?_
        exact t_X2_seat_b90 (v1_11) (v3) (z6) K11 (h10) Q hK11 hw
    refine g_if_eq (dk D_X2_seat 15 rfl) rfl ?_
    by_cases c4 : z3 = 0
    · rw [if_pos c4] at hj
      refine wif_p c4 ?_
      refine g_bipush (dk D_X2_seat 18 rfl) kb_8 ?_
      exact hj
    · rw [if_neg c4] at hj
      refine wif_n c4 ?_
      refine g_iload_n 2 (dk D_X2_seat 16 rfl) rfl rfl ?_
      refine g_goto (dk D_X2_seat 17 rfl) rfl ?_
      exact hj
theorem t_X2_seat_b11 {X : Cx} (Q : Hp → Prop) (s : Int32 × Int32 × Int32 × Hp) (hw : w_X2_seat_b11 Q s) : G X M_X2_seat E_X2_seat (QM X E_X2_seat (QV Q) Qn) 0 11 [(0, .ref (44)), (1, .int (s.1)), (2, .int (s.2.1)), (3, .int (s.2.2.1))] [] (s.2.2.2) :=
  wl_ind (B := fun K s => w_X2_seat_l11 Q K (s.1) (s.2.1) (s.2.2.1) (s.2.2.2)) (P := fun s => G X M_X2_seat E_X2_seat (QM X E_X2_seat (QV Q) Qn) 0 11 [(0, .ref (44)), (1, .int (s.1)), (2, .int (s.2.1)), (3, .int (s.2.2.1))] [] (s.2.2.2)) (fun K hK s hw => t_X2_seat_l11 Q K (s.1) (s.2.1) (s.2.2.1) (s.2.2.2) hK hw) s hw
theorem t_X2_seat {X : Cx} (h : Hp) (Q : Hp → Prop) (hw : w_X2_seat h Q) : G X M_X2_seat E_X2_seat (QM X E_X2_seat (QV Q) Qn) 0 0 [(0, .ref (44))] [] h := by
  unfold w_X2_seat at hw
  refine g_iconst (dk D_X2_seat 0 rfl) ki_0 ?_
  refine g_istore_n (dk D_X2_seat 1 rfl) rfl (by decide) rfl ?_
  refine g_bipush (dk D_X2_seat 2 rfl) kb_8 ?_
  refine g_istore_n (dk D_X2_seat 3 rfl) rfl (by decide) rfl ?_
  refine g_aload_n 2 (dk D_X2_seat 4 rfl) rfl rfl ?_
  refine g_callV (As := []) (kc := 0) (fr := 1) (lo := 30) (mc := 0) (My := M_X2_forgetSums) (dk D_X2_seat 5 rfl) kd_44 rfl rfl w_1149 w_1151 w_32 w_107 w_1152 okD_X2_forgetSums (by decide) (Nat.le_of_ble_eq_true rfl) rfl (c_X2_forgetSums (h) _ hw) kxN (kV (fun h1 hw => ?_))
  refine g_iconst (dk D_X2_seat 6 rfl) ki_0 ?_
  refine g_istore_n (dk D_X2_seat 7 rfl) rfl (by decide) rfl ?_
  refine g_sub [3, 2, 1, 0] rfl ?_
  exact t_X2_seat_b11 Q ((0 : Int32), (8 : Int32), (0 : Int32), h1) hw
theorem c_X2_seat {X : Cx} (h : Hp) (Q : Hp → Prop) (hw : w_X2_seat h Q) : Con X yX2_seat M_X2_seat 5 154 0 [.ref (44)] h (QV Q) Qn :=
  con_of (by decide +kernel) rfl (Nat.le_of_ble_eq_true rfl) (t_X2_seat h Q hw)
/-! ShadowTolls$Planner.earnedAt(I)I -/
abbrev M_X2_earnedAt : Mi := (RX2, cX2_earnedAt, 2, (some .int))
abbrev E_X2_earnedAt : Rm := (1, 29, 0, 0)
def rows_X2_earnedAt : List (Nat × Instr × Nat) := [(0, .aload_n 0, 1), (1, .getfield 34, 3), (4, .iload_n 1, 1), (5, .invokestatic 98, 3), (8, .ireturn, 1)]
theorem D_X2_earnedAt : dkA cX2_earnedAt rows_X2_earnedAt := by
  unfold dkA
  decide +kernel
theorem okD_X2_earnedAt : okD yX2_earnedAt 1 := by
  unfold okD
  decide +kernel
def w_X2_earnedAt (p1 : Int32) (h : Hp) (Q : Int32 → Prop) : Prop :=
  w_X8_at 52 2 (p1) h (fun z1 => Q z1)
theorem t_X2_earnedAt {X : Cx} (p1 : Int32) (h : Hp) (Q : Int32 → Prop) (hw : w_X2_earnedAt p1 h Q) : G X M_X2_earnedAt E_X2_earnedAt (QM X E_X2_earnedAt (QIp h Q) Qn) 0 0 [(0, .ref (44)), (1, .int (p1))] [] h := by
  unfold w_X2_earnedAt at hw
  refine g_aload_n 0 (dk D_X2_earnedAt 0 rfl) rfl rfl ?_
  refine g_getR 8 (t := 52) (dk D_X2_earnedAt 1 rfl) kd_44 rfl rfl (by decide) w_309 rfl rfl rfl ?_
  refine g_iload_n 1 (dk D_X2_earnedAt 2 rfl) rfl rfl ?_
  refine g_callSN (As := [.ref (52), .int (p1)]) (kc := 0) (fr := 0) (lo := 0) (mc := 0) (My := M_X8_at) (dk D_X2_earnedAt 3 rfl) w_619 w_518 w_101 w_519 okD_X8_at (by decide) (Nat.le_of_ble_eq_true rfl) rfl (c_X8_at 52 2 (p1) (kd_52) (h) _ hw) kxN (kIp (fun z1 hw => ?_))
  exact g_iret (dk D_X2_earnedAt 4 rfl) rfl ⟨_, rfl, rfl, hw⟩
theorem c_X2_earnedAt {X : Cx} (p1 : Int32) (h : Hp) (Q : Int32 → Prop) (hw : w_X2_earnedAt p1 h Q) : Con X yX2_earnedAt M_X2_earnedAt 1 29 0 [.ref (44), .int (p1)] h (QIp h Q) Qn :=
  con_of (by decide +kernel) rfl (Nat.le_of_ble_eq_true rfl) (t_X2_earnedAt p1 h Q hw)
/-! ShadowTolls$Planner.slotOf(I)I -/
abbrev M_X2_slotOf : Mi := (RX2, cX2_slotOf, 3, (some .int))
abbrev E_X2_slotOf : Rm := (1, 29, 0, 0)
def rows_X2_slotOf : List (Nat × Instr × Nat) := [(0, .iconst 0, 1), (1, .istore_n 2, 1), (2, .iload_n 2, 1), (3, .aload_n 0, 1), (4, .getfield 69, 3), (7, .if_icmp .ge 43, 3), (10, .aload_n 0, 1), (11, .getfield 28, 3), (14, .iload_n 2, 1), (15, .invokestatic 98, 3), (18, .iload_n 1, 1), (19, .if_icmp .ne 25, 3), (22, .iload_n 2, 1), (23, .aload_n 0, 1), (24, .getfield 66, 3), (27, .if_icmp .ge 7, 3), (30, .iload_n 2, 1), (31, .goto 12, 3), (34, .bipush 100, 2), (36, .iload_n 2, 1), (37, .iadd, 1), (38, .aload_n 0, 1), (39, .getfield 66, 3), (42, .isub, 1), (43, .ireturn, 1), (44, .iinc 2 1, 3), (47, .goto (-45), 3), (50, .iconst (-1), 1), (51, .ireturn, 1)]
theorem D_X2_slotOf : dkA cX2_slotOf rows_X2_slotOf := by
  unfold dkA
  decide +kernel
theorem okD_X2_slotOf : okD yX2_slotOf 1 := by
  unfold okD
  decide +kernel
def w_X2_slotOf_l2 (p1 : Int32) (h : Hp) (Q : Int32 → Prop) (K2 : Int32 → Prop) (v2 : Int32) : Prop :=
  wif ((h 44 16) ≤ v2) (Q (-1 : Int32)) (w_X8_at 50 60 (v2) h (fun z1 => wif (¬ z1 = p1) (K2 ((v2 + (1 : Int32)))) (Q (if (h 44 15) ≤ v2 then (((100 : Int32) + v2) - (h 44 15)) else v2))))
def w_X2_slotOf_b2 (p1 : Int32) (h : Hp) (Q : Int32 → Prop) (s : Int32) : Prop := wl (fun K s => w_X2_slotOf_l2 p1 h Q K s) s
def w_X2_slotOf (p1 : Int32) (h : Hp) (Q : Int32 → Prop) : Prop :=
  w_X2_slotOf_b2 p1 (h) Q ((0 : Int32))
theorem t_X2_slotOf_l2 {X : Cx} (p1 : Int32) (h : Hp) (Q : Int32 → Prop) (K2 : Int32 → Prop) (v2 : Int32) (hK2 : ∀ s : Int32, K2 s → G X M_X2_slotOf E_X2_slotOf (QM X E_X2_slotOf (QIp h Q) Qn) 0 2 [(0, .ref (44)), (1, .int (p1)), (2, .int (s))] [] (h)) (hw : w_X2_slotOf_l2 p1 h Q K2 v2) : G X M_X2_slotOf E_X2_slotOf (QM X E_X2_slotOf (QIp h Q) Qn) 0 2 [(0, .ref (44)), (1, .int (p1)), (2, .int (v2))] [] h := by
  unfold w_X2_slotOf_l2 at hw
  refine g_iload_n 2 (dk D_X2_slotOf 2 rfl) rfl rfl ?_
  refine g_aload_n 0 (dk D_X2_slotOf 3 rfl) rfl rfl ?_
  refine g_getI 16 (dk D_X2_slotOf 4 rfl) kd_44 rfl rfl (by decide) w_317 rfl rfl ?_
  refine g_icmp_ge (dk D_X2_slotOf 5 rfl) rfl (wif_m hw (fun hw => ?_) (fun hw => ?_))
  · refine g_iconst (dk D_X2_slotOf 27 rfl) ki_m1 ?_
    exact g_iret (dk D_X2_slotOf 28 rfl) rfl ⟨_, rfl, rfl, hw⟩
  · refine g_aload_n 0 (dk D_X2_slotOf 6 rfl) rfl rfl ?_
    refine g_getR 6 (t := 50) (dk D_X2_slotOf 7 rfl) kd_44 rfl rfl (by decide) w_306 rfl rfl rfl ?_
    refine g_iload_n 2 (dk D_X2_slotOf 8 rfl) rfl rfl ?_
    refine g_callSN (As := [.ref (50), .int (v2)]) (kc := 0) (fr := 0) (lo := 0) (mc := 0) (My := M_X8_at) (dk D_X2_slotOf 9 rfl) w_619 w_518 w_101 w_519 okD_X8_at (by decide) (Nat.le_of_ble_eq_true rfl) rfl (c_X8_at 50 60 (v2) (kd_50) (h) _ hw) kxN (kIp (fun z1 hw => ?_))
    refine g_iload_n 1 (dk D_X2_slotOf 10 rfl) rfl rfl ?_
    refine g_icmp_ne (dk D_X2_slotOf 11 rfl) rfl (wif_m hw (fun hw => ?_) (fun hw => ?_))
    · refine g_iinc 2 (dk D_X2_slotOf 25 rfl) rfl (congrArg (fun z => _ + z) ki_1) (by decide) rfl ?_
      refine g_goto (dk D_X2_slotOf 26 rfl) rfl ?_
      refine g_sub [1, 2, 0] rfl ?_
      exact hK2 ((v2 + (1 : Int32))) hw
    · refine g_iload_n 2 (dk D_X2_slotOf 12 rfl) rfl rfl ?_
      refine g_aload_n 0 (dk D_X2_slotOf 13 rfl) rfl rfl ?_
      refine g_getI 15 (dk D_X2_slotOf 14 rfl) kd_44 rfl rfl (by decide) w_316 rfl rfl ?_
      have hj : G X M_X2_slotOf E_X2_slotOf (QM X E_X2_slotOf (QIp h Q) Qn) 0 43 [(0, .ref (44)), (1, .int (p1)), (2, .int (v2))] [.int ((if (h 44 15) ≤ v2 then (((100 : Int32) + v2) - (h 44 15)) else v2))] (h) := by
        exact g_iret (dk D_X2_slotOf 24 rfl) rfl ⟨_, rfl, rfl, hw⟩
      refine g_icmp_ge (dk D_X2_slotOf 15 rfl) rfl ?_
      by_cases c3 : (h 44 15) ≤ v2
      · rw [if_pos c3] at hj
        refine wif_p c3 ?_
        refine g_bipush (dk D_X2_slotOf 18 rfl) kb_100 ?_
        refine g_iload_n 2 (dk D_X2_slotOf 19 rfl) rfl rfl ?_
        refine g_iadd (dk D_X2_slotOf 20 rfl) ?_
        refine g_aload_n 0 (dk D_X2_slotOf 21 rfl) rfl rfl ?_
        refine g_getI 15 (dk D_X2_slotOf 22 rfl) kd_44 rfl rfl (by decide) w_316 rfl rfl ?_
        refine g_isub (dk D_X2_slotOf 23 rfl) ?_
        exact hj
      · rw [if_neg c3] at hj
        refine wif_n c3 ?_
        refine g_iload_n 2 (dk D_X2_slotOf 16 rfl) rfl rfl ?_
        refine g_goto (dk D_X2_slotOf 17 rfl) rfl ?_
        exact hj
theorem t_X2_slotOf_b2 {X : Cx} (p1 : Int32) (h : Hp) (Q : Int32 → Prop) (s : Int32) (hw : w_X2_slotOf_b2 p1 h Q s) : G X M_X2_slotOf E_X2_slotOf (QM X E_X2_slotOf (QIp h Q) Qn) 0 2 [(0, .ref (44)), (1, .int (p1)), (2, .int (s))] [] (h) :=
  wl_ind (B := fun K s => w_X2_slotOf_l2 p1 h Q K (s)) (P := fun s => G X M_X2_slotOf E_X2_slotOf (QM X E_X2_slotOf (QIp h Q) Qn) 0 2 [(0, .ref (44)), (1, .int (p1)), (2, .int (s))] [] (h)) (fun K hK s hw => t_X2_slotOf_l2 p1 h Q K (s) hK hw) s hw
theorem t_X2_slotOf {X : Cx} (p1 : Int32) (h : Hp) (Q : Int32 → Prop) (hw : w_X2_slotOf p1 h Q) : G X M_X2_slotOf E_X2_slotOf (QM X E_X2_slotOf (QIp h Q) Qn) 0 0 [(0, .ref (44)), (1, .int (p1))] [] h := by
  unfold w_X2_slotOf at hw
  refine g_iconst (dk D_X2_slotOf 0 rfl) ki_0 ?_
  refine g_istore_n (dk D_X2_slotOf 1 rfl) rfl (by decide) rfl ?_
  refine g_sub [1, 2, 0] rfl ?_
  exact t_X2_slotOf_b2 p1 (h) Q ((0 : Int32)) hw
theorem c_X2_slotOf {X : Cx} (p1 : Int32) (h : Hp) (Q : Int32 → Prop) (hw : w_X2_slotOf p1 h Q) : Con X yX2_slotOf M_X2_slotOf 1 29 0 [.ref (44), .int (p1)] h (QIp h Q) Qn :=
  con_of (by decide +kernel) rfl (Nat.le_of_ble_eq_true rfl) (t_X2_slotOf p1 h Q hw)
/-! ShadowTolls$Records.clear()V -/
abbrev M_X3_clear : Mi := (RX3, cX3_clear, 1, none)
abbrev E_X3_clear : Rm := (1, 30, 0, 0)
def rows_X3_clear : List (Nat × Instr × Nat) := [(0, .aload_n 0, 1), (1, .getfield 9, 3), (4, .iconst 0, 1), (5, .invokestatic 33, 3), (8, .aload_n 0, 1), (9, .getfield 21, 3), (12, .iconst (-1), 1), (13, .invokestatic 33, 3), (16, .aload_n 0, 1), (17, .iconst 0, 1), (18, .putfield 37, 3), (21, .aload_n 0, 1), (22, .iconst 0, 1), (23, .putfield 41, 3), (26, .return_, 1)]
theorem D_X3_clear : dkA cX3_clear rows_X3_clear := by
  unfold dkA
  decide +kernel
theorem okD_X3_clear : okD yX3_clear 0 := by
  unfold okD
  decide +kernel
def w_X3_clear (this : Nat) (h : Hp) (Q : Hp → Prop) : Prop :=
  w_X8_fillRow (tg this 0) 2 ((0 : Int32)) h (fun h1 => w_X8_fillRow (tg this 3) 30 ((-1 : Int32)) h1 (fun h2 => wlet (hup h2 this 6 (0 : Int32)) (fun h3 => wlet (hup h3 this 7 (0 : Int32)) (fun h4 => Q h4))))
theorem t_X3_clear {X : Cx} (this : Nat) (h : Hp) (Q : Hp → Prop) (hthis : RecP this) (hw : w_X3_clear this h Q) : G X M_X3_clear E_X3_clear (QM X E_X3_clear (QV Q) Qn) 0 0 [(0, .ref (this))] [] h := by
  unfold w_X3_clear at hw
  refine g_aload_n 0 (dk D_X3_clear 0 rfl) rfl rfl ?_
  refine g_getR 0 (t := (tg this 0)) (dk D_X3_clear 1 rfl) hthis.1 rfl rfl (by decide) w_401 rfl rfl rfl ?_
  refine g_iconst (dk D_X3_clear 2 rfl) ki_0 ?_
  refine g_callSN (As := [.ref ((tg this 0)), .int ((0 : Int32))]) (kc := 0) (fr := 0) (lo := 0) (mc := 0) (My := M_X8_fillRow) (dk D_X3_clear 3 rfl) w_400 w_172 w_101 w_173 okD_X8_fillRow (by decide) (Nat.le_of_ble_eq_true rfl) rfl (c_X8_fillRow (tg this 0) 2 ((0 : Int32)) (hthis.2.1) (h) _ hw) kxN (kV (fun h1 hw => ?_))
  refine g_aload_n 0 (dk D_X3_clear 4 rfl) rfl rfl ?_
  refine g_getR 3 (t := (tg this 3)) (dk D_X3_clear 5 rfl) hthis.1 rfl rfl (by decide) w_406 rfl rfl rfl ?_
  refine g_iconst (dk D_X3_clear 6 rfl) ki_m1 ?_
  refine g_callSN (As := [.ref ((tg this 3)), .int ((-1 : Int32))]) (kc := 0) (fr := 0) (lo := 0) (mc := 0) (My := M_X8_fillRow) (dk D_X3_clear 7 rfl) w_400 w_172 w_101 w_173 okD_X8_fillRow (by decide) (Nat.le_of_ble_eq_true rfl) rfl (c_X8_fillRow (tg this 3) 30 ((-1 : Int32)) (hthis.2.2.2.2.1) (h1) _ hw) kxN (kV (fun h2 hw => ?_))
  refine g_aload_n 0 (dk D_X3_clear 8 rfl) rfl rfl ?_
  refine g_iconst (dk D_X3_clear 9 rfl) ki_0 ?_
  refine g_put 6 (dk D_X3_clear 10 rfl) hthis.1 rfl rfl (by decide) w_412 rfl tyX3_ok nmX3 rfl (by decide) rfl (fun z => absurd z (by decide)) ?_
  refine g_heap (fun h3 eh3 => ?_)
  replace hw := hw _ eh3
  refine g_aload_n 0 (dk D_X3_clear 11 rfl) rfl rfl ?_
  refine g_iconst (dk D_X3_clear 12 rfl) ki_0 ?_
  refine g_put 7 (dk D_X3_clear 13 rfl) hthis.1 rfl rfl (by decide) w_414 rfl tyX3_ok nmX3 rfl (by decide) rfl (fun z => absurd z (by decide)) ?_
  refine g_heap (fun h4 eh4 => ?_)
  replace hw := hw _ eh4
  exact g_vret (dk D_X3_clear 14 rfl) rfl ⟨rfl, hw⟩
theorem c_X3_clear {X : Cx} (this : Nat) (hthis : RecP this) (h : Hp) (Q : Hp → Prop) (hw : w_X3_clear this h Q) : Con X yX3_clear M_X3_clear 1 30 0 [.ref (this)] h (QV Q) Qn :=
  con_of (by decide +kernel) rfl (Nat.le_of_ble_eq_true rfl) (t_X3_clear this h Q hthis hw)
/-! ShadowTolls$Records.copy(LShadowTolls$Records;)V -/
abbrev M_X3_copy : Mi := (RX3, cX3_copy, 2, none)
abbrev E_X3_copy : Rm := (1, 30, 0, 0)
def rows_X3_copy : List (Nat × Instr × Nat) := [(0, .aload_n 1, 1), (1, .getfield 9, 3), (4, .aload_n 0, 1), (5, .getfield 9, 3), (8, .invokestatic 44, 3), (11, .aload_n 1, 1), (12, .getfield 15, 3), (15, .aload_n 0, 1), (16, .getfield 15, 3), (19, .invokestatic 44, 3), (22, .aload_n 1, 1), (23, .getfield 18, 3), (26, .aload_n 0, 1), (27, .getfield 18, 3), (30, .invokestatic 44, 3), (33, .aload_n 1, 1), (34, .getfield 21, 3), (37, .aload_n 0, 1), (38, .getfield 21, 3), (41, .invokestatic 44, 3), (44, .aload_n 1, 1), (45, .getfield 24, 3), (48, .aload_n 0, 1), (49, .getfield 24, 3), (52, .invokestatic 44, 3), (55, .aload_n 1, 1), (56, .getfield 27, 3), (59, .aload_n 0, 1), (60, .getfield 27, 3), (63, .invokestatic 44, 3), (66, .aload_n 0, 1), (67, .aload_n 1, 1), (68, .getfield 37, 3), (71, .putfield 37, 3), (74, .aload_n 0, 1), (75, .aload_n 1, 1), (76, .getfield 41, 3), (79, .putfield 41, 3), (82, .return_, 1)]
theorem D_X3_copy : dkA cX3_copy rows_X3_copy := by
  unfold dkA
  decide +kernel
theorem okD_X3_copy : okD yX3_copy 1 := by
  unfold okD
  decide +kernel
def w_X3_copy (this : Nat) (r1 : Nat) (h : Hp) (Q : Hp → Prop) : Prop :=
  w_X8_copyRow (tg r1 0) 2 (tg this 0) 2 h (fun h1 => w_X8_copyRow (tg r1 1) 60 (tg this 1) 60 h1 (fun h2 => w_X8_copyRow (tg r1 2) 60 (tg this 2) 60 h2 (fun h3 => w_X8_copyRow (tg r1 3) 30 (tg this 3) 30 h3 (fun h4 => w_X8_copyRow (tg r1 4) 10 (tg this 4) 10 h4 (fun h5 => w_X8_copyRow (tg r1 5) 10 (tg this 5) 10 h5 (fun h6 => wlet (hup h6 this 6 (h6 r1 6)) (fun h7 => wlet (hup h7 this 7 (h7 r1 7)) (fun h8 => Q h8))))))))
theorem t_X3_copy {X : Cx} (this : Nat) (r1 : Nat) (h : Hp) (Q : Hp → Prop) (hthis : RecP this) (hr1 : RecP r1) (hw : w_X3_copy this r1 h Q) : G X M_X3_copy E_X3_copy (QM X E_X3_copy (QV Q) Qn) 0 0 [(0, .ref (this)), (1, .ref (r1))] [] h := by
  unfold w_X3_copy at hw
  refine g_aload_n 1 (dk D_X3_copy 0 rfl) rfl rfl ?_
  refine g_getR 0 (t := (tg r1 0)) (dk D_X3_copy 1 rfl) hr1.1 rfl rfl (by decide) w_401 rfl rfl rfl ?_
  refine g_aload_n 0 (dk D_X3_copy 2 rfl) rfl rfl ?_
  refine g_getR 0 (t := (tg this 0)) (dk D_X3_copy 3 rfl) hthis.1 rfl rfl (by decide) w_401 rfl rfl rfl ?_
  refine g_callSN (As := [.ref ((tg r1 0)), .ref ((tg this 0))]) (kc := 0) (fr := 0) (lo := 0) (mc := 0) (My := M_X8_copyRow) (dk D_X3_copy 4 rfl) w_679 w_680 w_101 w_681 okD_X8_copyRow (by decide) (Nat.le_of_ble_eq_true rfl) rfl (c_X8_copyRow (tg r1 0) 2 (tg this 0) 2 (hr1.2.1) (hthis.2.1) (h) _ hw) kxN (kV (fun h1 hw => ?_))
  refine g_aload_n 1 (dk D_X3_copy 5 rfl) rfl rfl ?_
  refine g_getR 1 (t := (tg r1 1)) (dk D_X3_copy 6 rfl) hr1.1 rfl rfl (by decide) w_403 rfl rfl rfl ?_
  refine g_aload_n 0 (dk D_X3_copy 7 rfl) rfl rfl ?_
  refine g_getR 1 (t := (tg this 1)) (dk D_X3_copy 8 rfl) hthis.1 rfl rfl (by decide) w_403 rfl rfl rfl ?_
  refine g_callSN (As := [.ref ((tg r1 1)), .ref ((tg this 1))]) (kc := 0) (fr := 0) (lo := 0) (mc := 0) (My := M_X8_copyRow) (dk D_X3_copy 9 rfl) w_679 w_680 w_101 w_681 okD_X8_copyRow (by decide) (Nat.le_of_ble_eq_true rfl) rfl (c_X8_copyRow (tg r1 1) 60 (tg this 1) 60 (hr1.2.2.1) (hthis.2.2.1) (h1) _ hw) kxN (kV (fun h2 hw => ?_))
  refine g_aload_n 1 (dk D_X3_copy 10 rfl) rfl rfl ?_
  refine g_getR 2 (t := (tg r1 2)) (dk D_X3_copy 11 rfl) hr1.1 rfl rfl (by decide) w_404 rfl rfl rfl ?_
  refine g_aload_n 0 (dk D_X3_copy 12 rfl) rfl rfl ?_
  refine g_getR 2 (t := (tg this 2)) (dk D_X3_copy 13 rfl) hthis.1 rfl rfl (by decide) w_404 rfl rfl rfl ?_
  refine g_callSN (As := [.ref ((tg r1 2)), .ref ((tg this 2))]) (kc := 0) (fr := 0) (lo := 0) (mc := 0) (My := M_X8_copyRow) (dk D_X3_copy 14 rfl) w_679 w_680 w_101 w_681 okD_X8_copyRow (by decide) (Nat.le_of_ble_eq_true rfl) rfl (c_X8_copyRow (tg r1 2) 60 (tg this 2) 60 (hr1.2.2.2.1) (hthis.2.2.2.1) (h2) _ hw) kxN (kV (fun h3 hw => ?_))
  refine g_aload_n 1 (dk D_X3_copy 15 rfl) rfl rfl ?_
  refine g_getR 3 (t := (tg r1 3)) (dk D_X3_copy 16 rfl) hr1.1 rfl rfl (by decide) w_406 rfl rfl rfl ?_
  refine g_aload_n 0 (dk D_X3_copy 17 rfl) rfl rfl ?_
  refine g_getR 3 (t := (tg this 3)) (dk D_X3_copy 18 rfl) hthis.1 rfl rfl (by decide) w_406 rfl rfl rfl ?_
  refine g_callSN (As := [.ref ((tg r1 3)), .ref ((tg this 3))]) (kc := 0) (fr := 0) (lo := 0) (mc := 0) (My := M_X8_copyRow) (dk D_X3_copy 19 rfl) w_679 w_680 w_101 w_681 okD_X8_copyRow (by decide) (Nat.le_of_ble_eq_true rfl) rfl (c_X8_copyRow (tg r1 3) 30 (tg this 3) 30 (hr1.2.2.2.2.1) (hthis.2.2.2.2.1) (h3) _ hw) kxN (kV (fun h4 hw => ?_))
  refine g_aload_n 1 (dk D_X3_copy 20 rfl) rfl rfl ?_
  refine g_getR 4 (t := (tg r1 4)) (dk D_X3_copy 21 rfl) hr1.1 rfl rfl (by decide) w_408 rfl rfl rfl ?_
  refine g_aload_n 0 (dk D_X3_copy 22 rfl) rfl rfl ?_
  refine g_getR 4 (t := (tg this 4)) (dk D_X3_copy 23 rfl) hthis.1 rfl rfl (by decide) w_408 rfl rfl rfl ?_
  refine g_callSN (As := [.ref ((tg r1 4)), .ref ((tg this 4))]) (kc := 0) (fr := 0) (lo := 0) (mc := 0) (My := M_X8_copyRow) (dk D_X3_copy 24 rfl) w_679 w_680 w_101 w_681 okD_X8_copyRow (by decide) (Nat.le_of_ble_eq_true rfl) rfl (c_X8_copyRow (tg r1 4) 10 (tg this 4) 10 (hr1.2.2.2.2.2.1) (hthis.2.2.2.2.2.1) (h4) _ hw) kxN (kV (fun h5 hw => ?_))
  refine g_aload_n 1 (dk D_X3_copy 25 rfl) rfl rfl ?_
  refine g_getR 5 (t := (tg r1 5)) (dk D_X3_copy 26 rfl) hr1.1 rfl rfl (by decide) w_410 rfl rfl rfl ?_
  refine g_aload_n 0 (dk D_X3_copy 27 rfl) rfl rfl ?_
  refine g_getR 5 (t := (tg this 5)) (dk D_X3_copy 28 rfl) hthis.1 rfl rfl (by decide) w_410 rfl rfl rfl ?_
  refine g_callSN (As := [.ref ((tg r1 5)), .ref ((tg this 5))]) (kc := 0) (fr := 0) (lo := 0) (mc := 0) (My := M_X8_copyRow) (dk D_X3_copy 29 rfl) w_679 w_680 w_101 w_681 okD_X8_copyRow (by decide) (Nat.le_of_ble_eq_true rfl) rfl (c_X8_copyRow (tg r1 5) 10 (tg this 5) 10 (hr1.2.2.2.2.2.2) (hthis.2.2.2.2.2.2) (h5) _ hw) kxN (kV (fun h6 hw => ?_))
  refine g_aload_n 0 (dk D_X3_copy 30 rfl) rfl rfl ?_
  refine g_aload_n 1 (dk D_X3_copy 31 rfl) rfl rfl ?_
  refine g_getI 6 (dk D_X3_copy 32 rfl) hr1.1 rfl rfl (by decide) w_412 rfl rfl ?_
  refine g_put 6 (dk D_X3_copy 33 rfl) hthis.1 rfl rfl (by decide) w_412 rfl tyX3_ok nmX3 rfl (by decide) rfl (fun z => absurd z (by decide)) ?_
  refine g_heap (fun h7 eh7 => ?_)
  replace hw := hw _ eh7
  refine g_aload_n 0 (dk D_X3_copy 34 rfl) rfl rfl ?_
  refine g_aload_n 1 (dk D_X3_copy 35 rfl) rfl rfl ?_
  refine g_getI 7 (dk D_X3_copy 36 rfl) hr1.1 rfl rfl (by decide) w_414 rfl rfl ?_
  refine g_put 7 (dk D_X3_copy 37 rfl) hthis.1 rfl rfl (by decide) w_414 rfl tyX3_ok nmX3 rfl (by decide) rfl (fun z => absurd z (by decide)) ?_
  refine g_heap (fun h8 eh8 => ?_)
  replace hw := hw _ eh8
  exact g_vret (dk D_X3_copy 38 rfl) rfl ⟨rfl, hw⟩
theorem c_X3_copy {X : Cx} (this : Nat) (r1 : Nat) (hthis : RecP this) (hr1 : RecP r1) (h : Hp) (Q : Hp → Prop) (hw : w_X3_copy this r1 h Q) : Con X yX3_copy M_X3_copy 1 30 0 [.ref (this), .ref (r1)] h (QV Q) Qn :=
  con_of (by decide +kernel) rfl (Nat.le_of_ble_eq_true rfl) (t_X3_copy this r1 h Q hthis hr1 hw)
/-! ShadowTolls$Records.addCrossing(II)V -/
abbrev M_X3_addCrossing : Mi := (RX3, cX3_addCrossing, 3, none)
abbrev E_X3_addCrossing : Rm := (1, 30, 0, 0)
def rows_X3_addCrossing : List (Nat × Instr × Nat) := [(0, .aload_n 0, 1), (1, .getfield 15, 3), (4, .aload_n 0, 1), (5, .getfield 37, 3), (8, .iload_n 1, 1), (9, .invokestatic 48, 3), (12, .aload_n 0, 1), (13, .getfield 18, 3), (16, .aload_n 0, 1), (17, .getfield 37, 3), (20, .iload_n 2, 1), (21, .invokestatic 48, 3), (24, .aload_n 0, 1), (25, .dup, 1), (26, .getfield 37, 3), (29, .iconst 1, 1), (30, .iadd, 1), (31, .putfield 37, 3), (34, .return_, 1)]
theorem D_X3_addCrossing : dkA cX3_addCrossing rows_X3_addCrossing := by
  unfold dkA
  decide +kernel
theorem okD_X3_addCrossing : okD yX3_addCrossing 2 := by
  unfold okD
  decide +kernel
def w_X3_addCrossing (this : Nat) (p1 : Int32) (p2 : Int32) (h : Hp) (Q : Hp → Prop) : Prop :=
  w_X8_put (tg this 1) 60 ((h this 6)) (p1) h (fun h1 => w_X8_put (tg this 2) 60 ((h1 this 6)) (p2) h1 (fun h2 => wlet (hup h2 this 6 ((h2 this 6) + (1 : Int32))) (fun h3 => Q h3)))
theorem t_X3_addCrossing {X : Cx} (this : Nat) (p1 : Int32) (p2 : Int32) (h : Hp) (Q : Hp → Prop) (hthis : RecP this) (hw : w_X3_addCrossing this p1 p2 h Q) : G X M_X3_addCrossing E_X3_addCrossing (QM X E_X3_addCrossing (QV Q) Qn) 0 0 [(0, .ref (this)), (1, .int (p1)), (2, .int (p2))] [] h := by
  unfold w_X3_addCrossing at hw
  refine g_aload_n 0 (dk D_X3_addCrossing 0 rfl) rfl rfl ?_
  refine g_getR 1 (t := (tg this 1)) (dk D_X3_addCrossing 1 rfl) hthis.1 rfl rfl (by decide) w_403 rfl rfl rfl ?_
  refine g_aload_n 0 (dk D_X3_addCrossing 2 rfl) rfl rfl ?_
  refine g_getI 6 (dk D_X3_addCrossing 3 rfl) hthis.1 rfl rfl (by decide) w_412 rfl rfl ?_
  refine g_iload_n 1 (dk D_X3_addCrossing 4 rfl) rfl rfl ?_
  refine g_callSN (As := [.ref ((tg this 1)), .int ((h this 6)), .int (p1)]) (kc := 0) (fr := 0) (lo := 0) (mc := 0) (My := M_X8_put) (dk D_X3_addCrossing 5 rfl) w_1210 w_496 w_101 w_497 okD_X8_put (by decide) (Nat.le_of_ble_eq_true rfl) rfl (c_X8_put (tg this 1) 60 ((h this 6)) (p1) (hthis.2.2.1) (h) _ hw) kxN (kV (fun h1 hw => ?_))
  refine g_aload_n 0 (dk D_X3_addCrossing 6 rfl) rfl rfl ?_
  refine g_getR 2 (t := (tg this 2)) (dk D_X3_addCrossing 7 rfl) hthis.1 rfl rfl (by decide) w_404 rfl rfl rfl ?_
  refine g_aload_n 0 (dk D_X3_addCrossing 8 rfl) rfl rfl ?_
  refine g_getI 6 (dk D_X3_addCrossing 9 rfl) hthis.1 rfl rfl (by decide) w_412 rfl rfl ?_
  refine g_iload_n 2 (dk D_X3_addCrossing 10 rfl) rfl rfl ?_
  refine g_callSN (As := [.ref ((tg this 2)), .int ((h1 this 6)), .int (p2)]) (kc := 0) (fr := 0) (lo := 0) (mc := 0) (My := M_X8_put) (dk D_X3_addCrossing 11 rfl) w_1210 w_496 w_101 w_497 okD_X8_put (by decide) (Nat.le_of_ble_eq_true rfl) rfl (c_X8_put (tg this 2) 60 ((h1 this 6)) (p2) (hthis.2.2.2.1) (h1) _ hw) kxN (kV (fun h2 hw => ?_))
  refine g_aload_n 0 (dk D_X3_addCrossing 12 rfl) rfl rfl ?_
  refine g_dup (dk D_X3_addCrossing 13 rfl) rfl ?_
  refine g_getI 6 (dk D_X3_addCrossing 14 rfl) hthis.1 rfl rfl (by decide) w_412 rfl rfl ?_
  refine g_iconst (dk D_X3_addCrossing 15 rfl) ki_1 ?_
  refine g_iadd (dk D_X3_addCrossing 16 rfl) ?_
  refine g_put 6 (dk D_X3_addCrossing 17 rfl) hthis.1 rfl rfl (by decide) w_412 rfl tyX3_ok nmX3 rfl (by decide) rfl (fun z => absurd z (by decide)) ?_
  refine g_heap (fun h3 eh3 => ?_)
  replace hw := hw _ eh3
  exact g_vret (dk D_X3_addCrossing 18 rfl) rfl ⟨rfl, hw⟩
theorem c_X3_addCrossing {X : Cx} (this : Nat) (p1 : Int32) (p2 : Int32) (hthis : RecP this) (h : Hp) (Q : Hp → Prop) (hw : w_X3_addCrossing this p1 p2 h Q) : Con X yX3_addCrossing M_X3_addCrossing 1 30 0 [.ref (this), .int (p1), .int (p2)] h (QV Q) Qn :=
  con_of (by decide +kernel) rfl (Nat.le_of_ble_eq_true rfl) (t_X3_addCrossing this p1 p2 h Q hthis hw)
/-! ShadowTolls$Records.addLedgerRow(II)V -/
abbrev M_X3_addLedgerRow : Mi := (RX3, cX3_addLedgerRow, 3, none)
abbrev E_X3_addLedgerRow : Rm := (1, 30, 0, 0)
def rows_X3_addLedgerRow : List (Nat × Instr × Nat) := [(0, .aload_n 0, 1), (1, .getfield 24, 3), (4, .aload_n 0, 1), (5, .getfield 41, 3), (8, .iload_n 1, 1), (9, .invokestatic 48, 3), (12, .aload_n 0, 1), (13, .getfield 27, 3), (16, .aload_n 0, 1), (17, .getfield 41, 3), (20, .iload_n 2, 1), (21, .invokestatic 48, 3), (24, .aload_n 0, 1), (25, .dup, 1), (26, .getfield 41, 3), (29, .iconst 1, 1), (30, .iadd, 1), (31, .putfield 41, 3), (34, .return_, 1)]
theorem D_X3_addLedgerRow : dkA cX3_addLedgerRow rows_X3_addLedgerRow := by
  unfold dkA
  decide +kernel
theorem okD_X3_addLedgerRow : okD yX3_addLedgerRow 2 := by
  unfold okD
  decide +kernel
def w_X3_addLedgerRow (this : Nat) (p1 : Int32) (p2 : Int32) (h : Hp) (Q : Hp → Prop) : Prop :=
  w_X8_put (tg this 4) 10 ((h this 7)) (p1) h (fun h1 => w_X8_put (tg this 5) 10 ((h1 this 7)) (p2) h1 (fun h2 => wlet (hup h2 this 7 ((h2 this 7) + (1 : Int32))) (fun h3 => Q h3)))
theorem t_X3_addLedgerRow {X : Cx} (this : Nat) (p1 : Int32) (p2 : Int32) (h : Hp) (Q : Hp → Prop) (hthis : RecP this) (hw : w_X3_addLedgerRow this p1 p2 h Q) : G X M_X3_addLedgerRow E_X3_addLedgerRow (QM X E_X3_addLedgerRow (QV Q) Qn) 0 0 [(0, .ref (this)), (1, .int (p1)), (2, .int (p2))] [] h := by
  unfold w_X3_addLedgerRow at hw
  refine g_aload_n 0 (dk D_X3_addLedgerRow 0 rfl) rfl rfl ?_
  refine g_getR 4 (t := (tg this 4)) (dk D_X3_addLedgerRow 1 rfl) hthis.1 rfl rfl (by decide) w_408 rfl rfl rfl ?_
  refine g_aload_n 0 (dk D_X3_addLedgerRow 2 rfl) rfl rfl ?_
  refine g_getI 7 (dk D_X3_addLedgerRow 3 rfl) hthis.1 rfl rfl (by decide) w_414 rfl rfl ?_
  refine g_iload_n 1 (dk D_X3_addLedgerRow 4 rfl) rfl rfl ?_
  refine g_callSN (As := [.ref ((tg this 4)), .int ((h this 7)), .int (p1)]) (kc := 0) (fr := 0) (lo := 0) (mc := 0) (My := M_X8_put) (dk D_X3_addLedgerRow 5 rfl) w_1210 w_496 w_101 w_497 okD_X8_put (by decide) (Nat.le_of_ble_eq_true rfl) rfl (c_X8_put (tg this 4) 10 ((h this 7)) (p1) (hthis.2.2.2.2.2.1) (h) _ hw) kxN (kV (fun h1 hw => ?_))
  refine g_aload_n 0 (dk D_X3_addLedgerRow 6 rfl) rfl rfl ?_
  refine g_getR 5 (t := (tg this 5)) (dk D_X3_addLedgerRow 7 rfl) hthis.1 rfl rfl (by decide) w_410 rfl rfl rfl ?_
  refine g_aload_n 0 (dk D_X3_addLedgerRow 8 rfl) rfl rfl ?_
  refine g_getI 7 (dk D_X3_addLedgerRow 9 rfl) hthis.1 rfl rfl (by decide) w_414 rfl rfl ?_
  refine g_iload_n 2 (dk D_X3_addLedgerRow 10 rfl) rfl rfl ?_
  refine g_callSN (As := [.ref ((tg this 5)), .int ((h1 this 7)), .int (p2)]) (kc := 0) (fr := 0) (lo := 0) (mc := 0) (My := M_X8_put) (dk D_X3_addLedgerRow 11 rfl) w_1210 w_496 w_101 w_497 okD_X8_put (by decide) (Nat.le_of_ble_eq_true rfl) rfl (c_X8_put (tg this 5) 10 ((h1 this 7)) (p2) (hthis.2.2.2.2.2.2) (h1) _ hw) kxN (kV (fun h2 hw => ?_))
  refine g_aload_n 0 (dk D_X3_addLedgerRow 12 rfl) rfl rfl ?_
  refine g_dup (dk D_X3_addLedgerRow 13 rfl) rfl ?_
  refine g_getI 7 (dk D_X3_addLedgerRow 14 rfl) hthis.1 rfl rfl (by decide) w_414 rfl rfl ?_
  refine g_iconst (dk D_X3_addLedgerRow 15 rfl) ki_1 ?_
  refine g_iadd (dk D_X3_addLedgerRow 16 rfl) ?_
  refine g_put 7 (dk D_X3_addLedgerRow 17 rfl) hthis.1 rfl rfl (by decide) w_414 rfl tyX3_ok nmX3 rfl (by decide) rfl (fun z => absurd z (by decide)) ?_
  refine g_heap (fun h3 eh3 => ?_)
  replace hw := hw _ eh3
  exact g_vret (dk D_X3_addLedgerRow 18 rfl) rfl ⟨rfl, hw⟩
theorem c_X3_addLedgerRow {X : Cx} (this : Nat) (p1 : Int32) (p2 : Int32) (hthis : RecP this) (h : Hp) (Q : Hp → Prop) (hw : w_X3_addLedgerRow this p1 p2 h Q) : Con X yX3_addLedgerRow M_X3_addLedgerRow 1 30 0 [.ref (this), .int (p1), .int (p2)] h (QV Q) Qn :=
  con_of (by decide +kernel) rfl (Nat.le_of_ble_eq_true rfl) (t_X3_addLedgerRow this p1 p2 h Q hthis hw)
/-! ShadowTolls$Records.sum(I)I -/
abbrev M_X3_sum : Mi := (RX3, cX3_sum, 4, (some .int))
abbrev E_X3_sum : Rm := (1, 29, 0, 0)
def rows_X3_sum : List (Nat × Instr × Nat) := [(0, .iconst 0, 1), (1, .istore_n 2, 1), (2, .iconst 0, 1), (3, .istore_n 3, 1), (4, .iload_n 3, 1), (5, .aload_n 0, 1), (6, .getfield 37, 3), (9, .if_icmp .ge 37, 3), (12, .iload_n 1, 1), (13, .iconst (-1), 1), (14, .if_icmp .eq 15, 3), (17, .aload_n 0, 1), (18, .getfield 15, 3), (21, .iload_n 3, 1), (22, .invokestatic 52, 3), (25, .iload_n 1, 1), (26, .if_icmp .ne 14, 3), (29, .iload_n 2, 1), (30, .aload_n 0, 1), (31, .getfield 18, 3), (34, .iload_n 3, 1), (35, .invokestatic 52, 3), (38, .iadd, 1), (39, .istore_n 2, 1), (40, .iinc 3 1, 3), (43, .goto (-39), 3), (46, .iload_n 2, 1), (47, .ireturn, 1)]
theorem D_X3_sum : dkA cX3_sum rows_X3_sum := by
  unfold dkA
  decide +kernel
theorem okD_X3_sum : okD yX3_sum 1 := by
  unfold okD
  decide +kernel
def w_X3_sum_b40 (this : Nat) (p1 : Int32) (v2 : Int32) (v3 : Int32) (K4 : Int32 × Int32 → Prop) (h : Hp) (Q : Int32 → Prop) : Prop :=
  K4 (v2, (v3 + (1 : Int32)))
def w_X3_sum_b29 (this : Nat) (p1 : Int32) (v2 : Int32) (v3 : Int32) (K4 : Int32 × Int32 → Prop) (h : Hp) (Q : Int32 → Prop) : Prop :=
  w_X8_at (tg this 2) 60 (v3) h (fun z1 => wlet ((v2 + z1)) (fun v2_2 => w_X3_sum_b40 this p1 (v2_2) (v3) K4 (h) Q))
def w_X3_sum_l4 (this : Nat) (p1 : Int32) (h : Hp) (Q : Int32 → Prop) (K4 : Int32 × Int32 → Prop) (v2 : Int32) (v3 : Int32) : Prop :=
  wif ((h this 6) ≤ v3) (Q v2) (wif (p1 = (-1 : Int32)) (w_X3_sum_b29 this p1 (v2) (v3) K4 (h) Q) (w_X8_at (tg this 1) 60 (v3) h (fun z1 => wif (¬ z1 = p1) (w_X3_sum_b40 this p1 (v2) (v3) K4 (h) Q) (w_X3_sum_b29 this p1 (v2) (v3) K4 (h) Q))))
def w_X3_sum_b4 (this : Nat) (p1 : Int32) (h : Hp) (Q : Int32 → Prop) (s : Int32 × Int32) : Prop := wl (fun K s => w_X3_sum_l4 this p1 h Q K s.1 s.2) s
def w_X3_sum (this : Nat) (p1 : Int32) (h : Hp) (Q : Int32 → Prop) : Prop :=
  w_X3_sum_b4 this p1 (h) Q ((0 : Int32), (0 : Int32))
theorem t_X3_sum_b40 {X : Cx} (this : Nat) (p1 : Int32) (v2 : Int32) (v3 : Int32) (K4 : Int32 × Int32 → Prop) (h : Hp) (Q : Int32 → Prop) (hthis : RecP this) (hK4 : ∀ s : Int32 × Int32, K4 s → G X M_X3_sum E_X3_sum (QM X E_X3_sum (QIp h Q) Qn) 0 4 [(0, .ref (this)), (1, .int (p1)), (2, .int (s.1)), (3, .int (s.2))] [] (h)) (hw : w_X3_sum_b40 this p1 v2 v3 K4 h Q) : G X M_X3_sum E_X3_sum (QM X E_X3_sum (QIp h Q) Qn) 0 40 [(0, .ref (this)), (1, .int (p1)), (2, .int (v2)), (3, .int (v3))] [] h := by
  unfold w_X3_sum_b40 at hw
  refine g_iinc 3 (dk D_X3_sum 24 rfl) rfl (congrArg (fun z => _ + z) ki_1) (by decide) rfl ?_
  refine g_goto (dk D_X3_sum 25 rfl) rfl ?_
  refine g_sub [1, 2, 3, 0] rfl ?_
  exact hK4 (v2, (v3 + (1 : Int32))) hw
theorem t_X3_sum_b29 {X : Cx} (this : Nat) (p1 : Int32) (v2 : Int32) (v3 : Int32) (K4 : Int32 × Int32 → Prop) (h : Hp) (Q : Int32 → Prop) (hthis : RecP this) (hK4 : ∀ s : Int32 × Int32, K4 s → G X M_X3_sum E_X3_sum (QM X E_X3_sum (QIp h Q) Qn) 0 4 [(0, .ref (this)), (1, .int (p1)), (2, .int (s.1)), (3, .int (s.2))] [] (h)) (hw : w_X3_sum_b29 this p1 v2 v3 K4 h Q) : G X M_X3_sum E_X3_sum (QM X E_X3_sum (QIp h Q) Qn) 0 29 [(0, .ref (this)), (1, .int (p1)), (2, .int (v2)), (3, .int (v3))] [] h := by
  unfold w_X3_sum_b29 at hw
  refine g_iload_n 2 (dk D_X3_sum 17 rfl) rfl rfl ?_
  refine g_aload_n 0 (dk D_X3_sum 18 rfl) rfl rfl ?_
  refine g_getR 2 (t := (tg this 2)) (dk D_X3_sum 19 rfl) hthis.1 rfl rfl (by decide) w_404 rfl rfl rfl ?_
  refine g_iload_n 3 (dk D_X3_sum 20 rfl) rfl rfl ?_
  refine g_callSN (As := [.ref ((tg this 2)), .int (v3)]) (kc := 0) (fr := 0) (lo := 0) (mc := 0) (My := M_X8_at) (dk D_X3_sum 21 rfl) w_694 w_518 w_101 w_519 okD_X8_at (by decide) (Nat.le_of_ble_eq_true rfl) rfl (c_X8_at (tg this 2) 60 (v3) (hthis.2.2.2.1) (h) _ hw) kxN (kIp (fun z1 hw => ?_))
  refine g_iadd (dk D_X3_sum 22 rfl) ?_
  refine g_topi (fun v2_2 ev2_2 => ?_)
  replace hw := hw _ ev2_2
  refine g_istore_n (dk D_X3_sum 23 rfl) rfl (by decide) rfl ?_
  refine g_sub [1, 2, 0, 3] rfl ?_
  exact t_X3_sum_b40 this p1 (v2_2) (v3) K4 (h) Q hthis hK4 hw
theorem t_X3_sum_l4 {X : Cx} (this : Nat) (p1 : Int32) (h : Hp) (Q : Int32 → Prop) (K4 : Int32 × Int32 → Prop) (v2 : Int32) (v3 : Int32) (hthis : RecP this) (hK4 : ∀ s : Int32 × Int32, K4 s → G X M_X3_sum E_X3_sum (QM X E_X3_sum (QIp h Q) Qn) 0 4 [(0, .ref (this)), (1, .int (p1)), (2, .int (s.1)), (3, .int (s.2))] [] (h)) (hw : w_X3_sum_l4 this p1 h Q K4 v2 v3) : G X M_X3_sum E_X3_sum (QM X E_X3_sum (QIp h Q) Qn) 0 4 [(0, .ref (this)), (1, .int (p1)), (2, .int (v2)), (3, .int (v3))] [] h := by
  unfold w_X3_sum_l4 at hw
  refine g_iload_n 3 (dk D_X3_sum 4 rfl) rfl rfl ?_
  refine g_aload_n 0 (dk D_X3_sum 5 rfl) rfl rfl ?_
  refine g_getI 6 (dk D_X3_sum 6 rfl) hthis.1 rfl rfl (by decide) w_412 rfl rfl ?_
  refine g_icmp_ge (dk D_X3_sum 7 rfl) rfl (wif_m hw (fun hw => ?_) (fun hw => ?_))
  · refine g_iload_n 2 (dk D_X3_sum 26 rfl) rfl rfl ?_
    exact g_iret (dk D_X3_sum 27 rfl) rfl ⟨_, rfl, rfl, hw⟩
  · refine g_iload_n 1 (dk D_X3_sum 8 rfl) rfl rfl ?_
    refine g_iconst (dk D_X3_sum 9 rfl) ki_m1 ?_
    refine g_icmp_eq (dk D_X3_sum 10 rfl) rfl (wif_m hw (fun hw => ?_) (fun hw => ?_))
    · exact t_X3_sum_b29 this p1 (v2) (v3) K4 (h) Q hthis hK4 hw
    · refine g_aload_n 0 (dk D_X3_sum 11 rfl) rfl rfl ?_
      refine g_getR 1 (t := (tg this 1)) (dk D_X3_sum 12 rfl) hthis.1 rfl rfl (by decide) w_403 rfl rfl rfl ?_
      refine g_iload_n 3 (dk D_X3_sum 13 rfl) rfl rfl ?_
      refine g_callSN (As := [.ref ((tg this 1)), .int (v3)]) (kc := 0) (fr := 0) (lo := 0) (mc := 0) (My := M_X8_at) (dk D_X3_sum 14 rfl) w_694 w_518 w_101 w_519 okD_X8_at (by decide) (Nat.le_of_ble_eq_true rfl) rfl (c_X8_at (tg this 1) 60 (v3) (hthis.2.2.1) (h) _ hw) kxN (kIp (fun z1 hw => ?_))
      refine g_iload_n 1 (dk D_X3_sum 15 rfl) rfl rfl ?_
      refine g_icmp_ne (dk D_X3_sum 16 rfl) rfl (wif_m hw (fun hw => ?_) (fun hw => ?_))
      · exact t_X3_sum_b40 this p1 (v2) (v3) K4 (h) Q hthis hK4 hw
      · exact t_X3_sum_b29 this p1 (v2) (v3) K4 (h) Q hthis hK4 hw
theorem t_X3_sum_b4 {X : Cx} (this : Nat) (p1 : Int32) (h : Hp) (Q : Int32 → Prop) (s : Int32 × Int32) (hthis : RecP this) (hw : w_X3_sum_b4 this p1 h Q s) : G X M_X3_sum E_X3_sum (QM X E_X3_sum (QIp h Q) Qn) 0 4 [(0, .ref (this)), (1, .int (p1)), (2, .int (s.1)), (3, .int (s.2))] [] (h) :=
  wl_ind (B := fun K s => w_X3_sum_l4 this p1 h Q K (s.1) (s.2)) (P := fun s => G X M_X3_sum E_X3_sum (QM X E_X3_sum (QIp h Q) Qn) 0 4 [(0, .ref (this)), (1, .int (p1)), (2, .int (s.1)), (3, .int (s.2))] [] (h)) (fun K hK s hw => t_X3_sum_l4 this p1 h Q K (s.1) (s.2) hthis hK hw) s hw
theorem t_X3_sum {X : Cx} (this : Nat) (p1 : Int32) (h : Hp) (Q : Int32 → Prop) (hthis : RecP this) (hw : w_X3_sum this p1 h Q) : G X M_X3_sum E_X3_sum (QM X E_X3_sum (QIp h Q) Qn) 0 0 [(0, .ref (this)), (1, .int (p1))] [] h := by
  unfold w_X3_sum at hw
  refine g_iconst (dk D_X3_sum 0 rfl) ki_0 ?_
  refine g_istore_n (dk D_X3_sum 1 rfl) rfl (by decide) rfl ?_
  refine g_iconst (dk D_X3_sum 2 rfl) ki_0 ?_
  refine g_istore_n (dk D_X3_sum 3 rfl) rfl (by decide) rfl ?_
  refine g_sub [2, 3, 1, 0] rfl ?_
  exact t_X3_sum_b4 this p1 (h) Q ((0 : Int32), (0 : Int32)) hthis hw
theorem c_X3_sum {X : Cx} (this : Nat) (p1 : Int32) (hthis : RecP this) (h : Hp) (Q : Int32 → Prop) (hw : w_X3_sum this p1 h Q) : Con X yX3_sum M_X3_sum 1 29 0 [.ref (this), .int (p1)] h (QIp h Q) Qn :=
  con_of (by decide +kernel) rfl (Nat.le_of_ble_eq_true rfl) (t_X3_sum this p1 h Q hthis hw)
/-! ShadowTolls$Records.daysWritten()I -/
abbrev M_X3_daysWritten : Mi := (RX3, cX3_daysWritten, 3, (some .int))
abbrev E_X3_daysWritten : Rm := (1, 29, 0, 0)
def rows_X3_daysWritten : List (Nat × Instr × Nat) := [(0, .iconst 0, 1), (1, .istore_n 1, 1), (2, .iconst 0, 1), (3, .istore_n 2, 1), (4, .iload_n 2, 1), (5, .bipush 30, 2), (7, .if_icmp .ge 24, 3), (10, .aload_n 0, 1), (11, .getfield 21, 3), (14, .iload_n 2, 1), (15, .invokestatic 52, 3), (18, .iconst (-1), 1), (19, .if_icmp .eq 6, 3), (22, .iinc 1 1, 3), (25, .iinc 2 1, 3), (28, .goto (-24), 3), (31, .iload_n 1, 1), (32, .ireturn, 1)]
theorem D_X3_daysWritten : dkA cX3_daysWritten rows_X3_daysWritten := by
  unfold dkA
  decide +kernel
theorem okD_X3_daysWritten : okD yX3_daysWritten 0 := by
  unfold okD
  decide +kernel
def w_X3_daysWritten_b25 (this : Nat) (v1 : Int32) (v2 : Int32) (K4 : Int32 × Int32 → Prop) (h : Hp) (Q : Int32 → Prop) : Prop :=
  K4 (v1, (v2 + (1 : Int32)))
def w_X3_daysWritten_l4 (this : Nat) (h : Hp) (Q : Int32 → Prop) (K4 : Int32 × Int32 → Prop) (v1 : Int32) (v2 : Int32) : Prop :=
  wif ((30 : Int32) ≤ v2) (Q v1) (w_X8_at (tg this 3) 30 (v2) h (fun z1 => wif (z1 = (-1 : Int32)) (w_X3_daysWritten_b25 this (v1) (v2) K4 (h) Q) (w_X3_daysWritten_b25 this ((v1 + (1 : Int32))) (v2) K4 (h) Q)))
def w_X3_daysWritten_b4 (this : Nat) (h : Hp) (Q : Int32 → Prop) (s : Int32 × Int32) : Prop := wl (fun K s => w_X3_daysWritten_l4 this h Q K s.1 s.2) s
def w_X3_daysWritten (this : Nat) (h : Hp) (Q : Int32 → Prop) : Prop :=
  w_X3_daysWritten_b4 this (h) Q ((0 : Int32), (0 : Int32))
theorem t_X3_daysWritten_b25 {X : Cx} (this : Nat) (v1 : Int32) (v2 : Int32) (K4 : Int32 × Int32 → Prop) (h : Hp) (Q : Int32 → Prop) (hthis : RecP this) (hK4 : ∀ s : Int32 × Int32, K4 s → G X M_X3_daysWritten E_X3_daysWritten (QM X E_X3_daysWritten (QIp h Q) Qn) 0 4 [(0, .ref (this)), (1, .int (s.1)), (2, .int (s.2))] [] (h)) (hw : w_X3_daysWritten_b25 this v1 v2 K4 h Q) : G X M_X3_daysWritten E_X3_daysWritten (QM X E_X3_daysWritten (QIp h Q) Qn) 0 25 [(0, .ref (this)), (1, .int (v1)), (2, .int (v2))] [] h := by
  unfold w_X3_daysWritten_b25 at hw
  refine g_iinc 2 (dk D_X3_daysWritten 14 rfl) rfl (congrArg (fun z => _ + z) ki_1) (by decide) rfl ?_
  refine g_goto (dk D_X3_daysWritten 15 rfl) rfl ?_
  refine g_sub [1, 2, 0] rfl ?_
  exact hK4 (v1, (v2 + (1 : Int32))) hw
theorem t_X3_daysWritten_l4 {X : Cx} (this : Nat) (h : Hp) (Q : Int32 → Prop) (K4 : Int32 × Int32 → Prop) (v1 : Int32) (v2 : Int32) (hthis : RecP this) (hK4 : ∀ s : Int32 × Int32, K4 s → G X M_X3_daysWritten E_X3_daysWritten (QM X E_X3_daysWritten (QIp h Q) Qn) 0 4 [(0, .ref (this)), (1, .int (s.1)), (2, .int (s.2))] [] (h)) (hw : w_X3_daysWritten_l4 this h Q K4 v1 v2) : G X M_X3_daysWritten E_X3_daysWritten (QM X E_X3_daysWritten (QIp h Q) Qn) 0 4 [(0, .ref (this)), (1, .int (v1)), (2, .int (v2))] [] h := by
  unfold w_X3_daysWritten_l4 at hw
  refine g_iload_n 2 (dk D_X3_daysWritten 4 rfl) rfl rfl ?_
  refine g_bipush (dk D_X3_daysWritten 5 rfl) kb_30 ?_
  refine g_icmp_ge (dk D_X3_daysWritten 6 rfl) rfl (wif_m hw (fun hw => ?_) (fun hw => ?_))
  · refine g_iload_n 1 (dk D_X3_daysWritten 16 rfl) rfl rfl ?_
    exact g_iret (dk D_X3_daysWritten 17 rfl) rfl ⟨_, rfl, rfl, hw⟩
  · refine g_aload_n 0 (dk D_X3_daysWritten 7 rfl) rfl rfl ?_
    refine g_getR 3 (t := (tg this 3)) (dk D_X3_daysWritten 8 rfl) hthis.1 rfl rfl (by decide) w_406 rfl rfl rfl ?_
    refine g_iload_n 2 (dk D_X3_daysWritten 9 rfl) rfl rfl ?_
    refine g_callSN (As := [.ref ((tg this 3)), .int (v2)]) (kc := 0) (fr := 0) (lo := 0) (mc := 0) (My := M_X8_at) (dk D_X3_daysWritten 10 rfl) w_694 w_518 w_101 w_519 okD_X8_at (by decide) (Nat.le_of_ble_eq_true rfl) rfl (c_X8_at (tg this 3) 30 (v2) (hthis.2.2.2.2.1) (h) _ hw) kxN (kIp (fun z1 hw => ?_))
    refine g_iconst (dk D_X3_daysWritten 11 rfl) ki_m1 ?_
    refine g_icmp_eq (dk D_X3_daysWritten 12 rfl) rfl (wif_m hw (fun hw => ?_) (fun hw => ?_))
    · exact t_X3_daysWritten_b25 this (v1) (v2) K4 (h) Q hthis hK4 hw
    · refine g_iinc 1 (dk D_X3_daysWritten 13 rfl) rfl (congrArg (fun z => _ + z) ki_1) (by decide) rfl ?_
      refine g_sub [1, 0, 2] rfl ?_
      exact t_X3_daysWritten_b25 this ((v1 + (1 : Int32))) (v2) K4 (h) Q hthis hK4 hw
theorem t_X3_daysWritten_b4 {X : Cx} (this : Nat) (h : Hp) (Q : Int32 → Prop) (s : Int32 × Int32) (hthis : RecP this) (hw : w_X3_daysWritten_b4 this h Q s) : G X M_X3_daysWritten E_X3_daysWritten (QM X E_X3_daysWritten (QIp h Q) Qn) 0 4 [(0, .ref (this)), (1, .int (s.1)), (2, .int (s.2))] [] (h) :=
  wl_ind (B := fun K s => w_X3_daysWritten_l4 this h Q K (s.1) (s.2)) (P := fun s => G X M_X3_daysWritten E_X3_daysWritten (QM X E_X3_daysWritten (QIp h Q) Qn) 0 4 [(0, .ref (this)), (1, .int (s.1)), (2, .int (s.2))] [] (h)) (fun K hK s hw => t_X3_daysWritten_l4 this h Q K (s.1) (s.2) hthis hK hw) s hw
theorem t_X3_daysWritten {X : Cx} (this : Nat) (h : Hp) (Q : Int32 → Prop) (hthis : RecP this) (hw : w_X3_daysWritten this h Q) : G X M_X3_daysWritten E_X3_daysWritten (QM X E_X3_daysWritten (QIp h Q) Qn) 0 0 [(0, .ref (this))] [] h := by
  unfold w_X3_daysWritten at hw
  refine g_iconst (dk D_X3_daysWritten 0 rfl) ki_0 ?_
  refine g_istore_n (dk D_X3_daysWritten 1 rfl) rfl (by decide) rfl ?_
  refine g_iconst (dk D_X3_daysWritten 2 rfl) ki_0 ?_
  refine g_istore_n (dk D_X3_daysWritten 3 rfl) rfl (by decide) rfl ?_
  refine g_sub [2, 1, 0] rfl ?_
  exact t_X3_daysWritten_b4 this (h) Q ((0 : Int32), (0 : Int32)) hthis hw
theorem c_X3_daysWritten {X : Cx} (this : Nat) (hthis : RecP this) (h : Hp) (Q : Int32 → Prop) (hw : w_X3_daysWritten this h Q) : Con X yX3_daysWritten M_X3_daysWritten 1 29 0 [.ref (this)] h (QIp h Q) Qn :=
  con_of (by decide +kernel) rfl (Nat.le_of_ble_eq_true rfl) (t_X3_daysWritten this h Q hthis hw)
/-! ShadowTolls$Road.beUntold()V -/
abbrev M_X4_beUntold : Mi := (RX4, cX4_beUntold, 1, none)
abbrev E_X4_beUntold : Rm := (1, 30, 0, 0)
def rows_X4_beUntold : List (Nat × Instr × Nat) := [(0, .aload_n 0, 1), (1, .getfield 9, 3), (4, .iconst 0, 1), (5, .invokestatic 27, 3), (8, .aload_n 0, 1), (9, .getfield 15, 3), (12, .sipush 2700, 3), (15, .invokestatic 27, 3), (18, .aload_n 0, 1), (19, .getfield 18, 3), (22, .iconst 0, 1), (23, .invokestatic 27, 3), (26, .aload_n 0, 1), (27, .getfield 21, 3), (30, .iconst 0, 1), (31, .invokestatic 27, 3), (34, .aload_n 0, 1), (35, .iconst 0, 1), (36, .putfield 31, 3), (39, .aload_n 0, 1), (40, .iconst 4, 1), (41, .putfield 35, 3), (44, .aload_n 0, 1), (45, .sipush 360, 3), (48, .putfield 38, 3), (51, .aload_n 0, 1), (52, .sipush 1080, 3), (55, .putfield 41, 3), (58, .aload_n 0, 1), (59, .bipush 30, 2), (61, .putfield 44, 3), (64, .aload_n 0, 1), (65, .iconst 0, 1), (66, .putfield 47, 3), (69, .aload_n 0, 1), (70, .iconst 0, 1), (71, .putfield 50, 3), (74, .aload_n 0, 1), (75, .iconst 0, 1), (76, .putfield 53, 3), (79, .aload_n 0, 1), (80, .iconst 0, 1), (81, .putfield 56, 3), (84, .aload_n 0, 1), (85, .iconst 0, 1), (86, .putfield 59, 3), (89, .aload_n 0, 1), (90, .iconst 0, 1), (91, .putfield 63, 3), (94, .return_, 1)]
theorem D_X4_beUntold : dkA cX4_beUntold rows_X4_beUntold := by
  unfold dkA
  decide +kernel
theorem okD_X4_beUntold : okD yX4_beUntold 0 := by
  unfold okD
  decide +kernel
def w_X4_beUntold (this : Nat) (h : Hp) (Q : Hp → Prop) : Prop :=
  w_X8_fillRow (tg this 0) 30 ((0 : Int32)) h (fun h1 => w_X8_fillRow (tg this 1) 30 ((2700 : Int32)) h1 (fun h2 => w_X8_fillRow (tg this 2) 30 ((0 : Int32)) h2 (fun h3 => w_X8_fillRow (tg this 3) 56 ((0 : Int32)) h3 (fun h4 => wlet (hup h4 this 4 (0 : Int32)) (fun h5 => wlet (hup h5 this 5 (4 : Int32)) (fun h6 => wlet (hup h6 this 6 (360 : Int32)) (fun h7 => wlet (hup h7 this 7 (1080 : Int32)) (fun h8 => wlet (hup h8 this 8 (30 : Int32)) (fun h9 => wlet (hup h9 this 9 (0 : Int32)) (fun h10 => wlet (hup h10 this 10 (0 : Int32)) (fun h11 => wlet (hup h11 this 11 (0 : Int32)) (fun h12 => wlet (hup h12 this 12 (0 : Int32)) (fun h13 => wlet (hup h13 this 13 (0 : Int32)) (fun h14 => wlet (hup h14 this 14 (0 : Int32)) (fun h15 => Q h15)))))))))))))))
theorem t_X4_beUntold {X : Cx} (this : Nat) (h : Hp) (Q : Hp → Prop) (hthis : RoadP this) (hw : w_X4_beUntold this h Q) : G X M_X4_beUntold E_X4_beUntold (QM X E_X4_beUntold (QV Q) Qn) 0 0 [(0, .ref (this))] [] h := by
  unfold w_X4_beUntold at hw
  refine g_aload_n 0 (dk D_X4_beUntold 0 rfl) rfl rfl ?_
  refine g_getR 0 (t := (tg this 0)) (dk D_X4_beUntold 1 rfl) hthis.1 rfl rfl (by decide) w_174 rfl rfl rfl ?_
  refine g_iconst (dk D_X4_beUntold 2 rfl) ki_0 ?_
  refine g_callSN (As := [.ref ((tg this 0)), .int ((0 : Int32))]) (kc := 0) (fr := 0) (lo := 0) (mc := 0) (My := M_X8_fillRow) (dk D_X4_beUntold 3 rfl) w_171 w_172 w_101 w_173 okD_X8_fillRow (by decide) (Nat.le_of_ble_eq_true rfl) rfl (c_X8_fillRow (tg this 0) 30 ((0 : Int32)) (hthis.2.1) (h) _ hw) kxN (kV (fun h1 hw => ?_))
  refine g_aload_n 0 (dk D_X4_beUntold 4 rfl) rfl rfl ?_
  refine g_getR 1 (t := (tg this 1)) (dk D_X4_beUntold 5 rfl) hthis.1 rfl rfl (by decide) w_176 rfl rfl rfl ?_
  refine g_sipush (dk D_X4_beUntold 6 rfl) ks_2700 ?_
  refine g_callSN (As := [.ref ((tg this 1)), .int ((2700 : Int32))]) (kc := 0) (fr := 0) (lo := 0) (mc := 0) (My := M_X8_fillRow) (dk D_X4_beUntold 7 rfl) w_171 w_172 w_101 w_173 okD_X8_fillRow (by decide) (Nat.le_of_ble_eq_true rfl) rfl (c_X8_fillRow (tg this 1) 30 ((2700 : Int32)) (hthis.2.2.1) (h1) _ hw) kxN (kV (fun h2 hw => ?_))
  refine g_aload_n 0 (dk D_X4_beUntold 8 rfl) rfl rfl ?_
  refine g_getR 2 (t := (tg this 2)) (dk D_X4_beUntold 9 rfl) hthis.1 rfl rfl (by decide) w_178 rfl rfl rfl ?_
  refine g_iconst (dk D_X4_beUntold 10 rfl) ki_0 ?_
  refine g_callSN (As := [.ref ((tg this 2)), .int ((0 : Int32))]) (kc := 0) (fr := 0) (lo := 0) (mc := 0) (My := M_X8_fillRow) (dk D_X4_beUntold 11 rfl) w_171 w_172 w_101 w_173 okD_X8_fillRow (by decide) (Nat.le_of_ble_eq_true rfl) rfl (c_X8_fillRow (tg this 2) 30 ((0 : Int32)) (hthis.2.2.2.1) (h2) _ hw) kxN (kV (fun h3 hw => ?_))
  refine g_aload_n 0 (dk D_X4_beUntold 12 rfl) rfl rfl ?_
  refine g_getR 3 (t := (tg this 3)) (dk D_X4_beUntold 13 rfl) hthis.1 rfl rfl (by decide) w_181 rfl rfl rfl ?_
  refine g_iconst (dk D_X4_beUntold 14 rfl) ki_0 ?_
  refine g_callSN (As := [.ref ((tg this 3)), .int ((0 : Int32))]) (kc := 0) (fr := 0) (lo := 0) (mc := 0) (My := M_X8_fillRow) (dk D_X4_beUntold 15 rfl) w_171 w_172 w_101 w_173 okD_X8_fillRow (by decide) (Nat.le_of_ble_eq_true rfl) rfl (c_X8_fillRow (tg this 3) 56 ((0 : Int32)) (hthis.2.2.2.2) (h3) _ hw) kxN (kV (fun h4 hw => ?_))
  refine g_aload_n 0 (dk D_X4_beUntold 16 rfl) rfl rfl ?_
  refine g_iconst (dk D_X4_beUntold 17 rfl) ki_0 ?_
  refine g_put 4 (dk D_X4_beUntold 18 rfl) hthis.1 rfl rfl (by decide) w_182 rfl tyX4_ok nmX4 rfl (by decide) rfl (fun z => absurd z (by decide)) ?_
  refine g_heap (fun h5 eh5 => ?_)
  replace hw := hw _ eh5
  refine g_aload_n 0 (dk D_X4_beUntold 19 rfl) rfl rfl ?_
  refine g_iconst (dk D_X4_beUntold 20 rfl) ki_4 ?_
  refine g_put 5 (dk D_X4_beUntold 21 rfl) hthis.1 rfl rfl (by decide) w_185 rfl tyX4_ok nmX4 rfl (by decide) rfl (fun z => absurd z (by decide)) ?_
  refine g_heap (fun h6 eh6 => ?_)
  replace hw := hw _ eh6
  refine g_aload_n 0 (dk D_X4_beUntold 22 rfl) rfl rfl ?_
  refine g_sipush (dk D_X4_beUntold 23 rfl) ks_360 ?_
  refine g_put 6 (dk D_X4_beUntold 24 rfl) hthis.1 rfl rfl (by decide) w_188 rfl tyX4_ok nmX4 rfl (by decide) rfl (fun z => absurd z (by decide)) ?_
  refine g_heap (fun h7 eh7 => ?_)
  replace hw := hw _ eh7
  refine g_aload_n 0 (dk D_X4_beUntold 25 rfl) rfl rfl ?_
  refine g_sipush (dk D_X4_beUntold 26 rfl) ks_1080 ?_
  refine g_put 7 (dk D_X4_beUntold 27 rfl) hthis.1 rfl rfl (by decide) w_191 rfl tyX4_ok nmX4 rfl (by decide) rfl (fun z => absurd z (by decide)) ?_
  refine g_heap (fun h8 eh8 => ?_)
  replace hw := hw _ eh8
  refine g_aload_n 0 (dk D_X4_beUntold 28 rfl) rfl rfl ?_
  refine g_bipush (dk D_X4_beUntold 29 rfl) kb_30 ?_
  refine g_put 8 (dk D_X4_beUntold 30 rfl) hthis.1 rfl rfl (by decide) w_194 rfl tyX4_ok nmX4 rfl (by decide) rfl (fun z => absurd z (by decide)) ?_
  refine g_heap (fun h9 eh9 => ?_)
  replace hw := hw _ eh9
  refine g_aload_n 0 (dk D_X4_beUntold 31 rfl) rfl rfl ?_
  refine g_iconst (dk D_X4_beUntold 32 rfl) ki_0 ?_
  refine g_put 9 (dk D_X4_beUntold 33 rfl) hthis.1 rfl rfl (by decide) w_197 rfl tyX4_ok nmX4 rfl (by decide) rfl (fun z => absurd z (by decide)) ?_
  refine g_heap (fun h10 eh10 => ?_)
  replace hw := hw _ eh10
  refine g_aload_n 0 (dk D_X4_beUntold 34 rfl) rfl rfl ?_
  refine g_iconst (dk D_X4_beUntold 35 rfl) ki_0 ?_
  refine g_put 10 (dk D_X4_beUntold 36 rfl) hthis.1 rfl rfl (by decide) w_201 rfl tyX4_ok nmX4 rfl (by decide) rfl (fun z => absurd z (by decide)) ?_
  refine g_heap (fun h11 eh11 => ?_)
  replace hw := hw _ eh11
  refine g_aload_n 0 (dk D_X4_beUntold 37 rfl) rfl rfl ?_
  refine g_iconst (dk D_X4_beUntold 38 rfl) ki_0 ?_
  refine g_put 11 (dk D_X4_beUntold 39 rfl) hthis.1 rfl rfl (by decide) w_204 rfl tyX4_ok nmX4 rfl (by decide) rfl (fun z => absurd z (by decide)) ?_
  refine g_heap (fun h12 eh12 => ?_)
  replace hw := hw _ eh12
  refine g_aload_n 0 (dk D_X4_beUntold 40 rfl) rfl rfl ?_
  refine g_iconst (dk D_X4_beUntold 41 rfl) ki_0 ?_
  refine g_put 12 (dk D_X4_beUntold 42 rfl) hthis.1 rfl rfl (by decide) w_206 rfl tyX4_ok nmX4 rfl (by decide) rfl (fun z => absurd z (by decide)) ?_
  refine g_heap (fun h13 eh13 => ?_)
  replace hw := hw _ eh13
  refine g_aload_n 0 (dk D_X4_beUntold 43 rfl) rfl rfl ?_
  refine g_iconst (dk D_X4_beUntold 44 rfl) ki_0 ?_
  refine g_put 13 (dk D_X4_beUntold 45 rfl) hthis.1 rfl rfl (by decide) w_208 rfl tyX4_ok nmX4 rfl (by decide) rfl (fun _ => by decide) ?_
  refine g_heap (fun h14 eh14 => ?_)
  replace hw := hw _ eh14
  refine g_aload_n 0 (dk D_X4_beUntold 46 rfl) rfl rfl ?_
  refine g_iconst (dk D_X4_beUntold 47 rfl) ki_0 ?_
  refine g_put 14 (dk D_X4_beUntold 48 rfl) hthis.1 rfl rfl (by decide) w_212 rfl tyX4_ok nmX4 rfl (by decide) rfl (fun _ => by decide) ?_
  refine g_heap (fun h15 eh15 => ?_)
  replace hw := hw _ eh15
  exact g_vret (dk D_X4_beUntold 49 rfl) rfl ⟨rfl, hw⟩
theorem c_X4_beUntold {X : Cx} (this : Nat) (hthis : RoadP this) (h : Hp) (Q : Hp → Prop) (hw : w_X4_beUntold this h Q) : Con X yX4_beUntold M_X4_beUntold 1 30 0 [.ref (this)] h (QV Q) Qn :=
  con_of (by decide +kernel) rfl (Nat.le_of_ble_eq_true rfl) (t_X4_beUntold this h Q hthis hw)
/-! ShadowTolls$Road.copy(LShadowTolls$Road;)V -/
abbrev M_X4_copy : Mi := (RX4, cX4_copy, 2, none)
abbrev E_X4_copy : Rm := (1, 30, 0, 0)
def rows_X4_copy : List (Nat × Instr × Nat) := [(0, .aload_n 1, 1), (1, .getfield 9, 3), (4, .aload_n 0, 1), (5, .getfield 9, 3), (8, .invokestatic 66, 3), (11, .aload_n 1, 1), (12, .getfield 15, 3), (15, .aload_n 0, 1), (16, .getfield 15, 3), (19, .invokestatic 66, 3), (22, .aload_n 1, 1), (23, .getfield 18, 3), (26, .aload_n 0, 1), (27, .getfield 18, 3), (30, .invokestatic 66, 3), (33, .aload_n 1, 1), (34, .getfield 21, 3), (37, .aload_n 0, 1), (38, .getfield 21, 3), (41, .invokestatic 66, 3), (44, .aload_n 0, 1), (45, .aload_n 1, 1), (46, .getfield 31, 3), (49, .putfield 31, 3), (52, .aload_n 0, 1), (53, .aload_n 1, 1), (54, .getfield 35, 3), (57, .putfield 35, 3), (60, .aload_n 0, 1), (61, .aload_n 1, 1), (62, .getfield 38, 3), (65, .putfield 38, 3), (68, .aload_n 0, 1), (69, .aload_n 1, 1), (70, .getfield 41, 3), (73, .putfield 41, 3), (76, .aload_n 0, 1), (77, .aload_n 1, 1), (78, .getfield 44, 3), (81, .putfield 44, 3), (84, .aload_n 0, 1), (85, .aload_n 1, 1), (86, .getfield 47, 3), (89, .putfield 47, 3), (92, .aload_n 0, 1), (93, .aload_n 1, 1), (94, .getfield 50, 3), (97, .putfield 50, 3), (100, .aload_n 0, 1), (101, .aload_n 1, 1), (102, .getfield 53, 3), (105, .putfield 53, 3), (108, .aload_n 0, 1), (109, .aload_n 1, 1), (110, .getfield 56, 3), (113, .putfield 56, 3), (116, .aload_n 0, 1), (117, .aload_n 1, 1), (118, .getfield 59, 3), (121, .putfield 59, 3), (124, .aload_n 0, 1), (125, .aload_n 1, 1), (126, .getfield 63, 3), (129, .putfield 63, 3), (132, .return_, 1)]
theorem D_X4_copy : dkA cX4_copy rows_X4_copy := by
  unfold dkA
  decide +kernel
theorem okD_X4_copy : okD yX4_copy 1 := by
  unfold okD
  decide +kernel
def w_X4_copy (this : Nat) (r1 : Nat) (h : Hp) (Q : Hp → Prop) : Prop :=
  w_X8_copyRow (tg r1 0) 30 (tg this 0) 30 h (fun h1 => w_X8_copyRow (tg r1 1) 30 (tg this 1) 30 h1 (fun h2 => w_X8_copyRow (tg r1 2) 30 (tg this 2) 30 h2 (fun h3 => w_X8_copyRow (tg r1 3) 56 (tg this 3) 56 h3 (fun h4 => wlet (hup h4 this 4 (h4 r1 4)) (fun h5 => wlet (hup h5 this 5 (h5 r1 5)) (fun h6 => wlet (hup h6 this 6 (h6 r1 6)) (fun h7 => wlet (hup h7 this 7 (h7 r1 7)) (fun h8 => wlet (hup h8 this 8 (h8 r1 8)) (fun h9 => wlet (hup h9 this 9 (h9 r1 9)) (fun h10 => wlet (hup h10 this 10 (h10 r1 10)) (fun h11 => wlet (hup h11 this 11 (h11 r1 11)) (fun h12 => wlet (hup h12 this 12 (h12 r1 12)) (fun h13 => wlet (hup h13 this 13 (h13 r1 13 &&& 1)) (fun h14 => wlet (hup h14 this 14 (h14 r1 14 &&& 1)) (fun h15 => Q h15)))))))))))))))
theorem t_X4_copy {X : Cx} (this : Nat) (r1 : Nat) (h : Hp) (Q : Hp → Prop) (hthis : RoadP this) (hr1 : RoadP r1) (hw : w_X4_copy this r1 h Q) : G X M_X4_copy E_X4_copy (QM X E_X4_copy (QV Q) Qn) 0 0 [(0, .ref (this)), (1, .ref (r1))] [] h := by
  unfold w_X4_copy at hw
  refine g_aload_n 1 (dk D_X4_copy 0 rfl) rfl rfl ?_
  refine g_getR 0 (t := (tg r1 0)) (dk D_X4_copy 1 rfl) hr1.1 rfl rfl (by decide) w_174 rfl rfl rfl ?_
  refine g_aload_n 0 (dk D_X4_copy 2 rfl) rfl rfl ?_
  refine g_getR 0 (t := (tg this 0)) (dk D_X4_copy 3 rfl) hthis.1 rfl rfl (by decide) w_174 rfl rfl rfl ?_
  refine g_callSN (As := [.ref ((tg r1 0)), .ref ((tg this 0))]) (kc := 0) (fr := 0) (lo := 0) (mc := 0) (My := M_X8_copyRow) (dk D_X4_copy 4 rfl) w_935 w_680 w_101 w_681 okD_X8_copyRow (by decide) (Nat.le_of_ble_eq_true rfl) rfl (c_X8_copyRow (tg r1 0) 30 (tg this 0) 30 (hr1.2.1) (hthis.2.1) (h) _ hw) kxN (kV (fun h1 hw => ?_))
  refine g_aload_n 1 (dk D_X4_copy 5 rfl) rfl rfl ?_
  refine g_getR 1 (t := (tg r1 1)) (dk D_X4_copy 6 rfl) hr1.1 rfl rfl (by decide) w_176 rfl rfl rfl ?_
  refine g_aload_n 0 (dk D_X4_copy 7 rfl) rfl rfl ?_
  refine g_getR 1 (t := (tg this 1)) (dk D_X4_copy 8 rfl) hthis.1 rfl rfl (by decide) w_176 rfl rfl rfl ?_
  refine g_callSN (As := [.ref ((tg r1 1)), .ref ((tg this 1))]) (kc := 0) (fr := 0) (lo := 0) (mc := 0) (My := M_X8_copyRow) (dk D_X4_copy 9 rfl) w_935 w_680 w_101 w_681 okD_X8_copyRow (by decide) (Nat.le_of_ble_eq_true rfl) rfl (c_X8_copyRow (tg r1 1) 30 (tg this 1) 30 (hr1.2.2.1) (hthis.2.2.1) (h1) _ hw) kxN (kV (fun h2 hw => ?_))
  refine g_aload_n 1 (dk D_X4_copy 10 rfl) rfl rfl ?_
  refine g_getR 2 (t := (tg r1 2)) (dk D_X4_copy 11 rfl) hr1.1 rfl rfl (by decide) w_178 rfl rfl rfl ?_
  refine g_aload_n 0 (dk D_X4_copy 12 rfl) rfl rfl ?_
  refine g_getR 2 (t := (tg this 2)) (dk D_X4_copy 13 rfl) hthis.1 rfl rfl (by decide) w_178 rfl rfl rfl ?_
  refine g_callSN (As := [.ref ((tg r1 2)), .ref ((tg this 2))]) (kc := 0) (fr := 0) (lo := 0) (mc := 0) (My := M_X8_copyRow) (dk D_X4_copy 14 rfl) w_935 w_680 w_101 w_681 okD_X8_copyRow (by decide) (Nat.le_of_ble_eq_true rfl) rfl (c_X8_copyRow (tg r1 2) 30 (tg this 2) 30 (hr1.2.2.2.1) (hthis.2.2.2.1) (h2) _ hw) kxN (kV (fun h3 hw => ?_))
  refine g_aload_n 1 (dk D_X4_copy 15 rfl) rfl rfl ?_
  refine g_getR 3 (t := (tg r1 3)) (dk D_X4_copy 16 rfl) hr1.1 rfl rfl (by decide) w_181 rfl rfl rfl ?_
  refine g_aload_n 0 (dk D_X4_copy 17 rfl) rfl rfl ?_
  refine g_getR 3 (t := (tg this 3)) (dk D_X4_copy 18 rfl) hthis.1 rfl rfl (by decide) w_181 rfl rfl rfl ?_
  refine g_callSN (As := [.ref ((tg r1 3)), .ref ((tg this 3))]) (kc := 0) (fr := 0) (lo := 0) (mc := 0) (My := M_X8_copyRow) (dk D_X4_copy 19 rfl) w_935 w_680 w_101 w_681 okD_X8_copyRow (by decide) (Nat.le_of_ble_eq_true rfl) rfl (c_X8_copyRow (tg r1 3) 56 (tg this 3) 56 (hr1.2.2.2.2) (hthis.2.2.2.2) (h3) _ hw) kxN (kV (fun h4 hw => ?_))
  refine g_aload_n 0 (dk D_X4_copy 20 rfl) rfl rfl ?_
  refine g_aload_n 1 (dk D_X4_copy 21 rfl) rfl rfl ?_
  refine g_getI 4 (dk D_X4_copy 22 rfl) hr1.1 rfl rfl (by decide) w_182 rfl rfl ?_
  refine g_put 4 (dk D_X4_copy 23 rfl) hthis.1 rfl rfl (by decide) w_182 rfl tyX4_ok nmX4 rfl (by decide) rfl (fun z => absurd z (by decide)) ?_
  refine g_heap (fun h5 eh5 => ?_)
  replace hw := hw _ eh5
  refine g_aload_n 0 (dk D_X4_copy 24 rfl) rfl rfl ?_
  refine g_aload_n 1 (dk D_X4_copy 25 rfl) rfl rfl ?_
  refine g_getI 5 (dk D_X4_copy 26 rfl) hr1.1 rfl rfl (by decide) w_185 rfl rfl ?_
  refine g_put 5 (dk D_X4_copy 27 rfl) hthis.1 rfl rfl (by decide) w_185 rfl tyX4_ok nmX4 rfl (by decide) rfl (fun z => absurd z (by decide)) ?_
  refine g_heap (fun h6 eh6 => ?_)
  replace hw := hw _ eh6
  refine g_aload_n 0 (dk D_X4_copy 28 rfl) rfl rfl ?_
  refine g_aload_n 1 (dk D_X4_copy 29 rfl) rfl rfl ?_
  refine g_getI 6 (dk D_X4_copy 30 rfl) hr1.1 rfl rfl (by decide) w_188 rfl rfl ?_
  refine g_put 6 (dk D_X4_copy 31 rfl) hthis.1 rfl rfl (by decide) w_188 rfl tyX4_ok nmX4 rfl (by decide) rfl (fun z => absurd z (by decide)) ?_
  refine g_heap (fun h7 eh7 => ?_)
  replace hw := hw _ eh7
  refine g_aload_n 0 (dk D_X4_copy 32 rfl) rfl rfl ?_
  refine g_aload_n 1 (dk D_X4_copy 33 rfl) rfl rfl ?_
  refine g_getI 7 (dk D_X4_copy 34 rfl) hr1.1 rfl rfl (by decide) w_191 rfl rfl ?_
  refine g_put 7 (dk D_X4_copy 35 rfl) hthis.1 rfl rfl (by decide) w_191 rfl tyX4_ok nmX4 rfl (by decide) rfl (fun z => absurd z (by decide)) ?_
  refine g_heap (fun h8 eh8 => ?_)
  replace hw := hw _ eh8
  refine g_aload_n 0 (dk D_X4_copy 36 rfl) rfl rfl ?_
  refine g_aload_n 1 (dk D_X4_copy 37 rfl) rfl rfl ?_
  refine g_getI 8 (dk D_X4_copy 38 rfl) hr1.1 rfl rfl (by decide) w_194 rfl rfl ?_
  refine g_put 8 (dk D_X4_copy 39 rfl) hthis.1 rfl rfl (by decide) w_194 rfl tyX4_ok nmX4 rfl (by decide) rfl (fun z => absurd z (by decide)) ?_
  refine g_heap (fun h9 eh9 => ?_)
  replace hw := hw _ eh9
  refine g_aload_n 0 (dk D_X4_copy 40 rfl) rfl rfl ?_
  refine g_aload_n 1 (dk D_X4_copy 41 rfl) rfl rfl ?_
  refine g_getI 9 (dk D_X4_copy 42 rfl) hr1.1 rfl rfl (by decide) w_197 rfl rfl ?_
  refine g_put 9 (dk D_X4_copy 43 rfl) hthis.1 rfl rfl (by decide) w_197 rfl tyX4_ok nmX4 rfl (by decide) rfl (fun z => absurd z (by decide)) ?_
  refine g_heap (fun h10 eh10 => ?_)
  replace hw := hw _ eh10
  refine g_aload_n 0 (dk D_X4_copy 44 rfl) rfl rfl ?_
  refine g_aload_n 1 (dk D_X4_copy 45 rfl) rfl rfl ?_
  refine g_getI 10 (dk D_X4_copy 46 rfl) hr1.1 rfl rfl (by decide) w_201 rfl rfl ?_
  refine g_put 10 (dk D_X4_copy 47 rfl) hthis.1 rfl rfl (by decide) w_201 rfl tyX4_ok nmX4 rfl (by decide) rfl (fun z => absurd z (by decide)) ?_
  refine g_heap (fun h11 eh11 => ?_)
  replace hw := hw _ eh11
  refine g_aload_n 0 (dk D_X4_copy 48 rfl) rfl rfl ?_
  refine g_aload_n 1 (dk D_X4_copy 49 rfl) rfl rfl ?_
  refine g_getI 11 (dk D_X4_copy 50 rfl) hr1.1 rfl rfl (by decide) w_204 rfl rfl ?_
  refine g_put 11 (dk D_X4_copy 51 rfl) hthis.1 rfl rfl (by decide) w_204 rfl tyX4_ok nmX4 rfl (by decide) rfl (fun z => absurd z (by decide)) ?_
  refine g_heap (fun h12 eh12 => ?_)
  replace hw := hw _ eh12
  refine g_aload_n 0 (dk D_X4_copy 52 rfl) rfl rfl ?_
  refine g_aload_n 1 (dk D_X4_copy 53 rfl) rfl rfl ?_
  refine g_getI 12 (dk D_X4_copy 54 rfl) hr1.1 rfl rfl (by decide) w_206 rfl rfl ?_
  refine g_put 12 (dk D_X4_copy 55 rfl) hthis.1 rfl rfl (by decide) w_206 rfl tyX4_ok nmX4 rfl (by decide) rfl (fun z => absurd z (by decide)) ?_
  refine g_heap (fun h13 eh13 => ?_)
  replace hw := hw _ eh13
  refine g_aload_n 0 (dk D_X4_copy 56 rfl) rfl rfl ?_
  refine g_aload_n 1 (dk D_X4_copy 57 rfl) rfl rfl ?_
  refine g_getZ 13 (dk D_X4_copy 58 rfl) hr1.1 rfl rfl (by decide) w_208 rfl rfl ?_
  refine g_put 13 (dk D_X4_copy 59 rfl) hthis.1 rfl rfl (by decide) w_208 rfl tyX4_ok nmX4 rfl (by decide) rfl (fun _ => and11 _) ?_
  refine g_heap (fun h14 eh14 => ?_)
  replace hw := hw _ eh14
  refine g_aload_n 0 (dk D_X4_copy 60 rfl) rfl rfl ?_
  refine g_aload_n 1 (dk D_X4_copy 61 rfl) rfl rfl ?_
  refine g_getZ 14 (dk D_X4_copy 62 rfl) hr1.1 rfl rfl (by decide) w_212 rfl rfl ?_
  refine g_put 14 (dk D_X4_copy 63 rfl) hthis.1 rfl rfl (by decide) w_212 rfl tyX4_ok nmX4 rfl (by decide) rfl (fun _ => and11 _) ?_
  refine g_heap (fun h15 eh15 => ?_)
  replace hw := hw _ eh15
  exact g_vret (dk D_X4_copy 64 rfl) rfl ⟨rfl, hw⟩
theorem c_X4_copy {X : Cx} (this : Nat) (r1 : Nat) (hthis : RoadP this) (hr1 : RoadP r1) (h : Hp) (Q : Hp → Prop) (hw : w_X4_copy this r1 h Q) : Con X yX4_copy M_X4_copy 1 30 0 [.ref (this), .ref (r1)] h (QV Q) Qn :=
  con_of (by decide +kernel) rfl (Nat.le_of_ble_eq_true rfl) (t_X4_copy this r1 h Q hthis hr1 hw)
/-! ShadowTolls$Road.spreadSuns()V -/
abbrev M_X4_spreadSuns : Mi := (RX4, cX4_spreadSuns, 3, none)
abbrev E_X4_spreadSuns : Rm := (1, 30, 0, 0)
def rows_X4_spreadSuns : List (Nat × Instr × Nat) := [(0, .sipush 2700, 3), (3, .istore_n 1, 1), (4, .iconst 0, 1), (5, .istore_n 2, 1), (6, .iload_n 2, 1), (7, .bipush 30, 2), (9, .if_icmp .ge 38, 3), (12, .aload_n 0, 1), (13, .getfield 9, 3), (16, .iload_n 2, 1), (17, .invokestatic 70, 3), (20, .ifCond .le 12, 3), (23, .aload_n 0, 1), (24, .getfield 9, 3), (27, .iload_n 2, 1), (28, .invokestatic 70, 3), (31, .istore_n 1, 1), (32, .aload_n 0, 1), (33, .getfield 15, 3), (36, .iload_n 2, 1), (37, .iload_n 1, 1), (38, .invokestatic 74, 3), (41, .iinc 2 1, 3), (44, .goto (-38), 3), (47, .return_, 1)]
theorem D_X4_spreadSuns : dkA cX4_spreadSuns rows_X4_spreadSuns := by
  unfold dkA
  decide +kernel
theorem okD_X4_spreadSuns : okD yX4_spreadSuns 0 := by
  unfold okD
  decide +kernel
def w_X4_spreadSuns_b32 (this : Nat) (v1 : Int32) (v2 : Int32) (K6 : Int32 × Int32 × Hp → Prop) (h : Hp) (Q : Hp → Prop) : Prop :=
  w_X8_put (tg this 1) 30 (v2) (v1) h (fun h1 => K6 (v1, (v2 + (1 : Int32)), h1))
def w_X4_spreadSuns_l6 (this : Nat) (Q : Hp → Prop) (K6 : Int32 × Int32 × Hp → Prop) (v1 : Int32) (v2 : Int32) (h : Hp) : Prop :=
  wif ((30 : Int32) ≤ v2) (Q h) (w_X8_at (tg this 0) 30 (v2) h (fun z1 => wif (z1 ≤ 0) (w_X4_spreadSuns_b32 this (v1) (v2) K6 (h) Q) (w_X8_at (tg this 0) 30 (v2) h (fun z2 => w_X4_spreadSuns_b32 this (z2) (v2) K6 (h) Q))))
def w_X4_spreadSuns_b6 (this : Nat) (Q : Hp → Prop) (s : Int32 × Int32 × Hp) : Prop := wl (fun K s => w_X4_spreadSuns_l6 this Q K s.1 s.2.1 s.2.2) s
def w_X4_spreadSuns (this : Nat) (h : Hp) (Q : Hp → Prop) : Prop :=
  w_X4_spreadSuns_b6 this Q ((2700 : Int32), (0 : Int32), h)
theorem t_X4_spreadSuns_b32 {X : Cx} (this : Nat) (v1 : Int32) (v2 : Int32) (K6 : Int32 × Int32 × Hp → Prop) (h : Hp) (Q : Hp → Prop) (hthis : RoadP this) (hK6 : ∀ s : Int32 × Int32 × Hp, K6 s → G X M_X4_spreadSuns E_X4_spreadSuns (QM X E_X4_spreadSuns (QV Q) Qn) 0 6 [(0, .ref (this)), (1, .int (s.1)), (2, .int (s.2.1))] [] (s.2.2)) (hw : w_X4_spreadSuns_b32 this v1 v2 K6 h Q) : G X M_X4_spreadSuns E_X4_spreadSuns (QM X E_X4_spreadSuns (QV Q) Qn) 0 32 [(0, .ref (this)), (1, .int (v1)), (2, .int (v2))] [] h := by
  unfold w_X4_spreadSuns_b32 at hw
  refine g_aload_n 0 (dk D_X4_spreadSuns 17 rfl) rfl rfl ?_
  refine g_getR 1 (t := (tg this 1)) (dk D_X4_spreadSuns 18 rfl) hthis.1 rfl rfl (by decide) w_176 rfl rfl rfl ?_
  refine g_iload_n 2 (dk D_X4_spreadSuns 19 rfl) rfl rfl ?_
  refine g_iload_n 1 (dk D_X4_spreadSuns 20 rfl) rfl rfl ?_
  refine g_callSN (As := [.ref ((tg this 1)), .int (v2), .int (v1)]) (kc := 0) (fr := 0) (lo := 0) (mc := 0) (My := M_X8_put) (dk D_X4_spreadSuns 21 rfl) w_903 w_496 w_101 w_497 okD_X8_put (by decide) (Nat.le_of_ble_eq_true rfl) rfl (c_X8_put (tg this 1) 30 (v2) (v1) (hthis.2.2.1) (h) _ hw) kxN (kV (fun h1 hw => ?_))
  refine g_iinc 2 (dk D_X4_spreadSuns 22 rfl) rfl (congrArg (fun z => _ + z) ki_1) (by decide) rfl ?_
  refine g_goto (dk D_X4_spreadSuns 23 rfl) rfl ?_
  refine g_sub [1, 2, 0] rfl ?_
  exact hK6 (v1, (v2 + (1 : Int32)), h1) hw
theorem t_X4_spreadSuns_l6 {X : Cx} (this : Nat) (Q : Hp → Prop) (K6 : Int32 × Int32 × Hp → Prop) (v1 : Int32) (v2 : Int32) (h : Hp) (hthis : RoadP this) (hK6 : ∀ s : Int32 × Int32 × Hp, K6 s → G X M_X4_spreadSuns E_X4_spreadSuns (QM X E_X4_spreadSuns (QV Q) Qn) 0 6 [(0, .ref (this)), (1, .int (s.1)), (2, .int (s.2.1))] [] (s.2.2)) (hw : w_X4_spreadSuns_l6 this Q K6 v1 v2 h) : G X M_X4_spreadSuns E_X4_spreadSuns (QM X E_X4_spreadSuns (QV Q) Qn) 0 6 [(0, .ref (this)), (1, .int (v1)), (2, .int (v2))] [] h := by
  unfold w_X4_spreadSuns_l6 at hw
  refine g_iload_n 2 (dk D_X4_spreadSuns 4 rfl) rfl rfl ?_
  refine g_bipush (dk D_X4_spreadSuns 5 rfl) kb_30 ?_
  refine g_icmp_ge (dk D_X4_spreadSuns 6 rfl) rfl (wif_m hw (fun hw => ?_) (fun hw => ?_))
  · exact g_vret (dk D_X4_spreadSuns 24 rfl) rfl ⟨rfl, hw⟩
  · refine g_aload_n 0 (dk D_X4_spreadSuns 7 rfl) rfl rfl ?_
    refine g_getR 0 (t := (tg this 0)) (dk D_X4_spreadSuns 8 rfl) hthis.1 rfl rfl (by decide) w_174 rfl rfl rfl ?_
    refine g_iload_n 2 (dk D_X4_spreadSuns 9 rfl) rfl rfl ?_
    refine g_callSN (As := [.ref ((tg this 0)), .int (v2)]) (kc := 0) (fr := 0) (lo := 0) (mc := 0) (My := M_X8_at) (dk D_X4_spreadSuns 10 rfl) w_549 w_518 w_101 w_519 okD_X8_at (by decide) (Nat.le_of_ble_eq_true rfl) rfl (c_X8_at (tg this 0) 30 (v2) (hthis.2.1) (h) _ hw) kxN (kIp (fun z1 hw => ?_))
    refine g_if_le (dk D_X4_spreadSuns 11 rfl) rfl (wif_m hw (fun hw => ?_) (fun hw => ?_))
    · exact t_X4_spreadSuns_b32 this (v1) (v2) K6 (h) Q hthis hK6 hw
    · refine g_aload_n 0 (dk D_X4_spreadSuns 12 rfl) rfl rfl ?_
      refine g_getR 0 (t := (tg this 0)) (dk D_X4_spreadSuns 13 rfl) hthis.1 rfl rfl (by decide) w_174 rfl rfl rfl ?_
      refine g_iload_n 2 (dk D_X4_spreadSuns 14 rfl) rfl rfl ?_
      refine g_callSN (As := [.ref ((tg this 0)), .int (v2)]) (kc := 0) (fr := 0) (lo := 0) (mc := 0) (My := M_X8_at) (dk D_X4_spreadSuns 15 rfl) w_549 w_518 w_101 w_519 okD_X8_at (by decide) (Nat.le_of_ble_eq_true rfl) rfl (c_X8_at (tg this 0) 30 (v2) (hthis.2.1) (h) _ hw) kxN (kIp (fun z2 hw => ?_))
      refine g_istore_n (dk D_X4_spreadSuns 16 rfl) rfl (by decide) rfl ?_
      refine g_sub [1, 0, 2] rfl ?_
      exact t_X4_spreadSuns_b32 this (z2) (v2) K6 (h) Q hthis hK6 hw
theorem t_X4_spreadSuns_b6 {X : Cx} (this : Nat) (Q : Hp → Prop) (s : Int32 × Int32 × Hp) (hthis : RoadP this) (hw : w_X4_spreadSuns_b6 this Q s) : G X M_X4_spreadSuns E_X4_spreadSuns (QM X E_X4_spreadSuns (QV Q) Qn) 0 6 [(0, .ref (this)), (1, .int (s.1)), (2, .int (s.2.1))] [] (s.2.2) :=
  wl_ind (B := fun K s => w_X4_spreadSuns_l6 this Q K (s.1) (s.2.1) (s.2.2)) (P := fun s => G X M_X4_spreadSuns E_X4_spreadSuns (QM X E_X4_spreadSuns (QV Q) Qn) 0 6 [(0, .ref (this)), (1, .int (s.1)), (2, .int (s.2.1))] [] (s.2.2)) (fun K hK s hw => t_X4_spreadSuns_l6 this Q K (s.1) (s.2.1) (s.2.2) hthis hK hw) s hw
theorem t_X4_spreadSuns {X : Cx} (this : Nat) (h : Hp) (Q : Hp → Prop) (hthis : RoadP this) (hw : w_X4_spreadSuns this h Q) : G X M_X4_spreadSuns E_X4_spreadSuns (QM X E_X4_spreadSuns (QV Q) Qn) 0 0 [(0, .ref (this))] [] h := by
  unfold w_X4_spreadSuns at hw
  refine g_sipush (dk D_X4_spreadSuns 0 rfl) ks_2700 ?_
  refine g_istore_n (dk D_X4_spreadSuns 1 rfl) rfl (by decide) rfl ?_
  refine g_iconst (dk D_X4_spreadSuns 2 rfl) ki_0 ?_
  refine g_istore_n (dk D_X4_spreadSuns 3 rfl) rfl (by decide) rfl ?_
  refine g_sub [2, 1, 0] rfl ?_
  exact t_X4_spreadSuns_b6 this Q ((2700 : Int32), (0 : Int32), h) hthis hw
theorem c_X4_spreadSuns {X : Cx} (this : Nat) (hthis : RoadP this) (h : Hp) (Q : Hp → Prop) (hw : w_X4_spreadSuns this h Q) : Con X yX4_spreadSuns M_X4_spreadSuns 1 30 0 [.ref (this)] h (QV Q) Qn :=
  con_of (by decide +kernel) rfl (Nat.le_of_ble_eq_true rfl) (t_X4_spreadSuns this h Q hthis hw)
/-! ShadowTolls$Road.setTrait(III)V -/
abbrev M_X4_setTrait : Mi := (RX4, cX4_setTrait, 4, none)
abbrev E_X4_setTrait : Rm := (1, 30, 0, 0)
def rows_X4_setTrait : List (Nat × Instr × Nat) := [(0, .aload_n 0, 1), (1, .getfield 21, 3), (4, .iload_n 1, 1), (5, .bipush 7, 2), (7, .imul, 1), (8, .iload_n 2, 1), (9, .iadd, 1), (10, .iload_n 3, 1), (11, .invokestatic 74, 3), (14, .return_, 1)]
theorem D_X4_setTrait : dkA cX4_setTrait rows_X4_setTrait := by
  unfold dkA
  decide +kernel
theorem okD_X4_setTrait : okD yX4_setTrait 3 := by
  unfold okD
  decide +kernel
def w_X4_setTrait (this : Nat) (p1 : Int32) (p2 : Int32) (p3 : Int32) (h : Hp) (Q : Hp → Prop) : Prop :=
  w_X8_put (tg this 3) 56 (((p1 * (7 : Int32)) + p2)) (p3) h (fun h1 => Q h1)
theorem t_X4_setTrait {X : Cx} (this : Nat) (p1 : Int32) (p2 : Int32) (p3 : Int32) (h : Hp) (Q : Hp → Prop) (hthis : RoadP this) (hw : w_X4_setTrait this p1 p2 p3 h Q) : G X M_X4_setTrait E_X4_setTrait (QM X E_X4_setTrait (QV Q) Qn) 0 0 [(0, .ref (this)), (1, .int (p1)), (2, .int (p2)), (3, .int (p3))] [] h := by
  unfold w_X4_setTrait at hw
  refine g_aload_n 0 (dk D_X4_setTrait 0 rfl) rfl rfl ?_
  refine g_getR 3 (t := (tg this 3)) (dk D_X4_setTrait 1 rfl) hthis.1 rfl rfl (by decide) w_181 rfl rfl rfl ?_
  refine g_iload_n 1 (dk D_X4_setTrait 2 rfl) rfl rfl ?_
  refine g_bipush (dk D_X4_setTrait 3 rfl) kb_7 ?_
  refine g_imul (dk D_X4_setTrait 4 rfl) ?_
  refine g_iload_n 2 (dk D_X4_setTrait 5 rfl) rfl rfl ?_
  refine g_iadd (dk D_X4_setTrait 6 rfl) ?_
  refine g_iload_n 3 (dk D_X4_setTrait 7 rfl) rfl rfl ?_
  refine g_callSN (As := [.ref ((tg this 3)), .int (((p1 * (7 : Int32)) + p2)), .int (p3)]) (kc := 0) (fr := 0) (lo := 0) (mc := 0) (My := M_X8_put) (dk D_X4_setTrait 8 rfl) w_903 w_496 w_101 w_497 okD_X8_put (by decide) (Nat.le_of_ble_eq_true rfl) rfl (c_X8_put (tg this 3) 56 (((p1 * (7 : Int32)) + p2)) (p3) (hthis.2.2.2.2) (h) _ hw) kxN (kV (fun h1 hw => ?_))
  exact g_vret (dk D_X4_setTrait 9 rfl) rfl ⟨rfl, hw⟩
theorem c_X4_setTrait {X : Cx} (this : Nat) (p1 : Int32) (p2 : Int32) (p3 : Int32) (hthis : RoadP this) (h : Hp) (Q : Hp → Prop) (hw : w_X4_setTrait this p1 p2 p3 h Q) : Con X yX4_setTrait M_X4_setTrait 1 30 0 [.ref (this), .int (p1), .int (p2), .int (p3)] h (QV Q) Qn :=
  con_of (by decide +kernel) rfl (Nat.le_of_ble_eq_true rfl) (t_X4_setTrait this p1 p2 p3 h Q hthis hw)
/-! ShadowTolls$Road.everybody()I -/
abbrev M_X4_everybody : Mi := (RX4, cX4_everybody, 1, (some .int))
abbrev E_X4_everybody : Rm := (0, 0, 0, 0)
def rows_X4_everybody : List (Nat × Instr × Nat) := [(0, .iconst 1, 1), (1, .aload_n 0, 1), (2, .getfield 31, 3), (5, .ishl, 1), (6, .iconst 1, 1), (7, .isub, 1), (8, .ireturn, 1)]
theorem D_X4_everybody : dkA cX4_everybody rows_X4_everybody := by
  unfold dkA
  decide +kernel
theorem okD_X4_everybody : okD yX4_everybody 0 := by
  unfold okD
  decide +kernel
def w_X4_everybody (this : Nat) (h : Hp) (Q : Int32 → Prop) : Prop :=
  Q (((1 : Int32) <<< ((h this 4) &&& 31)) - (1 : Int32))
theorem t_X4_everybody {X : Cx} (this : Nat) (h : Hp) (Q : Int32 → Prop) (hthis : RoadP this) (hw : w_X4_everybody this h Q) : G X M_X4_everybody E_X4_everybody (QM X E_X4_everybody (QIp h Q) Qn) 0 0 [(0, .ref (this))] [] h := by
  unfold w_X4_everybody at hw
  refine g_iconst (dk D_X4_everybody 0 rfl) ki_1 ?_
  refine g_aload_n 0 (dk D_X4_everybody 1 rfl) rfl rfl ?_
  refine g_getI 4 (dk D_X4_everybody 2 rfl) hthis.1 rfl rfl (by decide) w_182 rfl rfl ?_
  refine g_ishl (dk D_X4_everybody 3 rfl) ?_
  refine g_iconst (dk D_X4_everybody 4 rfl) ki_1 ?_
  refine g_isub (dk D_X4_everybody 5 rfl) ?_
  exact g_iret (dk D_X4_everybody 6 rfl) rfl ⟨_, rfl, rfl, hw⟩
theorem c_X4_everybody {X : Cx} (this : Nat) (hthis : RoadP this) (h : Hp) (Q : Int32 → Prop) (hw : w_X4_everybody this h Q) : Con X yX4_everybody M_X4_everybody 0 0 0 [.ref (this)] h (QIp h Q) Qn :=
  con_of (by decide +kernel) rfl (Nat.le_of_ble_eq_true rfl) (t_X4_everybody this h Q hthis hw)
/-! ShadowTolls$Road.isOpen(I)Z -/
abbrev M_X4_isOpen : Mi := (RX4, cX4_isOpen, 2, (some .boolean))
abbrev E_X4_isOpen : Rm := (0, 0, 0, 0)
def rows_X4_isOpen : List (Nat × Instr × Nat) := [(0, .iload_n 1, 1), (1, .aload_n 0, 1), (2, .getfield 38, 3), (5, .if_icmp .lt 15, 3), (8, .iload_n 1, 1), (9, .aload_n 0, 1), (10, .getfield 41, 3), (13, .if_icmp .gt 7, 3), (16, .iconst 1, 1), (17, .goto 4, 3), (20, .iconst 0, 1), (21, .ireturn, 1)]
theorem D_X4_isOpen : dkA cX4_isOpen rows_X4_isOpen := by
  unfold dkA
  decide +kernel
theorem okD_X4_isOpen : okD yX4_isOpen 1 := by
  unfold okD
  decide +kernel
def w_X4_isOpen (this : Nat) (p1 : Int32) (h : Hp) (Q : Int32 → Prop) : Prop :=
  Q ((if p1 < (h this 6) then (0 : Int32) else (if (h this 7) < p1 then (0 : Int32) else (1 : Int32))) &&& 1)
theorem t_X4_isOpen {X : Cx} (this : Nat) (p1 : Int32) (h : Hp) (Q : Int32 → Prop) (hthis : RoadP this) (hw : w_X4_isOpen this p1 h Q) : G X M_X4_isOpen E_X4_isOpen (QM X E_X4_isOpen (QIp h Q) Qn) 0 0 [(0, .ref (this)), (1, .int (p1))] [] h := by
  unfold w_X4_isOpen at hw
  refine g_iload_n 1 (dk D_X4_isOpen 0 rfl) rfl rfl ?_
  refine g_aload_n 0 (dk D_X4_isOpen 1 rfl) rfl rfl ?_
  refine g_getI 6 (dk D_X4_isOpen 2 rfl) hthis.1 rfl rfl (by decide) w_188 rfl rfl ?_
  have hj : G X M_X4_isOpen E_X4_isOpen (QM X E_X4_isOpen (QIp h Q) Qn) 0 21 [(0, .ref (this)), (1, .int (p1))] [.int ((if p1 < (h this 6) then (0 : Int32) else (if (h this 7) < p1 then (0 : Int32) else (1 : Int32))))] (h) := by
    exact g_zret (dk D_X4_isOpen 11 rfl) rfl ⟨_, rfl, rfl, hw⟩
  refine g_icmp_lt (dk D_X4_isOpen 3 rfl) rfl ?_
  by_cases c2 : p1 < (h this 6)
  · rw [if_pos c2] at hj
    refine wif_p c2 ?_
    refine g_iconst (dk D_X4_isOpen 10 rfl) ki_0 ?_
    exact hj
  · rw [if_neg c2] at hj
    refine wif_n c2 ?_
    refine g_iload_n 1 (dk D_X4_isOpen 4 rfl) rfl rfl ?_
    refine g_aload_n 0 (dk D_X4_isOpen 5 rfl) rfl rfl ?_
    refine g_getI 7 (dk D_X4_isOpen 6 rfl) hthis.1 rfl rfl (by decide) w_191 rfl rfl ?_
    refine g_icmp_gt (dk D_X4_isOpen 7 rfl) rfl ?_
    by_cases c1 : (h this 7) < p1
    · rw [if_pos c1] at hj
      refine wif_p c1 ?_
      refine g_iconst (dk D_X4_isOpen 10 rfl) ki_0 ?_
      exact hj
    · rw [if_neg c1] at hj
      refine wif_n c1 ?_
      refine g_iconst (dk D_X4_isOpen 8 rfl) ki_1 ?_
      refine g_goto (dk D_X4_isOpen 9 rfl) rfl ?_
      exact hj
theorem c_X4_isOpen {X : Cx} (this : Nat) (p1 : Int32) (hthis : RoadP this) (h : Hp) (Q : Int32 → Prop) (hw : w_X4_isOpen this p1 h Q) : Con X yX4_isOpen M_X4_isOpen 0 0 0 [.ref (this), .int (p1)] h (QIp h Q) Qn :=
  con_of (by decide +kernel) rfl (Nat.le_of_ble_eq_true rfl) (t_X4_isOpen this p1 h Q hthis hw)
/-! ShadowTolls$RoadReader.clauseWord()I -/
abbrev M_X5_clauseWord : Mi := (RX5, cX5_clauseWord, 1, (some .int))
abbrev E_X5_clauseWord : Rm := (7, 232, 0, 0)
def rows_X5_clauseWord : List (Nat × Instr × Nat) := [(0, .aload_n 0, 1), (1, .getfield 9, 3), (4, .ldc 58, 2), (6, .invokevirtual 60, 3), (9, .ifCond .eq 5, 3), (12, .iconst 0, 1), (13, .ireturn, 1), (14, .aload_n 0, 1), (15, .getfield 9, 3), (18, .ldc 64, 2), (20, .invokevirtual 60, 3), (23, .ifCond .eq 5, 3), (26, .iconst 1, 1), (27, .ireturn, 1), (28, .aload_n 0, 1), (29, .getfield 9, 3), (32, .ldc 66, 2), (34, .invokevirtual 60, 3), (37, .ifCond .eq 5, 3), (40, .iconst 2, 1), (41, .ireturn, 1), (42, .aload_n 0, 1), (43, .getfield 9, 3), (46, .ldc 68, 2), (48, .invokevirtual 60, 3), (51, .ifCond .eq 5, 3), (54, .iconst 3, 1), (55, .ireturn, 1), (56, .aload_n 0, 1), (57, .getfield 9, 3), (60, .ldc 70, 2), (62, .invokevirtual 60, 3), (65, .ifCond .eq 5, 3), (68, .iconst 4, 1), (69, .ireturn, 1), (70, .aload_n 0, 1), (71, .getfield 9, 3), (74, .ldc 72, 2), (76, .invokevirtual 60, 3), (79, .ifCond .eq 5, 3), (82, .iconst 5, 1), (83, .ireturn, 1), (84, .aload_n 0, 1), (85, .getfield 9, 3), (88, .ldc 74, 2), (90, .invokevirtual 60, 3), (93, .ifCond .eq 6, 3), (96, .bipush 6, 2), (98, .ireturn, 1), (99, .aload_n 0, 1), (100, .getfield 9, 3), (103, .ldc 76, 2), (105, .invokevirtual 60, 3), (108, .ifCond .eq 6, 3), (111, .bipush 7, 2), (113, .ireturn, 1), (114, .aload_n 0, 1), (115, .getfield 9, 3), (118, .ldc 78, 2), (120, .invokevirtual 60, 3), (123, .ifCond .eq 6, 3), (126, .bipush 8, 2), (128, .ireturn, 1), (129, .aload_n 0, 1), (130, .getfield 9, 3), (133, .ldc 80, 2), (135, .invokevirtual 60, 3), (138, .ifCond .eq 6, 3), (141, .bipush 9, 2), (143, .ireturn, 1), (144, .aload_n 0, 1), (145, .getfield 9, 3), (148, .ldc 82, 2), (150, .invokevirtual 60, 3), (153, .ifCond .eq 6, 3), (156, .bipush 10, 2), (158, .ireturn, 1), (159, .aload_n 0, 1), (160, .getfield 9, 3), (163, .ldc 84, 2), (165, .invokevirtual 60, 3), (168, .ifCond .eq 8, 3), (171, .bipush 11, 2), (173, .goto 4, 3), (176, .iconst (-1), 1), (177, .ireturn, 1)]
theorem D_X5_clauseWord : dkA cX5_clauseWord rows_X5_clauseWord := by
  unfold dkA
  decide +kernel
theorem okD_X5_clauseWord : okD yX5_clauseWord 0 := by
  unfold okD
  decide +kernel
def w_X5_clauseWord (h : Hp) (Q : Int32 → Hp → Prop) : Prop :=
  w_X7_word 1 h (fun z1 h2 => wif (z1 = 0) (w_X7_word 2 h2 (fun z3 h4 => wif (z3 = 0) (w_X7_word 3 h4 (fun z5 h6 => wif (z5 = 0) (w_X7_word 4 h6 (fun z7 h8 => wif (z7 = 0) (w_X7_word 5 h8 (fun z9 h10 => wif (z9 = 0) (w_X7_word 6 h10 (fun z11 h12 => wif (z11 = 0) (w_X7_word 7 h12 (fun z13 h14 => wif (z13 = 0) (w_X7_word 8 h14 (fun z15 h16 => wif (z15 = 0) (w_X7_word 9 h16 (fun z17 h18 => wif (z17 = 0) (w_X7_word 10 h18 (fun z19 h20 => wif (z19 = 0) (w_X7_word 11 h20 (fun z21 h22 => wif (z21 = 0) (w_X7_word 12 h22 (fun z23 h24 => Q (if z23 = 0 then (-1 : Int32) else (11 : Int32)) h24)) (Q (10 : Int32) h22))) (Q (9 : Int32) h20))) (Q (8 : Int32) h18))) (Q (7 : Int32) h16))) (Q (6 : Int32) h14))) (Q (5 : Int32) h12))) (Q (4 : Int32) h10))) (Q (3 : Int32) h8))) (Q (2 : Int32) h6))) (Q (1 : Int32) h4))) (Q (0 : Int32) h2))
theorem t_X5_clauseWord {X : Cx} (h : Hp) (Q : Int32 → Hp → Prop) (hw : w_X5_clauseWord h Q) : G X M_X5_clauseWord E_X5_clauseWord (QM X E_X5_clauseWord (QI Q) Qn) 0 0 [(0, .ref (42))] [] h := by
  unfold w_X5_clauseWord at hw
  refine g_aload_n 0 (dk D_X5_clauseWord 0 rfl) rfl rfl ?_
  refine g_getR 0 (t := 1) (dk D_X5_clauseWord 1 rfl) kd_42 rfl rfl (by decide) w_272 rfl rfl rfl ?_
  refine g_ldcS 1 (dk D_X5_clauseWord 2 rfl) rfl ?_
  refine g_callV (As := [.ref (SB + 2 * 1)]) (kc := 0) (fr := 6) (lo := 200) (mc := 0) (My := M_X7_word) (dk D_X5_clauseWord 3 rfl) kd_1 rfl rfl w_802 w_803 w_804 w_102 w_805 okD_X7_word (by decide) (Nat.le_of_ble_eq_true rfl) rfl (c_X7_word 1 ((by decide)) (h) _ hw) kxN (kI (fun z1 h2 hw => ?_))
  refine g_if_eq (dk D_X5_clauseWord 4 rfl) rfl (wif_m hw (fun hw => ?_) (fun hw => ?_))
  · refine g_aload_n 0 (dk D_X5_clauseWord 7 rfl) rfl rfl ?_
    refine g_getR 0 (t := 1) (dk D_X5_clauseWord 8 rfl) kd_42 rfl rfl (by decide) w_272 rfl rfl rfl ?_
    refine g_ldcS 2 (dk D_X5_clauseWord 9 rfl) rfl ?_
    refine g_callV (As := [.ref (SB + 2 * 2)]) (kc := 0) (fr := 6) (lo := 200) (mc := 0) (My := M_X7_word) (dk D_X5_clauseWord 10 rfl) kd_1 rfl rfl w_802 w_803 w_804 w_102 w_805 okD_X7_word (by decide) (Nat.le_of_ble_eq_true rfl) rfl (c_X7_word 2 ((by decide)) (h2) _ hw) kxN (kI (fun z3 h4 hw => ?_))
    refine g_if_eq (dk D_X5_clauseWord 11 rfl) rfl (wif_m hw (fun hw => ?_) (fun hw => ?_))
    · refine g_aload_n 0 (dk D_X5_clauseWord 14 rfl) rfl rfl ?_
      refine g_getR 0 (t := 1) (dk D_X5_clauseWord 15 rfl) kd_42 rfl rfl (by decide) w_272 rfl rfl rfl ?_
      refine g_ldcS 3 (dk D_X5_clauseWord 16 rfl) rfl ?_
      refine g_callV (As := [.ref (SB + 2 * 3)]) (kc := 0) (fr := 6) (lo := 200) (mc := 0) (My := M_X7_word) (dk D_X5_clauseWord 17 rfl) kd_1 rfl rfl w_802 w_803 w_804 w_102 w_805 okD_X7_word (by decide) (Nat.le_of_ble_eq_true rfl) rfl (c_X7_word 3 ((by decide)) (h4) _ hw) kxN (kI (fun z5 h6 hw => ?_))
      refine g_if_eq (dk D_X5_clauseWord 18 rfl) rfl (wif_m hw (fun hw => ?_) (fun hw => ?_))
      · refine g_aload_n 0 (dk D_X5_clauseWord 21 rfl) rfl rfl ?_
        refine g_getR 0 (t := 1) (dk D_X5_clauseWord 22 rfl) kd_42 rfl rfl (by decide) w_272 rfl rfl rfl ?_
        refine g_ldcS 4 (dk D_X5_clauseWord 23 rfl) rfl ?_
        refine g_callV (As := [.ref (SB + 2 * 4)]) (kc := 0) (fr := 6) (lo := 200) (mc := 0) (My := M_X7_word) (dk D_X5_clauseWord 24 rfl) kd_1 rfl rfl w_802 w_803 w_804 w_102 w_805 okD_X7_word (by decide) (Nat.le_of_ble_eq_true rfl) rfl (c_X7_word 4 ((by decide)) (h6) _ hw) kxN (kI (fun z7 h8 hw => ?_))
        refine g_if_eq (dk D_X5_clauseWord 25 rfl) rfl (wif_m hw (fun hw => ?_) (fun hw => ?_))
        · refine g_aload_n 0 (dk D_X5_clauseWord 28 rfl) rfl rfl ?_
          refine g_getR 0 (t := 1) (dk D_X5_clauseWord 29 rfl) kd_42 rfl rfl (by decide) w_272 rfl rfl rfl ?_
          refine g_ldcS 5 (dk D_X5_clauseWord 30 rfl) rfl ?_
          refine g_callV (As := [.ref (SB + 2 * 5)]) (kc := 0) (fr := 6) (lo := 200) (mc := 0) (My := M_X7_word) (dk D_X5_clauseWord 31 rfl) kd_1 rfl rfl w_802 w_803 w_804 w_102 w_805 okD_X7_word (by decide) (Nat.le_of_ble_eq_true rfl) rfl (c_X7_word 5 ((by decide)) (h8) _ hw) kxN (kI (fun z9 h10 hw => ?_))
          refine g_if_eq (dk D_X5_clauseWord 32 rfl) rfl (wif_m hw (fun hw => ?_) (fun hw => ?_))
          · refine g_aload_n 0 (dk D_X5_clauseWord 35 rfl) rfl rfl ?_
            refine g_getR 0 (t := 1) (dk D_X5_clauseWord 36 rfl) kd_42 rfl rfl (by decide) w_272 rfl rfl rfl ?_
            refine g_ldcS 6 (dk D_X5_clauseWord 37 rfl) rfl ?_
            refine g_callV (As := [.ref (SB + 2 * 6)]) (kc := 0) (fr := 6) (lo := 200) (mc := 0) (My := M_X7_word) (dk D_X5_clauseWord 38 rfl) kd_1 rfl rfl w_802 w_803 w_804 w_102 w_805 okD_X7_word (by decide) (Nat.le_of_ble_eq_true rfl) rfl (c_X7_word 6 ((by decide)) (h10) _ hw) kxN (kI (fun z11 h12 hw => ?_))
            refine g_if_eq (dk D_X5_clauseWord 39 rfl) rfl (wif_m hw (fun hw => ?_) (fun hw => ?_))
            · refine g_aload_n 0 (dk D_X5_clauseWord 42 rfl) rfl rfl ?_
              refine g_getR 0 (t := 1) (dk D_X5_clauseWord 43 rfl) kd_42 rfl rfl (by decide) w_272 rfl rfl rfl ?_
              refine g_ldcS 7 (dk D_X5_clauseWord 44 rfl) rfl ?_
              refine g_callV (As := [.ref (SB + 2 * 7)]) (kc := 0) (fr := 6) (lo := 200) (mc := 0) (My := M_X7_word) (dk D_X5_clauseWord 45 rfl) kd_1 rfl rfl w_802 w_803 w_804 w_102 w_805 okD_X7_word (by decide) (Nat.le_of_ble_eq_true rfl) rfl (c_X7_word 7 ((by decide)) (h12) _ hw) kxN (kI (fun z13 h14 hw => ?_))
              refine g_if_eq (dk D_X5_clauseWord 46 rfl) rfl (wif_m hw (fun hw => ?_) (fun hw => ?_))
              · refine g_aload_n 0 (dk D_X5_clauseWord 49 rfl) rfl rfl ?_
                refine g_getR 0 (t := 1) (dk D_X5_clauseWord 50 rfl) kd_42 rfl rfl (by decide) w_272 rfl rfl rfl ?_
                refine g_ldcS 8 (dk D_X5_clauseWord 51 rfl) rfl ?_
                refine g_callV (As := [.ref (SB + 2 * 8)]) (kc := 0) (fr := 6) (lo := 200) (mc := 0) (My := M_X7_word) (dk D_X5_clauseWord 52 rfl) kd_1 rfl rfl w_802 w_803 w_804 w_102 w_805 okD_X7_word (by decide) (Nat.le_of_ble_eq_true rfl) rfl (c_X7_word 8 ((by decide)) (h14) _ hw) kxN (kI (fun z15 h16 hw => ?_))
                refine g_if_eq (dk D_X5_clauseWord 53 rfl) rfl (wif_m hw (fun hw => ?_) (fun hw => ?_))
                · refine g_aload_n 0 (dk D_X5_clauseWord 56 rfl) rfl rfl ?_
                  refine g_getR 0 (t := 1) (dk D_X5_clauseWord 57 rfl) kd_42 rfl rfl (by decide) w_272 rfl rfl rfl ?_
                  refine g_ldcS 9 (dk D_X5_clauseWord 58 rfl) rfl ?_
                  refine g_callV (As := [.ref (SB + 2 * 9)]) (kc := 0) (fr := 6) (lo := 200) (mc := 0) (My := M_X7_word) (dk D_X5_clauseWord 59 rfl) kd_1 rfl rfl w_802 w_803 w_804 w_102 w_805 okD_X7_word (by decide) (Nat.le_of_ble_eq_true rfl) rfl (c_X7_word 9 ((by decide)) (h16) _ hw) kxN (kI (fun z17 h18 hw => ?_))
                  refine g_if_eq (dk D_X5_clauseWord 60 rfl) rfl (wif_m hw (fun hw => ?_) (fun hw => ?_))
                  · refine g_aload_n 0 (dk D_X5_clauseWord 63 rfl) rfl rfl ?_
                    refine g_getR 0 (t := 1) (dk D_X5_clauseWord 64 rfl) kd_42 rfl rfl (by decide) w_272 rfl rfl rfl ?_
                    refine g_ldcS 10 (dk D_X5_clauseWord 65 rfl) rfl ?_
                    refine g_callV (As := [.ref (SB + 2 * 10)]) (kc := 0) (fr := 6) (lo := 200) (mc := 0) (My := M_X7_word) (dk D_X5_clauseWord 66 rfl) kd_1 rfl rfl w_802 w_803 w_804 w_102 w_805 okD_X7_word (by decide) (Nat.le_of_ble_eq_true rfl) rfl (c_X7_word 10 ((by decide)) (h18) _ hw) kxN (kI (fun z19 h20 hw => ?_))
                    refine g_if_eq (dk D_X5_clauseWord 67 rfl) rfl (wif_m hw (fun hw => ?_) (fun hw => ?_))
                    · refine g_aload_n 0 (dk D_X5_clauseWord 70 rfl) rfl rfl ?_
                      refine g_getR 0 (t := 1) (dk D_X5_clauseWord 71 rfl) kd_42 rfl rfl (by decide) w_272 rfl rfl rfl ?_
                      refine g_ldcS 11 (dk D_X5_clauseWord 72 rfl) rfl ?_
                      refine g_callV (As := [.ref (SB + 2 * 11)]) (kc := 0) (fr := 6) (lo := 200) (mc := 0) (My := M_X7_word) (dk D_X5_clauseWord 73 rfl) kd_1 rfl rfl w_802 w_803 w_804 w_102 w_805 okD_X7_word (by decide) (Nat.le_of_ble_eq_true rfl) rfl (c_X7_word 11 ((by decide)) (h20) _ hw) kxN (kI (fun z21 h22 hw => ?_))
                      refine g_if_eq (dk D_X5_clauseWord 74 rfl) rfl (wif_m hw (fun hw => ?_) (fun hw => ?_))
                      · refine g_aload_n 0 (dk D_X5_clauseWord 77 rfl) rfl rfl ?_
                        refine g_getR 0 (t := 1) (dk D_X5_clauseWord 78 rfl) kd_42 rfl rfl (by decide) w_272 rfl rfl rfl ?_
                        refine g_ldcS 12 (dk D_X5_clauseWord 79 rfl) rfl ?_
                        refine g_callV (As := [.ref (SB + 2 * 12)]) (kc := 0) (fr := 6) (lo := 200) (mc := 0) (My := M_X7_word) (dk D_X5_clauseWord 80 rfl) kd_1 rfl rfl w_802 w_803 w_804 w_102 w_805 okD_X7_word (by decide) (Nat.le_of_ble_eq_true rfl) rfl (c_X7_word 12 ((by decide)) (h22) _ hw) kxN (kI (fun z23 h24 hw => ?_))
                        have hj : G X M_X5_clauseWord E_X5_clauseWord (QM X E_X5_clauseWord (QI Q) Qn) 0 177 [(0, .ref (42))] [.int ((if z23 = 0 then (-1 : Int32) else (11 : Int32)))] (h24) := by
                          exact g_iret (dk D_X5_clauseWord 85 rfl) rfl ⟨_, rfl, hw⟩
                        refine g_if_eq (dk D_X5_clauseWord 81 rfl) rfl ?_
                        by_cases c25 : z23 = 0
                        · rw [if_pos c25] at hj
                          refine wif_p c25 ?_
                          refine g_iconst (dk D_X5_clauseWord 84 rfl) ki_m1 ?_
                          exact hj
                        · rw [if_neg c25] at hj
                          refine wif_n c25 ?_
                          refine g_bipush (dk D_X5_clauseWord 82 rfl) kb_11 ?_
                          refine g_goto (dk D_X5_clauseWord 83 rfl) rfl ?_
                          exact hj
                      · refine g_bipush (dk D_X5_clauseWord 75 rfl) kb_10 ?_
                        exact g_iret (dk D_X5_clauseWord 76 rfl) rfl ⟨_, rfl, hw⟩
                    · refine g_bipush (dk D_X5_clauseWord 68 rfl) kb_9 ?_
                      exact g_iret (dk D_X5_clauseWord 69 rfl) rfl ⟨_, rfl, hw⟩
                  · refine g_bipush (dk D_X5_clauseWord 61 rfl) kb_8 ?_
                    exact g_iret (dk D_X5_clauseWord 62 rfl) rfl ⟨_, rfl, hw⟩
                · refine g_bipush (dk D_X5_clauseWord 54 rfl) kb_7 ?_
                  exact g_iret (dk D_X5_clauseWord 55 rfl) rfl ⟨_, rfl, hw⟩
              · refine g_bipush (dk D_X5_clauseWord 47 rfl) kb_6 ?_
                exact g_iret (dk D_X5_clauseWord 48 rfl) rfl ⟨_, rfl, hw⟩
            · refine g_iconst (dk D_X5_clauseWord 40 rfl) ki_5 ?_
              exact g_iret (dk D_X5_clauseWord 41 rfl) rfl ⟨_, rfl, hw⟩
          · refine g_iconst (dk D_X5_clauseWord 33 rfl) ki_4 ?_
            exact g_iret (dk D_X5_clauseWord 34 rfl) rfl ⟨_, rfl, hw⟩
        · refine g_iconst (dk D_X5_clauseWord 26 rfl) ki_3 ?_
          exact g_iret (dk D_X5_clauseWord 27 rfl) rfl ⟨_, rfl, hw⟩
      · refine g_iconst (dk D_X5_clauseWord 19 rfl) ki_2 ?_
        exact g_iret (dk D_X5_clauseWord 20 rfl) rfl ⟨_, rfl, hw⟩
    · refine g_iconst (dk D_X5_clauseWord 12 rfl) ki_1 ?_
      exact g_iret (dk D_X5_clauseWord 13 rfl) rfl ⟨_, rfl, hw⟩
  · refine g_iconst (dk D_X5_clauseWord 5 rfl) ki_0 ?_
    exact g_iret (dk D_X5_clauseWord 6 rfl) rfl ⟨_, rfl, hw⟩
theorem c_X5_clauseWord {X : Cx} (h : Hp) (Q : Int32 → Hp → Prop) (hw : w_X5_clauseWord h Q) : Con X yX5_clauseWord M_X5_clauseWord 7 232 0 [.ref (42)] h (QI Q) Qn :=
  con_of (by decide +kernel) rfl (Nat.le_of_ble_eq_true rfl) (t_X5_clauseWord h Q hw)
/-! ShadowTolls$RoadReader.sun()Z -/
abbrev M_X5_sun : Mi := (RX5, cX5_sun, 3, (some .boolean))
abbrev E_X5_sun : Rm := (2, 62, 0, 0)
def rows_X5_sun : List (Nat × Instr × Nat) := [(0, .aload_n 0, 1), (1, .getfield 9, 3), (4, .iconst 0, 1), (5, .bipush 29, 2), (7, .invokevirtual 111, 3), (10, .istore_n 1, 1), (11, .iload_n 1, 1), (12, .iconst (-1), 1), (13, .if_icmp .ne 7, 3), (16, .iconst (-1), 1), (17, .goto 15, 3), (20, .aload_n 0, 1), (21, .getfield 9, 3), (24, .bipush 60, 2), (26, .sipush 5400, 3), (29, .invokevirtual 111, 3), (32, .istore_n 2, 1), (33, .iload_n 2, 1), (34, .iconst (-1), 1), (35, .if_icmp .ne 5, 3), (38, .iconst 0, 1), (39, .ireturn, 1), (40, .aload_n 0, 1), (41, .getfield 15, 3), (44, .getfield 132, 3), (47, .iload_n 1, 1), (48, .iload_n 2, 1), (49, .invokestatic 123, 3), (52, .iconst 1, 1), (53, .ireturn, 1)]
theorem D_X5_sun : dkA cX5_sun rows_X5_sun := by
  unfold dkA
  decide +kernel
theorem okD_X5_sun : okD yX5_sun 0 := by
  unfold okD
  decide +kernel
def w_X5_sun_b32 (v1 : Int32) (s0 : Int32) (h : Hp) (Q : Int32 → Hp → Prop) : Prop :=
  wif (¬ s0 = (-1 : Int32)) (w_X8_put 9 30 (v1) (s0) h (fun h1 => Q ((1 : Int32) &&& 1) h1)) (Q ((0 : Int32) &&& 1) h)
def w_X5_sun (h : Hp) (Q : Int32 → Hp → Prop) : Prop :=
  w_X7_number ((0 : Int32)) ((29 : Int32)) h (fun z1 h2 => wif (¬ z1 = (-1 : Int32)) (w_X7_number ((60 : Int32)) ((5400 : Int32)) h2 (fun z3 h4 => w_X5_sun_b32 (z1) (z3) (h4) Q)) (w_X5_sun_b32 (z1) ((-1 : Int32)) (h2) Q))
theorem t_X5_sun_b32 {X : Cx} (v1 : Int32) (s0 : Int32) (h : Hp) (Q : Int32 → Hp → Prop) (hw : w_X5_sun_b32 v1 s0 h Q) : G X M_X5_sun E_X5_sun (QM X E_X5_sun (QI Q) Qn) 0 32 [(0, .ref (42)), (1, .int (v1))] [.int (s0)] h := by
  unfold w_X5_sun_b32 at hw
  refine g_istore_n (dk D_X5_sun 16 rfl) rfl (by decide) rfl ?_
  refine g_iload_n 0 (dk D_X5_sun 17 rfl) rfl rfl ?_
  refine g_iconst (dk D_X5_sun 18 rfl) ki_m1 ?_
  refine g_icmp_ne (dk D_X5_sun 19 rfl) rfl (wif_m hw (fun hw => ?_) (fun hw => ?_))
  · refine g_aload_n 1 (dk D_X5_sun 22 rfl) rfl rfl ?_
    refine g_getR 1 (t := 8) (dk D_X5_sun 23 rfl) kd_42 rfl rfl (by decide) w_273 rfl rfl rfl ?_
    refine g_getNR 0 (t := 9) (dk D_X5_sun 24 rfl) roadP_8.1 rfl rfl (by decide) w_175 rfl rfl rfl ?_
    refine g_iload_n 2 (dk D_X5_sun 25 rfl) rfl rfl ?_
    refine g_iload_n 0 (dk D_X5_sun 26 rfl) rfl rfl ?_
    refine g_callSN (As := [.ref (9), .int (v1), .int (s0)]) (kc := 0) (fr := 0) (lo := 0) (mc := 0) (My := M_X8_put) (dk D_X5_sun 27 rfl) w_890 w_496 w_101 w_497 okD_X8_put (by decide) (Nat.le_of_ble_eq_true rfl) rfl (c_X8_put 9 30 (v1) (s0) (kd_9) (h) _ hw) kxN (kV (fun h1 hw => ?_))
    refine g_iconst (dk D_X5_sun 28 rfl) ki_1 ?_
    exact g_zret (dk D_X5_sun 29 rfl) rfl ⟨_, rfl, hw⟩
  · refine g_iconst (dk D_X5_sun 20 rfl) ki_0 ?_
    exact g_zret (dk D_X5_sun 21 rfl) rfl ⟨_, rfl, hw⟩
theorem t_X5_sun {X : Cx} (h : Hp) (Q : Int32 → Hp → Prop) (hw : w_X5_sun h Q) : G X M_X5_sun E_X5_sun (QM X E_X5_sun (QI Q) Qn) 0 0 [(0, .ref (42))] [] h := by
  unfold w_X5_sun at hw
  refine g_aload_n 0 (dk D_X5_sun 0 rfl) rfl rfl ?_
  refine g_getR 0 (t := 1) (dk D_X5_sun 1 rfl) kd_42 rfl rfl (by decide) w_272 rfl rfl rfl ?_
  refine g_iconst (dk D_X5_sun 2 rfl) ki_0 ?_
  refine g_bipush (dk D_X5_sun 3 rfl) kb_29 ?_
  refine g_callV (As := [.int ((0 : Int32)), .int ((29 : Int32))]) (kc := 0) (fr := 1) (lo := 30) (mc := 0) (My := M_X7_number) (dk D_X5_sun 4 rfl) kd_1 rfl rfl w_881 w_882 w_883 w_102 w_884 okD_X7_number (by decide) (Nat.le_of_ble_eq_true rfl) rfl (c_X7_number ((0 : Int32)) ((29 : Int32)) (h) _ hw) kxN (kI (fun z1 h2 hw => ?_))
  refine g_istore_n (dk D_X5_sun 5 rfl) rfl (by decide) rfl ?_
  refine g_iload_n 0 (dk D_X5_sun 6 rfl) rfl rfl ?_
  refine g_iconst (dk D_X5_sun 7 rfl) ki_m1 ?_
  refine g_icmp_ne (dk D_X5_sun 8 rfl) rfl (wif_m hw (fun hw => ?_) (fun hw => ?_))
  · refine g_aload_n 1 (dk D_X5_sun 11 rfl) rfl rfl ?_
    refine g_getR 0 (t := 1) (dk D_X5_sun 12 rfl) kd_42 rfl rfl (by decide) w_272 rfl rfl rfl ?_
    refine g_bipush (dk D_X5_sun 13 rfl) kb_60 ?_
    refine g_sipush (dk D_X5_sun 14 rfl) ks_5400 ?_
    refine g_callV (As := [.int ((60 : Int32)), .int ((5400 : Int32))]) (kc := 0) (fr := 1) (lo := 30) (mc := 0) (My := M_X7_number) (dk D_X5_sun 15 rfl) kd_1 rfl rfl w_881 w_882 w_883 w_102 w_884 okD_X7_number (by decide) (Nat.le_of_ble_eq_true rfl) rfl (c_X7_number ((60 : Int32)) ((5400 : Int32)) (h2) _ hw) kxN (kI (fun z3 h4 hw => ?_))
    refine g_sub [1, 0] rfl ?_
    exact t_X5_sun_b32 (z1) (z3) (h4) Q hw
  · refine g_iconst (dk D_X5_sun 9 rfl) ki_m1 ?_
    refine g_goto (dk D_X5_sun 10 rfl) rfl ?_
    refine g_sub [1, 0] rfl ?_
    exact t_X5_sun_b32 (z1) ((-1 : Int32)) (h2) Q hw
theorem c_X5_sun {X : Cx} (h : Hp) (Q : Int32 → Hp → Prop) (hw : w_X5_sun h Q) : Con X yX5_sun M_X5_sun 2 62 0 [.ref (42)] h (QI Q) Qn :=
  con_of (by decide +kernel) rfl (Nat.le_of_ble_eq_true rfl) (t_X5_sun h Q hw)
/-! ShadowTolls$RoadReader.keeper()Z -/
abbrev M_X5_keeper : Mi := (RX5, cX5_keeper, 3, (some .boolean))
abbrev E_X5_keeper : Rm := (2, 62, 0, 0)
def rows_X5_keeper : List (Nat × Instr × Nat) := [(0, .aload_n 0, 1), (1, .getfield 9, 3), (4, .iconst 0, 1), (5, .sipush 1438, 3), (8, .invokevirtual 111, 3), (11, .istore_n 1, 1), (12, .iload_n 1, 1), (13, .iconst (-1), 1), (14, .if_icmp .ne 7, 3), (17, .iconst (-1), 1), (18, .goto 16, 3), (21, .aload_n 0, 1), (22, .getfield 9, 3), (25, .iload_n 1, 1), (26, .iconst 1, 1), (27, .iadd, 1), (28, .sipush 1439, 3), (31, .invokevirtual 111, 3), (34, .istore_n 2, 1), (35, .iload_n 2, 1), (36, .iconst (-1), 1), (37, .if_icmp .ne 5, 3), (40, .iconst 0, 1), (41, .ireturn, 1), (42, .aload_n 0, 1), (43, .getfield 15, 3), (46, .iload_n 1, 1), (47, .putfield 135, 3), (50, .aload_n 0, 1), (51, .getfield 15, 3), (54, .iload_n 2, 1), (55, .putfield 138, 3), (58, .iconst 1, 1), (59, .ireturn, 1)]
theorem D_X5_keeper : dkA cX5_keeper rows_X5_keeper := by
  unfold dkA
  decide +kernel
theorem okD_X5_keeper : okD yX5_keeper 0 := by
  unfold okD
  decide +kernel
def w_X5_keeper_b34 (v1 : Int32) (s0 : Int32) (h : Hp) (Q : Int32 → Hp → Prop) : Prop :=
  wif (¬ s0 = (-1 : Int32)) (wlet (hup h 8 6 v1) (fun h1 => wlet (hup h1 8 7 s0) (fun h2 => Q ((1 : Int32) &&& 1) h2))) (Q ((0 : Int32) &&& 1) h)
def w_X5_keeper (h : Hp) (Q : Int32 → Hp → Prop) : Prop :=
  w_X7_number ((0 : Int32)) ((1438 : Int32)) h (fun z1 h2 => wif (¬ z1 = (-1 : Int32)) (w_X7_number ((z1 + (1 : Int32))) ((1439 : Int32)) h2 (fun z3 h4 => w_X5_keeper_b34 (z1) (z3) (h4) Q)) (w_X5_keeper_b34 (z1) ((-1 : Int32)) (h2) Q))
theorem t_X5_keeper_b34 {X : Cx} (v1 : Int32) (s0 : Int32) (h : Hp) (Q : Int32 → Hp → Prop) (hw : w_X5_keeper_b34 v1 s0 h Q) : G X M_X5_keeper E_X5_keeper (QM X E_X5_keeper (QI Q) Qn) 0 34 [(0, .ref (42)), (1, .int (v1))] [.int (s0)] h := by
  unfold w_X5_keeper_b34 at hw
  refine g_istore_n (dk D_X5_keeper 18 rfl) rfl (by decide) rfl ?_
  refine g_iload_n 0 (dk D_X5_keeper 19 rfl) rfl rfl ?_
  refine g_iconst (dk D_X5_keeper 20 rfl) ki_m1 ?_
  refine g_icmp_ne (dk D_X5_keeper 21 rfl) rfl (wif_m hw (fun hw => ?_) (fun hw => ?_))
  · refine g_aload_n 1 (dk D_X5_keeper 24 rfl) rfl rfl ?_
    refine g_getR 1 (t := 8) (dk D_X5_keeper 25 rfl) kd_42 rfl rfl (by decide) w_273 rfl rfl rfl ?_
    refine g_iload_n 2 (dk D_X5_keeper 26 rfl) rfl rfl ?_
    refine g_putN 6 (dk D_X5_keeper 27 rfl) roadP_8.1 rfl rfl (by decide) w_190 rfl tyX4_ok nmX4 rfl (by decide) rfl (fun z => absurd z (by decide)) ?_
    refine g_heap (fun h1 eh1 => ?_)
    replace hw := hw _ eh1
    refine g_aload_n 1 (dk D_X5_keeper 28 rfl) rfl rfl ?_
    refine g_getR 1 (t := 8) (dk D_X5_keeper 29 rfl) kd_42 rfl rfl (by decide) w_273 rfl rfl rfl ?_
    refine g_iload_n 0 (dk D_X5_keeper 30 rfl) rfl rfl ?_
    refine g_putN 7 (dk D_X5_keeper 31 rfl) roadP_8.1 rfl rfl (by decide) w_193 rfl tyX4_ok nmX4 rfl (by decide) rfl (fun z => absurd z (by decide)) ?_
    refine g_heap (fun h2 eh2 => ?_)
    replace hw := hw _ eh2
    refine g_iconst (dk D_X5_keeper 32 rfl) ki_1 ?_
    exact g_zret (dk D_X5_keeper 33 rfl) rfl ⟨_, rfl, hw⟩
  · refine g_iconst (dk D_X5_keeper 22 rfl) ki_0 ?_
    exact g_zret (dk D_X5_keeper 23 rfl) rfl ⟨_, rfl, hw⟩
theorem t_X5_keeper {X : Cx} (h : Hp) (Q : Int32 → Hp → Prop) (hw : w_X5_keeper h Q) : G X M_X5_keeper E_X5_keeper (QM X E_X5_keeper (QI Q) Qn) 0 0 [(0, .ref (42))] [] h := by
  unfold w_X5_keeper at hw
  refine g_aload_n 0 (dk D_X5_keeper 0 rfl) rfl rfl ?_
  refine g_getR 0 (t := 1) (dk D_X5_keeper 1 rfl) kd_42 rfl rfl (by decide) w_272 rfl rfl rfl ?_
  refine g_iconst (dk D_X5_keeper 2 rfl) ki_0 ?_
  refine g_sipush (dk D_X5_keeper 3 rfl) ks_1438 ?_
  refine g_callV (As := [.int ((0 : Int32)), .int ((1438 : Int32))]) (kc := 0) (fr := 1) (lo := 30) (mc := 0) (My := M_X7_number) (dk D_X5_keeper 4 rfl) kd_1 rfl rfl w_881 w_882 w_883 w_102 w_884 okD_X7_number (by decide) (Nat.le_of_ble_eq_true rfl) rfl (c_X7_number ((0 : Int32)) ((1438 : Int32)) (h) _ hw) kxN (kI (fun z1 h2 hw => ?_))
  refine g_istore_n (dk D_X5_keeper 5 rfl) rfl (by decide) rfl ?_
  refine g_iload_n 0 (dk D_X5_keeper 6 rfl) rfl rfl ?_
  refine g_iconst (dk D_X5_keeper 7 rfl) ki_m1 ?_
  refine g_icmp_ne (dk D_X5_keeper 8 rfl) rfl (wif_m hw (fun hw => ?_) (fun hw => ?_))
  · refine g_aload_n 1 (dk D_X5_keeper 11 rfl) rfl rfl ?_
    refine g_getR 0 (t := 1) (dk D_X5_keeper 12 rfl) kd_42 rfl rfl (by decide) w_272 rfl rfl rfl ?_
    refine g_iload_n 0 (dk D_X5_keeper 13 rfl) rfl rfl ?_
    refine g_iconst (dk D_X5_keeper 14 rfl) ki_1 ?_
    refine g_iadd (dk D_X5_keeper 15 rfl) ?_
    refine g_sipush (dk D_X5_keeper 16 rfl) ks_1439 ?_
    refine g_callV (As := [.int ((z1 + (1 : Int32))), .int ((1439 : Int32))]) (kc := 0) (fr := 1) (lo := 30) (mc := 0) (My := M_X7_number) (dk D_X5_keeper 17 rfl) kd_1 rfl rfl w_881 w_882 w_883 w_102 w_884 okD_X7_number (by decide) (Nat.le_of_ble_eq_true rfl) rfl (c_X7_number ((z1 + (1 : Int32))) ((1439 : Int32)) (h2) _ hw) kxN (kI (fun z3 h4 hw => ?_))
    refine g_sub [1, 0] rfl ?_
    exact t_X5_keeper_b34 (z1) (z3) (h4) Q hw
  · refine g_iconst (dk D_X5_keeper 9 rfl) ki_m1 ?_
    refine g_goto (dk D_X5_keeper 10 rfl) rfl ?_
    refine g_sub [1, 0] rfl ?_
    exact t_X5_keeper_b34 (z1) ((-1 : Int32)) (h2) Q hw
theorem c_X5_keeper {X : Cx} (h : Hp) (Q : Int32 → Hp → Prop) (hw : w_X5_keeper h Q) : Con X yX5_keeper M_X5_keeper 2 62 0 [.ref (42)] h (QI Q) Qn :=
  con_of (by decide +kernel) rfl (Nat.le_of_ble_eq_true rfl) (t_X5_keeper h Q hw)
/-! ShadowTolls$RoadReader.traits()Z -/
abbrev M_X5_traits : Mi := (RX5, cX5_traits, 7, (some .boolean))
abbrev E_X5_traits : Rm := (2, 62, 0, 0)
def rows_X5_traits : List (Nat × Instr × Nat) := [(0, .aload_n 0, 1), (1, .getfield 9, 3), (4, .bipush 50, 2), (6, .sipush 400, 3), (9, .invokevirtual 111, 3), (12, .istore_n 1, 1), (13, .iload_n 1, 1), (14, .iconst (-1), 1), (15, .if_icmp .ne 7, 3), (18, .iconst (-1), 1), (19, .goto 14, 3), (22, .aload_n 0, 1), (23, .getfield 9, 3), (26, .iconst 1, 1), (27, .sipush 999, 3), (30, .invokevirtual 111, 3), (33, .istore_n 2, 1), (34, .iload_n 2, 1), (35, .iconst (-1), 1), (36, .if_icmp .ne 7, 3), (39, .iconst (-1), 1), (40, .goto 14, 3), (43, .aload_n 0, 1), (44, .getfield 9, 3), (47, .iconst 0, 1), (48, .sipush 1439, 3), (51, .invokevirtual 111, 3), (54, .istore_n 3, 1), (55, .iload_n 3, 1), (56, .iconst (-1), 1), (57, .if_icmp .ne 7, 3), (60, .iconst (-1), 1), (61, .goto 14, 3), (64, .aload_n 0, 1), (65, .getfield 9, 3), (68, .iload_n 3, 1), (69, .sipush 1439, 3), (72, .invokevirtual 111, 3), (75, .istore 4, 2), (77, .iload 4, 2), (79, .iconst (-1), 1), (80, .if_icmp .ne 7, 3), (83, .iconst (-1), 1), (84, .goto 13, 3), (87, .aload_n 0, 1), (88, .getfield 9, 3), (91, .iconst 0, 1), (92, .bipush 9, 2), (94, .invokevirtual 111, 3), (97, .istore 5, 2), (99, .iload 5, 2), (101, .iconst (-1), 1), (102, .if_icmp .ne 5, 3), (105, .iconst 0, 1), (106, .ireturn, 1), (107, .aload_n 0, 1), (108, .getfield 15, 3), (111, .getfield 48, 3), (114, .istore 6, 2), (116, .aload_n 0, 1), (117, .getfield 15, 3), (120, .iload 6, 2), (122, .iconst 0, 1), (123, .iload_n 1, 1), (124, .invokevirtual 141, 3), (127, .aload_n 0, 1), (128, .getfield 15, 3), (131, .iload 6, 2), (133, .iconst 1, 1), (134, .iload_n 2, 1), (135, .invokevirtual 141, 3), (138, .aload_n 0, 1), (139, .getfield 15, 3), (142, .iload 6, 2), (144, .iconst 2, 1), (145, .iload_n 3, 1), (146, .invokevirtual 141, 3), (149, .aload_n 0, 1), (150, .getfield 15, 3), (153, .iload 6, 2), (155, .iconst 3, 1), (156, .iload 4, 2), (158, .invokevirtual 141, 3), (161, .aload_n 0, 1), (162, .getfield 15, 3), (165, .iload 6, 2), (167, .iconst 4, 1), (168, .iload 5, 2), (170, .invokevirtual 141, 3), (173, .aload_n 0, 1), (174, .getfield 15, 3), (177, .dup, 1), (178, .getfield 48, 3), (181, .iconst 1, 1), (182, .iadd, 1), (183, .putfield 48, 3), (186, .iconst 1, 1), (187, .ireturn, 1)]
theorem D_X5_traits : dkA cX5_traits rows_X5_traits := by
  unfold dkA
  decide +kernel
theorem okD_X5_traits : okD yX5_traits 0 := by
  unfold okD
  decide +kernel
def w_X5_traits_b97 (v1 : Int32) (v2 : Int32) (v3 : Int32) (v4 : Int32) (s0 : Int32) (h : Hp) (Q : Int32 → Hp → Prop) : Prop :=
  wif (¬ s0 = (-1 : Int32)) (wlet ((h 8 4)) (fun v6_1 => w_X4_setTrait 8 (v6_1) ((0 : Int32)) (v1) h (fun h2 => w_X4_setTrait 8 (v6_1) ((1 : Int32)) (v2) h2 (fun h3 => w_X4_setTrait 8 (v6_1) ((2 : Int32)) (v3) h3 (fun h4 => w_X4_setTrait 8 (v6_1) ((3 : Int32)) (v4) h4 (fun h5 => w_X4_setTrait 8 (v6_1) ((4 : Int32)) (s0) h5 (fun h6 => wlet (hup h6 8 4 ((h6 8 4) + (1 : Int32))) (fun h7 => Q ((1 : Int32) &&& 1) h7)))))))) (Q ((0 : Int32) &&& 1) h)
def w_X5_traits_b75 (v1 : Int32) (v2 : Int32) (v3 : Int32) (s0 : Int32) (h : Hp) (Q : Int32 → Hp → Prop) : Prop :=
  wif (¬ s0 = (-1 : Int32)) (w_X7_number ((0 : Int32)) ((9 : Int32)) h (fun z1 h2 => w_X5_traits_b97 (v1) (v2) (v3) (s0) (z1) (h2) Q)) (w_X5_traits_b97 (v1) (v2) (v3) (s0) ((-1 : Int32)) (h) Q)
def w_X5_traits_b54 (v1 : Int32) (v2 : Int32) (s0 : Int32) (h : Hp) (Q : Int32 → Hp → Prop) : Prop :=
  wif (¬ s0 = (-1 : Int32)) (w_X7_number (s0) ((1439 : Int32)) h (fun z1 h2 => w_X5_traits_b75 (v1) (v2) (s0) (z1) (h2) Q)) (w_X5_traits_b75 (v1) (v2) (s0) ((-1 : Int32)) (h) Q)
def w_X5_traits_b33 (v1 : Int32) (s0 : Int32) (h : Hp) (Q : Int32 → Hp → Prop) : Prop :=
  wif (¬ s0 = (-1 : Int32)) (w_X7_number ((0 : Int32)) ((1439 : Int32)) h (fun z1 h2 => w_X5_traits_b54 (v1) (s0) (z1) (h2) Q)) (w_X5_traits_b54 (v1) (s0) ((-1 : Int32)) (h) Q)
def w_X5_traits (h : Hp) (Q : Int32 → Hp → Prop) : Prop :=
  w_X7_number ((50 : Int32)) ((400 : Int32)) h (fun z1 h2 => wif (¬ z1 = (-1 : Int32)) (w_X7_number ((1 : Int32)) ((999 : Int32)) h2 (fun z3 h4 => w_X5_traits_b33 (z1) (z3) (h4) Q)) (w_X5_traits_b33 (z1) ((-1 : Int32)) (h2) Q))
theorem t_X5_traits_b97 {X : Cx} (v1 : Int32) (v2 : Int32) (v3 : Int32) (v4 : Int32) (s0 : Int32) (h : Hp) (Q : Int32 → Hp → Prop) (hw : w_X5_traits_b97 v1 v2 v3 v4 s0 h Q) : G X M_X5_traits E_X5_traits (QM X E_X5_traits (QI Q) Qn) 0 97 [(0, .ref (42)), (1, .int (v1)), (2, .int (v2)), (3, .int (v3)), (4, .int (v4))] [.int (s0)] h := by
  unfold w_X5_traits_b97 at hw
  refine g_istore (dk D_X5_traits 49 rfl) (by decide) rfl ?_
  refine g_iload 0 (dk D_X5_traits 50 rfl) rfl ?_
  refine g_iconst (dk D_X5_traits 51 rfl) ki_m1 ?_
  refine g_icmp_ne (dk D_X5_traits 52 rfl) rfl (wif_m hw (fun hw => ?_) (fun hw => ?_))
  · refine g_aload_n 1 (dk D_X5_traits 55 rfl) rfl rfl ?_
    refine g_getR 1 (t := 8) (dk D_X5_traits 56 rfl) kd_42 rfl rfl (by decide) w_273 rfl rfl rfl ?_
    refine g_getNI 4 (dk D_X5_traits 57 rfl) roadP_8.1 rfl rfl (by decide) w_183 rfl rfl ?_
    refine g_topi (fun v6_1 ev6_1 => ?_)
    replace hw := hw _ ev6_1
    refine g_istore (dk D_X5_traits 58 rfl) (by decide) rfl ?_
    refine g_aload_n 2 (dk D_X5_traits 59 rfl) rfl rfl ?_
    refine g_getR 1 (t := 8) (dk D_X5_traits 60 rfl) kd_42 rfl rfl (by decide) w_273 rfl rfl rfl ?_
    refine g_iload 0 (dk D_X5_traits 61 rfl) rfl ?_
    refine g_iconst (dk D_X5_traits 62 rfl) ki_0 ?_
    refine g_iload_n 3 (dk D_X5_traits 63 rfl) rfl rfl ?_
    refine g_callV (As := [.int (v6_1), .int ((0 : Int32)), .int (v1)]) (kc := 0) (fr := 1) (lo := 30) (mc := 0) (My := M_X4_setTrait) (dk D_X5_traits 64 rfl) roadP_8.1 rfl rfl w_899 w_900 w_901 w_103 w_902 okD_X4_setTrait (by decide) (Nat.le_of_ble_eq_true rfl) rfl (c_X4_setTrait 8 (v6_1) ((0 : Int32)) (v1) (roadP_8) (h) _ hw) kxN (kV (fun h2 hw => ?_))
    refine g_aload_n 2 (dk D_X5_traits 65 rfl) rfl rfl ?_
    refine g_getR 1 (t := 8) (dk D_X5_traits 66 rfl) kd_42 rfl rfl (by decide) w_273 rfl rfl rfl ?_
    refine g_iload 0 (dk D_X5_traits 67 rfl) rfl ?_
    refine g_iconst (dk D_X5_traits 68 rfl) ki_1 ?_
    refine g_iload_n 4 (dk D_X5_traits 69 rfl) rfl rfl ?_
    refine g_callV (As := [.int (v6_1), .int ((1 : Int32)), .int (v2)]) (kc := 0) (fr := 1) (lo := 30) (mc := 0) (My := M_X4_setTrait) (dk D_X5_traits 70 rfl) roadP_8.1 rfl rfl w_899 w_900 w_901 w_103 w_902 okD_X4_setTrait (by decide) (Nat.le_of_ble_eq_true rfl) rfl (c_X4_setTrait 8 (v6_1) ((1 : Int32)) (v2) (roadP_8) (h2) _ hw) kxN (kV (fun h3 hw => ?_))
    refine g_aload_n 2 (dk D_X5_traits 71 rfl) rfl rfl ?_
    refine g_getR 1 (t := 8) (dk D_X5_traits 72 rfl) kd_42 rfl rfl (by decide) w_273 rfl rfl rfl ?_
    refine g_iload 0 (dk D_X5_traits 73 rfl) rfl ?_
    refine g_iconst (dk D_X5_traits 74 rfl) ki_2 ?_
    refine g_iload_n 5 (dk D_X5_traits 75 rfl) rfl rfl ?_
    refine g_callV (As := [.int (v6_1), .int ((2 : Int32)), .int (v3)]) (kc := 0) (fr := 1) (lo := 30) (mc := 0) (My := M_X4_setTrait) (dk D_X5_traits 76 rfl) roadP_8.1 rfl rfl w_899 w_900 w_901 w_103 w_902 okD_X4_setTrait (by decide) (Nat.le_of_ble_eq_true rfl) rfl (c_X4_setTrait 8 (v6_1) ((2 : Int32)) (v3) (roadP_8) (h3) _ hw) kxN (kV (fun h4 hw => ?_))
    refine g_aload_n 2 (dk D_X5_traits 77 rfl) rfl rfl ?_
    refine g_getR 1 (t := 8) (dk D_X5_traits 78 rfl) kd_42 rfl rfl (by decide) w_273 rfl rfl rfl ?_
    refine g_iload 0 (dk D_X5_traits 79 rfl) rfl ?_
    refine g_iconst (dk D_X5_traits 80 rfl) ki_3 ?_
    refine g_iload 6 (dk D_X5_traits 81 rfl) rfl ?_
    refine g_callV (As := [.int (v6_1), .int ((3 : Int32)), .int (v4)]) (kc := 0) (fr := 1) (lo := 30) (mc := 0) (My := M_X4_setTrait) (dk D_X5_traits 82 rfl) roadP_8.1 rfl rfl w_899 w_900 w_901 w_103 w_902 okD_X4_setTrait (by decide) (Nat.le_of_ble_eq_true rfl) rfl (c_X4_setTrait 8 (v6_1) ((3 : Int32)) (v4) (roadP_8) (h4) _ hw) kxN (kV (fun h5 hw => ?_))
    refine g_aload_n 2 (dk D_X5_traits 83 rfl) rfl rfl ?_
    refine g_getR 1 (t := 8) (dk D_X5_traits 84 rfl) kd_42 rfl rfl (by decide) w_273 rfl rfl rfl ?_
    refine g_iload 0 (dk D_X5_traits 85 rfl) rfl ?_
    refine g_iconst (dk D_X5_traits 86 rfl) ki_4 ?_
    refine g_iload 1 (dk D_X5_traits 87 rfl) rfl ?_
    refine g_callV (As := [.int (v6_1), .int ((4 : Int32)), .int (s0)]) (kc := 0) (fr := 1) (lo := 30) (mc := 0) (My := M_X4_setTrait) (dk D_X5_traits 88 rfl) roadP_8.1 rfl rfl w_899 w_900 w_901 w_103 w_902 okD_X4_setTrait (by decide) (Nat.le_of_ble_eq_true rfl) rfl (c_X4_setTrait 8 (v6_1) ((4 : Int32)) (s0) (roadP_8) (h5) _ hw) kxN (kV (fun h6 hw => ?_))
    refine g_aload_n 2 (dk D_X5_traits 89 rfl) rfl rfl ?_
    refine g_getR 1 (t := 8) (dk D_X5_traits 90 rfl) kd_42 rfl rfl (by decide) w_273 rfl rfl rfl ?_
    refine g_dup (dk D_X5_traits 91 rfl) rfl ?_
    refine g_getNI 4 (dk D_X5_traits 92 rfl) roadP_8.1 rfl rfl (by decide) w_183 rfl rfl ?_
    refine g_iconst (dk D_X5_traits 93 rfl) ki_1 ?_
    refine g_iadd (dk D_X5_traits 94 rfl) ?_
    refine g_putN 4 (dk D_X5_traits 95 rfl) roadP_8.1 rfl rfl (by decide) w_183 rfl tyX4_ok nmX4 rfl (by decide) rfl (fun z => absurd z (by decide)) ?_
    refine g_heap (fun h7 eh7 => ?_)
    replace hw := hw _ eh7
    refine g_iconst (dk D_X5_traits 96 rfl) ki_1 ?_
    exact g_zret (dk D_X5_traits 97 rfl) rfl ⟨_, rfl, hw⟩
  · refine g_iconst (dk D_X5_traits 53 rfl) ki_0 ?_
    exact g_zret (dk D_X5_traits 54 rfl) rfl ⟨_, rfl, hw⟩
theorem t_X5_traits_b75 {X : Cx} (v1 : Int32) (v2 : Int32) (v3 : Int32) (s0 : Int32) (h : Hp) (Q : Int32 → Hp → Prop) (hw : w_X5_traits_b75 v1 v2 v3 s0 h Q) : G X M_X5_traits E_X5_traits (QM X E_X5_traits (QI Q) Qn) 0 75 [(0, .ref (42)), (1, .int (v1)), (2, .int (v2)), (3, .int (v3))] [.int (s0)] h := by
  unfold w_X5_traits_b75 at hw
  refine g_istore (dk D_X5_traits 38 rfl) (by decide) rfl ?_
  refine g_iload 0 (dk D_X5_traits 39 rfl) rfl ?_
  refine g_iconst (dk D_X5_traits 40 rfl) ki_m1 ?_
  refine g_icmp_ne (dk D_X5_traits 41 rfl) rfl (wif_m hw (fun hw => ?_) (fun hw => ?_))
  · refine g_aload_n 1 (dk D_X5_traits 44 rfl) rfl rfl ?_
    refine g_getR 0 (t := 1) (dk D_X5_traits 45 rfl) kd_42 rfl rfl (by decide) w_272 rfl rfl rfl ?_
    refine g_iconst (dk D_X5_traits 46 rfl) ki_0 ?_
    refine g_bipush (dk D_X5_traits 47 rfl) kb_9 ?_
    refine g_callV (As := [.int ((0 : Int32)), .int ((9 : Int32))]) (kc := 0) (fr := 1) (lo := 30) (mc := 0) (My := M_X7_number) (dk D_X5_traits 48 rfl) kd_1 rfl rfl w_881 w_882 w_883 w_102 w_884 okD_X7_number (by decide) (Nat.le_of_ble_eq_true rfl) rfl (c_X7_number ((0 : Int32)) ((9 : Int32)) (h) _ hw) kxN (kI (fun z1 h2 hw => ?_))
    refine g_sub [1, 2, 3, 4, 0] rfl ?_
    exact t_X5_traits_b97 (v1) (v2) (v3) (s0) (z1) (h2) Q hw
  · refine g_iconst (dk D_X5_traits 42 rfl) ki_m1 ?_
    refine g_goto (dk D_X5_traits 43 rfl) rfl ?_
    refine g_sub [1, 2, 3, 4, 0] rfl ?_
    exact t_X5_traits_b97 (v1) (v2) (v3) (s0) ((-1 : Int32)) (h) Q hw
theorem t_X5_traits_b54 {X : Cx} (v1 : Int32) (v2 : Int32) (s0 : Int32) (h : Hp) (Q : Int32 → Hp → Prop) (hw : w_X5_traits_b54 v1 v2 s0 h Q) : G X M_X5_traits E_X5_traits (QM X E_X5_traits (QI Q) Qn) 0 54 [(0, .ref (42)), (1, .int (v1)), (2, .int (v2))] [.int (s0)] h := by
  unfold w_X5_traits_b54 at hw
  refine g_istore_n (dk D_X5_traits 27 rfl) rfl (by decide) rfl ?_
  refine g_iload_n 0 (dk D_X5_traits 28 rfl) rfl rfl ?_
  refine g_iconst (dk D_X5_traits 29 rfl) ki_m1 ?_
  refine g_icmp_ne (dk D_X5_traits 30 rfl) rfl (wif_m hw (fun hw => ?_) (fun hw => ?_))
  · refine g_aload_n 1 (dk D_X5_traits 33 rfl) rfl rfl ?_
    refine g_getR 0 (t := 1) (dk D_X5_traits 34 rfl) kd_42 rfl rfl (by decide) w_272 rfl rfl rfl ?_
    refine g_iload_n 0 (dk D_X5_traits 35 rfl) rfl rfl ?_
    refine g_sipush (dk D_X5_traits 36 rfl) ks_1439 ?_
    refine g_callV (As := [.int (s0), .int ((1439 : Int32))]) (kc := 0) (fr := 1) (lo := 30) (mc := 0) (My := M_X7_number) (dk D_X5_traits 37 rfl) kd_1 rfl rfl w_881 w_882 w_883 w_102 w_884 okD_X7_number (by decide) (Nat.le_of_ble_eq_true rfl) rfl (c_X7_number (s0) ((1439 : Int32)) (h) _ hw) kxN (kI (fun z1 h2 hw => ?_))
    refine g_sub [1, 2, 3, 0] rfl ?_
    exact t_X5_traits_b75 (v1) (v2) (s0) (z1) (h2) Q hw
  · refine g_iconst (dk D_X5_traits 31 rfl) ki_m1 ?_
    refine g_goto (dk D_X5_traits 32 rfl) rfl ?_
    refine g_sub [1, 2, 3, 0] rfl ?_
    exact t_X5_traits_b75 (v1) (v2) (s0) ((-1 : Int32)) (h) Q hw
theorem t_X5_traits_b33 {X : Cx} (v1 : Int32) (s0 : Int32) (h : Hp) (Q : Int32 → Hp → Prop) (hw : w_X5_traits_b33 v1 s0 h Q) : G X M_X5_traits E_X5_traits (QM X E_X5_traits (QI Q) Qn) 0 33 [(0, .ref (42)), (1, .int (v1))] [.int (s0)] h := by
  unfold w_X5_traits_b33 at hw
  refine g_istore_n (dk D_X5_traits 16 rfl) rfl (by decide) rfl ?_
  refine g_iload_n 0 (dk D_X5_traits 17 rfl) rfl rfl ?_
  refine g_iconst (dk D_X5_traits 18 rfl) ki_m1 ?_
  refine g_icmp_ne (dk D_X5_traits 19 rfl) rfl (wif_m hw (fun hw => ?_) (fun hw => ?_))
  · refine g_aload_n 1 (dk D_X5_traits 22 rfl) rfl rfl ?_
    refine g_getR 0 (t := 1) (dk D_X5_traits 23 rfl) kd_42 rfl rfl (by decide) w_272 rfl rfl rfl ?_
    refine g_iconst (dk D_X5_traits 24 rfl) ki_0 ?_
    refine g_sipush (dk D_X5_traits 25 rfl) ks_1439 ?_
    refine g_callV (As := [.int ((0 : Int32)), .int ((1439 : Int32))]) (kc := 0) (fr := 1) (lo := 30) (mc := 0) (My := M_X7_number) (dk D_X5_traits 26 rfl) kd_1 rfl rfl w_881 w_882 w_883 w_102 w_884 okD_X7_number (by decide) (Nat.le_of_ble_eq_true rfl) rfl (c_X7_number ((0 : Int32)) ((1439 : Int32)) (h) _ hw) kxN (kI (fun z1 h2 hw => ?_))
    refine g_sub [1, 2, 0] rfl ?_
    exact t_X5_traits_b54 (v1) (s0) (z1) (h2) Q hw
  · refine g_iconst (dk D_X5_traits 20 rfl) ki_m1 ?_
    refine g_goto (dk D_X5_traits 21 rfl) rfl ?_
    refine g_sub [1, 2, 0] rfl ?_
    exact t_X5_traits_b54 (v1) (s0) ((-1 : Int32)) (h) Q hw
theorem t_X5_traits {X : Cx} (h : Hp) (Q : Int32 → Hp → Prop) (hw : w_X5_traits h Q) : G X M_X5_traits E_X5_traits (QM X E_X5_traits (QI Q) Qn) 0 0 [(0, .ref (42))] [] h := by
  unfold w_X5_traits at hw
  refine g_aload_n 0 (dk D_X5_traits 0 rfl) rfl rfl ?_
  refine g_getR 0 (t := 1) (dk D_X5_traits 1 rfl) kd_42 rfl rfl (by decide) w_272 rfl rfl rfl ?_
  refine g_bipush (dk D_X5_traits 2 rfl) kb_50 ?_
  refine g_sipush (dk D_X5_traits 3 rfl) ks_400 ?_
  refine g_callV (As := [.int ((50 : Int32)), .int ((400 : Int32))]) (kc := 0) (fr := 1) (lo := 30) (mc := 0) (My := M_X7_number) (dk D_X5_traits 4 rfl) kd_1 rfl rfl w_881 w_882 w_883 w_102 w_884 okD_X7_number (by decide) (Nat.le_of_ble_eq_true rfl) rfl (c_X7_number ((50 : Int32)) ((400 : Int32)) (h) _ hw) kxN (kI (fun z1 h2 hw => ?_))
  refine g_istore_n (dk D_X5_traits 5 rfl) rfl (by decide) rfl ?_
  refine g_iload_n 0 (dk D_X5_traits 6 rfl) rfl rfl ?_
  refine g_iconst (dk D_X5_traits 7 rfl) ki_m1 ?_
  refine g_icmp_ne (dk D_X5_traits 8 rfl) rfl (wif_m hw (fun hw => ?_) (fun hw => ?_))
  · refine g_aload_n 1 (dk D_X5_traits 11 rfl) rfl rfl ?_
    refine g_getR 0 (t := 1) (dk D_X5_traits 12 rfl) kd_42 rfl rfl (by decide) w_272 rfl rfl rfl ?_
    refine g_iconst (dk D_X5_traits 13 rfl) ki_1 ?_
    refine g_sipush (dk D_X5_traits 14 rfl) ks_999 ?_
    refine g_callV (As := [.int ((1 : Int32)), .int ((999 : Int32))]) (kc := 0) (fr := 1) (lo := 30) (mc := 0) (My := M_X7_number) (dk D_X5_traits 15 rfl) kd_1 rfl rfl w_881 w_882 w_883 w_102 w_884 okD_X7_number (by decide) (Nat.le_of_ble_eq_true rfl) rfl (c_X7_number ((1 : Int32)) ((999 : Int32)) (h2) _ hw) kxN (kI (fun z3 h4 hw => ?_))
    refine g_sub [1, 0] rfl ?_
    exact t_X5_traits_b33 (z1) (z3) (h4) Q hw
  · refine g_iconst (dk D_X5_traits 9 rfl) ki_m1 ?_
    refine g_goto (dk D_X5_traits 10 rfl) rfl ?_
    refine g_sub [1, 0] rfl ?_
    exact t_X5_traits_b33 (z1) ((-1 : Int32)) (h2) Q hw
theorem c_X5_traits {X : Cx} (h : Hp) (Q : Int32 → Hp → Prop) (hw : w_X5_traits h Q) : Con X yX5_traits M_X5_traits 2 62 0 [.ref (42)] h (QI Q) Qn :=
  con_of (by decide +kernel) rfl (Nat.le_of_ble_eq_true rfl) (t_X5_traits h Q hw)
/-! ShadowTolls$RoadReader.trait(III)Z -/
abbrev M_X5_trait : Mi := (RX5, cX5_trait, 6, (some .boolean))
abbrev E_X5_trait : Rm := (2, 62, 0, 0)
def rows_X5_trait : List (Nat × Instr × Nat) := [(0, .aload_n 0, 1), (1, .getfield 9, 3), (4, .iconst 0, 1), (5, .aload_n 0, 1), (6, .getfield 15, 3), (9, .getfield 48, 3), (12, .iconst 1, 1), (13, .isub, 1), (14, .invokevirtual 111, 3), (17, .istore 4, 2), (19, .iload 4, 2), (21, .iconst (-1), 1), (22, .if_icmp .ne 7, 3), (25, .iconst (-1), 1), (26, .goto 12, 3), (29, .aload_n 0, 1), (30, .getfield 9, 3), (33, .iload_n 2, 1), (34, .iload_n 3, 1), (35, .invokevirtual 111, 3), (38, .istore 5, 2), (40, .iload 5, 2), (42, .iconst (-1), 1), (43, .if_icmp .ne 5, 3), (46, .iconst 0, 1), (47, .ireturn, 1), (48, .aload_n 0, 1), (49, .getfield 15, 3), (52, .iload 4, 2), (54, .iload_n 1, 1), (55, .iload 5, 2), (57, .invokevirtual 141, 3), (60, .iconst 1, 1), (61, .ireturn, 1)]
theorem D_X5_trait : dkA cX5_trait rows_X5_trait := by
  unfold dkA
  decide +kernel
theorem okD_X5_trait : okD yX5_trait 3 := by
  unfold okD
  decide +kernel
def w_X5_trait_b38 (p1 : Int32) (p2 : Int32) (p3 : Int32) (v4 : Int32) (s0 : Int32) (h : Hp) (Q : Int32 → Hp → Prop) : Prop :=
  wif (¬ s0 = (-1 : Int32)) (w_X4_setTrait 8 (v4) (p1) (s0) h (fun h1 => Q ((1 : Int32) &&& 1) h1)) (Q ((0 : Int32) &&& 1) h)
def w_X5_trait (p1 : Int32) (p2 : Int32) (p3 : Int32) (h : Hp) (Q : Int32 → Hp → Prop) : Prop :=
  w_X7_number ((0 : Int32)) (((h 8 4) - (1 : Int32))) h (fun z1 h2 => wif (¬ z1 = (-1 : Int32)) (w_X7_number (p2) (p3) h2 (fun z3 h4 => w_X5_trait_b38 p1 p2 p3 (z1) (z3) (h4) Q)) (w_X5_trait_b38 p1 p2 p3 (z1) ((-1 : Int32)) (h2) Q))
theorem t_X5_trait_b38 {X : Cx} (p1 : Int32) (p2 : Int32) (p3 : Int32) (v4 : Int32) (s0 : Int32) (h : Hp) (Q : Int32 → Hp → Prop) (hw : w_X5_trait_b38 p1 p2 p3 v4 s0 h Q) : G X M_X5_trait E_X5_trait (QM X E_X5_trait (QI Q) Qn) 0 38 [(0, .ref (42)), (1, .int (p1)), (4, .int (v4))] [.int (s0)] h := by
  unfold w_X5_trait_b38 at hw
  refine g_istore (dk D_X5_trait 20 rfl) (by decide) rfl ?_
  refine g_iload 0 (dk D_X5_trait 21 rfl) rfl ?_
  refine g_iconst (dk D_X5_trait 22 rfl) ki_m1 ?_
  refine g_icmp_ne (dk D_X5_trait 23 rfl) rfl (wif_m hw (fun hw => ?_) (fun hw => ?_))
  · refine g_aload_n 1 (dk D_X5_trait 26 rfl) rfl rfl ?_
    refine g_getR 1 (t := 8) (dk D_X5_trait 27 rfl) kd_42 rfl rfl (by decide) w_273 rfl rfl rfl ?_
    refine g_iload 3 (dk D_X5_trait 28 rfl) rfl ?_
    refine g_iload_n 2 (dk D_X5_trait 29 rfl) rfl rfl ?_
    refine g_iload 0 (dk D_X5_trait 30 rfl) rfl ?_
    refine g_callV (As := [.int (v4), .int (p1), .int (s0)]) (kc := 0) (fr := 1) (lo := 30) (mc := 0) (My := M_X4_setTrait) (dk D_X5_trait 31 rfl) roadP_8.1 rfl rfl w_899 w_900 w_901 w_103 w_902 okD_X4_setTrait (by decide) (Nat.le_of_ble_eq_true rfl) rfl (c_X4_setTrait 8 (v4) (p1) (s0) (roadP_8) (h) _ hw) kxN (kV (fun h1 hw => ?_))
    refine g_iconst (dk D_X5_trait 32 rfl) ki_1 ?_
    exact g_zret (dk D_X5_trait 33 rfl) rfl ⟨_, rfl, hw⟩
  · refine g_iconst (dk D_X5_trait 24 rfl) ki_0 ?_
    exact g_zret (dk D_X5_trait 25 rfl) rfl ⟨_, rfl, hw⟩
theorem t_X5_trait {X : Cx} (p1 : Int32) (p2 : Int32) (p3 : Int32) (h : Hp) (Q : Int32 → Hp → Prop) (hw : w_X5_trait p1 p2 p3 h Q) : G X M_X5_trait E_X5_trait (QM X E_X5_trait (QI Q) Qn) 0 0 [(0, .ref (42)), (1, .int (p1)), (2, .int (p2)), (3, .int (p3))] [] h := by
  unfold w_X5_trait at hw
  refine g_aload_n 0 (dk D_X5_trait 0 rfl) rfl rfl ?_
  refine g_getR 0 (t := 1) (dk D_X5_trait 1 rfl) kd_42 rfl rfl (by decide) w_272 rfl rfl rfl ?_
  refine g_iconst (dk D_X5_trait 2 rfl) ki_0 ?_
  refine g_aload_n 0 (dk D_X5_trait 3 rfl) rfl rfl ?_
  refine g_getR 1 (t := 8) (dk D_X5_trait 4 rfl) kd_42 rfl rfl (by decide) w_273 rfl rfl rfl ?_
  refine g_getNI 4 (dk D_X5_trait 5 rfl) roadP_8.1 rfl rfl (by decide) w_183 rfl rfl ?_
  refine g_iconst (dk D_X5_trait 6 rfl) ki_1 ?_
  refine g_isub (dk D_X5_trait 7 rfl) ?_
  refine g_callV (As := [.int ((0 : Int32)), .int (((h 8 4) - (1 : Int32)))]) (kc := 0) (fr := 1) (lo := 30) (mc := 0) (My := M_X7_number) (dk D_X5_trait 8 rfl) kd_1 rfl rfl w_881 w_882 w_883 w_102 w_884 okD_X7_number (by decide) (Nat.le_of_ble_eq_true rfl) rfl (c_X7_number ((0 : Int32)) (((h 8 4) - (1 : Int32))) (h) _ hw) kxN (kI (fun z1 h2 hw => ?_))
  refine g_istore (dk D_X5_trait 9 rfl) (by decide) rfl ?_
  refine g_iload 0 (dk D_X5_trait 10 rfl) rfl ?_
  refine g_iconst (dk D_X5_trait 11 rfl) ki_m1 ?_
  refine g_icmp_ne (dk D_X5_trait 12 rfl) rfl (wif_m hw (fun hw => ?_) (fun hw => ?_))
  · refine g_aload_n 1 (dk D_X5_trait 15 rfl) rfl rfl ?_
    refine g_getR 0 (t := 1) (dk D_X5_trait 16 rfl) kd_42 rfl rfl (by decide) w_272 rfl rfl rfl ?_
    refine g_iload_n 3 (dk D_X5_trait 17 rfl) rfl rfl ?_
    refine g_iload_n 4 (dk D_X5_trait 18 rfl) rfl rfl ?_
    refine g_callV (As := [.int (p2), .int (p3)]) (kc := 0) (fr := 1) (lo := 30) (mc := 0) (My := M_X7_number) (dk D_X5_trait 19 rfl) kd_1 rfl rfl w_881 w_882 w_883 w_102 w_884 okD_X7_number (by decide) (Nat.le_of_ble_eq_true rfl) rfl (c_X7_number (p2) (p3) (h2) _ hw) kxN (kI (fun z3 h4 hw => ?_))
    refine g_sub [1, 2, 0] rfl ?_
    exact t_X5_trait_b38 p1 p2 p3 (z1) (z3) (h4) Q hw
  · refine g_iconst (dk D_X5_trait 13 rfl) ki_m1 ?_
    refine g_goto (dk D_X5_trait 14 rfl) rfl ?_
    refine g_sub [1, 2, 0] rfl ?_
    exact t_X5_trait_b38 p1 p2 p3 (z1) ((-1 : Int32)) (h2) Q hw
theorem c_X5_trait {X : Cx} (p1 : Int32) (p2 : Int32) (p3 : Int32) (h : Hp) (Q : Int32 → Hp → Prop) (hw : w_X5_trait p1 p2 p3 h Q) : Con X yX5_trait M_X5_trait 2 62 0 [.ref (42), .int (p1), .int (p2), .int (p3)] h (QI Q) Qn :=
  con_of (by decide +kernel) rfl (Nat.le_of_ble_eq_true rfl) (t_X5_trait p1 p2 p3 h Q hw)
/-! ShadowTolls$RoadReader.secondBridge()Z -/
abbrev M_X5_secondBridge : Mi := (RX5, cX5_secondBridge, 3, (some .boolean))
abbrev E_X5_secondBridge : Rm := (2, 62, 0, 0)
def rows_X5_secondBridge : List (Nat × Instr × Nat) := [(0, .aload_n 0, 1), (1, .getfield 9, 3), (4, .iconst 0, 1), (5, .bipush 60, 2), (7, .invokevirtual 111, 3), (10, .istore_n 1, 1), (11, .iload_n 1, 1), (12, .iconst (-1), 1), (13, .if_icmp .ne 7, 3), (16, .iconst (-1), 1), (17, .goto 13, 3), (20, .aload_n 0, 1), (21, .getfield 9, 3), (24, .iconst 0, 1), (25, .bipush 99, 2), (27, .invokevirtual 111, 3), (30, .istore_n 2, 1), (31, .iload_n 2, 1), (32, .iconst (-1), 1), (33, .if_icmp .ne 5, 3), (36, .iconst 0, 1), (37, .ireturn, 1), (38, .aload_n 0, 1), (39, .getfield 15, 3), (42, .iload_n 1, 1), (43, .putfield 145, 3), (46, .aload_n 0, 1), (47, .getfield 15, 3), (50, .iload_n 2, 1), (51, .putfield 148, 3), (54, .aload_n 0, 1), (55, .getfield 15, 3), (58, .iconst 1, 1), (59, .putfield 151, 3), (62, .iconst 1, 1), (63, .ireturn, 1)]
theorem D_X5_secondBridge : dkA cX5_secondBridge rows_X5_secondBridge := by
  unfold dkA
  decide +kernel
theorem okD_X5_secondBridge : okD yX5_secondBridge 0 := by
  unfold okD
  decide +kernel
def w_X5_secondBridge_b30 (v1 : Int32) (s0 : Int32) (h : Hp) (Q : Int32 → Hp → Prop) : Prop :=
  wif (¬ s0 = (-1 : Int32)) (wlet (hup h 8 11 v1) (fun h1 => wlet (hup h1 8 12 s0) (fun h2 => wlet (hup h2 8 14 (1 : Int32)) (fun h3 => Q ((1 : Int32) &&& 1) h3)))) (Q ((0 : Int32) &&& 1) h)
def w_X5_secondBridge (h : Hp) (Q : Int32 → Hp → Prop) : Prop :=
  w_X7_number ((0 : Int32)) ((60 : Int32)) h (fun z1 h2 => wif (¬ z1 = (-1 : Int32)) (w_X7_number ((0 : Int32)) ((99 : Int32)) h2 (fun z3 h4 => w_X5_secondBridge_b30 (z1) (z3) (h4) Q)) (w_X5_secondBridge_b30 (z1) ((-1 : Int32)) (h2) Q))
theorem t_X5_secondBridge_b30 {X : Cx} (v1 : Int32) (s0 : Int32) (h : Hp) (Q : Int32 → Hp → Prop) (hw : w_X5_secondBridge_b30 v1 s0 h Q) : G X M_X5_secondBridge E_X5_secondBridge (QM X E_X5_secondBridge (QI Q) Qn) 0 30 [(0, .ref (42)), (1, .int (v1))] [.int (s0)] h := by
  unfold w_X5_secondBridge_b30 at hw
  refine g_istore_n (dk D_X5_secondBridge 16 rfl) rfl (by decide) rfl ?_
  refine g_iload_n 0 (dk D_X5_secondBridge 17 rfl) rfl rfl ?_
  refine g_iconst (dk D_X5_secondBridge 18 rfl) ki_m1 ?_
  refine g_icmp_ne (dk D_X5_secondBridge 19 rfl) rfl (wif_m hw (fun hw => ?_) (fun hw => ?_))
  · refine g_aload_n 1 (dk D_X5_secondBridge 22 rfl) rfl rfl ?_
    refine g_getR 1 (t := 8) (dk D_X5_secondBridge 23 rfl) kd_42 rfl rfl (by decide) w_273 rfl rfl rfl ?_
    refine g_iload_n 2 (dk D_X5_secondBridge 24 rfl) rfl rfl ?_
    refine g_putN 11 (dk D_X5_secondBridge 25 rfl) roadP_8.1 rfl rfl (by decide) w_205 rfl tyX4_ok nmX4 rfl (by decide) rfl (fun z => absurd z (by decide)) ?_
    refine g_heap (fun h1 eh1 => ?_)
    replace hw := hw _ eh1
    refine g_aload_n 1 (dk D_X5_secondBridge 26 rfl) rfl rfl ?_
    refine g_getR 1 (t := 8) (dk D_X5_secondBridge 27 rfl) kd_42 rfl rfl (by decide) w_273 rfl rfl rfl ?_
    refine g_iload_n 0 (dk D_X5_secondBridge 28 rfl) rfl rfl ?_
    refine g_putN 12 (dk D_X5_secondBridge 29 rfl) roadP_8.1 rfl rfl (by decide) w_207 rfl tyX4_ok nmX4 rfl (by decide) rfl (fun z => absurd z (by decide)) ?_
    refine g_heap (fun h2 eh2 => ?_)
    replace hw := hw _ eh2
    refine g_aload_n 1 (dk D_X5_secondBridge 30 rfl) rfl rfl ?_
    refine g_getR 1 (t := 8) (dk D_X5_secondBridge 31 rfl) kd_42 rfl rfl (by decide) w_273 rfl rfl rfl ?_
    refine g_iconst (dk D_X5_secondBridge 32 rfl) ki_1 ?_
    refine g_putN 14 (dk D_X5_secondBridge 33 rfl) roadP_8.1 rfl rfl (by decide) w_214 rfl tyX4_ok nmX4 rfl (by decide) rfl (fun _ => by decide) ?_
    refine g_heap (fun h3 eh3 => ?_)
    replace hw := hw _ eh3
    refine g_iconst (dk D_X5_secondBridge 34 rfl) ki_1 ?_
    exact g_zret (dk D_X5_secondBridge 35 rfl) rfl ⟨_, rfl, hw⟩
  · refine g_iconst (dk D_X5_secondBridge 20 rfl) ki_0 ?_
    exact g_zret (dk D_X5_secondBridge 21 rfl) rfl ⟨_, rfl, hw⟩
theorem t_X5_secondBridge {X : Cx} (h : Hp) (Q : Int32 → Hp → Prop) (hw : w_X5_secondBridge h Q) : G X M_X5_secondBridge E_X5_secondBridge (QM X E_X5_secondBridge (QI Q) Qn) 0 0 [(0, .ref (42))] [] h := by
  unfold w_X5_secondBridge at hw
  refine g_aload_n 0 (dk D_X5_secondBridge 0 rfl) rfl rfl ?_
  refine g_getR 0 (t := 1) (dk D_X5_secondBridge 1 rfl) kd_42 rfl rfl (by decide) w_272 rfl rfl rfl ?_
  refine g_iconst (dk D_X5_secondBridge 2 rfl) ki_0 ?_
  refine g_bipush (dk D_X5_secondBridge 3 rfl) kb_60 ?_
  refine g_callV (As := [.int ((0 : Int32)), .int ((60 : Int32))]) (kc := 0) (fr := 1) (lo := 30) (mc := 0) (My := M_X7_number) (dk D_X5_secondBridge 4 rfl) kd_1 rfl rfl w_881 w_882 w_883 w_102 w_884 okD_X7_number (by decide) (Nat.le_of_ble_eq_true rfl) rfl (c_X7_number ((0 : Int32)) ((60 : Int32)) (h) _ hw) kxN (kI (fun z1 h2 hw => ?_))
  refine g_istore_n (dk D_X5_secondBridge 5 rfl) rfl (by decide) rfl ?_
  refine g_iload_n 0 (dk D_X5_secondBridge 6 rfl) rfl rfl ?_
  refine g_iconst (dk D_X5_secondBridge 7 rfl) ki_m1 ?_
  refine g_icmp_ne (dk D_X5_secondBridge 8 rfl) rfl (wif_m hw (fun hw => ?_) (fun hw => ?_))
  · refine g_aload_n 1 (dk D_X5_secondBridge 11 rfl) rfl rfl ?_
    refine g_getR 0 (t := 1) (dk D_X5_secondBridge 12 rfl) kd_42 rfl rfl (by decide) w_272 rfl rfl rfl ?_
    refine g_iconst (dk D_X5_secondBridge 13 rfl) ki_0 ?_
    refine g_bipush (dk D_X5_secondBridge 14 rfl) kb_99 ?_
    refine g_callV (As := [.int ((0 : Int32)), .int ((99 : Int32))]) (kc := 0) (fr := 1) (lo := 30) (mc := 0) (My := M_X7_number) (dk D_X5_secondBridge 15 rfl) kd_1 rfl rfl w_881 w_882 w_883 w_102 w_884 okD_X7_number (by decide) (Nat.le_of_ble_eq_true rfl) rfl (c_X7_number ((0 : Int32)) ((99 : Int32)) (h2) _ hw) kxN (kI (fun z3 h4 hw => ?_))
    refine g_sub [1, 0] rfl ?_
    exact t_X5_secondBridge_b30 (z1) (z3) (h4) Q hw
  · refine g_iconst (dk D_X5_secondBridge 9 rfl) ki_m1 ?_
    refine g_goto (dk D_X5_secondBridge 10 rfl) rfl ?_
    refine g_sub [1, 0] rfl ?_
    exact t_X5_secondBridge_b30 (z1) ((-1 : Int32)) (h2) Q hw
theorem c_X5_secondBridge {X : Cx} (h : Hp) (Q : Int32 → Hp → Prop) (hw : w_X5_secondBridge h Q) : Con X yX5_secondBridge M_X5_secondBridge 2 62 0 [.ref (42)] h (QI Q) Qn :=
  con_of (by decide +kernel) rfl (Nat.le_of_ble_eq_true rfl) (t_X5_secondBridge h Q hw)
