/-! ShadowTollsModel.coins(IIIIZ)I -/
abbrev M_X9_coins : Mi := (RX9, cX9_coins, 6, (some .int))
abbrev E_X9_coins : Rm := (5, 172, 0, 0)
def rows_X9_coins : List (Nat × Instr × Nat) := [(0, .aload_n 0, 1), (1, .iconst 0, 1), (2, .putfield 111, 3), (5, .aload_n 0, 1), (6, .aload_n 0, 1), (7, .iload_n 1, 1), (8, .invokevirtual 290, 3), (11, .ifCond .ne 7, 3), (14, .iconst 1, 1), (15, .goto 4, 3), (18, .iconst 0, 1), (19, .iconst 1, 1), (20, .invokevirtual 202, 3), (23, .ifCond .ne 52, 3), (26, .aload_n 0, 1), (27, .aload_n 0, 1), (28, .iload_n 2, 1), (29, .invokevirtual 278, 3), (32, .ifCond .ne 7, 3), (35, .iconst 1, 1), (36, .goto 4, 3), (39, .iconst 0, 1), (40, .iconst 2, 1), (41, .invokevirtual 202, 3), (44, .ifCond .ne 31, 3), (47, .aload_n 0, 1), (48, .iload_n 3, 1), (49, .invokestatic 281, 3), (52, .ifCond .eq 11, 3), (55, .iload 4, 2), (57, .invokestatic 293, 3), (60, .ifCond .ne 7, 3), (63, .iconst 1, 1), (64, .goto 4, 3), (67, .iconst 0, 1), (68, .iconst 3, 1), (69, .invokevirtual 202, 3), (72, .ifCond .eq 5, 3), (75, .iconst 0, 1), (76, .ireturn, 1), (77, .aload_n 0, 1), (78, .iload_n 1, 1), (79, .iload_n 2, 1), (80, .iload_n 3, 1), (81, .iload 4, 2), (83, .iload 5, 2), (85, .invokevirtual 316, 3), (88, .ireturn, 1)]
theorem D_X9_coins : dkA cX9_coins rows_X9_coins := by
  unfold dkA
  decide +kernel
theorem okD_X9_coins : okD yX9_coins 5 := by
  unfold okD
  decide +kernel
def w_X9_coins_b68 (p1 : Int32) (p2 : Int32) (p3 : Int32) (p4 : Int32) (p5 : Int32) (s0 : Int32) (h : Hp) (Q : Int32 → Hp → Prop) : Prop :=
  w_X9_bad (s0) ((3 : Int32)) h (fun z1 h2 => wif (z1 = 0) (w_X9_coinsOf (p1) (p2) (p3) (p4) (p5) h2 (fun z3 h4 => Q z3 h4)) (Q (0 : Int32) h2))
def w_X9_coins_b63 (p1 : Int32) (p2 : Int32) (p3 : Int32) (p4 : Int32) (p5 : Int32) (h : Hp) (Q : Int32 → Hp → Prop) : Prop :=
  w_X9_coins_b68 p1 p2 p3 p4 p5 ((1 : Int32)) (h) Q
def w_X9_coins (p1 : Int32) (p2 : Int32) (p3 : Int32) (p4 : Int32) (p5 : Int32) (h : Hp) (Q : Int32 → Hp → Prop) : Prop :=
  wlet (hup h 92 0 (0 : Int32)) (fun h1 => w_X9_isBridge (p1) h1 (fun z2 => w_X9_bad ((if ¬ z2 = 0 then (0 : Int32) else (1 : Int32))) ((1 : Int32)) h1 (fun z4 h5 => wif (¬ z4 = 0) (Q (0 : Int32) h5) (w_X9_isWho (p2) h5 (fun z6 => w_X9_bad ((if ¬ z6 = 0 then (0 : Int32) else (1 : Int32))) ((2 : Int32)) h5 (fun z8 h9 => wif (¬ z8 = 0) (Q (0 : Int32) h9) (w_X9_isDay (p3) h9 (fun z10 => wif (z10 = 0) (w_X9_coins_b63 p1 p2 p3 p4 p5 (h9) Q) (w_X9_isMinute (p4) h9 (fun z11 => w_X9_bad ((if ¬ z11 = 0 then (0 : Int32) else (1 : Int32))) ((3 : Int32)) h9 (fun z13 h14 => wif (z13 = 0) (w_X9_coinsOf (p1) (p2) (p3) (p4) (p5) h14 (fun z15 h16 => Q z15 h16)) (Q (0 : Int32) h14))))))))))))
theorem t_X9_coins_b68 {X : Cx} (p1 : Int32) (p2 : Int32) (p3 : Int32) (p4 : Int32) (p5 : Int32) (s0 : Int32) (h : Hp) (Q : Int32 → Hp → Prop) (hw : w_X9_coins_b68 p1 p2 p3 p4 p5 s0 h Q) : G X M_X9_coins E_X9_coins (QM X E_X9_coins (QI Q) Qn) 0 68 [(0, .ref (92)), (1, .int (p1)), (2, .int (p2)), (3, .int (p3)), (4, .int (p4)), (5, .int (p5))] [.int (s0), .ref (92)] h := by
  unfold w_X9_coins_b68 at hw
  refine g_iconst (dk D_X9_coins 35 rfl) ki_3 ?_
  refine g_callV (As := [.int (s0), .int ((3 : Int32))]) (kc := 0) (fr := 0) (lo := 0) (mc := 0) (My := M_X9_bad) (dk D_X9_coins 36 rfl) kd_92 rfl rfl w_1530 w_1532 w_42 w_110 w_1533 okD_X9_bad (by decide) (Nat.le_of_ble_eq_true rfl) rfl (c_X9_bad (s0) ((3 : Int32)) (h) _ hw) kxN (kI (fun z1 h2 hw => ?_))
  refine g_if_eq (dk D_X9_coins 37 rfl) rfl (wif_m hw (fun hw => ?_) (fun hw => ?_))
  · refine g_aload_n 0 (dk D_X9_coins 40 rfl) rfl rfl ?_
    refine g_iload_n 1 (dk D_X9_coins 41 rfl) rfl rfl ?_
    refine g_iload_n 2 (dk D_X9_coins 42 rfl) rfl rfl ?_
    refine g_iload_n 3 (dk D_X9_coins 43 rfl) rfl rfl ?_
    refine g_iload 4 (dk D_X9_coins 44 rfl) rfl ?_
    refine g_iload 5 (dk D_X9_coins 45 rfl) rfl ?_
    refine g_callV (As := [.int (p1), .int (p2), .int (p3), .int (p4), .int (p5)]) (kc := 0) (fr := 4) (lo := 136) (mc := 0) (My := M_X9_coinsOf) (dk D_X9_coins 46 rfl) kd_92 rfl rfl w_1717 w_1719 w_73 w_110 w_1720 okD_X9_coinsOf (by decide) (Nat.le_of_ble_eq_true rfl) rfl (c_X9_coinsOf (p1) (p2) (p3) (p4) (p5) (h2) _ hw) kxN (kI (fun z3 h4 hw => ?_))
    exact g_iret (dk D_X9_coins 47 rfl) rfl ⟨_, rfl, hw⟩
  · refine g_iconst (dk D_X9_coins 38 rfl) ki_0 ?_
    exact g_iret (dk D_X9_coins 39 rfl) rfl ⟨_, rfl, hw⟩
theorem t_X9_coins_b63 {X : Cx} (p1 : Int32) (p2 : Int32) (p3 : Int32) (p4 : Int32) (p5 : Int32) (h : Hp) (Q : Int32 → Hp → Prop) (hw : w_X9_coins_b63 p1 p2 p3 p4 p5 h Q) : G X M_X9_coins E_X9_coins (QM X E_X9_coins (QI Q) Qn) 0 63 [(0, .ref (92)), (1, .int (p1)), (2, .int (p2)), (3, .int (p3)), (4, .int (p4)), (5, .int (p5))] [.ref (92)] h := by
  unfold w_X9_coins_b63 at hw
  refine g_iconst (dk D_X9_coins 32 rfl) ki_1 ?_
  refine g_goto (dk D_X9_coins 33 rfl) rfl ?_
  exact t_X9_coins_b68 p1 p2 p3 p4 p5 ((1 : Int32)) (h) Q hw
theorem t_X9_coins {X : Cx} (p1 : Int32) (p2 : Int32) (p3 : Int32) (p4 : Int32) (p5 : Int32) (h : Hp) (Q : Int32 → Hp → Prop) (hw : w_X9_coins p1 p2 p3 p4 p5 h Q) : G X M_X9_coins E_X9_coins (QM X E_X9_coins (QI Q) Qn) 0 0 [(0, .ref (92)), (1, .int (p1)), (2, .int (p2)), (3, .int (p3)), (4, .int (p4)), (5, .int (p5))] [] h := by
  unfold w_X9_coins at hw
  refine g_aload_n 0 (dk D_X9_coins 0 rfl) rfl rfl ?_
  refine g_iconst (dk D_X9_coins 1 rfl) ki_0 ?_
  refine g_put 0 (dk D_X9_coins 2 rfl) kd_92 rfl rfl (by decide) w_1357 rfl tyX9_ok nmX9 rfl (by decide) rfl (fun z => absurd z (by decide)) ?_
  refine g_heap (fun h1 eh1 => ?_)
  replace hw := hw _ eh1
  refine g_aload_n 0 (dk D_X9_coins 3 rfl) rfl rfl ?_
  refine g_aload_n 0 (dk D_X9_coins 4 rfl) rfl rfl ?_
  refine g_iload_n 1 (dk D_X9_coins 5 rfl) rfl rfl ?_
  refine g_callV (As := [.int (p1)]) (kc := 0) (fr := 0) (lo := 0) (mc := 0) (My := M_X9_isBridge) (dk D_X9_coins 6 rfl) kd_92 rfl rfl w_1687 w_1689 w_70 w_110 w_1690 okD_X9_isBridge (by decide) (Nat.le_of_ble_eq_true rfl) rfl (c_X9_isBridge (p1) (h1) _ hw) kxN (kIp (fun z2 hw => ?_))
  have hj : G X M_X9_coins E_X9_coins (QM X E_X9_coins (QI Q) Qn) 0 19 [(0, .ref (92)), (1, .int (p1)), (2, .int (p2)), (3, .int (p3)), (4, .int (p4)), (5, .int (p5))] [.int ((if ¬ z2 = 0 then (0 : Int32) else (1 : Int32))), .ref (92)] (h1) := by
    refine g_iconst (dk D_X9_coins 11 rfl) ki_1 ?_
    refine g_callV (As := [.int ((if ¬ z2 = 0 then (0 : Int32) else (1 : Int32))), .int ((1 : Int32))]) (kc := 0) (fr := 0) (lo := 0) (mc := 0) (My := M_X9_bad) (dk D_X9_coins 12 rfl) kd_92 rfl rfl w_1530 w_1532 w_42 w_110 w_1533 okD_X9_bad (by decide) (Nat.le_of_ble_eq_true rfl) rfl (c_X9_bad ((if ¬ z2 = 0 then (0 : Int32) else (1 : Int32))) ((1 : Int32)) (h1) _ hw) kxN (kI (fun z4 h5 hw => ?_))
    refine g_if_ne (dk D_X9_coins 13 rfl) rfl (wif_m hw (fun hw => ?_) (fun hw => ?_))
    · refine g_iconst (dk D_X9_coins 38 rfl) ki_0 ?_
      exact g_iret (dk D_X9_coins 39 rfl) rfl ⟨_, rfl, hw⟩
    · refine g_aload_n 0 (dk D_X9_coins 14 rfl) rfl rfl ?_
      refine g_aload_n 0 (dk D_X9_coins 15 rfl) rfl rfl ?_
      refine g_iload_n 2 (dk D_X9_coins 16 rfl) rfl rfl ?_
      refine g_callV (As := [.int (p2)]) (kc := 0) (fr := 1) (lo := 30) (mc := 0) (My := M_X9_isWho) (dk D_X9_coins 17 rfl) kd_92 rfl rfl w_1668 w_1670 w_68 w_110 w_1671 okD_X9_isWho (by decide) (Nat.le_of_ble_eq_true rfl) rfl (c_X9_isWho (p2) (h5) _ hw) kxN (kIp (fun z6 hw => ?_))
      have hj : G X M_X9_coins E_X9_coins (QM X E_X9_coins (QI Q) Qn) 0 40 [(0, .ref (92)), (1, .int (p1)), (2, .int (p2)), (3, .int (p3)), (4, .int (p4)), (5, .int (p5))] [.int ((if ¬ z6 = 0 then (0 : Int32) else (1 : Int32))), .ref (92)] (h5) := by
        refine g_iconst (dk D_X9_coins 22 rfl) ki_2 ?_
        refine g_callV (As := [.int ((if ¬ z6 = 0 then (0 : Int32) else (1 : Int32))), .int ((2 : Int32))]) (kc := 0) (fr := 0) (lo := 0) (mc := 0) (My := M_X9_bad) (dk D_X9_coins 23 rfl) kd_92 rfl rfl w_1530 w_1532 w_42 w_110 w_1533 okD_X9_bad (by decide) (Nat.le_of_ble_eq_true rfl) rfl (c_X9_bad ((if ¬ z6 = 0 then (0 : Int32) else (1 : Int32))) ((2 : Int32)) (h5) _ hw) kxN (kI (fun z8 h9 hw => ?_))
        refine g_if_ne (dk D_X9_coins 24 rfl) rfl (wif_m hw (fun hw => ?_) (fun hw => ?_))
        · refine g_iconst (dk D_X9_coins 38 rfl) ki_0 ?_
          exact g_iret (dk D_X9_coins 39 rfl) rfl ⟨_, rfl, hw⟩
        · refine g_aload_n 0 (dk D_X9_coins 25 rfl) rfl rfl ?_
          refine g_iload_n 3 (dk D_X9_coins 26 rfl) rfl rfl ?_
          refine g_callS (As := [.int (p3)]) (kc := 0) (fr := 1) (lo := 30) (mc := 0) (My := M_X9_isDay) (dk D_X9_coins 27 rfl) w_1676 w_1677 w_110 w_1678 okD_X9_isDay (by decide) (Nat.le_of_ble_eq_true rfl) rfl (c_X9_isDay (p3) (h9) _ hw) kxN (kIp (fun z10 hw => ?_))
          refine g_if_eq (dk D_X9_coins 28 rfl) rfl (wif_m hw (fun hw => ?_) (fun hw => ?_))
          · exact t_X9_coins_b63 p1 p2 p3 p4 p5 (h9) Q hw
          · refine g_iload 4 (dk D_X9_coins 29 rfl) rfl ?_
            refine g_callS (As := [.int (p4)]) (kc := 0) (fr := 1) (lo := 30) (mc := 0) (My := M_X9_isMinute) (dk D_X9_coins 30 rfl) w_1691 w_1692 w_110 w_1693 okD_X9_isMinute (by decide) (Nat.le_of_ble_eq_true rfl) rfl (c_X9_isMinute (p4) (h9) _ hw) kxN (kIp (fun z11 hw => ?_))
            have hj : G X M_X9_coins E_X9_coins (QM X E_X9_coins (QI Q) Qn) 0 68 [(0, .ref (92)), (1, .int (p1)), (2, .int (p2)), (3, .int (p3)), (4, .int (p4)), (5, .int (p5))] [.int ((if ¬ z11 = 0 then (0 : Int32) else (1 : Int32))), .ref (92)] (h9) := by
              refine g_iconst (dk D_X9_coins 35 rfl) ki_3 ?_
              refine g_callV (As := [.int ((if ¬ z11 = 0 then (0 : Int32) else (1 : Int32))), .int ((3 : Int32))]) (kc := 0) (fr := 0) (lo := 0) (mc := 0) (My := M_X9_bad) (dk D_X9_coins 36 rfl) kd_92 rfl rfl w_1530 w_1532 w_42 w_110 w_1533 okD_X9_bad (by decide) (Nat.le_of_ble_eq_true rfl) rfl (c_X9_bad ((if ¬ z11 = 0 then (0 : Int32) else (1 : Int32))) ((3 : Int32)) (h9) _ hw) kxN (kI (fun z13 h14 hw => ?_))
              refine g_if_eq (dk D_X9_coins 37 rfl) rfl (wif_m hw (fun hw => ?_) (fun hw => ?_))
              · refine g_aload_n 0 (dk D_X9_coins 40 rfl) rfl rfl ?_
                refine g_iload_n 1 (dk D_X9_coins 41 rfl) rfl rfl ?_
                refine g_iload_n 2 (dk D_X9_coins 42 rfl) rfl rfl ?_
                refine g_iload_n 3 (dk D_X9_coins 43 rfl) rfl rfl ?_
                refine g_iload 4 (dk D_X9_coins 44 rfl) rfl ?_
                refine g_iload 5 (dk D_X9_coins 45 rfl) rfl ?_
                refine g_callV (As := [.int (p1), .int (p2), .int (p3), .int (p4), .int (p5)]) (kc := 0) (fr := 4) (lo := 136) (mc := 0) (My := M_X9_coinsOf) (dk D_X9_coins 46 rfl) kd_92 rfl rfl w_1717 w_1719 w_73 w_110 w_1720 okD_X9_coinsOf (by decide) (Nat.le_of_ble_eq_true rfl) rfl (c_X9_coinsOf (p1) (p2) (p3) (p4) (p5) (h14) _ hw) kxN (kI (fun z15 h16 hw => ?_))
                exact g_iret (dk D_X9_coins 47 rfl) rfl ⟨_, rfl, hw⟩
              · refine g_iconst (dk D_X9_coins 38 rfl) ki_0 ?_
                exact g_iret (dk D_X9_coins 39 rfl) rfl ⟨_, rfl, hw⟩
            refine g_if_ne (dk D_X9_coins 31 rfl) rfl ?_
            by_cases c12 : ¬ z11 = 0
            · rw [if_pos c12] at hj
              refine wif_p c12 ?_
              refine g_iconst (dk D_X9_coins 34 rfl) ki_0 ?_
              exact hj
            · rw [if_neg c12] at hj
              refine wif_n c12 ?_
              refine g_iconst (dk D_X9_coins 32 rfl) ki_1 ?_
              refine g_goto (dk D_X9_coins 33 rfl) rfl ?_
              exact hj
      refine g_if_ne (dk D_X9_coins 18 rfl) rfl ?_
      by_cases c7 : ¬ z6 = 0
      · rw [if_pos c7] at hj
        refine wif_p c7 ?_
        refine g_iconst (dk D_X9_coins 21 rfl) ki_0 ?_
        exact hj
      · rw [if_neg c7] at hj
        refine wif_n c7 ?_
        refine g_iconst (dk D_X9_coins 19 rfl) ki_1 ?_
        refine g_goto (dk D_X9_coins 20 rfl) rfl ?_
        exact hj
  refine g_if_ne (dk D_X9_coins 7 rfl) rfl ?_
  by_cases c3 : ¬ z2 = 0
  · rw [if_pos c3] at hj
    refine wif_p c3 ?_
    refine g_iconst (dk D_X9_coins 10 rfl) ki_0 ?_
    exact hj
  · rw [if_neg c3] at hj
    refine wif_n c3 ?_
    refine g_iconst (dk D_X9_coins 8 rfl) ki_1 ?_
    refine g_goto (dk D_X9_coins 9 rfl) rfl ?_
    exact hj
theorem c_X9_coins {X : Cx} (p1 : Int32) (p2 : Int32) (p3 : Int32) (p4 : Int32) (p5 : Int32) (h : Hp) (Q : Int32 → Hp → Prop) (hw : w_X9_coins p1 p2 p3 p4 p5 h Q) : Con X yX9_coins M_X9_coins 5 172 0 [.ref (92), .int (p1), .int (p2), .int (p3), .int (p4), .int (p5)] h (QI Q) Qn :=
  con_of (by decide +kernel) rfl (Nat.le_of_ble_eq_true rfl) (t_X9_coins p1 p2 p3 p4 p5 h Q hw)
/-! ShadowTollsModel.canCome(II)Z -/
abbrev M_X9_canCome : Mi := (RX9, cX9_canCome, 3, (some .boolean))
abbrev E_X9_canCome : Rm := (1, 30, 0, 0)
def rows_X9_canCome : List (Nat × Instr × Nat) := [(0, .iload_n 2, 1), (1, .aload_n 0, 1), (2, .getfield 20, 3), (5, .iconst 2, 1), (6, .iaload, 1), (7, .aload_n 0, 1), (8, .getfield 20, 3), (11, .iconst 3, 1), (12, .iaload, 1), (13, .invokestatic 145, 3), (16, .ifCond .eq 30, 3), (19, .iload_n 2, 1), (20, .aload_n 0, 1), (21, .getfield 40, 3), (24, .iload_n 1, 1), (25, .aaload, 1), (26, .iconst 2, 1), (27, .iaload, 1), (28, .aload_n 0, 1), (29, .getfield 40, 3), (32, .iload_n 1, 1), (33, .aaload, 1), (34, .iconst 3, 1), (35, .iaload, 1), (36, .invokestatic 145, 3), (39, .ifCond .eq 7, 3), (42, .iconst 1, 1), (43, .goto 4, 3), (46, .iconst 0, 1), (47, .ireturn, 1)]
theorem D_X9_canCome : dkA cX9_canCome rows_X9_canCome := by
  unfold dkA
  decide +kernel
theorem okD_X9_canCome : okD yX9_canCome 2 := by
  unfold okD
  decide +kernel
def w_X9_canCome (p1 : Int32) (p2 : Int32) (h : Hp) (Q : Int32 → Prop) : Prop :=
  (vp_in (2 : Int32) 11 ∧ (vp_in (3 : Int32) 11 ∧ w_X9_in (p2) ((h 95 (Int32.toNatClampNeg (2 : Int32)))) ((h 95 (Int32.toNatClampNeg (3 : Int32)))) h (fun z3 => wif (z3 = 0) (Q ((0 : Int32) &&& 1)) ((vp_in p1 8 ∧ (vp_in (2 : Int32) 7 ∧ (vp_in p1 8 ∧ (vp_in (3 : Int32) 7 ∧ w_X9_in (p2) ((h (110 + 1 * Int32.toNatClampNeg (p1)) (Int32.toNatClampNeg (2 : Int32)))) ((h (110 + 1 * Int32.toNatClampNeg (p1)) (Int32.toNatClampNeg (3 : Int32)))) h (fun z8 => Q ((if z8 = 0 then (0 : Int32) else (1 : Int32)) &&& 1))))))))))
theorem t_X9_canCome {X : Cx} (p1 : Int32) (p2 : Int32) (h : Hp) (Q : Int32 → Prop) (hw : w_X9_canCome p1 p2 h Q) : G X M_X9_canCome E_X9_canCome (QM X E_X9_canCome (QIp h Q) Qn) 0 0 [(0, .ref (92)), (1, .int (p1)), (2, .int (p2))] [] h := by
  unfold w_X9_canCome at hw
  refine g_iload_n 2 (dk D_X9_canCome 0 rfl) rfl rfl ?_
  refine g_aload_n 0 (dk D_X9_canCome 1 rfl) rfl rfl ?_
  refine g_getR 11 (t := 95) (dk D_X9_canCome 2 rfl) kd_92 rfl rfl (by decide) w_1368 rfl rfl rfl ?_
  refine g_iconst (dk D_X9_canCome 3 rfl) ki_2 ?_
  obtain ⟨hi1, hw⟩ := hw
  refine g_iald (dk D_X9_canCome 4 rfl) kd_95 hi1 ?_
  refine g_aload_n 0 (dk D_X9_canCome 5 rfl) rfl rfl ?_
  refine g_getR 11 (t := 95) (dk D_X9_canCome 6 rfl) kd_92 rfl rfl (by decide) w_1368 rfl rfl rfl ?_
  refine g_iconst (dk D_X9_canCome 7 rfl) ki_3 ?_
  obtain ⟨hi2, hw⟩ := hw
  refine g_iald (dk D_X9_canCome 8 rfl) kd_95 hi2 ?_
  refine g_callS (As := [.int (p2), .int ((h 95 (Int32.toNatClampNeg (2 : Int32)))), .int ((h 95 (Int32.toNatClampNeg (3 : Int32))))]) (kc := 0) (fr := 0) (lo := 0) (mc := 0) (My := M_X9_in) (dk D_X9_canCome 9 rfl) w_1527 w_1528 w_110 w_1529 okD_X9_in (by decide) (Nat.le_of_ble_eq_true rfl) rfl (c_X9_in (p2) ((h 95 (Int32.toNatClampNeg (2 : Int32)))) ((h 95 (Int32.toNatClampNeg (3 : Int32)))) (h) _ hw) kxN (kIp (fun z3 hw => ?_))
  refine g_if_eq (dk D_X9_canCome 10 rfl) rfl (wif_m hw (fun hw => ?_) (fun hw => ?_))
  · refine g_iconst (dk D_X9_canCome 28 rfl) ki_0 ?_
    exact g_zret (dk D_X9_canCome 29 rfl) rfl ⟨_, rfl, rfl, hw⟩
  · refine g_iload_n 2 (dk D_X9_canCome 11 rfl) rfl rfl ?_
    refine g_aload_n 0 (dk D_X9_canCome 12 rfl) rfl rfl ?_
    refine g_getR 17 (t := 109) (dk D_X9_canCome 13 rfl) kd_92 rfl rfl (by decide) w_1374 rfl rfl rfl ?_
    refine g_iload_n 1 (dk D_X9_canCome 14 rfl) rfl rfl ?_
    obtain ⟨hi4, hw⟩ := hw
    refine g_aald (dk D_X9_canCome 15 rfl) kd_109 rfl rfl hi4 ?_
    refine g_iconst (dk D_X9_canCome 16 rfl) ki_2 ?_
    obtain ⟨hi5, hw⟩ := hw
    refine g_iald (dk D_X9_canCome 17 rfl) (kdf_109 _ (in_lt hi4)) hi5 ?_
    refine g_aload_n 0 (dk D_X9_canCome 18 rfl) rfl rfl ?_
    refine g_getR 17 (t := 109) (dk D_X9_canCome 19 rfl) kd_92 rfl rfl (by decide) w_1374 rfl rfl rfl ?_
    refine g_iload_n 1 (dk D_X9_canCome 20 rfl) rfl rfl ?_
    obtain ⟨hi6, hw⟩ := hw
    refine g_aald (dk D_X9_canCome 21 rfl) kd_109 rfl rfl hi6 ?_
    refine g_iconst (dk D_X9_canCome 22 rfl) ki_3 ?_
    obtain ⟨hi7, hw⟩ := hw
    refine g_iald (dk D_X9_canCome 23 rfl) (kdf_109 _ (in_lt hi6)) hi7 ?_
    refine g_callS (As := [.int (p2), .int ((h (110 + 1 * Int32.toNatClampNeg (p1)) (Int32.toNatClampNeg (2 : Int32)))), .int ((h (110 + 1 * Int32.toNatClampNeg (p1)) (Int32.toNatClampNeg (3 : Int32))))]) (kc := 0) (fr := 0) (lo := 0) (mc := 0) (My := M_X9_in) (dk D_X9_canCome 24 rfl) w_1527 w_1528 w_110 w_1529 okD_X9_in (by decide) (Nat.le_of_ble_eq_true rfl) rfl (c_X9_in (p2) ((h (110 + 1 * Int32.toNatClampNeg (p1)) (Int32.toNatClampNeg (2 : Int32)))) ((h (110 + 1 * Int32.toNatClampNeg (p1)) (Int32.toNatClampNeg (3 : Int32)))) (h) _ hw) kxN (kIp (fun z8 hw => ?_))
    have hj : G X M_X9_canCome E_X9_canCome (QM X E_X9_canCome (QIp h Q) Qn) 0 47 [(0, .ref (92)), (1, .int (p1)), (2, .int (p2))] [.int ((if z8 = 0 then (0 : Int32) else (1 : Int32)))] (h) := by
      exact g_zret (dk D_X9_canCome 29 rfl) rfl ⟨_, rfl, rfl, hw⟩
    refine g_if_eq (dk D_X9_canCome 25 rfl) rfl ?_
    by_cases c9 : z8 = 0
    · rw [if_pos c9] at hj
      refine wif_p c9 ?_
      refine g_iconst (dk D_X9_canCome 28 rfl) ki_0 ?_
      exact hj
    · rw [if_neg c9] at hj
      refine wif_n c9 ?_
      refine g_iconst (dk D_X9_canCome 26 rfl) ki_1 ?_
      refine g_goto (dk D_X9_canCome 27 rfl) rfl ?_
      exact hj
theorem c_X9_canCome {X : Cx} (p1 : Int32) (p2 : Int32) (h : Hp) (Q : Int32 → Prop) (hw : w_X9_canCome p1 p2 h Q) : Con X yX9_canCome M_X9_canCome 1 30 0 [.ref (92), .int (p1), .int (p2)] h (QIp h Q) Qn :=
  con_of (by decide +kernel) rfl (Nat.le_of_ble_eq_true rfl) (t_X9_canCome p1 p2 h Q hw)
/-! ShadowTollsModel.costOf(IIIIZ)I -/
abbrev M_X9_costOf : Mi := (RX9, cX9_costOf, 6, (some .int))
abbrev E_X9_costOf : Rm := (5, 172, 0, 0)
def rows_X9_costOf : List (Nat × Instr × Nat) := [(0, .aload_n 0, 1), (1, .iload_n 1, 1), (2, .iload_n 2, 1), (3, .iload_n 3, 1), (4, .iload 4, 2), (6, .iload 5, 2), (8, .invokevirtual 316, 3), (11, .aload_n 0, 1), (12, .getfield 40, 3), (15, .iload_n 2, 1), (16, .aaload, 1), (17, .iconst 4, 1), (18, .iaload, 1), (19, .iload 4, 2), (21, .aload_n 0, 1), (22, .getfield 40, 3), (25, .iload_n 2, 1), (26, .aaload, 1), (27, .iconst 2, 1), (28, .iaload, 1), (29, .isub, 1), (30, .imul, 1), (31, .iadd, 1), (32, .iload_n 1, 1), (33, .iconst 1, 1), (34, .if_icmp .ne 13, 3), (37, .aload_n 0, 1), (38, .getfield 20, 3), (41, .bipush 10, 2), (43, .iaload, 1), (44, .goto 4, 3), (47, .iconst 0, 1), (48, .iadd, 1), (49, .ireturn, 1)]
theorem D_X9_costOf : dkA cX9_costOf rows_X9_costOf := by
  unfold dkA
  decide +kernel
theorem okD_X9_costOf : okD yX9_costOf 5 := by
  unfold okD
  decide +kernel
def w_X9_costOf (p1 : Int32) (p2 : Int32) (p3 : Int32) (p4 : Int32) (p5 : Int32) (h : Hp) (Q : Int32 → Hp → Prop) : Prop :=
  w_X9_coinsOf (p1) (p2) (p3) (p4) (p5) h (fun z1 h2 => (vp_in p2 8 ∧ (vp_in (4 : Int32) 7 ∧ (vp_in p2 8 ∧ (vp_in (2 : Int32) 7 ∧ wif (¬ p1 = (1 : Int32)) (Q ((z1 + ((h2 (110 + 1 * Int32.toNatClampNeg (p2)) (Int32.toNatClampNeg (4 : Int32))) * (p4 - (h2 (110 + 1 * Int32.toNatClampNeg (p2)) (Int32.toNatClampNeg (2 : Int32)))))) + (0 : Int32)) h2) ((vp_in (10 : Int32) 11 ∧ Q ((z1 + ((h2 (110 + 1 * Int32.toNatClampNeg (p2)) (Int32.toNatClampNeg (4 : Int32))) * (p4 - (h2 (110 + 1 * Int32.toNatClampNeg (p2)) (Int32.toNatClampNeg (2 : Int32)))))) + (h2 95 (Int32.toNatClampNeg (10 : Int32)))) h2)))))))
theorem t_X9_costOf {X : Cx} (p1 : Int32) (p2 : Int32) (p3 : Int32) (p4 : Int32) (p5 : Int32) (h : Hp) (Q : Int32 → Hp → Prop) (hw : w_X9_costOf p1 p2 p3 p4 p5 h Q) : G X M_X9_costOf E_X9_costOf (QM X E_X9_costOf (QI Q) Qn) 0 0 [(0, .ref (92)), (1, .int (p1)), (2, .int (p2)), (3, .int (p3)), (4, .int (p4)), (5, .int (p5))] [] h := by
  unfold w_X9_costOf at hw
  refine g_aload_n 0 (dk D_X9_costOf 0 rfl) rfl rfl ?_
  refine g_iload_n 1 (dk D_X9_costOf 1 rfl) rfl rfl ?_
  refine g_iload_n 2 (dk D_X9_costOf 2 rfl) rfl rfl ?_
  refine g_iload_n 3 (dk D_X9_costOf 3 rfl) rfl rfl ?_
  refine g_iload 4 (dk D_X9_costOf 4 rfl) rfl ?_
  refine g_iload 5 (dk D_X9_costOf 5 rfl) rfl ?_
  refine g_callV (As := [.int (p1), .int (p2), .int (p3), .int (p4), .int (p5)]) (kc := 0) (fr := 4) (lo := 136) (mc := 0) (My := M_X9_coinsOf) (dk D_X9_costOf 6 rfl) kd_92 rfl rfl w_1717 w_1719 w_73 w_110 w_1720 okD_X9_coinsOf (by decide) (Nat.le_of_ble_eq_true rfl) rfl (c_X9_coinsOf (p1) (p2) (p3) (p4) (p5) (h) _ hw) kxN (kI (fun z1 h2 hw => ?_))
  refine g_aload_n 0 (dk D_X9_costOf 7 rfl) rfl rfl ?_
  refine g_getR 17 (t := 109) (dk D_X9_costOf 8 rfl) kd_92 rfl rfl (by decide) w_1374 rfl rfl rfl ?_
  refine g_iload_n 2 (dk D_X9_costOf 9 rfl) rfl rfl ?_
  obtain ⟨hi3, hw⟩ := hw
  refine g_aald (dk D_X9_costOf 10 rfl) kd_109 rfl rfl hi3 ?_
  refine g_iconst (dk D_X9_costOf 11 rfl) ki_4 ?_
  obtain ⟨hi4, hw⟩ := hw
  refine g_iald (dk D_X9_costOf 12 rfl) (kdf_109 _ (in_lt hi3)) hi4 ?_
  refine g_iload 4 (dk D_X9_costOf 13 rfl) rfl ?_
  refine g_aload_n 0 (dk D_X9_costOf 14 rfl) rfl rfl ?_
  refine g_getR 17 (t := 109) (dk D_X9_costOf 15 rfl) kd_92 rfl rfl (by decide) w_1374 rfl rfl rfl ?_
  refine g_iload_n 2 (dk D_X9_costOf 16 rfl) rfl rfl ?_
  obtain ⟨hi5, hw⟩ := hw
  refine g_aald (dk D_X9_costOf 17 rfl) kd_109 rfl rfl hi5 ?_
  refine g_iconst (dk D_X9_costOf 18 rfl) ki_2 ?_
  obtain ⟨hi6, hw⟩ := hw
  refine g_iald (dk D_X9_costOf 19 rfl) (kdf_109 _ (in_lt hi5)) hi6 ?_
  refine g_isub (dk D_X9_costOf 20 rfl) ?_
  refine g_imul (dk D_X9_costOf 21 rfl) ?_
  refine g_iadd (dk D_X9_costOf 22 rfl) ?_
  refine g_iload_n 1 (dk D_X9_costOf 23 rfl) rfl rfl ?_
  refine g_iconst (dk D_X9_costOf 24 rfl) ki_1 ?_
  refine g_icmp_ne (dk D_X9_costOf 25 rfl) rfl (wif_m hw (fun hw => ?_) (fun hw => ?_))
  · refine g_iconst (dk D_X9_costOf 31 rfl) ki_0 ?_
    refine g_iadd (dk D_X9_costOf 32 rfl) ?_
    exact g_iret (dk D_X9_costOf 33 rfl) rfl ⟨_, rfl, hw⟩
  · refine g_aload_n 0 (dk D_X9_costOf 26 rfl) rfl rfl ?_
    refine g_getR 11 (t := 95) (dk D_X9_costOf 27 rfl) kd_92 rfl rfl (by decide) w_1368 rfl rfl rfl ?_
    refine g_bipush (dk D_X9_costOf 28 rfl) kb_10 ?_
    obtain ⟨hi7, hw⟩ := hw
    refine g_iald (dk D_X9_costOf 29 rfl) kd_95 hi7 ?_
    refine g_goto (dk D_X9_costOf 30 rfl) rfl ?_
    refine g_iadd (dk D_X9_costOf 32 rfl) ?_
    exact g_iret (dk D_X9_costOf 33 rfl) rfl ⟨_, rfl, hw⟩
theorem c_X9_costOf {X : Cx} (p1 : Int32) (p2 : Int32) (p3 : Int32) (p4 : Int32) (p5 : Int32) (h : Hp) (Q : Int32 → Hp → Prop) (hw : w_X9_costOf p1 p2 p3 p4 p5 h Q) : Con X yX9_costOf M_X9_costOf 5 172 0 [.ref (92), .int (p1), .int (p2), .int (p3), .int (p4), .int (p5)] h (QI Q) Qn :=
  con_of (by decide +kernel) rfl (Nat.le_of_ble_eq_true rfl) (t_X9_costOf p1 p2 p3 p4 p5 h Q hw)
/-! ShadowTollsModel.bestMinute(III)I -/
abbrev M_X9_bestMinute : Mi := (RX9, cX9_bestMinute, 8, (some .int))
abbrev E_X9_bestMinute : Rm := (6, 205, 0, 0)
def rows_X9_bestMinute : List (Nat × Instr × Nat) := [(0, .iconst (-1), 1), (1, .istore 4, 2), (3, .iconst 0, 1), (4, .istore 5, 2), (6, .aload_n 0, 1), (7, .getfield 20, 3), (10, .iconst 2, 1), (11, .iaload, 1), (12, .istore 6, 2), (14, .iload 6, 2), (16, .aload_n 0, 1), (17, .getfield 20, 3), (20, .iconst 3, 1), (21, .iaload, 1), (22, .if_icmp .gt 58, 3), (25, .aload_n 0, 1), (26, .iload_n 2, 1), (27, .iload 6, 2), (29, .invokevirtual 320, 3), (32, .ifCond .ne 6, 3), (35, .goto 39, 3), (38, .aload_n 0, 1), (39, .iload_n 1, 1), (40, .iload_n 2, 1), (41, .iload_n 3, 1), (42, .iload 6, 2), (44, .iconst 0, 1), (45, .invokevirtual 324, 3), (48, .istore 7, 2), (50, .iload 4, 2), (52, .iconst (-1), 1), (53, .if_icmp .eq 13, 3), (56, .iload 7, 2), (58, .iload 5, 2), (60, .if_icmp .lt 6, 3), (63, .goto 11, 3), (66, .iload 6, 2), (68, .istore 4, 2), (70, .iload 7, 2), (72, .istore 5, 2), (74, .iinc 6 1, 3), (77, .goto (-63), 3), (80, .iload 4, 2), (82, .ireturn, 1)]
theorem D_X9_bestMinute : dkA cX9_bestMinute rows_X9_bestMinute := by
  unfold dkA
  decide +kernel
theorem okD_X9_bestMinute : okD yX9_bestMinute 3 := by
  unfold okD
  decide +kernel
def w_X9_bestMinute_b74 (p1 : Int32) (p2 : Int32) (p3 : Int32) (v4 : Int32) (v5 : Int32) (v6 : Int32) (K14 : Int32 × Int32 × Int32 × Hp → Prop) (h : Hp) (Q : Int32 → Hp → Prop) : Prop :=
  K14 (v4, v5, (v6 + (1 : Int32)), h)
def w_X9_bestMinute_b66 (p1 : Int32) (p2 : Int32) (p3 : Int32) (v6 : Int32) (v7 : Int32) (K14 : Int32 × Int32 × Int32 × Hp → Prop) (h : Hp) (Q : Int32 → Hp → Prop) : Prop :=
  w_X9_bestMinute_b74 p1 p2 p3 (v6) (v7) (v6) K14 (h) Q
def w_X9_bestMinute_l14 (p1 : Int32) (p2 : Int32) (p3 : Int32) (Q : Int32 → Hp → Prop) (K14 : Int32 × Int32 × Int32 × Hp → Prop) (v4 : Int32) (v5 : Int32) (v6 : Int32) (h : Hp) : Prop :=
  (vp_in (3 : Int32) 11 ∧ wif ((h 95 (Int32.toNatClampNeg (3 : Int32))) < v6) (Q v4 h) (w_X9_canCome (p2) (v6) h (fun z2 => wif (¬ z2 = 0) (w_X9_costOf (p1) (p2) (p3) (v6) ((0 : Int32)) h (fun z3 h4 => wif (v4 = (-1 : Int32)) (w_X9_bestMinute_b66 p1 p2 p3 (v6) (z3) K14 (h4) Q) (wif (z3 < v5) (w_X9_bestMinute_b66 p1 p2 p3 (v6) (z3) K14 (h4) Q) (w_X9_bestMinute_b74 p1 p2 p3 (v4) (v5) (v6) K14 (h4) Q)))) (w_X9_bestMinute_b74 p1 p2 p3 (v4) (v5) (v6) K14 (h) Q))))
def w_X9_bestMinute_b14 (p1 : Int32) (p2 : Int32) (p3 : Int32) (Q : Int32 → Hp → Prop) (s : Int32 × Int32 × Int32 × Hp) : Prop := wl (fun K s => w_X9_bestMinute_l14 p1 p2 p3 Q K s.1 s.2.1 s.2.2.1 s.2.2.2) s
def w_X9_bestMinute (p1 : Int32) (p2 : Int32) (p3 : Int32) (h : Hp) (Q : Int32 → Hp → Prop) : Prop :=
  (vp_in (2 : Int32) 11 ∧ wlet ((h 95 (Int32.toNatClampNeg (2 : Int32)))) (fun v6_2 => w_X9_bestMinute_b14 p1 p2 p3 Q ((-1 : Int32), (0 : Int32), v6_2, h)))
theorem t_X9_bestMinute_b74 {X : Cx} (p1 : Int32) (p2 : Int32) (p3 : Int32) (v4 : Int32) (v5 : Int32) (v6 : Int32) (K14 : Int32 × Int32 × Int32 × Hp → Prop) (h : Hp) (Q : Int32 → Hp → Prop) (hK14 : ∀ s : Int32 × Int32 × Int32 × Hp, K14 s → G X M_X9_bestMinute E_X9_bestMinute (QM X E_X9_bestMinute (QI Q) Qn) 0 14 [(0, .ref (92)), (1, .int (p1)), (2, .int (p2)), (3, .int (p3)), (4, .int (s.1)), (5, .int (s.2.1)), (6, .int (s.2.2.1))] [] (s.2.2.2)) (hw : w_X9_bestMinute_b74 p1 p2 p3 v4 v5 v6 K14 h Q) : G X M_X9_bestMinute E_X9_bestMinute (QM X E_X9_bestMinute (QI Q) Qn) 0 74 [(0, .ref (92)), (1, .int (p1)), (2, .int (p2)), (3, .int (p3)), (4, .int (v4)), (5, .int (v5)), (6, .int (v6))] [] h := by
  unfold w_X9_bestMinute_b74 at hw
  refine g_iinc 6 (dk D_X9_bestMinute 40 rfl) rfl (congrArg (fun z => _ + z) ki_1) (by decide) rfl ?_
  refine g_goto (dk D_X9_bestMinute 41 rfl) rfl ?_
  refine g_sub [1, 2, 3, 4, 5, 6, 0] rfl ?_
  exact hK14 (v4, v5, (v6 + (1 : Int32)), h) hw
theorem t_X9_bestMinute_b66 {X : Cx} (p1 : Int32) (p2 : Int32) (p3 : Int32) (v6 : Int32) (v7 : Int32) (K14 : Int32 × Int32 × Int32 × Hp → Prop) (h : Hp) (Q : Int32 → Hp → Prop) (hK14 : ∀ s : Int32 × Int32 × Int32 × Hp, K14 s → G X M_X9_bestMinute E_X9_bestMinute (QM X E_X9_bestMinute (QI Q) Qn) 0 14 [(0, .ref (92)), (1, .int (p1)), (2, .int (p2)), (3, .int (p3)), (4, .int (s.1)), (5, .int (s.2.1)), (6, .int (s.2.2.1))] [] (s.2.2.2)) (hw : w_X9_bestMinute_b66 p1 p2 p3 v6 v7 K14 h Q) : G X M_X9_bestMinute E_X9_bestMinute (QM X E_X9_bestMinute (QI Q) Qn) 0 66 [(0, .ref (92)), (1, .int (p1)), (2, .int (p2)), (3, .int (p3)), (6, .int (v6)), (7, .int (v7))] [] h := by
  unfold w_X9_bestMinute_b66 at hw
  refine g_iload 4 (dk D_X9_bestMinute 36 rfl) rfl ?_
  refine g_istore (dk D_X9_bestMinute 37 rfl) (by decide) rfl ?_
  refine g_iload 6 (dk D_X9_bestMinute 38 rfl) rfl ?_
  refine g_istore (dk D_X9_bestMinute 39 rfl) (by decide) rfl ?_
  refine g_sub [2, 3, 4, 5, 1, 0, 6] rfl ?_
  exact t_X9_bestMinute_b74 p1 p2 p3 (v6) (v7) (v6) K14 (h) Q hK14 hw
theorem t_X9_bestMinute_l14 {X : Cx} (p1 : Int32) (p2 : Int32) (p3 : Int32) (Q : Int32 → Hp → Prop) (K14 : Int32 × Int32 × Int32 × Hp → Prop) (v4 : Int32) (v5 : Int32) (v6 : Int32) (h : Hp) (hK14 : ∀ s : Int32 × Int32 × Int32 × Hp, K14 s → G X M_X9_bestMinute E_X9_bestMinute (QM X E_X9_bestMinute (QI Q) Qn) 0 14 [(0, .ref (92)), (1, .int (p1)), (2, .int (p2)), (3, .int (p3)), (4, .int (s.1)), (5, .int (s.2.1)), (6, .int (s.2.2.1))] [] (s.2.2.2)) (hw : w_X9_bestMinute_l14 p1 p2 p3 Q K14 v4 v5 v6 h) : G X M_X9_bestMinute E_X9_bestMinute (QM X E_X9_bestMinute (QI Q) Qn) 0 14 [(0, .ref (92)), (1, .int (p1)), (2, .int (p2)), (3, .int (p3)), (4, .int (v4)), (5, .int (v5)), (6, .int (v6))] [] h := by
  unfold w_X9_bestMinute_l14 at hw
  refine g_iload 6 (dk D_X9_bestMinute 9 rfl) rfl ?_
  refine g_aload_n 0 (dk D_X9_bestMinute 10 rfl) rfl rfl ?_
  refine g_getR 11 (t := 95) (dk D_X9_bestMinute 11 rfl) kd_92 rfl rfl (by decide) w_1368 rfl rfl rfl ?_
  refine g_iconst (dk D_X9_bestMinute 12 rfl) ki_3 ?_
  obtain ⟨hi1, hw⟩ := hw
  refine g_iald (dk D_X9_bestMinute 13 rfl) kd_95 hi1 ?_
  refine g_icmp_gt (dk D_X9_bestMinute 14 rfl) rfl (wif_m hw (fun hw => ?_) (fun hw => ?_))
  · refine g_iload 4 (dk D_X9_bestMinute 42 rfl) rfl ?_
    exact g_iret (dk D_X9_bestMinute 43 rfl) rfl ⟨_, rfl, hw⟩
  · refine g_aload_n 0 (dk D_X9_bestMinute 15 rfl) rfl rfl ?_
    refine g_iload_n 2 (dk D_X9_bestMinute 16 rfl) rfl rfl ?_
    refine g_iload 6 (dk D_X9_bestMinute 17 rfl) rfl ?_
    refine g_callV (As := [.int (p2), .int (v6)]) (kc := 0) (fr := 1) (lo := 30) (mc := 0) (My := M_X9_canCome) (dk D_X9_bestMinute 18 rfl) kd_92 rfl rfl w_1741 w_1743 w_77 w_110 w_1744 okD_X9_canCome (by decide) (Nat.le_of_ble_eq_true rfl) rfl (c_X9_canCome (p2) (v6) (h) _ hw) kxN (kIp (fun z2 hw => ?_))
    refine g_if_ne (dk D_X9_bestMinute 19 rfl) rfl (wif_m hw (fun hw => ?_) (fun hw => ?_))
    · refine g_aload_n 0 (dk D_X9_bestMinute 21 rfl) rfl rfl ?_
      refine g_iload_n 1 (dk D_X9_bestMinute 22 rfl) rfl rfl ?_
      refine g_iload_n 2 (dk D_X9_bestMinute 23 rfl) rfl rfl ?_
      refine g_iload_n 3 (dk D_X9_bestMinute 24 rfl) rfl rfl ?_
      refine g_iload 6 (dk D_X9_bestMinute 25 rfl) rfl ?_
      refine g_iconst (dk D_X9_bestMinute 26 rfl) ki_0 ?_
      refine g_callV (As := [.int (p1), .int (p2), .int (p3), .int (v6), .int ((0 : Int32))]) (kc := 0) (fr := 5) (lo := 172) (mc := 0) (My := M_X9_costOf) (dk D_X9_bestMinute 27 rfl) kd_92 rfl rfl w_1745 w_1747 w_78 w_110 w_1748 okD_X9_costOf (by decide) (Nat.le_of_ble_eq_true rfl) rfl (c_X9_costOf (p1) (p2) (p3) (v6) ((0 : Int32)) (h) _ hw) kxN (kI (fun z3 h4 hw => ?_))
      refine g_istore (dk D_X9_bestMinute 28 rfl) (by decide) rfl ?_
      refine g_iload 5 (dk D_X9_bestMinute 29 rfl) rfl ?_
      refine g_iconst (dk D_X9_bestMinute 30 rfl) ki_m1 ?_
      refine g_icmp_eq (dk D_X9_bestMinute 31 rfl) rfl (wif_m hw (fun hw => ?_) (fun hw => ?_))
      · refine g_sub [1, 2, 3, 4, 7, 0] rfl ?_
        exact t_X9_bestMinute_b66 p1 p2 p3 (v6) (z3) K14 (h4) Q hK14 hw
      · refine g_iload 0 (dk D_X9_bestMinute 32 rfl) rfl ?_
        refine g_iload 6 (dk D_X9_bestMinute 33 rfl) rfl ?_
        refine g_icmp_lt (dk D_X9_bestMinute 34 rfl) rfl (wif_m hw (fun hw => ?_) (fun hw => ?_))
        · refine g_sub [1, 2, 3, 4, 7, 0] rfl ?_
          exact t_X9_bestMinute_b66 p1 p2 p3 (v6) (z3) K14 (h4) Q hK14 hw
        · refine g_goto (dk D_X9_bestMinute 35 rfl) rfl ?_
          refine g_sub [1, 2, 3, 4, 5, 6, 7] rfl ?_
          exact t_X9_bestMinute_b74 p1 p2 p3 (v4) (v5) (v6) K14 (h4) Q hK14 hw
    · refine g_goto (dk D_X9_bestMinute 20 rfl) rfl ?_
      exact t_X9_bestMinute_b74 p1 p2 p3 (v4) (v5) (v6) K14 (h) Q hK14 hw
theorem t_X9_bestMinute_b14 {X : Cx} (p1 : Int32) (p2 : Int32) (p3 : Int32) (Q : Int32 → Hp → Prop) (s : Int32 × Int32 × Int32 × Hp) (hw : w_X9_bestMinute_b14 p1 p2 p3 Q s) : G X M_X9_bestMinute E_X9_bestMinute (QM X E_X9_bestMinute (QI Q) Qn) 0 14 [(0, .ref (92)), (1, .int (p1)), (2, .int (p2)), (3, .int (p3)), (4, .int (s.1)), (5, .int (s.2.1)), (6, .int (s.2.2.1))] [] (s.2.2.2) :=
  wl_ind (B := fun K s => w_X9_bestMinute_l14 p1 p2 p3 Q K (s.1) (s.2.1) (s.2.2.1) (s.2.2.2)) (P := fun s => G X M_X9_bestMinute E_X9_bestMinute (QM X E_X9_bestMinute (QI Q) Qn) 0 14 [(0, .ref (92)), (1, .int (p1)), (2, .int (p2)), (3, .int (p3)), (4, .int (s.1)), (5, .int (s.2.1)), (6, .int (s.2.2.1))] [] (s.2.2.2)) (fun K hK s hw => t_X9_bestMinute_l14 p1 p2 p3 Q K (s.1) (s.2.1) (s.2.2.1) (s.2.2.2) hK hw) s hw
theorem t_X9_bestMinute {X : Cx} (p1 : Int32) (p2 : Int32) (p3 : Int32) (h : Hp) (Q : Int32 → Hp → Prop) (hw : w_X9_bestMinute p1 p2 p3 h Q) : G X M_X9_bestMinute E_X9_bestMinute (QM X E_X9_bestMinute (QI Q) Qn) 0 0 [(0, .ref (92)), (1, .int (p1)), (2, .int (p2)), (3, .int (p3))] [] h := by
  unfold w_X9_bestMinute at hw
  refine g_iconst (dk D_X9_bestMinute 0 rfl) ki_m1 ?_
  refine g_istore (dk D_X9_bestMinute 1 rfl) (by decide) rfl ?_
  refine g_iconst (dk D_X9_bestMinute 2 rfl) ki_0 ?_
  refine g_istore (dk D_X9_bestMinute 3 rfl) (by decide) rfl ?_
  refine g_aload_n 2 (dk D_X9_bestMinute 4 rfl) rfl rfl ?_
  refine g_getR 11 (t := 95) (dk D_X9_bestMinute 5 rfl) kd_92 rfl rfl (by decide) w_1368 rfl rfl rfl ?_
  refine g_iconst (dk D_X9_bestMinute 6 rfl) ki_2 ?_
  obtain ⟨hi1, hw⟩ := hw
  refine g_iald (dk D_X9_bestMinute 7 rfl) kd_95 hi1 ?_
  refine g_topi (fun v6_2 ev6_2 => ?_)
  replace hw := hw _ ev6_2
  refine g_istore (dk D_X9_bestMinute 8 rfl) (by decide) rfl ?_
  refine g_sub [3, 4, 5, 6, 2, 1, 0] rfl ?_
  exact t_X9_bestMinute_b14 p1 p2 p3 Q ((-1 : Int32), (0 : Int32), v6_2, h) hw
theorem c_X9_bestMinute {X : Cx} (p1 : Int32) (p2 : Int32) (p3 : Int32) (h : Hp) (Q : Int32 → Hp → Prop) (hw : w_X9_bestMinute p1 p2 p3 h Q) : Con X yX9_bestMinute M_X9_bestMinute 6 205 0 [.ref (92), .int (p1), .int (p2), .int (p3)] h (QI Q) Qn :=
  con_of (by decide +kernel) rfl (Nat.le_of_ble_eq_true rfl) (t_X9_bestMinute p1 p2 p3 h Q hw)
/-! ShadowTollsModel.best(IIII)I -/
abbrev M_X9_best : Mi := (RX9, cX9_best, 6, (some .int))
abbrev E_X9_best : Rm := (7, 240, 0, 0)
def rows_X9_best : List (Nat × Instr × Nat) := [(0, .aload_n 0, 1), (1, .iconst 0, 1), (2, .putfield 111, 3), (5, .aload_n 0, 1), (6, .aload_n 0, 1), (7, .iload_n 1, 1), (8, .invokevirtual 290, 3), (11, .ifCond .ne 7, 3), (14, .iconst 1, 1), (15, .goto 4, 3), (18, .iconst 0, 1), (19, .iconst 1, 1), (20, .invokevirtual 202, 3), (23, .ifCond .ne 54, 3), (26, .aload_n 0, 1), (27, .aload_n 0, 1), (28, .iload_n 2, 1), (29, .invokevirtual 278, 3), (32, .ifCond .ne 7, 3), (35, .iconst 1, 1), (36, .goto 4, 3), (39, .iconst 0, 1), (40, .iconst 2, 1), (41, .invokevirtual 202, 3), (44, .ifCond .ne 33, 3), (47, .aload_n 0, 1), (48, .iload_n 3, 1), (49, .invokestatic 281, 3), (52, .ifCond .eq 13, 3), (55, .iload 4, 2), (57, .iconst 0, 1), (58, .iconst 1, 1), (59, .invokestatic 145, 3), (62, .ifCond .ne 7, 3), (65, .iconst 1, 1), (66, .goto 4, 3), (69, .iconst 0, 1), (70, .iconst 3, 1), (71, .invokevirtual 202, 3), (74, .ifCond .eq 5, 3), (77, .iconst 0, 1), (78, .ireturn, 1), (79, .aload_n 0, 1), (80, .iload_n 1, 1), (81, .iload_n 2, 1), (82, .iload_n 3, 1), (83, .invokevirtual 327, 3), (86, .istore 5, 2), (88, .iload 4, 2), (90, .ifCond .eq 9, 3), (93, .iload 5, 2), (95, .iconst (-1), 1), (96, .if_icmp .ne 8, 3), (99, .iload 5, 2), (101, .goto 13, 3), (104, .aload_n 0, 1), (105, .iload_n 1, 1), (106, .iload_n 2, 1), (107, .iload_n 3, 1), (108, .iload 5, 2), (110, .iconst 0, 1), (111, .invokevirtual 324, 3), (114, .ireturn, 1)]
theorem D_X9_best : dkA cX9_best rows_X9_best := by
  unfold dkA
  decide +kernel
theorem okD_X9_best : okD yX9_best 4 := by
  unfold okD
  decide +kernel
def w_X9_best_b99 (p1 : Int32) (p2 : Int32) (p3 : Int32) (p4 : Int32) (v5 : Int32) (h : Hp) (Q : Int32 → Hp → Prop) : Prop :=
  Q v5 h
def w_X9_best_b70 (p1 : Int32) (p2 : Int32) (p3 : Int32) (p4 : Int32) (s0 : Int32) (h : Hp) (Q : Int32 → Hp → Prop) : Prop :=
  w_X9_bad (s0) ((3 : Int32)) h (fun z1 h2 => wif (z1 = 0) (w_X9_bestMinute (p1) (p2) (p3) h2 (fun z3 h4 => wif (p4 = 0) (w_X9_best_b99 p1 p2 p3 p4 (z3) (h4) Q) (wif (¬ z3 = (-1 : Int32)) (w_X9_costOf (p1) (p2) (p3) (z3) ((0 : Int32)) h4 (fun z5 h6 => Q z5 h6)) (w_X9_best_b99 p1 p2 p3 p4 (z3) (h4) Q)))) (Q (0 : Int32) h2))
def w_X9_best_b65 (p1 : Int32) (p2 : Int32) (p3 : Int32) (p4 : Int32) (h : Hp) (Q : Int32 → Hp → Prop) : Prop :=
  w_X9_best_b70 p1 p2 p3 p4 ((1 : Int32)) (h) Q
def w_X9_best (p1 : Int32) (p2 : Int32) (p3 : Int32) (p4 : Int32) (h : Hp) (Q : Int32 → Hp → Prop) : Prop :=
  wlet (hup h 92 0 (0 : Int32)) (fun h1 => w_X9_isBridge (p1) h1 (fun z2 => w_X9_bad ((if ¬ z2 = 0 then (0 : Int32) else (1 : Int32))) ((1 : Int32)) h1 (fun z4 h5 => wif (¬ z4 = 0) (Q (0 : Int32) h5) (w_X9_isWho (p2) h5 (fun z6 => w_X9_bad ((if ¬ z6 = 0 then (0 : Int32) else (1 : Int32))) ((2 : Int32)) h5 (fun z8 h9 => wif (¬ z8 = 0) (Q (0 : Int32) h9) (w_X9_isDay (p3) h9 (fun z10 => wif (z10 = 0) (w_X9_best_b65 p1 p2 p3 p4 (h9) Q) (w_X9_in (p4) ((0 : Int32)) ((1 : Int32)) h9 (fun z11 => w_X9_bad ((if ¬ z11 = 0 then (0 : Int32) else (1 : Int32))) ((3 : Int32)) h9 (fun z13 h14 => wif (z13 = 0) (w_X9_bestMinute (p1) (p2) (p3) h14 (fun z15 h16 => wif (p4 = 0) (w_X9_best_b99 p1 p2 p3 p4 (z15) (h16) Q) (wif (¬ z15 = (-1 : Int32)) (w_X9_costOf (p1) (p2) (p3) (z15) ((0 : Int32)) h16 (fun z17 h18 => Q z17 h18)) (w_X9_best_b99 p1 p2 p3 p4 (z15) (h16) Q)))) (Q (0 : Int32) h14))))))))))))
theorem t_X9_best_b99 {X : Cx} (p1 : Int32) (p2 : Int32) (p3 : Int32) (p4 : Int32) (v5 : Int32) (h : Hp) (Q : Int32 → Hp → Prop) (hw : w_X9_best_b99 p1 p2 p3 p4 v5 h Q) : G X M_X9_best E_X9_best (QM X E_X9_best (QI Q) Qn) 0 99 [(5, .int (v5))] [] h := by
  unfold w_X9_best_b99 at hw
  refine g_iload 0 (dk D_X9_best 53 rfl) rfl ?_
  refine g_goto (dk D_X9_best 54 rfl) rfl ?_
  exact g_iret (dk D_X9_best 62 rfl) rfl ⟨_, rfl, hw⟩
theorem t_X9_best_b70 {X : Cx} (p1 : Int32) (p2 : Int32) (p3 : Int32) (p4 : Int32) (s0 : Int32) (h : Hp) (Q : Int32 → Hp → Prop) (hw : w_X9_best_b70 p1 p2 p3 p4 s0 h Q) : G X M_X9_best E_X9_best (QM X E_X9_best (QI Q) Qn) 0 70 [(0, .ref (92)), (1, .int (p1)), (2, .int (p2)), (3, .int (p3)), (4, .int (p4))] [.int (s0), .ref (92)] h := by
  unfold w_X9_best_b70 at hw
  refine g_iconst (dk D_X9_best 37 rfl) ki_3 ?_
  refine g_callV (As := [.int (s0), .int ((3 : Int32))]) (kc := 0) (fr := 0) (lo := 0) (mc := 0) (My := M_X9_bad) (dk D_X9_best 38 rfl) kd_92 rfl rfl w_1530 w_1532 w_42 w_110 w_1533 okD_X9_bad (by decide) (Nat.le_of_ble_eq_true rfl) rfl (c_X9_bad (s0) ((3 : Int32)) (h) _ hw) kxN (kI (fun z1 h2 hw => ?_))
  refine g_if_eq (dk D_X9_best 39 rfl) rfl (wif_m hw (fun hw => ?_) (fun hw => ?_))
  · refine g_aload_n 0 (dk D_X9_best 42 rfl) rfl rfl ?_
    refine g_iload_n 1 (dk D_X9_best 43 rfl) rfl rfl ?_
    refine g_iload_n 2 (dk D_X9_best 44 rfl) rfl rfl ?_
    refine g_iload_n 3 (dk D_X9_best 45 rfl) rfl rfl ?_
    refine g_callV (As := [.int (p1), .int (p2), .int (p3)]) (kc := 0) (fr := 6) (lo := 205) (mc := 0) (My := M_X9_bestMinute) (dk D_X9_best 46 rfl) kd_92 rfl rfl w_1737 w_1739 w_76 w_110 w_1740 okD_X9_bestMinute (by decide) (Nat.le_of_ble_eq_true rfl) rfl (c_X9_bestMinute (p1) (p2) (p3) (h2) _ hw) kxN (kI (fun z3 h4 hw => ?_))
    refine g_istore (dk D_X9_best 47 rfl) (by decide) rfl ?_
    refine g_iload 5 (dk D_X9_best 48 rfl) rfl ?_
    refine g_if_eq (dk D_X9_best 49 rfl) rfl (wif_m hw (fun hw => ?_) (fun hw => ?_))
    · refine g_sub [0] rfl ?_
      exact t_X9_best_b99 p1 p2 p3 p4 (z3) (h4) Q hw
    · refine g_iload 0 (dk D_X9_best 50 rfl) rfl ?_
      refine g_iconst (dk D_X9_best 51 rfl) ki_m1 ?_
      refine g_icmp_ne (dk D_X9_best 52 rfl) rfl (wif_m hw (fun hw => ?_) (fun hw => ?_))
      · refine g_aload_n 1 (dk D_X9_best 55 rfl) rfl rfl ?_
        refine g_iload_n 2 (dk D_X9_best 56 rfl) rfl rfl ?_
        refine g_iload_n 3 (dk D_X9_best 57 rfl) rfl rfl ?_
        refine g_iload_n 4 (dk D_X9_best 58 rfl) rfl rfl ?_
        refine g_iload 0 (dk D_X9_best 59 rfl) rfl ?_
        refine g_iconst (dk D_X9_best 60 rfl) ki_0 ?_
        refine g_callV (As := [.int (p1), .int (p2), .int (p3), .int (z3), .int ((0 : Int32))]) (kc := 0) (fr := 5) (lo := 172) (mc := 0) (My := M_X9_costOf) (dk D_X9_best 61 rfl) kd_92 rfl rfl w_1745 w_1747 w_78 w_110 w_1748 okD_X9_costOf (by decide) (Nat.le_of_ble_eq_true rfl) rfl (c_X9_costOf (p1) (p2) (p3) (z3) ((0 : Int32)) (h4) _ hw) kxN (kI (fun z5 h6 hw => ?_))
        exact g_iret (dk D_X9_best 62 rfl) rfl ⟨_, rfl, hw⟩
      · refine g_sub [0] rfl ?_
        exact t_X9_best_b99 p1 p2 p3 p4 (z3) (h4) Q hw
  · refine g_iconst (dk D_X9_best 40 rfl) ki_0 ?_
    exact g_iret (dk D_X9_best 41 rfl) rfl ⟨_, rfl, hw⟩
theorem t_X9_best_b65 {X : Cx} (p1 : Int32) (p2 : Int32) (p3 : Int32) (p4 : Int32) (h : Hp) (Q : Int32 → Hp → Prop) (hw : w_X9_best_b65 p1 p2 p3 p4 h Q) : G X M_X9_best E_X9_best (QM X E_X9_best (QI Q) Qn) 0 65 [(0, .ref (92)), (1, .int (p1)), (2, .int (p2)), (3, .int (p3)), (4, .int (p4))] [.ref (92)] h := by
  unfold w_X9_best_b65 at hw
  refine g_iconst (dk D_X9_best 34 rfl) ki_1 ?_
  refine g_goto (dk D_X9_best 35 rfl) rfl ?_
  exact t_X9_best_b70 p1 p2 p3 p4 ((1 : Int32)) (h) Q hw
theorem t_X9_best {X : Cx} (p1 : Int32) (p2 : Int32) (p3 : Int32) (p4 : Int32) (h : Hp) (Q : Int32 → Hp → Prop) (hw : w_X9_best p1 p2 p3 p4 h Q) : G X M_X9_best E_X9_best (QM X E_X9_best (QI Q) Qn) 0 0 [(0, .ref (92)), (1, .int (p1)), (2, .int (p2)), (3, .int (p3)), (4, .int (p4))] [] h := by
  unfold w_X9_best at hw
  refine g_aload_n 0 (dk D_X9_best 0 rfl) rfl rfl ?_
  refine g_iconst (dk D_X9_best 1 rfl) ki_0 ?_
  refine g_put 0 (dk D_X9_best 2 rfl) kd_92 rfl rfl (by decide) w_1357 rfl tyX9_ok nmX9 rfl (by decide) rfl (fun z => absurd z (by decide)) ?_
  refine g_heap (fun h1 eh1 => ?_)
  replace hw := hw _ eh1
  refine g_aload_n 0 (dk D_X9_best 3 rfl) rfl rfl ?_
  refine g_aload_n 0 (dk D_X9_best 4 rfl) rfl rfl ?_
  refine g_iload_n 1 (dk D_X9_best 5 rfl) rfl rfl ?_
  refine g_callV (As := [.int (p1)]) (kc := 0) (fr := 0) (lo := 0) (mc := 0) (My := M_X9_isBridge) (dk D_X9_best 6 rfl) kd_92 rfl rfl w_1687 w_1689 w_70 w_110 w_1690 okD_X9_isBridge (by decide) (Nat.le_of_ble_eq_true rfl) rfl (c_X9_isBridge (p1) (h1) _ hw) kxN (kIp (fun z2 hw => ?_))
  have hj : G X M_X9_best E_X9_best (QM X E_X9_best (QI Q) Qn) 0 19 [(0, .ref (92)), (1, .int (p1)), (2, .int (p2)), (3, .int (p3)), (4, .int (p4))] [.int ((if ¬ z2 = 0 then (0 : Int32) else (1 : Int32))), .ref (92)] (h1) := by
    refine g_iconst (dk D_X9_best 11 rfl) ki_1 ?_
    refine g_callV (As := [.int ((if ¬ z2 = 0 then (0 : Int32) else (1 : Int32))), .int ((1 : Int32))]) (kc := 0) (fr := 0) (lo := 0) (mc := 0) (My := M_X9_bad) (dk D_X9_best 12 rfl) kd_92 rfl rfl w_1530 w_1532 w_42 w_110 w_1533 okD_X9_bad (by decide) (Nat.le_of_ble_eq_true rfl) rfl (c_X9_bad ((if ¬ z2 = 0 then (0 : Int32) else (1 : Int32))) ((1 : Int32)) (h1) _ hw) kxN (kI (fun z4 h5 hw => ?_))
    refine g_if_ne (dk D_X9_best 13 rfl) rfl (wif_m hw (fun hw => ?_) (fun hw => ?_))
    · refine g_iconst (dk D_X9_best 40 rfl) ki_0 ?_
      exact g_iret (dk D_X9_best 41 rfl) rfl ⟨_, rfl, hw⟩
    · refine g_aload_n 0 (dk D_X9_best 14 rfl) rfl rfl ?_
      refine g_aload_n 0 (dk D_X9_best 15 rfl) rfl rfl ?_
      refine g_iload_n 2 (dk D_X9_best 16 rfl) rfl rfl ?_
      refine g_callV (As := [.int (p2)]) (kc := 0) (fr := 1) (lo := 30) (mc := 0) (My := M_X9_isWho) (dk D_X9_best 17 rfl) kd_92 rfl rfl w_1668 w_1670 w_68 w_110 w_1671 okD_X9_isWho (by decide) (Nat.le_of_ble_eq_true rfl) rfl (c_X9_isWho (p2) (h5) _ hw) kxN (kIp (fun z6 hw => ?_))
      have hj : G X M_X9_best E_X9_best (QM X E_X9_best (QI Q) Qn) 0 40 [(0, .ref (92)), (1, .int (p1)), (2, .int (p2)), (3, .int (p3)), (4, .int (p4))] [.int ((if ¬ z6 = 0 then (0 : Int32) else (1 : Int32))), .ref (92)] (h5) := by
        refine g_iconst (dk D_X9_best 22 rfl) ki_2 ?_
        refine g_callV (As := [.int ((if ¬ z6 = 0 then (0 : Int32) else (1 : Int32))), .int ((2 : Int32))]) (kc := 0) (fr := 0) (lo := 0) (mc := 0) (My := M_X9_bad) (dk D_X9_best 23 rfl) kd_92 rfl rfl w_1530 w_1532 w_42 w_110 w_1533 okD_X9_bad (by decide) (Nat.le_of_ble_eq_true rfl) rfl (c_X9_bad ((if ¬ z6 = 0 then (0 : Int32) else (1 : Int32))) ((2 : Int32)) (h5) _ hw) kxN (kI (fun z8 h9 hw => ?_))
        refine g_if_ne (dk D_X9_best 24 rfl) rfl (wif_m hw (fun hw => ?_) (fun hw => ?_))
        · refine g_iconst (dk D_X9_best 40 rfl) ki_0 ?_
          exact g_iret (dk D_X9_best 41 rfl) rfl ⟨_, rfl, hw⟩
        · refine g_aload_n 0 (dk D_X9_best 25 rfl) rfl rfl ?_
          refine g_iload_n 3 (dk D_X9_best 26 rfl) rfl rfl ?_
          refine g_callS (As := [.int (p3)]) (kc := 0) (fr := 1) (lo := 30) (mc := 0) (My := M_X9_isDay) (dk D_X9_best 27 rfl) w_1676 w_1677 w_110 w_1678 okD_X9_isDay (by decide) (Nat.le_of_ble_eq_true rfl) rfl (c_X9_isDay (p3) (h9) _ hw) kxN (kIp (fun z10 hw => ?_))
          refine g_if_eq (dk D_X9_best 28 rfl) rfl (wif_m hw (fun hw => ?_) (fun hw => ?_))
          · exact t_X9_best_b65 p1 p2 p3 p4 (h9) Q hw
          · refine g_iload 4 (dk D_X9_best 29 rfl) rfl ?_
            refine g_iconst (dk D_X9_best 30 rfl) ki_0 ?_
            refine g_iconst (dk D_X9_best 31 rfl) ki_1 ?_
            refine g_callS (As := [.int (p4), .int ((0 : Int32)), .int ((1 : Int32))]) (kc := 0) (fr := 0) (lo := 0) (mc := 0) (My := M_X9_in) (dk D_X9_best 32 rfl) w_1527 w_1528 w_110 w_1529 okD_X9_in (by decide) (Nat.le_of_ble_eq_true rfl) rfl (c_X9_in (p4) ((0 : Int32)) ((1 : Int32)) (h9) _ hw) kxN (kIp (fun z11 hw => ?_))
            have hj : G X M_X9_best E_X9_best (QM X E_X9_best (QI Q) Qn) 0 70 [(0, .ref (92)), (1, .int (p1)), (2, .int (p2)), (3, .int (p3)), (4, .int (p4))] [.int ((if ¬ z11 = 0 then (0 : Int32) else (1 : Int32))), .ref (92)] (h9) := by
              refine g_iconst (dk D_X9_best 37 rfl) ki_3 ?_
              refine g_callV (As := [.int ((if ¬ z11 = 0 then (0 : Int32) else (1 : Int32))), .int ((3 : Int32))]) (kc := 0) (fr := 0) (lo := 0) (mc := 0) (My := M_X9_bad) (dk D_X9_best 38 rfl) kd_92 rfl rfl w_1530 w_1532 w_42 w_110 w_1533 okD_X9_bad (by decide) (Nat.le_of_ble_eq_true rfl) rfl (c_X9_bad ((if ¬ z11 = 0 then (0 : Int32) else (1 : Int32))) ((3 : Int32)) (h9) _ hw) kxN (kI (fun z13 h14 hw => ?_))
              refine g_if_eq (dk D_X9_best 39 rfl) rfl (wif_m hw (fun hw => ?_) (fun hw => ?_))
              · refine g_aload_n 0 (dk D_X9_best 42 rfl) rfl rfl ?_
                refine g_iload_n 1 (dk D_X9_best 43 rfl) rfl rfl ?_
                refine g_iload_n 2 (dk D_X9_best 44 rfl) rfl rfl ?_
                refine g_iload_n 3 (dk D_X9_best 45 rfl) rfl rfl ?_
                refine g_callV (As := [.int (p1), .int (p2), .int (p3)]) (kc := 0) (fr := 6) (lo := 205) (mc := 0) (My := M_X9_bestMinute) (dk D_X9_best 46 rfl) kd_92 rfl rfl w_1737 w_1739 w_76 w_110 w_1740 okD_X9_bestMinute (by decide) (Nat.le_of_ble_eq_true rfl) rfl (c_X9_bestMinute (p1) (p2) (p3) (h14) _ hw) kxN (kI (fun z15 h16 hw => ?_))
                refine g_istore (dk D_X9_best 47 rfl) (by decide) rfl ?_
                refine g_iload 5 (dk D_X9_best 48 rfl) rfl ?_
                refine g_if_eq (dk D_X9_best 49 rfl) rfl (wif_m hw (fun hw => ?_) (fun hw => ?_))
                · refine g_sub [0] rfl ?_
                  exact t_X9_best_b99 p1 p2 p3 p4 (z15) (h16) Q hw
                · refine g_iload 0 (dk D_X9_best 50 rfl) rfl ?_
                  refine g_iconst (dk D_X9_best 51 rfl) ki_m1 ?_
                  refine g_icmp_ne (dk D_X9_best 52 rfl) rfl (wif_m hw (fun hw => ?_) (fun hw => ?_))
                  · refine g_aload_n 1 (dk D_X9_best 55 rfl) rfl rfl ?_
                    refine g_iload_n 2 (dk D_X9_best 56 rfl) rfl rfl ?_
                    refine g_iload_n 3 (dk D_X9_best 57 rfl) rfl rfl ?_
                    refine g_iload_n 4 (dk D_X9_best 58 rfl) rfl rfl ?_
                    refine g_iload 0 (dk D_X9_best 59 rfl) rfl ?_
                    refine g_iconst (dk D_X9_best 60 rfl) ki_0 ?_
                    refine g_callV (As := [.int (p1), .int (p2), .int (p3), .int (z15), .int ((0 : Int32))]) (kc := 0) (fr := 5) (lo := 172) (mc := 0) (My := M_X9_costOf) (dk D_X9_best 61 rfl) kd_92 rfl rfl w_1745 w_1747 w_78 w_110 w_1748 okD_X9_costOf (by decide) (Nat.le_of_ble_eq_true rfl) rfl (c_X9_costOf (p1) (p2) (p3) (z15) ((0 : Int32)) (h16) _ hw) kxN (kI (fun z17 h18 hw => ?_))
                    exact g_iret (dk D_X9_best 62 rfl) rfl ⟨_, rfl, hw⟩
                  · refine g_sub [0] rfl ?_
                    exact t_X9_best_b99 p1 p2 p3 p4 (z15) (h16) Q hw
              · refine g_iconst (dk D_X9_best 40 rfl) ki_0 ?_
                exact g_iret (dk D_X9_best 41 rfl) rfl ⟨_, rfl, hw⟩
            refine g_if_ne (dk D_X9_best 33 rfl) rfl ?_
            by_cases c12 : ¬ z11 = 0
            · rw [if_pos c12] at hj
              refine wif_p c12 ?_
              refine g_iconst (dk D_X9_best 36 rfl) ki_0 ?_
              exact hj
            · rw [if_neg c12] at hj
              refine wif_n c12 ?_
              refine g_iconst (dk D_X9_best 34 rfl) ki_1 ?_
              refine g_goto (dk D_X9_best 35 rfl) rfl ?_
              exact hj
      refine g_if_ne (dk D_X9_best 18 rfl) rfl ?_
      by_cases c7 : ¬ z6 = 0
      · rw [if_pos c7] at hj
        refine wif_p c7 ?_
        refine g_iconst (dk D_X9_best 21 rfl) ki_0 ?_
        exact hj
      · rw [if_neg c7] at hj
        refine wif_n c7 ?_
        refine g_iconst (dk D_X9_best 19 rfl) ki_1 ?_
        refine g_goto (dk D_X9_best 20 rfl) rfl ?_
        exact hj
  refine g_if_ne (dk D_X9_best 7 rfl) rfl ?_
  by_cases c3 : ¬ z2 = 0
  · rw [if_pos c3] at hj
    refine wif_p c3 ?_
    refine g_iconst (dk D_X9_best 10 rfl) ki_0 ?_
    exact hj
  · rw [if_neg c3] at hj
    refine wif_n c3 ?_
    refine g_iconst (dk D_X9_best 8 rfl) ki_1 ?_
    refine g_goto (dk D_X9_best 9 rfl) rfl ?_
    exact hj
theorem c_X9_best {X : Cx} (p1 : Int32) (p2 : Int32) (p3 : Int32) (p4 : Int32) (h : Hp) (Q : Int32 → Hp → Prop) (hw : w_X9_best p1 p2 p3 p4 h Q) : Con X yX9_best M_X9_best 7 240 0 [.ref (92), .int (p1), .int (p2), .int (p3), .int (p4)] h (QI Q) Qn :=
  con_of (by decide +kernel) rfl (Nat.le_of_ble_eq_true rfl) (t_X9_best p1 p2 p3 p4 h Q hw)
/-! ShadowTollsModel.week(II)I -/
abbrev M_X9_week : Mi := (RX9, cX9_week, 7, (some .int))
abbrev E_X9_week : Rm := (7, 240, 0, 0)
def rows_X9_week : List (Nat × Instr × Nat) := [(0, .aload_n 0, 1), (1, .iconst 0, 1), (2, .putfield 111, 3), (5, .aload_n 0, 1), (6, .aload_n 0, 1), (7, .iload_n 1, 1), (8, .invokevirtual 290, 3), (11, .ifCond .ne 7, 3), (14, .iconst 1, 1), (15, .goto 4, 3), (18, .iconst 0, 1), (19, .iconst 1, 1), (20, .invokevirtual 202, 3), (23, .ifCond .ne 24, 3), (26, .aload_n 0, 1), (27, .aload_n 0, 1), (28, .iload_n 2, 1), (29, .invokevirtual 278, 3), (32, .ifCond .ne 7, 3), (35, .iconst 1, 1), (36, .goto 4, 3), (39, .iconst 0, 1), (40, .iconst 2, 1), (41, .invokevirtual 202, 3), (44, .ifCond .eq 5, 3), (47, .iconst 0, 1), (48, .ireturn, 1), (49, .iconst (-1), 1), (50, .istore_n 3, 1), (51, .iconst 0, 1), (52, .istore 4, 2), (54, .iconst 0, 1), (55, .istore 5, 2), (57, .iload 5, 2), (59, .bipush 30, 2), (61, .if_icmp .ge 65, 3), (64, .aload_n 0, 1), (65, .iload_n 1, 1), (66, .iload_n 2, 1), (67, .iload 5, 2), (69, .invokevirtual 327, 3), (72, .istore 6, 2), (74, .iload 6, 2), (76, .iconst (-1), 1), (77, .if_icmp .eq 43, 3), (80, .iload_n 3, 1), (81, .iconst (-1), 1), (82, .if_icmp .eq 22, 3), (85, .aload_n 0, 1), (86, .iload_n 1, 1), (87, .iload_n 2, 1), (88, .iload 5, 2), (90, .iload 6, 2), (92, .iconst 0, 1), (93, .invokevirtual 324, 3), (96, .iload 4, 2), (98, .if_icmp .lt 6, 3), (101, .goto 19, 3), (104, .iload 5, 2), (106, .istore_n 3, 1), (107, .aload_n 0, 1), (108, .iload_n 1, 1), (109, .iload_n 2, 1), (110, .iload 5, 2), (112, .iload 6, 2), (114, .iconst 0, 1), (115, .invokevirtual 324, 3), (118, .istore 4, 2), (120, .iinc 5 1, 3), (123, .goto (-66), 3), (126, .iload_n 3, 1), (127, .ireturn, 1)]
theorem D_X9_week : dkA cX9_week rows_X9_week := by
  unfold dkA
  decide +kernel
theorem okD_X9_week : okD yX9_week 2 := by
  unfold okD
  decide +kernel
def w_X9_week_b120 (p1 : Int32) (p2 : Int32) (v3 : Int32) (v4 : Int32) (v5 : Int32) (K57 : Int32 × Int32 × Int32 × Hp → Prop) (h : Hp) (Q : Int32 → Hp → Prop) : Prop :=
  K57 (v3, v4, (v5 + (1 : Int32)), h)
def w_X9_week_b104 (p1 : Int32) (p2 : Int32) (v5 : Int32) (v6 : Int32) (K57 : Int32 × Int32 × Int32 × Hp → Prop) (h : Hp) (Q : Int32 → Hp → Prop) : Prop :=
  w_X9_costOf (p1) (p2) (v5) (v6) ((0 : Int32)) h (fun z1 h2 => w_X9_week_b120 p1 p2 (v5) (z1) (v5) K57 (h2) Q)
def w_X9_week_l57 (p1 : Int32) (p2 : Int32) (Q : Int32 → Hp → Prop) (K57 : Int32 × Int32 × Int32 × Hp → Prop) (v3 : Int32) (v4 : Int32) (v5 : Int32) (h : Hp) : Prop :=
  wif ((30 : Int32) ≤ v5) (Q v3 h) (w_X9_bestMinute (p1) (p2) (v5) h (fun z1 h2 => wif (z1 = (-1 : Int32)) (w_X9_week_b120 p1 p2 (v3) (v4) (v5) K57 (h2) Q) (wif (v3 = (-1 : Int32)) (w_X9_week_b104 p1 p2 (v5) (z1) K57 (h2) Q) (w_X9_costOf (p1) (p2) (v5) (z1) ((0 : Int32)) h2 (fun z3 h4 => wif (z3 < v4) (w_X9_week_b104 p1 p2 (v5) (z1) K57 (h4) Q) (w_X9_week_b120 p1 p2 (v3) (v4) (v5) K57 (h4) Q))))))
def w_X9_week_b57 (p1 : Int32) (p2 : Int32) (Q : Int32 → Hp → Prop) (s : Int32 × Int32 × Int32 × Hp) : Prop := wl (fun K s => w_X9_week_l57 p1 p2 Q K s.1 s.2.1 s.2.2.1 s.2.2.2) s
def w_X9_week (p1 : Int32) (p2 : Int32) (h : Hp) (Q : Int32 → Hp → Prop) : Prop :=
  wlet (hup h 92 0 (0 : Int32)) (fun h1 => w_X9_isBridge (p1) h1 (fun z2 => w_X9_bad ((if ¬ z2 = 0 then (0 : Int32) else (1 : Int32))) ((1 : Int32)) h1 (fun z4 h5 => wif (¬ z4 = 0) (Q (0 : Int32) h5) (w_X9_isWho (p2) h5 (fun z6 => w_X9_bad ((if ¬ z6 = 0 then (0 : Int32) else (1 : Int32))) ((2 : Int32)) h5 (fun z8 h9 => wif (z8 = 0) (w_X9_week_b57 p1 p2 Q ((-1 : Int32), (0 : Int32), (0 : Int32), h9)) (Q (0 : Int32) h9)))))))
theorem t_X9_week_b120 {X : Cx} (p1 : Int32) (p2 : Int32) (v3 : Int32) (v4 : Int32) (v5 : Int32) (K57 : Int32 × Int32 × Int32 × Hp → Prop) (h : Hp) (Q : Int32 → Hp → Prop) (hK57 : ∀ s : Int32 × Int32 × Int32 × Hp, K57 s → G X M_X9_week E_X9_week (QM X E_X9_week (QI Q) Qn) 0 57 [(0, .ref (92)), (1, .int (p1)), (2, .int (p2)), (3, .int (s.1)), (4, .int (s.2.1)), (5, .int (s.2.2.1))] [] (s.2.2.2)) (hw : w_X9_week_b120 p1 p2 v3 v4 v5 K57 h Q) : G X M_X9_week E_X9_week (QM X E_X9_week (QI Q) Qn) 0 120 [(0, .ref (92)), (1, .int (p1)), (2, .int (p2)), (3, .int (v3)), (4, .int (v4)), (5, .int (v5))] [] h := by
  unfold w_X9_week_b120 at hw
  refine g_iinc 5 (dk D_X9_week 68 rfl) rfl (congrArg (fun z => _ + z) ki_1) (by decide) rfl ?_
  refine g_goto (dk D_X9_week 69 rfl) rfl ?_
  refine g_sub [1, 2, 3, 4, 5, 0] rfl ?_
  exact hK57 (v3, v4, (v5 + (1 : Int32)), h) hw
theorem t_X9_week_b104 {X : Cx} (p1 : Int32) (p2 : Int32) (v5 : Int32) (v6 : Int32) (K57 : Int32 × Int32 × Int32 × Hp → Prop) (h : Hp) (Q : Int32 → Hp → Prop) (hK57 : ∀ s : Int32 × Int32 × Int32 × Hp, K57 s → G X M_X9_week E_X9_week (QM X E_X9_week (QI Q) Qn) 0 57 [(0, .ref (92)), (1, .int (p1)), (2, .int (p2)), (3, .int (s.1)), (4, .int (s.2.1)), (5, .int (s.2.2.1))] [] (s.2.2.2)) (hw : w_X9_week_b104 p1 p2 v5 v6 K57 h Q) : G X M_X9_week E_X9_week (QM X E_X9_week (QI Q) Qn) 0 104 [(0, .ref (92)), (1, .int (p1)), (2, .int (p2)), (5, .int (v5)), (6, .int (v6))] [] h := by
  unfold w_X9_week_b104 at hw
  refine g_iload 3 (dk D_X9_week 58 rfl) rfl ?_
  refine g_istore_n (dk D_X9_week 59 rfl) rfl (by decide) rfl ?_
  refine g_aload_n 1 (dk D_X9_week 60 rfl) rfl rfl ?_
  refine g_iload_n 2 (dk D_X9_week 61 rfl) rfl rfl ?_
  refine g_iload_n 3 (dk D_X9_week 62 rfl) rfl rfl ?_
  refine g_iload 4 (dk D_X9_week 63 rfl) rfl ?_
  refine g_iload 5 (dk D_X9_week 64 rfl) rfl ?_
  refine g_iconst (dk D_X9_week 65 rfl) ki_0 ?_
  refine g_callV (As := [.int (p1), .int (p2), .int (v5), .int (v6), .int ((0 : Int32))]) (kc := 0) (fr := 5) (lo := 172) (mc := 0) (My := M_X9_costOf) (dk D_X9_week 66 rfl) kd_92 rfl rfl w_1745 w_1747 w_78 w_110 w_1748 okD_X9_costOf (by decide) (Nat.le_of_ble_eq_true rfl) rfl (c_X9_costOf (p1) (p2) (v5) (v6) ((0 : Int32)) (h) _ hw) kxN (kI (fun z1 h2 hw => ?_))
  refine g_istore (dk D_X9_week 67 rfl) (by decide) rfl ?_
  refine g_sub [2, 3, 4, 1, 0, 5] rfl ?_
  exact t_X9_week_b120 p1 p2 (v5) (z1) (v5) K57 (h2) Q hK57 hw
theorem t_X9_week_l57 {X : Cx} (p1 : Int32) (p2 : Int32) (Q : Int32 → Hp → Prop) (K57 : Int32 × Int32 × Int32 × Hp → Prop) (v3 : Int32) (v4 : Int32) (v5 : Int32) (h : Hp) (hK57 : ∀ s : Int32 × Int32 × Int32 × Hp, K57 s → G X M_X9_week E_X9_week (QM X E_X9_week (QI Q) Qn) 0 57 [(0, .ref (92)), (1, .int (p1)), (2, .int (p2)), (3, .int (s.1)), (4, .int (s.2.1)), (5, .int (s.2.2.1))] [] (s.2.2.2)) (hw : w_X9_week_l57 p1 p2 Q K57 v3 v4 v5 h) : G X M_X9_week E_X9_week (QM X E_X9_week (QI Q) Qn) 0 57 [(0, .ref (92)), (1, .int (p1)), (2, .int (p2)), (3, .int (v3)), (4, .int (v4)), (5, .int (v5))] [] h := by
  unfold w_X9_week_l57 at hw
  refine g_iload 5 (dk D_X9_week 33 rfl) rfl ?_
  refine g_bipush (dk D_X9_week 34 rfl) kb_30 ?_
  refine g_icmp_ge (dk D_X9_week 35 rfl) rfl (wif_m hw (fun hw => ?_) (fun hw => ?_))
  · refine g_iload_n 3 (dk D_X9_week 70 rfl) rfl rfl ?_
    exact g_iret (dk D_X9_week 71 rfl) rfl ⟨_, rfl, hw⟩
  · refine g_aload_n 0 (dk D_X9_week 36 rfl) rfl rfl ?_
    refine g_iload_n 1 (dk D_X9_week 37 rfl) rfl rfl ?_
    refine g_iload_n 2 (dk D_X9_week 38 rfl) rfl rfl ?_
    refine g_iload 5 (dk D_X9_week 39 rfl) rfl ?_
    refine g_callV (As := [.int (p1), .int (p2), .int (v5)]) (kc := 0) (fr := 6) (lo := 205) (mc := 0) (My := M_X9_bestMinute) (dk D_X9_week 40 rfl) kd_92 rfl rfl w_1737 w_1739 w_76 w_110 w_1740 okD_X9_bestMinute (by decide) (Nat.le_of_ble_eq_true rfl) rfl (c_X9_bestMinute (p1) (p2) (v5) (h) _ hw) kxN (kI (fun z1 h2 hw => ?_))
    refine g_istore (dk D_X9_week 41 rfl) (by decide) rfl ?_
    refine g_iload 0 (dk D_X9_week 42 rfl) rfl ?_
    refine g_iconst (dk D_X9_week 43 rfl) ki_m1 ?_
    refine g_icmp_eq (dk D_X9_week 44 rfl) rfl (wif_m hw (fun hw => ?_) (fun hw => ?_))
    · refine g_sub [1, 2, 3, 4, 5, 6] rfl ?_
      exact t_X9_week_b120 p1 p2 (v3) (v4) (v5) K57 (h2) Q hK57 hw
    · refine g_iload_n 4 (dk D_X9_week 45 rfl) rfl rfl ?_
      refine g_iconst (dk D_X9_week 46 rfl) ki_m1 ?_
      refine g_icmp_eq (dk D_X9_week 47 rfl) rfl (wif_m hw (fun hw => ?_) (fun hw => ?_))
      · refine g_sub [1, 2, 3, 6, 0] rfl ?_
        exact t_X9_week_b104 p1 p2 (v5) (z1) K57 (h2) Q hK57 hw
      · refine g_aload_n 1 (dk D_X9_week 48 rfl) rfl rfl ?_
        refine g_iload_n 2 (dk D_X9_week 49 rfl) rfl rfl ?_
        refine g_iload_n 3 (dk D_X9_week 50 rfl) rfl rfl ?_
        refine g_iload 6 (dk D_X9_week 51 rfl) rfl ?_
        refine g_iload 0 (dk D_X9_week 52 rfl) rfl ?_
        refine g_iconst (dk D_X9_week 53 rfl) ki_0 ?_
        refine g_callV (As := [.int (p1), .int (p2), .int (v5), .int (z1), .int ((0 : Int32))]) (kc := 0) (fr := 5) (lo := 172) (mc := 0) (My := M_X9_costOf) (dk D_X9_week 54 rfl) kd_92 rfl rfl w_1745 w_1747 w_78 w_110 w_1748 okD_X9_costOf (by decide) (Nat.le_of_ble_eq_true rfl) rfl (c_X9_costOf (p1) (p2) (v5) (z1) ((0 : Int32)) (h2) _ hw) kxN (kI (fun z3 h4 hw => ?_))
        refine g_iload 5 (dk D_X9_week 55 rfl) rfl ?_
        refine g_icmp_lt (dk D_X9_week 56 rfl) rfl (wif_m hw (fun hw => ?_) (fun hw => ?_))
        · refine g_sub [1, 2, 3, 6, 0] rfl ?_
          exact t_X9_week_b104 p1 p2 (v5) (z1) K57 (h4) Q hK57 hw
        · refine g_goto (dk D_X9_week 57 rfl) rfl ?_
          refine g_sub [1, 2, 3, 4, 5, 6] rfl ?_
          exact t_X9_week_b120 p1 p2 (v3) (v4) (v5) K57 (h4) Q hK57 hw
theorem t_X9_week_b57 {X : Cx} (p1 : Int32) (p2 : Int32) (Q : Int32 → Hp → Prop) (s : Int32 × Int32 × Int32 × Hp) (hw : w_X9_week_b57 p1 p2 Q s) : G X M_X9_week E_X9_week (QM X E_X9_week (QI Q) Qn) 0 57 [(0, .ref (92)), (1, .int (p1)), (2, .int (p2)), (3, .int (s.1)), (4, .int (s.2.1)), (5, .int (s.2.2.1))] [] (s.2.2.2) :=
  wl_ind (B := fun K s => w_X9_week_l57 p1 p2 Q K (s.1) (s.2.1) (s.2.2.1) (s.2.2.2)) (P := fun s => G X M_X9_week E_X9_week (QM X E_X9_week (QI Q) Qn) 0 57 [(0, .ref (92)), (1, .int (p1)), (2, .int (p2)), (3, .int (s.1)), (4, .int (s.2.1)), (5, .int (s.2.2.1))] [] (s.2.2.2)) (fun K hK s hw => t_X9_week_l57 p1 p2 Q K (s.1) (s.2.1) (s.2.2.1) (s.2.2.2) hK hw) s hw
theorem t_X9_week {X : Cx} (p1 : Int32) (p2 : Int32) (h : Hp) (Q : Int32 → Hp → Prop) (hw : w_X9_week p1 p2 h Q) : G X M_X9_week E_X9_week (QM X E_X9_week (QI Q) Qn) 0 0 [(0, .ref (92)), (1, .int (p1)), (2, .int (p2))] [] h := by
  unfold w_X9_week at hw
  refine g_aload_n 0 (dk D_X9_week 0 rfl) rfl rfl ?_
  refine g_iconst (dk D_X9_week 1 rfl) ki_0 ?_
  refine g_put 0 (dk D_X9_week 2 rfl) kd_92 rfl rfl (by decide) w_1357 rfl tyX9_ok nmX9 rfl (by decide) rfl (fun z => absurd z (by decide)) ?_
  refine g_heap (fun h1 eh1 => ?_)
  replace hw := hw _ eh1
  refine g_aload_n 0 (dk D_X9_week 3 rfl) rfl rfl ?_
  refine g_aload_n 0 (dk D_X9_week 4 rfl) rfl rfl ?_
  refine g_iload_n 1 (dk D_X9_week 5 rfl) rfl rfl ?_
  refine g_callV (As := [.int (p1)]) (kc := 0) (fr := 0) (lo := 0) (mc := 0) (My := M_X9_isBridge) (dk D_X9_week 6 rfl) kd_92 rfl rfl w_1687 w_1689 w_70 w_110 w_1690 okD_X9_isBridge (by decide) (Nat.le_of_ble_eq_true rfl) rfl (c_X9_isBridge (p1) (h1) _ hw) kxN (kIp (fun z2 hw => ?_))
  have hj : G X M_X9_week E_X9_week (QM X E_X9_week (QI Q) Qn) 0 19 [(0, .ref (92)), (1, .int (p1)), (2, .int (p2))] [.int ((if ¬ z2 = 0 then (0 : Int32) else (1 : Int32))), .ref (92)] (h1) := by
    refine g_iconst (dk D_X9_week 11 rfl) ki_1 ?_
    refine g_callV (As := [.int ((if ¬ z2 = 0 then (0 : Int32) else (1 : Int32))), .int ((1 : Int32))]) (kc := 0) (fr := 0) (lo := 0) (mc := 0) (My := M_X9_bad) (dk D_X9_week 12 rfl) kd_92 rfl rfl w_1530 w_1532 w_42 w_110 w_1533 okD_X9_bad (by decide) (Nat.le_of_ble_eq_true rfl) rfl (c_X9_bad ((if ¬ z2 = 0 then (0 : Int32) else (1 : Int32))) ((1 : Int32)) (h1) _ hw) kxN (kI (fun z4 h5 hw => ?_))
    refine g_if_ne (dk D_X9_week 13 rfl) rfl (wif_m hw (fun hw => ?_) (fun hw => ?_))
    · refine g_iconst (dk D_X9_week 25 rfl) ki_0 ?_
      exact g_iret (dk D_X9_week 26 rfl) rfl ⟨_, rfl, hw⟩
    · refine g_aload_n 0 (dk D_X9_week 14 rfl) rfl rfl ?_
      refine g_aload_n 0 (dk D_X9_week 15 rfl) rfl rfl ?_
      refine g_iload_n 2 (dk D_X9_week 16 rfl) rfl rfl ?_
      refine g_callV (As := [.int (p2)]) (kc := 0) (fr := 1) (lo := 30) (mc := 0) (My := M_X9_isWho) (dk D_X9_week 17 rfl) kd_92 rfl rfl w_1668 w_1670 w_68 w_110 w_1671 okD_X9_isWho (by decide) (Nat.le_of_ble_eq_true rfl) rfl (c_X9_isWho (p2) (h5) _ hw) kxN (kIp (fun z6 hw => ?_))
      have hj : G X M_X9_week E_X9_week (QM X E_X9_week (QI Q) Qn) 0 40 [(0, .ref (92)), (1, .int (p1)), (2, .int (p2))] [.int ((if ¬ z6 = 0 then (0 : Int32) else (1 : Int32))), .ref (92)] (h5) := by
        refine g_iconst (dk D_X9_week 22 rfl) ki_2 ?_
        refine g_callV (As := [.int ((if ¬ z6 = 0 then (0 : Int32) else (1 : Int32))), .int ((2 : Int32))]) (kc := 0) (fr := 0) (lo := 0) (mc := 0) (My := M_X9_bad) (dk D_X9_week 23 rfl) kd_92 rfl rfl w_1530 w_1532 w_42 w_110 w_1533 okD_X9_bad (by decide) (Nat.le_of_ble_eq_true rfl) rfl (c_X9_bad ((if ¬ z6 = 0 then (0 : Int32) else (1 : Int32))) ((2 : Int32)) (h5) _ hw) kxN (kI (fun z8 h9 hw => ?_))
        refine g_if_eq (dk D_X9_week 24 rfl) rfl (wif_m hw (fun hw => ?_) (fun hw => ?_))
        · refine g_iconst (dk D_X9_week 27 rfl) ki_m1 ?_
          refine g_istore_n (dk D_X9_week 28 rfl) rfl (by decide) rfl ?_
          refine g_iconst (dk D_X9_week 29 rfl) ki_0 ?_
          refine g_istore (dk D_X9_week 30 rfl) (by decide) rfl ?_
          refine g_iconst (dk D_X9_week 31 rfl) ki_0 ?_
          refine g_istore (dk D_X9_week 32 rfl) (by decide) rfl ?_
          refine g_sub [3, 4, 5, 2, 1, 0] rfl ?_
          exact t_X9_week_b57 p1 p2 Q ((-1 : Int32), (0 : Int32), (0 : Int32), h9) hw
        · refine g_iconst (dk D_X9_week 25 rfl) ki_0 ?_
          exact g_iret (dk D_X9_week 26 rfl) rfl ⟨_, rfl, hw⟩
      refine g_if_ne (dk D_X9_week 18 rfl) rfl ?_
      by_cases c7 : ¬ z6 = 0
      · rw [if_pos c7] at hj
        refine wif_p c7 ?_
        refine g_iconst (dk D_X9_week 21 rfl) ki_0 ?_
        exact hj
      · rw [if_neg c7] at hj
        refine wif_n c7 ?_
        refine g_iconst (dk D_X9_week 19 rfl) ki_1 ?_
        refine g_goto (dk D_X9_week 20 rfl) rfl ?_
        exact hj
  refine g_if_ne (dk D_X9_week 7 rfl) rfl ?_
  by_cases c3 : ¬ z2 = 0
  · rw [if_pos c3] at hj
    refine wif_p c3 ?_
    refine g_iconst (dk D_X9_week 10 rfl) ki_0 ?_
    exact hj
  · rw [if_neg c3] at hj
    refine wif_n c3 ?_
    refine g_iconst (dk D_X9_week 8 rfl) ki_1 ?_
    refine g_goto (dk D_X9_week 9 rfl) rfl ?_
    exact hj
theorem c_X9_week {X : Cx} (p1 : Int32) (p2 : Int32) (h : Hp) (Q : Int32 → Hp → Prop) (hw : w_X9_week p1 p2 h Q) : Con X yX9_week M_X9_week 7 240 0 [.ref (92), .int (p1), .int (p2)] h (QI Q) Qn :=
  con_of (by decide +kernel) rfl (Nat.le_of_ble_eq_true rfl) (t_X9_week p1 p2 h Q hw)
/-! ShadowTollsModel.slotsOf()I -/
abbrev M_X9_slotsOf : Mi := (RX9, cX9_slotsOf, 2, (some .int))
abbrev E_X9_slotsOf : Rm := (0, 0, 0, 0)
def rows_X9_slotsOf : List (Nat × Instr × Nat) := [(0, .aload_n 0, 1), (1, .getfield 20, 3), (4, .iconst 3, 1), (5, .iaload, 1), (6, .aload_n 0, 1), (7, .getfield 20, 3), (10, .iconst 2, 1), (11, .iaload, 1), (12, .isub, 1), (13, .aload_n 0, 1), (14, .getfield 20, 3), (17, .iconst 4, 1), (18, .iaload, 1), (19, .idiv, 1), (20, .istore_n 1, 1), (21, .iload_n 1, 1), (22, .bipush 30, 2), (24, .if_icmp .le 8, 3), (27, .bipush 30, 2), (29, .goto 4, 3), (32, .iload_n 1, 1), (33, .ireturn, 1)]
theorem D_X9_slotsOf : dkA cX9_slotsOf rows_X9_slotsOf := by
  unfold dkA
  decide +kernel
theorem okD_X9_slotsOf : okD yX9_slotsOf 0 := by
  unfold okD
  decide +kernel
def w_X9_slotsOf (h : Hp) (Q : Int32 → Prop) : Prop :=
  (vp_in (3 : Int32) 11 ∧ (vp_in (2 : Int32) 11 ∧ (vp_in (4 : Int32) 11 ∧ (¬ (h 95 (Int32.toNatClampNeg (4 : Int32))) = 0 ∧ wlet ((((h 95 (Int32.toNatClampNeg (3 : Int32))) - (h 95 (Int32.toNatClampNeg (2 : Int32)))) / (h 95 (Int32.toNatClampNeg (4 : Int32))))) (fun v1_5 => Q (if v1_5 ≤ (30 : Int32) then v1_5 else (30 : Int32)))))))
theorem t_X9_slotsOf {X : Cx} (h : Hp) (Q : Int32 → Prop) (hw : w_X9_slotsOf h Q) : G X M_X9_slotsOf E_X9_slotsOf (QM X E_X9_slotsOf (QIp h Q) Qn) 0 0 [(0, .ref (92))] [] h := by
  unfold w_X9_slotsOf at hw
  refine g_aload_n 0 (dk D_X9_slotsOf 0 rfl) rfl rfl ?_
  refine g_getR 11 (t := 95) (dk D_X9_slotsOf 1 rfl) kd_92 rfl rfl (by decide) w_1368 rfl rfl rfl ?_
  refine g_iconst (dk D_X9_slotsOf 2 rfl) ki_3 ?_
  obtain ⟨hi1, hw⟩ := hw
  refine g_iald (dk D_X9_slotsOf 3 rfl) kd_95 hi1 ?_
  refine g_aload_n 0 (dk D_X9_slotsOf 4 rfl) rfl rfl ?_
  refine g_getR 11 (t := 95) (dk D_X9_slotsOf 5 rfl) kd_92 rfl rfl (by decide) w_1368 rfl rfl rfl ?_
  refine g_iconst (dk D_X9_slotsOf 6 rfl) ki_2 ?_
  obtain ⟨hi2, hw⟩ := hw
  refine g_iald (dk D_X9_slotsOf 7 rfl) kd_95 hi2 ?_
  refine g_isub (dk D_X9_slotsOf 8 rfl) ?_
  refine g_aload_n 0 (dk D_X9_slotsOf 9 rfl) rfl rfl ?_
  refine g_getR 11 (t := 95) (dk D_X9_slotsOf 10 rfl) kd_92 rfl rfl (by decide) w_1368 rfl rfl rfl ?_
  refine g_iconst (dk D_X9_slotsOf 11 rfl) ki_4 ?_
  obtain ⟨hi3, hw⟩ := hw
  refine g_iald (dk D_X9_slotsOf 12 rfl) kd_95 hi3 ?_
  obtain ⟨d4, hw⟩ := hw
  refine g_idiv (dk D_X9_slotsOf 13 rfl) d4 ?_
  refine g_topi (fun v1_5 ev1_5 => ?_)
  replace hw := hw _ ev1_5
  refine g_istore_n (dk D_X9_slotsOf 14 rfl) rfl (by decide) rfl ?_
  refine g_iload_n 0 (dk D_X9_slotsOf 15 rfl) rfl rfl ?_
  refine g_bipush (dk D_X9_slotsOf 16 rfl) kb_30 ?_
  have hj : G X M_X9_slotsOf E_X9_slotsOf (QM X E_X9_slotsOf (QIp h Q) Qn) 0 33 [(1, .int (v1_5)), (0, .ref (92))] [.int ((if v1_5 ≤ (30 : Int32) then v1_5 else (30 : Int32)))] (h) := by
    exact g_iret (dk D_X9_slotsOf 21 rfl) rfl ⟨_, rfl, rfl, hw⟩
  refine g_icmp_le (dk D_X9_slotsOf 17 rfl) rfl ?_
  by_cases c6 : v1_5 ≤ (30 : Int32)
  · rw [if_pos c6] at hj
    refine wif_p c6 ?_
    refine g_iload_n 0 (dk D_X9_slotsOf 20 rfl) rfl rfl ?_
    exact hj
  · rw [if_neg c6] at hj
    refine wif_n c6 ?_
    refine g_bipush (dk D_X9_slotsOf 18 rfl) kb_30 ?_
    refine g_goto (dk D_X9_slotsOf 19 rfl) rfl ?_
    exact hj
theorem c_X9_slotsOf {X : Cx} (h : Hp) (Q : Int32 → Prop) (hw : w_X9_slotsOf h Q) : Con X yX9_slotsOf M_X9_slotsOf 0 0 0 [.ref (92)] h (QIp h Q) Qn :=
  con_of (by decide +kernel) rfl (Nat.le_of_ble_eq_true rfl) (t_X9_slotsOf h Q hw)
/-! ShadowTollsModel.slots()I -/
abbrev M_X9_slots : Mi := (RX9, cX9_slots, 1, (some .int))
abbrev E_X9_slots : Rm := (1, 29, 0, 0)
def rows_X9_slots : List (Nat × Instr × Nat) := [(0, .aload_n 0, 1), (1, .iconst 0, 1), (2, .putfield 111, 3), (5, .aload_n 0, 1), (6, .invokevirtual 330, 3), (9, .ireturn, 1)]
theorem D_X9_slots : dkA cX9_slots rows_X9_slots := by
  unfold dkA
  decide +kernel
theorem okD_X9_slots : okD yX9_slots 0 := by
  unfold okD
  decide +kernel
def w_X9_slots (h : Hp) (Q : Int32 → Hp → Prop) : Prop :=
  wlet (hup h 92 0 (0 : Int32)) (fun h1 => w_X9_slotsOf  h1 (fun z2 => Q z2 h1))
theorem t_X9_slots {X : Cx} (h : Hp) (Q : Int32 → Hp → Prop) (hw : w_X9_slots h Q) : G X M_X9_slots E_X9_slots (QM X E_X9_slots (QI Q) Qn) 0 0 [(0, .ref (92))] [] h := by
  unfold w_X9_slots at hw
  refine g_aload_n 0 (dk D_X9_slots 0 rfl) rfl rfl ?_
  refine g_iconst (dk D_X9_slots 1 rfl) ki_0 ?_
  refine g_put 0 (dk D_X9_slots 2 rfl) kd_92 rfl rfl (by decide) w_1357 rfl tyX9_ok nmX9 rfl (by decide) rfl (fun z => absurd z (by decide)) ?_
  refine g_heap (fun h1 eh1 => ?_)
  replace hw := hw _ eh1
  refine g_aload_n 0 (dk D_X9_slots 3 rfl) rfl rfl ?_
  refine g_callV (As := []) (kc := 0) (fr := 0) (lo := 0) (mc := 0) (My := M_X9_slotsOf) (dk D_X9_slots 4 rfl) kd_92 rfl rfl w_1757 w_1759 w_79 w_110 w_1760 okD_X9_slotsOf (by decide) (Nat.le_of_ble_eq_true rfl) rfl (c_X9_slotsOf (h1) _ hw) kxN (kIp (fun z2 hw => ?_))
  exact g_iret (dk D_X9_slots 5 rfl) rfl ⟨_, rfl, hw⟩
theorem c_X9_slots {X : Cx} (h : Hp) (Q : Int32 → Hp → Prop) (hw : w_X9_slots h Q) : Con X yX9_slots M_X9_slots 1 29 0 [.ref (92)] h (QI Q) Qn :=
  con_of (by decide +kernel) rfl (Nat.le_of_ble_eq_true rfl) (t_X9_slots h Q hw)
/-! ShadowTollsModel.minuteOf(I)I -/
abbrev M_X9_minuteOf : Mi := (RX9, cX9_minuteOf, 2, (some .int))
abbrev E_X9_minuteOf : Rm := (0, 0, 0, 0)
def rows_X9_minuteOf : List (Nat × Instr × Nat) := [(0, .aload_n 0, 1), (1, .getfield 20, 3), (4, .iconst 2, 1), (5, .iaload, 1), (6, .aload_n 0, 1), (7, .getfield 20, 3), (10, .iconst 4, 1), (11, .iaload, 1), (12, .iload_n 1, 1), (13, .aload_n 0, 1), (14, .getfield 333, 3), (17, .if_icmp .ge 7, 3), (20, .iload_n 1, 1), (21, .goto 9, 3), (24, .iload_n 1, 1), (25, .aload_n 0, 1), (26, .getfield 333, 3), (29, .isub, 1), (30, .imul, 1), (31, .iadd, 1), (32, .ireturn, 1)]
theorem D_X9_minuteOf : dkA cX9_minuteOf rows_X9_minuteOf := by
  unfold dkA
  decide +kernel
theorem okD_X9_minuteOf : okD yX9_minuteOf 1 := by
  unfold okD
  decide +kernel
def w_X9_minuteOf (p1 : Int32) (h : Hp) (Q : Int32 → Prop) : Prop :=
  (vp_in (2 : Int32) 11 ∧ (vp_in (4 : Int32) 11 ∧ Q ((h 95 (Int32.toNatClampNeg (2 : Int32))) + ((h 95 (Int32.toNatClampNeg (4 : Int32))) * (if (h 92 42) ≤ p1 then (p1 - (h 92 42)) else p1)))))
theorem t_X9_minuteOf {X : Cx} (p1 : Int32) (h : Hp) (Q : Int32 → Prop) (hw : w_X9_minuteOf p1 h Q) : G X M_X9_minuteOf E_X9_minuteOf (QM X E_X9_minuteOf (QIp h Q) Qn) 0 0 [(0, .ref (92)), (1, .int (p1))] [] h := by
  unfold w_X9_minuteOf at hw
  refine g_aload_n 0 (dk D_X9_minuteOf 0 rfl) rfl rfl ?_
  refine g_getR 11 (t := 95) (dk D_X9_minuteOf 1 rfl) kd_92 rfl rfl (by decide) w_1368 rfl rfl rfl ?_
  refine g_iconst (dk D_X9_minuteOf 2 rfl) ki_2 ?_
  obtain ⟨hi1, hw⟩ := hw
  refine g_iald (dk D_X9_minuteOf 3 rfl) kd_95 hi1 ?_
  refine g_aload_n 0 (dk D_X9_minuteOf 4 rfl) rfl rfl ?_
  refine g_getR 11 (t := 95) (dk D_X9_minuteOf 5 rfl) kd_92 rfl rfl (by decide) w_1368 rfl rfl rfl ?_
  refine g_iconst (dk D_X9_minuteOf 6 rfl) ki_4 ?_
  obtain ⟨hi2, hw⟩ := hw
  refine g_iald (dk D_X9_minuteOf 7 rfl) kd_95 hi2 ?_
  refine g_iload_n 1 (dk D_X9_minuteOf 8 rfl) rfl rfl ?_
  refine g_aload_n 0 (dk D_X9_minuteOf 9 rfl) rfl rfl ?_
  refine g_getI 42 (dk D_X9_minuteOf 10 rfl) kd_92 rfl rfl (by decide) w_1399 rfl rfl ?_
  have hj : G X M_X9_minuteOf E_X9_minuteOf (QM X E_X9_minuteOf (QIp h Q) Qn) 0 30 [(0, .ref (92)), (1, .int (p1))] [.int ((if (h 92 42) ≤ p1 then (p1 - (h 92 42)) else p1)), .int ((h 95 (Int32.toNatClampNeg (4 : Int32)))), .int ((h 95 (Int32.toNatClampNeg (2 : Int32))))] (h) := by
    refine g_imul (dk D_X9_minuteOf 18 rfl) ?_
    refine g_iadd (dk D_X9_minuteOf 19 rfl) ?_
    exact g_iret (dk D_X9_minuteOf 20 rfl) rfl ⟨_, rfl, rfl, hw⟩
  refine g_icmp_ge (dk D_X9_minuteOf 11 rfl) rfl ?_
  by_cases c3 : (h 92 42) ≤ p1
  · rw [if_pos c3] at hj
    refine wif_p c3 ?_
    refine g_iload_n 1 (dk D_X9_minuteOf 14 rfl) rfl rfl ?_
    refine g_aload_n 0 (dk D_X9_minuteOf 15 rfl) rfl rfl ?_
    refine g_getI 42 (dk D_X9_minuteOf 16 rfl) kd_92 rfl rfl (by decide) w_1399 rfl rfl ?_
    refine g_isub (dk D_X9_minuteOf 17 rfl) ?_
    exact hj
  · rw [if_neg c3] at hj
    refine wif_n c3 ?_
    refine g_iload_n 1 (dk D_X9_minuteOf 12 rfl) rfl rfl ?_
    refine g_goto (dk D_X9_minuteOf 13 rfl) rfl ?_
    exact hj
theorem c_X9_minuteOf {X : Cx} (p1 : Int32) (h : Hp) (Q : Int32 → Prop) (hw : w_X9_minuteOf p1 h Q) : Con X yX9_minuteOf M_X9_minuteOf 0 0 0 [.ref (92), .int (p1)] h (QIp h Q) Qn :=
  con_of (by decide +kernel) rfl (Nat.le_of_ble_eq_true rfl) (t_X9_minuteOf p1 h Q hw)
/-! ShadowTollsModel.layCoins(IZ)V -/
abbrev M_X9_layCoins : Mi := (RX9, cX9_layCoins, 8, none)
abbrev E_X9_layCoins : Rm := (5, 172, 0, 0)
def rows_X9_layCoins : List (Nat × Instr × Nat) := [(0, .aload_n 0, 1), (1, .aload_n 0, 1), (2, .invokevirtual 330, 3), (5, .putfield 333, 3), (8, .aload_n 0, 1), (9, .iload_n 2, 1), (10, .ifCond .eq 12, 3), (13, .iconst 2, 1), (14, .aload_n 0, 1), (15, .getfield 333, 3), (18, .imul, 1), (19, .goto 7, 3), (22, .aload_n 0, 1), (23, .getfield 333, 3), (26, .putfield 336, 3), (29, .iconst 0, 1), (30, .istore_n 3, 1), (31, .iload_n 3, 1), (32, .aload_n 0, 1), (33, .getfield 336, 3), (36, .if_icmp .ge 194, 3), (39, .iload_n 3, 1), (40, .aload_n 0, 1), (41, .getfield 333, 3), (44, .if_icmp .ge 7, 3), (47, .iconst 0, 1), (48, .goto 4, 3), (51, .iconst 1, 1), (52, .istore 4, 2), (54, .aload_n 0, 1), (55, .iload_n 3, 1), (56, .invokevirtual 339, 3), (59, .istore 5, 2), (61, .iconst 0, 1), (62, .istore 6, 2), (64, .iload 6, 2), (66, .aload_n 0, 1), (67, .getfield 20, 3), (70, .iconst 0, 1), (71, .iaload, 1), (72, .if_icmp .ge 152, 3), (75, .aload_n 0, 1), (76, .getfield 89, 3), (79, .iload_n 3, 1), (80, .aaload, 1), (81, .iload 6, 2), (83, .aload_n 0, 1), (84, .iload 6, 2), (86, .iload 5, 2), (88, .invokevirtual 320, 3), (91, .bastore, 1), (92, .iconst 0, 1), (93, .istore 7, 2), (95, .iload 7, 2), (97, .iconst 2, 1), (98, .if_icmp .ge 120, 3), (101, .aload_n 0, 1), (102, .getfield 89, 3), (105, .iload_n 3, 1), (106, .aaload, 1), (107, .iload 6, 2), (109, .baload, 1), (110, .ifCond .eq 108, 3), (113, .aload_n 0, 1), (114, .getfield 84, 3), (117, .iload_n 3, 1), (118, .aaload, 1), (119, .iload 6, 2), (121, .aaload, 1), (122, .iload 7, 2), (124, .aload_n 0, 1), (125, .iload 4, 2), (127, .iload 6, 2), (129, .iload_n 1, 1), (130, .iload 5, 2), (132, .iload 7, 2), (134, .iconst 1, 1), (135, .if_icmp .ne 7, 3), (138, .iconst 1, 1), (139, .goto 4, 3), (142, .iconst 0, 1), (143, .invokevirtual 316, 3), (146, .iastore, 1), (147, .aload_n 0, 1), (148, .getfield 81, 3), (151, .iload_n 3, 1), (152, .aaload, 1), (153, .iload 6, 2), (155, .aaload, 1), (156, .iload 7, 2), (158, .aload_n 0, 1), (159, .getfield 84, 3), (162, .iload_n 3, 1), (163, .aaload, 1), (164, .iload 6, 2), (166, .aaload, 1), (167, .iload 7, 2), (169, .iaload, 1), (170, .aload_n 0, 1), (171, .getfield 40, 3), (174, .iload 6, 2), (176, .aaload, 1), (177, .iconst 4, 1), (178, .iaload, 1), (179, .iload 5, 2), (181, .aload_n 0, 1), (182, .getfield 40, 3), (185, .iload 6, 2), (187, .aaload, 1), (188, .iconst 2, 1), (189, .iaload, 1), (190, .isub, 1), (191, .imul, 1), (192, .iadd, 1), (193, .iload 4, 2), (195, .iconst 1, 1), (196, .if_icmp .ne 13, 3), (199, .aload_n 0, 1), (200, .getfield 20, 3), (203, .bipush 10, 2), (205, .iaload, 1), (206, .goto 4, 3), (209, .iconst 0, 1), (210, .iadd, 1), (211, .iastore, 1), (212, .iinc 7 1, 3), (215, .goto (-120), 3), (218, .iinc 6 1, 3), (221, .goto (-157), 3), (224, .iinc 3 1, 3), (227, .goto (-196), 3), (230, .return_, 1)]
theorem D_X9_layCoins : dkA cX9_layCoins rows_X9_layCoins := by
  unfold dkA
  decide +kernel
theorem okD_X9_layCoins : okD yX9_layCoins 2 := by
  unfold okD
  decide +kernel
def w_X9_layCoins_b218 (p1 : Int32) (p2 : Int32) (v3 : Int32) (v4 : Int32) (v5 : Int32) (v6 : Int32) (K31 : Int32 × Hp → Prop) (K64 : Int32 × Hp → Prop) (h : Hp) (Q : Hp → Prop) : Prop :=
  K64 ((v6 + (1 : Int32)), h)
def w_X9_layCoins_b210 (p1 : Int32) (p2 : Int32) (v3 : Int32) (v4 : Int32) (v5 : Int32) (v6 : Int32) (v7 : Int32) (s0 : Int32) (s1 : Int32) (s2 : Int32) (rs3 : Nat) (K31 : Int32 × Hp → Prop) (K64 : Int32 × Hp → Prop) (K95 : Int32 × Hp → Prop) (h : Hp) (Q : Hp → Prop) : Prop :=
  (vp_in s2 2 ∧ wlet (hup h rs3 (Int32.toNatClampNeg s2) (s1 + s0)) (fun h2 => K95 ((v7 + (1 : Int32)), h2)))
def w_X9_layCoins_l95 (p1 : Int32) (p2 : Int32) (v3 : Int32) (v4 : Int32) (v5 : Int32) (v6 : Int32) (K31 : Int32 × Hp → Prop) (K64 : Int32 × Hp → Prop) (Q : Hp → Prop) (K95 : Int32 × Hp → Prop) (v7 : Int32) (h : Hp) : Prop :=
  wif ((2 : Int32) ≤ v7) (w_X9_layCoins_b218 p1 p2 (v3) (v4) (v5) (v6) K31 K64 (h) Q) ((vp_in v3 60 ∧ (vp_in v6 8 ∧ wif ((h (1302 + 1 * Int32.toNatClampNeg (v3)) (Int32.toNatClampNeg v6) &&& 1) = 0) (w_X9_layCoins_b218 p1 p2 (v3) (v4) (v5) (v6) K31 K64 (h) Q) ((vp_in v3 60 ∧ (vp_in v6 8 ∧ w_X9_coinsOf (v4) (v6) (p1) (v5) ((if ¬ v7 = (1 : Int32) then (0 : Int32) else (1 : Int32))) h (fun z6 h7 => (vp_in v7 2 ∧ wlet (hup h7 (((761 + 9 * Int32.toNatClampNeg (v3)) + 1) + 1 * Int32.toNatClampNeg (v6)) (Int32.toNatClampNeg v7) z6) (fun h9 => (vp_in v3 60 ∧ (vp_in v6 8 ∧ (vp_in v3 60 ∧ (vp_in v6 8 ∧ (vp_in v7 2 ∧ (vp_in v6 8 ∧ (vp_in (4 : Int32) 7 ∧ (vp_in v6 8 ∧ (vp_in (2 : Int32) 7 ∧ wif (¬ v4 = (1 : Int32)) (w_X9_layCoins_b210 p1 p2 (v3) (v4) (v5) (v6) (v7) ((0 : Int32)) (((h9 (((761 + 9 * Int32.toNatClampNeg (v3)) + 1) + 1 * Int32.toNatClampNeg (v6)) (Int32.toNatClampNeg v7)) + ((h9 (110 + 1 * Int32.toNatClampNeg (v6)) (Int32.toNatClampNeg (4 : Int32))) * (v5 - (h9 (110 + 1 * Int32.toNatClampNeg (v6)) (Int32.toNatClampNeg (2 : Int32))))))) (v7) ((((220 + 9 * Int32.toNatClampNeg (v3)) + 1) + 1 * Int32.toNatClampNeg (v6))) K31 K64 K95 (h9) Q) ((vp_in (10 : Int32) 11 ∧ w_X9_layCoins_b210 p1 p2 (v3) (v4) (v5) (v6) (v7) ((h9 95 (Int32.toNatClampNeg (10 : Int32)))) (((h9 (((761 + 9 * Int32.toNatClampNeg (v3)) + 1) + 1 * Int32.toNatClampNeg (v6)) (Int32.toNatClampNeg v7)) + ((h9 (110 + 1 * Int32.toNatClampNeg (v6)) (Int32.toNatClampNeg (4 : Int32))) * (v5 - (h9 (110 + 1 * Int32.toNatClampNeg (v6)) (Int32.toNatClampNeg (2 : Int32))))))) (v7) ((((220 + 9 * Int32.toNatClampNeg (v3)) + 1) + 1 * Int32.toNatClampNeg (v6))) K31 K64 K95 (h9) Q))))))))))))))))))))
def w_X9_layCoins_b95 (p1 : Int32) (p2 : Int32) (v3 : Int32) (v4 : Int32) (v5 : Int32) (v6 : Int32) (K31 : Int32 × Hp → Prop) (K64 : Int32 × Hp → Prop) (Q : Hp → Prop) (s : Int32 × Hp) : Prop := wl (fun K s => w_X9_layCoins_l95 p1 p2 v3 v4 v5 v6 K31 K64 Q K s.1 s.2) s
def w_X9_layCoins_l64 (p1 : Int32) (p2 : Int32) (v3 : Int32) (v4 : Int32) (v5 : Int32) (K31 : Int32 × Hp → Prop) (Q : Hp → Prop) (K64 : Int32 × Hp → Prop) (v6 : Int32) (h : Hp) : Prop :=
  (vp_in (0 : Int32) 11 ∧ wif ((h 95 (Int32.toNatClampNeg (0 : Int32))) ≤ v6) (K31 ((v3 + (1 : Int32)), h)) ((vp_in v3 60 ∧ w_X9_canCome (v6) (v5) h (fun z3 => (vp_in v6 8 ∧ wlet (hup h (1302 + 1 * Int32.toNatClampNeg (v3)) (Int32.toNatClampNeg v6) z3) (fun h5 => w_X9_layCoins_b95 p1 p2 (v3) (v4) (v5) (v6) K31 K64 Q ((0 : Int32), h5)))))))
def w_X9_layCoins_b64 (p1 : Int32) (p2 : Int32) (v3 : Int32) (v4 : Int32) (v5 : Int32) (K31 : Int32 × Hp → Prop) (Q : Hp → Prop) (s : Int32 × Hp) : Prop := wl (fun K s => w_X9_layCoins_l64 p1 p2 v3 v4 v5 K31 Q K s.1 s.2) s
def w_X9_layCoins_l31 (p1 : Int32) (p2 : Int32) (Q : Hp → Prop) (K31 : Int32 × Hp → Prop) (v3 : Int32) (h : Hp) : Prop :=
  wif ((h 92 43) ≤ v3) (Q h) (wlet ((if (h 92 42) ≤ v3 then (1 : Int32) else (0 : Int32))) (fun v4_3 => w_X9_minuteOf (v3) h (fun z4 => w_X9_layCoins_b64 p1 p2 (v3) (v4_3) (z4) K31 Q ((0 : Int32), h))))
def w_X9_layCoins_b31 (p1 : Int32) (p2 : Int32) (Q : Hp → Prop) (s : Int32 × Hp) : Prop := wl (fun K s => w_X9_layCoins_l31 p1 p2 Q K s.1 s.2) s
def w_X9_layCoins (p1 : Int32) (p2 : Int32) (h : Hp) (Q : Hp → Prop) : Prop :=
  w_X9_slotsOf  h (fun z1 => wlet (hup h 92 42 z1) (fun h2 => wlet (hup h2 92 43 (if p2 = 0 then (h2 92 42) else ((2 : Int32) * (h2 92 42)))) (fun h4 => w_X9_layCoins_b31 p1 p2 Q ((0 : Int32), h4))))
theorem t_X9_layCoins_b218 {X : Cx} (p1 : Int32) (p2 : Int32) (v3 : Int32) (v4 : Int32) (v5 : Int32) (v6 : Int32) (K31 : Int32 × Hp → Prop) (K64 : Int32 × Hp → Prop) (h : Hp) (Q : Hp → Prop) (hK31 : ∀ s : Int32 × Hp, K31 s → G X M_X9_layCoins E_X9_layCoins (QM X E_X9_layCoins (QV Q) Qn) 0 31 [(0, .ref (92)), (1, .int (p1)), (3, .int (s.1))] [] (s.2)) (hK64 : ∀ s : Int32 × Hp, K64 s → G X M_X9_layCoins E_X9_layCoins (QM X E_X9_layCoins (QV Q) Qn) 0 64 [(0, .ref (92)), (1, .int (p1)), (3, .int (v3)), (4, .int (v4)), (5, .int (v5)), (6, .int (s.1))] [] (s.2)) (hw : w_X9_layCoins_b218 p1 p2 v3 v4 v5 v6 K31 K64 h Q) : G X M_X9_layCoins E_X9_layCoins (QM X E_X9_layCoins (QV Q) Qn) 0 218 [(0, .ref (92)), (1, .int (p1)), (3, .int (v3)), (4, .int (v4)), (5, .int (v5)), (6, .int (v6))] [] h := by
  unfold w_X9_layCoins_b218 at hw
  refine g_iinc 5 (dk D_X9_layCoins 127 rfl) rfl (congrArg (fun z => _ + z) ki_1) (by decide) rfl ?_
  refine g_goto (dk D_X9_layCoins 128 rfl) rfl ?_
  refine g_sub [1, 2, 3, 4, 5, 0] rfl ?_
  exact hK64 ((v6 + (1 : Int32)), h) hw
theorem t_X9_layCoins_b210 {X : Cx} (p1 : Int32) (p2 : Int32) (v3 : Int32) (v4 : Int32) (v5 : Int32) (v6 : Int32) (v7 : Int32) (s0 : Int32) (s1 : Int32) (s2 : Int32) (rs3 : Nat) (K31 : Int32 × Hp → Prop) (K64 : Int32 × Hp → Prop) (K95 : Int32 × Hp → Prop) (h : Hp) (Q : Hp → Prop) (hrs3 : kd rs3 = (1, 2, 0, 0, 0)) (hK31 : ∀ s : Int32 × Hp, K31 s → G X M_X9_layCoins E_X9_layCoins (QM X E_X9_layCoins (QV Q) Qn) 0 31 [(0, .ref (92)), (1, .int (p1)), (3, .int (s.1))] [] (s.2)) (hK64 : ∀ s : Int32 × Hp, K64 s → G X M_X9_layCoins E_X9_layCoins (QM X E_X9_layCoins (QV Q) Qn) 0 64 [(0, .ref (92)), (1, .int (p1)), (3, .int (v3)), (4, .int (v4)), (5, .int (v5)), (6, .int (s.1))] [] (s.2)) (hK95 : ∀ s : Int32 × Hp, K95 s → G X M_X9_layCoins E_X9_layCoins (QM X E_X9_layCoins (QV Q) Qn) 0 95 [(0, .ref (92)), (1, .int (p1)), (3, .int (v3)), (4, .int (v4)), (5, .int (v5)), (6, .int (v6)), (7, .int (s.1))] [] (s.2)) (hw : w_X9_layCoins_b210 p1 p2 v3 v4 v5 v6 v7 s0 s1 s2 rs3 K31 K64 K95 h Q) : G X M_X9_layCoins E_X9_layCoins (QM X E_X9_layCoins (QV Q) Qn) 0 210 [(0, .ref (92)), (1, .int (p1)), (3, .int (v3)), (4, .int (v4)), (5, .int (v5)), (6, .int (v6)), (7, .int (v7))] [.int (s0), .int (s1), .int (s2), .ref (rs3)] h := by
  unfold w_X9_layCoins_b210 at hw
  refine g_iadd (dk D_X9_layCoins 123 rfl) ?_
  obtain ⟨hi1, hw⟩ := hw
  refine g_iast (dk D_X9_layCoins 124 rfl) hrs3 hi1 ?_
  refine g_heap (fun h2 eh2 => ?_)
  replace hw := hw _ eh2
  refine g_iinc 6 (dk D_X9_layCoins 125 rfl) rfl (congrArg (fun z => _ + z) ki_1) (by decide) rfl ?_
  refine g_goto (dk D_X9_layCoins 126 rfl) rfl ?_
  refine g_sub [1, 2, 3, 4, 5, 6, 0] rfl ?_
  exact hK95 ((v7 + (1 : Int32)), h2) hw
theorem t_X9_layCoins_l95 {X : Cx} (p1 : Int32) (p2 : Int32) (v3 : Int32) (v4 : Int32) (v5 : Int32) (v6 : Int32) (K31 : Int32 × Hp → Prop) (K64 : Int32 × Hp → Prop) (Q : Hp → Prop) (K95 : Int32 × Hp → Prop) (v7 : Int32) (h : Hp) (hK31 : ∀ s : Int32 × Hp, K31 s → G X M_X9_layCoins E_X9_layCoins (QM X E_X9_layCoins (QV Q) Qn) 0 31 [(0, .ref (92)), (1, .int (p1)), (3, .int (s.1))] [] (s.2)) (hK64 : ∀ s : Int32 × Hp, K64 s → G X M_X9_layCoins E_X9_layCoins (QM X E_X9_layCoins (QV Q) Qn) 0 64 [(0, .ref (92)), (1, .int (p1)), (3, .int (v3)), (4, .int (v4)), (5, .int (v5)), (6, .int (s.1))] [] (s.2)) (hK95 : ∀ s : Int32 × Hp, K95 s → G X M_X9_layCoins E_X9_layCoins (QM X E_X9_layCoins (QV Q) Qn) 0 95 [(0, .ref (92)), (1, .int (p1)), (3, .int (v3)), (4, .int (v4)), (5, .int (v5)), (6, .int (v6)), (7, .int (s.1))] [] (s.2)) (hw : w_X9_layCoins_l95 p1 p2 v3 v4 v5 v6 K31 K64 Q K95 v7 h) : G X M_X9_layCoins E_X9_layCoins (QM X E_X9_layCoins (QV Q) Qn) 0 95 [(0, .ref (92)), (1, .int (p1)), (3, .int (v3)), (4, .int (v4)), (5, .int (v5)), (6, .int (v6)), (7, .int (v7))] [] h := by
  unfold w_X9_layCoins_l95 at hw
  refine g_iload 6 (dk D_X9_layCoins 53 rfl) rfl ?_
  refine g_iconst (dk D_X9_layCoins 54 rfl) ki_2 ?_
  refine g_icmp_ge (dk D_X9_layCoins 55 rfl) rfl (wif_m hw (fun hw => ?_) (fun hw => ?_))
  · refine g_sub [0, 1, 2, 3, 4, 5] rfl ?_
    exact t_X9_layCoins_b218 p1 p2 (v3) (v4) (v5) (v6) K31 K64 (h) Q hK31 hK64 hw
  · refine g_aload_n 0 (dk D_X9_layCoins 56 rfl) rfl rfl ?_
    refine g_getR 39 (t := 1301) (dk D_X9_layCoins 57 rfl) kd_92 rfl rfl (by decide) w_1396 rfl rfl rfl ?_
    refine g_iload_n 2 (dk D_X9_layCoins 58 rfl) rfl rfl ?_
    obtain ⟨hi1, hw⟩ := hw
    refine g_aald (dk D_X9_layCoins 59 rfl) kd_1301 rfl rfl hi1 ?_
    refine g_iload 5 (dk D_X9_layCoins 60 rfl) rfl ?_
    obtain ⟨hi2, hw⟩ := hw
    refine g_zald (dk D_X9_layCoins 61 rfl) (kdf_1301 _ (in_lt hi1)) hi2 ?_
    refine g_if_eq (dk D_X9_layCoins 62 rfl) rfl (wif_m hw (fun hw => ?_) (fun hw => ?_))
    · refine g_sub [0, 1, 2, 3, 4, 5] rfl ?_
      exact t_X9_layCoins_b218 p1 p2 (v3) (v4) (v5) (v6) K31 K64 (h) Q hK31 hK64 hw
    · refine g_aload_n 0 (dk D_X9_layCoins 63 rfl) rfl rfl ?_
      refine g_getR 38 (t := 760) (dk D_X9_layCoins 64 rfl) kd_92 rfl rfl (by decide) w_1395 rfl rfl rfl ?_
      refine g_iload_n 2 (dk D_X9_layCoins 65 rfl) rfl rfl ?_
      obtain ⟨hi3, hw⟩ := hw
      refine g_aald (dk D_X9_layCoins 66 rfl) kd_760 rfl rfl hi3 ?_
      refine g_iload 5 (dk D_X9_layCoins 67 rfl) rfl ?_
      obtain ⟨hi4, hw⟩ := hw
      refine g_aald (dk D_X9_layCoins 68 rfl) (kdf_760 _ (in_lt hi3)) rfl rfl hi4 ?_
      refine g_iload 6 (dk D_X9_layCoins 69 rfl) rfl ?_
      refine g_aload_n 0 (dk D_X9_layCoins 70 rfl) rfl rfl ?_
      refine g_iload 3 (dk D_X9_layCoins 71 rfl) rfl ?_
      refine g_iload 5 (dk D_X9_layCoins 72 rfl) rfl ?_
      refine g_iload_n 1 (dk D_X9_layCoins 73 rfl) rfl rfl ?_
      refine g_iload 4 (dk D_X9_layCoins 74 rfl) rfl ?_
      refine g_iload 6 (dk D_X9_layCoins 75 rfl) rfl ?_
      refine g_iconst (dk D_X9_layCoins 76 rfl) ki_1 ?_
      have hj : G X M_X9_layCoins E_X9_layCoins (QM X E_X9_layCoins (QV Q) Qn) 0 143 [(0, .ref (92)), (1, .int (p1)), (3, .int (v3)), (4, .int (v4)), (5, .int (v5)), (6, .int (v6)), (7, .int (v7))] [.int ((if ¬ v7 = (1 : Int32) then (0 : Int32) else (1 : Int32))), .int (v5), .int (p1), .int (v6), .int (v4), .ref (92), .int (v7), .ref ((((761 + 9 * Int32.toNatClampNeg (v3)) + 1) + 1 * Int32.toNatClampNeg (v6)))] (h) := by
        refine g_callV (As := [.int (v4), .int (v6), .int (p1), .int (v5), .int ((if ¬ v7 = (1 : Int32) then (0 : Int32) else (1 : Int32)))]) (kc := 0) (fr := 4) (lo := 136) (mc := 0) (My := M_X9_coinsOf) (dk D_X9_layCoins 81 rfl) kd_92 rfl rfl w_1717 w_1719 w_73 w_110 w_1720 okD_X9_coinsOf (by decide) (Nat.le_of_ble_eq_true rfl) rfl (c_X9_coinsOf (v4) (v6) (p1) (v5) ((if ¬ v7 = (1 : Int32) then (0 : Int32) else (1 : Int32))) (h) _ hw) kxN (kI (fun z6 h7 hw => ?_))
        obtain ⟨hi8, hw⟩ := hw
        refine g_iast (dk D_X9_layCoins 82 rfl) (kdg_760 _ (in_lt hi3) _ (in_lt hi4)) hi8 ?_
        refine g_heap (fun h9 eh9 => ?_)
        replace hw := hw _ eh9
        refine g_aload_n 0 (dk D_X9_layCoins 83 rfl) rfl rfl ?_
        refine g_getR 37 (t := 219) (dk D_X9_layCoins 84 rfl) kd_92 rfl rfl (by decide) w_1394 rfl rfl rfl ?_
        refine g_iload_n 2 (dk D_X9_layCoins 85 rfl) rfl rfl ?_
        obtain ⟨hi10, hw⟩ := hw
        refine g_aald (dk D_X9_layCoins 86 rfl) kd_219 rfl rfl hi10 ?_
        refine g_iload 5 (dk D_X9_layCoins 87 rfl) rfl ?_
        obtain ⟨hi11, hw⟩ := hw
        refine g_aald (dk D_X9_layCoins 88 rfl) (kdf_219 _ (in_lt hi10)) rfl rfl hi11 ?_
        refine g_iload 6 (dk D_X9_layCoins 89 rfl) rfl ?_
        refine g_aload_n 0 (dk D_X9_layCoins 90 rfl) rfl rfl ?_
        refine g_getR 38 (t := 760) (dk D_X9_layCoins 91 rfl) kd_92 rfl rfl (by decide) w_1395 rfl rfl rfl ?_
        refine g_iload_n 2 (dk D_X9_layCoins 92 rfl) rfl rfl ?_
        obtain ⟨hi12, hw⟩ := hw
        refine g_aald (dk D_X9_layCoins 93 rfl) kd_760 rfl rfl hi12 ?_
        refine g_iload 5 (dk D_X9_layCoins 94 rfl) rfl ?_
        obtain ⟨hi13, hw⟩ := hw
        refine g_aald (dk D_X9_layCoins 95 rfl) (kdf_760 _ (in_lt hi12)) rfl rfl hi13 ?_
        refine g_iload 6 (dk D_X9_layCoins 96 rfl) rfl ?_
        obtain ⟨hi14, hw⟩ := hw
        refine g_iald (dk D_X9_layCoins 97 rfl) (kdg_760 _ (in_lt hi12) _ (in_lt hi13)) hi14 ?_
        refine g_aload_n 0 (dk D_X9_layCoins 98 rfl) rfl rfl ?_
        refine g_getR 17 (t := 109) (dk D_X9_layCoins 99 rfl) kd_92 rfl rfl (by decide) w_1374 rfl rfl rfl ?_
        refine g_iload 5 (dk D_X9_layCoins 100 rfl) rfl ?_
        obtain ⟨hi15, hw⟩ := hw
        refine g_aald (dk D_X9_layCoins 101 rfl) kd_109 rfl rfl hi15 ?_
        refine g_iconst (dk D_X9_layCoins 102 rfl) ki_4 ?_
        obtain ⟨hi16, hw⟩ := hw
        refine g_iald (dk D_X9_layCoins 103 rfl) (kdf_109 _ (in_lt hi15)) hi16 ?_
        refine g_iload 4 (dk D_X9_layCoins 104 rfl) rfl ?_
        refine g_aload_n 0 (dk D_X9_layCoins 105 rfl) rfl rfl ?_
        refine g_getR 17 (t := 109) (dk D_X9_layCoins 106 rfl) kd_92 rfl rfl (by decide) w_1374 rfl rfl rfl ?_
        refine g_iload 5 (dk D_X9_layCoins 107 rfl) rfl ?_
        obtain ⟨hi17, hw⟩ := hw
        refine g_aald (dk D_X9_layCoins 108 rfl) kd_109 rfl rfl hi17 ?_
        refine g_iconst (dk D_X9_layCoins 109 rfl) ki_2 ?_
        obtain ⟨hi18, hw⟩ := hw
        refine g_iald (dk D_X9_layCoins 110 rfl) (kdf_109 _ (in_lt hi17)) hi18 ?_
        refine g_isub (dk D_X9_layCoins 111 rfl) ?_
        refine g_imul (dk D_X9_layCoins 112 rfl) ?_
        refine g_iadd (dk D_X9_layCoins 113 rfl) ?_
        refine g_iload 3 (dk D_X9_layCoins 114 rfl) rfl ?_
        refine g_iconst (dk D_X9_layCoins 115 rfl) ki_1 ?_
        refine g_icmp_ne (dk D_X9_layCoins 116 rfl) rfl (wif_m hw (fun hw => ?_) (fun hw => ?_))
        · refine g_iconst (dk D_X9_layCoins 122 rfl) ki_0 ?_
          exact t_X9_layCoins_b210 p1 p2 (v3) (v4) (v5) (v6) (v7) ((0 : Int32)) (((h9 (((761 + 9 * Int32.toNatClampNeg (v3)) + 1) + 1 * Int32.toNatClampNeg (v6)) (Int32.toNatClampNeg v7)) + ((h9 (110 + 1 * Int32.toNatClampNeg (v6)) (Int32.toNatClampNeg (4 : Int32))) * (v5 - (h9 (110 + 1 * Int32.toNatClampNeg (v6)) (Int32.toNatClampNeg (2 : Int32))))))) (v7) ((((220 + 9 * Int32.toNatClampNeg (v3)) + 1) + 1 * Int32.toNatClampNeg (v6))) K31 K64 K95 (h9) Q ((kdg_219 _ (in_lt hi10) _ (in_lt hi11))) hK31 hK64 hK95 hw
        · refine g_aload_n 0 (dk D_X9_layCoins 117 rfl) rfl rfl ?_
          refine g_getR 11 (t := 95) (dk D_X9_layCoins 118 rfl) kd_92 rfl rfl (by decide) w_1368 rfl rfl rfl ?_
          refine g_bipush (dk D_X9_layCoins 119 rfl) kb_10 ?_
          obtain ⟨hi19, hw⟩ := hw
          refine g_iald (dk D_X9_layCoins 120 rfl) kd_95 hi19 ?_
          refine g_goto (dk D_X9_layCoins 121 rfl) rfl ?_
          exact t_X9_layCoins_b210 p1 p2 (v3) (v4) (v5) (v6) (v7) ((h9 95 (Int32.toNatClampNeg (10 : Int32)))) (((h9 (((761 + 9 * Int32.toNatClampNeg (v3)) + 1) + 1 * Int32.toNatClampNeg (v6)) (Int32.toNatClampNeg v7)) + ((h9 (110 + 1 * Int32.toNatClampNeg (v6)) (Int32.toNatClampNeg (4 : Int32))) * (v5 - (h9 (110 + 1 * Int32.toNatClampNeg (v6)) (Int32.toNatClampNeg (2 : Int32))))))) (v7) ((((220 + 9 * Int32.toNatClampNeg (v3)) + 1) + 1 * Int32.toNatClampNeg (v6))) K31 K64 K95 (h9) Q ((kdg_219 _ (in_lt hi10) _ (in_lt hi11))) hK31 hK64 hK95 hw
      refine g_icmp_ne (dk D_X9_layCoins 77 rfl) rfl ?_
      by_cases c5 : ¬ v7 = (1 : Int32)
      · rw [if_pos c5] at hj
        refine wif_p c5 ?_
        refine g_iconst (dk D_X9_layCoins 80 rfl) ki_0 ?_
        exact hj
      · rw [if_neg c5] at hj
        refine wif_n c5 ?_
        refine g_iconst (dk D_X9_layCoins 78 rfl) ki_1 ?_
        refine g_goto (dk D_X9_layCoins 79 rfl) rfl ?_
        exact hj
theorem t_X9_layCoins_b95 {X : Cx} (p1 : Int32) (p2 : Int32) (v3 : Int32) (v4 : Int32) (v5 : Int32) (v6 : Int32) (K31 : Int32 × Hp → Prop) (K64 : Int32 × Hp → Prop) (Q : Hp → Prop) (s : Int32 × Hp) (hK31 : ∀ s : Int32 × Hp, K31 s → G X M_X9_layCoins E_X9_layCoins (QM X E_X9_layCoins (QV Q) Qn) 0 31 [(0, .ref (92)), (1, .int (p1)), (3, .int (s.1))] [] (s.2)) (hK64 : ∀ s : Int32 × Hp, K64 s → G X M_X9_layCoins E_X9_layCoins (QM X E_X9_layCoins (QV Q) Qn) 0 64 [(0, .ref (92)), (1, .int (p1)), (3, .int (v3)), (4, .int (v4)), (5, .int (v5)), (6, .int (s.1))] [] (s.2)) (hw : w_X9_layCoins_b95 p1 p2 v3 v4 v5 v6 K31 K64 Q s) : G X M_X9_layCoins E_X9_layCoins (QM X E_X9_layCoins (QV Q) Qn) 0 95 [(0, .ref (92)), (1, .int (p1)), (3, .int (v3)), (4, .int (v4)), (5, .int (v5)), (6, .int (v6)), (7, .int (s.1))] [] (s.2) :=
  wl_ind (B := fun K s => w_X9_layCoins_l95 p1 p2 v3 v4 v5 v6 K31 K64 Q K (s.1) (s.2)) (P := fun s => G X M_X9_layCoins E_X9_layCoins (QM X E_X9_layCoins (QV Q) Qn) 0 95 [(0, .ref (92)), (1, .int (p1)), (3, .int (v3)), (4, .int (v4)), (5, .int (v5)), (6, .int (v6)), (7, .int (s.1))] [] (s.2)) (fun K hK s hw => t_X9_layCoins_l95 p1 p2 v3 v4 v5 v6 K31 K64 Q K (s.1) (s.2) hK31 hK64 hK hw) s hw
theorem t_X9_layCoins_l64 {X : Cx} (p1 : Int32) (p2 : Int32) (v3 : Int32) (v4 : Int32) (v5 : Int32) (K31 : Int32 × Hp → Prop) (Q : Hp → Prop) (K64 : Int32 × Hp → Prop) (v6 : Int32) (h : Hp) (hK31 : ∀ s : Int32 × Hp, K31 s → G X M_X9_layCoins E_X9_layCoins (QM X E_X9_layCoins (QV Q) Qn) 0 31 [(0, .ref (92)), (1, .int (p1)), (3, .int (s.1))] [] (s.2)) (hK64 : ∀ s : Int32 × Hp, K64 s → G X M_X9_layCoins E_X9_layCoins (QM X E_X9_layCoins (QV Q) Qn) 0 64 [(0, .ref (92)), (1, .int (p1)), (3, .int (v3)), (4, .int (v4)), (5, .int (v5)), (6, .int (s.1))] [] (s.2)) (hw : w_X9_layCoins_l64 p1 p2 v3 v4 v5 K31 Q K64 v6 h) : G X M_X9_layCoins E_X9_layCoins (QM X E_X9_layCoins (QV Q) Qn) 0 64 [(0, .ref (92)), (1, .int (p1)), (3, .int (v3)), (4, .int (v4)), (5, .int (v5)), (6, .int (v6))] [] h := by
  unfold w_X9_layCoins_l64 at hw
  refine g_iload 5 (dk D_X9_layCoins 35 rfl) rfl ?_
  refine g_aload_n 0 (dk D_X9_layCoins 36 rfl) rfl rfl ?_
  refine g_getR 11 (t := 95) (dk D_X9_layCoins 37 rfl) kd_92 rfl rfl (by decide) w_1368 rfl rfl rfl ?_
  refine g_iconst (dk D_X9_layCoins 38 rfl) ki_0 ?_
  obtain ⟨hi1, hw⟩ := hw
  refine g_iald (dk D_X9_layCoins 39 rfl) kd_95 hi1 ?_
  refine g_icmp_ge (dk D_X9_layCoins 40 rfl) rfl (wif_m hw (fun hw => ?_) (fun hw => ?_))
  · refine g_iinc 2 (dk D_X9_layCoins 129 rfl) rfl (congrArg (fun z => _ + z) ki_1) (by decide) rfl ?_
    refine g_goto (dk D_X9_layCoins 130 rfl) rfl ?_
    refine g_sub [1, 2, 0] rfl ?_
    exact hK31 ((v3 + (1 : Int32)), h) hw
  · refine g_aload_n 0 (dk D_X9_layCoins 41 rfl) rfl rfl ?_
    refine g_getR 39 (t := 1301) (dk D_X9_layCoins 42 rfl) kd_92 rfl rfl (by decide) w_1396 rfl rfl rfl ?_
    refine g_iload_n 2 (dk D_X9_layCoins 43 rfl) rfl rfl ?_
    obtain ⟨hi2, hw⟩ := hw
    refine g_aald (dk D_X9_layCoins 44 rfl) kd_1301 rfl rfl hi2 ?_
    refine g_iload 5 (dk D_X9_layCoins 45 rfl) rfl ?_
    refine g_aload_n 0 (dk D_X9_layCoins 46 rfl) rfl rfl ?_
    refine g_iload 5 (dk D_X9_layCoins 47 rfl) rfl ?_
    refine g_iload 4 (dk D_X9_layCoins 48 rfl) rfl ?_
    refine g_callV (As := [.int (v6), .int (v5)]) (kc := 0) (fr := 1) (lo := 30) (mc := 0) (My := M_X9_canCome) (dk D_X9_layCoins 49 rfl) kd_92 rfl rfl w_1741 w_1743 w_77 w_110 w_1744 okD_X9_canCome (by decide) (Nat.le_of_ble_eq_true rfl) rfl (c_X9_canCome (v6) (v5) (h) _ hw) kxN (kIp (fun z3 hw => ?_))
    obtain ⟨hi4, hw⟩ := hw
    refine g_zast (dk D_X9_layCoins 50 rfl) (kdf_1301 _ (in_lt hi2)) hi4 ?_
    refine g_heap (fun h5 eh5 => ?_)
    replace hw := hw _ eh5
    refine g_iconst (dk D_X9_layCoins 51 rfl) ki_0 ?_
    refine g_istore (dk D_X9_layCoins 52 rfl) (by decide) rfl ?_
    refine g_sub [1, 2, 3, 4, 5, 6, 0] rfl ?_
    exact t_X9_layCoins_b95 p1 p2 (v3) (v4) (v5) (v6) K31 K64 Q ((0 : Int32), h5) hK31 hK64 hw
theorem t_X9_layCoins_b64 {X : Cx} (p1 : Int32) (p2 : Int32) (v3 : Int32) (v4 : Int32) (v5 : Int32) (K31 : Int32 × Hp → Prop) (Q : Hp → Prop) (s : Int32 × Hp) (hK31 : ∀ s : Int32 × Hp, K31 s → G X M_X9_layCoins E_X9_layCoins (QM X E_X9_layCoins (QV Q) Qn) 0 31 [(0, .ref (92)), (1, .int (p1)), (3, .int (s.1))] [] (s.2)) (hw : w_X9_layCoins_b64 p1 p2 v3 v4 v5 K31 Q s) : G X M_X9_layCoins E_X9_layCoins (QM X E_X9_layCoins (QV Q) Qn) 0 64 [(0, .ref (92)), (1, .int (p1)), (3, .int (v3)), (4, .int (v4)), (5, .int (v5)), (6, .int (s.1))] [] (s.2) :=
  wl_ind (B := fun K s => w_X9_layCoins_l64 p1 p2 v3 v4 v5 K31 Q K (s.1) (s.2)) (P := fun s => G X M_X9_layCoins E_X9_layCoins (QM X E_X9_layCoins (QV Q) Qn) 0 64 [(0, .ref (92)), (1, .int (p1)), (3, .int (v3)), (4, .int (v4)), (5, .int (v5)), (6, .int (s.1))] [] (s.2)) (fun K hK s hw => t_X9_layCoins_l64 p1 p2 v3 v4 v5 K31 Q K (s.1) (s.2) hK31 hK hw) s hw
theorem t_X9_layCoins_l31 {X : Cx} (p1 : Int32) (p2 : Int32) (Q : Hp → Prop) (K31 : Int32 × Hp → Prop) (v3 : Int32) (h : Hp) (hK31 : ∀ s : Int32 × Hp, K31 s → G X M_X9_layCoins E_X9_layCoins (QM X E_X9_layCoins (QV Q) Qn) 0 31 [(0, .ref (92)), (1, .int (p1)), (3, .int (s.1))] [] (s.2)) (hw : w_X9_layCoins_l31 p1 p2 Q K31 v3 h) : G X M_X9_layCoins E_X9_layCoins (QM X E_X9_layCoins (QV Q) Qn) 0 31 [(0, .ref (92)), (1, .int (p1)), (3, .int (v3))] [] h := by
  unfold w_X9_layCoins_l31 at hw
  refine g_iload_n 2 (dk D_X9_layCoins 17 rfl) rfl rfl ?_
  refine g_aload_n 0 (dk D_X9_layCoins 18 rfl) rfl rfl ?_
  refine g_getI 43 (dk D_X9_layCoins 19 rfl) kd_92 rfl rfl (by decide) w_1400 rfl rfl ?_
  refine g_icmp_ge (dk D_X9_layCoins 20 rfl) rfl (wif_m hw (fun hw => ?_) (fun hw => ?_))
  · exact g_vret (dk D_X9_layCoins 131 rfl) rfl ⟨rfl, hw⟩
  · refine g_iload_n 2 (dk D_X9_layCoins 21 rfl) rfl rfl ?_
    refine g_aload_n 0 (dk D_X9_layCoins 22 rfl) rfl rfl ?_
    refine g_getI 42 (dk D_X9_layCoins 23 rfl) kd_92 rfl rfl (by decide) w_1399 rfl rfl ?_
    have hj : G X M_X9_layCoins E_X9_layCoins (QM X E_X9_layCoins (QV Q) Qn) 0 52 [(0, .ref (92)), (1, .int (p1)), (3, .int (v3))] [.int ((if (h 92 42) ≤ v3 then (1 : Int32) else (0 : Int32)))] (h) := by
      refine g_topi (fun v4_3 ev4_3 => ?_)
      replace hw := hw _ ev4_3
      refine g_istore (dk D_X9_layCoins 28 rfl) (by decide) rfl ?_
      refine g_aload_n 1 (dk D_X9_layCoins 29 rfl) rfl rfl ?_
      refine g_iload_n 3 (dk D_X9_layCoins 30 rfl) rfl rfl ?_
      refine g_callV (As := [.int (v3)]) (kc := 0) (fr := 0) (lo := 0) (mc := 0) (My := M_X9_minuteOf) (dk D_X9_layCoins 31 rfl) kd_92 rfl rfl w_1781 w_1783 w_84 w_110 w_1784 okD_X9_minuteOf (by decide) (Nat.le_of_ble_eq_true rfl) rfl (c_X9_minuteOf (v3) (h) _ hw) kxN (kIp (fun z4 hw => ?_))
      refine g_istore (dk D_X9_layCoins 32 rfl) (by decide) rfl ?_
      refine g_iconst (dk D_X9_layCoins 33 rfl) ki_0 ?_
      refine g_istore (dk D_X9_layCoins 34 rfl) (by decide) rfl ?_
      refine g_sub [3, 4, 5, 2, 1, 0] rfl ?_
      exact t_X9_layCoins_b64 p1 p2 (v3) (v4_3) (z4) K31 Q ((0 : Int32), h) hK31 hw
    refine g_icmp_ge (dk D_X9_layCoins 24 rfl) rfl ?_
    by_cases c2 : (h 92 42) ≤ v3
    · rw [if_pos c2] at hj
      refine wif_p c2 ?_
      refine g_iconst (dk D_X9_layCoins 27 rfl) ki_1 ?_
      exact hj
    · rw [if_neg c2] at hj
      refine wif_n c2 ?_
      refine g_iconst (dk D_X9_layCoins 25 rfl) ki_0 ?_
      refine g_goto (dk D_X9_layCoins 26 rfl) rfl ?_
      exact hj
theorem t_X9_layCoins_b31 {X : Cx} (p1 : Int32) (p2 : Int32) (Q : Hp → Prop) (s : Int32 × Hp) (hw : w_X9_layCoins_b31 p1 p2 Q s) : G X M_X9_layCoins E_X9_layCoins (QM X E_X9_layCoins (QV Q) Qn) 0 31 [(0, .ref (92)), (1, .int (p1)), (3, .int (s.1))] [] (s.2) :=
  wl_ind (B := fun K s => w_X9_layCoins_l31 p1 p2 Q K (s.1) (s.2)) (P := fun s => G X M_X9_layCoins E_X9_layCoins (QM X E_X9_layCoins (QV Q) Qn) 0 31 [(0, .ref (92)), (1, .int (p1)), (3, .int (s.1))] [] (s.2)) (fun K hK s hw => t_X9_layCoins_l31 p1 p2 Q K (s.1) (s.2) hK hw) s hw
theorem t_X9_layCoins {X : Cx} (p1 : Int32) (p2 : Int32) (h : Hp) (Q : Hp → Prop) (hw : w_X9_layCoins p1 p2 h Q) : G X M_X9_layCoins E_X9_layCoins (QM X E_X9_layCoins (QV Q) Qn) 0 0 [(0, .ref (92)), (1, .int (p1)), (2, .int (p2))] [] h := by
  unfold w_X9_layCoins at hw
  refine g_aload_n 0 (dk D_X9_layCoins 0 rfl) rfl rfl ?_
  refine g_aload_n 0 (dk D_X9_layCoins 1 rfl) rfl rfl ?_
  refine g_callV (As := []) (kc := 0) (fr := 0) (lo := 0) (mc := 0) (My := M_X9_slotsOf) (dk D_X9_layCoins 2 rfl) kd_92 rfl rfl w_1757 w_1759 w_79 w_110 w_1760 okD_X9_slotsOf (by decide) (Nat.le_of_ble_eq_true rfl) rfl (c_X9_slotsOf (h) _ hw) kxN (kIp (fun z1 hw => ?_))
  refine g_put 42 (dk D_X9_layCoins 3 rfl) kd_92 rfl rfl (by decide) w_1399 rfl tyX9_ok nmX9 rfl (by decide) rfl (fun z => absurd z (by decide)) ?_
  refine g_heap (fun h2 eh2 => ?_)
  replace hw := hw _ eh2
  refine g_aload_n 0 (dk D_X9_layCoins 4 rfl) rfl rfl ?_
  refine g_iload_n 2 (dk D_X9_layCoins 5 rfl) rfl rfl ?_
  have hj : G X M_X9_layCoins E_X9_layCoins (QM X E_X9_layCoins (QV Q) Qn) 0 26 [(0, .ref (92)), (1, .int (p1)), (2, .int (p2))] [.int ((if p2 = 0 then (h2 92 42) else ((2 : Int32) * (h2 92 42)))), .ref (92)] (h2) := by
    refine g_put 43 (dk D_X9_layCoins 14 rfl) kd_92 rfl rfl (by decide) w_1400 rfl tyX9_ok nmX9 rfl (by decide) rfl (fun z => absurd z (by decide)) ?_
    refine g_heap (fun h4 eh4 => ?_)
    replace hw := hw _ eh4
    refine g_iconst (dk D_X9_layCoins 15 rfl) ki_0 ?_
    refine g_istore_n (dk D_X9_layCoins 16 rfl) rfl (by decide) rfl ?_
    refine g_sub [1, 2, 0] rfl ?_
    exact t_X9_layCoins_b31 p1 p2 Q ((0 : Int32), h4) hw
  refine g_if_eq (dk D_X9_layCoins 6 rfl) rfl ?_
  by_cases c3 : p2 = 0
  · rw [if_pos c3] at hj
    refine wif_p c3 ?_
    refine g_aload_n 0 (dk D_X9_layCoins 12 rfl) rfl rfl ?_
    refine g_getI 42 (dk D_X9_layCoins 13 rfl) kd_92 rfl rfl (by decide) w_1399 rfl rfl ?_
    exact hj
  · rw [if_neg c3] at hj
    refine wif_n c3 ?_
    refine g_iconst (dk D_X9_layCoins 7 rfl) ki_2 ?_
    refine g_aload_n 0 (dk D_X9_layCoins 8 rfl) rfl rfl ?_
    refine g_getI 42 (dk D_X9_layCoins 9 rfl) kd_92 rfl rfl (by decide) w_1399 rfl rfl ?_
    refine g_imul (dk D_X9_layCoins 10 rfl) ?_
    refine g_goto (dk D_X9_layCoins 11 rfl) rfl ?_
    exact hj
theorem c_X9_layCoins {X : Cx} (p1 : Int32) (p2 : Int32) (h : Hp) (Q : Hp → Prop) (hw : w_X9_layCoins p1 p2 h Q) : Con X yX9_layCoins M_X9_layCoins 5 172 0 [.ref (92), .int (p1), .int (p2)] h (QV Q) Qn :=
  con_of (by decide +kernel) rfl (Nat.le_of_ble_eq_true rfl) (t_X9_layCoins p1 p2 h Q hw)
/-! ShadowTollsModel.high(I)I -/
abbrev M_X9_high : Mi := (RX9, cX9_high, 2, (some .int))
abbrev E_X9_high : Rm := (0, 0, 0, 0)
def rows_X9_high : List (Nat × Instr × Nat) := [(0, .aload_n 0, 1), (1, .getfield 40, 3), (4, .iload_n 1, 1), (5, .aaload, 1), (6, .iconst 0, 1), (7, .iaload, 1), (8, .aload_n 0, 1), (9, .getfield 40, 3), (12, .iload_n 1, 1), (13, .aaload, 1), (14, .iconst 5, 1), (15, .iaload, 1), (16, .iadd, 1), (17, .ireturn, 1)]
theorem D_X9_high : dkA cX9_high rows_X9_high := by
  unfold dkA
  decide +kernel
theorem okD_X9_high : okD yX9_high 1 := by
  unfold okD
  decide +kernel
def w_X9_high (p1 : Int32) (h : Hp) (Q : Int32 → Prop) : Prop :=
  (vp_in p1 8 ∧ (vp_in (0 : Int32) 7 ∧ (vp_in p1 8 ∧ (vp_in (5 : Int32) 7 ∧ Q ((h (110 + 1 * Int32.toNatClampNeg (p1)) (Int32.toNatClampNeg (0 : Int32))) + (h (110 + 1 * Int32.toNatClampNeg (p1)) (Int32.toNatClampNeg (5 : Int32))))))))
theorem t_X9_high {X : Cx} (p1 : Int32) (h : Hp) (Q : Int32 → Prop) (hw : w_X9_high p1 h Q) : G X M_X9_high E_X9_high (QM X E_X9_high (QIp h Q) Qn) 0 0 [(0, .ref (92)), (1, .int (p1))] [] h := by
  unfold w_X9_high at hw
  refine g_aload_n 0 (dk D_X9_high 0 rfl) rfl rfl ?_
  refine g_getR 17 (t := 109) (dk D_X9_high 1 rfl) kd_92 rfl rfl (by decide) w_1374 rfl rfl rfl ?_
  refine g_iload_n 1 (dk D_X9_high 2 rfl) rfl rfl ?_
  obtain ⟨hi1, hw⟩ := hw
  refine g_aald (dk D_X9_high 3 rfl) kd_109 rfl rfl hi1 ?_
  refine g_iconst (dk D_X9_high 4 rfl) ki_0 ?_
  obtain ⟨hi2, hw⟩ := hw
  refine g_iald (dk D_X9_high 5 rfl) (kdf_109 _ (in_lt hi1)) hi2 ?_
  refine g_aload_n 0 (dk D_X9_high 6 rfl) rfl rfl ?_
  refine g_getR 17 (t := 109) (dk D_X9_high 7 rfl) kd_92 rfl rfl (by decide) w_1374 rfl rfl rfl ?_
  refine g_iload_n 1 (dk D_X9_high 8 rfl) rfl rfl ?_
  obtain ⟨hi3, hw⟩ := hw
  refine g_aald (dk D_X9_high 9 rfl) kd_109 rfl rfl hi3 ?_
  refine g_iconst (dk D_X9_high 10 rfl) ki_5 ?_
  obtain ⟨hi4, hw⟩ := hw
  refine g_iald (dk D_X9_high 11 rfl) (kdf_109 _ (in_lt hi3)) hi4 ?_
  refine g_iadd (dk D_X9_high 12 rfl) ?_
  exact g_iret (dk D_X9_high 13 rfl) rfl ⟨_, rfl, rfl, hw⟩
theorem c_X9_high {X : Cx} (p1 : Int32) (h : Hp) (Q : Int32 → Prop) (hw : w_X9_high p1 h Q) : Con X yX9_high M_X9_high 0 0 0 [.ref (92), .int (p1)] h (QIp h Q) Qn :=
  con_of (by decide +kernel) rfl (Nat.le_of_ble_eq_true rfl) (t_X9_high p1 h Q hw)
/-! ShadowTollsModel.isDark(II)I -/
abbrev M_X9_isDark : Mi := (RX9, cX9_isDark, 3, (some .int))
abbrev E_X9_isDark : Rm := (1, 29, 0, 0)
def rows_X9_isDark : List (Nat × Instr × Nat) := [(0, .aload_n 0, 1), (1, .getfield 20, 3), (4, .bipush 7, 2), (6, .iaload, 1), (7, .iconst 1, 1), (8, .if_icmp .ne 26, 3), (11, .iload_n 2, 1), (12, .bipush 8, 2), (14, .if_icmp .ge 20, 3), (17, .aload_n 0, 1), (18, .iload_n 2, 1), (19, .invokevirtual 342, 3), (22, .aload_n 0, 1), (23, .iload_n 1, 1), (24, .invokevirtual 342, 3), (27, .if_icmp .le 7, 3), (30, .iconst 1, 1), (31, .goto 4, 3), (34, .iconst 0, 1), (35, .ireturn, 1)]
theorem D_X9_isDark : dkA cX9_isDark rows_X9_isDark := by
  unfold dkA
  decide +kernel
theorem okD_X9_isDark : okD yX9_isDark 2 := by
  unfold okD
  decide +kernel
def w_X9_isDark (p1 : Int32) (p2 : Int32) (h : Hp) (Q : Int32 → Prop) : Prop :=
  (vp_in (7 : Int32) 11 ∧ wif (¬ (h 95 (Int32.toNatClampNeg (7 : Int32))) = (1 : Int32)) (Q (0 : Int32)) (wif ((8 : Int32) ≤ p2) (Q (0 : Int32)) (w_X9_high (p2) h (fun z2 => w_X9_high (p1) h (fun z3 => Q (if z2 ≤ z3 then (0 : Int32) else (1 : Int32)))))))
theorem t_X9_isDark {X : Cx} (p1 : Int32) (p2 : Int32) (h : Hp) (Q : Int32 → Prop) (hw : w_X9_isDark p1 p2 h Q) : G X M_X9_isDark E_X9_isDark (QM X E_X9_isDark (QIp h Q) Qn) 0 0 [(0, .ref (92)), (1, .int (p1)), (2, .int (p2))] [] h := by
  unfold w_X9_isDark at hw
  refine g_aload_n 0 (dk D_X9_isDark 0 rfl) rfl rfl ?_
  refine g_getR 11 (t := 95) (dk D_X9_isDark 1 rfl) kd_92 rfl rfl (by decide) w_1368 rfl rfl rfl ?_
  refine g_bipush (dk D_X9_isDark 2 rfl) kb_7 ?_
  obtain ⟨hi1, hw⟩ := hw
  refine g_iald (dk D_X9_isDark 3 rfl) kd_95 hi1 ?_
  refine g_iconst (dk D_X9_isDark 4 rfl) ki_1 ?_
  refine g_icmp_ne (dk D_X9_isDark 5 rfl) rfl (wif_m hw (fun hw => ?_) (fun hw => ?_))
  · refine g_iconst (dk D_X9_isDark 18 rfl) ki_0 ?_
    exact g_iret (dk D_X9_isDark 19 rfl) rfl ⟨_, rfl, rfl, hw⟩
  · refine g_iload_n 2 (dk D_X9_isDark 6 rfl) rfl rfl ?_
    refine g_bipush (dk D_X9_isDark 7 rfl) kb_8 ?_
    refine g_icmp_ge (dk D_X9_isDark 8 rfl) rfl (wif_m hw (fun hw => ?_) (fun hw => ?_))
    · refine g_iconst (dk D_X9_isDark 18 rfl) ki_0 ?_
      exact g_iret (dk D_X9_isDark 19 rfl) rfl ⟨_, rfl, rfl, hw⟩
    · refine g_aload_n 0 (dk D_X9_isDark 9 rfl) rfl rfl ?_
      refine g_iload_n 2 (dk D_X9_isDark 10 rfl) rfl rfl ?_
      refine g_callV (As := [.int (p2)]) (kc := 0) (fr := 0) (lo := 0) (mc := 0) (My := M_X9_high) (dk D_X9_isDark 11 rfl) kd_92 rfl rfl w_1809 w_1811 w_90 w_110 w_1812 okD_X9_high (by decide) (Nat.le_of_ble_eq_true rfl) rfl (c_X9_high (p2) (h) _ hw) kxN (kIp (fun z2 hw => ?_))
      refine g_aload_n 0 (dk D_X9_isDark 12 rfl) rfl rfl ?_
      refine g_iload_n 1 (dk D_X9_isDark 13 rfl) rfl rfl ?_
      refine g_callV (As := [.int (p1)]) (kc := 0) (fr := 0) (lo := 0) (mc := 0) (My := M_X9_high) (dk D_X9_isDark 14 rfl) kd_92 rfl rfl w_1809 w_1811 w_90 w_110 w_1812 okD_X9_high (by decide) (Nat.le_of_ble_eq_true rfl) rfl (c_X9_high (p1) (h) _ hw) kxN (kIp (fun z3 hw => ?_))
      have hj : G X M_X9_isDark E_X9_isDark (QM X E_X9_isDark (QIp h Q) Qn) 0 35 [(0, .ref (92)), (1, .int (p1)), (2, .int (p2))] [.int ((if z2 ≤ z3 then (0 : Int32) else (1 : Int32)))] (h) := by
        exact g_iret (dk D_X9_isDark 19 rfl) rfl ⟨_, rfl, rfl, hw⟩
      refine g_icmp_le (dk D_X9_isDark 15 rfl) rfl ?_
      by_cases c4 : z2 ≤ z3
      · rw [if_pos c4] at hj
        refine wif_p c4 ?_
        refine g_iconst (dk D_X9_isDark 18 rfl) ki_0 ?_
        exact hj
      · rw [if_neg c4] at hj
        refine wif_n c4 ?_
        refine g_iconst (dk D_X9_isDark 16 rfl) ki_1 ?_
        refine g_goto (dk D_X9_isDark 17 rfl) rfl ?_
        exact hj
theorem c_X9_isDark {X : Cx} (p1 : Int32) (p2 : Int32) (h : Hp) (Q : Int32 → Prop) (hw : w_X9_isDark p1 p2 h Q) : Con X yX9_isDark M_X9_isDark 1 29 0 [.ref (92), .int (p1), .int (p2)] h (QIp h Q) Qn :=
  con_of (by decide +kernel) rfl (Nat.le_of_ble_eq_true rfl) (t_X9_isDark p1 p2 h Q hw)
/-! ShadowTollsModel.lastAt(II)I -/
abbrev M_X9_lastAt : Mi := (RX9, cX9_lastAt, 3, (some .int))
abbrev E_X9_lastAt : Rm := (0, 0, 0, 0)
def rows_X9_lastAt : List (Nat × Instr × Nat) := [(0, .iload_n 1, 1), (1, .aload_n 0, 1), (2, .getfield 333, 3), (5, .if_icmp .ne 8, 3), (8, .bipush 8, 2), (10, .goto 4, 3), (13, .iload_n 2, 1), (14, .ireturn, 1)]
theorem D_X9_lastAt : dkA cX9_lastAt rows_X9_lastAt := by
  unfold dkA
  decide +kernel
theorem okD_X9_lastAt : okD yX9_lastAt 2 := by
  unfold okD
  decide +kernel
def w_X9_lastAt (p1 : Int32) (p2 : Int32) (h : Hp) (Q : Int32 → Prop) : Prop :=
  Q (if ¬ p1 = (h 92 42) then p2 else (8 : Int32))
theorem t_X9_lastAt {X : Cx} (p1 : Int32) (p2 : Int32) (h : Hp) (Q : Int32 → Prop) (hw : w_X9_lastAt p1 p2 h Q) : G X M_X9_lastAt E_X9_lastAt (QM X E_X9_lastAt (QIp h Q) Qn) 0 0 [(0, .ref (92)), (1, .int (p1)), (2, .int (p2))] [] h := by
  unfold w_X9_lastAt at hw
  refine g_iload_n 1 (dk D_X9_lastAt 0 rfl) rfl rfl ?_
  refine g_aload_n 0 (dk D_X9_lastAt 1 rfl) rfl rfl ?_
  refine g_getI 42 (dk D_X9_lastAt 2 rfl) kd_92 rfl rfl (by decide) w_1399 rfl rfl ?_
  have hj : G X M_X9_lastAt E_X9_lastAt (QM X E_X9_lastAt (QIp h Q) Qn) 0 14 [(0, .ref (92)), (1, .int (p1)), (2, .int (p2))] [.int ((if ¬ p1 = (h 92 42) then p2 else (8 : Int32)))] (h) := by
    exact g_iret (dk D_X9_lastAt 7 rfl) rfl ⟨_, rfl, rfl, hw⟩
  refine g_icmp_ne (dk D_X9_lastAt 3 rfl) rfl ?_
  by_cases c1 : ¬ p1 = (h 92 42)
  · rw [if_pos c1] at hj
    refine wif_p c1 ?_
    refine g_iload_n 2 (dk D_X9_lastAt 6 rfl) rfl rfl ?_
    exact hj
  · rw [if_neg c1] at hj
    refine wif_n c1 ?_
    refine g_bipush (dk D_X9_lastAt 4 rfl) kb_8 ?_
    refine g_goto (dk D_X9_lastAt 5 rfl) rfl ?_
    exact hj
theorem c_X9_lastAt {X : Cx} (p1 : Int32) (p2 : Int32) (h : Hp) (Q : Int32 → Prop) (hw : w_X9_lastAt p1 p2 h Q) : Con X yX9_lastAt M_X9_lastAt 0 0 0 [.ref (92), .int (p1), .int (p2)] h (QIp h Q) Qn :=
  con_of (by decide +kernel) rfl (Nat.le_of_ble_eq_true rfl) (t_X9_lastAt p1 p2 h Q hw)
/-! ShadowTollsModel.ones(I)I -/
abbrev M_X9_ones : Mi := (RX9, cX9_ones, 3, (some .int))
abbrev E_X9_ones : Rm := (0, 0, 0, 0)
def rows_X9_ones : List (Nat × Instr × Nat) := [(0, .iconst 0, 1), (1, .istore_n 1, 1), (2, .iconst 0, 1), (3, .istore_n 2, 1), (4, .iload_n 2, 1), (5, .bipush 9, 2), (7, .if_icmp .ge 17, 3), (10, .iload_n 1, 1), (11, .iload_n 0, 1), (12, .iload_n 2, 1), (13, .ishr, 1), (14, .iconst 1, 1), (15, .iand, 1), (16, .iadd, 1), (17, .istore_n 1, 1), (18, .iinc 2 1, 3), (21, .goto (-17), 3), (24, .iload_n 1, 1), (25, .ireturn, 1)]
theorem D_X9_ones : dkA cX9_ones rows_X9_ones := by
  unfold dkA
  decide +kernel
theorem okD_X9_ones : okD yX9_ones 1 := by
  unfold okD
  decide +kernel
def w_X9_ones_l4 (p0 : Int32) (h : Hp) (Q : Int32 → Prop) (K4 : Int32 × Int32 → Prop) (v1 : Int32) (v2 : Int32) : Prop :=
  wif ((9 : Int32) ≤ v2) (Q v1) (wlet ((v1 + ((p0 >>> (v2 &&& 31)) &&& (1 : Int32)))) (fun v1_1 => K4 (v1_1, (v2 + (1 : Int32)))))
def w_X9_ones_b4 (p0 : Int32) (h : Hp) (Q : Int32 → Prop) (s : Int32 × Int32) : Prop := wl (fun K s => w_X9_ones_l4 p0 h Q K s.1 s.2) s
def w_X9_ones (p0 : Int32) (h : Hp) (Q : Int32 → Prop) : Prop :=
  w_X9_ones_b4 p0 (h) Q ((0 : Int32), (0 : Int32))
theorem t_X9_ones_l4 {X : Cx} (p0 : Int32) (h : Hp) (Q : Int32 → Prop) (K4 : Int32 × Int32 → Prop) (v1 : Int32) (v2 : Int32) (hK4 : ∀ s : Int32 × Int32, K4 s → G X M_X9_ones E_X9_ones (QM X E_X9_ones (QIp h Q) Qn) 0 4 [(0, .int (p0)), (1, .int (s.1)), (2, .int (s.2))] [] (h)) (hw : w_X9_ones_l4 p0 h Q K4 v1 v2) : G X M_X9_ones E_X9_ones (QM X E_X9_ones (QIp h Q) Qn) 0 4 [(0, .int (p0)), (1, .int (v1)), (2, .int (v2))] [] h := by
  unfold w_X9_ones_l4 at hw
  refine g_iload_n 2 (dk D_X9_ones 4 rfl) rfl rfl ?_
  refine g_bipush (dk D_X9_ones 5 rfl) kb_9 ?_
  refine g_icmp_ge (dk D_X9_ones 6 rfl) rfl (wif_m hw (fun hw => ?_) (fun hw => ?_))
  · refine g_iload_n 1 (dk D_X9_ones 17 rfl) rfl rfl ?_
    exact g_iret (dk D_X9_ones 18 rfl) rfl ⟨_, rfl, rfl, hw⟩
  · refine g_iload_n 1 (dk D_X9_ones 7 rfl) rfl rfl ?_
    refine g_iload_n 0 (dk D_X9_ones 8 rfl) rfl rfl ?_
    refine g_iload_n 2 (dk D_X9_ones 9 rfl) rfl rfl ?_
    refine g_ishr (dk D_X9_ones 10 rfl) ?_
    refine g_iconst (dk D_X9_ones 11 rfl) ki_1 ?_
    refine g_iand (dk D_X9_ones 12 rfl) ?_
    refine g_iadd (dk D_X9_ones 13 rfl) ?_
    refine g_topi (fun v1_1 ev1_1 => ?_)
    replace hw := hw _ ev1_1
    refine g_istore_n (dk D_X9_ones 14 rfl) rfl (by decide) rfl ?_
    refine g_iinc 2 (dk D_X9_ones 15 rfl) rfl (congrArg (fun z => _ + z) ki_1) (by decide) rfl ?_
    refine g_goto (dk D_X9_ones 16 rfl) rfl ?_
    refine g_sub [2, 1, 0] rfl ?_
    exact hK4 (v1_1, (v2 + (1 : Int32))) hw
theorem t_X9_ones_b4 {X : Cx} (p0 : Int32) (h : Hp) (Q : Int32 → Prop) (s : Int32 × Int32) (hw : w_X9_ones_b4 p0 h Q s) : G X M_X9_ones E_X9_ones (QM X E_X9_ones (QIp h Q) Qn) 0 4 [(0, .int (p0)), (1, .int (s.1)), (2, .int (s.2))] [] (h) :=
  wl_ind (B := fun K s => w_X9_ones_l4 p0 h Q K (s.1) (s.2)) (P := fun s => G X M_X9_ones E_X9_ones (QM X E_X9_ones (QIp h Q) Qn) 0 4 [(0, .int (p0)), (1, .int (s.1)), (2, .int (s.2))] [] (h)) (fun K hK s hw => t_X9_ones_l4 p0 h Q K (s.1) (s.2) hK hw) s hw
theorem t_X9_ones {X : Cx} (p0 : Int32) (h : Hp) (Q : Int32 → Prop) (hw : w_X9_ones p0 h Q) : G X M_X9_ones E_X9_ones (QM X E_X9_ones (QIp h Q) Qn) 0 0 [(0, .int (p0))] [] h := by
  unfold w_X9_ones at hw
  refine g_iconst (dk D_X9_ones 0 rfl) ki_0 ?_
  refine g_istore_n (dk D_X9_ones 1 rfl) rfl (by decide) rfl ?_
  refine g_iconst (dk D_X9_ones 2 rfl) ki_0 ?_
  refine g_istore_n (dk D_X9_ones 3 rfl) rfl (by decide) rfl ?_
  refine g_sub [2, 1, 0] rfl ?_
  exact t_X9_ones_b4 p0 (h) Q ((0 : Int32), (0 : Int32)) hw
theorem c_X9_ones {X : Cx} (p0 : Int32) (h : Hp) (Q : Int32 → Prop) (hw : w_X9_ones p0 h Q) : Con X yX9_ones M_X9_ones 0 0 0 [.int (p0)] h (QIp h Q) Qn :=
  con_of (by decide +kernel) rfl (Nat.le_of_ble_eq_true rfl) (t_X9_ones p0 h Q hw)
/-! ShadowTollsModel.canHave(IIII)Z -/
abbrev M_X9_canHave : Mi := (RX9, cX9_canHave, 5, (some .boolean))
abbrev E_X9_canHave : Rm := (0, 0, 0, 0)
def rows_X9_canHave : List (Nat × Instr × Nat) := [(0, .iload_n 2, 1), (1, .iload 4, 2), (3, .ishr, 1), (4, .iconst 1, 1), (5, .iand, 1), (6, .iconst 1, 1), (7, .if_icmp .ne 28, 3), (10, .iload_n 3, 1), (11, .iload 4, 2), (13, .ishr, 1), (14, .iconst 1, 1), (15, .iand, 1), (16, .ifCond .ne 19, 3), (19, .aload_n 0, 1), (20, .getfield 89, 3), (23, .iload_n 1, 1), (24, .aaload, 1), (25, .iload 4, 2), (27, .baload, 1), (28, .ifCond .eq 7, 3), (31, .iconst 1, 1), (32, .goto 4, 3), (35, .iconst 0, 1), (36, .ireturn, 1)]
theorem D_X9_canHave : dkA cX9_canHave rows_X9_canHave := by
  unfold dkA
  decide +kernel
theorem okD_X9_canHave : okD yX9_canHave 4 := by
  unfold okD
  decide +kernel
def w_X9_canHave (p1 : Int32) (p2 : Int32) (p3 : Int32) (p4 : Int32) (h : Hp) (Q : Int32 → Prop) : Prop :=
  wif (¬ ((p2 >>> (p4 &&& 31)) &&& (1 : Int32)) = (1 : Int32)) (Q ((0 : Int32) &&& 1)) (wif (¬ ((p3 >>> (p4 &&& 31)) &&& (1 : Int32)) = 0) (Q ((0 : Int32) &&& 1)) ((vp_in p1 60 ∧ (vp_in p4 8 ∧ Q ((if (h (1302 + 1 * Int32.toNatClampNeg (p1)) (Int32.toNatClampNeg p4) &&& 1) = 0 then (0 : Int32) else (1 : Int32)) &&& 1)))))
theorem t_X9_canHave {X : Cx} (p1 : Int32) (p2 : Int32) (p3 : Int32) (p4 : Int32) (h : Hp) (Q : Int32 → Prop) (hw : w_X9_canHave p1 p2 p3 p4 h Q) : G X M_X9_canHave E_X9_canHave (QM X E_X9_canHave (QIp h Q) Qn) 0 0 [(0, .ref (92)), (1, .int (p1)), (2, .int (p2)), (3, .int (p3)), (4, .int (p4))] [] h := by
  unfold w_X9_canHave at hw
  refine g_iload_n 2 (dk D_X9_canHave 0 rfl) rfl rfl ?_
  refine g_iload 4 (dk D_X9_canHave 1 rfl) rfl ?_
  refine g_ishr (dk D_X9_canHave 2 rfl) ?_
  refine g_iconst (dk D_X9_canHave 3 rfl) ki_1 ?_
  refine g_iand (dk D_X9_canHave 4 rfl) ?_
  refine g_iconst (dk D_X9_canHave 5 rfl) ki_1 ?_
  refine g_icmp_ne (dk D_X9_canHave 6 rfl) rfl (wif_m hw (fun hw => ?_) (fun hw => ?_))
  · refine g_iconst (dk D_X9_canHave 22 rfl) ki_0 ?_
    exact g_zret (dk D_X9_canHave 23 rfl) rfl ⟨_, rfl, rfl, hw⟩
  · refine g_iload_n 3 (dk D_X9_canHave 7 rfl) rfl rfl ?_
    refine g_iload 4 (dk D_X9_canHave 8 rfl) rfl ?_
    refine g_ishr (dk D_X9_canHave 9 rfl) ?_
    refine g_iconst (dk D_X9_canHave 10 rfl) ki_1 ?_
    refine g_iand (dk D_X9_canHave 11 rfl) ?_
    refine g_if_ne (dk D_X9_canHave 12 rfl) rfl (wif_m hw (fun hw => ?_) (fun hw => ?_))
    · refine g_iconst (dk D_X9_canHave 22 rfl) ki_0 ?_
      exact g_zret (dk D_X9_canHave 23 rfl) rfl ⟨_, rfl, rfl, hw⟩
    · refine g_aload_n 0 (dk D_X9_canHave 13 rfl) rfl rfl ?_
      refine g_getR 39 (t := 1301) (dk D_X9_canHave 14 rfl) kd_92 rfl rfl (by decide) w_1396 rfl rfl rfl ?_
      refine g_iload_n 1 (dk D_X9_canHave 15 rfl) rfl rfl ?_
      obtain ⟨hi1, hw⟩ := hw
      refine g_aald (dk D_X9_canHave 16 rfl) kd_1301 rfl rfl hi1 ?_
      refine g_iload 4 (dk D_X9_canHave 17 rfl) rfl ?_
      obtain ⟨hi2, hw⟩ := hw
      refine g_zald (dk D_X9_canHave 18 rfl) (kdf_1301 _ (in_lt hi1)) hi2 ?_
      have hj : G X M_X9_canHave E_X9_canHave (QM X E_X9_canHave (QIp h Q) Qn) 0 36 [(0, .ref (92)), (1, .int (p1)), (2, .int (p2)), (3, .int (p3)), (4, .int (p4))] [.int ((if (h (1302 + 1 * Int32.toNatClampNeg (p1)) (Int32.toNatClampNeg p4) &&& 1) = 0 then (0 : Int32) else (1 : Int32)))] (h) := by
        exact g_zret (dk D_X9_canHave 23 rfl) rfl ⟨_, rfl, rfl, hw⟩
      refine g_if_eq (dk D_X9_canHave 19 rfl) rfl ?_
      by_cases c3 : (h (1302 + 1 * Int32.toNatClampNeg (p1)) (Int32.toNatClampNeg p4) &&& 1) = 0
      · rw [if_pos c3] at hj
        refine wif_p c3 ?_
        refine g_iconst (dk D_X9_canHave 22 rfl) ki_0 ?_
        exact hj
      · rw [if_neg c3] at hj
        refine wif_n c3 ?_
        refine g_iconst (dk D_X9_canHave 20 rfl) ki_1 ?_
        refine g_goto (dk D_X9_canHave 21 rfl) rfl ?_
        exact hj
theorem c_X9_canHave {X : Cx} (p1 : Int32) (p2 : Int32) (p3 : Int32) (p4 : Int32) (h : Hp) (Q : Int32 → Prop) (hw : w_X9_canHave p1 p2 p3 p4 h Q) : Con X yX9_canHave M_X9_canHave 0 0 0 [.ref (92), .int (p1), .int (p2), .int (p3), .int (p4)] h (QIp h Q) Qn :=
  con_of (by decide +kernel) rfl (Nat.le_of_ble_eq_true rfl) (t_X9_canHave p1 p2 p3 p4 h Q hw)
/-! ShadowTollsModel.leastAt(IIII)I -/
abbrev M_X9_leastAt : Mi := (RX9, cX9_leastAt, 8, (some .int))
abbrev E_X9_leastAt : Rm := (2, 59, 0, 0)
def rows_X9_leastAt : List (Nat × Instr × Nat) := [(0, .aload_n 0, 1), (1, .getfield 92, 3), (4, .iload_n 1, 1), (5, .iconst 1, 1), (6, .iadd, 1), (7, .aaload, 1), (8, .bipush 9, 2), (10, .iload_n 3, 1), (11, .imul, 1), (12, .bipush 8, 2), (14, .iadd, 1), (15, .iaload, 1), (16, .istore 5, 2), (18, .iconst 0, 1), (19, .istore 6, 2), (21, .iload 6, 2), (23, .aload_n 0, 1), (24, .getfield 20, 3), (27, .iconst 0, 1), (28, .iaload, 1), (29, .if_icmp .ge 82, 3), (32, .aload_n 0, 1), (33, .iload_n 1, 1), (34, .iload_n 2, 1), (35, .iload_n 3, 1), (36, .iload 6, 2), (38, .invokevirtual 355, 3), (41, .ifCond .ne 6, 3), (44, .goto 61, 3), (47, .aload_n 0, 1), (48, .getfield 81, 3), (51, .iload_n 1, 1), (52, .aaload, 1), (53, .iload 6, 2), (55, .aaload, 1), (56, .aload_n 0, 1), (57, .iload 6, 2), (59, .iload 4, 2), (61, .invokevirtual 359, 3), (64, .iaload, 1), (65, .aload_n 0, 1), (66, .getfield 92, 3), (69, .iload_n 1, 1), (70, .iconst 1, 1), (71, .iadd, 1), (72, .aaload, 1), (73, .bipush 9, 2), (75, .iload_n 3, 1), (76, .iconst 1, 1), (77, .iload 6, 2), (79, .ishl, 1), (80, .ior, 1), (81, .imul, 1), (82, .iload 6, 2), (84, .iadd, 1), (85, .iaload, 1), (86, .iadd, 1), (87, .istore 7, 2), (89, .iload 7, 2), (91, .iload 5, 2), (93, .if_icmp .ge 8, 3), (96, .iload 7, 2), (98, .goto 5, 3), (101, .iload 5, 2), (103, .istore 5, 2), (105, .iinc 6 1, 3), (108, .goto (-87), 3), (111, .iload 5, 2), (113, .ireturn, 1)]
theorem D_X9_leastAt : dkA cX9_leastAt rows_X9_leastAt := by
  unfold dkA
  decide +kernel
theorem okD_X9_leastAt : okD yX9_leastAt 4 := by
  unfold okD
  decide +kernel
def w_X9_leastAt_b105 (p1 : Int32) (p2 : Int32) (p3 : Int32) (p4 : Int32) (v5 : Int32) (v6 : Int32) (K21 : Int32 × Int32 → Prop) (h : Hp) (Q : Int32 → Prop) : Prop :=
  K21 (v5, (v6 + (1 : Int32)))
def w_X9_leastAt_l21 (p1 : Int32) (p2 : Int32) (p3 : Int32) (p4 : Int32) (h : Hp) (Q : Int32 → Prop) (K21 : Int32 × Int32 → Prop) (v5 : Int32) (v6 : Int32) : Prop :=
  (vp_in (0 : Int32) 11 ∧ wif ((h 95 (Int32.toNatClampNeg (0 : Int32))) ≤ v6) (Q v5) (w_X9_canHave (p1) (p2) (p3) (v6) h (fun z2 => wif (¬ z2 = 0) ((vp_in p1 60 ∧ (vp_in v6 8 ∧ w_X9_isDark (v6) (p4) h (fun z5 => (vp_in z5 2 ∧ (vp_in (p1 + (1 : Int32)) 61 ∧ (vp_in (((9 : Int32) * (p3 ||| ((1 : Int32) <<< (v6 &&& 31)))) + v6) 2304 ∧ wlet (((h (((220 + 9 * Int32.toNatClampNeg (p1)) + 1) + 1 * Int32.toNatClampNeg (v6)) (Int32.toNatClampNeg z5)) + (h (1363 + 1 * Int32.toNatClampNeg ((p1 + (1 : Int32)))) (Int32.toNatClampNeg (((9 : Int32) * (p3 ||| ((1 : Int32) <<< (v6 &&& 31)))) + v6))))) (fun v7_9 => wlet ((if v5 ≤ v7_9 then v5 else v7_9)) (fun v5_11 => w_X9_leastAt_b105 p1 p2 p3 p4 (v5_11) (v6) K21 (h) Q))))))))) (w_X9_leastAt_b105 p1 p2 p3 p4 (v5) (v6) K21 (h) Q))))
def w_X9_leastAt_b21 (p1 : Int32) (p2 : Int32) (p3 : Int32) (p4 : Int32) (h : Hp) (Q : Int32 → Prop) (s : Int32 × Int32) : Prop := wl (fun K s => w_X9_leastAt_l21 p1 p2 p3 p4 h Q K s.1 s.2) s
def w_X9_leastAt (p1 : Int32) (p2 : Int32) (p3 : Int32) (p4 : Int32) (h : Hp) (Q : Int32 → Prop) : Prop :=
  (vp_in (p1 + (1 : Int32)) 61 ∧ (vp_in (((9 : Int32) * p3) + (8 : Int32)) 2304 ∧ wlet ((h (1363 + 1 * Int32.toNatClampNeg ((p1 + (1 : Int32)))) (Int32.toNatClampNeg (((9 : Int32) * p3) + (8 : Int32))))) (fun v5_3 => w_X9_leastAt_b21 p1 p2 p3 p4 (h) Q (v5_3, (0 : Int32)))))
theorem t_X9_leastAt_b105 {X : Cx} (p1 : Int32) (p2 : Int32) (p3 : Int32) (p4 : Int32) (v5 : Int32) (v6 : Int32) (K21 : Int32 × Int32 → Prop) (h : Hp) (Q : Int32 → Prop) (hK21 : ∀ s : Int32 × Int32, K21 s → G X M_X9_leastAt E_X9_leastAt (QM X E_X9_leastAt (QIp h Q) Qn) 0 21 [(0, .ref (92)), (1, .int (p1)), (2, .int (p2)), (3, .int (p3)), (4, .int (p4)), (5, .int (s.1)), (6, .int (s.2))] [] (h)) (hw : w_X9_leastAt_b105 p1 p2 p3 p4 v5 v6 K21 h Q) : G X M_X9_leastAt E_X9_leastAt (QM X E_X9_leastAt (QIp h Q) Qn) 0 105 [(0, .ref (92)), (1, .int (p1)), (2, .int (p2)), (3, .int (p3)), (4, .int (p4)), (5, .int (v5)), (6, .int (v6))] [] h := by
  unfold w_X9_leastAt_b105 at hw
  refine g_iinc 6 (dk D_X9_leastAt 65 rfl) rfl (congrArg (fun z => _ + z) ki_1) (by decide) rfl ?_
  refine g_goto (dk D_X9_leastAt 66 rfl) rfl ?_
  refine g_sub [1, 2, 3, 4, 5, 6, 0] rfl ?_
  exact hK21 (v5, (v6 + (1 : Int32))) hw
theorem t_X9_leastAt_l21 {X : Cx} (p1 : Int32) (p2 : Int32) (p3 : Int32) (p4 : Int32) (h : Hp) (Q : Int32 → Prop) (K21 : Int32 × Int32 → Prop) (v5 : Int32) (v6 : Int32) (hK21 : ∀ s : Int32 × Int32, K21 s → G X M_X9_leastAt E_X9_leastAt (QM X E_X9_leastAt (QIp h Q) Qn) 0 21 [(0, .ref (92)), (1, .int (p1)), (2, .int (p2)), (3, .int (p3)), (4, .int (p4)), (5, .int (s.1)), (6, .int (s.2))] [] (h)) (hw : w_X9_leastAt_l21 p1 p2 p3 p4 h Q K21 v5 v6) : G X M_X9_leastAt E_X9_leastAt (QM X E_X9_leastAt (QIp h Q) Qn) 0 21 [(0, .ref (92)), (1, .int (p1)), (2, .int (p2)), (3, .int (p3)), (4, .int (p4)), (5, .int (v5)), (6, .int (v6))] [] h := by
  unfold w_X9_leastAt_l21 at hw
  refine g_iload 6 (dk D_X9_leastAt 15 rfl) rfl ?_
  refine g_aload_n 0 (dk D_X9_leastAt 16 rfl) rfl rfl ?_
  refine g_getR 11 (t := 95) (dk D_X9_leastAt 17 rfl) kd_92 rfl rfl (by decide) w_1368 rfl rfl rfl ?_
  refine g_iconst (dk D_X9_leastAt 18 rfl) ki_0 ?_
  obtain ⟨hi1, hw⟩ := hw
  refine g_iald (dk D_X9_leastAt 19 rfl) kd_95 hi1 ?_
  refine g_icmp_ge (dk D_X9_leastAt 20 rfl) rfl (wif_m hw (fun hw => ?_) (fun hw => ?_))
  · refine g_iload 5 (dk D_X9_leastAt 67 rfl) rfl ?_
    exact g_iret (dk D_X9_leastAt 68 rfl) rfl ⟨_, rfl, rfl, hw⟩
  · refine g_aload_n 0 (dk D_X9_leastAt 21 rfl) rfl rfl ?_
    refine g_iload_n 1 (dk D_X9_leastAt 22 rfl) rfl rfl ?_
    refine g_iload_n 2 (dk D_X9_leastAt 23 rfl) rfl rfl ?_
    refine g_iload_n 3 (dk D_X9_leastAt 24 rfl) rfl rfl ?_
    refine g_iload 6 (dk D_X9_leastAt 25 rfl) rfl ?_
    refine g_callV (As := [.int (p1), .int (p2), .int (p3), .int (v6)]) (kc := 0) (fr := 0) (lo := 0) (mc := 0) (My := M_X9_canHave) (dk D_X9_leastAt 26 rfl) kd_92 rfl rfl w_1801 w_1803 w_88 w_110 w_1804 okD_X9_canHave (by decide) (Nat.le_of_ble_eq_true rfl) rfl (c_X9_canHave (p1) (p2) (p3) (v6) (h) _ hw) kxN (kIp (fun z2 hw => ?_))
    refine g_if_ne (dk D_X9_leastAt 27 rfl) rfl (wif_m hw (fun hw => ?_) (fun hw => ?_))
    · refine g_aload_n 0 (dk D_X9_leastAt 29 rfl) rfl rfl ?_
      refine g_getR 37 (t := 219) (dk D_X9_leastAt 30 rfl) kd_92 rfl rfl (by decide) w_1394 rfl rfl rfl ?_
      refine g_iload_n 1 (dk D_X9_leastAt 31 rfl) rfl rfl ?_
      obtain ⟨hi3, hw⟩ := hw
      refine g_aald (dk D_X9_leastAt 32 rfl) kd_219 rfl rfl hi3 ?_
      refine g_iload 6 (dk D_X9_leastAt 33 rfl) rfl ?_
      obtain ⟨hi4, hw⟩ := hw
      refine g_aald (dk D_X9_leastAt 34 rfl) (kdf_219 _ (in_lt hi3)) rfl rfl hi4 ?_
      refine g_aload_n 0 (dk D_X9_leastAt 35 rfl) rfl rfl ?_
      refine g_iload 6 (dk D_X9_leastAt 36 rfl) rfl ?_
      refine g_iload 4 (dk D_X9_leastAt 37 rfl) rfl ?_
      refine g_callV (As := [.int (v6), .int (p4)]) (kc := 0) (fr := 1) (lo := 29) (mc := 0) (My := M_X9_isDark) (dk D_X9_leastAt 38 rfl) kd_92 rfl rfl w_1805 w_1807 w_89 w_110 w_1808 okD_X9_isDark (by decide) (Nat.le_of_ble_eq_true rfl) rfl (c_X9_isDark (v6) (p4) (h) _ hw) kxN (kIp (fun z5 hw => ?_))
      obtain ⟨hi6, hw⟩ := hw
      refine g_iald (dk D_X9_leastAt 39 rfl) (kdg_219 _ (in_lt hi3) _ (in_lt hi4)) hi6 ?_
      refine g_aload_n 0 (dk D_X9_leastAt 40 rfl) rfl rfl ?_
      refine g_getR 40 (t := 1362) (dk D_X9_leastAt 41 rfl) kd_92 rfl rfl (by decide) w_1397 rfl rfl rfl ?_
      refine g_iload_n 1 (dk D_X9_leastAt 42 rfl) rfl rfl ?_
      refine g_iconst (dk D_X9_leastAt 43 rfl) ki_1 ?_
      refine g_iadd (dk D_X9_leastAt 44 rfl) ?_
      obtain ⟨hi7, hw⟩ := hw
      refine g_aald (dk D_X9_leastAt 45 rfl) kd_1362 rfl rfl hi7 ?_
      refine g_bipush (dk D_X9_leastAt 46 rfl) kb_9 ?_
      refine g_iload_n 3 (dk D_X9_leastAt 47 rfl) rfl rfl ?_
      refine g_iconst (dk D_X9_leastAt 48 rfl) ki_1 ?_
      refine g_iload 6 (dk D_X9_leastAt 49 rfl) rfl ?_
      refine g_ishl (dk D_X9_leastAt 50 rfl) ?_
      refine g_ior (dk D_X9_leastAt 51 rfl) ?_
      refine g_imul (dk D_X9_leastAt 52 rfl) ?_
      refine g_iload 6 (dk D_X9_leastAt 53 rfl) rfl ?_
      refine g_iadd (dk D_X9_leastAt 54 rfl) ?_
      obtain ⟨hi8, hw⟩ := hw
      refine g_iald (dk D_X9_leastAt 55 rfl) (kdf_1362 _ (in_lt hi7)) hi8 ?_
      refine g_iadd (dk D_X9_leastAt 56 rfl) ?_
      refine g_topi (fun v7_9 ev7_9 => ?_)
      replace hw := hw _ ev7_9
      refine g_istore (dk D_X9_leastAt 57 rfl) (by decide) rfl ?_
      refine g_iload 0 (dk D_X9_leastAt 58 rfl) rfl ?_
      refine g_iload 6 (dk D_X9_leastAt 59 rfl) rfl ?_
      have hj : G X M_X9_leastAt E_X9_leastAt (QM X E_X9_leastAt (QIp h Q) Qn) 0 103 [(7, .int (v7_9)), (0, .ref (92)), (1, .int (p1)), (2, .int (p2)), (3, .int (p3)), (4, .int (p4)), (5, .int (v5)), (6, .int (v6))] [.int ((if v5 ≤ v7_9 then v5 else v7_9))] (h) := by
        refine g_topi (fun v5_11 ev5_11 => ?_)
        replace hw := hw _ ev5_11
        refine g_istore (dk D_X9_leastAt 64 rfl) (by decide) rfl ?_
        refine g_sub [2, 3, 4, 5, 6, 0, 7] rfl ?_
        exact t_X9_leastAt_b105 p1 p2 p3 p4 (v5_11) (v6) K21 (h) Q hK21 hw
      refine g_icmp_ge (dk D_X9_leastAt 60 rfl) rfl ?_
      by_cases c10 : v5 ≤ v7_9
      · rw [if_pos c10] at hj
        refine wif_p c10 ?_
        refine g_iload 6 (dk D_X9_leastAt 63 rfl) rfl ?_
        exact hj
      · rw [if_neg c10] at hj
        refine wif_n c10 ?_
        refine g_iload 0 (dk D_X9_leastAt 61 rfl) rfl ?_
        refine g_goto (dk D_X9_leastAt 62 rfl) rfl ?_
        exact hj
    · refine g_goto (dk D_X9_leastAt 28 rfl) rfl ?_
      exact t_X9_leastAt_b105 p1 p2 p3 p4 (v5) (v6) K21 (h) Q hK21 hw
theorem t_X9_leastAt_b21 {X : Cx} (p1 : Int32) (p2 : Int32) (p3 : Int32) (p4 : Int32) (h : Hp) (Q : Int32 → Prop) (s : Int32 × Int32) (hw : w_X9_leastAt_b21 p1 p2 p3 p4 h Q s) : G X M_X9_leastAt E_X9_leastAt (QM X E_X9_leastAt (QIp h Q) Qn) 0 21 [(0, .ref (92)), (1, .int (p1)), (2, .int (p2)), (3, .int (p3)), (4, .int (p4)), (5, .int (s.1)), (6, .int (s.2))] [] (h) :=
  wl_ind (B := fun K s => w_X9_leastAt_l21 p1 p2 p3 p4 h Q K (s.1) (s.2)) (P := fun s => G X M_X9_leastAt E_X9_leastAt (QM X E_X9_leastAt (QIp h Q) Qn) 0 21 [(0, .ref (92)), (1, .int (p1)), (2, .int (p2)), (3, .int (p3)), (4, .int (p4)), (5, .int (s.1)), (6, .int (s.2))] [] (h)) (fun K hK s hw => t_X9_leastAt_l21 p1 p2 p3 p4 h Q K (s.1) (s.2) hK hw) s hw
theorem t_X9_leastAt {X : Cx} (p1 : Int32) (p2 : Int32) (p3 : Int32) (p4 : Int32) (h : Hp) (Q : Int32 → Prop) (hw : w_X9_leastAt p1 p2 p3 p4 h Q) : G X M_X9_leastAt E_X9_leastAt (QM X E_X9_leastAt (QIp h Q) Qn) 0 0 [(0, .ref (92)), (1, .int (p1)), (2, .int (p2)), (3, .int (p3)), (4, .int (p4))] [] h := by
  unfold w_X9_leastAt at hw
  refine g_aload_n 0 (dk D_X9_leastAt 0 rfl) rfl rfl ?_
  refine g_getR 40 (t := 1362) (dk D_X9_leastAt 1 rfl) kd_92 rfl rfl (by decide) w_1397 rfl rfl rfl ?_
  refine g_iload_n 1 (dk D_X9_leastAt 2 rfl) rfl rfl ?_
  refine g_iconst (dk D_X9_leastAt 3 rfl) ki_1 ?_
  refine g_iadd (dk D_X9_leastAt 4 rfl) ?_
  obtain ⟨hi1, hw⟩ := hw
  refine g_aald (dk D_X9_leastAt 5 rfl) kd_1362 rfl rfl hi1 ?_
  refine g_bipush (dk D_X9_leastAt 6 rfl) kb_9 ?_
  refine g_iload_n 3 (dk D_X9_leastAt 7 rfl) rfl rfl ?_
  refine g_imul (dk D_X9_leastAt 8 rfl) ?_
  refine g_bipush (dk D_X9_leastAt 9 rfl) kb_8 ?_
  refine g_iadd (dk D_X9_leastAt 10 rfl) ?_
  obtain ⟨hi2, hw⟩ := hw
  refine g_iald (dk D_X9_leastAt 11 rfl) (kdf_1362 _ (in_lt hi1)) hi2 ?_
  refine g_topi (fun v5_3 ev5_3 => ?_)
  replace hw := hw _ ev5_3
  refine g_istore (dk D_X9_leastAt 12 rfl) (by decide) rfl ?_
  refine g_iconst (dk D_X9_leastAt 13 rfl) ki_0 ?_
  refine g_istore (dk D_X9_leastAt 14 rfl) (by decide) rfl ?_
  refine g_sub [2, 3, 4, 5, 6, 1, 0] rfl ?_
  exact t_X9_leastAt_b21 p1 p2 p3 p4 (h) Q (v5_3, (0 : Int32)) hw
theorem c_X9_leastAt {X : Cx} (p1 : Int32) (p2 : Int32) (p3 : Int32) (p4 : Int32) (h : Hp) (Q : Int32 → Prop) (hw : w_X9_leastAt p1 p2 p3 p4 h Q) : Con X yX9_leastAt M_X9_leastAt 2 59 0 [.ref (92), .int (p1), .int (p2), .int (p3), .int (p4)] h (QIp h Q) Qn :=
  con_of (by decide +kernel) rfl (Nat.le_of_ble_eq_true rfl) (t_X9_leastAt p1 p2 p3 p4 h Q hw)
/-! ShadowTollsModel.layLeast(I)V -/
abbrev M_X9_layLeast : Mi := (RX9, cX9_layLeast, 5, none)
abbrev E_X9_layLeast : Rm := (3, 94, 0, 0)
def rows_X9_layLeast : List (Nat × Instr × Nat) := [(0, .iconst 0, 1), (1, .istore_n 2, 1), (2, .iload_n 2, 1), (3, .sipush 256, 3), (6, .if_icmp .ge 51, 3), (9, .iconst 0, 1), (10, .istore_n 3, 1), (11, .iload_n 3, 1), (12, .bipush 9, 2), (14, .if_icmp .ge 37, 3), (17, .aload_n 0, 1), (18, .getfield 92, 3), (21, .aload_n 0, 1), (22, .getfield 336, 3), (25, .aaload, 1), (26, .bipush 9, 2), (28, .iload_n 2, 1), (29, .imul, 1), (30, .iload_n 3, 1), (31, .iadd, 1), (32, .ldc_w 345, 3), (35, .iload_n 1, 1), (36, .iload_n 2, 1), (37, .iconst (-1), 1), (38, .ixor, 1), (39, .iand, 1), (40, .invokestatic 346, 3), (43, .imul, 1), (44, .iastore, 1), (45, .iinc 3 1, 3), (48, .goto (-37), 3), (51, .iinc 2 1, 3), (54, .goto (-52), 3), (57, .aload_n 0, 1), (58, .getfield 336, 3), (61, .iconst 1, 1), (62, .isub, 1), (63, .istore_n 2, 1), (64, .iload_n 2, 1), (65, .ifCond .lt 79, 3), (68, .iconst 0, 1), (69, .istore_n 3, 1), (70, .iload_n 3, 1), (71, .sipush 256, 3), (74, .if_icmp .ge 64, 3), (77, .iload_n 3, 1), (78, .iload_n 1, 1), (79, .iconst (-1), 1), (80, .ixor, 1), (81, .iand, 1), (82, .ifCond .eq 6, 3), (85, .goto 47, 3), (88, .iconst 0, 1), (89, .istore 4, 2), (91, .iload 4, 2), (93, .bipush 9, 2), (95, .if_icmp .ge 37, 3), (98, .aload_n 0, 1), (99, .getfield 92, 3), (102, .iload_n 2, 1), (103, .aaload, 1), (104, .bipush 9, 2), (106, .iload_n 3, 1), (107, .imul, 1), (108, .iload 4, 2), (110, .iadd, 1), (111, .aload_n 0, 1), (112, .iload_n 2, 1), (113, .iload_n 1, 1), (114, .iload_n 3, 1), (115, .aload_n 0, 1), (116, .iload_n 2, 1), (117, .iload 4, 2), (119, .invokevirtual 349, 3), (122, .invokevirtual 352, 3), (125, .iastore, 1), (126, .iinc 4 1, 3), (129, .goto (-38), 3), (132, .iinc 3 1, 3), (135, .goto (-65), 3), (138, .iinc 2 (-1), 3), (141, .goto (-77), 3), (144, .return_, 1)]
theorem D_X9_layLeast : dkA cX9_layLeast rows_X9_layLeast := by
  unfold dkA
  decide +kernel
theorem okD_X9_layLeast : okD yX9_layLeast 1 := by
  unfold okD
  decide +kernel
def w_X9_layLeast_b132 (p1 : Int32) (v2 : Int32) (v3 : Int32) (K64 : Int32 × Hp → Prop) (K70 : Int32 × Hp → Prop) (h : Hp) (Q : Hp → Prop) : Prop :=
  K70 ((v3 + (1 : Int32)), h)
def w_X9_layLeast_l91 (p1 : Int32) (v2 : Int32) (v3 : Int32) (K64 : Int32 × Hp → Prop) (K70 : Int32 × Hp → Prop) (Q : Hp → Prop) (K91 : Int32 × Hp → Prop) (v4 : Int32) (h : Hp) : Prop :=
  wif ((9 : Int32) ≤ v4) (w_X9_layLeast_b132 p1 (v2) (v3) K64 K70 (h) Q) ((vp_in v2 61 ∧ w_X9_lastAt (v2) (v4) h (fun z2 => w_X9_leastAt (v2) (p1) (v3) (z2) h (fun z3 => (vp_in (((9 : Int32) * v3) + v4) 2304 ∧ wlet (hup h (1363 + 1 * Int32.toNatClampNeg (v2)) (Int32.toNatClampNeg (((9 : Int32) * v3) + v4)) z3) (fun h5 => K91 ((v4 + (1 : Int32)), h5)))))))
def w_X9_layLeast_b91 (p1 : Int32) (v2 : Int32) (v3 : Int32) (K64 : Int32 × Hp → Prop) (K70 : Int32 × Hp → Prop) (Q : Hp → Prop) (s : Int32 × Hp) : Prop := wl (fun K s => w_X9_layLeast_l91 p1 v2 v3 K64 K70 Q K s.1 s.2) s
def w_X9_layLeast_l70 (p1 : Int32) (v2 : Int32) (K64 : Int32 × Hp → Prop) (Q : Hp → Prop) (K70 : Int32 × Hp → Prop) (v3 : Int32) (h : Hp) : Prop :=
  wif ((256 : Int32) ≤ v3) (K64 ((v2 + (-1 : Int32)), h)) (wif ((v3 &&& (p1 ^^^ (-1 : Int32))) = 0) (w_X9_layLeast_b91 p1 (v2) (v3) K64 K70 Q ((0 : Int32), h)) (w_X9_layLeast_b132 p1 (v2) (v3) K64 K70 (h) Q))
def w_X9_layLeast_b70 (p1 : Int32) (v2 : Int32) (K64 : Int32 × Hp → Prop) (Q : Hp → Prop) (s : Int32 × Hp) : Prop := wl (fun K s => w_X9_layLeast_l70 p1 v2 K64 Q K s.1 s.2) s
def w_X9_layLeast_l64 (p1 : Int32) (Q : Hp → Prop) (K64 : Int32 × Hp → Prop) (v2 : Int32) (h : Hp) : Prop :=
  wif (v2 < 0) (Q h) (w_X9_layLeast_b70 p1 (v2) K64 Q ((0 : Int32), h))
def w_X9_layLeast_b64 (p1 : Int32) (Q : Hp → Prop) (s : Int32 × Hp) : Prop := wl (fun K s => w_X9_layLeast_l64 p1 Q K s.1 s.2) s
def w_X9_layLeast_l11 (p1 : Int32) (v2 : Int32) (K2 : Int32 × Hp → Prop) (Q : Hp → Prop) (K11 : Int32 × Hp → Prop) (v3 : Int32) (h : Hp) : Prop :=
  wif ((9 : Int32) ≤ v3) (K2 ((v2 + (1 : Int32)), h)) ((vp_in (h 92 43) 61 ∧ w_X9_ones ((p1 &&& (v2 ^^^ (-1 : Int32)))) h (fun z2 => (vp_in (((9 : Int32) * v2) + v3) 2304 ∧ wlet (hup h (1363 + 1 * Int32.toNatClampNeg ((h 92 43))) (Int32.toNatClampNeg (((9 : Int32) * v2) + v3)) ((1000000 : Int32) * z2)) (fun h4 => K11 ((v3 + (1 : Int32)), h4))))))
def w_X9_layLeast_b11 (p1 : Int32) (v2 : Int32) (K2 : Int32 × Hp → Prop) (Q : Hp → Prop) (s : Int32 × Hp) : Prop := wl (fun K s => w_X9_layLeast_l11 p1 v2 K2 Q K s.1 s.2) s
def w_X9_layLeast_l2 (p1 : Int32) (Q : Hp → Prop) (K2 : Int32 × Hp → Prop) (v2 : Int32) (h : Hp) : Prop :=
  wif ((256 : Int32) ≤ v2) (wlet (((h 92 43) - (1 : Int32))) (fun v2_1 => w_X9_layLeast_b64 p1 Q (v2_1, h))) (w_X9_layLeast_b11 p1 (v2) K2 Q ((0 : Int32), h))
def w_X9_layLeast_b2 (p1 : Int32) (Q : Hp → Prop) (s : Int32 × Hp) : Prop := wl (fun K s => w_X9_layLeast_l2 p1 Q K s.1 s.2) s
def w_X9_layLeast (p1 : Int32) (h : Hp) (Q : Hp → Prop) : Prop :=
  w_X9_layLeast_b2 p1 Q ((0 : Int32), h)
theorem t_X9_layLeast_b132 {X : Cx} (p1 : Int32) (v2 : Int32) (v3 : Int32) (K64 : Int32 × Hp → Prop) (K70 : Int32 × Hp → Prop) (h : Hp) (Q : Hp → Prop) (hK64 : ∀ s : Int32 × Hp, K64 s → G X M_X9_layLeast E_X9_layLeast (QM X E_X9_layLeast (QV Q) Qn) 0 64 [(0, .ref (92)), (1, .int (p1)), (2, .int (s.1))] [] (s.2)) (hK70 : ∀ s : Int32 × Hp, K70 s → G X M_X9_layLeast E_X9_layLeast (QM X E_X9_layLeast (QV Q) Qn) 0 70 [(0, .ref (92)), (1, .int (p1)), (2, .int (v2)), (3, .int (s.1))] [] (s.2)) (hw : w_X9_layLeast_b132 p1 v2 v3 K64 K70 h Q) : G X M_X9_layLeast E_X9_layLeast (QM X E_X9_layLeast (QV Q) Qn) 0 132 [(0, .ref (92)), (1, .int (p1)), (2, .int (v2)), (3, .int (v3))] [] h := by
  unfold w_X9_layLeast_b132 at hw
  refine g_iinc 3 (dk D_X9_layLeast 78 rfl) rfl (congrArg (fun z => _ + z) ki_1) (by decide) rfl ?_
  refine g_goto (dk D_X9_layLeast 79 rfl) rfl ?_
  refine g_sub [1, 2, 3, 0] rfl ?_
  exact hK70 ((v3 + (1 : Int32)), h) hw
theorem t_X9_layLeast_l91 {X : Cx} (p1 : Int32) (v2 : Int32) (v3 : Int32) (K64 : Int32 × Hp → Prop) (K70 : Int32 × Hp → Prop) (Q : Hp → Prop) (K91 : Int32 × Hp → Prop) (v4 : Int32) (h : Hp) (hK64 : ∀ s : Int32 × Hp, K64 s → G X M_X9_layLeast E_X9_layLeast (QM X E_X9_layLeast (QV Q) Qn) 0 64 [(0, .ref (92)), (1, .int (p1)), (2, .int (s.1))] [] (s.2)) (hK70 : ∀ s : Int32 × Hp, K70 s → G X M_X9_layLeast E_X9_layLeast (QM X E_X9_layLeast (QV Q) Qn) 0 70 [(0, .ref (92)), (1, .int (p1)), (2, .int (v2)), (3, .int (s.1))] [] (s.2)) (hK91 : ∀ s : Int32 × Hp, K91 s → G X M_X9_layLeast E_X9_layLeast (QM X E_X9_layLeast (QV Q) Qn) 0 91 [(0, .ref (92)), (1, .int (p1)), (2, .int (v2)), (3, .int (v3)), (4, .int (s.1))] [] (s.2)) (hw : w_X9_layLeast_l91 p1 v2 v3 K64 K70 Q K91 v4 h) : G X M_X9_layLeast E_X9_layLeast (QM X E_X9_layLeast (QV Q) Qn) 0 91 [(0, .ref (92)), (1, .int (p1)), (2, .int (v2)), (3, .int (v3)), (4, .int (v4))] [] h := by
  unfold w_X9_layLeast_l91 at hw
  refine g_iload 4 (dk D_X9_layLeast 54 rfl) rfl ?_
  refine g_bipush (dk D_X9_layLeast 55 rfl) kb_9 ?_
  refine g_icmp_ge (dk D_X9_layLeast 56 rfl) rfl (wif_m hw (fun hw => ?_) (fun hw => ?_))
  · refine g_sub [0, 1, 2, 3] rfl ?_
    exact t_X9_layLeast_b132 p1 (v2) (v3) K64 K70 (h) Q hK64 hK70 hw
  · refine g_aload_n 0 (dk D_X9_layLeast 57 rfl) rfl rfl ?_
    refine g_getR 40 (t := 1362) (dk D_X9_layLeast 58 rfl) kd_92 rfl rfl (by decide) w_1397 rfl rfl rfl ?_
    refine g_iload_n 2 (dk D_X9_layLeast 59 rfl) rfl rfl ?_
    obtain ⟨hi1, hw⟩ := hw
    refine g_aald (dk D_X9_layLeast 60 rfl) kd_1362 rfl rfl hi1 ?_
    refine g_bipush (dk D_X9_layLeast 61 rfl) kb_9 ?_
    refine g_iload_n 3 (dk D_X9_layLeast 62 rfl) rfl rfl ?_
    refine g_imul (dk D_X9_layLeast 63 rfl) ?_
    refine g_iload 4 (dk D_X9_layLeast 64 rfl) rfl ?_
    refine g_iadd (dk D_X9_layLeast 65 rfl) ?_
    refine g_aload_n 0 (dk D_X9_layLeast 66 rfl) rfl rfl ?_
    refine g_iload_n 2 (dk D_X9_layLeast 67 rfl) rfl rfl ?_
    refine g_iload_n 1 (dk D_X9_layLeast 68 rfl) rfl rfl ?_
    refine g_iload_n 3 (dk D_X9_layLeast 69 rfl) rfl rfl ?_
    refine g_aload_n 0 (dk D_X9_layLeast 70 rfl) rfl rfl ?_
    refine g_iload_n 2 (dk D_X9_layLeast 71 rfl) rfl rfl ?_
    refine g_iload 4 (dk D_X9_layLeast 72 rfl) rfl ?_
    refine g_callV (As := [.int (v2), .int (v4)]) (kc := 0) (fr := 0) (lo := 0) (mc := 0) (My := M_X9_lastAt) (dk D_X9_layLeast 73 rfl) kd_92 rfl rfl w_1793 w_1795 w_86 w_110 w_1796 okD_X9_lastAt (by decide) (Nat.le_of_ble_eq_true rfl) rfl (c_X9_lastAt (v2) (v4) (h) _ hw) kxN (kIp (fun z2 hw => ?_))
    refine g_callV (As := [.int (v2), .int (p1), .int (v3), .int (z2)]) (kc := 0) (fr := 2) (lo := 59) (mc := 0) (My := M_X9_leastAt) (dk D_X9_layLeast 74 rfl) kd_92 rfl rfl w_1797 w_1799 w_87 w_110 w_1800 okD_X9_leastAt (by decide) (Nat.le_of_ble_eq_true rfl) rfl (c_X9_leastAt (v2) (p1) (v3) (z2) (h) _ hw) kxN (kIp (fun z3 hw => ?_))
    obtain ⟨hi4, hw⟩ := hw
    refine g_iast (dk D_X9_layLeast 75 rfl) (kdf_1362 _ (in_lt hi1)) hi4 ?_
    refine g_heap (fun h5 eh5 => ?_)
    replace hw := hw _ eh5
    refine g_iinc 4 (dk D_X9_layLeast 76 rfl) rfl (congrArg (fun z => _ + z) ki_1) (by decide) rfl ?_
    refine g_goto (dk D_X9_layLeast 77 rfl) rfl ?_
    refine g_sub [1, 2, 3, 4, 0] rfl ?_
    exact hK91 ((v4 + (1 : Int32)), h5) hw
theorem t_X9_layLeast_b91 {X : Cx} (p1 : Int32) (v2 : Int32) (v3 : Int32) (K64 : Int32 × Hp → Prop) (K70 : Int32 × Hp → Prop) (Q : Hp → Prop) (s : Int32 × Hp) (hK64 : ∀ s : Int32 × Hp, K64 s → G X M_X9_layLeast E_X9_layLeast (QM X E_X9_layLeast (QV Q) Qn) 0 64 [(0, .ref (92)), (1, .int (p1)), (2, .int (s.1))] [] (s.2)) (hK70 : ∀ s : Int32 × Hp, K70 s → G X M_X9_layLeast E_X9_layLeast (QM X E_X9_layLeast (QV Q) Qn) 0 70 [(0, .ref (92)), (1, .int (p1)), (2, .int (v2)), (3, .int (s.1))] [] (s.2)) (hw : w_X9_layLeast_b91 p1 v2 v3 K64 K70 Q s) : G X M_X9_layLeast E_X9_layLeast (QM X E_X9_layLeast (QV Q) Qn) 0 91 [(0, .ref (92)), (1, .int (p1)), (2, .int (v2)), (3, .int (v3)), (4, .int (s.1))] [] (s.2) :=
  wl_ind (B := fun K s => w_X9_layLeast_l91 p1 v2 v3 K64 K70 Q K (s.1) (s.2)) (P := fun s => G X M_X9_layLeast E_X9_layLeast (QM X E_X9_layLeast (QV Q) Qn) 0 91 [(0, .ref (92)), (1, .int (p1)), (2, .int (v2)), (3, .int (v3)), (4, .int (s.1))] [] (s.2)) (fun K hK s hw => t_X9_layLeast_l91 p1 v2 v3 K64 K70 Q K (s.1) (s.2) hK64 hK70 hK hw) s hw
theorem t_X9_layLeast_l70 {X : Cx} (p1 : Int32) (v2 : Int32) (K64 : Int32 × Hp → Prop) (Q : Hp → Prop) (K70 : Int32 × Hp → Prop) (v3 : Int32) (h : Hp) (hK64 : ∀ s : Int32 × Hp, K64 s → G X M_X9_layLeast E_X9_layLeast (QM X E_X9_layLeast (QV Q) Qn) 0 64 [(0, .ref (92)), (1, .int (p1)), (2, .int (s.1))] [] (s.2)) (hK70 : ∀ s : Int32 × Hp, K70 s → G X M_X9_layLeast E_X9_layLeast (QM X E_X9_layLeast (QV Q) Qn) 0 70 [(0, .ref (92)), (1, .int (p1)), (2, .int (v2)), (3, .int (s.1))] [] (s.2)) (hw : w_X9_layLeast_l70 p1 v2 K64 Q K70 v3 h) : G X M_X9_layLeast E_X9_layLeast (QM X E_X9_layLeast (QV Q) Qn) 0 70 [(0, .ref (92)), (1, .int (p1)), (2, .int (v2)), (3, .int (v3))] [] h := by
  unfold w_X9_layLeast_l70 at hw
  refine g_iload_n 3 (dk D_X9_layLeast 42 rfl) rfl rfl ?_
  refine g_sipush (dk D_X9_layLeast 43 rfl) ks_256 ?_
  refine g_icmp_ge (dk D_X9_layLeast 44 rfl) rfl (wif_m hw (fun hw => ?_) (fun hw => ?_))
  · refine g_iinc 2 (dk D_X9_layLeast 80 rfl) rfl (congrArg (fun z => _ + z) ki_m1) (by decide) rfl ?_
    refine g_goto (dk D_X9_layLeast 81 rfl) rfl ?_
    refine g_sub [1, 2, 0] rfl ?_
    exact hK64 ((v2 + (-1 : Int32)), h) hw
  · refine g_iload_n 3 (dk D_X9_layLeast 45 rfl) rfl rfl ?_
    refine g_iload_n 1 (dk D_X9_layLeast 46 rfl) rfl rfl ?_
    refine g_iconst (dk D_X9_layLeast 47 rfl) ki_m1 ?_
    refine g_ixor (dk D_X9_layLeast 48 rfl) ?_
    refine g_iand (dk D_X9_layLeast 49 rfl) ?_
    refine g_if_eq (dk D_X9_layLeast 50 rfl) rfl (wif_m hw (fun hw => ?_) (fun hw => ?_))
    · refine g_iconst (dk D_X9_layLeast 52 rfl) ki_0 ?_
      refine g_istore (dk D_X9_layLeast 53 rfl) (by decide) rfl ?_
      refine g_sub [1, 2, 3, 4, 0] rfl ?_
      exact t_X9_layLeast_b91 p1 (v2) (v3) K64 K70 Q ((0 : Int32), h) hK64 hK70 hw
    · refine g_goto (dk D_X9_layLeast 51 rfl) rfl ?_
      exact t_X9_layLeast_b132 p1 (v2) (v3) K64 K70 (h) Q hK64 hK70 hw
theorem t_X9_layLeast_b70 {X : Cx} (p1 : Int32) (v2 : Int32) (K64 : Int32 × Hp → Prop) (Q : Hp → Prop) (s : Int32 × Hp) (hK64 : ∀ s : Int32 × Hp, K64 s → G X M_X9_layLeast E_X9_layLeast (QM X E_X9_layLeast (QV Q) Qn) 0 64 [(0, .ref (92)), (1, .int (p1)), (2, .int (s.1))] [] (s.2)) (hw : w_X9_layLeast_b70 p1 v2 K64 Q s) : G X M_X9_layLeast E_X9_layLeast (QM X E_X9_layLeast (QV Q) Qn) 0 70 [(0, .ref (92)), (1, .int (p1)), (2, .int (v2)), (3, .int (s.1))] [] (s.2) :=
  wl_ind (B := fun K s => w_X9_layLeast_l70 p1 v2 K64 Q K (s.1) (s.2)) (P := fun s => G X M_X9_layLeast E_X9_layLeast (QM X E_X9_layLeast (QV Q) Qn) 0 70 [(0, .ref (92)), (1, .int (p1)), (2, .int (v2)), (3, .int (s.1))] [] (s.2)) (fun K hK s hw => t_X9_layLeast_l70 p1 v2 K64 Q K (s.1) (s.2) hK64 hK hw) s hw
theorem t_X9_layLeast_l64 {X : Cx} (p1 : Int32) (Q : Hp → Prop) (K64 : Int32 × Hp → Prop) (v2 : Int32) (h : Hp) (hK64 : ∀ s : Int32 × Hp, K64 s → G X M_X9_layLeast E_X9_layLeast (QM X E_X9_layLeast (QV Q) Qn) 0 64 [(0, .ref (92)), (1, .int (p1)), (2, .int (s.1))] [] (s.2)) (hw : w_X9_layLeast_l64 p1 Q K64 v2 h) : G X M_X9_layLeast E_X9_layLeast (QM X E_X9_layLeast (QV Q) Qn) 0 64 [(0, .ref (92)), (1, .int (p1)), (2, .int (v2))] [] h := by
  unfold w_X9_layLeast_l64 at hw
  refine g_iload_n 2 (dk D_X9_layLeast 38 rfl) rfl rfl ?_
  refine g_if_lt (dk D_X9_layLeast 39 rfl) rfl (wif_m hw (fun hw => ?_) (fun hw => ?_))
  · exact g_vret (dk D_X9_layLeast 82 rfl) rfl ⟨rfl, hw⟩
  · refine g_iconst (dk D_X9_layLeast 40 rfl) ki_0 ?_
    refine g_istore_n (dk D_X9_layLeast 41 rfl) rfl (by decide) rfl ?_
    refine g_sub [1, 2, 3, 0] rfl ?_
    exact t_X9_layLeast_b70 p1 (v2) K64 Q ((0 : Int32), h) hK64 hw
theorem t_X9_layLeast_b64 {X : Cx} (p1 : Int32) (Q : Hp → Prop) (s : Int32 × Hp) (hw : w_X9_layLeast_b64 p1 Q s) : G X M_X9_layLeast E_X9_layLeast (QM X E_X9_layLeast (QV Q) Qn) 0 64 [(0, .ref (92)), (1, .int (p1)), (2, .int (s.1))] [] (s.2) :=
  wl_ind (B := fun K s => w_X9_layLeast_l64 p1 Q K (s.1) (s.2)) (P := fun s => G X M_X9_layLeast E_X9_layLeast (QM X E_X9_layLeast (QV Q) Qn) 0 64 [(0, .ref (92)), (1, .int (p1)), (2, .int (s.1))] [] (s.2)) (fun K hK s hw => t_X9_layLeast_l64 p1 Q K (s.1) (s.2) hK hw) s hw
theorem t_X9_layLeast_l11 {X : Cx} (p1 : Int32) (v2 : Int32) (K2 : Int32 × Hp → Prop) (Q : Hp → Prop) (K11 : Int32 × Hp → Prop) (v3 : Int32) (h : Hp) (hK2 : ∀ s : Int32 × Hp, K2 s → G X M_X9_layLeast E_X9_layLeast (QM X E_X9_layLeast (QV Q) Qn) 0 2 [(0, .ref (92)), (1, .int (p1)), (2, .int (s.1))] [] (s.2)) (hK11 : ∀ s : Int32 × Hp, K11 s → G X M_X9_layLeast E_X9_layLeast (QM X E_X9_layLeast (QV Q) Qn) 0 11 [(0, .ref (92)), (1, .int (p1)), (2, .int (v2)), (3, .int (s.1))] [] (s.2)) (hw : w_X9_layLeast_l11 p1 v2 K2 Q K11 v3 h) : G X M_X9_layLeast E_X9_layLeast (QM X E_X9_layLeast (QV Q) Qn) 0 11 [(0, .ref (92)), (1, .int (p1)), (2, .int (v2)), (3, .int (v3))] [] h := by
  unfold w_X9_layLeast_l11 at hw
  refine g_iload_n 3 (dk D_X9_layLeast 7 rfl) rfl rfl ?_
  refine g_bipush (dk D_X9_layLeast 8 rfl) kb_9 ?_
  refine g_icmp_ge (dk D_X9_layLeast 9 rfl) rfl (wif_m hw (fun hw => ?_) (fun hw => ?_))
  · refine g_iinc 2 (dk D_X9_layLeast 31 rfl) rfl (congrArg (fun z => _ + z) ki_1) (by decide) rfl ?_
    refine g_goto (dk D_X9_layLeast 32 rfl) rfl ?_
    refine g_sub [1, 2, 0] rfl ?_
    exact hK2 ((v2 + (1 : Int32)), h) hw
  · refine g_aload_n 0 (dk D_X9_layLeast 10 rfl) rfl rfl ?_
    refine g_getR 40 (t := 1362) (dk D_X9_layLeast 11 rfl) kd_92 rfl rfl (by decide) w_1397 rfl rfl rfl ?_
    refine g_aload_n 0 (dk D_X9_layLeast 12 rfl) rfl rfl ?_
    refine g_getI 43 (dk D_X9_layLeast 13 rfl) kd_92 rfl rfl (by decide) w_1400 rfl rfl ?_
    obtain ⟨hi1, hw⟩ := hw
    refine g_aald (dk D_X9_layLeast 14 rfl) kd_1362 rfl rfl hi1 ?_
    refine g_bipush (dk D_X9_layLeast 15 rfl) kb_9 ?_
    refine g_iload_n 2 (dk D_X9_layLeast 16 rfl) rfl rfl ?_
    refine g_imul (dk D_X9_layLeast 17 rfl) ?_
    refine g_iload_n 3 (dk D_X9_layLeast 18 rfl) rfl rfl ?_
    refine g_iadd (dk D_X9_layLeast 19 rfl) ?_
    refine g_ldcw (dk D_X9_layLeast 20 rfl) w_1789 ?_
    refine g_iload_n 1 (dk D_X9_layLeast 21 rfl) rfl rfl ?_
    refine g_iload_n 2 (dk D_X9_layLeast 22 rfl) rfl rfl ?_
    refine g_iconst (dk D_X9_layLeast 23 rfl) ki_m1 ?_
    refine g_ixor (dk D_X9_layLeast 24 rfl) ?_
    refine g_iand (dk D_X9_layLeast 25 rfl) ?_
    refine g_callS (As := [.int ((p1 &&& (v2 ^^^ (-1 : Int32))))]) (kc := 0) (fr := 0) (lo := 0) (mc := 0) (My := M_X9_ones) (dk D_X9_layLeast 26 rfl) w_1790 w_1791 w_110 w_1792 okD_X9_ones (by decide) (Nat.le_of_ble_eq_true rfl) rfl (c_X9_ones ((p1 &&& (v2 ^^^ (-1 : Int32)))) (h) _ hw) kxN (kIp (fun z2 hw => ?_))
    refine g_imul (dk D_X9_layLeast 27 rfl) ?_
    obtain ⟨hi3, hw⟩ := hw
    refine g_iast (dk D_X9_layLeast 28 rfl) (kdf_1362 _ (in_lt hi1)) hi3 ?_
    refine g_heap (fun h4 eh4 => ?_)
    replace hw := hw _ eh4
    refine g_iinc 3 (dk D_X9_layLeast 29 rfl) rfl (congrArg (fun z => _ + z) ki_1) (by decide) rfl ?_
    refine g_goto (dk D_X9_layLeast 30 rfl) rfl ?_
    refine g_sub [1, 2, 3, 0] rfl ?_
    exact hK11 ((v3 + (1 : Int32)), h4) hw
theorem t_X9_layLeast_b11 {X : Cx} (p1 : Int32) (v2 : Int32) (K2 : Int32 × Hp → Prop) (Q : Hp → Prop) (s : Int32 × Hp) (hK2 : ∀ s : Int32 × Hp, K2 s → G X M_X9_layLeast E_X9_layLeast (QM X E_X9_layLeast (QV Q) Qn) 0 2 [(0, .ref (92)), (1, .int (p1)), (2, .int (s.1))] [] (s.2)) (hw : w_X9_layLeast_b11 p1 v2 K2 Q s) : G X M_X9_layLeast E_X9_layLeast (QM X E_X9_layLeast (QV Q) Qn) 0 11 [(0, .ref (92)), (1, .int (p1)), (2, .int (v2)), (3, .int (s.1))] [] (s.2) :=
  wl_ind (B := fun K s => w_X9_layLeast_l11 p1 v2 K2 Q K (s.1) (s.2)) (P := fun s => G X M_X9_layLeast E_X9_layLeast (QM X E_X9_layLeast (QV Q) Qn) 0 11 [(0, .ref (92)), (1, .int (p1)), (2, .int (v2)), (3, .int (s.1))] [] (s.2)) (fun K hK s hw => t_X9_layLeast_l11 p1 v2 K2 Q K (s.1) (s.2) hK2 hK hw) s hw
theorem t_X9_layLeast_l2 {X : Cx} (p1 : Int32) (Q : Hp → Prop) (K2 : Int32 × Hp → Prop) (v2 : Int32) (h : Hp) (hK2 : ∀ s : Int32 × Hp, K2 s → G X M_X9_layLeast E_X9_layLeast (QM X E_X9_layLeast (QV Q) Qn) 0 2 [(0, .ref (92)), (1, .int (p1)), (2, .int (s.1))] [] (s.2)) (hw : w_X9_layLeast_l2 p1 Q K2 v2 h) : G X M_X9_layLeast E_X9_layLeast (QM X E_X9_layLeast (QV Q) Qn) 0 2 [(0, .ref (92)), (1, .int (p1)), (2, .int (v2))] [] h := by
  unfold w_X9_layLeast_l2 at hw
  refine g_iload_n 2 (dk D_X9_layLeast 2 rfl) rfl rfl ?_
  refine g_sipush (dk D_X9_layLeast 3 rfl) ks_256 ?_
  refine g_icmp_ge (dk D_X9_layLeast 4 rfl) rfl (wif_m hw (fun hw => ?_) (fun hw => ?_))
  · refine g_aload_n 0 (dk D_X9_layLeast 33 rfl) rfl rfl ?_
    refine g_getI 43 (dk D_X9_layLeast 34 rfl) kd_92 rfl rfl (by decide) w_1400 rfl rfl ?_
    refine g_iconst (dk D_X9_layLeast 35 rfl) ki_1 ?_
    refine g_isub (dk D_X9_layLeast 36 rfl) ?_
    refine g_topi (fun v2_1 ev2_1 => ?_)
    replace hw := hw _ ev2_1
    refine g_istore_n (dk D_X9_layLeast 37 rfl) rfl (by decide) rfl ?_
    refine g_sub [1, 2, 0] rfl ?_
    exact t_X9_layLeast_b64 p1 Q (v2_1, h) hw
  · refine g_iconst (dk D_X9_layLeast 5 rfl) ki_0 ?_
    refine g_istore_n (dk D_X9_layLeast 6 rfl) rfl (by decide) rfl ?_
    refine g_sub [1, 2, 3, 0] rfl ?_
    exact t_X9_layLeast_b11 p1 (v2) K2 Q ((0 : Int32), h) hK2 hw
theorem t_X9_layLeast_b2 {X : Cx} (p1 : Int32) (Q : Hp → Prop) (s : Int32 × Hp) (hw : w_X9_layLeast_b2 p1 Q s) : G X M_X9_layLeast E_X9_layLeast (QM X E_X9_layLeast (QV Q) Qn) 0 2 [(0, .ref (92)), (1, .int (p1)), (2, .int (s.1))] [] (s.2) :=
  wl_ind (B := fun K s => w_X9_layLeast_l2 p1 Q K (s.1) (s.2)) (P := fun s => G X M_X9_layLeast E_X9_layLeast (QM X E_X9_layLeast (QV Q) Qn) 0 2 [(0, .ref (92)), (1, .int (p1)), (2, .int (s.1))] [] (s.2)) (fun K hK s hw => t_X9_layLeast_l2 p1 Q K (s.1) (s.2) hK hw) s hw
theorem t_X9_layLeast {X : Cx} (p1 : Int32) (h : Hp) (Q : Hp → Prop) (hw : w_X9_layLeast p1 h Q) : G X M_X9_layLeast E_X9_layLeast (QM X E_X9_layLeast (QV Q) Qn) 0 0 [(0, .ref (92)), (1, .int (p1))] [] h := by
  unfold w_X9_layLeast at hw
  refine g_iconst (dk D_X9_layLeast 0 rfl) ki_0 ?_
  refine g_istore_n (dk D_X9_layLeast 1 rfl) rfl (by decide) rfl ?_
  refine g_sub [1, 2, 0] rfl ?_
  exact t_X9_layLeast_b2 p1 Q ((0 : Int32), h) hw
theorem c_X9_layLeast {X : Cx} (p1 : Int32) (h : Hp) (Q : Hp → Prop) (hw : w_X9_layLeast p1 h Q) : Con X yX9_layLeast M_X9_layLeast 3 94 0 [.ref (92), .int (p1)] h (QV Q) Qn :=
  con_of (by decide +kernel) rfl (Nat.le_of_ble_eq_true rfl) (t_X9_layLeast p1 h Q hw)
