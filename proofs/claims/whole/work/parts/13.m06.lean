/-! ShadowTolls.ledger(II)I -/
abbrev M_X8_ledger : Mi := (RX8, cX8_ledger, 3, (some .int))
abbrev E_X8_ledger : Rm := (7, 112, 2, 12)
def rows_X8_ledger : List (Nat × Instr × Nat) := [(0, .iload_n 1, 1), (1, .invokestatic 199, 3), (4, .iload_n 2, 1), (5, .iconst 0, 1), (6, .sipush 9999, 3), (9, .invokestatic 106, 3), (12, .aload_n 0, 1), (13, .getfield 82, 3), (16, .getfield 303, 3), (19, .bipush 10, 2), (21, .if_icmp .lt 5, 3), (24, .iconst (-1), 1), (25, .ireturn, 1), (26, .aload_n 0, 1), (27, .getfield 82, 3), (30, .iload_n 1, 1), (31, .iload_n 2, 1), (32, .invokevirtual 306, 3), (35, .aload_n 0, 1), (36, .getfield 82, 3), (39, .getfield 303, 3), (42, .ireturn, 1)]
theorem D_X8_ledger : dkA cX8_ledger rows_X8_ledger := by
  unfold dkA
  decide +kernel
theorem okD_X8_ledger : okD yX8_ledger 2 := by
  unfold okD
  decide +kernel
def w_X8_ledger (p1 : Int32) (p2 : Int32) (h : Hp) (Q : Int32 → Hp → Prop) (Qx : String → Hp → Prop) : Prop :=
  w_X8_needMinute (p1) h (w_X8_needBetween (p2) ((0 : Int32)) ((9999 : Int32)) h (wif ((h 62 7) < (10 : Int32)) (w_X3_addLedgerRow 62 (p1) (p2) h (fun h1 => Q (h1 62 7) h1)) (Q (-1 : Int32) h)) Qx) Qx
theorem t_X8_ledger {X : Cx} (p1 : Int32) (p2 : Int32) (h : Hp) (Q : Int32 → Hp → Prop) (Qx : String → Hp → Prop) (hw : w_X8_ledger p1 p2 h Q Qx) : G X M_X8_ledger E_X8_ledger (QM X E_X8_ledger (QI Q) Qx) 2 0 [(0, .ref (0)), (1, .int (p1)), (2, .int (p2))] [] h := by
  unfold w_X8_ledger at hw
  refine g_iload_n 1 (dk D_X8_ledger 0 rfl) rfl rfl ?_
  refine g_callS (As := [.int (p1)]) (kc := 1) (fr := 6) (lo := 82) (mc := 1) (My := M_X8_needMinute) (dk D_X8_ledger 1 rfl) w_1071 w_1072 w_101 w_1073 okD_X8_needMinute (by decide) (Nat.le_of_ble_eq_true rfl) rfl (c_X8_needMinute (p1) (h) _ _ hw) kxT (kVp (fun hw => ?_))
  refine g_iload_n 2 (dk D_X8_ledger 2 rfl) rfl rfl ?_
  refine g_iconst (dk D_X8_ledger 3 rfl) ki_0 ?_
  refine g_sipush (dk D_X8_ledger 4 rfl) ks_9999 ?_
  refine g_callS (As := [.int (p2), .int ((0 : Int32)), .int ((9999 : Int32))]) (kc := 0) (fr := 6) (lo := 82) (mc := 1) (My := M_X8_needBetween) (dk D_X8_ledger 5 rfl) w_703 w_704 w_101 w_705 okD_X8_needBetween (by decide) (Nat.le_of_ble_eq_true rfl) rfl (c_X8_needBetween (p2) ((0 : Int32)) ((9999 : Int32)) (h) _ _ hw) kxT (kVp (fun hw => ?_))
  refine g_aload_n 0 (dk D_X8_ledger 6 rfl) rfl rfl ?_
  refine g_getR 11 (t := 62) (dk D_X8_ledger 7 rfl) kd_0 rfl rfl (by decide) w_445 rfl rfl rfl ?_
  refine g_getNI 7 (dk D_X8_ledger 8 rfl) recP_62.1 rfl rfl (by decide) w_415 rfl rfl ?_
  refine g_bipush (dk D_X8_ledger 9 rfl) kb_10 ?_
  refine g_icmp_lt (dk D_X8_ledger 10 rfl) rfl (wif_m hw (fun hw => ?_) (fun hw => ?_))
  · refine g_aload_n 0 (dk D_X8_ledger 13 rfl) rfl rfl ?_
    refine g_getR 11 (t := 62) (dk D_X8_ledger 14 rfl) kd_0 rfl rfl (by decide) w_445 rfl rfl rfl ?_
    refine g_iload_n 1 (dk D_X8_ledger 15 rfl) rfl rfl ?_
    refine g_iload_n 2 (dk D_X8_ledger 16 rfl) rfl rfl ?_
    refine g_callV (As := [.int (p1), .int (p2)]) (kc := 0) (fr := 1) (lo := 30) (mc := 0) (My := M_X3_addLedgerRow) (dk D_X8_ledger 17 rfl) recP_62.1 rfl rfl w_1296 w_1297 w_1298 w_109 w_1299 okD_X3_addLedgerRow (by decide) (Nat.le_of_ble_eq_true rfl) rfl (c_X3_addLedgerRow 62 (p1) (p2) (recP_62) (h) _ hw) kxN (kV (fun h1 hw => ?_))
    refine g_aload_n 0 (dk D_X8_ledger 18 rfl) rfl rfl ?_
    refine g_getR 11 (t := 62) (dk D_X8_ledger 19 rfl) kd_0 rfl rfl (by decide) w_445 rfl rfl rfl ?_
    refine g_getNI 7 (dk D_X8_ledger 20 rfl) recP_62.1 rfl rfl (by decide) w_415 rfl rfl ?_
    exact g_iret (dk D_X8_ledger 21 rfl) rfl ⟨_, rfl, hw⟩
  · refine g_iconst (dk D_X8_ledger 11 rfl) ki_m1 ?_
    exact g_iret (dk D_X8_ledger 12 rfl) rfl ⟨_, rfl, hw⟩
theorem c_X8_ledger {X : Cx} (p1 : Int32) (p2 : Int32) (h : Hp) (Q : Int32 → Hp → Prop) (Qx : String → Hp → Prop) (hw : w_X8_ledger p1 p2 h Q Qx) : Con X yX8_ledger M_X8_ledger 7 112 2 [.ref (0), .int (p1), .int (p2)] h (QI Q) Qx :=
  con_of (by decide +kernel) rfl (Nat.le_of_ble_eq_true rfl) (t_X8_ledger p1 p2 h Q Qx hw)
/-! ShadowTolls.forget()I -/
abbrev M_X8_forget : Mi := (RX8, cX8_forget, 2, (some .int))
abbrev E_X8_forget : Rm := (0, 0, 0, 0)
def rows_X8_forget : List (Nat × Instr × Nat) := [(0, .aload_n 0, 1), (1, .getfield 82, 3), (4, .getfield 303, 3), (7, .istore_n 1, 1), (8, .aload_n 0, 1), (9, .getfield 82, 3), (12, .iconst 0, 1), (13, .putfield 303, 3), (16, .iload_n 1, 1), (17, .ireturn, 1)]
theorem D_X8_forget : dkA cX8_forget rows_X8_forget := by
  unfold dkA
  decide +kernel
theorem okD_X8_forget : okD yX8_forget 0 := by
  unfold okD
  decide +kernel
def w_X8_forget (h : Hp) (Q : Int32 → Hp → Prop) : Prop :=
  wlet ((h 62 7)) (fun v1_1 => wlet (hup h 62 7 (0 : Int32)) (fun h2 => Q v1_1 h2))
theorem t_X8_forget {X : Cx} (h : Hp) (Q : Int32 → Hp → Prop) (hw : w_X8_forget h Q) : G X M_X8_forget E_X8_forget (QM X E_X8_forget (QI Q) Qn) 0 0 [(0, .ref (0))] [] h := by
  unfold w_X8_forget at hw
  refine g_aload_n 0 (dk D_X8_forget 0 rfl) rfl rfl ?_
  refine g_getR 11 (t := 62) (dk D_X8_forget 1 rfl) kd_0 rfl rfl (by decide) w_445 rfl rfl rfl ?_
  refine g_getNI 7 (dk D_X8_forget 2 rfl) recP_62.1 rfl rfl (by decide) w_415 rfl rfl ?_
  refine g_topi (fun v1_1 ev1_1 => ?_)
  replace hw := hw _ ev1_1
  refine g_istore_n (dk D_X8_forget 3 rfl) rfl (by decide) rfl ?_
  refine g_aload_n 1 (dk D_X8_forget 4 rfl) rfl rfl ?_
  refine g_getR 11 (t := 62) (dk D_X8_forget 5 rfl) kd_0 rfl rfl (by decide) w_445 rfl rfl rfl ?_
  refine g_iconst (dk D_X8_forget 6 rfl) ki_0 ?_
  refine g_putN 7 (dk D_X8_forget 7 rfl) recP_62.1 rfl rfl (by decide) w_415 rfl tyX3_ok nmX3 rfl (by decide) rfl (fun z => absurd z (by decide)) ?_
  refine g_heap (fun h2 eh2 => ?_)
  replace hw := hw _ eh2
  refine g_iload_n 0 (dk D_X8_forget 8 rfl) rfl rfl ?_
  exact g_iret (dk D_X8_forget 9 rfl) rfl ⟨_, rfl, hw⟩
theorem c_X8_forget {X : Cx} (h : Hp) (Q : Int32 → Hp → Prop) (hw : w_X8_forget h Q) : Con X yX8_forget M_X8_forget 0 0 0 [.ref (0)] h (QI Q) Qn :=
  con_of (by decide +kernel) rfl (Nat.le_of_ble_eq_true rfl) (t_X8_forget h Q hw)
/-! ShadowTolls.paysLedger(LShadowTolls$Law;III)Z -/
abbrev M_X8_paysLedger : Mi := (RX8, cX8_paysLedger, 8, (some .boolean))
abbrev E_X8_paysLedger : Rm := (3, 97, 0, 0)
def rows_X8_paysLedger : List (Nat × Instr × Nat) := [(0, .iconst 0, 1), (1, .istore 5, 2), (3, .iload 5, 2), (5, .aload_n 0, 1), (6, .getfield 82, 3), (9, .getfield 303, 3), (12, .if_icmp .ge 69, 3), (15, .aload_n 0, 1), (16, .getfield 82, 3), (19, .getfield 390, 3), (22, .iload 5, 2), (24, .invokestatic 189, 3), (27, .istore 6, 2), (29, .aload_n 0, 1), (30, .getfield 19, 3), (33, .iconst 0, 1), (34, .iload_n 2, 1), (35, .iload 6, 2), (37, .invokevirtual 202, 3), (40, .istore 7, 2), (42, .aload_n 0, 1), (43, .getfield 19, 3), (46, .aload_n 1, 1), (47, .iload 7, 2), (49, .iload_n 3, 1), (50, .iload 4, 2), (52, .iload_n 2, 1), (53, .iload 6, 2), (55, .invokevirtual 393, 3), (58, .aload_n 0, 1), (59, .getfield 82, 3), (62, .getfield 397, 3), (65, .iload 5, 2), (67, .invokestatic 189, 3), (70, .if_icmp .eq 5, 3), (73, .iconst 0, 1), (74, .ireturn, 1), (75, .iinc 5 1, 3), (78, .goto (-75), 3), (81, .iconst 1, 1), (82, .ireturn, 1)]
theorem D_X8_paysLedger : dkA cX8_paysLedger rows_X8_paysLedger := by
  unfold dkA
  decide +kernel
theorem okD_X8_paysLedger : okD yX8_paysLedger 4 := by
  unfold okD
  decide +kernel
def w_X8_paysLedger_l3 (r1 : Nat) (p2 : Int32) (p3 : Int32) (p4 : Int32) (Q : Int32 → Hp → Prop) (K3 : Int32 × Hp → Prop) (v5 : Int32) (h : Hp) : Prop :=
  wif ((h 62 7) ≤ v5) (Q ((1 : Int32) &&& 1) h) (w_X8_at 67 10 (v5) h (fun z1 => w_X4_altitudeAt 3 ((0 : Int32)) (p2) (z1) h (fun z2 => w_X4_charge 3 r1 (z2) (p3) (p4) (p2) (z1) h (fun z3 h4 => w_X8_at 68 10 (v5) h4 (fun z5 => wif (z3 = z5) (K3 ((v5 + (1 : Int32)), h4)) (Q ((0 : Int32) &&& 1) h4))))))
def w_X8_paysLedger_b3 (r1 : Nat) (p2 : Int32) (p3 : Int32) (p4 : Int32) (Q : Int32 → Hp → Prop) (s : Int32 × Hp) : Prop := wl (fun K s => w_X8_paysLedger_l3 r1 p2 p3 p4 Q K s.1 s.2) s
def w_X8_paysLedger (r1 : Nat) (p2 : Int32) (p3 : Int32) (p4 : Int32) (h : Hp) (Q : Int32 → Hp → Prop) : Prop :=
  w_X8_paysLedger_b3 r1 p2 p3 p4 Q ((0 : Int32), h)
theorem t_X8_paysLedger_l3 {X : Cx} (r1 : Nat) (p2 : Int32) (p3 : Int32) (p4 : Int32) (Q : Int32 → Hp → Prop) (K3 : Int32 × Hp → Prop) (v5 : Int32) (h : Hp) (hr1 : LawP r1) (hK3 : ∀ s : Int32 × Hp, K3 s → G X M_X8_paysLedger E_X8_paysLedger (QM X E_X8_paysLedger (QI Q) Qn) 0 3 [(0, .ref (0)), (1, .ref (r1)), (2, .int (p2)), (3, .int (p3)), (4, .int (p4)), (5, .int (s.1))] [] (s.2)) (hw : w_X8_paysLedger_l3 r1 p2 p3 p4 Q K3 v5 h) : G X M_X8_paysLedger E_X8_paysLedger (QM X E_X8_paysLedger (QI Q) Qn) 0 3 [(0, .ref (0)), (1, .ref (r1)), (2, .int (p2)), (3, .int (p3)), (4, .int (p4)), (5, .int (v5))] [] h := by
  unfold w_X8_paysLedger_l3 at hw
  refine g_iload 5 (dk D_X8_paysLedger 2 rfl) rfl ?_
  refine g_aload_n 0 (dk D_X8_paysLedger 3 rfl) rfl rfl ?_
  refine g_getR 11 (t := 62) (dk D_X8_paysLedger 4 rfl) kd_0 rfl rfl (by decide) w_445 rfl rfl rfl ?_
  refine g_getNI 7 (dk D_X8_paysLedger 5 rfl) recP_62.1 rfl rfl (by decide) w_415 rfl rfl ?_
  refine g_icmp_ge (dk D_X8_paysLedger 6 rfl) rfl (wif_m hw (fun hw => ?_) (fun hw => ?_))
  · refine g_iconst (dk D_X8_paysLedger 39 rfl) ki_1 ?_
    exact g_zret (dk D_X8_paysLedger 40 rfl) rfl ⟨_, rfl, hw⟩
  · refine g_aload_n 0 (dk D_X8_paysLedger 7 rfl) rfl rfl ?_
    refine g_getR 11 (t := 62) (dk D_X8_paysLedger 8 rfl) kd_0 rfl rfl (by decide) w_445 rfl rfl rfl ?_
    refine g_getNR 4 (t := 67) (dk D_X8_paysLedger 9 rfl) recP_62.1 rfl rfl (by decide) w_409 rfl rfl rfl ?_
    refine g_iload 5 (dk D_X8_paysLedger 10 rfl) rfl ?_
    refine g_callS (As := [.ref (67), .int (v5)]) (kc := 0) (fr := 0) (lo := 0) (mc := 0) (My := M_X8_at) (dk D_X8_paysLedger 11 rfl) w_517 w_518 w_101 w_519 okD_X8_at (by decide) (Nat.le_of_ble_eq_true rfl) rfl (c_X8_at 67 10 (v5) (kd_67) (h) _ hw) kxN (kIp (fun z1 hw => ?_))
    refine g_istore (dk D_X8_paysLedger 12 rfl) (by decide) rfl ?_
    refine g_aload_n 1 (dk D_X8_paysLedger 13 rfl) rfl rfl ?_
    refine g_getR 1 (t := 3) (dk D_X8_paysLedger 14 rfl) kd_0 rfl rfl (by decide) w_435 rfl rfl rfl ?_
    refine g_iconst (dk D_X8_paysLedger 15 rfl) ki_0 ?_
    refine g_iload_n 3 (dk D_X8_paysLedger 16 rfl) rfl rfl ?_
    refine g_iload 0 (dk D_X8_paysLedger 17 rfl) rfl ?_
    refine g_callV (As := [.int ((0 : Int32)), .int (p2), .int (z1)]) (kc := 0) (fr := 1) (lo := 30) (mc := 0) (My := M_X4_altitudeAt) (dk D_X8_paysLedger 18 rfl) roadP_3.1 rfl rfl w_1075 w_576 w_577 w_103 w_578 okD_X4_altitudeAt (by decide) (Nat.le_of_ble_eq_true rfl) rfl (c_X4_altitudeAt 3 ((0 : Int32)) (p2) (z1) (roadP_3) (h) _ hw) kxN (kIp (fun z2 hw => ?_))
    refine g_istore (dk D_X8_paysLedger 19 rfl) (by decide) rfl ?_
    refine g_aload_n 2 (dk D_X8_paysLedger 20 rfl) rfl rfl ?_
    refine g_getR 1 (t := 3) (dk D_X8_paysLedger 21 rfl) kd_0 rfl rfl (by decide) w_435 rfl rfl rfl ?_
    refine g_aload_n 3 (dk D_X8_paysLedger 22 rfl) rfl rfl ?_
    refine g_iload 0 (dk D_X8_paysLedger 23 rfl) rfl ?_
    refine g_iload_n 5 (dk D_X8_paysLedger 24 rfl) rfl rfl ?_
    refine g_iload 6 (dk D_X8_paysLedger 25 rfl) rfl ?_
    refine g_iload_n 4 (dk D_X8_paysLedger 26 rfl) rfl rfl ?_
    refine g_iload 1 (dk D_X8_paysLedger 27 rfl) rfl ?_
    refine g_callV (As := [.ref (r1), .int (z2), .int (p3), .int (p4), .int (p2), .int (z1)]) (kc := 0) (fr := 2) (lo := 63) (mc := 0) (My := M_X4_charge) (dk D_X8_paysLedger 28 rfl) roadP_3.1 rfl rfl w_1311 w_584 w_585 w_103 w_586 okD_X4_charge (by decide) (Nat.le_of_ble_eq_true rfl) rfl (c_X4_charge 3 r1 (z2) (p3) (p4) (p2) (z1) (roadP_3) (hr1) (h) _ hw) kxN (kI (fun z3 h4 hw => ?_))
    refine g_aload_n 2 (dk D_X8_paysLedger 29 rfl) rfl rfl ?_
    refine g_getR 11 (t := 62) (dk D_X8_paysLedger 30 rfl) kd_0 rfl rfl (by decide) w_445 rfl rfl rfl ?_
    refine g_getNR 5 (t := 68) (dk D_X8_paysLedger 31 rfl) recP_62.1 rfl rfl (by decide) w_411 rfl rfl rfl ?_
    refine g_iload 7 (dk D_X8_paysLedger 32 rfl) rfl ?_
    refine g_callS (As := [.ref (68), .int (v5)]) (kc := 0) (fr := 0) (lo := 0) (mc := 0) (My := M_X8_at) (dk D_X8_paysLedger 33 rfl) w_517 w_518 w_101 w_519 okD_X8_at (by decide) (Nat.le_of_ble_eq_true rfl) rfl (c_X8_at 68 10 (v5) (kd_68) (h4) _ hw) kxN (kIp (fun z5 hw => ?_))
    refine g_icmp_eq (dk D_X8_paysLedger 34 rfl) rfl (wif_m hw (fun hw => ?_) (fun hw => ?_))
    · refine g_iinc 7 (dk D_X8_paysLedger 37 rfl) rfl (congrArg (fun z => _ + z) ki_1) (by decide) rfl ?_
      refine g_goto (dk D_X8_paysLedger 38 rfl) rfl ?_
      refine g_sub [3, 4, 5, 6, 7, 0] rfl ?_
      exact hK3 ((v5 + (1 : Int32)), h4) hw
    · refine g_iconst (dk D_X8_paysLedger 35 rfl) ki_0 ?_
      exact g_zret (dk D_X8_paysLedger 36 rfl) rfl ⟨_, rfl, hw⟩
theorem t_X8_paysLedger_b3 {X : Cx} (r1 : Nat) (p2 : Int32) (p3 : Int32) (p4 : Int32) (Q : Int32 → Hp → Prop) (s : Int32 × Hp) (hr1 : LawP r1) (hw : w_X8_paysLedger_b3 r1 p2 p3 p4 Q s) : G X M_X8_paysLedger E_X8_paysLedger (QM X E_X8_paysLedger (QI Q) Qn) 0 3 [(0, .ref (0)), (1, .ref (r1)), (2, .int (p2)), (3, .int (p3)), (4, .int (p4)), (5, .int (s.1))] [] (s.2) :=
  wl_ind (B := fun K s => w_X8_paysLedger_l3 r1 p2 p3 p4 Q K (s.1) (s.2)) (P := fun s => G X M_X8_paysLedger E_X8_paysLedger (QM X E_X8_paysLedger (QI Q) Qn) 0 3 [(0, .ref (0)), (1, .ref (r1)), (2, .int (p2)), (3, .int (p3)), (4, .int (p4)), (5, .int (s.1))] [] (s.2)) (fun K hK s hw => t_X8_paysLedger_l3 r1 p2 p3 p4 Q K (s.1) (s.2) hr1 hK hw) s hw
theorem t_X8_paysLedger {X : Cx} (r1 : Nat) (p2 : Int32) (p3 : Int32) (p4 : Int32) (h : Hp) (Q : Int32 → Hp → Prop) (hr1 : LawP r1) (hw : w_X8_paysLedger r1 p2 p3 p4 h Q) : G X M_X8_paysLedger E_X8_paysLedger (QM X E_X8_paysLedger (QI Q) Qn) 0 0 [(0, .ref (0)), (1, .ref (r1)), (2, .int (p2)), (3, .int (p3)), (4, .int (p4))] [] h := by
  unfold w_X8_paysLedger at hw
  refine g_iconst (dk D_X8_paysLedger 0 rfl) ki_0 ?_
  refine g_istore (dk D_X8_paysLedger 1 rfl) (by decide) rfl ?_
  refine g_sub [1, 2, 3, 4, 5, 0] rfl ?_
  exact t_X8_paysLedger_b3 r1 p2 p3 p4 Q ((0 : Int32), h) hr1 hw
theorem c_X8_paysLedger {X : Cx} (r1 : Nat) (p2 : Int32) (p3 : Int32) (p4 : Int32) (hr1 : LawP r1) (h : Hp) (Q : Int32 → Hp → Prop) (hw : w_X8_paysLedger r1 p2 p3 p4 h Q) : Con X yX8_paysLedger M_X8_paysLedger 3 97 0 [.ref (0), .ref (r1), .int (p2), .int (p3), .int (p4)] h (QI Q) Qn :=
  con_of (by decide +kernel) rfl (Nat.le_of_ble_eq_true rfl) (t_X8_paysLedger r1 p2 p3 p4 h Q hr1 hw)
/-! ShadowTolls.fits(III)I -/
abbrev M_X8_fits : Mi := (RX8, cX8_fits, 8, (some .int))
abbrev E_X8_fits : Rm := (7, 132, 3, 18)
def rows_X8_fits : List (Nat × Instr × Nat) := [(0, .iload_n 1, 1), (1, .iconst 0, 1), (2, .aload_n 0, 1), (3, .getfield 132, 3), (6, .iconst 1, 1), (7, .isub, 1), (8, .invokestatic 106, 3), (11, .iload_n 2, 1), (12, .iconst 1, 1), (13, .sipush 999, 3), (16, .invokestatic 106, 3), (19, .iload_n 3, 1), (20, .iconst 0, 1), (21, .iconst 1, 1), (22, .invokestatic 106, 3), (25, .aload_n 0, 1), (26, .iload_n 1, 1), (27, .invokevirtual 309, 3), (30, .astore 4, 2), (32, .iconst 0, 1), (33, .istore 5, 2), (35, .iconst 0, 1), (36, .istore 6, 2), (38, .iload 6, 2), (40, .bipush 30, 2), (42, .if_icmp .ge 59, 3), (45, .bipush 50, 2), (47, .istore 7, 2), (49, .iload 7, 2), (51, .sipush 400, 3), (54, .if_icmp .gt 41, 3), (57, .aload_n 0, 1), (58, .aload 4, 2), (60, .iload 6, 2), (62, .iload 7, 2), (64, .iload_n 2, 1), (65, .invokevirtual 312, 3), (68, .ifCond .eq 21, 3), (71, .iload_n 3, 1), (72, .iconst 1, 1), (73, .if_icmp .ne 13, 3), (76, .sipush 1000, 3), (79, .iload 6, 2), (81, .imul, 1), (82, .iload 7, 2), (84, .iadd, 1), (85, .ireturn, 1), (86, .iinc 5 1, 3), (89, .iinc 7 1, 3), (92, .goto (-43), 3), (95, .iinc 6 1, 3), (98, .goto (-60), 3), (101, .iload_n 3, 1), (102, .iconst 1, 1), (103, .if_icmp .ne 7, 3), (106, .iconst (-1), 1), (107, .goto 5, 3), (110, .iload 5, 2), (112, .ireturn, 1)]
theorem D_X8_fits : dkA cX8_fits rows_X8_fits := by
  unfold dkA
  decide +kernel
theorem okD_X8_fits : okD yX8_fits 3 := by
  unfold okD
  decide +kernel
def w_X8_fits_b89 (p1 : Int32) (p2 : Int32) (p3 : Int32) (r4v : Nat) (v5 : Int32) (v6 : Int32) (v7 : Int32) (K38 : Int32 × Int32 × Hp → Prop) (K49 : Int32 × Int32 × Hp → Prop) (h : Hp) (Q : Int32 → Hp → Prop) (Qx : String → Hp → Prop) : Prop :=
  K49 (v5, (v7 + (1 : Int32)), h)
def w_X8_fits_l49 (p1 : Int32) (p2 : Int32) (p3 : Int32) (r4v : Nat) (v6 : Int32) (K38 : Int32 × Int32 × Hp → Prop) (Q : Int32 → Hp → Prop) (Qx : String → Hp → Prop) (K49 : Int32 × Int32 × Hp → Prop) (v5 : Int32) (v7 : Int32) (h : Hp) : Prop :=
  wif ((400 : Int32) < v7) (K38 (v5, (v6 + (1 : Int32)), h)) (w_X8_paysLedger r4v (v6) (v7) (p2) h (fun z1 h2 => wif (z1 = 0) (w_X8_fits_b89 p1 p2 p3 (r4v) (v5) (v6) (v7) K38 K49 (h2) Q Qx) (wif (¬ p3 = (1 : Int32)) (w_X8_fits_b89 p1 p2 p3 (r4v) ((v5 + (1 : Int32))) (v6) (v7) K38 K49 (h2) Q Qx) (Q (((1000 : Int32) * v6) + v7) h2))))
def w_X8_fits_b49 (p1 : Int32) (p2 : Int32) (p3 : Int32) (r4v : Nat) (v6 : Int32) (K38 : Int32 × Int32 × Hp → Prop) (Q : Int32 → Hp → Prop) (Qx : String → Hp → Prop) (s : Int32 × Int32 × Hp) : Prop := wl (fun K s => w_X8_fits_l49 p1 p2 p3 r4v v6 K38 Q Qx K s.1 s.2.1 s.2.2) s
def w_X8_fits_l38 (p1 : Int32) (p2 : Int32) (p3 : Int32) (r4v : Nat) (Q : Int32 → Hp → Prop) (Qx : String → Hp → Prop) (K38 : Int32 × Int32 × Hp → Prop) (v5 : Int32) (v6 : Int32) (h : Hp) : Prop :=
  wif ((30 : Int32) ≤ v6) (Q (if ¬ p3 = (1 : Int32) then v5 else (-1 : Int32)) h) (w_X8_fits_b49 p1 p2 p3 (r4v) (v6) K38 Q Qx (v5, (50 : Int32), h))
def w_X8_fits_b38 (p1 : Int32) (p2 : Int32) (p3 : Int32) (r4v : Nat) (Q : Int32 → Hp → Prop) (Qx : String → Hp → Prop) (s : Int32 × Int32 × Hp) : Prop := wl (fun K s => w_X8_fits_l38 p1 p2 p3 r4v Q Qx K s.1 s.2.1 s.2.2) s
def w_X8_fits (p1 : Int32) (p2 : Int32) (p3 : Int32) (h : Hp) (Q : Int32 → Hp → Prop) (Qx : String → Hp → Prop) : Prop :=
  w_X8_needBetween (p1) ((0 : Int32)) (((h 0 14) - (1 : Int32))) h (w_X8_needBetween (p2) ((1 : Int32)) ((999 : Int32)) h (w_X8_needBetween (p3) ((0 : Int32)) ((1 : Int32)) h (w_X8_lawAt (p1) h (fun q1 => w_X8_fits_b38 p1 p2 p3 (q1) Q Qx ((0 : Int32), (0 : Int32), h))) Qx) Qx) Qx
theorem t_X8_fits_b89 {X : Cx} (p1 : Int32) (p2 : Int32) (p3 : Int32) (r4v : Nat) (v5 : Int32) (v6 : Int32) (v7 : Int32) (K38 : Int32 × Int32 × Hp → Prop) (K49 : Int32 × Int32 × Hp → Prop) (h : Hp) (Q : Int32 → Hp → Prop) (Qx : String → Hp → Prop) (hr4v : LawP r4v) (hK38 : ∀ s : Int32 × Int32 × Hp, K38 s → G X M_X8_fits E_X8_fits (QM X E_X8_fits (QI Q) Qx) 0 38 [(0, .ref (0)), (2, .int (p2)), (3, .int (p3)), (4, .ref (r4v)), (5, .int (s.1)), (6, .int (s.2.1))] [] (s.2.2)) (hK49 : ∀ s : Int32 × Int32 × Hp, K49 s → G X M_X8_fits E_X8_fits (QM X E_X8_fits (QI Q) Qx) 0 49 [(0, .ref (0)), (2, .int (p2)), (3, .int (p3)), (4, .ref (r4v)), (5, .int (s.1)), (6, .int (v6)), (7, .int (s.2.1))] [] (s.2.2)) (hw : w_X8_fits_b89 p1 p2 p3 r4v v5 v6 v7 K38 K49 h Q Qx) : G X M_X8_fits E_X8_fits (QM X E_X8_fits (QI Q) Qx) 0 89 [(0, .ref (0)), (2, .int (p2)), (3, .int (p3)), (4, .ref (r4v)), (5, .int (v5)), (6, .int (v6)), (7, .int (v7))] [] h := by
  unfold w_X8_fits_b89 at hw
  refine g_iinc 6 (dk D_X8_fits 48 rfl) rfl (congrArg (fun z => _ + z) ki_1) (by decide) rfl ?_
  refine g_goto (dk D_X8_fits 49 rfl) rfl ?_
  refine g_sub [1, 2, 3, 4, 5, 6, 0] rfl ?_
  exact hK49 (v5, (v7 + (1 : Int32)), h) hw
theorem t_X8_fits_l49 {X : Cx} (p1 : Int32) (p2 : Int32) (p3 : Int32) (r4v : Nat) (v6 : Int32) (K38 : Int32 × Int32 × Hp → Prop) (Q : Int32 → Hp → Prop) (Qx : String → Hp → Prop) (K49 : Int32 × Int32 × Hp → Prop) (v5 : Int32) (v7 : Int32) (h : Hp) (hr4v : LawP r4v) (hK38 : ∀ s : Int32 × Int32 × Hp, K38 s → G X M_X8_fits E_X8_fits (QM X E_X8_fits (QI Q) Qx) 0 38 [(0, .ref (0)), (2, .int (p2)), (3, .int (p3)), (4, .ref (r4v)), (5, .int (s.1)), (6, .int (s.2.1))] [] (s.2.2)) (hK49 : ∀ s : Int32 × Int32 × Hp, K49 s → G X M_X8_fits E_X8_fits (QM X E_X8_fits (QI Q) Qx) 0 49 [(0, .ref (0)), (2, .int (p2)), (3, .int (p3)), (4, .ref (r4v)), (5, .int (s.1)), (6, .int (v6)), (7, .int (s.2.1))] [] (s.2.2)) (hw : w_X8_fits_l49 p1 p2 p3 r4v v6 K38 Q Qx K49 v5 v7 h) : G X M_X8_fits E_X8_fits (QM X E_X8_fits (QI Q) Qx) 0 49 [(0, .ref (0)), (2, .int (p2)), (3, .int (p3)), (4, .ref (r4v)), (5, .int (v5)), (6, .int (v6)), (7, .int (v7))] [] h := by
  unfold w_X8_fits_l49 at hw
  refine g_iload 6 (dk D_X8_fits 28 rfl) rfl ?_
  refine g_sipush (dk D_X8_fits 29 rfl) ks_400 ?_
  refine g_icmp_gt (dk D_X8_fits 30 rfl) rfl (wif_m hw (fun hw => ?_) (fun hw => ?_))
  · refine g_iinc 5 (dk D_X8_fits 50 rfl) rfl (congrArg (fun z => _ + z) ki_1) (by decide) rfl ?_
    refine g_goto (dk D_X8_fits 51 rfl) rfl ?_
    refine g_sub [1, 2, 3, 4, 5, 0] rfl ?_
    exact hK38 (v5, (v6 + (1 : Int32)), h) hw
  · refine g_aload_n 0 (dk D_X8_fits 31 rfl) rfl rfl ?_
    refine g_aload 3 (dk D_X8_fits 32 rfl) rfl ?_
    refine g_iload 5 (dk D_X8_fits 33 rfl) rfl ?_
    refine g_iload 6 (dk D_X8_fits 34 rfl) rfl ?_
    refine g_iload_n 1 (dk D_X8_fits 35 rfl) rfl rfl ?_
    refine g_callV (As := [.ref (r4v), .int (v6), .int (v7), .int (p2)]) (kc := 0) (fr := 3) (lo := 97) (mc := 0) (My := M_X8_paysLedger) (dk D_X8_fits 36 rfl) kd_0 rfl rfl w_1307 w_1309 w_40 w_101 w_1310 okD_X8_paysLedger (by decide) (Nat.le_of_ble_eq_true rfl) rfl (c_X8_paysLedger r4v (v6) (v7) (p2) (hr4v) (h) _ hw) kxN (kI (fun z1 h2 hw => ?_))
    refine g_if_eq (dk D_X8_fits 37 rfl) rfl (wif_m hw (fun hw => ?_) (fun hw => ?_))
    · exact t_X8_fits_b89 p1 p2 p3 (r4v) (v5) (v6) (v7) K38 K49 (h2) Q Qx (hr4v) hK38 hK49 hw
    · refine g_iload_n 2 (dk D_X8_fits 38 rfl) rfl rfl ?_
      refine g_iconst (dk D_X8_fits 39 rfl) ki_1 ?_
      refine g_icmp_ne (dk D_X8_fits 40 rfl) rfl (wif_m hw (fun hw => ?_) (fun hw => ?_))
      · refine g_iinc 4 (dk D_X8_fits 47 rfl) rfl (congrArg (fun z => _ + z) ki_1) (by decide) rfl ?_
        refine g_sub [1, 2, 3, 4, 0, 5, 6] rfl ?_
        exact t_X8_fits_b89 p1 p2 p3 (r4v) ((v5 + (1 : Int32))) (v6) (v7) K38 K49 (h2) Q Qx (hr4v) hK38 hK49 hw
      · refine g_sipush (dk D_X8_fits 41 rfl) ks_1000 ?_
        refine g_iload 5 (dk D_X8_fits 42 rfl) rfl ?_
        refine g_imul (dk D_X8_fits 43 rfl) ?_
        refine g_iload 6 (dk D_X8_fits 44 rfl) rfl ?_
        refine g_iadd (dk D_X8_fits 45 rfl) ?_
        exact g_iret (dk D_X8_fits 46 rfl) rfl ⟨_, rfl, hw⟩
theorem t_X8_fits_b49 {X : Cx} (p1 : Int32) (p2 : Int32) (p3 : Int32) (r4v : Nat) (v6 : Int32) (K38 : Int32 × Int32 × Hp → Prop) (Q : Int32 → Hp → Prop) (Qx : String → Hp → Prop) (s : Int32 × Int32 × Hp) (hr4v : LawP r4v) (hK38 : ∀ s : Int32 × Int32 × Hp, K38 s → G X M_X8_fits E_X8_fits (QM X E_X8_fits (QI Q) Qx) 0 38 [(0, .ref (0)), (2, .int (p2)), (3, .int (p3)), (4, .ref (r4v)), (5, .int (s.1)), (6, .int (s.2.1))] [] (s.2.2)) (hw : w_X8_fits_b49 p1 p2 p3 r4v v6 K38 Q Qx s) : G X M_X8_fits E_X8_fits (QM X E_X8_fits (QI Q) Qx) 0 49 [(0, .ref (0)), (2, .int (p2)), (3, .int (p3)), (4, .ref (r4v)), (5, .int (s.1)), (6, .int (v6)), (7, .int (s.2.1))] [] (s.2.2) :=
  wl_ind (B := fun K s => w_X8_fits_l49 p1 p2 p3 r4v v6 K38 Q Qx K (s.1) (s.2.1) (s.2.2)) (P := fun s => G X M_X8_fits E_X8_fits (QM X E_X8_fits (QI Q) Qx) 0 49 [(0, .ref (0)), (2, .int (p2)), (3, .int (p3)), (4, .ref (r4v)), (5, .int (s.1)), (6, .int (v6)), (7, .int (s.2.1))] [] (s.2.2)) (fun K hK s hw => t_X8_fits_l49 p1 p2 p3 r4v v6 K38 Q Qx K (s.1) (s.2.1) (s.2.2) hr4v hK38 hK hw) s hw
theorem t_X8_fits_l38 {X : Cx} (p1 : Int32) (p2 : Int32) (p3 : Int32) (r4v : Nat) (Q : Int32 → Hp → Prop) (Qx : String → Hp → Prop) (K38 : Int32 × Int32 × Hp → Prop) (v5 : Int32) (v6 : Int32) (h : Hp) (hr4v : LawP r4v) (hK38 : ∀ s : Int32 × Int32 × Hp, K38 s → G X M_X8_fits E_X8_fits (QM X E_X8_fits (QI Q) Qx) 0 38 [(0, .ref (0)), (2, .int (p2)), (3, .int (p3)), (4, .ref (r4v)), (5, .int (s.1)), (6, .int (s.2.1))] [] (s.2.2)) (hw : w_X8_fits_l38 p1 p2 p3 r4v Q Qx K38 v5 v6 h) : G X M_X8_fits E_X8_fits (QM X E_X8_fits (QI Q) Qx) 0 38 [(0, .ref (0)), (2, .int (p2)), (3, .int (p3)), (4, .ref (r4v)), (5, .int (v5)), (6, .int (v6))] [] h := by
  unfold w_X8_fits_l38 at hw
  refine g_iload 5 (dk D_X8_fits 23 rfl) rfl ?_
  refine g_bipush (dk D_X8_fits 24 rfl) kb_30 ?_
  refine g_icmp_ge (dk D_X8_fits 25 rfl) rfl (wif_m hw (fun hw => ?_) (fun hw => ?_))
  · refine g_iload_n 2 (dk D_X8_fits 52 rfl) rfl rfl ?_
    refine g_iconst (dk D_X8_fits 53 rfl) ki_1 ?_
    have hj : G X M_X8_fits E_X8_fits (QM X E_X8_fits (QI Q) Qx) 0 112 [(0, .ref (0)), (2, .int (p2)), (3, .int (p3)), (4, .ref (r4v)), (5, .int (v5)), (6, .int (v6))] [.int ((if ¬ p3 = (1 : Int32) then v5 else (-1 : Int32)))] (h) := by
      exact g_iret (dk D_X8_fits 58 rfl) rfl ⟨_, rfl, hw⟩
    refine g_icmp_ne (dk D_X8_fits 54 rfl) rfl ?_
    by_cases c2 : ¬ p3 = (1 : Int32)
    · rw [if_pos c2] at hj
      refine wif_p c2 ?_
      refine g_iload 4 (dk D_X8_fits 57 rfl) rfl ?_
      exact hj
    · rw [if_neg c2] at hj
      refine wif_n c2 ?_
      refine g_iconst (dk D_X8_fits 55 rfl) ki_m1 ?_
      refine g_goto (dk D_X8_fits 56 rfl) rfl ?_
      exact hj
  · refine g_bipush (dk D_X8_fits 26 rfl) kb_50 ?_
    refine g_istore (dk D_X8_fits 27 rfl) (by decide) rfl ?_
    refine g_sub [1, 2, 3, 4, 5, 6, 0] rfl ?_
    exact t_X8_fits_b49 p1 p2 p3 (r4v) (v6) K38 Q Qx (v5, (50 : Int32), h) (hr4v) hK38 hw
theorem t_X8_fits_b38 {X : Cx} (p1 : Int32) (p2 : Int32) (p3 : Int32) (r4v : Nat) (Q : Int32 → Hp → Prop) (Qx : String → Hp → Prop) (s : Int32 × Int32 × Hp) (hr4v : LawP r4v) (hw : w_X8_fits_b38 p1 p2 p3 r4v Q Qx s) : G X M_X8_fits E_X8_fits (QM X E_X8_fits (QI Q) Qx) 0 38 [(0, .ref (0)), (2, .int (p2)), (3, .int (p3)), (4, .ref (r4v)), (5, .int (s.1)), (6, .int (s.2.1))] [] (s.2.2) :=
  wl_ind (B := fun K s => w_X8_fits_l38 p1 p2 p3 r4v Q Qx K (s.1) (s.2.1) (s.2.2)) (P := fun s => G X M_X8_fits E_X8_fits (QM X E_X8_fits (QI Q) Qx) 0 38 [(0, .ref (0)), (2, .int (p2)), (3, .int (p3)), (4, .ref (r4v)), (5, .int (s.1)), (6, .int (s.2.1))] [] (s.2.2)) (fun K hK s hw => t_X8_fits_l38 p1 p2 p3 r4v Q Qx K (s.1) (s.2.1) (s.2.2) hr4v hK hw) s hw
theorem t_X8_fits {X : Cx} (p1 : Int32) (p2 : Int32) (p3 : Int32) (h : Hp) (Q : Int32 → Hp → Prop) (Qx : String → Hp → Prop) (hw : w_X8_fits p1 p2 p3 h Q Qx) : G X M_X8_fits E_X8_fits (QM X E_X8_fits (QI Q) Qx) 3 0 [(0, .ref (0)), (1, .int (p1)), (2, .int (p2)), (3, .int (p3))] [] h := by
  unfold w_X8_fits at hw
  refine g_iload_n 1 (dk D_X8_fits 0 rfl) rfl rfl ?_
  refine g_iconst (dk D_X8_fits 1 rfl) ki_0 ?_
  refine g_aload_n 0 (dk D_X8_fits 2 rfl) rfl rfl ?_
  refine g_getI 14 (dk D_X8_fits 3 rfl) kd_0 rfl rfl (by decide) w_448 rfl rfl ?_
  refine g_iconst (dk D_X8_fits 4 rfl) ki_1 ?_
  refine g_isub (dk D_X8_fits 5 rfl) ?_
  refine g_callS (As := [.int (p1), .int ((0 : Int32)), .int (((h 0 14) - (1 : Int32)))]) (kc := 2) (fr := 6) (lo := 82) (mc := 1) (My := M_X8_needBetween) (dk D_X8_fits 6 rfl) w_703 w_704 w_101 w_705 okD_X8_needBetween (by decide) (Nat.le_of_ble_eq_true rfl) rfl (c_X8_needBetween (p1) ((0 : Int32)) (((h 0 14) - (1 : Int32))) (h) _ _ hw) kxT (kVp (fun hw => ?_))
  refine g_iload_n 2 (dk D_X8_fits 7 rfl) rfl rfl ?_
  refine g_iconst (dk D_X8_fits 8 rfl) ki_1 ?_
  refine g_sipush (dk D_X8_fits 9 rfl) ks_999 ?_
  refine g_callS (As := [.int (p2), .int ((1 : Int32)), .int ((999 : Int32))]) (kc := 1) (fr := 6) (lo := 82) (mc := 1) (My := M_X8_needBetween) (dk D_X8_fits 10 rfl) w_703 w_704 w_101 w_705 okD_X8_needBetween (by decide) (Nat.le_of_ble_eq_true rfl) rfl (c_X8_needBetween (p2) ((1 : Int32)) ((999 : Int32)) (h) _ _ hw) kxT (kVp (fun hw => ?_))
  refine g_iload_n 3 (dk D_X8_fits 11 rfl) rfl rfl ?_
  refine g_iconst (dk D_X8_fits 12 rfl) ki_0 ?_
  refine g_iconst (dk D_X8_fits 13 rfl) ki_1 ?_
  refine g_callS (As := [.int (p3), .int ((0 : Int32)), .int ((1 : Int32))]) (kc := 0) (fr := 6) (lo := 82) (mc := 1) (My := M_X8_needBetween) (dk D_X8_fits 14 rfl) w_703 w_704 w_101 w_705 okD_X8_needBetween (by decide) (Nat.le_of_ble_eq_true rfl) rfl (c_X8_needBetween (p3) ((0 : Int32)) ((1 : Int32)) (h) _ _ hw) kxT (kVp (fun hw => ?_))
  refine g_aload_n 0 (dk D_X8_fits 15 rfl) rfl rfl ?_
  refine g_iload_n 1 (dk D_X8_fits 16 rfl) rfl rfl ?_
  refine g_callV (As := [.int (p1)]) (kc := 0) (fr := 0) (lo := 0) (mc := 0) (My := M_X8_lawAt) (dk D_X8_fits 17 rfl) kd_0 rfl rfl w_555 w_557 w_5 w_101 w_558 okD_X8_lawAt (by decide) (Nat.le_of_ble_eq_true rfl) rfl (c_X8_lawAt (p1) (h) _ hw) kxN (kLaw (fun q1 hq1 hw => ?_))
  refine g_astore (dk D_X8_fits 18 rfl) (by decide) rfl ?_
  refine g_iconst (dk D_X8_fits 19 rfl) ki_0 ?_
  refine g_istore (dk D_X8_fits 20 rfl) (by decide) rfl ?_
  refine g_iconst (dk D_X8_fits 21 rfl) ki_0 ?_
  refine g_istore (dk D_X8_fits 22 rfl) (by decide) rfl ?_
  refine g_sub [3, 5, 6, 2, 1, 0] rfl ?_
  exact t_X8_fits_b38 p1 p2 p3 (q1) Q Qx ((0 : Int32), (0 : Int32), h) (hq1) hw
theorem c_X8_fits {X : Cx} (p1 : Int32) (p2 : Int32) (p3 : Int32) (h : Hp) (Q : Int32 → Hp → Prop) (Qx : String → Hp → Prop) (hw : w_X8_fits p1 p2 p3 h Q Qx) : Con X yX8_fits M_X8_fits 7 132 3 [.ref (0), .int (p1), .int (p2), .int (p3)] h (QI Q) Qx :=
  con_of (by decide +kernel) rfl (Nat.le_of_ble_eq_true rfl) (t_X8_fits p1 p2 p3 h Q Qx hw)
/-! ShadowTolls.sky(I)I -/
abbrev M_X8_sky : Mi := (RX8, cX8_sky, 2, (some .int))
abbrev E_X8_sky : Rm := (2, 59, 0, 0)
def rows_X8_sky : List (Nat × Instr × Nat) := [(0, .aload_n 0, 1), (1, .getfield 75, 3), (4, .iload_n 1, 1), (5, .invokevirtual 316, 3), (8, .ireturn, 1)]
theorem D_X8_sky : dkA cX8_sky rows_X8_sky := by
  unfold dkA
  decide +kernel
theorem okD_X8_sky : okD yX8_sky 1 := by
  unfold okD
  decide +kernel
def w_X8_sky (p1 : Int32) (h : Hp) (Q : Int32 → Hp → Prop) : Prop :=
  w_X6_skyOf (p1) h (fun z1 h2 => Q z1 h2)
theorem t_X8_sky {X : Cx} (p1 : Int32) (h : Hp) (Q : Int32 → Hp → Prop) (hw : w_X8_sky p1 h Q) : G X M_X8_sky E_X8_sky (QM X E_X8_sky (QI Q) Qn) 0 0 [(0, .ref (0)), (1, .int (p1))] [] h := by
  unfold w_X8_sky at hw
  refine g_aload_n 0 (dk D_X8_sky 0 rfl) rfl rfl ?_
  refine g_getR 10 (t := 58) (dk D_X8_sky 1 rfl) kd_0 rfl rfl (by decide) w_444 rfl rfl rfl ?_
  refine g_iload_n 1 (dk D_X8_sky 2 rfl) rfl rfl ?_
  refine g_callV (As := [.int (p1)]) (kc := 0) (fr := 1) (lo := 30) (mc := 0) (My := M_X6_skyOf) (dk D_X8_sky 3 rfl) kd_58 rfl rfl w_658 w_659 w_660 w_108 w_661 okD_X6_skyOf (by decide) (Nat.le_of_ble_eq_true rfl) rfl (c_X6_skyOf (p1) (h) _ hw) kxN (kI (fun z1 h2 hw => ?_))
  exact g_iret (dk D_X8_sky 4 rfl) rfl ⟨_, rfl, hw⟩
theorem c_X8_sky {X : Cx} (p1 : Int32) (h : Hp) (Q : Int32 → Hp → Prop) (hw : w_X8_sky p1 h Q) : Con X yX8_sky M_X8_sky 2 59 0 [.ref (0), .int (p1)] h (QI Q) Qn :=
  con_of (by decide +kernel) rfl (Nat.le_of_ble_eq_true rfl) (t_X8_sky p1 h Q hw)
/-! ShadowTolls.planDays(II)V -/
abbrev M_X8_planDays : Mi := (RX8, cX8_planDays, 4, none)
abbrev E_X8_planDays : Rm := (7, 219, 0, 0)
def rows_X8_planDays : List (Nat × Instr × Nat) := [(0, .iconst 0, 1), (1, .istore_n 3, 1), (2, .iload_n 3, 1), (3, .iload_n 2, 1), (4, .if_icmp .ge 41, 3), (7, .aload_n 0, 1), (8, .aload_n 0, 1), (9, .getfield 19, 3), (12, .invokevirtual 289, 3), (15, .iload_n 1, 1), (16, .iload_n 3, 1), (17, .iadd, 1), (18, .iconst 0, 1), (19, .aload_n 0, 1), (20, .iconst 0, 1), (21, .invokevirtual 216, 3), (24, .aload_n 0, 1), (25, .getfield 37, 3), (28, .invokevirtual 235, 3), (31, .aload_n 0, 1), (32, .getfield 75, 3), (35, .iload_n 3, 1), (36, .invokevirtual 384, 3), (39, .iinc 3 1, 3), (42, .goto (-40), 3), (45, .return_, 1)]
theorem D_X8_planDays : dkA cX8_planDays rows_X8_planDays := by
  unfold dkA
  decide +kernel
theorem okD_X8_planDays : okD yX8_planDays 2 := by
  unfold okD
  decide +kernel
def w_X8_planDays_l2 (p1 : Int32) (p2 : Int32) (Q : Hp → Prop) (K2 : Int32 × Hp → Prop) (v3 : Int32) (h : Hp) : Prop :=
  wif (p2 ≤ v3) (Q h) (w_X4_everybody 3 h (fun z1 => w_X8_lawOf ((0 : Int32)) h (fun q2 => w_X8_planFor (z1) ((p1 + v3)) ((0 : Int32)) q2 34 h (fun h3 => w_X6_keep (v3) h3 (fun h4 => K2 ((v3 + (1 : Int32)), h4))))))
def w_X8_planDays_b2 (p1 : Int32) (p2 : Int32) (Q : Hp → Prop) (s : Int32 × Hp) : Prop := wl (fun K s => w_X8_planDays_l2 p1 p2 Q K s.1 s.2) s
def w_X8_planDays (p1 : Int32) (p2 : Int32) (h : Hp) (Q : Hp → Prop) : Prop :=
  w_X8_planDays_b2 p1 p2 Q ((0 : Int32), h)
theorem t_X8_planDays_l2 {X : Cx} (p1 : Int32) (p2 : Int32) (Q : Hp → Prop) (K2 : Int32 × Hp → Prop) (v3 : Int32) (h : Hp) (hK2 : ∀ s : Int32 × Hp, K2 s → G X M_X8_planDays E_X8_planDays (QM X E_X8_planDays (QV Q) Qn) 0 2 [(0, .ref (0)), (1, .int (p1)), (2, .int (p2)), (3, .int (s.1))] [] (s.2)) (hw : w_X8_planDays_l2 p1 p2 Q K2 v3 h) : G X M_X8_planDays E_X8_planDays (QM X E_X8_planDays (QV Q) Qn) 0 2 [(0, .ref (0)), (1, .int (p1)), (2, .int (p2)), (3, .int (v3))] [] h := by
  unfold w_X8_planDays_l2 at hw
  refine g_iload_n 3 (dk D_X8_planDays 2 rfl) rfl rfl ?_
  refine g_iload_n 2 (dk D_X8_planDays 3 rfl) rfl rfl ?_
  refine g_icmp_ge (dk D_X8_planDays 4 rfl) rfl (wif_m hw (fun hw => ?_) (fun hw => ?_))
  · exact g_vret (dk D_X8_planDays 25 rfl) rfl ⟨rfl, hw⟩
  · refine g_aload_n 0 (dk D_X8_planDays 5 rfl) rfl rfl ?_
    refine g_aload_n 0 (dk D_X8_planDays 6 rfl) rfl rfl ?_
    refine g_getR 1 (t := 3) (dk D_X8_planDays 7 rfl) kd_0 rfl rfl (by decide) w_435 rfl rfl rfl ?_
    refine g_callV (As := []) (kc := 0) (fr := 0) (lo := 0) (mc := 0) (My := M_X4_everybody) (dk D_X8_planDays 8 rfl) roadP_3.1 rfl rfl w_528 w_529 w_530 w_103 w_531 okD_X4_everybody (by decide) (Nat.le_of_ble_eq_true rfl) rfl (c_X4_everybody 3 (roadP_3) (h) _ hw) kxN (kIp (fun z1 hw => ?_))
    refine g_iload_n 1 (dk D_X8_planDays 9 rfl) rfl rfl ?_
    refine g_iload_n 3 (dk D_X8_planDays 10 rfl) rfl rfl ?_
    refine g_iadd (dk D_X8_planDays 11 rfl) ?_
    refine g_iconst (dk D_X8_planDays 12 rfl) ki_0 ?_
    refine g_aload_n 0 (dk D_X8_planDays 13 rfl) rfl rfl ?_
    refine g_iconst (dk D_X8_planDays 14 rfl) ki_0 ?_
    refine g_callV (As := [.int ((0 : Int32))]) (kc := 0) (fr := 1) (lo := 30) (mc := 0) (My := M_X8_lawOf) (dk D_X8_planDays 15 rfl) kd_0 rfl rfl w_551 w_553 w_4 w_101 w_554 okD_X8_lawOf (by decide) (Nat.le_of_ble_eq_true rfl) rfl (c_X8_lawOf ((0 : Int32)) (h) _ hw) kxN (kLaw (fun q2 hq2 hw => ?_))
    refine g_aload_n 0 (dk D_X8_planDays 16 rfl) rfl rfl ?_
    refine g_getR 5 (t := 34) (dk D_X8_planDays 17 rfl) kd_0 rfl rfl (by decide) w_439 rfl rfl rfl ?_
    refine g_callV (As := [.int (z1), .int ((p1 + v3)), .int ((0 : Int32)), .ref (q2), .ref (34)]) (kc := 0) (fr := 6) (lo := 186) (mc := 0) (My := M_X8_planFor) (dk D_X8_planDays 18 rfl) kd_0 rfl rfl w_1139 w_1141 w_31 w_101 w_1142 okD_X8_planFor (by decide) (Nat.le_of_ble_eq_true rfl) rfl (c_X8_planFor (z1) ((p1 + v3)) ((0 : Int32)) q2 34 (hq2) (lawP_34) (h) _ hw) kxN (kV (fun h3 hw => ?_))
    refine g_aload_n 0 (dk D_X8_planDays 19 rfl) rfl rfl ?_
    refine g_getR 10 (t := 58) (dk D_X8_planDays 20 rfl) kd_0 rfl rfl (by decide) w_444 rfl rfl rfl ?_
    refine g_iload_n 3 (dk D_X8_planDays 21 rfl) rfl rfl ?_
    refine g_callV (As := [.int (v3)]) (kc := 0) (fr := 2) (lo := 59) (mc := 0) (My := M_X6_keep) (dk D_X8_planDays 22 rfl) kd_58 rfl rfl w_1323 w_1324 w_1325 w_108 w_1326 okD_X6_keep (by decide) (Nat.le_of_ble_eq_true rfl) rfl (c_X6_keep (v3) (h3) _ hw) kxN (kV (fun h4 hw => ?_))
    refine g_iinc 3 (dk D_X8_planDays 23 rfl) rfl (congrArg (fun z => _ + z) ki_1) (by decide) rfl ?_
    refine g_goto (dk D_X8_planDays 24 rfl) rfl ?_
    refine g_sub [1, 2, 3, 0] rfl ?_
    exact hK2 ((v3 + (1 : Int32)), h4) hw
theorem t_X8_planDays_b2 {X : Cx} (p1 : Int32) (p2 : Int32) (Q : Hp → Prop) (s : Int32 × Hp) (hw : w_X8_planDays_b2 p1 p2 Q s) : G X M_X8_planDays E_X8_planDays (QM X E_X8_planDays (QV Q) Qn) 0 2 [(0, .ref (0)), (1, .int (p1)), (2, .int (p2)), (3, .int (s.1))] [] (s.2) :=
  wl_ind (B := fun K s => w_X8_planDays_l2 p1 p2 Q K (s.1) (s.2)) (P := fun s => G X M_X8_planDays E_X8_planDays (QM X E_X8_planDays (QV Q) Qn) 0 2 [(0, .ref (0)), (1, .int (p1)), (2, .int (p2)), (3, .int (s.1))] [] (s.2)) (fun K hK s hw => t_X8_planDays_l2 p1 p2 Q K (s.1) (s.2) hK hw) s hw
theorem t_X8_planDays {X : Cx} (p1 : Int32) (p2 : Int32) (h : Hp) (Q : Hp → Prop) (hw : w_X8_planDays p1 p2 h Q) : G X M_X8_planDays E_X8_planDays (QM X E_X8_planDays (QV Q) Qn) 0 0 [(0, .ref (0)), (1, .int (p1)), (2, .int (p2))] [] h := by
  unfold w_X8_planDays at hw
  refine g_iconst (dk D_X8_planDays 0 rfl) ki_0 ?_
  refine g_istore_n (dk D_X8_planDays 1 rfl) rfl (by decide) rfl ?_
  refine g_sub [1, 2, 3, 0] rfl ?_
  exact t_X8_planDays_b2 p1 p2 Q ((0 : Int32), h) hw
theorem c_X8_planDays {X : Cx} (p1 : Int32) (p2 : Int32) (h : Hp) (Q : Hp → Prop) (hw : w_X8_planDays p1 p2 h Q) : Con X yX8_planDays M_X8_planDays 7 219 0 [.ref (0), .int (p1), .int (p2)] h (QV Q) Qn :=
  con_of (by decide +kernel) rfl (Nat.le_of_ble_eq_true rfl) (t_X8_planDays p1 p2 h Q hw)
/-! ShadowTolls.season(III)I -/
abbrev M_X8_season : Mi := (RX8, cX8_season, 4, (some .int))
abbrev E_X8_season : Rm := (8, 250, 2, 12)
def rows_X8_season : List (Nat × Instr × Nat) := [(0, .iload_n 1, 1), (1, .invokestatic 183, 3), (4, .iload_n 2, 1), (5, .iconst 1, 1), (6, .bipush 30, 2), (8, .iload_n 1, 1), (9, .isub, 1), (10, .invokestatic 106, 3), (13, .aload_n 0, 1), (14, .iload_n 1, 1), (15, .iload_n 2, 1), (16, .invokevirtual 319, 3), (19, .aload_n 0, 1), (20, .getfield 75, 3), (23, .iload_n 2, 1), (24, .iload_n 3, 1), (25, .invokevirtual 322, 3), (28, .ireturn, 1)]
theorem D_X8_season : dkA cX8_season rows_X8_season := by
  unfold dkA
  decide +kernel
theorem okD_X8_season : okD yX8_season 3 := by
  unfold okD
  decide +kernel
def w_X8_season (p1 : Int32) (p2 : Int32) (p3 : Int32) (h : Hp) (Q : Int32 → Hp → Prop) (Qx : String → Hp → Prop) : Prop :=
  w_X8_needDay (p1) h (w_X8_needBetween (p2) ((1 : Int32)) (((30 : Int32) - p1)) h (w_X8_planDays (p1) (p2) h (fun h1 => w_X6_takenUnder (p2) (p3) h1 (fun z2 h3 => Q z2 h3))) Qx) Qx
theorem t_X8_season {X : Cx} (p1 : Int32) (p2 : Int32) (p3 : Int32) (h : Hp) (Q : Int32 → Hp → Prop) (Qx : String → Hp → Prop) (hw : w_X8_season p1 p2 p3 h Q Qx) : G X M_X8_season E_X8_season (QM X E_X8_season (QI Q) Qx) 2 0 [(0, .ref (0)), (1, .int (p1)), (2, .int (p2)), (3, .int (p3))] [] h := by
  unfold w_X8_season at hw
  refine g_iload_n 1 (dk D_X8_season 0 rfl) rfl rfl ?_
  refine g_callS (As := [.int (p1)]) (kc := 1) (fr := 6) (lo := 82) (mc := 1) (My := M_X8_needDay) (dk D_X8_season 1 rfl) w_1039 w_1040 w_101 w_1041 okD_X8_needDay (by decide) (Nat.le_of_ble_eq_true rfl) rfl (c_X8_needDay (p1) (h) _ _ hw) kxT (kVp (fun hw => ?_))
  refine g_iload_n 2 (dk D_X8_season 2 rfl) rfl rfl ?_
  refine g_iconst (dk D_X8_season 3 rfl) ki_1 ?_
  refine g_bipush (dk D_X8_season 4 rfl) kb_30 ?_
  refine g_iload_n 1 (dk D_X8_season 5 rfl) rfl rfl ?_
  refine g_isub (dk D_X8_season 6 rfl) ?_
  refine g_callS (As := [.int (p2), .int ((1 : Int32)), .int (((30 : Int32) - p1))]) (kc := 0) (fr := 6) (lo := 82) (mc := 1) (My := M_X8_needBetween) (dk D_X8_season 7 rfl) w_703 w_704 w_101 w_705 okD_X8_needBetween (by decide) (Nat.le_of_ble_eq_true rfl) rfl (c_X8_needBetween (p2) ((1 : Int32)) (((30 : Int32) - p1)) (h) _ _ hw) kxT (kVp (fun hw => ?_))
  refine g_aload_n 0 (dk D_X8_season 8 rfl) rfl rfl ?_
  refine g_iload_n 1 (dk D_X8_season 9 rfl) rfl rfl ?_
  refine g_iload_n 2 (dk D_X8_season 10 rfl) rfl rfl ?_
  refine g_callV (As := [.int (p1), .int (p2)]) (kc := 0) (fr := 7) (lo := 219) (mc := 0) (My := M_X8_planDays) (dk D_X8_season 11 rfl) kd_0 rfl rfl w_1319 w_1321 w_41 w_101 w_1322 okD_X8_planDays (by decide) (Nat.le_of_ble_eq_true rfl) rfl (c_X8_planDays (p1) (p2) (h) _ hw) kxN (kV (fun h1 hw => ?_))
  refine g_aload_n 0 (dk D_X8_season 12 rfl) rfl rfl ?_
  refine g_getR 10 (t := 58) (dk D_X8_season 13 rfl) kd_0 rfl rfl (by decide) w_444 rfl rfl rfl ?_
  refine g_iload_n 2 (dk D_X8_season 14 rfl) rfl rfl ?_
  refine g_iload_n 3 (dk D_X8_season 15 rfl) rfl rfl ?_
  refine g_callV (As := [.int (p2), .int (p3)]) (kc := 0) (fr := 1) (lo := 30) (mc := 0) (My := M_X6_takenUnder) (dk D_X8_season 16 rfl) kd_58 rfl rfl w_1331 w_1332 w_1333 w_108 w_1334 okD_X6_takenUnder (by decide) (Nat.le_of_ble_eq_true rfl) rfl (c_X6_takenUnder (p2) (p3) (h1) _ hw) kxN (kI (fun z2 h3 hw => ?_))
  exact g_iret (dk D_X8_season 17 rfl) rfl ⟨_, rfl, hw⟩
theorem c_X8_season {X : Cx} (p1 : Int32) (p2 : Int32) (p3 : Int32) (h : Hp) (Q : Int32 → Hp → Prop) (Qx : String → Hp → Prop) (hw : w_X8_season p1 p2 p3 h Q Qx) : Con X yX8_season M_X8_season 8 250 2 [.ref (0), .int (p1), .int (p2), .int (p3)] h (QI Q) Qx :=
  con_of (by decide +kernel) rfl (Nat.le_of_ble_eq_true rfl) (t_X8_season p1 p2 p3 h Q Qx hw)
/-! ShadowTolls.span(IIIII)I -/
abbrev M_X8_span : Mi := (RX8, cX8_span, 9, (some .int))
abbrev E_X8_span : Rm := (8, 250, 4, 24)
def rows_X8_span : List (Nat × Instr × Nat) := [(0, .iload_n 1, 1), (1, .invokestatic 183, 3), (4, .iload_n 2, 1), (5, .iconst 1, 1), (6, .bipush 30, 2), (8, .iload_n 1, 1), (9, .isub, 1), (10, .invokestatic 106, 3), (13, .iload 4, 2), (15, .iconst 1, 1), (16, .bipush 50, 2), (18, .invokestatic 106, 3), (21, .iload 5, 2), (23, .iconst 0, 1), (24, .iconst 1, 1), (25, .invokestatic 106, 3), (28, .aload_n 0, 1), (29, .iload_n 1, 1), (30, .iload_n 2, 1), (31, .invokevirtual 319, 3), (34, .aload_n 0, 1), (35, .getfield 75, 3), (38, .iload_n 2, 1), (39, .iload_n 3, 1), (40, .invokevirtual 322, 3), (43, .istore 6, 2), (45, .iconst 1, 1), (46, .istore 7, 2), (48, .iload 7, 2), (50, .iload 4, 2), (52, .if_icmp .ge 47, 3), (55, .aload_n 0, 1), (56, .getfield 75, 3), (59, .iload_n 2, 1), (60, .iload_n 3, 1), (61, .iload 7, 2), (63, .iadd, 1), (64, .invokevirtual 322, 3), (67, .istore 8, 2), (69, .iload 5, 2), (71, .ifCond .ne 13, 3), (74, .iload 6, 2), (76, .iload 8, 2), (78, .invokestatic 325, 3), (81, .goto 10, 3), (84, .iload 6, 2), (86, .iload 8, 2), (88, .invokestatic 330, 3), (91, .istore 6, 2), (93, .iinc 7 1, 3), (96, .goto (-48), 3), (99, .iload 6, 2), (101, .ireturn, 1)]
theorem D_X8_span : dkA cX8_span rows_X8_span := by
  unfold dkA
  decide +kernel
theorem okD_X8_span : okD yX8_span 5 := by
  unfold okD
  decide +kernel
def w_X8_span_b91 (p1 : Int32) (p2 : Int32) (p3 : Int32) (p4 : Int32) (p5 : Int32) (v7 : Int32) (s0 : Int32) (K48 : Int32 × Int32 × Hp → Prop) (h : Hp) (Q : Int32 → Hp → Prop) (Qx : String → Hp → Prop) : Prop :=
  K48 (s0, (v7 + (1 : Int32)), h)
def w_X8_span_l48 (p1 : Int32) (p2 : Int32) (p3 : Int32) (p4 : Int32) (p5 : Int32) (Q : Int32 → Hp → Prop) (Qx : String → Hp → Prop) (K48 : Int32 × Int32 × Hp → Prop) (v6 : Int32) (v7 : Int32) (h : Hp) : Prop :=
  wif (p4 ≤ v7) (Q v6 h) (w_X6_takenUnder (p2) ((p3 + v7)) h (fun z1 h2 => wif (¬ p5 = 0) (w_X8_span_b91 p1 p2 p3 p4 p5 (v7) ((if v6 < z1 then z1 else v6)) K48 (h2) Q Qx) (w_X8_span_b91 p1 p2 p3 p4 p5 (v7) ((if z1 < v6 then z1 else v6)) K48 (h2) Q Qx)))
def w_X8_span_b48 (p1 : Int32) (p2 : Int32) (p3 : Int32) (p4 : Int32) (p5 : Int32) (Q : Int32 → Hp → Prop) (Qx : String → Hp → Prop) (s : Int32 × Int32 × Hp) : Prop := wl (fun K s => w_X8_span_l48 p1 p2 p3 p4 p5 Q Qx K s.1 s.2.1 s.2.2) s
def w_X8_span (p1 : Int32) (p2 : Int32) (p3 : Int32) (p4 : Int32) (p5 : Int32) (h : Hp) (Q : Int32 → Hp → Prop) (Qx : String → Hp → Prop) : Prop :=
  w_X8_needDay (p1) h (w_X8_needBetween (p2) ((1 : Int32)) (((30 : Int32) - p1)) h (w_X8_needBetween (p4) ((1 : Int32)) ((50 : Int32)) h (w_X8_needBetween (p5) ((0 : Int32)) ((1 : Int32)) h (w_X8_planDays (p1) (p2) h (fun h1 => w_X6_takenUnder (p2) (p3) h1 (fun z2 h3 => w_X8_span_b48 p1 p2 p3 p4 p5 Q Qx (z2, (1 : Int32), h3)))) Qx) Qx) Qx) Qx
theorem t_X8_span_b91 {X : Cx} (p1 : Int32) (p2 : Int32) (p3 : Int32) (p4 : Int32) (p5 : Int32) (v7 : Int32) (s0 : Int32) (K48 : Int32 × Int32 × Hp → Prop) (h : Hp) (Q : Int32 → Hp → Prop) (Qx : String → Hp → Prop) (hK48 : ∀ s : Int32 × Int32 × Hp, K48 s → G X M_X8_span E_X8_span (QM X E_X8_span (QI Q) Qx) 0 48 [(0, .ref (0)), (2, .int (p2)), (3, .int (p3)), (4, .int (p4)), (5, .int (p5)), (6, .int (s.1)), (7, .int (s.2.1))] [] (s.2.2)) (hw : w_X8_span_b91 p1 p2 p3 p4 p5 v7 s0 K48 h Q Qx) : G X M_X8_span E_X8_span (QM X E_X8_span (QI Q) Qx) 0 91 [(0, .ref (0)), (2, .int (p2)), (3, .int (p3)), (4, .int (p4)), (5, .int (p5)), (7, .int (v7))] [.int (s0)] h := by
  unfold w_X8_span_b91 at hw
  refine g_istore (dk D_X8_span 48 rfl) (by decide) rfl ?_
  refine g_iinc 6 (dk D_X8_span 49 rfl) rfl (congrArg (fun z => _ + z) ki_1) (by decide) rfl ?_
  refine g_goto (dk D_X8_span 50 rfl) rfl ?_
  refine g_sub [2, 3, 4, 5, 6, 1, 0] rfl ?_
  exact hK48 (s0, (v7 + (1 : Int32)), h) hw
theorem t_X8_span_l48 {X : Cx} (p1 : Int32) (p2 : Int32) (p3 : Int32) (p4 : Int32) (p5 : Int32) (Q : Int32 → Hp → Prop) (Qx : String → Hp → Prop) (K48 : Int32 × Int32 × Hp → Prop) (v6 : Int32) (v7 : Int32) (h : Hp) (hK48 : ∀ s : Int32 × Int32 × Hp, K48 s → G X M_X8_span E_X8_span (QM X E_X8_span (QI Q) Qx) 0 48 [(0, .ref (0)), (2, .int (p2)), (3, .int (p3)), (4, .int (p4)), (5, .int (p5)), (6, .int (s.1)), (7, .int (s.2.1))] [] (s.2.2)) (hw : w_X8_span_l48 p1 p2 p3 p4 p5 Q Qx K48 v6 v7 h) : G X M_X8_span E_X8_span (QM X E_X8_span (QI Q) Qx) 0 48 [(0, .ref (0)), (2, .int (p2)), (3, .int (p3)), (4, .int (p4)), (5, .int (p5)), (6, .int (v6)), (7, .int (v7))] [] h := by
  unfold w_X8_span_l48 at hw
  refine g_iload 6 (dk D_X8_span 28 rfl) rfl ?_
  refine g_iload 3 (dk D_X8_span 29 rfl) rfl ?_
  refine g_icmp_ge (dk D_X8_span 30 rfl) rfl (wif_m hw (fun hw => ?_) (fun hw => ?_))
  · refine g_iload 5 (dk D_X8_span 51 rfl) rfl ?_
    exact g_iret (dk D_X8_span 52 rfl) rfl ⟨_, rfl, hw⟩
  · refine g_aload_n 0 (dk D_X8_span 31 rfl) rfl rfl ?_
    refine g_getR 10 (t := 58) (dk D_X8_span 32 rfl) kd_0 rfl rfl (by decide) w_444 rfl rfl rfl ?_
    refine g_iload_n 1 (dk D_X8_span 33 rfl) rfl rfl ?_
    refine g_iload_n 2 (dk D_X8_span 34 rfl) rfl rfl ?_
    refine g_iload 6 (dk D_X8_span 35 rfl) rfl ?_
    refine g_iadd (dk D_X8_span 36 rfl) ?_
    refine g_callV (As := [.int (p2), .int ((p3 + v7))]) (kc := 0) (fr := 1) (lo := 30) (mc := 0) (My := M_X6_takenUnder) (dk D_X8_span 37 rfl) kd_58 rfl rfl w_1331 w_1332 w_1333 w_108 w_1334 okD_X6_takenUnder (by decide) (Nat.le_of_ble_eq_true rfl) rfl (c_X6_takenUnder (p2) ((p3 + v7)) (h) _ hw) kxN (kI (fun z1 h2 hw => ?_))
    refine g_istore (dk D_X8_span 38 rfl) (by decide) rfl ?_
    refine g_iload 5 (dk D_X8_span 39 rfl) rfl ?_
    refine g_if_ne (dk D_X8_span 40 rfl) rfl (wif_m hw (fun hw => ?_) (fun hw => ?_))
    · refine g_iload 6 (dk D_X8_span 45 rfl) rfl ?_
      refine g_iload 0 (dk D_X8_span 46 rfl) rfl ?_
      refine g_mmax (dk D_X8_span 47 rfl) w_1111 (by decide) (Nat.le_of_ble_eq_true rfl) ?_
      refine g_sub [1, 2, 3, 4, 5, 7] rfl ?_
      exact t_X8_span_b91 p1 p2 p3 p4 p5 (v7) ((if v6 < z1 then z1 else v6)) K48 (h2) Q Qx hK48 hw
    · refine g_iload 6 (dk D_X8_span 41 rfl) rfl ?_
      refine g_iload 0 (dk D_X8_span 42 rfl) rfl ?_
      refine g_mmin (dk D_X8_span 43 rfl) w_590 (by decide) (Nat.le_of_ble_eq_true rfl) ?_
      refine g_goto (dk D_X8_span 44 rfl) rfl ?_
      refine g_sub [1, 2, 3, 4, 5, 7] rfl ?_
      exact t_X8_span_b91 p1 p2 p3 p4 p5 (v7) ((if z1 < v6 then z1 else v6)) K48 (h2) Q Qx hK48 hw
theorem t_X8_span_b48 {X : Cx} (p1 : Int32) (p2 : Int32) (p3 : Int32) (p4 : Int32) (p5 : Int32) (Q : Int32 → Hp → Prop) (Qx : String → Hp → Prop) (s : Int32 × Int32 × Hp) (hw : w_X8_span_b48 p1 p2 p3 p4 p5 Q Qx s) : G X M_X8_span E_X8_span (QM X E_X8_span (QI Q) Qx) 0 48 [(0, .ref (0)), (2, .int (p2)), (3, .int (p3)), (4, .int (p4)), (5, .int (p5)), (6, .int (s.1)), (7, .int (s.2.1))] [] (s.2.2) :=
  wl_ind (B := fun K s => w_X8_span_l48 p1 p2 p3 p4 p5 Q Qx K (s.1) (s.2.1) (s.2.2)) (P := fun s => G X M_X8_span E_X8_span (QM X E_X8_span (QI Q) Qx) 0 48 [(0, .ref (0)), (2, .int (p2)), (3, .int (p3)), (4, .int (p4)), (5, .int (p5)), (6, .int (s.1)), (7, .int (s.2.1))] [] (s.2.2)) (fun K hK s hw => t_X8_span_l48 p1 p2 p3 p4 p5 Q Qx K (s.1) (s.2.1) (s.2.2) hK hw) s hw
theorem t_X8_span {X : Cx} (p1 : Int32) (p2 : Int32) (p3 : Int32) (p4 : Int32) (p5 : Int32) (h : Hp) (Q : Int32 → Hp → Prop) (Qx : String → Hp → Prop) (hw : w_X8_span p1 p2 p3 p4 p5 h Q Qx) : G X M_X8_span E_X8_span (QM X E_X8_span (QI Q) Qx) 4 0 [(0, .ref (0)), (1, .int (p1)), (2, .int (p2)), (3, .int (p3)), (4, .int (p4)), (5, .int (p5))] [] h := by
  unfold w_X8_span at hw
  refine g_iload_n 1 (dk D_X8_span 0 rfl) rfl rfl ?_
  refine g_callS (As := [.int (p1)]) (kc := 3) (fr := 6) (lo := 82) (mc := 1) (My := M_X8_needDay) (dk D_X8_span 1 rfl) w_1039 w_1040 w_101 w_1041 okD_X8_needDay (by decide) (Nat.le_of_ble_eq_true rfl) rfl (c_X8_needDay (p1) (h) _ _ hw) kxT (kVp (fun hw => ?_))
  refine g_iload_n 2 (dk D_X8_span 2 rfl) rfl rfl ?_
  refine g_iconst (dk D_X8_span 3 rfl) ki_1 ?_
  refine g_bipush (dk D_X8_span 4 rfl) kb_30 ?_
  refine g_iload_n 1 (dk D_X8_span 5 rfl) rfl rfl ?_
  refine g_isub (dk D_X8_span 6 rfl) ?_
  refine g_callS (As := [.int (p2), .int ((1 : Int32)), .int (((30 : Int32) - p1))]) (kc := 2) (fr := 6) (lo := 82) (mc := 1) (My := M_X8_needBetween) (dk D_X8_span 7 rfl) w_703 w_704 w_101 w_705 okD_X8_needBetween (by decide) (Nat.le_of_ble_eq_true rfl) rfl (c_X8_needBetween (p2) ((1 : Int32)) (((30 : Int32) - p1)) (h) _ _ hw) kxT (kVp (fun hw => ?_))
  refine g_iload 4 (dk D_X8_span 8 rfl) rfl ?_
  refine g_iconst (dk D_X8_span 9 rfl) ki_1 ?_
  refine g_bipush (dk D_X8_span 10 rfl) kb_50 ?_
  refine g_callS (As := [.int (p4), .int ((1 : Int32)), .int ((50 : Int32))]) (kc := 1) (fr := 6) (lo := 82) (mc := 1) (My := M_X8_needBetween) (dk D_X8_span 11 rfl) w_703 w_704 w_101 w_705 okD_X8_needBetween (by decide) (Nat.le_of_ble_eq_true rfl) rfl (c_X8_needBetween (p4) ((1 : Int32)) ((50 : Int32)) (h) _ _ hw) kxT (kVp (fun hw => ?_))
  refine g_iload 5 (dk D_X8_span 12 rfl) rfl ?_
  refine g_iconst (dk D_X8_span 13 rfl) ki_0 ?_
  refine g_iconst (dk D_X8_span 14 rfl) ki_1 ?_
  refine g_callS (As := [.int (p5), .int ((0 : Int32)), .int ((1 : Int32))]) (kc := 0) (fr := 6) (lo := 82) (mc := 1) (My := M_X8_needBetween) (dk D_X8_span 15 rfl) w_703 w_704 w_101 w_705 okD_X8_needBetween (by decide) (Nat.le_of_ble_eq_true rfl) rfl (c_X8_needBetween (p5) ((0 : Int32)) ((1 : Int32)) (h) _ _ hw) kxT (kVp (fun hw => ?_))
  refine g_aload_n 0 (dk D_X8_span 16 rfl) rfl rfl ?_
  refine g_iload_n 1 (dk D_X8_span 17 rfl) rfl rfl ?_
  refine g_iload_n 2 (dk D_X8_span 18 rfl) rfl rfl ?_
  refine g_callV (As := [.int (p1), .int (p2)]) (kc := 0) (fr := 7) (lo := 219) (mc := 0) (My := M_X8_planDays) (dk D_X8_span 19 rfl) kd_0 rfl rfl w_1319 w_1321 w_41 w_101 w_1322 okD_X8_planDays (by decide) (Nat.le_of_ble_eq_true rfl) rfl (c_X8_planDays (p1) (p2) (h) _ hw) kxN (kV (fun h1 hw => ?_))
  refine g_aload_n 0 (dk D_X8_span 20 rfl) rfl rfl ?_
  refine g_getR 10 (t := 58) (dk D_X8_span 21 rfl) kd_0 rfl rfl (by decide) w_444 rfl rfl rfl ?_
  refine g_iload_n 2 (dk D_X8_span 22 rfl) rfl rfl ?_
  refine g_iload_n 3 (dk D_X8_span 23 rfl) rfl rfl ?_
  refine g_callV (As := [.int (p2), .int (p3)]) (kc := 0) (fr := 1) (lo := 30) (mc := 0) (My := M_X6_takenUnder) (dk D_X8_span 24 rfl) kd_58 rfl rfl w_1331 w_1332 w_1333 w_108 w_1334 okD_X6_takenUnder (by decide) (Nat.le_of_ble_eq_true rfl) rfl (c_X6_takenUnder (p2) (p3) (h1) _ hw) kxN (kI (fun z2 h3 hw => ?_))
  refine g_istore (dk D_X8_span 25 rfl) (by decide) rfl ?_
  refine g_iconst (dk D_X8_span 26 rfl) ki_1 ?_
  refine g_istore (dk D_X8_span 27 rfl) (by decide) rfl ?_
  refine g_sub [2, 4, 5, 6, 7, 1, 0] rfl ?_
  exact t_X8_span_b48 p1 p2 p3 p4 p5 Q Qx (z2, (1 : Int32), h3) hw
theorem c_X8_span {X : Cx} (p1 : Int32) (p2 : Int32) (p3 : Int32) (p4 : Int32) (p5 : Int32) (h : Hp) (Q : Int32 → Hp → Prop) (Qx : String → Hp → Prop) (hw : w_X8_span p1 p2 p3 p4 p5 h Q Qx) : Con X yX8_span M_X8_span 8 250 4 [.ref (0), .int (p1), .int (p2), .int (p3), .int (p4), .int (p5)] h (QI Q) Qx :=
  con_of (by decide +kernel) rfl (Nat.le_of_ble_eq_true rfl) (t_X8_span p1 p2 p3 p4 p5 h Q Qx hw)
/-! ShadowTolls.keptAt(I)LShadowTolls$Records; -/
abbrev M_X8_keptAt : Mi := (RX8, cX8_keptAt, 2, (some (.object "ShadowTolls$Records")))
abbrev E_X8_keptAt : Rm := (0, 0, 0, 0)
def rows_X8_keptAt : List (Nat × Instr × Nat) := [(0, .iload_n 1, 1), (1, .ifCond .lt 21, 3), (4, .iload_n 1, 1), (5, .aload_n 0, 1), (6, .getfield 86, 3), (9, .arraylength, 1), (10, .if_icmp .ge 12, 3), (13, .aload_n 0, 1), (14, .getfield 86, 3), (17, .iload_n 1, 1), (18, .aaload, 1), (19, .goto 4, 3), (22, .aconst_null, 1), (23, .areturn, 1)]
theorem D_X8_keptAt : dkA cX8_keptAt rows_X8_keptAt := by
  unfold dkA
  decide +kernel
theorem okD_X8_keptAt : okD yX8_keptAt 1 := by
  unfold okD
  decide +kernel
def w_X8_keptAt (p1 : Int32) (h : Hp) (Q : Option Nat → Prop) : Prop :=
  wif (p1 < 0) (Q none) (wif ((3 : Int32) ≤ p1) (Q none) ((vp_in p1 3 ∧ Q (some (70 + 7 * Int32.toNatClampNeg (p1))))))
theorem t_X8_keptAt {X : Cx} (p1 : Int32) (h : Hp) (Q : Option Nat → Prop) (hw : w_X8_keptAt p1 h Q) : G X M_X8_keptAt E_X8_keptAt (QM X E_X8_keptAt (QRec h Q) Qn) 0 0 [(0, .ref (0)), (1, .int (p1))] [] h := by
  unfold w_X8_keptAt at hw
  refine g_iload_n 1 (dk D_X8_keptAt 0 rfl) rfl rfl ?_
  refine g_if_lt (dk D_X8_keptAt 1 rfl) rfl (wif_m hw (fun hw => ?_) (fun hw => ?_))
  · refine g_null (dk D_X8_keptAt 12 rfl) ?_
    exact g_aret (dk D_X8_keptAt 13 rfl) rfl (Or.inl rfl) ⟨none, rfl, (fun _ z => by cases z), rfl, hw⟩
  · refine g_iload_n 1 (dk D_X8_keptAt 2 rfl) rfl rfl ?_
    refine g_aload_n 0 (dk D_X8_keptAt 3 rfl) rfl rfl ?_
    refine g_getR 12 (t := 69) (dk D_X8_keptAt 4 rfl) kd_0 rfl rfl (by decide) w_446 rfl rfl rfl ?_
    refine g_alenR (dk D_X8_keptAt 5 rfl) kd_69 rfl ka_3 ?_
    refine g_icmp_ge (dk D_X8_keptAt 6 rfl) rfl (wif_m hw (fun hw => ?_) (fun hw => ?_))
    · refine g_null (dk D_X8_keptAt 12 rfl) ?_
      exact g_aret (dk D_X8_keptAt 13 rfl) rfl (Or.inl rfl) ⟨none, rfl, (fun _ z => by cases z), rfl, hw⟩
    · refine g_aload_n 0 (dk D_X8_keptAt 7 rfl) rfl rfl ?_
      refine g_getR 12 (t := 69) (dk D_X8_keptAt 8 rfl) kd_0 rfl rfl (by decide) w_446 rfl rfl rfl ?_
      refine g_iload_n 1 (dk D_X8_keptAt 9 rfl) rfl rfl ?_
      obtain ⟨hi1, hw⟩ := hw
      refine g_aald (dk D_X8_keptAt 10 rfl) kd_69 rfl rfl hi1 ?_
      refine g_goto (dk D_X8_keptAt 11 rfl) rfl ?_
      exact g_aret (dk D_X8_keptAt 13 rfl) rfl (Or.inr ⟨_, rfl⟩) ⟨some _, rfl, (fun _ z => by cases z; exact (recP_i hi1)), rfl, hw⟩
theorem c_X8_keptAt {X : Cx} (p1 : Int32) (h : Hp) (Q : Option Nat → Prop) (hw : w_X8_keptAt p1 h Q) : Con X yX8_keptAt M_X8_keptAt 0 0 0 [.ref (0), .int (p1)] h (QRec h Q) Qn :=
  con_of (by decide +kernel) rfl (Nat.le_of_ble_eq_true rfl) (t_X8_keptAt p1 h Q hw)
/-! ShadowTolls.image()I -/
abbrev M_X8_image : Mi := (RX8, cX8_image, 2, (some .int))
abbrev E_X8_image : Rm := (2, 59, 0, 0)
def rows_X8_image : List (Nat × Instr × Nat) := [(0, .aload_n 0, 1), (1, .aload_n 0, 1), (2, .getfield 126, 3), (5, .invokevirtual 333, 3), (8, .astore_n 1, 1), (9, .aload_n 1, 1), (10, .ifnonnull 5, 3), (13, .iconst (-1), 1), (14, .ireturn, 1), (15, .aload_n 1, 1), (16, .aload_n 0, 1), (17, .getfield 82, 3), (20, .invokevirtual 337, 3), (23, .aload_n 0, 1), (24, .dup, 1), (25, .getfield 126, 3), (28, .iconst 1, 1), (29, .iadd, 1), (30, .putfield 126, 3), (33, .aload_n 0, 1), (34, .getfield 126, 3), (37, .ireturn, 1)]
theorem D_X8_image : dkA cX8_image rows_X8_image := by
  unfold dkA
  decide +kernel
theorem okD_X8_image : okD yX8_image 0 := by
  unfold okD
  decide +kernel
def w_X8_image (h : Hp) (Q : Int32 → Hp → Prop) : Prop :=
  w_X8_keptAt ((h 0 15)) h (fun o => match o with | none => Q (-1 : Int32) h | some q1 => w_X3_copy q1 62 h (fun h2 => wlet (hup h2 0 15 ((h2 0 15) + (1 : Int32))) (fun h3 => Q (h3 0 15) h3)))
theorem t_X8_image {X : Cx} (h : Hp) (Q : Int32 → Hp → Prop) (hw : w_X8_image h Q) : G X M_X8_image E_X8_image (QM X E_X8_image (QI Q) Qn) 0 0 [(0, .ref (0))] [] h := by
  unfold w_X8_image at hw
  refine g_aload_n 0 (dk D_X8_image 0 rfl) rfl rfl ?_
  refine g_aload_n 0 (dk D_X8_image 1 rfl) rfl rfl ?_
  refine g_getI 15 (dk D_X8_image 2 rfl) kd_0 rfl rfl (by decide) w_449 rfl rfl ?_
  refine g_callV (As := [.int ((h 0 15))]) (kc := 0) (fr := 0) (lo := 0) (mc := 0) (My := M_X8_keptAt) (dk D_X8_image 3 rfl) kd_0 rfl rfl w_671 w_673 w_11 w_101 w_674 okD_X8_keptAt (by decide) (Nat.le_of_ble_eq_true rfl) rfl (c_X8_keptAt ((h 0 15)) (h) _ hw) kxN (kRec (fun hw => ?_) (fun q1 hq1 hw => ?_))
  · refine g_astore_nN (dk D_X8_image 4 rfl) rfl (by decide) rfl ?_
    refine g_aload_nN 0 (dk D_X8_image 5 rfl) rfl rfl ?_
    refine g_ifnonnullN (dk D_X8_image 6 rfl) ?_
    refine g_iconst (dk D_X8_image 7 rfl) ki_m1 ?_
    exact g_iret (dk D_X8_image 8 rfl) rfl ⟨_, rfl, hw⟩
  · refine g_astore_n (dk D_X8_image 4 rfl) rfl (by decide) rfl ?_
    refine g_aload_n 0 (dk D_X8_image 5 rfl) rfl rfl ?_
    refine g_ifnonnull (dk D_X8_image 6 rfl) rfl ?_
    refine g_aload_n 0 (dk D_X8_image 9 rfl) rfl rfl ?_
    refine g_aload_n 1 (dk D_X8_image 10 rfl) rfl rfl ?_
    refine g_getR 11 (t := 62) (dk D_X8_image 11 rfl) kd_0 rfl rfl (by decide) w_445 rfl rfl rfl ?_
    refine g_callV (As := [.ref (62)]) (kc := 0) (fr := 1) (lo := 30) (mc := 0) (My := M_X3_copy) (dk D_X8_image 12 rfl) hq1.1 rfl rfl w_675 w_676 w_677 w_109 w_678 okD_X3_copy (by decide) (Nat.le_of_ble_eq_true rfl) rfl (c_X3_copy q1 62 (hq1) (recP_62) (h) _ hw) kxN (kV (fun h2 hw => ?_))
    refine g_aload_n 1 (dk D_X8_image 13 rfl) rfl rfl ?_
    refine g_dup (dk D_X8_image 14 rfl) rfl ?_
    refine g_getI 15 (dk D_X8_image 15 rfl) kd_0 rfl rfl (by decide) w_449 rfl rfl ?_
    refine g_iconst (dk D_X8_image 16 rfl) ki_1 ?_
    refine g_iadd (dk D_X8_image 17 rfl) ?_
    refine g_put 15 (dk D_X8_image 18 rfl) kd_0 rfl rfl (by decide) w_449 rfl tyX8_ok nmX8 rfl (by decide) rfl (fun z => absurd z (by decide)) ?_
    refine g_heap (fun h3 eh3 => ?_)
    replace hw := hw _ eh3
    refine g_aload_n 1 (dk D_X8_image 19 rfl) rfl rfl ?_
    refine g_getI 15 (dk D_X8_image 20 rfl) kd_0 rfl rfl (by decide) w_449 rfl rfl ?_
    exact g_iret (dk D_X8_image 21 rfl) rfl ⟨_, rfl, hw⟩
theorem c_X8_image {X : Cx} (h : Hp) (Q : Int32 → Hp → Prop) (hw : w_X8_image h Q) : Con X yX8_image M_X8_image 2 59 0 [.ref (0)] h (QI Q) Qn :=
  con_of (by decide +kernel) rfl (Nat.le_of_ble_eq_true rfl) (t_X8_image h Q hw)
/-! ShadowTolls.restore()I -/
abbrev M_X8_restore : Mi := (RX8, cX8_restore, 2, (some .int))
abbrev E_X8_restore : Rm := (2, 59, 0, 0)
def rows_X8_restore : List (Nat × Instr × Nat) := [(0, .aload_n 0, 1), (1, .aload_n 0, 1), (2, .getfield 126, 3), (5, .iconst 1, 1), (6, .isub, 1), (7, .invokevirtual 333, 3), (10, .astore_n 1, 1), (11, .aload_n 1, 1), (12, .ifnonnull 5, 3), (15, .iconst (-1), 1), (16, .ireturn, 1), (17, .aload_n 0, 1), (18, .getfield 82, 3), (21, .aload_n 1, 1), (22, .invokevirtual 337, 3), (25, .aload_n 0, 1), (26, .dup, 1), (27, .getfield 126, 3), (30, .iconst 1, 1), (31, .isub, 1), (32, .putfield 126, 3), (35, .aload_n 0, 1), (36, .getfield 126, 3), (39, .ireturn, 1)]
theorem D_X8_restore : dkA cX8_restore rows_X8_restore := by
  unfold dkA
  decide +kernel
theorem okD_X8_restore : okD yX8_restore 0 := by
  unfold okD
  decide +kernel
def w_X8_restore (h : Hp) (Q : Int32 → Hp → Prop) : Prop :=
  w_X8_keptAt (((h 0 15) - (1 : Int32))) h (fun o => match o with | none => Q (-1 : Int32) h | some q1 => w_X3_copy 62 q1 h (fun h2 => wlet (hup h2 0 15 ((h2 0 15) - (1 : Int32))) (fun h3 => Q (h3 0 15) h3)))
theorem t_X8_restore {X : Cx} (h : Hp) (Q : Int32 → Hp → Prop) (hw : w_X8_restore h Q) : G X M_X8_restore E_X8_restore (QM X E_X8_restore (QI Q) Qn) 0 0 [(0, .ref (0))] [] h := by
  unfold w_X8_restore at hw
  refine g_aload_n 0 (dk D_X8_restore 0 rfl) rfl rfl ?_
  refine g_aload_n 0 (dk D_X8_restore 1 rfl) rfl rfl ?_
  refine g_getI 15 (dk D_X8_restore 2 rfl) kd_0 rfl rfl (by decide) w_449 rfl rfl ?_
  refine g_iconst (dk D_X8_restore 3 rfl) ki_1 ?_
  refine g_isub (dk D_X8_restore 4 rfl) ?_
  refine g_callV (As := [.int (((h 0 15) - (1 : Int32)))]) (kc := 0) (fr := 0) (lo := 0) (mc := 0) (My := M_X8_keptAt) (dk D_X8_restore 5 rfl) kd_0 rfl rfl w_671 w_673 w_11 w_101 w_674 okD_X8_keptAt (by decide) (Nat.le_of_ble_eq_true rfl) rfl (c_X8_keptAt (((h 0 15) - (1 : Int32))) (h) _ hw) kxN (kRec (fun hw => ?_) (fun q1 hq1 hw => ?_))
  · refine g_astore_nN (dk D_X8_restore 6 rfl) rfl (by decide) rfl ?_
    refine g_aload_nN 0 (dk D_X8_restore 7 rfl) rfl rfl ?_
    refine g_ifnonnullN (dk D_X8_restore 8 rfl) ?_
    refine g_iconst (dk D_X8_restore 9 rfl) ki_m1 ?_
    exact g_iret (dk D_X8_restore 10 rfl) rfl ⟨_, rfl, hw⟩
  · refine g_astore_n (dk D_X8_restore 6 rfl) rfl (by decide) rfl ?_
    refine g_aload_n 0 (dk D_X8_restore 7 rfl) rfl rfl ?_
    refine g_ifnonnull (dk D_X8_restore 8 rfl) rfl ?_
    refine g_aload_n 1 (dk D_X8_restore 11 rfl) rfl rfl ?_
    refine g_getR 11 (t := 62) (dk D_X8_restore 12 rfl) kd_0 rfl rfl (by decide) w_445 rfl rfl rfl ?_
    refine g_aload_n 0 (dk D_X8_restore 13 rfl) rfl rfl ?_
    refine g_callV (As := [.ref (q1)]) (kc := 0) (fr := 1) (lo := 30) (mc := 0) (My := M_X3_copy) (dk D_X8_restore 14 rfl) recP_62.1 rfl rfl w_675 w_676 w_677 w_109 w_678 okD_X3_copy (by decide) (Nat.le_of_ble_eq_true rfl) rfl (c_X3_copy 62 q1 (recP_62) (hq1) (h) _ hw) kxN (kV (fun h2 hw => ?_))
    refine g_aload_n 1 (dk D_X8_restore 15 rfl) rfl rfl ?_
    refine g_dup (dk D_X8_restore 16 rfl) rfl ?_
    refine g_getI 15 (dk D_X8_restore 17 rfl) kd_0 rfl rfl (by decide) w_449 rfl rfl ?_
    refine g_iconst (dk D_X8_restore 18 rfl) ki_1 ?_
    refine g_isub (dk D_X8_restore 19 rfl) ?_
    refine g_put 15 (dk D_X8_restore 20 rfl) kd_0 rfl rfl (by decide) w_449 rfl tyX8_ok nmX8 rfl (by decide) rfl (fun z => absurd z (by decide)) ?_
    refine g_heap (fun h3 eh3 => ?_)
    replace hw := hw _ eh3
    refine g_aload_n 1 (dk D_X8_restore 21 rfl) rfl rfl ?_
    refine g_getI 15 (dk D_X8_restore 22 rfl) kd_0 rfl rfl (by decide) w_449 rfl rfl ?_
    exact g_iret (dk D_X8_restore 23 rfl) rfl ⟨_, rfl, hw⟩
theorem c_X8_restore {X : Cx} (h : Hp) (Q : Int32 → Hp → Prop) (hw : w_X8_restore h Q) : Con X yX8_restore M_X8_restore 2 59 0 [.ref (0)] h (QI Q) Qn :=
  con_of (by decide +kernel) rfl (Nat.le_of_ble_eq_true rfl) (t_X8_restore h Q hw)
/-! ShadowTolls.count(I)I -/
abbrev M_X8_count : Mi := (RX8, cX8_count, 2, (some .int))
abbrev E_X8_count : Rm := (2, 59, 0, 0)
def rows_X8_count : List (Nat × Instr × Nat) := [(0, .iload_n 1, 1), (1, .tableswitch 72 0 4 #[35, 43, 51, 59, 64], 35), (36, .aload_n 0, 1), (37, .getfield 82, 3), (40, .getfield 262, 3), (43, .ireturn, 1), (44, .aload_n 0, 1), (45, .getfield 82, 3), (48, .getfield 303, 3), (51, .ireturn, 1), (52, .aload_n 0, 1), (53, .getfield 82, 3), (56, .invokevirtual 340, 3), (59, .ireturn, 1), (60, .aload_n 0, 1), (61, .getfield 126, 3), (64, .ireturn, 1), (65, .aload_n 0, 1), (66, .getfield 10, 3), (69, .getfield 102, 3), (72, .ireturn, 1), (73, .iconst (-1), 1), (74, .ireturn, 1)]
theorem D_X8_count : dkA cX8_count rows_X8_count := by
  unfold dkA
  decide +kernel
theorem okD_X8_count : okD yX8_count 1 := by
  unfold okD
  decide +kernel
def w_X8_count (p1 : Int32) (h : Hp) (Q : Int32 → Prop) : Prop :=
  wsw p1 [((0 : Int32), Q (h 62 6)), ((1 : Int32), Q (h 62 7)), ((2 : Int32), w_X3_daysWritten 62 h (fun z1 => Q z1)), ((3 : Int32), Q (h 0 15)), ((4 : Int32), Q (h 1 1))] (Q (-1 : Int32))
theorem t_X8_count {X : Cx} (p1 : Int32) (h : Hp) (Q : Int32 → Prop) (hw : w_X8_count p1 h Q) : G X M_X8_count E_X8_count (QM X E_X8_count (QIp h Q) Qn) 0 0 [(0, .ref (0)), (1, .int (p1))] [] h := by
  unfold w_X8_count at hw
  refine g_iload_n 1 (dk D_X8_count 0 rfl) rfl rfl ?_
  refine g_sw [((0 : Int32), 36), ((1 : Int32), 44), ((2 : Int32), 52), ((3 : Int32), 60), ((4 : Int32), 65)] 73 (dk D_X8_count 1 rfl) (by decide +kernel) (by decide +kernel) (by decide) (by decide) (wsw_m hw ⟨rfl, (fun hw => ?_), rfl, (fun hw => ?_), rfl, (fun hw => ?_), rfl, (fun hw => ?_), rfl, (fun hw => ?_), trivial⟩ (fun hw => ?_))
  · refine g_aload_n 0 (dk D_X8_count 2 rfl) rfl rfl ?_
    refine g_getR 11 (t := 62) (dk D_X8_count 3 rfl) kd_0 rfl rfl (by decide) w_445 rfl rfl rfl ?_
    refine g_getNI 6 (dk D_X8_count 4 rfl) recP_62.1 rfl rfl (by decide) w_413 rfl rfl ?_
    exact g_iret (dk D_X8_count 5 rfl) rfl ⟨_, rfl, rfl, hw⟩
  · refine g_aload_n 0 (dk D_X8_count 6 rfl) rfl rfl ?_
    refine g_getR 11 (t := 62) (dk D_X8_count 7 rfl) kd_0 rfl rfl (by decide) w_445 rfl rfl rfl ?_
    refine g_getNI 7 (dk D_X8_count 8 rfl) recP_62.1 rfl rfl (by decide) w_415 rfl rfl ?_
    exact g_iret (dk D_X8_count 9 rfl) rfl ⟨_, rfl, rfl, hw⟩
  · refine g_aload_n 0 (dk D_X8_count 10 rfl) rfl rfl ?_
    refine g_getR 11 (t := 62) (dk D_X8_count 11 rfl) kd_0 rfl rfl (by decide) w_445 rfl rfl rfl ?_
    refine g_callV (As := []) (kc := 0) (fr := 1) (lo := 29) (mc := 0) (My := M_X3_daysWritten) (dk D_X8_count 12 rfl) recP_62.1 rfl rfl w_690 w_691 w_692 w_109 w_693 okD_X3_daysWritten (by decide) (Nat.le_of_ble_eq_true rfl) rfl (c_X3_daysWritten 62 (recP_62) (h) _ hw) kxN (kIp (fun z1 hw => ?_))
    exact g_iret (dk D_X8_count 13 rfl) rfl ⟨_, rfl, rfl, hw⟩
  · refine g_aload_n 0 (dk D_X8_count 14 rfl) rfl rfl ?_
    refine g_getI 15 (dk D_X8_count 15 rfl) kd_0 rfl rfl (by decide) w_449 rfl rfl ?_
    exact g_iret (dk D_X8_count 16 rfl) rfl ⟨_, rfl, rfl, hw⟩
  · refine g_aload_n 0 (dk D_X8_count 17 rfl) rfl rfl ?_
    refine g_getR 0 (t := 1) (dk D_X8_count 18 rfl) kd_0 rfl rfl (by decide) w_434 rfl rfl rfl ?_
    refine g_getNI 1 (dk D_X8_count 19 rfl) kd_1 rfl rfl (by decide) w_140 rfl rfl ?_
    exact g_iret (dk D_X8_count 20 rfl) rfl ⟨_, rfl, rfl, hw⟩
  · refine g_iconst (dk D_X8_count 21 rfl) ki_m1 ?_
    exact g_iret (dk D_X8_count 22 rfl) rfl ⟨_, rfl, rfl, hw⟩
theorem c_X8_count {X : Cx} (p1 : Int32) (h : Hp) (Q : Int32 → Prop) (hw : w_X8_count p1 h Q) : Con X yX8_count M_X8_count 2 59 0 [.ref (0), .int (p1)] h (QIp h Q) Qn :=
  con_of (by decide +kernel) rfl (Nat.le_of_ble_eq_true rfl) (t_X8_count p1 h Q hw)
/-! ShadowTollsModel.thrown()I -/
abbrev M_X9_thrown : Mi := (RX9, cX9_thrown, 1, (some .int))
abbrev E_X9_thrown : Rm := (0, 0, 0, 0)
def rows_X9_thrown : List (Nat × Instr × Nat) := [(0, .aload_n 0, 1), (1, .getfield 111, 3), (4, .ireturn, 1)]
theorem D_X9_thrown : dkA cX9_thrown rows_X9_thrown := by
  unfold dkA
  decide +kernel
theorem okD_X9_thrown : okD yX9_thrown 0 := by
  unfold okD
  decide +kernel
def w_X9_thrown (h : Hp) (Q : Int32 → Prop) : Prop :=
  Q (h 92 0)
theorem t_X9_thrown {X : Cx} (h : Hp) (Q : Int32 → Prop) (hw : w_X9_thrown h Q) : G X M_X9_thrown E_X9_thrown (QM X E_X9_thrown (QIp h Q) Qn) 0 0 [(0, .ref (92))] [] h := by
  unfold w_X9_thrown at hw
  refine g_aload_n 0 (dk D_X9_thrown 0 rfl) rfl rfl ?_
  refine g_getI 0 (dk D_X9_thrown 1 rfl) kd_92 rfl rfl (by decide) w_1357 rfl rfl ?_
  exact g_iret (dk D_X9_thrown 2 rfl) rfl ⟨_, rfl, rfl, hw⟩
theorem c_X9_thrown {X : Cx} (h : Hp) (Q : Int32 → Prop) (hw : w_X9_thrown h Q) : Con X yX9_thrown M_X9_thrown 0 0 0 [.ref (92)] h (QIp h Q) Qn :=
  con_of (by decide +kernel) rfl (Nat.le_of_ble_eq_true rfl) (t_X9_thrown h Q hw)
/-! ShadowTollsModel.bad(ZI)Z -/
abbrev M_X9_bad : Mi := (RX9, cX9_bad, 3, (some .boolean))
abbrev E_X9_bad : Rm := (0, 0, 0, 0)
def rows_X9_bad : List (Nat × Instr × Nat) := [(0, .iload_n 1, 1), (1, .ifCond .eq 15, 3), (4, .aload_n 0, 1), (5, .getfield 111, 3), (8, .ifCond .ne 8, 3), (11, .aload_n 0, 1), (12, .iload_n 2, 1), (13, .putfield 111, 3), (16, .aload_n 0, 1), (17, .getfield 111, 3), (20, .ifCond .eq 7, 3), (23, .iconst 1, 1), (24, .goto 4, 3), (27, .iconst 0, 1), (28, .ireturn, 1)]
theorem D_X9_bad : dkA cX9_bad rows_X9_bad := by
  unfold dkA
  decide +kernel
theorem okD_X9_bad : okD yX9_bad 2 := by
  unfold okD
  decide +kernel
def w_X9_bad_b16 (p1 : Int32) (p2 : Int32) (h : Hp) (Q : Int32 → Hp → Prop) : Prop :=
  Q ((if (h 92 0) = 0 then (0 : Int32) else (1 : Int32)) &&& 1) h
def w_X9_bad (p1 : Int32) (p2 : Int32) (h : Hp) (Q : Int32 → Hp → Prop) : Prop :=
  wif (p1 = 0) (w_X9_bad_b16 p1 p2 (h) Q) (wif (¬ (h 92 0) = 0) (w_X9_bad_b16 p1 p2 (h) Q) (wlet (hup h 92 0 p2) (fun h4 => w_X9_bad_b16 p1 p2 (h4) Q)))
theorem t_X9_bad_b16 {X : Cx} (p1 : Int32) (p2 : Int32) (h : Hp) (Q : Int32 → Hp → Prop) (hw : w_X9_bad_b16 p1 p2 h Q) : G X M_X9_bad E_X9_bad (QM X E_X9_bad (QI Q) Qn) 0 16 [(0, .ref (92))] [] h := by
  unfold w_X9_bad_b16 at hw
  refine g_aload_n 0 (dk D_X9_bad 8 rfl) rfl rfl ?_
  refine g_getI 0 (dk D_X9_bad 9 rfl) kd_92 rfl rfl (by decide) w_1357 rfl rfl ?_
  have hj : G X M_X9_bad E_X9_bad (QM X E_X9_bad (QI Q) Qn) 0 28 [(0, .ref (92))] [.int ((if (h 92 0) = 0 then (0 : Int32) else (1 : Int32)))] (h) := by
    exact g_zret (dk D_X9_bad 14 rfl) rfl ⟨_, rfl, hw⟩
  refine g_if_eq (dk D_X9_bad 10 rfl) rfl ?_
  by_cases c1 : (h 92 0) = 0
  · rw [if_pos c1] at hj
    refine wif_p c1 ?_
    refine g_iconst (dk D_X9_bad 13 rfl) ki_0 ?_
    exact hj
  · rw [if_neg c1] at hj
    refine wif_n c1 ?_
    refine g_iconst (dk D_X9_bad 11 rfl) ki_1 ?_
    refine g_goto (dk D_X9_bad 12 rfl) rfl ?_
    exact hj
theorem t_X9_bad {X : Cx} (p1 : Int32) (p2 : Int32) (h : Hp) (Q : Int32 → Hp → Prop) (hw : w_X9_bad p1 p2 h Q) : G X M_X9_bad E_X9_bad (QM X E_X9_bad (QI Q) Qn) 0 0 [(0, .ref (92)), (1, .int (p1)), (2, .int (p2))] [] h := by
  unfold w_X9_bad at hw
  refine g_iload_n 1 (dk D_X9_bad 0 rfl) rfl rfl ?_
  refine g_if_eq (dk D_X9_bad 1 rfl) rfl (wif_m hw (fun hw => ?_) (fun hw => ?_))
  · refine g_sub [0] rfl ?_
    exact t_X9_bad_b16 p1 p2 (h) Q hw
  · refine g_aload_n 0 (dk D_X9_bad 2 rfl) rfl rfl ?_
    refine g_getI 0 (dk D_X9_bad 3 rfl) kd_92 rfl rfl (by decide) w_1357 rfl rfl ?_
    refine g_if_ne (dk D_X9_bad 4 rfl) rfl (wif_m hw (fun hw => ?_) (fun hw => ?_))
    · refine g_sub [0] rfl ?_
      exact t_X9_bad_b16 p1 p2 (h) Q hw
    · refine g_aload_n 0 (dk D_X9_bad 5 rfl) rfl rfl ?_
      refine g_iload_n 2 (dk D_X9_bad 6 rfl) rfl rfl ?_
      refine g_put 0 (dk D_X9_bad 7 rfl) kd_92 rfl rfl (by decide) w_1357 rfl tyX9_ok nmX9 rfl (by decide) rfl (fun z => absurd z (by decide)) ?_
      refine g_heap (fun h4 eh4 => ?_)
      replace hw := hw _ eh4
      refine g_sub [0] rfl ?_
      exact t_X9_bad_b16 p1 p2 (h4) Q hw
theorem c_X9_bad {X : Cx} (p1 : Int32) (p2 : Int32) (h : Hp) (Q : Int32 → Hp → Prop) (hw : w_X9_bad p1 p2 h Q) : Con X yX9_bad M_X9_bad 0 0 0 [.ref (92), .int (p1), .int (p2)] h (QI Q) Qn :=
  con_of (by decide +kernel) rfl (Nat.le_of_ble_eq_true rfl) (t_X9_bad p1 p2 h Q hw)
/-! ShadowTollsModel.in(III)Z -/
abbrev M_X9_in : Mi := (RX9, cX9_in, 3, (some .boolean))
abbrev E_X9_in : Rm := (0, 0, 0, 0)
def rows_X9_in : List (Nat × Instr × Nat) := [(0, .iload_n 0, 1), (1, .iload_n 1, 1), (2, .if_icmp .lt 12, 3), (5, .iload_n 0, 1), (6, .iload_n 2, 1), (7, .if_icmp .gt 7, 3), (10, .iconst 1, 1), (11, .goto 4, 3), (14, .iconst 0, 1), (15, .ireturn, 1)]
theorem D_X9_in : dkA cX9_in rows_X9_in := by
  unfold dkA
  decide +kernel
theorem okD_X9_in : okD yX9_in 3 := by
  unfold okD
  decide +kernel
def w_X9_in (p0 : Int32) (p1 : Int32) (p2 : Int32) (h : Hp) (Q : Int32 → Prop) : Prop :=
  Q ((if p0 < p1 then (0 : Int32) else (if p2 < p0 then (0 : Int32) else (1 : Int32))) &&& 1)
theorem t_X9_in {X : Cx} (p0 : Int32) (p1 : Int32) (p2 : Int32) (h : Hp) (Q : Int32 → Prop) (hw : w_X9_in p0 p1 p2 h Q) : G X M_X9_in E_X9_in (QM X E_X9_in (QIp h Q) Qn) 0 0 [(0, .int (p0)), (1, .int (p1)), (2, .int (p2))] [] h := by
  unfold w_X9_in at hw
  refine g_iload_n 0 (dk D_X9_in 0 rfl) rfl rfl ?_
  refine g_iload_n 1 (dk D_X9_in 1 rfl) rfl rfl ?_
  have hj : G X M_X9_in E_X9_in (QM X E_X9_in (QIp h Q) Qn) 0 15 [(0, .int (p0)), (1, .int (p1)), (2, .int (p2))] [.int ((if p0 < p1 then (0 : Int32) else (if p2 < p0 then (0 : Int32) else (1 : Int32))))] (h) := by
    exact g_zret (dk D_X9_in 9 rfl) rfl ⟨_, rfl, rfl, hw⟩
  refine g_icmp_lt (dk D_X9_in 2 rfl) rfl ?_
  by_cases c2 : p0 < p1
  · rw [if_pos c2] at hj
    refine wif_p c2 ?_
    refine g_iconst (dk D_X9_in 8 rfl) ki_0 ?_
    exact hj
  · rw [if_neg c2] at hj
    refine wif_n c2 ?_
    refine g_iload_n 0 (dk D_X9_in 3 rfl) rfl rfl ?_
    refine g_iload_n 2 (dk D_X9_in 4 rfl) rfl rfl ?_
    refine g_icmp_gt (dk D_X9_in 5 rfl) rfl ?_
    by_cases c1 : p2 < p0
    · rw [if_pos c1] at hj
      refine wif_p c1 ?_
      refine g_iconst (dk D_X9_in 8 rfl) ki_0 ?_
      exact hj
    · rw [if_neg c1] at hj
      refine wif_n c1 ?_
      refine g_iconst (dk D_X9_in 6 rfl) ki_1 ?_
      refine g_goto (dk D_X9_in 7 rfl) rfl ?_
      exact hj
theorem c_X9_in {X : Cx} (p0 : Int32) (p1 : Int32) (p2 : Int32) (h : Hp) (Q : Int32 → Prop) (hw : w_X9_in p0 p1 p2 h Q) : Con X yX9_in M_X9_in 0 0 0 [.int (p0), .int (p1), .int (p2)] h (QIp h Q) Qn :=
  con_of (by decide +kernel) rfl (Nat.le_of_ble_eq_true rfl) (t_X9_in p0 p1 p2 h Q hw)
/-! ShadowTollsModel.amount(I)I -/
abbrev M_X9_amount : Mi := (RX9, cX9_amount, 1, (some .int))
abbrev E_X9_amount : Rm := (0, 0, 0, 0)
def rows_X9_amount : List (Nat × Instr × Nat) := [(0, .iload_n 0, 1), (1, .ifCond .ge 8, 3), (4, .iload_n 0, 1), (5, .ineg, 1), (6, .goto 4, 3), (9, .iload_n 0, 1), (10, .ireturn, 1)]
theorem D_X9_amount : dkA cX9_amount rows_X9_amount := by
  unfold dkA
  decide +kernel
theorem okD_X9_amount : okD yX9_amount 1 := by
  unfold okD
  decide +kernel
def w_X9_amount (p0 : Int32) (h : Hp) (Q : Int32 → Prop) : Prop :=
  Q (if 0 ≤ p0 then p0 else (0 - p0))
theorem t_X9_amount {X : Cx} (p0 : Int32) (h : Hp) (Q : Int32 → Prop) (hw : w_X9_amount p0 h Q) : G X M_X9_amount E_X9_amount (QM X E_X9_amount (QIp h Q) Qn) 0 0 [(0, .int (p0))] [] h := by
  unfold w_X9_amount at hw
  refine g_iload_n 0 (dk D_X9_amount 0 rfl) rfl rfl ?_
  have hj : G X M_X9_amount E_X9_amount (QM X E_X9_amount (QIp h Q) Qn) 0 10 [(0, .int (p0))] [.int ((if 0 ≤ p0 then p0 else (0 - p0)))] (h) := by
    exact g_iret (dk D_X9_amount 6 rfl) rfl ⟨_, rfl, rfl, hw⟩
  refine g_if_ge (dk D_X9_amount 1 rfl) rfl ?_
  by_cases c1 : 0 ≤ p0
  · rw [if_pos c1] at hj
    refine wif_p c1 ?_
    refine g_iload_n 0 (dk D_X9_amount 5 rfl) rfl rfl ?_
    exact hj
  · rw [if_neg c1] at hj
    refine wif_n c1 ?_
    refine g_iload_n 0 (dk D_X9_amount 2 rfl) rfl rfl ?_
    refine g_ineg (dk D_X9_amount 3 rfl) ?_
    refine g_goto (dk D_X9_amount 4 rfl) rfl ?_
    exact hj
theorem c_X9_amount {X : Cx} (p0 : Int32) (h : Hp) (Q : Int32 → Prop) (hw : w_X9_amount p0 h Q) : Con X yX9_amount M_X9_amount 0 0 0 [.int (p0)] h (QIp h Q) Qn :=
  con_of (by decide +kernel) rfl (Nat.le_of_ble_eq_true rfl) (t_X9_amount p0 h Q hw)
/-! ShadowTollsModel.blank([I[I[I)V -/
abbrev M_X9_blank : Mi := (RX9, cX9_blank, 4, none)
abbrev E_X9_blank : Rm := (0, 0, 0, 0)
def rows_X9_blank : List (Nat × Instr × Nat) := [(0, .iconst 0, 1), (1, .istore_n 3, 1), (2, .iload_n 3, 1), (3, .bipush 11, 2), (5, .if_icmp .ge 54, 3), (8, .aload_n 0, 1), (9, .iload_n 3, 1), (10, .iload_n 3, 1), (11, .iconst 1, 1), (12, .if_icmp .ne 7, 3), (15, .iconst 4, 1), (16, .goto 36, 3), (19, .iload_n 3, 1), (20, .iconst 2, 1), (21, .if_icmp .ne 9, 3), (24, .sipush 360, 3), (27, .goto 25, 3), (30, .iload_n 3, 1), (31, .iconst 3, 1), (32, .if_icmp .ne 9, 3), (35, .sipush 1080, 3), (38, .goto 14, 3), (41, .iload_n 3, 1), (42, .iconst 4, 1), (43, .if_icmp .ne 8, 3), (46, .bipush 30, 2), (48, .goto 4, 3), (51, .iconst 0, 1), (52, .iastore, 1), (53, .iinc 3 1, 3), (56, .goto (-54), 3), (59, .iconst 0, 1), (60, .istore_n 3, 1), (61, .iload_n 3, 1), (62, .bipush 30, 2), (64, .if_icmp .ge 17, 3), (67, .aload_n 1, 1), (68, .iload_n 3, 1), (69, .iconst (-1), 1), (70, .iastore, 1), (71, .aload_n 2, 1), (72, .iload_n 3, 1), (73, .iconst 0, 1), (74, .iastore, 1), (75, .iinc 3 1, 3), (78, .goto (-17), 3), (81, .return_, 1)]
theorem D_X9_blank : dkA cX9_blank rows_X9_blank := by
  unfold dkA
  decide +kernel
theorem okD_X9_blank : okD yX9_blank 3 := by
  unfold okD
  decide +kernel
def w_X9_blank_l61 (r0 : Nat) (n0 : Nat) (r1 : Nat) (n1 : Nat) (r2 : Nat) (n2 : Nat) (Q : Hp → Prop) (K61 : Int32 × Hp → Prop) (v3 : Int32) (h : Hp) : Prop :=
  wif ((30 : Int32) ≤ v3) (Q h) ((vp_in v3 n1 ∧ wlet (hup h r1 (Int32.toNatClampNeg v3) (-1 : Int32)) (fun h2 => (vp_in v3 n2 ∧ wlet (hup h2 r2 (Int32.toNatClampNeg v3) (0 : Int32)) (fun h4 => K61 ((v3 + (1 : Int32)), h4))))))
def w_X9_blank_b61 (r0 : Nat) (n0 : Nat) (r1 : Nat) (n1 : Nat) (r2 : Nat) (n2 : Nat) (Q : Hp → Prop) (s : Int32 × Hp) : Prop := wl (fun K s => w_X9_blank_l61 r0 n0 r1 n1 r2 n2 Q K s.1 s.2) s
def w_X9_blank_b52 (r0 : Nat) (n0 : Nat) (r1 : Nat) (n1 : Nat) (r2 : Nat) (n2 : Nat) (v3 : Int32) (s0 : Int32) (s1 : Int32) (K2 : Int32 × Hp → Prop) (h : Hp) (Q : Hp → Prop) : Prop :=
  (vp_in s1 n0 ∧ wlet (hup h r0 (Int32.toNatClampNeg s1) s0) (fun h2 => K2 ((v3 + (1 : Int32)), h2)))
def w_X9_blank_l2 (r0 : Nat) (n0 : Nat) (r1 : Nat) (n1 : Nat) (r2 : Nat) (n2 : Nat) (Q : Hp → Prop) (K2 : Int32 × Hp → Prop) (v3 : Int32) (h : Hp) : Prop :=
  wif ((11 : Int32) ≤ v3) (w_X9_blank_b61 r0 n0 r1 n1 r2 n2 Q ((0 : Int32), h)) (wif (¬ v3 = (1 : Int32)) ((vp_in v3 n0 ∧ wlet (hup h r0 (Int32.toNatClampNeg v3) (if ¬ v3 = (2 : Int32) then (if ¬ v3 = (3 : Int32) then (if ¬ v3 = (4 : Int32) then (0 : Int32) else (30 : Int32)) else (1080 : Int32)) else (360 : Int32))) (fun h5 => K2 ((v3 + (1 : Int32)), h5)))) (w_X9_blank_b52 r0 n0 r1 n1 r2 n2 (v3) ((4 : Int32)) (v3) K2 (h) Q))
def w_X9_blank_b2 (r0 : Nat) (n0 : Nat) (r1 : Nat) (n1 : Nat) (r2 : Nat) (n2 : Nat) (Q : Hp → Prop) (s : Int32 × Hp) : Prop := wl (fun K s => w_X9_blank_l2 r0 n0 r1 n1 r2 n2 Q K s.1 s.2) s
def w_X9_blank (r0 : Nat) (n0 : Nat) (r1 : Nat) (n1 : Nat) (r2 : Nat) (n2 : Nat) (h : Hp) (Q : Hp → Prop) : Prop :=
  w_X9_blank_b2 r0 n0 r1 n1 r2 n2 Q ((0 : Int32), h)
theorem t_X9_blank_l61 {X : Cx} (r0 : Nat) (n0 : Nat) (r1 : Nat) (n1 : Nat) (r2 : Nat) (n2 : Nat) (Q : Hp → Prop) (K61 : Int32 × Hp → Prop) (v3 : Int32) (h : Hp) (hr0 : kd r0 = (1, n0, 0, 0, 0)) (hr1 : kd r1 = (1, n1, 0, 0, 0)) (hr2 : kd r2 = (1, n2, 0, 0, 0)) (hK61 : ∀ s : Int32 × Hp, K61 s → G X M_X9_blank E_X9_blank (QM X E_X9_blank (QV Q) Qn) 0 61 [(1, .ref (r1)), (2, .ref (r2)), (3, .int (s.1))] [] (s.2)) (hw : w_X9_blank_l61 r0 n0 r1 n1 r2 n2 Q K61 v3 h) : G X M_X9_blank E_X9_blank (QM X E_X9_blank (QV Q) Qn) 0 61 [(1, .ref (r1)), (2, .ref (r2)), (3, .int (v3))] [] h := by
  unfold w_X9_blank_l61 at hw
  refine g_iload_n 2 (dk D_X9_blank 33 rfl) rfl rfl ?_
  refine g_bipush (dk D_X9_blank 34 rfl) kb_30 ?_
  refine g_icmp_ge (dk D_X9_blank 35 rfl) rfl (wif_m hw (fun hw => ?_) (fun hw => ?_))
  · exact g_vret (dk D_X9_blank 46 rfl) rfl ⟨rfl, hw⟩
  · refine g_aload_n 0 (dk D_X9_blank 36 rfl) rfl rfl ?_
    refine g_iload_n 2 (dk D_X9_blank 37 rfl) rfl rfl ?_
    refine g_iconst (dk D_X9_blank 38 rfl) ki_m1 ?_
    obtain ⟨hi1, hw⟩ := hw
    refine g_iast (dk D_X9_blank 39 rfl) hr1 hi1 ?_
    refine g_heap (fun h2 eh2 => ?_)
    replace hw := hw _ eh2
    refine g_aload_n 1 (dk D_X9_blank 40 rfl) rfl rfl ?_
    refine g_iload_n 2 (dk D_X9_blank 41 rfl) rfl rfl ?_
    refine g_iconst (dk D_X9_blank 42 rfl) ki_0 ?_
    obtain ⟨hi3, hw⟩ := hw
    refine g_iast (dk D_X9_blank 43 rfl) hr2 hi3 ?_
    refine g_heap (fun h4 eh4 => ?_)
    replace hw := hw _ eh4
    refine g_iinc 2 (dk D_X9_blank 44 rfl) rfl (congrArg (fun z => _ + z) ki_1) (by decide) rfl ?_
    refine g_goto (dk D_X9_blank 45 rfl) rfl ?_
    refine g_sub [1, 2, 0] rfl ?_
    exact hK61 ((v3 + (1 : Int32)), h4) hw
theorem t_X9_blank_b61 {X : Cx} (r0 : Nat) (n0 : Nat) (r1 : Nat) (n1 : Nat) (r2 : Nat) (n2 : Nat) (Q : Hp → Prop) (s : Int32 × Hp) (hr0 : kd r0 = (1, n0, 0, 0, 0)) (hr1 : kd r1 = (1, n1, 0, 0, 0)) (hr2 : kd r2 = (1, n2, 0, 0, 0)) (hw : w_X9_blank_b61 r0 n0 r1 n1 r2 n2 Q s) : G X M_X9_blank E_X9_blank (QM X E_X9_blank (QV Q) Qn) 0 61 [(1, .ref (r1)), (2, .ref (r2)), (3, .int (s.1))] [] (s.2) :=
  wl_ind (B := fun K s => w_X9_blank_l61 r0 n0 r1 n1 r2 n2 Q K (s.1) (s.2)) (P := fun s => G X M_X9_blank E_X9_blank (QM X E_X9_blank (QV Q) Qn) 0 61 [(1, .ref (r1)), (2, .ref (r2)), (3, .int (s.1))] [] (s.2)) (fun K hK s hw => t_X9_blank_l61 r0 n0 r1 n1 r2 n2 Q K (s.1) (s.2) hr0 hr1 hr2 hK hw) s hw
theorem t_X9_blank_b52 {X : Cx} (r0 : Nat) (n0 : Nat) (r1 : Nat) (n1 : Nat) (r2 : Nat) (n2 : Nat) (v3 : Int32) (s0 : Int32) (s1 : Int32) (K2 : Int32 × Hp → Prop) (h : Hp) (Q : Hp → Prop) (hr0 : kd r0 = (1, n0, 0, 0, 0)) (hr1 : kd r1 = (1, n1, 0, 0, 0)) (hr2 : kd r2 = (1, n2, 0, 0, 0)) (hK2 : ∀ s : Int32 × Hp, K2 s → G X M_X9_blank E_X9_blank (QM X E_X9_blank (QV Q) Qn) 0 2 [(0, .ref (r0)), (1, .ref (r1)), (2, .ref (r2)), (3, .int (s.1))] [] (s.2)) (hw : w_X9_blank_b52 r0 n0 r1 n1 r2 n2 v3 s0 s1 K2 h Q) : G X M_X9_blank E_X9_blank (QM X E_X9_blank (QV Q) Qn) 0 52 [(0, .ref (r0)), (1, .ref (r1)), (2, .ref (r2)), (3, .int (v3))] [.int (s0), .int (s1), .ref (r0)] h := by
  unfold w_X9_blank_b52 at hw
  obtain ⟨hi1, hw⟩ := hw
  refine g_iast (dk D_X9_blank 28 rfl) hr0 hi1 ?_
  refine g_heap (fun h2 eh2 => ?_)
  replace hw := hw _ eh2
  refine g_iinc 3 (dk D_X9_blank 29 rfl) rfl (congrArg (fun z => _ + z) ki_1) (by decide) rfl ?_
  refine g_goto (dk D_X9_blank 30 rfl) rfl ?_
  refine g_sub [1, 2, 3, 0] rfl ?_
  exact hK2 ((v3 + (1 : Int32)), h2) hw
theorem t_X9_blank_l2 {X : Cx} (r0 : Nat) (n0 : Nat) (r1 : Nat) (n1 : Nat) (r2 : Nat) (n2 : Nat) (Q : Hp → Prop) (K2 : Int32 × Hp → Prop) (v3 : Int32) (h : Hp) (hr0 : kd r0 = (1, n0, 0, 0, 0)) (hr1 : kd r1 = (1, n1, 0, 0, 0)) (hr2 : kd r2 = (1, n2, 0, 0, 0)) (hK2 : ∀ s : Int32 × Hp, K2 s → G X M_X9_blank E_X9_blank (QM X E_X9_blank (QV Q) Qn) 0 2 [(0, .ref (r0)), (1, .ref (r1)), (2, .ref (r2)), (3, .int (s.1))] [] (s.2)) (hw : w_X9_blank_l2 r0 n0 r1 n1 r2 n2 Q K2 v3 h) : G X M_X9_blank E_X9_blank (QM X E_X9_blank (QV Q) Qn) 0 2 [(0, .ref (r0)), (1, .ref (r1)), (2, .ref (r2)), (3, .int (v3))] [] h := by
  unfold w_X9_blank_l2 at hw
  refine g_iload_n 3 (dk D_X9_blank 2 rfl) rfl rfl ?_
  refine g_bipush (dk D_X9_blank 3 rfl) kb_11 ?_
  refine g_icmp_ge (dk D_X9_blank 4 rfl) rfl (wif_m hw (fun hw => ?_) (fun hw => ?_))
  · refine g_iconst (dk D_X9_blank 31 rfl) ki_0 ?_
    refine g_istore_n (dk D_X9_blank 32 rfl) rfl (by decide) rfl ?_
    refine g_sub [2, 3, 0] rfl ?_
    exact t_X9_blank_b61 r0 n0 r1 n1 r2 n2 Q ((0 : Int32), h) hr0 hr1 hr2 hw
  · refine g_aload_n 0 (dk D_X9_blank 5 rfl) rfl rfl ?_
    refine g_iload_n 3 (dk D_X9_blank 6 rfl) rfl rfl ?_
    refine g_iload_n 3 (dk D_X9_blank 7 rfl) rfl rfl ?_
    refine g_iconst (dk D_X9_blank 8 rfl) ki_1 ?_
    refine g_icmp_ne (dk D_X9_blank 9 rfl) rfl (wif_m hw (fun hw => ?_) (fun hw => ?_))
    · refine g_iload_n 3 (dk D_X9_blank 12 rfl) rfl rfl ?_
      refine g_iconst (dk D_X9_blank 13 rfl) ki_2 ?_
      have hj : G X M_X9_blank E_X9_blank (QM X E_X9_blank (QV Q) Qn) 0 52 [(0, .ref (r0)), (1, .ref (r1)), (2, .ref (r2)), (3, .int (v3))] [.int ((if ¬ v3 = (2 : Int32) then (if ¬ v3 = (3 : Int32) then (if ¬ v3 = (4 : Int32) then (0 : Int32) else (30 : Int32)) else (1080 : Int32)) else (360 : Int32))), .int (v3), .ref (r0)] (h) := by
        obtain ⟨hi4, hw⟩ := hw
        refine g_iast (dk D_X9_blank 28 rfl) hr0 hi4 ?_
        refine g_heap (fun h5 eh5 => ?_)
        replace hw := hw _ eh5
        refine g_iinc 3 (dk D_X9_blank 29 rfl) rfl (congrArg (fun z => _ + z) ki_1) (by decide) rfl ?_
        refine g_goto (dk D_X9_blank 30 rfl) rfl ?_
        refine g_sub [1, 2, 3, 0] rfl ?_
        exact hK2 ((v3 + (1 : Int32)), h5) hw
      refine g_icmp_ne (dk D_X9_blank 14 rfl) rfl ?_
      by_cases c3 : ¬ v3 = (2 : Int32)
      · rw [if_pos c3] at hj
        refine wif_p c3 ?_
        refine g_iload_n 3 (dk D_X9_blank 17 rfl) rfl rfl ?_
        refine g_iconst (dk D_X9_blank 18 rfl) ki_3 ?_
        refine g_icmp_ne (dk D_X9_blank 19 rfl) rfl ?_
        by_cases c2 : ¬ v3 = (3 : Int32)
        · rw [if_pos c2] at hj
          refine wif_p c2 ?_
          refine g_iload_n 3 (dk D_X9_blank 22 rfl) rfl rfl ?_
          refine g_iconst (dk D_X9_blank 23 rfl) ki_4 ?_
          refine g_icmp_ne (dk D_X9_blank 24 rfl) rfl ?_
          by_cases c1 : ¬ v3 = (4 : Int32)
          · rw [if_pos c1] at hj
            refine wif_p c1 ?_
            refine g_iconst (dk D_X9_blank 27 rfl) ki_0 ?_
            exact hj
          · rw [if_neg c1] at hj
            refine wif_n c1 ?_
            refine g_bipush (dk D_X9_blank 25 rfl) kb_30 ?_
            refine g_goto (dk D_X9_blank 26 rfl) rfl ?_
            exact hj
        · rw [if_neg c2] at hj
          refine wif_n c2 ?_
          refine g_sipush (dk D_X9_blank 20 rfl) ks_1080 ?_
          refine g_goto (dk D_X9_blank 21 rfl) rfl ?_
          exact hj
      · rw [if_neg c3] at hj
        refine wif_n c3 ?_
        refine g_sipush (dk D_X9_blank 15 rfl) ks_360 ?_
        refine g_goto (dk D_X9_blank 16 rfl) rfl ?_
        exact hj
    · refine g_iconst (dk D_X9_blank 10 rfl) ki_4 ?_
      refine g_goto (dk D_X9_blank 11 rfl) rfl ?_
      exact t_X9_blank_b52 r0 n0 r1 n1 r2 n2 (v3) ((4 : Int32)) (v3) K2 (h) Q hr0 hr1 hr2 hK2 hw
theorem t_X9_blank_b2 {X : Cx} (r0 : Nat) (n0 : Nat) (r1 : Nat) (n1 : Nat) (r2 : Nat) (n2 : Nat) (Q : Hp → Prop) (s : Int32 × Hp) (hr0 : kd r0 = (1, n0, 0, 0, 0)) (hr1 : kd r1 = (1, n1, 0, 0, 0)) (hr2 : kd r2 = (1, n2, 0, 0, 0)) (hw : w_X9_blank_b2 r0 n0 r1 n1 r2 n2 Q s) : G X M_X9_blank E_X9_blank (QM X E_X9_blank (QV Q) Qn) 0 2 [(0, .ref (r0)), (1, .ref (r1)), (2, .ref (r2)), (3, .int (s.1))] [] (s.2) :=
  wl_ind (B := fun K s => w_X9_blank_l2 r0 n0 r1 n1 r2 n2 Q K (s.1) (s.2)) (P := fun s => G X M_X9_blank E_X9_blank (QM X E_X9_blank (QV Q) Qn) 0 2 [(0, .ref (r0)), (1, .ref (r1)), (2, .ref (r2)), (3, .int (s.1))] [] (s.2)) (fun K hK s hw => t_X9_blank_l2 r0 n0 r1 n1 r2 n2 Q K (s.1) (s.2) hr0 hr1 hr2 hK hw) s hw
theorem t_X9_blank {X : Cx} (r0 : Nat) (n0 : Nat) (r1 : Nat) (n1 : Nat) (r2 : Nat) (n2 : Nat) (h : Hp) (Q : Hp → Prop) (hr0 : kd r0 = (1, n0, 0, 0, 0)) (hr1 : kd r1 = (1, n1, 0, 0, 0)) (hr2 : kd r2 = (1, n2, 0, 0, 0)) (hw : w_X9_blank r0 n0 r1 n1 r2 n2 h Q) : G X M_X9_blank E_X9_blank (QM X E_X9_blank (QV Q) Qn) 0 0 [(0, .ref (r0)), (1, .ref (r1)), (2, .ref (r2))] [] h := by
  unfold w_X9_blank at hw
  refine g_iconst (dk D_X9_blank 0 rfl) ki_0 ?_
  refine g_istore_n (dk D_X9_blank 1 rfl) rfl (by decide) rfl ?_
  refine g_sub [1, 2, 3, 0] rfl ?_
  exact t_X9_blank_b2 r0 n0 r1 n1 r2 n2 Q ((0 : Int32), h) hr0 hr1 hr2 hw
theorem c_X9_blank {X : Cx} (r0 : Nat) (n0 : Nat) (r1 : Nat) (n1 : Nat) (r2 : Nat) (n2 : Nat) (hr0 : kd r0 = (1, n0, 0, 0, 0)) (hr1 : kd r1 = (1, n1, 0, 0, 0)) (hr2 : kd r2 = (1, n2, 0, 0, 0)) (h : Hp) (Q : Hp → Prop) (hw : w_X9_blank r0 n0 r1 n1 r2 n2 h Q) : Con X yX9_blank M_X9_blank 0 0 0 [.ref (r0), .ref (r1), .ref (r2)] h (QV Q) Qn :=
  con_of (by decide +kernel) rfl (Nat.le_of_ble_eq_true rfl) (t_X9_blank r0 n0 r1 n1 r2 n2 h Q hr0 hr1 hr2 hw)
/-! ShadowTollsModel.feed(IIIII)I -/
abbrev M_X9_feed : Mi := (RX9, cX9_feed, 8, (some .int))
abbrev E_X9_feed : Rm := (0, 0, 0, 0)
def rows_X9_feed : List (Nat × Instr × Nat) := [(0, .aload_n 0, 1), (1, .iconst 0, 1), (2, .putfield 111, 3), (5, .aload_n 0, 1), (6, .getfield 114, 3), (9, .bipush 20, 2), (11, .iadd, 1), (12, .sipush 500, 3), (15, .if_icmp .le 5, 3), (18, .iconst (-1), 1), (19, .ireturn, 1), (20, .iconst 0, 1), (21, .istore 6, 2), (23, .iload 6, 2), (25, .bipush 20, 2), (27, .if_icmp .ge 93, 3), (30, .iload 6, 2), (32, .iconst 4, 1), (33, .if_icmp .ge 7, 3), (36, .iload_n 1, 1), (37, .goto 39, 3), (40, .iload 6, 2), (42, .bipush 8, 2), (44, .if_icmp .ge 7, 3), (47, .iload_n 2, 1), (48, .goto 28, 3), (51, .iload 6, 2), (53, .bipush 12, 2), (55, .if_icmp .ge 7, 3), (58, .iload_n 3, 1), (59, .goto 17, 3), (62, .iload 6, 2), (64, .bipush 16, 2), (66, .if_icmp .ge 8, 3), (69, .iload 4, 2), (71, .goto 5, 3), (74, .iload 5, 2), (76, .istore 7, 2), (78, .aload_n 0, 1), (79, .getfield 13, 3), (82, .aload_n 0, 1), (83, .getfield 114, 3), (86, .iload 7, 2), (88, .bipush 24, 2), (90, .bipush 8, 2), (92, .iload 6, 2), (94, .iconst 4, 1), (95, .irem, 1), (96, .imul, 1), (97, .isub, 1), (98, .ishr, 1), (99, .sipush 255, 3), (102, .iand, 1), (103, .iastore, 1), (104, .aload_n 0, 1), (105, .dup, 1), (106, .getfield 114, 3), (109, .iconst 1, 1), (110, .iadd, 1), (111, .putfield 114, 3), (114, .iinc 6 1, 3), (117, .goto (-94), 3), (120, .aload_n 0, 1), (121, .getfield 114, 3), (124, .ireturn, 1)]
theorem D_X9_feed : dkA cX9_feed rows_X9_feed := by
  unfold dkA
  decide +kernel
theorem okD_X9_feed : okD yX9_feed 5 := by
  unfold okD
  decide +kernel
def w_X9_feed_b76 (p1 : Int32) (p2 : Int32) (p3 : Int32) (p4 : Int32) (p5 : Int32) (v6 : Int32) (s0 : Int32) (K23 : Int32 × Hp → Prop) (h : Hp) (Q : Int32 → Hp → Prop) : Prop :=
  (vp_in (h 92 1) 500 ∧ wlet (hup h 93 (Int32.toNatClampNeg (h 92 1)) ((s0 >>> (((24 : Int32) - ((8 : Int32) * (v6 - v6 / (4 : Int32) * (4 : Int32)))) &&& 31)) &&& (255 : Int32))) (fun h2 => wlet (hup h2 92 1 ((h2 92 1) + (1 : Int32))) (fun h3 => K23 ((v6 + (1 : Int32)), h3))))
def w_X9_feed_l23 (p1 : Int32) (p2 : Int32) (p3 : Int32) (p4 : Int32) (p5 : Int32) (Q : Int32 → Hp → Prop) (K23 : Int32 × Hp → Prop) (v6 : Int32) (h : Hp) : Prop :=
  wif ((20 : Int32) ≤ v6) (Q (h 92 1) h) (wif ((4 : Int32) ≤ v6) (wlet ((if (8 : Int32) ≤ v6 then (if (12 : Int32) ≤ v6 then (if (16 : Int32) ≤ v6 then p5 else p4) else p3) else p2)) (fun v7_4 => (vp_in (h 92 1) 500 ∧ wlet (hup h 93 (Int32.toNatClampNeg (h 92 1)) ((v7_4 >>> (((24 : Int32) - ((8 : Int32) * (v6 - v6 / (4 : Int32) * (4 : Int32)))) &&& 31)) &&& (255 : Int32))) (fun h6 => wlet (hup h6 92 1 ((h6 92 1) + (1 : Int32))) (fun h7 => K23 ((v6 + (1 : Int32)), h7)))))) (w_X9_feed_b76 p1 p2 p3 p4 p5 (v6) (p1) K23 (h) Q))
def w_X9_feed_b23 (p1 : Int32) (p2 : Int32) (p3 : Int32) (p4 : Int32) (p5 : Int32) (Q : Int32 → Hp → Prop) (s : Int32 × Hp) : Prop := wl (fun K s => w_X9_feed_l23 p1 p2 p3 p4 p5 Q K s.1 s.2) s
def w_X9_feed (p1 : Int32) (p2 : Int32) (p3 : Int32) (p4 : Int32) (p5 : Int32) (h : Hp) (Q : Int32 → Hp → Prop) : Prop :=
  wlet (hup h 92 0 (0 : Int32)) (fun h1 => wif (((h1 92 1) + (20 : Int32)) ≤ (500 : Int32)) (w_X9_feed_b23 p1 p2 p3 p4 p5 Q ((0 : Int32), h1)) (Q (-1 : Int32) h1))
theorem t_X9_feed_b76 {X : Cx} (p1 : Int32) (p2 : Int32) (p3 : Int32) (p4 : Int32) (p5 : Int32) (v6 : Int32) (s0 : Int32) (K23 : Int32 × Hp → Prop) (h : Hp) (Q : Int32 → Hp → Prop) (hK23 : ∀ s : Int32 × Hp, K23 s → G X M_X9_feed E_X9_feed (QM X E_X9_feed (QI Q) Qn) 0 23 [(0, .ref (92)), (1, .int (p1)), (2, .int (p2)), (3, .int (p3)), (4, .int (p4)), (5, .int (p5)), (6, .int (s.1))] [] (s.2)) (hw : w_X9_feed_b76 p1 p2 p3 p4 p5 v6 s0 K23 h Q) : G X M_X9_feed E_X9_feed (QM X E_X9_feed (QI Q) Qn) 0 76 [(0, .ref (92)), (1, .int (p1)), (2, .int (p2)), (3, .int (p3)), (4, .int (p4)), (5, .int (p5)), (6, .int (v6))] [.int (s0)] h := by
  unfold w_X9_feed_b76 at hw
  refine g_istore (dk D_X9_feed 37 rfl) (by decide) rfl ?_
  refine g_aload_n 1 (dk D_X9_feed 38 rfl) rfl rfl ?_
  refine g_getR 9 (t := 93) (dk D_X9_feed 39 rfl) kd_92 rfl rfl (by decide) w_1366 rfl rfl rfl ?_
  refine g_aload_n 1 (dk D_X9_feed 40 rfl) rfl rfl ?_
  refine g_getI 1 (dk D_X9_feed 41 rfl) kd_92 rfl rfl (by decide) w_1358 rfl rfl ?_
  refine g_iload 0 (dk D_X9_feed 42 rfl) rfl ?_
  refine g_bipush (dk D_X9_feed 43 rfl) kb_24 ?_
  refine g_bipush (dk D_X9_feed 44 rfl) kb_8 ?_
  refine g_iload 7 (dk D_X9_feed 45 rfl) rfl ?_
  refine g_iconst (dk D_X9_feed 46 rfl) ki_4 ?_
  refine g_irem (dk D_X9_feed 47 rfl) (by decide) ?_
  refine g_imul (dk D_X9_feed 48 rfl) ?_
  refine g_isub (dk D_X9_feed 49 rfl) ?_
  refine g_ishr (dk D_X9_feed 50 rfl) ?_
  refine g_sipush (dk D_X9_feed 51 rfl) ks_255 ?_
  refine g_iand (dk D_X9_feed 52 rfl) ?_
  obtain ⟨hi1, hw⟩ := hw
  refine g_iast (dk D_X9_feed 53 rfl) kd_93 hi1 ?_
  refine g_heap (fun h2 eh2 => ?_)
  replace hw := hw _ eh2
  refine g_aload_n 1 (dk D_X9_feed 54 rfl) rfl rfl ?_
  refine g_dup (dk D_X9_feed 55 rfl) rfl ?_
  refine g_getI 1 (dk D_X9_feed 56 rfl) kd_92 rfl rfl (by decide) w_1358 rfl rfl ?_
  refine g_iconst (dk D_X9_feed 57 rfl) ki_1 ?_
  refine g_iadd (dk D_X9_feed 58 rfl) ?_
  refine g_put 1 (dk D_X9_feed 59 rfl) kd_92 rfl rfl (by decide) w_1358 rfl tyX9_ok nmX9 rfl (by decide) rfl (fun z => absurd z (by decide)) ?_
  refine g_heap (fun h3 eh3 => ?_)
  replace hw := hw _ eh3
  refine g_iinc 7 (dk D_X9_feed 60 rfl) rfl (congrArg (fun z => _ + z) ki_1) (by decide) rfl ?_
  refine g_goto (dk D_X9_feed 61 rfl) rfl ?_
  refine g_sub [2, 3, 4, 5, 6, 7, 0] rfl ?_
  exact hK23 ((v6 + (1 : Int32)), h3) hw
theorem t_X9_feed_l23 {X : Cx} (p1 : Int32) (p2 : Int32) (p3 : Int32) (p4 : Int32) (p5 : Int32) (Q : Int32 → Hp → Prop) (K23 : Int32 × Hp → Prop) (v6 : Int32) (h : Hp) (hK23 : ∀ s : Int32 × Hp, K23 s → G X M_X9_feed E_X9_feed (QM X E_X9_feed (QI Q) Qn) 0 23 [(0, .ref (92)), (1, .int (p1)), (2, .int (p2)), (3, .int (p3)), (4, .int (p4)), (5, .int (p5)), (6, .int (s.1))] [] (s.2)) (hw : w_X9_feed_l23 p1 p2 p3 p4 p5 Q K23 v6 h) : G X M_X9_feed E_X9_feed (QM X E_X9_feed (QI Q) Qn) 0 23 [(0, .ref (92)), (1, .int (p1)), (2, .int (p2)), (3, .int (p3)), (4, .int (p4)), (5, .int (p5)), (6, .int (v6))] [] h := by
  unfold w_X9_feed_l23 at hw
  refine g_iload 6 (dk D_X9_feed 13 rfl) rfl ?_
  refine g_bipush (dk D_X9_feed 14 rfl) kb_20 ?_
  refine g_icmp_ge (dk D_X9_feed 15 rfl) rfl (wif_m hw (fun hw => ?_) (fun hw => ?_))
  · refine g_aload_n 0 (dk D_X9_feed 62 rfl) rfl rfl ?_
    refine g_getI 1 (dk D_X9_feed 63 rfl) kd_92 rfl rfl (by decide) w_1358 rfl rfl ?_
    exact g_iret (dk D_X9_feed 64 rfl) rfl ⟨_, rfl, hw⟩
  · refine g_iload 6 (dk D_X9_feed 16 rfl) rfl ?_
    refine g_iconst (dk D_X9_feed 17 rfl) ki_4 ?_
    refine g_icmp_ge (dk D_X9_feed 18 rfl) rfl (wif_m hw (fun hw => ?_) (fun hw => ?_))
    · refine g_iload 6 (dk D_X9_feed 21 rfl) rfl ?_
      refine g_bipush (dk D_X9_feed 22 rfl) kb_8 ?_
      have hj : G X M_X9_feed E_X9_feed (QM X E_X9_feed (QI Q) Qn) 0 76 [(0, .ref (92)), (1, .int (p1)), (2, .int (p2)), (3, .int (p3)), (4, .int (p4)), (5, .int (p5)), (6, .int (v6))] [.int ((if (8 : Int32) ≤ v6 then (if (12 : Int32) ≤ v6 then (if (16 : Int32) ≤ v6 then p5 else p4) else p3) else p2))] (h) := by
        refine g_topi (fun v7_4 ev7_4 => ?_)
        replace hw := hw _ ev7_4
        refine g_istore (dk D_X9_feed 37 rfl) (by decide) rfl ?_
        refine g_aload_n 1 (dk D_X9_feed 38 rfl) rfl rfl ?_
        refine g_getR 9 (t := 93) (dk D_X9_feed 39 rfl) kd_92 rfl rfl (by decide) w_1366 rfl rfl rfl ?_
        refine g_aload_n 1 (dk D_X9_feed 40 rfl) rfl rfl ?_
        refine g_getI 1 (dk D_X9_feed 41 rfl) kd_92 rfl rfl (by decide) w_1358 rfl rfl ?_
        refine g_iload 0 (dk D_X9_feed 42 rfl) rfl ?_
        refine g_bipush (dk D_X9_feed 43 rfl) kb_24 ?_
        refine g_bipush (dk D_X9_feed 44 rfl) kb_8 ?_
        refine g_iload 7 (dk D_X9_feed 45 rfl) rfl ?_
        refine g_iconst (dk D_X9_feed 46 rfl) ki_4 ?_
        refine g_irem (dk D_X9_feed 47 rfl) (by decide) ?_
        refine g_imul (dk D_X9_feed 48 rfl) ?_
        refine g_isub (dk D_X9_feed 49 rfl) ?_
        refine g_ishr (dk D_X9_feed 50 rfl) ?_
        refine g_sipush (dk D_X9_feed 51 rfl) ks_255 ?_
        refine g_iand (dk D_X9_feed 52 rfl) ?_
        obtain ⟨hi5, hw⟩ := hw
        refine g_iast (dk D_X9_feed 53 rfl) kd_93 hi5 ?_
        refine g_heap (fun h6 eh6 => ?_)
        replace hw := hw _ eh6
        refine g_aload_n 1 (dk D_X9_feed 54 rfl) rfl rfl ?_
        refine g_dup (dk D_X9_feed 55 rfl) rfl ?_
        refine g_getI 1 (dk D_X9_feed 56 rfl) kd_92 rfl rfl (by decide) w_1358 rfl rfl ?_
        refine g_iconst (dk D_X9_feed 57 rfl) ki_1 ?_
        refine g_iadd (dk D_X9_feed 58 rfl) ?_
        refine g_put 1 (dk D_X9_feed 59 rfl) kd_92 rfl rfl (by decide) w_1358 rfl tyX9_ok nmX9 rfl (by decide) rfl (fun z => absurd z (by decide)) ?_
        refine g_heap (fun h7 eh7 => ?_)
        replace hw := hw _ eh7
        refine g_iinc 7 (dk D_X9_feed 60 rfl) rfl (congrArg (fun z => _ + z) ki_1) (by decide) rfl ?_
        refine g_goto (dk D_X9_feed 61 rfl) rfl ?_
        refine g_sub [2, 3, 4, 5, 6, 7, 0] rfl ?_
        exact hK23 ((v6 + (1 : Int32)), h7) hw
      refine g_icmp_ge (dk D_X9_feed 23 rfl) rfl ?_
      by_cases c3 : (8 : Int32) ≤ v6
      · rw [if_pos c3] at hj
        refine wif_p c3 ?_
        refine g_iload 6 (dk D_X9_feed 26 rfl) rfl ?_
        refine g_bipush (dk D_X9_feed 27 rfl) kb_12 ?_
        refine g_icmp_ge (dk D_X9_feed 28 rfl) rfl ?_
        by_cases c2 : (12 : Int32) ≤ v6
        · rw [if_pos c2] at hj
          refine wif_p c2 ?_
          refine g_iload 6 (dk D_X9_feed 31 rfl) rfl ?_
          refine g_bipush (dk D_X9_feed 32 rfl) kb_16 ?_
          refine g_icmp_ge (dk D_X9_feed 33 rfl) rfl ?_
          by_cases c1 : (16 : Int32) ≤ v6
          · rw [if_pos c1] at hj
            refine wif_p c1 ?_
            refine g_iload 5 (dk D_X9_feed 36 rfl) rfl ?_
            exact hj
          · rw [if_neg c1] at hj
            refine wif_n c1 ?_
            refine g_iload 4 (dk D_X9_feed 34 rfl) rfl ?_
            refine g_goto (dk D_X9_feed 35 rfl) rfl ?_
            exact hj
        · rw [if_neg c2] at hj
          refine wif_n c2 ?_
          refine g_iload_n 3 (dk D_X9_feed 29 rfl) rfl rfl ?_
          refine g_goto (dk D_X9_feed 30 rfl) rfl ?_
          exact hj
      · rw [if_neg c3] at hj
        refine wif_n c3 ?_
        refine g_iload_n 2 (dk D_X9_feed 24 rfl) rfl rfl ?_
        refine g_goto (dk D_X9_feed 25 rfl) rfl ?_
        exact hj
    · refine g_iload_n 1 (dk D_X9_feed 19 rfl) rfl rfl ?_
      refine g_goto (dk D_X9_feed 20 rfl) rfl ?_
      exact t_X9_feed_b76 p1 p2 p3 p4 p5 (v6) (p1) K23 (h) Q hK23 hw
theorem t_X9_feed_b23 {X : Cx} (p1 : Int32) (p2 : Int32) (p3 : Int32) (p4 : Int32) (p5 : Int32) (Q : Int32 → Hp → Prop) (s : Int32 × Hp) (hw : w_X9_feed_b23 p1 p2 p3 p4 p5 Q s) : G X M_X9_feed E_X9_feed (QM X E_X9_feed (QI Q) Qn) 0 23 [(0, .ref (92)), (1, .int (p1)), (2, .int (p2)), (3, .int (p3)), (4, .int (p4)), (5, .int (p5)), (6, .int (s.1))] [] (s.2) :=
  wl_ind (B := fun K s => w_X9_feed_l23 p1 p2 p3 p4 p5 Q K (s.1) (s.2)) (P := fun s => G X M_X9_feed E_X9_feed (QM X E_X9_feed (QI Q) Qn) 0 23 [(0, .ref (92)), (1, .int (p1)), (2, .int (p2)), (3, .int (p3)), (4, .int (p4)), (5, .int (p5)), (6, .int (s.1))] [] (s.2)) (fun K hK s hw => t_X9_feed_l23 p1 p2 p3 p4 p5 Q K (s.1) (s.2) hK hw) s hw
theorem t_X9_feed {X : Cx} (p1 : Int32) (p2 : Int32) (p3 : Int32) (p4 : Int32) (p5 : Int32) (h : Hp) (Q : Int32 → Hp → Prop) (hw : w_X9_feed p1 p2 p3 p4 p5 h Q) : G X M_X9_feed E_X9_feed (QM X E_X9_feed (QI Q) Qn) 0 0 [(0, .ref (92)), (1, .int (p1)), (2, .int (p2)), (3, .int (p3)), (4, .int (p4)), (5, .int (p5))] [] h := by
  unfold w_X9_feed at hw
  refine g_aload_n 0 (dk D_X9_feed 0 rfl) rfl rfl ?_
  refine g_iconst (dk D_X9_feed 1 rfl) ki_0 ?_
  refine g_put 0 (dk D_X9_feed 2 rfl) kd_92 rfl rfl (by decide) w_1357 rfl tyX9_ok nmX9 rfl (by decide) rfl (fun z => absurd z (by decide)) ?_
  refine g_heap (fun h1 eh1 => ?_)
  replace hw := hw _ eh1
  refine g_aload_n 0 (dk D_X9_feed 3 rfl) rfl rfl ?_
  refine g_getI 1 (dk D_X9_feed 4 rfl) kd_92 rfl rfl (by decide) w_1358 rfl rfl ?_
  refine g_bipush (dk D_X9_feed 5 rfl) kb_20 ?_
  refine g_iadd (dk D_X9_feed 6 rfl) ?_
  refine g_sipush (dk D_X9_feed 7 rfl) ks_500 ?_
  refine g_icmp_le (dk D_X9_feed 8 rfl) rfl (wif_m hw (fun hw => ?_) (fun hw => ?_))
  · refine g_iconst (dk D_X9_feed 11 rfl) ki_0 ?_
    refine g_istore (dk D_X9_feed 12 rfl) (by decide) rfl ?_
    refine g_sub [1, 2, 3, 4, 5, 6, 0] rfl ?_
    exact t_X9_feed_b23 p1 p2 p3 p4 p5 Q ((0 : Int32), h1) hw
  · refine g_iconst (dk D_X9_feed 9 rfl) ki_m1 ?_
    exact g_iret (dk D_X9_feed 10 rfl) rfl ⟨_, rfl, hw⟩
theorem c_X9_feed {X : Cx} (p1 : Int32) (p2 : Int32) (p3 : Int32) (p4 : Int32) (p5 : Int32) (h : Hp) (Q : Int32 → Hp → Prop) (hw : w_X9_feed p1 p2 p3 p4 p5 h Q) : Con X yX9_feed M_X9_feed 0 0 0 [.ref (92), .int (p1), .int (p2), .int (p3), .int (p4), .int (p5)] h (QI Q) Qn :=
  con_of (by decide +kernel) rfl (Nat.le_of_ble_eq_true rfl) (t_X9_feed p1 p2 p3 p4 p5 h Q hw)
/-! ShadowTollsModel.byteAt(I)I -/
abbrev M_X9_byteAt : Mi := (RX9, cX9_byteAt, 2, (some .int))
abbrev E_X9_byteAt : Rm := (0, 0, 0, 0)
def rows_X9_byteAt : List (Nat × Instr × Nat) := [(0, .iload_n 1, 1), (1, .aload_n 0, 1), (2, .getfield 117, 3), (5, .if_icmp .lt 7, 3), (8, .iconst (-1), 1), (9, .goto 9, 3), (12, .aload_n 0, 1), (13, .getfield 13, 3), (16, .iload_n 1, 1), (17, .iaload, 1), (18, .ireturn, 1)]
theorem D_X9_byteAt : dkA cX9_byteAt rows_X9_byteAt := by
  unfold dkA
  decide +kernel
theorem okD_X9_byteAt : okD yX9_byteAt 1 := by
  unfold okD
  decide +kernel
def w_X9_byteAt (p1 : Int32) (h : Hp) (Q : Int32 → Prop) : Prop :=
  wif (p1 < (h 92 2)) ((vp_in p1 500 ∧ Q (h 93 (Int32.toNatClampNeg p1)))) (Q (-1 : Int32))
theorem t_X9_byteAt {X : Cx} (p1 : Int32) (h : Hp) (Q : Int32 → Prop) (hw : w_X9_byteAt p1 h Q) : G X M_X9_byteAt E_X9_byteAt (QM X E_X9_byteAt (QIp h Q) Qn) 0 0 [(0, .ref (92)), (1, .int (p1))] [] h := by
  unfold w_X9_byteAt at hw
  refine g_iload_n 1 (dk D_X9_byteAt 0 rfl) rfl rfl ?_
  refine g_aload_n 0 (dk D_X9_byteAt 1 rfl) rfl rfl ?_
  refine g_getI 2 (dk D_X9_byteAt 2 rfl) kd_92 rfl rfl (by decide) w_1359 rfl rfl ?_
  refine g_icmp_lt (dk D_X9_byteAt 3 rfl) rfl (wif_m hw (fun hw => ?_) (fun hw => ?_))
  · refine g_aload_n 0 (dk D_X9_byteAt 6 rfl) rfl rfl ?_
    refine g_getR 9 (t := 93) (dk D_X9_byteAt 7 rfl) kd_92 rfl rfl (by decide) w_1366 rfl rfl rfl ?_
    refine g_iload_n 1 (dk D_X9_byteAt 8 rfl) rfl rfl ?_
    obtain ⟨hi1, hw⟩ := hw
    refine g_iald (dk D_X9_byteAt 9 rfl) kd_93 hi1 ?_
    exact g_iret (dk D_X9_byteAt 10 rfl) rfl ⟨_, rfl, rfl, hw⟩
  · refine g_iconst (dk D_X9_byteAt 4 rfl) ki_m1 ?_
    refine g_goto (dk D_X9_byteAt 5 rfl) rfl ?_
    exact g_iret (dk D_X9_byteAt 10 rfl) rfl ⟨_, rfl, rfl, hw⟩
theorem c_X9_byteAt {X : Cx} (p1 : Int32) (h : Hp) (Q : Int32 → Prop) (hw : w_X9_byteAt p1 h Q) : Con X yX9_byteAt M_X9_byteAt 0 0 0 [.ref (92), .int (p1)] h (QIp h Q) Qn :=
  con_of (by decide +kernel) rfl (Nat.le_of_ble_eq_true rfl) (t_X9_byteAt p1 h Q hw)
/-! ShadowTollsModel.blanks()V -/
abbrev M_X9_blanks : Mi := (RX9, cX9_blanks, 1, none)
abbrev E_X9_blanks : Rm := (1, 29, 0, 0)
def rows_X9_blanks : List (Nat × Instr × Nat) := [(0, .aload_n 0, 1), (1, .aload_n 0, 1), (2, .getfield 120, 3), (5, .invokevirtual 123, 3), (8, .bipush 32, 2), (10, .if_icmp .ne 16, 3), (13, .aload_n 0, 1), (14, .dup, 1), (15, .getfield 120, 3), (18, .iconst 1, 1), (19, .iadd, 1), (20, .putfield 120, 3), (23, .goto (-23), 3), (26, .return_, 1)]
theorem D_X9_blanks : dkA cX9_blanks rows_X9_blanks := by
  unfold dkA
  decide +kernel
theorem okD_X9_blanks : okD yX9_blanks 0 := by
  unfold okD
  decide +kernel
def w_X9_blanks_l0 (Q : Hp → Prop) (K0 : Hp → Prop)  (h : Hp) : Prop :=
  w_X9_byteAt ((h 92 4)) h (fun z1 => wif (¬ z1 = (32 : Int32)) (Q h) (wlet (hup h 92 4 ((h 92 4) + (1 : Int32))) (fun h2 => K0 (h2))))
def w_X9_blanks_b0 (Q : Hp → Prop) (s : Hp) : Prop := wl (fun K s => w_X9_blanks_l0 Q K s) s
def w_X9_blanks (h : Hp) (Q : Hp → Prop) : Prop :=
  w_X9_blanks_b0 Q (h)
theorem t_X9_blanks_l0 {X : Cx} (Q : Hp → Prop) (K0 : Hp → Prop)  (h : Hp) (hK0 : ∀ s : Hp, K0 s → G X M_X9_blanks E_X9_blanks (QM X E_X9_blanks (QV Q) Qn) 0 0 [(0, .ref (92))] [] (s)) (hw : w_X9_blanks_l0 Q K0  h) : G X M_X9_blanks E_X9_blanks (QM X E_X9_blanks (QV Q) Qn) 0 0 [(0, .ref (92))] [] h := by
  unfold w_X9_blanks_l0 at hw
  refine g_aload_n 0 (dk D_X9_blanks 0 rfl) rfl rfl ?_
  refine g_aload_n 0 (dk D_X9_blanks 1 rfl) rfl rfl ?_
  refine g_getI 4 (dk D_X9_blanks 2 rfl) kd_92 rfl rfl (by decide) w_1361 rfl rfl ?_
  refine g_callV (As := [.int ((h 92 4))]) (kc := 0) (fr := 0) (lo := 0) (mc := 0) (My := M_X9_byteAt) (dk D_X9_blanks 3 rfl) kd_92 rfl rfl w_1542 w_1544 w_45 w_110 w_1545 okD_X9_byteAt (by decide) (Nat.le_of_ble_eq_true rfl) rfl (c_X9_byteAt ((h 92 4)) (h) _ hw) kxN (kIp (fun z1 hw => ?_))
  refine g_bipush (dk D_X9_blanks 4 rfl) kb_32 ?_
  refine g_icmp_ne (dk D_X9_blanks 5 rfl) rfl (wif_m hw (fun hw => ?_) (fun hw => ?_))
  · exact g_vret (dk D_X9_blanks 13 rfl) rfl ⟨rfl, hw⟩
  · refine g_aload_n 0 (dk D_X9_blanks 6 rfl) rfl rfl ?_
    refine g_dup (dk D_X9_blanks 7 rfl) rfl ?_
    refine g_getI 4 (dk D_X9_blanks 8 rfl) kd_92 rfl rfl (by decide) w_1361 rfl rfl ?_
    refine g_iconst (dk D_X9_blanks 9 rfl) ki_1 ?_
    refine g_iadd (dk D_X9_blanks 10 rfl) ?_
    refine g_put 4 (dk D_X9_blanks 11 rfl) kd_92 rfl rfl (by decide) w_1361 rfl tyX9_ok nmX9 rfl (by decide) rfl (fun z => absurd z (by decide)) ?_
    refine g_heap (fun h2 eh2 => ?_)
    replace hw := hw _ eh2
    refine g_goto (dk D_X9_blanks 12 rfl) rfl ?_
    exact hK0 (h2) hw
theorem t_X9_blanks_b0 {X : Cx} (Q : Hp → Prop) (s : Hp) (hw : w_X9_blanks_b0 Q s) : G X M_X9_blanks E_X9_blanks (QM X E_X9_blanks (QV Q) Qn) 0 0 [(0, .ref (92))] [] (s) :=
  wl_ind (B := fun K s => w_X9_blanks_l0 Q K (s)) (P := fun s => G X M_X9_blanks E_X9_blanks (QM X E_X9_blanks (QV Q) Qn) 0 0 [(0, .ref (92))] [] (s)) (fun K hK s hw => t_X9_blanks_l0 Q K (s) hK hw) s hw
theorem t_X9_blanks {X : Cx} (h : Hp) (Q : Hp → Prop) (hw : w_X9_blanks h Q) : G X M_X9_blanks E_X9_blanks (QM X E_X9_blanks (QV Q) Qn) 0 0 [(0, .ref (92))] [] h := by
  unfold w_X9_blanks at hw
  exact t_X9_blanks_b0 Q (h) hw
theorem c_X9_blanks {X : Cx} (h : Hp) (Q : Hp → Prop) (hw : w_X9_blanks h Q) : Con X yX9_blanks M_X9_blanks 1 29 0 [.ref (92)] h (QV Q) Qn :=
  con_of (by decide +kernel) rfl (Nat.le_of_ble_eq_true rfl) (t_X9_blanks h Q hw)
/-! ShadowTollsModel.wrong(II)V -/
abbrev M_X9_wrong : Mi := (RX9, cX9_wrong, 3, none)
abbrev E_X9_wrong : Rm := (0, 0, 0, 0)
def rows_X9_wrong : List (Nat × Instr × Nat) := [(0, .aload_n 0, 1), (1, .getfield 127, 3), (4, .ifCond .ne 13, 3), (7, .aload_n 0, 1), (8, .iload_n 1, 1), (9, .putfield 127, 3), (12, .aload_n 0, 1), (13, .iload_n 2, 1), (14, .putfield 130, 3), (17, .return_, 1)]
theorem D_X9_wrong : dkA cX9_wrong rows_X9_wrong := by
  unfold dkA
  decide +kernel
theorem okD_X9_wrong : okD yX9_wrong 2 := by
  unfold okD
  decide +kernel
def w_X9_wrong (p1 : Int32) (p2 : Int32) (h : Hp) (Q : Hp → Prop) : Prop :=
  wif (¬ (h 92 5) = 0) (Q h) (wlet (hup h 92 5 p1) (fun h1 => wlet (hup h1 92 6 p2) (fun h2 => Q h2)))
theorem t_X9_wrong {X : Cx} (p1 : Int32) (p2 : Int32) (h : Hp) (Q : Hp → Prop) (hw : w_X9_wrong p1 p2 h Q) : G X M_X9_wrong E_X9_wrong (QM X E_X9_wrong (QV Q) Qn) 0 0 [(0, .ref (92)), (1, .int (p1)), (2, .int (p2))] [] h := by
  unfold w_X9_wrong at hw
  refine g_aload_n 0 (dk D_X9_wrong 0 rfl) rfl rfl ?_
  refine g_getI 5 (dk D_X9_wrong 1 rfl) kd_92 rfl rfl (by decide) w_1362 rfl rfl ?_
  refine g_if_ne (dk D_X9_wrong 2 rfl) rfl (wif_m hw (fun hw => ?_) (fun hw => ?_))
  · exact g_vret (dk D_X9_wrong 9 rfl) rfl ⟨rfl, hw⟩
  · refine g_aload_n 0 (dk D_X9_wrong 3 rfl) rfl rfl ?_
    refine g_iload_n 1 (dk D_X9_wrong 4 rfl) rfl rfl ?_
    refine g_put 5 (dk D_X9_wrong 5 rfl) kd_92 rfl rfl (by decide) w_1362 rfl tyX9_ok nmX9 rfl (by decide) rfl (fun z => absurd z (by decide)) ?_
    refine g_heap (fun h1 eh1 => ?_)
    replace hw := hw _ eh1
    refine g_aload_n 0 (dk D_X9_wrong 6 rfl) rfl rfl ?_
    refine g_iload_n 2 (dk D_X9_wrong 7 rfl) rfl rfl ?_
    refine g_put 6 (dk D_X9_wrong 8 rfl) kd_92 rfl rfl (by decide) w_1363 rfl tyX9_ok nmX9 rfl (by decide) rfl (fun z => absurd z (by decide)) ?_
    refine g_heap (fun h2 eh2 => ?_)
    replace hw := hw _ eh2
    exact g_vret (dk D_X9_wrong 9 rfl) rfl ⟨rfl, hw⟩
theorem c_X9_wrong {X : Cx} (p1 : Int32) (p2 : Int32) (h : Hp) (Q : Hp → Prop) (hw : w_X9_wrong p1 p2 h Q) : Con X yX9_wrong M_X9_wrong 0 0 0 [.ref (92), .int (p1), .int (p2)] h (QV Q) Qn :=
  con_of (by decide +kernel) rfl (Nat.le_of_ble_eq_true rfl) (t_X9_wrong p1 p2 h Q hw)
/-! ShadowTollsModel.isDigit(I)Z -/
abbrev M_X9_isDigit : Mi := (RX9, cX9_isDigit, 1, (some .boolean))
abbrev E_X9_isDigit : Rm := (0, 0, 0, 0)
def rows_X9_isDigit : List (Nat × Instr × Nat) := [(0, .iload_n 0, 1), (1, .bipush 48, 2), (3, .if_icmp .lt 13, 3), (6, .iload_n 0, 1), (7, .bipush 57, 2), (9, .if_icmp .gt 7, 3), (12, .iconst 1, 1), (13, .goto 4, 3), (16, .iconst 0, 1), (17, .ireturn, 1)]
theorem D_X9_isDigit : dkA cX9_isDigit rows_X9_isDigit := by
  unfold dkA
  decide +kernel
theorem okD_X9_isDigit : okD yX9_isDigit 1 := by
  unfold okD
  decide +kernel
def w_X9_isDigit (p0 : Int32) (h : Hp) (Q : Int32 → Prop) : Prop :=
  Q ((if p0 < (48 : Int32) then (0 : Int32) else (if (57 : Int32) < p0 then (0 : Int32) else (1 : Int32))) &&& 1)
theorem t_X9_isDigit {X : Cx} (p0 : Int32) (h : Hp) (Q : Int32 → Prop) (hw : w_X9_isDigit p0 h Q) : G X M_X9_isDigit E_X9_isDigit (QM X E_X9_isDigit (QIp h Q) Qn) 0 0 [(0, .int (p0))] [] h := by
  unfold w_X9_isDigit at hw
  refine g_iload_n 0 (dk D_X9_isDigit 0 rfl) rfl rfl ?_
  refine g_bipush (dk D_X9_isDigit 1 rfl) kb_48 ?_
  have hj : G X M_X9_isDigit E_X9_isDigit (QM X E_X9_isDigit (QIp h Q) Qn) 0 17 [(0, .int (p0))] [.int ((if p0 < (48 : Int32) then (0 : Int32) else (if (57 : Int32) < p0 then (0 : Int32) else (1 : Int32))))] (h) := by
    exact g_zret (dk D_X9_isDigit 9 rfl) rfl ⟨_, rfl, rfl, hw⟩
  refine g_icmp_lt (dk D_X9_isDigit 2 rfl) rfl ?_
  by_cases c2 : p0 < (48 : Int32)
  · rw [if_pos c2] at hj
    refine wif_p c2 ?_
    refine g_iconst (dk D_X9_isDigit 8 rfl) ki_0 ?_
    exact hj
  · rw [if_neg c2] at hj
    refine wif_n c2 ?_
    refine g_iload_n 0 (dk D_X9_isDigit 3 rfl) rfl rfl ?_
    refine g_bipush (dk D_X9_isDigit 4 rfl) kb_57 ?_
    refine g_icmp_gt (dk D_X9_isDigit 5 rfl) rfl ?_
    by_cases c1 : (57 : Int32) < p0
    · rw [if_pos c1] at hj
      refine wif_p c1 ?_
      refine g_iconst (dk D_X9_isDigit 8 rfl) ki_0 ?_
      exact hj
    · rw [if_neg c1] at hj
      refine wif_n c1 ?_
      refine g_iconst (dk D_X9_isDigit 6 rfl) ki_1 ?_
      refine g_goto (dk D_X9_isDigit 7 rfl) rfl ?_
      exact hj
theorem c_X9_isDigit {X : Cx} (p0 : Int32) (h : Hp) (Q : Int32 → Prop) (hw : w_X9_isDigit p0 h Q) : Con X yX9_isDigit M_X9_isDigit 0 0 0 [.int (p0)] h (QIp h Q) Qn :=
  con_of (by decide +kernel) rfl (Nat.le_of_ble_eq_true rfl) (t_X9_isDigit p0 h Q hw)
/-! ShadowTollsModel.number(II)I -/
abbrev M_X9_number : Mi := (RX9, cX9_number, 5, (some .int))
abbrev E_X9_number : Rm := (2, 57, 0, 0)
def rows_X9_number : List (Nat × Instr × Nat) := [(0, .aload_n 0, 1), (1, .getfield 127, 3), (4, .ifCond .eq 5, 3), (7, .iconst 0, 1), (8, .ireturn, 1), (9, .aload_n 0, 1), (10, .invokevirtual 133, 3), (13, .aload_n 0, 1), (14, .getfield 120, 3), (17, .istore_n 3, 1), (18, .iconst 0, 1), (19, .istore 4, 2), (21, .aload_n 0, 1), (22, .aload_n 0, 1), (23, .getfield 120, 3), (26, .invokevirtual 123, 3), (29, .invokestatic 136, 3), (32, .ifCond .ne 12, 3), (35, .aload_n 0, 1), (36, .iconst 1, 1), (37, .aload_n 0, 1), (38, .getfield 120, 3), (41, .invokevirtual 140, 3), (44, .aload_n 0, 1), (45, .aload_n 0, 1), (46, .getfield 120, 3), (49, .invokevirtual 123, 3), (52, .invokestatic 136, 3), (55, .ifCond .eq 51, 3), (58, .bipush 10, 2), (60, .iload 4, 2), (62, .imul, 1), (63, .aload_n 0, 1), (64, .aload_n 0, 1), (65, .getfield 120, 3), (68, .invokevirtual 123, 3), (71, .iadd, 1), (72, .bipush 48, 2), (74, .isub, 1), (75, .istore 4, 2), (77, .iload 4, 2), (79, .ldc 144, 2), (81, .if_icmp .le 8, 3), (84, .ldc 144, 2), (86, .goto 5, 3), (89, .iload 4, 2), (91, .istore 4, 2), (93, .aload_n 0, 1), (94, .dup, 1), (95, .getfield 120, 3), (98, .iconst 1, 1), (99, .iadd, 1), (100, .putfield 120, 3), (103, .goto (-59), 3), (106, .iload 4, 2), (108, .iload_n 1, 1), (109, .iload_n 2, 1), (110, .invokestatic 145, 3), (113, .ifCond .ne 9, 3), (116, .aload_n 0, 1), (117, .iconst 2, 1), (118, .iload_n 3, 1), (119, .invokevirtual 140, 3), (122, .aload_n 0, 1), (123, .getfield 127, 3), (126, .ifCond .ne 8, 3), (129, .iload 4, 2), (131, .goto 4, 3), (134, .iconst 0, 1), (135, .ireturn, 1)]
theorem D_X9_number : dkA cX9_number rows_X9_number := by
  unfold dkA
  decide +kernel
theorem okD_X9_number : okD yX9_number 2 := by
  unfold okD
  decide +kernel
def w_X9_number_b122 (p1 : Int32) (p2 : Int32) (v4 : Int32) (h : Hp) (Q : Int32 → Hp → Prop) : Prop :=
  Q (if ¬ (h 92 5) = 0 then (0 : Int32) else v4) h
def w_X9_number_l44 (p1 : Int32) (p2 : Int32) (v3 : Int32) (Q : Int32 → Hp → Prop) (K44 : Int32 × Hp → Prop) (v4 : Int32) (h : Hp) : Prop :=
  w_X9_byteAt ((h 92 4)) h (fun z1 => w_X9_isDigit (z1) h (fun z2 => wif (z2 = 0) (w_X9_in (v4) (p1) (p2) h (fun z3 => wif (¬ z3 = 0) (w_X9_number_b122 p1 p2 (v4) (h) Q) (w_X9_wrong ((2 : Int32)) (v3) h (fun h5 => w_X9_number_b122 p1 p2 (v4) (h5) Q)))) (w_X9_byteAt ((h 92 4)) h (fun z6 => wlet (((((10 : Int32) * v4) + z6) - (48 : Int32))) (fun v4_7 => wlet ((if v4_7 ≤ (100000 : Int32) then v4_7 else (100000 : Int32))) (fun v4_9 => wlet (hup h 92 4 ((h 92 4) + (1 : Int32))) (fun h10 => K44 (v4_9, h10))))))))
def w_X9_number_b44 (p1 : Int32) (p2 : Int32) (v3 : Int32) (Q : Int32 → Hp → Prop) (s : Int32 × Hp) : Prop := wl (fun K s => w_X9_number_l44 p1 p2 v3 Q K s.1 s.2) s
def w_X9_number (p1 : Int32) (p2 : Int32) (h : Hp) (Q : Int32 → Hp → Prop) : Prop :=
  wif ((h 92 5) = 0) (w_X9_blanks  h (fun h1 => wlet ((h1 92 4)) (fun v3_2 => w_X9_byteAt ((h1 92 4)) h1 (fun z3 => w_X9_isDigit (z3) h1 (fun z4 => wif (¬ z4 = 0) (w_X9_number_b44 p1 p2 (v3_2) Q ((0 : Int32), h1)) (w_X9_wrong ((1 : Int32)) ((h1 92 4)) h1 (fun h5 => w_X9_number_b44 p1 p2 (v3_2) Q ((0 : Int32), h5)))))))) (Q (0 : Int32) h)
theorem t_X9_number_b122 {X : Cx} (p1 : Int32) (p2 : Int32) (v4 : Int32) (h : Hp) (Q : Int32 → Hp → Prop) (hw : w_X9_number_b122 p1 p2 v4 h Q) : G X M_X9_number E_X9_number (QM X E_X9_number (QI Q) Qn) 0 122 [(0, .ref (92)), (4, .int (v4))] [] h := by
  unfold w_X9_number_b122 at hw
  refine g_aload_n 0 (dk D_X9_number 63 rfl) rfl rfl ?_
  refine g_getI 5 (dk D_X9_number 64 rfl) kd_92 rfl rfl (by decide) w_1362 rfl rfl ?_
  have hj : G X M_X9_number E_X9_number (QM X E_X9_number (QI Q) Qn) 0 135 [(0, .ref (92)), (4, .int (v4))] [.int ((if ¬ (h 92 5) = 0 then (0 : Int32) else v4))] (h) := by
    exact g_iret (dk D_X9_number 69 rfl) rfl ⟨_, rfl, hw⟩
  refine g_if_ne (dk D_X9_number 65 rfl) rfl ?_
  by_cases c1 : ¬ (h 92 5) = 0
  · rw [if_pos c1] at hj
    refine wif_p c1 ?_
    refine g_iconst (dk D_X9_number 68 rfl) ki_0 ?_
    exact hj
  · rw [if_neg c1] at hj
    refine wif_n c1 ?_
    refine g_iload 1 (dk D_X9_number 66 rfl) rfl ?_
    refine g_goto (dk D_X9_number 67 rfl) rfl ?_
    exact hj
theorem t_X9_number_l44 {X : Cx} (p1 : Int32) (p2 : Int32) (v3 : Int32) (Q : Int32 → Hp → Prop) (K44 : Int32 × Hp → Prop) (v4 : Int32) (h : Hp) (hK44 : ∀ s : Int32 × Hp, K44 s → G X M_X9_number E_X9_number (QM X E_X9_number (QI Q) Qn) 0 44 [(0, .ref (92)), (1, .int (p1)), (2, .int (p2)), (3, .int (v3)), (4, .int (s.1))] [] (s.2)) (hw : w_X9_number_l44 p1 p2 v3 Q K44 v4 h) : G X M_X9_number E_X9_number (QM X E_X9_number (QI Q) Qn) 0 44 [(0, .ref (92)), (1, .int (p1)), (2, .int (p2)), (3, .int (v3)), (4, .int (v4))] [] h := by
  unfold w_X9_number_l44 at hw
  refine g_aload_n 0 (dk D_X9_number 23 rfl) rfl rfl ?_
  refine g_aload_n 0 (dk D_X9_number 24 rfl) rfl rfl ?_
  refine g_getI 4 (dk D_X9_number 25 rfl) kd_92 rfl rfl (by decide) w_1361 rfl rfl ?_
  refine g_callV (As := [.int ((h 92 4))]) (kc := 0) (fr := 0) (lo := 0) (mc := 0) (My := M_X9_byteAt) (dk D_X9_number 26 rfl) kd_92 rfl rfl w_1542 w_1544 w_45 w_110 w_1545 okD_X9_byteAt (by decide) (Nat.le_of_ble_eq_true rfl) rfl (c_X9_byteAt ((h 92 4)) (h) _ hw) kxN (kIp (fun z1 hw => ?_))
  refine g_callS (As := [.int (z1)]) (kc := 0) (fr := 0) (lo := 0) (mc := 0) (My := M_X9_isDigit) (dk D_X9_number 27 rfl) w_1588 w_1589 w_110 w_1590 okD_X9_isDigit (by decide) (Nat.le_of_ble_eq_true rfl) rfl (c_X9_isDigit (z1) (h) _ hw) kxN (kIp (fun z2 hw => ?_))
  refine g_if_eq (dk D_X9_number 28 rfl) rfl (wif_m hw (fun hw => ?_) (fun hw => ?_))
  · refine g_iload 4 (dk D_X9_number 54 rfl) rfl ?_
    refine g_iload_n 1 (dk D_X9_number 55 rfl) rfl rfl ?_
    refine g_iload_n 2 (dk D_X9_number 56 rfl) rfl rfl ?_
    refine g_callS (As := [.int (v4), .int (p1), .int (p2)]) (kc := 0) (fr := 0) (lo := 0) (mc := 0) (My := M_X9_in) (dk D_X9_number 57 rfl) w_1527 w_1528 w_110 w_1529 okD_X9_in (by decide) (Nat.le_of_ble_eq_true rfl) rfl (c_X9_in (v4) (p1) (p2) (h) _ hw) kxN (kIp (fun z3 hw => ?_))
    refine g_if_ne (dk D_X9_number 58 rfl) rfl (wif_m hw (fun hw => ?_) (fun hw => ?_))
    · refine g_sub [0, 4] rfl ?_
      exact t_X9_number_b122 p1 p2 (v4) (h) Q hw
    · refine g_aload_n 0 (dk D_X9_number 59 rfl) rfl rfl ?_
      refine g_iconst (dk D_X9_number 60 rfl) ki_2 ?_
      refine g_iload_n 3 (dk D_X9_number 61 rfl) rfl rfl ?_
      refine g_callV (As := [.int ((2 : Int32)), .int (v3)]) (kc := 0) (fr := 0) (lo := 0) (mc := 0) (My := M_X9_wrong) (dk D_X9_number 62 rfl) kd_92 rfl rfl w_1572 w_1574 w_50 w_110 w_1575 okD_X9_wrong (by decide) (Nat.le_of_ble_eq_true rfl) rfl (c_X9_wrong ((2 : Int32)) (v3) (h) _ hw) kxN (kV (fun h5 hw => ?_))
      refine g_sub [0, 4] rfl ?_
      exact t_X9_number_b122 p1 p2 (v4) (h5) Q hw
  · refine g_bipush (dk D_X9_number 29 rfl) kb_10 ?_
    refine g_iload 4 (dk D_X9_number 30 rfl) rfl ?_
    refine g_imul (dk D_X9_number 31 rfl) ?_
    refine g_aload_n 0 (dk D_X9_number 32 rfl) rfl rfl ?_
    refine g_aload_n 0 (dk D_X9_number 33 rfl) rfl rfl ?_
    refine g_getI 4 (dk D_X9_number 34 rfl) kd_92 rfl rfl (by decide) w_1361 rfl rfl ?_
    refine g_callV (As := [.int ((h 92 4))]) (kc := 0) (fr := 0) (lo := 0) (mc := 0) (My := M_X9_byteAt) (dk D_X9_number 35 rfl) kd_92 rfl rfl w_1542 w_1544 w_45 w_110 w_1545 okD_X9_byteAt (by decide) (Nat.le_of_ble_eq_true rfl) rfl (c_X9_byteAt ((h 92 4)) (h) _ hw) kxN (kIp (fun z6 hw => ?_))
    refine g_iadd (dk D_X9_number 36 rfl) ?_
    refine g_bipush (dk D_X9_number 37 rfl) kb_48 ?_
    refine g_isub (dk D_X9_number 38 rfl) ?_
    refine g_topi (fun v4_7 ev4_7 => ?_)
    replace hw := hw _ ev4_7
    refine g_istore (dk D_X9_number 39 rfl) (by decide) rfl ?_
    refine g_iload 0 (dk D_X9_number 40 rfl) rfl ?_
    refine g_ldc (dk D_X9_number 41 rfl) w_1591 ?_
    have hj : G X M_X9_number E_X9_number (QM X E_X9_number (QI Q) Qn) 0 91 [(4, .int (v4_7)), (0, .ref (92)), (1, .int (p1)), (2, .int (p2)), (3, .int (v3))] [.int ((if v4_7 ≤ (100000 : Int32) then v4_7 else (100000 : Int32)))] (h) := by
      refine g_topi (fun v4_9 ev4_9 => ?_)
      replace hw := hw _ ev4_9
      refine g_istore (dk D_X9_number 46 rfl) (by decide) rfl ?_
      refine g_aload_n 1 (dk D_X9_number 47 rfl) rfl rfl ?_
      refine g_dup (dk D_X9_number 48 rfl) rfl ?_
      refine g_getI 4 (dk D_X9_number 49 rfl) kd_92 rfl rfl (by decide) w_1361 rfl rfl ?_
      refine g_iconst (dk D_X9_number 50 rfl) ki_1 ?_
      refine g_iadd (dk D_X9_number 51 rfl) ?_
      refine g_put 4 (dk D_X9_number 52 rfl) kd_92 rfl rfl (by decide) w_1361 rfl tyX9_ok nmX9 rfl (by decide) rfl (fun z => absurd z (by decide)) ?_
      refine g_heap (fun h10 eh10 => ?_)
      replace hw := hw _ eh10
      refine g_goto (dk D_X9_number 53 rfl) rfl ?_
      refine g_sub [1, 2, 3, 4, 0] rfl ?_
      exact hK44 (v4_9, h10) hw
    refine g_icmp_le (dk D_X9_number 42 rfl) rfl ?_
    by_cases c8 : v4_7 ≤ (100000 : Int32)
    · rw [if_pos c8] at hj
      refine wif_p c8 ?_
      refine g_iload 0 (dk D_X9_number 45 rfl) rfl ?_
      exact hj
    · rw [if_neg c8] at hj
      refine wif_n c8 ?_
      refine g_ldc (dk D_X9_number 43 rfl) w_1591 ?_
      refine g_goto (dk D_X9_number 44 rfl) rfl ?_
      exact hj
theorem t_X9_number_b44 {X : Cx} (p1 : Int32) (p2 : Int32) (v3 : Int32) (Q : Int32 → Hp → Prop) (s : Int32 × Hp) (hw : w_X9_number_b44 p1 p2 v3 Q s) : G X M_X9_number E_X9_number (QM X E_X9_number (QI Q) Qn) 0 44 [(0, .ref (92)), (1, .int (p1)), (2, .int (p2)), (3, .int (v3)), (4, .int (s.1))] [] (s.2) :=
  wl_ind (B := fun K s => w_X9_number_l44 p1 p2 v3 Q K (s.1) (s.2)) (P := fun s => G X M_X9_number E_X9_number (QM X E_X9_number (QI Q) Qn) 0 44 [(0, .ref (92)), (1, .int (p1)), (2, .int (p2)), (3, .int (v3)), (4, .int (s.1))] [] (s.2)) (fun K hK s hw => t_X9_number_l44 p1 p2 v3 Q K (s.1) (s.2) hK hw) s hw
theorem t_X9_number {X : Cx} (p1 : Int32) (p2 : Int32) (h : Hp) (Q : Int32 → Hp → Prop) (hw : w_X9_number p1 p2 h Q) : G X M_X9_number E_X9_number (QM X E_X9_number (QI Q) Qn) 0 0 [(0, .ref (92)), (1, .int (p1)), (2, .int (p2))] [] h := by
  unfold w_X9_number at hw
  refine g_aload_n 0 (dk D_X9_number 0 rfl) rfl rfl ?_
  refine g_getI 5 (dk D_X9_number 1 rfl) kd_92 rfl rfl (by decide) w_1362 rfl rfl ?_
  refine g_if_eq (dk D_X9_number 2 rfl) rfl (wif_m hw (fun hw => ?_) (fun hw => ?_))
  · refine g_aload_n 0 (dk D_X9_number 5 rfl) rfl rfl ?_
    refine g_callV (As := []) (kc := 0) (fr := 1) (lo := 29) (mc := 0) (My := M_X9_blanks) (dk D_X9_number 6 rfl) kd_92 rfl rfl w_1538 w_1540 w_44 w_110 w_1541 okD_X9_blanks (by decide) (Nat.le_of_ble_eq_true rfl) rfl (c_X9_blanks (h) _ hw) kxN (kV (fun h1 hw => ?_))
    refine g_aload_n 0 (dk D_X9_number 7 rfl) rfl rfl ?_
    refine g_getI 4 (dk D_X9_number 8 rfl) kd_92 rfl rfl (by decide) w_1361 rfl rfl ?_
    refine g_topi (fun v3_2 ev3_2 => ?_)
    replace hw := hw _ ev3_2
    refine g_istore_n (dk D_X9_number 9 rfl) rfl (by decide) rfl ?_
    refine g_iconst (dk D_X9_number 10 rfl) ki_0 ?_
    refine g_istore (dk D_X9_number 11 rfl) (by decide) rfl ?_
    refine g_aload_n 2 (dk D_X9_number 12 rfl) rfl rfl ?_
    refine g_aload_n 2 (dk D_X9_number 13 rfl) rfl rfl ?_
    refine g_getI 4 (dk D_X9_number 14 rfl) kd_92 rfl rfl (by decide) w_1361 rfl rfl ?_
    refine g_callV (As := [.int ((h1 92 4))]) (kc := 0) (fr := 0) (lo := 0) (mc := 0) (My := M_X9_byteAt) (dk D_X9_number 15 rfl) kd_92 rfl rfl w_1542 w_1544 w_45 w_110 w_1545 okD_X9_byteAt (by decide) (Nat.le_of_ble_eq_true rfl) rfl (c_X9_byteAt ((h1 92 4)) (h1) _ hw) kxN (kIp (fun z3 hw => ?_))
    refine g_callS (As := [.int (z3)]) (kc := 0) (fr := 0) (lo := 0) (mc := 0) (My := M_X9_isDigit) (dk D_X9_number 16 rfl) w_1588 w_1589 w_110 w_1590 okD_X9_isDigit (by decide) (Nat.le_of_ble_eq_true rfl) rfl (c_X9_isDigit (z3) (h1) _ hw) kxN (kIp (fun z4 hw => ?_))
    refine g_if_ne (dk D_X9_number 17 rfl) rfl (wif_m hw (fun hw => ?_) (fun hw => ?_))
    · refine g_sub [2, 3, 4, 1, 0] rfl ?_
      exact t_X9_number_b44 p1 p2 (v3_2) Q ((0 : Int32), h1) hw
    · refine g_aload_n 2 (dk D_X9_number 18 rfl) rfl rfl ?_
      refine g_iconst (dk D_X9_number 19 rfl) ki_1 ?_
      refine g_aload_n 2 (dk D_X9_number 20 rfl) rfl rfl ?_
      refine g_getI 4 (dk D_X9_number 21 rfl) kd_92 rfl rfl (by decide) w_1361 rfl rfl ?_
      refine g_callV (As := [.int ((1 : Int32)), .int ((h1 92 4))]) (kc := 0) (fr := 0) (lo := 0) (mc := 0) (My := M_X9_wrong) (dk D_X9_number 22 rfl) kd_92 rfl rfl w_1572 w_1574 w_50 w_110 w_1575 okD_X9_wrong (by decide) (Nat.le_of_ble_eq_true rfl) rfl (c_X9_wrong ((1 : Int32)) ((h1 92 4)) (h1) _ hw) kxN (kV (fun h5 hw => ?_))
      refine g_sub [2, 3, 4, 1, 0] rfl ?_
      exact t_X9_number_b44 p1 p2 (v3_2) Q ((0 : Int32), h5) hw
  · refine g_iconst (dk D_X9_number 3 rfl) ki_0 ?_
    exact g_iret (dk D_X9_number 4 rfl) rfl ⟨_, rfl, hw⟩
theorem c_X9_number {X : Cx} (p1 : Int32) (p2 : Int32) (h : Hp) (Q : Int32 → Hp → Prop) (hw : w_X9_number p1 p2 h Q) : Con X yX9_number M_X9_number 2 57 0 [.ref (92), .int (p1), .int (p2)] h (QI Q) Qn :=
  con_of (by decide +kernel) rfl (Nat.le_of_ble_eq_true rfl) (t_X9_number p1 p2 h Q hw)
/-! ShadowTollsModel.wordHere()J -/
abbrev M_X9_wordHere : Mi := (RX9, cX9_wordHere, 4, (some .long))
abbrev E_X9_wordHere : Rm := (2, 57, 0, 0)
def rows_X9_wordHere : List (Nat × Instr × Nat) := [(0, .aload_n 0, 1), (1, .invokevirtual 133, 3), (4, .lconst 0, 1), (5, .lstore_n 1, 1), (6, .iconst 0, 1), (7, .istore_n 3, 1), (8, .aload_n 0, 1), (9, .aload_n 0, 1), (10, .getfield 120, 3), (13, .iload_n 3, 1), (14, .iadd, 1), (15, .invokevirtual 123, 3), (18, .bipush 97, 2), (20, .if_icmp .lt 58, 3), (23, .aload_n 0, 1), (24, .aload_n 0, 1), (25, .getfield 120, 3), (28, .iload_n 3, 1), (29, .iadd, 1), (30, .invokevirtual 123, 3), (33, .bipush 122, 2), (35, .if_icmp .gt 43, 3), (38, .iload_n 3, 1), (39, .bipush 9, 2), (41, .if_icmp .ge 29, 3), (44, .ldc2_w 149, 3), (47, .lload_n 1, 1), (48, .lmul, 1), (49, .aload_n 0, 1), (50, .aload_n 0, 1), (51, .getfield 120, 3), (54, .iload_n 3, 1), (55, .iadd, 1), (56, .invokevirtual 123, 3), (59, .i2l, 1), (60, .ladd, 1), (61, .ldc2_w 151, 3), (64, .lsub, 1), (65, .lconst 1, 1), (66, .ladd, 1), (67, .goto 4, 3), (70, .lload_n 1, 1), (71, .lstore_n 1, 1), (72, .iinc 3 1, 3), (75, .goto (-67), 3), (78, .iload_n 3, 1), (79, .bipush 9, 2), (81, .if_icmp .le 9, 3), (84, .ldc2_w 153, 3), (87, .goto 4, 3), (90, .lload_n 1, 1), (91, .lreturn, 1)]
theorem D_X9_wordHere : dkA cX9_wordHere rows_X9_wordHere := by
  unfold dkA
  decide +kernel
theorem okD_X9_wordHere : okD yX9_wordHere 0 := by
  unfold okD
  decide +kernel
def w_X9_wordHere_b78 (v1 : Int64) (v3 : Int32) (h : Hp) (Q : Int64 → Hp → Prop) : Prop :=
  Q (if v3 ≤ (9 : Int32) then v1 else (-1 : Int64)) h
def w_X9_wordHere_b71 (v3 : Int32) (s0 : Int64) (K8 : Int64 × Int32 → Prop) (h : Hp) (Q : Int64 → Hp → Prop) : Prop :=
  K8 (s0, (v3 + (1 : Int32)))
def w_X9_wordHere_l8 (h : Hp) (Q : Int64 → Hp → Prop) (K8 : Int64 × Int32 → Prop) (v1 : Int64) (v3 : Int32) : Prop :=
  w_X9_byteAt (((h 92 4) + v3)) h (fun z1 => wif (z1 < (97 : Int32)) (w_X9_wordHere_b78 (v1) (v3) (h) Q) (w_X9_byteAt (((h 92 4) + v3)) h (fun z3 => wif ((122 : Int32) < z3) (w_X9_wordHere_b78 (v1) (v3) (h) Q) (wif ((9 : Int32) ≤ v3) (w_X9_wordHere_b71 (v3) (v1) K8 (h) Q) (w_X9_byteAt (((h 92 4) + v3)) h (fun z5 => w_X9_wordHere_b71 (v3) ((((((27 : Int64) * v1) + (Int32.toInt64 z5)) - (97 : Int64)) + (1 : Int64))) K8 (h) Q))))))
def w_X9_wordHere_b8 (h : Hp) (Q : Int64 → Hp → Prop) (s : Int64 × Int32) : Prop := wl (fun K s => w_X9_wordHere_l8 h Q K s.1 s.2) s
def w_X9_wordHere (h : Hp) (Q : Int64 → Hp → Prop) : Prop :=
  w_X9_blanks  h (fun h1 => w_X9_wordHere_b8 (h1) Q ((0 : Int64), (0 : Int32)))
theorem t_X9_wordHere_b78 {X : Cx} (v1 : Int64) (v3 : Int32) (h : Hp) (Q : Int64 → Hp → Prop) (hw : w_X9_wordHere_b78 v1 v3 h Q) : G X M_X9_wordHere E_X9_wordHere (QM X E_X9_wordHere (QL Q) Qn) 0 78 [(1, .long (v1)), (3, .int (v3))] [] h := by
  unfold w_X9_wordHere_b78 at hw
  refine g_iload_n 1 (dk D_X9_wordHere 45 rfl) rfl rfl ?_
  refine g_bipush (dk D_X9_wordHere 46 rfl) kb_9 ?_
  have hj : G X M_X9_wordHere E_X9_wordHere (QM X E_X9_wordHere (QL Q) Qn) 0 91 [(1, .long (v1)), (3, .int (v3))] [.long ((if v3 ≤ (9 : Int32) then v1 else (-1 : Int64)))] (h) := by
    exact g_lret (dk D_X9_wordHere 51 rfl) rfl ⟨_, rfl, hw⟩
  refine g_icmp_le (dk D_X9_wordHere 47 rfl) rfl ?_
  by_cases c1 : v3 ≤ (9 : Int32)
  · rw [if_pos c1] at hj
    refine wif_p c1 ?_
    refine g_lload_n 0 (dk D_X9_wordHere 50 rfl) rfl rfl ?_
    exact hj
  · rw [if_neg c1] at hj
    refine wif_n c1 ?_
    refine g_ldc2 (dk D_X9_wordHere 48 rfl) w_1567 ?_
    refine g_goto (dk D_X9_wordHere 49 rfl) rfl ?_
    exact hj
theorem t_X9_wordHere_b71 {X : Cx} (v3 : Int32) (s0 : Int64) (K8 : Int64 × Int32 → Prop) (h : Hp) (Q : Int64 → Hp → Prop) (hK8 : ∀ s : Int64 × Int32, K8 s → G X M_X9_wordHere E_X9_wordHere (QM X E_X9_wordHere (QL Q) Qn) 0 8 [(0, .ref (92)), (1, .long (s.1)), (3, .int (s.2))] [] (h)) (hw : w_X9_wordHere_b71 v3 s0 K8 h Q) : G X M_X9_wordHere E_X9_wordHere (QM X E_X9_wordHere (QL Q) Qn) 0 71 [(0, .ref (92)), (3, .int (v3))] [.long (s0)] h := by
  unfold w_X9_wordHere_b71 at hw
  refine g_lstore_n (dk D_X9_wordHere 42 rfl) rfl (by decide) rfl ?_
  refine g_iinc 2 (dk D_X9_wordHere 43 rfl) rfl (congrArg (fun z => _ + z) ki_1) (by decide) rfl ?_
  refine g_goto (dk D_X9_wordHere 44 rfl) rfl ?_
  refine g_sub [2, 1, 0] rfl ?_
  exact hK8 (s0, (v3 + (1 : Int32))) hw
theorem t_X9_wordHere_l8 {X : Cx} (h : Hp) (Q : Int64 → Hp → Prop) (K8 : Int64 × Int32 → Prop) (v1 : Int64) (v3 : Int32) (hK8 : ∀ s : Int64 × Int32, K8 s → G X M_X9_wordHere E_X9_wordHere (QM X E_X9_wordHere (QL Q) Qn) 0 8 [(0, .ref (92)), (1, .long (s.1)), (3, .int (s.2))] [] (h)) (hw : w_X9_wordHere_l8 h Q K8 v1 v3) : G X M_X9_wordHere E_X9_wordHere (QM X E_X9_wordHere (QL Q) Qn) 0 8 [(0, .ref (92)), (1, .long (v1)), (3, .int (v3))] [] h := by
  unfold w_X9_wordHere_l8 at hw
  refine g_aload_n 0 (dk D_X9_wordHere 6 rfl) rfl rfl ?_
  refine g_aload_n 0 (dk D_X9_wordHere 7 rfl) rfl rfl ?_
  refine g_getI 4 (dk D_X9_wordHere 8 rfl) kd_92 rfl rfl (by decide) w_1361 rfl rfl ?_
  refine g_iload_n 2 (dk D_X9_wordHere 9 rfl) rfl rfl ?_
  refine g_iadd (dk D_X9_wordHere 10 rfl) ?_
  refine g_callV (As := [.int (((h 92 4) + v3))]) (kc := 0) (fr := 0) (lo := 0) (mc := 0) (My := M_X9_byteAt) (dk D_X9_wordHere 11 rfl) kd_92 rfl rfl w_1542 w_1544 w_45 w_110 w_1545 okD_X9_byteAt (by decide) (Nat.le_of_ble_eq_true rfl) rfl (c_X9_byteAt (((h 92 4) + v3)) (h) _ hw) kxN (kIp (fun z1 hw => ?_))
  refine g_bipush (dk D_X9_wordHere 12 rfl) kb_97 ?_
  refine g_icmp_lt (dk D_X9_wordHere 13 rfl) rfl (wif_m hw (fun hw => ?_) (fun hw => ?_))
  · refine g_sub [1, 2] rfl ?_
    exact t_X9_wordHere_b78 (v1) (v3) (h) Q hw
  · refine g_aload_n 0 (dk D_X9_wordHere 14 rfl) rfl rfl ?_
    refine g_aload_n 0 (dk D_X9_wordHere 15 rfl) rfl rfl ?_
    refine g_getI 4 (dk D_X9_wordHere 16 rfl) kd_92 rfl rfl (by decide) w_1361 rfl rfl ?_
    refine g_iload_n 2 (dk D_X9_wordHere 17 rfl) rfl rfl ?_
    refine g_iadd (dk D_X9_wordHere 18 rfl) ?_
    refine g_callV (As := [.int (((h 92 4) + v3))]) (kc := 0) (fr := 0) (lo := 0) (mc := 0) (My := M_X9_byteAt) (dk D_X9_wordHere 19 rfl) kd_92 rfl rfl w_1542 w_1544 w_45 w_110 w_1545 okD_X9_byteAt (by decide) (Nat.le_of_ble_eq_true rfl) rfl (c_X9_byteAt (((h 92 4) + v3)) (h) _ hw) kxN (kIp (fun z3 hw => ?_))
    refine g_bipush (dk D_X9_wordHere 20 rfl) kb_122 ?_
    refine g_icmp_gt (dk D_X9_wordHere 21 rfl) rfl (wif_m hw (fun hw => ?_) (fun hw => ?_))
    · refine g_sub [1, 2] rfl ?_
      exact t_X9_wordHere_b78 (v1) (v3) (h) Q hw
    · refine g_iload_n 2 (dk D_X9_wordHere 22 rfl) rfl rfl ?_
      refine g_bipush (dk D_X9_wordHere 23 rfl) kb_9 ?_
      refine g_icmp_ge (dk D_X9_wordHere 24 rfl) rfl (wif_m hw (fun hw => ?_) (fun hw => ?_))
      · refine g_lload_n 1 (dk D_X9_wordHere 41 rfl) rfl rfl ?_
        refine g_sub [0, 2] rfl ?_
        exact t_X9_wordHere_b71 (v3) (v1) K8 (h) Q hK8 hw
      · refine g_ldc2 (dk D_X9_wordHere 25 rfl) w_1557 ?_
        refine g_lload_n 1 (dk D_X9_wordHere 26 rfl) rfl rfl ?_
        refine g_lmul (dk D_X9_wordHere 27 rfl) ?_
        refine g_aload_n 0 (dk D_X9_wordHere 28 rfl) rfl rfl ?_
        refine g_aload_n 0 (dk D_X9_wordHere 29 rfl) rfl rfl ?_
        refine g_getI 4 (dk D_X9_wordHere 30 rfl) kd_92 rfl rfl (by decide) w_1361 rfl rfl ?_
        refine g_iload_n 2 (dk D_X9_wordHere 31 rfl) rfl rfl ?_
        refine g_iadd (dk D_X9_wordHere 32 rfl) ?_
        refine g_callV (As := [.int (((h 92 4) + v3))]) (kc := 0) (fr := 0) (lo := 0) (mc := 0) (My := M_X9_byteAt) (dk D_X9_wordHere 33 rfl) kd_92 rfl rfl w_1542 w_1544 w_45 w_110 w_1545 okD_X9_byteAt (by decide) (Nat.le_of_ble_eq_true rfl) rfl (c_X9_byteAt (((h 92 4) + v3)) (h) _ hw) kxN (kIp (fun z5 hw => ?_))
        refine g_i2l (dk D_X9_wordHere 34 rfl) ?_
        refine g_ladd (dk D_X9_wordHere 35 rfl) ?_
        refine g_ldc2 (dk D_X9_wordHere 36 rfl) w_1566 ?_
        refine g_lsub (dk D_X9_wordHere 37 rfl) ?_
        refine g_lconst (dk D_X9_wordHere 38 rfl) kl_1 ?_
        refine g_ladd (dk D_X9_wordHere 39 rfl) ?_
        refine g_goto (dk D_X9_wordHere 40 rfl) rfl ?_
        refine g_sub [0, 2] rfl ?_
        exact t_X9_wordHere_b71 (v3) ((((((27 : Int64) * v1) + (Int32.toInt64 z5)) - (97 : Int64)) + (1 : Int64))) K8 (h) Q hK8 hw
theorem t_X9_wordHere_b8 {X : Cx} (h : Hp) (Q : Int64 → Hp → Prop) (s : Int64 × Int32) (hw : w_X9_wordHere_b8 h Q s) : G X M_X9_wordHere E_X9_wordHere (QM X E_X9_wordHere (QL Q) Qn) 0 8 [(0, .ref (92)), (1, .long (s.1)), (3, .int (s.2))] [] (h) :=
  wl_ind (B := fun K s => w_X9_wordHere_l8 h Q K (s.1) (s.2)) (P := fun s => G X M_X9_wordHere E_X9_wordHere (QM X E_X9_wordHere (QL Q) Qn) 0 8 [(0, .ref (92)), (1, .long (s.1)), (3, .int (s.2))] [] (h)) (fun K hK s hw => t_X9_wordHere_l8 h Q K (s.1) (s.2) hK hw) s hw
theorem t_X9_wordHere {X : Cx} (h : Hp) (Q : Int64 → Hp → Prop) (hw : w_X9_wordHere h Q) : G X M_X9_wordHere E_X9_wordHere (QM X E_X9_wordHere (QL Q) Qn) 0 0 [(0, .ref (92))] [] h := by
  unfold w_X9_wordHere at hw
  refine g_aload_n 0 (dk D_X9_wordHere 0 rfl) rfl rfl ?_
  refine g_callV (As := []) (kc := 0) (fr := 1) (lo := 29) (mc := 0) (My := M_X9_blanks) (dk D_X9_wordHere 1 rfl) kd_92 rfl rfl w_1538 w_1540 w_44 w_110 w_1541 okD_X9_blanks (by decide) (Nat.le_of_ble_eq_true rfl) rfl (c_X9_blanks (h) _ hw) kxN (kV (fun h1 hw => ?_))
  refine g_lconst (dk D_X9_wordHere 2 rfl) kl_0 ?_
  refine g_lstore_n (dk D_X9_wordHere 3 rfl) rfl (by decide) rfl ?_
  refine g_iconst (dk D_X9_wordHere 4 rfl) ki_0 ?_
  refine g_istore_n (dk D_X9_wordHere 5 rfl) rfl (by decide) rfl ?_
  refine g_sub [2, 1, 0] rfl ?_
  exact t_X9_wordHere_b8 (h1) Q ((0 : Int64), (0 : Int32)) hw
theorem c_X9_wordHere {X : Cx} (h : Hp) (Q : Int64 → Hp → Prop) (hw : w_X9_wordHere h Q) : Con X yX9_wordHere M_X9_wordHere 2 57 0 [.ref (92)] h (QL Q) Qn :=
  con_of (by decide +kernel) rfl (Nat.le_of_ble_eq_true rfl) (t_X9_wordHere h Q hw)
/-! ShadowTollsModel.five(IIIII)J -/
abbrev M_X9_five : Mi := (RX9, cX9_five, 7, (some .long))
abbrev E_X9_five : Rm := (0, 0, 0, 0)
def rows_X9_five : List (Nat × Instr × Nat) := [(0, .ldc2_w 149, 3), (3, .ldc2_w 149, 3), (6, .iload_n 0, 1), (7, .i2l, 1), (8, .lmul, 1), (9, .iload_n 1, 1), (10, .i2l, 1), (11, .ladd, 1), (12, .lmul, 1), (13, .iload_n 2, 1), (14, .i2l, 1), (15, .ladd, 1), (16, .lstore 5, 2), (18, .iload_n 3, 1), (19, .ifCond .ne 8, 3), (22, .lload 5, 2), (24, .goto 12, 3), (27, .ldc2_w 149, 3), (30, .lload 5, 2), (32, .lmul, 1), (33, .iload_n 3, 1), (34, .i2l, 1), (35, .ladd, 1), (36, .lstore 5, 2), (38, .iload 4, 2), (40, .ifCond .ne 8, 3), (43, .lload 5, 2), (45, .goto 13, 3), (48, .ldc2_w 149, 3), (51, .lload 5, 2), (53, .lmul, 1), (54, .iload 4, 2), (56, .i2l, 1), (57, .ladd, 1), (58, .lreturn, 1)]
theorem D_X9_five : dkA cX9_five rows_X9_five := by
  unfold dkA
  decide +kernel
theorem okD_X9_five : okD yX9_five 5 := by
  unfold okD
  decide +kernel
def w_X9_five (p0 : Int32) (p1 : Int32) (p2 : Int32) (p3 : Int32) (p4 : Int32) (h : Hp) (Q : Int64 → Prop) : Prop :=
  wlet ((((27 : Int64) * (((27 : Int64) * (Int32.toInt64 p0)) + (Int32.toInt64 p1))) + (Int32.toInt64 p2))) (fun v5_1 => wlet ((if ¬ p3 = 0 then (((27 : Int64) * v5_1) + (Int32.toInt64 p3)) else v5_1)) (fun v5_3 => Q (if ¬ p4 = 0 then (((27 : Int64) * v5_3) + (Int32.toInt64 p4)) else v5_3)))
theorem t_X9_five {X : Cx} (p0 : Int32) (p1 : Int32) (p2 : Int32) (p3 : Int32) (p4 : Int32) (h : Hp) (Q : Int64 → Prop) (hw : w_X9_five p0 p1 p2 p3 p4 h Q) : G X M_X9_five E_X9_five (QM X E_X9_five (QLp h Q) Qn) 0 0 [(0, .int (p0)), (1, .int (p1)), (2, .int (p2)), (3, .int (p3)), (4, .int (p4))] [] h := by
  unfold w_X9_five at hw
  refine g_ldc2 (dk D_X9_five 0 rfl) w_1557 ?_
  refine g_ldc2 (dk D_X9_five 1 rfl) w_1557 ?_
  refine g_iload_n 0 (dk D_X9_five 2 rfl) rfl rfl ?_
  refine g_i2l (dk D_X9_five 3 rfl) ?_
  refine g_lmul (dk D_X9_five 4 rfl) ?_
  refine g_iload_n 1 (dk D_X9_five 5 rfl) rfl rfl ?_
  refine g_i2l (dk D_X9_five 6 rfl) ?_
  refine g_ladd (dk D_X9_five 7 rfl) ?_
  refine g_lmul (dk D_X9_five 8 rfl) ?_
  refine g_iload_n 2 (dk D_X9_five 9 rfl) rfl rfl ?_
  refine g_i2l (dk D_X9_five 10 rfl) ?_
  refine g_ladd (dk D_X9_five 11 rfl) ?_
  refine g_topl (fun v5_1 ev5_1 => ?_)
  replace hw := hw _ ev5_1
  refine g_lstore (dk D_X9_five 12 rfl) (by decide) rfl ?_
  refine g_iload_n 4 (dk D_X9_five 13 rfl) rfl rfl ?_
  have hj : G X M_X9_five E_X9_five (QM X E_X9_five (QLp h Q) Qn) 0 36 [(5, .long (v5_1)), (0, .int (p0)), (1, .int (p1)), (2, .int (p2)), (3, .int (p3)), (4, .int (p4))] [.long ((if ¬ p3 = 0 then (((27 : Int64) * v5_1) + (Int32.toInt64 p3)) else v5_1))] (h) := by
    refine g_topl (fun v5_3 ev5_3 => ?_)
    replace hw := hw _ ev5_3
    refine g_lstore (dk D_X9_five 23 rfl) (by decide) rfl ?_
    refine g_iload 5 (dk D_X9_five 24 rfl) rfl ?_
    have hj : G X M_X9_five E_X9_five (QM X E_X9_five (QLp h Q) Qn) 0 58 [(5, .long (v5_3)), (0, .int (p0)), (1, .int (p1)), (2, .int (p2)), (3, .int (p3)), (4, .int (p4))] [.long ((if ¬ p4 = 0 then (((27 : Int64) * v5_3) + (Int32.toInt64 p4)) else v5_3))] (h) := by
      exact g_lret (dk D_X9_five 34 rfl) rfl ⟨_, rfl, rfl, hw⟩
    refine g_if_ne (dk D_X9_five 25 rfl) rfl ?_
    by_cases c4 : ¬ p4 = 0
    · rw [if_pos c4] at hj
      refine wif_p c4 ?_
      refine g_ldc2 (dk D_X9_five 28 rfl) w_1557 ?_
      refine g_lload 0 (dk D_X9_five 29 rfl) rfl ?_
      refine g_lmul (dk D_X9_five 30 rfl) ?_
      refine g_iload 5 (dk D_X9_five 31 rfl) rfl ?_
      refine g_i2l (dk D_X9_five 32 rfl) ?_
      refine g_ladd (dk D_X9_five 33 rfl) ?_
      exact hj
    · rw [if_neg c4] at hj
      refine wif_n c4 ?_
      refine g_lload 0 (dk D_X9_five 26 rfl) rfl ?_
      refine g_goto (dk D_X9_five 27 rfl) rfl ?_
      exact hj
  refine g_if_ne (dk D_X9_five 14 rfl) rfl ?_
  by_cases c2 : ¬ p3 = 0
  · rw [if_pos c2] at hj
    refine wif_p c2 ?_
    refine g_ldc2 (dk D_X9_five 17 rfl) w_1557 ?_
    refine g_lload 0 (dk D_X9_five 18 rfl) rfl ?_
    refine g_lmul (dk D_X9_five 19 rfl) ?_
    refine g_iload_n 4 (dk D_X9_five 20 rfl) rfl rfl ?_
    refine g_i2l (dk D_X9_five 21 rfl) ?_
    refine g_ladd (dk D_X9_five 22 rfl) ?_
    exact hj
  · rw [if_neg c2] at hj
    refine wif_n c2 ?_
    refine g_lload 0 (dk D_X9_five 15 rfl) rfl ?_
    refine g_goto (dk D_X9_five 16 rfl) rfl ?_
    exact hj
theorem c_X9_five {X : Cx} (p0 : Int32) (p1 : Int32) (p2 : Int32) (p3 : Int32) (p4 : Int32) (h : Hp) (Q : Int64 → Prop) (hw : w_X9_five p0 p1 p2 p3 p4 h Q) : Con X yX9_five M_X9_five 0 0 0 [.int (p0), .int (p1), .int (p2), .int (p3), .int (p4)] h (QLp h Q) Qn :=
  con_of (by decide +kernel) rfl (Nat.le_of_ble_eq_true rfl) (t_X9_five p0 p1 p2 p3 p4 h Q hw)
/-! ShadowTollsModel.isWord(J)Z -/
abbrev M_X9_isWord : Mi := (RX9, cX9_isWord, 3, (some .boolean))
abbrev E_X9_isWord : Rm := (3, 88, 0, 0)
def rows_X9_isWord : List (Nat × Instr × Nat) := [(0, .aload_n 0, 1), (1, .getfield 127, 3), (4, .ifCond .ne 16, 3), (7, .aload_n 0, 1), (8, .invokevirtual 155, 3), (11, .lload_n 1, 1), (12, .lcmp, 1), (13, .ifCond .ne 7, 3), (16, .iconst 1, 1), (17, .goto 4, 3), (20, .iconst 0, 1), (21, .ireturn, 1)]
theorem D_X9_isWord : dkA cX9_isWord rows_X9_isWord := by
  unfold dkA
  decide +kernel
theorem okD_X9_isWord : okD yX9_isWord 1 := by
  unfold okD
  decide +kernel
def w_X9_isWord (p1 : Int64) (h : Hp) (Q : Int32 → Hp → Prop) : Prop :=
  wif (¬ (h 92 5) = 0) (Q ((0 : Int32) &&& 1) h) (w_X9_wordHere  h (fun z1 h2 => Q ((if ¬ (lg_cmp z1 p1) = 0 then (0 : Int32) else (1 : Int32)) &&& 1) h2))
theorem t_X9_isWord {X : Cx} (p1 : Int64) (h : Hp) (Q : Int32 → Hp → Prop) (hw : w_X9_isWord p1 h Q) : G X M_X9_isWord E_X9_isWord (QM X E_X9_isWord (QI Q) Qn) 0 0 [(0, .ref (92)), (1, .long (p1))] [] h := by
  unfold w_X9_isWord at hw
  refine g_aload_n 0 (dk D_X9_isWord 0 rfl) rfl rfl ?_
  refine g_getI 5 (dk D_X9_isWord 1 rfl) kd_92 rfl rfl (by decide) w_1362 rfl rfl ?_
  refine g_if_ne (dk D_X9_isWord 2 rfl) rfl (wif_m hw (fun hw => ?_) (fun hw => ?_))
  · refine g_iconst (dk D_X9_isWord 10 rfl) ki_0 ?_
    exact g_zret (dk D_X9_isWord 11 rfl) rfl ⟨_, rfl, hw⟩
  · refine g_aload_n 0 (dk D_X9_isWord 3 rfl) rfl rfl ?_
    refine g_callV (As := []) (kc := 0) (fr := 2) (lo := 57) (mc := 0) (My := M_X9_wordHere) (dk D_X9_isWord 4 rfl) kd_92 rfl rfl w_1562 w_1564 w_49 w_110 w_1565 okD_X9_wordHere (by decide) (Nat.le_of_ble_eq_true rfl) rfl (c_X9_wordHere (h) _ hw) kxN (kL (fun z1 h2 hw => ?_))
    refine g_lload_n 1 (dk D_X9_isWord 5 rfl) rfl rfl ?_
    refine g_lcmp (dk D_X9_isWord 6 rfl) ?_
    have hj : G X M_X9_isWord E_X9_isWord (QM X E_X9_isWord (QI Q) Qn) 0 21 [(0, .ref (92)), (1, .long (p1))] [.int ((if ¬ (lg_cmp z1 p1) = 0 then (0 : Int32) else (1 : Int32)))] (h2) := by
      exact g_zret (dk D_X9_isWord 11 rfl) rfl ⟨_, rfl, hw⟩
    refine g_if_ne (dk D_X9_isWord 7 rfl) rfl ?_
    by_cases c3 : ¬ (lg_cmp z1 p1) = 0
    · rw [if_pos c3] at hj
      refine wif_p c3 ?_
      refine g_iconst (dk D_X9_isWord 10 rfl) ki_0 ?_
      exact hj
    · rw [if_neg c3] at hj
      refine wif_n c3 ?_
      refine g_iconst (dk D_X9_isWord 8 rfl) ki_1 ?_
      refine g_goto (dk D_X9_isWord 9 rfl) rfl ?_
      exact hj
theorem c_X9_isWord {X : Cx} (p1 : Int64) (h : Hp) (Q : Int32 → Hp → Prop) (hw : w_X9_isWord p1 h Q) : Con X yX9_isWord M_X9_isWord 3 88 0 [.ref (92), .long (p1)] h (QI Q) Qn :=
  con_of (by decide +kernel) rfl (Nat.le_of_ble_eq_true rfl) (t_X9_isWord p1 h Q hw)
/-! ShadowTollsModel.skipWord()V -/
abbrev M_X9_skipWord : Mi := (RX9, cX9_skipWord, 1, none)
abbrev E_X9_skipWord : Rm := (1, 29, 0, 0)
def rows_X9_skipWord : List (Nat × Instr × Nat) := [(0, .aload_n 0, 1), (1, .aload_n 0, 1), (2, .getfield 120, 3), (5, .invokevirtual 123, 3), (8, .bipush 97, 2), (10, .if_icmp .lt 29, 3), (13, .aload_n 0, 1), (14, .aload_n 0, 1), (15, .getfield 120, 3), (18, .invokevirtual 123, 3), (21, .bipush 122, 2), (23, .if_icmp .gt 16, 3), (26, .aload_n 0, 1), (27, .dup, 1), (28, .getfield 120, 3), (31, .iconst 1, 1), (32, .iadd, 1), (33, .putfield 120, 3), (36, .goto (-36), 3), (39, .return_, 1)]
theorem D_X9_skipWord : dkA cX9_skipWord rows_X9_skipWord := by
  unfold dkA
  decide +kernel
theorem okD_X9_skipWord : okD yX9_skipWord 0 := by
  unfold okD
  decide +kernel
def w_X9_skipWord_l0 (Q : Hp → Prop) (K0 : Hp → Prop)  (h : Hp) : Prop :=
  w_X9_byteAt ((h 92 4)) h (fun z1 => wif (z1 < (97 : Int32)) (Q h) (w_X9_byteAt ((h 92 4)) h (fun z2 => wif ((122 : Int32) < z2) (Q h) (wlet (hup h 92 4 ((h 92 4) + (1 : Int32))) (fun h3 => K0 (h3))))))
def w_X9_skipWord_b0 (Q : Hp → Prop) (s : Hp) : Prop := wl (fun K s => w_X9_skipWord_l0 Q K s) s
def w_X9_skipWord (h : Hp) (Q : Hp → Prop) : Prop :=
  w_X9_skipWord_b0 Q (h)
theorem t_X9_skipWord_l0 {X : Cx} (Q : Hp → Prop) (K0 : Hp → Prop)  (h : Hp) (hK0 : ∀ s : Hp, K0 s → G X M_X9_skipWord E_X9_skipWord (QM X E_X9_skipWord (QV Q) Qn) 0 0 [(0, .ref (92))] [] (s)) (hw : w_X9_skipWord_l0 Q K0  h) : G X M_X9_skipWord E_X9_skipWord (QM X E_X9_skipWord (QV Q) Qn) 0 0 [(0, .ref (92))] [] h := by
  unfold w_X9_skipWord_l0 at hw
  refine g_aload_n 0 (dk D_X9_skipWord 0 rfl) rfl rfl ?_
  refine g_aload_n 0 (dk D_X9_skipWord 1 rfl) rfl rfl ?_
  refine g_getI 4 (dk D_X9_skipWord 2 rfl) kd_92 rfl rfl (by decide) w_1361 rfl rfl ?_
  refine g_callV (As := [.int ((h 92 4))]) (kc := 0) (fr := 0) (lo := 0) (mc := 0) (My := M_X9_byteAt) (dk D_X9_skipWord 3 rfl) kd_92 rfl rfl w_1542 w_1544 w_45 w_110 w_1545 okD_X9_byteAt (by decide) (Nat.le_of_ble_eq_true rfl) rfl (c_X9_byteAt ((h 92 4)) (h) _ hw) kxN (kIp (fun z1 hw => ?_))
  refine g_bipush (dk D_X9_skipWord 4 rfl) kb_97 ?_
  refine g_icmp_lt (dk D_X9_skipWord 5 rfl) rfl (wif_m hw (fun hw => ?_) (fun hw => ?_))
  · exact g_vret (dk D_X9_skipWord 19 rfl) rfl ⟨rfl, hw⟩
  · refine g_aload_n 0 (dk D_X9_skipWord 6 rfl) rfl rfl ?_
    refine g_aload_n 0 (dk D_X9_skipWord 7 rfl) rfl rfl ?_
    refine g_getI 4 (dk D_X9_skipWord 8 rfl) kd_92 rfl rfl (by decide) w_1361 rfl rfl ?_
    refine g_callV (As := [.int ((h 92 4))]) (kc := 0) (fr := 0) (lo := 0) (mc := 0) (My := M_X9_byteAt) (dk D_X9_skipWord 9 rfl) kd_92 rfl rfl w_1542 w_1544 w_45 w_110 w_1545 okD_X9_byteAt (by decide) (Nat.le_of_ble_eq_true rfl) rfl (c_X9_byteAt ((h 92 4)) (h) _ hw) kxN (kIp (fun z2 hw => ?_))
    refine g_bipush (dk D_X9_skipWord 10 rfl) kb_122 ?_
    refine g_icmp_gt (dk D_X9_skipWord 11 rfl) rfl (wif_m hw (fun hw => ?_) (fun hw => ?_))
    · exact g_vret (dk D_X9_skipWord 19 rfl) rfl ⟨rfl, hw⟩
    · refine g_aload_n 0 (dk D_X9_skipWord 12 rfl) rfl rfl ?_
      refine g_dup (dk D_X9_skipWord 13 rfl) rfl ?_
      refine g_getI 4 (dk D_X9_skipWord 14 rfl) kd_92 rfl rfl (by decide) w_1361 rfl rfl ?_
      refine g_iconst (dk D_X9_skipWord 15 rfl) ki_1 ?_
      refine g_iadd (dk D_X9_skipWord 16 rfl) ?_
      refine g_put 4 (dk D_X9_skipWord 17 rfl) kd_92 rfl rfl (by decide) w_1361 rfl tyX9_ok nmX9 rfl (by decide) rfl (fun z => absurd z (by decide)) ?_
      refine g_heap (fun h3 eh3 => ?_)
      replace hw := hw _ eh3
      refine g_goto (dk D_X9_skipWord 18 rfl) rfl ?_
      exact hK0 (h3) hw
theorem t_X9_skipWord_b0 {X : Cx} (Q : Hp → Prop) (s : Hp) (hw : w_X9_skipWord_b0 Q s) : G X M_X9_skipWord E_X9_skipWord (QM X E_X9_skipWord (QV Q) Qn) 0 0 [(0, .ref (92))] [] (s) :=
  wl_ind (B := fun K s => w_X9_skipWord_l0 Q K (s)) (P := fun s => G X M_X9_skipWord E_X9_skipWord (QM X E_X9_skipWord (QV Q) Qn) 0 0 [(0, .ref (92))] [] (s)) (fun K hK s hw => t_X9_skipWord_l0 Q K (s) hK hw) s hw
theorem t_X9_skipWord {X : Cx} (h : Hp) (Q : Hp → Prop) (hw : w_X9_skipWord h Q) : G X M_X9_skipWord E_X9_skipWord (QM X E_X9_skipWord (QV Q) Qn) 0 0 [(0, .ref (92))] [] h := by
  unfold w_X9_skipWord at hw
  exact t_X9_skipWord_b0 Q (h) hw
theorem c_X9_skipWord {X : Cx} (h : Hp) (Q : Hp → Prop) (hw : w_X9_skipWord h Q) : Con X yX9_skipWord M_X9_skipWord 1 29 0 [.ref (92)] h (QV Q) Qn :=
  con_of (by decide +kernel) rfl (Nat.le_of_ble_eq_true rfl) (t_X9_skipWord h Q hw)
/-! ShadowTollsModel.eats(J)Z -/
abbrev M_X9_eats : Mi := (RX9, cX9_eats, 3, (some .boolean))
abbrev E_X9_eats : Rm := (4, 118, 0, 0)
def rows_X9_eats : List (Nat × Instr × Nat) := [(0, .aload_n 0, 1), (1, .lload_n 1, 1), (2, .invokevirtual 159, 3), (5, .ifCond .ne 5, 3), (8, .iconst 0, 1), (9, .ireturn, 1), (10, .aload_n 0, 1), (11, .invokevirtual 163, 3), (14, .iconst 1, 1), (15, .ireturn, 1)]
theorem D_X9_eats : dkA cX9_eats rows_X9_eats := by
  unfold dkA
  decide +kernel
theorem okD_X9_eats : okD yX9_eats 1 := by
  unfold okD
  decide +kernel
def w_X9_eats (p1 : Int64) (h : Hp) (Q : Int32 → Hp → Prop) : Prop :=
  w_X9_isWord (p1) h (fun z1 h2 => wif (¬ z1 = 0) (w_X9_skipWord  h2 (fun h3 => Q ((1 : Int32) &&& 1) h3)) (Q ((0 : Int32) &&& 1) h2))
theorem t_X9_eats {X : Cx} (p1 : Int64) (h : Hp) (Q : Int32 → Hp → Prop) (hw : w_X9_eats p1 h Q) : G X M_X9_eats E_X9_eats (QM X E_X9_eats (QI Q) Qn) 0 0 [(0, .ref (92)), (1, .long (p1))] [] h := by
  unfold w_X9_eats at hw
  refine g_aload_n 0 (dk D_X9_eats 0 rfl) rfl rfl ?_
  refine g_lload_n 1 (dk D_X9_eats 1 rfl) rfl rfl ?_
  refine g_callV (As := [.long (p1)]) (kc := 0) (fr := 3) (lo := 88) (mc := 0) (My := M_X9_isWord) (dk D_X9_eats 2 rfl) kd_92 rfl rfl w_1558 w_1560 w_48 w_110 w_1561 okD_X9_isWord (by decide) (Nat.le_of_ble_eq_true rfl) rfl (c_X9_isWord (p1) (h) _ hw) kxN (kI (fun z1 h2 hw => ?_))
  refine g_if_ne (dk D_X9_eats 3 rfl) rfl (wif_m hw (fun hw => ?_) (fun hw => ?_))
  · refine g_aload_n 0 (dk D_X9_eats 6 rfl) rfl rfl ?_
    refine g_callV (As := []) (kc := 0) (fr := 1) (lo := 29) (mc := 0) (My := M_X9_skipWord) (dk D_X9_eats 7 rfl) kd_92 rfl rfl w_1576 w_1578 w_51 w_110 w_1579 okD_X9_skipWord (by decide) (Nat.le_of_ble_eq_true rfl) rfl (c_X9_skipWord (h2) _ hw) kxN (kV (fun h3 hw => ?_))
    refine g_iconst (dk D_X9_eats 8 rfl) ki_1 ?_
    exact g_zret (dk D_X9_eats 9 rfl) rfl ⟨_, rfl, hw⟩
  · refine g_iconst (dk D_X9_eats 4 rfl) ki_0 ?_
    exact g_zret (dk D_X9_eats 5 rfl) rfl ⟨_, rfl, hw⟩
theorem c_X9_eats {X : Cx} (p1 : Int64) (h : Hp) (Q : Int32 → Hp → Prop) (hw : w_X9_eats p1 h Q) : Con X yX9_eats M_X9_eats 4 118 0 [.ref (92), .long (p1)] h (QI Q) Qn :=
  con_of (by decide +kernel) rfl (Nat.le_of_ble_eq_true rfl) (t_X9_eats p1 h Q hw)
