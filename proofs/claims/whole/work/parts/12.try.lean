/-! ShadowTolls.put([III)V -/
abbrev M_X8_put : Mi := (RX8, cX8_put, 3, none)
abbrev E_X8_put : Rm := (0, 0, 0, 0)
def rows_X8_put : List (Nat × Instr × Nat) := [(0, .iload_n 1, 1), (1, .ifCond .lt 13, 3), (4, .iload_n 1, 1), (5, .aload_n 0, 1), (6, .arraylength, 1), (7, .if_icmp .ge 7, 3), (10, .aload_n 0, 1), (11, .iload_n 1, 1), (12, .iload_n 2, 1), (13, .iastore, 1), (14, .return_, 1)]
theorem D_X8_put : dkA cX8_put rows_X8_put := by
  unfold dkA
  decide +kernel
theorem okD_X8_put : okD yX8_put 3 := by
  unfold okD
  decide +kernel
def w_X8_put (r0 : Nat) (n0 : Nat) (p1 : Int32) (p2 : Int32) (h : Hp) (Q : Hp → Prop) : Prop :=
  (if p1 < 0 then Q h else (if (nI n0) ≤ p1 then Q h else (vp_in p1 n0 ∧ wlet (hup h r0 (Int32.toNatClampNeg p1) p2) (fun h2 => Q h2))))
theorem t_X8_put {X : Cx} (r0 : Nat) (n0 : Nat) (p1 : Int32) (p2 : Int32) (h : Hp) (Q : Hp → Prop) (hr0 : kd r0 = (1, n0, 0, 0, 0)) (hw : w_X8_put r0 n0 p1 p2 h Q) : G X M_X8_put E_X8_put (QM X E_X8_put (QV Q) Qn) 0 0 [(0, .ref (r0)), (1, .int (p1)), (2, .int (p2))] [] h := by
  unfold w_X8_put at hw
  refine g_iload_n 1 (dk D_X8_put 0 rfl) rfl rfl ?_
  refine g_if_lt (dk D_X8_put 1 rfl) rfl (ite_m hw (fun hw => ?_) (fun hw => ?_))
  · exact g_vret (dk D_X8_put 10 rfl) rfl ⟨rfl, hw⟩
  · refine g_iload_n 1 (dk D_X8_put 2 rfl) rfl rfl ?_
    refine g_aload_n 0 (dk D_X8_put 3 rfl) rfl rfl ?_
    refine g_alen (dk D_X8_put 4 rfl) hr0 rfl ?_
    refine g_icmp_ge (dk D_X8_put 5 rfl) rfl (ite_m hw (fun hw => ?_) (fun hw => ?_))
    · exact g_vret (dk D_X8_put 10 rfl) rfl ⟨rfl, hw⟩
    · refine g_aload_n 0 (dk D_X8_put 6 rfl) rfl rfl ?_
      refine g_iload_n 1 (dk D_X8_put 7 rfl) rfl rfl ?_
      refine g_iload_n 2 (dk D_X8_put 8 rfl) rfl rfl ?_
      obtain ⟨hi1, hw⟩ := hw
      refine g_iast (dk D_X8_put 9 rfl) hr0 hi1 ?_
      refine g_heap (fun h2 eh2 => ?_)
      replace hw := hw _ eh2
      exact g_vret (dk D_X8_put 10 rfl) rfl ⟨rfl, hw⟩
theorem c_X8_put {X : Cx} (r0 : Nat) (n0 : Nat) (p1 : Int32) (p2 : Int32) (hr0 : kd r0 = (1, n0, 0, 0, 0)) (h : Hp) (Q : Hp → Prop) (hw : w_X8_put r0 n0 p1 p2 h Q) : Con X yX8_put M_X8_put 0 0 0 [.ref (r0), .int (p1), .int (p2)] h (QV Q) Qn :=
  con_of (by decide +kernel) rfl (Nat.le_of_ble_eq_true rfl) (t_X8_put r0 n0 p1 p2 h Q hr0 hw)
/-! ShadowTolls.copyRow([I[I)V -/
abbrev M_X8_copyRow : Mi := (RX8, cX8_copyRow, 3, none)
abbrev E_X8_copyRow : Rm := (0, 0, 0, 0)
def rows_X8_copyRow : List (Nat × Instr × Nat) := [(0, .iconst 0, 1), (1, .istore_n 2, 1), (2, .iload_n 2, 1), (3, .aload_n 1, 1), (4, .arraylength, 1), (5, .if_icmp .ge 21, 3), (8, .iload_n 2, 1), (9, .aload_n 0, 1), (10, .arraylength, 1), (11, .if_icmp .ge 15, 3), (14, .aload_n 1, 1), (15, .iload_n 2, 1), (16, .aload_n 0, 1), (17, .iload_n 2, 1), (18, .iaload, 1), (19, .iastore, 1), (20, .iinc 2 1, 3), (23, .goto (-21), 3), (26, .return_, 1)]
theorem D_X8_copyRow : dkA cX8_copyRow rows_X8_copyRow := by
  unfold dkA
  decide +kernel
theorem okD_X8_copyRow : okD yX8_copyRow 2 := by
  unfold okD
  decide +kernel
def w_X8_copyRow_l2 (r0 : Nat) (n0 : Nat) (r1 : Nat) (n1 : Nat) (Q : Hp → Prop) (K2 : Int32 × Hp → Prop) (v2 : Int32) (h : Hp) : Prop :=
  (if (nI n1) ≤ v2 then Q h else (if (nI n0) ≤ v2 then Q h else (vp_in v2 n0 ∧ (vp_in v2 n1 ∧ wlet (hup h r1 (Int32.toNatClampNeg v2) (h r0 (Int32.toNatClampNeg v2))) (fun h3 => K2 ((v2 + (1 : Int32)), h3))))))
def w_X8_copyRow_b2 (r0 : Nat) (n0 : Nat) (r1 : Nat) (n1 : Nat) (Q : Hp → Prop) (s : Int32 × Hp) : Prop := wl (fun K s => w_X8_copyRow_l2 r0 n0 r1 n1 Q K s.1 s.2) s
def w_X8_copyRow (r0 : Nat) (n0 : Nat) (r1 : Nat) (n1 : Nat) (h : Hp) (Q : Hp → Prop) : Prop :=
  w_X8_copyRow_b2 r0 n0 r1 n1 Q ((0 : Int32), h)
theorem t_X8_copyRow_l2 {X : Cx} (r0 : Nat) (n0 : Nat) (r1 : Nat) (n1 : Nat) (Q : Hp → Prop) (K2 : Int32 × Hp → Prop) (v2 : Int32) (h : Hp) (hr0 : kd r0 = (1, n0, 0, 0, 0)) (hr1 : kd r1 = (1, n1, 0, 0, 0)) (hK2 : ∀ s : Int32 × Hp, K2 s → G X M_X8_copyRow E_X8_copyRow (QM X E_X8_copyRow (QV Q) Qn) 0 2 [(0, .ref (r0)), (1, .ref (r1)), (2, .int (s.1))] [] (s.2)) (hw : w_X8_copyRow_l2 r0 n0 r1 n1 Q K2 v2 h) : G X M_X8_copyRow E_X8_copyRow (QM X E_X8_copyRow (QV Q) Qn) 0 2 [(0, .ref (r0)), (1, .ref (r1)), (2, .int (v2))] [] h := by
  unfold w_X8_copyRow_l2 at hw
  refine g_iload_n 2 (dk D_X8_copyRow 2 rfl) rfl rfl ?_
  refine g_aload_n 1 (dk D_X8_copyRow 3 rfl) rfl rfl ?_
  refine g_alen (dk D_X8_copyRow 4 rfl) hr1 rfl ?_
  refine g_icmp_ge (dk D_X8_copyRow 5 rfl) rfl (ite_m hw (fun hw => ?_) (fun hw => ?_))
  · exact g_vret (dk D_X8_copyRow 18 rfl) rfl ⟨rfl, hw⟩
  · refine g_iload_n 2 (dk D_X8_copyRow 6 rfl) rfl rfl ?_
    refine g_aload_n 0 (dk D_X8_copyRow 7 rfl) rfl rfl ?_
    refine g_alen (dk D_X8_copyRow 8 rfl) hr0 rfl ?_
    refine g_icmp_ge (dk D_X8_copyRow 9 rfl) rfl (ite_m hw (fun hw => ?_) (fun hw => ?_))
    · exact g_vret (dk D_X8_copyRow 18 rfl) rfl ⟨rfl, hw⟩
    · refine g_aload_n 1 (dk D_X8_copyRow 10 rfl) rfl rfl ?_
      refine g_iload_n 2 (dk D_X8_copyRow 11 rfl) rfl rfl ?_
      refine g_aload_n 0 (dk D_X8_copyRow 12 rfl) rfl rfl ?_
      refine g_iload_n 2 (dk D_X8_copyRow 13 rfl) rfl rfl ?_
      obtain ⟨hi1, hw⟩ := hw
      refine g_iald (dk D_X8_copyRow 14 rfl) hr0 hi1 ?_
      obtain ⟨hi2, hw⟩ := hw
      refine g_iast (dk D_X8_copyRow 15 rfl) hr1 hi2 ?_
      refine g_heap (fun h3 eh3 => ?_)
      replace hw := hw _ eh3
      refine g_iinc 2 (dk D_X8_copyRow 16 rfl) rfl (congrArg (fun z => _ + z) ki_1) (by decide) rfl ?_
      refine g_goto (dk D_X8_copyRow 17 rfl) rfl ?_
      refine g_sub [1, 2, 0] rfl ?_
      exact hK2 ((v2 + (1 : Int32)), h3) hw
theorem t_X8_copyRow_b2 {X : Cx} (r0 : Nat) (n0 : Nat) (r1 : Nat) (n1 : Nat) (Q : Hp → Prop) (s : Int32 × Hp) (hr0 : kd r0 = (1, n0, 0, 0, 0)) (hr1 : kd r1 = (1, n1, 0, 0, 0)) (hw : w_X8_copyRow_b2 r0 n0 r1 n1 Q s) : G X M_X8_copyRow E_X8_copyRow (QM X E_X8_copyRow (QV Q) Qn) 0 2 [(0, .ref (r0)), (1, .ref (r1)), (2, .int (s.1))] [] (s.2) :=
  wl_ind (B := fun K s => w_X8_copyRow_l2 r0 n0 r1 n1 Q K (s.1) (s.2)) (P := fun s => G X M_X8_copyRow E_X8_copyRow (QM X E_X8_copyRow (QV Q) Qn) 0 2 [(0, .ref (r0)), (1, .ref (r1)), (2, .int (s.1))] [] (s.2)) (fun K hK s hw => t_X8_copyRow_l2 r0 n0 r1 n1 Q K (s.1) (s.2) hr0 hr1 hK hw) s hw
theorem t_X8_copyRow {X : Cx} (r0 : Nat) (n0 : Nat) (r1 : Nat) (n1 : Nat) (h : Hp) (Q : Hp → Prop) (hr0 : kd r0 = (1, n0, 0, 0, 0)) (hr1 : kd r1 = (1, n1, 0, 0, 0)) (hw : w_X8_copyRow r0 n0 r1 n1 h Q) : G X M_X8_copyRow E_X8_copyRow (QM X E_X8_copyRow (QV Q) Qn) 0 0 [(0, .ref (r0)), (1, .ref (r1))] [] h := by
  unfold w_X8_copyRow at hw
  refine g_iconst (dk D_X8_copyRow 0 rfl) ki_0 ?_
  refine g_istore_n (dk D_X8_copyRow 1 rfl) rfl (by decide) rfl ?_
  refine g_sub [1, 2, 0] rfl ?_
  exact t_X8_copyRow_b2 r0 n0 r1 n1 Q ((0 : Int32), h) hr0 hr1 hw
theorem c_X8_copyRow {X : Cx} (r0 : Nat) (n0 : Nat) (r1 : Nat) (n1 : Nat) (hr0 : kd r0 = (1, n0, 0, 0, 0)) (hr1 : kd r1 = (1, n1, 0, 0, 0)) (h : Hp) (Q : Hp → Prop) (hw : w_X8_copyRow r0 n0 r1 n1 h Q) : Con X yX8_copyRow M_X8_copyRow 0 0 0 [.ref (r0), .ref (r1)] h (QV Q) Qn :=
  con_of (by decide +kernel) rfl (Nat.le_of_ble_eq_true rfl) (t_X8_copyRow r0 n0 r1 n1 h Q hr0 hr1 hw)
/-! ShadowTolls.at([II)I -/
abbrev M_X8_at : Mi := (RX8, cX8_at, 2, (some .int))
abbrev E_X8_at : Rm := (0, 0, 0, 0)
def rows_X8_at : List (Nat × Instr × Nat) := [(0, .iload_n 1, 1), (1, .ifCond .lt 15, 3), (4, .iload_n 1, 1), (5, .aload_n 0, 1), (6, .arraylength, 1), (7, .if_icmp .ge 9, 3), (10, .aload_n 0, 1), (11, .iload_n 1, 1), (12, .iaload, 1), (13, .goto 4, 3), (16, .iconst 0, 1), (17, .ireturn, 1)]
theorem D_X8_at : dkA cX8_at rows_X8_at := by
  unfold dkA
  decide +kernel
theorem okD_X8_at : okD yX8_at 2 := by
  unfold okD
  decide +kernel
def w_X8_at (r0 : Nat) (n0 : Nat) (p1 : Int32) (h : Hp) (Q : Int32 → Prop) : Prop :=
  (if p1 < 0 then Q (0 : Int32) else (if (nI n0) ≤ p1 then Q (0 : Int32) else (vp_in p1 n0 ∧ Q (h r0 (Int32.toNatClampNeg p1)))))
theorem t_X8_at {X : Cx} (r0 : Nat) (n0 : Nat) (p1 : Int32) (h : Hp) (Q : Int32 → Prop) (hr0 : kd r0 = (1, n0, 0, 0, 0)) (hw : w_X8_at r0 n0 p1 h Q) : G X M_X8_at E_X8_at (QM X E_X8_at (QIp h Q) Qn) 0 0 [(0, .ref (r0)), (1, .int (p1))] [] h := by
  unfold w_X8_at at hw
  refine g_iload_n 1 (dk D_X8_at 0 rfl) rfl rfl ?_
  refine g_if_lt (dk D_X8_at 1 rfl) rfl (ite_m hw (fun hw => ?_) (fun hw => ?_))
  · refine g_iconst (dk D_X8_at 10 rfl) ki_0 ?_
    exact g_iret (dk D_X8_at 11 rfl) rfl ⟨_, rfl, rfl, hw⟩
  · refine g_iload_n 1 (dk D_X8_at 2 rfl) rfl rfl ?_
    refine g_aload_n 0 (dk D_X8_at 3 rfl) rfl rfl ?_
    refine g_alen (dk D_X8_at 4 rfl) hr0 rfl ?_
    refine g_icmp_ge (dk D_X8_at 5 rfl) rfl (ite_m hw (fun hw => ?_) (fun hw => ?_))
    · refine g_iconst (dk D_X8_at 10 rfl) ki_0 ?_
      exact g_iret (dk D_X8_at 11 rfl) rfl ⟨_, rfl, rfl, hw⟩
    · refine g_aload_n 0 (dk D_X8_at 6 rfl) rfl rfl ?_
      refine g_iload_n 1 (dk D_X8_at 7 rfl) rfl rfl ?_
      obtain ⟨hi1, hw⟩ := hw
      refine g_iald (dk D_X8_at 8 rfl) hr0 hi1 ?_
      refine g_goto (dk D_X8_at 9 rfl) rfl ?_
      exact g_iret (dk D_X8_at 11 rfl) rfl ⟨_, rfl, rfl, hw⟩
theorem c_X8_at {X : Cx} (r0 : Nat) (n0 : Nat) (p1 : Int32) (hr0 : kd r0 = (1, n0, 0, 0, 0)) (h : Hp) (Q : Int32 → Prop) (hw : w_X8_at r0 n0 p1 h Q) : Con X yX8_at M_X8_at 0 0 0 [.ref (r0), .int (p1)] h (QIp h Q) Qn :=
  con_of (by decide +kernel) rfl (Nat.le_of_ble_eq_true rfl) (t_X8_at r0 n0 p1 h Q hr0 hw)
/-! ShadowTolls$Road.trait(II)I -/
abbrev M_X4_trait : Mi := (RX4, cX4_trait, 3, (some .int))
abbrev E_X4_trait : Rm := (1, 21, 0, 0)
def rows_X4_trait : List (Nat × Instr × Nat) := [(0, .aload_n 0, 1), (1, .getfield 21, 3), (4, .iload_n 1, 1), (5, .bipush 7, 2), (7, .imul, 1), (8, .iload_n 2, 1), (9, .iadd, 1), (10, .invokestatic 70, 3), (13, .ireturn, 1)]
theorem D_X4_trait : dkA cX4_trait rows_X4_trait := by
  unfold dkA
  decide +kernel
theorem okD_X4_trait : okD yX4_trait 2 := by
  unfold okD
  decide +kernel
def w_X4_trait (this : Nat) (p1 : Int32) (p2 : Int32) (h : Hp) (Q : Int32 → Prop) : Prop :=
  w_X8_at (tg this 3) 56 (((p1 * (7 : Int32)) + p2)) h (fun r1 => Q r1)
theorem t_X4_trait {X : Cx} (this : Nat) (p1 : Int32) (p2 : Int32) (h : Hp) (Q : Int32 → Prop) (hthis : RoadP this) (hw : w_X4_trait this p1 p2 h Q) : G X M_X4_trait E_X4_trait (QM X E_X4_trait (QIp h Q) Qn) 0 0 [(0, .ref (this)), (1, .int (p1)), (2, .int (p2))] [] h := by
  unfold w_X4_trait at hw
  refine g_aload_n 0 (dk D_X4_trait 0 rfl) rfl rfl ?_
  refine g_getR 3 (t := (tg this 3)) (dk D_X4_trait 1 rfl) hthis.1 rfl rfl (by decide) w_181 rfl rfl rfl ?_
  refine g_iload_n 1 (dk D_X4_trait 2 rfl) rfl rfl ?_
  refine g_bipush (dk D_X4_trait 3 rfl) kb_7 ?_
  refine g_imul (dk D_X4_trait 4 rfl) ?_
  refine g_iload_n 2 (dk D_X4_trait 5 rfl) rfl rfl ?_
  refine g_iadd (dk D_X4_trait 6 rfl) ?_
  refine g_callSN (As := [.ref ((tg this 3)), .int (((p1 * (7 : Int32)) + p2))]) (kc := 0) (fr := 0) (lo := 0) (mc := 0) (My := M_X8_at) (dk D_X4_trait 7 rfl) w_549 w_518 w_101 w_519 okD_X8_at (by decide) (Nat.le_of_ble_eq_true rfl) rfl (c_X8_at (tg this 3) 56 (((p1 * (7 : Int32)) + p2)) (hthis.2.2.2.2) (h) _ hw) kxN (kIp (fun r1 hw => ?_))
  exact g_iret (dk D_X4_trait 8 rfl) rfl ⟨_, rfl, rfl, hw⟩
theorem c_X4_trait {X : Cx} (this : Nat) (p1 : Int32) (p2 : Int32) (hthis : RoadP this) (h : Hp) (Q : Int32 → Prop) (hw : w_X4_trait this p1 p2 h Q) : Con X yX4_trait M_X4_trait 1 21 0 [.ref (this), .int (p1), .int (p2)] h (QIp h Q) Qn :=
  con_of (by decide +kernel) rfl (Nat.le_of_ble_eq_true rfl) (t_X4_trait this p1 p2 h Q hthis hw)
/-! ShadowTolls$Road.altitudeAt(III)I -/
abbrev M_X4_altitudeAt : Mi := (RX4, cX4_altitudeAt, 6, (some .int))
abbrev E_X4_altitudeAt : Rm := (1, 30, 0, 0)
def rows_X4_altitudeAt : List (Nat × Instr × Nat) := [(0, .iload_n 1, 1), (1, .ifCond .ne 9, 3), (4, .sipush 720, 3), (7, .goto 11, 3), (10, .sipush 720, 3), (13, .aload_n 0, 1), (14, .getfield 53, 3), (17, .isub, 1), (18, .istore 4, 2), (20, .aload_n 0, 1), (21, .getfield 15, 3), (24, .iload_n 2, 1), (25, .invokestatic 70, 3), (28, .aload_n 0, 1), (29, .getfield 35, 3), (32, .iload_n 3, 1), (33, .iload 4, 2), (35, .isub, 1), (36, .invokestatic 87, 3), (39, .imul, 1), (40, .isub, 1), (41, .istore 5, 2), (43, .iload 5, 2), (45, .iconst 1, 1), (46, .if_icmp .ge 10, 3), (49, .aload_n 0, 1), (50, .getfield 50, 3), (53, .goto 5, 3), (56, .iload 5, 2), (58, .ireturn, 1)]
theorem D_X4_altitudeAt : dkA cX4_altitudeAt rows_X4_altitudeAt := by
  unfold dkA
  decide +kernel
theorem okD_X4_altitudeAt : okD yX4_altitudeAt 3 := by
  unfold okD
  decide +kernel
def w_X4_altitudeAt (this : Nat) (p1 : Int32) (p2 : Int32) (p3 : Int32) (h : Hp) (Q : Int32 → Prop) : Prop :=
  wlet ((if ¬ p1 = 0 then ((720 : Int32) - (h this 11)) else (720 : Int32))) (fun v4_2 => w_X8_at (tg this 1) 30 (p2) h (fun r3 => wlet ((r3 - ((h this 5) * (if 0 ≤ (p3 - v4_2) then (p3 - v4_2) else 0 - (p3 - v4_2))))) (fun v5_4 => Q (if (1 : Int32) ≤ v5_4 then v5_4 else (h this 10)))))
theorem t_X4_altitudeAt {X : Cx} (this : Nat) (p1 : Int32) (p2 : Int32) (p3 : Int32) (h : Hp) (Q : Int32 → Prop) (hthis : RoadP this) (hw : w_X4_altitudeAt this p1 p2 p3 h Q) : G X M_X4_altitudeAt E_X4_altitudeAt (QM X E_X4_altitudeAt (QIp h Q) Qn) 0 0 [(0, .ref (this)), (1, .int (p1)), (2, .int (p2)), (3, .int (p3))] [] h := by
  unfold w_X4_altitudeAt at hw
  refine g_iload_n 1 (dk D_X4_altitudeAt 0 rfl) rfl rfl ?_
  have hj : G X M_X4_altitudeAt E_X4_altitudeAt (QM X E_X4_altitudeAt (QIp h Q) Qn) 0 18 [(0, .ref (this)), (1, .int (p1)), (2, .int (p2)), (3, .int (p3))] [.int ((if ¬ p1 = 0 then ((720 : Int32) - (h this 11)) else (720 : Int32)))] (h) := by
    refine g_topi (fun v4_2 ev4_2 => ?_)
    replace hw := hw _ ev4_2
    refine g_istore (dk D_X4_altitudeAt 8 rfl) (by decide) rfl ?_
    refine g_aload_n 1 (dk D_X4_altitudeAt 9 rfl) rfl rfl ?_
    refine g_getR 1 (t := (tg this 1)) (dk D_X4_altitudeAt 10 rfl) hthis.1 rfl rfl (by decide) w_176 rfl rfl rfl ?_
    refine g_iload_n 3 (dk D_X4_altitudeAt 11 rfl) rfl rfl ?_
    refine g_callSN (As := [.ref ((tg this 1)), .int (p2)]) (kc := 0) (fr := 0) (lo := 0) (mc := 0) (My := M_X8_at) (dk D_X4_altitudeAt 12 rfl) w_549 w_518 w_101 w_519 okD_X8_at (by decide) (Nat.le_of_ble_eq_true rfl) rfl (c_X8_at (tg this 1) 30 (p2) (hthis.2.2.1) (h) _ hw) kxN (kIp (fun r3 hw => ?_))
    refine g_aload_n 1 (dk D_X4_altitudeAt 13 rfl) rfl rfl ?_
    refine g_getI 5 (dk D_X4_altitudeAt 14 rfl) hthis.1 rfl rfl (by decide) w_185 rfl rfl ?_
    refine g_iload_n 4 (dk D_X4_altitudeAt 15 rfl) rfl rfl ?_
    refine g_iload 0 (dk D_X4_altitudeAt 16 rfl) rfl ?_
    refine g_isub (dk D_X4_altitudeAt 17 rfl) ?_
    refine g_mabs (dk D_X4_altitudeAt 18 rfl) w_579 (by decide) (Nat.le_of_ble_eq_true rfl) ?_
    refine g_imul (dk D_X4_altitudeAt 19 rfl) ?_
    refine g_isub (dk D_X4_altitudeAt 20 rfl) ?_
    refine g_topi (fun v5_4 ev5_4 => ?_)
    replace hw := hw _ ev5_4
    refine g_istore (dk D_X4_altitudeAt 21 rfl) (by decide) rfl ?_
    refine g_iload 0 (dk D_X4_altitudeAt 22 rfl) rfl ?_
    refine g_iconst (dk D_X4_altitudeAt 23 rfl) ki_1 ?_
    have hj : G X M_X4_altitudeAt E_X4_altitudeAt (QM X E_X4_altitudeAt (QIp h Q) Qn) 0 58 [(5, .int (v5_4)), (4, .int (v4_2)), (0, .ref (this)), (1, .int (p1)), (2, .int (p2)), (3, .int (p3))] [.int ((if (1 : Int32) ≤ v5_4 then v5_4 else (h this 10)))] (h) := by
      exact g_iret (dk D_X4_altitudeAt 29 rfl) rfl ⟨_, rfl, rfl, hw⟩
    refine g_icmp_ge (dk D_X4_altitudeAt 24 rfl) rfl ?_
    by_cases c5 : (1 : Int32) ≤ v5_4
    · rw [if_pos c5] at hj ⊢
      refine g_iload 0 (dk D_X4_altitudeAt 28 rfl) rfl ?_
      exact hj
    · rw [if_neg c5] at hj ⊢
      refine g_aload_n 2 (dk D_X4_altitudeAt 25 rfl) rfl rfl ?_
      refine g_getI 10 (dk D_X4_altitudeAt 26 rfl) hthis.1 rfl rfl (by decide) w_201 rfl rfl ?_
      refine g_goto (dk D_X4_altitudeAt 27 rfl) rfl ?_
      exact hj
  refine g_if_ne (dk D_X4_altitudeAt 1 rfl) rfl ?_
  by_cases c1 : ¬ p1 = 0
  · rw [if_pos c1] at hj ⊢
    refine g_sipush (dk D_X4_altitudeAt 4 rfl) ks_720 ?_
    refine g_aload_n 0 (dk D_X4_altitudeAt 5 rfl) rfl rfl ?_
    refine g_getI 11 (dk D_X4_altitudeAt 6 rfl) hthis.1 rfl rfl (by decide) w_204 rfl rfl ?_
    refine g_isub (dk D_X4_altitudeAt 7 rfl) ?_
    exact hj
  · rw [if_neg c1] at hj ⊢
    refine g_sipush (dk D_X4_altitudeAt 2 rfl) ks_720 ?_
    refine g_goto (dk D_X4_altitudeAt 3 rfl) rfl ?_
    exact hj
theorem c_X4_altitudeAt {X : Cx} (this : Nat) (p1 : Int32) (p2 : Int32) (p3 : Int32) (hthis : RoadP this) (h : Hp) (Q : Int32 → Prop) (hw : w_X4_altitudeAt this p1 p2 p3 h Q) : Con X yX4_altitudeAt M_X4_altitudeAt 1 30 0 [.ref (this), .int (p1), .int (p2), .int (p3)] h (QIp h Q) Qn :=
  con_of (by decide +kernel) rfl (Nat.le_of_ble_eq_true rfl) (t_X4_altitudeAt this p1 p2 p3 h Q hthis hw)
/-! ShadowTolls.fillRow([II)V -/
abbrev M_X8_fillRow : Mi := (RX8, cX8_fillRow, 3, none)
abbrev E_X8_fillRow : Rm := (0, 0, 0, 0)
def rows_X8_fillRow : List (Nat × Instr × Nat) := [(0, .iconst 0, 1), (1, .istore_n 2, 1), (2, .iload_n 2, 1), (3, .aload_n 0, 1), (4, .arraylength, 1), (5, .if_icmp .ge 13, 3), (8, .aload_n 0, 1), (9, .iload_n 2, 1), (10, .iload_n 1, 1), (11, .iastore, 1), (12, .iinc 2 1, 3), (15, .goto (-13), 3), (18, .return_, 1)]
theorem D_X8_fillRow : dkA cX8_fillRow rows_X8_fillRow := by
  unfold dkA
  decide +kernel
theorem okD_X8_fillRow : okD yX8_fillRow 2 := by
  unfold okD
  decide +kernel
def w_X8_fillRow_l2 (r0 : Nat) (n0 : Nat) (p1 : Int32) (Q : Hp → Prop) (K2 : Int32 × Hp → Prop) (v2 : Int32) (h : Hp) : Prop :=
  (if (nI n0) ≤ v2 then Q h else (vp_in v2 n0 ∧ wlet (hup h r0 (Int32.toNatClampNeg v2) p1) (fun h2 => K2 ((v2 + (1 : Int32)), h2))))
def w_X8_fillRow_b2 (r0 : Nat) (n0 : Nat) (p1 : Int32) (Q : Hp → Prop) (s : Int32 × Hp) : Prop := wl (fun K s => w_X8_fillRow_l2 r0 n0 p1 Q K s.1 s.2) s
def w_X8_fillRow (r0 : Nat) (n0 : Nat) (p1 : Int32) (h : Hp) (Q : Hp → Prop) : Prop :=
  w_X8_fillRow_b2 r0 n0 p1 Q ((0 : Int32), h)
theorem t_X8_fillRow_l2 {X : Cx} (r0 : Nat) (n0 : Nat) (p1 : Int32) (Q : Hp → Prop) (K2 : Int32 × Hp → Prop) (v2 : Int32) (h : Hp) (hr0 : kd r0 = (1, n0, 0, 0, 0)) (hK2 : ∀ s : Int32 × Hp, K2 s → G X M_X8_fillRow E_X8_fillRow (QM X E_X8_fillRow (QV Q) Qn) 0 2 [(0, .ref (r0)), (1, .int (p1)), (2, .int (s.1))] [] (s.2)) (hw : w_X8_fillRow_l2 r0 n0 p1 Q K2 v2 h) : G X M_X8_fillRow E_X8_fillRow (QM X E_X8_fillRow (QV Q) Qn) 0 2 [(0, .ref (r0)), (1, .int (p1)), (2, .int (v2))] [] h := by
  unfold w_X8_fillRow_l2 at hw
  refine g_iload_n 2 (dk D_X8_fillRow 2 rfl) rfl rfl ?_
  refine g_aload_n 0 (dk D_X8_fillRow 3 rfl) rfl rfl ?_
  refine g_alen (dk D_X8_fillRow 4 rfl) hr0 rfl ?_
  refine g_icmp_ge (dk D_X8_fillRow 5 rfl) rfl (ite_m hw (fun hw => ?_) (fun hw => ?_))
  · exact g_vret (dk D_X8_fillRow 12 rfl) rfl ⟨rfl, hw⟩
  · refine g_aload_n 0 (dk D_X8_fillRow 6 rfl) rfl rfl ?_
    refine g_iload_n 2 (dk D_X8_fillRow 7 rfl) rfl rfl ?_
    refine g_iload_n 1 (dk D_X8_fillRow 8 rfl) rfl rfl ?_
    obtain ⟨hi1, hw⟩ := hw
    refine g_iast (dk D_X8_fillRow 9 rfl) hr0 hi1 ?_
    refine g_heap (fun h2 eh2 => ?_)
    replace hw := hw _ eh2
    refine g_iinc 2 (dk D_X8_fillRow 10 rfl) rfl (congrArg (fun z => _ + z) ki_1) (by decide) rfl ?_
    refine g_goto (dk D_X8_fillRow 11 rfl) rfl ?_
    refine g_sub [1, 2, 0] rfl ?_
    exact hK2 ((v2 + (1 : Int32)), h2) hw
theorem t_X8_fillRow_b2 {X : Cx} (r0 : Nat) (n0 : Nat) (p1 : Int32) (Q : Hp → Prop) (s : Int32 × Hp) (hr0 : kd r0 = (1, n0, 0, 0, 0)) (hw : w_X8_fillRow_b2 r0 n0 p1 Q s) : G X M_X8_fillRow E_X8_fillRow (QM X E_X8_fillRow (QV Q) Qn) 0 2 [(0, .ref (r0)), (1, .int (p1)), (2, .int (s.1))] [] (s.2) :=
  wl_ind (B := fun K s => w_X8_fillRow_l2 r0 n0 p1 Q K (s.1) (s.2)) (P := fun s => G X M_X8_fillRow E_X8_fillRow (QM X E_X8_fillRow (QV Q) Qn) 0 2 [(0, .ref (r0)), (1, .int (p1)), (2, .int (s.1))] [] (s.2)) (fun K hK s hw => t_X8_fillRow_l2 r0 n0 p1 Q K (s.1) (s.2) hr0 hK hw) s hw
theorem t_X8_fillRow {X : Cx} (r0 : Nat) (n0 : Nat) (p1 : Int32) (h : Hp) (Q : Hp → Prop) (hr0 : kd r0 = (1, n0, 0, 0, 0)) (hw : w_X8_fillRow r0 n0 p1 h Q) : G X M_X8_fillRow E_X8_fillRow (QM X E_X8_fillRow (QV Q) Qn) 0 0 [(0, .ref (r0)), (1, .int (p1))] [] h := by
  unfold w_X8_fillRow at hw
  refine g_iconst (dk D_X8_fillRow 0 rfl) ki_0 ?_
  refine g_istore_n (dk D_X8_fillRow 1 rfl) rfl (by decide) rfl ?_
  refine g_sub [1, 2, 0] rfl ?_
  exact t_X8_fillRow_b2 r0 n0 p1 Q ((0 : Int32), h) hr0 hw
theorem c_X8_fillRow {X : Cx} (r0 : Nat) (n0 : Nat) (p1 : Int32) (hr0 : kd r0 = (1, n0, 0, 0, 0)) (h : Hp) (Q : Hp → Prop) (hw : w_X8_fillRow r0 n0 p1 h Q) : Con X yX8_fillRow M_X8_fillRow 0 0 0 [.ref (r0), .int (p1)] h (QV Q) Qn :=
  con_of (by decide +kernel) rfl (Nat.le_of_ble_eq_true rfl) (t_X8_fillRow r0 n0 p1 h Q hr0 hw)
/-! ShadowTolls.needDay(I)V -/
abbrev M_X8_needDay : Mi := (RX8, cX8_needDay, 1, none)
abbrev E_X8_needDay : Rm := (6, 82, 1, 6)
def rows_X8_needDay : List (Nat × Instr × Nat) := [(0, .iload_n 0, 1), (1, .ifCond .lt 9, 3), (4, .iload_n 0, 1), (5, .bipush 30, 2), (7, .if_icmp .lt 14, 3), (10, .new 169, 3), (13, .dup, 1), (14, .ldc_w 345, 3), (17, .invokespecial 173, 3), (20, .athrow, 1), (21, .return_, 1)]
theorem D_X8_needDay : dkA cX8_needDay rows_X8_needDay := by
  unfold dkA
  decide +kernel
theorem okD_X8_needDay : okD yX8_needDay 1 := by
  unfold okD
  decide +kernel
def w_X8_needDay (p0 : Int32) (h : Hp) (Q : Prop) (Qx : String → Hp → Prop) : Prop :=
  (if p0 < 0 then Qx "java/lang/IllegalArgumentException" h else (if p0 < (30 : Int32) then Q else Qx "java/lang/IllegalArgumentException" h))
theorem t_X8_needDay {X : Cx} (p0 : Int32) (h : Hp) (Q : Prop) (Qx : String → Hp → Prop) (hw : w_X8_needDay p0 h Q Qx) : G X M_X8_needDay E_X8_needDay (QM X E_X8_needDay (QVp h Q) Qx) 1 0 [(0, .int (p0))] [] h := by
  unfold w_X8_needDay at hw
  refine g_iload_n 0 (dk D_X8_needDay 0 rfl) rfl rfl ?_
  refine g_if_lt (dk D_X8_needDay 1 rfl) rfl (ite_m hw (fun hw => ?_) (fun hw => ?_))
  · exact g_throwSW (kc := 0) 26 xnm rfl (by decide +kernel) xnm_ok rfl w_706 w_114 atS_173 (dk D_X8_needDay 5 rfl) (dk D_X8_needDay 6 rfl) (dk D_X8_needDay 7 rfl) (dk D_X8_needDay 8 rfl) (dk D_X8_needDay 9 rfl) (by decide) (by decide) hw
  · refine g_iload_n 0 (dk D_X8_needDay 2 rfl) rfl rfl ?_
    refine g_bipush (dk D_X8_needDay 3 rfl) kb_30 ?_
    refine g_icmp_lt (dk D_X8_needDay 4 rfl) rfl (ite_m hw (fun hw => ?_) (fun hw => ?_))
    · exact g_vret (dk D_X8_needDay 10 rfl) rfl ⟨rfl, rfl, hw⟩
    · exact g_throwSW (kc := 0) 26 xnm rfl (by decide +kernel) xnm_ok rfl w_706 w_114 atS_173 (dk D_X8_needDay 5 rfl) (dk D_X8_needDay 6 rfl) (dk D_X8_needDay 7 rfl) (dk D_X8_needDay 8 rfl) (dk D_X8_needDay 9 rfl) (by decide) (by decide) hw
theorem c_X8_needDay {X : Cx} (p0 : Int32) (h : Hp) (Q : Prop) (Qx : String → Hp → Prop) (hw : w_X8_needDay p0 h Q Qx) : Con X yX8_needDay M_X8_needDay 6 82 1 [.int (p0)] h (QVp h Q) Qx :=
  con_of (by decide +kernel) rfl (Nat.le_of_ble_eq_true rfl) (t_X8_needDay p0 h Q Qx hw)
