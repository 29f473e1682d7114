/-! ShadowTolls$Law.empty()V -/
abbrev M_X0_empty : Mi := (RX0, cX0_empty, 1, none)
abbrev E_X0_empty : Rm := (0, 0, 0, 0)
def rows_X0_empty : List (Nat × Instr × Nat) := [(0, .aload_n 0, 1), (1, .iconst 0, 1), (2, .putfield 21, 3), (5, .return_, 1)]
theorem D_X0_empty : dkA cX0_empty rows_X0_empty := by
  unfold dkA
  decide +kernel
theorem okD_X0_empty : okD yX0_empty 0 := by
  unfold okD
  decide +kernel
def w_X0_empty (this : Nat) (h : Hp) (Q : Hp → Prop) : Prop :=
  wlet (hup h this 3 (0 : Int32)) (fun h1 => Q h1)
theorem t_X0_empty {X : Cx} (this : Nat) (h : Hp) (Q : Hp → Prop) (hthis : LawP this) (hw : w_X0_empty this h Q) : G X M_X0_empty E_X0_empty (QM X E_X0_empty (QV Q) Qn) 0 0 [(0, .ref (this))] [] h := by
  unfold w_X0_empty at hw
  refine g_aload_n 0 (dk D_X0_empty 0 rfl) rfl rfl ?_
  refine g_iconst (dk D_X0_empty 1 rfl) ki_0 ?_
  refine g_put 3 (dk D_X0_empty 2 rfl) hthis.1 rfl rfl (by decide) w_256 rfl tyX0_ok nmX0 rfl (by decide) rfl (fun z => absurd z (by decide)) ?_
  refine g_heap (fun h1 eh1 => ?_)
  replace hw := hw _ eh1
  exact g_vret (dk D_X0_empty 3 rfl) rfl ⟨rfl, hw⟩
theorem c_X0_empty {X : Cx} (this : Nat) (hthis : LawP this) (h : Hp) (Q : Hp → Prop) (hw : w_X0_empty this h Q) : Con X yX0_empty M_X0_empty 0 0 0 [.ref (this)] h (QV Q) Qn :=
  con_of (by decide +kernel) rfl (Nat.le_of_ble_eq_true rfl) (t_X0_empty this h Q hthis hw)
/-! ShadowTolls.put([III)V -/
abbrev M_X8_put : Mi := (RX8, cX8_put, 3, none)
abbrev E_X8_put : Rm := (0, 0, 0, 0)
def rows_X8_put : List (Nat × Instr × Nat) := [(0, .iload_n 1, 1), (1, .ifCond .lt 13, 3), (4, .iload_n 1, 1), (5, .aload_n 0, 1), (6, .arraylength, 1), (7, .if_icmp .ge 7, 3), (10, .aload_n 0, 1), (11, .iload_n 1, 1), (12, .iload_n 2, 1), (13, .iastore, 1), (14, .return_, 1)]
theorem D_X8_put : dkA cX8_put rows_X8_put := by
  unfold dkA
  decide +kernel
theorem okD_X8_put : okD yX8_put 3 := by
  unfold okD
  decide +kernel
def w_X8_put (r0 : Nat) (n0 : Nat) (p1 : Int32) (p2 : Int32) (h : Hp) (Q : Hp → Prop) : Prop :=
  wif (p1 < 0) (Q h) (wif ((nI n0) ≤ p1) (Q h) ((vp_in p1 n0 ∧ wlet (hup h r0 (Int32.toNatClampNeg p1) p2) (fun h2 => Q h2))))
theorem t_X8_put {X : Cx} (r0 : Nat) (n0 : Nat) (p1 : Int32) (p2 : Int32) (h : Hp) (Q : Hp → Prop) (hr0 : kd r0 = (1, n0, 0, 0, 0)) (hw : w_X8_put r0 n0 p1 p2 h Q) : G X M_X8_put E_X8_put (QM X E_X8_put (QV Q) Qn) 0 0 [(0, .ref (r0)), (1, .int (p1)), (2, .int (p2))] [] h := by
  unfold w_X8_put at hw
  refine g_iload_n 1 (dk D_X8_put 0 rfl) rfl rfl ?_
  refine g_if_lt (dk D_X8_put 1 rfl) rfl (wif_m hw (fun hw => ?_) (fun hw => ?_))
  · exact g_vret (dk D_X8_put 10 rfl) rfl ⟨rfl, hw⟩
  · refine g_iload_n 1 (dk D_X8_put 2 rfl) rfl rfl ?_
    refine g_aload_n 0 (dk D_X8_put 3 rfl) rfl rfl ?_
    refine g_alen (dk D_X8_put 4 rfl) hr0 rfl ?_
    refine g_icmp_ge (dk D_X8_put 5 rfl) rfl (wif_m hw (fun hw => ?_) (fun hw => ?_))
    · exact g_vret (dk D_X8_put 10 rfl) rfl ⟨rfl, hw⟩
    · refine g_aload_n 0 (dk D_X8_put 6 rfl) rfl rfl ?_
      refine g_iload_n 1 (dk D_X8_put 7 rfl) rfl rfl ?_
      refine g_iload_n 2 (dk D_X8_put 8 rfl) rfl rfl ?_
      obtain ⟨hi1, hw⟩ := hw
      refine g_iast (dk D_X8_put 9 rfl) hr0 hi1 ?_
      refine g_heap (fun h2 eh2 => ?_)
      replace hw := hw _ eh2
      exact g_vret (dk D_X8_put 10 rfl) rfl ⟨rfl, hw⟩
theorem c_X8_put {X : Cx} (r0 : Nat) (n0 : Nat) (p1 : Int32) (p2 : Int32) (hr0 : kd r0 = (1, n0, 0, 0, 0)) (h : Hp) (Q : Hp → Prop) (hw : w_X8_put r0 n0 p1 p2 h Q) : Con X yX8_put M_X8_put 0 0 0 [.ref (r0), .int (p1), .int (p2)] h (QV Q) Qn :=
  con_of (by decide +kernel) rfl (Nat.le_of_ble_eq_true rfl) (t_X8_put r0 n0 p1 p2 h Q hr0 hw)
/-! ShadowTolls$Law.add(I)V -/
abbrev M_X0_add : Mi := (RX0, cX0_add, 2, none)
abbrev E_X0_add : Rm := (1, 30, 0, 0)
def rows_X0_add : List (Nat × Instr × Nat) := [(0, .aload_n 0, 1), (1, .getfield 9, 3), (4, .aload_n 0, 1), (5, .getfield 21, 3), (8, .iload_n 1, 1), (9, .invokestatic 25, 3), (12, .aload_n 0, 1), (13, .dup, 1), (14, .getfield 21, 3), (17, .iconst 1, 1), (18, .iadd, 1), (19, .putfield 21, 3), (22, .return_, 1)]
theorem D_X0_add : dkA cX0_add rows_X0_add := by
  unfold dkA
  decide +kernel
theorem okD_X0_add : okD yX0_add 1 := by
  unfold okD
  decide +kernel
def w_X0_add (this : Nat) (p1 : Int32) (h : Hp) (Q : Hp → Prop) : Prop :=
  w_X8_put (tg this 0) 500 ((h this 3)) (p1) h (fun h1 => wlet (hup h1 this 3 ((h1 this 3) + (1 : Int32))) (fun h2 => Q h2))
theorem t_X0_add {X : Cx} (this : Nat) (p1 : Int32) (h : Hp) (Q : Hp → Prop) (hthis : LawP this) (hw : w_X0_add this p1 h Q) : G X M_X0_add E_X0_add (QM X E_X0_add (QV Q) Qn) 0 0 [(0, .ref (this)), (1, .int (p1))] [] h := by
  unfold w_X0_add at hw
  refine g_aload_n 0 (dk D_X0_add 0 rfl) rfl rfl ?_
  refine g_getR 0 (t := (tg this 0)) (dk D_X0_add 1 rfl) hthis.1 rfl rfl (by decide) w_253 rfl rfl rfl ?_
  refine g_aload_n 0 (dk D_X0_add 2 rfl) rfl rfl ?_
  refine g_getI 3 (dk D_X0_add 3 rfl) hthis.1 rfl rfl (by decide) w_256 rfl rfl ?_
  refine g_iload_n 1 (dk D_X0_add 4 rfl) rfl rfl ?_
  refine g_callSN (As := [.ref ((tg this 0)), .int ((h this 3)), .int (p1)]) (kc := 0) (fr := 0) (lo := 0) (mc := 0) (My := M_X8_put) (dk D_X0_add 5 rfl) w_595 w_496 w_101 w_497 okD_X8_put (by decide) (Nat.le_of_ble_eq_true rfl) rfl (c_X8_put (tg this 0) 500 ((h this 3)) (p1) (hthis.2.1) (h) _ hw) kxN (kV (fun h1 hw => ?_))
  refine g_aload_n 0 (dk D_X0_add 6 rfl) rfl rfl ?_
  refine g_dup (dk D_X0_add 7 rfl) rfl ?_
  refine g_getI 3 (dk D_X0_add 8 rfl) hthis.1 rfl rfl (by decide) w_256 rfl rfl ?_
  refine g_iconst (dk D_X0_add 9 rfl) ki_1 ?_
  refine g_iadd (dk D_X0_add 10 rfl) ?_
  refine g_put 3 (dk D_X0_add 11 rfl) hthis.1 rfl rfl (by decide) w_256 rfl tyX0_ok nmX0 rfl (by decide) rfl (fun z => absurd z (by decide)) ?_
  refine g_heap (fun h2 eh2 => ?_)
  replace hw := hw _ eh2
  exact g_vret (dk D_X0_add 12 rfl) rfl ⟨rfl, hw⟩
theorem c_X0_add {X : Cx} (this : Nat) (p1 : Int32) (hthis : LawP this) (h : Hp) (Q : Hp → Prop) (hw : w_X0_add this p1 h Q) : Con X yX0_add M_X0_add 1 30 0 [.ref (this), .int (p1)] h (QV Q) Qn :=
  con_of (by decide +kernel) rfl (Nat.le_of_ble_eq_true rfl) (t_X0_add this p1 h Q hthis hw)
/-! ShadowTolls.copyRow([I[I)V -/
abbrev M_X8_copyRow : Mi := (RX8, cX8_copyRow, 3, none)
abbrev E_X8_copyRow : Rm := (0, 0, 0, 0)
def rows_X8_copyRow : List (Nat × Instr × Nat) := [(0, .iconst 0, 1), (1, .istore_n 2, 1), (2, .iload_n 2, 1), (3, .aload_n 1, 1), (4, .arraylength, 1), (5, .if_icmp .ge 21, 3), (8, .iload_n 2, 1), (9, .aload_n 0, 1), (10, .arraylength, 1), (11, .if_icmp .ge 15, 3), (14, .aload_n 1, 1), (15, .iload_n 2, 1), (16, .aload_n 0, 1), (17, .iload_n 2, 1), (18, .iaload, 1), (19, .iastore, 1), (20, .iinc 2 1, 3), (23, .goto (-21), 3), (26, .return_, 1)]
theorem D_X8_copyRow : dkA cX8_copyRow rows_X8_copyRow := by
  unfold dkA
  decide +kernel
theorem okD_X8_copyRow : okD yX8_copyRow 2 := by
  unfold okD
  decide +kernel
def w_X8_copyRow_l2 (r0 : Nat) (n0 : Nat) (r1 : Nat) (n1 : Nat) (Q : Hp → Prop) (K2 : Int32 × Hp → Prop) (v2 : Int32) (h : Hp) : Prop :=
  wif ((nI n1) ≤ v2) (Q h) (wif ((nI n0) ≤ v2) (Q h) ((vp_in v2 n0 ∧ (vp_in v2 n1 ∧ wlet (hup h r1 (Int32.toNatClampNeg v2) (h r0 (Int32.toNatClampNeg v2))) (fun h3 => K2 ((v2 + (1 : Int32)), h3))))))
def w_X8_copyRow_b2 (r0 : Nat) (n0 : Nat) (r1 : Nat) (n1 : Nat) (Q : Hp → Prop) (s : Int32 × Hp) : Prop := wl (fun K s => w_X8_copyRow_l2 r0 n0 r1 n1 Q K s.1 s.2) s
def w_X8_copyRow (r0 : Nat) (n0 : Nat) (r1 : Nat) (n1 : Nat) (h : Hp) (Q : Hp → Prop) : Prop :=
  w_X8_copyRow_b2 r0 n0 r1 n1 Q ((0 : Int32), h)
theorem t_X8_copyRow_l2 {X : Cx} (r0 : Nat) (n0 : Nat) (r1 : Nat) (n1 : Nat) (Q : Hp → Prop) (K2 : Int32 × Hp → Prop) (v2 : Int32) (h : Hp) (hr0 : kd r0 = (1, n0, 0, 0, 0)) (hr1 : kd r1 = (1, n1, 0, 0, 0)) (hK2 : ∀ s : Int32 × Hp, K2 s → G X M_X8_copyRow E_X8_copyRow (QM X E_X8_copyRow (QV Q) Qn) 0 2 [(0, .ref (r0)), (1, .ref (r1)), (2, .int (s.1))] [] (s.2)) (hw : w_X8_copyRow_l2 r0 n0 r1 n1 Q K2 v2 h) : G X M_X8_copyRow E_X8_copyRow (QM X E_X8_copyRow (QV Q) Qn) 0 2 [(0, .ref (r0)), (1, .ref (r1)), (2, .int (v2))] [] h := by
  unfold w_X8_copyRow_l2 at hw
  refine g_iload_n 2 (dk D_X8_copyRow 2 rfl) rfl rfl ?_
  refine g_aload_n 1 (dk D_X8_copyRow 3 rfl) rfl rfl ?_
  refine g_alen (dk D_X8_copyRow 4 rfl) hr1 rfl ?_
  refine g_icmp_ge (dk D_X8_copyRow 5 rfl) rfl (wif_m hw (fun hw => ?_) (fun hw => ?_))
  · exact g_vret (dk D_X8_copyRow 18 rfl) rfl ⟨rfl, hw⟩
  · refine g_iload_n 2 (dk D_X8_copyRow 6 rfl) rfl rfl ?_
    refine g_aload_n 0 (dk D_X8_copyRow 7 rfl) rfl rfl ?_
    refine g_alen (dk D_X8_copyRow 8 rfl) hr0 rfl ?_
    refine g_icmp_ge (dk D_X8_copyRow 9 rfl) rfl (wif_m hw (fun hw => ?_) (fun hw => ?_))
    · exact g_vret (dk D_X8_copyRow 18 rfl) rfl ⟨rfl, hw⟩
    · refine g_aload_n 1 (dk D_X8_copyRow 10 rfl) rfl rfl ?_
      refine g_iload_n 2 (dk D_X8_copyRow 11 rfl) rfl rfl ?_
      refine g_aload_n 0 (dk D_X8_copyRow 12 rfl) rfl rfl ?_
      refine g_iload_n 2 (dk D_X8_copyRow 13 rfl) rfl rfl ?_
      obtain ⟨hi1, hw⟩ := hw
      refine g_iald (dk D_X8_copyRow 14 rfl) hr0 hi1 ?_
      obtain ⟨hi2, hw⟩ := hw
      refine g_iast (dk D_X8_copyRow 15 rfl) hr1 hi2 ?_
      refine g_heap (fun h3 eh3 => ?_)
      replace hw := hw _ eh3
      refine g_iinc 2 (dk D_X8_copyRow 16 rfl) rfl (congrArg (fun z => _ + z) ki_1) (by decide) rfl ?_
      refine g_goto (dk D_X8_copyRow 17 rfl) rfl ?_
      refine g_sub [1, 2, 0] rfl ?_
      exact hK2 ((v2 + (1 : Int32)), h3) hw
theorem t_X8_copyRow_b2 {X : Cx} (r0 : Nat) (n0 : Nat) (r1 : Nat) (n1 : Nat) (Q : Hp → Prop) (s : Int32 × Hp) (hr0 : kd r0 = (1, n0, 0, 0, 0)) (hr1 : kd r1 = (1, n1, 0, 0, 0)) (hw : w_X8_copyRow_b2 r0 n0 r1 n1 Q s) : G X M_X8_copyRow E_X8_copyRow (QM X E_X8_copyRow (QV Q) Qn) 0 2 [(0, .ref (r0)), (1, .ref (r1)), (2, .int (s.1))] [] (s.2) :=
  wl_ind (B := fun K s => w_X8_copyRow_l2 r0 n0 r1 n1 Q K (s.1) (s.2)) (P := fun s => G X M_X8_copyRow E_X8_copyRow (QM X E_X8_copyRow (QV Q) Qn) 0 2 [(0, .ref (r0)), (1, .ref (r1)), (2, .int (s.1))] [] (s.2)) (fun K hK s hw => t_X8_copyRow_l2 r0 n0 r1 n1 Q K (s.1) (s.2) hr0 hr1 hK hw) s hw
theorem t_X8_copyRow {X : Cx} (r0 : Nat) (n0 : Nat) (r1 : Nat) (n1 : Nat) (h : Hp) (Q : Hp → Prop) (hr0 : kd r0 = (1, n0, 0, 0, 0)) (hr1 : kd r1 = (1, n1, 0, 0, 0)) (hw : w_X8_copyRow r0 n0 r1 n1 h Q) : G X M_X8_copyRow E_X8_copyRow (QM X E_X8_copyRow (QV Q) Qn) 0 0 [(0, .ref (r0)), (1, .ref (r1))] [] h := by
  unfold w_X8_copyRow at hw
  refine g_iconst (dk D_X8_copyRow 0 rfl) ki_0 ?_
  refine g_istore_n (dk D_X8_copyRow 1 rfl) rfl (by decide) rfl ?_
  refine g_sub [1, 2, 0] rfl ?_
  exact t_X8_copyRow_b2 r0 n0 r1 n1 Q ((0 : Int32), h) hr0 hr1 hw
theorem c_X8_copyRow {X : Cx} (r0 : Nat) (n0 : Nat) (r1 : Nat) (n1 : Nat) (hr0 : kd r0 = (1, n0, 0, 0, 0)) (hr1 : kd r1 = (1, n1, 0, 0, 0)) (h : Hp) (Q : Hp → Prop) (hw : w_X8_copyRow r0 n0 r1 n1 h Q) : Con X yX8_copyRow M_X8_copyRow 0 0 0 [.ref (r0), .ref (r1)] h (QV Q) Qn :=
  con_of (by decide +kernel) rfl (Nat.le_of_ble_eq_true rfl) (t_X8_copyRow r0 n0 r1 n1 h Q hr0 hr1 hw)
/-! ShadowTolls$Law.copy(LShadowTolls$Law;)V -/
abbrev M_X0_copy : Mi := (RX0, cX0_copy, 2, none)
abbrev E_X0_copy : Rm := (1, 30, 0, 0)
def rows_X0_copy : List (Nat × Instr × Nat) := [(0, .aload_n 1, 1), (1, .getfield 9, 3), (4, .aload_n 0, 1), (5, .getfield 9, 3), (8, .invokestatic 29, 3), (11, .aload_n 0, 1), (12, .aload_n 1, 1), (13, .getfield 21, 3), (16, .putfield 21, 3), (19, .return_, 1)]
theorem D_X0_copy : dkA cX0_copy rows_X0_copy := by
  unfold dkA
  decide +kernel
theorem okD_X0_copy : okD yX0_copy 1 := by
  unfold okD
  decide +kernel
def w_X0_copy (this : Nat) (r1 : Nat) (h : Hp) (Q : Hp → Prop) : Prop :=
  w_X8_copyRow (tg r1 0) 500 (tg this 0) 500 h (fun h1 => wlet (hup h1 this 3 (h1 r1 3)) (fun h2 => Q h2))
theorem t_X0_copy {X : Cx} (this : Nat) (r1 : Nat) (h : Hp) (Q : Hp → Prop) (hthis : LawP this) (hr1 : LawP r1) (hw : w_X0_copy this r1 h Q) : G X M_X0_copy E_X0_copy (QM X E_X0_copy (QV Q) Qn) 0 0 [(0, .ref (this)), (1, .ref (r1))] [] h := by
  unfold w_X0_copy at hw
  refine g_aload_n 1 (dk D_X0_copy 0 rfl) rfl rfl ?_
  refine g_getR 0 (t := (tg r1 0)) (dk D_X0_copy 1 rfl) hr1.1 rfl rfl (by decide) w_253 rfl rfl rfl ?_
  refine g_aload_n 0 (dk D_X0_copy 2 rfl) rfl rfl ?_
  refine g_getR 0 (t := (tg this 0)) (dk D_X0_copy 3 rfl) hthis.1 rfl rfl (by decide) w_253 rfl rfl rfl ?_
  refine g_callSN (As := [.ref ((tg r1 0)), .ref ((tg this 0))]) (kc := 0) (fr := 0) (lo := 0) (mc := 0) (My := M_X8_copyRow) (dk D_X0_copy 4 rfl) w_994 w_680 w_101 w_681 okD_X8_copyRow (by decide) (Nat.le_of_ble_eq_true rfl) rfl (c_X8_copyRow (tg r1 0) 500 (tg this 0) 500 (hr1.2.1) (hthis.2.1) (h) _ hw) kxN (kV (fun h1 hw => ?_))
  refine g_aload_n 0 (dk D_X0_copy 5 rfl) rfl rfl ?_
  refine g_aload_n 1 (dk D_X0_copy 6 rfl) rfl rfl ?_
  refine g_getI 3 (dk D_X0_copy 7 rfl) hr1.1 rfl rfl (by decide) w_256 rfl rfl ?_
  refine g_put 3 (dk D_X0_copy 8 rfl) hthis.1 rfl rfl (by decide) w_256 rfl tyX0_ok nmX0 rfl (by decide) rfl (fun z => absurd z (by decide)) ?_
  refine g_heap (fun h2 eh2 => ?_)
  replace hw := hw _ eh2
  exact g_vret (dk D_X0_copy 9 rfl) rfl ⟨rfl, hw⟩
theorem c_X0_copy {X : Cx} (this : Nat) (r1 : Nat) (hthis : LawP this) (hr1 : LawP r1) (h : Hp) (Q : Hp → Prop) (hw : w_X0_copy this r1 h Q) : Con X yX0_copy M_X0_copy 1 30 0 [.ref (this), .ref (r1)] h (QV Q) Qn :=
  con_of (by decide +kernel) rfl (Nat.le_of_ble_eq_true rfl) (t_X0_copy this r1 h Q hthis hr1 hw)
/-! ShadowTolls$Law.addLine(III)V -/
abbrev M_X0_addLine : Mi := (RX0, cX0_addLine, 4, none)
abbrev E_X0_addLine : Rm := (2, 59, 0, 0)
def rows_X0_addLine : List (Nat × Instr × Nat) := [(0, .aload_n 0, 1), (1, .iload_n 1, 1), (2, .invokevirtual 40, 3), (5, .aload_n 0, 1), (6, .iload_n 2, 1), (7, .invokevirtual 40, 3), (10, .aload_n 0, 1), (11, .bipush (-9), 2), (13, .invokevirtual 40, 3), (16, .aload_n 0, 1), (17, .iload_n 3, 1), (18, .invokevirtual 40, 3), (21, .aload_n 0, 1), (22, .bipush (-10), 2), (24, .invokevirtual 40, 3), (27, .aload_n 0, 1), (28, .bipush (-17), 2), (30, .invokevirtual 40, 3), (33, .return_, 1)]
theorem D_X0_addLine : dkA cX0_addLine rows_X0_addLine := by
  unfold dkA
  decide +kernel
theorem okD_X0_addLine : okD yX0_addLine 3 := by
  unfold okD
  decide +kernel
def w_X0_addLine (this : Nat) (p1 : Int32) (p2 : Int32) (p3 : Int32) (h : Hp) (Q : Hp → Prop) : Prop :=
  w_X0_add this (p1) h (fun h1 => w_X0_add this (p2) h1 (fun h2 => w_X0_add this ((-9 : Int32)) h2 (fun h3 => w_X0_add this (p3) h3 (fun h4 => w_X0_add this ((-10 : Int32)) h4 (fun h5 => w_X0_add this ((-17 : Int32)) h5 (fun h6 => Q h6))))))
theorem t_X0_addLine {X : Cx} (this : Nat) (p1 : Int32) (p2 : Int32) (p3 : Int32) (h : Hp) (Q : Hp → Prop) (hthis : LawP this) (hw : w_X0_addLine this p1 p2 p3 h Q) : G X M_X0_addLine E_X0_addLine (QM X E_X0_addLine (QV Q) Qn) 0 0 [(0, .ref (this)), (1, .int (p1)), (2, .int (p2)), (3, .int (p3))] [] h := by
  unfold w_X0_addLine at hw
  refine g_aload_n 0 (dk D_X0_addLine 0 rfl) rfl rfl ?_
  refine g_iload_n 1 (dk D_X0_addLine 1 rfl) rfl rfl ?_
  refine g_callV (As := [.int (p1)]) (kc := 0) (fr := 1) (lo := 30) (mc := 0) (My := M_X0_add) (dk D_X0_addLine 2 rfl) hthis.1 rfl rfl w_1253 w_975 w_976 w_104 w_977 okD_X0_add (by decide) (Nat.le_of_ble_eq_true rfl) rfl (c_X0_add this (p1) (hthis) (h) _ hw) kxN (kV (fun h1 hw => ?_))
  refine g_aload_n 0 (dk D_X0_addLine 3 rfl) rfl rfl ?_
  refine g_iload_n 2 (dk D_X0_addLine 4 rfl) rfl rfl ?_
  refine g_callV (As := [.int (p2)]) (kc := 0) (fr := 1) (lo := 30) (mc := 0) (My := M_X0_add) (dk D_X0_addLine 5 rfl) hthis.1 rfl rfl w_1253 w_975 w_976 w_104 w_977 okD_X0_add (by decide) (Nat.le_of_ble_eq_true rfl) rfl (c_X0_add this (p2) (hthis) (h1) _ hw) kxN (kV (fun h2 hw => ?_))
  refine g_aload_n 0 (dk D_X0_addLine 6 rfl) rfl rfl ?_
  refine g_bipush (dk D_X0_addLine 7 rfl) kb_m9 ?_
  refine g_callV (As := [.int ((-9 : Int32))]) (kc := 0) (fr := 1) (lo := 30) (mc := 0) (My := M_X0_add) (dk D_X0_addLine 8 rfl) hthis.1 rfl rfl w_1253 w_975 w_976 w_104 w_977 okD_X0_add (by decide) (Nat.le_of_ble_eq_true rfl) rfl (c_X0_add this ((-9 : Int32)) (hthis) (h2) _ hw) kxN (kV (fun h3 hw => ?_))
  refine g_aload_n 0 (dk D_X0_addLine 9 rfl) rfl rfl ?_
  refine g_iload_n 3 (dk D_X0_addLine 10 rfl) rfl rfl ?_
  refine g_callV (As := [.int (p3)]) (kc := 0) (fr := 1) (lo := 30) (mc := 0) (My := M_X0_add) (dk D_X0_addLine 11 rfl) hthis.1 rfl rfl w_1253 w_975 w_976 w_104 w_977 okD_X0_add (by decide) (Nat.le_of_ble_eq_true rfl) rfl (c_X0_add this (p3) (hthis) (h3) _ hw) kxN (kV (fun h4 hw => ?_))
  refine g_aload_n 0 (dk D_X0_addLine 12 rfl) rfl rfl ?_
  refine g_bipush (dk D_X0_addLine 13 rfl) kb_m10 ?_
  refine g_callV (As := [.int ((-10 : Int32))]) (kc := 0) (fr := 1) (lo := 30) (mc := 0) (My := M_X0_add) (dk D_X0_addLine 14 rfl) hthis.1 rfl rfl w_1253 w_975 w_976 w_104 w_977 okD_X0_add (by decide) (Nat.le_of_ble_eq_true rfl) rfl (c_X0_add this ((-10 : Int32)) (hthis) (h4) _ hw) kxN (kV (fun h5 hw => ?_))
  refine g_aload_n 0 (dk D_X0_addLine 15 rfl) rfl rfl ?_
  refine g_bipush (dk D_X0_addLine 16 rfl) kb_m17 ?_
  refine g_callV (As := [.int ((-17 : Int32))]) (kc := 0) (fr := 1) (lo := 30) (mc := 0) (My := M_X0_add) (dk D_X0_addLine 17 rfl) hthis.1 rfl rfl w_1253 w_975 w_976 w_104 w_977 okD_X0_add (by decide) (Nat.le_of_ble_eq_true rfl) rfl (c_X0_add this ((-17 : Int32)) (hthis) (h5) _ hw) kxN (kV (fun h6 hw => ?_))
  exact g_vret (dk D_X0_addLine 18 rfl) rfl ⟨rfl, hw⟩
theorem c_X0_addLine {X : Cx} (this : Nat) (p1 : Int32) (p2 : Int32) (p3 : Int32) (hthis : LawP this) (h : Hp) (Q : Hp → Prop) (hw : w_X0_addLine this p1 p2 p3 h Q) : Con X yX0_addLine M_X0_addLine 2 59 0 [.ref (this), .int (p1), .int (p2), .int (p3)] h (QV Q) Qn :=
  con_of (by decide +kernel) rfl (Nat.le_of_ble_eq_true rfl) (t_X0_addLine this p1 p2 p3 h Q hthis hw)
/-! ShadowTolls$Law.beTwoLines(II)V -/
abbrev M_X0_beTwoLines : Mi := (RX0, cX0_beTwoLines, 3, none)
abbrev E_X0_beTwoLines : Rm := (3, 90, 0, 0)
def rows_X0_beTwoLines : List (Nat × Instr × Nat) := [(0, .aload_n 0, 1), (1, .invokevirtual 33, 3), (4, .aload_n 0, 1), (5, .iconst (-1), 1), (6, .iload_n 1, 1), (7, .bipush 100, 2), (9, .invokevirtual 36, 3), (12, .aload_n 0, 1), (13, .bipush (-3), 2), (15, .iload_n 2, 1), (16, .bipush 10, 2), (18, .invokevirtual 36, 3), (21, .return_, 1)]
theorem D_X0_beTwoLines : dkA cX0_beTwoLines rows_X0_beTwoLines := by
  unfold dkA
  decide +kernel
theorem okD_X0_beTwoLines : okD yX0_beTwoLines 2 := by
  unfold okD
  decide +kernel
def w_X0_beTwoLines (this : Nat) (p1 : Int32) (p2 : Int32) (h : Hp) (Q : Hp → Prop) : Prop :=
  w_X0_empty this h (fun h1 => w_X0_addLine this ((-1 : Int32)) (p1) ((100 : Int32)) h1 (fun h2 => w_X0_addLine this ((-3 : Int32)) (p2) ((10 : Int32)) h2 (fun h3 => Q h3)))
theorem t_X0_beTwoLines {X : Cx} (this : Nat) (p1 : Int32) (p2 : Int32) (h : Hp) (Q : Hp → Prop) (hthis : LawP this) (hw : w_X0_beTwoLines this p1 p2 h Q) : G X M_X0_beTwoLines E_X0_beTwoLines (QM X E_X0_beTwoLines (QV Q) Qn) 0 0 [(0, .ref (this)), (1, .int (p1)), (2, .int (p2))] [] h := by
  unfold w_X0_beTwoLines at hw
  refine g_aload_n 0 (dk D_X0_beTwoLines 0 rfl) rfl rfl ?_
  refine g_callV (As := []) (kc := 0) (fr := 0) (lo := 0) (mc := 0) (My := M_X0_empty) (dk D_X0_beTwoLines 1 rfl) hthis.1 rfl rfl w_1248 w_949 w_950 w_104 w_951 okD_X0_empty (by decide) (Nat.le_of_ble_eq_true rfl) rfl (c_X0_empty this (hthis) (h) _ hw) kxN (kV (fun h1 hw => ?_))
  refine g_aload_n 0 (dk D_X0_beTwoLines 2 rfl) rfl rfl ?_
  refine g_iconst (dk D_X0_beTwoLines 3 rfl) ki_m1 ?_
  refine g_iload_n 1 (dk D_X0_beTwoLines 4 rfl) rfl rfl ?_
  refine g_bipush (dk D_X0_beTwoLines 5 rfl) kb_100 ?_
  refine g_callV (As := [.int ((-1 : Int32)), .int (p1), .int ((100 : Int32))]) (kc := 0) (fr := 2) (lo := 59) (mc := 0) (My := M_X0_addLine) (dk D_X0_beTwoLines 6 rfl) hthis.1 rfl rfl w_1249 w_1251 w_37 w_104 w_1252 okD_X0_addLine (by decide) (Nat.le_of_ble_eq_true rfl) rfl (c_X0_addLine this ((-1 : Int32)) (p1) ((100 : Int32)) (hthis) (h1) _ hw) kxN (kV (fun h2 hw => ?_))
  refine g_aload_n 0 (dk D_X0_beTwoLines 7 rfl) rfl rfl ?_
  refine g_bipush (dk D_X0_beTwoLines 8 rfl) kb_m3 ?_
  refine g_iload_n 2 (dk D_X0_beTwoLines 9 rfl) rfl rfl ?_
  refine g_bipush (dk D_X0_beTwoLines 10 rfl) kb_10 ?_
  refine g_callV (As := [.int ((-3 : Int32)), .int (p2), .int ((10 : Int32))]) (kc := 0) (fr := 2) (lo := 59) (mc := 0) (My := M_X0_addLine) (dk D_X0_beTwoLines 11 rfl) hthis.1 rfl rfl w_1249 w_1251 w_37 w_104 w_1252 okD_X0_addLine (by decide) (Nat.le_of_ble_eq_true rfl) rfl (c_X0_addLine this ((-3 : Int32)) (p2) ((10 : Int32)) (hthis) (h2) _ hw) kxN (kV (fun h3 hw => ?_))
  exact g_vret (dk D_X0_beTwoLines 12 rfl) rfl ⟨rfl, hw⟩
theorem c_X0_beTwoLines {X : Cx} (this : Nat) (p1 : Int32) (p2 : Int32) (hthis : LawP this) (h : Hp) (Q : Hp → Prop) (hw : w_X0_beTwoLines this p1 p2 h Q) : Con X yX0_beTwoLines M_X0_beTwoLines 3 90 0 [.ref (this), .int (p1), .int (p2)] h (QV Q) Qn :=
  con_of (by decide +kernel) rfl (Nat.le_of_ble_eq_true rfl) (t_X0_beTwoLines this p1 p2 h Q hthis hw)
/-! ShadowTolls$Law.learn(II)V -/
abbrev M_X0_learn : Mi := (RX0, cX0_learn, 3, none)
abbrev E_X0_learn : Rm := (1, 30, 0, 0)
def rows_X0_learn : List (Nat × Instr × Nat) := [(0, .aload_n 0, 1), (1, .getfield 15, 3), (4, .iconst (-1), 1), (5, .iload_n 1, 1), (6, .isub, 1), (7, .iload_n 2, 1), (8, .invokestatic 25, 3), (11, .return_, 1)]
theorem D_X0_learn : dkA cX0_learn rows_X0_learn := by
  unfold dkA
  decide +kernel
theorem okD_X0_learn : okD yX0_learn 2 := by
  unfold okD
  decide +kernel
def w_X0_learn (this : Nat) (p1 : Int32) (p2 : Int32) (h : Hp) (Q : Hp → Prop) : Prop :=
  w_X8_put (tg this 1) 6 (((-1 : Int32) - p1)) (p2) h (fun h1 => Q h1)
theorem t_X0_learn {X : Cx} (this : Nat) (p1 : Int32) (p2 : Int32) (h : Hp) (Q : Hp → Prop) (hthis : LawP this) (hw : w_X0_learn this p1 p2 h Q) : G X M_X0_learn E_X0_learn (QM X E_X0_learn (QV Q) Qn) 0 0 [(0, .ref (this)), (1, .int (p1)), (2, .int (p2))] [] h := by
  unfold w_X0_learn at hw
  refine g_aload_n 0 (dk D_X0_learn 0 rfl) rfl rfl ?_
  refine g_getR 1 (t := (tg this 1)) (dk D_X0_learn 1 rfl) hthis.1 rfl rfl (by decide) w_254 rfl rfl rfl ?_
  refine g_iconst (dk D_X0_learn 2 rfl) ki_m1 ?_
  refine g_iload_n 1 (dk D_X0_learn 3 rfl) rfl rfl ?_
  refine g_isub (dk D_X0_learn 4 rfl) ?_
  refine g_iload_n 2 (dk D_X0_learn 5 rfl) rfl rfl ?_
  refine g_callSN (As := [.ref ((tg this 1)), .int (((-1 : Int32) - p1)), .int (p2)]) (kc := 0) (fr := 0) (lo := 0) (mc := 0) (My := M_X8_put) (dk D_X0_learn 6 rfl) w_595 w_496 w_101 w_497 okD_X8_put (by decide) (Nat.le_of_ble_eq_true rfl) rfl (c_X8_put (tg this 1) 6 (((-1 : Int32) - p1)) (p2) (hthis.2.2.1) (h) _ hw) kxN (kV (fun h1 hw => ?_))
  exact g_vret (dk D_X0_learn 7 rfl) rfl ⟨rfl, hw⟩
theorem c_X0_learn {X : Cx} (this : Nat) (p1 : Int32) (p2 : Int32) (hthis : LawP this) (h : Hp) (Q : Hp → Prop) (hw : w_X0_learn this p1 p2 h Q) : Con X yX0_learn M_X0_learn 1 30 0 [.ref (this), .int (p1), .int (p2)] h (QV Q) Qn :=
  con_of (by decide +kernel) rfl (Nat.le_of_ble_eq_true rfl) (t_X0_learn this p1 p2 h Q hthis hw)
/-! ShadowTolls.at([II)I -/
abbrev M_X8_at : Mi := (RX8, cX8_at, 2, (some .int))
abbrev E_X8_at : Rm := (0, 0, 0, 0)
def rows_X8_at : List (Nat × Instr × Nat) := [(0, .iload_n 1, 1), (1, .ifCond .lt 15, 3), (4, .iload_n 1, 1), (5, .aload_n 0, 1), (6, .arraylength, 1), (7, .if_icmp .ge 9, 3), (10, .aload_n 0, 1), (11, .iload_n 1, 1), (12, .iaload, 1), (13, .goto 4, 3), (16, .iconst 0, 1), (17, .ireturn, 1)]
theorem D_X8_at : dkA cX8_at rows_X8_at := by
  unfold dkA
  decide +kernel
theorem okD_X8_at : okD yX8_at 2 := by
  unfold okD
  decide +kernel
def w_X8_at (r0 : Nat) (n0 : Nat) (p1 : Int32) (h : Hp) (Q : Int32 → Prop) : Prop :=
  wif (p1 < 0) (Q (0 : Int32)) (wif ((nI n0) ≤ p1) (Q (0 : Int32)) ((vp_in p1 n0 ∧ Q (h r0 (Int32.toNatClampNeg p1)))))
theorem t_X8_at {X : Cx} (r0 : Nat) (n0 : Nat) (p1 : Int32) (h : Hp) (Q : Int32 → Prop) (hr0 : kd r0 = (1, n0, 0, 0, 0)) (hw : w_X8_at r0 n0 p1 h Q) : G X M_X8_at E_X8_at (QM X E_X8_at (QIp h Q) Qn) 0 0 [(0, .ref (r0)), (1, .int (p1))] [] h := by
  unfold w_X8_at at hw
  refine g_iload_n 1 (dk D_X8_at 0 rfl) rfl rfl ?_
  refine g_if_lt (dk D_X8_at 1 rfl) rfl (wif_m hw (fun hw => ?_) (fun hw => ?_))
  · refine g_iconst (dk D_X8_at 10 rfl) ki_0 ?_
    exact g_iret (dk D_X8_at 11 rfl) rfl ⟨_, rfl, rfl, hw⟩
  · refine g_iload_n 1 (dk D_X8_at 2 rfl) rfl rfl ?_
    refine g_aload_n 0 (dk D_X8_at 3 rfl) rfl rfl ?_
    refine g_alen (dk D_X8_at 4 rfl) hr0 rfl ?_
    refine g_icmp_ge (dk D_X8_at 5 rfl) rfl (wif_m hw (fun hw => ?_) (fun hw => ?_))
    · refine g_iconst (dk D_X8_at 10 rfl) ki_0 ?_
      exact g_iret (dk D_X8_at 11 rfl) rfl ⟨_, rfl, rfl, hw⟩
    · refine g_aload_n 0 (dk D_X8_at 6 rfl) rfl rfl ?_
      refine g_iload_n 1 (dk D_X8_at 7 rfl) rfl rfl ?_
      obtain ⟨hi1, hw⟩ := hw
      refine g_iald (dk D_X8_at 8 rfl) hr0 hi1 ?_
      refine g_goto (dk D_X8_at 9 rfl) rfl ?_
      exact g_iret (dk D_X8_at 11 rfl) rfl ⟨_, rfl, rfl, hw⟩
theorem c_X8_at {X : Cx} (r0 : Nat) (n0 : Nat) (p1 : Int32) (hr0 : kd r0 = (1, n0, 0, 0, 0)) (h : Hp) (Q : Int32 → Prop) (hw : w_X8_at r0 n0 p1 h Q) : Con X yX8_at M_X8_at 0 0 0 [.ref (r0), .int (p1)] h (QIp h Q) Qn :=
  con_of (by decide +kernel) rfl (Nat.le_of_ble_eq_true rfl) (t_X8_at r0 n0 p1 h Q hr0 hw)
/-! ShadowTolls$Law.joined(III)I -/
abbrev M_X0_joined : Mi := (RX0, cX0_joined, 3, (some .int))
abbrev E_X0_joined : Rm := (0, 0, 0, 0)
def rows_X0_joined : List (Nat × Instr × Nat) := [(0, .iload_n 0, 1), (1, .tableswitch 112 (-15) (-7) #[108, 112, 97, 86, 75, 63, 59, 55, 51], 51), (52, .iload_n 1, 1), (53, .iload_n 2, 1), (54, .iadd, 1), (55, .ireturn, 1), (56, .iload_n 1, 1), (57, .iload_n 2, 1), (58, .isub, 1), (59, .ireturn, 1), (60, .iload_n 1, 1), (61, .iload_n 2, 1), (62, .imul, 1), (63, .ireturn, 1), (64, .iload_n 2, 1), (65, .ifCond .ne 7, 3), (68, .iconst 0, 1), (69, .goto 6, 3), (72, .iload_n 1, 1), (73, .iload_n 2, 1), (74, .idiv, 1), (75, .ireturn, 1), (76, .iload_n 1, 1), (77, .iload_n 2, 1), (78, .if_icmp .ge 7, 3), (81, .iconst 1, 1), (82, .goto 4, 3), (85, .iconst 0, 1), (86, .ireturn, 1), (87, .iload_n 1, 1), (88, .iload_n 2, 1), (89, .if_icmp .le 7, 3), (92, .iconst 1, 1), (93, .goto 4, 3), (96, .iconst 0, 1), (97, .ireturn, 1), (98, .iload_n 1, 1), (99, .iload_n 2, 1), (100, .if_icmp .ne 7, 3), (103, .iconst 1, 1), (104, .goto 4, 3), (107, .iconst 0, 1), (108, .ireturn, 1), (109, .iload_n 1, 1), (110, .iload_n 2, 1), (111, .iand, 1), (112, .ireturn, 1), (113, .iload_n 1, 1), (114, .iload_n 2, 1), (115, .ior, 1), (116, .ireturn, 1)]
theorem D_X0_joined : dkA cX0_joined rows_X0_joined := by
  unfold dkA
  decide +kernel
theorem okD_X0_joined : okD yX0_joined 3 := by
  unfold okD
  decide +kernel
def w_X0_joined (p0 : Int32) (p1 : Int32) (p2 : Int32) (h : Hp) (Q : Int32 → Prop) : Prop :=
  wsw p0 [((-15 : Int32), Q (p1 &&& p2)), ((-14 : Int32), Q (p1 ||| p2)), ((-13 : Int32), Q (if ¬ p1 = p2 then (0 : Int32) else (1 : Int32))), ((-12 : Int32), Q (if p1 ≤ p2 then (0 : Int32) else (1 : Int32))), ((-11 : Int32), Q (if p2 ≤ p1 then (0 : Int32) else (1 : Int32))), ((-10 : Int32), wif (¬ p2 = 0) ((¬ p2 = 0 ∧ Q (p1 / p2))) (Q (0 : Int32))), ((-9 : Int32), Q (p1 * p2)), ((-8 : Int32), Q (p1 - p2)), ((-7 : Int32), Q (p1 + p2))] (Q (p1 ||| p2))
theorem t_X0_joined {X : Cx} (p0 : Int32) (p1 : Int32) (p2 : Int32) (h : Hp) (Q : Int32 → Prop) (hw : w_X0_joined p0 p1 p2 h Q) : G X M_X0_joined E_X0_joined (QM X E_X0_joined (QIp h Q) Qn) 0 0 [(0, .int (p0)), (1, .int (p1)), (2, .int (p2))] [] h := by
  unfold w_X0_joined at hw
  refine g_iload_n 0 (dk D_X0_joined 0 rfl) rfl rfl ?_
  refine g_sw [((-15 : Int32), 109), ((-14 : Int32), 113), ((-13 : Int32), 98), ((-12 : Int32), 87), ((-11 : Int32), 76), ((-10 : Int32), 64), ((-9 : Int32), 60), ((-8 : Int32), 56), ((-7 : Int32), 52)] 113 (dk D_X0_joined 1 rfl) (by decide +kernel) (by decide +kernel) (by decide) (by decide) (wsw_m hw ⟨rfl, (fun hw => ?_), rfl, (fun hw => ?_), rfl, (fun hw => ?_), rfl, (fun hw => ?_), rfl, (fun hw => ?_), rfl, (fun hw => ?_), rfl, (fun hw => ?_), rfl, (fun hw => ?_), rfl, (fun hw => ?_), trivial⟩ (fun hw => ?_))
  · refine g_iload_n 1 (dk D_X0_joined 43 rfl) rfl rfl ?_
    refine g_iload_n 2 (dk D_X0_joined 44 rfl) rfl rfl ?_
    refine g_iand (dk D_X0_joined 45 rfl) ?_
    exact g_iret (dk D_X0_joined 46 rfl) rfl ⟨_, rfl, rfl, hw⟩
  · refine g_iload_n 1 (dk D_X0_joined 47 rfl) rfl rfl ?_
    refine g_iload_n 2 (dk D_X0_joined 48 rfl) rfl rfl ?_
    refine g_ior (dk D_X0_joined 49 rfl) ?_
    exact g_iret (dk D_X0_joined 50 rfl) rfl ⟨_, rfl, rfl, hw⟩
  · refine g_iload_n 1 (dk D_X0_joined 36 rfl) rfl rfl ?_
    refine g_iload_n 2 (dk D_X0_joined 37 rfl) rfl rfl ?_
    have hj : G X M_X0_joined E_X0_joined (QM X E_X0_joined (QIp h Q) Qn) 0 108 [(0, .int (p0)), (1, .int (p1)), (2, .int (p2))] [.int ((if ¬ p1 = p2 then (0 : Int32) else (1 : Int32)))] (h) := by
      exact g_iret (dk D_X0_joined 42 rfl) rfl ⟨_, rfl, rfl, hw⟩
    refine g_icmp_ne (dk D_X0_joined 38 rfl) rfl ?_
    by_cases c1 : ¬ p1 = p2
    · rw [if_pos c1] at hj
      refine wif_p c1 ?_
      refine g_iconst (dk D_X0_joined 41 rfl) ki_0 ?_
      exact hj
    · rw [if_neg c1] at hj
      refine wif_n c1 ?_
      refine g_iconst (dk D_X0_joined 39 rfl) ki_1 ?_
      refine g_goto (dk D_X0_joined 40 rfl) rfl ?_
      exact hj
  · refine g_iload_n 1 (dk D_X0_joined 29 rfl) rfl rfl ?_
    refine g_iload_n 2 (dk D_X0_joined 30 rfl) rfl rfl ?_
    have hj : G X M_X0_joined E_X0_joined (QM X E_X0_joined (QIp h Q) Qn) 0 97 [(0, .int (p0)), (1, .int (p1)), (2, .int (p2))] [.int ((if p1 ≤ p2 then (0 : Int32) else (1 : Int32)))] (h) := by
      exact g_iret (dk D_X0_joined 35 rfl) rfl ⟨_, rfl, rfl, hw⟩
    refine g_icmp_le (dk D_X0_joined 31 rfl) rfl ?_
    by_cases c2 : p1 ≤ p2
    · rw [if_pos c2] at hj
      refine wif_p c2 ?_
      refine g_iconst (dk D_X0_joined 34 rfl) ki_0 ?_
      exact hj
    · rw [if_neg c2] at hj
      refine wif_n c2 ?_
      refine g_iconst (dk D_X0_joined 32 rfl) ki_1 ?_
      refine g_goto (dk D_X0_joined 33 rfl) rfl ?_
      exact hj
  · refine g_iload_n 1 (dk D_X0_joined 22 rfl) rfl rfl ?_
    refine g_iload_n 2 (dk D_X0_joined 23 rfl) rfl rfl ?_
    have hj : G X M_X0_joined E_X0_joined (QM X E_X0_joined (QIp h Q) Qn) 0 86 [(0, .int (p0)), (1, .int (p1)), (2, .int (p2))] [.int ((if p2 ≤ p1 then (0 : Int32) else (1 : Int32)))] (h) := by
      exact g_iret (dk D_X0_joined 28 rfl) rfl ⟨_, rfl, rfl, hw⟩
    refine g_icmp_ge (dk D_X0_joined 24 rfl) rfl ?_
    by_cases c3 : p2 ≤ p1
    · rw [if_pos c3] at hj
      refine wif_p c3 ?_
      refine g_iconst (dk D_X0_joined 27 rfl) ki_0 ?_
      exact hj
    · rw [if_neg c3] at hj
      refine wif_n c3 ?_
      refine g_iconst (dk D_X0_joined 25 rfl) ki_1 ?_
      refine g_goto (dk D_X0_joined 26 rfl) rfl ?_
      exact hj
  · refine g_iload_n 2 (dk D_X0_joined 14 rfl) rfl rfl ?_
    refine g_if_ne (dk D_X0_joined 15 rfl) rfl (wif_m hw (fun hw => ?_) (fun hw => ?_))
    · refine g_iload_n 1 (dk D_X0_joined 18 rfl) rfl rfl ?_
      refine g_iload_n 2 (dk D_X0_joined 19 rfl) rfl rfl ?_
      obtain ⟨d4, hw⟩ := hw
      refine g_idiv (dk D_X0_joined 20 rfl) d4 ?_
      exact g_iret (dk D_X0_joined 21 rfl) rfl ⟨_, rfl, rfl, hw⟩
    · refine g_iconst (dk D_X0_joined 16 rfl) ki_0 ?_
      refine g_goto (dk D_X0_joined 17 rfl) rfl ?_
      exact g_iret (dk D_X0_joined 21 rfl) rfl ⟨_, rfl, rfl, hw⟩
  · refine g_iload_n 1 (dk D_X0_joined 10 rfl) rfl rfl ?_
    refine g_iload_n 2 (dk D_X0_joined 11 rfl) rfl rfl ?_
    refine g_imul (dk D_X0_joined 12 rfl) ?_
    exact g_iret (dk D_X0_joined 13 rfl) rfl ⟨_, rfl, rfl, hw⟩
  · refine g_iload_n 1 (dk D_X0_joined 6 rfl) rfl rfl ?_
    refine g_iload_n 2 (dk D_X0_joined 7 rfl) rfl rfl ?_
    refine g_isub (dk D_X0_joined 8 rfl) ?_
    exact g_iret (dk D_X0_joined 9 rfl) rfl ⟨_, rfl, rfl, hw⟩
  · refine g_iload_n 1 (dk D_X0_joined 2 rfl) rfl rfl ?_
    refine g_iload_n 2 (dk D_X0_joined 3 rfl) rfl rfl ?_
    refine g_iadd (dk D_X0_joined 4 rfl) ?_
    exact g_iret (dk D_X0_joined 5 rfl) rfl ⟨_, rfl, rfl, hw⟩
  · refine g_iload_n 1 (dk D_X0_joined 47 rfl) rfl rfl ?_
    refine g_iload_n 2 (dk D_X0_joined 48 rfl) rfl rfl ?_
    refine g_ior (dk D_X0_joined 49 rfl) ?_
    exact g_iret (dk D_X0_joined 50 rfl) rfl ⟨_, rfl, rfl, hw⟩
theorem c_X0_joined {X : Cx} (p0 : Int32) (p1 : Int32) (p2 : Int32) (h : Hp) (Q : Int32 → Prop) (hw : w_X0_joined p0 p1 p2 h Q) : Con X yX0_joined M_X0_joined 0 0 0 [.int (p0), .int (p1), .int (p2)] h (QIp h Q) Qn :=
  con_of (by decide +kernel) rfl (Nat.le_of_ble_eq_true rfl) (t_X0_joined p0 p1 p2 h Q hw)
/-! ShadowTolls$Law.sum()I -/
abbrev M_X0_sum : Mi := (RX0, cX0_sum, 6, (some .int))
abbrev E_X0_sum : Rm := (1, 30, 0, 0)
def rows_X0_sum : List (Nat × Instr × Nat) := [(0, .lconst 0, 1), (1, .lstore_n 1, 1), (2, .iconst 0, 1), (3, .istore_n 3, 1), (4, .iconst 0, 1), (5, .istore 4, 2), (7, .iload 4, 2), (9, .aload_n 0, 1), (10, .getfield 21, 3), (13, .if_icmp .ge 205, 3), (16, .iload 4, 2), (18, .aload_n 0, 1), (19, .getfield 9, 3), (22, .arraylength, 1), (23, .if_icmp .ge 195, 3), (26, .aload_n 0, 1), (27, .getfield 9, 3), (30, .iload 4, 2), (32, .iaload, 1), (33, .istore 5, 2), (35, .iload 5, 2), (37, .bipush (-6), 2), (39, .if_icmp .lt 38, 3), (42, .aload_n 0, 1), (43, .getfield 18, 3), (46, .iload_n 3, 1), (47, .iload 5, 2), (49, .ifCond .lt 8, 3), (52, .iload 5, 2), (54, .goto 14, 3), (57, .aload_n 0, 1), (58, .getfield 15, 3), (61, .iconst (-1), 1), (62, .iload 5, 2), (64, .isub, 1), (65, .invokestatic 44, 3), (68, .invokestatic 25, 3), (71, .iinc 3 1, 3), (74, .goto 138, 3), (77, .iload 5, 2), (79, .bipush (-14), 2), (81, .if_icmp .ne 28, 3), (84, .aload_n 0, 1), (85, .getfield 18, 3), (88, .iload_n 3, 1), (89, .iconst 1, 1), (90, .isub, 1), (91, .iconst 1, 1), (92, .aload_n 0, 1), (93, .getfield 18, 3), (96, .iload_n 3, 1), (97, .iconst 1, 1), (98, .isub, 1), (99, .invokestatic 44, 3), (102, .isub, 1), (103, .invokestatic 25, 3), (106, .goto 106, 3), (109, .iload 5, 2), (111, .bipush (-17), 2), (113, .if_icmp .ne 21, 3), (116, .iinc 3 (-1), 3), (119, .lload_n 1, 1), (120, .aload_n 0, 1), (121, .getfield 18, 3), (124, .iload_n 3, 1), (125, .invokestatic 44, 3), (128, .i2l, 1), (129, .ladd, 1), (130, .lstore_n 1, 1), (131, .goto 81, 3), (134, .iload 5, 2), (136, .bipush (-18), 2), (138, .if_icmp .ne 38, 3), (141, .iinc 3 (-2), 3), (144, .lload_n 1, 1), (145, .aload_n 0, 1), (146, .getfield 18, 3), (149, .iload_n 3, 1), (150, .iconst 1, 1), (151, .iadd, 1), (152, .invokestatic 44, 3), (155, .ifCond .ne 7, 3), (158, .lconst 0, 1), (159, .goto 12, 3), (162, .aload_n 0, 1), (163, .getfield 18, 3), (166, .iload_n 3, 1), (167, .invokestatic 44, 3), (170, .i2l, 1), (171, .ladd, 1), (172, .lstore_n 1, 1), (173, .goto 39, 3), (176, .iinc 3 (-1), 3), (179, .aload_n 0, 1), (180, .getfield 18, 3), (183, .iload_n 3, 1), (184, .iconst 1, 1), (185, .isub, 1), (186, .iload 5, 2), (188, .aload_n 0, 1), (189, .getfield 18, 3), (192, .iload_n 3, 1), (193, .iconst 1, 1), (194, .isub, 1), (195, .invokestatic 44, 3), (198, .aload_n 0, 1), (199, .getfield 18, 3), (202, .iload_n 3, 1), (203, .invokestatic 44, 3), (206, .invokestatic 48, 3), (209, .invokestatic 25, 3), (212, .iinc 4 1, 3), (215, .goto (-208), 3), (218, .lconst 0, 1), (219, .ldc2_w 52, 3), (222, .lload_n 1, 1), (223, .invokestatic 54, 3), (226, .invokestatic 60, 3), (229, .l2i, 1), (230, .ireturn, 1)]
theorem D_X0_sum : dkA cX0_sum rows_X0_sum := by
  unfold dkA
  decide +kernel
theorem okD_X0_sum : okD yX0_sum 0 := by
  unfold okD
  decide +kernel
def w_X0_sum_b218 (this : Nat) (v1 : Int64) (h : Hp) (Q : Int32 → Hp → Prop) : Prop :=
  Q (Int64.toInt32 (if (if v1 < (9999 : Int64) then v1 else (9999 : Int64)) < (0 : Int64) then (0 : Int64) else (if v1 < (9999 : Int64) then v1 else (9999 : Int64)))) h
def w_X0_sum_b212 (this : Nat) (v1 : Int64) (v3 : Int32) (v4 : Int32) (K7 : Int64 × Int32 × Int32 × Hp → Prop) (h : Hp) (Q : Int32 → Hp → Prop) : Prop :=
  K7 (v1, v3, (v4 + (1 : Int32)), h)
def w_X0_sum_b171 (this : Nat) (v3 : Int32) (v4 : Int32) (s0 : Int64) (s1 : Int64) (K7 : Int64 × Int32 × Int32 × Hp → Prop) (h : Hp) (Q : Int32 → Hp → Prop) : Prop :=
  wlet ((s1 + s0)) (fun v1_1 => w_X0_sum_b212 this (v1_1) (v3) (v4) K7 (h) Q)
def w_X0_sum_b68 (this : Nat) (v1 : Int64) (v3 : Int32) (v4 : Int32) (s0 : Int32) (s1 : Int32) (K7 : Int64 × Int32 × Int32 × Hp → Prop) (h : Hp) (Q : Int32 → Hp → Prop) : Prop :=
  w_X8_put (tg this 2) 64 (s1) (s0) h (fun h1 => w_X0_sum_b212 this (v1) ((v3 + (1 : Int32))) (v4) K7 (h1) Q)
def w_X0_sum_l7 (this : Nat) (Q : Int32 → Hp → Prop) (K7 : Int64 × Int32 × Int32 × Hp → Prop) (v1 : Int64) (v3 : Int32) (v4 : Int32) (h : Hp) : Prop :=
  wif ((h this 3) ≤ v4) (w_X0_sum_b218 this (v1) (h) Q) (wif ((500 : Int32) ≤ v4) (w_X0_sum_b218 this (v1) (h) Q) ((vp_in v4 500 ∧ wlet ((h (tg this 0) (Int32.toNatClampNeg v4))) (fun v5_2 => wif (v5_2 < (-6 : Int32)) (wif (¬ v5_2 = (-14 : Int32)) (wif (¬ v5_2 = (-17 : Int32)) (wif (¬ v5_2 = (-18 : Int32)) (w_X8_at (tg this 2) 64 (((v3 + (-1 : Int32)) - (1 : Int32))) h (fun z3 => w_X8_at (tg this 2) 64 ((v3 + (-1 : Int32))) h (fun z4 => w_X0_joined (v5_2) (z3) (z4) h (fun z5 => w_X8_put (tg this 2) 64 (((v3 + (-1 : Int32)) - (1 : Int32))) (z5) h (fun h6 => w_X0_sum_b212 this (v1) ((v3 + (-1 : Int32))) (v4) K7 (h6) Q))))) (w_X8_at (tg this 2) 64 (((v3 + (-2 : Int32)) + (1 : Int32))) h (fun z7 => wif (¬ z7 = 0) (w_X8_at (tg this 2) 64 ((v3 + (-2 : Int32))) h (fun z8 => w_X0_sum_b171 this ((v3 + (-2 : Int32))) (v4) ((Int32.toInt64 z8)) (v1) K7 (h) Q)) (w_X0_sum_b171 this ((v3 + (-2 : Int32))) (v4) ((0 : Int64)) (v1) K7 (h) Q)))) (w_X8_at (tg this 2) 64 ((v3 + (-1 : Int32))) h (fun z9 => wlet ((v1 + (Int32.toInt64 z9))) (fun v1_10 => w_X0_sum_b212 this (v1_10) ((v3 + (-1 : Int32))) (v4) K7 (h) Q)))) (w_X8_at (tg this 2) 64 ((v3 - (1 : Int32))) h (fun z11 => w_X8_put (tg this 2) 64 ((v3 - (1 : Int32))) (((1 : Int32) - z11)) h (fun h12 => w_X0_sum_b212 this (v1) (v3) (v4) K7 (h12) Q)))) (wif (v5_2 < 0) (w_X8_at (tg this 1) 6 (((-1 : Int32) - v5_2)) h (fun z13 => w_X0_sum_b68 this (v1) (v3) (v4) (z13) (v3) K7 (h) Q)) (w_X0_sum_b68 this (v1) (v3) (v4) (v5_2) (v3) K7 (h) Q))))))
def w_X0_sum_b7 (this : Nat) (Q : Int32 → Hp → Prop) (s : Int64 × Int32 × Int32 × Hp) : Prop := wl (fun K s => w_X0_sum_l7 this Q K s.1 s.2.1 s.2.2.1 s.2.2.2) s
def w_X0_sum (this : Nat) (h : Hp) (Q : Int32 → Hp → Prop) : Prop :=
  w_X0_sum_b7 this Q ((0 : Int64), (0 : Int32), (0 : Int32), h)
theorem t_X0_sum_b218 {X : Cx} (this : Nat) (v1 : Int64) (h : Hp) (Q : Int32 → Hp → Prop) (hthis : LawP this) (hw : w_X0_sum_b218 this v1 h Q) : G X M_X0_sum E_X0_sum (QM X E_X0_sum (QI Q) Qn) 0 218 [(1, .long (v1))] [] h := by
  unfold w_X0_sum_b218 at hw
  refine g_lconst (dk D_X0_sum 113 rfl) kl_0 ?_
  refine g_ldc2 (dk D_X0_sum 114 rfl) w_604 ?_
  refine g_lload_n 0 (dk D_X0_sum 115 rfl) rfl rfl ?_
  refine g_mminL (dk D_X0_sum 116 rfl) w_605 (by decide) (Nat.le_of_ble_eq_true rfl) ?_
  refine g_mmaxL (dk D_X0_sum 117 rfl) w_608 (by decide) (Nat.le_of_ble_eq_true rfl) ?_
  refine g_l2i (dk D_X0_sum 118 rfl) ?_
  exact g_iret (dk D_X0_sum 119 rfl) rfl ⟨_, rfl, hw⟩
theorem t_X0_sum_b212 {X : Cx} (this : Nat) (v1 : Int64) (v3 : Int32) (v4 : Int32) (K7 : Int64 × Int32 × Int32 × Hp → Prop) (h : Hp) (Q : Int32 → Hp → Prop) (hthis : LawP this) (hK7 : ∀ s : Int64 × Int32 × Int32 × Hp, K7 s → G X M_X0_sum E_X0_sum (QM X E_X0_sum (QI Q) Qn) 0 7 [(0, .ref (this)), (1, .long (s.1)), (3, .int (s.2.1)), (4, .int (s.2.2.1))] [] (s.2.2.2)) (hw : w_X0_sum_b212 this v1 v3 v4 K7 h Q) : G X M_X0_sum E_X0_sum (QM X E_X0_sum (QI Q) Qn) 0 212 [(0, .ref (this)), (1, .long (v1)), (3, .int (v3)), (4, .int (v4))] [] h := by
  unfold w_X0_sum_b212 at hw
  refine g_iinc 3 (dk D_X0_sum 111 rfl) rfl (congrArg (fun z => _ + z) ki_1) (by decide) rfl ?_
  refine g_goto (dk D_X0_sum 112 rfl) rfl ?_
  refine g_sub [1, 2, 3, 0] rfl ?_
  exact hK7 (v1, v3, (v4 + (1 : Int32)), h) hw
theorem t_X0_sum_b171 {X : Cx} (this : Nat) (v3 : Int32) (v4 : Int32) (s0 : Int64) (s1 : Int64) (K7 : Int64 × Int32 × Int32 × Hp → Prop) (h : Hp) (Q : Int32 → Hp → Prop) (hthis : LawP this) (hK7 : ∀ s : Int64 × Int32 × Int32 × Hp, K7 s → G X M_X0_sum E_X0_sum (QM X E_X0_sum (QI Q) Qn) 0 7 [(0, .ref (this)), (1, .long (s.1)), (3, .int (s.2.1)), (4, .int (s.2.2.1))] [] (s.2.2.2)) (hw : w_X0_sum_b171 this v3 v4 s0 s1 K7 h Q) : G X M_X0_sum E_X0_sum (QM X E_X0_sum (QI Q) Qn) 0 171 [(0, .ref (this)), (3, .int (v3)), (4, .int (v4))] [.long (s0), .long (s1)] h := by
  unfold w_X0_sum_b171 at hw
  refine g_ladd (dk D_X0_sum 89 rfl) ?_
  refine g_topl (fun v1_1 ev1_1 => ?_)
  replace hw := hw _ ev1_1
  refine g_lstore_n (dk D_X0_sum 90 rfl) rfl (by decide) rfl ?_
  refine g_goto (dk D_X0_sum 91 rfl) rfl ?_
  refine g_sub [1, 0, 2, 3] rfl ?_
  exact t_X0_sum_b212 this (v1_1) (v3) (v4) K7 (h) Q hthis hK7 hw
theorem t_X0_sum_b68 {X : Cx} (this : Nat) (v1 : Int64) (v3 : Int32) (v4 : Int32) (s0 : Int32) (s1 : Int32) (K7 : Int64 × Int32 × Int32 × Hp → Prop) (h : Hp) (Q : Int32 → Hp → Prop) (hthis : LawP this) (hK7 : ∀ s : Int64 × Int32 × Int32 × Hp, K7 s → G X M_X0_sum E_X0_sum (QM X E_X0_sum (QI Q) Qn) 0 7 [(0, .ref (this)), (1, .long (s.1)), (3, .int (s.2.1)), (4, .int (s.2.2.1))] [] (s.2.2.2)) (hw : w_X0_sum_b68 this v1 v3 v4 s0 s1 K7 h Q) : G X M_X0_sum E_X0_sum (QM X E_X0_sum (QI Q) Qn) 0 68 [(0, .ref (this)), (1, .long (v1)), (3, .int (v3)), (4, .int (v4))] [.int (s0), .int (s1), .ref ((tg this 2))] h := by
  unfold w_X0_sum_b68 at hw
  refine g_callSN (As := [.ref ((tg this 2)), .int (s1), .int (s0)]) (kc := 0) (fr := 0) (lo := 0) (mc := 0) (My := M_X8_put) (dk D_X0_sum 36 rfl) w_595 w_496 w_101 w_497 okD_X8_put (by decide) (Nat.le_of_ble_eq_true rfl) rfl (c_X8_put (tg this 2) 64 (s1) (s0) (hthis.2.2.2) (h) _ hw) kxN (kV (fun h1 hw => ?_))
  refine g_iinc 2 (dk D_X0_sum 37 rfl) rfl (congrArg (fun z => _ + z) ki_1) (by decide) rfl ?_
  refine g_goto (dk D_X0_sum 38 rfl) rfl ?_
  refine g_sub [1, 2, 0, 3] rfl ?_
  exact t_X0_sum_b212 this (v1) ((v3 + (1 : Int32))) (v4) K7 (h1) Q hthis hK7 hw
theorem t_X0_sum_l7 {X : Cx} (this : Nat) (Q : Int32 → Hp → Prop) (K7 : Int64 × Int32 × Int32 × Hp → Prop) (v1 : Int64) (v3 : Int32) (v4 : Int32) (h : Hp) (hthis : LawP this) (hK7 : ∀ s : Int64 × Int32 × Int32 × Hp, K7 s → G X M_X0_sum E_X0_sum (QM X E_X0_sum (QI Q) Qn) 0 7 [(0, .ref (this)), (1, .long (s.1)), (3, .int (s.2.1)), (4, .int (s.2.2.1))] [] (s.2.2.2)) (hw : w_X0_sum_l7 this Q K7 v1 v3 v4 h) : G X M_X0_sum E_X0_sum (QM X E_X0_sum (QI Q) Qn) 0 7 [(0, .ref (this)), (1, .long (v1)), (3, .int (v3)), (4, .int (v4))] [] h := by
  unfold w_X0_sum_l7 at hw
  refine g_iload 3 (dk D_X0_sum 6 rfl) rfl ?_
  refine g_aload_n 0 (dk D_X0_sum 7 rfl) rfl rfl ?_
  refine g_getI 3 (dk D_X0_sum 8 rfl) hthis.1 rfl rfl (by decide) w_256 rfl rfl ?_
  refine g_icmp_ge (dk D_X0_sum 9 rfl) rfl (wif_m hw (fun hw => ?_) (fun hw => ?_))
  · refine g_sub [1] rfl ?_
    exact t_X0_sum_b218 this (v1) (h) Q hthis hw
  · refine g_iload 3 (dk D_X0_sum 10 rfl) rfl ?_
    refine g_aload_n 0 (dk D_X0_sum 11 rfl) rfl rfl ?_
    refine g_getR 0 (t := (tg this 0)) (dk D_X0_sum 12 rfl) hthis.1 rfl rfl (by decide) w_253 rfl rfl rfl ?_
    refine g_alen (dk D_X0_sum 13 rfl) hthis.2.1 ka_500 ?_
    refine g_icmp_ge (dk D_X0_sum 14 rfl) rfl (wif_m hw (fun hw => ?_) (fun hw => ?_))
    · refine g_sub [1] rfl ?_
      exact t_X0_sum_b218 this (v1) (h) Q hthis hw
    · refine g_aload_n 0 (dk D_X0_sum 15 rfl) rfl rfl ?_
      refine g_getR 0 (t := (tg this 0)) (dk D_X0_sum 16 rfl) hthis.1 rfl rfl (by decide) w_253 rfl rfl rfl ?_
      refine g_iload 3 (dk D_X0_sum 17 rfl) rfl ?_
      obtain ⟨hi1, hw⟩ := hw
      refine g_iald (dk D_X0_sum 18 rfl) hthis.2.1 hi1 ?_
      refine g_topi (fun v5_2 ev5_2 => ?_)
      replace hw := hw _ ev5_2
      refine g_istore (dk D_X0_sum 19 rfl) (by decide) rfl ?_
      refine g_iload 0 (dk D_X0_sum 20 rfl) rfl ?_
      refine g_bipush (dk D_X0_sum 21 rfl) kb_m6 ?_
      refine g_icmp_lt (dk D_X0_sum 22 rfl) rfl (wif_m hw (fun hw => ?_) (fun hw => ?_))
      · refine g_iload 0 (dk D_X0_sum 39 rfl) rfl ?_
        refine g_bipush (dk D_X0_sum 40 rfl) kb_m14 ?_
        refine g_icmp_ne (dk D_X0_sum 41 rfl) rfl (wif_m hw (fun hw => ?_) (fun hw => ?_))
        · refine g_iload 0 (dk D_X0_sum 57 rfl) rfl ?_
          refine g_bipush (dk D_X0_sum 58 rfl) kb_m17 ?_
          refine g_icmp_ne (dk D_X0_sum 59 rfl) rfl (wif_m hw (fun hw => ?_) (fun hw => ?_))
          · refine g_iload 0 (dk D_X0_sum 70 rfl) rfl ?_
            refine g_bipush (dk D_X0_sum 71 rfl) kb_m18 ?_
            refine g_icmp_ne (dk D_X0_sum 72 rfl) rfl (wif_m hw (fun hw => ?_) (fun hw => ?_))
            · refine g_iinc 3 (dk D_X0_sum 92 rfl) rfl (congrArg (fun z => _ + z) ki_m1) (by decide) rfl ?_
              refine g_aload_n 2 (dk D_X0_sum 93 rfl) rfl rfl ?_
              refine g_getR 2 (t := (tg this 2)) (dk D_X0_sum 94 rfl) hthis.1 rfl rfl (by decide) w_255 rfl rfl rfl ?_
              refine g_iload_n 0 (dk D_X0_sum 95 rfl) rfl rfl ?_
              refine g_iconst (dk D_X0_sum 96 rfl) ki_1 ?_
              refine g_isub (dk D_X0_sum 97 rfl) ?_
              refine g_iload 1 (dk D_X0_sum 98 rfl) rfl ?_
              refine g_aload_n 2 (dk D_X0_sum 99 rfl) rfl rfl ?_
              refine g_getR 2 (t := (tg this 2)) (dk D_X0_sum 100 rfl) hthis.1 rfl rfl (by decide) w_255 rfl rfl rfl ?_
              refine g_iload_n 0 (dk D_X0_sum 101 rfl) rfl rfl ?_
              refine g_iconst (dk D_X0_sum 102 rfl) ki_1 ?_
              refine g_isub (dk D_X0_sum 103 rfl) ?_
              refine g_callSN (As := [.ref ((tg this 2)), .int (((v3 + (-1 : Int32)) - (1 : Int32)))]) (kc := 0) (fr := 0) (lo := 0) (mc := 0) (My := M_X8_at) (dk D_X0_sum 104 rfl) w_600 w_518 w_101 w_519 okD_X8_at (by decide) (Nat.le_of_ble_eq_true rfl) rfl (c_X8_at (tg this 2) 64 (((v3 + (-1 : Int32)) - (1 : Int32))) (hthis.2.2.2) (h) _ hw) kxN (kIp (fun z3 hw => ?_))
              refine g_aload_n 2 (dk D_X0_sum 105 rfl) rfl rfl ?_
              refine g_getR 2 (t := (tg this 2)) (dk D_X0_sum 106 rfl) hthis.1 rfl rfl (by decide) w_255 rfl rfl rfl ?_
              refine g_iload_n 0 (dk D_X0_sum 107 rfl) rfl rfl ?_
              refine g_callSN (As := [.ref ((tg this 2)), .int ((v3 + (-1 : Int32)))]) (kc := 0) (fr := 0) (lo := 0) (mc := 0) (My := M_X8_at) (dk D_X0_sum 108 rfl) w_600 w_518 w_101 w_519 okD_X8_at (by decide) (Nat.le_of_ble_eq_true rfl) rfl (c_X8_at (tg this 2) 64 ((v3 + (-1 : Int32))) (hthis.2.2.2) (h) _ hw) kxN (kIp (fun z4 hw => ?_))
              refine g_callS (As := [.int (v5_2), .int (z3), .int (z4)]) (kc := 0) (fr := 0) (lo := 0) (mc := 0) (My := M_X0_joined) (dk D_X0_sum 109 rfl) w_601 w_602 w_104 w_603 okD_X0_joined (by decide) (Nat.le_of_ble_eq_true rfl) rfl (c_X0_joined (v5_2) (z3) (z4) (h) _ hw) kxN (kIp (fun z5 hw => ?_))
              refine g_callSN (As := [.ref ((tg this 2)), .int (((v3 + (-1 : Int32)) - (1 : Int32))), .int (z5)]) (kc := 0) (fr := 0) (lo := 0) (mc := 0) (My := M_X8_put) (dk D_X0_sum 110 rfl) w_595 w_496 w_101 w_497 okD_X8_put (by decide) (Nat.le_of_ble_eq_true rfl) rfl (c_X8_put (tg this 2) 64 (((v3 + (-1 : Int32)) - (1 : Int32))) (z5) (hthis.2.2.2) (h) _ hw) kxN (kV (fun h6 hw => ?_))
              refine g_sub [2, 3, 0, 4] rfl ?_
              exact t_X0_sum_b212 this (v1) ((v3 + (-1 : Int32))) (v4) K7 (h6) Q hthis hK7 hw
            · refine g_iinc 3 (dk D_X0_sum 73 rfl) rfl (congrArg (fun z => _ + z) ki_m2) (by decide) rfl ?_
              refine g_lload_n 3 (dk D_X0_sum 74 rfl) rfl rfl ?_
              refine g_aload_n 2 (dk D_X0_sum 75 rfl) rfl rfl ?_
              refine g_getR 2 (t := (tg this 2)) (dk D_X0_sum 76 rfl) hthis.1 rfl rfl (by decide) w_255 rfl rfl rfl ?_
              refine g_iload_n 0 (dk D_X0_sum 77 rfl) rfl rfl ?_
              refine g_iconst (dk D_X0_sum 78 rfl) ki_1 ?_
              refine g_iadd (dk D_X0_sum 79 rfl) ?_
              refine g_callSN (As := [.ref ((tg this 2)), .int (((v3 + (-2 : Int32)) + (1 : Int32)))]) (kc := 0) (fr := 0) (lo := 0) (mc := 0) (My := M_X8_at) (dk D_X0_sum 80 rfl) w_600 w_518 w_101 w_519 okD_X8_at (by decide) (Nat.le_of_ble_eq_true rfl) rfl (c_X8_at (tg this 2) 64 (((v3 + (-2 : Int32)) + (1 : Int32))) (hthis.2.2.2) (h) _ hw) kxN (kIp (fun z7 hw => ?_))
              refine g_if_ne (dk D_X0_sum 81 rfl) rfl (wif_m hw (fun hw => ?_) (fun hw => ?_))
              · refine g_aload_n 2 (dk D_X0_sum 84 rfl) rfl rfl ?_
                refine g_getR 2 (t := (tg this 2)) (dk D_X0_sum 85 rfl) hthis.1 rfl rfl (by decide) w_255 rfl rfl rfl ?_
                refine g_iload_n 0 (dk D_X0_sum 86 rfl) rfl rfl ?_
                refine g_callSN (As := [.ref ((tg this 2)), .int ((v3 + (-2 : Int32)))]) (kc := 0) (fr := 0) (lo := 0) (mc := 0) (My := M_X8_at) (dk D_X0_sum 87 rfl) w_600 w_518 w_101 w_519 okD_X8_at (by decide) (Nat.le_of_ble_eq_true rfl) rfl (c_X8_at (tg this 2) 64 ((v3 + (-2 : Int32))) (hthis.2.2.2) (h) _ hw) kxN (kIp (fun z8 hw => ?_))
                refine g_i2l (dk D_X0_sum 88 rfl) ?_
                refine g_sub [2, 0, 4] rfl ?_
                exact t_X0_sum_b171 this ((v3 + (-2 : Int32))) (v4) ((Int32.toInt64 z8)) (v1) K7 (h) Q hthis hK7 hw
              · refine g_lconst (dk D_X0_sum 82 rfl) kl_0 ?_
                refine g_goto (dk D_X0_sum 83 rfl) rfl ?_
                refine g_sub [2, 0, 4] rfl ?_
                exact t_X0_sum_b171 this ((v3 + (-2 : Int32))) (v4) ((0 : Int64)) (v1) K7 (h) Q hthis hK7 hw
          · refine g_iinc 3 (dk D_X0_sum 60 rfl) rfl (congrArg (fun z => _ + z) ki_m1) (by decide) rfl ?_
            refine g_lload_n 3 (dk D_X0_sum 61 rfl) rfl rfl ?_
            refine g_aload_n 2 (dk D_X0_sum 62 rfl) rfl rfl ?_
            refine g_getR 2 (t := (tg this 2)) (dk D_X0_sum 63 rfl) hthis.1 rfl rfl (by decide) w_255 rfl rfl rfl ?_
            refine g_iload_n 0 (dk D_X0_sum 64 rfl) rfl rfl ?_
            refine g_callSN (As := [.ref ((tg this 2)), .int ((v3 + (-1 : Int32)))]) (kc := 0) (fr := 0) (lo := 0) (mc := 0) (My := M_X8_at) (dk D_X0_sum 65 rfl) w_600 w_518 w_101 w_519 okD_X8_at (by decide) (Nat.le_of_ble_eq_true rfl) rfl (c_X8_at (tg this 2) 64 ((v3 + (-1 : Int32))) (hthis.2.2.2) (h) _ hw) kxN (kIp (fun z9 hw => ?_))
            refine g_i2l (dk D_X0_sum 66 rfl) ?_
            refine g_ladd (dk D_X0_sum 67 rfl) ?_
            refine g_topl (fun v1_10 ev1_10 => ?_)
            replace hw := hw _ ev1_10
            refine g_lstore_n (dk D_X0_sum 68 rfl) rfl (by decide) rfl ?_
            refine g_goto (dk D_X0_sum 69 rfl) rfl ?_
            refine g_sub [3, 0, 1, 4] rfl ?_
            exact t_X0_sum_b212 this (v1_10) ((v3 + (-1 : Int32))) (v4) K7 (h) Q hthis hK7 hw
        · refine g_aload_n 1 (dk D_X0_sum 42 rfl) rfl rfl ?_
          refine g_getR 2 (t := (tg this 2)) (dk D_X0_sum 43 rfl) hthis.1 rfl rfl (by decide) w_255 rfl rfl rfl ?_
          refine g_iload_n 3 (dk D_X0_sum 44 rfl) rfl rfl ?_
          refine g_iconst (dk D_X0_sum 45 rfl) ki_1 ?_
          refine g_isub (dk D_X0_sum 46 rfl) ?_
          refine g_iconst (dk D_X0_sum 47 rfl) ki_1 ?_
          refine g_aload_n 1 (dk D_X0_sum 48 rfl) rfl rfl ?_
          refine g_getR 2 (t := (tg this 2)) (dk D_X0_sum 49 rfl) hthis.1 rfl rfl (by decide) w_255 rfl rfl rfl ?_
          refine g_iload_n 3 (dk D_X0_sum 50 rfl) rfl rfl ?_
          refine g_iconst (dk D_X0_sum 51 rfl) ki_1 ?_
          refine g_isub (dk D_X0_sum 52 rfl) ?_
          refine g_callSN (As := [.ref ((tg this 2)), .int ((v3 - (1 : Int32)))]) (kc := 0) (fr := 0) (lo := 0) (mc := 0) (My := M_X8_at) (dk D_X0_sum 53 rfl) w_600 w_518 w_101 w_519 okD_X8_at (by decide) (Nat.le_of_ble_eq_true rfl) rfl (c_X8_at (tg this 2) 64 ((v3 - (1 : Int32))) (hthis.2.2.2) (h) _ hw) kxN (kIp (fun z11 hw => ?_))
          refine g_isub (dk D_X0_sum 54 rfl) ?_
          refine g_callSN (As := [.ref ((tg this 2)), .int ((v3 - (1 : Int32))), .int (((1 : Int32) - z11))]) (kc := 0) (fr := 0) (lo := 0) (mc := 0) (My := M_X8_put) (dk D_X0_sum 55 rfl) w_595 w_496 w_101 w_497 okD_X8_put (by decide) (Nat.le_of_ble_eq_true rfl) rfl (c_X8_put (tg this 2) 64 ((v3 - (1 : Int32))) (((1 : Int32) - z11)) (hthis.2.2.2) (h) _ hw) kxN (kV (fun h12 hw => ?_))
          refine g_goto (dk D_X0_sum 56 rfl) rfl ?_
          refine g_sub [1, 2, 3, 4] rfl ?_
          exact t_X0_sum_b212 this (v1) (v3) (v4) K7 (h12) Q hthis hK7 hw
      · refine g_aload_n 1 (dk D_X0_sum 23 rfl) rfl rfl ?_
        refine g_getR 2 (t := (tg this 2)) (dk D_X0_sum 24 rfl) hthis.1 rfl rfl (by decide) w_255 rfl rfl rfl ?_
        refine g_iload_n 3 (dk D_X0_sum 25 rfl) rfl rfl ?_
        refine g_iload 0 (dk D_X0_sum 26 rfl) rfl ?_
        refine g_if_lt (dk D_X0_sum 27 rfl) rfl (wif_m hw (fun hw => ?_) (fun hw => ?_))
        · refine g_aload_n 1 (dk D_X0_sum 30 rfl) rfl rfl ?_
          refine g_getR 1 (t := (tg this 1)) (dk D_X0_sum 31 rfl) hthis.1 rfl rfl (by decide) w_254 rfl rfl rfl ?_
          refine g_iconst (dk D_X0_sum 32 rfl) ki_m1 ?_
          refine g_iload 0 (dk D_X0_sum 33 rfl) rfl ?_
          refine g_isub (dk D_X0_sum 34 rfl) ?_
          refine g_callSN (As := [.ref ((tg this 1)), .int (((-1 : Int32) - v5_2))]) (kc := 0) (fr := 0) (lo := 0) (mc := 0) (My := M_X8_at) (dk D_X0_sum 35 rfl) w_600 w_518 w_101 w_519 okD_X8_at (by decide) (Nat.le_of_ble_eq_true rfl) rfl (c_X8_at (tg this 1) 6 (((-1 : Int32) - v5_2)) (hthis.2.2.1) (h) _ hw) kxN (kIp (fun z13 hw => ?_))
          refine g_sub [1, 2, 3, 4] rfl ?_
          exact t_X0_sum_b68 this (v1) (v3) (v4) (z13) (v3) K7 (h) Q hthis hK7 hw
        · refine g_iload 0 (dk D_X0_sum 28 rfl) rfl ?_
          refine g_goto (dk D_X0_sum 29 rfl) rfl ?_
          refine g_sub [1, 2, 3, 4] rfl ?_
          exact t_X0_sum_b68 this (v1) (v3) (v4) (v5_2) (v3) K7 (h) Q hthis hK7 hw
theorem t_X0_sum_b7 {X : Cx} (this : Nat) (Q : Int32 → Hp → Prop) (s : Int64 × Int32 × Int32 × Hp) (hthis : LawP this) (hw : w_X0_sum_b7 this Q s) : G X M_X0_sum E_X0_sum (QM X E_X0_sum (QI Q) Qn) 0 7 [(0, .ref (this)), (1, .long (s.1)), (3, .int (s.2.1)), (4, .int (s.2.2.1))] [] (s.2.2.2) :=
  wl_ind (B := fun K s => w_X0_sum_l7 this Q K (s.1) (s.2.1) (s.2.2.1) (s.2.2.2)) (P := fun s => G X M_X0_sum E_X0_sum (QM X E_X0_sum (QI Q) Qn) 0 7 [(0, .ref (this)), (1, .long (s.1)), (3, .int (s.2.1)), (4, .int (s.2.2.1))] [] (s.2.2.2)) (fun K hK s hw => t_X0_sum_l7 this Q K (s.1) (s.2.1) (s.2.2.1) (s.2.2.2) hthis hK hw) s hw
theorem t_X0_sum {X : Cx} (this : Nat) (h : Hp) (Q : Int32 → Hp → Prop) (hthis : LawP this) (hw : w_X0_sum this h Q) : G X M_X0_sum E_X0_sum (QM X E_X0_sum (QI Q) Qn) 0 0 [(0, .ref (this))] [] h := by
  unfold w_X0_sum at hw
  refine g_lconst (dk D_X0_sum 0 rfl) kl_0 ?_
  refine g_lstore_n (dk D_X0_sum 1 rfl) rfl (by decide) rfl ?_
  refine g_iconst (dk D_X0_sum 2 rfl) ki_0 ?_
  refine g_istore_n (dk D_X0_sum 3 rfl) rfl (by decide) rfl ?_
  refine g_iconst (dk D_X0_sum 4 rfl) ki_0 ?_
  refine g_istore (dk D_X0_sum 5 rfl) (by decide) rfl ?_
  refine g_sub [3, 2, 1, 0] rfl ?_
  exact t_X0_sum_b7 this Q ((0 : Int64), (0 : Int32), (0 : Int32), h) hthis hw
theorem c_X0_sum {X : Cx} (this : Nat) (hthis : LawP this) (h : Hp) (Q : Int32 → Hp → Prop) (hw : w_X0_sum this h Q) : Con X yX0_sum M_X0_sum 1 30 0 [.ref (this)] h (QI Q) Qn :=
  con_of (by decide +kernel) rfl (Nat.le_of_ble_eq_true rfl) (t_X0_sum this h Q hthis hw)
/-! ShadowTolls$Text.start()I -/
abbrev M_X7_start : Mi := (RX7, cX7_start, 1, (some .int))
abbrev E_X7_start : Rm := (0, 0, 0, 0)
def rows_X7_start : List (Nat × Instr × Nat) := [(0, .aload_n 0, 1), (1, .getfield 29, 3), (4, .ifCond .lt 53, 3), (7, .aload_n 0, 1), (8, .getfield 29, 3), (11, .aload_n 0, 1), (12, .getfield 26, 3), (15, .if_icmp .ge 42, 3), (18, .aload_n 0, 1), (19, .getfield 29, 3), (22, .aload_n 0, 1), (23, .getfield 9, 3), (26, .arraylength, 1), (27, .if_icmp .ge 30, 3), (30, .aload_n 0, 1), (31, .getfield 9, 3), (34, .aload_n 0, 1), (35, .getfield 29, 3), (38, .iaload, 1), (39, .bipush 32, 2), (41, .if_icmp .ne 16, 3), (44, .aload_n 0, 1), (45, .dup, 1), (46, .getfield 29, 3), (49, .iconst 1, 1), (50, .iadd, 1), (51, .putfield 29, 3), (54, .goto (-54), 3), (57, .aload_n 0, 1), (58, .getfield 29, 3), (61, .ireturn, 1)]
theorem D_X7_start : dkA cX7_start rows_X7_start := by
  unfold dkA
  decide +kernel
theorem okD_X7_start : okD yX7_start 0 := by
  unfold okD
  decide +kernel
def w_X7_start_l0 (Q : Int32 → Hp → Prop) (K0 : Hp → Prop)  (h : Hp) : Prop :=
  wif ((h 1 3) < 0) (Q (h 1 3) h) (wif ((h 1 2) ≤ (h 1 3)) (Q (h 1 3) h) (wif ((500 : Int32) ≤ (h 1 3)) (Q (h 1 3) h) ((vp_in (h 1 3) 500 ∧ wif (¬ (h 2 (Int32.toNatClampNeg (h 1 3))) = (32 : Int32)) (Q (h 1 3) h) (wlet (hup h 1 3 ((h 1 3) + (1 : Int32))) (fun h2 => K0 (h2)))))))
def w_X7_start_b0 (Q : Int32 → Hp → Prop) (s : Hp) : Prop := wl (fun K s => w_X7_start_l0 Q K s) s
def w_X7_start (h : Hp) (Q : Int32 → Hp → Prop) : Prop :=
  w_X7_start_b0 Q (h)
theorem t_X7_start_l0 {X : Cx} (Q : Int32 → Hp → Prop) (K0 : Hp → Prop)  (h : Hp) (hK0 : ∀ s : Hp, K0 s → G X M_X7_start E_X7_start (QM X E_X7_start (QI Q) Qn) 0 0 [(0, .ref (1))] [] (s)) (hw : w_X7_start_l0 Q K0  h) : G X M_X7_start E_X7_start (QM X E_X7_start (QI Q) Qn) 0 0 [(0, .ref (1))] [] h := by
  unfold w_X7_start_l0 at hw
  refine g_aload_n 0 (dk D_X7_start 0 rfl) rfl rfl ?_
  refine g_getI 3 (dk D_X7_start 1 rfl) kd_1 rfl rfl (by decide) w_142 rfl rfl ?_
  refine g_if_lt (dk D_X7_start 2 rfl) rfl (wif_m hw (fun hw => ?_) (fun hw => ?_))
  · refine g_aload_n 0 (dk D_X7_start 28 rfl) rfl rfl ?_
    refine g_getI 3 (dk D_X7_start 29 rfl) kd_1 rfl rfl (by decide) w_142 rfl rfl ?_
    exact g_iret (dk D_X7_start 30 rfl) rfl ⟨_, rfl, hw⟩
  · refine g_aload_n 0 (dk D_X7_start 3 rfl) rfl rfl ?_
    refine g_getI 3 (dk D_X7_start 4 rfl) kd_1 rfl rfl (by decide) w_142 rfl rfl ?_
    refine g_aload_n 0 (dk D_X7_start 5 rfl) rfl rfl ?_
    refine g_getI 2 (dk D_X7_start 6 rfl) kd_1 rfl rfl (by decide) w_141 rfl rfl ?_
    refine g_icmp_ge (dk D_X7_start 7 rfl) rfl (wif_m hw (fun hw => ?_) (fun hw => ?_))
    · refine g_aload_n 0 (dk D_X7_start 28 rfl) rfl rfl ?_
      refine g_getI 3 (dk D_X7_start 29 rfl) kd_1 rfl rfl (by decide) w_142 rfl rfl ?_
      exact g_iret (dk D_X7_start 30 rfl) rfl ⟨_, rfl, hw⟩
    · refine g_aload_n 0 (dk D_X7_start 8 rfl) rfl rfl ?_
      refine g_getI 3 (dk D_X7_start 9 rfl) kd_1 rfl rfl (by decide) w_142 rfl rfl ?_
      refine g_aload_n 0 (dk D_X7_start 10 rfl) rfl rfl ?_
      refine g_getR 0 (t := 2) (dk D_X7_start 11 rfl) kd_1 rfl rfl (by decide) w_138 rfl rfl rfl ?_
      refine g_alen (dk D_X7_start 12 rfl) kd_2 ka_500 ?_
      refine g_icmp_ge (dk D_X7_start 13 rfl) rfl (wif_m hw (fun hw => ?_) (fun hw => ?_))
      · refine g_aload_n 0 (dk D_X7_start 28 rfl) rfl rfl ?_
        refine g_getI 3 (dk D_X7_start 29 rfl) kd_1 rfl rfl (by decide) w_142 rfl rfl ?_
        exact g_iret (dk D_X7_start 30 rfl) rfl ⟨_, rfl, hw⟩
      · refine g_aload_n 0 (dk D_X7_start 14 rfl) rfl rfl ?_
        refine g_getR 0 (t := 2) (dk D_X7_start 15 rfl) kd_1 rfl rfl (by decide) w_138 rfl rfl rfl ?_
        refine g_aload_n 0 (dk D_X7_start 16 rfl) rfl rfl ?_
        refine g_getI 3 (dk D_X7_start 17 rfl) kd_1 rfl rfl (by decide) w_142 rfl rfl ?_
        obtain ⟨hi1, hw⟩ := hw
        refine g_iald (dk D_X7_start 18 rfl) kd_2 hi1 ?_
        refine g_bipush (dk D_X7_start 19 rfl) kb_32 ?_
        refine g_icmp_ne (dk D_X7_start 20 rfl) rfl (wif_m hw (fun hw => ?_) (fun hw => ?_))
        · refine g_aload_n 0 (dk D_X7_start 28 rfl) rfl rfl ?_
          refine g_getI 3 (dk D_X7_start 29 rfl) kd_1 rfl rfl (by decide) w_142 rfl rfl ?_
          exact g_iret (dk D_X7_start 30 rfl) rfl ⟨_, rfl, hw⟩
        · refine g_aload_n 0 (dk D_X7_start 21 rfl) rfl rfl ?_
          refine g_dup (dk D_X7_start 22 rfl) rfl ?_
          refine g_getI 3 (dk D_X7_start 23 rfl) kd_1 rfl rfl (by decide) w_142 rfl rfl ?_
          refine g_iconst (dk D_X7_start 24 rfl) ki_1 ?_
          refine g_iadd (dk D_X7_start 25 rfl) ?_
          refine g_put 3 (dk D_X7_start 26 rfl) kd_1 rfl rfl (by decide) w_142 rfl tyX7_ok nmX7 rfl (by decide) rfl (fun z => absurd z (by decide)) ?_
          refine g_heap (fun h2 eh2 => ?_)
          replace hw := hw _ eh2
          refine g_goto (dk D_X7_start 27 rfl) rfl ?_
          exact hK0 (h2) hw
theorem t_X7_start_b0 {X : Cx} (Q : Int32 → Hp → Prop) (s : Hp) (hw : w_X7_start_b0 Q s) : G X M_X7_start E_X7_start (QM X E_X7_start (QI Q) Qn) 0 0 [(0, .ref (1))] [] (s) :=
  wl_ind (B := fun K s => w_X7_start_l0 Q K (s)) (P := fun s => G X M_X7_start E_X7_start (QM X E_X7_start (QI Q) Qn) 0 0 [(0, .ref (1))] [] (s)) (fun K hK s hw => t_X7_start_l0 Q K (s) hK hw) s hw
theorem t_X7_start {X : Cx} (h : Hp) (Q : Int32 → Hp → Prop) (hw : w_X7_start h Q) : G X M_X7_start E_X7_start (QM X E_X7_start (QI Q) Qn) 0 0 [(0, .ref (1))] [] h := by
  unfold w_X7_start at hw
  exact t_X7_start_b0 Q (h) hw
theorem c_X7_start {X : Cx} (h : Hp) (Q : Int32 → Hp → Prop) (hw : w_X7_start h Q) : Con X yX7_start M_X7_start 0 0 0 [.ref (1)] h (QI Q) Qn :=
  con_of (by decide +kernel) rfl (Nat.le_of_ble_eq_true rfl) (t_X7_start h Q hw)
/-! ShadowTolls$Text.more()Z -/
abbrev M_X7_more : Mi := (RX7, cX7_more, 1, (some .boolean))
abbrev E_X7_more : Rm := (1, 28, 0, 0)
def rows_X7_more : List (Nat × Instr × Nat) := [(0, .aload_n 0, 1), (1, .invokevirtual 35, 3), (4, .aload_n 0, 1), (5, .getfield 26, 3), (8, .if_icmp .ge 7, 3), (11, .iconst 1, 1), (12, .goto 4, 3), (15, .iconst 0, 1), (16, .ireturn, 1)]
theorem D_X7_more : dkA cX7_more rows_X7_more := by
  unfold dkA
  decide +kernel
theorem okD_X7_more : okD yX7_more 0 := by
  unfold okD
  decide +kernel
def w_X7_more (h : Hp) (Q : Int32 → Hp → Prop) : Prop :=
  w_X7_start  h (fun z1 h2 => Q ((if (h2 1 2) ≤ z1 then (0 : Int32) else (1 : Int32)) &&& 1) h2)
theorem t_X7_more {X : Cx} (h : Hp) (Q : Int32 → Hp → Prop) (hw : w_X7_more h Q) : G X M_X7_more E_X7_more (QM X E_X7_more (QI Q) Qn) 0 0 [(0, .ref (1))] [] h := by
  unfold w_X7_more at hw
  refine g_aload_n 0 (dk D_X7_more 0 rfl) rfl rfl ?_
  refine g_callV (As := []) (kc := 0) (fr := 0) (lo := 0) (mc := 0) (My := M_X7_start) (dk D_X7_more 1 rfl) kd_1 rfl rfl w_788 w_789 w_790 w_102 w_791 okD_X7_start (by decide) (Nat.le_of_ble_eq_true rfl) rfl (c_X7_start (h) _ hw) kxN (kI (fun z1 h2 hw => ?_))
  refine g_aload_n 0 (dk D_X7_more 2 rfl) rfl rfl ?_
  refine g_getI 2 (dk D_X7_more 3 rfl) kd_1 rfl rfl (by decide) w_141 rfl rfl ?_
  have hj : G X M_X7_more E_X7_more (QM X E_X7_more (QI Q) Qn) 0 16 [(0, .ref (1))] [.int ((if (h2 1 2) ≤ z1 then (0 : Int32) else (1 : Int32)))] (h2) := by
    exact g_zret (dk D_X7_more 8 rfl) rfl ⟨_, rfl, hw⟩
  refine g_icmp_ge (dk D_X7_more 4 rfl) rfl ?_
  by_cases c3 : (h2 1 2) ≤ z1
  · rw [if_pos c3] at hj
    refine wif_p c3 ?_
    refine g_iconst (dk D_X7_more 7 rfl) ki_0 ?_
    exact hj
  · rw [if_neg c3] at hj
    refine wif_n c3 ?_
    refine g_iconst (dk D_X7_more 5 rfl) ki_1 ?_
    refine g_goto (dk D_X7_more 6 rfl) rfl ?_
    exact hj
theorem c_X7_more {X : Cx} (h : Hp) (Q : Int32 → Hp → Prop) (hw : w_X7_more h Q) : Con X yX7_more M_X7_more 1 28 0 [.ref (1)] h (QI Q) Qn :=
  con_of (by decide +kernel) rfl (Nat.le_of_ble_eq_true rfl) (t_X7_more h Q hw)
/-! ShadowTolls$Text.isLetter(I)Z -/
abbrev M_X7_isLetter : Mi := (RX7, cX7_isLetter, 1, (some .boolean))
abbrev E_X7_isLetter : Rm := (0, 0, 0, 0)
def rows_X7_isLetter : List (Nat × Instr × Nat) := [(0, .iload_n 0, 1), (1, .bipush 97, 2), (3, .if_icmp .lt 13, 3), (6, .iload_n 0, 1), (7, .bipush 122, 2), (9, .if_icmp .gt 7, 3), (12, .iconst 1, 1), (13, .goto 4, 3), (16, .iconst 0, 1), (17, .ireturn, 1)]
theorem D_X7_isLetter : dkA cX7_isLetter rows_X7_isLetter := by
  unfold dkA
  decide +kernel
theorem okD_X7_isLetter : okD yX7_isLetter 1 := by
  unfold okD
  decide +kernel
def w_X7_isLetter (p0 : Int32) (h : Hp) (Q : Int32 → Prop) : Prop :=
  Q ((if p0 < (97 : Int32) then (0 : Int32) else (if (122 : Int32) < p0 then (0 : Int32) else (1 : Int32))) &&& 1)
theorem t_X7_isLetter {X : Cx} (p0 : Int32) (h : Hp) (Q : Int32 → Prop) (hw : w_X7_isLetter p0 h Q) : G X M_X7_isLetter E_X7_isLetter (QM X E_X7_isLetter (QIp h Q) Qn) 0 0 [(0, .int (p0))] [] h := by
  unfold w_X7_isLetter at hw
  refine g_iload_n 0 (dk D_X7_isLetter 0 rfl) rfl rfl ?_
  refine g_bipush (dk D_X7_isLetter 1 rfl) kb_97 ?_
  have hj : G X M_X7_isLetter E_X7_isLetter (QM X E_X7_isLetter (QIp h Q) Qn) 0 17 [(0, .int (p0))] [.int ((if p0 < (97 : Int32) then (0 : Int32) else (if (122 : Int32) < p0 then (0 : Int32) else (1 : Int32))))] (h) := by
    exact g_zret (dk D_X7_isLetter 9 rfl) rfl ⟨_, rfl, rfl, hw⟩
  refine g_icmp_lt (dk D_X7_isLetter 2 rfl) rfl ?_
  by_cases c2 : p0 < (97 : Int32)
  · rw [if_pos c2] at hj
    refine wif_p c2 ?_
    refine g_iconst (dk D_X7_isLetter 8 rfl) ki_0 ?_
    exact hj
  · rw [if_neg c2] at hj
    refine wif_n c2 ?_
    refine g_iload_n 0 (dk D_X7_isLetter 3 rfl) rfl rfl ?_
    refine g_bipush (dk D_X7_isLetter 4 rfl) kb_122 ?_
    refine g_icmp_gt (dk D_X7_isLetter 5 rfl) rfl ?_
    by_cases c1 : (122 : Int32) < p0
    · rw [if_pos c1] at hj
      refine wif_p c1 ?_
      refine g_iconst (dk D_X7_isLetter 8 rfl) ki_0 ?_
      exact hj
    · rw [if_neg c1] at hj
      refine wif_n c1 ?_
      refine g_iconst (dk D_X7_isLetter 6 rfl) ki_1 ?_
      refine g_goto (dk D_X7_isLetter 7 rfl) rfl ?_
      exact hj
theorem c_X7_isLetter {X : Cx} (p0 : Int32) (h : Hp) (Q : Int32 → Prop) (hw : w_X7_isLetter p0 h Q) : Con X yX7_isLetter M_X7_isLetter 0 0 0 [.int (p0)] h (QIp h Q) Qn :=
  con_of (by decide +kernel) rfl (Nat.le_of_ble_eq_true rfl) (t_X7_isLetter p0 h Q hw)
/-! ShadowTolls$Text.word(Ljava/lang/String;)Z -/
abbrev M_X7_word : Mi := (RX7, cX7_word, 5, (some .boolean))
abbrev E_X7_word : Rm := (6, 200, 0, 0)
def rows_X7_word : List (Nat × Instr × Nat) := [(0, .aload_n 0, 1), (1, .invokevirtual 35, 3), (4, .istore_n 2, 1), (5, .iload_n 2, 1), (6, .istore_n 3, 1), (7, .iload_n 3, 1), (8, .aload_n 0, 1), (9, .getfield 26, 3), (12, .if_icmp .ge 23, 3), (15, .aload_n 0, 1), (16, .getfield 9, 3), (19, .iload_n 3, 1), (20, .invokestatic 39, 3), (23, .invokestatic 51, 3), (26, .ifCond .eq 9, 3), (29, .iinc 3 1, 3), (32, .goto (-25), 3), (35, .iload_n 3, 1), (36, .iload_n 2, 1), (37, .isub, 1), (38, .aload_n 1, 1), (39, .invokevirtual 54, 3), (42, .if_icmp .eq 5, 3), (45, .iconst 0, 1), (46, .ireturn, 1), (47, .iconst 0, 1), (48, .istore 4, 2), (50, .iload 4, 2), (52, .aload_n 1, 1), (53, .invokevirtual 54, 3), (56, .if_icmp .ge 31, 3), (59, .aload_n 0, 1), (60, .getfield 9, 3), (63, .iload_n 2, 1), (64, .iload 4, 2), (66, .iadd, 1), (67, .invokestatic 39, 3), (70, .aload_n 1, 1), (71, .iload 4, 2), (73, .invokevirtual 59, 3), (76, .if_icmp .eq 5, 3), (79, .iconst 0, 1), (80, .ireturn, 1), (81, .iinc 4 1, 3), (84, .goto (-34), 3), (87, .aload_n 0, 1), (88, .iload_n 3, 1), (89, .putfield 29, 3), (92, .iconst 1, 1), (93, .ireturn, 1)]
theorem D_X7_word : dkA cX7_word rows_X7_word := by
  unfold dkA
  decide +kernel
theorem okD_X7_word : okD yX7_word 1 := by
  unfold okD
  decide +kernel
def w_X7_word_l50 (r1 : Nat) (v2 : Int32) (v3 : Int32) (h : Hp) (Q : Int32 → Hp → Prop) (K50 : Int32 → Prop) (v4 : Int32) : Prop :=
  wif ((slen r1) ≤ v4) (wlet (hup h 1 3 v3) (fun h1 => Q ((1 : Int32) &&& 1) h1)) (w_X8_at 2 500 ((v2 + v4)) h (fun z2 => (vp_in v4 (bytL.getD r1 []).length ∧ wif (z2 = (sch r1 (Int32.toNatClampNeg v4))) (K50 ((v4 + (1 : Int32)))) (Q ((0 : Int32) &&& 1) h))))
def w_X7_word_b50 (r1 : Nat) (v2 : Int32) (v3 : Int32) (h : Hp) (Q : Int32 → Hp → Prop) (s : Int32) : Prop := wl (fun K s => w_X7_word_l50 r1 v2 v3 h Q K s) s
def w_X7_word_b35 (r1 : Nat) (v2 : Int32) (v3 : Int32) (h : Hp) (Q : Int32 → Hp → Prop) : Prop :=
  wif ((v3 - v2) = (slen r1)) (w_X7_word_b50 r1 (v2) (v3) (h) Q ((0 : Int32))) (Q ((0 : Int32) &&& 1) h)
def w_X7_word_l7 (r1 : Nat) (v2 : Int32) (h : Hp) (Q : Int32 → Hp → Prop) (K7 : Int32 → Prop) (v3 : Int32) : Prop :=
  wif ((h 1 2) ≤ v3) (w_X7_word_b35 r1 (v2) (v3) (h) Q) (w_X8_at 2 500 (v3) h (fun z1 => w_X7_isLetter (z1) h (fun z2 => wif (z2 = 0) (w_X7_word_b35 r1 (v2) (v3) (h) Q) (K7 ((v3 + (1 : Int32)))))))
def w_X7_word_b7 (r1 : Nat) (v2 : Int32) (h : Hp) (Q : Int32 → Hp → Prop) (s : Int32) : Prop := wl (fun K s => w_X7_word_l7 r1 v2 h Q K s) s
def w_X7_word (r1 : Nat) (h : Hp) (Q : Int32 → Hp → Prop) : Prop :=
  w_X7_start  h (fun z1 h2 => w_X7_word_b7 r1 (z1) (h2) Q (z1))
theorem t_X7_word_l50 {X : Cx} (r1 : Nat) (v2 : Int32) (v3 : Int32) (h : Hp) (Q : Int32 → Hp → Prop) (K50 : Int32 → Prop) (v4 : Int32) (hr1 : r1 < NS) (hK50 : ∀ s : Int32, K50 s → G X M_X7_word E_X7_word (QM X E_X7_word (QI Q) Qn) 0 50 [(0, .ref (1)), (1, .ref (SB + 2 * r1)), (2, .int (v2)), (3, .int (v3)), (4, .int (s))] [] (h)) (hw : w_X7_word_l50 r1 v2 v3 h Q K50 v4) : G X M_X7_word E_X7_word (QM X E_X7_word (QI Q) Qn) 0 50 [(0, .ref (1)), (1, .ref (SB + 2 * r1)), (2, .int (v2)), (3, .int (v3)), (4, .int (v4))] [] h := by
  unfold w_X7_word_l50 at hw
  refine g_iload 4 (dk D_X7_word 27 rfl) rfl ?_
  refine g_aload_n 1 (dk D_X7_word 28 rfl) rfl rfl ?_
  refine g_slen (dk D_X7_word 29 rfl) w_810 hr1 (by decide) (by decide) (Nat.le_of_ble_eq_true rfl) ?_
  refine g_icmp_ge (dk D_X7_word 30 rfl) rfl (wif_m hw (fun hw => ?_) (fun hw => ?_))
  · refine g_aload_n 0 (dk D_X7_word 45 rfl) rfl rfl ?_
    refine g_iload_n 3 (dk D_X7_word 46 rfl) rfl rfl ?_
    refine g_put 3 (dk D_X7_word 47 rfl) kd_1 rfl rfl (by decide) w_142 rfl tyX7_ok nmX7 rfl (by decide) rfl (fun z => absurd z (by decide)) ?_
    refine g_heap (fun h1 eh1 => ?_)
    replace hw := hw _ eh1
    refine g_iconst (dk D_X7_word 48 rfl) ki_1 ?_
    exact g_zret (dk D_X7_word 49 rfl) rfl ⟨_, rfl, hw⟩
  · refine g_aload_n 0 (dk D_X7_word 31 rfl) rfl rfl ?_
    refine g_getR 0 (t := 2) (dk D_X7_word 32 rfl) kd_1 rfl rfl (by decide) w_138 rfl rfl rfl ?_
    refine g_iload_n 2 (dk D_X7_word 33 rfl) rfl rfl ?_
    refine g_iload 4 (dk D_X7_word 34 rfl) rfl ?_
    refine g_iadd (dk D_X7_word 35 rfl) ?_
    refine g_callSN (As := [.ref (2), .int ((v2 + v4))]) (kc := 0) (fr := 0) (lo := 0) (mc := 0) (My := M_X8_at) (dk D_X7_word 36 rfl) w_806 w_518 w_101 w_519 okD_X8_at (by decide) (Nat.le_of_ble_eq_true rfl) rfl (c_X8_at 2 500 ((v2 + v4)) (kd_2) (h) _ hw) kxN (kIp (fun z2 hw => ?_))
    refine g_aload_n 1 (dk D_X7_word 37 rfl) rfl rfl ?_
    refine g_iload 4 (dk D_X7_word 38 rfl) rfl ?_
    obtain ⟨hi3, hw⟩ := hw
    refine g_sch (dk D_X7_word 39 rfl) w_820 hr1 hi3 (by decide) (by decide) (Nat.le_of_ble_eq_true rfl) ?_
    refine g_icmp_eq (dk D_X7_word 40 rfl) rfl (wif_m hw (fun hw => ?_) (fun hw => ?_))
    · refine g_iinc 4 (dk D_X7_word 43 rfl) rfl (congrArg (fun z => _ + z) ki_1) (by decide) rfl ?_
      refine g_goto (dk D_X7_word 44 rfl) rfl ?_
      refine g_sub [1, 2, 3, 4, 0] rfl ?_
      exact hK50 ((v4 + (1 : Int32))) hw
    · refine g_iconst (dk D_X7_word 41 rfl) ki_0 ?_
      exact g_zret (dk D_X7_word 42 rfl) rfl ⟨_, rfl, hw⟩
theorem t_X7_word_b50 {X : Cx} (r1 : Nat) (v2 : Int32) (v3 : Int32) (h : Hp) (Q : Int32 → Hp → Prop) (s : Int32) (hr1 : r1 < NS) (hw : w_X7_word_b50 r1 v2 v3 h Q s) : G X M_X7_word E_X7_word (QM X E_X7_word (QI Q) Qn) 0 50 [(0, .ref (1)), (1, .ref (SB + 2 * r1)), (2, .int (v2)), (3, .int (v3)), (4, .int (s))] [] (h) :=
  wl_ind (B := fun K s => w_X7_word_l50 r1 v2 v3 h Q K (s)) (P := fun s => G X M_X7_word E_X7_word (QM X E_X7_word (QI Q) Qn) 0 50 [(0, .ref (1)), (1, .ref (SB + 2 * r1)), (2, .int (v2)), (3, .int (v3)), (4, .int (s))] [] (h)) (fun K hK s hw => t_X7_word_l50 r1 v2 v3 h Q K (s) hr1 hK hw) s hw
theorem t_X7_word_b35 {X : Cx} (r1 : Nat) (v2 : Int32) (v3 : Int32) (h : Hp) (Q : Int32 → Hp → Prop) (hr1 : r1 < NS) (hw : w_X7_word_b35 r1 v2 v3 h Q) : G X M_X7_word E_X7_word (QM X E_X7_word (QI Q) Qn) 0 35 [(0, .ref (1)), (1, .ref (SB + 2 * r1)), (2, .int (v2)), (3, .int (v3))] [] h := by
  unfold w_X7_word_b35 at hw
  refine g_iload_n 3 (dk D_X7_word 17 rfl) rfl rfl ?_
  refine g_iload_n 2 (dk D_X7_word 18 rfl) rfl rfl ?_
  refine g_isub (dk D_X7_word 19 rfl) ?_
  refine g_aload_n 1 (dk D_X7_word 20 rfl) rfl rfl ?_
  refine g_slen (dk D_X7_word 21 rfl) w_810 hr1 (by decide) (by decide) (Nat.le_of_ble_eq_true rfl) ?_
  refine g_icmp_eq (dk D_X7_word 22 rfl) rfl (wif_m hw (fun hw => ?_) (fun hw => ?_))
  · refine g_iconst (dk D_X7_word 25 rfl) ki_0 ?_
    refine g_istore (dk D_X7_word 26 rfl) (by decide) rfl ?_
    refine g_sub [1, 2, 3, 4, 0] rfl ?_
    exact t_X7_word_b50 r1 (v2) (v3) (h) Q ((0 : Int32)) hr1 hw
  · refine g_iconst (dk D_X7_word 23 rfl) ki_0 ?_
    exact g_zret (dk D_X7_word 24 rfl) rfl ⟨_, rfl, hw⟩
theorem t_X7_word_l7 {X : Cx} (r1 : Nat) (v2 : Int32) (h : Hp) (Q : Int32 → Hp → Prop) (K7 : Int32 → Prop) (v3 : Int32) (hr1 : r1 < NS) (hK7 : ∀ s : Int32, K7 s → G X M_X7_word E_X7_word (QM X E_X7_word (QI Q) Qn) 0 7 [(0, .ref (1)), (1, .ref (SB + 2 * r1)), (2, .int (v2)), (3, .int (s))] [] (h)) (hw : w_X7_word_l7 r1 v2 h Q K7 v3) : G X M_X7_word E_X7_word (QM X E_X7_word (QI Q) Qn) 0 7 [(0, .ref (1)), (1, .ref (SB + 2 * r1)), (2, .int (v2)), (3, .int (v3))] [] h := by
  unfold w_X7_word_l7 at hw
  refine g_iload_n 3 (dk D_X7_word 5 rfl) rfl rfl ?_
  refine g_aload_n 0 (dk D_X7_word 6 rfl) rfl rfl ?_
  refine g_getI 2 (dk D_X7_word 7 rfl) kd_1 rfl rfl (by decide) w_141 rfl rfl ?_
  refine g_icmp_ge (dk D_X7_word 8 rfl) rfl (wif_m hw (fun hw => ?_) (fun hw => ?_))
  · exact t_X7_word_b35 r1 (v2) (v3) (h) Q hr1 hw
  · refine g_aload_n 0 (dk D_X7_word 9 rfl) rfl rfl ?_
    refine g_getR 0 (t := 2) (dk D_X7_word 10 rfl) kd_1 rfl rfl (by decide) w_138 rfl rfl rfl ?_
    refine g_iload_n 3 (dk D_X7_word 11 rfl) rfl rfl ?_
    refine g_callSN (As := [.ref (2), .int (v3)]) (kc := 0) (fr := 0) (lo := 0) (mc := 0) (My := M_X8_at) (dk D_X7_word 12 rfl) w_806 w_518 w_101 w_519 okD_X8_at (by decide) (Nat.le_of_ble_eq_true rfl) rfl (c_X8_at 2 500 (v3) (kd_2) (h) _ hw) kxN (kIp (fun z1 hw => ?_))
    refine g_callS (As := [.int (z1)]) (kc := 0) (fr := 0) (lo := 0) (mc := 0) (My := M_X7_isLetter) (dk D_X7_word 13 rfl) w_807 w_808 w_102 w_809 okD_X7_isLetter (by decide) (Nat.le_of_ble_eq_true rfl) rfl (c_X7_isLetter (z1) (h) _ hw) kxN (kIp (fun z2 hw => ?_))
    refine g_if_eq (dk D_X7_word 14 rfl) rfl (wif_m hw (fun hw => ?_) (fun hw => ?_))
    · exact t_X7_word_b35 r1 (v2) (v3) (h) Q hr1 hw
    · refine g_iinc 3 (dk D_X7_word 15 rfl) rfl (congrArg (fun z => _ + z) ki_1) (by decide) rfl ?_
      refine g_goto (dk D_X7_word 16 rfl) rfl ?_
      refine g_sub [1, 2, 3, 0] rfl ?_
      exact hK7 ((v3 + (1 : Int32))) hw
theorem t_X7_word_b7 {X : Cx} (r1 : Nat) (v2 : Int32) (h : Hp) (Q : Int32 → Hp → Prop) (s : Int32) (hr1 : r1 < NS) (hw : w_X7_word_b7 r1 v2 h Q s) : G X M_X7_word E_X7_word (QM X E_X7_word (QI Q) Qn) 0 7 [(0, .ref (1)), (1, .ref (SB + 2 * r1)), (2, .int (v2)), (3, .int (s))] [] (h) :=
  wl_ind (B := fun K s => w_X7_word_l7 r1 v2 h Q K (s)) (P := fun s => G X M_X7_word E_X7_word (QM X E_X7_word (QI Q) Qn) 0 7 [(0, .ref (1)), (1, .ref (SB + 2 * r1)), (2, .int (v2)), (3, .int (s))] [] (h)) (fun K hK s hw => t_X7_word_l7 r1 v2 h Q K (s) hr1 hK hw) s hw
theorem t_X7_word {X : Cx} (r1 : Nat) (h : Hp) (Q : Int32 → Hp → Prop) (hr1 : r1 < NS) (hw : w_X7_word r1 h Q) : G X M_X7_word E_X7_word (QM X E_X7_word (QI Q) Qn) 0 0 [(0, .ref (1)), (1, .ref (SB + 2 * r1))] [] h := by
  unfold w_X7_word at hw
  refine g_aload_n 0 (dk D_X7_word 0 rfl) rfl rfl ?_
  refine g_callV (As := []) (kc := 0) (fr := 0) (lo := 0) (mc := 0) (My := M_X7_start) (dk D_X7_word 1 rfl) kd_1 rfl rfl w_788 w_789 w_790 w_102 w_791 okD_X7_start (by decide) (Nat.le_of_ble_eq_true rfl) rfl (c_X7_start (h) _ hw) kxN (kI (fun z1 h2 hw => ?_))
  refine g_istore_n (dk D_X7_word 2 rfl) rfl (by decide) rfl ?_
  refine g_iload_n 0 (dk D_X7_word 3 rfl) rfl rfl ?_
  refine g_istore_n (dk D_X7_word 4 rfl) rfl (by decide) rfl ?_
  refine g_sub [2, 3, 1, 0] rfl ?_
  exact t_X7_word_b7 r1 (z1) (h2) Q (z1) hr1 hw
theorem c_X7_word {X : Cx} (r1 : Nat) (hr1 : r1 < NS) (h : Hp) (Q : Int32 → Hp → Prop) (hw : w_X7_word r1 h Q) : Con X yX7_word M_X7_word 6 200 0 [.ref (1), .ref (SB + 2 * r1)] h (QI Q) Qn :=
  con_of (by decide +kernel) rfl (Nat.le_of_ble_eq_true rfl) (t_X7_word r1 h Q hr1 hw)
/-! ShadowTolls$Text.fail(II)Z -/
abbrev M_X7_fail : Mi := (RX7, cX7_fail, 3, (some .boolean))
abbrev E_X7_fail : Rm := (0, 0, 0, 0)
def rows_X7_fail : List (Nat × Instr × Nat) := [(0, .aload_n 0, 1), (1, .iload_n 1, 1), (2, .putfield 32, 3), (5, .aload_n 0, 1), (6, .iload_n 2, 1), (7, .putfield 15, 3), (10, .iconst 0, 1), (11, .ireturn, 1)]
theorem D_X7_fail : dkA cX7_fail rows_X7_fail := by
  unfold dkA
  decide +kernel
theorem okD_X7_fail : okD yX7_fail 2 := by
  unfold okD
  decide +kernel
def w_X7_fail (p1 : Int32) (p2 : Int32) (h : Hp) (Q : Int32 → Hp → Prop) : Prop :=
  wlet (hup h 1 4 p1) (fun h1 => wlet (hup h1 1 5 p2) (fun h2 => Q ((0 : Int32) &&& 1) h2))
theorem t_X7_fail {X : Cx} (p1 : Int32) (p2 : Int32) (h : Hp) (Q : Int32 → Hp → Prop) (hw : w_X7_fail p1 p2 h Q) : G X M_X7_fail E_X7_fail (QM X E_X7_fail (QI Q) Qn) 0 0 [(0, .ref (1)), (1, .int (p1)), (2, .int (p2))] [] h := by
  unfold w_X7_fail at hw
  refine g_aload_n 0 (dk D_X7_fail 0 rfl) rfl rfl ?_
  refine g_iload_n 1 (dk D_X7_fail 1 rfl) rfl rfl ?_
  refine g_put 4 (dk D_X7_fail 2 rfl) kd_1 rfl rfl (by decide) w_144 rfl tyX7_ok nmX7 rfl (by decide) rfl (fun z => absurd z (by decide)) ?_
  refine g_heap (fun h1 eh1 => ?_)
  replace hw := hw _ eh1
  refine g_aload_n 0 (dk D_X7_fail 3 rfl) rfl rfl ?_
  refine g_iload_n 2 (dk D_X7_fail 4 rfl) rfl rfl ?_
  refine g_put 5 (dk D_X7_fail 5 rfl) kd_1 rfl rfl (by decide) w_145 rfl tyX7_ok nmX7 rfl (by decide) rfl (fun z => absurd z (by decide)) ?_
  refine g_heap (fun h2 eh2 => ?_)
  replace hw := hw _ eh2
  refine g_iconst (dk D_X7_fail 6 rfl) ki_0 ?_
  exact g_zret (dk D_X7_fail 7 rfl) rfl ⟨_, rfl, hw⟩
theorem c_X7_fail {X : Cx} (p1 : Int32) (p2 : Int32) (h : Hp) (Q : Int32 → Hp → Prop) (hw : w_X7_fail p1 p2 h Q) : Con X yX7_fail M_X7_fail 0 0 0 [.ref (1), .int (p1), .int (p2)] h (QI Q) Qn :=
  con_of (by decide +kernel) rfl (Nat.le_of_ble_eq_true rfl) (t_X7_fail p1 p2 h Q hw)
/-! ShadowTolls$Text.sign(I)Z -/
abbrev M_X7_sign : Mi := (RX7, cX7_sign, 3, (some .boolean))
abbrev E_X7_sign : Rm := (1, 29, 0, 0)
def rows_X7_sign : List (Nat × Instr × Nat) := [(0, .aload_n 0, 1), (1, .invokevirtual 35, 3), (4, .istore_n 2, 1), (5, .iload_n 2, 1), (6, .aload_n 0, 1), (7, .getfield 26, 3), (10, .if_icmp .ge 15, 3), (13, .aload_n 0, 1), (14, .getfield 9, 3), (17, .iload_n 2, 1), (18, .invokestatic 39, 3), (21, .iload_n 1, 1), (22, .if_icmp .eq 5, 3), (25, .iconst 0, 1), (26, .ireturn, 1), (27, .aload_n 0, 1), (28, .iload_n 2, 1), (29, .iconst 1, 1), (30, .iadd, 1), (31, .putfield 29, 3), (34, .iconst 1, 1), (35, .ireturn, 1)]
theorem D_X7_sign : dkA cX7_sign rows_X7_sign := by
  unfold dkA
  decide +kernel
theorem okD_X7_sign : okD yX7_sign 1 := by
  unfold okD
  decide +kernel
def w_X7_sign (p1 : Int32) (h : Hp) (Q : Int32 → Hp → Prop) : Prop :=
  w_X7_start  h (fun z1 h2 => wif ((h2 1 2) ≤ z1) (Q ((0 : Int32) &&& 1) h2) (w_X8_at 2 500 (z1) h2 (fun z3 => wif (z3 = p1) (wlet (hup h2 1 3 (z1 + (1 : Int32))) (fun h4 => Q ((1 : Int32) &&& 1) h4)) (Q ((0 : Int32) &&& 1) h2))))
theorem t_X7_sign {X : Cx} (p1 : Int32) (h : Hp) (Q : Int32 → Hp → Prop) (hw : w_X7_sign p1 h Q) : G X M_X7_sign E_X7_sign (QM X E_X7_sign (QI Q) Qn) 0 0 [(0, .ref (1)), (1, .int (p1))] [] h := by
  unfold w_X7_sign at hw
  refine g_aload_n 0 (dk D_X7_sign 0 rfl) rfl rfl ?_
  refine g_callV (As := []) (kc := 0) (fr := 0) (lo := 0) (mc := 0) (My := M_X7_start) (dk D_X7_sign 1 rfl) kd_1 rfl rfl w_788 w_789 w_790 w_102 w_791 okD_X7_start (by decide) (Nat.le_of_ble_eq_true rfl) rfl (c_X7_start (h) _ hw) kxN (kI (fun z1 h2 hw => ?_))
  refine g_istore_n (dk D_X7_sign 2 rfl) rfl (by decide) rfl ?_
  refine g_iload_n 0 (dk D_X7_sign 3 rfl) rfl rfl ?_
  refine g_aload_n 1 (dk D_X7_sign 4 rfl) rfl rfl ?_
  refine g_getI 2 (dk D_X7_sign 5 rfl) kd_1 rfl rfl (by decide) w_141 rfl rfl ?_
  refine g_icmp_ge (dk D_X7_sign 6 rfl) rfl (wif_m hw (fun hw => ?_) (fun hw => ?_))
  · refine g_iconst (dk D_X7_sign 13 rfl) ki_0 ?_
    exact g_zret (dk D_X7_sign 14 rfl) rfl ⟨_, rfl, hw⟩
  · refine g_aload_n 1 (dk D_X7_sign 7 rfl) rfl rfl ?_
    refine g_getR 0 (t := 2) (dk D_X7_sign 8 rfl) kd_1 rfl rfl (by decide) w_138 rfl rfl rfl ?_
    refine g_iload_n 0 (dk D_X7_sign 9 rfl) rfl rfl ?_
    refine g_callSN (As := [.ref (2), .int (z1)]) (kc := 0) (fr := 0) (lo := 0) (mc := 0) (My := M_X8_at) (dk D_X7_sign 10 rfl) w_806 w_518 w_101 w_519 okD_X8_at (by decide) (Nat.le_of_ble_eq_true rfl) rfl (c_X8_at 2 500 (z1) (kd_2) (h2) _ hw) kxN (kIp (fun z3 hw => ?_))
    refine g_iload_n 2 (dk D_X7_sign 11 rfl) rfl rfl ?_
    refine g_icmp_eq (dk D_X7_sign 12 rfl) rfl (wif_m hw (fun hw => ?_) (fun hw => ?_))
    · refine g_aload_n 1 (dk D_X7_sign 15 rfl) rfl rfl ?_
      refine g_iload_n 0 (dk D_X7_sign 16 rfl) rfl rfl ?_
      refine g_iconst (dk D_X7_sign 17 rfl) ki_1 ?_
      refine g_iadd (dk D_X7_sign 18 rfl) ?_
      refine g_put 3 (dk D_X7_sign 19 rfl) kd_1 rfl rfl (by decide) w_142 rfl tyX7_ok nmX7 rfl (by decide) rfl (fun z => absurd z (by decide)) ?_
      refine g_heap (fun h4 eh4 => ?_)
      replace hw := hw _ eh4
      refine g_iconst (dk D_X7_sign 20 rfl) ki_1 ?_
      exact g_zret (dk D_X7_sign 21 rfl) rfl ⟨_, rfl, hw⟩
    · refine g_iconst (dk D_X7_sign 13 rfl) ki_0 ?_
      exact g_zret (dk D_X7_sign 14 rfl) rfl ⟨_, rfl, hw⟩
theorem c_X7_sign {X : Cx} (p1 : Int32) (h : Hp) (Q : Int32 → Hp → Prop) (hw : w_X7_sign p1 h Q) : Con X yX7_sign M_X7_sign 1 29 0 [.ref (1), .int (p1)] h (QI Q) Qn :=
  con_of (by decide +kernel) rfl (Nat.le_of_ble_eq_true rfl) (t_X7_sign p1 h Q hw)
/-! ShadowTolls$Text.must(I)Z -/
abbrev M_X7_must : Mi := (RX7, cX7_must, 2, (some .boolean))
abbrev E_X7_must : Rm := (2, 59, 0, 0)
def rows_X7_must : List (Nat × Instr × Nat) := [(0, .aload_n 0, 1), (1, .iload_n 1, 1), (2, .invokevirtual 43, 3), (5, .ifCond .ne 15, 3), (8, .aload_n 0, 1), (9, .iconst 1, 1), (10, .aload_n 0, 1), (11, .getfield 29, 3), (14, .invokevirtual 47, 3), (17, .ifCond .eq 7, 3), (20, .iconst 1, 1), (21, .goto 4, 3), (24, .iconst 0, 1), (25, .ireturn, 1)]
theorem D_X7_must : dkA cX7_must rows_X7_must := by
  unfold dkA
  decide +kernel
theorem okD_X7_must : okD yX7_must 1 := by
  unfold okD
  decide +kernel
def w_X7_must_b20 (p1 : Int32) (h : Hp) (Q : Int32 → Hp → Prop) : Prop :=
  Q ((1 : Int32) &&& 1) h
def w_X7_must (p1 : Int32) (h : Hp) (Q : Int32 → Hp → Prop) : Prop :=
  w_X7_sign (p1) h (fun z1 h2 => wif (¬ z1 = 0) (w_X7_must_b20 p1 (h2) Q) (w_X7_fail ((1 : Int32)) ((h2 1 3)) h2 (fun z3 h4 => Q ((if z3 = 0 then (0 : Int32) else (1 : Int32)) &&& 1) h4)))
theorem t_X7_must_b20 {X : Cx} (p1 : Int32) (h : Hp) (Q : Int32 → Hp → Prop) (hw : w_X7_must_b20 p1 h Q) : G X M_X7_must E_X7_must (QM X E_X7_must (QI Q) Qn) 0 20 [] [] h := by
  unfold w_X7_must_b20 at hw
  refine g_iconst (dk D_X7_must 10 rfl) ki_1 ?_
  refine g_goto (dk D_X7_must 11 rfl) rfl ?_
  exact g_zret (dk D_X7_must 13 rfl) rfl ⟨_, rfl, hw⟩
theorem t_X7_must {X : Cx} (p1 : Int32) (h : Hp) (Q : Int32 → Hp → Prop) (hw : w_X7_must p1 h Q) : G X M_X7_must E_X7_must (QM X E_X7_must (QI Q) Qn) 0 0 [(0, .ref (1)), (1, .int (p1))] [] h := by
  unfold w_X7_must at hw
  refine g_aload_n 0 (dk D_X7_must 0 rfl) rfl rfl ?_
  refine g_iload_n 1 (dk D_X7_must 1 rfl) rfl rfl ?_
  refine g_callV (As := [.int (p1)]) (kc := 0) (fr := 1) (lo := 29) (mc := 0) (My := M_X7_sign) (dk D_X7_must 2 rfl) kd_1 rfl rfl w_923 w_924 w_925 w_102 w_926 okD_X7_sign (by decide) (Nat.le_of_ble_eq_true rfl) rfl (c_X7_sign (p1) (h) _ hw) kxN (kI (fun z1 h2 hw => ?_))
  refine g_if_ne (dk D_X7_must 3 rfl) rfl (wif_m hw (fun hw => ?_) (fun hw => ?_))
  · refine g_sub [] rfl ?_
    exact t_X7_must_b20 p1 (h2) Q hw
  · refine g_aload_n 0 (dk D_X7_must 4 rfl) rfl rfl ?_
    refine g_iconst (dk D_X7_must 5 rfl) ki_1 ?_
    refine g_aload_n 0 (dk D_X7_must 6 rfl) rfl rfl ?_
    refine g_getI 3 (dk D_X7_must 7 rfl) kd_1 rfl rfl (by decide) w_142 rfl rfl ?_
    refine g_callV (As := [.int ((1 : Int32)), .int ((h2 1 3))]) (kc := 0) (fr := 0) (lo := 0) (mc := 0) (My := M_X7_fail) (dk D_X7_must 8 rfl) kd_1 rfl rfl w_889 w_870 w_871 w_102 w_872 okD_X7_fail (by decide) (Nat.le_of_ble_eq_true rfl) rfl (c_X7_fail ((1 : Int32)) ((h2 1 3)) (h2) _ hw) kxN (kI (fun z3 h4 hw => ?_))
    have hj : G X M_X7_must E_X7_must (QM X E_X7_must (QI Q) Qn) 0 25 [(0, .ref (1)), (1, .int (p1))] [.int ((if z3 = 0 then (0 : Int32) else (1 : Int32)))] (h4) := by
      exact g_zret (dk D_X7_must 13 rfl) rfl ⟨_, rfl, hw⟩
    refine g_if_eq (dk D_X7_must 9 rfl) rfl ?_
    by_cases c5 : z3 = 0
    · rw [if_pos c5] at hj
      refine wif_p c5 ?_
      refine g_iconst (dk D_X7_must 12 rfl) ki_0 ?_
      exact hj
    · rw [if_neg c5] at hj
      refine wif_n c5 ?_
      refine g_iconst (dk D_X7_must 10 rfl) ki_1 ?_
      refine g_goto (dk D_X7_must 11 rfl) rfl ?_
      exact hj
theorem c_X7_must {X : Cx} (p1 : Int32) (h : Hp) (Q : Int32 → Hp → Prop) (hw : w_X7_must p1 h Q) : Con X yX7_must M_X7_must 2 59 0 [.ref (1), .int (p1)] h (QI Q) Qn :=
  con_of (by decide +kernel) rfl (Nat.le_of_ble_eq_true rfl) (t_X7_must p1 h Q hw)
/-! ShadowTolls$Text.isDigit(I)Z -/
abbrev M_X7_isDigit : Mi := (RX7, cX7_isDigit, 1, (some .boolean))
abbrev E_X7_isDigit : Rm := (0, 0, 0, 0)
def rows_X7_isDigit : List (Nat × Instr × Nat) := [(0, .iload_n 0, 1), (1, .bipush 48, 2), (3, .if_icmp .lt 13, 3), (6, .iload_n 0, 1), (7, .bipush 57, 2), (9, .if_icmp .gt 7, 3), (12, .iconst 1, 1), (13, .goto 4, 3), (16, .iconst 0, 1), (17, .ireturn, 1)]
theorem D_X7_isDigit : dkA cX7_isDigit rows_X7_isDigit := by
  unfold dkA
  decide +kernel
theorem okD_X7_isDigit : okD yX7_isDigit 1 := by
  unfold okD
  decide +kernel
def w_X7_isDigit (p0 : Int32) (h : Hp) (Q : Int32 → Prop) : Prop :=
  Q ((if p0 < (48 : Int32) then (0 : Int32) else (if (57 : Int32) < p0 then (0 : Int32) else (1 : Int32))) &&& 1)
theorem t_X7_isDigit {X : Cx} (p0 : Int32) (h : Hp) (Q : Int32 → Prop) (hw : w_X7_isDigit p0 h Q) : G X M_X7_isDigit E_X7_isDigit (QM X E_X7_isDigit (QIp h Q) Qn) 0 0 [(0, .int (p0))] [] h := by
  unfold w_X7_isDigit at hw
  refine g_iload_n 0 (dk D_X7_isDigit 0 rfl) rfl rfl ?_
  refine g_bipush (dk D_X7_isDigit 1 rfl) kb_48 ?_
  have hj : G X M_X7_isDigit E_X7_isDigit (QM X E_X7_isDigit (QIp h Q) Qn) 0 17 [(0, .int (p0))] [.int ((if p0 < (48 : Int32) then (0 : Int32) else (if (57 : Int32) < p0 then (0 : Int32) else (1 : Int32))))] (h) := by
    exact g_zret (dk D_X7_isDigit 9 rfl) rfl ⟨_, rfl, rfl, hw⟩
  refine g_icmp_lt (dk D_X7_isDigit 2 rfl) rfl ?_
  by_cases c2 : p0 < (48 : Int32)
  · rw [if_pos c2] at hj
    refine wif_p c2 ?_
    refine g_iconst (dk D_X7_isDigit 8 rfl) ki_0 ?_
    exact hj
  · rw [if_neg c2] at hj
    refine wif_n c2 ?_
    refine g_iload_n 0 (dk D_X7_isDigit 3 rfl) rfl rfl ?_
    refine g_bipush (dk D_X7_isDigit 4 rfl) kb_57 ?_
    refine g_icmp_gt (dk D_X7_isDigit 5 rfl) rfl ?_
    by_cases c1 : (57 : Int32) < p0
    · rw [if_pos c1] at hj
      refine wif_p c1 ?_
      refine g_iconst (dk D_X7_isDigit 8 rfl) ki_0 ?_
      exact hj
    · rw [if_neg c1] at hj
      refine wif_n c1 ?_
      refine g_iconst (dk D_X7_isDigit 6 rfl) ki_1 ?_
      refine g_goto (dk D_X7_isDigit 7 rfl) rfl ?_
      exact hj
theorem c_X7_isDigit {X : Cx} (p0 : Int32) (h : Hp) (Q : Int32 → Prop) (hw : w_X7_isDigit p0 h Q) : Con X yX7_isDigit M_X7_isDigit 0 0 0 [.int (p0)] h (QIp h Q) Qn :=
  con_of (by decide +kernel) rfl (Nat.le_of_ble_eq_true rfl) (t_X7_isDigit p0 h Q hw)
/-! ShadowTolls$Text.number(II)I -/
abbrev M_X7_number : Mi := (RX7, cX7_number, 5, (some .int))
abbrev E_X7_number : Rm := (1, 30, 0, 0)
def rows_X7_number : List (Nat × Instr × Nat) := [(0, .aload_n 0, 1), (1, .invokevirtual 35, 3), (4, .istore_n 3, 1), (5, .iconst 0, 1), (6, .istore 4, 2), (8, .aload_n 0, 1), (9, .getfield 29, 3), (12, .aload_n 0, 1), (13, .getfield 26, 3), (16, .if_icmp .ge 62, 3), (19, .aload_n 0, 1), (20, .getfield 9, 3), (23, .aload_n 0, 1), (24, .getfield 29, 3), (27, .invokestatic 39, 3), (30, .invokestatic 63, 3), (33, .ifCond .eq 45, 3), (36, .iload 4, 2), (38, .ldc 66, 2), (40, .if_icmp .ge 25, 3), (43, .iload 4, 2), (45, .bipush 10, 2), (47, .imul, 1), (48, .aload_n 0, 1), (49, .getfield 9, 3), (52, .aload_n 0, 1), (53, .getfield 29, 3), (56, .invokestatic 39, 3), (59, .iadd, 1), (60, .bipush 48, 2), (62, .isub, 1), (63, .istore 4, 2), (65, .aload_n 0, 1), (66, .dup, 1), (67, .getfield 29, 3), (70, .iconst 1, 1), (71, .iadd, 1), (72, .putfield 29, 3), (75, .goto (-67), 3), (78, .aload_n 0, 1), (79, .getfield 29, 3), (82, .iload_n 3, 1), (83, .if_icmp .ne 12, 3), (86, .aload_n 0, 1), (87, .iconst 1, 1), (88, .iload_n 3, 1), (89, .invokevirtual 47, 3), (92, .pop, 1), (93, .iconst (-1), 1), (94, .ireturn, 1), (95, .iload 4, 2), (97, .iload_n 1, 1), (98, .if_icmp .lt 9, 3), (101, .iload 4, 2), (103, .iload_n 2, 1), (104, .if_icmp .le 12, 3), (107, .aload_n 0, 1), (108, .iconst 2, 1), (109, .iload_n 3, 1), (110, .invokevirtual 47, 3), (113, .pop, 1), (114, .iconst (-1), 1), (115, .ireturn, 1), (116, .iload 4, 2), (118, .ireturn, 1)]
theorem D_X7_number : dkA cX7_number rows_X7_number := by
  unfold dkA
  decide +kernel
theorem okD_X7_number : okD yX7_number 2 := by
  unfold okD
  decide +kernel
def w_X7_number_b107 (p1 : Int32) (p2 : Int32) (v3 : Int32) (h : Hp) (Q : Int32 → Hp → Prop) : Prop :=
  w_X7_fail ((2 : Int32)) (v3) h (fun z1 h2 => Q (-1 : Int32) h2)
def w_X7_number_b78 (p1 : Int32) (p2 : Int32) (v3 : Int32) (v4 : Int32) (h : Hp) (Q : Int32 → Hp → Prop) : Prop :=
  wif (¬ (h 1 3) = v3) (wif (v4 < p1) (w_X7_number_b107 p1 p2 (v3) (h) Q) (wif (v4 ≤ p2) (Q v4 h) (w_X7_number_b107 p1 p2 (v3) (h) Q))) (w_X7_fail ((1 : Int32)) (v3) h (fun z1 h2 => Q (-1 : Int32) h2))
def w_X7_number_b65 (p1 : Int32) (p2 : Int32) (v3 : Int32) (v4 : Int32) (K8 : Int32 × Hp → Prop) (h : Hp) (Q : Int32 → Hp → Prop) : Prop :=
  wlet (hup h 1 3 ((h 1 3) + (1 : Int32))) (fun h1 => K8 (v4, h1))
def w_X7_number_l8 (p1 : Int32) (p2 : Int32) (v3 : Int32) (Q : Int32 → Hp → Prop) (K8 : Int32 × Hp → Prop) (v4 : Int32) (h : Hp) : Prop :=
  wif ((h 1 2) ≤ (h 1 3)) (w_X7_number_b78 p1 p2 (v3) (v4) (h) Q) (w_X8_at 2 500 ((h 1 3)) h (fun z1 => w_X7_isDigit (z1) h (fun z2 => wif (z2 = 0) (w_X7_number_b78 p1 p2 (v3) (v4) (h) Q) (wif ((100000 : Int32) ≤ v4) (w_X7_number_b65 p1 p2 (v3) (v4) K8 (h) Q) (w_X8_at 2 500 ((h 1 3)) h (fun z3 => wlet ((((v4 * (10 : Int32)) + z3) - (48 : Int32))) (fun v4_4 => w_X7_number_b65 p1 p2 (v3) (v4_4) K8 (h) Q)))))))
def w_X7_number_b8 (p1 : Int32) (p2 : Int32) (v3 : Int32) (Q : Int32 → Hp → Prop) (s : Int32 × Hp) : Prop := wl (fun K s => w_X7_number_l8 p1 p2 v3 Q K s.1 s.2) s
def w_X7_number (p1 : Int32) (p2 : Int32) (h : Hp) (Q : Int32 → Hp → Prop) : Prop :=
  w_X7_start  h (fun z1 h2 => w_X7_number_b8 p1 p2 (z1) Q ((0 : Int32), h2))
theorem t_X7_number_b107 {X : Cx} (p1 : Int32) (p2 : Int32) (v3 : Int32) (h : Hp) (Q : Int32 → Hp → Prop) (hw : w_X7_number_b107 p1 p2 v3 h Q) : G X M_X7_number E_X7_number (QM X E_X7_number (QI Q) Qn) 0 107 [(0, .ref (1)), (3, .int (v3))] [] h := by
  unfold w_X7_number_b107 at hw
  refine g_aload_n 0 (dk D_X7_number 56 rfl) rfl rfl ?_
  refine g_iconst (dk D_X7_number 57 rfl) ki_2 ?_
  refine g_iload_n 1 (dk D_X7_number 58 rfl) rfl rfl ?_
  refine g_callV (As := [.int ((2 : Int32)), .int (v3)]) (kc := 0) (fr := 0) (lo := 0) (mc := 0) (My := M_X7_fail) (dk D_X7_number 59 rfl) kd_1 rfl rfl w_889 w_870 w_871 w_102 w_872 okD_X7_fail (by decide) (Nat.le_of_ble_eq_true rfl) rfl (c_X7_fail ((2 : Int32)) (v3) (h) _ hw) kxN (kI (fun z1 h2 hw => ?_))
  refine g_pop (dk D_X7_number 60 rfl) rfl ?_
  refine g_iconst (dk D_X7_number 61 rfl) ki_m1 ?_
  exact g_iret (dk D_X7_number 62 rfl) rfl ⟨_, rfl, hw⟩
theorem t_X7_number_b78 {X : Cx} (p1 : Int32) (p2 : Int32) (v3 : Int32) (v4 : Int32) (h : Hp) (Q : Int32 → Hp → Prop) (hw : w_X7_number_b78 p1 p2 v3 v4 h Q) : G X M_X7_number E_X7_number (QM X E_X7_number (QI Q) Qn) 0 78 [(0, .ref (1)), (1, .int (p1)), (2, .int (p2)), (3, .int (v3)), (4, .int (v4))] [] h := by
  unfold w_X7_number_b78 at hw
  refine g_aload_n 0 (dk D_X7_number 39 rfl) rfl rfl ?_
  refine g_getI 3 (dk D_X7_number 40 rfl) kd_1 rfl rfl (by decide) w_142 rfl rfl ?_
  refine g_iload_n 3 (dk D_X7_number 41 rfl) rfl rfl ?_
  refine g_icmp_ne (dk D_X7_number 42 rfl) rfl (wif_m hw (fun hw => ?_) (fun hw => ?_))
  · refine g_iload 4 (dk D_X7_number 50 rfl) rfl ?_
    refine g_iload_n 1 (dk D_X7_number 51 rfl) rfl rfl ?_
    refine g_icmp_lt (dk D_X7_number 52 rfl) rfl (wif_m hw (fun hw => ?_) (fun hw => ?_))
    · refine g_sub [0, 3] rfl ?_
      exact t_X7_number_b107 p1 p2 (v3) (h) Q hw
    · refine g_iload 4 (dk D_X7_number 53 rfl) rfl ?_
      refine g_iload_n 2 (dk D_X7_number 54 rfl) rfl rfl ?_
      refine g_icmp_le (dk D_X7_number 55 rfl) rfl (wif_m hw (fun hw => ?_) (fun hw => ?_))
      · refine g_iload 4 (dk D_X7_number 63 rfl) rfl ?_
        exact g_iret (dk D_X7_number 64 rfl) rfl ⟨_, rfl, hw⟩
      · refine g_sub [0, 3] rfl ?_
        exact t_X7_number_b107 p1 p2 (v3) (h) Q hw
  · refine g_aload_n 0 (dk D_X7_number 43 rfl) rfl rfl ?_
    refine g_iconst (dk D_X7_number 44 rfl) ki_1 ?_
    refine g_iload_n 3 (dk D_X7_number 45 rfl) rfl rfl ?_
    refine g_callV (As := [.int ((1 : Int32)), .int (v3)]) (kc := 0) (fr := 0) (lo := 0) (mc := 0) (My := M_X7_fail) (dk D_X7_number 46 rfl) kd_1 rfl rfl w_889 w_870 w_871 w_102 w_872 okD_X7_fail (by decide) (Nat.le_of_ble_eq_true rfl) rfl (c_X7_fail ((1 : Int32)) (v3) (h) _ hw) kxN (kI (fun z1 h2 hw => ?_))
    refine g_pop (dk D_X7_number 47 rfl) rfl ?_
    refine g_iconst (dk D_X7_number 48 rfl) ki_m1 ?_
    exact g_iret (dk D_X7_number 49 rfl) rfl ⟨_, rfl, hw⟩
theorem t_X7_number_b65 {X : Cx} (p1 : Int32) (p2 : Int32) (v3 : Int32) (v4 : Int32) (K8 : Int32 × Hp → Prop) (h : Hp) (Q : Int32 → Hp → Prop) (hK8 : ∀ s : Int32 × Hp, K8 s → G X M_X7_number E_X7_number (QM X E_X7_number (QI Q) Qn) 0 8 [(0, .ref (1)), (1, .int (p1)), (2, .int (p2)), (3, .int (v3)), (4, .int (s.1))] [] (s.2)) (hw : w_X7_number_b65 p1 p2 v3 v4 K8 h Q) : G X M_X7_number E_X7_number (QM X E_X7_number (QI Q) Qn) 0 65 [(0, .ref (1)), (1, .int (p1)), (2, .int (p2)), (3, .int (v3)), (4, .int (v4))] [] h := by
  unfold w_X7_number_b65 at hw
  refine g_aload_n 0 (dk D_X7_number 32 rfl) rfl rfl ?_
  refine g_dup (dk D_X7_number 33 rfl) rfl ?_
  refine g_getI 3 (dk D_X7_number 34 rfl) kd_1 rfl rfl (by decide) w_142 rfl rfl ?_
  refine g_iconst (dk D_X7_number 35 rfl) ki_1 ?_
  refine g_iadd (dk D_X7_number 36 rfl) ?_
  refine g_put 3 (dk D_X7_number 37 rfl) kd_1 rfl rfl (by decide) w_142 rfl tyX7_ok nmX7 rfl (by decide) rfl (fun z => absurd z (by decide)) ?_
  refine g_heap (fun h1 eh1 => ?_)
  replace hw := hw _ eh1
  refine g_goto (dk D_X7_number 38 rfl) rfl ?_
  exact hK8 (v4, h1) hw
theorem t_X7_number_l8 {X : Cx} (p1 : Int32) (p2 : Int32) (v3 : Int32) (Q : Int32 → Hp → Prop) (K8 : Int32 × Hp → Prop) (v4 : Int32) (h : Hp) (hK8 : ∀ s : Int32 × Hp, K8 s → G X M_X7_number E_X7_number (QM X E_X7_number (QI Q) Qn) 0 8 [(0, .ref (1)), (1, .int (p1)), (2, .int (p2)), (3, .int (v3)), (4, .int (s.1))] [] (s.2)) (hw : w_X7_number_l8 p1 p2 v3 Q K8 v4 h) : G X M_X7_number E_X7_number (QM X E_X7_number (QI Q) Qn) 0 8 [(0, .ref (1)), (1, .int (p1)), (2, .int (p2)), (3, .int (v3)), (4, .int (v4))] [] h := by
  unfold w_X7_number_l8 at hw
  refine g_aload_n 0 (dk D_X7_number 5 rfl) rfl rfl ?_
  refine g_getI 3 (dk D_X7_number 6 rfl) kd_1 rfl rfl (by decide) w_142 rfl rfl ?_
  refine g_aload_n 0 (dk D_X7_number 7 rfl) rfl rfl ?_
  refine g_getI 2 (dk D_X7_number 8 rfl) kd_1 rfl rfl (by decide) w_141 rfl rfl ?_
  refine g_icmp_ge (dk D_X7_number 9 rfl) rfl (wif_m hw (fun hw => ?_) (fun hw => ?_))
  · exact t_X7_number_b78 p1 p2 (v3) (v4) (h) Q hw
  · refine g_aload_n 0 (dk D_X7_number 10 rfl) rfl rfl ?_
    refine g_getR 0 (t := 2) (dk D_X7_number 11 rfl) kd_1 rfl rfl (by decide) w_138 rfl rfl rfl ?_
    refine g_aload_n 0 (dk D_X7_number 12 rfl) rfl rfl ?_
    refine g_getI 3 (dk D_X7_number 13 rfl) kd_1 rfl rfl (by decide) w_142 rfl rfl ?_
    refine g_callSN (As := [.ref (2), .int ((h 1 3))]) (kc := 0) (fr := 0) (lo := 0) (mc := 0) (My := M_X8_at) (dk D_X7_number 14 rfl) w_806 w_518 w_101 w_519 okD_X8_at (by decide) (Nat.le_of_ble_eq_true rfl) rfl (c_X8_at 2 500 ((h 1 3)) (kd_2) (h) _ hw) kxN (kIp (fun z1 hw => ?_))
    refine g_callS (As := [.int (z1)]) (kc := 0) (fr := 0) (lo := 0) (mc := 0) (My := M_X7_isDigit) (dk D_X7_number 15 rfl) w_885 w_886 w_102 w_887 okD_X7_isDigit (by decide) (Nat.le_of_ble_eq_true rfl) rfl (c_X7_isDigit (z1) (h) _ hw) kxN (kIp (fun z2 hw => ?_))
    refine g_if_eq (dk D_X7_number 16 rfl) rfl (wif_m hw (fun hw => ?_) (fun hw => ?_))
    · exact t_X7_number_b78 p1 p2 (v3) (v4) (h) Q hw
    · refine g_iload 4 (dk D_X7_number 17 rfl) rfl ?_
      refine g_ldc (dk D_X7_number 18 rfl) w_888 ?_
      refine g_icmp_ge (dk D_X7_number 19 rfl) rfl (wif_m hw (fun hw => ?_) (fun hw => ?_))
      · exact t_X7_number_b65 p1 p2 (v3) (v4) K8 (h) Q hK8 hw
      · refine g_iload 4 (dk D_X7_number 20 rfl) rfl ?_
        refine g_bipush (dk D_X7_number 21 rfl) kb_10 ?_
        refine g_imul (dk D_X7_number 22 rfl) ?_
        refine g_aload_n 0 (dk D_X7_number 23 rfl) rfl rfl ?_
        refine g_getR 0 (t := 2) (dk D_X7_number 24 rfl) kd_1 rfl rfl (by decide) w_138 rfl rfl rfl ?_
        refine g_aload_n 0 (dk D_X7_number 25 rfl) rfl rfl ?_
        refine g_getI 3 (dk D_X7_number 26 rfl) kd_1 rfl rfl (by decide) w_142 rfl rfl ?_
        refine g_callSN (As := [.ref (2), .int ((h 1 3))]) (kc := 0) (fr := 0) (lo := 0) (mc := 0) (My := M_X8_at) (dk D_X7_number 27 rfl) w_806 w_518 w_101 w_519 okD_X8_at (by decide) (Nat.le_of_ble_eq_true rfl) rfl (c_X8_at 2 500 ((h 1 3)) (kd_2) (h) _ hw) kxN (kIp (fun z3 hw => ?_))
        refine g_iadd (dk D_X7_number 28 rfl) ?_
        refine g_bipush (dk D_X7_number 29 rfl) kb_48 ?_
        refine g_isub (dk D_X7_number 30 rfl) ?_
        refine g_topi (fun v4_4 ev4_4 => ?_)
        replace hw := hw _ ev4_4
        refine g_istore (dk D_X7_number 31 rfl) (by decide) rfl ?_
        refine g_sub [1, 2, 3, 4, 0] rfl ?_
        exact t_X7_number_b65 p1 p2 (v3) (v4_4) K8 (h) Q hK8 hw
theorem t_X7_number_b8 {X : Cx} (p1 : Int32) (p2 : Int32) (v3 : Int32) (Q : Int32 → Hp → Prop) (s : Int32 × Hp) (hw : w_X7_number_b8 p1 p2 v3 Q s) : G X M_X7_number E_X7_number (QM X E_X7_number (QI Q) Qn) 0 8 [(0, .ref (1)), (1, .int (p1)), (2, .int (p2)), (3, .int (v3)), (4, .int (s.1))] [] (s.2) :=
  wl_ind (B := fun K s => w_X7_number_l8 p1 p2 v3 Q K (s.1) (s.2)) (P := fun s => G X M_X7_number E_X7_number (QM X E_X7_number (QI Q) Qn) 0 8 [(0, .ref (1)), (1, .int (p1)), (2, .int (p2)), (3, .int (v3)), (4, .int (s.1))] [] (s.2)) (fun K hK s hw => t_X7_number_l8 p1 p2 v3 Q K (s.1) (s.2) hK hw) s hw
theorem t_X7_number {X : Cx} (p1 : Int32) (p2 : Int32) (h : Hp) (Q : Int32 → Hp → Prop) (hw : w_X7_number p1 p2 h Q) : G X M_X7_number E_X7_number (QM X E_X7_number (QI Q) Qn) 0 0 [(0, .ref (1)), (1, .int (p1)), (2, .int (p2))] [] h := by
  unfold w_X7_number at hw
  refine g_aload_n 0 (dk D_X7_number 0 rfl) rfl rfl ?_
  refine g_callV (As := []) (kc := 0) (fr := 0) (lo := 0) (mc := 0) (My := M_X7_start) (dk D_X7_number 1 rfl) kd_1 rfl rfl w_788 w_789 w_790 w_102 w_791 okD_X7_start (by decide) (Nat.le_of_ble_eq_true rfl) rfl (c_X7_start (h) _ hw) kxN (kI (fun z1 h2 hw => ?_))
  refine g_istore_n (dk D_X7_number 2 rfl) rfl (by decide) rfl ?_
  refine g_iconst (dk D_X7_number 3 rfl) ki_0 ?_
  refine g_istore (dk D_X7_number 4 rfl) (by decide) rfl ?_
  refine g_sub [2, 3, 4, 1, 0] rfl ?_
  exact t_X7_number_b8 p1 p2 (z1) Q ((0 : Int32), h2) hw
theorem c_X7_number {X : Cx} (p1 : Int32) (p2 : Int32) (h : Hp) (Q : Int32 → Hp → Prop) (hw : w_X7_number p1 p2 h Q) : Con X yX7_number M_X7_number 1 30 0 [.ref (1), .int (p1), .int (p2)] h (QI Q) Qn :=
  con_of (by decide +kernel) rfl (Nat.le_of_ble_eq_true rfl) (t_X7_number p1 p2 h Q hw)
/-! ShadowTolls$Road.slotCount()I -/
abbrev M_X4_slotCount : Mi := (RX4, cX4_slotCount, 1, (some .int))
abbrev E_X4_slotCount : Rm := (1, 30, 0, 0)
def rows_X4_slotCount : List (Nat × Instr × Nat) := [(0, .aload_n 0, 1), (1, .getfield 44, 3), (4, .iconst 1, 1), (5, .if_icmp .ge 7, 3), (8, .iconst 0, 1), (9, .goto 22, 3), (12, .bipush 30, 2), (14, .aload_n 0, 1), (15, .getfield 41, 3), (18, .aload_n 0, 1), (19, .getfield 38, 3), (22, .isub, 1), (23, .aload_n 0, 1), (24, .getfield 44, 3), (27, .idiv, 1), (28, .invokestatic 82, 3), (31, .ireturn, 1)]
theorem D_X4_slotCount : dkA cX4_slotCount rows_X4_slotCount := by
  unfold dkA
  decide +kernel
theorem okD_X4_slotCount : okD yX4_slotCount 0 := by
  unfold okD
  decide +kernel
def w_X4_slotCount (this : Nat) (h : Hp) (Q : Int32 → Prop) : Prop :=
  wif ((1 : Int32) ≤ (h this 8)) ((¬ (h this 8) = 0 ∧ Q (if (((h this 7) - (h this 6)) / (h this 8)) < (30 : Int32) then (((h this 7) - (h this 6)) / (h this 8)) else (30 : Int32)))) (Q (0 : Int32))
theorem t_X4_slotCount {X : Cx} (this : Nat) (h : Hp) (Q : Int32 → Prop) (hthis : RoadP this) (hw : w_X4_slotCount this h Q) : G X M_X4_slotCount E_X4_slotCount (QM X E_X4_slotCount (QIp h Q) Qn) 0 0 [(0, .ref (this))] [] h := by
  unfold w_X4_slotCount at hw
  refine g_aload_n 0 (dk D_X4_slotCount 0 rfl) rfl rfl ?_
  refine g_getI 8 (dk D_X4_slotCount 1 rfl) hthis.1 rfl rfl (by decide) w_194 rfl rfl ?_
  refine g_iconst (dk D_X4_slotCount 2 rfl) ki_1 ?_
  refine g_icmp_ge (dk D_X4_slotCount 3 rfl) rfl (wif_m hw (fun hw => ?_) (fun hw => ?_))
  · refine g_bipush (dk D_X4_slotCount 6 rfl) kb_30 ?_
    refine g_aload_n 0 (dk D_X4_slotCount 7 rfl) rfl rfl ?_
    refine g_getI 7 (dk D_X4_slotCount 8 rfl) hthis.1 rfl rfl (by decide) w_191 rfl rfl ?_
    refine g_aload_n 0 (dk D_X4_slotCount 9 rfl) rfl rfl ?_
    refine g_getI 6 (dk D_X4_slotCount 10 rfl) hthis.1 rfl rfl (by decide) w_188 rfl rfl ?_
    refine g_isub (dk D_X4_slotCount 11 rfl) ?_
    refine g_aload_n 0 (dk D_X4_slotCount 12 rfl) rfl rfl ?_
    refine g_getI 8 (dk D_X4_slotCount 13 rfl) hthis.1 rfl rfl (by decide) w_194 rfl rfl ?_
    obtain ⟨d1, hw⟩ := hw
    refine g_idiv (dk D_X4_slotCount 14 rfl) d1 ?_
    refine g_mmin (dk D_X4_slotCount 15 rfl) w_510 (by decide) (Nat.le_of_ble_eq_true rfl) ?_
    exact g_iret (dk D_X4_slotCount 16 rfl) rfl ⟨_, rfl, rfl, hw⟩
  · refine g_iconst (dk D_X4_slotCount 4 rfl) ki_0 ?_
    refine g_goto (dk D_X4_slotCount 5 rfl) rfl ?_
    exact g_iret (dk D_X4_slotCount 16 rfl) rfl ⟨_, rfl, rfl, hw⟩
theorem c_X4_slotCount {X : Cx} (this : Nat) (hthis : RoadP this) (h : Hp) (Q : Int32 → Prop) (hw : w_X4_slotCount this h Q) : Con X yX4_slotCount M_X4_slotCount 1 30 0 [.ref (this)] h (QIp h Q) Qn :=
  con_of (by decide +kernel) rfl (Nat.le_of_ble_eq_true rfl) (t_X4_slotCount this h Q hthis hw)
/-! ShadowTolls$Road.trait(II)I -/
abbrev M_X4_trait : Mi := (RX4, cX4_trait, 3, (some .int))
abbrev E_X4_trait : Rm := (1, 29, 0, 0)
def rows_X4_trait : List (Nat × Instr × Nat) := [(0, .aload_n 0, 1), (1, .getfield 21, 3), (4, .iload_n 1, 1), (5, .bipush 7, 2), (7, .imul, 1), (8, .iload_n 2, 1), (9, .iadd, 1), (10, .invokestatic 70, 3), (13, .ireturn, 1)]
theorem D_X4_trait : dkA cX4_trait rows_X4_trait := by
  unfold dkA
  decide +kernel
theorem okD_X4_trait : okD yX4_trait 2 := by
  unfold okD
  decide +kernel
def w_X4_trait (this : Nat) (p1 : Int32) (p2 : Int32) (h : Hp) (Q : Int32 → Prop) : Prop :=
  w_X8_at (tg this 3) 56 (((p1 * (7 : Int32)) + p2)) h (fun z1 => Q z1)
theorem t_X4_trait {X : Cx} (this : Nat) (p1 : Int32) (p2 : Int32) (h : Hp) (Q : Int32 → Prop) (hthis : RoadP this) (hw : w_X4_trait this p1 p2 h Q) : G X M_X4_trait E_X4_trait (QM X E_X4_trait (QIp h Q) Qn) 0 0 [(0, .ref (this)), (1, .int (p1)), (2, .int (p2))] [] h := by
  unfold w_X4_trait at hw
  refine g_aload_n 0 (dk D_X4_trait 0 rfl) rfl rfl ?_
  refine g_getR 3 (t := (tg this 3)) (dk D_X4_trait 1 rfl) hthis.1 rfl rfl (by decide) w_181 rfl rfl rfl ?_
  refine g_iload_n 1 (dk D_X4_trait 2 rfl) rfl rfl ?_
  refine g_bipush (dk D_X4_trait 3 rfl) kb_7 ?_
  refine g_imul (dk D_X4_trait 4 rfl) ?_
  refine g_iload_n 2 (dk D_X4_trait 5 rfl) rfl rfl ?_
  refine g_iadd (dk D_X4_trait 6 rfl) ?_
  refine g_callSN (As := [.ref ((tg this 3)), .int (((p1 * (7 : Int32)) + p2))]) (kc := 0) (fr := 0) (lo := 0) (mc := 0) (My := M_X8_at) (dk D_X4_trait 7 rfl) w_549 w_518 w_101 w_519 okD_X8_at (by decide) (Nat.le_of_ble_eq_true rfl) rfl (c_X8_at (tg this 3) 56 (((p1 * (7 : Int32)) + p2)) (hthis.2.2.2.2) (h) _ hw) kxN (kIp (fun z1 hw => ?_))
  exact g_iret (dk D_X4_trait 8 rfl) rfl ⟨_, rfl, rfl, hw⟩
theorem c_X4_trait {X : Cx} (this : Nat) (p1 : Int32) (p2 : Int32) (hthis : RoadP this) (h : Hp) (Q : Int32 → Prop) (hw : w_X4_trait this p1 p2 h Q) : Con X yX4_trait M_X4_trait 1 29 0 [.ref (this), .int (p1), .int (p2)] h (QIp h Q) Qn :=
  con_of (by decide +kernel) rfl (Nat.le_of_ble_eq_true rfl) (t_X4_trait this p1 p2 h Q hthis hw)
/-! ShadowTolls$Road.standing(I)I -/
abbrev M_X4_standing : Mi := (RX4, cX4_standing, 2, (some .int))
abbrev E_X4_standing : Rm := (2, 59, 0, 0)
def rows_X4_standing : List (Nat × Instr × Nat) := [(0, .aload_n 0, 1), (1, .iload_n 1, 1), (2, .iconst 0, 1), (3, .invokevirtual 78, 3), (6, .aload_n 0, 1), (7, .iload_n 1, 1), (8, .iconst 5, 1), (9, .invokevirtual 78, 3), (12, .iadd, 1), (13, .ireturn, 1)]
theorem D_X4_standing : dkA cX4_standing rows_X4_standing := by
  unfold dkA
  decide +kernel
theorem okD_X4_standing : okD yX4_standing 1 := by
  unfold okD
  decide +kernel
def w_X4_standing (this : Nat) (p1 : Int32) (h : Hp) (Q : Int32 → Prop) : Prop :=
  w_X4_trait this (p1) ((0 : Int32)) h (fun z1 => w_X4_trait this (p1) ((5 : Int32)) h (fun z2 => Q (z1 + z2)))
theorem t_X4_standing {X : Cx} (this : Nat) (p1 : Int32) (h : Hp) (Q : Int32 → Prop) (hthis : RoadP this) (hw : w_X4_standing this p1 h Q) : G X M_X4_standing E_X4_standing (QM X E_X4_standing (QIp h Q) Qn) 0 0 [(0, .ref (this)), (1, .int (p1))] [] h := by
  unfold w_X4_standing at hw
  refine g_aload_n 0 (dk D_X4_standing 0 rfl) rfl rfl ?_
  refine g_iload_n 1 (dk D_X4_standing 1 rfl) rfl rfl ?_
  refine g_iconst (dk D_X4_standing 2 rfl) ki_0 ?_
  refine g_callV (As := [.int (p1), .int ((0 : Int32))]) (kc := 0) (fr := 1) (lo := 29) (mc := 0) (My := M_X4_trait) (dk D_X4_standing 3 rfl) hthis.1 rfl rfl w_545 w_546 w_547 w_103 w_548 okD_X4_trait (by decide) (Nat.le_of_ble_eq_true rfl) rfl (c_X4_trait this (p1) ((0 : Int32)) (hthis) (h) _ hw) kxN (kIp (fun z1 hw => ?_))
  refine g_aload_n 0 (dk D_X4_standing 4 rfl) rfl rfl ?_
  refine g_iload_n 1 (dk D_X4_standing 5 rfl) rfl rfl ?_
  refine g_iconst (dk D_X4_standing 6 rfl) ki_5 ?_
  refine g_callV (As := [.int (p1), .int ((5 : Int32))]) (kc := 0) (fr := 1) (lo := 29) (mc := 0) (My := M_X4_trait) (dk D_X4_standing 7 rfl) hthis.1 rfl rfl w_545 w_546 w_547 w_103 w_548 okD_X4_trait (by decide) (Nat.le_of_ble_eq_true rfl) rfl (c_X4_trait this (p1) ((5 : Int32)) (hthis) (h) _ hw) kxN (kIp (fun z2 hw => ?_))
  refine g_iadd (dk D_X4_standing 8 rfl) ?_
  exact g_iret (dk D_X4_standing 9 rfl) rfl ⟨_, rfl, rfl, hw⟩
theorem c_X4_standing {X : Cx} (this : Nat) (p1 : Int32) (hthis : RoadP this) (h : Hp) (Q : Int32 → Prop) (hw : w_X4_standing this p1 h Q) : Con X yX4_standing M_X4_standing 2 59 0 [.ref (this), .int (p1)] h (QIp h Q) Qn :=
  con_of (by decide +kernel) rfl (Nat.le_of_ble_eq_true rfl) (t_X4_standing this p1 h Q hthis hw)
/-! ShadowTolls$Planner.rank()V -/
abbrev M_X2_rank : Mi := (RX2, cX2_rank, 5, none)
abbrev E_X2_rank : Rm := (3, 88, 0, 0)
def rows_X2_rank : List (Nat × Instr × Nat) := [(0, .iconst 0, 1), (1, .istore_n 1, 1), (2, .iload_n 1, 1), (3, .bipush 8, 2), (5, .if_icmp .ge 104, 3), (8, .iconst 0, 1), (9, .istore_n 2, 1), (10, .iconst 0, 1), (11, .istore_n 3, 1), (12, .iconst 0, 1), (13, .istore 4, 2), (15, .iload 4, 2), (17, .bipush 8, 2), (19, .if_icmp .ge 64, 3), (22, .aload_n 0, 1), (23, .getfield 52, 3), (26, .iload 4, 2), (28, .invokevirtual 75, 3), (31, .aload_n 0, 1), (32, .getfield 52, 3), (35, .iload_n 1, 1), (36, .invokevirtual 75, 3), (39, .if_icmp .ge 9, 3), (42, .iinc 2 1, 3), (45, .goto 32, 3), (48, .iload 4, 2), (50, .iload_n 1, 1), (51, .if_icmp .ge 26, 3), (54, .aload_n 0, 1), (55, .getfield 52, 3), (58, .iload 4, 2), (60, .invokevirtual 75, 3), (63, .aload_n 0, 1), (64, .getfield 52, 3), (67, .iload_n 1, 1), (68, .invokevirtual 75, 3), (71, .if_icmp .ne 6, 3), (74, .iinc 3 1, 3), (77, .iinc 4 1, 3), (80, .goto (-65), 3), (83, .aload_n 0, 1), (84, .getfield 40, 3), (87, .iload_n 1, 1), (88, .iload_n 2, 1), (89, .invokestatic 79, 3), (92, .aload_n 0, 1), (93, .getfield 37, 3), (96, .iload_n 2, 1), (97, .iload_n 3, 1), (98, .iadd, 1), (99, .iload_n 1, 1), (100, .invokestatic 79, 3), (103, .iinc 1 1, 3), (106, .goto (-104), 3), (109, .return_, 1)]
theorem D_X2_rank : dkA cX2_rank rows_X2_rank := by
  unfold dkA
  decide +kernel
theorem okD_X2_rank : okD yX2_rank 0 := by
  unfold okD
  decide +kernel
def w_X2_rank_b77 (v1 : Int32) (v2 : Int32) (v3 : Int32) (v4 : Int32) (K2 : Int32 × Hp → Prop) (K15 : Int32 × Int32 × Int32 → Prop) (h : Hp) (Q : Hp → Prop) : Prop :=
  K15 (v2, v3, (v4 + (1 : Int32)))
def w_X2_rank_l15 (v1 : Int32) (K2 : Int32 × Hp → Prop) (h : Hp) (Q : Hp → Prop) (K15 : Int32 × Int32 × Int32 → Prop) (v2 : Int32) (v3 : Int32) (v4 : Int32) : Prop :=
  wif ((8 : Int32) ≤ v4) (w_X8_put 54 8 (v1) (v2) h (fun h1 => w_X8_put 53 8 ((v2 + v3)) (v1) h1 (fun h2 => K2 ((v1 + (1 : Int32)), h2)))) (w_X4_standing 3 (v4) h (fun z3 => w_X4_standing 3 (v1) h (fun z4 => wif (z4 ≤ z3) (wif (v1 ≤ v4) (w_X2_rank_b77 (v1) (v2) (v3) (v4) K2 K15 (h) Q) (w_X4_standing 3 (v4) h (fun z5 => w_X4_standing 3 (v1) h (fun z6 => wif (¬ z5 = z6) (w_X2_rank_b77 (v1) (v2) (v3) (v4) K2 K15 (h) Q) (w_X2_rank_b77 (v1) (v2) ((v3 + (1 : Int32))) (v4) K2 K15 (h) Q))))) (w_X2_rank_b77 (v1) ((v2 + (1 : Int32))) (v3) (v4) K2 K15 (h) Q))))
def w_X2_rank_b15 (v1 : Int32) (K2 : Int32 × Hp → Prop) (h : Hp) (Q : Hp → Prop) (s : Int32 × Int32 × Int32) : Prop := wl (fun K s => w_X2_rank_l15 v1 K2 h Q K s.1 s.2.1 s.2.2) s
def w_X2_rank_l2 (Q : Hp → Prop) (K2 : Int32 × Hp → Prop) (v1 : Int32) (h : Hp) : Prop :=
  wif ((8 : Int32) ≤ v1) (Q h) (w_X2_rank_b15 (v1) K2 (h) Q ((0 : Int32), (0 : Int32), (0 : Int32)))
def w_X2_rank_b2 (Q : Hp → Prop) (s : Int32 × Hp) : Prop := wl (fun K s => w_X2_rank_l2 Q K s.1 s.2) s
def w_X2_rank (h : Hp) (Q : Hp → Prop) : Prop :=
  w_X2_rank_b2 Q ((0 : Int32), h)
theorem t_X2_rank_b77 {X : Cx} (v1 : Int32) (v2 : Int32) (v3 : Int32) (v4 : Int32) (K2 : Int32 × Hp → Prop) (K15 : Int32 × Int32 × Int32 → Prop) (h : Hp) (Q : Hp → Prop) (hK2 : ∀ s : Int32 × Hp, K2 s → G X M_X2_rank E_X2_rank (QM X E_X2_rank (QV Q) Qn) 0 2 [(0, .ref (44)), (1, .int (s.1))] [] (s.2)) (hK15 : ∀ s : Int32 × Int32 × Int32, K15 s → G X M_X2_rank E_X2_rank (QM X E_X2_rank (QV Q) Qn) 0 15 [(0, .ref (44)), (1, .int (v1)), (2, .int (s.1)), (3, .int (s.2.1)), (4, .int (s.2.2))] [] (h)) (hw : w_X2_rank_b77 v1 v2 v3 v4 K2 K15 h Q) : G X M_X2_rank E_X2_rank (QM X E_X2_rank (QV Q) Qn) 0 77 [(0, .ref (44)), (1, .int (v1)), (2, .int (v2)), (3, .int (v3)), (4, .int (v4))] [] h := by
  unfold w_X2_rank_b77 at hw
  refine g_iinc 4 (dk D_X2_rank 38 rfl) rfl (congrArg (fun z => _ + z) ki_1) (by decide) rfl ?_
  refine g_goto (dk D_X2_rank 39 rfl) rfl ?_
  refine g_sub [1, 2, 3, 4, 0] rfl ?_
  exact hK15 (v2, v3, (v4 + (1 : Int32))) hw
theorem t_X2_rank_l15 {X : Cx} (v1 : Int32) (K2 : Int32 × Hp → Prop) (h : Hp) (Q : Hp → Prop) (K15 : Int32 × Int32 × Int32 → Prop) (v2 : Int32) (v3 : Int32) (v4 : Int32) (hK2 : ∀ s : Int32 × Hp, K2 s → G X M_X2_rank E_X2_rank (QM X E_X2_rank (QV Q) Qn) 0 2 [(0, .ref (44)), (1, .int (s.1))] [] (s.2)) (hK15 : ∀ s : Int32 × Int32 × Int32, K15 s → G X M_X2_rank E_X2_rank (QM X E_X2_rank (QV Q) Qn) 0 15 [(0, .ref (44)), (1, .int (v1)), (2, .int (s.1)), (3, .int (s.2.1)), (4, .int (s.2.2))] [] (h)) (hw : w_X2_rank_l15 v1 K2 h Q K15 v2 v3 v4) : G X M_X2_rank E_X2_rank (QM X E_X2_rank (QV Q) Qn) 0 15 [(0, .ref (44)), (1, .int (v1)), (2, .int (v2)), (3, .int (v3)), (4, .int (v4))] [] h := by
  unfold w_X2_rank_l15 at hw
  refine g_iload 4 (dk D_X2_rank 11 rfl) rfl ?_
  refine g_bipush (dk D_X2_rank 12 rfl) kb_8 ?_
  refine g_icmp_ge (dk D_X2_rank 13 rfl) rfl (wif_m hw (fun hw => ?_) (fun hw => ?_))
  · refine g_aload_n 0 (dk D_X2_rank 40 rfl) rfl rfl ?_
    refine g_getR 10 (t := 54) (dk D_X2_rank 41 rfl) kd_44 rfl rfl (by decide) w_311 rfl rfl rfl ?_
    refine g_iload_n 1 (dk D_X2_rank 42 rfl) rfl rfl ?_
    refine g_iload_n 2 (dk D_X2_rank 43 rfl) rfl rfl ?_
    refine g_callSN (As := [.ref (54), .int (v1), .int (v2)]) (kc := 0) (fr := 0) (lo := 0) (mc := 0) (My := M_X8_put) (dk D_X2_rank 44 rfl) w_550 w_496 w_101 w_497 okD_X8_put (by decide) (Nat.le_of_ble_eq_true rfl) rfl (c_X8_put 54 8 (v1) (v2) (kd_54) (h) _ hw) kxN (kV (fun h1 hw => ?_))
    refine g_aload_n 0 (dk D_X2_rank 45 rfl) rfl rfl ?_
    refine g_getR 9 (t := 53) (dk D_X2_rank 46 rfl) kd_44 rfl rfl (by decide) w_310 rfl rfl rfl ?_
    refine g_iload_n 2 (dk D_X2_rank 47 rfl) rfl rfl ?_
    refine g_iload_n 3 (dk D_X2_rank 48 rfl) rfl rfl ?_
    refine g_iadd (dk D_X2_rank 49 rfl) ?_
    refine g_iload_n 1 (dk D_X2_rank 50 rfl) rfl rfl ?_
    refine g_callSN (As := [.ref (53), .int ((v2 + v3)), .int (v1)]) (kc := 0) (fr := 0) (lo := 0) (mc := 0) (My := M_X8_put) (dk D_X2_rank 51 rfl) w_550 w_496 w_101 w_497 okD_X8_put (by decide) (Nat.le_of_ble_eq_true rfl) rfl (c_X8_put 53 8 ((v2 + v3)) (v1) (kd_53) (h1) _ hw) kxN (kV (fun h2 hw => ?_))
    refine g_iinc 1 (dk D_X2_rank 52 rfl) rfl (congrArg (fun z => _ + z) ki_1) (by decide) rfl ?_
    refine g_goto (dk D_X2_rank 53 rfl) rfl ?_
    refine g_sub [1, 0] rfl ?_
    exact hK2 ((v1 + (1 : Int32)), h2) hw
  · refine g_aload_n 0 (dk D_X2_rank 14 rfl) rfl rfl ?_
    refine g_getR 0 (t := 3) (dk D_X2_rank 15 rfl) kd_44 rfl rfl (by decide) w_299 rfl rfl rfl ?_
    refine g_iload 4 (dk D_X2_rank 16 rfl) rfl ?_
    refine g_callV (As := [.int (v4)]) (kc := 0) (fr := 2) (lo := 59) (mc := 0) (My := M_X4_standing) (dk D_X2_rank 17 rfl) roadP_3.1 rfl rfl w_541 w_542 w_543 w_103 w_544 okD_X4_standing (by decide) (Nat.le_of_ble_eq_true rfl) rfl (c_X4_standing 3 (v4) (roadP_3) (h) _ hw) kxN (kIp (fun z3 hw => ?_))
    refine g_aload_n 0 (dk D_X2_rank 18 rfl) rfl rfl ?_
    refine g_getR 0 (t := 3) (dk D_X2_rank 19 rfl) kd_44 rfl rfl (by decide) w_299 rfl rfl rfl ?_
    refine g_iload_n 1 (dk D_X2_rank 20 rfl) rfl rfl ?_
    refine g_callV (As := [.int (v1)]) (kc := 0) (fr := 2) (lo := 59) (mc := 0) (My := M_X4_standing) (dk D_X2_rank 21 rfl) roadP_3.1 rfl rfl w_541 w_542 w_543 w_103 w_544 okD_X4_standing (by decide) (Nat.le_of_ble_eq_true rfl) rfl (c_X4_standing 3 (v1) (roadP_3) (h) _ hw) kxN (kIp (fun z4 hw => ?_))
    refine g_icmp_ge (dk D_X2_rank 22 rfl) rfl (wif_m hw (fun hw => ?_) (fun hw => ?_))
    · refine g_iload 4 (dk D_X2_rank 25 rfl) rfl ?_
      refine g_iload_n 1 (dk D_X2_rank 26 rfl) rfl rfl ?_
      refine g_icmp_ge (dk D_X2_rank 27 rfl) rfl (wif_m hw (fun hw => ?_) (fun hw => ?_))
      · exact t_X2_rank_b77 (v1) (v2) (v3) (v4) K2 K15 (h) Q hK2 hK15 hw
      · refine g_aload_n 0 (dk D_X2_rank 28 rfl) rfl rfl ?_
        refine g_getR 0 (t := 3) (dk D_X2_rank 29 rfl) kd_44 rfl rfl (by decide) w_299 rfl rfl rfl ?_
        refine g_iload 4 (dk D_X2_rank 30 rfl) rfl ?_
        refine g_callV (As := [.int (v4)]) (kc := 0) (fr := 2) (lo := 59) (mc := 0) (My := M_X4_standing) (dk D_X2_rank 31 rfl) roadP_3.1 rfl rfl w_541 w_542 w_543 w_103 w_544 okD_X4_standing (by decide) (Nat.le_of_ble_eq_true rfl) rfl (c_X4_standing 3 (v4) (roadP_3) (h) _ hw) kxN (kIp (fun z5 hw => ?_))
        refine g_aload_n 0 (dk D_X2_rank 32 rfl) rfl rfl ?_
        refine g_getR 0 (t := 3) (dk D_X2_rank 33 rfl) kd_44 rfl rfl (by decide) w_299 rfl rfl rfl ?_
        refine g_iload_n 1 (dk D_X2_rank 34 rfl) rfl rfl ?_
        refine g_callV (As := [.int (v1)]) (kc := 0) (fr := 2) (lo := 59) (mc := 0) (My := M_X4_standing) (dk D_X2_rank 35 rfl) roadP_3.1 rfl rfl w_541 w_542 w_543 w_103 w_544 okD_X4_standing (by decide) (Nat.le_of_ble_eq_true rfl) rfl (c_X4_standing 3 (v1) (roadP_3) (h) _ hw) kxN (kIp (fun z6 hw => ?_))
        refine g_icmp_ne (dk D_X2_rank 36 rfl) rfl (wif_m hw (fun hw => ?_) (fun hw => ?_))
        · exact t_X2_rank_b77 (v1) (v2) (v3) (v4) K2 K15 (h) Q hK2 hK15 hw
        · refine g_iinc 3 (dk D_X2_rank 37 rfl) rfl (congrArg (fun z => _ + z) ki_1) (by decide) rfl ?_
          refine g_sub [1, 2, 3, 0, 4] rfl ?_
          exact t_X2_rank_b77 (v1) (v2) ((v3 + (1 : Int32))) (v4) K2 K15 (h) Q hK2 hK15 hw
    · refine g_iinc 2 (dk D_X2_rank 23 rfl) rfl (congrArg (fun z => _ + z) ki_1) (by decide) rfl ?_
      refine g_goto (dk D_X2_rank 24 rfl) rfl ?_
      refine g_sub [1, 2, 0, 3, 4] rfl ?_
      exact t_X2_rank_b77 (v1) ((v2 + (1 : Int32))) (v3) (v4) K2 K15 (h) Q hK2 hK15 hw
theorem t_X2_rank_b15 {X : Cx} (v1 : Int32) (K2 : Int32 × Hp → Prop) (h : Hp) (Q : Hp → Prop) (s : Int32 × Int32 × Int32) (hK2 : ∀ s : Int32 × Hp, K2 s → G X M_X2_rank E_X2_rank (QM X E_X2_rank (QV Q) Qn) 0 2 [(0, .ref (44)), (1, .int (s.1))] [] (s.2)) (hw : w_X2_rank_b15 v1 K2 h Q s) : G X M_X2_rank E_X2_rank (QM X E_X2_rank (QV Q) Qn) 0 15 [(0, .ref (44)), (1, .int (v1)), (2, .int (s.1)), (3, .int (s.2.1)), (4, .int (s.2.2))] [] (h) :=
  wl_ind (B := fun K s => w_X2_rank_l15 v1 K2 h Q K (s.1) (s.2.1) (s.2.2)) (P := fun s => G X M_X2_rank E_X2_rank (QM X E_X2_rank (QV Q) Qn) 0 15 [(0, .ref (44)), (1, .int (v1)), (2, .int (s.1)), (3, .int (s.2.1)), (4, .int (s.2.2))] [] (h)) (fun K hK s hw => t_X2_rank_l15 v1 K2 h Q K (s.1) (s.2.1) (s.2.2) hK2 hK hw) s hw
theorem t_X2_rank_l2 {X : Cx} (Q : Hp → Prop) (K2 : Int32 × Hp → Prop) (v1 : Int32) (h : Hp) (hK2 : ∀ s : Int32 × Hp, K2 s → G X M_X2_rank E_X2_rank (QM X E_X2_rank (QV Q) Qn) 0 2 [(0, .ref (44)), (1, .int (s.1))] [] (s.2)) (hw : w_X2_rank_l2 Q K2 v1 h) : G X M_X2_rank E_X2_rank (QM X E_X2_rank (QV Q) Qn) 0 2 [(0, .ref (44)), (1, .int (v1))] [] h := by
  unfold w_X2_rank_l2 at hw
  refine g_iload_n 1 (dk D_X2_rank 2 rfl) rfl rfl ?_
  refine g_bipush (dk D_X2_rank 3 rfl) kb_8 ?_
  refine g_icmp_ge (dk D_X2_rank 4 rfl) rfl (wif_m hw (fun hw => ?_) (fun hw => ?_))
  · exact g_vret (dk D_X2_rank 54 rfl) rfl ⟨rfl, hw⟩
  · refine g_iconst (dk D_X2_rank 5 rfl) ki_0 ?_
    refine g_istore_n (dk D_X2_rank 6 rfl) rfl (by decide) rfl ?_
    refine g_iconst (dk D_X2_rank 7 rfl) ki_0 ?_
    refine g_istore_n (dk D_X2_rank 8 rfl) rfl (by decide) rfl ?_
    refine g_iconst (dk D_X2_rank 9 rfl) ki_0 ?_
    refine g_istore (dk D_X2_rank 10 rfl) (by decide) rfl ?_
    refine g_sub [3, 4, 2, 1, 0] rfl ?_
    exact t_X2_rank_b15 (v1) K2 (h) Q ((0 : Int32), (0 : Int32), (0 : Int32)) hK2 hw
theorem t_X2_rank_b2 {X : Cx} (Q : Hp → Prop) (s : Int32 × Hp) (hw : w_X2_rank_b2 Q s) : G X M_X2_rank E_X2_rank (QM X E_X2_rank (QV Q) Qn) 0 2 [(0, .ref (44)), (1, .int (s.1))] [] (s.2) :=
  wl_ind (B := fun K s => w_X2_rank_l2 Q K (s.1) (s.2)) (P := fun s => G X M_X2_rank E_X2_rank (QM X E_X2_rank (QV Q) Qn) 0 2 [(0, .ref (44)), (1, .int (s.1))] [] (s.2)) (fun K hK s hw => t_X2_rank_l2 Q K (s.1) (s.2) hK hw) s hw
theorem t_X2_rank {X : Cx} (h : Hp) (Q : Hp → Prop) (hw : w_X2_rank h Q) : G X M_X2_rank E_X2_rank (QM X E_X2_rank (QV Q) Qn) 0 0 [(0, .ref (44))] [] h := by
  unfold w_X2_rank at hw
  refine g_iconst (dk D_X2_rank 0 rfl) ki_0 ?_
  refine g_istore_n (dk D_X2_rank 1 rfl) rfl (by decide) rfl ?_
  refine g_sub [1, 0] rfl ?_
  exact t_X2_rank_b2 Q ((0 : Int32), h) hw
theorem c_X2_rank {X : Cx} (h : Hp) (Q : Hp → Prop) (hw : w_X2_rank h Q) : Con X yX2_rank M_X2_rank 3 88 0 [.ref (44)] h (QV Q) Qn :=
  con_of (by decide +kernel) rfl (Nat.le_of_ble_eq_true rfl) (t_X2_rank h Q hw)
/-! ShadowTolls$Planner.begin(IZ)V -/
abbrev M_X2_begin : Mi := (RX2, cX2_begin, 3, none)
abbrev E_X2_begin : Rm := (4, 120, 0, 0)
def rows_X2_begin : List (Nat × Instr × Nat) := [(0, .aload_n 0, 1), (1, .iload_n 1, 1), (2, .putfield 56, 3), (5, .aload_n 0, 1), (6, .aload_n 0, 1), (7, .getfield 52, 3), (10, .invokevirtual 60, 3), (13, .putfield 66, 3), (16, .aload_n 0, 1), (17, .iload_n 2, 1), (18, .ifCond .eq 12, 3), (21, .iconst 2, 1), (22, .aload_n 0, 1), (23, .getfield 66, 3), (26, .imul, 1), (27, .goto 7, 3), (30, .aload_n 0, 1), (31, .getfield 66, 3), (34, .putfield 69, 3), (37, .aload_n 0, 1), (38, .invokevirtual 72, 3), (41, .return_, 1)]
theorem D_X2_begin : dkA cX2_begin rows_X2_begin := by
  unfold dkA
  decide +kernel
theorem okD_X2_begin : okD yX2_begin 2 := by
  unfold okD
  decide +kernel
def w_X2_begin (p1 : Int32) (p2 : Int32) (h : Hp) (Q : Hp → Prop) : Prop :=
  wlet (hup h 44 14 p1) (fun h1 => w_X4_slotCount 3 h1 (fun z2 => wlet (hup h1 44 15 z2) (fun h3 => wlet (hup h3 44 16 (if p2 = 0 then (h3 44 15) else ((2 : Int32) * (h3 44 15)))) (fun h5 => w_X2_rank  h5 (fun h6 => Q h6)))))
theorem t_X2_begin {X : Cx} (p1 : Int32) (p2 : Int32) (h : Hp) (Q : Hp → Prop) (hw : w_X2_begin p1 p2 h Q) : G X M_X2_begin E_X2_begin (QM X E_X2_begin (QV Q) Qn) 0 0 [(0, .ref (44)), (1, .int (p1)), (2, .int (p2))] [] h := by
  unfold w_X2_begin at hw
  refine g_aload_n 0 (dk D_X2_begin 0 rfl) rfl rfl ?_
  refine g_iload_n 1 (dk D_X2_begin 1 rfl) rfl rfl ?_
  refine g_put 14 (dk D_X2_begin 2 rfl) kd_44 rfl rfl (by decide) w_315 rfl tyX2_ok nmX2 rfl (by decide) rfl (fun z => absurd z (by decide)) ?_
  refine g_heap (fun h1 eh1 => ?_)
  replace hw := hw _ eh1
  refine g_aload_n 0 (dk D_X2_begin 3 rfl) rfl rfl ?_
  refine g_aload_n 0 (dk D_X2_begin 4 rfl) rfl rfl ?_
  refine g_getR 0 (t := 3) (dk D_X2_begin 5 rfl) kd_44 rfl rfl (by decide) w_299 rfl rfl rfl ?_
  refine g_callV (As := []) (kc := 0) (fr := 1) (lo := 30) (mc := 0) (My := M_X4_slotCount) (dk D_X2_begin 6 rfl) roadP_3.1 rfl rfl w_536 w_507 w_508 w_103 w_509 okD_X4_slotCount (by decide) (Nat.le_of_ble_eq_true rfl) rfl (c_X4_slotCount 3 (roadP_3) (h1) _ hw) kxN (kIp (fun z2 hw => ?_))
  refine g_put 15 (dk D_X2_begin 7 rfl) kd_44 rfl rfl (by decide) w_316 rfl tyX2_ok nmX2 rfl (by decide) rfl (fun z => absurd z (by decide)) ?_
  refine g_heap (fun h3 eh3 => ?_)
  replace hw := hw _ eh3
  refine g_aload_n 0 (dk D_X2_begin 8 rfl) rfl rfl ?_
  refine g_iload_n 2 (dk D_X2_begin 9 rfl) rfl rfl ?_
  have hj : G X M_X2_begin E_X2_begin (QM X E_X2_begin (QV Q) Qn) 0 34 [(0, .ref (44)), (1, .int (p1)), (2, .int (p2))] [.int ((if p2 = 0 then (h3 44 15) else ((2 : Int32) * (h3 44 15)))), .ref (44)] (h3) := by
    refine g_put 16 (dk D_X2_begin 18 rfl) kd_44 rfl rfl (by decide) w_317 rfl tyX2_ok nmX2 rfl (by decide) rfl (fun z => absurd z (by decide)) ?_
    refine g_heap (fun h5 eh5 => ?_)
    replace hw := hw _ eh5
    refine g_aload_n 0 (dk D_X2_begin 19 rfl) rfl rfl ?_
    refine g_callV (As := []) (kc := 0) (fr := 3) (lo := 88) (mc := 0) (My := M_X2_rank) (dk D_X2_begin 20 rfl) kd_44 rfl rfl w_537 w_539 w_3 w_107 w_540 okD_X2_rank (by decide) (Nat.le_of_ble_eq_true rfl) rfl (c_X2_rank (h5) _ hw) kxN (kV (fun h6 hw => ?_))
    exact g_vret (dk D_X2_begin 21 rfl) rfl ⟨rfl, hw⟩
  refine g_if_eq (dk D_X2_begin 10 rfl) rfl ?_
  by_cases c4 : p2 = 0
  · rw [if_pos c4] at hj
    refine wif_p c4 ?_
    refine g_aload_n 0 (dk D_X2_begin 16 rfl) rfl rfl ?_
    refine g_getI 15 (dk D_X2_begin 17 rfl) kd_44 rfl rfl (by decide) w_316 rfl rfl ?_
    exact hj
  · rw [if_neg c4] at hj
    refine wif_n c4 ?_
    refine g_iconst (dk D_X2_begin 11 rfl) ki_2 ?_
    refine g_aload_n 0 (dk D_X2_begin 12 rfl) rfl rfl ?_
    refine g_getI 15 (dk D_X2_begin 13 rfl) kd_44 rfl rfl (by decide) w_316 rfl rfl ?_
    refine g_imul (dk D_X2_begin 14 rfl) ?_
    refine g_goto (dk D_X2_begin 15 rfl) rfl ?_
    exact hj
theorem c_X2_begin {X : Cx} (p1 : Int32) (p2 : Int32) (h : Hp) (Q : Hp → Prop) (hw : w_X2_begin p1 p2 h Q) : Con X yX2_begin M_X2_begin 4 120 0 [.ref (44), .int (p1), .int (p2)] h (QV Q) Qn :=
  con_of (by decide +kernel) rfl (Nat.le_of_ble_eq_true rfl) (t_X2_begin p1 p2 h Q hw)
/-! ShadowTolls$Road.slotMinute(I)I -/
abbrev M_X4_slotMinute : Mi := (RX4, cX4_slotMinute, 2, (some .int))
abbrev E_X4_slotMinute : Rm := (0, 0, 0, 0)
def rows_X4_slotMinute : List (Nat × Instr × Nat) := [(0, .aload_n 0, 1), (1, .getfield 38, 3), (4, .iload_n 1, 1), (5, .aload_n 0, 1), (6, .getfield 44, 3), (9, .imul, 1), (10, .iadd, 1), (11, .ireturn, 1)]
theorem D_X4_slotMinute : dkA cX4_slotMinute rows_X4_slotMinute := by
  unfold dkA
  decide +kernel
theorem okD_X4_slotMinute : okD yX4_slotMinute 1 := by
  unfold okD
  decide +kernel
def w_X4_slotMinute (this : Nat) (p1 : Int32) (h : Hp) (Q : Int32 → Prop) : Prop :=
  Q ((h this 6) + (p1 * (h this 8)))
theorem t_X4_slotMinute {X : Cx} (this : Nat) (p1 : Int32) (h : Hp) (Q : Int32 → Prop) (hthis : RoadP this) (hw : w_X4_slotMinute this p1 h Q) : G X M_X4_slotMinute E_X4_slotMinute (QM X E_X4_slotMinute (QIp h Q) Qn) 0 0 [(0, .ref (this)), (1, .int (p1))] [] h := by
  unfold w_X4_slotMinute at hw
  refine g_aload_n 0 (dk D_X4_slotMinute 0 rfl) rfl rfl ?_
  refine g_getI 6 (dk D_X4_slotMinute 1 rfl) hthis.1 rfl rfl (by decide) w_188 rfl rfl ?_
  refine g_iload_n 1 (dk D_X4_slotMinute 2 rfl) rfl rfl ?_
  refine g_aload_n 0 (dk D_X4_slotMinute 3 rfl) rfl rfl ?_
  refine g_getI 8 (dk D_X4_slotMinute 4 rfl) hthis.1 rfl rfl (by decide) w_194 rfl rfl ?_
  refine g_imul (dk D_X4_slotMinute 5 rfl) ?_
  refine g_iadd (dk D_X4_slotMinute 6 rfl) ?_
  exact g_iret (dk D_X4_slotMinute 7 rfl) rfl ⟨_, rfl, rfl, hw⟩
theorem c_X4_slotMinute {X : Cx} (this : Nat) (p1 : Int32) (hthis : RoadP this) (h : Hp) (Q : Int32 → Prop) (hw : w_X4_slotMinute this p1 h Q) : Con X yX4_slotMinute M_X4_slotMinute 0 0 0 [.ref (this), .int (p1)] h (QIp h Q) Qn :=
  con_of (by decide +kernel) rfl (Nat.le_of_ble_eq_true rfl) (t_X4_slotMinute this p1 h Q hthis hw)
/-! ShadowTolls$Road.mayCome(II)Z -/
abbrev M_X4_mayCome : Mi := (RX4, cX4_mayCome, 3, (some .boolean))
abbrev E_X4_mayCome : Rm := (2, 59, 0, 0)
def rows_X4_mayCome : List (Nat × Instr × Nat) := [(0, .iload_n 2, 1), (1, .aload_n 0, 1), (2, .iload_n 1, 1), (3, .iconst 2, 1), (4, .invokevirtual 78, 3), (7, .if_icmp .lt 17, 3), (10, .iload_n 2, 1), (11, .aload_n 0, 1), (12, .iload_n 1, 1), (13, .iconst 3, 1), (14, .invokevirtual 78, 3), (17, .if_icmp .gt 7, 3), (20, .iconst 1, 1), (21, .goto 4, 3), (24, .iconst 0, 1), (25, .ireturn, 1)]
theorem D_X4_mayCome : dkA cX4_mayCome rows_X4_mayCome := by
  unfold dkA
  decide +kernel
theorem okD_X4_mayCome : okD yX4_mayCome 2 := by
  unfold okD
  decide +kernel
def w_X4_mayCome (this : Nat) (p1 : Int32) (p2 : Int32) (h : Hp) (Q : Int32 → Prop) : Prop :=
  w_X4_trait this (p1) ((2 : Int32)) h (fun z1 => wif (p2 < z1) (Q ((0 : Int32) &&& 1)) (w_X4_trait this (p1) ((3 : Int32)) h (fun z2 => Q ((if z2 < p2 then (0 : Int32) else (1 : Int32)) &&& 1))))
theorem t_X4_mayCome {X : Cx} (this : Nat) (p1 : Int32) (p2 : Int32) (h : Hp) (Q : Int32 → Prop) (hthis : RoadP this) (hw : w_X4_mayCome this p1 p2 h Q) : G X M_X4_mayCome E_X4_mayCome (QM X E_X4_mayCome (QIp h Q) Qn) 0 0 [(0, .ref (this)), (1, .int (p1)), (2, .int (p2))] [] h := by
  unfold w_X4_mayCome at hw
  refine g_iload_n 2 (dk D_X4_mayCome 0 rfl) rfl rfl ?_
  refine g_aload_n 0 (dk D_X4_mayCome 1 rfl) rfl rfl ?_
  refine g_iload_n 1 (dk D_X4_mayCome 2 rfl) rfl rfl ?_
  refine g_iconst (dk D_X4_mayCome 3 rfl) ki_2 ?_
  refine g_callV (As := [.int (p1), .int ((2 : Int32))]) (kc := 0) (fr := 1) (lo := 29) (mc := 0) (My := M_X4_trait) (dk D_X4_mayCome 4 rfl) hthis.1 rfl rfl w_545 w_546 w_547 w_103 w_548 okD_X4_trait (by decide) (Nat.le_of_ble_eq_true rfl) rfl (c_X4_trait this (p1) ((2 : Int32)) (hthis) (h) _ hw) kxN (kIp (fun z1 hw => ?_))
  refine g_icmp_lt (dk D_X4_mayCome 5 rfl) rfl (wif_m hw (fun hw => ?_) (fun hw => ?_))
  · refine g_iconst (dk D_X4_mayCome 14 rfl) ki_0 ?_
    exact g_zret (dk D_X4_mayCome 15 rfl) rfl ⟨_, rfl, rfl, hw⟩
  · refine g_iload_n 2 (dk D_X4_mayCome 6 rfl) rfl rfl ?_
    refine g_aload_n 0 (dk D_X4_mayCome 7 rfl) rfl rfl ?_
    refine g_iload_n 1 (dk D_X4_mayCome 8 rfl) rfl rfl ?_
    refine g_iconst (dk D_X4_mayCome 9 rfl) ki_3 ?_
    refine g_callV (As := [.int (p1), .int ((3 : Int32))]) (kc := 0) (fr := 1) (lo := 29) (mc := 0) (My := M_X4_trait) (dk D_X4_mayCome 10 rfl) hthis.1 rfl rfl w_545 w_546 w_547 w_103 w_548 okD_X4_trait (by decide) (Nat.le_of_ble_eq_true rfl) rfl (c_X4_trait this (p1) ((3 : Int32)) (hthis) (h) _ hw) kxN (kIp (fun z2 hw => ?_))
    have hj : G X M_X4_mayCome E_X4_mayCome (QM X E_X4_mayCome (QIp h Q) Qn) 0 25 [(0, .ref (this)), (1, .int (p1)), (2, .int (p2))] [.int ((if z2 < p2 then (0 : Int32) else (1 : Int32)))] (h) := by
      exact g_zret (dk D_X4_mayCome 15 rfl) rfl ⟨_, rfl, rfl, hw⟩
    refine g_icmp_gt (dk D_X4_mayCome 11 rfl) rfl ?_
    by_cases c3 : z2 < p2
    · rw [if_pos c3] at hj
      refine wif_p c3 ?_
      refine g_iconst (dk D_X4_mayCome 14 rfl) ki_0 ?_
      exact hj
    · rw [if_neg c3] at hj
      refine wif_n c3 ?_
      refine g_iconst (dk D_X4_mayCome 12 rfl) ki_1 ?_
      refine g_goto (dk D_X4_mayCome 13 rfl) rfl ?_
      exact hj
theorem c_X4_mayCome {X : Cx} (this : Nat) (p1 : Int32) (p2 : Int32) (hthis : RoadP this) (h : Hp) (Q : Int32 → Prop) (hw : w_X4_mayCome this p1 p2 h Q) : Con X yX4_mayCome M_X4_mayCome 2 59 0 [.ref (this), .int (p1), .int (p2)] h (QIp h Q) Qn :=
  con_of (by decide +kernel) rfl (Nat.le_of_ble_eq_true rfl) (t_X4_mayCome this p1 p2 h Q hthis hw)
/-! ShadowTolls$Road.altitudeAt(III)I -/
abbrev M_X4_altitudeAt : Mi := (RX4, cX4_altitudeAt, 6, (some .int))
abbrev E_X4_altitudeAt : Rm := (1, 30, 0, 0)
def rows_X4_altitudeAt : List (Nat × Instr × Nat) := [(0, .iload_n 1, 1), (1, .ifCond .ne 9, 3), (4, .sipush 720, 3), (7, .goto 11, 3), (10, .sipush 720, 3), (13, .aload_n 0, 1), (14, .getfield 53, 3), (17, .isub, 1), (18, .istore 4, 2), (20, .aload_n 0, 1), (21, .getfield 15, 3), (24, .iload_n 2, 1), (25, .invokestatic 70, 3), (28, .aload_n 0, 1), (29, .getfield 35, 3), (32, .iload_n 3, 1), (33, .iload 4, 2), (35, .isub, 1), (36, .invokestatic 87, 3), (39, .imul, 1), (40, .isub, 1), (41, .istore 5, 2), (43, .iload 5, 2), (45, .iconst 1, 1), (46, .if_icmp .ge 10, 3), (49, .aload_n 0, 1), (50, .getfield 50, 3), (53, .goto 5, 3), (56, .iload 5, 2), (58, .ireturn, 1)]
theorem D_X4_altitudeAt : dkA cX4_altitudeAt rows_X4_altitudeAt := by
  unfold dkA
  decide +kernel
theorem okD_X4_altitudeAt : okD yX4_altitudeAt 3 := by
  unfold okD
  decide +kernel
def w_X4_altitudeAt (this : Nat) (p1 : Int32) (p2 : Int32) (p3 : Int32) (h : Hp) (Q : Int32 → Prop) : Prop :=
  wlet ((if ¬ p1 = 0 then ((720 : Int32) - (h this 11)) else (720 : Int32))) (fun v4_2 => w_X8_at (tg this 1) 30 (p2) h (fun z3 => wlet ((z3 - ((h this 5) * (if 0 ≤ (p3 - v4_2) then (p3 - v4_2) else 0 - (p3 - v4_2))))) (fun v5_4 => Q (if (1 : Int32) ≤ v5_4 then v5_4 else (h this 10)))))
theorem t_X4_altitudeAt {X : Cx} (this : Nat) (p1 : Int32) (p2 : Int32) (p3 : Int32) (h : Hp) (Q : Int32 → Prop) (hthis : RoadP this) (hw : w_X4_altitudeAt this p1 p2 p3 h Q) : G X M_X4_altitudeAt E_X4_altitudeAt (QM X E_X4_altitudeAt (QIp h Q) Qn) 0 0 [(0, .ref (this)), (1, .int (p1)), (2, .int (p2)), (3, .int (p3))] [] h := by
  unfold w_X4_altitudeAt at hw
  refine g_iload_n 1 (dk D_X4_altitudeAt 0 rfl) rfl rfl ?_
  have hj : G X M_X4_altitudeAt E_X4_altitudeAt (QM X E_X4_altitudeAt (QIp h Q) Qn) 0 18 [(0, .ref (this)), (1, .int (p1)), (2, .int (p2)), (3, .int (p3))] [.int ((if ¬ p1 = 0 then ((720 : Int32) - (h this 11)) else (720 : Int32)))] (h) := by
    refine g_topi (fun v4_2 ev4_2 => ?_)
    replace hw := hw _ ev4_2
    refine g_istore (dk D_X4_altitudeAt 8 rfl) (by decide) rfl ?_
    refine g_aload_n 1 (dk D_X4_altitudeAt 9 rfl) rfl rfl ?_
    refine g_getR 1 (t := (tg this 1)) (dk D_X4_altitudeAt 10 rfl) hthis.1 rfl rfl (by decide) w_176 rfl rfl rfl ?_
    refine g_iload_n 3 (dk D_X4_altitudeAt 11 rfl) rfl rfl ?_
    refine g_callSN (As := [.ref ((tg this 1)), .int (p2)]) (kc := 0) (fr := 0) (lo := 0) (mc := 0) (My := M_X8_at) (dk D_X4_altitudeAt 12 rfl) w_549 w_518 w_101 w_519 okD_X8_at (by decide) (Nat.le_of_ble_eq_true rfl) rfl (c_X8_at (tg this 1) 30 (p2) (hthis.2.2.1) (h) _ hw) kxN (kIp (fun z3 hw => ?_))
    refine g_aload_n 1 (dk D_X4_altitudeAt 13 rfl) rfl rfl ?_
    refine g_getI 5 (dk D_X4_altitudeAt 14 rfl) hthis.1 rfl rfl (by decide) w_185 rfl rfl ?_
    refine g_iload_n 4 (dk D_X4_altitudeAt 15 rfl) rfl rfl ?_
    refine g_iload 0 (dk D_X4_altitudeAt 16 rfl) rfl ?_
    refine g_isub (dk D_X4_altitudeAt 17 rfl) ?_
    refine g_mabs (dk D_X4_altitudeAt 18 rfl) w_579 (by decide) (Nat.le_of_ble_eq_true rfl) ?_
    refine g_imul (dk D_X4_altitudeAt 19 rfl) ?_
    refine g_isub (dk D_X4_altitudeAt 20 rfl) ?_
    refine g_topi (fun v5_4 ev5_4 => ?_)
    replace hw := hw _ ev5_4
    refine g_istore (dk D_X4_altitudeAt 21 rfl) (by decide) rfl ?_
    refine g_iload 0 (dk D_X4_altitudeAt 22 rfl) rfl ?_
    refine g_iconst (dk D_X4_altitudeAt 23 rfl) ki_1 ?_
    have hj : G X M_X4_altitudeAt E_X4_altitudeAt (QM X E_X4_altitudeAt (QIp h Q) Qn) 0 58 [(5, .int (v5_4)), (4, .int (v4_2)), (0, .ref (this)), (1, .int (p1)), (2, .int (p2)), (3, .int (p3))] [.int ((if (1 : Int32) ≤ v5_4 then v5_4 else (h this 10)))] (h) := by
      exact g_iret (dk D_X4_altitudeAt 29 rfl) rfl ⟨_, rfl, rfl, hw⟩
    refine g_icmp_ge (dk D_X4_altitudeAt 24 rfl) rfl ?_
    by_cases c5 : (1 : Int32) ≤ v5_4
    · rw [if_pos c5] at hj
      refine wif_p c5 ?_
      refine g_iload 0 (dk D_X4_altitudeAt 28 rfl) rfl ?_
      exact hj
    · rw [if_neg c5] at hj
      refine wif_n c5 ?_
      refine g_aload_n 2 (dk D_X4_altitudeAt 25 rfl) rfl rfl ?_
      refine g_getI 10 (dk D_X4_altitudeAt 26 rfl) hthis.1 rfl rfl (by decide) w_201 rfl rfl ?_
      refine g_goto (dk D_X4_altitudeAt 27 rfl) rfl ?_
      exact hj
  refine g_if_ne (dk D_X4_altitudeAt 1 rfl) rfl ?_
  by_cases c1 : ¬ p1 = 0
  · rw [if_pos c1] at hj
    refine wif_p c1 ?_
    refine g_sipush (dk D_X4_altitudeAt 4 rfl) ks_720 ?_
    refine g_aload_n 0 (dk D_X4_altitudeAt 5 rfl) rfl rfl ?_
    refine g_getI 11 (dk D_X4_altitudeAt 6 rfl) hthis.1 rfl rfl (by decide) w_204 rfl rfl ?_
    refine g_isub (dk D_X4_altitudeAt 7 rfl) ?_
    exact hj
  · rw [if_neg c1] at hj
    refine wif_n c1 ?_
    refine g_sipush (dk D_X4_altitudeAt 2 rfl) ks_720 ?_
    refine g_goto (dk D_X4_altitudeAt 3 rfl) rfl ?_
    exact hj
theorem c_X4_altitudeAt {X : Cx} (this : Nat) (p1 : Int32) (p2 : Int32) (p3 : Int32) (hthis : RoadP this) (h : Hp) (Q : Int32 → Prop) (hw : w_X4_altitudeAt this p1 p2 p3 h Q) : Con X yX4_altitudeAt M_X4_altitudeAt 1 30 0 [.ref (this), .int (p1), .int (p2), .int (p3)] h (QIp h Q) Qn :=
  con_of (by decide +kernel) rfl (Nat.le_of_ble_eq_true rfl) (t_X4_altitudeAt this p1 p2 p3 h Q hthis hw)
/-! ShadowTolls.shadowOf(II)I -/
abbrev M_X8_shadowOf : Mi := (RX8, cX8_shadowOf, 2, (some .int))
abbrev E_X8_shadowOf : Rm := (1, 30, 0, 0)
def rows_X8_shadowOf : List (Nat × Instr × Nat) := [(0, .iload_n 1, 1), (1, .ifCond .gt 5, 3), (4, .iconst 0, 1), (5, .ireturn, 1), (6, .sipush 9999, 3), (9, .iload_n 0, 1), (10, .sipush 5400, 3), (13, .iload_n 1, 1), (14, .isub, 1), (15, .imul, 1), (16, .iload_n 1, 1), (17, .idiv, 1), (18, .invokestatic 325, 3), (21, .ireturn, 1)]
theorem D_X8_shadowOf : dkA cX8_shadowOf rows_X8_shadowOf := by
  unfold dkA
  decide +kernel
theorem okD_X8_shadowOf : okD yX8_shadowOf 2 := by
  unfold okD
  decide +kernel
def w_X8_shadowOf (p0 : Int32) (p1 : Int32) (h : Hp) (Q : Int32 → Prop) : Prop :=
  wif (0 < p1) ((¬ p1 = 0 ∧ Q (if ((p0 * ((5400 : Int32) - p1)) / p1) < (9999 : Int32) then ((p0 * ((5400 : Int32) - p1)) / p1) else (9999 : Int32)))) (Q (0 : Int32))
theorem t_X8_shadowOf {X : Cx} (p0 : Int32) (p1 : Int32) (h : Hp) (Q : Int32 → Prop) (hw : w_X8_shadowOf p0 p1 h Q) : G X M_X8_shadowOf E_X8_shadowOf (QM X E_X8_shadowOf (QIp h Q) Qn) 0 0 [(0, .int (p0)), (1, .int (p1))] [] h := by
  unfold w_X8_shadowOf at hw
  refine g_iload_n 1 (dk D_X8_shadowOf 0 rfl) rfl rfl ?_
  refine g_if_gt (dk D_X8_shadowOf 1 rfl) rfl (wif_m hw (fun hw => ?_) (fun hw => ?_))
  · refine g_sipush (dk D_X8_shadowOf 4 rfl) ks_9999 ?_
    refine g_iload_n 0 (dk D_X8_shadowOf 5 rfl) rfl rfl ?_
    refine g_sipush (dk D_X8_shadowOf 6 rfl) ks_5400 ?_
    refine g_iload_n 1 (dk D_X8_shadowOf 7 rfl) rfl rfl ?_
    refine g_isub (dk D_X8_shadowOf 8 rfl) ?_
    refine g_imul (dk D_X8_shadowOf 9 rfl) ?_
    refine g_iload_n 1 (dk D_X8_shadowOf 10 rfl) rfl rfl ?_
    obtain ⟨d1, hw⟩ := hw
    refine g_idiv (dk D_X8_shadowOf 11 rfl) d1 ?_
    refine g_mmin (dk D_X8_shadowOf 12 rfl) w_590 (by decide) (Nat.le_of_ble_eq_true rfl) ?_
    exact g_iret (dk D_X8_shadowOf 13 rfl) rfl ⟨_, rfl, rfl, hw⟩
  · refine g_iconst (dk D_X8_shadowOf 2 rfl) ki_0 ?_
    exact g_iret (dk D_X8_shadowOf 3 rfl) rfl ⟨_, rfl, rfl, hw⟩
theorem c_X8_shadowOf {X : Cx} (p0 : Int32) (p1 : Int32) (h : Hp) (Q : Int32 → Prop) (hw : w_X8_shadowOf p0 p1 h Q) : Con X yX8_shadowOf M_X8_shadowOf 1 30 0 [.int (p0), .int (p1)] h (QIp h Q) Qn :=
  con_of (by decide +kernel) rfl (Nat.le_of_ble_eq_true rfl) (t_X8_shadowOf p0 p1 h Q hw)
/-! ShadowTolls$Road.charge(LShadowTolls$Law;IIIII)I -/
abbrev M_X4_charge : Mi := (RX4, cX4_charge, 7, (some .int))
abbrev E_X4_charge : Rm := (2, 63, 0, 0)
def rows_X4_charge : List (Nat × Instr × Nat) := [(0, .aload_n 1, 1), (1, .iconst (-1), 1), (2, .iload_n 3, 1), (3, .iload_n 2, 1), (4, .invokestatic 93, 3), (7, .invokevirtual 96, 3), (10, .aload_n 1, 1), (11, .bipush (-2), 2), (13, .iload_n 3, 1), (14, .invokevirtual 96, 3), (17, .aload_n 1, 1), (18, .bipush (-3), 2), (20, .iload 4, 2), (22, .invokevirtual 96, 3), (25, .aload_n 1, 1), (26, .bipush (-4), 2), (28, .iload 6, 2), (30, .bipush 60, 2), (32, .idiv, 1), (33, .invokevirtual 96, 3), (36, .aload_n 1, 1), (37, .bipush (-5), 2), (39, .iload 5, 2), (41, .invokevirtual 96, 3), (44, .aload_n 1, 1), (45, .bipush (-6), 2), (47, .aload_n 0, 1), (48, .getfield 18, 3), (51, .iload 5, 2), (53, .invokestatic 70, 3), (56, .invokevirtual 96, 3), (59, .aload_n 1, 1), (60, .invokevirtual 100, 3), (63, .ireturn, 1)]
theorem D_X4_charge : dkA cX4_charge rows_X4_charge := by
  unfold dkA
  decide +kernel
theorem okD_X4_charge : okD yX4_charge 6 := by
  unfold okD
  decide +kernel
def w_X4_charge (this : Nat) (r1 : Nat) (p2 : Int32) (p3 : Int32) (p4 : Int32) (p5 : Int32) (p6 : Int32) (h : Hp) (Q : Int32 → Hp → Prop) : Prop :=
  w_X8_shadowOf (p3) (p2) h (fun z1 => w_X0_learn r1 ((-1 : Int32)) (z1) h (fun h2 => w_X0_learn r1 ((-2 : Int32)) (p3) h2 (fun h3 => w_X0_learn r1 ((-3 : Int32)) (p4) h3 (fun h4 => w_X0_learn r1 ((-4 : Int32)) ((p6 / (60 : Int32))) h4 (fun h5 => w_X0_learn r1 ((-5 : Int32)) (p5) h5 (fun h6 => w_X8_at (tg this 2) 30 (p5) h6 (fun z7 => w_X0_learn r1 ((-6 : Int32)) (z7) h6 (fun h8 => w_X0_sum r1 h8 (fun z9 h10 => Q z9 h10)))))))))
theorem t_X4_charge {X : Cx} (this : Nat) (r1 : Nat) (p2 : Int32) (p3 : Int32) (p4 : Int32) (p5 : Int32) (p6 : Int32) (h : Hp) (Q : Int32 → Hp → Prop) (hthis : RoadP this) (hr1 : LawP r1) (hw : w_X4_charge this r1 p2 p3 p4 p5 p6 h Q) : G X M_X4_charge E_X4_charge (QM X E_X4_charge (QI Q) Qn) 0 0 [(0, .ref (this)), (1, .ref (r1)), (2, .int (p2)), (3, .int (p3)), (4, .int (p4)), (5, .int (p5)), (6, .int (p6))] [] h := by
  unfold w_X4_charge at hw
  refine g_aload_n 1 (dk D_X4_charge 0 rfl) rfl rfl ?_
  refine g_iconst (dk D_X4_charge 1 rfl) ki_m1 ?_
  refine g_iload_n 3 (dk D_X4_charge 2 rfl) rfl rfl ?_
  refine g_iload_n 2 (dk D_X4_charge 3 rfl) rfl rfl ?_
  refine g_callSN (As := [.int (p3), .int (p2)]) (kc := 0) (fr := 1) (lo := 30) (mc := 0) (My := M_X8_shadowOf) (dk D_X4_charge 4 rfl) w_587 w_588 w_101 w_589 okD_X8_shadowOf (by decide) (Nat.le_of_ble_eq_true rfl) rfl (c_X8_shadowOf (p3) (p2) (h) _ hw) kxN (kIp (fun z1 hw => ?_))
  refine g_callV (As := [.int ((-1 : Int32)), .int (z1)]) (kc := 0) (fr := 1) (lo := 30) (mc := 0) (My := M_X0_learn) (dk D_X4_charge 5 rfl) hr1.1 rfl rfl w_591 w_592 w_593 w_104 w_594 okD_X0_learn (by decide) (Nat.le_of_ble_eq_true rfl) rfl (c_X0_learn r1 ((-1 : Int32)) (z1) (hr1) (h) _ hw) kxN (kV (fun h2 hw => ?_))
  refine g_aload_n 1 (dk D_X4_charge 6 rfl) rfl rfl ?_
  refine g_bipush (dk D_X4_charge 7 rfl) kb_m2 ?_
  refine g_iload_n 3 (dk D_X4_charge 8 rfl) rfl rfl ?_
  refine g_callV (As := [.int ((-2 : Int32)), .int (p3)]) (kc := 0) (fr := 1) (lo := 30) (mc := 0) (My := M_X0_learn) (dk D_X4_charge 9 rfl) hr1.1 rfl rfl w_591 w_592 w_593 w_104 w_594 okD_X0_learn (by decide) (Nat.le_of_ble_eq_true rfl) rfl (c_X0_learn r1 ((-2 : Int32)) (p3) (hr1) (h2) _ hw) kxN (kV (fun h3 hw => ?_))
  refine g_aload_n 1 (dk D_X4_charge 10 rfl) rfl rfl ?_
  refine g_bipush (dk D_X4_charge 11 rfl) kb_m3 ?_
  refine g_iload 4 (dk D_X4_charge 12 rfl) rfl ?_
  refine g_callV (As := [.int ((-3 : Int32)), .int (p4)]) (kc := 0) (fr := 1) (lo := 30) (mc := 0) (My := M_X0_learn) (dk D_X4_charge 13 rfl) hr1.1 rfl rfl w_591 w_592 w_593 w_104 w_594 okD_X0_learn (by decide) (Nat.le_of_ble_eq_true rfl) rfl (c_X0_learn r1 ((-3 : Int32)) (p4) (hr1) (h3) _ hw) kxN (kV (fun h4 hw => ?_))
  refine g_aload_n 1 (dk D_X4_charge 14 rfl) rfl rfl ?_
  refine g_bipush (dk D_X4_charge 15 rfl) kb_m4 ?_
  refine g_iload 6 (dk D_X4_charge 16 rfl) rfl ?_
  refine g_bipush (dk D_X4_charge 17 rfl) kb_60 ?_
  refine g_idiv (dk D_X4_charge 18 rfl) (by decide) ?_
  refine g_callV (As := [.int ((-4 : Int32)), .int ((p6 / (60 : Int32)))]) (kc := 0) (fr := 1) (lo := 30) (mc := 0) (My := M_X0_learn) (dk D_X4_charge 19 rfl) hr1.1 rfl rfl w_591 w_592 w_593 w_104 w_594 okD_X0_learn (by decide) (Nat.le_of_ble_eq_true rfl) rfl (c_X0_learn r1 ((-4 : Int32)) ((p6 / (60 : Int32))) (hr1) (h4) _ hw) kxN (kV (fun h5 hw => ?_))
  refine g_aload_n 1 (dk D_X4_charge 20 rfl) rfl rfl ?_
  refine g_bipush (dk D_X4_charge 21 rfl) kb_m5 ?_
  refine g_iload 5 (dk D_X4_charge 22 rfl) rfl ?_
  refine g_callV (As := [.int ((-5 : Int32)), .int (p5)]) (kc := 0) (fr := 1) (lo := 30) (mc := 0) (My := M_X0_learn) (dk D_X4_charge 23 rfl) hr1.1 rfl rfl w_591 w_592 w_593 w_104 w_594 okD_X0_learn (by decide) (Nat.le_of_ble_eq_true rfl) rfl (c_X0_learn r1 ((-5 : Int32)) (p5) (hr1) (h5) _ hw) kxN (kV (fun h6 hw => ?_))
  refine g_aload_n 1 (dk D_X4_charge 24 rfl) rfl rfl ?_
  refine g_bipush (dk D_X4_charge 25 rfl) kb_m6 ?_
  refine g_aload_n 0 (dk D_X4_charge 26 rfl) rfl rfl ?_
  refine g_getR 2 (t := (tg this 2)) (dk D_X4_charge 27 rfl) hthis.1 rfl rfl (by decide) w_178 rfl rfl rfl ?_
  refine g_iload 5 (dk D_X4_charge 28 rfl) rfl ?_
  refine g_callSN (As := [.ref ((tg this 2)), .int (p5)]) (kc := 0) (fr := 0) (lo := 0) (mc := 0) (My := M_X8_at) (dk D_X4_charge 29 rfl) w_549 w_518 w_101 w_519 okD_X8_at (by decide) (Nat.le_of_ble_eq_true rfl) rfl (c_X8_at (tg this 2) 30 (p5) (hthis.2.2.2.1) (h6) _ hw) kxN (kIp (fun z7 hw => ?_))
  refine g_callV (As := [.int ((-6 : Int32)), .int (z7)]) (kc := 0) (fr := 1) (lo := 30) (mc := 0) (My := M_X0_learn) (dk D_X4_charge 30 rfl) hr1.1 rfl rfl w_591 w_592 w_593 w_104 w_594 okD_X0_learn (by decide) (Nat.le_of_ble_eq_true rfl) rfl (c_X0_learn r1 ((-6 : Int32)) (z7) (hr1) (h6) _ hw) kxN (kV (fun h8 hw => ?_))
  refine g_aload_n 1 (dk D_X4_charge 31 rfl) rfl rfl ?_
  refine g_callV (As := []) (kc := 0) (fr := 1) (lo := 30) (mc := 0) (My := M_X0_sum) (dk D_X4_charge 32 rfl) hr1.1 rfl rfl w_596 w_597 w_598 w_104 w_599 okD_X0_sum (by decide) (Nat.le_of_ble_eq_true rfl) rfl (c_X0_sum r1 (hr1) (h8) _ hw) kxN (kI (fun z9 h10 hw => ?_))
  exact g_iret (dk D_X4_charge 33 rfl) rfl ⟨_, rfl, hw⟩
theorem c_X4_charge {X : Cx} (this : Nat) (r1 : Nat) (p2 : Int32) (p3 : Int32) (p4 : Int32) (p5 : Int32) (p6 : Int32) (hthis : RoadP this) (hr1 : LawP r1) (h : Hp) (Q : Int32 → Hp → Prop) (hw : w_X4_charge this r1 p2 p3 p4 p5 p6 h Q) : Con X yX4_charge M_X4_charge 2 63 0 [.ref (this), .ref (r1), .int (p2), .int (p3), .int (p4), .int (p5), .int (p6)] h (QI Q) Qn :=
  con_of (by decide +kernel) rfl (Nat.le_of_ble_eq_true rfl) (t_X4_charge this r1 p2 p3 p4 p5 p6 h Q hthis hr1 hw)
