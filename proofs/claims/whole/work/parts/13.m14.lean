/-! ShadowTollsModel.ors()V -/
abbrev M_X9_unit_o : Mi := (RX9, cX9_unit, 4, none)
def rows_X9_unit_o : List (Nat × Instr × Nat) := [(0, .aload_n 0, 1), (1, .invokevirtual 230, 3), (4, .istore_n 1, 1), (5, .aload_n 0, 1), (6, .invokevirtual 243, 3), (9, .istore_n 2, 1), (10, .aload_n 0, 1), (11, .getfield 127, 3), (14, .ifCond .eq 4, 3), (17, .return_, 1), (18, .iload_n 1, 1), (19, .invokestatic 136, 3), (22, .ifCond .eq 25, 3), (25, .aload_n 0, 1), (26, .iconst 0, 1), (27, .sipush 9999, 3), (30, .invokevirtual 195, 3), (33, .istore_n 3, 1), (34, .aload_n 0, 1), (35, .iconst 0, 1), (36, .invokevirtual 233, 3), (39, .aload_n 0, 1), (40, .iload_n 3, 1), (41, .invokevirtual 233, 3), (44, .goto 62, 3), (47, .iload_n 2, 1), (48, .ifCond .le 15, 3), (51, .aload_n 0, 1), (52, .invokevirtual 163, 3), (55, .aload_n 0, 1), (56, .iload_n 2, 1), (57, .invokevirtual 233, 3), (60, .goto 46, 3), (63, .iload_n 1, 1), (64, .bipush 40, 2), (66, .if_icmp .ne 31, 3), (69, .aload_n 0, 1), (70, .iconst 1, 1), (71, .invokevirtual 246, 3), (74, .aload_n 0, 1), (75, .invokevirtual 249, 3), (78, .aload_n 0, 1), (79, .bipush 41, 2), (81, .invokevirtual 192, 3), (84, .aload_n 0, 1), (85, .dup, 1), (86, .getfield 166, 3), (89, .iconst 1, 1), (90, .isub, 1), (91, .putfield 166, 3), (94, .goto 12, 3), (97, .aload_n 0, 1), (98, .iconst 1, 1), (99, .aload_n 0, 1), (100, .getfield 120, 3), (103, .invokevirtual 140, 3), (106, .return_, 1)]
theorem D_X9_unit_o : dkA cX9_unit rows_X9_unit_o := by
  unfold dkA
  decide +kernel
theorem okD_X9_unit_o : okD yX9_unit 0 := by
  unfold okD
  decide +kernel
abbrev M_X9_product_o : Mi := (RX9, cX9_product, 2, none)
def rows_X9_product_o : List (Nat × Instr × Nat) := [(0, .aload_n 0, 1), (1, .invokevirtual 236, 3), (4, .aload_n 0, 1), (5, .invokevirtual 230, 3), (8, .istore_n 1, 1), (9, .aload_n 0, 1), (10, .getfield 127, 3), (13, .ifCond .ne 54, 3), (16, .iload_n 1, 1), (17, .bipush 42, 2), (19, .if_icmp .eq 9, 3), (22, .iload_n 1, 1), (23, .bipush 47, 2), (25, .if_icmp .ne 42, 3), (28, .aload_n 0, 1), (29, .dup, 1), (30, .getfield 120, 3), (33, .iconst 1, 1), (34, .iadd, 1), (35, .putfield 120, 3), (38, .aload_n 0, 1), (39, .invokevirtual 236, 3), (42, .aload_n 0, 1), (43, .iload_n 1, 1), (44, .bipush 42, 2), (46, .if_icmp .ne 8, 3), (49, .bipush 12, 2), (51, .goto 5, 3), (54, .bipush 13, 2), (56, .invokevirtual 233, 3), (59, .aload_n 0, 1), (60, .invokevirtual 230, 3), (63, .istore_n 1, 1), (64, .goto (-55), 3), (67, .return_, 1)]
theorem D_X9_product_o : dkA cX9_product rows_X9_product_o := by
  unfold dkA
  decide +kernel
theorem okD_X9_product_o : okD yX9_product 0 := by
  unfold okD
  decide +kernel
abbrev M_X9_sum_o : Mi := (RX9, cX9_sum, 2, none)
def rows_X9_sum_o : List (Nat × Instr × Nat) := [(0, .aload_n 0, 1), (1, .invokevirtual 227, 3), (4, .aload_n 0, 1), (5, .invokevirtual 230, 3), (8, .istore_n 1, 1), (9, .aload_n 0, 1), (10, .getfield 127, 3), (13, .ifCond .ne 54, 3), (16, .iload_n 1, 1), (17, .bipush 43, 2), (19, .if_icmp .eq 9, 3), (22, .iload_n 1, 1), (23, .bipush 45, 2), (25, .if_icmp .ne 42, 3), (28, .aload_n 0, 1), (29, .dup, 1), (30, .getfield 120, 3), (33, .iconst 1, 1), (34, .iadd, 1), (35, .putfield 120, 3), (38, .aload_n 0, 1), (39, .invokevirtual 227, 3), (42, .aload_n 0, 1), (43, .iload_n 1, 1), (44, .bipush 43, 2), (46, .if_icmp .ne 8, 3), (49, .bipush 10, 2), (51, .goto 5, 3), (54, .bipush 11, 2), (56, .invokevirtual 233, 3), (59, .aload_n 0, 1), (60, .invokevirtual 230, 3), (63, .istore_n 1, 1), (64, .goto (-55), 3), (67, .return_, 1)]
theorem D_X9_sum_o : dkA cX9_sum rows_X9_sum_o := by
  unfold dkA
  decide +kernel
theorem okD_X9_sum_o : okD yX9_sum 0 := by
  unfold okD
  decide +kernel
abbrev M_X9_asked_o : Mi := (RX9, cX9_asked, 2, none)
def rows_X9_asked_o : List (Nat × Instr × Nat) := [(0, .aload_n 0, 1), (1, .bipush 14, 2), (3, .bipush 15, 2), (5, .bipush 20, 2), (7, .iconst 0, 1), (8, .iconst 0, 1), (9, .invokestatic 172, 3), (12, .invokevirtual 159, 3), (15, .ifCond .eq 31, 3), (18, .aload_n 0, 1), (19, .iconst 3, 1), (20, .invokevirtual 246, 3), (23, .aload_n 0, 1), (24, .invokevirtual 260, 3), (27, .aload_n 0, 1), (28, .bipush 17, 2), (30, .invokevirtual 233, 3), (33, .aload_n 0, 1), (34, .dup, 1), (35, .getfield 166, 3), (38, .iconst 1, 1), (39, .isub, 1), (40, .putfield 166, 3), (43, .goto 125, 3), (46, .aload_n 0, 1), (47, .invokevirtual 230, 3), (50, .bipush 91, 2), (52, .if_icmp .ne 31, 3), (55, .aload_n 0, 1), (56, .iconst 1, 1), (57, .invokevirtual 246, 3), (60, .aload_n 0, 1), (61, .invokevirtual 263, 3), (64, .aload_n 0, 1), (65, .bipush 93, 2), (67, .invokevirtual 192, 3), (70, .aload_n 0, 1), (71, .dup, 1), (72, .getfield 166, 3), (75, .iconst 1, 1), (76, .isub, 1), (77, .putfield 166, 3), (80, .goto 88, 3), (83, .aload_n 0, 1), (84, .invokevirtual 249, 3), (87, .aload_n 0, 1), (88, .invokevirtual 230, 3), (91, .istore_n 1, 1), (92, .aload_n 0, 1), (93, .getfield 127, 3), (96, .ifCond .ne 30, 3), (99, .iload_n 1, 1), (100, .bipush 60, 2), (102, .if_icmp .eq 24, 3), (105, .iload_n 1, 1), (106, .bipush 62, 2), (108, .if_icmp .eq 18, 3), (111, .iload_n 1, 1), (112, .bipush 61, 2), (114, .if_icmp .eq 12, 3), (117, .aload_n 0, 1), (118, .iconst 1, 1), (119, .aload_n 0, 1), (120, .getfield 120, 3), (123, .invokevirtual 140, 3), (126, .aload_n 0, 1), (127, .dup, 1), (128, .getfield 120, 3), (131, .iconst 1, 1), (132, .iadd, 1), (133, .putfield 120, 3), (136, .aload_n 0, 1), (137, .invokevirtual 249, 3), (140, .aload_n 0, 1), (141, .iload_n 1, 1), (142, .bipush 60, 2), (144, .if_icmp .ne 8, 3), (147, .bipush 14, 2), (149, .goto 16, 3), (152, .iload_n 1, 1), (153, .bipush 62, 2), (155, .if_icmp .ne 8, 3), (158, .bipush 15, 2), (160, .goto 5, 3), (163, .bipush 16, 2), (165, .invokevirtual 233, 3), (168, .return_, 1)]
theorem D_X9_asked_o : dkA cX9_asked rows_X9_asked_o := by
  unfold dkA
  decide +kernel
theorem okD_X9_asked_o : okD yX9_asked 0 := by
  unfold okD
  decide +kernel
abbrev M_X9_ands_o : Mi := (RX9, cX9_ands, 1, none)
def rows_X9_ands_o : List (Nat × Instr × Nat) := [(0, .aload_n 0, 1), (1, .invokevirtual 260, 3), (4, .aload_n 0, 1), (5, .iconst 1, 1), (6, .bipush 14, 2), (8, .iconst 4, 1), (9, .iconst 0, 1), (10, .iconst 0, 1), (11, .invokestatic 172, 3), (14, .invokevirtual 257, 3), (17, .ifCond .eq 16, 3), (20, .aload_n 0, 1), (21, .invokevirtual 260, 3), (24, .aload_n 0, 1), (25, .bipush 18, 2), (27, .invokevirtual 233, 3), (30, .goto (-26), 3), (33, .return_, 1)]
theorem D_X9_ands_o : dkA cX9_ands rows_X9_ands_o := by
  unfold dkA
  decide +kernel
theorem okD_X9_ands_o : okD yX9_ands 0 := by
  unfold okD
  decide +kernel
abbrev M_X9_ors_o : Mi := (RX9, cX9_ors, 1, none)
def rows_X9_ors_o : List (Nat × Instr × Nat) := [(0, .aload_n 0, 1), (1, .invokevirtual 252, 3), (4, .aload_n 0, 1), (5, .ldc2_w 255, 3), (8, .invokevirtual 257, 3), (11, .ifCond .eq 16, 3), (14, .aload_n 0, 1), (15, .invokevirtual 252, 3), (18, .aload_n 0, 1), (19, .bipush 19, 2), (21, .invokevirtual 233, 3), (24, .goto (-20), 3), (27, .return_, 1)]
theorem D_X9_ors_o : dkA cX9_ors rows_X9_ors_o := by
  unfold dkA
  decide +kernel
theorem okD_X9_ors_o : okD yX9_ors 0 := by
  unfold okD
  decide +kernel
def w_X9_unit_o (W : Nat → Hp → (Hp → Prop) → Prop)  (h : Hp) (Q : Hp → Prop) : Prop :=
  w_X9_signHere  h (fun z1 h2 => w_X9_nameHere  h2 (fun z3 h4 => wif ((h4 92 5) = 0) (w_X9_isDigit (z1) h4 (fun z5 => wif (z5 = 0) (wif (z3 ≤ 0) (wif (¬ z1 = (40 : Int32)) (w_X9_wrong ((1 : Int32)) ((h4 92 4)) h4 (fun h6 => Q h6)) (w_X9_opens ((1 : Int32)) h4 (fun h7 => W 2  h7 (fun h8 => w_X9_sign ((41 : Int32)) h8 (fun h9 => wlet (hup h9 92 8 ((h9 92 8) - (1 : Int32))) (fun h10 => Q h10)))))) (w_X9_skipWord  h4 (fun h11 => w_X9_tells (z3) h11 (fun h12 => Q h12)))) (w_X9_number ((0 : Int32)) ((9999 : Int32)) h4 (fun z13 h14 => w_X9_tells ((0 : Int32)) h14 (fun h15 => w_X9_tells (z13) h15 (fun h16 => Q h16)))))) (Q h4)))
def w_X9_product_o_b28 (W : Nat → Hp → (Hp → Prop) → Prop)  (v1 : Int32) (K9 : Int32 × Hp → Prop) (h : Hp) (Q : Hp → Prop) : Prop :=
  wlet (hup h 92 4 ((h 92 4) + (1 : Int32))) (fun h1 => W 0  h1 (fun h2 => w_X9_tells ((if ¬ v1 = (42 : Int32) then (13 : Int32) else (12 : Int32))) h2 (fun h4 => w_X9_signHere  h4 (fun z5 h6 => K9 (z5, h6)))))
def w_X9_product_o_l9 (W : Nat → Hp → (Hp → Prop) → Prop)  (Q : Hp → Prop) (K9 : Int32 × Hp → Prop) (v1 : Int32) (h : Hp) : Prop :=
  wif (¬ (h 92 5) = 0) (Q h) (wif (v1 = (42 : Int32)) (w_X9_product_o_b28 W  (v1) K9 (h) Q) (wif (¬ v1 = (47 : Int32)) (Q h) (w_X9_product_o_b28 W  (v1) K9 (h) Q)))
def w_X9_product_o_b9 (W : Nat → Hp → (Hp → Prop) → Prop)  (Q : Hp → Prop) (s : Int32 × Hp) : Prop := wl (fun K s => w_X9_product_o_l9 W  Q K s.1 s.2) s
def w_X9_product_o (W : Nat → Hp → (Hp → Prop) → Prop)  (h : Hp) (Q : Hp → Prop) : Prop :=
  W 0  h (fun h1 => w_X9_signHere  h1 (fun z2 h3 => w_X9_product_o_b9 W  Q (z2, h3)))
def w_X9_sum_o_b28 (W : Nat → Hp → (Hp → Prop) → Prop)  (v1 : Int32) (K9 : Int32 × Hp → Prop) (h : Hp) (Q : Hp → Prop) : Prop :=
  wlet (hup h 92 4 ((h 92 4) + (1 : Int32))) (fun h1 => W 1  h1 (fun h2 => w_X9_tells ((if ¬ v1 = (43 : Int32) then (11 : Int32) else (10 : Int32))) h2 (fun h4 => w_X9_signHere  h4 (fun z5 h6 => K9 (z5, h6)))))
def w_X9_sum_o_l9 (W : Nat → Hp → (Hp → Prop) → Prop)  (Q : Hp → Prop) (K9 : Int32 × Hp → Prop) (v1 : Int32) (h : Hp) : Prop :=
  wif (¬ (h 92 5) = 0) (Q h) (wif (v1 = (43 : Int32)) (w_X9_sum_o_b28 W  (v1) K9 (h) Q) (wif (¬ v1 = (45 : Int32)) (Q h) (w_X9_sum_o_b28 W  (v1) K9 (h) Q)))
def w_X9_sum_o_b9 (W : Nat → Hp → (Hp → Prop) → Prop)  (Q : Hp → Prop) (s : Int32 × Hp) : Prop := wl (fun K s => w_X9_sum_o_l9 W  Q K s.1 s.2) s
def w_X9_sum_o (W : Nat → Hp → (Hp → Prop) → Prop)  (h : Hp) (Q : Hp → Prop) : Prop :=
  W 1  h (fun h1 => w_X9_signHere  h1 (fun z2 h3 => w_X9_sum_o_b9 W  Q (z2, h3)))
def w_X9_asked_o_b126 (W : Nat → Hp → (Hp → Prop) → Prop)  (v1 : Int32) (h : Hp) (Q : Hp → Prop) : Prop :=
  wlet (hup h 92 4 ((h 92 4) + (1 : Int32))) (fun h1 => W 2  h1 (fun h2 => w_X9_tells ((if ¬ v1 = (60 : Int32) then (if ¬ v1 = (62 : Int32) then (16 : Int32) else (15 : Int32)) else (14 : Int32))) h2 (fun h5 => Q h5)))
def w_X9_asked_o (W : Nat → Hp → (Hp → Prop) → Prop)  (h : Hp) (Q : Hp → Prop) : Prop :=
  w_X9_five ((14 : Int32)) ((15 : Int32)) ((20 : Int32)) ((0 : Int32)) ((0 : Int32)) h (fun z1 => w_X9_isWord (z1) h (fun z2 h3 => wif (z2 = 0) (w_X9_signHere  h3 (fun z4 h5 => wif (¬ z4 = (91 : Int32)) (W 2  h5 (fun h6 => w_X9_signHere  h6 (fun z7 h8 => wif (¬ (h8 92 5) = 0) (w_X9_asked_o_b126 W  (z7) (h8) Q) (wif (z7 = (60 : Int32)) (w_X9_asked_o_b126 W  (z7) (h8) Q) (wif (z7 = (62 : Int32)) (w_X9_asked_o_b126 W  (z7) (h8) Q) (wif (z7 = (61 : Int32)) (w_X9_asked_o_b126 W  (z7) (h8) Q) (w_X9_wrong ((1 : Int32)) ((h8 92 4)) h8 (fun h9 => w_X9_asked_o_b126 W  (z7) (h9) Q)))))))) (w_X9_opens ((1 : Int32)) h5 (fun h10 => W 5  h10 (fun h11 => w_X9_sign ((93 : Int32)) h11 (fun h12 => wlet (hup h12 92 8 ((h12 92 8) - (1 : Int32))) (fun h13 => Q h13))))))) (w_X9_opens ((3 : Int32)) h3 (fun h14 => W 3  h14 (fun h15 => w_X9_tells ((17 : Int32)) h15 (fun h16 => wlet (hup h16 92 8 ((h16 92 8) - (1 : Int32))) (fun h17 => Q h17)))))))
def w_X9_ands_o_l4 (W : Nat → Hp → (Hp → Prop) → Prop)  (Q : Hp → Prop) (K4 : Hp → Prop)  (h : Hp) : Prop :=
  w_X9_five ((1 : Int32)) ((14 : Int32)) ((4 : Int32)) ((0 : Int32)) ((0 : Int32)) h (fun z1 => w_X9_eats (z1) h (fun z2 h3 => wif (z2 = 0) (Q h3) (W 3  h3 (fun h4 => w_X9_tells ((18 : Int32)) h4 (fun h5 => K4 (h5))))))
def w_X9_ands_o_b4 (W : Nat → Hp → (Hp → Prop) → Prop)  (Q : Hp → Prop) (s : Hp) : Prop := wl (fun K s => w_X9_ands_o_l4 W  Q K s) s
def w_X9_ands_o (W : Nat → Hp → (Hp → Prop) → Prop)  (h : Hp) (Q : Hp → Prop) : Prop :=
  W 3  h (fun h1 => w_X9_ands_o_b4 W  Q (h1))
def w_X9_ors_o_l4 (W : Nat → Hp → (Hp → Prop) → Prop)  (Q : Hp → Prop) (K4 : Hp → Prop)  (h : Hp) : Prop :=
  w_X9_eats ((423 : Int64)) h (fun z1 h2 => wif (z1 = 0) (Q h2) (W 4  h2 (fun h3 => w_X9_tells ((19 : Int32)) h3 (fun h4 => K4 (h4)))))
def w_X9_ors_o_b4 (W : Nat → Hp → (Hp → Prop) → Prop)  (Q : Hp → Prop) (s : Hp) : Prop := wl (fun K s => w_X9_ors_o_l4 W  Q K s) s
def w_X9_ors_o (W : Nat → Hp → (Hp → Prop) → Prop)  (h : Hp) (Q : Hp → Prop) : Prop :=
  W 4  h (fun h1 => w_X9_ors_o_b4 W  Q (h1))
theorem t_X9_unit_o {X : Cx} (W : Nat → Hp → (Hp → Prop) → Prop)  (h : Hp) (Q : Hp → Prop) (d : Nat) (hW0 : ∀  (h : Hp) (Q : Hp → Prop), W 0  h Q → Con X yX9_unit M_X9_unit_o (10 + d) (300 + 60 * d) 0 [.ref (92)] h (QV Q) Qn) (hW1 : ∀  (h : Hp) (Q : Hp → Prop), W 1  h Q → Con X yX9_product M_X9_product_o (10 + d) (300 + 60 * d) 0 [.ref (92)] h (QV Q) Qn) (hW2 : ∀  (h : Hp) (Q : Hp → Prop), W 2  h Q → Con X yX9_sum M_X9_sum_o (10 + d) (300 + 60 * d) 0 [.ref (92)] h (QV Q) Qn) (hW3 : ∀  (h : Hp) (Q : Hp → Prop), W 3  h Q → Con X yX9_asked M_X9_asked_o (10 + d) (300 + 60 * d) 0 [.ref (92)] h (QV Q) Qn) (hW4 : ∀  (h : Hp) (Q : Hp → Prop), W 4  h Q → Con X yX9_ands M_X9_ands_o (10 + d) (300 + 60 * d) 0 [.ref (92)] h (QV Q) Qn) (hW5 : ∀  (h : Hp) (Q : Hp → Prop), W 5  h Q → Con X yX9_ors M_X9_ors_o (10 + d) (300 + 60 * d) 0 [.ref (92)] h (QV Q) Qn)  (hw : w_X9_unit_o W  h Q) : G X M_X9_unit_o (Er (d + 1)) (QM X (Er (d + 1)) (QV Q) Qn) 0 0 [(0, .ref (92))] [] h := by
  unfold w_X9_unit_o at hw
  refine g_aload_n 0 (dk D_X9_unit_o 0 rfl) rfl rfl ?_
  refine g_callV (As := []) (kc := 0) (fr := 2) (lo := 57) (mc := 0) (My := M_X9_signHere) (dk D_X9_unit_o 1 rfl) kd_92 rfl rfl w_1620 w_1622 w_60 w_110 w_1623 okD_X9_signHere (er_n d (by decide) (by decide)) (Nat.le_of_ble_eq_true rfl) rfl (c_X9_signHere (h) _ hw) kxN (kI (fun z1 h2 hw => ?_))
  refine g_istore_n (dk D_X9_unit_o 2 rfl) rfl (by decide) rfl ?_
  refine g_aload_n 1 (dk D_X9_unit_o 3 rfl) rfl rfl ?_
  refine g_callV (As := []) (kc := 0) (fr := 4) (lo := 118) (mc := 0) (My := M_X9_nameHere) (dk D_X9_unit_o 4 rfl) kd_92 rfl rfl w_1624 w_1626 w_61 w_110 w_1627 okD_X9_nameHere (er_n d (by decide) (by decide)) (Nat.le_of_ble_eq_true rfl) rfl (c_X9_nameHere (h2) _ hw) kxN (kI (fun z3 h4 hw => ?_))
  refine g_istore_n (dk D_X9_unit_o 5 rfl) rfl (by decide) rfl ?_
  refine g_aload_n 2 (dk D_X9_unit_o 6 rfl) rfl rfl ?_
  refine g_getI 5 (dk D_X9_unit_o 7 rfl) kd_92 rfl rfl (by decide) w_1362 rfl rfl ?_
  refine g_if_eq (dk D_X9_unit_o 8 rfl) rfl (wif_m hw (fun hw => ?_) (fun hw => ?_))
  · refine g_iload_n 1 (dk D_X9_unit_o 10 rfl) rfl rfl ?_
    refine g_callS (As := [.int (z1)]) (kc := 0) (fr := 0) (lo := 0) (mc := 0) (My := M_X9_isDigit) (dk D_X9_unit_o 11 rfl) w_1588 w_1589 w_110 w_1590 okD_X9_isDigit (er_n d (by decide) (by decide)) (Nat.le_of_ble_eq_true rfl) rfl (c_X9_isDigit (z1) (h4) _ hw) kxN (kIp (fun z5 hw => ?_))
    refine g_if_eq (dk D_X9_unit_o 12 rfl) rfl (wif_m hw (fun hw => ?_) (fun hw => ?_))
    · refine g_iload_n 0 (dk D_X9_unit_o 25 rfl) rfl rfl ?_
      refine g_if_le (dk D_X9_unit_o 26 rfl) rfl (wif_m hw (fun hw => ?_) (fun hw => ?_))
      · refine g_iload_n 1 (dk D_X9_unit_o 33 rfl) rfl rfl ?_
        refine g_bipush (dk D_X9_unit_o 34 rfl) kb_40 ?_
        refine g_icmp_ne (dk D_X9_unit_o 35 rfl) rfl (wif_m hw (fun hw => ?_) (fun hw => ?_))
        · refine g_aload_n 2 (dk D_X9_unit_o 51 rfl) rfl rfl ?_
          refine g_iconst (dk D_X9_unit_o 52 rfl) ki_1 ?_
          refine g_aload_n 2 (dk D_X9_unit_o 53 rfl) rfl rfl ?_
          refine g_getI 4 (dk D_X9_unit_o 54 rfl) kd_92 rfl rfl (by decide) w_1361 rfl rfl ?_
          refine g_callV (As := [.int ((1 : Int32)), .int ((h4 92 4))]) (kc := 0) (fr := 0) (lo := 0) (mc := 0) (My := M_X9_wrong) (dk D_X9_unit_o 55 rfl) kd_92 rfl rfl w_1572 w_1574 w_50 w_110 w_1575 okD_X9_wrong (er_n d (by decide) (by decide)) (Nat.le_of_ble_eq_true rfl) rfl (c_X9_wrong ((1 : Int32)) ((h4 92 4)) (h4) _ hw) kxN (kV (fun h6 hw => ?_))
          exact g_vret (dk D_X9_unit_o 56 rfl) rfl ⟨rfl, hw⟩
        · refine g_aload_n 2 (dk D_X9_unit_o 36 rfl) rfl rfl ?_
          refine g_iconst (dk D_X9_unit_o 37 rfl) ki_1 ?_
          refine g_callV (As := [.int ((1 : Int32))]) (kc := 0) (fr := 1) (lo := 30) (mc := 0) (My := M_X9_opens) (dk D_X9_unit_o 38 rfl) kd_92 rfl rfl w_1634 w_1636 w_63 w_110 w_1637 okD_X9_opens (er_n d (by decide) (by decide)) (Nat.le_of_ble_eq_true rfl) rfl (c_X9_opens ((1 : Int32)) (h4) _ hw) kxN (kV (fun h7 hw => ?_))
          refine g_aload_n 2 (dk D_X9_unit_o 39 rfl) rfl rfl ?_
          refine g_callV (As := []) (kc := 0) (fr := (10 + d)) (lo := (300 + 60 * d)) (mc := 0) (My := M_X9_sum_o) (dk D_X9_unit_o 40 rfl) kd_92 rfl rfl w_1608 w_1610 w_57 w_110 w_1611 okD_X9_sum_o (er_r d (by decide)) (Nat.le_of_ble_eq_true rfl) rfl (hW2 (h7) _ hw) kxN (kV (fun h8 hw => ?_))
          refine g_aload_n 2 (dk D_X9_unit_o 41 rfl) rfl rfl ?_
          refine g_bipush (dk D_X9_unit_o 42 rfl) kb_41 ?_
          refine g_callV (As := [.int ((41 : Int32))]) (kc := 0) (fr := 2) (lo := 57) (mc := 0) (My := M_X9_sign) (dk D_X9_unit_o 43 rfl) kd_92 rfl rfl w_1596 w_1598 w_55 w_110 w_1599 okD_X9_sign (er_n d (by decide) (by decide)) (Nat.le_of_ble_eq_true rfl) rfl (c_X9_sign ((41 : Int32)) (h8) _ hw) kxN (kV (fun h9 hw => ?_))
          refine g_aload_n 2 (dk D_X9_unit_o 44 rfl) rfl rfl ?_
          refine g_dup (dk D_X9_unit_o 45 rfl) rfl ?_
          refine g_getI 8 (dk D_X9_unit_o 46 rfl) kd_92 rfl rfl (by decide) w_1365 rfl rfl ?_
          refine g_iconst (dk D_X9_unit_o 47 rfl) ki_1 ?_
          refine g_isub (dk D_X9_unit_o 48 rfl) ?_
          refine g_put 8 (dk D_X9_unit_o 49 rfl) kd_92 rfl rfl (by decide) w_1365 rfl tyX9_ok nmX9 rfl (by decide) rfl (fun z => absurd z (by decide)) ?_
          refine g_heap (fun h10 eh10 => ?_)
          replace hw := hw _ eh10
          refine g_goto (dk D_X9_unit_o 50 rfl) rfl ?_
          exact g_vret (dk D_X9_unit_o 56 rfl) rfl ⟨rfl, hw⟩
      · refine g_aload_n 2 (dk D_X9_unit_o 27 rfl) rfl rfl ?_
        refine g_callV (As := []) (kc := 0) (fr := 1) (lo := 29) (mc := 0) (My := M_X9_skipWord) (dk D_X9_unit_o 28 rfl) kd_92 rfl rfl w_1576 w_1578 w_51 w_110 w_1579 okD_X9_skipWord (er_n d (by decide) (by decide)) (Nat.le_of_ble_eq_true rfl) rfl (c_X9_skipWord (h4) _ hw) kxN (kV (fun h11 hw => ?_))
        refine g_aload_n 2 (dk D_X9_unit_o 29 rfl) rfl rfl ?_
        refine g_iload_n 0 (dk D_X9_unit_o 30 rfl) rfl rfl ?_
        refine g_callV (As := [.int (z3)]) (kc := 0) (fr := 0) (lo := 0) (mc := 0) (My := M_X9_tells) (dk D_X9_unit_o 31 rfl) kd_92 rfl rfl w_1630 w_1632 w_62 w_110 w_1633 okD_X9_tells (er_n d (by decide) (by decide)) (Nat.le_of_ble_eq_true rfl) rfl (c_X9_tells (z3) (h11) _ hw) kxN (kV (fun h12 hw => ?_))
        refine g_goto (dk D_X9_unit_o 32 rfl) rfl ?_
        exact g_vret (dk D_X9_unit_o 56 rfl) rfl ⟨rfl, hw⟩
    · refine g_aload_n 2 (dk D_X9_unit_o 13 rfl) rfl rfl ?_
      refine g_iconst (dk D_X9_unit_o 14 rfl) ki_0 ?_
      refine g_sipush (dk D_X9_unit_o 15 rfl) ks_9999 ?_
      refine g_callV (As := [.int ((0 : Int32)), .int ((9999 : Int32))]) (kc := 0) (fr := 2) (lo := 57) (mc := 0) (My := M_X9_number) (dk D_X9_unit_o 16 rfl) kd_92 rfl rfl w_1584 w_1586 w_53 w_110 w_1587 okD_X9_number (er_n d (by decide) (by decide)) (Nat.le_of_ble_eq_true rfl) rfl (c_X9_number ((0 : Int32)) ((9999 : Int32)) (h4) _ hw) kxN (kI (fun z13 h14 hw => ?_))
      refine g_istore_n (dk D_X9_unit_o 17 rfl) rfl (by decide) rfl ?_
      refine g_aload_n 3 (dk D_X9_unit_o 18 rfl) rfl rfl ?_
      refine g_iconst (dk D_X9_unit_o 19 rfl) ki_0 ?_
      refine g_callV (As := [.int ((0 : Int32))]) (kc := 0) (fr := 0) (lo := 0) (mc := 0) (My := M_X9_tells) (dk D_X9_unit_o 20 rfl) kd_92 rfl rfl w_1630 w_1632 w_62 w_110 w_1633 okD_X9_tells (er_n d (by decide) (by decide)) (Nat.le_of_ble_eq_true rfl) rfl (c_X9_tells ((0 : Int32)) (h14) _ hw) kxN (kV (fun h15 hw => ?_))
      refine g_aload_n 3 (dk D_X9_unit_o 21 rfl) rfl rfl ?_
      refine g_iload_n 0 (dk D_X9_unit_o 22 rfl) rfl rfl ?_
      refine g_callV (As := [.int (z13)]) (kc := 0) (fr := 0) (lo := 0) (mc := 0) (My := M_X9_tells) (dk D_X9_unit_o 23 rfl) kd_92 rfl rfl w_1630 w_1632 w_62 w_110 w_1633 okD_X9_tells (er_n d (by decide) (by decide)) (Nat.le_of_ble_eq_true rfl) rfl (c_X9_tells (z13) (h15) _ hw) kxN (kV (fun h16 hw => ?_))
      refine g_goto (dk D_X9_unit_o 24 rfl) rfl ?_
      exact g_vret (dk D_X9_unit_o 56 rfl) rfl ⟨rfl, hw⟩
  · exact g_vret (dk D_X9_unit_o 9 rfl) rfl ⟨rfl, hw⟩
theorem c_X9_unit_o {X : Cx} (W : Nat → Hp → (Hp → Prop) → Prop)  (d : Nat) (hW0 : ∀  (h : Hp) (Q : Hp → Prop), W 0  h Q → Con X yX9_unit M_X9_unit_o (10 + d) (300 + 60 * d) 0 [.ref (92)] h (QV Q) Qn) (hW1 : ∀  (h : Hp) (Q : Hp → Prop), W 1  h Q → Con X yX9_product M_X9_product_o (10 + d) (300 + 60 * d) 0 [.ref (92)] h (QV Q) Qn) (hW2 : ∀  (h : Hp) (Q : Hp → Prop), W 2  h Q → Con X yX9_sum M_X9_sum_o (10 + d) (300 + 60 * d) 0 [.ref (92)] h (QV Q) Qn) (hW3 : ∀  (h : Hp) (Q : Hp → Prop), W 3  h Q → Con X yX9_asked M_X9_asked_o (10 + d) (300 + 60 * d) 0 [.ref (92)] h (QV Q) Qn) (hW4 : ∀  (h : Hp) (Q : Hp → Prop), W 4  h Q → Con X yX9_ands M_X9_ands_o (10 + d) (300 + 60 * d) 0 [.ref (92)] h (QV Q) Qn) (hW5 : ∀  (h : Hp) (Q : Hp → Prop), W 5  h Q → Con X yX9_ors M_X9_ors_o (10 + d) (300 + 60 * d) 0 [.ref (92)] h (QV Q) Qn)  (h : Hp) (Q : Hp → Prop) (hw : w_X9_unit_o W  h Q) : Con X yX9_unit M_X9_unit_o (10 + (d + 1)) (300 + 60 * (d + 1)) 0 [.ref (92)] h (QV Q) Qn :=
  con_of (by decide +kernel) rfl (Nat.le_of_ble_eq_true rfl) (t_X9_unit_o W  h Q d hW0 hW1 hW2 hW3 hW4 hW5  hw)
theorem t_X9_product_o_b28 {X : Cx} (W : Nat → Hp → (Hp → Prop) → Prop)  (v1 : Int32) (K9 : Int32 × Hp → Prop) (h : Hp) (Q : Hp → Prop) (d : Nat) (hW0 : ∀  (h : Hp) (Q : Hp → Prop), W 0  h Q → Con X yX9_unit M_X9_unit_o (10 + d) (300 + 60 * d) 0 [.ref (92)] h (QV Q) Qn) (hW1 : ∀  (h : Hp) (Q : Hp → Prop), W 1  h Q → Con X yX9_product M_X9_product_o (10 + d) (300 + 60 * d) 0 [.ref (92)] h (QV Q) Qn) (hW2 : ∀  (h : Hp) (Q : Hp → Prop), W 2  h Q → Con X yX9_sum M_X9_sum_o (10 + d) (300 + 60 * d) 0 [.ref (92)] h (QV Q) Qn) (hW3 : ∀  (h : Hp) (Q : Hp → Prop), W 3  h Q → Con X yX9_asked M_X9_asked_o (10 + d) (300 + 60 * d) 0 [.ref (92)] h (QV Q) Qn) (hW4 : ∀  (h : Hp) (Q : Hp → Prop), W 4  h Q → Con X yX9_ands M_X9_ands_o (10 + d) (300 + 60 * d) 0 [.ref (92)] h (QV Q) Qn) (hW5 : ∀  (h : Hp) (Q : Hp → Prop), W 5  h Q → Con X yX9_ors M_X9_ors_o (10 + d) (300 + 60 * d) 0 [.ref (92)] h (QV Q) Qn)  (hK9 : ∀ s : Int32 × Hp, K9 s → G X M_X9_product_o (Er (d + 1)) (QM X (Er (d + 1)) (QV Q) Qn) 0 9 [(0, .ref (92)), (1, .int (s.1))] [] (s.2)) (hw : w_X9_product_o_b28 W  v1 K9 h Q) : G X M_X9_product_o (Er (d + 1)) (QM X (Er (d + 1)) (QV Q) Qn) 0 28 [(0, .ref (92)), (1, .int (v1))] [] h := by
  unfold w_X9_product_o_b28 at hw
  refine g_aload_n 0 (dk D_X9_product_o 14 rfl) rfl rfl ?_
  refine g_dup (dk D_X9_product_o 15 rfl) rfl ?_
  refine g_getI 4 (dk D_X9_product_o 16 rfl) kd_92 rfl rfl (by decide) w_1361 rfl rfl ?_
  refine g_iconst (dk D_X9_product_o 17 rfl) ki_1 ?_
  refine g_iadd (dk D_X9_product_o 18 rfl) ?_
  refine g_put 4 (dk D_X9_product_o 19 rfl) kd_92 rfl rfl (by decide) w_1361 rfl tyX9_ok nmX9 rfl (by decide) rfl (fun z => absurd z (by decide)) ?_
  refine g_heap (fun h1 eh1 => ?_)
  replace hw := hw _ eh1
  refine g_aload_n 0 (dk D_X9_product_o 20 rfl) rfl rfl ?_
  refine g_callV (As := []) (kc := 0) (fr := (10 + d)) (lo := (300 + 60 * d)) (mc := 0) (My := M_X9_unit_o) (dk D_X9_product_o 21 rfl) kd_92 rfl rfl w_1616 w_1618 w_59 w_110 w_1619 okD_X9_unit_o (er_r d (by decide)) (Nat.le_of_ble_eq_true rfl) rfl (hW0 (h1) _ hw) kxN (kV (fun h2 hw => ?_))
  refine g_aload_n 0 (dk D_X9_product_o 22 rfl) rfl rfl ?_
  refine g_iload_n 1 (dk D_X9_product_o 23 rfl) rfl rfl ?_
  refine g_bipush (dk D_X9_product_o 24 rfl) kb_42 ?_
  have hj : G X M_X9_product_o (Er (d + 1)) (QM X (Er (d + 1)) (QV Q) Qn) 0 56 [(0, .ref (92)), (1, .int (v1))] [.int ((if ¬ v1 = (42 : Int32) then (13 : Int32) else (12 : Int32))), .ref (92)] (h2) := by
    refine g_callV (As := [.int ((if ¬ v1 = (42 : Int32) then (13 : Int32) else (12 : Int32)))]) (kc := 0) (fr := 0) (lo := 0) (mc := 0) (My := M_X9_tells) (dk D_X9_product_o 29 rfl) kd_92 rfl rfl w_1630 w_1632 w_62 w_110 w_1633 okD_X9_tells (er_n d (by decide) (by decide)) (Nat.le_of_ble_eq_true rfl) rfl (c_X9_tells ((if ¬ v1 = (42 : Int32) then (13 : Int32) else (12 : Int32))) (h2) _ hw) kxN (kV (fun h4 hw => ?_))
    refine g_aload_n 0 (dk D_X9_product_o 30 rfl) rfl rfl ?_
    refine g_callV (As := []) (kc := 0) (fr := 2) (lo := 57) (mc := 0) (My := M_X9_signHere) (dk D_X9_product_o 31 rfl) kd_92 rfl rfl w_1620 w_1622 w_60 w_110 w_1623 okD_X9_signHere (er_n d (by decide) (by decide)) (Nat.le_of_ble_eq_true rfl) rfl (c_X9_signHere (h4) _ hw) kxN (kI (fun z5 h6 hw => ?_))
    refine g_istore_n (dk D_X9_product_o 32 rfl) rfl (by decide) rfl ?_
    refine g_goto (dk D_X9_product_o 33 rfl) rfl ?_
    refine g_sub [1, 0] rfl ?_
    exact hK9 (z5, h6) hw
  refine g_icmp_ne (dk D_X9_product_o 25 rfl) rfl ?_
  by_cases c3 : ¬ v1 = (42 : Int32)
  · rw [if_pos c3] at hj
    refine wif_p c3 ?_
    refine g_bipush (dk D_X9_product_o 28 rfl) kb_13 ?_
    exact hj
  · rw [if_neg c3] at hj
    refine wif_n c3 ?_
    refine g_bipush (dk D_X9_product_o 26 rfl) kb_12 ?_
    refine g_goto (dk D_X9_product_o 27 rfl) rfl ?_
    exact hj
theorem t_X9_product_o_l9 {X : Cx} (W : Nat → Hp → (Hp → Prop) → Prop)  (Q : Hp → Prop) (K9 : Int32 × Hp → Prop) (v1 : Int32) (h : Hp) (d : Nat) (hW0 : ∀  (h : Hp) (Q : Hp → Prop), W 0  h Q → Con X yX9_unit M_X9_unit_o (10 + d) (300 + 60 * d) 0 [.ref (92)] h (QV Q) Qn) (hW1 : ∀  (h : Hp) (Q : Hp → Prop), W 1  h Q → Con X yX9_product M_X9_product_o (10 + d) (300 + 60 * d) 0 [.ref (92)] h (QV Q) Qn) (hW2 : ∀  (h : Hp) (Q : Hp → Prop), W 2  h Q → Con X yX9_sum M_X9_sum_o (10 + d) (300 + 60 * d) 0 [.ref (92)] h (QV Q) Qn) (hW3 : ∀  (h : Hp) (Q : Hp → Prop), W 3  h Q → Con X yX9_asked M_X9_asked_o (10 + d) (300 + 60 * d) 0 [.ref (92)] h (QV Q) Qn) (hW4 : ∀  (h : Hp) (Q : Hp → Prop), W 4  h Q → Con X yX9_ands M_X9_ands_o (10 + d) (300 + 60 * d) 0 [.ref (92)] h (QV Q) Qn) (hW5 : ∀  (h : Hp) (Q : Hp → Prop), W 5  h Q → Con X yX9_ors M_X9_ors_o (10 + d) (300 + 60 * d) 0 [.ref (92)] h (QV Q) Qn)  (hK9 : ∀ s : Int32 × Hp, K9 s → G X M_X9_product_o (Er (d + 1)) (QM X (Er (d + 1)) (QV Q) Qn) 0 9 [(0, .ref (92)), (1, .int (s.1))] [] (s.2)) (hw : w_X9_product_o_l9 W  Q K9 v1 h) : G X M_X9_product_o (Er (d + 1)) (QM X (Er (d + 1)) (QV Q) Qn) 0 9 [(0, .ref (92)), (1, .int (v1))] [] h := by
  unfold w_X9_product_o_l9 at hw
  refine g_aload_n 0 (dk D_X9_product_o 5 rfl) rfl rfl ?_
  refine g_getI 5 (dk D_X9_product_o 6 rfl) kd_92 rfl rfl (by decide) w_1362 rfl rfl ?_
  refine g_if_ne (dk D_X9_product_o 7 rfl) rfl (wif_m hw (fun hw => ?_) (fun hw => ?_))
  · exact g_vret (dk D_X9_product_o 34 rfl) rfl ⟨rfl, hw⟩
  · refine g_iload_n 1 (dk D_X9_product_o 8 rfl) rfl rfl ?_
    refine g_bipush (dk D_X9_product_o 9 rfl) kb_42 ?_
    refine g_icmp_eq (dk D_X9_product_o 10 rfl) rfl (wif_m hw (fun hw => ?_) (fun hw => ?_))
    · exact t_X9_product_o_b28 W  (v1) K9 (h) Q d hW0 hW1 hW2 hW3 hW4 hW5  hK9 hw
    · refine g_iload_n 1 (dk D_X9_product_o 11 rfl) rfl rfl ?_
      refine g_bipush (dk D_X9_product_o 12 rfl) kb_47 ?_
      refine g_icmp_ne (dk D_X9_product_o 13 rfl) rfl (wif_m hw (fun hw => ?_) (fun hw => ?_))
      · exact g_vret (dk D_X9_product_o 34 rfl) rfl ⟨rfl, hw⟩
      · exact t_X9_product_o_b28 W  (v1) K9 (h) Q d hW0 hW1 hW2 hW3 hW4 hW5  hK9 hw
theorem t_X9_product_o_b9 {X : Cx} (W : Nat → Hp → (Hp → Prop) → Prop)  (Q : Hp → Prop) (s : Int32 × Hp) (d : Nat) (hW0 : ∀  (h : Hp) (Q : Hp → Prop), W 0  h Q → Con X yX9_unit M_X9_unit_o (10 + d) (300 + 60 * d) 0 [.ref (92)] h (QV Q) Qn) (hW1 : ∀  (h : Hp) (Q : Hp → Prop), W 1  h Q → Con X yX9_product M_X9_product_o (10 + d) (300 + 60 * d) 0 [.ref (92)] h (QV Q) Qn) (hW2 : ∀  (h : Hp) (Q : Hp → Prop), W 2  h Q → Con X yX9_sum M_X9_sum_o (10 + d) (300 + 60 * d) 0 [.ref (92)] h (QV Q) Qn) (hW3 : ∀  (h : Hp) (Q : Hp → Prop), W 3  h Q → Con X yX9_asked M_X9_asked_o (10 + d) (300 + 60 * d) 0 [.ref (92)] h (QV Q) Qn) (hW4 : ∀  (h : Hp) (Q : Hp → Prop), W 4  h Q → Con X yX9_ands M_X9_ands_o (10 + d) (300 + 60 * d) 0 [.ref (92)] h (QV Q) Qn) (hW5 : ∀  (h : Hp) (Q : Hp → Prop), W 5  h Q → Con X yX9_ors M_X9_ors_o (10 + d) (300 + 60 * d) 0 [.ref (92)] h (QV Q) Qn)  (hw : w_X9_product_o_b9 W  Q s) : G X M_X9_product_o (Er (d + 1)) (QM X (Er (d + 1)) (QV Q) Qn) 0 9 [(0, .ref (92)), (1, .int (s.1))] [] (s.2) :=
  wl_ind (B := fun K s => w_X9_product_o_l9 W  Q K (s.1) (s.2)) (P := fun s => G X M_X9_product_o (Er (d + 1)) (QM X (Er (d + 1)) (QV Q) Qn) 0 9 [(0, .ref (92)), (1, .int (s.1))] [] (s.2)) (fun K hK s hw => t_X9_product_o_l9 W  Q K (s.1) (s.2) d hW0 hW1 hW2 hW3 hW4 hW5  hK hw) s hw
theorem t_X9_product_o {X : Cx} (W : Nat → Hp → (Hp → Prop) → Prop)  (h : Hp) (Q : Hp → Prop) (d : Nat) (hW0 : ∀  (h : Hp) (Q : Hp → Prop), W 0  h Q → Con X yX9_unit M_X9_unit_o (10 + d) (300 + 60 * d) 0 [.ref (92)] h (QV Q) Qn) (hW1 : ∀  (h : Hp) (Q : Hp → Prop), W 1  h Q → Con X yX9_product M_X9_product_o (10 + d) (300 + 60 * d) 0 [.ref (92)] h (QV Q) Qn) (hW2 : ∀  (h : Hp) (Q : Hp → Prop), W 2  h Q → Con X yX9_sum M_X9_sum_o (10 + d) (300 + 60 * d) 0 [.ref (92)] h (QV Q) Qn) (hW3 : ∀  (h : Hp) (Q : Hp → Prop), W 3  h Q → Con X yX9_asked M_X9_asked_o (10 + d) (300 + 60 * d) 0 [.ref (92)] h (QV Q) Qn) (hW4 : ∀  (h : Hp) (Q : Hp → Prop), W 4  h Q → Con X yX9_ands M_X9_ands_o (10 + d) (300 + 60 * d) 0 [.ref (92)] h (QV Q) Qn) (hW5 : ∀  (h : Hp) (Q : Hp → Prop), W 5  h Q → Con X yX9_ors M_X9_ors_o (10 + d) (300 + 60 * d) 0 [.ref (92)] h (QV Q) Qn)  (hw : w_X9_product_o W  h Q) : G X M_X9_product_o (Er (d + 1)) (QM X (Er (d + 1)) (QV Q) Qn) 0 0 [(0, .ref (92))] [] h := by
  unfold w_X9_product_o at hw
  refine g_aload_n 0 (dk D_X9_product_o 0 rfl) rfl rfl ?_
  refine g_callV (As := []) (kc := 0) (fr := (10 + d)) (lo := (300 + 60 * d)) (mc := 0) (My := M_X9_unit_o) (dk D_X9_product_o 1 rfl) kd_92 rfl rfl w_1616 w_1618 w_59 w_110 w_1619 okD_X9_unit_o (er_r d (by decide)) (Nat.le_of_ble_eq_true rfl) rfl (hW0 (h) _ hw) kxN (kV (fun h1 hw => ?_))
  refine g_aload_n 0 (dk D_X9_product_o 2 rfl) rfl rfl ?_
  refine g_callV (As := []) (kc := 0) (fr := 2) (lo := 57) (mc := 0) (My := M_X9_signHere) (dk D_X9_product_o 3 rfl) kd_92 rfl rfl w_1620 w_1622 w_60 w_110 w_1623 okD_X9_signHere (er_n d (by decide) (by decide)) (Nat.le_of_ble_eq_true rfl) rfl (c_X9_signHere (h1) _ hw) kxN (kI (fun z2 h3 hw => ?_))
  refine g_istore_n (dk D_X9_product_o 4 rfl) rfl (by decide) rfl ?_
  refine g_sub [1, 0] rfl ?_
  exact t_X9_product_o_b9 W  Q (z2, h3) d hW0 hW1 hW2 hW3 hW4 hW5  hw
theorem c_X9_product_o {X : Cx} (W : Nat → Hp → (Hp → Prop) → Prop)  (d : Nat) (hW0 : ∀  (h : Hp) (Q : Hp → Prop), W 0  h Q → Con X yX9_unit M_X9_unit_o (10 + d) (300 + 60 * d) 0 [.ref (92)] h (QV Q) Qn) (hW1 : ∀  (h : Hp) (Q : Hp → Prop), W 1  h Q → Con X yX9_product M_X9_product_o (10 + d) (300 + 60 * d) 0 [.ref (92)] h (QV Q) Qn) (hW2 : ∀  (h : Hp) (Q : Hp → Prop), W 2  h Q → Con X yX9_sum M_X9_sum_o (10 + d) (300 + 60 * d) 0 [.ref (92)] h (QV Q) Qn) (hW3 : ∀  (h : Hp) (Q : Hp → Prop), W 3  h Q → Con X yX9_asked M_X9_asked_o (10 + d) (300 + 60 * d) 0 [.ref (92)] h (QV Q) Qn) (hW4 : ∀  (h : Hp) (Q : Hp → Prop), W 4  h Q → Con X yX9_ands M_X9_ands_o (10 + d) (300 + 60 * d) 0 [.ref (92)] h (QV Q) Qn) (hW5 : ∀  (h : Hp) (Q : Hp → Prop), W 5  h Q → Con X yX9_ors M_X9_ors_o (10 + d) (300 + 60 * d) 0 [.ref (92)] h (QV Q) Qn)  (h : Hp) (Q : Hp → Prop) (hw : w_X9_product_o W  h Q) : Con X yX9_product M_X9_product_o (10 + (d + 1)) (300 + 60 * (d + 1)) 0 [.ref (92)] h (QV Q) Qn :=
  con_of (by decide +kernel) rfl (Nat.le_of_ble_eq_true rfl) (t_X9_product_o W  h Q d hW0 hW1 hW2 hW3 hW4 hW5  hw)
theorem t_X9_sum_o_b28 {X : Cx} (W : Nat → Hp → (Hp → Prop) → Prop)  (v1 : Int32) (K9 : Int32 × Hp → Prop) (h : Hp) (Q : Hp → Prop) (d : Nat) (hW0 : ∀  (h : Hp) (Q : Hp → Prop), W 0  h Q → Con X yX9_unit M_X9_unit_o (10 + d) (300 + 60 * d) 0 [.ref (92)] h (QV Q) Qn) (hW1 : ∀  (h : Hp) (Q : Hp → Prop), W 1  h Q → Con X yX9_product M_X9_product_o (10 + d) (300 + 60 * d) 0 [.ref (92)] h (QV Q) Qn) (hW2 : ∀  (h : Hp) (Q : Hp → Prop), W 2  h Q → Con X yX9_sum M_X9_sum_o (10 + d) (300 + 60 * d) 0 [.ref (92)] h (QV Q) Qn) (hW3 : ∀  (h : Hp) (Q : Hp → Prop), W 3  h Q → Con X yX9_asked M_X9_asked_o (10 + d) (300 + 60 * d) 0 [.ref (92)] h (QV Q) Qn) (hW4 : ∀  (h : Hp) (Q : Hp → Prop), W 4  h Q → Con X yX9_ands M_X9_ands_o (10 + d) (300 + 60 * d) 0 [.ref (92)] h (QV Q) Qn) (hW5 : ∀  (h : Hp) (Q : Hp → Prop), W 5  h Q → Con X yX9_ors M_X9_ors_o (10 + d) (300 + 60 * d) 0 [.ref (92)] h (QV Q) Qn)  (hK9 : ∀ s : Int32 × Hp, K9 s → G X M_X9_sum_o (Er (d + 1)) (QM X (Er (d + 1)) (QV Q) Qn) 0 9 [(0, .ref (92)), (1, .int (s.1))] [] (s.2)) (hw : w_X9_sum_o_b28 W  v1 K9 h Q) : G X M_X9_sum_o (Er (d + 1)) (QM X (Er (d + 1)) (QV Q) Qn) 0 28 [(0, .ref (92)), (1, .int (v1))] [] h := by
  unfold w_X9_sum_o_b28 at hw
  refine g_aload_n 0 (dk D_X9_sum_o 14 rfl) rfl rfl ?_
  refine g_dup (dk D_X9_sum_o 15 rfl) rfl ?_
  refine g_getI 4 (dk D_X9_sum_o 16 rfl) kd_92 rfl rfl (by decide) w_1361 rfl rfl ?_
  refine g_iconst (dk D_X9_sum_o 17 rfl) ki_1 ?_
  refine g_iadd (dk D_X9_sum_o 18 rfl) ?_
  refine g_put 4 (dk D_X9_sum_o 19 rfl) kd_92 rfl rfl (by decide) w_1361 rfl tyX9_ok nmX9 rfl (by decide) rfl (fun z => absurd z (by decide)) ?_
  refine g_heap (fun h1 eh1 => ?_)
  replace hw := hw _ eh1
  refine g_aload_n 0 (dk D_X9_sum_o 20 rfl) rfl rfl ?_
  refine g_callV (As := []) (kc := 0) (fr := (10 + d)) (lo := (300 + 60 * d)) (mc := 0) (My := M_X9_product_o) (dk D_X9_sum_o 21 rfl) kd_92 rfl rfl w_1612 w_1614 w_58 w_110 w_1615 okD_X9_product_o (er_r d (by decide)) (Nat.le_of_ble_eq_true rfl) rfl (hW1 (h1) _ hw) kxN (kV (fun h2 hw => ?_))
  refine g_aload_n 0 (dk D_X9_sum_o 22 rfl) rfl rfl ?_
  refine g_iload_n 1 (dk D_X9_sum_o 23 rfl) rfl rfl ?_
  refine g_bipush (dk D_X9_sum_o 24 rfl) kb_43 ?_
  have hj : G X M_X9_sum_o (Er (d + 1)) (QM X (Er (d + 1)) (QV Q) Qn) 0 56 [(0, .ref (92)), (1, .int (v1))] [.int ((if ¬ v1 = (43 : Int32) then (11 : Int32) else (10 : Int32))), .ref (92)] (h2) := by
    refine g_callV (As := [.int ((if ¬ v1 = (43 : Int32) then (11 : Int32) else (10 : Int32)))]) (kc := 0) (fr := 0) (lo := 0) (mc := 0) (My := M_X9_tells) (dk D_X9_sum_o 29 rfl) kd_92 rfl rfl w_1630 w_1632 w_62 w_110 w_1633 okD_X9_tells (er_n d (by decide) (by decide)) (Nat.le_of_ble_eq_true rfl) rfl (c_X9_tells ((if ¬ v1 = (43 : Int32) then (11 : Int32) else (10 : Int32))) (h2) _ hw) kxN (kV (fun h4 hw => ?_))
    refine g_aload_n 0 (dk D_X9_sum_o 30 rfl) rfl rfl ?_
    refine g_callV (As := []) (kc := 0) (fr := 2) (lo := 57) (mc := 0) (My := M_X9_signHere) (dk D_X9_sum_o 31 rfl) kd_92 rfl rfl w_1620 w_1622 w_60 w_110 w_1623 okD_X9_signHere (er_n d (by decide) (by decide)) (Nat.le_of_ble_eq_true rfl) rfl (c_X9_signHere (h4) _ hw) kxN (kI (fun z5 h6 hw => ?_))
    refine g_istore_n (dk D_X9_sum_o 32 rfl) rfl (by decide) rfl ?_
    refine g_goto (dk D_X9_sum_o 33 rfl) rfl ?_
    refine g_sub [1, 0] rfl ?_
    exact hK9 (z5, h6) hw
  refine g_icmp_ne (dk D_X9_sum_o 25 rfl) rfl ?_
  by_cases c3 : ¬ v1 = (43 : Int32)
  · rw [if_pos c3] at hj
    refine wif_p c3 ?_
    refine g_bipush (dk D_X9_sum_o 28 rfl) kb_11 ?_
    exact hj
  · rw [if_neg c3] at hj
    refine wif_n c3 ?_
    refine g_bipush (dk D_X9_sum_o 26 rfl) kb_10 ?_
    refine g_goto (dk D_X9_sum_o 27 rfl) rfl ?_
    exact hj
theorem t_X9_sum_o_l9 {X : Cx} (W : Nat → Hp → (Hp → Prop) → Prop)  (Q : Hp → Prop) (K9 : Int32 × Hp → Prop) (v1 : Int32) (h : Hp) (d : Nat) (hW0 : ∀  (h : Hp) (Q : Hp → Prop), W 0  h Q → Con X yX9_unit M_X9_unit_o (10 + d) (300 + 60 * d) 0 [.ref (92)] h (QV Q) Qn) (hW1 : ∀  (h : Hp) (Q : Hp → Prop), W 1  h Q → Con X yX9_product M_X9_product_o (10 + d) (300 + 60 * d) 0 [.ref (92)] h (QV Q) Qn) (hW2 : ∀  (h : Hp) (Q : Hp → Prop), W 2  h Q → Con X yX9_sum M_X9_sum_o (10 + d) (300 + 60 * d) 0 [.ref (92)] h (QV Q) Qn) (hW3 : ∀  (h : Hp) (Q : Hp → Prop), W 3  h Q → Con X yX9_asked M_X9_asked_o (10 + d) (300 + 60 * d) 0 [.ref (92)] h (QV Q) Qn) (hW4 : ∀  (h : Hp) (Q : Hp → Prop), W 4  h Q → Con X yX9_ands M_X9_ands_o (10 + d) (300 + 60 * d) 0 [.ref (92)] h (QV Q) Qn) (hW5 : ∀  (h : Hp) (Q : Hp → Prop), W 5  h Q → Con X yX9_ors M_X9_ors_o (10 + d) (300 + 60 * d) 0 [.ref (92)] h (QV Q) Qn)  (hK9 : ∀ s : Int32 × Hp, K9 s → G X M_X9_sum_o (Er (d + 1)) (QM X (Er (d + 1)) (QV Q) Qn) 0 9 [(0, .ref (92)), (1, .int (s.1))] [] (s.2)) (hw : w_X9_sum_o_l9 W  Q K9 v1 h) : G X M_X9_sum_o (Er (d + 1)) (QM X (Er (d + 1)) (QV Q) Qn) 0 9 [(0, .ref (92)), (1, .int (v1))] [] h := by
  unfold w_X9_sum_o_l9 at hw
  refine g_aload_n 0 (dk D_X9_sum_o 5 rfl) rfl rfl ?_
  refine g_getI 5 (dk D_X9_sum_o 6 rfl) kd_92 rfl rfl (by decide) w_1362 rfl rfl ?_
  refine g_if_ne (dk D_X9_sum_o 7 rfl) rfl (wif_m hw (fun hw => ?_) (fun hw => ?_))
  · exact g_vret (dk D_X9_sum_o 34 rfl) rfl ⟨rfl, hw⟩
  · refine g_iload_n 1 (dk D_X9_sum_o 8 rfl) rfl rfl ?_
    refine g_bipush (dk D_X9_sum_o 9 rfl) kb_43 ?_
    refine g_icmp_eq (dk D_X9_sum_o 10 rfl) rfl (wif_m hw (fun hw => ?_) (fun hw => ?_))
    · exact t_X9_sum_o_b28 W  (v1) K9 (h) Q d hW0 hW1 hW2 hW3 hW4 hW5  hK9 hw
    · refine g_iload_n 1 (dk D_X9_sum_o 11 rfl) rfl rfl ?_
      refine g_bipush (dk D_X9_sum_o 12 rfl) kb_45 ?_
      refine g_icmp_ne (dk D_X9_sum_o 13 rfl) rfl (wif_m hw (fun hw => ?_) (fun hw => ?_))
      · exact g_vret (dk D_X9_sum_o 34 rfl) rfl ⟨rfl, hw⟩
      · exact t_X9_sum_o_b28 W  (v1) K9 (h) Q d hW0 hW1 hW2 hW3 hW4 hW5  hK9 hw
theorem t_X9_sum_o_b9 {X : Cx} (W : Nat → Hp → (Hp → Prop) → Prop)  (Q : Hp → Prop) (s : Int32 × Hp) (d : Nat) (hW0 : ∀  (h : Hp) (Q : Hp → Prop), W 0  h Q → Con X yX9_unit M_X9_unit_o (10 + d) (300 + 60 * d) 0 [.ref (92)] h (QV Q) Qn) (hW1 : ∀  (h : Hp) (Q : Hp → Prop), W 1  h Q → Con X yX9_product M_X9_product_o (10 + d) (300 + 60 * d) 0 [.ref (92)] h (QV Q) Qn) (hW2 : ∀  (h : Hp) (Q : Hp → Prop), W 2  h Q → Con X yX9_sum M_X9_sum_o (10 + d) (300 + 60 * d) 0 [.ref (92)] h (QV Q) Qn) (hW3 : ∀  (h : Hp) (Q : Hp → Prop), W 3  h Q → Con X yX9_asked M_X9_asked_o (10 + d) (300 + 60 * d) 0 [.ref (92)] h (QV Q) Qn) (hW4 : ∀  (h : Hp) (Q : Hp → Prop), W 4  h Q → Con X yX9_ands M_X9_ands_o (10 + d) (300 + 60 * d) 0 [.ref (92)] h (QV Q) Qn) (hW5 : ∀  (h : Hp) (Q : Hp → Prop), W 5  h Q → Con X yX9_ors M_X9_ors_o (10 + d) (300 + 60 * d) 0 [.ref (92)] h (QV Q) Qn)  (hw : w_X9_sum_o_b9 W  Q s) : G X M_X9_sum_o (Er (d + 1)) (QM X (Er (d + 1)) (QV Q) Qn) 0 9 [(0, .ref (92)), (1, .int (s.1))] [] (s.2) :=
  wl_ind (B := fun K s => w_X9_sum_o_l9 W  Q K (s.1) (s.2)) (P := fun s => G X M_X9_sum_o (Er (d + 1)) (QM X (Er (d + 1)) (QV Q) Qn) 0 9 [(0, .ref (92)), (1, .int (s.1))] [] (s.2)) (fun K hK s hw => t_X9_sum_o_l9 W  Q K (s.1) (s.2) d hW0 hW1 hW2 hW3 hW4 hW5  hK hw) s hw
theorem t_X9_sum_o {X : Cx} (W : Nat → Hp → (Hp → Prop) → Prop)  (h : Hp) (Q : Hp → Prop) (d : Nat) (hW0 : ∀  (h : Hp) (Q : Hp → Prop), W 0  h Q → Con X yX9_unit M_X9_unit_o (10 + d) (300 + 60 * d) 0 [.ref (92)] h (QV Q) Qn) (hW1 : ∀  (h : Hp) (Q : Hp → Prop), W 1  h Q → Con X yX9_product M_X9_product_o (10 + d) (300 + 60 * d) 0 [.ref (92)] h (QV Q) Qn) (hW2 : ∀  (h : Hp) (Q : Hp → Prop), W 2  h Q → Con X yX9_sum M_X9_sum_o (10 + d) (300 + 60 * d) 0 [.ref (92)] h (QV Q) Qn) (hW3 : ∀  (h : Hp) (Q : Hp → Prop), W 3  h Q → Con X yX9_asked M_X9_asked_o (10 + d) (300 + 60 * d) 0 [.ref (92)] h (QV Q) Qn) (hW4 : ∀  (h : Hp) (Q : Hp → Prop), W 4  h Q → Con X yX9_ands M_X9_ands_o (10 + d) (300 + 60 * d) 0 [.ref (92)] h (QV Q) Qn) (hW5 : ∀  (h : Hp) (Q : Hp → Prop), W 5  h Q → Con X yX9_ors M_X9_ors_o (10 + d) (300 + 60 * d) 0 [.ref (92)] h (QV Q) Qn)  (hw : w_X9_sum_o W  h Q) : G X M_X9_sum_o (Er (d + 1)) (QM X (Er (d + 1)) (QV Q) Qn) 0 0 [(0, .ref (92))] [] h := by
  unfold w_X9_sum_o at hw
  refine g_aload_n 0 (dk D_X9_sum_o 0 rfl) rfl rfl ?_
  refine g_callV (As := []) (kc := 0) (fr := (10 + d)) (lo := (300 + 60 * d)) (mc := 0) (My := M_X9_product_o) (dk D_X9_sum_o 1 rfl) kd_92 rfl rfl w_1612 w_1614 w_58 w_110 w_1615 okD_X9_product_o (er_r d (by decide)) (Nat.le_of_ble_eq_true rfl) rfl (hW1 (h) _ hw) kxN (kV (fun h1 hw => ?_))
  refine g_aload_n 0 (dk D_X9_sum_o 2 rfl) rfl rfl ?_
  refine g_callV (As := []) (kc := 0) (fr := 2) (lo := 57) (mc := 0) (My := M_X9_signHere) (dk D_X9_sum_o 3 rfl) kd_92 rfl rfl w_1620 w_1622 w_60 w_110 w_1623 okD_X9_signHere (er_n d (by decide) (by decide)) (Nat.le_of_ble_eq_true rfl) rfl (c_X9_signHere (h1) _ hw) kxN (kI (fun z2 h3 hw => ?_))
  refine g_istore_n (dk D_X9_sum_o 4 rfl) rfl (by decide) rfl ?_
  refine g_sub [1, 0] rfl ?_
  exact t_X9_sum_o_b9 W  Q (z2, h3) d hW0 hW1 hW2 hW3 hW4 hW5  hw
theorem c_X9_sum_o {X : Cx} (W : Nat → Hp → (Hp → Prop) → Prop)  (d : Nat) (hW0 : ∀  (h : Hp) (Q : Hp → Prop), W 0  h Q → Con X yX9_unit M_X9_unit_o (10 + d) (300 + 60 * d) 0 [.ref (92)] h (QV Q) Qn) (hW1 : ∀  (h : Hp) (Q : Hp → Prop), W 1  h Q → Con X yX9_product M_X9_product_o (10 + d) (300 + 60 * d) 0 [.ref (92)] h (QV Q) Qn) (hW2 : ∀  (h : Hp) (Q : Hp → Prop), W 2  h Q → Con X yX9_sum M_X9_sum_o (10 + d) (300 + 60 * d) 0 [.ref (92)] h (QV Q) Qn) (hW3 : ∀  (h : Hp) (Q : Hp → Prop), W 3  h Q → Con X yX9_asked M_X9_asked_o (10 + d) (300 + 60 * d) 0 [.ref (92)] h (QV Q) Qn) (hW4 : ∀  (h : Hp) (Q : Hp → Prop), W 4  h Q → Con X yX9_ands M_X9_ands_o (10 + d) (300 + 60 * d) 0 [.ref (92)] h (QV Q) Qn) (hW5 : ∀  (h : Hp) (Q : Hp → Prop), W 5  h Q → Con X yX9_ors M_X9_ors_o (10 + d) (300 + 60 * d) 0 [.ref (92)] h (QV Q) Qn)  (h : Hp) (Q : Hp → Prop) (hw : w_X9_sum_o W  h Q) : Con X yX9_sum M_X9_sum_o (10 + (d + 1)) (300 + 60 * (d + 1)) 0 [.ref (92)] h (QV Q) Qn :=
  con_of (by decide +kernel) rfl (Nat.le_of_ble_eq_true rfl) (t_X9_sum_o W  h Q d hW0 hW1 hW2 hW3 hW4 hW5  hw)
theorem t_X9_asked_o_b126 {X : Cx} (W : Nat → Hp → (Hp → Prop) → Prop)  (v1 : Int32) (h : Hp) (Q : Hp → Prop) (d : Nat) (hW0 : ∀  (h : Hp) (Q : Hp → Prop), W 0  h Q → Con X yX9_unit M_X9_unit_o (10 + d) (300 + 60 * d) 0 [.ref (92)] h (QV Q) Qn) (hW1 : ∀  (h : Hp) (Q : Hp → Prop), W 1  h Q → Con X yX9_product M_X9_product_o (10 + d) (300 + 60 * d) 0 [.ref (92)] h (QV Q) Qn) (hW2 : ∀  (h : Hp) (Q : Hp → Prop), W 2  h Q → Con X yX9_sum M_X9_sum_o (10 + d) (300 + 60 * d) 0 [.ref (92)] h (QV Q) Qn) (hW3 : ∀  (h : Hp) (Q : Hp → Prop), W 3  h Q → Con X yX9_asked M_X9_asked_o (10 + d) (300 + 60 * d) 0 [.ref (92)] h (QV Q) Qn) (hW4 : ∀  (h : Hp) (Q : Hp → Prop), W 4  h Q → Con X yX9_ands M_X9_ands_o (10 + d) (300 + 60 * d) 0 [.ref (92)] h (QV Q) Qn) (hW5 : ∀  (h : Hp) (Q : Hp → Prop), W 5  h Q → Con X yX9_ors M_X9_ors_o (10 + d) (300 + 60 * d) 0 [.ref (92)] h (QV Q) Qn)  (hw : w_X9_asked_o_b126 W  v1 h Q) : G X M_X9_asked_o (Er (d + 1)) (QM X (Er (d + 1)) (QV Q) Qn) 0 126 [(0, .ref (92)), (1, .int (v1))] [] h := by
  unfold w_X9_asked_o_b126 at hw
  refine g_aload_n 0 (dk D_X9_asked_o 65 rfl) rfl rfl ?_
  refine g_dup (dk D_X9_asked_o 66 rfl) rfl ?_
  refine g_getI 4 (dk D_X9_asked_o 67 rfl) kd_92 rfl rfl (by decide) w_1361 rfl rfl ?_
  refine g_iconst (dk D_X9_asked_o 68 rfl) ki_1 ?_
  refine g_iadd (dk D_X9_asked_o 69 rfl) ?_
  refine g_put 4 (dk D_X9_asked_o 70 rfl) kd_92 rfl rfl (by decide) w_1361 rfl tyX9_ok nmX9 rfl (by decide) rfl (fun z => absurd z (by decide)) ?_
  refine g_heap (fun h1 eh1 => ?_)
  replace hw := hw _ eh1
  refine g_aload_n 0 (dk D_X9_asked_o 71 rfl) rfl rfl ?_
  refine g_callV (As := []) (kc := 0) (fr := (10 + d)) (lo := (300 + 60 * d)) (mc := 0) (My := M_X9_sum_o) (dk D_X9_asked_o 72 rfl) kd_92 rfl rfl w_1608 w_1610 w_57 w_110 w_1611 okD_X9_sum_o (er_r d (by decide)) (Nat.le_of_ble_eq_true rfl) rfl (hW2 (h1) _ hw) kxN (kV (fun h2 hw => ?_))
  refine g_aload_n 0 (dk D_X9_asked_o 73 rfl) rfl rfl ?_
  refine g_iload_n 1 (dk D_X9_asked_o 74 rfl) rfl rfl ?_
  refine g_bipush (dk D_X9_asked_o 75 rfl) kb_60 ?_
  have hj : G X M_X9_asked_o (Er (d + 1)) (QM X (Er (d + 1)) (QV Q) Qn) 0 165 [(0, .ref (92)), (1, .int (v1))] [.int ((if ¬ v1 = (60 : Int32) then (if ¬ v1 = (62 : Int32) then (16 : Int32) else (15 : Int32)) else (14 : Int32))), .ref (92)] (h2) := by
    refine g_callV (As := [.int ((if ¬ v1 = (60 : Int32) then (if ¬ v1 = (62 : Int32) then (16 : Int32) else (15 : Int32)) else (14 : Int32)))]) (kc := 0) (fr := 0) (lo := 0) (mc := 0) (My := M_X9_tells) (dk D_X9_asked_o 85 rfl) kd_92 rfl rfl w_1630 w_1632 w_62 w_110 w_1633 okD_X9_tells (er_n d (by decide) (by decide)) (Nat.le_of_ble_eq_true rfl) rfl (c_X9_tells ((if ¬ v1 = (60 : Int32) then (if ¬ v1 = (62 : Int32) then (16 : Int32) else (15 : Int32)) else (14 : Int32))) (h2) _ hw) kxN (kV (fun h5 hw => ?_))
    exact g_vret (dk D_X9_asked_o 86 rfl) rfl ⟨rfl, hw⟩
  refine g_icmp_ne (dk D_X9_asked_o 76 rfl) rfl ?_
  by_cases c4 : ¬ v1 = (60 : Int32)
  · rw [if_pos c4] at hj
    refine wif_p c4 ?_
    refine g_iload_n 1 (dk D_X9_asked_o 79 rfl) rfl rfl ?_
    refine g_bipush (dk D_X9_asked_o 80 rfl) kb_62 ?_
    refine g_icmp_ne (dk D_X9_asked_o 81 rfl) rfl ?_
    by_cases c3 : ¬ v1 = (62 : Int32)
    · rw [if_pos c3] at hj
      refine wif_p c3 ?_
      refine g_bipush (dk D_X9_asked_o 84 rfl) kb_16 ?_
      exact hj
    · rw [if_neg c3] at hj
      refine wif_n c3 ?_
      refine g_bipush (dk D_X9_asked_o 82 rfl) kb_15 ?_
      refine g_goto (dk D_X9_asked_o 83 rfl) rfl ?_
      exact hj
  · rw [if_neg c4] at hj
    refine wif_n c4 ?_
    refine g_bipush (dk D_X9_asked_o 77 rfl) kb_14 ?_
    refine g_goto (dk D_X9_asked_o 78 rfl) rfl ?_
    exact hj
theorem t_X9_asked_o {X : Cx} (W : Nat → Hp → (Hp → Prop) → Prop)  (h : Hp) (Q : Hp → Prop) (d : Nat) (hW0 : ∀  (h : Hp) (Q : Hp → Prop), W 0  h Q → Con X yX9_unit M_X9_unit_o (10 + d) (300 + 60 * d) 0 [.ref (92)] h (QV Q) Qn) (hW1 : ∀  (h : Hp) (Q : Hp → Prop), W 1  h Q → Con X yX9_product M_X9_product_o (10 + d) (300 + 60 * d) 0 [.ref (92)] h (QV Q) Qn) (hW2 : ∀  (h : Hp) (Q : Hp → Prop), W 2  h Q → Con X yX9_sum M_X9_sum_o (10 + d) (300 + 60 * d) 0 [.ref (92)] h (QV Q) Qn) (hW3 : ∀  (h : Hp) (Q : Hp → Prop), W 3  h Q → Con X yX9_asked M_X9_asked_o (10 + d) (300 + 60 * d) 0 [.ref (92)] h (QV Q) Qn) (hW4 : ∀  (h : Hp) (Q : Hp → Prop), W 4  h Q → Con X yX9_ands M_X9_ands_o (10 + d) (300 + 60 * d) 0 [.ref (92)] h (QV Q) Qn) (hW5 : ∀  (h : Hp) (Q : Hp → Prop), W 5  h Q → Con X yX9_ors M_X9_ors_o (10 + d) (300 + 60 * d) 0 [.ref (92)] h (QV Q) Qn)  (hw : w_X9_asked_o W  h Q) : G X M_X9_asked_o (Er (d + 1)) (QM X (Er (d + 1)) (QV Q) Qn) 0 0 [(0, .ref (92))] [] h := by
  unfold w_X9_asked_o at hw
  refine g_aload_n 0 (dk D_X9_asked_o 0 rfl) rfl rfl ?_
  refine g_bipush (dk D_X9_asked_o 1 rfl) kb_14 ?_
  refine g_bipush (dk D_X9_asked_o 2 rfl) kb_15 ?_
  refine g_bipush (dk D_X9_asked_o 3 rfl) kb_20 ?_
  refine g_iconst (dk D_X9_asked_o 4 rfl) ki_0 ?_
  refine g_iconst (dk D_X9_asked_o 5 rfl) ki_0 ?_
  refine g_callS (As := [.int ((14 : Int32)), .int ((15 : Int32)), .int ((20 : Int32)), .int ((0 : Int32)), .int ((0 : Int32))]) (kc := 0) (fr := 0) (lo := 0) (mc := 0) (My := M_X9_five) (dk D_X9_asked_o 6 rfl) w_1554 w_1555 w_110 w_1556 okD_X9_five (er_n d (by decide) (by decide)) (Nat.le_of_ble_eq_true rfl) rfl (c_X9_five ((14 : Int32)) ((15 : Int32)) ((20 : Int32)) ((0 : Int32)) ((0 : Int32)) (h) _ hw) kxN (kLp (fun z1 hw => ?_))
  refine g_callV (As := [.long (z1)]) (kc := 0) (fr := 3) (lo := 88) (mc := 0) (My := M_X9_isWord) (dk D_X9_asked_o 7 rfl) kd_92 rfl rfl w_1558 w_1560 w_48 w_110 w_1561 okD_X9_isWord (er_n d (by decide) (by decide)) (Nat.le_of_ble_eq_true rfl) rfl (c_X9_isWord (z1) (h) _ hw) kxN (kI (fun z2 h3 hw => ?_))
  refine g_if_eq (dk D_X9_asked_o 8 rfl) rfl (wif_m hw (fun hw => ?_) (fun hw => ?_))
  · refine g_aload_n 0 (dk D_X9_asked_o 24 rfl) rfl rfl ?_
    refine g_callV (As := []) (kc := 0) (fr := 2) (lo := 57) (mc := 0) (My := M_X9_signHere) (dk D_X9_asked_o 25 rfl) kd_92 rfl rfl w_1620 w_1622 w_60 w_110 w_1623 okD_X9_signHere (er_n d (by decide) (by decide)) (Nat.le_of_ble_eq_true rfl) rfl (c_X9_signHere (h3) _ hw) kxN (kI (fun z4 h5 hw => ?_))
    refine g_bipush (dk D_X9_asked_o 26 rfl) kb_91 ?_
    refine g_icmp_ne (dk D_X9_asked_o 27 rfl) rfl (wif_m hw (fun hw => ?_) (fun hw => ?_))
    · refine g_aload_n 0 (dk D_X9_asked_o 43 rfl) rfl rfl ?_
      refine g_callV (As := []) (kc := 0) (fr := (10 + d)) (lo := (300 + 60 * d)) (mc := 0) (My := M_X9_sum_o) (dk D_X9_asked_o 44 rfl) kd_92 rfl rfl w_1608 w_1610 w_57 w_110 w_1611 okD_X9_sum_o (er_r d (by decide)) (Nat.le_of_ble_eq_true rfl) rfl (hW2 (h5) _ hw) kxN (kV (fun h6 hw => ?_))
      refine g_aload_n 0 (dk D_X9_asked_o 45 rfl) rfl rfl ?_
      refine g_callV (As := []) (kc := 0) (fr := 2) (lo := 57) (mc := 0) (My := M_X9_signHere) (dk D_X9_asked_o 46 rfl) kd_92 rfl rfl w_1620 w_1622 w_60 w_110 w_1623 okD_X9_signHere (er_n d (by decide) (by decide)) (Nat.le_of_ble_eq_true rfl) rfl (c_X9_signHere (h6) _ hw) kxN (kI (fun z7 h8 hw => ?_))
      refine g_istore_n (dk D_X9_asked_o 47 rfl) rfl (by decide) rfl ?_
      refine g_aload_n 1 (dk D_X9_asked_o 48 rfl) rfl rfl ?_
      refine g_getI 5 (dk D_X9_asked_o 49 rfl) kd_92 rfl rfl (by decide) w_1362 rfl rfl ?_
      refine g_if_ne (dk D_X9_asked_o 50 rfl) rfl (wif_m hw (fun hw => ?_) (fun hw => ?_))
      · refine g_sub [1, 0] rfl ?_
        exact t_X9_asked_o_b126 W  (z7) (h8) Q d hW0 hW1 hW2 hW3 hW4 hW5  hw
      · refine g_iload_n 0 (dk D_X9_asked_o 51 rfl) rfl rfl ?_
        refine g_bipush (dk D_X9_asked_o 52 rfl) kb_60 ?_
        refine g_icmp_eq (dk D_X9_asked_o 53 rfl) rfl (wif_m hw (fun hw => ?_) (fun hw => ?_))
        · refine g_sub [1, 0] rfl ?_
          exact t_X9_asked_o_b126 W  (z7) (h8) Q d hW0 hW1 hW2 hW3 hW4 hW5  hw
        · refine g_iload_n 0 (dk D_X9_asked_o 54 rfl) rfl rfl ?_
          refine g_bipush (dk D_X9_asked_o 55 rfl) kb_62 ?_
          refine g_icmp_eq (dk D_X9_asked_o 56 rfl) rfl (wif_m hw (fun hw => ?_) (fun hw => ?_))
          · refine g_sub [1, 0] rfl ?_
            exact t_X9_asked_o_b126 W  (z7) (h8) Q d hW0 hW1 hW2 hW3 hW4 hW5  hw
          · refine g_iload_n 0 (dk D_X9_asked_o 57 rfl) rfl rfl ?_
            refine g_bipush (dk D_X9_asked_o 58 rfl) kb_61 ?_
            refine g_icmp_eq (dk D_X9_asked_o 59 rfl) rfl (wif_m hw (fun hw => ?_) (fun hw => ?_))
            · refine g_sub [1, 0] rfl ?_
              exact t_X9_asked_o_b126 W  (z7) (h8) Q d hW0 hW1 hW2 hW3 hW4 hW5  hw
            · refine g_aload_n 1 (dk D_X9_asked_o 60 rfl) rfl rfl ?_
              refine g_iconst (dk D_X9_asked_o 61 rfl) ki_1 ?_
              refine g_aload_n 1 (dk D_X9_asked_o 62 rfl) rfl rfl ?_
              refine g_getI 4 (dk D_X9_asked_o 63 rfl) kd_92 rfl rfl (by decide) w_1361 rfl rfl ?_
              refine g_callV (As := [.int ((1 : Int32)), .int ((h8 92 4))]) (kc := 0) (fr := 0) (lo := 0) (mc := 0) (My := M_X9_wrong) (dk D_X9_asked_o 64 rfl) kd_92 rfl rfl w_1572 w_1574 w_50 w_110 w_1575 okD_X9_wrong (er_n d (by decide) (by decide)) (Nat.le_of_ble_eq_true rfl) rfl (c_X9_wrong ((1 : Int32)) ((h8 92 4)) (h8) _ hw) kxN (kV (fun h9 hw => ?_))
              refine g_sub [1, 0] rfl ?_
              exact t_X9_asked_o_b126 W  (z7) (h9) Q d hW0 hW1 hW2 hW3 hW4 hW5  hw
    · refine g_aload_n 0 (dk D_X9_asked_o 28 rfl) rfl rfl ?_
      refine g_iconst (dk D_X9_asked_o 29 rfl) ki_1 ?_
      refine g_callV (As := [.int ((1 : Int32))]) (kc := 0) (fr := 1) (lo := 30) (mc := 0) (My := M_X9_opens) (dk D_X9_asked_o 30 rfl) kd_92 rfl rfl w_1634 w_1636 w_63 w_110 w_1637 okD_X9_opens (er_n d (by decide) (by decide)) (Nat.le_of_ble_eq_true rfl) rfl (c_X9_opens ((1 : Int32)) (h5) _ hw) kxN (kV (fun h10 hw => ?_))
      refine g_aload_n 0 (dk D_X9_asked_o 31 rfl) rfl rfl ?_
      refine g_callV (As := []) (kc := 0) (fr := (10 + d)) (lo := (300 + 60 * d)) (mc := 0) (My := M_X9_ors_o) (dk D_X9_asked_o 32 rfl) kd_92 rfl rfl w_1643 w_1645 w_65 w_110 w_1646 okD_X9_ors_o (er_r d (by decide)) (Nat.le_of_ble_eq_true rfl) rfl (hW5 (h10) _ hw) kxN (kV (fun h11 hw => ?_))
      refine g_aload_n 0 (dk D_X9_asked_o 33 rfl) rfl rfl ?_
      refine g_bipush (dk D_X9_asked_o 34 rfl) kb_93 ?_
      refine g_callV (As := [.int ((93 : Int32))]) (kc := 0) (fr := 2) (lo := 57) (mc := 0) (My := M_X9_sign) (dk D_X9_asked_o 35 rfl) kd_92 rfl rfl w_1596 w_1598 w_55 w_110 w_1599 okD_X9_sign (er_n d (by decide) (by decide)) (Nat.le_of_ble_eq_true rfl) rfl (c_X9_sign ((93 : Int32)) (h11) _ hw) kxN (kV (fun h12 hw => ?_))
      refine g_aload_n 0 (dk D_X9_asked_o 36 rfl) rfl rfl ?_
      refine g_dup (dk D_X9_asked_o 37 rfl) rfl ?_
      refine g_getI 8 (dk D_X9_asked_o 38 rfl) kd_92 rfl rfl (by decide) w_1365 rfl rfl ?_
      refine g_iconst (dk D_X9_asked_o 39 rfl) ki_1 ?_
      refine g_isub (dk D_X9_asked_o 40 rfl) ?_
      refine g_put 8 (dk D_X9_asked_o 41 rfl) kd_92 rfl rfl (by decide) w_1365 rfl tyX9_ok nmX9 rfl (by decide) rfl (fun z => absurd z (by decide)) ?_
      refine g_heap (fun h13 eh13 => ?_)
      replace hw := hw _ eh13
      refine g_goto (dk D_X9_asked_o 42 rfl) rfl ?_
      exact g_vret (dk D_X9_asked_o 86 rfl) rfl ⟨rfl, hw⟩
  · refine g_aload_n 0 (dk D_X9_asked_o 9 rfl) rfl rfl ?_
    refine g_iconst (dk D_X9_asked_o 10 rfl) ki_3 ?_
    refine g_callV (As := [.int ((3 : Int32))]) (kc := 0) (fr := 1) (lo := 30) (mc := 0) (My := M_X9_opens) (dk D_X9_asked_o 11 rfl) kd_92 rfl rfl w_1634 w_1636 w_63 w_110 w_1637 okD_X9_opens (er_n d (by decide) (by decide)) (Nat.le_of_ble_eq_true rfl) rfl (c_X9_opens ((3 : Int32)) (h3) _ hw) kxN (kV (fun h14 hw => ?_))
    refine g_aload_n 0 (dk D_X9_asked_o 12 rfl) rfl rfl ?_
    refine g_callV (As := []) (kc := 0) (fr := (10 + d)) (lo := (300 + 60 * d)) (mc := 0) (My := M_X9_asked_o) (dk D_X9_asked_o 13 rfl) kd_92 rfl rfl w_1651 w_1653 w_67 w_110 w_1654 okD_X9_asked_o (er_r d (by decide)) (Nat.le_of_ble_eq_true rfl) rfl (hW3 (h14) _ hw) kxN (kV (fun h15 hw => ?_))
    refine g_aload_n 0 (dk D_X9_asked_o 14 rfl) rfl rfl ?_
    refine g_bipush (dk D_X9_asked_o 15 rfl) kb_17 ?_
    refine g_callV (As := [.int ((17 : Int32))]) (kc := 0) (fr := 0) (lo := 0) (mc := 0) (My := M_X9_tells) (dk D_X9_asked_o 16 rfl) kd_92 rfl rfl w_1630 w_1632 w_62 w_110 w_1633 okD_X9_tells (er_n d (by decide) (by decide)) (Nat.le_of_ble_eq_true rfl) rfl (c_X9_tells ((17 : Int32)) (h15) _ hw) kxN (kV (fun h16 hw => ?_))
    refine g_aload_n 0 (dk D_X9_asked_o 17 rfl) rfl rfl ?_
    refine g_dup (dk D_X9_asked_o 18 rfl) rfl ?_
    refine g_getI 8 (dk D_X9_asked_o 19 rfl) kd_92 rfl rfl (by decide) w_1365 rfl rfl ?_
    refine g_iconst (dk D_X9_asked_o 20 rfl) ki_1 ?_
    refine g_isub (dk D_X9_asked_o 21 rfl) ?_
    refine g_put 8 (dk D_X9_asked_o 22 rfl) kd_92 rfl rfl (by decide) w_1365 rfl tyX9_ok nmX9 rfl (by decide) rfl (fun z => absurd z (by decide)) ?_
    refine g_heap (fun h17 eh17 => ?_)
    replace hw := hw _ eh17
    refine g_goto (dk D_X9_asked_o 23 rfl) rfl ?_
    exact g_vret (dk D_X9_asked_o 86 rfl) rfl ⟨rfl, hw⟩
theorem c_X9_asked_o {X : Cx} (W : Nat → Hp → (Hp → Prop) → Prop)  (d : Nat) (hW0 : ∀  (h : Hp) (Q : Hp → Prop), W 0  h Q → Con X yX9_unit M_X9_unit_o (10 + d) (300 + 60 * d) 0 [.ref (92)] h (QV Q) Qn) (hW1 : ∀  (h : Hp) (Q : Hp → Prop), W 1  h Q → Con X yX9_product M_X9_product_o (10 + d) (300 + 60 * d) 0 [.ref (92)] h (QV Q) Qn) (hW2 : ∀  (h : Hp) (Q : Hp → Prop), W 2  h Q → Con X yX9_sum M_X9_sum_o (10 + d) (300 + 60 * d) 0 [.ref (92)] h (QV Q) Qn) (hW3 : ∀  (h : Hp) (Q : Hp → Prop), W 3  h Q → Con X yX9_asked M_X9_asked_o (10 + d) (300 + 60 * d) 0 [.ref (92)] h (QV Q) Qn) (hW4 : ∀  (h : Hp) (Q : Hp → Prop), W 4  h Q → Con X yX9_ands M_X9_ands_o (10 + d) (300 + 60 * d) 0 [.ref (92)] h (QV Q) Qn) (hW5 : ∀  (h : Hp) (Q : Hp → Prop), W 5  h Q → Con X yX9_ors M_X9_ors_o (10 + d) (300 + 60 * d) 0 [.ref (92)] h (QV Q) Qn)  (h : Hp) (Q : Hp → Prop) (hw : w_X9_asked_o W  h Q) : Con X yX9_asked M_X9_asked_o (10 + (d + 1)) (300 + 60 * (d + 1)) 0 [.ref (92)] h (QV Q) Qn :=
  con_of (by decide +kernel) rfl (Nat.le_of_ble_eq_true rfl) (t_X9_asked_o W  h Q d hW0 hW1 hW2 hW3 hW4 hW5  hw)
theorem t_X9_ands_o_l4 {X : Cx} (W : Nat → Hp → (Hp → Prop) → Prop)  (Q : Hp → Prop) (K4 : Hp → Prop)  (h : Hp) (d : Nat) (hW0 : ∀  (h : Hp) (Q : Hp → Prop), W 0  h Q → Con X yX9_unit M_X9_unit_o (10 + d) (300 + 60 * d) 0 [.ref (92)] h (QV Q) Qn) (hW1 : ∀  (h : Hp) (Q : Hp → Prop), W 1  h Q → Con X yX9_product M_X9_product_o (10 + d) (300 + 60 * d) 0 [.ref (92)] h (QV Q) Qn) (hW2 : ∀  (h : Hp) (Q : Hp → Prop), W 2  h Q → Con X yX9_sum M_X9_sum_o (10 + d) (300 + 60 * d) 0 [.ref (92)] h (QV Q) Qn) (hW3 : ∀  (h : Hp) (Q : Hp → Prop), W 3  h Q → Con X yX9_asked M_X9_asked_o (10 + d) (300 + 60 * d) 0 [.ref (92)] h (QV Q) Qn) (hW4 : ∀  (h : Hp) (Q : Hp → Prop), W 4  h Q → Con X yX9_ands M_X9_ands_o (10 + d) (300 + 60 * d) 0 [.ref (92)] h (QV Q) Qn) (hW5 : ∀  (h : Hp) (Q : Hp → Prop), W 5  h Q → Con X yX9_ors M_X9_ors_o (10 + d) (300 + 60 * d) 0 [.ref (92)] h (QV Q) Qn)  (hK4 : ∀ s : Hp, K4 s → G X M_X9_ands_o (Er (d + 1)) (QM X (Er (d + 1)) (QV Q) Qn) 0 4 [(0, .ref (92))] [] (s)) (hw : w_X9_ands_o_l4 W  Q K4  h) : G X M_X9_ands_o (Er (d + 1)) (QM X (Er (d + 1)) (QV Q) Qn) 0 4 [(0, .ref (92))] [] h := by
  unfold w_X9_ands_o_l4 at hw
  refine g_aload_n 0 (dk D_X9_ands_o 2 rfl) rfl rfl ?_
  refine g_iconst (dk D_X9_ands_o 3 rfl) ki_1 ?_
  refine g_bipush (dk D_X9_ands_o 4 rfl) kb_14 ?_
  refine g_iconst (dk D_X9_ands_o 5 rfl) ki_4 ?_
  refine g_iconst (dk D_X9_ands_o 6 rfl) ki_0 ?_
  refine g_iconst (dk D_X9_ands_o 7 rfl) ki_0 ?_
  refine g_callS (As := [.int ((1 : Int32)), .int ((14 : Int32)), .int ((4 : Int32)), .int ((0 : Int32)), .int ((0 : Int32))]) (kc := 0) (fr := 0) (lo := 0) (mc := 0) (My := M_X9_five) (dk D_X9_ands_o 8 rfl) w_1554 w_1555 w_110 w_1556 okD_X9_five (er_n d (by decide) (by decide)) (Nat.le_of_ble_eq_true rfl) rfl (c_X9_five ((1 : Int32)) ((14 : Int32)) ((4 : Int32)) ((0 : Int32)) ((0 : Int32)) (h) _ hw) kxN (kLp (fun z1 hw => ?_))
  refine g_callV (As := [.long (z1)]) (kc := 0) (fr := 4) (lo := 118) (mc := 0) (My := M_X9_eats) (dk D_X9_ands_o 9 rfl) kd_92 rfl rfl w_1639 w_1641 w_64 w_110 w_1642 okD_X9_eats (er_n d (by decide) (by decide)) (Nat.le_of_ble_eq_true rfl) rfl (c_X9_eats (z1) (h) _ hw) kxN (kI (fun z2 h3 hw => ?_))
  refine g_if_eq (dk D_X9_ands_o 10 rfl) rfl (wif_m hw (fun hw => ?_) (fun hw => ?_))
  · exact g_vret (dk D_X9_ands_o 17 rfl) rfl ⟨rfl, hw⟩
  · refine g_aload_n 0 (dk D_X9_ands_o 11 rfl) rfl rfl ?_
    refine g_callV (As := []) (kc := 0) (fr := (10 + d)) (lo := (300 + 60 * d)) (mc := 0) (My := M_X9_asked_o) (dk D_X9_ands_o 12 rfl) kd_92 rfl rfl w_1651 w_1653 w_67 w_110 w_1654 okD_X9_asked_o (er_r d (by decide)) (Nat.le_of_ble_eq_true rfl) rfl (hW3 (h3) _ hw) kxN (kV (fun h4 hw => ?_))
    refine g_aload_n 0 (dk D_X9_ands_o 13 rfl) rfl rfl ?_
    refine g_bipush (dk D_X9_ands_o 14 rfl) kb_18 ?_
    refine g_callV (As := [.int ((18 : Int32))]) (kc := 0) (fr := 0) (lo := 0) (mc := 0) (My := M_X9_tells) (dk D_X9_ands_o 15 rfl) kd_92 rfl rfl w_1630 w_1632 w_62 w_110 w_1633 okD_X9_tells (er_n d (by decide) (by decide)) (Nat.le_of_ble_eq_true rfl) rfl (c_X9_tells ((18 : Int32)) (h4) _ hw) kxN (kV (fun h5 hw => ?_))
    refine g_goto (dk D_X9_ands_o 16 rfl) rfl ?_
    exact hK4 (h5) hw
theorem t_X9_ands_o_b4 {X : Cx} (W : Nat → Hp → (Hp → Prop) → Prop)  (Q : Hp → Prop) (s : Hp) (d : Nat) (hW0 : ∀  (h : Hp) (Q : Hp → Prop), W 0  h Q → Con X yX9_unit M_X9_unit_o (10 + d) (300 + 60 * d) 0 [.ref (92)] h (QV Q) Qn) (hW1 : ∀  (h : Hp) (Q : Hp → Prop), W 1  h Q → Con X yX9_product M_X9_product_o (10 + d) (300 + 60 * d) 0 [.ref (92)] h (QV Q) Qn) (hW2 : ∀  (h : Hp) (Q : Hp → Prop), W 2  h Q → Con X yX9_sum M_X9_sum_o (10 + d) (300 + 60 * d) 0 [.ref (92)] h (QV Q) Qn) (hW3 : ∀  (h : Hp) (Q : Hp → Prop), W 3  h Q → Con X yX9_asked M_X9_asked_o (10 + d) (300 + 60 * d) 0 [.ref (92)] h (QV Q) Qn) (hW4 : ∀  (h : Hp) (Q : Hp → Prop), W 4  h Q → Con X yX9_ands M_X9_ands_o (10 + d) (300 + 60 * d) 0 [.ref (92)] h (QV Q) Qn) (hW5 : ∀  (h : Hp) (Q : Hp → Prop), W 5  h Q → Con X yX9_ors M_X9_ors_o (10 + d) (300 + 60 * d) 0 [.ref (92)] h (QV Q) Qn)  (hw : w_X9_ands_o_b4 W  Q s) : G X M_X9_ands_o (Er (d + 1)) (QM X (Er (d + 1)) (QV Q) Qn) 0 4 [(0, .ref (92))] [] (s) :=
  wl_ind (B := fun K s => w_X9_ands_o_l4 W  Q K (s)) (P := fun s => G X M_X9_ands_o (Er (d + 1)) (QM X (Er (d + 1)) (QV Q) Qn) 0 4 [(0, .ref (92))] [] (s)) (fun K hK s hw => t_X9_ands_o_l4 W  Q K (s) d hW0 hW1 hW2 hW3 hW4 hW5  hK hw) s hw
theorem t_X9_ands_o {X : Cx} (W : Nat → Hp → (Hp → Prop) → Prop)  (h : Hp) (Q : Hp → Prop) (d : Nat) (hW0 : ∀  (h : Hp) (Q : Hp → Prop), W 0  h Q → Con X yX9_unit M_X9_unit_o (10 + d) (300 + 60 * d) 0 [.ref (92)] h (QV Q) Qn) (hW1 : ∀  (h : Hp) (Q : Hp → Prop), W 1  h Q → Con X yX9_product M_X9_product_o (10 + d) (300 + 60 * d) 0 [.ref (92)] h (QV Q) Qn) (hW2 : ∀  (h : Hp) (Q : Hp → Prop), W 2  h Q → Con X yX9_sum M_X9_sum_o (10 + d) (300 + 60 * d) 0 [.ref (92)] h (QV Q) Qn) (hW3 : ∀  (h : Hp) (Q : Hp → Prop), W 3  h Q → Con X yX9_asked M_X9_asked_o (10 + d) (300 + 60 * d) 0 [.ref (92)] h (QV Q) Qn) (hW4 : ∀  (h : Hp) (Q : Hp → Prop), W 4  h Q → Con X yX9_ands M_X9_ands_o (10 + d) (300 + 60 * d) 0 [.ref (92)] h (QV Q) Qn) (hW5 : ∀  (h : Hp) (Q : Hp → Prop), W 5  h Q → Con X yX9_ors M_X9_ors_o (10 + d) (300 + 60 * d) 0 [.ref (92)] h (QV Q) Qn)  (hw : w_X9_ands_o W  h Q) : G X M_X9_ands_o (Er (d + 1)) (QM X (Er (d + 1)) (QV Q) Qn) 0 0 [(0, .ref (92))] [] h := by
  unfold w_X9_ands_o at hw
  refine g_aload_n 0 (dk D_X9_ands_o 0 rfl) rfl rfl ?_
  refine g_callV (As := []) (kc := 0) (fr := (10 + d)) (lo := (300 + 60 * d)) (mc := 0) (My := M_X9_asked_o) (dk D_X9_ands_o 1 rfl) kd_92 rfl rfl w_1651 w_1653 w_67 w_110 w_1654 okD_X9_asked_o (er_r d (by decide)) (Nat.le_of_ble_eq_true rfl) rfl (hW3 (h) _ hw) kxN (kV (fun h1 hw => ?_))
  exact t_X9_ands_o_b4 W  Q (h1) d hW0 hW1 hW2 hW3 hW4 hW5  hw
theorem c_X9_ands_o {X : Cx} (W : Nat → Hp → (Hp → Prop) → Prop)  (d : Nat) (hW0 : ∀  (h : Hp) (Q : Hp → Prop), W 0  h Q → Con X yX9_unit M_X9_unit_o (10 + d) (300 + 60 * d) 0 [.ref (92)] h (QV Q) Qn) (hW1 : ∀  (h : Hp) (Q : Hp → Prop), W 1  h Q → Con X yX9_product M_X9_product_o (10 + d) (300 + 60 * d) 0 [.ref (92)] h (QV Q) Qn) (hW2 : ∀  (h : Hp) (Q : Hp → Prop), W 2  h Q → Con X yX9_sum M_X9_sum_o (10 + d) (300 + 60 * d) 0 [.ref (92)] h (QV Q) Qn) (hW3 : ∀  (h : Hp) (Q : Hp → Prop), W 3  h Q → Con X yX9_asked M_X9_asked_o (10 + d) (300 + 60 * d) 0 [.ref (92)] h (QV Q) Qn) (hW4 : ∀  (h : Hp) (Q : Hp → Prop), W 4  h Q → Con X yX9_ands M_X9_ands_o (10 + d) (300 + 60 * d) 0 [.ref (92)] h (QV Q) Qn) (hW5 : ∀  (h : Hp) (Q : Hp → Prop), W 5  h Q → Con X yX9_ors M_X9_ors_o (10 + d) (300 + 60 * d) 0 [.ref (92)] h (QV Q) Qn)  (h : Hp) (Q : Hp → Prop) (hw : w_X9_ands_o W  h Q) : Con X yX9_ands M_X9_ands_o (10 + (d + 1)) (300 + 60 * (d + 1)) 0 [.ref (92)] h (QV Q) Qn :=
  con_of (by decide +kernel) rfl (Nat.le_of_ble_eq_true rfl) (t_X9_ands_o W  h Q d hW0 hW1 hW2 hW3 hW4 hW5  hw)
theorem t_X9_ors_o_l4 {X : Cx} (W : Nat → Hp → (Hp → Prop) → Prop)  (Q : Hp → Prop) (K4 : Hp → Prop)  (h : Hp) (d : Nat) (hW0 : ∀  (h : Hp) (Q : Hp → Prop), W 0  h Q → Con X yX9_unit M_X9_unit_o (10 + d) (300 + 60 * d) 0 [.ref (92)] h (QV Q) Qn) (hW1 : ∀  (h : Hp) (Q : Hp → Prop), W 1  h Q → Con X yX9_product M_X9_product_o (10 + d) (300 + 60 * d) 0 [.ref (92)] h (QV Q) Qn) (hW2 : ∀  (h : Hp) (Q : Hp → Prop), W 2  h Q → Con X yX9_sum M_X9_sum_o (10 + d) (300 + 60 * d) 0 [.ref (92)] h (QV Q) Qn) (hW3 : ∀  (h : Hp) (Q : Hp → Prop), W 3  h Q → Con X yX9_asked M_X9_asked_o (10 + d) (300 + 60 * d) 0 [.ref (92)] h (QV Q) Qn) (hW4 : ∀  (h : Hp) (Q : Hp → Prop), W 4  h Q → Con X yX9_ands M_X9_ands_o (10 + d) (300 + 60 * d) 0 [.ref (92)] h (QV Q) Qn) (hW5 : ∀  (h : Hp) (Q : Hp → Prop), W 5  h Q → Con X yX9_ors M_X9_ors_o (10 + d) (300 + 60 * d) 0 [.ref (92)] h (QV Q) Qn)  (hK4 : ∀ s : Hp, K4 s → G X M_X9_ors_o (Er (d + 1)) (QM X (Er (d + 1)) (QV Q) Qn) 0 4 [(0, .ref (92))] [] (s)) (hw : w_X9_ors_o_l4 W  Q K4  h) : G X M_X9_ors_o (Er (d + 1)) (QM X (Er (d + 1)) (QV Q) Qn) 0 4 [(0, .ref (92))] [] h := by
  unfold w_X9_ors_o_l4 at hw
  refine g_aload_n 0 (dk D_X9_ors_o 2 rfl) rfl rfl ?_
  refine g_ldc2 (dk D_X9_ors_o 3 rfl) w_1655 ?_
  refine g_callV (As := [.long ((423 : Int64))]) (kc := 0) (fr := 4) (lo := 118) (mc := 0) (My := M_X9_eats) (dk D_X9_ors_o 4 rfl) kd_92 rfl rfl w_1639 w_1641 w_64 w_110 w_1642 okD_X9_eats (er_n d (by decide) (by decide)) (Nat.le_of_ble_eq_true rfl) rfl (c_X9_eats ((423 : Int64)) (h) _ hw) kxN (kI (fun z1 h2 hw => ?_))
  refine g_if_eq (dk D_X9_ors_o 5 rfl) rfl (wif_m hw (fun hw => ?_) (fun hw => ?_))
  · exact g_vret (dk D_X9_ors_o 12 rfl) rfl ⟨rfl, hw⟩
  · refine g_aload_n 0 (dk D_X9_ors_o 6 rfl) rfl rfl ?_
    refine g_callV (As := []) (kc := 0) (fr := (10 + d)) (lo := (300 + 60 * d)) (mc := 0) (My := M_X9_ands_o) (dk D_X9_ors_o 7 rfl) kd_92 rfl rfl w_1647 w_1649 w_66 w_110 w_1650 okD_X9_ands_o (er_r d (by decide)) (Nat.le_of_ble_eq_true rfl) rfl (hW4 (h2) _ hw) kxN (kV (fun h3 hw => ?_))
    refine g_aload_n 0 (dk D_X9_ors_o 8 rfl) rfl rfl ?_
    refine g_bipush (dk D_X9_ors_o 9 rfl) kb_19 ?_
    refine g_callV (As := [.int ((19 : Int32))]) (kc := 0) (fr := 0) (lo := 0) (mc := 0) (My := M_X9_tells) (dk D_X9_ors_o 10 rfl) kd_92 rfl rfl w_1630 w_1632 w_62 w_110 w_1633 okD_X9_tells (er_n d (by decide) (by decide)) (Nat.le_of_ble_eq_true rfl) rfl (c_X9_tells ((19 : Int32)) (h3) _ hw) kxN (kV (fun h4 hw => ?_))
    refine g_goto (dk D_X9_ors_o 11 rfl) rfl ?_
    exact hK4 (h4) hw
theorem t_X9_ors_o_b4 {X : Cx} (W : Nat → Hp → (Hp → Prop) → Prop)  (Q : Hp → Prop) (s : Hp) (d : Nat) (hW0 : ∀  (h : Hp) (Q : Hp → Prop), W 0  h Q → Con X yX9_unit M_X9_unit_o (10 + d) (300 + 60 * d) 0 [.ref (92)] h (QV Q) Qn) (hW1 : ∀  (h : Hp) (Q : Hp → Prop), W 1  h Q → Con X yX9_product M_X9_product_o (10 + d) (300 + 60 * d) 0 [.ref (92)] h (QV Q) Qn) (hW2 : ∀  (h : Hp) (Q : Hp → Prop), W 2  h Q → Con X yX9_sum M_X9_sum_o (10 + d) (300 + 60 * d) 0 [.ref (92)] h (QV Q) Qn) (hW3 : ∀  (h : Hp) (Q : Hp → Prop), W 3  h Q → Con X yX9_asked M_X9_asked_o (10 + d) (300 + 60 * d) 0 [.ref (92)] h (QV Q) Qn) (hW4 : ∀  (h : Hp) (Q : Hp → Prop), W 4  h Q → Con X yX9_ands M_X9_ands_o (10 + d) (300 + 60 * d) 0 [.ref (92)] h (QV Q) Qn) (hW5 : ∀  (h : Hp) (Q : Hp → Prop), W 5  h Q → Con X yX9_ors M_X9_ors_o (10 + d) (300 + 60 * d) 0 [.ref (92)] h (QV Q) Qn)  (hw : w_X9_ors_o_b4 W  Q s) : G X M_X9_ors_o (Er (d + 1)) (QM X (Er (d + 1)) (QV Q) Qn) 0 4 [(0, .ref (92))] [] (s) :=
  wl_ind (B := fun K s => w_X9_ors_o_l4 W  Q K (s)) (P := fun s => G X M_X9_ors_o (Er (d + 1)) (QM X (Er (d + 1)) (QV Q) Qn) 0 4 [(0, .ref (92))] [] (s)) (fun K hK s hw => t_X9_ors_o_l4 W  Q K (s) d hW0 hW1 hW2 hW3 hW4 hW5  hK hw) s hw
theorem t_X9_ors_o {X : Cx} (W : Nat → Hp → (Hp → Prop) → Prop)  (h : Hp) (Q : Hp → Prop) (d : Nat) (hW0 : ∀  (h : Hp) (Q : Hp → Prop), W 0  h Q → Con X yX9_unit M_X9_unit_o (10 + d) (300 + 60 * d) 0 [.ref (92)] h (QV Q) Qn) (hW1 : ∀  (h : Hp) (Q : Hp → Prop), W 1  h Q → Con X yX9_product M_X9_product_o (10 + d) (300 + 60 * d) 0 [.ref (92)] h (QV Q) Qn) (hW2 : ∀  (h : Hp) (Q : Hp → Prop), W 2  h Q → Con X yX9_sum M_X9_sum_o (10 + d) (300 + 60 * d) 0 [.ref (92)] h (QV Q) Qn) (hW3 : ∀  (h : Hp) (Q : Hp → Prop), W 3  h Q → Con X yX9_asked M_X9_asked_o (10 + d) (300 + 60 * d) 0 [.ref (92)] h (QV Q) Qn) (hW4 : ∀  (h : Hp) (Q : Hp → Prop), W 4  h Q → Con X yX9_ands M_X9_ands_o (10 + d) (300 + 60 * d) 0 [.ref (92)] h (QV Q) Qn) (hW5 : ∀  (h : Hp) (Q : Hp → Prop), W 5  h Q → Con X yX9_ors M_X9_ors_o (10 + d) (300 + 60 * d) 0 [.ref (92)] h (QV Q) Qn)  (hw : w_X9_ors_o W  h Q) : G X M_X9_ors_o (Er (d + 1)) (QM X (Er (d + 1)) (QV Q) Qn) 0 0 [(0, .ref (92))] [] h := by
  unfold w_X9_ors_o at hw
  refine g_aload_n 0 (dk D_X9_ors_o 0 rfl) rfl rfl ?_
  refine g_callV (As := []) (kc := 0) (fr := (10 + d)) (lo := (300 + 60 * d)) (mc := 0) (My := M_X9_ands_o) (dk D_X9_ors_o 1 rfl) kd_92 rfl rfl w_1647 w_1649 w_66 w_110 w_1650 okD_X9_ands_o (er_r d (by decide)) (Nat.le_of_ble_eq_true rfl) rfl (hW4 (h) _ hw) kxN (kV (fun h1 hw => ?_))
  exact t_X9_ors_o_b4 W  Q (h1) d hW0 hW1 hW2 hW3 hW4 hW5  hw
theorem c_X9_ors_o {X : Cx} (W : Nat → Hp → (Hp → Prop) → Prop)  (d : Nat) (hW0 : ∀  (h : Hp) (Q : Hp → Prop), W 0  h Q → Con X yX9_unit M_X9_unit_o (10 + d) (300 + 60 * d) 0 [.ref (92)] h (QV Q) Qn) (hW1 : ∀  (h : Hp) (Q : Hp → Prop), W 1  h Q → Con X yX9_product M_X9_product_o (10 + d) (300 + 60 * d) 0 [.ref (92)] h (QV Q) Qn) (hW2 : ∀  (h : Hp) (Q : Hp → Prop), W 2  h Q → Con X yX9_sum M_X9_sum_o (10 + d) (300 + 60 * d) 0 [.ref (92)] h (QV Q) Qn) (hW3 : ∀  (h : Hp) (Q : Hp → Prop), W 3  h Q → Con X yX9_asked M_X9_asked_o (10 + d) (300 + 60 * d) 0 [.ref (92)] h (QV Q) Qn) (hW4 : ∀  (h : Hp) (Q : Hp → Prop), W 4  h Q → Con X yX9_ands M_X9_ands_o (10 + d) (300 + 60 * d) 0 [.ref (92)] h (QV Q) Qn) (hW5 : ∀  (h : Hp) (Q : Hp → Prop), W 5  h Q → Con X yX9_ors M_X9_ors_o (10 + d) (300 + 60 * d) 0 [.ref (92)] h (QV Q) Qn)  (h : Hp) (Q : Hp → Prop) (hw : w_X9_ors_o W  h Q) : Con X yX9_ors M_X9_ors_o (10 + (d + 1)) (300 + 60 * (d + 1)) 0 [.ref (92)] h (QV Q) Qn :=
  con_of (by decide +kernel) rfl (Nat.le_of_ble_eq_true rfl) (t_X9_ors_o W  h Q d hW0 hW1 hW2 hW3 hW4 hW5  hw)
def wR_X9 : Nat → Nat → Hp → (Hp → Prop) → Prop
  | 0, _, _, _ => False
  | d + 1, 0, h, Q => w_X9_unit_o (wR_X9 d) h Q
  | d + 1, 1, h, Q => w_X9_product_o (wR_X9 d) h Q
  | d + 1, 2, h, Q => w_X9_sum_o (wR_X9 d) h Q
  | d + 1, 3, h, Q => w_X9_asked_o (wR_X9 d) h Q
  | d + 1, 4, h, Q => w_X9_ands_o (wR_X9 d) h Q
  | d + 1, _, h, Q => w_X9_ors_o (wR_X9 d) h Q
theorem cR_X9 {X : Cx} : ∀ d : Nat, (∀ (h : Hp) (Q : Hp → Prop), wR_X9 d 0 h Q → Con X yX9_unit M_X9_unit_o (10 + d) (300 + 60 * d) 0 [.ref (92)] h (QV Q) Qn) ∧ (∀ (h : Hp) (Q : Hp → Prop), wR_X9 d 1 h Q → Con X yX9_product M_X9_product_o (10 + d) (300 + 60 * d) 0 [.ref (92)] h (QV Q) Qn) ∧ (∀ (h : Hp) (Q : Hp → Prop), wR_X9 d 2 h Q → Con X yX9_sum M_X9_sum_o (10 + d) (300 + 60 * d) 0 [.ref (92)] h (QV Q) Qn) ∧ (∀ (h : Hp) (Q : Hp → Prop), wR_X9 d 3 h Q → Con X yX9_asked M_X9_asked_o (10 + d) (300 + 60 * d) 0 [.ref (92)] h (QV Q) Qn) ∧ (∀ (h : Hp) (Q : Hp → Prop), wR_X9 d 4 h Q → Con X yX9_ands M_X9_ands_o (10 + d) (300 + 60 * d) 0 [.ref (92)] h (QV Q) Qn) ∧ (∀ (h : Hp) (Q : Hp → Prop), wR_X9 d 5 h Q → Con X yX9_ors M_X9_ors_o (10 + d) (300 + 60 * d) 0 [.ref (92)] h (QV Q) Qn) := by
  intro d
  induction d with
  | zero => exact ⟨fun h Q hw => hw.elim, fun h Q hw => hw.elim, fun h Q hw => hw.elim, fun h Q hw => hw.elim, fun h Q hw => hw.elim, fun h Q hw => hw.elim⟩
  | succ d ih =>
    obtain ⟨h0, h1, h2, h3, h4, h5⟩ := ih
    exact ⟨fun h Q hw => c_X9_unit_o (wR_X9 d) d h0 h1 h2 h3 h4 h5 h Q hw, fun h Q hw => c_X9_product_o (wR_X9 d) d h0 h1 h2 h3 h4 h5 h Q hw, fun h Q hw => c_X9_sum_o (wR_X9 d) d h0 h1 h2 h3 h4 h5 h Q hw, fun h Q hw => c_X9_asked_o (wR_X9 d) d h0 h1 h2 h3 h4 h5 h Q hw, fun h Q hw => c_X9_ands_o (wR_X9 d) d h0 h1 h2 h3 h4 h5 h Q hw, fun h Q hw => c_X9_ors_o (wR_X9 d) d h0 h1 h2 h3 h4 h5 h Q hw⟩
abbrev M_X9_unit : Mi := M_X9_unit_o
theorem okD_X9_unit : okD yX9_unit 0 := okD_X9_unit_o
def w_X9_unit (h : Hp) (Q : Hp → Prop) : Prop := wR_X9 60 0 h Q
theorem c_X9_unit {X : Cx} (h : Hp) (Q : Hp → Prop) (hw : w_X9_unit h Q) : Con X yX9_unit M_X9_unit 70 3900 0 [.ref (92)] h (QV Q) Qn := (cR_X9 60).1 h Q hw
abbrev M_X9_product : Mi := M_X9_product_o
theorem okD_X9_product : okD yX9_product 0 := okD_X9_product_o
def w_X9_product (h : Hp) (Q : Hp → Prop) : Prop := wR_X9 60 1 h Q
theorem c_X9_product {X : Cx} (h : Hp) (Q : Hp → Prop) (hw : w_X9_product h Q) : Con X yX9_product M_X9_product 70 3900 0 [.ref (92)] h (QV Q) Qn := (cR_X9 60).2.1 h Q hw
abbrev M_X9_sum : Mi := M_X9_sum_o
theorem okD_X9_sum : okD yX9_sum 0 := okD_X9_sum_o
def w_X9_sum (h : Hp) (Q : Hp → Prop) : Prop := wR_X9 60 2 h Q
theorem c_X9_sum {X : Cx} (h : Hp) (Q : Hp → Prop) (hw : w_X9_sum h Q) : Con X yX9_sum M_X9_sum 70 3900 0 [.ref (92)] h (QV Q) Qn := (cR_X9 60).2.2.1 h Q hw
abbrev M_X9_asked : Mi := M_X9_asked_o
theorem okD_X9_asked : okD yX9_asked 0 := okD_X9_asked_o
def w_X9_asked (h : Hp) (Q : Hp → Prop) : Prop := wR_X9 60 3 h Q
theorem c_X9_asked {X : Cx} (h : Hp) (Q : Hp → Prop) (hw : w_X9_asked h Q) : Con X yX9_asked M_X9_asked 70 3900 0 [.ref (92)] h (QV Q) Qn := (cR_X9 60).2.2.2.1 h Q hw
abbrev M_X9_ands : Mi := M_X9_ands_o
theorem okD_X9_ands : okD yX9_ands 0 := okD_X9_ands_o
def w_X9_ands (h : Hp) (Q : Hp → Prop) : Prop := wR_X9 60 4 h Q
theorem c_X9_ands {X : Cx} (h : Hp) (Q : Hp → Prop) (hw : w_X9_ands h Q) : Con X yX9_ands M_X9_ands 70 3900 0 [.ref (92)] h (QV Q) Qn := (cR_X9 60).2.2.2.2.1 h Q hw
abbrev M_X9_ors : Mi := M_X9_ors_o
theorem okD_X9_ors : okD yX9_ors 0 := okD_X9_ors_o
def w_X9_ors (h : Hp) (Q : Hp → Prop) : Prop := wR_X9 60 5 h Q
theorem c_X9_ors {X : Cx} (h : Hp) (Q : Hp → Prop) (hw : w_X9_ors h Q) : Con X yX9_ors M_X9_ors 70 3900 0 [.ref (92)] h (QV Q) Qn := (cR_X9 60).2.2.2.2.2 h Q hw
/-! ShadowTollsModel.pays()V -/
abbrev M_X9_pays : Mi := (RX9, cX9_pays, 1, none)
abbrev E_X9_pays : Rm := (71, 3929, 0, 0)
def rows_X9_pays : List (Nat × Instr × Nat) := [(0, .aload_n 0, 1), (1, .bipush 16, 2), (3, .iconst 1, 1), (4, .bipush 25, 2), (6, .iconst 0, 1), (7, .iconst 0, 1), (8, .invokestatic 172, 3), (11, .invokevirtual 159, 3), (14, .ifCond .ne 15, 3), (17, .aload_n 0, 1), (18, .iconst 1, 1), (19, .aload_n 0, 1), (20, .getfield 120, 3), (23, .invokevirtual 140, 3), (26, .goto 21, 3), (29, .aload_n 0, 1), (30, .getfield 266, 3), (33, .bipush 10, 2), (35, .if_icmp .ne 12, 3), (38, .aload_n 0, 1), (39, .iconst 3, 1), (40, .aload_n 0, 1), (41, .getfield 120, 3), (44, .invokevirtual 140, 3), (47, .aload_n 0, 1), (48, .getfield 127, 3), (51, .ifCond .eq 4, 3), (54, .return_, 1), (55, .aload_n 0, 1), (56, .invokevirtual 163, 3), (59, .aload_n 0, 1), (60, .getfield 46, 3), (63, .aload_n 0, 1), (64, .getfield 221, 3), (67, .aaload, 1), (68, .aload_n 0, 1), (69, .getfield 266, 3), (72, .aload_n 0, 1), (73, .getfield 224, 3), (76, .iastore, 1), (77, .aload_n 0, 1), (78, .invokevirtual 249, 3), (81, .aload_n 0, 1), (82, .getfield 49, 3), (85, .aload_n 0, 1), (86, .getfield 221, 3), (89, .aaload, 1), (90, .aload_n 0, 1), (91, .getfield 266, 3), (94, .aload_n 0, 1), (95, .getfield 224, 3), (98, .iastore, 1), (99, .aload_n 0, 1), (100, .ldc2_w 269, 3), (103, .invokevirtual 257, 3), (106, .ifCond .eq 7, 3), (109, .aload_n 0, 1), (110, .invokevirtual 263, 3), (113, .aload_n 0, 1), (114, .getfield 52, 3), (117, .aload_n 0, 1), (118, .getfield 221, 3), (121, .aaload, 1), (122, .aload_n 0, 1), (123, .getfield 266, 3), (126, .aload_n 0, 1), (127, .getfield 224, 3), (130, .iastore, 1), (131, .aload_n 0, 1), (132, .dup, 1), (133, .getfield 266, 3), (136, .iconst 1, 1), (137, .iadd, 1), (138, .putfield 266, 3), (141, .aload_n 0, 1), (142, .bipush 59, 2), (144, .invokevirtual 192, 3), (147, .return_, 1)]
theorem D_X9_pays : dkA cX9_pays rows_X9_pays := by
  unfold dkA
  decide +kernel
theorem okD_X9_pays : okD yX9_pays 0 := by
  unfold okD
  decide +kernel
def w_X9_pays_b113 (h : Hp) (Q : Hp → Prop) : Prop :=
  (vp_in (h 92 18) 4 ∧ (vp_in (h 92 20) 10 ∧ wlet (hup h (130 + 1 * Int32.toNatClampNeg ((h 92 18))) (Int32.toNatClampNeg (h 92 20)) (h 92 19)) (fun h3 => wlet (hup h3 92 20 ((h3 92 20) + (1 : Int32))) (fun h4 => w_X9_sign ((59 : Int32)) h4 (fun h5 => Q h5)))))
def w_X9_pays_b47 (h : Hp) (Q : Hp → Prop) : Prop :=
  wif ((h 92 5) = 0) (w_X9_skipWord  h (fun h1 => (vp_in (h1 92 18) 4 ∧ (vp_in (h1 92 20) 10 ∧ wlet (hup h1 (120 + 1 * Int32.toNatClampNeg ((h1 92 18))) (Int32.toNatClampNeg (h1 92 20)) (h1 92 19)) (fun h4 => w_X9_sum  h4 (fun h5 => (vp_in (h5 92 18) 4 ∧ (vp_in (h5 92 20) 10 ∧ wlet (hup h5 (125 + 1 * Int32.toNatClampNeg ((h5 92 18))) (Int32.toNatClampNeg (h5 92 20)) (h5 92 19)) (fun h8 => w_X9_eats ((249 : Int64)) h8 (fun z9 h10 => wif (z9 = 0) (w_X9_pays_b113 (h10) Q) (w_X9_ors  h10 (fun h11 => w_X9_pays_b113 (h11) Q)))))))))))) (Q h)
def w_X9_pays (h : Hp) (Q : Hp → Prop) : Prop :=
  w_X9_five ((16 : Int32)) ((1 : Int32)) ((25 : Int32)) ((0 : Int32)) ((0 : Int32)) h (fun z1 => w_X9_isWord (z1) h (fun z2 h3 => wif (¬ z2 = 0) (wif (¬ (h3 92 20) = (10 : Int32)) (w_X9_pays_b47 (h3) Q) (w_X9_wrong ((3 : Int32)) ((h3 92 4)) h3 (fun h4 => w_X9_pays_b47 (h4) Q))) (w_X9_wrong ((1 : Int32)) ((h3 92 4)) h3 (fun h5 => w_X9_pays_b47 (h5) Q))))
theorem t_X9_pays_b113 {X : Cx} (h : Hp) (Q : Hp → Prop) (hw : w_X9_pays_b113 h Q) : G X M_X9_pays E_X9_pays (QM X E_X9_pays (QV Q) Qn) 0 113 [(0, .ref (92))] [] h := by
  unfold w_X9_pays_b113 at hw
  refine g_aload_n 0 (dk D_X9_pays 58 rfl) rfl rfl ?_
  refine g_getR 24 (t := 129) (dk D_X9_pays 59 rfl) kd_92 rfl rfl (by decide) w_1381 rfl rfl rfl ?_
  refine g_aload_n 0 (dk D_X9_pays 60 rfl) rfl rfl ?_
  refine g_getI 18 (dk D_X9_pays 61 rfl) kd_92 rfl rfl (by decide) w_1375 rfl rfl ?_
  obtain ⟨hi1, hw⟩ := hw
  refine g_aald (dk D_X9_pays 62 rfl) kd_129 rfl rfl hi1 ?_
  refine g_aload_n 0 (dk D_X9_pays 63 rfl) rfl rfl ?_
  refine g_getI 20 (dk D_X9_pays 64 rfl) kd_92 rfl rfl (by decide) w_1377 rfl rfl ?_
  refine g_aload_n 0 (dk D_X9_pays 65 rfl) rfl rfl ?_
  refine g_getI 19 (dk D_X9_pays 66 rfl) kd_92 rfl rfl (by decide) w_1376 rfl rfl ?_
  obtain ⟨hi2, hw⟩ := hw
  refine g_iast (dk D_X9_pays 67 rfl) (kdf_129 _ (in_lt hi1)) hi2 ?_
  refine g_heap (fun h3 eh3 => ?_)
  replace hw := hw _ eh3
  refine g_aload_n 0 (dk D_X9_pays 68 rfl) rfl rfl ?_
  refine g_dup (dk D_X9_pays 69 rfl) rfl ?_
  refine g_getI 20 (dk D_X9_pays 70 rfl) kd_92 rfl rfl (by decide) w_1377 rfl rfl ?_
  refine g_iconst (dk D_X9_pays 71 rfl) ki_1 ?_
  refine g_iadd (dk D_X9_pays 72 rfl) ?_
  refine g_put 20 (dk D_X9_pays 73 rfl) kd_92 rfl rfl (by decide) w_1377 rfl tyX9_ok nmX9 rfl (by decide) rfl (fun z => absurd z (by decide)) ?_
  refine g_heap (fun h4 eh4 => ?_)
  replace hw := hw _ eh4
  refine g_aload_n 0 (dk D_X9_pays 74 rfl) rfl rfl ?_
  refine g_bipush (dk D_X9_pays 75 rfl) kb_59 ?_
  refine g_callV (As := [.int ((59 : Int32))]) (kc := 0) (fr := 2) (lo := 57) (mc := 0) (My := M_X9_sign) (dk D_X9_pays 76 rfl) kd_92 rfl rfl w_1596 w_1598 w_55 w_110 w_1599 okD_X9_sign (by decide) (Nat.le_of_ble_eq_true rfl) rfl (c_X9_sign ((59 : Int32)) (h4) _ hw) kxN (kV (fun h5 hw => ?_))
  exact g_vret (dk D_X9_pays 77 rfl) rfl ⟨rfl, hw⟩
theorem t_X9_pays_b47 {X : Cx} (h : Hp) (Q : Hp → Prop) (hw : w_X9_pays_b47 h Q) : G X M_X9_pays E_X9_pays (QM X E_X9_pays (QV Q) Qn) 0 47 [(0, .ref (92))] [] h := by
  unfold w_X9_pays_b47 at hw
  refine g_aload_n 0 (dk D_X9_pays 24 rfl) rfl rfl ?_
  refine g_getI 5 (dk D_X9_pays 25 rfl) kd_92 rfl rfl (by decide) w_1362 rfl rfl ?_
  refine g_if_eq (dk D_X9_pays 26 rfl) rfl (wif_m hw (fun hw => ?_) (fun hw => ?_))
  · refine g_aload_n 0 (dk D_X9_pays 28 rfl) rfl rfl ?_
    refine g_callV (As := []) (kc := 0) (fr := 1) (lo := 29) (mc := 0) (My := M_X9_skipWord) (dk D_X9_pays 29 rfl) kd_92 rfl rfl w_1576 w_1578 w_51 w_110 w_1579 okD_X9_skipWord (by decide) (Nat.le_of_ble_eq_true rfl) rfl (c_X9_skipWord (h) _ hw) kxN (kV (fun h1 hw => ?_))
    refine g_aload_n 0 (dk D_X9_pays 30 rfl) rfl rfl ?_
    refine g_getR 22 (t := 119) (dk D_X9_pays 31 rfl) kd_92 rfl rfl (by decide) w_1379 rfl rfl rfl ?_
    refine g_aload_n 0 (dk D_X9_pays 32 rfl) rfl rfl ?_
    refine g_getI 18 (dk D_X9_pays 33 rfl) kd_92 rfl rfl (by decide) w_1375 rfl rfl ?_
    obtain ⟨hi2, hw⟩ := hw
    refine g_aald (dk D_X9_pays 34 rfl) kd_119 rfl rfl hi2 ?_
    refine g_aload_n 0 (dk D_X9_pays 35 rfl) rfl rfl ?_
    refine g_getI 20 (dk D_X9_pays 36 rfl) kd_92 rfl rfl (by decide) w_1377 rfl rfl ?_
    refine g_aload_n 0 (dk D_X9_pays 37 rfl) rfl rfl ?_
    refine g_getI 19 (dk D_X9_pays 38 rfl) kd_92 rfl rfl (by decide) w_1376 rfl rfl ?_
    obtain ⟨hi3, hw⟩ := hw
    refine g_iast (dk D_X9_pays 39 rfl) (kdf_119 _ (in_lt hi2)) hi3 ?_
    refine g_heap (fun h4 eh4 => ?_)
    replace hw := hw _ eh4
    refine g_aload_n 0 (dk D_X9_pays 40 rfl) rfl rfl ?_
    refine g_callV (As := []) (kc := 0) (fr := 70) (lo := 3900) (mc := 0) (My := M_X9_sum) (dk D_X9_pays 41 rfl) kd_92 rfl rfl w_1608 w_1610 w_57 w_110 w_1611 okD_X9_sum (by decide) (Nat.le_of_ble_eq_true rfl) rfl (c_X9_sum (h4) _ hw) kxN (kV (fun h5 hw => ?_))
    refine g_aload_n 0 (dk D_X9_pays 42 rfl) rfl rfl ?_
    refine g_getR 23 (t := 124) (dk D_X9_pays 43 rfl) kd_92 rfl rfl (by decide) w_1380 rfl rfl rfl ?_
    refine g_aload_n 0 (dk D_X9_pays 44 rfl) rfl rfl ?_
    refine g_getI 18 (dk D_X9_pays 45 rfl) kd_92 rfl rfl (by decide) w_1375 rfl rfl ?_
    obtain ⟨hi6, hw⟩ := hw
    refine g_aald (dk D_X9_pays 46 rfl) kd_124 rfl rfl hi6 ?_
    refine g_aload_n 0 (dk D_X9_pays 47 rfl) rfl rfl ?_
    refine g_getI 20 (dk D_X9_pays 48 rfl) kd_92 rfl rfl (by decide) w_1377 rfl rfl ?_
    refine g_aload_n 0 (dk D_X9_pays 49 rfl) rfl rfl ?_
    refine g_getI 19 (dk D_X9_pays 50 rfl) kd_92 rfl rfl (by decide) w_1376 rfl rfl ?_
    obtain ⟨hi7, hw⟩ := hw
    refine g_iast (dk D_X9_pays 51 rfl) (kdf_124 _ (in_lt hi6)) hi7 ?_
    refine g_heap (fun h8 eh8 => ?_)
    replace hw := hw _ eh8
    refine g_aload_n 0 (dk D_X9_pays 52 rfl) rfl rfl ?_
    refine g_ldc2 (dk D_X9_pays 53 rfl) w_1638 ?_
    refine g_callV (As := [.long ((249 : Int64))]) (kc := 0) (fr := 4) (lo := 118) (mc := 0) (My := M_X9_eats) (dk D_X9_pays 54 rfl) kd_92 rfl rfl w_1639 w_1641 w_64 w_110 w_1642 okD_X9_eats (by decide) (Nat.le_of_ble_eq_true rfl) rfl (c_X9_eats ((249 : Int64)) (h8) _ hw) kxN (kI (fun z9 h10 hw => ?_))
    refine g_if_eq (dk D_X9_pays 55 rfl) rfl (wif_m hw (fun hw => ?_) (fun hw => ?_))
    · exact t_X9_pays_b113 (h10) Q hw
    · refine g_aload_n 0 (dk D_X9_pays 56 rfl) rfl rfl ?_
      refine g_callV (As := []) (kc := 0) (fr := 70) (lo := 3900) (mc := 0) (My := M_X9_ors) (dk D_X9_pays 57 rfl) kd_92 rfl rfl w_1643 w_1645 w_65 w_110 w_1646 okD_X9_ors (by decide) (Nat.le_of_ble_eq_true rfl) rfl (c_X9_ors (h10) _ hw) kxN (kV (fun h11 hw => ?_))
      exact t_X9_pays_b113 (h11) Q hw
  · exact g_vret (dk D_X9_pays 27 rfl) rfl ⟨rfl, hw⟩
theorem t_X9_pays {X : Cx} (h : Hp) (Q : Hp → Prop) (hw : w_X9_pays h Q) : G X M_X9_pays E_X9_pays (QM X E_X9_pays (QV Q) Qn) 0 0 [(0, .ref (92))] [] h := by
  unfold w_X9_pays at hw
  refine g_aload_n 0 (dk D_X9_pays 0 rfl) rfl rfl ?_
  refine g_bipush (dk D_X9_pays 1 rfl) kb_16 ?_
  refine g_iconst (dk D_X9_pays 2 rfl) ki_1 ?_
  refine g_bipush (dk D_X9_pays 3 rfl) kb_25 ?_
  refine g_iconst (dk D_X9_pays 4 rfl) ki_0 ?_
  refine g_iconst (dk D_X9_pays 5 rfl) ki_0 ?_
  refine g_callS (As := [.int ((16 : Int32)), .int ((1 : Int32)), .int ((25 : Int32)), .int ((0 : Int32)), .int ((0 : Int32))]) (kc := 0) (fr := 0) (lo := 0) (mc := 0) (My := M_X9_five) (dk D_X9_pays 6 rfl) w_1554 w_1555 w_110 w_1556 okD_X9_five (by decide) (Nat.le_of_ble_eq_true rfl) rfl (c_X9_five ((16 : Int32)) ((1 : Int32)) ((25 : Int32)) ((0 : Int32)) ((0 : Int32)) (h) _ hw) kxN (kLp (fun z1 hw => ?_))
  refine g_callV (As := [.long (z1)]) (kc := 0) (fr := 3) (lo := 88) (mc := 0) (My := M_X9_isWord) (dk D_X9_pays 7 rfl) kd_92 rfl rfl w_1558 w_1560 w_48 w_110 w_1561 okD_X9_isWord (by decide) (Nat.le_of_ble_eq_true rfl) rfl (c_X9_isWord (z1) (h) _ hw) kxN (kI (fun z2 h3 hw => ?_))
  refine g_if_ne (dk D_X9_pays 8 rfl) rfl (wif_m hw (fun hw => ?_) (fun hw => ?_))
  · refine g_aload_n 0 (dk D_X9_pays 15 rfl) rfl rfl ?_
    refine g_getI 20 (dk D_X9_pays 16 rfl) kd_92 rfl rfl (by decide) w_1377 rfl rfl ?_
    refine g_bipush (dk D_X9_pays 17 rfl) kb_10 ?_
    refine g_icmp_ne (dk D_X9_pays 18 rfl) rfl (wif_m hw (fun hw => ?_) (fun hw => ?_))
    · exact t_X9_pays_b47 (h3) Q hw
    · refine g_aload_n 0 (dk D_X9_pays 19 rfl) rfl rfl ?_
      refine g_iconst (dk D_X9_pays 20 rfl) ki_3 ?_
      refine g_aload_n 0 (dk D_X9_pays 21 rfl) rfl rfl ?_
      refine g_getI 4 (dk D_X9_pays 22 rfl) kd_92 rfl rfl (by decide) w_1361 rfl rfl ?_
      refine g_callV (As := [.int ((3 : Int32)), .int ((h3 92 4))]) (kc := 0) (fr := 0) (lo := 0) (mc := 0) (My := M_X9_wrong) (dk D_X9_pays 23 rfl) kd_92 rfl rfl w_1572 w_1574 w_50 w_110 w_1575 okD_X9_wrong (by decide) (Nat.le_of_ble_eq_true rfl) rfl (c_X9_wrong ((3 : Int32)) ((h3 92 4)) (h3) _ hw) kxN (kV (fun h4 hw => ?_))
      exact t_X9_pays_b47 (h4) Q hw
  · refine g_aload_n 0 (dk D_X9_pays 9 rfl) rfl rfl ?_
    refine g_iconst (dk D_X9_pays 10 rfl) ki_1 ?_
    refine g_aload_n 0 (dk D_X9_pays 11 rfl) rfl rfl ?_
    refine g_getI 4 (dk D_X9_pays 12 rfl) kd_92 rfl rfl (by decide) w_1361 rfl rfl ?_
    refine g_callV (As := [.int ((1 : Int32)), .int ((h3 92 4))]) (kc := 0) (fr := 0) (lo := 0) (mc := 0) (My := M_X9_wrong) (dk D_X9_pays 13 rfl) kd_92 rfl rfl w_1572 w_1574 w_50 w_110 w_1575 okD_X9_wrong (by decide) (Nat.le_of_ble_eq_true rfl) rfl (c_X9_wrong ((1 : Int32)) ((h3 92 4)) (h3) _ hw) kxN (kV (fun h5 hw => ?_))
    refine g_goto (dk D_X9_pays 14 rfl) rfl ?_
    exact t_X9_pays_b47 (h5) Q hw
theorem c_X9_pays {X : Cx} (h : Hp) (Q : Hp → Prop) (hw : w_X9_pays h Q) : Con X yX9_pays M_X9_pays 71 3929 0 [.ref (92)] h (QV Q) Qn :=
  con_of (by decide +kernel) rfl (Nat.le_of_ble_eq_true rfl) (t_X9_pays h Q hw)
/-! ShadowTollsModel.toll(I)I -/
abbrev M_X9_toll : Mi := (RX9, cX9_toll, 2, (some .int))
abbrev E_X9_toll : Rm := (72, 3957, 0, 0)
def rows_X9_toll : List (Nat × Instr × Nat) := [(0, .aload_n 0, 1), (1, .iconst 0, 1), (2, .putfield 111, 3), (5, .aload_n 0, 1), (6, .iload_n 1, 1), (7, .iconst 0, 1), (8, .aload_n 0, 1), (9, .getfield 114, 3), (12, .invokestatic 145, 3), (15, .ifCond .ne 7, 3), (18, .iconst 1, 1), (19, .goto 4, 3), (22, .iconst 0, 1), (23, .iconst 1, 1), (24, .invokevirtual 202, 3), (27, .ifCond .eq 5, 3), (30, .iconst 0, 1), (31, .ireturn, 1), (32, .aload_n 0, 1), (33, .iload_n 1, 1), (34, .invokevirtual 206, 3), (37, .aload_n 0, 1), (38, .iconst (-1), 1), (39, .putfield 9, 3), (42, .aload_n 0, 1), (43, .getfield 221, 3), (46, .iconst 4, 1), (47, .if_icmp .ne 5, 3), (50, .iconst (-1), 1), (51, .ireturn, 1), (52, .aload_n 0, 1), (53, .iconst 0, 1), (54, .putfield 224, 3), (57, .aload_n 0, 1), (58, .iconst 0, 1), (59, .putfield 266, 3), (62, .aload_n 0, 1), (63, .invokevirtual 133, 3), (66, .aload_n 0, 1), (67, .getfield 127, 3), (70, .ifCond .ne 25, 3), (73, .aload_n 0, 1), (74, .getfield 120, 3), (77, .aload_n 0, 1), (78, .getfield 117, 3), (81, .if_icmp .ge 14, 3), (84, .aload_n 0, 1), (85, .invokevirtual 271, 3), (88, .aload_n 0, 1), (89, .invokevirtual 133, 3), (92, .goto (-26), 3), (95, .aload_n 0, 1), (96, .aload_n 0, 1), (97, .getfield 130, 3), (100, .putfield 9, 3), (103, .aload_n 0, 1), (104, .getfield 127, 3), (107, .ifCond .eq 11, 3), (110, .aload_n 0, 1), (111, .getfield 127, 3), (114, .bipush 10, 2), (116, .isub, 1), (117, .ireturn, 1), (118, .aload_n 0, 1), (119, .getfield 43, 3), (122, .aload_n 0, 1), (123, .getfield 221, 3), (126, .aload_n 0, 1), (127, .getfield 266, 3), (130, .iastore, 1), (131, .aload_n 0, 1), (132, .dup, 1), (133, .getfield 221, 3), (136, .iconst 1, 1), (137, .iadd, 1), (138, .putfield 221, 3), (141, .aload_n 0, 1), (142, .getfield 221, 3), (145, .iconst 1, 1), (146, .isub, 1), (147, .ireturn, 1)]
theorem D_X9_toll : dkA cX9_toll rows_X9_toll := by
  unfold dkA
  decide +kernel
theorem okD_X9_toll : okD yX9_toll 1 := by
  unfold okD
  decide +kernel
def w_X9_toll_b95 (p1 : Int32) (h : Hp) (Q : Int32 → Hp → Prop) : Prop :=
  wlet (hup h 92 3 (h 92 6)) (fun h1 => wif ((h1 92 5) = 0) ((vp_in (h1 92 18) 4 ∧ wlet (hup h1 118 (Int32.toNatClampNeg (h1 92 18)) (h1 92 20)) (fun h3 => wlet (hup h3 92 18 ((h3 92 18) + (1 : Int32))) (fun h4 => Q ((h4 92 18) - (1 : Int32)) h4)))) (Q ((h1 92 5) - (10 : Int32)) h1))
def w_X9_toll_l66 (p1 : Int32) (Q : Int32 → Hp → Prop) (K66 : Hp → Prop)  (h : Hp) : Prop :=
  wif (¬ (h 92 5) = 0) (w_X9_toll_b95 p1 (h) Q) (wif ((h 92 2) ≤ (h 92 4)) (w_X9_toll_b95 p1 (h) Q) (w_X9_pays  h (fun h1 => w_X9_blanks  h1 (fun h2 => K66 (h2)))))
def w_X9_toll_b66 (p1 : Int32) (Q : Int32 → Hp → Prop) (s : Hp) : Prop := wl (fun K s => w_X9_toll_l66 p1 Q K s) s
def w_X9_toll (p1 : Int32) (h : Hp) (Q : Int32 → Hp → Prop) : Prop :=
  wlet (hup h 92 0 (0 : Int32)) (fun h1 => w_X9_in (p1) ((0 : Int32)) ((h1 92 1)) h1 (fun z2 => w_X9_bad ((if ¬ z2 = 0 then (0 : Int32) else (1 : Int32))) ((1 : Int32)) h1 (fun z4 h5 => wif (z4 = 0) (w_X9_starts (p1) h5 (fun h6 => wlet (hup h6 92 3 (-1 : Int32)) (fun h7 => wif (¬ (h7 92 18) = (4 : Int32)) (wlet (hup h7 92 19 (0 : Int32)) (fun h8 => wlet (hup h8 92 20 (0 : Int32)) (fun h9 => w_X9_blanks  h9 (fun h10 => w_X9_toll_b66 p1 Q (h10))))) (Q (-1 : Int32) h7)))) (Q (0 : Int32) h5))))
theorem t_X9_toll_b95 {X : Cx} (p1 : Int32) (h : Hp) (Q : Int32 → Hp → Prop) (hw : w_X9_toll_b95 p1 h Q) : G X M_X9_toll E_X9_toll (QM X E_X9_toll (QI Q) Qn) 0 95 [(0, .ref (92))] [] h := by
  unfold w_X9_toll_b95 at hw
  refine g_aload_n 0 (dk D_X9_toll 51 rfl) rfl rfl ?_
  refine g_aload_n 0 (dk D_X9_toll 52 rfl) rfl rfl ?_
  refine g_getI 6 (dk D_X9_toll 53 rfl) kd_92 rfl rfl (by decide) w_1363 rfl rfl ?_
  refine g_put 3 (dk D_X9_toll 54 rfl) kd_92 rfl rfl (by decide) w_1360 rfl tyX9_ok nmX9 rfl (by decide) rfl (fun z => absurd z (by decide)) ?_
  refine g_heap (fun h1 eh1 => ?_)
  replace hw := hw _ eh1
  refine g_aload_n 0 (dk D_X9_toll 55 rfl) rfl rfl ?_
  refine g_getI 5 (dk D_X9_toll 56 rfl) kd_92 rfl rfl (by decide) w_1362 rfl rfl ?_
  refine g_if_eq (dk D_X9_toll 57 rfl) rfl (wif_m hw (fun hw => ?_) (fun hw => ?_))
  · refine g_aload_n 0 (dk D_X9_toll 63 rfl) rfl rfl ?_
    refine g_getR 21 (t := 118) (dk D_X9_toll 64 rfl) kd_92 rfl rfl (by decide) w_1378 rfl rfl rfl ?_
    refine g_aload_n 0 (dk D_X9_toll 65 rfl) rfl rfl ?_
    refine g_getI 18 (dk D_X9_toll 66 rfl) kd_92 rfl rfl (by decide) w_1375 rfl rfl ?_
    refine g_aload_n 0 (dk D_X9_toll 67 rfl) rfl rfl ?_
    refine g_getI 20 (dk D_X9_toll 68 rfl) kd_92 rfl rfl (by decide) w_1377 rfl rfl ?_
    obtain ⟨hi2, hw⟩ := hw
    refine g_iast (dk D_X9_toll 69 rfl) kd_118 hi2 ?_
    refine g_heap (fun h3 eh3 => ?_)
    replace hw := hw _ eh3
    refine g_aload_n 0 (dk D_X9_toll 70 rfl) rfl rfl ?_
    refine g_dup (dk D_X9_toll 71 rfl) rfl ?_
    refine g_getI 18 (dk D_X9_toll 72 rfl) kd_92 rfl rfl (by decide) w_1375 rfl rfl ?_
    refine g_iconst (dk D_X9_toll 73 rfl) ki_1 ?_
    refine g_iadd (dk D_X9_toll 74 rfl) ?_
    refine g_put 18 (dk D_X9_toll 75 rfl) kd_92 rfl rfl (by decide) w_1375 rfl tyX9_ok nmX9 rfl (by decide) rfl (fun z => absurd z (by decide)) ?_
    refine g_heap (fun h4 eh4 => ?_)
    replace hw := hw _ eh4
    refine g_aload_n 0 (dk D_X9_toll 76 rfl) rfl rfl ?_
    refine g_getI 18 (dk D_X9_toll 77 rfl) kd_92 rfl rfl (by decide) w_1375 rfl rfl ?_
    refine g_iconst (dk D_X9_toll 78 rfl) ki_1 ?_
    refine g_isub (dk D_X9_toll 79 rfl) ?_
    exact g_iret (dk D_X9_toll 80 rfl) rfl ⟨_, rfl, hw⟩
  · refine g_aload_n 0 (dk D_X9_toll 58 rfl) rfl rfl ?_
    refine g_getI 5 (dk D_X9_toll 59 rfl) kd_92 rfl rfl (by decide) w_1362 rfl rfl ?_
    refine g_bipush (dk D_X9_toll 60 rfl) kb_10 ?_
    refine g_isub (dk D_X9_toll 61 rfl) ?_
    exact g_iret (dk D_X9_toll 62 rfl) rfl ⟨_, rfl, hw⟩
theorem t_X9_toll_l66 {X : Cx} (p1 : Int32) (Q : Int32 → Hp → Prop) (K66 : Hp → Prop)  (h : Hp) (hK66 : ∀ s : Hp, K66 s → G X M_X9_toll E_X9_toll (QM X E_X9_toll (QI Q) Qn) 0 66 [(0, .ref (92))] [] (s)) (hw : w_X9_toll_l66 p1 Q K66  h) : G X M_X9_toll E_X9_toll (QM X E_X9_toll (QI Q) Qn) 0 66 [(0, .ref (92))] [] h := by
  unfold w_X9_toll_l66 at hw
  refine g_aload_n 0 (dk D_X9_toll 38 rfl) rfl rfl ?_
  refine g_getI 5 (dk D_X9_toll 39 rfl) kd_92 rfl rfl (by decide) w_1362 rfl rfl ?_
  refine g_if_ne (dk D_X9_toll 40 rfl) rfl (wif_m hw (fun hw => ?_) (fun hw => ?_))
  · exact t_X9_toll_b95 p1 (h) Q hw
  · refine g_aload_n 0 (dk D_X9_toll 41 rfl) rfl rfl ?_
    refine g_getI 4 (dk D_X9_toll 42 rfl) kd_92 rfl rfl (by decide) w_1361 rfl rfl ?_
    refine g_aload_n 0 (dk D_X9_toll 43 rfl) rfl rfl ?_
    refine g_getI 2 (dk D_X9_toll 44 rfl) kd_92 rfl rfl (by decide) w_1359 rfl rfl ?_
    refine g_icmp_ge (dk D_X9_toll 45 rfl) rfl (wif_m hw (fun hw => ?_) (fun hw => ?_))
    · exact t_X9_toll_b95 p1 (h) Q hw
    · refine g_aload_n 0 (dk D_X9_toll 46 rfl) rfl rfl ?_
      refine g_callV (As := []) (kc := 0) (fr := 71) (lo := 3929) (mc := 0) (My := M_X9_pays) (dk D_X9_toll 47 rfl) kd_92 rfl rfl w_1604 w_1606 w_56 w_110 w_1607 okD_X9_pays (by decide) (Nat.le_of_ble_eq_true rfl) rfl (c_X9_pays (h) _ hw) kxN (kV (fun h1 hw => ?_))
      refine g_aload_n 0 (dk D_X9_toll 48 rfl) rfl rfl ?_
      refine g_callV (As := []) (kc := 0) (fr := 1) (lo := 29) (mc := 0) (My := M_X9_blanks) (dk D_X9_toll 49 rfl) kd_92 rfl rfl w_1538 w_1540 w_44 w_110 w_1541 okD_X9_blanks (by decide) (Nat.le_of_ble_eq_true rfl) rfl (c_X9_blanks (h1) _ hw) kxN (kV (fun h2 hw => ?_))
      refine g_goto (dk D_X9_toll 50 rfl) rfl ?_
      exact hK66 (h2) hw
theorem t_X9_toll_b66 {X : Cx} (p1 : Int32) (Q : Int32 → Hp → Prop) (s : Hp) (hw : w_X9_toll_b66 p1 Q s) : G X M_X9_toll E_X9_toll (QM X E_X9_toll (QI Q) Qn) 0 66 [(0, .ref (92))] [] (s) :=
  wl_ind (B := fun K s => w_X9_toll_l66 p1 Q K (s)) (P := fun s => G X M_X9_toll E_X9_toll (QM X E_X9_toll (QI Q) Qn) 0 66 [(0, .ref (92))] [] (s)) (fun K hK s hw => t_X9_toll_l66 p1 Q K (s) hK hw) s hw
theorem t_X9_toll {X : Cx} (p1 : Int32) (h : Hp) (Q : Int32 → Hp → Prop) (hw : w_X9_toll p1 h Q) : G X M_X9_toll E_X9_toll (QM X E_X9_toll (QI Q) Qn) 0 0 [(0, .ref (92)), (1, .int (p1))] [] h := by
  unfold w_X9_toll at hw
  refine g_aload_n 0 (dk D_X9_toll 0 rfl) rfl rfl ?_
  refine g_iconst (dk D_X9_toll 1 rfl) ki_0 ?_
  refine g_put 0 (dk D_X9_toll 2 rfl) kd_92 rfl rfl (by decide) w_1357 rfl tyX9_ok nmX9 rfl (by decide) rfl (fun z => absurd z (by decide)) ?_
  refine g_heap (fun h1 eh1 => ?_)
  replace hw := hw _ eh1
  refine g_aload_n 0 (dk D_X9_toll 3 rfl) rfl rfl ?_
  refine g_iload_n 1 (dk D_X9_toll 4 rfl) rfl rfl ?_
  refine g_iconst (dk D_X9_toll 5 rfl) ki_0 ?_
  refine g_aload_n 0 (dk D_X9_toll 6 rfl) rfl rfl ?_
  refine g_getI 1 (dk D_X9_toll 7 rfl) kd_92 rfl rfl (by decide) w_1358 rfl rfl ?_
  refine g_callS (As := [.int (p1), .int ((0 : Int32)), .int ((h1 92 1))]) (kc := 0) (fr := 0) (lo := 0) (mc := 0) (My := M_X9_in) (dk D_X9_toll 8 rfl) w_1527 w_1528 w_110 w_1529 okD_X9_in (by decide) (Nat.le_of_ble_eq_true rfl) rfl (c_X9_in (p1) ((0 : Int32)) ((h1 92 1)) (h1) _ hw) kxN (kIp (fun z2 hw => ?_))
  have hj : G X M_X9_toll E_X9_toll (QM X E_X9_toll (QI Q) Qn) 0 23 [(0, .ref (92)), (1, .int (p1))] [.int ((if ¬ z2 = 0 then (0 : Int32) else (1 : Int32))), .ref (92)] (h1) := by
    refine g_iconst (dk D_X9_toll 13 rfl) ki_1 ?_
    refine g_callV (As := [.int ((if ¬ z2 = 0 then (0 : Int32) else (1 : Int32))), .int ((1 : Int32))]) (kc := 0) (fr := 0) (lo := 0) (mc := 0) (My := M_X9_bad) (dk D_X9_toll 14 rfl) kd_92 rfl rfl w_1530 w_1532 w_42 w_110 w_1533 okD_X9_bad (by decide) (Nat.le_of_ble_eq_true rfl) rfl (c_X9_bad ((if ¬ z2 = 0 then (0 : Int32) else (1 : Int32))) ((1 : Int32)) (h1) _ hw) kxN (kI (fun z4 h5 hw => ?_))
    refine g_if_eq (dk D_X9_toll 15 rfl) rfl (wif_m hw (fun hw => ?_) (fun hw => ?_))
    · refine g_aload_n 0 (dk D_X9_toll 18 rfl) rfl rfl ?_
      refine g_iload_n 1 (dk D_X9_toll 19 rfl) rfl rfl ?_
      refine g_callV (As := [.int (p1)]) (kc := 0) (fr := 0) (lo := 0) (mc := 0) (My := M_X9_starts) (dk D_X9_toll 20 rfl) kd_92 rfl rfl w_1534 w_1536 w_43 w_110 w_1537 okD_X9_starts (by decide) (Nat.le_of_ble_eq_true rfl) rfl (c_X9_starts (p1) (h5) _ hw) kxN (kV (fun h6 hw => ?_))
      refine g_aload_n 0 (dk D_X9_toll 21 rfl) rfl rfl ?_
      refine g_iconst (dk D_X9_toll 22 rfl) ki_m1 ?_
      refine g_put 3 (dk D_X9_toll 23 rfl) kd_92 rfl rfl (by decide) w_1360 rfl tyX9_ok nmX9 rfl (by decide) rfl (fun z => absurd z (by decide)) ?_
      refine g_heap (fun h7 eh7 => ?_)
      replace hw := hw _ eh7
      refine g_aload_n 0 (dk D_X9_toll 24 rfl) rfl rfl ?_
      refine g_getI 18 (dk D_X9_toll 25 rfl) kd_92 rfl rfl (by decide) w_1375 rfl rfl ?_
      refine g_iconst (dk D_X9_toll 26 rfl) ki_4 ?_
      refine g_icmp_ne (dk D_X9_toll 27 rfl) rfl (wif_m hw (fun hw => ?_) (fun hw => ?_))
      · refine g_aload_n 0 (dk D_X9_toll 30 rfl) rfl rfl ?_
        refine g_iconst (dk D_X9_toll 31 rfl) ki_0 ?_
        refine g_put 19 (dk D_X9_toll 32 rfl) kd_92 rfl rfl (by decide) w_1376 rfl tyX9_ok nmX9 rfl (by decide) rfl (fun z => absurd z (by decide)) ?_
        refine g_heap (fun h8 eh8 => ?_)
        replace hw := hw _ eh8
        refine g_aload_n 0 (dk D_X9_toll 33 rfl) rfl rfl ?_
        refine g_iconst (dk D_X9_toll 34 rfl) ki_0 ?_
        refine g_put 20 (dk D_X9_toll 35 rfl) kd_92 rfl rfl (by decide) w_1377 rfl tyX9_ok nmX9 rfl (by decide) rfl (fun z => absurd z (by decide)) ?_
        refine g_heap (fun h9 eh9 => ?_)
        replace hw := hw _ eh9
        refine g_aload_n 0 (dk D_X9_toll 36 rfl) rfl rfl ?_
        refine g_callV (As := []) (kc := 0) (fr := 1) (lo := 29) (mc := 0) (My := M_X9_blanks) (dk D_X9_toll 37 rfl) kd_92 rfl rfl w_1538 w_1540 w_44 w_110 w_1541 okD_X9_blanks (by decide) (Nat.le_of_ble_eq_true rfl) rfl (c_X9_blanks (h9) _ hw) kxN (kV (fun h10 hw => ?_))
        refine g_sub [0] rfl ?_
        exact t_X9_toll_b66 p1 Q (h10) hw
      · refine g_iconst (dk D_X9_toll 28 rfl) ki_m1 ?_
        exact g_iret (dk D_X9_toll 29 rfl) rfl ⟨_, rfl, hw⟩
    · refine g_iconst (dk D_X9_toll 16 rfl) ki_0 ?_
      exact g_iret (dk D_X9_toll 17 rfl) rfl ⟨_, rfl, hw⟩
  refine g_if_ne (dk D_X9_toll 9 rfl) rfl ?_
  by_cases c3 : ¬ z2 = 0
  · rw [if_pos c3] at hj
    refine wif_p c3 ?_
    refine g_iconst (dk D_X9_toll 12 rfl) ki_0 ?_
    exact hj
  · rw [if_neg c3] at hj
    refine wif_n c3 ?_
    refine g_iconst (dk D_X9_toll 10 rfl) ki_1 ?_
    refine g_goto (dk D_X9_toll 11 rfl) rfl ?_
    exact hj
theorem c_X9_toll {X : Cx} (p1 : Int32) (h : Hp) (Q : Int32 → Hp → Prop) (hw : w_X9_toll p1 h Q) : Con X yX9_toll M_X9_toll 72 3957 0 [.ref (92), .int (p1)] h (QI Q) Qn :=
  con_of (by decide +kernel) rfl (Nat.le_of_ble_eq_true rfl) (t_X9_toll p1 h Q hw)
