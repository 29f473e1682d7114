/-! the constructor of the class, by program (wip/whole/p96.py) -/
set_option maxRecDepth 8000 in
theorem w_129 : Cond.methodLink RX8 1 ⟨"java/lang/Object", "<init>", "()V"⟩ ∈ TT := tt_1 (List.mem_of_getElem? (i := 29) rfl) rfl
set_option maxRecDepth 8000 in
theorem w_132 : Cond.classLink RX8 7 RX7 ∈ TT := tt_1 (List.mem_of_getElem? (i := 32) rfl) rfl
set_option maxRecDepth 8000 in
theorem w_133 : Cond.instantiable RX7 6 ∈ TT := tt_1 (List.mem_of_getElem? (i := 33) rfl) rfl
set_option maxRecDepth 8000 in
theorem w_134 : Cond.methodLinkNest RX8 9 yX7_init RX8 ∈ TT := tt_1 (List.mem_of_getElem? (i := 34) rfl) rfl
set_option maxRecDepth 8000 in
theorem w_135 : Cond.instanceMethod yX7_init ∈ TT := tt_1 (List.mem_of_getElem? (i := 35) rfl) rfl
set_option maxRecDepth 8000 in
theorem w_136 : Cond.code yX7_init cX7_init 1 none ∈ TT := tt_1 (List.mem_of_getElem? (i := 36) rfl) rfl
set_option maxRecDepth 8000 in
theorem w_161 : Cond.classLink RX8 16 RX4 ∈ TT := tt_1 (List.mem_of_getElem? (i := 61) rfl) rfl
set_option maxRecDepth 8000 in
theorem w_162 : Cond.instantiable RX4 15 ∈ TT := tt_1 (List.mem_of_getElem? (i := 62) rfl) rfl
set_option maxRecDepth 8000 in
theorem w_163 : Cond.methodLink RX8 18 yX4_init ∈ TT := tt_1 (List.mem_of_getElem? (i := 63) rfl) rfl
set_option maxRecDepth 8000 in
theorem w_164 : Cond.instanceMethod yX4_init ∈ TT := tt_1 (List.mem_of_getElem? (i := 64) rfl) rfl
set_option maxRecDepth 8000 in
theorem w_165 : Cond.code yX4_init cX4_init 1 none ∈ TT := tt_1 (List.mem_of_getElem? (i := 65) rfl) rfl
set_option maxRecDepth 8000 in
theorem w_246 : Cond.classLink RX8 26 RX0 ∈ TT := tt_1 (List.mem_of_getElem? (i := 146) rfl) rfl
set_option maxRecDepth 8000 in
theorem w_248 : Cond.instantiable RX0 4 ∈ TT := tt_1 (List.mem_of_getElem? (i := 148) rfl) rfl
set_option maxRecDepth 8000 in
theorem w_249 : Cond.methodLinkNest RX8 32 yX0_init RX8 ∈ TT := tt_1 (List.mem_of_getElem? (i := 149) rfl) rfl
set_option maxRecDepth 8000 in
theorem w_250 : Cond.instanceMethod yX0_init ∈ TT := tt_1 (List.mem_of_getElem? (i := 150) rfl) rfl
set_option maxRecDepth 8000 in
theorem w_251 : Cond.code yX0_init cX0_init 1 none ∈ TT := tt_1 (List.mem_of_getElem? (i := 151) rfl) rfl
set_option maxRecDepth 8000 in
theorem w_266 : Cond.classLink RX8 43 RX5 ∈ TT := tt_1 (List.mem_of_getElem? (i := 166) rfl) rfl
set_option maxRecDepth 8000 in
theorem w_267 : Cond.instantiable RX5 2 ∈ TT := tt_1 (List.mem_of_getElem? (i := 167) rfl) rfl
set_option maxRecDepth 8000 in
theorem w_268 : Cond.methodLink RX8 45 yX5_init ∈ TT := tt_1 (List.mem_of_getElem? (i := 168) rfl) rfl
set_option maxRecDepth 8000 in
theorem w_269 : Cond.instanceMethod yX5_init ∈ TT := tt_1 (List.mem_of_getElem? (i := 169) rfl) rfl
set_option maxRecDepth 8000 in
theorem w_270 : Cond.code yX5_init cX5_init 3 none ∈ TT := tt_1 (List.mem_of_getElem? (i := 170) rfl) rfl
set_option maxRecDepth 8000 in
theorem w_279 : Cond.classLink RX8 52 RX1 ∈ TT := tt_1 (List.mem_of_getElem? (i := 179) rfl) rfl
set_option maxRecDepth 8000 in
theorem w_280 : Cond.instantiable RX1 2 ∈ TT := tt_1 (List.mem_of_getElem? (i := 180) rfl) rfl
set_option maxRecDepth 8000 in
theorem w_281 : Cond.methodLink RX8 54 yX1_init ∈ TT := tt_1 (List.mem_of_getElem? (i := 181) rfl) rfl
set_option maxRecDepth 8000 in
theorem w_282 : Cond.instanceMethod yX1_init ∈ TT := tt_1 (List.mem_of_getElem? (i := 182) rfl) rfl
set_option maxRecDepth 8000 in
theorem w_283 : Cond.code yX1_init cX1_init 3 none ∈ TT := tt_1 (List.mem_of_getElem? (i := 183) rfl) rfl
set_option maxRecDepth 8000 in
theorem w_292 : Cond.classLink RX8 61 RX2 ∈ TT := tt_1 (List.mem_of_getElem? (i := 192) rfl) rfl
set_option maxRecDepth 8000 in
theorem w_293 : Cond.instantiable RX2 20 ∈ TT := tt_1 (List.mem_of_getElem? (i := 193) rfl) rfl
set_option maxRecDepth 8000 in
theorem w_294 : Cond.methodLink RX8 63 yX2_init ∈ TT := tt_1 (List.mem_of_getElem? (i := 194) rfl) rfl
set_option maxRecDepth 8000 in
theorem w_295 : Cond.instanceMethod yX2_init ∈ TT := tt_1 (List.mem_of_getElem? (i := 195) rfl) rfl
set_option maxRecDepth 8000 in
theorem w_296 : Cond.code yX2_init cX2_init 2 none ∈ TT := tt_1 (List.mem_of_getElem? (i := 196) rfl) rfl
set_option maxRecDepth 8000 in
theorem w_365 : Cond.classLink RX8 70 RX6 ∈ TT := tt_2 (List.mem_of_getElem? (i := 25) rfl) rfl
set_option maxRecDepth 8000 in
theorem w_366 : Cond.instantiable RX6 6 ∈ TT := tt_2 (List.mem_of_getElem? (i := 26) rfl) rfl
set_option maxRecDepth 8000 in
theorem w_367 : Cond.methodLink RX8 72 yX6_init ∈ TT := tt_2 (List.mem_of_getElem? (i := 27) rfl) rfl
set_option maxRecDepth 8000 in
theorem w_368 : Cond.instanceMethod yX6_init ∈ TT := tt_2 (List.mem_of_getElem? (i := 28) rfl) rfl
set_option maxRecDepth 8000 in
theorem w_369 : Cond.code yX6_init cX6_init 3 none ∈ TT := tt_2 (List.mem_of_getElem? (i := 29) rfl) rfl
set_option maxRecDepth 8000 in
theorem w_390 : Cond.classLink RX8 79 RX3 ∈ TT := tt_2 (List.mem_of_getElem? (i := 50) rfl) rfl
set_option maxRecDepth 8000 in
theorem w_391 : Cond.instantiable RX3 8 ∈ TT := tt_2 (List.mem_of_getElem? (i := 51) rfl) rfl
set_option maxRecDepth 8000 in
theorem w_392 : Cond.methodLink RX8 81 yX3_init ∈ TT := tt_2 (List.mem_of_getElem? (i := 52) rfl) rfl
set_option maxRecDepth 8000 in
theorem w_393 : Cond.instanceMethod yX3_init ∈ TT := tt_2 (List.mem_of_getElem? (i := 53) rfl) rfl
set_option maxRecDepth 8000 in
theorem w_394 : Cond.code yX3_init cX3_init 1 none ∈ TT := tt_2 (List.mem_of_getElem? (i := 54) rfl) rfl
abbrev M_X8_init : Mi := (RX8, cX8_init, 2, none)
def rows_X8_init : List (Nat × Instr × Nat) := [(0, .aload_n 0, 1), (1, .invokespecial 1, 3), (4, .aload_n 0, 1), (5, .new 7, 3), (8, .dup, 1), (9, .invokespecial 9, 3), (12, .putfield 10, 3), (15, .aload_n 0, 1), (16, .new 16, 3), (19, .dup, 1), (20, .invokespecial 18, 3), (23, .putfield 19, 3), (26, .aload_n 0, 1), (27, .new 16, 3), (30, .dup, 1), (31, .invokespecial 18, 3), (34, .putfield 23, 3), (37, .aload_n 0, 1), (38, .iconst 4, 1), (39, .anewarray 26, 3), (42, .putfield 28, 3), (45, .aload_n 0, 1), (46, .new 26, 3), (49, .dup, 1), (50, .invokespecial 32, 3), (53, .putfield 33, 3), (56, .aload_n 0, 1), (57, .new 26, 3), (60, .dup, 1), (61, .invokespecial 32, 3), (64, .putfield 37, 3), (67, .aload_n 0, 1), (68, .new 26, 3), (71, .dup, 1), (72, .invokespecial 32, 3), (75, .putfield 40, 3), (78, .aload_n 0, 1), (79, .new 43, 3), (82, .dup, 1), (83, .aload_n 0, 1), (84, .getfield 10, 3), (87, .aload_n 0, 1), (88, .getfield 23, 3), (91, .invokespecial 45, 3), (94, .putfield 48, 3), (97, .aload_n 0, 1), (98, .new 52, 3), (101, .dup, 1), (102, .aload_n 0, 1), (103, .getfield 10, 3), (106, .aload_n 0, 1), (107, .getfield 33, 3), (110, .invokespecial 54, 3), (113, .putfield 57, 3), (116, .aload_n 0, 1), (117, .new 61, 3), (120, .dup, 1), (121, .aload_n 0, 1), (122, .getfield 19, 3), (125, .invokespecial 63, 3), (128, .putfield 66, 3), (131, .aload_n 0, 1), (132, .new 70, 3), (135, .dup, 1), (136, .aload_n 0, 1), (137, .getfield 19, 3), (140, .aload_n 0, 1), (141, .getfield 66, 3), (144, .invokespecial 72, 3), (147, .putfield 75, 3), (150, .aload_n 0, 1), (151, .new 79, 3), (154, .dup, 1), (155, .invokespecial 81, 3), (158, .putfield 82, 3), (161, .aload_n 0, 1), (162, .iconst 3, 1), (163, .anewarray 79, 3), (166, .putfield 86, 3), (169, .aload_n 0, 1), (170, .bipush 32, 2), (172, .newarray .int, 2), (174, .putfield 90, 3), (177, .iconst 0, 1), (178, .istore_n 1, 1), (179, .iload_n 1, 1), (180, .aload_n 0, 1), (181, .getfield 28, 3), (184, .arraylength, 1), (185, .if_icmp .ge 22, 3), (188, .aload_n 0, 1), (189, .getfield 28, 3), (192, .iload_n 1, 1), (193, .new 26, 3), (196, .dup, 1), (197, .invokespecial 32, 3), (200, .aastore, 1), (201, .iinc 1 1, 3), (204, .goto (-25), 3), (207, .iconst 0, 1), (208, .istore_n 1, 1), (209, .iload_n 1, 1), (210, .aload_n 0, 1), (211, .getfield 86, 3), (214, .arraylength, 1), (215, .if_icmp .ge 22, 3), (218, .aload_n 0, 1), (219, .getfield 86, 3), (222, .iload_n 1, 1), (223, .new 79, 3), (226, .dup, 1), (227, .invokespecial 81, 3), (230, .aastore, 1), (231, .iinc 1 1, 3), (234, .goto (-25), 3), (237, .return_, 1)]
theorem D_X8_init : dkA cX8_init rows_X8_init := by
  unfold dkA
  decide +kernel
theorem okD_X8_init : okD yX8_init 0 := by
  unfold okD
  decide +kernel
def hZ : Hp := fun _ _ => 0
def J0 : Jt := fun p _ => !(decide (p ∈ [0, 1, 3, 8, 13, 14, 18, 22, 26, 30, 34, 38, 42, 43, 44, 58, 62, 69, 70, 77, 84, 92]))
def fullB (J : Jt) (p : Nat) : Bool := match kd p with
  | (0, c, _) => (List.range (nf c)).all (fun k => !(decide (fk c k = 2)) || J p k)
  | (2, n, _) => (List.range n).all (fun j => J p j)
  | _ => true
def tollsV (h' : Hp) : Prop := h' 1 5 = -1 ∧ (∀ i, i ≠ 5 → h' 1 i = 0) ∧ roadV h' 3 ∧ roadV h' 8 ∧ recV h' 62 ∧ (∀ q, q ≠ 1 → (q < 3 ∨ (12 < q ∧ q < 62) ∨ q = 69 ∨ 90 < q) → h' q = hZ q)
theorem roadV.same {h h' : Hp} {b : Nat} (r : roadV h b) (e : ∀ q, b ≤ q → q ≤ b + 4 → h' q = h q) : roadV h' b := by
  unfold roadV
  rw [e b (by omega) (by omega), e (b + 1) (by omega) (by omega), e (b + 2) (by omega) (by omega), e (b + 3) (by omega) (by omega), e (b + 4) (by omega) (by omega)]
  exact r
theorem recV.same {h h' : Hp} {b : Nat} (r : recV h b) (e : ∀ q, b ≤ q → q ≤ b + 6 → h' q = h q) : recV h' b := by
  unfold recV
  rw [e b (by omega) (by omega), e (b + 1) (by omega) (by omega), e (b + 4) (by omega) (by omega)]
  exact r
theorem tollsV_of {h2 h3 h12 h17 h18 h19 : Hp} (f2 : (∀ q, (q < 3 ∨ 3 + 4 < q) → h2 q = (hup hZ 1 5 (-1)) q) ∧ roadV h2 3) (f3 : (∀ q, (q < 8 ∨ 8 + 4 < q) → h3 q = h2 q) ∧ roadV h3 8) (f12 : (∀ q, (q < 62 ∨ 62 + 6 < q) → h12 q = h3 q) ∧ recV h12 62) (f17 : (∀ q, (q < 70 ∨ 70 + 6 < q) → h17 q = h12 q) ∧ recV h17 70) (f18 : (∀ q, (q < 77 ∨ 77 + 6 < q) → h18 q = h17 q) ∧ recV h18 77) (f19 : (∀ q, (q < 84 ∨ 84 + 6 < q) → h19 q = h18 q) ∧ recV h19 84) : tollsV h19 := by
  have a : ∀ q, (q < 70 ∨ 90 < q) → h19 q = h12 q := fun q hq => by rw [f19.1 q (by omega), f18.1 q (by omega), f17.1 q (by omega)]
  have b : ∀ q, (q < 62 ∨ q = 69 ∨ 90 < q) → h19 q = h3 q := fun q hq => by rw [a q (by omega), f12.1 q (by omega)]
  have c : ∀ q, (q < 8 ∨ (12 < q ∧ q < 62) ∨ q = 69 ∨ 90 < q) → h19 q = h2 q := fun q hq => by rw [b q (by omega), f3.1 q (by omega)]
  have d : ∀ q, (q < 3 ∨ (12 < q ∧ q < 62) ∨ q = 69 ∨ 90 < q) → h19 q = (hup hZ 1 5 (-1)) q := fun q hq => by rw [c q (by omega), f2.1 q (by omega)]
  refine ⟨?_, fun i hi => ?_, f2.2.same (fun q x y => c q (by omega)), f3.2.same (fun q x y => b q (by omega)), f12.2.same (fun q x y => a q (by omega)), fun q h1 h2 => ?_⟩
  · rw [d 1 (by omega), hup_eq]
  · rw [d 1 (by omega), hup_o (Or.inr hi)]; rfl
  · rw [d q (by omega), hup_ne h1]
theorem cp_Tolls {X : Cx} : ConP X yX8_init M_X8_init 3 100 91 148563 [.ref 0] hZ J0 1 (fun h' J' n' => tollsV h' ∧ (∀ p, p < 92 → fullB J' p = true) ∧ (∀ p, 92 ≤ p → J' p = J0 p) ∧ n' = 92) := by
  refine conP_of (ini := true) (by decide +kernel) rfl (fun _ => rfl) (Nat.le_of_ble_eq_true rfl) ?_
  refine p_aload_n 0 (dk D_X8_init 0 rfl) rfl rfl ?_
  refine p_objInit (dk D_X8_init 1 rfl) w_129 w_130 w_131 ⟨by decide, by decide⟩ rfl ?_
  refine p_aload_n 0 (dk D_X8_init 2 rfl) rfl rfl ?_
  refine p_new (b := 1) (N := 6) (dk D_X8_init 3 rfl) (show kd 1 = (0, 7, 0, 0, 0) by decide +kernel) (by decide +kernel) rfl rfl rfl tyX7_ok (by decide) (fun k => rfl) w_132 w_133 w_102 ?_
  refine p_dup (dk D_X8_init 4 rfl) rfl ?_
  refine p_callIN (As := []) (st := .ref (1) :: .ref (0) :: []) (b := 1) (fr := 1) (lo := 20) (mc := 1) (ms := 500) (My := M_X7_init) (dk D_X8_init 5 rfl) w_134 w_135 rfl rfl w_102 w_136 okD_X7_init (by decide) (Nat.le_of_ble_eq_true rfl) rfl (cp_Text) (fun h1 J1 n1 hq => ?_)
  obtain ⟨f1, e1, e2⟩ := hq
  subst f1 e1 e2
  refine p_putR 0 (dk D_X8_init 6 rfl) (show kd 0 = (0, 8, 0, 0, 0) by decide +kernel) (by decide +kernel) rfl rfl (by decide) w_434 rfl tyX8_ok nmX8 (Or.inr ⟨rfl, rfl, rfl⟩) (by decide) rfl (by decide +kernel) ?_
  refine p_aload_n 0 (dk D_X8_init 7 rfl) rfl rfl ?_
  refine p_new (b := 3) (N := 15) (dk D_X8_init 8 rfl) (show kd 3 = (0, 4, 0, 0, 0) by decide +kernel) (by decide +kernel) rfl rfl rfl tyX4_ok (by decide) (fun k => rfl) w_161 w_162 w_103 ?_
  refine p_dup (dk D_X8_init 9 rfl) rfl ?_
  refine p_callI (As := []) (st := .ref (3) :: .ref (0) :: []) (b := 3) (fr := 2) (lo := 60) (mc := 4) (ms := 146) (My := M_X4_init) (dk D_X8_init 10 rfl) w_163 w_164 rfl rfl w_103 w_165 okD_X4_init (by decide) (Nat.le_of_ble_eq_true rfl) rfl (cp_Road (b := 3) (by unfold RoadB; decide +kernel) (by decide +kernel)) (fun h2 J2 n2 hq => ?_)
  obtain ⟨f2, e1, e2⟩ := hq
  subst e1 e2
  refine p_putR 1 (dk D_X8_init 11 rfl) (show kd 0 = (0, 8, 0, 0, 0) by decide +kernel) (by decide +kernel) rfl rfl (by decide) w_435 rfl tyX8_ok nmX8 (Or.inr ⟨rfl, rfl, rfl⟩) (by decide) rfl (by decide +kernel) ?_
  refine p_aload_n 0 (dk D_X8_init 12 rfl) rfl rfl ?_
  refine p_new (b := 8) (N := 15) (dk D_X8_init 13 rfl) (show kd 8 = (0, 4, 0, 0, 0) by decide +kernel) (by decide +kernel) rfl rfl rfl tyX4_ok (by decide) (fun k => rfl) w_161 w_162 w_103 ?_
  refine p_dup (dk D_X8_init 14 rfl) rfl ?_
  refine p_callI (As := []) (st := .ref (8) :: .ref (0) :: []) (b := 8) (fr := 2) (lo := 60) (mc := 4) (ms := 146) (My := M_X4_init) (dk D_X8_init 15 rfl) w_163 w_164 rfl rfl w_103 w_165 okD_X4_init (by decide) (Nat.le_of_ble_eq_true rfl) rfl (cp_Road (b := 8) (by unfold RoadB; decide +kernel) (by decide +kernel)) (fun h3 J3 n3 hq => ?_)
  obtain ⟨f3, e1, e2⟩ := hq
  subst e1 e2
  refine p_putR 2 (dk D_X8_init 16 rfl) (show kd 0 = (0, 8, 0, 0, 0) by decide +kernel) (by decide +kernel) rfl rfl (by decide) w_436 rfl tyX8_ok nmX8 (Or.inr ⟨rfl, rfl, rfl⟩) (by decide) rfl (by decide +kernel) ?_
  refine p_aload_n 0 (dk D_X8_init 17 rfl) rfl rfl ?_
  refine p_iconst (v := (4 : Int32)) (dk D_X8_init 18 rfl) (by decide +kernel) ?_
  refine p_newq (b := 13) (len := 4) (dk D_X8_init 19 rfl) (show kd 13 = (2, 4, 14, 4, 6) by decide +kernel) (by decide +kernel) rfl (by decide) (fun X => rfl) w_246 (by decide) (fun k => rfl) ?_
  refine p_putR 3 (dk D_X8_init 20 rfl) (show kd 0 = (0, 8, 0, 0, 0) by decide +kernel) (by decide +kernel) rfl rfl (by decide) w_437 rfl tyX8_ok nmX8 (Or.inr ⟨rfl, rfl, rfl⟩) (by decide) rfl (by decide +kernel) ?_
  refine p_aload_n 0 (dk D_X8_init 21 rfl) rfl rfl ?_
  refine p_new (b := 30) (N := 4) (dk D_X8_init 22 rfl) (show kd 30 = (0, 0, 0, 0, 0) by decide +kernel) (by decide +kernel) rfl rfl rfl tyX0_ok (by decide) (fun k => rfl) w_246 w_248 w_104 ?_
  refine p_dup (dk D_X8_init 23 rfl) rfl ?_
  refine p_callIN (As := []) (st := .ref (30) :: .ref (0) :: []) (b := 30) (fr := 1) (lo := 20) (mc := 3) (ms := 570) (My := M_X0_init) (dk D_X8_init 24 rfl) w_249 w_250 rfl rfl w_104 w_251 okD_X0_init (by decide) (Nat.le_of_ble_eq_true rfl) rfl (cp_Law (b := 30) (by unfold LawB; decide +kernel)) (fun h4 J4 n4 hq => ?_)
  obtain ⟨f4, e1, e2⟩ := hq
  subst f4 e1 e2
  refine p_putR 4 (dk D_X8_init 25 rfl) (show kd 0 = (0, 8, 0, 0, 0) by decide +kernel) (by decide +kernel) rfl rfl (by decide) w_438 rfl tyX8_ok nmX8 (Or.inr ⟨rfl, rfl, rfl⟩) (by decide) rfl (by decide +kernel) ?_
  refine p_aload_n 0 (dk D_X8_init 26 rfl) rfl rfl ?_
  refine p_new (b := 34) (N := 4) (dk D_X8_init 27 rfl) (show kd 34 = (0, 0, 0, 0, 0) by decide +kernel) (by decide +kernel) rfl rfl rfl tyX0_ok (by decide) (fun k => rfl) w_246 w_248 w_104 ?_
  refine p_dup (dk D_X8_init 28 rfl) rfl ?_
  refine p_callIN (As := []) (st := .ref (34) :: .ref (0) :: []) (b := 34) (fr := 1) (lo := 20) (mc := 3) (ms := 570) (My := M_X0_init) (dk D_X8_init 29 rfl) w_249 w_250 rfl rfl w_104 w_251 okD_X0_init (by decide) (Nat.le_of_ble_eq_true rfl) rfl (cp_Law (b := 34) (by unfold LawB; decide +kernel)) (fun h5 J5 n5 hq => ?_)
  obtain ⟨f5, e1, e2⟩ := hq
  subst f5 e1 e2
  refine p_putR 5 (dk D_X8_init 30 rfl) (show kd 0 = (0, 8, 0, 0, 0) by decide +kernel) (by decide +kernel) rfl rfl (by decide) w_439 rfl tyX8_ok nmX8 (Or.inr ⟨rfl, rfl, rfl⟩) (by decide) rfl (by decide +kernel) ?_
  refine p_aload_n 0 (dk D_X8_init 31 rfl) rfl rfl ?_
  refine p_new (b := 38) (N := 4) (dk D_X8_init 32 rfl) (show kd 38 = (0, 0, 0, 0, 0) by decide +kernel) (by decide +kernel) rfl rfl rfl tyX0_ok (by decide) (fun k => rfl) w_246 w_248 w_104 ?_
  refine p_dup (dk D_X8_init 33 rfl) rfl ?_
  refine p_callIN (As := []) (st := .ref (38) :: .ref (0) :: []) (b := 38) (fr := 1) (lo := 20) (mc := 3) (ms := 570) (My := M_X0_init) (dk D_X8_init 34 rfl) w_249 w_250 rfl rfl w_104 w_251 okD_X0_init (by decide) (Nat.le_of_ble_eq_true rfl) rfl (cp_Law (b := 38) (by unfold LawB; decide +kernel)) (fun h6 J6 n6 hq => ?_)
  obtain ⟨f6, e1, e2⟩ := hq
  subst f6 e1 e2
  refine p_putR 6 (dk D_X8_init 35 rfl) (show kd 0 = (0, 8, 0, 0, 0) by decide +kernel) (by decide +kernel) rfl rfl (by decide) w_440 rfl tyX8_ok nmX8 (Or.inr ⟨rfl, rfl, rfl⟩) (by decide) rfl (by decide +kernel) ?_
  refine p_aload_n 0 (dk D_X8_init 36 rfl) rfl rfl ?_
  refine p_new (b := 42) (N := 2) (dk D_X8_init 37 rfl) (show kd 42 = (0, 5, 0, 0, 0) by decide +kernel) (by decide +kernel) rfl rfl rfl tyX5_ok (by decide) (fun k => rfl) w_266 w_267 w_105 ?_
  refine p_dup (dk D_X8_init 38 rfl) rfl ?_
  refine p_aload_n 0 (dk D_X8_init 39 rfl) rfl rfl ?_
  refine p_get 0 (v := .ref (1)) (dk D_X8_init 40 rfl) (show kd 0 = (0, 8, 0, 0, 0) by decide +kernel) (by decide +kernel) rfl rfl (by decide) w_434 rfl (fvP_ref (by decide) (by decide +kernel) (by decide +kernel)) ?_
  refine p_aload_n 0 (dk D_X8_init 41 rfl) rfl rfl ?_
  refine p_get 2 (v := .ref (8)) (dk D_X8_init 42 rfl) (show kd 0 = (0, 8, 0, 0, 0) by decide +kernel) (by decide +kernel) rfl rfl (by decide) w_436 rfl (fvP_ref (by decide) (by decide +kernel) (by decide +kernel)) ?_
  refine p_callI (As := [.ref (1), .ref (8)]) (st := .ref (42) :: .ref (0) :: []) (b := 42) (fr := 1) (lo := 20) (mc := 0) (ms := 0) (My := M_X5_init) (dk D_X8_init 43 rfl) w_268 w_269 rfl rfl w_105 w_270 okD_X5_init (by decide) (Nat.le_of_ble_eq_true rfl) rfl (cp_RoadReader) (fun h7 J7 n7 hq => ?_)
  obtain ⟨f7, e1, e2⟩ := hq
  subst f7 e1 e2
  refine p_putR 7 (dk D_X8_init 44 rfl) (show kd 0 = (0, 8, 0, 0, 0) by decide +kernel) (by decide +kernel) rfl rfl (by decide) w_441 rfl tyX8_ok nmX8 (Or.inr ⟨rfl, rfl, rfl⟩) (by decide) rfl (by decide +kernel) ?_
  refine p_aload_n 0 (dk D_X8_init 45 rfl) rfl rfl ?_
  refine p_new (b := 43) (N := 2) (dk D_X8_init 46 rfl) (show kd 43 = (0, 1, 0, 0, 0) by decide +kernel) (by decide +kernel) rfl rfl rfl tyX1_ok (by decide) (fun k => rfl) w_279 w_280 w_106 ?_
  refine p_dup (dk D_X8_init 47 rfl) rfl ?_
  refine p_aload_n 0 (dk D_X8_init 48 rfl) rfl rfl ?_
  refine p_get 0 (v := .ref (1)) (dk D_X8_init 49 rfl) (show kd 0 = (0, 8, 0, 0, 0) by decide +kernel) (by decide +kernel) rfl rfl (by decide) w_434 rfl (fvP_ref (by decide) (by decide +kernel) (by decide +kernel)) ?_
  refine p_aload_n 0 (dk D_X8_init 50 rfl) rfl rfl ?_
  refine p_get 4 (v := .ref (30)) (dk D_X8_init 51 rfl) (show kd 0 = (0, 8, 0, 0, 0) by decide +kernel) (by decide +kernel) rfl rfl (by decide) w_438 rfl (fvP_ref (by decide) (by decide +kernel) (by decide +kernel)) ?_
  refine p_callI (As := [.ref (1), .ref (30)]) (st := .ref (43) :: .ref (0) :: []) (b := 43) (fr := 1) (lo := 20) (mc := 0) (ms := 0) (My := M_X1_init) (dk D_X8_init 52 rfl) w_281 w_282 rfl rfl w_106 w_283 okD_X1_init (by decide) (Nat.le_of_ble_eq_true rfl) rfl (cp_LawReader) (fun h8 J8 n8 hq => ?_)
  obtain ⟨f8, e1, e2⟩ := hq
  subst f8 e1 e2
  refine p_putR 8 (dk D_X8_init 53 rfl) (show kd 0 = (0, 8, 0, 0, 0) by decide +kernel) (by decide +kernel) rfl rfl (by decide) w_442 rfl tyX8_ok nmX8 (Or.inr ⟨rfl, rfl, rfl⟩) (by decide) rfl (by decide +kernel) ?_
  refine p_aload_n 0 (dk D_X8_init 54 rfl) rfl rfl ?_
  refine p_new (b := 44) (N := 20) (dk D_X8_init 55 rfl) (show kd 44 = (0, 2, 0, 0, 0) by decide +kernel) (by decide +kernel) rfl rfl rfl tyX2_ok (by decide) (fun k => rfl) w_292 w_293 w_107 ?_
  refine p_dup (dk D_X8_init 56 rfl) rfl ?_
  refine p_aload_n 0 (dk D_X8_init 57 rfl) rfl rfl ?_
  refine p_get 1 (v := .ref (3)) (dk D_X8_init 58 rfl) (show kd 0 = (0, 8, 0, 0, 0) by decide +kernel) (by decide +kernel) rfl rfl (by decide) w_435 rfl (fvP_ref (by decide) (by decide +kernel) (by decide +kernel)) ?_
  refine p_callI (As := [.ref (3)]) (st := .ref (44) :: .ref (0) :: []) (b := 44) (fr := 1) (lo := 20) (mc := 13) (ms := 142208) (My := M_X2_init) (dk D_X8_init 59 rfl) w_294 w_295 rfl rfl w_107 w_296 okD_X2_init (by decide) (Nat.le_of_ble_eq_true rfl) rfl (cp_Planner) (fun h9 J9 n9 hq => ?_)
  obtain ⟨f9, e1, e2⟩ := hq
  subst f9 e1 e2
  refine p_putR 9 (dk D_X8_init 60 rfl) (show kd 0 = (0, 8, 0, 0, 0) by decide +kernel) (by decide +kernel) rfl rfl (by decide) w_443 rfl tyX8_ok nmX8 (Or.inr ⟨rfl, rfl, rfl⟩) (by decide) rfl (by decide +kernel) ?_
  refine p_aload_n 0 (dk D_X8_init 61 rfl) rfl rfl ?_
  refine p_new (b := 58) (N := 6) (dk D_X8_init 62 rfl) (show kd 58 = (0, 6, 0, 0, 0) by decide +kernel) (by decide +kernel) rfl rfl rfl tyX6_ok (by decide) (fun k => rfl) w_365 w_366 w_108 ?_
  refine p_dup (dk D_X8_init 63 rfl) rfl ?_
  refine p_aload_n 0 (dk D_X8_init 64 rfl) rfl rfl ?_
  refine p_get 1 (v := .ref (3)) (dk D_X8_init 65 rfl) (show kd 0 = (0, 8, 0, 0, 0) by decide +kernel) (by decide +kernel) rfl rfl (by decide) w_435 rfl (fvP_ref (by decide) (by decide +kernel) (by decide +kernel)) ?_
  refine p_aload_n 0 (dk D_X8_init 66 rfl) rfl rfl ?_
  refine p_get 9 (v := .ref (44)) (dk D_X8_init 67 rfl) (show kd 0 = (0, 8, 0, 0, 0) by decide +kernel) (by decide +kernel) rfl rfl (by decide) w_443 rfl (fvP_ref (by decide) (by decide +kernel) (by decide +kernel)) ?_
  refine p_callI (As := [.ref (3), .ref (44)]) (st := .ref (58) :: .ref (0) :: []) (b := 58) (fr := 1) (lo := 20) (mc := 3) (ms := 720) (My := M_X6_init) (dk D_X8_init 68 rfl) w_367 w_368 rfl rfl w_108 w_369 okD_X6_init (by decide) (Nat.le_of_ble_eq_true rfl) rfl (cp_Season) (fun h10 J10 n10 hq => ?_)
  obtain ⟨f10, e1, e2⟩ := hq
  subst f10 e1 e2
  refine p_putR 10 (dk D_X8_init 69 rfl) (show kd 0 = (0, 8, 0, 0, 0) by decide +kernel) (by decide +kernel) rfl rfl (by decide) w_444 rfl tyX8_ok nmX8 (Or.inr ⟨rfl, rfl, rfl⟩) (by decide) rfl (by decide +kernel) ?_
  refine p_aload_n 0 (dk D_X8_init 70 rfl) rfl rfl ?_
  refine p_new (b := 62) (N := 8) (dk D_X8_init 71 rfl) (show kd 62 = (0, 3, 0, 0, 0) by decide +kernel) (by decide +kernel) rfl rfl rfl tyX3_ok (by decide) (fun k => rfl) w_390 w_391 w_109 ?_
  refine p_dup (dk D_X8_init 72 rfl) rfl ?_
  refine p_callI (As := []) (st := .ref (62) :: .ref (0) :: []) (b := 62) (fr := 2) (lo := 60) (mc := 6) (ms := 172) (My := M_X3_init) (dk D_X8_init 73 rfl) w_392 w_393 rfl rfl w_109 w_394 okD_X3_init (by decide) (Nat.le_of_ble_eq_true rfl) rfl (cp_Rec (b := 62) (by unfold RecB; exact ⟨by decide +kernel, by decide +kernel, by decide +kernel, by decide +kernel, by decide +kernel, by decide +kernel, by decide +kernel, by decide +kernel, by decide +kernel, by decide +kernel, by decide +kernel, by decide +kernel, by decide +kernel⟩) ⟨by decide +kernel, by decide +kernel, by decide +kernel, by decide +kernel, by decide +kernel, by decide +kernel, by decide +kernel⟩) (fun h11 J11 n11 hq => ?_)
  obtain ⟨f11, e1, e2⟩ := hq
  subst e1 e2
  refine p_putR 11 (dk D_X8_init 74 rfl) (show kd 0 = (0, 8, 0, 0, 0) by decide +kernel) (by decide +kernel) rfl rfl (by decide) w_445 rfl tyX8_ok nmX8 (Or.inr ⟨rfl, rfl, rfl⟩) (by decide) rfl (by decide +kernel) ?_
  refine p_aload_n 0 (dk D_X8_init 75 rfl) rfl rfl ?_
  refine p_iconst (v := (3 : Int32)) (dk D_X8_init 76 rfl) (by decide +kernel) ?_
  refine p_newq (b := 69) (len := 3) (dk D_X8_init 77 rfl) (show kd 69 = (2, 3, 70, 7, 7) by decide +kernel) (by decide +kernel) rfl (by decide) (fun X => rfl) w_390 (by decide) (fun k => rfl) ?_
  refine p_putR 12 (dk D_X8_init 78 rfl) (show kd 0 = (0, 8, 0, 0, 0) by decide +kernel) (by decide +kernel) rfl rfl (by decide) w_446 rfl tyX8_ok nmX8 (Or.inr ⟨rfl, rfl, rfl⟩) (by decide) rfl (by decide +kernel) ?_
  refine p_aload_n 0 (dk D_X8_init 79 rfl) rfl rfl ?_
  refine p_bipush (v := (32 : Int32)) (dk D_X8_init 80 rfl) (by decide +kernel) ?_
  refine p_newa (b := 91) (len := 32) (dk D_X8_init 81 rfl) (show kd 91 = (1, 32, 0, 0, 0) by decide +kernel) (by decide +kernel) rfl (by decide) ?_
  refine p_putR 13 (dk D_X8_init 82 rfl) (show kd 0 = (0, 8, 0, 0, 0) by decide +kernel) (by decide +kernel) rfl rfl (by decide) w_447 rfl tyX8_ok nmX8 (Or.inr ⟨rfl, rfl, rfl⟩) (by decide) rfl (by decide +kernel) ?_
  refine p_iconst (v := (0 : Int32)) (dk D_X8_init 83 rfl) (by decide +kernel) ?_
  refine p_istore_n (dk D_X8_init 84 rfl) rfl (by decide) rfl ?_
  refine p_iload_n 0 (dk D_X8_init 85 rfl) rfl rfl ?_
  refine p_aload_n 1 (dk D_X8_init 86 rfl) rfl rfl ?_
  refine p_get 3 (v := .ref (13)) (dk D_X8_init 87 rfl) (show kd 0 = (0, 8, 0, 0, 0) by decide +kernel) (by decide +kernel) rfl rfl (by decide) w_437 rfl (fvP_ref (by decide) (by decide +kernel) (by decide +kernel)) ?_
  refine p_alenR (v := (4 : Int32)) (dk D_X8_init 88 rfl) (show kd 13 = (2, 4, 14, 4, 6) by decide +kernel) (by decide +kernel) (fun X => rfl) (by decide +kernel) ?_
  refine p_icmp_ge (tgt := 207) (dk D_X8_init 89 rfl) rfl (fun z => absurd z (by decide)) (fun _ => ?_)
  refine p_aload_n 1 (dk D_X8_init 90 rfl) rfl rfl ?_
  refine p_get 3 (v := .ref (13)) (dk D_X8_init 91 rfl) (show kd 0 = (0, 8, 0, 0, 0) by decide +kernel) (by decide +kernel) rfl rfl (by decide) w_437 rfl (fvP_ref (by decide) (by decide +kernel) (by decide +kernel)) ?_
  refine p_iload_n 0 (dk D_X8_init 92 rfl) rfl rfl ?_
  refine p_new (b := 14) (N := 4) (dk D_X8_init 93 rfl) (show kd 14 = (0, 0, 0, 0, 0) by decide +kernel) (by decide +kernel) rfl rfl rfl tyX0_ok (by decide) (fun k => rfl) w_246 w_248 w_104 ?_
  refine p_dup (dk D_X8_init 94 rfl) rfl ?_
  refine p_callIN (As := []) (st := .ref (14) :: .int (0 : Int32) :: .ref (13) :: []) (b := 14) (fr := 1) (lo := 20) (mc := 3) (ms := 570) (My := M_X0_init) (dk D_X8_init 95 rfl) w_249 w_250 rfl rfl w_104 w_251 okD_X0_init (by decide) (Nat.le_of_ble_eq_true rfl) rfl (cp_Law (b := 14) (by unfold LawB; decide +kernel)) (fun h12 J12 n12 hq => ?_)
  obtain ⟨f12, e1, e2⟩ := hq
  subst f12 e1 e2
  refine p_aast (dk D_X8_init 96 rfl) (show kd 13 = (2, 4, 14, 4, 6) by decide +kernel) (by decide +kernel) (vl 0 4 (by decide) (by decide)) (fun X => rfl) (show kd 14 = (0, 0, 0, 0, 0) by decide +kernel) (by decide +kernel) rfl (by decide +kernel) ?_
  refine p_iinc 0 (v := (1 : Int32)) (dk D_X8_init 97 rfl) rfl (by decide +kernel) (by decide) rfl ?_
  refine p_goto (tgt := 179) (dk D_X8_init 98 rfl) rfl ?_
  refine p_iload_n 0 (dk D_X8_init 85 rfl) rfl rfl ?_
  refine p_aload_n 1 (dk D_X8_init 86 rfl) rfl rfl ?_
  refine p_get 3 (v := .ref (13)) (dk D_X8_init 87 rfl) (show kd 0 = (0, 8, 0, 0, 0) by decide +kernel) (by decide +kernel) rfl rfl (by decide) w_437 rfl (fvP_ref (by decide) (by decide +kernel) (by decide +kernel)) ?_
  refine p_alenR (v := (4 : Int32)) (dk D_X8_init 88 rfl) (show kd 13 = (2, 4, 14, 4, 6) by decide +kernel) (by decide +kernel) (fun X => rfl) (by decide +kernel) ?_
  refine p_icmp_ge (tgt := 207) (dk D_X8_init 89 rfl) rfl (fun z => absurd z (by decide)) (fun _ => ?_)
  refine p_aload_n 1 (dk D_X8_init 90 rfl) rfl rfl ?_
  refine p_get 3 (v := .ref (13)) (dk D_X8_init 91 rfl) (show kd 0 = (0, 8, 0, 0, 0) by decide +kernel) (by decide +kernel) rfl rfl (by decide) w_437 rfl (fvP_ref (by decide) (by decide +kernel) (by decide +kernel)) ?_
  refine p_iload_n 0 (dk D_X8_init 92 rfl) rfl rfl ?_
  refine p_new (b := 18) (N := 4) (dk D_X8_init 93 rfl) (show kd 18 = (0, 0, 0, 0, 0) by decide +kernel) (by decide +kernel) rfl rfl rfl tyX0_ok (by decide) (fun k => rfl) w_246 w_248 w_104 ?_
  refine p_dup (dk D_X8_init 94 rfl) rfl ?_
  refine p_callIN (As := []) (st := .ref (18) :: .int (1 : Int32) :: .ref (13) :: []) (b := 18) (fr := 1) (lo := 20) (mc := 3) (ms := 570) (My := M_X0_init) (dk D_X8_init 95 rfl) w_249 w_250 rfl rfl w_104 w_251 okD_X0_init (by decide) (Nat.le_of_ble_eq_true rfl) rfl (cp_Law (b := 18) (by unfold LawB; decide +kernel)) (fun h13 J13 n13 hq => ?_)
  obtain ⟨f13, e1, e2⟩ := hq
  subst f13 e1 e2
  refine p_aast (dk D_X8_init 96 rfl) (show kd 13 = (2, 4, 14, 4, 6) by decide +kernel) (by decide +kernel) (vl 1 4 (by decide) (by decide)) (fun X => rfl) (show kd 18 = (0, 0, 0, 0, 0) by decide +kernel) (by decide +kernel) rfl (by decide +kernel) ?_
  refine p_iinc 0 (v := (2 : Int32)) (dk D_X8_init 97 rfl) rfl (by decide +kernel) (by decide) rfl ?_
  refine p_goto (tgt := 179) (dk D_X8_init 98 rfl) rfl ?_
  refine p_iload_n 0 (dk D_X8_init 85 rfl) rfl rfl ?_
  refine p_aload_n 1 (dk D_X8_init 86 rfl) rfl rfl ?_
  refine p_get 3 (v := .ref (13)) (dk D_X8_init 87 rfl) (show kd 0 = (0, 8, 0, 0, 0) by decide +kernel) (by decide +kernel) rfl rfl (by decide) w_437 rfl (fvP_ref (by decide) (by decide +kernel) (by decide +kernel)) ?_
  refine p_alenR (v := (4 : Int32)) (dk D_X8_init 88 rfl) (show kd 13 = (2, 4, 14, 4, 6) by decide +kernel) (by decide +kernel) (fun X => rfl) (by decide +kernel) ?_
  refine p_icmp_ge (tgt := 207) (dk D_X8_init 89 rfl) rfl (fun z => absurd z (by decide)) (fun _ => ?_)
  refine p_aload_n 1 (dk D_X8_init 90 rfl) rfl rfl ?_
  refine p_get 3 (v := .ref (13)) (dk D_X8_init 91 rfl) (show kd 0 = (0, 8, 0, 0, 0) by decide +kernel) (by decide +kernel) rfl rfl (by decide) w_437 rfl (fvP_ref (by decide) (by decide +kernel) (by decide +kernel)) ?_
  refine p_iload_n 0 (dk D_X8_init 92 rfl) rfl rfl ?_
  refine p_new (b := 22) (N := 4) (dk D_X8_init 93 rfl) (show kd 22 = (0, 0, 0, 0, 0) by decide +kernel) (by decide +kernel) rfl rfl rfl tyX0_ok (by decide) (fun k => rfl) w_246 w_248 w_104 ?_
  refine p_dup (dk D_X8_init 94 rfl) rfl ?_
  refine p_callIN (As := []) (st := .ref (22) :: .int (2 : Int32) :: .ref (13) :: []) (b := 22) (fr := 1) (lo := 20) (mc := 3) (ms := 570) (My := M_X0_init) (dk D_X8_init 95 rfl) w_249 w_250 rfl rfl w_104 w_251 okD_X0_init (by decide) (Nat.le_of_ble_eq_true rfl) rfl (cp_Law (b := 22) (by unfold LawB; decide +kernel)) (fun h14 J14 n14 hq => ?_)
  obtain ⟨f14, e1, e2⟩ := hq
  subst f14 e1 e2
  refine p_aast (dk D_X8_init 96 rfl) (show kd 13 = (2, 4, 14, 4, 6) by decide +kernel) (by decide +kernel) (vl 2 4 (by decide) (by decide)) (fun X => rfl) (show kd 22 = (0, 0, 0, 0, 0) by decide +kernel) (by decide +kernel) rfl (by decide +kernel) ?_
  refine p_iinc 0 (v := (3 : Int32)) (dk D_X8_init 97 rfl) rfl (by decide +kernel) (by decide) rfl ?_
  refine p_goto (tgt := 179) (dk D_X8_init 98 rfl) rfl ?_
  refine p_iload_n 0 (dk D_X8_init 85 rfl) rfl rfl ?_
  refine p_aload_n 1 (dk D_X8_init 86 rfl) rfl rfl ?_
  refine p_get 3 (v := .ref (13)) (dk D_X8_init 87 rfl) (show kd 0 = (0, 8, 0, 0, 0) by decide +kernel) (by decide +kernel) rfl rfl (by decide) w_437 rfl (fvP_ref (by decide) (by decide +kernel) (by decide +kernel)) ?_
  refine p_alenR (v := (4 : Int32)) (dk D_X8_init 88 rfl) (show kd 13 = (2, 4, 14, 4, 6) by decide +kernel) (by decide +kernel) (fun X => rfl) (by decide +kernel) ?_
  refine p_icmp_ge (tgt := 207) (dk D_X8_init 89 rfl) rfl (fun z => absurd z (by decide)) (fun _ => ?_)
  refine p_aload_n 1 (dk D_X8_init 90 rfl) rfl rfl ?_
  refine p_get 3 (v := .ref (13)) (dk D_X8_init 91 rfl) (show kd 0 = (0, 8, 0, 0, 0) by decide +kernel) (by decide +kernel) rfl rfl (by decide) w_437 rfl (fvP_ref (by decide) (by decide +kernel) (by decide +kernel)) ?_
  refine p_iload_n 0 (dk D_X8_init 92 rfl) rfl rfl ?_
  refine p_new (b := 26) (N := 4) (dk D_X8_init 93 rfl) (show kd 26 = (0, 0, 0, 0, 0) by decide +kernel) (by decide +kernel) rfl rfl rfl tyX0_ok (by decide) (fun k => rfl) w_246 w_248 w_104 ?_
  refine p_dup (dk D_X8_init 94 rfl) rfl ?_
  refine p_callIN (As := []) (st := .ref (26) :: .int (3 : Int32) :: .ref (13) :: []) (b := 26) (fr := 1) (lo := 20) (mc := 3) (ms := 570) (My := M_X0_init) (dk D_X8_init 95 rfl) w_249 w_250 rfl rfl w_104 w_251 okD_X0_init (by decide) (Nat.le_of_ble_eq_true rfl) rfl (cp_Law (b := 26) (by unfold LawB; decide +kernel)) (fun h15 J15 n15 hq => ?_)
  obtain ⟨f15, e1, e2⟩ := hq
  subst f15 e1 e2
  refine p_aast (dk D_X8_init 96 rfl) (show kd 13 = (2, 4, 14, 4, 6) by decide +kernel) (by decide +kernel) (vl 3 4 (by decide) (by decide)) (fun X => rfl) (show kd 26 = (0, 0, 0, 0, 0) by decide +kernel) (by decide +kernel) rfl (by decide +kernel) ?_
  refine p_iinc 0 (v := (4 : Int32)) (dk D_X8_init 97 rfl) rfl (by decide +kernel) (by decide) rfl ?_
  refine p_goto (tgt := 179) (dk D_X8_init 98 rfl) rfl ?_
  refine p_iload_n 0 (dk D_X8_init 85 rfl) rfl rfl ?_
  refine p_aload_n 1 (dk D_X8_init 86 rfl) rfl rfl ?_
  refine p_get 3 (v := .ref (13)) (dk D_X8_init 87 rfl) (show kd 0 = (0, 8, 0, 0, 0) by decide +kernel) (by decide +kernel) rfl rfl (by decide) w_437 rfl (fvP_ref (by decide) (by decide +kernel) (by decide +kernel)) ?_
  refine p_alenR (v := (4 : Int32)) (dk D_X8_init 88 rfl) (show kd 13 = (2, 4, 14, 4, 6) by decide +kernel) (by decide +kernel) (fun X => rfl) (by decide +kernel) ?_
  refine p_icmp_ge (tgt := 207) (dk D_X8_init 89 rfl) rfl (fun _ => ?_) (fun z => absurd (by decide) z)
  refine p_iconst (v := (0 : Int32)) (dk D_X8_init 99 rfl) (by decide +kernel) ?_
  refine p_istore_n (dk D_X8_init 100 rfl) rfl (by decide) rfl ?_
  refine p_iload_n 0 (dk D_X8_init 101 rfl) rfl rfl ?_
  refine p_aload_n 1 (dk D_X8_init 102 rfl) rfl rfl ?_
  refine p_get 12 (v := .ref (69)) (dk D_X8_init 103 rfl) (show kd 0 = (0, 8, 0, 0, 0) by decide +kernel) (by decide +kernel) rfl rfl (by decide) w_446 rfl (fvP_ref (by decide) (by decide +kernel) (by decide +kernel)) ?_
  refine p_alenR (v := (3 : Int32)) (dk D_X8_init 104 rfl) (show kd 69 = (2, 3, 70, 7, 7) by decide +kernel) (by decide +kernel) (fun X => rfl) (by decide +kernel) ?_
  refine p_icmp_ge (tgt := 237) (dk D_X8_init 105 rfl) rfl (fun z => absurd z (by decide)) (fun _ => ?_)
  refine p_aload_n 1 (dk D_X8_init 106 rfl) rfl rfl ?_
  refine p_get 12 (v := .ref (69)) (dk D_X8_init 107 rfl) (show kd 0 = (0, 8, 0, 0, 0) by decide +kernel) (by decide +kernel) rfl rfl (by decide) w_446 rfl (fvP_ref (by decide) (by decide +kernel) (by decide +kernel)) ?_
  refine p_iload_n 0 (dk D_X8_init 108 rfl) rfl rfl ?_
  refine p_new (b := 70) (N := 8) (dk D_X8_init 109 rfl) (show kd 70 = (0, 3, 0, 0, 0) by decide +kernel) (by decide +kernel) rfl rfl rfl tyX3_ok (by decide) (fun k => rfl) w_390 w_391 w_109 ?_
  refine p_dup (dk D_X8_init 110 rfl) rfl ?_
  refine p_callI (As := []) (st := .ref (70) :: .int (0 : Int32) :: .ref (69) :: []) (b := 70) (fr := 2) (lo := 60) (mc := 6) (ms := 172) (My := M_X3_init) (dk D_X8_init 111 rfl) w_392 w_393 rfl rfl w_109 w_394 okD_X3_init (by decide) (Nat.le_of_ble_eq_true rfl) rfl (cp_Rec (b := 70) (by unfold RecB; exact ⟨by decide +kernel, by decide +kernel, by decide +kernel, by decide +kernel, by decide +kernel, by decide +kernel, by decide +kernel, by decide +kernel, by decide +kernel, by decide +kernel, by decide +kernel, by decide +kernel, by decide +kernel⟩) ⟨by decide +kernel, by decide +kernel, by decide +kernel, by decide +kernel, by decide +kernel, by decide +kernel, by decide +kernel⟩) (fun h16 J16 n16 hq => ?_)
  obtain ⟨f16, e1, e2⟩ := hq
  subst e1 e2
  refine p_aast (dk D_X8_init 112 rfl) (show kd 69 = (2, 3, 70, 7, 7) by decide +kernel) (by decide +kernel) (vl 0 3 (by decide) (by decide)) (fun X => rfl) (show kd 70 = (0, 3, 0, 0, 0) by decide +kernel) (by decide +kernel) rfl (by decide +kernel) ?_
  refine p_iinc 0 (v := (1 : Int32)) (dk D_X8_init 113 rfl) rfl (by decide +kernel) (by decide) rfl ?_
  refine p_goto (tgt := 209) (dk D_X8_init 114 rfl) rfl ?_
  refine p_iload_n 0 (dk D_X8_init 101 rfl) rfl rfl ?_
  refine p_aload_n 1 (dk D_X8_init 102 rfl) rfl rfl ?_
  refine p_get 12 (v := .ref (69)) (dk D_X8_init 103 rfl) (show kd 0 = (0, 8, 0, 0, 0) by decide +kernel) (by decide +kernel) rfl rfl (by decide) w_446 rfl (fvP_ref (by decide) (by decide +kernel) (by decide +kernel)) ?_
  refine p_alenR (v := (3 : Int32)) (dk D_X8_init 104 rfl) (show kd 69 = (2, 3, 70, 7, 7) by decide +kernel) (by decide +kernel) (fun X => rfl) (by decide +kernel) ?_
  refine p_icmp_ge (tgt := 237) (dk D_X8_init 105 rfl) rfl (fun z => absurd z (by decide)) (fun _ => ?_)
  refine p_aload_n 1 (dk D_X8_init 106 rfl) rfl rfl ?_
  refine p_get 12 (v := .ref (69)) (dk D_X8_init 107 rfl) (show kd 0 = (0, 8, 0, 0, 0) by decide +kernel) (by decide +kernel) rfl rfl (by decide) w_446 rfl (fvP_ref (by decide) (by decide +kernel) (by decide +kernel)) ?_
  refine p_iload_n 0 (dk D_X8_init 108 rfl) rfl rfl ?_
  refine p_new (b := 77) (N := 8) (dk D_X8_init 109 rfl) (show kd 77 = (0, 3, 0, 0, 0) by decide +kernel) (by decide +kernel) rfl rfl rfl tyX3_ok (by decide) (fun k => rfl) w_390 w_391 w_109 ?_
  refine p_dup (dk D_X8_init 110 rfl) rfl ?_
  refine p_callI (As := []) (st := .ref (77) :: .int (1 : Int32) :: .ref (69) :: []) (b := 77) (fr := 2) (lo := 60) (mc := 6) (ms := 172) (My := M_X3_init) (dk D_X8_init 111 rfl) w_392 w_393 rfl rfl w_109 w_394 okD_X3_init (by decide) (Nat.le_of_ble_eq_true rfl) rfl (cp_Rec (b := 77) (by unfold RecB; exact ⟨by decide +kernel, by decide +kernel, by decide +kernel, by decide +kernel, by decide +kernel, by decide +kernel, by decide +kernel, by decide +kernel, by decide +kernel, by decide +kernel, by decide +kernel, by decide +kernel, by decide +kernel⟩) ⟨by decide +kernel, by decide +kernel, by decide +kernel, by decide +kernel, by decide +kernel, by decide +kernel, by decide +kernel⟩) (fun h17 J17 n17 hq => ?_)
  obtain ⟨f17, e1, e2⟩ := hq
  subst e1 e2
  refine p_aast (dk D_X8_init 112 rfl) (show kd 69 = (2, 3, 70, 7, 7) by decide +kernel) (by decide +kernel) (vl 1 3 (by decide) (by decide)) (fun X => rfl) (show kd 77 = (0, 3, 0, 0, 0) by decide +kernel) (by decide +kernel) rfl (by decide +kernel) ?_
  refine p_iinc 0 (v := (2 : Int32)) (dk D_X8_init 113 rfl) rfl (by decide +kernel) (by decide) rfl ?_
  refine p_goto (tgt := 209) (dk D_X8_init 114 rfl) rfl ?_
  refine p_iload_n 0 (dk D_X8_init 101 rfl) rfl rfl ?_
  refine p_aload_n 1 (dk D_X8_init 102 rfl) rfl rfl ?_
  refine p_get 12 (v := .ref (69)) (dk D_X8_init 103 rfl) (show kd 0 = (0, 8, 0, 0, 0) by decide +kernel) (by decide +kernel) rfl rfl (by decide) w_446 rfl (fvP_ref (by decide) (by decide +kernel) (by decide +kernel)) ?_
  refine p_alenR (v := (3 : Int32)) (dk D_X8_init 104 rfl) (show kd 69 = (2, 3, 70, 7, 7) by decide +kernel) (by decide +kernel) (fun X => rfl) (by decide +kernel) ?_
  refine p_icmp_ge (tgt := 237) (dk D_X8_init 105 rfl) rfl (fun z => absurd z (by decide)) (fun _ => ?_)
  refine p_aload_n 1 (dk D_X8_init 106 rfl) rfl rfl ?_
  refine p_get 12 (v := .ref (69)) (dk D_X8_init 107 rfl) (show kd 0 = (0, 8, 0, 0, 0) by decide +kernel) (by decide +kernel) rfl rfl (by decide) w_446 rfl (fvP_ref (by decide) (by decide +kernel) (by decide +kernel)) ?_
  refine p_iload_n 0 (dk D_X8_init 108 rfl) rfl rfl ?_
  refine p_new (b := 84) (N := 8) (dk D_X8_init 109 rfl) (show kd 84 = (0, 3, 0, 0, 0) by decide +kernel) (by decide +kernel) rfl rfl rfl tyX3_ok (by decide) (fun k => rfl) w_390 w_391 w_109 ?_
  refine p_dup (dk D_X8_init 110 rfl) rfl ?_
  refine p_callI (As := []) (st := .ref (84) :: .int (2 : Int32) :: .ref (69) :: []) (b := 84) (fr := 2) (lo := 60) (mc := 6) (ms := 172) (My := M_X3_init) (dk D_X8_init 111 rfl) w_392 w_393 rfl rfl w_109 w_394 okD_X3_init (by decide) (Nat.le_of_ble_eq_true rfl) rfl (cp_Rec (b := 84) (by unfold RecB; exact ⟨by decide +kernel, by decide +kernel, by decide +kernel, by decide +kernel, by decide +kernel, by decide +kernel, by decide +kernel, by decide +kernel, by decide +kernel, by decide +kernel, by decide +kernel, by decide +kernel, by decide +kernel⟩) ⟨by decide +kernel, by decide +kernel, by decide +kernel, by decide +kernel, by decide +kernel, by decide +kernel, by decide +kernel⟩) (fun h18 J18 n18 hq => ?_)
  obtain ⟨f18, e1, e2⟩ := hq
  subst e1 e2
  refine p_aast (dk D_X8_init 112 rfl) (show kd 69 = (2, 3, 70, 7, 7) by decide +kernel) (by decide +kernel) (vl 2 3 (by decide) (by decide)) (fun X => rfl) (show kd 84 = (0, 3, 0, 0, 0) by decide +kernel) (by decide +kernel) rfl (by decide +kernel) ?_
  refine p_iinc 0 (v := (3 : Int32)) (dk D_X8_init 113 rfl) rfl (by decide +kernel) (by decide) rfl ?_
  refine p_goto (tgt := 209) (dk D_X8_init 114 rfl) rfl ?_
  refine p_iload_n 0 (dk D_X8_init 101 rfl) rfl rfl ?_
  refine p_aload_n 1 (dk D_X8_init 102 rfl) rfl rfl ?_
  refine p_get 12 (v := .ref (69)) (dk D_X8_init 103 rfl) (show kd 0 = (0, 8, 0, 0, 0) by decide +kernel) (by decide +kernel) rfl rfl (by decide) w_446 rfl (fvP_ref (by decide) (by decide +kernel) (by decide +kernel)) ?_
  refine p_alenR (v := (3 : Int32)) (dk D_X8_init 104 rfl) (show kd 69 = (2, 3, 70, 7, 7) by decide +kernel) (by decide +kernel) (fun X => rfl) (by decide +kernel) ?_
  refine p_icmp_ge (tgt := 237) (dk D_X8_init 105 rfl) rfl (fun _ => ?_) (fun z => absurd (by decide) z)
  refine p_vret (dk D_X8_init 115 rfl) rfl ⟨tollsV_of f2 f3 f11 f16 f17 f18, ?_, fun p hp => ?_, rfl⟩
  · decide +kernel
  · repeat rw [jup_ne (by omega)]
