/-! the constructor of the model, by program (wip/whole/p97.py) -/
set_option maxRecDepth 8000 in
theorem w_1347 : Cond.methodLink RX9 1 ⟨"java/lang/Object", "<init>", "()V"⟩ ∈ TT := tt_6 (List.mem_of_getElem? (i := 47) rfl) rfl
set_option maxRecDepth 8000 in
theorem w_1348 : Cond.classLink RX9 35 "[[I" ∈ TT := tt_6 (List.mem_of_getElem? (i := 48) rfl) rfl
set_option maxRecDepth 8000 in
theorem w_1350 : Cond.classLink RX9 79 "[[[I" ∈ TT := tt_6 (List.mem_of_getElem? (i := 50) rfl) rfl
set_option maxRecDepth 8000 in
theorem w_1352 : Cond.classLink RX9 87 "[[Z" ∈ TT := tt_6 (List.mem_of_getElem? (i := 52) rfl) rfl
abbrev M_X9_init : Mi := (RX9, cX9_init, 2, none)
def rows_X9_init : List (Nat × Instr × Nat) := [(0, .aload_n 0, 1), (1, .invokespecial 1, 3), (4, .aload_n 0, 1), (5, .iconst (-1), 1), (6, .putfield 9, 3), (9, .aload_n 0, 1), (10, .sipush 500, 3), (13, .newarray .int, 2), (15, .putfield 13, 3), (18, .aload_n 0, 1), (19, .bipush 11, 2), (21, .newarray .int, 2), (23, .putfield 17, 3), (26, .aload_n 0, 1), (27, .bipush 11, 2), (29, .newarray .int, 2), (31, .putfield 20, 3), (34, .aload_n 0, 1), (35, .bipush 30, 2), (37, .newarray .int, 2), (39, .putfield 23, 3), (42, .aload_n 0, 1), (43, .bipush 30, 2), (45, .newarray .int, 2), (47, .putfield 26, 3), (50, .aload_n 0, 1), (51, .bipush 30, 2), (53, .newarray .int, 2), (55, .putfield 29, 3), (58, .aload_n 0, 1), (59, .bipush 30, 2), (61, .newarray .int, 2), (63, .putfield 32, 3), (66, .aload_n 0, 1), (67, .bipush 8, 2), (69, .bipush 7, 2), (71, .multianewarray 35 2, 4), (75, .putfield 37, 3), (78, .aload_n 0, 1), (79, .bipush 8, 2), (81, .bipush 7, 2), (83, .multianewarray 35 2, 4), (87, .putfield 40, 3), (90, .aload_n 0, 1), (91, .iconst 4, 1), (92, .newarray .int, 2), (94, .putfield 43, 3), (97, .aload_n 0, 1), (98, .iconst 4, 1), (99, .bipush 10, 2), (101, .multianewarray 35 2, 4), (105, .putfield 46, 3), (108, .aload_n 0, 1), (109, .iconst 4, 1), (110, .bipush 10, 2), (112, .multianewarray 35 2, 4), (116, .putfield 49, 3), (119, .aload_n 0, 1), (120, .iconst 4, 1), (121, .bipush 10, 2), (123, .multianewarray 35 2, 4), (127, .putfield 52, 3), (130, .aload_n 0, 1), (131, .iconst 4, 1), (132, .sipush 800, 3), (135, .multianewarray 35 2, 4), (139, .putfield 55, 3), (142, .aload_n 0, 1), (143, .sipush 800, 3), (146, .newarray .int, 2), (148, .putfield 58, 3), (151, .aload_n 0, 1), (152, .bipush 6, 2), (154, .newarray .int, 2), (156, .putfield 61, 3), (159, .aload_n 0, 1), (160, .iconst 2, 1), (161, .newarray .int, 2), (163, .putfield 64, 3), (166, .aload_n 0, 1), (167, .bipush 30, 2), (169, .newarray .int, 2), (171, .putfield 67, 3), (174, .aload_n 0, 1), (175, .bipush 60, 2), (177, .iconst 2, 1), (178, .multianewarray 35 2, 4), (182, .putfield 70, 3), (185, .aload_n 0, 1), (186, .bipush 10, 2), (188, .iconst 2, 1), (189, .multianewarray 35 2, 4), (193, .putfield 73, 3), (196, .aload_n 0, 1), (197, .iconst 3, 1), (198, .sipush 200, 3), (201, .multianewarray 35 2, 4), (205, .putfield 76, 3), (208, .aload_n 0, 1), (209, .bipush 60, 2), (211, .bipush 8, 2), (213, .iconst 2, 1), (214, .multianewarray 79 3, 4), (218, .putfield 81, 3), (221, .aload_n 0, 1), (222, .bipush 60, 2), (224, .bipush 8, 2), (226, .iconst 2, 1), (227, .multianewarray 79 3, 4), (231, .putfield 84, 3), (234, .aload_n 0, 1), (235, .bipush 60, 2), (237, .bipush 8, 2), (239, .multianewarray 87 2, 4), (243, .putfield 89, 3), (246, .aload_n 0, 1), (247, .bipush 61, 2), (249, .sipush 2304, 3), (252, .multianewarray 35 2, 4), (256, .putfield 92, 3), (259, .aload_n 0, 1), (260, .bipush 60, 2), (262, .newarray .int, 2), (264, .putfield 95, 3), (267, .aload_n 0, 1), (268, .iconst 2, 1), (269, .newarray .int, 2), (271, .putfield 98, 3), (274, .aload_n 0, 1), (275, .iconst (-1), 1), (276, .putfield 101, 3), (279, .aload_n 0, 1), (280, .bipush 30, 2), (282, .bipush 30, 2), (284, .multianewarray 35 2, 4), (288, .putfield 104, 3), (291, .aload_n 0, 1), (292, .getfield 20, 3), (295, .aload_n 0, 1), (296, .getfield 26, 3), (299, .aload_n 0, 1), (300, .getfield 32, 3), (303, .invokestatic 107, 3), (306, .iconst 0, 1), (307, .istore_n 1, 1), (308, .iload_n 1, 1), (309, .bipush 30, 2), (311, .if_icmp .ge 16, 3), (314, .aload_n 0, 1), (315, .getfield 67, 3), (318, .iload_n 1, 1), (319, .iconst (-1), 1), (320, .iastore, 1), (321, .iinc 1 1, 3), (324, .goto (-16), 3), (327, .return_, 1)]
theorem D_X9_init : dkA cX9_init rows_X9_init := by
  unfold dkA
  decide +kernel
theorem okD_X9_init : okD yX9_init 0 := by
  unfold okD
  decide +kernel
theorem idx_hi {p : Nat} (h : 92 ≤ p) : idx p = p := by
  unfold idx
  rw [if_neg (by omega), if_neg (by omega), if_neg (by omega), if_neg (by omega), if_neg (by omega)]
theorem idx_lt92 {p n : Nat} (h : 92 ≤ p) (hn : p < n) : idx p < n := by
  rw [idx_hi h]
  exact hn
theorem in_i {q K : Nat} {h : Hp} {J : Nat → Bool} (hk : kd q = (1, K, 0, 0, 0)) (h0 : h q = fun _ => 0) (X : Cx) : entP X h J q (kd q) = .inl (X.2.1 0, K, .inl (fun _ => 0)) := by
  rw [hk]
  show Sum.inl (X.2.1 0, K, Sum.inl (h q)) = _
  rw [h0]
theorem in_z {q K : Nat} {h : Hp} {J : Nat → Bool} (hk : kd q = (3, K, 0, 0, 0)) (h0 : h q = fun _ => 0) (X : Cx) : entP X h J q (kd q) = .inl (X.2.1 1, K, .inl (fun _ => 0)) := by
  rw [hk]
  show Sum.inl (X.2.1 1, K, Sum.inl (fun j => h q j &&& 1)) = _
  rw [h0]
  show Sum.inl (X.2.1 1, K, Sum.inl (fun _ => (0 : Int32) &&& 1)) = _
  rw [b01]
def jupL (J : Jt) (b : Nat) : List Nat → Jt
  | [] => J
  | k :: ks => jupL (jup J b k) b ks
theorem jupL_keep {J : Jt} {b k : Nat} : ∀ {ks : List Nat}, J b k = true → jupL J b ks b k = true := by
  intro ks
  induction ks generalizing J with
  | nil => exact fun h => h
  | cons z ks ih =>
    intro h
    refine ih ?_
    by_cases c : k = z
    · rw [c]; exact jup_eq
    · rw [jup_o c]; exact h
theorem jupL_in {J : Jt} {b k : Nat} : ∀ {ks : List Nat}, k ∈ ks → jupL J b ks b k = true := by
  intro ks
  induction ks generalizing J with
  | nil => exact fun h => (List.not_mem_nil h).elim
  | cons z ks ih =>
    intro h
    rcases List.mem_cons.mp h with e | e
    · subst e
      exact jupL_keep (J := jup J b k) jup_eq
    · exact ih e
theorem jupL_ne {J : Jt} {b q : Nat} (hq : q ≠ b) : ∀ {ks : List Nat}, jupL J b ks q = J q := by
  intro ks
  induction ks generalizing J with
  | nil => rfl
  | cons z ks ih => exact ih.trans (jup_ne hq)
def bv (j : Nat) : Int32 := if j = 1 then 4 else if j = 2 then 360 else if j = 3 then 1080 else if j = 4 then 30 else 0
def blankV (h h' : Hp) : Prop := (∀ q, q ≠ 95 → q ≠ 97 → q ≠ 99 → h' q = h q) ∧ (∀ j, j < 11 → h' 95 j = bv j) ∧ (∀ d, d < 30 → h' 97 d = -1) ∧ ∀ d, d < 30 → h' 99 d = 0
theorem cp_blank {X : Cx} {h : Hp} {J : Jt} {n : Nat} (hi : idx 95 < n ∧ idx 97 < n ∧ idx 99 < n) : ConP X yX9_blank M_X9_blank 0 0 0 0 [.ref 95, .ref 97, .ref 99] h J n (fun h' J' n' => blankV h h' ∧ J' = J ∧ n' = n) := by
  refine conP_of (ini := false) (by decide +kernel) rfl (fun h => nomatch h) (Nat.le_of_ble_eq_true rfl) ?_
  have k95 : kd 95 = (1, 11, 0, 0, 0) := by decide +kernel
  have k97 : kd 97 = (1, 30, 0, 0, 0) := by decide +kernel
  have k99 : kd 99 = (1, 30, 0, 0, 0) := by decide +kernel
  have loop2 : ∀ (k : Nat) (j : Nat) (g : Hp), j + k = 30 → (∀ q, q ≠ 95 → q ≠ 97 → q ≠ 99 → g q = h q) → (∀ j, j < 11 → g 95 j = bv j) → (∀ i, i < j → g 97 i = -1 ∧ g 99 i = 0) → GP X M_X9_blank false (0, 0, 0, 0) (QPf X (0, 0, 0, 0) (fun h' J' n' => blankV h h' ∧ J' = J ∧ n' = n)) 0 0 61 [(3, .int (nI j)), (0, .ref 95), (1, .ref 97), (2, .ref 99)] [] g J n := by
    intro k
    induction k with
    | zero =>
      intro j g hj h1 h2 h3
      refine p_iload_n 0 (dk D_X9_blank 33 rfl) rfl rfl ?_
      refine p_bipush (v := nI 30) (dk D_X9_blank 34 rfl) (by decide +kernel) ?_
      refine p_icmp_ge (tgt := 81) (dk D_X9_blank 35 rfl) rfl (fun _ => ?_) (fun z => absurd ((nI_leI (by omega) (by omega)).mpr (by omega) : nI 30 ≤ nI j) z)
      exact p_vret (dk D_X9_blank 46 rfl) rfl ⟨⟨h1, h2, fun d hd => (h3 d (by omega)).1, fun d hd => (h3 d (by omega)).2⟩, rfl, rfl⟩
    | succ k ih =>
      intro j g hj h1 h2 h3
      refine p_iload_n 0 (dk D_X9_blank 33 rfl) rfl rfl ?_
      refine p_bipush (v := nI 30) (dk D_X9_blank 34 rfl) (by decide +kernel) ?_
      refine p_icmp_ge (tgt := 81) (dk D_X9_blank 35 rfl) rfl (fun z => absurd ((nI_leI (by omega) (by omega)).mp (z : nI 30 ≤ nI j)) (by omega)) (fun _ => ?_)
      refine p_aload_n 2 (dk D_X9_blank 36 rfl) rfl rfl ?_
      refine p_iload_n 0 (dk D_X9_blank 37 rfl) rfl rfl ?_
      refine p_iconst (v := (-1 : Int32)) (dk D_X9_blank 38 rfl) (by decide +kernel) ?_
      refine p_iast (dk D_X9_blank 39 rfl) k97 hi.2.1 (vp_in_nI (by omega) (by decide)) ?_
      refine p_aload_n 3 (dk D_X9_blank 40 rfl) rfl rfl ?_
      refine p_iload_n 0 (dk D_X9_blank 41 rfl) rfl rfl ?_
      refine p_iconst (v := (0 : Int32)) (dk D_X9_blank 42 rfl) (by decide +kernel) ?_
      refine p_iast (dk D_X9_blank 43 rfl) k99 hi.2.2 (vp_in_nI (by omega) (by decide)) ?_
      refine p_iinc 0 (v := nI (j + 1)) (dk D_X9_blank 44 rfl) rfl (by rw [show Int32.ofInt 1 = 1 by decide +kernel, nI_1]) (by decide) rfl ?_
      refine p_goto (tgt := 61) (dk D_X9_blank 45 rfl) rfl ?_
      rw [nI_clamp (by omega)]
      refine ih (j + 1) _ (by omega) (fun q x y w => by rw [hup_ne w, hup_ne y]; exact h1 q x y w) (fun i hi => by rw [hup_ne (by decide), hup_ne (by decide)]; exact h2 i hi) (fun i hi => ?_)
      by_cases c : i = j
      · subst c
        exact ⟨by rw [hup_ne (by decide), hup_eq], by rw [hup_eq]⟩
      · obtain ⟨a, b⟩ := h3 i (by omega)
        exact ⟨by rw [hup_ne (by decide), hup_o (Or.inr c)]; exact a, by rw [hup_o (Or.inr c), hup_ne (by decide)]; exact b⟩
  have loop1 : ∀ (k : Nat) (j : Nat) (g : Hp), j + k = 11 → (∀ q, q ≠ 95 → g q = h q) → (∀ i, i < j → g 95 i = bv i) → GP X M_X9_blank false (0, 0, 0, 0) (QPf X (0, 0, 0, 0) (fun h' J' n' => blankV h h' ∧ J' = J ∧ n' = n)) 0 0 2 [(3, .int (nI j)), (0, .ref 95), (1, .ref 97), (2, .ref 99)] [] g J n := by
    intro k
    induction k with
    | zero =>
      intro j g hj h1 h2
      refine p_iload_n 0 (dk D_X9_blank 2 rfl) rfl rfl ?_
      refine p_bipush (v := nI 11) (dk D_X9_blank 3 rfl) (by decide +kernel) ?_
      refine p_icmp_ge (tgt := 59) (dk D_X9_blank 4 rfl) rfl (fun _ => ?_) (fun z => absurd ((nI_leI (by omega) (by omega)).mpr (by omega) : nI 11 ≤ nI j) z)
      refine p_iconst (v := nI 0) (dk D_X9_blank 31 rfl) (by decide +kernel) ?_
      refine p_istore_n (dk D_X9_blank 32 rfl) rfl (by decide) rfl ?_
      exact loop2 30 0 g rfl (fun q x _ _ => h1 q x) (fun i hi => h2 i (by omega)) (fun i hi => absurd hi (Nat.not_lt_zero i))
    | succ k ih =>
      intro j g hj h1 h2
      have hj11 : j < 11 := by omega
      refine p_iload_n 0 (dk D_X9_blank 2 rfl) rfl rfl ?_
      refine p_bipush (v := nI 11) (dk D_X9_blank 3 rfl) (by decide +kernel) ?_
      refine p_icmp_ge (tgt := 59) (dk D_X9_blank 4 rfl) rfl (fun z => absurd ((nI_leI (by omega) (by omega)).mp (z : nI 11 ≤ nI j)) (by omega)) (fun _ => ?_)
      have fin : ∀ v : Int32, v = bv j → GP X M_X9_blank false (0, 0, 0, 0) (QPf X (0, 0, 0, 0) (fun h' J' n' => blankV h h' ∧ J' = J ∧ n' = n)) 0 0 52 [(3, .int (nI j)), (0, .ref 95), (1, .ref 97), (2, .ref 99)] [.int v, .int (nI j), .ref 95] g J n := by
        intro v hv
        refine p_iast (dk D_X9_blank 28 rfl) k95 hi.1 (vp_in_nI hj11 (by decide)) ?_
        refine p_iinc 0 (v := nI (j + 1)) (dk D_X9_blank 29 rfl) rfl (by rw [show Int32.ofInt 1 = 1 by decide +kernel, nI_1]) (by decide) rfl ?_
        refine p_goto (tgt := 2) (dk D_X9_blank 30 rfl) rfl ?_
        rw [nI_clamp (by omega)]
        refine ih (j + 1) _ (by omega) (fun q x => (hup_ne x).trans (h1 q x)) (fun i hi => ?_)
        by_cases c : i = j
        · subst c
          rw [hup_eq]; exact hv
        · rw [hup_o (Or.inr c)]
          exact h2 i (by omega)
      have ne : ∀ {m : Nat}, m < 20 → ¬ nI j = nI m → j ≠ m := fun hm z e => z (by rw [e])
      have eq : ∀ {m : Nat}, m < 20 → nI j = nI m → j = m := fun hm z => (nI_eq (by omega) (by omega)).mp z
      refine p_aload_n 1 (dk D_X9_blank 5 rfl) rfl rfl ?_
      refine p_iload_n 0 (dk D_X9_blank 6 rfl) rfl rfl ?_
      refine p_iload_n 0 (dk D_X9_blank 7 rfl) rfl rfl ?_
      refine p_iconst (v := nI 1) (dk D_X9_blank 8 rfl) (by decide +kernel) ?_
      refine p_icmp_ne (tgt := 19) (dk D_X9_blank 9 rfl) rfl (fun n1 => ?_) (fun z => ?_)
      · have n1 := ne (by decide) n1
        refine p_iload_n 0 (dk D_X9_blank 12 rfl) rfl rfl ?_
        refine p_iconst (v := nI 2) (dk D_X9_blank 13 rfl) (by decide +kernel) ?_
        refine p_icmp_ne (tgt := 30) (dk D_X9_blank 14 rfl) rfl (fun n2 => ?_) (fun z => ?_)
        · have n2 := ne (by decide) n2
          refine p_iload_n 0 (dk D_X9_blank 17 rfl) rfl rfl ?_
          refine p_iconst (v := nI 3) (dk D_X9_blank 18 rfl) (by decide +kernel) ?_
          refine p_icmp_ne (tgt := 41) (dk D_X9_blank 19 rfl) rfl (fun n3 => ?_) (fun z => ?_)
          · have n3 := ne (by decide) n3
            refine p_iload_n 0 (dk D_X9_blank 22 rfl) rfl rfl ?_
            refine p_iconst (v := nI 4) (dk D_X9_blank 23 rfl) (by decide +kernel) ?_
            refine p_icmp_ne (tgt := 51) (dk D_X9_blank 24 rfl) rfl (fun n4 => ?_) (fun z => ?_)
            · have n4 := ne (by decide) n4
              refine p_iconst (v := (0 : Int32)) (dk D_X9_blank 27 rfl) (by decide +kernel) ?_
              exact fin 0 (by unfold bv; rw [if_neg n1, if_neg n2, if_neg n3, if_neg n4])
            · have z := eq (by decide) z
              refine p_bipush (v := (30 : Int32)) (dk D_X9_blank 25 rfl) (by decide +kernel) ?_
              refine p_goto (tgt := 52) (dk D_X9_blank 26 rfl) rfl ?_
              exact fin 30 (by unfold bv; rw [if_neg n1, if_neg n2, if_neg n3, if_pos z])
          · have z := eq (by decide) z
            refine p_sipush (v := (1080 : Int32)) (dk D_X9_blank 20 rfl) (by decide +kernel) ?_
            refine p_goto (tgt := 52) (dk D_X9_blank 21 rfl) rfl ?_
            exact fin 1080 (by unfold bv; rw [if_neg n1, if_neg n2, if_pos z])
        · have z := eq (by decide) z
          refine p_sipush (v := (360 : Int32)) (dk D_X9_blank 15 rfl) (by decide +kernel) ?_
          refine p_goto (tgt := 52) (dk D_X9_blank 16 rfl) rfl ?_
          exact fin 360 (by unfold bv; rw [if_neg n1, if_pos z])
      · have z := eq (by decide) z
        refine p_iconst (v := (4 : Int32)) (dk D_X9_blank 10 rfl) (by decide +kernel) ?_
        refine p_goto (tgt := 52) (dk D_X9_blank 11 rfl) rfl ?_
        exact fin 4 (by unfold bv; rw [if_pos z])
  refine p_iconst (v := nI 0) (dk D_X9_blank 0 rfl) (by decide +kernel) ?_
  refine p_istore_n (dk D_X9_blank 1 rfl) rfl (by decide) rfl ?_
  exact loop1 11 0 h rfl (fun _ _ => rfl) (fun i hi => absurd hi (Nat.not_lt_zero i))
def modelV (h h' : Hp) : Prop := (∀ q, q ≠ 92 → q ≠ 95 → q ≠ 97 → q ≠ 99 → q ≠ 142 → h' q = h q) ∧ h' 92 3 = -1 ∧ h' 92 48 = -1 ∧ (∀ i, i ≠ 3 → i ≠ 48 → h' 92 i = h 92 i) ∧ (∀ j, j < 11 → h' 95 j = bv j) ∧ (∀ d, d < 30 → h' 97 d = -1) ∧ (∀ d, d < 30 → h' 99 d = 0) ∧ ∀ d, d < 30 → h' 142 d = -1
def modF : List Nat := [9, 10, 11, 12, 13, 14, 15, 16, 17, 21, 22, 23, 24, 25, 26, 27, 28, 29, 33, 34, 35, 37, 38, 39, 40, 41, 47, 50]
theorem cp_Model {X : Cx} {h : Hp} {J : Jt} (hJ : ∀ p, 93 ≤ p → p < NP → ∀ k, J p k = true) : ConP X yX9_init M_X9_init 1 30 1364 150898 [.ref 92] h J 93 (fun h' J' n' => modelV h h' ∧ J' = jupL J 92 modF ∧ n' = 1457) := by
  refine conP_of (ini := true) (by decide +kernel) rfl (fun _ => rfl) (Nat.le_of_ble_eq_true rfl) ?_
  have loop : ∀ (k : Nat) (j : Nat) (h1 g : Hp), j + k = 30 → blankV (hup (hup h 92 3 (-1)) 92 48 (-1)) h1 → (∀ q, q ≠ 142 → g q = h1 q) → (∀ i, i < j → g 142 i = -1) → GP X M_X9_init true (1, 30, 1364, 150898) (QPf X (1, 30, 1364, 150898) (fun h' J' n' => modelV h h' ∧ J' = jupL J 92 modF ∧ n' = 1457)) 0 0 308 [(1, .int (nI j)), (0, .ref 92)] [] g (jupL J 92 modF) 1457 := by
    have k142 : kd 142 = (1, 30, 0, 0, 0) := by decide +kernel
    intro k
    induction k with
    | zero =>
      intro j h1 g hj f h2 h3
      refine p_iload_n 0 (dk D_X9_init 145 rfl) rfl rfl ?_
      refine p_bipush (v := nI 30) (dk D_X9_init 146 rfl) (by decide +kernel) ?_
      refine p_icmp_ge (tgt := 327) (dk D_X9_init 147 rfl) rfl (fun _ => ?_) (fun z => absurd ((nI_leI (by omega) (by omega)).mpr (by omega) : nI 30 ≤ nI j) z)
      refine p_vret (dk D_X9_init 155 rfl) rfl ⟨⟨fun q x0 x1 x2 x3 x4 => ?_, ?_, ?_, fun i y1 y2 => ?_, fun i hi => ?_, fun i hi => ?_, fun i hi => ?_, fun i hi => h3 i (by omega)⟩, rfl, rfl⟩
      · rw [h2 q x4, f.1 q x1 x2 x3, hup_ne x0, hup_ne x0]
      · rw [h2 92 (by decide), f.1 92 (by decide) (by decide) (by decide), hup_o (Or.inr (by decide)), hup_eq]
      · rw [h2 92 (by decide), f.1 92 (by decide) (by decide) (by decide), hup_eq]
      · rw [h2 92 (by decide), f.1 92 (by decide) (by decide) (by decide), hup_o (Or.inr y2), hup_o (Or.inr y1)]
      · rw [h2 95 (by decide)]; exact f.2.1 i hi
      · rw [h2 97 (by decide)]; exact f.2.2.1 i hi
      · rw [h2 99 (by decide)]; exact f.2.2.2 i hi
    | succ k ih =>
      intro j h1 g hj f h2 h3
      refine p_iload_n 0 (dk D_X9_init 145 rfl) rfl rfl ?_
      refine p_bipush (v := nI 30) (dk D_X9_init 146 rfl) (by decide +kernel) ?_
      refine p_icmp_ge (tgt := 327) (dk D_X9_init 147 rfl) rfl (fun z => absurd ((nI_leI (by omega) (by omega)).mp (z : nI 30 ≤ nI j)) (by omega)) (fun _ => ?_)
      refine p_aload_n 1 (dk D_X9_init 148 rfl) rfl rfl ?_
      refine p_get 29 (v := .ref 142) (dk D_X9_init 149 rfl) (show kd 92 = (0, 9, 0, 0, 0) by decide +kernel) (idx_lt92 (by decide) (by decide)) rfl rfl (by decide) w_1386 rfl (fvP_ref (by decide) (jupL_in (by decide)) (by decide +kernel)) ?_
      refine p_iload_n 0 (dk D_X9_init 150 rfl) rfl rfl ?_
      refine p_iconst (v := (-1 : Int32)) (dk D_X9_init 151 rfl) (by decide +kernel) ?_
      refine p_iast (dk D_X9_init 152 rfl) k142 (idx_lt92 (by decide) (by decide)) (vp_in_nI (by omega) (by decide)) ?_
      refine p_iinc 0 (v := nI (j + 1)) (dk D_X9_init 153 rfl) rfl (by rw [show Int32.ofInt 1 = 1 by decide +kernel, nI_1]) (by decide) rfl ?_
      refine p_goto (tgt := 308) (dk D_X9_init 154 rfl) rfl ?_
      rw [nI_clamp (by omega)]
      refine ih (j + 1) h1 _ (by omega) f (fun q hq => (hup_ne hq).trans (h2 q hq)) (fun i hi => ?_)
      by_cases c : i = j
      · rw [c, hup_eq]
      · rw [hup_o (Or.inr c)]
        exact h3 i (by omega)
  refine p_aload_n 0 (dk D_X9_init 0 rfl) rfl rfl ?_
  refine p_objInit (dk D_X9_init 1 rfl) w_1347 w_130 w_131 ⟨by decide, by decide⟩ rfl ?_
  refine p_aload_n 0 (dk D_X9_init 2 rfl) rfl rfl ?_
  refine p_iconst (v := (-1 : Int32)) (dk D_X9_init 3 rfl) (by decide +kernel) ?_
  refine p_put 3 (dk D_X9_init 4 rfl) (show kd 92 = (0, 9, 0, 0, 0) by decide +kernel) (idx_lt92 (by decide) (by decide)) rfl rfl (by decide) w_1360 rfl tyX9_ok nmX9 (Or.inl rfl) (by decide) rfl (fun z => absurd z (by decide)) ?_
  refine p_aload_n 0 (dk D_X9_init 5 rfl) rfl rfl ?_
  refine p_sipush (v := (500 : Int32)) (dk D_X9_init 6 rfl) (by decide +kernel) ?_
  refine p_newa (b := 93) (len := 500) (dk D_X9_init 7 rfl) (show kd 93 = (1, 500, 0, 0, 0) by decide +kernel) (idx_hi (by decide)) rfl (by decide) ?_
  refine p_putR 9 (dk D_X9_init 8 rfl) (show kd 92 = (0, 9, 0, 0, 0) by decide +kernel) (idx_lt92 (by decide) (by decide)) rfl rfl (by decide) w_1366 rfl tyX9_ok nmX9 (Or.inr ⟨rfl, rfl, rfl⟩) (by decide) rfl (by decide +kernel) ?_
  refine p_aload_n 0 (dk D_X9_init 9 rfl) rfl rfl ?_
  refine p_bipush (v := (11 : Int32)) (dk D_X9_init 10 rfl) (by decide +kernel) ?_
  refine p_newa (b := 94) (len := 11) (dk D_X9_init 11 rfl) (show kd 94 = (1, 11, 0, 0, 0) by decide +kernel) (idx_hi (by decide)) rfl (by decide) ?_
  refine p_putR 10 (dk D_X9_init 12 rfl) (show kd 92 = (0, 9, 0, 0, 0) by decide +kernel) (idx_lt92 (by decide) (by decide)) rfl rfl (by decide) w_1367 rfl tyX9_ok nmX9 (Or.inr ⟨rfl, rfl, rfl⟩) (by decide) rfl (by decide +kernel) ?_
  refine p_aload_n 0 (dk D_X9_init 13 rfl) rfl rfl ?_
  refine p_bipush (v := (11 : Int32)) (dk D_X9_init 14 rfl) (by decide +kernel) ?_
  refine p_newa (b := 95) (len := 11) (dk D_X9_init 15 rfl) (show kd 95 = (1, 11, 0, 0, 0) by decide +kernel) (idx_hi (by decide)) rfl (by decide) ?_
  refine p_putR 11 (dk D_X9_init 16 rfl) (show kd 92 = (0, 9, 0, 0, 0) by decide +kernel) (idx_lt92 (by decide) (by decide)) rfl rfl (by decide) w_1368 rfl tyX9_ok nmX9 (Or.inr ⟨rfl, rfl, rfl⟩) (by decide) rfl (by decide +kernel) ?_
  refine p_aload_n 0 (dk D_X9_init 17 rfl) rfl rfl ?_
  refine p_bipush (v := (30 : Int32)) (dk D_X9_init 18 rfl) (by decide +kernel) ?_
  refine p_newa (b := 96) (len := 30) (dk D_X9_init 19 rfl) (show kd 96 = (1, 30, 0, 0, 0) by decide +kernel) (idx_hi (by decide)) rfl (by decide) ?_
  refine p_putR 12 (dk D_X9_init 20 rfl) (show kd 92 = (0, 9, 0, 0, 0) by decide +kernel) (idx_lt92 (by decide) (by decide)) rfl rfl (by decide) w_1369 rfl tyX9_ok nmX9 (Or.inr ⟨rfl, rfl, rfl⟩) (by decide) rfl (by decide +kernel) ?_
  refine p_aload_n 0 (dk D_X9_init 21 rfl) rfl rfl ?_
  refine p_bipush (v := (30 : Int32)) (dk D_X9_init 22 rfl) (by decide +kernel) ?_
  refine p_newa (b := 97) (len := 30) (dk D_X9_init 23 rfl) (show kd 97 = (1, 30, 0, 0, 0) by decide +kernel) (idx_hi (by decide)) rfl (by decide) ?_
  refine p_putR 13 (dk D_X9_init 24 rfl) (show kd 92 = (0, 9, 0, 0, 0) by decide +kernel) (idx_lt92 (by decide) (by decide)) rfl rfl (by decide) w_1370 rfl tyX9_ok nmX9 (Or.inr ⟨rfl, rfl, rfl⟩) (by decide) rfl (by decide +kernel) ?_
  refine p_aload_n 0 (dk D_X9_init 25 rfl) rfl rfl ?_
  refine p_bipush (v := (30 : Int32)) (dk D_X9_init 26 rfl) (by decide +kernel) ?_
  refine p_newa (b := 98) (len := 30) (dk D_X9_init 27 rfl) (show kd 98 = (1, 30, 0, 0, 0) by decide +kernel) (idx_hi (by decide)) rfl (by decide) ?_
  refine p_putR 14 (dk D_X9_init 28 rfl) (show kd 92 = (0, 9, 0, 0, 0) by decide +kernel) (idx_lt92 (by decide) (by decide)) rfl rfl (by decide) w_1371 rfl tyX9_ok nmX9 (Or.inr ⟨rfl, rfl, rfl⟩) (by decide) rfl (by decide +kernel) ?_
  refine p_aload_n 0 (dk D_X9_init 29 rfl) rfl rfl ?_
  refine p_bipush (v := (30 : Int32)) (dk D_X9_init 30 rfl) (by decide +kernel) ?_
  refine p_newa (b := 99) (len := 30) (dk D_X9_init 31 rfl) (show kd 99 = (1, 30, 0, 0, 0) by decide +kernel) (idx_hi (by decide)) rfl (by decide) ?_
  refine p_putR 15 (dk D_X9_init 32 rfl) (show kd 92 = (0, 9, 0, 0, 0) by decide +kernel) (idx_lt92 (by decide) (by decide)) rfl rfl (by decide) w_1372 rfl tyX9_ok nmX9 (Or.inr ⟨rfl, rfl, rfl⟩) (by decide) rfl (by decide +kernel) ?_
  refine p_aload_n 0 (dk D_X9_init 33 rfl) rfl rfl ?_
  refine p_bipush (v := (8 : Int32)) (dk D_X9_init 34 rfl) (by decide +kernel) ?_
  refine p_bipush (v := (7 : Int32)) (dk D_X9_init 35 rfl) (by decide +kernel) ?_
  refine p_mna2 (b := 100) (N := 8) (K := 7) (d := 3) (t0 := 0) (NK := 64) (N1 := 9) (ty := .int) (dk D_X9_init 36 rfl) (show kd 100 = (2, 8, 101, 1, 3) by decide +kernel) (by decide) (fun j hj => (idx_hi (by omega)).trans (by omega)) rfl rfl (by decide) (by decide) rfl rfl (fun k => by (repeat rw [jup_ne (by decide)]); exact hJ 100 (by decide) (by decide) k) (fun X => rfl) (fun X => rfl) rfl (by decide) rfl (fun _ U cA h => h) (fun j hj h0 X => in_i ((by decide +kernel : ∀ j, j < 8 → kd (100 + 1 + j) = (1, 7, 0, 0, 0)) j hj) h0 X) w_1348 (by decide) ?_
  refine p_putR 16 (dk D_X9_init 37 rfl) (show kd 92 = (0, 9, 0, 0, 0) by decide +kernel) (idx_lt92 (by decide) (by decide)) rfl rfl (by decide) w_1373 rfl tyX9_ok nmX9 (Or.inr ⟨rfl, rfl, rfl⟩) (by decide) rfl (by decide +kernel) ?_
  refine p_aload_n 0 (dk D_X9_init 38 rfl) rfl rfl ?_
  refine p_bipush (v := (8 : Int32)) (dk D_X9_init 39 rfl) (by decide +kernel) ?_
  refine p_bipush (v := (7 : Int32)) (dk D_X9_init 40 rfl) (by decide +kernel) ?_
  refine p_mna2 (b := 109) (N := 8) (K := 7) (d := 3) (t0 := 0) (NK := 64) (N1 := 9) (ty := .int) (dk D_X9_init 41 rfl) (show kd 109 = (2, 8, 110, 1, 3) by decide +kernel) (by decide) (fun j hj => (idx_hi (by omega)).trans (by omega)) rfl rfl (by decide) (by decide) rfl rfl (fun k => by (repeat rw [jup_ne (by decide)]); exact hJ 109 (by decide) (by decide) k) (fun X => rfl) (fun X => rfl) rfl (by decide) rfl (fun _ U cA h => h) (fun j hj h0 X => in_i ((by decide +kernel : ∀ j, j < 8 → kd (109 + 1 + j) = (1, 7, 0, 0, 0)) j hj) h0 X) w_1348 (by decide) ?_
  refine p_putR 17 (dk D_X9_init 42 rfl) (show kd 92 = (0, 9, 0, 0, 0) by decide +kernel) (idx_lt92 (by decide) (by decide)) rfl rfl (by decide) w_1374 rfl tyX9_ok nmX9 (Or.inr ⟨rfl, rfl, rfl⟩) (by decide) rfl (by decide +kernel) ?_
  refine p_aload_n 0 (dk D_X9_init 43 rfl) rfl rfl ?_
  refine p_iconst (v := (4 : Int32)) (dk D_X9_init 44 rfl) (by decide +kernel) ?_
  refine p_newa (b := 118) (len := 4) (dk D_X9_init 45 rfl) (show kd 118 = (1, 4, 0, 0, 0) by decide +kernel) (idx_hi (by decide)) rfl (by decide) ?_
  refine p_putR 21 (dk D_X9_init 46 rfl) (show kd 92 = (0, 9, 0, 0, 0) by decide +kernel) (idx_lt92 (by decide) (by decide)) rfl rfl (by decide) w_1378 rfl tyX9_ok nmX9 (Or.inr ⟨rfl, rfl, rfl⟩) (by decide) rfl (by decide +kernel) ?_
  refine p_aload_n 0 (dk D_X9_init 47 rfl) rfl rfl ?_
  refine p_iconst (v := (4 : Int32)) (dk D_X9_init 48 rfl) (by decide +kernel) ?_
  refine p_bipush (v := (10 : Int32)) (dk D_X9_init 49 rfl) (by decide +kernel) ?_
  refine p_mna2 (b := 119) (N := 4) (K := 10) (d := 3) (t0 := 0) (NK := 44) (N1 := 5) (ty := .int) (dk D_X9_init 50 rfl) (show kd 119 = (2, 4, 120, 1, 3) by decide +kernel) (by decide) (fun j hj => (idx_hi (by omega)).trans (by omega)) rfl rfl (by decide) (by decide) rfl rfl (fun k => by (repeat rw [jup_ne (by decide)]); exact hJ 119 (by decide) (by decide) k) (fun X => rfl) (fun X => rfl) rfl (by decide) rfl (fun _ U cA h => h) (fun j hj h0 X => in_i ((by decide +kernel : ∀ j, j < 4 → kd (119 + 1 + j) = (1, 10, 0, 0, 0)) j hj) h0 X) w_1348 (by decide) ?_
  refine p_putR 22 (dk D_X9_init 51 rfl) (show kd 92 = (0, 9, 0, 0, 0) by decide +kernel) (idx_lt92 (by decide) (by decide)) rfl rfl (by decide) w_1379 rfl tyX9_ok nmX9 (Or.inr ⟨rfl, rfl, rfl⟩) (by decide) rfl (by decide +kernel) ?_
  refine p_aload_n 0 (dk D_X9_init 52 rfl) rfl rfl ?_
  refine p_iconst (v := (4 : Int32)) (dk D_X9_init 53 rfl) (by decide +kernel) ?_
  refine p_bipush (v := (10 : Int32)) (dk D_X9_init 54 rfl) (by decide +kernel) ?_
  refine p_mna2 (b := 124) (N := 4) (K := 10) (d := 3) (t0 := 0) (NK := 44) (N1 := 5) (ty := .int) (dk D_X9_init 55 rfl) (show kd 124 = (2, 4, 125, 1, 3) by decide +kernel) (by decide) (fun j hj => (idx_hi (by omega)).trans (by omega)) rfl rfl (by decide) (by decide) rfl rfl (fun k => by (repeat rw [jup_ne (by decide)]); exact hJ 124 (by decide) (by decide) k) (fun X => rfl) (fun X => rfl) rfl (by decide) rfl (fun _ U cA h => h) (fun j hj h0 X => in_i ((by decide +kernel : ∀ j, j < 4 → kd (124 + 1 + j) = (1, 10, 0, 0, 0)) j hj) h0 X) w_1348 (by decide) ?_
  refine p_putR 23 (dk D_X9_init 56 rfl) (show kd 92 = (0, 9, 0, 0, 0) by decide +kernel) (idx_lt92 (by decide) (by decide)) rfl rfl (by decide) w_1380 rfl tyX9_ok nmX9 (Or.inr ⟨rfl, rfl, rfl⟩) (by decide) rfl (by decide +kernel) ?_
  refine p_aload_n 0 (dk D_X9_init 57 rfl) rfl rfl ?_
  refine p_iconst (v := (4 : Int32)) (dk D_X9_init 58 rfl) (by decide +kernel) ?_
  refine p_bipush (v := (10 : Int32)) (dk D_X9_init 59 rfl) (by decide +kernel) ?_
  refine p_mna2 (b := 129) (N := 4) (K := 10) (d := 3) (t0 := 0) (NK := 44) (N1 := 5) (ty := .int) (dk D_X9_init 60 rfl) (show kd 129 = (2, 4, 130, 1, 3) by decide +kernel) (by decide) (fun j hj => (idx_hi (by omega)).trans (by omega)) rfl rfl (by decide) (by decide) rfl rfl (fun k => by (repeat rw [jup_ne (by decide)]); exact hJ 129 (by decide) (by decide) k) (fun X => rfl) (fun X => rfl) rfl (by decide) rfl (fun _ U cA h => h) (fun j hj h0 X => in_i ((by decide +kernel : ∀ j, j < 4 → kd (129 + 1 + j) = (1, 10, 0, 0, 0)) j hj) h0 X) w_1348 (by decide) ?_
  refine p_putR 24 (dk D_X9_init 61 rfl) (show kd 92 = (0, 9, 0, 0, 0) by decide +kernel) (idx_lt92 (by decide) (by decide)) rfl rfl (by decide) w_1381 rfl tyX9_ok nmX9 (Or.inr ⟨rfl, rfl, rfl⟩) (by decide) rfl (by decide +kernel) ?_
  refine p_aload_n 0 (dk D_X9_init 62 rfl) rfl rfl ?_
  refine p_iconst (v := (4 : Int32)) (dk D_X9_init 63 rfl) (by decide +kernel) ?_
  refine p_sipush (v := (800 : Int32)) (dk D_X9_init 64 rfl) (by decide +kernel) ?_
  refine p_mna2 (b := 134) (N := 4) (K := 800) (d := 3) (t0 := 0) (NK := 3204) (N1 := 5) (ty := .int) (dk D_X9_init 65 rfl) (show kd 134 = (2, 4, 135, 1, 3) by decide +kernel) (by decide) (fun j hj => (idx_hi (by omega)).trans (by omega)) rfl rfl (by decide) (by decide) rfl rfl (fun k => by (repeat rw [jup_ne (by decide)]); exact hJ 134 (by decide) (by decide) k) (fun X => rfl) (fun X => rfl) rfl (by decide) rfl (fun _ U cA h => h) (fun j hj h0 X => in_i ((by decide +kernel : ∀ j, j < 4 → kd (134 + 1 + j) = (1, 800, 0, 0, 0)) j hj) h0 X) w_1348 (by decide) ?_
  refine p_putR 25 (dk D_X9_init 66 rfl) (show kd 92 = (0, 9, 0, 0, 0) by decide +kernel) (idx_lt92 (by decide) (by decide)) rfl rfl (by decide) w_1382 rfl tyX9_ok nmX9 (Or.inr ⟨rfl, rfl, rfl⟩) (by decide) rfl (by decide +kernel) ?_
  refine p_aload_n 0 (dk D_X9_init 67 rfl) rfl rfl ?_
  refine p_sipush (v := (800 : Int32)) (dk D_X9_init 68 rfl) (by decide +kernel) ?_
  refine p_newa (b := 139) (len := 800) (dk D_X9_init 69 rfl) (show kd 139 = (1, 800, 0, 0, 0) by decide +kernel) (idx_hi (by decide)) rfl (by decide) ?_
  refine p_putR 26 (dk D_X9_init 70 rfl) (show kd 92 = (0, 9, 0, 0, 0) by decide +kernel) (idx_lt92 (by decide) (by decide)) rfl rfl (by decide) w_1383 rfl tyX9_ok nmX9 (Or.inr ⟨rfl, rfl, rfl⟩) (by decide) rfl (by decide +kernel) ?_
  refine p_aload_n 0 (dk D_X9_init 71 rfl) rfl rfl ?_
  refine p_bipush (v := (6 : Int32)) (dk D_X9_init 72 rfl) (by decide +kernel) ?_
  refine p_newa (b := 140) (len := 6) (dk D_X9_init 73 rfl) (show kd 140 = (1, 6, 0, 0, 0) by decide +kernel) (idx_hi (by decide)) rfl (by decide) ?_
  refine p_putR 27 (dk D_X9_init 74 rfl) (show kd 92 = (0, 9, 0, 0, 0) by decide +kernel) (idx_lt92 (by decide) (by decide)) rfl rfl (by decide) w_1384 rfl tyX9_ok nmX9 (Or.inr ⟨rfl, rfl, rfl⟩) (by decide) rfl (by decide +kernel) ?_
  refine p_aload_n 0 (dk D_X9_init 75 rfl) rfl rfl ?_
  refine p_iconst (v := (2 : Int32)) (dk D_X9_init 76 rfl) (by decide +kernel) ?_
  refine p_newa (b := 141) (len := 2) (dk D_X9_init 77 rfl) (show kd 141 = (1, 2, 0, 0, 0) by decide +kernel) (idx_hi (by decide)) rfl (by decide) ?_
  refine p_putR 28 (dk D_X9_init 78 rfl) (show kd 92 = (0, 9, 0, 0, 0) by decide +kernel) (idx_lt92 (by decide) (by decide)) rfl rfl (by decide) w_1385 rfl tyX9_ok nmX9 (Or.inr ⟨rfl, rfl, rfl⟩) (by decide) rfl (by decide +kernel) ?_
  refine p_aload_n 0 (dk D_X9_init 79 rfl) rfl rfl ?_
  refine p_bipush (v := (30 : Int32)) (dk D_X9_init 80 rfl) (by decide +kernel) ?_
  refine p_newa (b := 142) (len := 30) (dk D_X9_init 81 rfl) (show kd 142 = (1, 30, 0, 0, 0) by decide +kernel) (idx_hi (by decide)) rfl (by decide) ?_
  refine p_putR 29 (dk D_X9_init 82 rfl) (show kd 92 = (0, 9, 0, 0, 0) by decide +kernel) (idx_lt92 (by decide) (by decide)) rfl rfl (by decide) w_1386 rfl tyX9_ok nmX9 (Or.inr ⟨rfl, rfl, rfl⟩) (by decide) rfl (by decide +kernel) ?_
  refine p_aload_n 0 (dk D_X9_init 83 rfl) rfl rfl ?_
  refine p_bipush (v := (60 : Int32)) (dk D_X9_init 84 rfl) (by decide +kernel) ?_
  refine p_iconst (v := (2 : Int32)) (dk D_X9_init 85 rfl) (by decide +kernel) ?_
  refine p_mna2 (b := 143) (N := 60) (K := 2) (d := 3) (t0 := 0) (NK := 180) (N1 := 61) (ty := .int) (dk D_X9_init 86 rfl) (show kd 143 = (2, 60, 144, 1, 3) by decide +kernel) (by decide) (fun j hj => (idx_hi (by omega)).trans (by omega)) rfl rfl (by decide) (by decide) rfl rfl (fun k => by (repeat rw [jup_ne (by decide)]); exact hJ 143 (by decide) (by decide) k) (fun X => rfl) (fun X => rfl) rfl (by decide) rfl (fun _ U cA h => h) (fun j hj h0 X => in_i ((by decide +kernel : ∀ j, j < 60 → kd (143 + 1 + j) = (1, 2, 0, 0, 0)) j hj) h0 X) w_1348 (by decide) ?_
  refine p_putR 33 (dk D_X9_init 87 rfl) (show kd 92 = (0, 9, 0, 0, 0) by decide +kernel) (idx_lt92 (by decide) (by decide)) rfl rfl (by decide) w_1390 rfl tyX9_ok nmX9 (Or.inr ⟨rfl, rfl, rfl⟩) (by decide) rfl (by decide +kernel) ?_
  refine p_aload_n 0 (dk D_X9_init 88 rfl) rfl rfl ?_
  refine p_bipush (v := (10 : Int32)) (dk D_X9_init 89 rfl) (by decide +kernel) ?_
  refine p_iconst (v := (2 : Int32)) (dk D_X9_init 90 rfl) (by decide +kernel) ?_
  refine p_mna2 (b := 204) (N := 10) (K := 2) (d := 3) (t0 := 0) (NK := 30) (N1 := 11) (ty := .int) (dk D_X9_init 91 rfl) (show kd 204 = (2, 10, 205, 1, 3) by decide +kernel) (by decide) (fun j hj => (idx_hi (by omega)).trans (by omega)) rfl rfl (by decide) (by decide) rfl rfl (fun k => by (repeat rw [jup_ne (by decide)]); exact hJ 204 (by decide) (by decide) k) (fun X => rfl) (fun X => rfl) rfl (by decide) rfl (fun _ U cA h => h) (fun j hj h0 X => in_i ((by decide +kernel : ∀ j, j < 10 → kd (204 + 1 + j) = (1, 2, 0, 0, 0)) j hj) h0 X) w_1348 (by decide) ?_
  refine p_putR 34 (dk D_X9_init 92 rfl) (show kd 92 = (0, 9, 0, 0, 0) by decide +kernel) (idx_lt92 (by decide) (by decide)) rfl rfl (by decide) w_1391 rfl tyX9_ok nmX9 (Or.inr ⟨rfl, rfl, rfl⟩) (by decide) rfl (by decide +kernel) ?_
  refine p_aload_n 0 (dk D_X9_init 93 rfl) rfl rfl ?_
  refine p_iconst (v := (3 : Int32)) (dk D_X9_init 94 rfl) (by decide +kernel) ?_
  refine p_sipush (v := (200 : Int32)) (dk D_X9_init 95 rfl) (by decide +kernel) ?_
  refine p_mna2 (b := 215) (N := 3) (K := 200) (d := 3) (t0 := 0) (NK := 603) (N1 := 4) (ty := .int) (dk D_X9_init 96 rfl) (show kd 215 = (2, 3, 216, 1, 3) by decide +kernel) (by decide) (fun j hj => (idx_hi (by omega)).trans (by omega)) rfl rfl (by decide) (by decide) rfl rfl (fun k => by (repeat rw [jup_ne (by decide)]); exact hJ 215 (by decide) (by decide) k) (fun X => rfl) (fun X => rfl) rfl (by decide) rfl (fun _ U cA h => h) (fun j hj h0 X => in_i ((by decide +kernel : ∀ j, j < 3 → kd (215 + 1 + j) = (1, 200, 0, 0, 0)) j hj) h0 X) w_1348 (by decide) ?_
  refine p_putR 35 (dk D_X9_init 97 rfl) (show kd 92 = (0, 9, 0, 0, 0) by decide +kernel) (idx_lt92 (by decide) (by decide)) rfl rfl (by decide) w_1392 rfl tyX9_ok nmX9 (Or.inr ⟨rfl, rfl, rfl⟩) (by decide) rfl (by decide +kernel) ?_
  refine p_aload_n 0 (dk D_X9_init 98 rfl) rfl rfl ?_
  refine p_bipush (v := (60 : Int32)) (dk D_X9_init 99 rfl) (by decide +kernel) ?_
  refine p_bipush (v := (8 : Int32)) (dk D_X9_init 100 rfl) (by decide +kernel) ?_
  refine p_iconst (v := (2 : Int32)) (dk D_X9_init 101 rfl) (by decide +kernel) ?_
  refine p_mna3 (b := 219) (N := 60) (M9 := 8) (K := 2) (d := 5) (d2 := 3) (NC := 540) (NK := 1500) (M1 := 9) (N1 := 541) (dk D_X9_init 102 rfl) rfl (show kd 219 = (2, 60, 220, 9, 5) by decide +kernel) (by decide +kernel) (fun i hi r hr => (by decide +kernel : ∀ i : Fin 60, ∀ r : Fin 8, kd (219 + 1 + i.val * 9 + 1 + r.val) = (1, 2, 0, 0, 0)) ⟨i, hi⟩ ⟨r, hr⟩) rfl rfl (by decide) (fun j hj => (idx_hi (by omega)).trans (by omega)) rfl rfl rfl (by decide) (by decide) (by decide) rfl (fun k => by (repeat rw [jup_ne (by decide)]); exact hJ 219 (by decide) (by decide) k) (fun i k hi => by (repeat rw [jup_ne (by omega)]); exact hJ _ (by omega) (by show _ < 1458; omega) k) (fun X => rfl) (fun X => rfl) w_1350 ?_
  refine p_putR 37 (dk D_X9_init 103 rfl) (show kd 92 = (0, 9, 0, 0, 0) by decide +kernel) (idx_lt92 (by decide) (by decide)) rfl rfl (by decide) w_1394 rfl tyX9_ok nmX9 (Or.inr ⟨rfl, rfl, rfl⟩) (by decide) rfl (by decide +kernel) ?_
  refine p_aload_n 0 (dk D_X9_init 104 rfl) rfl rfl ?_
  refine p_bipush (v := (60 : Int32)) (dk D_X9_init 105 rfl) (by decide +kernel) ?_
  refine p_bipush (v := (8 : Int32)) (dk D_X9_init 106 rfl) (by decide +kernel) ?_
  refine p_iconst (v := (2 : Int32)) (dk D_X9_init 107 rfl) (by decide +kernel) ?_
  refine p_mna3 (b := 760) (N := 60) (M9 := 8) (K := 2) (d := 5) (d2 := 3) (NC := 540) (NK := 1500) (M1 := 9) (N1 := 541) (dk D_X9_init 108 rfl) rfl (show kd 760 = (2, 60, 761, 9, 5) by decide +kernel) (by decide +kernel) (fun i hi r hr => (by decide +kernel : ∀ i : Fin 60, ∀ r : Fin 8, kd (760 + 1 + i.val * 9 + 1 + r.val) = (1, 2, 0, 0, 0)) ⟨i, hi⟩ ⟨r, hr⟩) rfl rfl (by decide) (fun j hj => (idx_hi (by omega)).trans (by omega)) rfl rfl rfl (by decide) (by decide) (by decide) rfl (fun k => by (repeat rw [jup_ne (by decide)]); exact hJ 760 (by decide) (by decide) k) (fun i k hi => by (repeat rw [jup_ne (by omega)]); exact hJ _ (by omega) (by show _ < 1458; omega) k) (fun X => rfl) (fun X => rfl) w_1350 ?_
  refine p_putR 38 (dk D_X9_init 109 rfl) (show kd 92 = (0, 9, 0, 0, 0) by decide +kernel) (idx_lt92 (by decide) (by decide)) rfl rfl (by decide) w_1395 rfl tyX9_ok nmX9 (Or.inr ⟨rfl, rfl, rfl⟩) (by decide) rfl (by decide +kernel) ?_
  refine p_aload_n 0 (dk D_X9_init 110 rfl) rfl rfl ?_
  refine p_bipush (v := (60 : Int32)) (dk D_X9_init 111 rfl) (by decide +kernel) ?_
  refine p_bipush (v := (8 : Int32)) (dk D_X9_init 112 rfl) (by decide +kernel) ?_
  refine p_mna2 (b := 1301) (N := 60) (K := 8) (d := 4) (t0 := 1) (NK := 540) (N1 := 61) (ty := .boolean) (dk D_X9_init 113 rfl) (show kd 1301 = (2, 60, 1302, 1, 4) by decide +kernel) (by decide) (fun j hj => (idx_hi (by omega)).trans (by omega)) rfl rfl (by decide) (by decide) rfl rfl (fun k => by (repeat rw [jup_ne (by decide)]); exact hJ 1301 (by decide) (by decide) k) (fun X => rfl) (fun X => rfl) rfl (by decide) rfl (fun _ U cA h => h) (fun j hj h0 X => in_z ((by decide +kernel : ∀ j, j < 60 → kd (1301 + 1 + j) = (3, 8, 0, 0, 0)) j hj) h0 X) w_1352 (by decide) ?_
  refine p_putR 39 (dk D_X9_init 114 rfl) (show kd 92 = (0, 9, 0, 0, 0) by decide +kernel) (idx_lt92 (by decide) (by decide)) rfl rfl (by decide) w_1396 rfl tyX9_ok nmX9 (Or.inr ⟨rfl, rfl, rfl⟩) (by decide) rfl (by decide +kernel) ?_
  refine p_aload_n 0 (dk D_X9_init 115 rfl) rfl rfl ?_
  refine p_bipush (v := (61 : Int32)) (dk D_X9_init 116 rfl) (by decide +kernel) ?_
  refine p_sipush (v := (2304 : Int32)) (dk D_X9_init 117 rfl) (by decide +kernel) ?_
  refine p_mna2 (b := 1362) (N := 61) (K := 2304) (d := 3) (t0 := 0) (NK := 140605) (N1 := 62) (ty := .int) (dk D_X9_init 118 rfl) (show kd 1362 = (2, 61, 1363, 1, 3) by decide +kernel) (by decide) (fun j hj => (idx_hi (by omega)).trans (by omega)) rfl rfl (by decide) (by decide) rfl rfl (fun k => by (repeat rw [jup_ne (by decide)]); exact hJ 1362 (by decide) (by decide) k) (fun X => rfl) (fun X => rfl) rfl (by decide) rfl (fun _ U cA h => h) (fun j hj h0 X => in_i ((by decide +kernel : ∀ j, j < 61 → kd (1362 + 1 + j) = (1, 2304, 0, 0, 0)) j hj) h0 X) w_1348 (by decide) ?_
  refine p_putR 40 (dk D_X9_init 119 rfl) (show kd 92 = (0, 9, 0, 0, 0) by decide +kernel) (idx_lt92 (by decide) (by decide)) rfl rfl (by decide) w_1397 rfl tyX9_ok nmX9 (Or.inr ⟨rfl, rfl, rfl⟩) (by decide) rfl (by decide +kernel) ?_
  refine p_aload_n 0 (dk D_X9_init 120 rfl) rfl rfl ?_
  refine p_bipush (v := (60 : Int32)) (dk D_X9_init 121 rfl) (by decide +kernel) ?_
  refine p_newa (b := 1424) (len := 60) (dk D_X9_init 122 rfl) (show kd 1424 = (1, 60, 0, 0, 0) by decide +kernel) (idx_hi (by decide)) rfl (by decide) ?_
  refine p_putR 41 (dk D_X9_init 123 rfl) (show kd 92 = (0, 9, 0, 0, 0) by decide +kernel) (idx_lt92 (by decide) (by decide)) rfl rfl (by decide) w_1398 rfl tyX9_ok nmX9 (Or.inr ⟨rfl, rfl, rfl⟩) (by decide) rfl (by decide +kernel) ?_
  refine p_aload_n 0 (dk D_X9_init 124 rfl) rfl rfl ?_
  refine p_iconst (v := (2 : Int32)) (dk D_X9_init 125 rfl) (by decide +kernel) ?_
  refine p_newa (b := 1425) (len := 2) (dk D_X9_init 126 rfl) (show kd 1425 = (1, 2, 0, 0, 0) by decide +kernel) (idx_hi (by decide)) rfl (by decide) ?_
  refine p_putR 47 (dk D_X9_init 127 rfl) (show kd 92 = (0, 9, 0, 0, 0) by decide +kernel) (idx_lt92 (by decide) (by decide)) rfl rfl (by decide) w_1404 rfl tyX9_ok nmX9 (Or.inr ⟨rfl, rfl, rfl⟩) (by decide) rfl (by decide +kernel) ?_
  refine p_aload_n 0 (dk D_X9_init 128 rfl) rfl rfl ?_
  refine p_iconst (v := (-1 : Int32)) (dk D_X9_init 129 rfl) (by decide +kernel) ?_
  refine p_put 48 (dk D_X9_init 130 rfl) (show kd 92 = (0, 9, 0, 0, 0) by decide +kernel) (idx_lt92 (by decide) (by decide)) rfl rfl (by decide) w_1405 rfl tyX9_ok nmX9 (Or.inl rfl) (by decide) rfl (fun z => absurd z (by decide)) ?_
  refine p_aload_n 0 (dk D_X9_init 131 rfl) rfl rfl ?_
  refine p_bipush (v := (30 : Int32)) (dk D_X9_init 132 rfl) (by decide +kernel) ?_
  refine p_bipush (v := (30 : Int32)) (dk D_X9_init 133 rfl) (by decide +kernel) ?_
  refine p_mna2 (b := 1426) (N := 30) (K := 30) (d := 3) (t0 := 0) (NK := 930) (N1 := 31) (ty := .int) (dk D_X9_init 134 rfl) (show kd 1426 = (2, 30, 1427, 1, 3) by decide +kernel) (by decide) (fun j hj => (idx_hi (by omega)).trans (by omega)) rfl rfl (by decide) (by decide) rfl rfl (fun k => by (repeat rw [jup_ne (by decide)]); exact hJ 1426 (by decide) (by decide) k) (fun X => rfl) (fun X => rfl) rfl (by decide) rfl (fun _ U cA h => h) (fun j hj h0 X => in_i ((by decide +kernel : ∀ j, j < 30 → kd (1426 + 1 + j) = (1, 30, 0, 0, 0)) j hj) h0 X) w_1348 (by decide) ?_
  refine p_putR 50 (dk D_X9_init 135 rfl) (show kd 92 = (0, 9, 0, 0, 0) by decide +kernel) (idx_lt92 (by decide) (by decide)) rfl rfl (by decide) w_1407 rfl tyX9_ok nmX9 (Or.inr ⟨rfl, rfl, rfl⟩) (by decide) rfl (by decide +kernel) ?_
  refine p_aload_n 0 (dk D_X9_init 136 rfl) rfl rfl ?_
  refine p_get 11 (v := .ref (95)) (dk D_X9_init 137 rfl) (show kd 92 = (0, 9, 0, 0, 0) by decide +kernel) (idx_lt92 (by decide) (by decide)) rfl rfl (by decide) w_1368 rfl (fvP_ref (by decide) (by simp [jup]) (by decide +kernel)) ?_
  refine p_aload_n 0 (dk D_X9_init 138 rfl) rfl rfl ?_
  refine p_get 13 (v := .ref (97)) (dk D_X9_init 139 rfl) (show kd 92 = (0, 9, 0, 0, 0) by decide +kernel) (idx_lt92 (by decide) (by decide)) rfl rfl (by decide) w_1370 rfl (fvP_ref (by decide) (by simp [jup]) (by decide +kernel)) ?_
  refine p_aload_n 0 (dk D_X9_init 140 rfl) rfl rfl ?_
  refine p_get 15 (v := .ref (99)) (dk D_X9_init 141 rfl) (show kd 92 = (0, 9, 0, 0, 0) by decide +kernel) (idx_lt92 (by decide) (by decide)) rfl rfl (by decide) w_1372 rfl (fvP_ref (by decide) (by simp [jup]) (by decide +kernel)) ?_
  refine p_callS (As := [.ref (95), .ref (97), .ref (99)]) (st := []) (fr := 0) (lo := 0) (mc := 0) (ms := 0) (My := M_X9_blank) (dk D_X9_init 142 rfl) w_1354 w_1355 w_110 w_1356 okD_X9_blank (by decide) (Nat.le_of_ble_eq_true rfl) rfl (cp_blank ⟨idx_lt92 (by decide) (by decide), idx_lt92 (by decide) (by decide), idx_lt92 (by decide) (by decide)⟩) (fun h1 J1 n1 hq => ?_)
  obtain ⟨f1, e1, e2⟩ := hq
  subst e1 e2
  refine p_iconst (v := nI 0) (dk D_X9_init 143 rfl) (by decide +kernel) ?_
  refine p_istore_n (dk D_X9_init 144 rfl) rfl (by decide) rfl ?_
  exact loop 30 0 h1 h1 rfl f1 (fun _ _ => rfl) (fun i hi => absurd hi (Nat.not_lt_zero i))
