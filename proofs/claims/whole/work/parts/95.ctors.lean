/-! the constructors, by program (wip/whole/p95a.py): words, and all but the two great ones -/
set_option maxRecDepth 8000 in
theorem w_130 : Cond.instanceMethod ⟨"java/lang/Object", "<init>", "()V"⟩ ∈ TT := tt_1 (List.mem_of_getElem? (i := 30) rfl) rfl
set_option maxRecDepth 8000 in
theorem w_131 : Cond.code Lib.objectInit ⟨#[0xb1]⟩ 1 none ∈ TT := tt_1 (List.mem_of_getElem? (i := 31) rfl) rfl
set_option maxRecDepth 8000 in
theorem w_137 : Cond.methodLink RX7 3 ⟨"java/lang/Object", "<init>", "()V"⟩ ∈ TT := tt_1 (List.mem_of_getElem? (i := 37) rfl) rfl
set_option maxRecDepth 8000 in
theorem w_166 : Cond.methodLink RX4 3 ⟨"java/lang/Object", "<init>", "()V"⟩ ∈ TT := tt_1 (List.mem_of_getElem? (i := 66) rfl) rfl
set_option maxRecDepth 8000 in
theorem w_167 : Cond.methodLink RX4 24 yX4_beUntold ∈ TT := tt_1 (List.mem_of_getElem? (i := 67) rfl) rfl
set_option maxRecDepth 8000 in
theorem w_252 : Cond.methodLink RX0 3 ⟨"java/lang/Object", "<init>", "()V"⟩ ∈ TT := tt_1 (List.mem_of_getElem? (i := 152) rfl) rfl
set_option maxRecDepth 8000 in
theorem w_271 : Cond.methodLink RX5 3 ⟨"java/lang/Object", "<init>", "()V"⟩ ∈ TT := tt_1 (List.mem_of_getElem? (i := 171) rfl) rfl
set_option maxRecDepth 8000 in
theorem w_284 : Cond.methodLink RX1 3 ⟨"java/lang/Object", "<init>", "()V"⟩ ∈ TT := tt_1 (List.mem_of_getElem? (i := 184) rfl) rfl
set_option maxRecDepth 8000 in
theorem w_297 : Cond.methodLink RX2 3 ⟨"java/lang/Object", "<init>", "()V"⟩ ∈ TT := tt_1 (List.mem_of_getElem? (i := 197) rfl) rfl
set_option maxRecDepth 8000 in
theorem w_298 : Cond.constant RX2 24 140544 ∈ TT := tt_1 (List.mem_of_getElem? (i := 198) rfl) rfl
set_option maxRecDepth 8000 in
theorem w_370 : Cond.methodLink RX6 3 ⟨"java/lang/Object", "<init>", "()V"⟩ ∈ TT := tt_2 (List.mem_of_getElem? (i := 30) rfl) rfl
set_option maxRecDepth 8000 in
theorem w_395 : Cond.methodLink RX3 3 ⟨"java/lang/Object", "<init>", "()V"⟩ ∈ TT := tt_2 (List.mem_of_getElem? (i := 55) rfl) rfl
set_option maxRecDepth 8000 in
theorem w_396 : Cond.methodLink RX3 30 yX3_clear ∈ TT := tt_2 (List.mem_of_getElem? (i := 56) rfl) rfl
abbrev M_X7_init : Mi := (RX7, cX7_init, 1, none)
def rows_X7_init : List (Nat × Instr × Nat) := [(0, .aload_n 0, 1), (1, .invokespecial 3, 3), (4, .aload_n 0, 1), (5, .sipush 500, 3), (8, .newarray .int, 2), (10, .putfield 9, 3), (13, .aload_n 0, 1), (14, .iconst (-1), 1), (15, .putfield 15, 3), (18, .return_, 1)]
theorem D_X7_init : dkA cX7_init rows_X7_init := by
  unfold dkA
  decide +kernel
theorem okD_X7_init : okD yX7_init 0 := by
  unfold okD
  decide +kernel
theorem cp_Text {X : Cx} {h : Hp} {J : Jt} : ConP X yX7_init M_X7_init 1 20 1 500 [.ref 1] h J 2 (fun h' J' n' => h' = hup h 1 5 (-1) ∧ J' = jup J 1 0 ∧ n' = 3) := by
  refine conP_of (ini := true) (by decide +kernel) rfl (fun _ => rfl) (Nat.le_of_ble_eq_true rfl) ?_
  refine p_aload_n 0 (dk D_X7_init 0 rfl) rfl rfl ?_
  refine p_objInit (dk D_X7_init 1 rfl) w_137 w_130 w_131 ⟨by decide, by decide⟩ rfl ?_
  refine p_aload_n 0 (dk D_X7_init 2 rfl) rfl rfl ?_
  refine p_sipush (v := (500 : Int32)) (dk D_X7_init 3 rfl) (by decide +kernel) ?_
  refine p_newa (b := 2) (len := 500) (dk D_X7_init 4 rfl) (show kd 2 = (1, 500, 0, 0, 0) by decide +kernel) (by decide +kernel) rfl (by decide) ?_
  refine p_putR 0 (dk D_X7_init 5 rfl) (show kd 1 = (0, 7, 0, 0, 0) by decide +kernel) (by decide +kernel) rfl rfl (by decide) w_138 rfl tyX7_ok nmX7 (Or.inr ⟨rfl, rfl, rfl⟩) (by decide) rfl (by decide +kernel) ?_
  refine p_aload_n 0 (dk D_X7_init 6 rfl) rfl rfl ?_
  refine p_iconst (v := (-1 : Int32)) (dk D_X7_init 7 rfl) (by decide +kernel) ?_
  refine p_put 5 (dk D_X7_init 8 rfl) (show kd 1 = (0, 7, 0, 0, 0) by decide +kernel) (by decide +kernel) rfl rfl (by decide) w_145 rfl tyX7_ok nmX7 (Or.inl rfl) (by decide) rfl (fun z => absurd z (by decide)) ?_
  exact p_vret (dk D_X7_init 9 rfl) rfl ⟨rfl, rfl, rfl⟩
abbrev M_X0_init : Mi := (RX0, cX0_init, 1, none)
def rows_X0_init : List (Nat × Instr × Nat) := [(0, .aload_n 0, 1), (1, .invokespecial 3, 3), (4, .aload_n 0, 1), (5, .sipush 500, 3), (8, .newarray .int, 2), (10, .putfield 9, 3), (13, .aload_n 0, 1), (14, .bipush 6, 2), (16, .newarray .int, 2), (18, .putfield 15, 3), (21, .aload_n 0, 1), (22, .bipush 64, 2), (24, .newarray .int, 2), (26, .putfield 18, 3), (29, .return_, 1)]
theorem D_X0_init : dkA cX0_init rows_X0_init := by
  unfold dkA
  decide +kernel
theorem okD_X0_init : okD yX0_init 0 := by
  unfold okD
  decide +kernel
def LawB (b n : Nat) : Prop := kd b = (0, 0, 0, 0, 0) ∧ kd (b + 1) = (1, 500, 0, 0, 0) ∧ kd (b + 2) = (1, 6, 0, 0, 0) ∧ kd (b + 3) = (1, 64, 0, 0, 0) ∧ tg b 0 = b + 1 ∧ tg b 1 = b + 2 ∧ tg b 2 = b + 3 ∧ idx b < n ∧ idx (b + 1) = n ∧ idx (b + 2) = n + 1 ∧ idx (b + 3) = n + 1 + 1
theorem cp_Law {X : Cx} {b n : Nat} {h : Hp} {J : Jt} (hB : LawB b n) : ConP X yX0_init M_X0_init 1 20 3 570 [.ref b] h J n (fun h' J' n' => h' = h ∧ J' = jup (jup (jup J b 0) b 1) b 2 ∧ n' = n + 3) := by
  obtain ⟨k0, k1, k2, k3, t0, t1, t2, i0, i1, i2, i3⟩ := hB
  refine conP_of (ini := true) (by decide +kernel) rfl (fun _ => rfl) (Nat.le_of_ble_eq_true rfl) ?_
  refine p_aload_n 0 (dk D_X0_init 0 rfl) rfl rfl ?_
  refine p_objInit (dk D_X0_init 1 rfl) w_252 w_130 w_131 ⟨by decide, by decide⟩ rfl ?_
  refine p_aload_n 0 (dk D_X0_init 2 rfl) rfl rfl ?_
  refine p_sipush (v := (500 : Int32)) (dk D_X0_init 3 rfl) (by decide +kernel) ?_
  refine p_newa (b := b + 1) (len := 500) (dk D_X0_init 4 rfl) k1 i1 rfl (by decide) ?_
  refine p_putR 0 (dk D_X0_init 5 rfl) k0 (by omega) rfl rfl (by decide) w_253 rfl tyX0_ok nmX0 (Or.inr ⟨rfl, rfl, rfl⟩) (by decide) rfl t0 ?_
  refine p_aload_n 0 (dk D_X0_init 6 rfl) rfl rfl ?_
  refine p_bipush (v := (6 : Int32)) (dk D_X0_init 7 rfl) (by decide +kernel) ?_
  refine p_newa (b := b + 2) (len := 6) (dk D_X0_init 8 rfl) k2 i2 rfl (by decide) ?_
  refine p_putR 1 (dk D_X0_init 9 rfl) k0 (by omega) rfl rfl (by decide) w_254 rfl tyX0_ok nmX0 (Or.inr ⟨rfl, rfl, rfl⟩) (by decide) rfl t1 ?_
  refine p_aload_n 0 (dk D_X0_init 10 rfl) rfl rfl ?_
  refine p_bipush (v := (64 : Int32)) (dk D_X0_init 11 rfl) (by decide +kernel) ?_
  refine p_newa (b := b + 3) (len := 64) (dk D_X0_init 12 rfl) k3 i3 rfl (by decide) ?_
  refine p_putR 2 (dk D_X0_init 13 rfl) k0 (by omega) rfl rfl (by decide) w_255 rfl tyX0_ok nmX0 (Or.inr ⟨rfl, rfl, rfl⟩) (by decide) rfl t2 ?_
  exact p_vret (dk D_X0_init 14 rfl) rfl ⟨rfl, rfl, rfl⟩
theorem fvP_ref {h : Hp} {J : Jt} {b c k t : Nat} (hf : fk c k = 2) (hJ : J b k = true) (ht : tg b k = t) : ∀ X, fvalP X h (J b) b c k = rv X (.ref t) := fun X => by
  unfold fvalP
  rw [if_pos hf, if_pos hJ, ht]
  rfl
def RoadB (b : Nat) : Prop := kd b = (0, 4, 0, 0, 0) ∧ kd (b + 1) = (1, 30, 0, 0, 0) ∧ kd (b + 2) = (1, 30, 0, 0, 0) ∧ kd (b + 3) = (1, 30, 0, 0, 0) ∧ kd (b + 4) = (1, 56, 0, 0, 0) ∧ tg b 0 = b + 1 ∧ tg b 1 = b + 2 ∧ tg b 2 = b + 3 ∧ tg b 3 = b + 4
def roadV (h' : Hp) (b : Nat) : Prop := h' b 4 = 0 ∧ h' b 5 = 4 ∧ h' b 6 = 360 ∧ h' b 7 = 1080 ∧ h' b 8 = 30 ∧ h' b 9 = 0 ∧ h' b 10 = 0 ∧ h' b 11 = 0 ∧ h' b 12 = 0 ∧ h' b 13 = 0 ∧ h' b 14 = 0 ∧ (∀ i, i < 30 → h' (b + 1) i = 0) ∧ (∀ i, i < 30 → h' (b + 2) i = 2700) ∧ (∀ i, i < 30 → h' (b + 3) i = 0) ∧ (∀ i, i < 56 → h' (b + 4) i = 0)
theorem roadV_of {h h1 h2 h3 h4 : Hp} {b : Nat} (f1 : filled h h1 (b + 1) 30 0) (f2 : filled h1 h2 (b + 2) 30 2700) (f3 : filled h2 h3 (b + 3) 30 0) (f4 : filled h3 h4 (b + 4) 56 0) : (∀ q, (q < b ∨ b + 4 < q) → (hup (hup (hup (hup (hup (hup (hup (hup (hup (hup (hup h4 b 4 0) b 5 4) b 6 360) b 7 1080) b 8 30) b 9 0) b 10 0) b 11 0) b 12 0) b 13 0) b 14 0) q = h q) ∧ roadV (hup (hup (hup (hup (hup (hup (hup (hup (hup (hup (hup h4 b 4 0) b 5 4) b 6 360) b 7 1080) b 8 30) b 9 0) b 10 0) b 11 0) b 12 0) b 13 0) b 14 0) b := by
  have n4 : ∀ q, q ≠ b → (hup (hup (hup (hup (hup (hup (hup (hup (hup (hup (hup h4 b 4 0) b 5 4) b 6 360) b 7 1080) b 8 30) b 9 0) b 10 0) b 11 0) b 12 0) b 13 0) b 14 0) q = h4 q := fun q hq => by simp only [hup_ne hq]
  refine ⟨fun q hq => ?_, ?_, ?_, ?_, ?_, ?_, ?_, ?_, ?_, ?_, ?_, ?_, fun i hi => ?_, fun i hi => ?_, fun i hi => ?_, fun i hi => ?_⟩
  · rw [n4 q (by omega), f4.1 q (by omega), f3.1 q (by omega), f2.1 q (by omega), f1.1 q (by omega)]
  iterate 11 (simp [hup_at])
  · rw [n4 _ (by omega), f4.1 _ (by omega), f3.1 _ (by omega), f2.1 _ (by omega)]; exact f1.2 i hi
  · rw [n4 _ (by omega), f4.1 _ (by omega), f3.1 _ (by omega)]; exact f2.2 i hi
  · rw [n4 _ (by omega), f4.1 _ (by omega)]; exact f3.2 i hi
  · rw [n4 _ (by omega)]; exact f4.2 i hi
theorem cp_beUntold {X : Cx} {b n : Nat} {h : Hp} {J : Jt} (hB : RoadB b) (hJ : J b 0 = true ∧ J b 1 = true ∧ J b 2 = true ∧ J b 3 = true) (hi : idx b < n ∧ idx (b + 1) < n ∧ idx (b + 2) < n ∧ idx (b + 3) < n ∧ idx (b + 4) < n) : ConP X yX4_beUntold M_X4_beUntold 1 30 0 0 [.ref b] h J n (fun h' J' n' => ((∀ q, (q < b ∨ b + 4 < q) → h' q = h q) ∧ roadV h' b) ∧ J' = J ∧ n' = n) := by
  obtain ⟨k0, k1, k2, k3, k4, t0, t1, t2, t3⟩ := hB
  obtain ⟨j0, j1, j2, j3⟩ := hJ
  refine conP_of (ini := false) (by decide +kernel) rfl (fun h => nomatch h) (Nat.le_of_ble_eq_true rfl) ?_
  refine p_aload_n 0 (dk D_X4_beUntold 0 rfl) rfl rfl ?_
  refine p_get 0 (v := .ref (b + 1)) (dk D_X4_beUntold 1 rfl) k0 (by omega) rfl rfl (by decide) w_174 rfl (fvP_ref (by decide) (j0) t0) ?_
  refine p_iconst (v := (0 : Int32)) (dk D_X4_beUntold 2 rfl) (by decide +kernel) ?_
  refine p_callSN (As := [.ref (b + 1), .int (0 : Int32)]) (st := []) (fr := 0) (lo := 0) (mc := 0) (ms := 0) (My := M_X8_fillRow) (dk D_X4_beUntold 3 rfl) w_171 w_172 w_101 w_173 okD_X8_fillRow (by decide) (Nat.le_of_ble_eq_true rfl) rfl (cp_fillRow k1 (by omega) (by decide)) (fun h1 J1 n1 hq => ?_)
  obtain ⟨f1, e1, e2⟩ := hq
  subst e1 e2
  refine p_aload_n 0 (dk D_X4_beUntold 4 rfl) rfl rfl ?_
  refine p_get 1 (v := .ref (b + 2)) (dk D_X4_beUntold 5 rfl) k0 (by omega) rfl rfl (by decide) w_176 rfl (fvP_ref (by decide) (j1) t1) ?_
  refine p_sipush (v := (2700 : Int32)) (dk D_X4_beUntold 6 rfl) (by decide +kernel) ?_
  refine p_callSN (As := [.ref (b + 2), .int (2700 : Int32)]) (st := []) (fr := 0) (lo := 0) (mc := 0) (ms := 0) (My := M_X8_fillRow) (dk D_X4_beUntold 7 rfl) w_171 w_172 w_101 w_173 okD_X8_fillRow (by decide) (Nat.le_of_ble_eq_true rfl) rfl (cp_fillRow k2 (by omega) (by decide)) (fun h2 J2 n2 hq => ?_)
  obtain ⟨f2, e1, e2⟩ := hq
  subst e1 e2
  refine p_aload_n 0 (dk D_X4_beUntold 8 rfl) rfl rfl ?_
  refine p_get 2 (v := .ref (b + 3)) (dk D_X4_beUntold 9 rfl) k0 (by omega) rfl rfl (by decide) w_178 rfl (fvP_ref (by decide) (j2) t2) ?_
  refine p_iconst (v := (0 : Int32)) (dk D_X4_beUntold 10 rfl) (by decide +kernel) ?_
  refine p_callSN (As := [.ref (b + 3), .int (0 : Int32)]) (st := []) (fr := 0) (lo := 0) (mc := 0) (ms := 0) (My := M_X8_fillRow) (dk D_X4_beUntold 11 rfl) w_171 w_172 w_101 w_173 okD_X8_fillRow (by decide) (Nat.le_of_ble_eq_true rfl) rfl (cp_fillRow k3 (by omega) (by decide)) (fun h3 J3 n3 hq => ?_)
  obtain ⟨f3, e1, e2⟩ := hq
  subst e1 e2
  refine p_aload_n 0 (dk D_X4_beUntold 12 rfl) rfl rfl ?_
  refine p_get 3 (v := .ref (b + 4)) (dk D_X4_beUntold 13 rfl) k0 (by omega) rfl rfl (by decide) w_181 rfl (fvP_ref (by decide) (j3) t3) ?_
  refine p_iconst (v := (0 : Int32)) (dk D_X4_beUntold 14 rfl) (by decide +kernel) ?_
  refine p_callSN (As := [.ref (b + 4), .int (0 : Int32)]) (st := []) (fr := 0) (lo := 0) (mc := 0) (ms := 0) (My := M_X8_fillRow) (dk D_X4_beUntold 15 rfl) w_171 w_172 w_101 w_173 okD_X8_fillRow (by decide) (Nat.le_of_ble_eq_true rfl) rfl (cp_fillRow k4 (by omega) (by decide)) (fun h4 J4 n4 hq => ?_)
  obtain ⟨f4, e1, e2⟩ := hq
  subst e1 e2
  refine p_aload_n 0 (dk D_X4_beUntold 16 rfl) rfl rfl ?_
  refine p_iconst (v := (0 : Int32)) (dk D_X4_beUntold 17 rfl) (by decide +kernel) ?_
  refine p_put 4 (dk D_X4_beUntold 18 rfl) k0 (by omega) rfl rfl (by decide) w_182 rfl tyX4_ok nmX4 (Or.inl rfl) (by decide) rfl (fun z => absurd z (by decide)) ?_
  refine p_aload_n 0 (dk D_X4_beUntold 19 rfl) rfl rfl ?_
  refine p_iconst (v := (4 : Int32)) (dk D_X4_beUntold 20 rfl) (by decide +kernel) ?_
  refine p_put 5 (dk D_X4_beUntold 21 rfl) k0 (by omega) rfl rfl (by decide) w_185 rfl tyX4_ok nmX4 (Or.inl rfl) (by decide) rfl (fun z => absurd z (by decide)) ?_
  refine p_aload_n 0 (dk D_X4_beUntold 22 rfl) rfl rfl ?_
  refine p_sipush (v := (360 : Int32)) (dk D_X4_beUntold 23 rfl) (by decide +kernel) ?_
  refine p_put 6 (dk D_X4_beUntold 24 rfl) k0 (by omega) rfl rfl (by decide) w_188 rfl tyX4_ok nmX4 (Or.inl rfl) (by decide) rfl (fun z => absurd z (by decide)) ?_
  refine p_aload_n 0 (dk D_X4_beUntold 25 rfl) rfl rfl ?_
  refine p_sipush (v := (1080 : Int32)) (dk D_X4_beUntold 26 rfl) (by decide +kernel) ?_
  refine p_put 7 (dk D_X4_beUntold 27 rfl) k0 (by omega) rfl rfl (by decide) w_191 rfl tyX4_ok nmX4 (Or.inl rfl) (by decide) rfl (fun z => absurd z (by decide)) ?_
  refine p_aload_n 0 (dk D_X4_beUntold 28 rfl) rfl rfl ?_
  refine p_bipush (v := (30 : Int32)) (dk D_X4_beUntold 29 rfl) (by decide +kernel) ?_
  refine p_put 8 (dk D_X4_beUntold 30 rfl) k0 (by omega) rfl rfl (by decide) w_194 rfl tyX4_ok nmX4 (Or.inl rfl) (by decide) rfl (fun z => absurd z (by decide)) ?_
  refine p_aload_n 0 (dk D_X4_beUntold 31 rfl) rfl rfl ?_
  refine p_iconst (v := (0 : Int32)) (dk D_X4_beUntold 32 rfl) (by decide +kernel) ?_
  refine p_put 9 (dk D_X4_beUntold 33 rfl) k0 (by omega) rfl rfl (by decide) w_197 rfl tyX4_ok nmX4 (Or.inl rfl) (by decide) rfl (fun z => absurd z (by decide)) ?_
  refine p_aload_n 0 (dk D_X4_beUntold 34 rfl) rfl rfl ?_
  refine p_iconst (v := (0 : Int32)) (dk D_X4_beUntold 35 rfl) (by decide +kernel) ?_
  refine p_put 10 (dk D_X4_beUntold 36 rfl) k0 (by omega) rfl rfl (by decide) w_201 rfl tyX4_ok nmX4 (Or.inl rfl) (by decide) rfl (fun z => absurd z (by decide)) ?_
  refine p_aload_n 0 (dk D_X4_beUntold 37 rfl) rfl rfl ?_
  refine p_iconst (v := (0 : Int32)) (dk D_X4_beUntold 38 rfl) (by decide +kernel) ?_
  refine p_put 11 (dk D_X4_beUntold 39 rfl) k0 (by omega) rfl rfl (by decide) w_204 rfl tyX4_ok nmX4 (Or.inl rfl) (by decide) rfl (fun z => absurd z (by decide)) ?_
  refine p_aload_n 0 (dk D_X4_beUntold 40 rfl) rfl rfl ?_
  refine p_iconst (v := (0 : Int32)) (dk D_X4_beUntold 41 rfl) (by decide +kernel) ?_
  refine p_put 12 (dk D_X4_beUntold 42 rfl) k0 (by omega) rfl rfl (by decide) w_206 rfl tyX4_ok nmX4 (Or.inl rfl) (by decide) rfl (fun z => absurd z (by decide)) ?_
  refine p_aload_n 0 (dk D_X4_beUntold 43 rfl) rfl rfl ?_
  refine p_iconst (v := (0 : Int32)) (dk D_X4_beUntold 44 rfl) (by decide +kernel) ?_
  refine p_put 13 (dk D_X4_beUntold 45 rfl) k0 (by omega) rfl rfl (by decide) w_208 rfl tyX4_ok nmX4 (Or.inl rfl) (by decide) rfl (fun _ => by decide) ?_
  refine p_aload_n 0 (dk D_X4_beUntold 46 rfl) rfl rfl ?_
  refine p_iconst (v := (0 : Int32)) (dk D_X4_beUntold 47 rfl) (by decide +kernel) ?_
  refine p_put 14 (dk D_X4_beUntold 48 rfl) k0 (by omega) rfl rfl (by decide) w_212 rfl tyX4_ok nmX4 (Or.inl rfl) (by decide) rfl (fun _ => by decide) ?_
  exact p_vret (dk D_X4_beUntold 49 rfl) rfl ⟨roadV_of f1 f2 f3 f4, rfl, rfl⟩
abbrev M_X4_init : Mi := (RX4, cX4_init, 1, none)
def rows_X4_init : List (Nat × Instr × Nat) := [(0, .aload_n 0, 1), (1, .invokespecial 3, 3), (4, .aload_n 0, 1), (5, .bipush 30, 2), (7, .newarray .int, 2), (9, .putfield 9, 3), (12, .aload_n 0, 1), (13, .bipush 30, 2), (15, .newarray .int, 2), (17, .putfield 15, 3), (20, .aload_n 0, 1), (21, .bipush 30, 2), (23, .newarray .int, 2), (25, .putfield 18, 3), (28, .aload_n 0, 1), (29, .bipush 56, 2), (31, .newarray .int, 2), (33, .putfield 21, 3), (36, .aload_n 0, 1), (37, .invokevirtual 24, 3), (40, .return_, 1)]
theorem D_X4_init : dkA cX4_init rows_X4_init := by
  unfold dkA
  decide +kernel
theorem okD_X4_init : okD yX4_init 0 := by
  unfold okD
  decide +kernel
theorem cp_Road {X : Cx} {b n : Nat} {h : Hp} {J : Jt} (hB : RoadB b) (hi : idx b < n ∧ idx (b + 1) = n ∧ idx (b + 2) = n + 1 ∧ idx (b + 3) = n + 1 + 1 ∧ idx (b + 4) = n + 1 + 1 + 1) : ConP X yX4_init M_X4_init 2 60 4 146 [.ref b] h J n (fun h' J' n' => ((∀ q, (q < b ∨ b + 4 < q) → h' q = h q) ∧ roadV h' b) ∧ J' = jup (jup (jup (jup J b 0) b 1) b 2) b 3 ∧ n' = n + 4) := by
  obtain ⟨k0, k1, k2, k3, k4, t0, t1, t2, t3⟩ := hB
  obtain ⟨i0, i1, i2, i3, i4⟩ := hi
  refine conP_of (ini := true) (by decide +kernel) rfl (fun _ => rfl) (Nat.le_of_ble_eq_true rfl) ?_
  refine p_aload_n 0 (dk D_X4_init 0 rfl) rfl rfl ?_
  refine p_objInit (dk D_X4_init 1 rfl) w_166 w_130 w_131 ⟨by decide, by decide⟩ rfl ?_
  refine p_aload_n 0 (dk D_X4_init 2 rfl) rfl rfl ?_
  refine p_bipush (v := (30 : Int32)) (dk D_X4_init 3 rfl) (by decide +kernel) ?_
  refine p_newa (b := b + 1) (len := 30) (dk D_X4_init 4 rfl) k1 i1 rfl (by decide) ?_
  refine p_putR 0 (dk D_X4_init 5 rfl) k0 (by omega) rfl rfl (by decide) w_174 rfl tyX4_ok nmX4 (Or.inr ⟨rfl, rfl, rfl⟩) (by decide) rfl t0 ?_
  refine p_aload_n 0 (dk D_X4_init 6 rfl) rfl rfl ?_
  refine p_bipush (v := (30 : Int32)) (dk D_X4_init 7 rfl) (by decide +kernel) ?_
  refine p_newa (b := b + 2) (len := 30) (dk D_X4_init 8 rfl) k2 i2 rfl (by decide) ?_
  refine p_putR 1 (dk D_X4_init 9 rfl) k0 (by omega) rfl rfl (by decide) w_176 rfl tyX4_ok nmX4 (Or.inr ⟨rfl, rfl, rfl⟩) (by decide) rfl t1 ?_
  refine p_aload_n 0 (dk D_X4_init 10 rfl) rfl rfl ?_
  refine p_bipush (v := (30 : Int32)) (dk D_X4_init 11 rfl) (by decide +kernel) ?_
  refine p_newa (b := b + 3) (len := 30) (dk D_X4_init 12 rfl) k3 i3 rfl (by decide) ?_
  refine p_putR 2 (dk D_X4_init 13 rfl) k0 (by omega) rfl rfl (by decide) w_178 rfl tyX4_ok nmX4 (Or.inr ⟨rfl, rfl, rfl⟩) (by decide) rfl t2 ?_
  refine p_aload_n 0 (dk D_X4_init 14 rfl) rfl rfl ?_
  refine p_bipush (v := (56 : Int32)) (dk D_X4_init 15 rfl) (by decide +kernel) ?_
  refine p_newa (b := b + 4) (len := 56) (dk D_X4_init 16 rfl) k4 i4 rfl (by decide) ?_
  refine p_putR 3 (dk D_X4_init 17 rfl) k0 (by omega) rfl rfl (by decide) w_181 rfl tyX4_ok nmX4 (Or.inr ⟨rfl, rfl, rfl⟩) (by decide) rfl t3 ?_
  refine p_aload_n 0 (dk D_X4_init 18 rfl) rfl rfl ?_
  refine p_callV (As := []) (st := []) (b := b) (fr := 1) (lo := 30) (mc := 0) (ms := 0) (My := M_X4_beUntold) (dk D_X4_init 19 rfl) k0 (by omega) rfl rfl w_167 w_169 w_0 w_103 w_170 okD_X4_beUntold (by decide) (Nat.le_of_ble_eq_true rfl) rfl (cp_beUntold ⟨k0, k1, k2, k3, k4, t0, t1, t2, t3⟩ (by simp [jup]) ⟨by omega, by omega, by omega, by omega, by omega⟩) (fun h1 J1 n1 hq => ?_)
  obtain ⟨f1, e1, e2⟩ := hq
  subst e1 e2
  exact p_vret (dk D_X4_init 20 rfl) rfl ⟨f1, rfl, rfl⟩
def RecB (b : Nat) : Prop := kd b = (0, 3, 0, 0, 0) ∧ kd (b + 1) = (1, 2, 0, 0, 0) ∧ kd (b + 2) = (1, 60, 0, 0, 0) ∧ kd (b + 3) = (1, 60, 0, 0, 0) ∧ kd (b + 4) = (1, 30, 0, 0, 0) ∧ kd (b + 5) = (1, 10, 0, 0, 0) ∧ kd (b + 6) = (1, 10, 0, 0, 0) ∧ tg b 0 = b + 1 ∧ tg b 1 = b + 2 ∧ tg b 2 = b + 3 ∧ tg b 3 = b + 4 ∧ tg b 4 = b + 5 ∧ tg b 5 = b + 6
def recV (h' : Hp) (b : Nat) : Prop := h' b 6 = 0 ∧ h' b 7 = 0 ∧ (∀ i, i < 2 → h' (b + 1) i = 0) ∧ (∀ i, i < 30 → h' (b + 4) i = -1)
theorem recV_of {h h1 h2 : Hp} {b : Nat} (f1 : filled h h1 (b + 1) 2 0) (f2 : filled h1 h2 (b + 4) 30 (-1)) : (∀ q, (q < b ∨ b + 6 < q) → (hup (hup h2 b 6 0) b 7 0) q = h q) ∧ recV (hup (hup h2 b 6 0) b 7 0) b := by
  have n4 : ∀ q, q ≠ b → (hup (hup h2 b 6 0) b 7 0) q = h2 q := fun q hq => by simp only [hup_ne hq]
  refine ⟨fun q hq => ?_, ?_, ?_, fun i hi => ?_, fun i hi => ?_⟩
  · rw [n4 q (by omega), f2.1 q (by omega), f1.1 q (by omega)]
  iterate 2 (simp [hup_at])
  · rw [n4 _ (by omega), f2.1 _ (by omega)]; exact f1.2 i hi
  · rw [n4 _ (by omega)]; exact f2.2 i hi
theorem cp_clear {X : Cx} {b n : Nat} {h : Hp} {J : Jt} (hB : RecB b) (hJ : J b 0 = true ∧ J b 3 = true) (hi : idx b < n ∧ idx (b + 1) < n ∧ idx (b + 4) < n) : ConP X yX3_clear M_X3_clear 1 30 0 0 [.ref b] h J n (fun h' J' n' => ((∀ q, (q < b ∨ b + 6 < q) → h' q = h q) ∧ recV h' b) ∧ J' = J ∧ n' = n) := by
  obtain ⟨k0, k1, k2, k3, k4, k5, k6, t0, t1, t2, t3, t4, t5⟩ := hB
  obtain ⟨j0, j3⟩ := hJ
  refine conP_of (ini := false) (by decide +kernel) rfl (fun h => nomatch h) (Nat.le_of_ble_eq_true rfl) ?_
  refine p_aload_n 0 (dk D_X3_clear 0 rfl) rfl rfl ?_
  refine p_get 0 (v := .ref (b + 1)) (dk D_X3_clear 1 rfl) k0 (by omega) rfl rfl (by decide) w_401 rfl (fvP_ref (by decide) (j0) t0) ?_
  refine p_iconst (v := (0 : Int32)) (dk D_X3_clear 2 rfl) (by decide +kernel) ?_
  refine p_callSN (As := [.ref (b + 1), .int (0 : Int32)]) (st := []) (fr := 0) (lo := 0) (mc := 0) (ms := 0) (My := M_X8_fillRow) (dk D_X3_clear 3 rfl) w_400 w_172 w_101 w_173 okD_X8_fillRow (by decide) (Nat.le_of_ble_eq_true rfl) rfl (cp_fillRow k1 (by omega) (by decide)) (fun h1 J1 n1 hq => ?_)
  obtain ⟨f1, e1, e2⟩ := hq
  subst e1 e2
  refine p_aload_n 0 (dk D_X3_clear 4 rfl) rfl rfl ?_
  refine p_get 3 (v := .ref (b + 4)) (dk D_X3_clear 5 rfl) k0 (by omega) rfl rfl (by decide) w_406 rfl (fvP_ref (by decide) (j3) t3) ?_
  refine p_iconst (v := (-1 : Int32)) (dk D_X3_clear 6 rfl) (by decide +kernel) ?_
  refine p_callSN (As := [.ref (b + 4), .int (-1 : Int32)]) (st := []) (fr := 0) (lo := 0) (mc := 0) (ms := 0) (My := M_X8_fillRow) (dk D_X3_clear 7 rfl) w_400 w_172 w_101 w_173 okD_X8_fillRow (by decide) (Nat.le_of_ble_eq_true rfl) rfl (cp_fillRow k4 (by omega) (by decide)) (fun h2 J2 n2 hq => ?_)
  obtain ⟨f2, e1, e2⟩ := hq
  subst e1 e2
  refine p_aload_n 0 (dk D_X3_clear 8 rfl) rfl rfl ?_
  refine p_iconst (v := (0 : Int32)) (dk D_X3_clear 9 rfl) (by decide +kernel) ?_
  refine p_put 6 (dk D_X3_clear 10 rfl) k0 (by omega) rfl rfl (by decide) w_412 rfl tyX3_ok nmX3 (Or.inl rfl) (by decide) rfl (fun z => absurd z (by decide)) ?_
  refine p_aload_n 0 (dk D_X3_clear 11 rfl) rfl rfl ?_
  refine p_iconst (v := (0 : Int32)) (dk D_X3_clear 12 rfl) (by decide +kernel) ?_
  refine p_put 7 (dk D_X3_clear 13 rfl) k0 (by omega) rfl rfl (by decide) w_414 rfl tyX3_ok nmX3 (Or.inl rfl) (by decide) rfl (fun z => absurd z (by decide)) ?_
  exact p_vret (dk D_X3_clear 14 rfl) rfl ⟨recV_of f1 f2, rfl, rfl⟩
abbrev M_X3_init : Mi := (RX3, cX3_init, 1, none)
def rows_X3_init : List (Nat × Instr × Nat) := [(0, .aload_n 0, 1), (1, .invokespecial 3, 3), (4, .aload_n 0, 1), (5, .iconst 2, 1), (6, .newarray .int, 2), (8, .putfield 9, 3), (11, .aload_n 0, 1), (12, .bipush 60, 2), (14, .newarray .int, 2), (16, .putfield 15, 3), (19, .aload_n 0, 1), (20, .bipush 60, 2), (22, .newarray .int, 2), (24, .putfield 18, 3), (27, .aload_n 0, 1), (28, .bipush 30, 2), (30, .newarray .int, 2), (32, .putfield 21, 3), (35, .aload_n 0, 1), (36, .bipush 10, 2), (38, .newarray .int, 2), (40, .putfield 24, 3), (43, .aload_n 0, 1), (44, .bipush 10, 2), (46, .newarray .int, 2), (48, .putfield 27, 3), (51, .aload_n 0, 1), (52, .invokevirtual 30, 3), (55, .return_, 1)]
theorem D_X3_init : dkA cX3_init rows_X3_init := by
  unfold dkA
  decide +kernel
theorem okD_X3_init : okD yX3_init 0 := by
  unfold okD
  decide +kernel
theorem cp_Rec {X : Cx} {b n : Nat} {h : Hp} {J : Jt} (hB : RecB b) (hi : idx b < n ∧ idx (b + 1) = n ∧ idx (b + 2) = n + 1 ∧ idx (b + 3) = n + 1 + 1 ∧ idx (b + 4) = n + 1 + 1 + 1 ∧ idx (b + 5) = n + 1 + 1 + 1 + 1 ∧ idx (b + 6) = n + 1 + 1 + 1 + 1 + 1) : ConP X yX3_init M_X3_init 2 60 6 172 [.ref b] h J n (fun h' J' n' => ((∀ q, (q < b ∨ b + 6 < q) → h' q = h q) ∧ recV h' b) ∧ J' = jup (jup (jup (jup (jup (jup J b 0) b 1) b 2) b 3) b 4) b 5 ∧ n' = n + 6) := by
  obtain ⟨k0, k1, k2, k3, k4, k5, k6, t0, t1, t2, t3, t4, t5⟩ := hB
  obtain ⟨i0, i1, i2, i3, i4, i5, i6⟩ := hi
  refine conP_of (ini := true) (by decide +kernel) rfl (fun _ => rfl) (Nat.le_of_ble_eq_true rfl) ?_
  refine p_aload_n 0 (dk D_X3_init 0 rfl) rfl rfl ?_
  refine p_objInit (dk D_X3_init 1 rfl) w_395 w_130 w_131 ⟨by decide, by decide⟩ rfl ?_
  refine p_aload_n 0 (dk D_X3_init 2 rfl) rfl rfl ?_
  refine p_iconst (v := (2 : Int32)) (dk D_X3_init 3 rfl) (by decide +kernel) ?_
  refine p_newa (b := b + 1) (len := 2) (dk D_X3_init 4 rfl) k1 i1 rfl (by decide) ?_
  refine p_putR 0 (dk D_X3_init 5 rfl) k0 (by omega) rfl rfl (by decide) w_401 rfl tyX3_ok nmX3 (Or.inr ⟨rfl, rfl, rfl⟩) (by decide) rfl t0 ?_
  refine p_aload_n 0 (dk D_X3_init 6 rfl) rfl rfl ?_
  refine p_bipush (v := (60 : Int32)) (dk D_X3_init 7 rfl) (by decide +kernel) ?_
  refine p_newa (b := b + 2) (len := 60) (dk D_X3_init 8 rfl) k2 i2 rfl (by decide) ?_
  refine p_putR 1 (dk D_X3_init 9 rfl) k0 (by omega) rfl rfl (by decide) w_403 rfl tyX3_ok nmX3 (Or.inr ⟨rfl, rfl, rfl⟩) (by decide) rfl t1 ?_
  refine p_aload_n 0 (dk D_X3_init 10 rfl) rfl rfl ?_
  refine p_bipush (v := (60 : Int32)) (dk D_X3_init 11 rfl) (by decide +kernel) ?_
  refine p_newa (b := b + 3) (len := 60) (dk D_X3_init 12 rfl) k3 i3 rfl (by decide) ?_
  refine p_putR 2 (dk D_X3_init 13 rfl) k0 (by omega) rfl rfl (by decide) w_404 rfl tyX3_ok nmX3 (Or.inr ⟨rfl, rfl, rfl⟩) (by decide) rfl t2 ?_
  refine p_aload_n 0 (dk D_X3_init 14 rfl) rfl rfl ?_
  refine p_bipush (v := (30 : Int32)) (dk D_X3_init 15 rfl) (by decide +kernel) ?_
  refine p_newa (b := b + 4) (len := 30) (dk D_X3_init 16 rfl) k4 i4 rfl (by decide) ?_
  refine p_putR 3 (dk D_X3_init 17 rfl) k0 (by omega) rfl rfl (by decide) w_406 rfl tyX3_ok nmX3 (Or.inr ⟨rfl, rfl, rfl⟩) (by decide) rfl t3 ?_
  refine p_aload_n 0 (dk D_X3_init 18 rfl) rfl rfl ?_
  refine p_bipush (v := (10 : Int32)) (dk D_X3_init 19 rfl) (by decide +kernel) ?_
  refine p_newa (b := b + 5) (len := 10) (dk D_X3_init 20 rfl) k5 i5 rfl (by decide) ?_
  refine p_putR 4 (dk D_X3_init 21 rfl) k0 (by omega) rfl rfl (by decide) w_408 rfl tyX3_ok nmX3 (Or.inr ⟨rfl, rfl, rfl⟩) (by decide) rfl t4 ?_
  refine p_aload_n 0 (dk D_X3_init 22 rfl) rfl rfl ?_
  refine p_bipush (v := (10 : Int32)) (dk D_X3_init 23 rfl) (by decide +kernel) ?_
  refine p_newa (b := b + 6) (len := 10) (dk D_X3_init 24 rfl) k6 i6 rfl (by decide) ?_
  refine p_putR 5 (dk D_X3_init 25 rfl) k0 (by omega) rfl rfl (by decide) w_410 rfl tyX3_ok nmX3 (Or.inr ⟨rfl, rfl, rfl⟩) (by decide) rfl t5 ?_
  refine p_aload_n 0 (dk D_X3_init 26 rfl) rfl rfl ?_
  refine p_callV (As := []) (st := []) (b := b) (fr := 1) (lo := 30) (mc := 0) (ms := 0) (My := M_X3_clear) (dk D_X3_init 27 rfl) k0 (by omega) rfl rfl w_396 w_398 w_1 w_109 w_399 okD_X3_clear (by decide) (Nat.le_of_ble_eq_true rfl) rfl (cp_clear ⟨k0, k1, k2, k3, k4, k5, k6, t0, t1, t2, t3, t4, t5⟩ (by simp [jup]) ⟨by omega, by omega, by omega⟩) (fun h1 J1 n1 hq => ?_)
  obtain ⟨f1, e1, e2⟩ := hq
  subst e1 e2
  exact p_vret (dk D_X3_init 28 rfl) rfl ⟨f1, rfl, rfl⟩
abbrev M_X5_init : Mi := (RX5, cX5_init, 3, none)
def rows_X5_init : List (Nat × Instr × Nat) := [(0, .aload_n 0, 1), (1, .invokespecial 3, 3), (4, .aload_n 0, 1), (5, .aload_n 1, 1), (6, .putfield 9, 3), (9, .aload_n 0, 1), (10, .aload_n 2, 1), (11, .putfield 15, 3), (14, .return_, 1)]
theorem D_X5_init : dkA cX5_init rows_X5_init := by
  unfold dkA
  decide +kernel
theorem okD_X5_init : okD yX5_init 2 := by
  unfold okD
  decide +kernel
theorem cp_RoadReader {X : Cx} {h : Hp} {J : Jt} : ConP X yX5_init M_X5_init 1 20 0 0 [.ref 42, .ref 1, .ref 8] h J 27 (fun h' J' n' => h' = h ∧ J' = (jup (jup J 42 0) 42 1) ∧ n' = 27) := by
  refine conP_of (ini := true) (by decide +kernel) rfl (fun _ => rfl) (Nat.le_of_ble_eq_true rfl) ?_
  refine p_aload_n 0 (dk D_X5_init 0 rfl) rfl rfl ?_
  refine p_objInit (dk D_X5_init 1 rfl) w_271 w_130 w_131 ⟨by decide, by decide⟩ rfl ?_
  refine p_aload_n 0 (dk D_X5_init 2 rfl) rfl rfl ?_
  refine p_aload_n 1 (dk D_X5_init 3 rfl) rfl rfl ?_
  refine p_putR 0 (dk D_X5_init 4 rfl) (show kd 42 = (0, 5, 0, 0, 0) by decide +kernel) (by decide +kernel) rfl rfl (by decide) w_272 rfl tyX5_ok nmX5 (Or.inr ⟨rfl, rfl, rfl⟩) (by decide) rfl (by decide +kernel) ?_
  refine p_aload_n 0 (dk D_X5_init 5 rfl) rfl rfl ?_
  refine p_aload_n 2 (dk D_X5_init 6 rfl) rfl rfl ?_
  refine p_putR 1 (dk D_X5_init 7 rfl) (show kd 42 = (0, 5, 0, 0, 0) by decide +kernel) (by decide +kernel) rfl rfl (by decide) w_273 rfl tyX5_ok nmX5 (Or.inr ⟨rfl, rfl, rfl⟩) (by decide) rfl (by decide +kernel) ?_
  exact p_vret (dk D_X5_init 8 rfl) rfl ⟨rfl, rfl, rfl⟩
abbrev M_X1_init : Mi := (RX1, cX1_init, 3, none)
def rows_X1_init : List (Nat × Instr × Nat) := [(0, .aload_n 0, 1), (1, .invokespecial 3, 3), (4, .aload_n 0, 1), (5, .aload_n 1, 1), (6, .putfield 9, 3), (9, .aload_n 0, 1), (10, .aload_n 2, 1), (11, .putfield 15, 3), (14, .return_, 1)]
theorem D_X1_init : dkA cX1_init rows_X1_init := by
  unfold dkA
  decide +kernel
theorem okD_X1_init : okD yX1_init 2 := by
  unfold okD
  decide +kernel
theorem cp_LawReader {X : Cx} {h : Hp} {J : Jt} : ConP X yX1_init M_X1_init 1 20 0 0 [.ref 43, .ref 1, .ref 30] h J 28 (fun h' J' n' => h' = h ∧ J' = (jup (jup J 43 0) 43 1) ∧ n' = 28) := by
  refine conP_of (ini := true) (by decide +kernel) rfl (fun _ => rfl) (Nat.le_of_ble_eq_true rfl) ?_
  refine p_aload_n 0 (dk D_X1_init 0 rfl) rfl rfl ?_
  refine p_objInit (dk D_X1_init 1 rfl) w_284 w_130 w_131 ⟨by decide, by decide⟩ rfl ?_
  refine p_aload_n 0 (dk D_X1_init 2 rfl) rfl rfl ?_
  refine p_aload_n 1 (dk D_X1_init 3 rfl) rfl rfl ?_
  refine p_putR 0 (dk D_X1_init 4 rfl) (show kd 43 = (0, 1, 0, 0, 0) by decide +kernel) (by decide +kernel) rfl rfl (by decide) w_285 rfl tyX1_ok nmX1 (Or.inr ⟨rfl, rfl, rfl⟩) (by decide) rfl (by decide +kernel) ?_
  refine p_aload_n 0 (dk D_X1_init 5 rfl) rfl rfl ?_
  refine p_aload_n 2 (dk D_X1_init 6 rfl) rfl rfl ?_
  refine p_putR 1 (dk D_X1_init 7 rfl) (show kd 43 = (0, 1, 0, 0, 0) by decide +kernel) (by decide +kernel) rfl rfl (by decide) w_286 rfl tyX1_ok nmX1 (Or.inr ⟨rfl, rfl, rfl⟩) (by decide) rfl (by decide +kernel) ?_
  exact p_vret (dk D_X1_init 8 rfl) rfl ⟨rfl, rfl, rfl⟩
abbrev M_X2_init : Mi := (RX2, cX2_init, 2, none)
def rows_X2_init : List (Nat × Instr × Nat) := [(0, .aload_n 0, 1), (1, .invokespecial 3, 3), (4, .aload_n 0, 1), (5, .bipush 60, 2), (7, .newarray .int, 2), (9, .putfield 9, 3), (12, .aload_n 0, 1), (13, .sipush 480, 3), (16, .newarray .int, 2), (18, .putfield 15, 3), (21, .aload_n 0, 1), (22, .sipush 480, 3), (25, .newarray .int, 2), (27, .putfield 18, 3), (30, .aload_n 0, 1), (31, .sipush 480, 3), (34, .newarray .int, 2), (36, .putfield 21, 3), (39, .aload_n 0, 1), (40, .ldc 24, 2), (42, .newarray .int, 2), (44, .putfield 25, 3), (47, .aload_n 0, 1), (48, .bipush 60, 2), (50, .newarray .int, 2), (52, .putfield 28, 3), (55, .aload_n 0, 1), (56, .bipush 60, 2), (58, .newarray .int, 2), (60, .putfield 31, 3), (63, .aload_n 0, 1), (64, .iconst 2, 1), (65, .newarray .int, 2), (67, .putfield 34, 3), (70, .aload_n 0, 1), (71, .bipush 8, 2), (73, .newarray .int, 2), (75, .putfield 37, 3), (78, .aload_n 0, 1), (79, .bipush 8, 2), (81, .newarray .int, 2), (83, .putfield 40, 3), (86, .aload_n 0, 1), (87, .bipush 8, 2), (89, .newarray .int, 2), (91, .putfield 43, 3), (94, .aload_n 0, 1), (95, .bipush 9, 2), (97, .newarray .int, 2), (99, .putfield 46, 3), (102, .aload_n 0, 1), (103, .bipush 9, 2), (105, .newarray .int, 2), (107, .putfield 49, 3), (110, .aload_n 0, 1), (111, .aload_n 1, 1), (112, .putfield 52, 3), (115, .return_, 1)]
theorem D_X2_init : dkA cX2_init rows_X2_init := by
  unfold dkA
  decide +kernel
theorem okD_X2_init : okD yX2_init 1 := by
  unfold okD
  decide +kernel
theorem cp_Planner {X : Cx} {h : Hp} {J : Jt} : ConP X yX2_init M_X2_init 1 20 13 142208 [.ref 44, .ref 3] h J 29 (fun h' J' n' => h' = h ∧ J' = (jup (jup (jup (jup (jup (jup (jup (jup (jup (jup (jup (jup (jup (jup J 44 1) 44 2) 44 3) 44 4) 44 5) 44 6) 44 7) 44 8) 44 9) 44 10) 44 11) 44 12) 44 13) 44 0) ∧ n' = 42) := by
  refine conP_of (ini := true) (by decide +kernel) rfl (fun _ => rfl) (Nat.le_of_ble_eq_true rfl) ?_
  refine p_aload_n 0 (dk D_X2_init 0 rfl) rfl rfl ?_
  refine p_objInit (dk D_X2_init 1 rfl) w_297 w_130 w_131 ⟨by decide, by decide⟩ rfl ?_
  refine p_aload_n 0 (dk D_X2_init 2 rfl) rfl rfl ?_
  refine p_bipush (v := (60 : Int32)) (dk D_X2_init 3 rfl) (by decide +kernel) ?_
  refine p_newa (b := 45) (len := 60) (dk D_X2_init 4 rfl) (show kd 45 = (1, 60, 0, 0, 0) by decide +kernel) (by decide +kernel) rfl (by decide) ?_
  refine p_putR 1 (dk D_X2_init 5 rfl) (show kd 44 = (0, 2, 0, 0, 0) by decide +kernel) (by decide +kernel) rfl rfl (by decide) w_300 rfl tyX2_ok nmX2 (Or.inr ⟨rfl, rfl, rfl⟩) (by decide) rfl (by decide +kernel) ?_
  refine p_aload_n 0 (dk D_X2_init 6 rfl) rfl rfl ?_
  refine p_sipush (v := (480 : Int32)) (dk D_X2_init 7 rfl) (by decide +kernel) ?_
  refine p_newa (b := 46) (len := 480) (dk D_X2_init 8 rfl) (show kd 46 = (1, 480, 0, 0, 0) by decide +kernel) (by decide +kernel) rfl (by decide) ?_
  refine p_putR 2 (dk D_X2_init 9 rfl) (show kd 44 = (0, 2, 0, 0, 0) by decide +kernel) (by decide +kernel) rfl rfl (by decide) w_301 rfl tyX2_ok nmX2 (Or.inr ⟨rfl, rfl, rfl⟩) (by decide) rfl (by decide +kernel) ?_
  refine p_aload_n 0 (dk D_X2_init 10 rfl) rfl rfl ?_
  refine p_sipush (v := (480 : Int32)) (dk D_X2_init 11 rfl) (by decide +kernel) ?_
  refine p_newa (b := 47) (len := 480) (dk D_X2_init 12 rfl) (show kd 47 = (1, 480, 0, 0, 0) by decide +kernel) (by decide +kernel) rfl (by decide) ?_
  refine p_putR 3 (dk D_X2_init 13 rfl) (show kd 44 = (0, 2, 0, 0, 0) by decide +kernel) (by decide +kernel) rfl rfl (by decide) w_302 rfl tyX2_ok nmX2 (Or.inr ⟨rfl, rfl, rfl⟩) (by decide) rfl (by decide +kernel) ?_
  refine p_aload_n 0 (dk D_X2_init 14 rfl) rfl rfl ?_
  refine p_sipush (v := (480 : Int32)) (dk D_X2_init 15 rfl) (by decide +kernel) ?_
  refine p_newa (b := 48) (len := 480) (dk D_X2_init 16 rfl) (show kd 48 = (1, 480, 0, 0, 0) by decide +kernel) (by decide +kernel) rfl (by decide) ?_
  refine p_putR 4 (dk D_X2_init 17 rfl) (show kd 44 = (0, 2, 0, 0, 0) by decide +kernel) (by decide +kernel) rfl rfl (by decide) w_304 rfl tyX2_ok nmX2 (Or.inr ⟨rfl, rfl, rfl⟩) (by decide) rfl (by decide +kernel) ?_
  refine p_aload_n 0 (dk D_X2_init 18 rfl) rfl rfl ?_
  refine p_ldc (v := (140544 : Int32)) (dk D_X2_init 19 rfl) w_298 ?_
  refine p_newa (b := 49) (len := 140544) (dk D_X2_init 20 rfl) (show kd 49 = (1, 140544, 0, 0, 0) by decide +kernel) (by decide +kernel) rfl (by decide) ?_
  refine p_putR 5 (dk D_X2_init 21 rfl) (show kd 44 = (0, 2, 0, 0, 0) by decide +kernel) (by decide +kernel) rfl rfl (by decide) w_305 rfl tyX2_ok nmX2 (Or.inr ⟨rfl, rfl, rfl⟩) (by decide) rfl (by decide +kernel) ?_
  refine p_aload_n 0 (dk D_X2_init 22 rfl) rfl rfl ?_
  refine p_bipush (v := (60 : Int32)) (dk D_X2_init 23 rfl) (by decide +kernel) ?_
  refine p_newa (b := 50) (len := 60) (dk D_X2_init 24 rfl) (show kd 50 = (1, 60, 0, 0, 0) by decide +kernel) (by decide +kernel) rfl (by decide) ?_
  refine p_putR 6 (dk D_X2_init 25 rfl) (show kd 44 = (0, 2, 0, 0, 0) by decide +kernel) (by decide +kernel) rfl rfl (by decide) w_306 rfl tyX2_ok nmX2 (Or.inr ⟨rfl, rfl, rfl⟩) (by decide) rfl (by decide +kernel) ?_
  refine p_aload_n 0 (dk D_X2_init 26 rfl) rfl rfl ?_
  refine p_bipush (v := (60 : Int32)) (dk D_X2_init 27 rfl) (by decide +kernel) ?_
  refine p_newa (b := 51) (len := 60) (dk D_X2_init 28 rfl) (show kd 51 = (1, 60, 0, 0, 0) by decide +kernel) (by decide +kernel) rfl (by decide) ?_
  refine p_putR 7 (dk D_X2_init 29 rfl) (show kd 44 = (0, 2, 0, 0, 0) by decide +kernel) (by decide +kernel) rfl rfl (by decide) w_307 rfl tyX2_ok nmX2 (Or.inr ⟨rfl, rfl, rfl⟩) (by decide) rfl (by decide +kernel) ?_
  refine p_aload_n 0 (dk D_X2_init 30 rfl) rfl rfl ?_
  refine p_iconst (v := (2 : Int32)) (dk D_X2_init 31 rfl) (by decide +kernel) ?_
  refine p_newa (b := 52) (len := 2) (dk D_X2_init 32 rfl) (show kd 52 = (1, 2, 0, 0, 0) by decide +kernel) (by decide +kernel) rfl (by decide) ?_
  refine p_putR 8 (dk D_X2_init 33 rfl) (show kd 44 = (0, 2, 0, 0, 0) by decide +kernel) (by decide +kernel) rfl rfl (by decide) w_309 rfl tyX2_ok nmX2 (Or.inr ⟨rfl, rfl, rfl⟩) (by decide) rfl (by decide +kernel) ?_
  refine p_aload_n 0 (dk D_X2_init 34 rfl) rfl rfl ?_
  refine p_bipush (v := (8 : Int32)) (dk D_X2_init 35 rfl) (by decide +kernel) ?_
  refine p_newa (b := 53) (len := 8) (dk D_X2_init 36 rfl) (show kd 53 = (1, 8, 0, 0, 0) by decide +kernel) (by decide +kernel) rfl (by decide) ?_
  refine p_putR 9 (dk D_X2_init 37 rfl) (show kd 44 = (0, 2, 0, 0, 0) by decide +kernel) (by decide +kernel) rfl rfl (by decide) w_310 rfl tyX2_ok nmX2 (Or.inr ⟨rfl, rfl, rfl⟩) (by decide) rfl (by decide +kernel) ?_
  refine p_aload_n 0 (dk D_X2_init 38 rfl) rfl rfl ?_
  refine p_bipush (v := (8 : Int32)) (dk D_X2_init 39 rfl) (by decide +kernel) ?_
  refine p_newa (b := 54) (len := 8) (dk D_X2_init 40 rfl) (show kd 54 = (1, 8, 0, 0, 0) by decide +kernel) (by decide +kernel) rfl (by decide) ?_
  refine p_putR 10 (dk D_X2_init 41 rfl) (show kd 44 = (0, 2, 0, 0, 0) by decide +kernel) (by decide +kernel) rfl rfl (by decide) w_311 rfl tyX2_ok nmX2 (Or.inr ⟨rfl, rfl, rfl⟩) (by decide) rfl (by decide +kernel) ?_
  refine p_aload_n 0 (dk D_X2_init 42 rfl) rfl rfl ?_
  refine p_bipush (v := (8 : Int32)) (dk D_X2_init 43 rfl) (by decide +kernel) ?_
  refine p_newa (b := 55) (len := 8) (dk D_X2_init 44 rfl) (show kd 55 = (1, 8, 0, 0, 0) by decide +kernel) (by decide +kernel) rfl (by decide) ?_
  refine p_putR 11 (dk D_X2_init 45 rfl) (show kd 44 = (0, 2, 0, 0, 0) by decide +kernel) (by decide +kernel) rfl rfl (by decide) w_312 rfl tyX2_ok nmX2 (Or.inr ⟨rfl, rfl, rfl⟩) (by decide) rfl (by decide +kernel) ?_
  refine p_aload_n 0 (dk D_X2_init 46 rfl) rfl rfl ?_
  refine p_bipush (v := (9 : Int32)) (dk D_X2_init 47 rfl) (by decide +kernel) ?_
  refine p_newa (b := 56) (len := 9) (dk D_X2_init 48 rfl) (show kd 56 = (1, 9, 0, 0, 0) by decide +kernel) (by decide +kernel) rfl (by decide) ?_
  refine p_putR 12 (dk D_X2_init 49 rfl) (show kd 44 = (0, 2, 0, 0, 0) by decide +kernel) (by decide +kernel) rfl rfl (by decide) w_313 rfl tyX2_ok nmX2 (Or.inr ⟨rfl, rfl, rfl⟩) (by decide) rfl (by decide +kernel) ?_
  refine p_aload_n 0 (dk D_X2_init 50 rfl) rfl rfl ?_
  refine p_bipush (v := (9 : Int32)) (dk D_X2_init 51 rfl) (by decide +kernel) ?_
  refine p_newa (b := 57) (len := 9) (dk D_X2_init 52 rfl) (show kd 57 = (1, 9, 0, 0, 0) by decide +kernel) (by decide +kernel) rfl (by decide) ?_
  refine p_putR 13 (dk D_X2_init 53 rfl) (show kd 44 = (0, 2, 0, 0, 0) by decide +kernel) (by decide +kernel) rfl rfl (by decide) w_314 rfl tyX2_ok nmX2 (Or.inr ⟨rfl, rfl, rfl⟩) (by decide) rfl (by decide +kernel) ?_
  refine p_aload_n 0 (dk D_X2_init 54 rfl) rfl rfl ?_
  refine p_aload_n 1 (dk D_X2_init 55 rfl) rfl rfl ?_
  refine p_putR 0 (dk D_X2_init 56 rfl) (show kd 44 = (0, 2, 0, 0, 0) by decide +kernel) (by decide +kernel) rfl rfl (by decide) w_299 rfl tyX2_ok nmX2 (Or.inr ⟨rfl, rfl, rfl⟩) (by decide) rfl (by decide +kernel) ?_
  exact p_vret (dk D_X2_init 57 rfl) rfl ⟨rfl, rfl, rfl⟩
abbrev M_X6_init : Mi := (RX6, cX6_init, 3, none)
def rows_X6_init : List (Nat × Instr × Nat) := [(0, .aload_n 0, 1), (1, .invokespecial 3, 3), (4, .aload_n 0, 1), (5, .sipush 240, 3), (8, .newarray .int, 2), (10, .putfield 9, 3), (13, .aload_n 0, 1), (14, .sipush 240, 3), (17, .newarray .int, 2), (19, .putfield 15, 3), (22, .aload_n 0, 1), (23, .sipush 240, 3), (26, .newarray .int, 2), (28, .putfield 18, 3), (31, .aload_n 0, 1), (32, .aload_n 1, 1), (33, .putfield 21, 3), (36, .aload_n 0, 1), (37, .aload_n 2, 1), (38, .putfield 25, 3), (41, .return_, 1)]
theorem D_X6_init : dkA cX6_init rows_X6_init := by
  unfold dkA
  decide +kernel
theorem okD_X6_init : okD yX6_init 2 := by
  unfold okD
  decide +kernel
theorem cp_Season {X : Cx} {h : Hp} {J : Jt} : ConP X yX6_init M_X6_init 1 20 3 720 [.ref 58, .ref 3, .ref 44] h J 43 (fun h' J' n' => h' = h ∧ J' = (jup (jup (jup (jup (jup J 58 2) 58 3) 58 4) 58 0) 58 1) ∧ n' = 46) := by
  refine conP_of (ini := true) (by decide +kernel) rfl (fun _ => rfl) (Nat.le_of_ble_eq_true rfl) ?_
  refine p_aload_n 0 (dk D_X6_init 0 rfl) rfl rfl ?_
  refine p_objInit (dk D_X6_init 1 rfl) w_370 w_130 w_131 ⟨by decide, by decide⟩ rfl ?_
  refine p_aload_n 0 (dk D_X6_init 2 rfl) rfl rfl ?_
  refine p_sipush (v := (240 : Int32)) (dk D_X6_init 3 rfl) (by decide +kernel) ?_
  refine p_newa (b := 59) (len := 240) (dk D_X6_init 4 rfl) (show kd 59 = (1, 240, 0, 0, 0) by decide +kernel) (by decide +kernel) rfl (by decide) ?_
  refine p_putR 2 (dk D_X6_init 5 rfl) (show kd 58 = (0, 6, 0, 0, 0) by decide +kernel) (by decide +kernel) rfl rfl (by decide) w_373 rfl tyX6_ok nmX6 (Or.inr ⟨rfl, rfl, rfl⟩) (by decide) rfl (by decide +kernel) ?_
  refine p_aload_n 0 (dk D_X6_init 6 rfl) rfl rfl ?_
  refine p_sipush (v := (240 : Int32)) (dk D_X6_init 7 rfl) (by decide +kernel) ?_
  refine p_newa (b := 60) (len := 240) (dk D_X6_init 8 rfl) (show kd 60 = (1, 240, 0, 0, 0) by decide +kernel) (by decide +kernel) rfl (by decide) ?_
  refine p_putR 3 (dk D_X6_init 9 rfl) (show kd 58 = (0, 6, 0, 0, 0) by decide +kernel) (by decide +kernel) rfl rfl (by decide) w_374 rfl tyX6_ok nmX6 (Or.inr ⟨rfl, rfl, rfl⟩) (by decide) rfl (by decide +kernel) ?_
  refine p_aload_n 0 (dk D_X6_init 10 rfl) rfl rfl ?_
  refine p_sipush (v := (240 : Int32)) (dk D_X6_init 11 rfl) (by decide +kernel) ?_
  refine p_newa (b := 61) (len := 240) (dk D_X6_init 12 rfl) (show kd 61 = (1, 240, 0, 0, 0) by decide +kernel) (by decide +kernel) rfl (by decide) ?_
  refine p_putR 4 (dk D_X6_init 13 rfl) (show kd 58 = (0, 6, 0, 0, 0) by decide +kernel) (by decide +kernel) rfl rfl (by decide) w_375 rfl tyX6_ok nmX6 (Or.inr ⟨rfl, rfl, rfl⟩) (by decide) rfl (by decide +kernel) ?_
  refine p_aload_n 0 (dk D_X6_init 14 rfl) rfl rfl ?_
  refine p_aload_n 1 (dk D_X6_init 15 rfl) rfl rfl ?_
  refine p_putR 0 (dk D_X6_init 16 rfl) (show kd 58 = (0, 6, 0, 0, 0) by decide +kernel) (by decide +kernel) rfl rfl (by decide) w_371 rfl tyX6_ok nmX6 (Or.inr ⟨rfl, rfl, rfl⟩) (by decide) rfl (by decide +kernel) ?_
  refine p_aload_n 0 (dk D_X6_init 17 rfl) rfl rfl ?_
  refine p_aload_n 2 (dk D_X6_init 18 rfl) rfl rfl ?_
  refine p_putR 1 (dk D_X6_init 19 rfl) (show kd 58 = (0, 6, 0, 0, 0) by decide +kernel) (by decide +kernel) rfl rfl (by decide) w_372 rfl tyX6_ok nmX6 (Or.inr ⟨rfl, rfl, rfl⟩) (by decide) rfl (by decide +kernel) ?_
  exact p_vret (dk D_X6_init 20 rfl) rfl ⟨rfl, rfl, rfl⟩
