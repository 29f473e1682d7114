/-! the judgement G: the rows of the kit over my machine's states -/
abbrev Mi := String × ByteArray × Nat × Option FieldType
abbrev Rm := Nat × Nat × Nat × Nat
def Cs (X : Cx) (M : Mi) (E : Rm) (p : Program) (l : Launch) (R : Room) (s : State) (m : MethodId) (args : Array Value) (meth : Method) (c : Code) : Prop :=
  p.tables.exec = Jvm.exec ∧ c.code = M.2.1 ∧ c.maxLocals = M.2.2.1 ∧ meth.sig.returnType = M.2.2.2 ∧ s.vm.findClass M.1 = some m.cls ∧ (∀ w ∈ TT, w.before args s = true) ∧ meth.locks = false ∧ (∀ x ∈ c.exceptionTable.toList, False) ∧ l.stackTraces = false ∧ Ex X s ∧ E.1 ≤ R.frames ∧ E.2.1 ≤ R.locals ∧ E.2.2.1 ≤ R.cells ∧ E.2.2.2 ≤ R.slots
def lmap (X : Cx) (L : List (Nat × Value)) : List (Nat × Value) := L.map (fun q => (q.1, rv X q.2))
def Cy (X : Cx) (M : Mi) (E : Rm) (kc : Nat) (L : List (Nat × Value)) (h : Hp) (s : State) (H : Heap) (locs : List Loc) (cells slots : Nat) (ls : Array Slot) : Prop :=
  Wd X h H s ∧ va_S (AA X) s.heap H locs ∧ lv_has ls M.2.2.1 (lmap X L) ∧ cells + kc ≤ E.2.2.1 ∧ slots + 6 * kc ≤ E.2.2.2
abbrev Qf := List Frame → Array Value → State → State → Prop
def G (X : Cx) (M : Mi) (E : Rm) (Q : Qf) (kc pc : Nat) (L : List (Nat × Value)) (st : List Value) (h : Hp) : Prop :=
  ∀ (p : Program) (l : Launch) (e : Env) (R : Room) (s : State) (m : MethodId) (args : Array Value) (below : List Frame) (meth : Method) (c : Code) (H : Heap) (locs : List Loc) (cells slots : Nat) (ls : Array Slot),
    Cs X M E p l R s m args meth c → Cy X M E kc L h s H locs cells slots ls → W p l e R s m args below meth c H locs cells slots (Q below args s) (F0 m pc ls (st.map (rv X)))
theorem rv_cat (X : Cx) (v : Value) : (rv X v).category = v.category := by cases v <;> rfl
theorem lmap_at {X : Cx} {L : List (Nat × Value)} {k i : Nat} {v : Value} (h : L[k]? = some (i, v)) : (lmap X L)[k]? = some (i, rv X v) := by
  unfold lmap
  rw [List.getElem?_map, h]
  rfl
def sto1 (L : List (Nat × Value)) (i : Nat) (v : Value) : List (Nat × Value) := (i, v) :: L.filter (fun q => !(q.1 == i) && !(q.1 + 1 == i && q.2.category == 2))
def sto2 (L : List (Nat × Value)) (i : Nat) (v : Value) : List (Nat × Value) := (i, v) :: L.filter (fun q => !(q.1 == i) && (!(q.1 == i + 1) && !(q.1 + 1 == i && q.2.category == 2)))
theorem lmap_sto1 (X : Cx) (L : List (Nat × Value)) (i : Nat) (v : Value) : (i, rv X v) :: (lmap X L).filter (fun q => !(q.1 == i) && !(q.1 + 1 == i && q.2.category == 2)) = lmap X (sto1 L i v) := by
  unfold lmap sto1
  rw [List.map_cons, List.filter_map]
  congr 2
  apply List.filter_congr
  intro q _
  simp only [Function.comp, rv_cat]
theorem lmap_sto2 (X : Cx) (L : List (Nat × Value)) (i : Nat) (v : Value) : (i, rv X v) :: (lmap X L).filter (fun q => !(q.1 == i) && (!(q.1 == i + 1) && !(q.1 + 1 == i && q.2.category == 2))) = lmap X (sto2 L i v) := by
  unfold lmap sto2
  rw [List.map_cons, List.filter_map]
  congr 2
  apply List.filter_congr
  intro q _
  simp only [Function.comp, rv_cat]
theorem lmap_pick (X : Cx) (L : List (Nat × Value)) (ks : List Nat) : lv_pick (lmap X L) ks = lmap X (lv_pick L ks) := by
  unfold lv_pick lmap
  rw [List.map_filterMap]
  congr 1
  funext k
  rw [List.getElem?_map]
def wif (c A B : Prop) : Prop := (c → A) ∧ (¬ c → B)
section GR
variable {X : Cx} {M : Mi} {E : Rm} {Q : Qf} {kc pc : Nat} {L : List (Nat × Value)} {st : List Value} {h : Hp}
/-- fewer locals, or in another order -/
theorem g_sub (ks : List Nat) {L' : List (Nat × Value)} (hl : lv_pick L ks = L') (k : G X M E Q kc pc L' st h) : G X M E Q kc pc L st h := by
  intro p l e R s m args below meth c H locs cells slots ls S Y
  refine k p l e R s m args below meth c H locs cells slots ls S ⟨Y.1, Y.2.1, ?_, Y.2.2.2⟩
  exact lv_sub Y.2.2.1 ks (by rw [lmap_pick, hl])
theorem g_less {kc' : Nat} (hk : kc' ≤ kc) (k : G X M E Q kc' pc L st h) : G X M E Q kc pc L st h := by
  intro p l e R s m args below meth c H locs cells slots ls S Y
  exact k p l e R s m args below meth c H locs cells slots ls S ⟨Y.1, Y.2.1, Y.2.2.1, by have := Y.2.2.2.1; omega, by have := Y.2.2.2.2; omega⟩
theorem g_iconst {n : Int} {v : Int32} (hd : decode M.2.1 pc = .ok (.iconst n, 1)) (hv : Int32.ofInt n = v) (k : G X M E Q kc (pc + 1) L (.int v :: st) h) : G X M E Q kc pc L st h := by
  intro p l e R s m args below meth c H locs cells slots ls S Y
  exact lv_iconst S.1 S.2.1 hd hv (k p l e R s m args below meth c H locs cells slots ls S Y)
theorem g_bipush {n : Int} {v : Int32} (hd : decode M.2.1 pc = .ok (.bipush n, 2)) (hv : (Int8.ofInt n).toInt32 = v) (k : G X M E Q kc (pc + 2) L (.int v :: st) h) : G X M E Q kc pc L st h := by
  intro p l e R s m args below meth c H locs cells slots ls S Y
  exact lv_bipush S.1 S.2.1 hd hv (k p l e R s m args below meth c H locs cells slots ls S Y)
theorem g_sipush {n : Int} {v : Int32} (hd : decode M.2.1 pc = .ok (.sipush n, 3)) (hv : (Int16.ofInt n).toInt32 = v) (k : G X M E Q kc (pc + 3) L (.int v :: st) h) : G X M E Q kc pc L st h := by
  intro p l e R s m args below meth c H locs cells slots ls S Y
  exact lv_sipush S.1 S.2.1 hd hv (k p l e R s m args below meth c H locs cells slots ls S Y)
theorem g_lconst {n : Fin 2} {v : Int64} (hd : decode M.2.1 pc = .ok (.lconst n, 1)) (hv : Int64.ofNat (n : Nat) = v) (k : G X M E Q kc (pc + 1) L (.long v :: st) h) : G X M E Q kc pc L st h := by
  intro p l e R s m args below meth c H locs cells slots ls S Y
  exact lv_lconst S.1 S.2.1 hd hv (k p l e R s m args below meth c H locs cells slots ls S Y)
theorem g_null  (hd : decode M.2.1 pc = .ok (.aconst_null, 1)) (k : G X M E Q kc (pc + 1) L (.null :: st) h) : G X M E Q kc pc L st h := by
  intro p l e R s m args below meth c H locs cells slots ls S Y
  exact lv_null S.1 S.2.1 hd (k p l e R s m args below meth c H locs cells slots ls S Y)
theorem g_ldc {v : Int32} {ix : Nat} (hd : decode M.2.1 pc = .ok (.ldc ix, 2)) (hc : Cond.constant M.1 ix v ∈ TT) (k : G X M E Q kc (pc + 2) L (.int v :: st) h) : G X M E Q kc pc L st h := by
  intro p l e R s m args below meth c H locs cells slots ls S Y
  exact lv_ldc S.1 S.2.1 S.2.2.2.2.1 (S.2.2.2.2.2.1 _ hc) hd (k p l e R s m args below meth c H locs cells slots ls S Y)
theorem g_ldcw {v : Int32} {ix : Nat} (hd : decode M.2.1 pc = .ok (.ldc_w ix, 3)) (hc : Cond.constant M.1 ix v ∈ TT) (k : G X M E Q kc (pc + 3) L (.int v :: st) h) : G X M E Q kc pc L st h := by
  intro p l e R s m args below meth c H locs cells slots ls S Y
  exact lv_ldcw S.1 S.2.1 S.2.2.2.2.1 (S.2.2.2.2.2.1 _ hc) hd (k p l e R s m args below meth c H locs cells slots ls S Y)
theorem g_ldc2 {v : Int64} {ix : Nat} (hd : decode M.2.1 pc = .ok (.ldc2_w ix, 3)) (hc : Cond.constantLong M.1 ix v ∈ TT) (k : G X M E Q kc (pc + 3) L (.long v :: st) h) : G X M E Q kc pc L st h := by
  intro p l e R s m args below meth c H locs cells slots ls S Y
  exact lv_ldc2 S.1 S.2.1 S.2.2.2.2.1 (S.2.2.2.2.2.1 _ hc) hd (k p l e R s m args below meth c H locs cells slots ls S Y)
theorem g_ldcS (i : Nat) {tx : String} {ix : Nat} (hd : decode M.2.1 pc = .ok (.ldc ix, 2)) (hi : strL[i]? = some (M.1, ix, tx)) (k : G X M E Q kc (pc + 2) L (.ref (SB + 2 * i) :: st) h) : G X M E Q kc pc L st h := by
  intro p l e R s m args below meth c H locs cells slots ls S Y
  exact va_ldcS S.1 S.2.1 S.2.2.2.2.1 (S.2.2.2.2.2.2.2.2.2.1.2.2.1 i _ hi) hd (k p l e R s m args below meth c H locs cells slots ls S Y)
theorem g_iload (k9 : Nat) {i : Nat} {x : Int32} (hd : decode M.2.1 pc = .ok (.iload i, 2)) (hl : L[k9]? = some (i, .int x)) (k : G X M E Q kc (pc + 2) L (.int x :: st) h) : G X M E Q kc pc L st h := by
  intro p l e R s m args below meth c H locs cells slots ls S Y
  exact lv_iload S.1 S.2.1 hd (lv_at Y.2.2.1 k9 (lmap_at hl)) (k p l e R s m args below meth c H locs cells slots ls S Y)
theorem g_iload_n (k9 : Nat) {n : Fin 4} {i : Nat} {x : Int32} (hd : decode M.2.1 pc = .ok (.iload_n n, 1)) (hi : (n : Nat) = i) (hl : L[k9]? = some (i, .int x)) (k : G X M E Q kc (pc + 1) L (.int x :: st) h) : G X M E Q kc pc L st h := by
  intro p l e R s m args below meth c H locs cells slots ls S Y
  exact lv_iload_n S.1 S.2.1 hd hi (lv_at Y.2.2.1 k9 (lmap_at hl)) (k p l e R s m args below meth c H locs cells slots ls S Y)
theorem g_aload (k9 : Nat) {i : Nat} {x : Nat} (hd : decode M.2.1 pc = .ok (.aload i, 2)) (hl : L[k9]? = some (i, .ref x)) (k : G X M E Q kc (pc + 2) L (.ref x :: st) h) : G X M E Q kc pc L st h := by
  intro p l e R s m args below meth c H locs cells slots ls S Y
  exact lv_aload S.1 S.2.1 hd (lv_at Y.2.2.1 k9 (lmap_at hl)) (k p l e R s m args below meth c H locs cells slots ls S Y)
theorem g_aload_n (k9 : Nat) {n : Fin 4} {i : Nat} {x : Nat} (hd : decode M.2.1 pc = .ok (.aload_n n, 1)) (hi : (n : Nat) = i) (hl : L[k9]? = some (i, .ref x)) (k : G X M E Q kc (pc + 1) L (.ref x :: st) h) : G X M E Q kc pc L st h := by
  intro p l e R s m args below meth c H locs cells slots ls S Y
  exact lv_aload_n S.1 S.2.1 hd hi (lv_at Y.2.2.1 k9 (lmap_at hl)) (k p l e R s m args below meth c H locs cells slots ls S Y)
theorem g_lload (k9 : Nat) {i : Nat} {x : Int64} (hd : decode M.2.1 pc = .ok (.lload i, 2)) (hl : L[k9]? = some (i, .long x)) (k : G X M E Q kc (pc + 2) L (.long x :: st) h) : G X M E Q kc pc L st h := by
  intro p l e R s m args below meth c H locs cells slots ls S Y
  exact lv_lload S.1 S.2.1 hd (lv_at Y.2.2.1 k9 (lmap_at hl)) (k p l e R s m args below meth c H locs cells slots ls S Y)
theorem g_lload_n (k9 : Nat) {n : Fin 4} {i : Nat} {x : Int64} (hd : decode M.2.1 pc = .ok (.lload_n n, 1)) (hi : (n : Nat) = i) (hl : L[k9]? = some (i, .long x)) (k : G X M E Q kc (pc + 1) L (.long x :: st) h) : G X M E Q kc pc L st h := by
  intro p l e R s m args below meth c H locs cells slots ls S Y
  exact lv_lload_n S.1 S.2.1 hd hi (lv_at Y.2.2.1 k9 (lmap_at hl)) (k p l e R s m args below meth c H locs cells slots ls S Y)
theorem g_aloadN (k9 : Nat) {i : Nat} (hd : decode M.2.1 pc = .ok (.aload i, 2)) (hl : L[k9]? = some (i, .null)) (k : G X M E Q kc (pc + 2) L (.null :: st) h) : G X M E Q kc pc L st h := by
  intro p l e R s m args below meth c H locs cells slots ls S Y
  exact lv_aloadN S.1 S.2.1 hd (lv_at Y.2.2.1 k9 (lmap_at hl)) (k p l e R s m args below meth c H locs cells slots ls S Y)
theorem g_aload_nN (k9 : Nat) {n : Fin 4} {i : Nat} (hd : decode M.2.1 pc = .ok (.aload_n n, 1)) (hi : (n : Nat) = i) (hl : L[k9]? = some (i, .null)) (k : G X M E Q kc (pc + 1) L (.null :: st) h) : G X M E Q kc pc L st h := by
  intro p l e R s m args below meth c H locs cells slots ls S Y
  exact lv_aload_nN S.1 S.2.1 hd hi (lv_at Y.2.2.1 k9 (lmap_at hl)) (k p l e R s m args below meth c H locs cells slots ls S Y)
theorem g_istore {i : Nat} {x : Int32}  {L' : List (Nat × Value)} (hd : decode M.2.1 pc = .ok (.istore i, 2))  (hn : i < M.2.2.1) (hl : sto1 L i (.int x) = L') (k : G X M E Q kc (pc + 2) L' st h) : G X M E Q kc pc L (.int x :: st) h := by
  intro p l e R s m args below meth c H locs cells slots ls S Y
  exact lv_istore S.1 S.2.1 hd  Y.2.2.1 hn (by rw [← hl]; exact lmap_sto1 X L i (.int x)) (fun ls' hls => k p l e R s m args below meth c H locs cells slots ls' S ⟨Y.1, Y.2.1, hls, Y.2.2.2⟩)
theorem g_istore_n {i : Nat} {x : Int32} {n : Fin 4} {L' : List (Nat × Value)} (hd : decode M.2.1 pc = .ok (.istore_n n, 1)) (hi : (n : Nat) = i) (hn : i < M.2.2.1) (hl : sto1 L i (.int x) = L') (k : G X M E Q kc (pc + 1) L' st h) : G X M E Q kc pc L (.int x :: st) h := by
  intro p l e R s m args below meth c H locs cells slots ls S Y
  exact lv_istore_n S.1 S.2.1 hd hi Y.2.2.1 hn (by rw [← hl]; exact lmap_sto1 X L i (.int x)) (fun ls' hls => k p l e R s m args below meth c H locs cells slots ls' S ⟨Y.1, Y.2.1, hls, Y.2.2.2⟩)
theorem g_astore {i : Nat} {x : Nat}  {L' : List (Nat × Value)} (hd : decode M.2.1 pc = .ok (.astore i, 2))  (hn : i < M.2.2.1) (hl : sto1 L i (.ref x) = L') (k : G X M E Q kc (pc + 2) L' st h) : G X M E Q kc pc L (.ref x :: st) h := by
  intro p l e R s m args below meth c H locs cells slots ls S Y
  exact lv_astore S.1 S.2.1 hd  Y.2.2.1 hn (by rw [← hl]; exact lmap_sto1 X L i (.ref x)) (fun ls' hls => k p l e R s m args below meth c H locs cells slots ls' S ⟨Y.1, Y.2.1, hls, Y.2.2.2⟩)
theorem g_astore_n {i : Nat} {x : Nat} {n : Fin 4} {L' : List (Nat × Value)} (hd : decode M.2.1 pc = .ok (.astore_n n, 1)) (hi : (n : Nat) = i) (hn : i < M.2.2.1) (hl : sto1 L i (.ref x) = L') (k : G X M E Q kc (pc + 1) L' st h) : G X M E Q kc pc L (.ref x :: st) h := by
  intro p l e R s m args below meth c H locs cells slots ls S Y
  exact lv_astore_n S.1 S.2.1 hd hi Y.2.2.1 hn (by rw [← hl]; exact lmap_sto1 X L i (.ref x)) (fun ls' hls => k p l e R s m args below meth c H locs cells slots ls' S ⟨Y.1, Y.2.1, hls, Y.2.2.2⟩)
theorem g_lstore {i : Nat} {x : Int64}  {L' : List (Nat × Value)} (hd : decode M.2.1 pc = .ok (.lstore i, 2))  (hn : i + 1 < M.2.2.1) (hl : sto2 L i (.long x) = L') (k : G X M E Q kc (pc + 2) L' st h) : G X M E Q kc pc L (.long x :: st) h := by
  intro p l e R s m args below meth c H locs cells slots ls S Y
  exact lv_lstore S.1 S.2.1 hd  Y.2.2.1 hn (by rw [← hl]; exact lmap_sto2 X L i (.long x)) (fun ls' hls => k p l e R s m args below meth c H locs cells slots ls' S ⟨Y.1, Y.2.1, hls, Y.2.2.2⟩)
theorem g_lstore_n {i : Nat} {x : Int64} {n : Fin 4} {L' : List (Nat × Value)} (hd : decode M.2.1 pc = .ok (.lstore_n n, 1)) (hi : (n : Nat) = i) (hn : i + 1 < M.2.2.1) (hl : sto2 L i (.long x) = L') (k : G X M E Q kc (pc + 1) L' st h) : G X M E Q kc pc L (.long x :: st) h := by
  intro p l e R s m args below meth c H locs cells slots ls S Y
  exact lv_lstore_n S.1 S.2.1 hd hi Y.2.2.1 hn (by rw [← hl]; exact lmap_sto2 X L i (.long x)) (fun ls' hls => k p l e R s m args below meth c H locs cells slots ls' S ⟨Y.1, Y.2.1, hls, Y.2.2.2⟩)
theorem g_astoreN {i : Nat}  {L' : List (Nat × Value)} (hd : decode M.2.1 pc = .ok (.astore i, 2))  (hn : i < M.2.2.1) (hl : sto1 L i .null = L') (k : G X M E Q kc (pc + 2) L' st h) : G X M E Q kc pc L (.null :: st) h := by
  intro p l e R s m args below meth c H locs cells slots ls S Y
  exact lv_astoreN S.1 S.2.1 hd  Y.2.2.1 hn (by rw [← hl]; exact lmap_sto1 X L i .null) (fun ls' hls => k p l e R s m args below meth c H locs cells slots ls' S ⟨Y.1, Y.2.1, hls, Y.2.2.2⟩)
theorem g_astore_nN {i : Nat} {n : Fin 4} {L' : List (Nat × Value)} (hd : decode M.2.1 pc = .ok (.astore_n n, 1)) (hi : (n : Nat) = i) (hn : i < M.2.2.1) (hl : sto1 L i .null = L') (k : G X M E Q kc (pc + 1) L' st h) : G X M E Q kc pc L (.null :: st) h := by
  intro p l e R s m args below meth c H locs cells slots ls S Y
  exact lv_astore_nN S.1 S.2.1 hd hi Y.2.2.1 hn (by rw [← hl]; exact lmap_sto1 X L i .null) (fun ls' hls => k p l e R s m args below meth c H locs cells slots ls' S ⟨Y.1, Y.2.1, hls, Y.2.2.2⟩)
theorem g_iinc (k9 : Nat) {i : Nat} {n : Int} {x v : Int32} {L' : List (Nat × Value)} (hd : decode M.2.1 pc = .ok (.iinc i n, 3)) (hk : L[k9]? = some (i, .int x)) (hv : x + Int32.ofInt n = v) (hn : i < M.2.2.1) (hl : sto1 L i (.int v) = L') (k : G X M E Q kc (pc + 3) L' st h) : G X M E Q kc pc L st h := by
  intro p l e R s m args below meth c H locs cells slots ls S Y
  exact lv_iinc S.1 S.2.1 hd Y.2.2.1 (lmap_at hk) hv hn (by rw [← hl]; exact lmap_sto1 X L i (.int v)) (fun ls' hls => k p l e R s m args below meth c H locs cells slots ls' S ⟨Y.1, Y.2.1, hls, Y.2.2.2⟩)
theorem g_iadd {x y : Int32} (hd : decode M.2.1 pc = .ok (.iadd, 1)) (k : G X M E Q kc (pc + 1) L (.int (x + y) :: st) h) : G X M E Q kc pc L (.int y :: .int x :: st) h := by
  intro p l e R s m args below meth c H locs cells slots ls S Y
  exact lv_iadd S.1 S.2.1 hd (k p l e R s m args below meth c H locs cells slots ls S Y)
theorem g_isub {x y : Int32} (hd : decode M.2.1 pc = .ok (.isub, 1)) (k : G X M E Q kc (pc + 1) L (.int (x - y) :: st) h) : G X M E Q kc pc L (.int y :: .int x :: st) h := by
  intro p l e R s m args below meth c H locs cells slots ls S Y
  exact lv_isub S.1 S.2.1 hd (k p l e R s m args below meth c H locs cells slots ls S Y)
theorem g_imul {x y : Int32} (hd : decode M.2.1 pc = .ok (.imul, 1)) (k : G X M E Q kc (pc + 1) L (.int (x * y) :: st) h) : G X M E Q kc pc L (.int y :: .int x :: st) h := by
  intro p l e R s m args below meth c H locs cells slots ls S Y
  exact lv_imul S.1 S.2.1 hd (k p l e R s m args below meth c H locs cells slots ls S Y)
theorem g_iand {x y : Int32} (hd : decode M.2.1 pc = .ok (.iand, 1)) (k : G X M E Q kc (pc + 1) L (.int (x &&& y) :: st) h) : G X M E Q kc pc L (.int y :: .int x :: st) h := by
  intro p l e R s m args below meth c H locs cells slots ls S Y
  exact lv_iand S.1 S.2.1 hd (k p l e R s m args below meth c H locs cells slots ls S Y)
theorem g_ior {x y : Int32} (hd : decode M.2.1 pc = .ok (.ior, 1)) (k : G X M E Q kc (pc + 1) L (.int (x ||| y) :: st) h) : G X M E Q kc pc L (.int y :: .int x :: st) h := by
  intro p l e R s m args below meth c H locs cells slots ls S Y
  exact lv_ior S.1 S.2.1 hd (k p l e R s m args below meth c H locs cells slots ls S Y)
theorem g_ixor {x y : Int32} (hd : decode M.2.1 pc = .ok (.ixor, 1)) (k : G X M E Q kc (pc + 1) L (.int (x ^^^ y) :: st) h) : G X M E Q kc pc L (.int y :: .int x :: st) h := by
  intro p l e R s m args below meth c H locs cells slots ls S Y
  exact lv_ixor S.1 S.2.1 hd (k p l e R s m args below meth c H locs cells slots ls S Y)
theorem g_ishl {x y : Int32} (hd : decode M.2.1 pc = .ok (.ishl, 1)) (k : G X M E Q kc (pc + 1) L (.int (x <<< (y &&& 31)) :: st) h) : G X M E Q kc pc L (.int y :: .int x :: st) h := by
  intro p l e R s m args below meth c H locs cells slots ls S Y
  exact lv_ishl S.1 S.2.1 hd (k p l e R s m args below meth c H locs cells slots ls S Y)
theorem g_ishr {x y : Int32} (hd : decode M.2.1 pc = .ok (.ishr, 1)) (k : G X M E Q kc (pc + 1) L (.int (x >>> (y &&& 31)) :: st) h) : G X M E Q kc pc L (.int y :: .int x :: st) h := by
  intro p l e R s m args below meth c H locs cells slots ls S Y
  exact lv_ishr S.1 S.2.1 hd (k p l e R s m args below meth c H locs cells slots ls S Y)
theorem g_iushr {x y : Int32} (hd : decode M.2.1 pc = .ok (.iushr, 1)) (k : G X M E Q kc (pc + 1) L (.int ((x.toUInt32 >>> (y.toUInt32 &&& Int32.toUInt32 31)).toInt32) :: st) h) : G X M E Q kc pc L (.int y :: .int x :: st) h := by
  intro p l e R s m args below meth c H locs cells slots ls S Y
  exact lv_iushr S.1 S.2.1 hd rfl (k p l e R s m args below meth c H locs cells slots ls S Y)
theorem g_idiv {x y : Int32} (hd : decode M.2.1 pc = .ok (.idiv, 1)) (hne : ¬ y = 0) (k : G X M E Q kc (pc + 1) L (.int (x / y) :: st) h) : G X M E Q kc pc L (.int y :: .int x :: st) h := by
  intro p l e R s m args below meth c H locs cells slots ls S Y
  exact lv_idiv S.1 S.2.1 hd hne (k p l e R s m args below meth c H locs cells slots ls S Y)
theorem g_irem {x y : Int32} (hd : decode M.2.1 pc = .ok (.irem, 1)) (hne : ¬ y = 0) (k : G X M E Q kc (pc + 1) L (.int (x - x / y * y) :: st) h) : G X M E Q kc pc L (.int y :: .int x :: st) h := by
  intro p l e R s m args below meth c H locs cells slots ls S Y
  exact lv_irem S.1 S.2.1 hd hne (k p l e R s m args below meth c H locs cells slots ls S Y)
theorem g_ineg {x : Int32} (hd : decode M.2.1 pc = .ok (.ineg, 1)) (k : G X M E Q kc (pc + 1) L (.int (0 - x) :: st) h) : G X M E Q kc pc L (.int x :: st) h := by
  intro p l e R s m args below meth c H locs cells slots ls S Y
  exact lv_ineg S.1 S.2.1 hd (k p l e R s m args below meth c H locs cells slots ls S Y)
theorem g_ladd {x y : Int64} (hd : decode M.2.1 pc = .ok (.ladd, 1)) (k : G X M E Q kc (pc + 1) L (.long (x + y) :: st) h) : G X M E Q kc pc L (.long y :: .long x :: st) h := by
  intro p l e R s m args below meth c H locs cells slots ls S Y
  exact lv_ladd S.1 S.2.1 hd (k p l e R s m args below meth c H locs cells slots ls S Y)
theorem g_lsub {x y : Int64} (hd : decode M.2.1 pc = .ok (.lsub, 1)) (k : G X M E Q kc (pc + 1) L (.long (x - y) :: st) h) : G X M E Q kc pc L (.long y :: .long x :: st) h := by
  intro p l e R s m args below meth c H locs cells slots ls S Y
  exact lv_lsub S.1 S.2.1 hd (k p l e R s m args below meth c H locs cells slots ls S Y)
theorem g_lmul {x y : Int64} (hd : decode M.2.1 pc = .ok (.lmul, 1)) (k : G X M E Q kc (pc + 1) L (.long (x * y) :: st) h) : G X M E Q kc pc L (.long y :: .long x :: st) h := by
  intro p l e R s m args below meth c H locs cells slots ls S Y
  exact lv_lmul S.1 S.2.1 hd (k p l e R s m args below meth c H locs cells slots ls S Y)
theorem g_i2l {x : Int32} (hd : decode M.2.1 pc = .ok (.i2l, 1)) (k : G X M E Q kc (pc + 1) L (.long x.toInt64 :: st) h) : G X M E Q kc pc L (.int x :: st) h := by
  intro p l e R s m args below meth c H locs cells slots ls S Y
  exact lv_i2l S.1 S.2.1 hd rfl (k p l e R s m args below meth c H locs cells slots ls S Y)
theorem g_l2i {x : Int64} (hd : decode M.2.1 pc = .ok (.l2i, 1)) (k : G X M E Q kc (pc + 1) L (.int x.toInt32 :: st) h) : G X M E Q kc pc L (.long x :: st) h := by
  intro p l e R s m args below meth c H locs cells slots ls S Y
  exact lv_l2i S.1 S.2.1 hd rfl (k p l e R s m args below meth c H locs cells slots ls S Y)
theorem g_lcmp {x y : Int64} (hd : decode M.2.1 pc = .ok (.lcmp, 1)) (k : G X M E Q kc (pc + 1) L (.int (lg_cmp x y) :: st) h) : G X M E Q kc pc L (.long y :: .long x :: st) h := by
  intro p l e R s m args below meth c H locs cells slots ls S Y
  exact W.lcmp S.1 S.2.1 hd (k p l e R s m args below meth c H locs cells slots ls S Y)
theorem g_dup {v : Value} (hd : decode M.2.1 pc = .ok (.dup, 1)) (hv : v.category = 1) (k : G X M E Q kc (pc + 1) L (v :: v :: st) h) : G X M E Q kc pc L (v :: st) h := by
  intro p l e R s m args below meth c H locs cells slots ls S Y
  exact lv_dup S.1 S.2.1 hd (by rw [rv_cat]; exact hv) (k p l e R s m args below meth c H locs cells slots ls S Y)
theorem g_pop {v : Value} (hd : decode M.2.1 pc = .ok (.pop, 1)) (hv : v.category = 1) (k : G X M E Q kc (pc + 1) L st h) : G X M E Q kc pc L (v :: st) h := by
  intro p l e R s m args below meth c H locs cells slots ls S Y
  exact lv_pop S.1 S.2.1 hd (by rw [rv_cat]; exact hv) (k p l e R s m args below meth c H locs cells slots ls S Y)
theorem g_dup2 {a b : Value} (hd : decode M.2.1 pc = .ok (.dup2, 1)) (ha : a.category = 1) (hb : b.category = 1) (k : G X M E Q kc (pc + 1) L (a :: b :: a :: b :: st) h) : G X M E Q kc pc L (a :: b :: st) h := by
  intro p l e R s m args below meth c H locs cells slots ls S Y
  exact lv_dup2_11 S.1 S.2.1 hd (by rw [rv_cat]; exact ha) (by rw [rv_cat]; exact hb) (k p l e R s m args below meth c H locs cells slots ls S Y)
theorem g_goto {off : Int} {tgt : Nat} (hd : decode M.2.1 pc = .ok (.goto off, 3)) (ht : (pc : Int) + off = (tgt : Int)) (k : G X M E Q kc tgt L st h) : G X M E Q kc pc L st h := by
  intro p l e R s m args below meth c H locs cells slots ls S Y
  exact lv_goto S.1 S.2.1 hd ht (k p l e R s m args below meth c H locs cells slots ls S Y)
theorem g_if_eq {x : Int32} {off : Int} {tgt : Nat} (hd : decode M.2.1 pc = .ok (.ifCond .eq off, 3)) (ht : (pc : Int) + off = (tgt : Int)) (kk : wif (x = 0) (G X M E Q kc tgt L st h) (G X M E Q kc (pc + 3) L st h)) : G X M E Q kc pc L (.int x :: st) h := by
  intro p l e R s m args below meth c H locs cells slots ls S Y
  exact lv_if_eq S.1 S.2.1 hd ht (fun z => by first | exact kk.1 z p l e R s m args below meth c H locs cells slots ls S Y | exact kk.1 (by simpa using z) p l e R s m args below meth c H locs cells slots ls S Y) (fun z => by first | exact kk.2 z p l e R s m args below meth c H locs cells slots ls S Y | exact kk.2 (by simpa using z) p l e R s m args below meth c H locs cells slots ls S Y)
theorem g_icmp_eq {x y : Int32} {off : Int} {tgt : Nat} (hd : decode M.2.1 pc = .ok (.if_icmp .eq off, 3)) (ht : (pc : Int) + off = (tgt : Int)) (kk : wif (x = y) (G X M E Q kc tgt L st h) (G X M E Q kc (pc + 3) L st h)) : G X M E Q kc pc L (.int y :: .int x :: st) h := by
  intro p l e R s m args below meth c H locs cells slots ls S Y
  exact lv_icmp_eq S.1 S.2.1 hd ht (fun z => by first | exact kk.1 z p l e R s m args below meth c H locs cells slots ls S Y | exact kk.1 (by simpa using z) p l e R s m args below meth c H locs cells slots ls S Y) (fun z => by first | exact kk.2 z p l e R s m args below meth c H locs cells slots ls S Y | exact kk.2 (by simpa using z) p l e R s m args below meth c H locs cells slots ls S Y)
theorem g_if_ne {x : Int32} {off : Int} {tgt : Nat} (hd : decode M.2.1 pc = .ok (.ifCond .ne off, 3)) (ht : (pc : Int) + off = (tgt : Int)) (kk : wif (¬ x = 0) (G X M E Q kc tgt L st h) (G X M E Q kc (pc + 3) L st h)) : G X M E Q kc pc L (.int x :: st) h := by
  intro p l e R s m args below meth c H locs cells slots ls S Y
  exact lv_if_ne S.1 S.2.1 hd ht (fun z => by first | exact kk.1 z p l e R s m args below meth c H locs cells slots ls S Y | exact kk.1 (by simpa using z) p l e R s m args below meth c H locs cells slots ls S Y) (fun z => by first | exact kk.2 z p l e R s m args below meth c H locs cells slots ls S Y | exact kk.2 (by simpa using z) p l e R s m args below meth c H locs cells slots ls S Y)
theorem g_icmp_ne {x y : Int32} {off : Int} {tgt : Nat} (hd : decode M.2.1 pc = .ok (.if_icmp .ne off, 3)) (ht : (pc : Int) + off = (tgt : Int)) (kk : wif (¬ x = y) (G X M E Q kc tgt L st h) (G X M E Q kc (pc + 3) L st h)) : G X M E Q kc pc L (.int y :: .int x :: st) h := by
  intro p l e R s m args below meth c H locs cells slots ls S Y
  exact lv_icmp_ne S.1 S.2.1 hd ht (fun z => by first | exact kk.1 z p l e R s m args below meth c H locs cells slots ls S Y | exact kk.1 (by simpa using z) p l e R s m args below meth c H locs cells slots ls S Y) (fun z => by first | exact kk.2 z p l e R s m args below meth c H locs cells slots ls S Y | exact kk.2 (by simpa using z) p l e R s m args below meth c H locs cells slots ls S Y)
theorem g_if_lt {x : Int32} {off : Int} {tgt : Nat} (hd : decode M.2.1 pc = .ok (.ifCond .lt off, 3)) (ht : (pc : Int) + off = (tgt : Int)) (kk : wif (x < 0) (G X M E Q kc tgt L st h) (G X M E Q kc (pc + 3) L st h)) : G X M E Q kc pc L (.int x :: st) h := by
  intro p l e R s m args below meth c H locs cells slots ls S Y
  exact lv_if_lt S.1 S.2.1 hd ht (fun z => by first | exact kk.1 z p l e R s m args below meth c H locs cells slots ls S Y | exact kk.1 (by simpa using z) p l e R s m args below meth c H locs cells slots ls S Y) (fun z => by first | exact kk.2 z p l e R s m args below meth c H locs cells slots ls S Y | exact kk.2 (by simpa using z) p l e R s m args below meth c H locs cells slots ls S Y)
theorem g_icmp_lt {x y : Int32} {off : Int} {tgt : Nat} (hd : decode M.2.1 pc = .ok (.if_icmp .lt off, 3)) (ht : (pc : Int) + off = (tgt : Int)) (kk : wif (x < y) (G X M E Q kc tgt L st h) (G X M E Q kc (pc + 3) L st h)) : G X M E Q kc pc L (.int y :: .int x :: st) h := by
  intro p l e R s m args below meth c H locs cells slots ls S Y
  exact lv_icmp_lt S.1 S.2.1 hd ht (fun z => by first | exact kk.1 z p l e R s m args below meth c H locs cells slots ls S Y | exact kk.1 (by simpa using z) p l e R s m args below meth c H locs cells slots ls S Y) (fun z => by first | exact kk.2 z p l e R s m args below meth c H locs cells slots ls S Y | exact kk.2 (by simpa using z) p l e R s m args below meth c H locs cells slots ls S Y)
theorem g_if_ge {x : Int32} {off : Int} {tgt : Nat} (hd : decode M.2.1 pc = .ok (.ifCond .ge off, 3)) (ht : (pc : Int) + off = (tgt : Int)) (kk : wif (0 ≤ x) (G X M E Q kc tgt L st h) (G X M E Q kc (pc + 3) L st h)) : G X M E Q kc pc L (.int x :: st) h := by
  intro p l e R s m args below meth c H locs cells slots ls S Y
  exact lv_if_ge S.1 S.2.1 hd ht (fun z => by first | exact kk.1 z p l e R s m args below meth c H locs cells slots ls S Y | exact kk.1 (by simpa using z) p l e R s m args below meth c H locs cells slots ls S Y) (fun z => by first | exact kk.2 z p l e R s m args below meth c H locs cells slots ls S Y | exact kk.2 (by simpa using z) p l e R s m args below meth c H locs cells slots ls S Y)
theorem g_icmp_ge {x y : Int32} {off : Int} {tgt : Nat} (hd : decode M.2.1 pc = .ok (.if_icmp .ge off, 3)) (ht : (pc : Int) + off = (tgt : Int)) (kk : wif (y ≤ x) (G X M E Q kc tgt L st h) (G X M E Q kc (pc + 3) L st h)) : G X M E Q kc pc L (.int y :: .int x :: st) h := by
  intro p l e R s m args below meth c H locs cells slots ls S Y
  exact lv_icmp_ge S.1 S.2.1 hd ht (fun z => by first | exact kk.1 z p l e R s m args below meth c H locs cells slots ls S Y | exact kk.1 (by simpa using z) p l e R s m args below meth c H locs cells slots ls S Y) (fun z => by first | exact kk.2 z p l e R s m args below meth c H locs cells slots ls S Y | exact kk.2 (by simpa using z) p l e R s m args below meth c H locs cells slots ls S Y)
theorem g_if_gt {x : Int32} {off : Int} {tgt : Nat} (hd : decode M.2.1 pc = .ok (.ifCond .gt off, 3)) (ht : (pc : Int) + off = (tgt : Int)) (kk : wif (0 < x) (G X M E Q kc tgt L st h) (G X M E Q kc (pc + 3) L st h)) : G X M E Q kc pc L (.int x :: st) h := by
  intro p l e R s m args below meth c H locs cells slots ls S Y
  exact lv_if_gt S.1 S.2.1 hd ht (fun z => by first | exact kk.1 z p l e R s m args below meth c H locs cells slots ls S Y | exact kk.1 (by simpa using z) p l e R s m args below meth c H locs cells slots ls S Y) (fun z => by first | exact kk.2 z p l e R s m args below meth c H locs cells slots ls S Y | exact kk.2 (by simpa using z) p l e R s m args below meth c H locs cells slots ls S Y)
theorem g_icmp_gt {x y : Int32} {off : Int} {tgt : Nat} (hd : decode M.2.1 pc = .ok (.if_icmp .gt off, 3)) (ht : (pc : Int) + off = (tgt : Int)) (kk : wif (y < x) (G X M E Q kc tgt L st h) (G X M E Q kc (pc + 3) L st h)) : G X M E Q kc pc L (.int y :: .int x :: st) h := by
  intro p l e R s m args below meth c H locs cells slots ls S Y
  exact lv_icmp_gt S.1 S.2.1 hd ht (fun z => by first | exact kk.1 z p l e R s m args below meth c H locs cells slots ls S Y | exact kk.1 (by simpa using z) p l e R s m args below meth c H locs cells slots ls S Y) (fun z => by first | exact kk.2 z p l e R s m args below meth c H locs cells slots ls S Y | exact kk.2 (by simpa using z) p l e R s m args below meth c H locs cells slots ls S Y)
theorem g_if_le {x : Int32} {off : Int} {tgt : Nat} (hd : decode M.2.1 pc = .ok (.ifCond .le off, 3)) (ht : (pc : Int) + off = (tgt : Int)) (kk : wif (x ≤ 0) (G X M E Q kc tgt L st h) (G X M E Q kc (pc + 3) L st h)) : G X M E Q kc pc L (.int x :: st) h := by
  intro p l e R s m args below meth c H locs cells slots ls S Y
  exact lv_if_le S.1 S.2.1 hd ht (fun z => by first | exact kk.1 z p l e R s m args below meth c H locs cells slots ls S Y | exact kk.1 (by simpa using z) p l e R s m args below meth c H locs cells slots ls S Y) (fun z => by first | exact kk.2 z p l e R s m args below meth c H locs cells slots ls S Y | exact kk.2 (by simpa using z) p l e R s m args below meth c H locs cells slots ls S Y)
theorem g_icmp_le {x y : Int32} {off : Int} {tgt : Nat} (hd : decode M.2.1 pc = .ok (.if_icmp .le off, 3)) (ht : (pc : Int) + off = (tgt : Int)) (kk : wif (x ≤ y) (G X M E Q kc tgt L st h) (G X M E Q kc (pc + 3) L st h)) : G X M E Q kc pc L (.int y :: .int x :: st) h := by
  intro p l e R s m args below meth c H locs cells slots ls S Y
  exact lv_icmp_le S.1 S.2.1 hd ht (fun z => by first | exact kk.1 z p l e R s m args below meth c H locs cells slots ls S Y | exact kk.1 (by simpa using z) p l e R s m args below meth c H locs cells slots ls S Y) (fun z => by first | exact kk.2 z p l e R s m args below meth c H locs cells slots ls S Y | exact kk.2 (by simpa using z) p l e R s m args below meth c H locs cells slots ls S Y)
theorem g_ifnull {x : Nat} {off : Int} (hd : decode M.2.1 pc = .ok (.ifnull off, 3)) (k : G X M E Q kc (pc + 3) L st h) : G X M E Q kc pc L (.ref x :: st) h := by
  intro p l e R s m args below meth c H locs cells slots ls S Y
  exact lv_ifnull S.1 S.2.1 hd (k p l e R s m args below meth c H locs cells slots ls S Y)
theorem g_ifnonnull {x : Nat} {off : Int} {tgt : Nat} (hd : decode M.2.1 pc = .ok (.ifnonnull off, 3)) (ht : (pc : Int) + off = (tgt : Int)) (k : G X M E Q kc tgt L st h) : G X M E Q kc pc L (.ref x :: st) h := by
  intro p l e R s m args below meth c H locs cells slots ls S Y
  exact lv_ifnonnull S.1 S.2.1 hd ht (k p l e R s m args below meth c H locs cells slots ls S Y)
theorem g_ifnonnullN {off : Int} (hd : decode M.2.1 pc = .ok (.ifnonnull off, 3)) (k : G X M E Q kc (pc + 3) L st h) : G X M E Q kc pc L (.null :: st) h := by
  intro p l e R s m args below meth c H locs cells slots ls S Y
  exact lv_ifnonnullN S.1 S.2.1 hd (k p l e R s m args below meth c H locs cells slots ls S Y)
theorem g_table {dflt lo hi : Int} {offs : Array Int} {len : Nat} {x : Int32} (hd : decode M.2.1 pc = .ok (.tableswitch dflt lo hi offs, len)) (kIn : ∀ (j : Nat) (off : Int) (tgt : Nat), offs[j]? = some off → (pc : Int) + off = (tgt : Int) → x.toInt = lo + (j : Int) → G X M E Q kc tgt L st h) (kOut : ∀ tgt : Nat, (pc : Int) + dflt = (tgt : Int) → (x.toInt < lo ∨ hi < x.toInt) → G X M E Q kc tgt L st h) (hsz : (offs.size : Int) = hi - lo + 1) (hnn : ∀ (j : Nat) (off : Int), offs[j]? = some off → 0 ≤ (pc : Int) + off) (hdn : 0 ≤ (pc : Int) + dflt) : G X M E Q kc pc L (.int x :: st) h := by
  intro p l e R s m args below meth c H locs cells slots ls S Y
  by_cases h0 : x.toInt < lo ∨ hi < x.toInt
  · exact lv_tableOut S.1 S.2.1 hd h0 (tgt := ((pc : Int) + dflt).toNat) (by omega) (kOut _ (by omega) h0 p l e R s m args below meth c H locs cells slots ls S Y)
  · have hj : (x.toInt - lo).toNat < offs.size := by omega
    obtain ⟨off, ho⟩ : ∃ off, offs[(x.toInt - lo).toNat]? = some off := ⟨offs[(x.toInt - lo).toNat], by simp [hj]⟩
    have hq := hnn _ _ ho
    exact lv_tableIn S.1 S.2.1 hd (by omega) (by omega) ho (tgt := ((pc : Int) + off).toNat) (by omega) (kIn _ off _ ho (by omega) (by omega) p l e R s m args below meth c H locs cells slots ls S Y)
end GR
