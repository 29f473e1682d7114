def strL : List (String × Nat × String) := [("ShadowTolls", 343, "a number is out of its bounds"), ("ShadowTolls$RoadReader", 58, "sun"), ("ShadowTolls$RoadReader", 64, "falls"), ("ShadowTolls$RoadReader", 66, "keeper"), ("ShadowTolls$RoadReader", 68, "traveller"), ("ShadowTolls$RoadReader", 70, "takes"), ("ShadowTolls$RoadReader", 72, "hat"), ("ShadowTolls$RoadReader", 74, "lies"), ("ShadowTolls$RoadReader", 76, "feast"), ("ShadowTolls$RoadReader", 78, "cloud"), ("ShadowTolls$RoadReader", 80, "second"), ("ShadowTolls$RoadReader", 82, "lamp"), ("ShadowTolls$RoadReader", 84, "shade"), ("ShadowTolls$LawReader", 34, "pay"), ("ShadowTolls$LawReader", 75, "shadow"), ("ShadowTolls$LawReader", 77, "height"), ("ShadowTolls$LawReader", 79, "weight"), ("ShadowTolls$LawReader", 81, "hour"), ("ShadowTolls$LawReader", 83, "day"), ("ShadowTolls$LawReader", 85, "feast"), ("ShadowTolls$LawReader", 48, "if"), ("ShadowTolls$LawReader", 67, "not"), ("ShadowTolls$LawReader", 63, "and"), ("ShadowTolls$LawReader", 65, "or"), ("ShadowTolls", 171, "nothing is told under this number"), ("ShadowTolls", 356, "no such traveller"), ("ShadowTolls", 345, "no such day"), ("ShadowTolls", 351, "no such bridge"), ("ShadowTolls", 347, "no such minute"), ("ShadowTolls", 359, "bits of travellers that there are not"), ("ShadowTolls", 361, "there is no second bridge"), ("ShadowTolls", 294, "a war needs a second bridge and a toll")]
def bytL : List (List Nat) := [[97, 32, 110, 117, 109, 98, 101, 114, 32, 105, 115, 32, 111, 117, 116, 32, 111, 102, 32, 105, 116, 115, 32, 98, 111, 117, 110, 100, 115], [115, 117, 110], [102, 97, 108, 108, 115], [107, 101, 101, 112, 101, 114], [116, 114, 97, 118, 101, 108, 108, 101, 114], [116, 97, 107, 101, 115], [104, 97, 116], [108, 105, 101, 115], [102, 101, 97, 115, 116], [99, 108, 111, 117, 100], [115, 101, 99, 111, 110, 100], [108, 97, 109, 112], [115, 104, 97, 100, 101], [112, 97, 121], [115, 104, 97, 100, 111, 119], [104, 101, 105, 103, 104, 116], [119, 101, 105, 103, 104, 116], [104, 111, 117, 114], [100, 97, 121], [102, 101, 97, 115, 116], [105, 102], [110, 111, 116], [97, 110, 100], [111, 114], [110, 111, 116, 104, 105, 110, 103, 32, 105, 115, 32, 116, 111, 108, 100, 32, 117, 110, 100, 101, 114, 32, 116, 104, 105, 115, 32, 110, 117, 109, 98, 101, 114], [110, 111, 32, 115, 117, 99, 104, 32, 116, 114, 97, 118, 101, 108, 108, 101, 114], [110, 111, 32, 115, 117, 99, 104, 32, 100, 97, 121], [110, 111, 32, 115, 117, 99, 104, 32, 98, 114, 105, 100, 103, 101], [110, 111, 32, 115, 117, 99, 104, 32, 109, 105, 110, 117, 116, 101], [98, 105, 116, 115, 32, 111, 102, 32, 116, 114, 97, 118, 101, 108, 108, 101, 114, 115, 32, 116, 104, 97, 116, 32, 116, 104, 101, 114, 101, 32, 97, 114, 101, 32, 110, 111, 116], [116, 104, 101, 114, 101, 32, 105, 115, 32, 110, 111, 32, 115, 101, 99, 111, 110, 100, 32, 98, 114, 105, 100, 103, 101], [97, 32, 119, 97, 114, 32, 110, 101, 101, 100, 115, 32, 97, 32, 115, 101, 99, 111, 110, 100, 32, 98, 114, 105, 100, 103, 101, 32, 97, 110, 100, 32, 97, 32, 116, 111, 108, 108]]
abbrev NS : Nat := 32
/-! my machine: a heap is a function from places and indexes to ints; everything else of the world stays as the shape (part 04) says -/
abbrev Hp := Nat → Nat → Int32
def hup (h : Hp) (p i : Nat) (v : Int32) : Hp := fun a => if a = p then upd (h a) i v else h a
/-- (classes' ids and slots, array classes' ids, addresses of the places, the heap's size at the law's start) -/
abbrev Cx := va_G × (Nat → ClassId) × (Nat → Nat) × Nat
def cry (w : Cond) : Bool := w.onTables && (w.keepsH || w.keepsFace)
def TT : List Cond := lw_tbl.filter cry
theorem tt_in {w : Cond} (i : Nat) (h : lw_tbl[i]? = some w) (hc : cry w = true) : w ∈ TT := List.mem_filter.mpr ⟨List.mem_of_getElem? h, hc⟩
theorem tt_tab {w : Cond} (h : w ∈ TT) : w.onTables = true := by
  have h1 := (List.mem_filter.mp h).2
  simp only [cry, Bool.and_eq_true] at h1
  exact h1.1
theorem tt_warm {w : Cond} (h : w ∈ TT) {s U : State} (hW : s.WarmedH U.vm) (hz : va_Nw w s) : va_Nw w U := by
  have h1 := (List.mem_filter.mp h).2
  simp only [cry, Bool.and_eq_true, Bool.or_eq_true] at h1
  rcases h1 with ⟨h1, h2 | h2⟩
  · have h3 := Cond.onTables_warmH (args' := #[]) (T := s) hW h1 h2 hz
    exact va_tabs (u := s.setVm U.vm) h1 rfl h3
  · have h3 := Cond.onTables_warmFace (args' := #[]) (T := s) hW h1 h2 hz
    exact va_tabs (u := s.setVm U.vm) h1 rfl h3
def rv (X : Cx) (v : Value) : Value := match v with
  | .ref a => .ref (X.2.2.1 a)
  | v => v
def AA (X : Cx) : Nat → Prop := fun q => X.2.2.2 ≤ q
def fval (X : Cx) (h : Hp) (p c k : Nat) : Value := if fk c k = 2 then .ref (X.2.2.1 (tg p k)) else if fk c k = 1 then .int (h p k &&& 1) else .int (h p k)
def entK (X : Cx) (h : Hp) (p : Nat) (k : Kd) : va_E := match k with
  | (0, c, _) => .inr (c, (List.range (nf c)).map (fval X h p c))
  | (1, n, _) => .inl (X.2.1 0, n, .inl (h p))
  | (2, n, b, c, d) => .inl (X.2.1 d, n, .inr (.inr (.inr (.inr (fun j => if j < n then some (X.2.2.1 (b + c * j)) else none)))))
  | (3, n, _) => .inl (X.2.1 1, n, .inl (fun j => h p j &&& 1))
  | (_, n, _) => .inl (X.2.1 2, n, .inr (.inl (fun j => (h p j).toInt64)))
def wsX (X : Cx) (h : Hp) : va_W := (List.range NP).map (fun p => (X.2.2.1 p, entK X h p (kd p)))
def tyX (X : Cx) : List (ClassId × FieldType) := [(X.2.1 0, .int), (X.2.1 1, .boolean), (X.2.1 2, .long), (X.2.1 3, .array .int), (X.2.1 4, .array .boolean), (X.2.1 5, .array (.array .int)), (X.2.1 6, .object RX0), (X.2.1 7, .object RX3)]
def Wd (X : Cx) (h : Hp) (H : Heap) (U : State) : Prop := va_P X.1 clsL (wsX X h) H ∧ va_K X.1 clsL (tyX X) U ∧ va_D (AA X) (wsX X h)
abbrev SB : Nat := 100000
/-- what lies ahead of the law's start and never changes: texts, statics, the tables' words -/
def ExS (X : Cx) (U : State) (H : Heap) (i : Nat) : Prop := va_O "java/lang/String" (X.2.2.1 (SB + 2 * i)) (AA X) U H ∧ va_OF "java/lang/String" "coder" "B" (.int 0) (X.2.2.1 (SB + 2 * i)) (AA X) U H ∧ va_OF "java/lang/String" "value" "[B" (.ref (X.2.2.1 (SB + 2 * i + 1))) (X.2.2.1 (SB + 2 * i)) (AA X) U H ∧ va_T .byte (X.2.2.1 (SB + 2 * i + 1)) (bytL.getD i []).length (fun j => .int (nI ((bytL.getD i []).getD j 0))) (AA X) U H
def ExR (X : Cx) (U : State) : Prop := ∀ i : Nat, ∀ q : String × Nat × String, strL[i]? = some q → vk_R q.1 q.2.1 q.2.2 (X.2.2.1 (SB + 2 * i)) U
def ExZ (X : Cx) (U : State) (H : Heap) : Prop := vx_Zq Bundle.tN "UNASSIGNED_STACK" Bundle.steD (AA X) U H ∧ vx_Zq Bundle.tN "SUPPRESSED_SENTINEL" Bundle.listD (AA X) U H ∧ va_Z "java/lang/String" "COMPACT_STRINGS" "Z" (.int 1) (AA X) U H ∧ va_Zq "jdk/internal/util/Preconditions" "SIOOBE_FORMATTER" "Ljava/util/function/BiFunction;" (AA X) U H
def xnL : List String := ["java/lang/IllegalArgumentException", "java/util/NoSuchElementException", "java/lang/IndexOutOfBoundsException", "java/lang/IllegalStateException"]
def ExN (U : State) : Prop := ∀ E ∈ xnL, ∀ F ∈ xnL, E ≠ F → va_Nc E F U
def Ex (X : Cx) (U : State) : Prop := X.2.2.2 ≤ U.heap.size ∧ (∀ i : Nat, i < NS → ExS X U U.heap i) ∧ ExR X U ∧ ExZ X U U.heap ∧ ExN U ∧ ∀ w ∈ TT, va_Nw w U
theorem Ex.to {X : Cx} {s U : State} {locs : List Loc} {H : Heap} (h : Ex X s) (hS : va_S (AA X) s.heap H locs) (hU : U.heap = H) (hW : s.WarmedH U.vm) : Ex X U := by
  obtain ⟨h1, h2, h3, h4, h5, h6⟩ := h
  subst hU
  have hk : ∀ q : Nat, q < s.heap.size → ¬ AA X q → U.heap[q]? = s.heap[q]? := hS.2.1
  have ha := hW.alike
  refine ⟨Nat.le_trans h1 hS.1, fun i hi => ?_, fun i q hq => (h3 i q hq).warm hW, ?_, fun E hE F hF hne => (h5 E hE F hF hne).moved ha, fun w hw => tt_warm hw hW (h6 w hw)⟩
  · obtain ⟨a, b, c, d⟩ := h2 i hi
    exact ⟨va_O.moved ha (a.kept hk), va_OF.moved ha (b.kept hk), va_OF.moved ha (c.kept hk), va_T.moved ha (d.kept hk)⟩
  · obtain ⟨a, b, c, d⟩ := h4
    exact ⟨vx_Zq.moved ha (a.kept hk), vx_Zq.moved ha (b.kept hk), va_Z.moved ha (c.kept hk), va_Zq.moved ha (d.kept hk)⟩
theorem Ex.same {X : Cx} {s U : State} (h : Ex X s) (hv : U.vm = s.vm) (hh : U.heap = s.heap) : Ex X U := by
  obtain ⟨h1, h2, h3, h4, h5, h6⟩ := h
  have ha : s.vm.Alike U.vm := by rw [hv]; exact Vm.Alike.refl _
  refine ⟨by rw [hh]; exact h1, fun i hi => ?_, fun i q hq => (h3 i q hq).same hv, ?_, fun E hE F hF hne => (h5 E hE F hF hne).moved ha, fun w hw => va_tabs (tt_tab hw) hv.symm (h6 w hw)⟩
  · obtain ⟨a, b, c, d⟩ := h2 i hi
    rw [hh]
    exact ⟨va_O.moved ha a, va_OF.moved ha b, va_OF.moved ha c, va_T.moved ha d⟩
  · obtain ⟨a, b, c, d⟩ := h4
    rw [hh]
    exact ⟨vx_Zq.moved ha a, vx_Zq.moved ha b, va_Z.moved ha c, va_Zq.moved ha d⟩
theorem Wd.moved {X : Cx} {h : Hp} {H : Heap} {u U : State} (hw : Wd X h H u) (hvm : u.vm.Alike U.vm) : Wd X h H U := ⟨hw.1, va_K.moved hvm hw.2.1, hw.2.2⟩
theorem rng_at {α : Type} (n : Nat) (f : Nat → α) {p : Nat} (hp : p < n) : ((List.range n).map f)[p]? = some (f p) := by
  rw [List.getElem?_map, List.getElem?_range hp]
  rfl
theorem rng_set {α : Type} (n : Nat) (f g : Nat → α) {p : Nat} (hp : p < n) (ho : ∀ q, q ≠ p → f q = g q) : ((List.range n).map f).set p (g p) = (List.range n).map g := by
  have hl : ((List.range n).map f).length = n := by rw [List.length_map, List.length_range]
  have hl2 : ((List.range n).map g).length = n := by rw [List.length_map, List.length_range]
  apply List.ext_getElem?
  intro i
  by_cases hi : i = p
  · subst hi
    rw [List.getElem?_set_self (by rw [hl]; exact hp), rng_at n g hp]
  · rw [List.getElem?_set_ne (Ne.symm hi)]
    by_cases h : i < n
    · rw [rng_at n f h, rng_at n g h, ho i hi]
    · rw [List.getElem?_eq_none (by rw [hl]; omega), List.getElem?_eq_none (by rw [hl2]; omega)]
theorem entK_congr (X : Cx) {h h' : Hp} {i : Nat} (hq : h' i = h i) (k : Kd) : entK X h i k = entK X h' i k := by
  have hf : ∀ c, fval X h i c = fval X h' i c := fun c => by
    funext k
    unfold fval
    rw [hq]
  unfold entK
  split
  · rw [hf]
  · rw [hq]
  · rfl
  · rw [hq]
  · rw [hq]
theorem ws_at (X : Cx) (h : Hp) {p : Nat} (hp : p < NP) : (wsX X h)[p]? = some (X.2.2.1 p, entK X h p (kd p)) := rng_at NP _ hp
theorem ws_set (X : Cx) (h h' : Hp) {p : Nat} {e : va_E} (hp : p < NP) (he : e = entK X h' p (kd p)) (ho : ∀ q, q ≠ p → h' q = h q) : (wsX X h).set p (X.2.2.1 p, e) = wsX X h' := by
  subst he
  exact rng_set NP (fun p => (X.2.2.1 p, entK X h p (kd p))) (fun p => (X.2.2.1 p, entK X h' p (kd p))) hp (fun q hq => by rw [entK_congr X (ho q hq)])
theorem hup_ne {h : Hp} {p q i : Nat} {v : Int32} (hq : q ≠ p) : hup h p i v q = h q := by simp [hup, hq]
theorem hup_self (h : Hp) (p i : Nat) (v : Int32) : hup h p i v p = upd (h p) i v := by simp [hup]
