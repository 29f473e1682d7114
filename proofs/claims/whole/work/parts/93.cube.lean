/-! rows of rows of rows: one step of the machine -/
def oc3 (c : ClassId) (N h0 M : Nat) : Nat → Cell
  | 0 => { cls := c, slots := Array.replicate N .null, vm := .none }
  | i + 1 => (oc3 c N h0 M i).setSlot i (.ref (h0 + 1 + i * (M + 1)))
def fill3 (s : State) (c c2 c3 : ClassId) (N M K : Nat) (dv : Value) : Nat → State
  | 0 => s.pushCell (oc3 c N s.heap.size M 0)
  | i + 1 => (Jvm.Free.Multi.fill (fill3 s c c2 c3 N M K dv i) c2 c3 M K dv M).setCell s.heap.size (oc3 c N s.heap.size M (i + 1))
theorem oc3_facts (c : ClassId) (N h0 M : Nat) : ∀ i, (oc3 c N h0 M i).cls = c ∧ (oc3 c N h0 M i).vm = .none ∧ (oc3 c N h0 M i).slots.size = N
  | 0 => ⟨rfl, rfl, by simp [oc3]⟩
  | i + 1 => by
    obtain ⟨a, b, d⟩ := oc3_facts c N h0 M i
    exact ⟨by simp [oc3, Cell.setSlot, a], by simp [oc3, Cell.setSlot, b], by simp [oc3, Cell.setSlot, d]⟩
theorem mul_s (i M : Nat) : (i + 1) * (M + 1) = i * (M + 1) + M + 1 := by rw [Nat.succ_mul]; omega
theorem fill3_facts (s : State) (c c2 c3 : ClassId) (N M K : Nat) (dv : Value) : ∀ i, (fill3 s c c2 c3 N M K dv i).heap.size = s.heap.size + 1 + i * (M + 1) ∧ (fill3 s c c2 c3 N M K dv i).heap[s.heap.size]? = some (oc3 c N s.heap.size M i) ∧
    (fill3 s c c2 c3 N M K dv i).vm = s.vm ∧ (fill3 s c c2 c3 N M K dv i).slotsUsed = s.slotsUsed + N + i * (M + M * K)
  | 0 => ⟨by simp [fill3], by simp [fill3], rfl, by simp [fill3, oc3]⟩
  | i + 1 => by
    obtain ⟨a, b, d, u⟩ := fill3_facts s c c2 c3 N M K dv i
    obtain ⟨a2, b2, d2, u2⟩ := Jvm.Free.Multi.fill_facts (fill3 s c c2 c3 N M K dv i) c2 c3 M K dv M
    have hlt : s.heap.size < (fill3 s c c2 c3 N M K dv i).heap.size := by omega
    have hb' : (Jvm.Free.Multi.fill (fill3 s c c2 c3 N M K dv i) c2 c3 M K dv M).heap[s.heap.size]? = some (oc3 c N s.heap.size M i) := by
      rw [Jvm.Free.Multi.fill_old (fill3 s c c2 c3 N M K dv i) c2 c3 M K dv hlt M]
      exact b
    refine ⟨?_, State.heap_setCell_self hb', ?_, ?_⟩
    · have e := mul_s i M
      simp [fill3, State.setCell, a2, a]
      omega
    · simp [fill3, d2, d]
    · have e : (i + 1) * (M + M * K) = i * (M + M * K) + (M + M * K) := Nat.succ_mul _ _
      simp [fill3, u2, u]
      omega
theorem fill3_setTop (s : State) (f : JFrame) (c c2 c3 : ClassId) (N M K : Nat) (dv : Value) : ∀ i, fill3 (s.setTop f) c c2 c3 N M K dv i = (fill3 s c c2 c3 N M K dv i).setTop f
  | 0 => rfl
  | i + 1 => by simp only [fill3, fill3_setTop s f c c2 c3 N M K dv i, State.heap_setTop, Jvm.Free.Multi.fill_setTop, State.setCell_setTop]
theorem fill3_old (s : State) (c c2 c3 : ClassId) (N M K : Nat) (dv : Value) {a : Addr} (ha : a < s.heap.size) : ∀ i, (fill3 s c c2 c3 N M K dv i).heap[a]? = s.heap[a]?
  | 0 => State.heap_pushCell_of_lt _ _ ha
  | i + 1 => by
    have f1 := (fill3_facts s c c2 c3 N M K dv i).1
    have hlt : a < (fill3 s c c2 c3 N M K dv i).heap.size := Nat.lt_of_lt_of_le ha (by rw [f1]; omega)
    show ((Jvm.Free.Multi.fill (fill3 s c c2 c3 N M K dv i) c2 c3 M K dv M).setCell s.heap.size _).heap[a]? = _
    rw [State.heap_setCell_other (Nat.ne_of_gt ha), Jvm.Free.Multi.fill_old _ c2 c3 M K dv hlt M]
    exact fill3_old s c c2 c3 N M K dv ha i
/-- the j-th inner row of rows, and its rows -/
theorem fill3_in (s : State) (c c2 c3 : ClassId) (N M K : Nat) (dv : Value) : ∀ i j, j < i → (fill3 s c c2 c3 N M K dv i).heap[s.heap.size + 1 + j * (M + 1)]? = some (Jvm.Free.Multi.outerC c2 M (s.heap.size + 1 + j * (M + 1)) M) ∧ ∀ r, r < M → (fill3 s c c2 c3 N M K dv i).heap[s.heap.size + 1 + j * (M + 1) + 1 + r]? = some (Jvm.Free.Multi.innerC c3 K dv)
  | 0, _, h => absurd h (Nat.not_lt_zero _)
  | i + 1, j, h => by
    obtain ⟨f1, -, -, -⟩ := fill3_facts s c c2 c3 N M K dv i
    obtain ⟨a2, b2, d2, u2⟩ := Jvm.Free.Multi.fill_facts (fill3 s c c2 c3 N M K dv i) c2 c3 M K dv M
    have nn : ∀ x : Nat, s.heap.size < x → (fill3 s c c2 c3 N M K dv (i + 1)).heap[x]? = (Jvm.Free.Multi.fill (fill3 s c c2 c3 N M K dv i) c2 c3 M K dv M).heap[x]? := fun x hx => by
      show ((Jvm.Free.Multi.fill (fill3 s c c2 c3 N M K dv i) c2 c3 M K dv M).setCell s.heap.size _).heap[x]? = _
      rw [State.heap_setCell_other (show s.heap.size ≠ x from Nat.ne_of_lt hx)]
    rcases Nat.lt_or_ge j i with hj | hj
    · obtain ⟨g1, g2⟩ := fill3_in s c c2 c3 N M K dv i j hj
      have hmul : (j + 1) * (M + 1) ≤ i * (M + 1) := Nat.mul_le_mul_right _ hj
      have e := mul_s j M
      have bd : ∀ x : Nat, x < (M + 1) → s.heap.size + 1 + j * (M + 1) + x < (fill3 s c c2 c3 N M K dv i).heap.size := fun x hx => by rw [f1]; omega
      refine ⟨?_, fun r hr => ?_⟩
      · rw [nn _ (by omega), Jvm.Free.Multi.fill_old (fill3 s c c2 c3 N M K dv i) c2 c3 M K dv (show s.heap.size + 1 + j * (M + 1) < (fill3 s c c2 c3 N M K dv i).heap.size from bd 0 (by omega)) M]
        exact g1
      · rw [nn _ (by omega), Jvm.Free.Multi.fill_old (fill3 s c c2 c3 N M K dv i) c2 c3 M K dv (show s.heap.size + 1 + j * (M + 1) + 1 + r < (fill3 s c c2 c3 N M K dv i).heap.size from by have b9 : s.heap.size + 1 + j * (M + 1) + (1 + r) < (fill3 s c c2 c3 N M K dv i).heap.size := bd (1 + r) (by omega); rw [Nat.add_assoc (s.heap.size + 1 + j * (M + 1))]; exact b9) M]
        exact g2 r hr
    · have e : j = i := by omega
      subst e
      rw [← f1]
      refine ⟨?_, fun r hr => ?_⟩
      · rw [nn _ (by rw [f1]; omega)]
        exact b2
      · rw [nn _ (by rw [f1]; omega)]
        exact Jvm.Free.Multi.fill_inner _ c2 c3 M K dv M r hr
section CU
variable {E : CtlPost} {e : Env} {d : Bool} {acts : List Action} {s : State}
theorem wp_make3 {c1 c2 c3 cc : ClassId} {k1 k2 k3 : Class} {t1 t2 type : FieldType} {n m k : Int32} (hk1 : s.vm.classes[c1]? = some k1) (hkind1 : k1.kind = .array c2 t1) (href1 : t1.isReference = true)
    (hk2 : s.vm.classes[c2]? = some k2) (hkind2 : k2.kind = .array c3 t2) (href2 : t2.isReference = true) (hk3 : s.vm.classes[c3]? = some k3) (hkind3 : k3.kind = .array cc type) (hn : ¬ n < 0) (hm : ¬ m < 0) (hk : ¬ k < 0)
    (hl1 : ¬ n.toNatClampNeg > e.platform.arrayLengthLimit) (hh1 : ¬ n.toNatClampNeg * componentBytes t1 > e.platform.maxHeapBytes)
    (hl2 : ¬ m.toNatClampNeg > e.platform.arrayLengthLimit) (hh2 : ¬ m.toNatClampNeg * componentBytes t2 > e.platform.maxHeapBytes)
    (hl3 : ¬ k.toNatClampNeg > e.platform.arrayLengthLimit) (hh3 : ¬ k.toNatClampNeg * componentBytes type > e.platform.maxHeapBytes)
    (hdf : fits type (defaultValue type) = true) (hdd : (defaultValue type).isDefault = true)
    (hc : s.heap.size + 1 + n.toNatClampNeg * (m.toNatClampNeg + 1) ≤ e.platform.maxCells) (hs : s.slotsUsed + n.toNatClampNeg + n.toNatClampNeg * (m.toNatClampNeg + m.toNatClampNeg * k.toNatClampNeg) ≤ e.platform.maxSlots)
    {Q : Addr → Pre} (hq : ∀ d' acts', Q s.heap.size d' acts' (fill3 s c1 c2 c3 n.toNatClampNeg m.toNatClampNeg k.toNatClampNeg (defaultValue type) n.toNatClampNeg)) :
    Jvm.Sem.wp (multianewarray.make c1 [n, m, k]) Q E e d acts s := by
  have hfind : ([m, k].find? (· < 0)) = none := by simp [hm, hk]
  rw [multianewarray.make]
  simp only [wp_bind', W.ite, hn, if_false, wp_pure', W.theClass, hk1, hkind1, Option.some.injEq, exists_eq_left']
  refine Jvm.Free.Multi.wp_newArray hk1 hkind1 hl1 hh1 (Jvm.Free.Multi.refFits href1 _ (Or.inl rfl)) rfl (by omega) (by omega) ?_
  simp only [hfind]
  rw [ite_self, wp_bind', Std.Legacy.Range.forIn_eq_forIn_range']
  have hsz : ([:n.toNatClampNeg] : Std.Legacy.Range).size = n.toNatClampNeg := by simp [Std.Legacy.Range.size]
  rw [hsz]
  show Jvm.Sem.wp (forIn (List.range' 0 n.toNatClampNeg 1) PUnit.unit _) _ E e d acts _
  refine wp_forIn_inv (fun rest s' => ∃ i, i ≤ n.toNatClampNeg ∧ rest = List.range' i (n.toNatClampNeg - i) ∧ s' = fill3 s c1 c2 c3 n.toNatClampNeg m.toNatClampNeg k.toNatClampNeg (defaultValue type) i) _ _ ⟨0, Nat.zero_le _, rfl, rfl⟩ ?_ ?_
  · rintro x rest s' d' acts' Q' ⟨i, hi, hl, rfl⟩ hnext
    have hlt : i < n.toNatClampNeg := by
      rcases Nat.lt_or_ge i n.toNatClampNeg with h | h
      · exact h
      · rw [show n.toNatClampNeg - i = 0 from by omega] at hl; simp at hl
    obtain ⟨rfl, hrest⟩ : x = i ∧ rest = List.range' (i + 1) (n.toNatClampNeg - (i + 1)) := by
      rw [show n.toNatClampNeg - i = (n.toNatClampNeg - (i + 1)) + 1 from by omega, List.range'_succ] at hl
      exact ⟨(List.cons.inj hl).1, (List.cons.inj hl).2⟩
    obtain ⟨f1, f2, f3, f4⟩ := fill3_facts s c1 c2 c3 n.toNatClampNeg m.toNatClampNeg k.toNatClampNeg (defaultValue type) x
    obtain ⟨o1, o2, o3⟩ := oc3_facts c1 n.toNatClampNeg s.heap.size m.toNatClampNeg x
    have hmul1 : (x + 1) * (m.toNatClampNeg + 1) ≤ n.toNatClampNeg * (m.toNatClampNeg + 1) := Nat.mul_le_mul_right _ hlt
    have hmul2 : (x + 1) * (m.toNatClampNeg + m.toNatClampNeg * k.toNatClampNeg) ≤ n.toNatClampNeg * (m.toNatClampNeg + m.toNatClampNeg * k.toNatClampNeg) := Nat.mul_le_mul_right _ hlt
    have e1 := mul_s x m.toNatClampNeg
    have e2 : (x + 1) * (m.toNatClampNeg + m.toNatClampNeg * k.toNatClampNeg) = x * (m.toNatClampNeg + m.toNatClampNeg * k.toNatClampNeg) + (m.toNatClampNeg + m.toNatClampNeg * k.toNatClampNeg) := Nat.succ_mul _ _
    simp only [wp_bind']
    refine Jvm.Free.Multi.wp_make2 (by rw [f3]; exact hk2) hkind2 href2 (by rw [f3]; exact hk3) hkind3 hm hk hl2 hh2 hl3 hh3 hdf hdd (by rw [f1]; omega) (by rw [f4]; omega) (fun d2 acts2 => ?_)
    have hlt0 : s.heap.size < (fill3 s c1 c2 c3 n.toNatClampNeg m.toNatClampNeg k.toNatClampNeg (defaultValue type) x).heap.size := by rw [f1]; omega
    obtain ⟨a2, b2, v2, u2⟩ := Jvm.Free.Multi.fill_facts (fill3 s c1 c2 c3 n.toNatClampNeg m.toNatClampNeg k.toNatClampNeg (defaultValue type) x) c2 c3 m.toNatClampNeg k.toNatClampNeg (defaultValue type) m.toNatClampNeg
    simp only [wp_bind', W.writeLoc, wp_pure']
    refine ⟨oc3 c1 n.toNatClampNeg s.heap.size m.toNatClampNeg x, by rw [Jvm.Free.Multi.fill_old _ _ _ _ _ _ hlt0]; exact f2, by rw [o2]; simp, by rw [o3]; exact hlt, ?_, hnext _ _ _ ⟨x + 1, hlt, hrest, ?_⟩⟩
    · rw [o1, o2]
      simp [State.fitsSlot, State.slotType?, v2, f3, hk1, hkind1, Jvm.Free.Multi.refFits href1 _ (Or.inr ⟨_, rfl⟩)]
    · rw [f1]; rfl
  · rintro s' d' acts' ⟨i, hi, hl, rfl⟩
    have hiN : i = n.toNatClampNeg := by
      rcases Nat.lt_or_ge i n.toNatClampNeg with h | h
      · rw [show n.toNatClampNeg - i = (n.toNatClampNeg - (i + 1)) + 1 from by omega, List.range'_succ] at hl; cases hl
      · omega
    subst hiN
    simp only [wp_pure']
    exact hq _ _
end CU
section CU2
variable {p : Program} {l : Launch} {e : Env} {R : Room} {s : State} {m : MethodId} {args : Array Value} {below : List Frame} {meth : Method} {c : Code} {T : State} {locs : List Loc} {cells slots : Nat}
theorem filled3 (X : Stand p l e R s m args below meth c T locs cells slots) (c1 c2 c3 : ClassId) (N M K : Nat) (dv : Value) :
    ∀ i, ∃ L : List Loc, Stand p l e R s m args below meth c (fill3 T c1 c2 c3 N M K dv i) (locs ++ L) (cells + 1 + i * (M + 1)) (slots + N + i * (M + M * K)) ∧ ∀ x ∈ L, T.heap.size ≤ x.base
  | 0 => by
    have h := X.pushed (oc3 c1 N T.heap.size M 0)
    rw [(oc3_facts c1 N T.heap.size M 0).2.2] at h
    exact ⟨[], by simpa [fill3] using h, fun x hx => by cases hx⟩
  | i + 1 => by
    obtain ⟨Li, Xi, hLi⟩ := filled3 X c1 c2 c3 N M K dv i
    obtain ⟨f1, f2, f3, f4⟩ := fill3_facts T c1 c2 c3 N M K dv i
    have hlt0 : T.heap.size < (fill3 T c1 c2 c3 N M K dv i).heap.size := by rw [f1]; omega
    have X2 := Stand.filled Xi c2 c3 M K dv M
    have hcell : (Jvm.Free.Multi.fill (fill3 T c1 c2 c3 N M K dv i) c2 c3 M K dv M).heap[T.heap.size]? = some (oc3 c1 N T.heap.size M i) := by rw [Jvm.Free.Multi.fill_old _ _ _ _ _ _ hlt0]; exact f2
    have h := X2.stored hcell i (.ref (T.heap.size + 1 + i * (M + 1)))
    have e1 := mul_s i M
    have e2 : (i + 1) * (M + M * K) = i * (M + M * K) + (M + M * K) := Nat.succ_mul _ _
    have e3 : cells + 1 + i * (M + 1) + 1 + M = cells + 1 + (i + 1) * (M + 1) := by omega
    have e4 : slots + N + i * (M + M * K) + M + M * K = slots + N + (i + 1) * (M + M * K) := by omega
    rw [e3, e4, List.append_assoc, List.append_assoc] at h
    refine ⟨_, h, fun x hx => ?_⟩
    rcases List.mem_append.mp hx with hx | hx
    · exact hLi x hx
    · rcases List.mem_append.mp hx with hx | hx
      · obtain ⟨j, -, rfl⟩ := List.mem_map.mp hx
        exact Nat.le_of_lt hlt0
      · rw [List.mem_singleton] at hx
        subst hx
        exact Nat.le_refl _
theorem mna3_step (X : Stand p l e R s m args below meth c T locs cells slots) (hexec : p.tables.exec = Jvm.exec) {own : String} {index : Nat} {ty : FieldType}
    (hown : s.vm.findClass own = some m.cls) (hclink : (Cond.classLink own index ("[" ++ (FieldType.array (.array ty)).toString)).before args s = true)
    (hover1 : (Cond.arrayOver (.array (.array ty))).before args s = true) (hover2 : (Cond.arrayOver (.array ty)).before args s = true) (harr : (Cond.arrayClass ty).before args s = true)
    {g : JFrame} (hg : g.method = m) (hdg : decode c.code g.pc = .ok (.multianewarray index 3, 4)) {n k z : Int32} {rest : List Value} (hstack : g.stack = .int z :: .int k :: .int n :: rest)
    (hn : ¬ n < 0) (hk : ¬ k < 0) (hz : ¬ z < 0) (hb1 : n.toNatClampNeg * 4 ≤ 536870912) (hb2 : k.toNatClampNeg * 4 ≤ 536870912) (hb4 : z.toNatClampNeg * componentBytes ty ≤ 536870912) (hb3 : z.toNatClampNeg ≤ 536870912)
    (hdf : fits ty (defaultValue ty) = true) (hdd : (defaultValue ty).isDefault = true)
    (hcells : cells + (1 + n.toNatClampNeg * (k.toNatClampNeg + 1)) ≤ R.cells) (hslots : slots + (n.toNatClampNeg + n.toNatClampNeg * (k.toNatClampNeg + k.toNatClampNeg * z.toNatClampNeg)) ≤ R.slots) :
    ∃ (vm₁ : Vm) (c1 c2 c3 : ClassId), s.vm.findClass ("[" ++ (FieldType.array (.array ty)).toString) = some c1 ∧ s.vm.findClass ("[" ++ (FieldType.array ty).toString) = some c2 ∧ s.vm.findClass (FieldType.array ty).toString = some c3 ∧
      Stand p l e R s m args below meth c (fill3 (T.setVm vm₁) c1 c2 c3 n.toNatClampNeg k.toNatClampNeg z.toNatClampNeg (defaultValue ty) n.toNatClampNeg) locs (cells + 1 + n.toNatClampNeg * (k.toNatClampNeg + 1)) (slots + n.toNatClampNeg + n.toNatClampNeg * (k.toNatClampNeg + k.toNatClampNeg * z.toNatClampNeg)) ∧
      ∀ target, Steps p.tables e below ((fill3 (T.setVm vm₁) c1 c2 c3 n.toNatClampNeg k.toNatClampNeg z.toNatClampNeg (defaultValue ty) n.toNatClampNeg).setTop { g with pc := g.pc + 4, stack := .ref T.heap.size :: rest }) target →
        Steps p.tables e below (T.setTop g) target := by
  subst hg
  have hpl : e.platform.magicAccessors = ({} : Platform).magicAccessors := by rw [X.admits.platform]
  obtain ⟨c2, c1, k1, hc2, hk1, hkind1, hname1⟩ := Cond.arrayOver_specA hover1
  obtain ⟨c3, c2', k2, hc3, hk2, hkind2, hname2⟩ := Cond.arrayOver_specA hover2
  have e2 : c2' = c2 := Option.some.inj (hname2.symm.trans hc2)
  subst e2
  obtain ⟨c3', k3, cc, hc3', hk3, hkind3⟩ := Cond.arrayClass_spec harr
  have e3 : c3' = c3 := Option.some.inj (hc3'.symm.trans hc3)
  subst e3
  obtain ⟨c0, hfc0, hcl⟩ := Cond.classLink_spec hown hclink e.platform hpl
  cases hname1.symm.trans hfc0
  obtain ⟨hg₁, hwarm₁, hready₁⟩ := State.classEntry (e := e) X.warmed hcl
  generalize T.vm.noted g.method.cls index (.cls c1) = vm₁ at hg₁ hwarm₁ hready₁
  have hal : s.vm.Alike vm₁ := hwarm₁.alike
  obtain ⟨k1', hk1', he1⟩ := hal.2.2 _ _ hk1
  obtain ⟨k2', hk2', he2⟩ := hal.2.2 _ _ hk2
  obtain ⟨k3', hk3', he3⟩ := hal.2.2 _ _ hk3
  have X₁ := X.noted hwarm₁
  obtain ⟨hr1, hr2⟩ := X.roomAbove hcells hslots
  obtain ⟨L9, XF, hL9⟩ := filled3 X₁ c1 c2' c3' n.toNatClampNeg k.toNatClampNeg z.toNatClampNeg (defaultValue ty) n.toNatClampNeg
  refine ⟨vm₁, c1, c2', c3', hname1, hname2, hc3, XF.dropFresh (fun x hx => Nat.le_trans X.heapGrown (hL9 x hx)), fun target hrest => ?_⟩
  have hl1 : ¬ n.toNatClampNeg > e.platform.arrayLengthLimit := by rw [Launch.admits_arrayLengthLimit X.admits]; omega
  have hh1 : ¬ n.toNatClampNeg * componentBytes (.array (.array ty)) > e.platform.maxHeapBytes := by
    rw [Launch.admits_maxHeapBytes X.admits]; show ¬ n.toNatClampNeg * 4 > 536870912; omega
  have hl2 : ¬ k.toNatClampNeg > e.platform.arrayLengthLimit := by rw [Launch.admits_arrayLengthLimit X.admits]; omega
  have hh2 : ¬ k.toNatClampNeg * componentBytes (.array ty) > e.platform.maxHeapBytes := by
    rw [Launch.admits_maxHeapBytes X.admits]; show ¬ k.toNatClampNeg * 4 > 536870912; omega
  have hl3 : ¬ z.toNatClampNeg > e.platform.arrayLengthLimit := by rw [Launch.admits_arrayLengthLimit X.admits]; omega
  have hh3 : ¬ z.toNatClampNeg * componentBytes ty > e.platform.maxHeapBytes := by rw [Launch.admits_maxHeapBytes X.admits]; omega
  jvm_step X.here [hexec, hdg]
  simp only [multianewarray.sem, wp_bind', W.resolveClassAt_links (State.method?_setTop g X.here.top) hg₁]
  rw [W.popN, if_neg (by decide)]
  refine ⟨g, State.topJava?_setTop' (s := T.setVm vm₁) g X.here.top, [.int n, .int k, .int z], rest, rfl, hstack, ?_⟩
  simp only [List.mapM_cons, List.mapM_nil, wp_bind', wp_pure']
  refine wp_make3 (k1 := k1') (k2 := k2') (k3 := k3') (cc := cc) (t1 := .array (.array ty)) (t2 := .array ty) (type := ty) hk1' (by rw [he1]; exact hkind1) rfl hk2' (by rw [he2]; exact hkind2) rfl hk3' (by rw [he3]; exact hkind3) hn hk hz hl1 hh1 hl2 hh2 hl3 hh3 hdf hdd (by show T.heap.size + 1 + _ ≤ _; omega) (by show T.slotsUsed + _ + _ ≤ _; omega) (fun d' acts' => ?_)
  have eS : ((T.setTop g).setVm vm₁).setTop { g with stack := rest } = (T.setVm vm₁).setTop { g with stack := rest } := by
    show ((T.setVm vm₁).setTop g).setTop _ = _
    rw [State.setTop_setTop]
  rw [eS, fill3_setTop]
  simp only [wp_bind', W.mark, W.pushRef, State.topJava?_setTop' _ XF.here.top, Option.some.injEq, exists_eq_left', State.setTop_setTop, State.heap_setTop]
  intro acts
  simp [jvm, XF.here.top]
  exact hrest
end CU2
