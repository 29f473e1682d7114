/-! the world at the law's start: classes, rows' classes, texts, statics, the tables' words -/
def sT (q : String × Nat × String) : Term := .string q.1 q.2.1
def vT (q : String × Nat × String) : Term := .field (sT q) "java/lang/String" "value" "[B"
def sW (q : String × Nat × String) (bs : List Nat) : List Cond := [.exactly (sT q) "java/lang/String", .eq (.field (sT q) "java/lang/String" "coder" "B") (.int 0), .arrayOf (vT q) .byte, .eq (.length (vT q)) (.int (nI bs.length))] ++ (List.range bs.length).map (fun j => Cond.eq (.elem (vT q) (.int (nI j))) (.int (nI (bs.getD j 0))))
def sAll : List Cond := (List.range NS).flatMap (fun i => sW (strL.getD i ("", 0, "")) (bytL.getD i []))
theorem s_a : ((flatC (Jvm.Cond.and given_1 narrow_1)).drop 63).take 202 = sAll.take 202 := by decide +kernel
theorem s_b : ((flatC (Jvm.Cond.and given_1 narrow_1)).drop 266) = sAll.drop 202 := by decide +kernel
theorem s_in {w : Cond} (h : w ∈ sAll) : w ∈ flatC (Jvm.Cond.and given_1 narrow_1) := by
  rw [← List.take_append_drop 202 sAll] at h
  rcases List.mem_append.mp h with h | h
  · rw [← s_a] at h
    exact List.mem_of_mem_drop (List.mem_of_mem_take h)
  · rw [← s_b] at h
    exact List.mem_of_mem_drop h
theorem byt_lt : ∀ i, i < NS → (bytL.getD i []).length < 2 ^ 31 := by decide +kernel
theorem any_str {args : Array Value} {s : State} (hg : (Jvm.Cond.and given_1 narrow_1).before args s = true) (i : Nat) (hi : i < NS) : ∃ a t : Nat, a < s.heap.size ∧ t < s.heap.size ∧ (sT (strL.getD i ("", 0, ""))).eval args s none [] s = some (.ref a) ∧
    ∀ A : Nat → Prop, (∀ a : Nat, a < s.heap.size → ¬ A a) → va_O "java/lang/String" a A s s.heap ∧ va_OF "java/lang/String" "coder" "B" (.int 0) a A s s.heap ∧ va_OF "java/lang/String" "value" "[B" (.ref t) a A s s.heap ∧ va_T .byte t (bytL.getD i []).length (fun j => .int (nI ((bytL.getD i []).getD j 0))) A s s.heap := by
  have hs := flat_of_before _ hg
  generalize hq : strL.getD i ("", 0, "") = q
  generalize hb : bytL.getD i [] = bs
  have hl : bs.length < 2 ^ 31 := by rw [← hb]; exact byt_lt i hi
  have hw : ∀ w ∈ sW q bs, w.before args s = true := fun w hw => hs w (s_in (List.mem_flatMap.mpr ⟨i, List.mem_range.mpr hi, by rw [hq, hb]; exact hw⟩))
  have h1 : (Cond.exactly (sT q) "java/lang/String").before args s = true := hw _ (by simp [sW])
  have h2 : (Cond.eq (.field (sT q) "java/lang/String" "coder" "B") (.int 0)).before args s = true := hw _ (by simp [sW])
  have h3 : (Cond.arrayOf (vT q) .byte).before args s = true := hw _ (by simp [sW])
  have h4 : (Cond.eq (.length (vT q)) (.int (nI bs.length))).before args s = true := hw _ (by simp [sW])
  have h5 : ∀ j, j < bs.length → (Cond.eq (.elem (vT q) (.int (nI j))) (.int (nI (bs.getD j 0)))).before args s = true := fun j hj => hw _ (List.mem_append_right _ (List.mem_map.mpr ⟨j, List.mem_range.mpr hj, rfl⟩))
  obtain ⟨a, c, cell, k, q1, q2, q3, q4, q5, q6, -⟩ := Cond.exactly_spec (args := args) (first := s) (o := none) (s := s) (idx := []) (t := sT q) (cls := "java/lang/String") h1
  have ha : a < s.heap.size := (Array.getElem?_eq_some_iff.mp q3).1
  have e2 := va_eqt h2
  have hN : ∀ a : Nat, a < s.heap.size → ¬ (fun _ : Nat => False) a := fun _ _ h => h
  obtain ⟨t, e3, ⟨ct, t1, -⟩⟩ := va_Tof (tm := vT q) (A := fun _ => False) (f := fun j => .int (nI (bs.getD j 0))) hl h3 (va_eqt h4) (fun j hj => va_eqt (h5 j hj)) hN
  refine ⟨a, t, ha, (Array.getElem?_eq_some_iff.mp t1).1, q1, fun A hA => ⟨va_Oof h1 q1 hA, ?_, ?_, ?_⟩⟩
  · cases hfo : s.fieldFound? "java/lang/String" "coder" "B" with
    | none =>
      rw [va_fe q1] at e2
      simp [State.fieldOf?, State.fieldNamed?, hfo] at e2
    | some x =>
      obtain ⟨cf, k9, fi, f⟩ := x
      obtain ⟨g1, c9, g2, g3, -, -, g6⟩ := Term.field_spec hfo q1 e2
      exact ⟨cf, k9, fi, f, c9, hfo, g1, g2, g3, g6, hA _ (Array.getElem?_eq_some_iff.mp g2).1⟩
  · have e4 : (Term.field (sT q) "java/lang/String" "value" "[B").eval args s none [] s = some (.ref t) := e3
    cases hfo : s.fieldFound? "java/lang/String" "value" "[B" with
    | none =>
      rw [va_fe q1] at e4
      simp [State.fieldOf?, State.fieldNamed?, hfo] at e4
    | some x =>
      obtain ⟨cf, k9, fi, f⟩ := x
      obtain ⟨g1, c9, g2, g3, -, -, g6⟩ := Term.field_spec hfo q1 e4
      exact ⟨cf, k9, fi, f, c9, hfo, g1, g2, g3, g6, hA _ (Array.getElem?_eq_some_iff.mp g2).1⟩
  · obtain ⟨t9, e9, z⟩ := va_Tof (tm := vT q) (A := A) (f := fun j => .int (nI (bs.getD j 0))) hl h3 (va_eqt h4) (fun j hj => va_eqt (h5 j hj)) hA
    cases e3.symm.trans e9
    exact z
theorem tt_tbl {w : Cond} (h : w ∈ TT) : w ∈ lw_tbl := (List.mem_filter.mp h).1
theorem any_cls {args : Array Value} {s : State} (hts : ∀ w ∈ lw_tbl, w.before args s = true) (c : Nat) : ∃ D : ClassId × (Nat → Nat), ∀ q : vw_C, clsL[c]? = some q → u_Kn s q.1 q.2.1 q.2.2 D.1 D.2 := by
  have hT : ∀ w ∈ TT, w.before args s = true := fun w hw => hts w (tt_tbl hw)
  have hi : ∀ q ∈ clsL, Cond.instantiable q.1 q.2.2 ∈ TT := by
    simp only [List.forall_mem_cons]
    exact ⟨w_248, w_280, w_293, w_391, w_162, w_267, w_366, w_133, w_125, w_1343, fun _ h => absurd h List.not_mem_nil⟩
  cases hc : clsL[c]? with
  | none => exact ⟨(0, fun _ => 0), fun q h => nomatch h⟩
  | some q =>
    obtain ⟨cC, iS, h⟩ := u_known hT (cls_z hc) (hT _ (hi q (List.mem_of_getElem? hc)))
    exact ⟨(cC, iS), fun q9 h9 => by cases h9; exact h⟩
def tyF : List FieldType := [.int, .boolean, .long, .array .int, .array .boolean, .array (.array .int), .object RX0, .object RX3]
theorem arr_of {s : State} {cA comp : ClassId} {k : Class} {ty : FieldType} (h1 : s.vm.classes[cA]? = some k) (h2 : k.kind = .array comp ty) : ArrOfT s cA ty := fun N z => ⟨(fun k h => by cases h), k, h1, comp, h2⟩
theorem arr_c {args : Array Value} {s : State} {ty : FieldType} (h : (Cond.arrayClass ty).before args s = true) : ∃ cA, ArrOfT s cA ty ∧ s.vm.findClass ("[" ++ ty.toString) = some cA := by
  obtain ⟨c, k, comp, h1, h2, h3⟩ := Cond.arrayClass_spec (args := args) (first := s) (o := none) (s := s) (idx := []) (type := ty) h
  exact ⟨c, arr_of h2 h3, h1⟩
theorem arr_o {args : Array Value} {s : State} {C : String} (h : (Cond.arrayOver (.object C)).before args s = true) : ∃ cA, ArrOfT s cA (.object C) ∧ va_RA s cA (.object C) := by
  obtain ⟨comp, c, k, h1, -, h2, h3, h4⟩ := Cond.arrayOver_spec (args := args) (first := s) (o := none) (s := s) (idx := []) (n := C) h
  exact ⟨c, arr_of h2 h3, k, comp, h2, h3, h1, h4⟩
theorem arr_a {args : Array Value} {s : State} {t : FieldType} (h : (Cond.arrayOver (.array t)).before args s = true) : ∃ cA, ArrOfT s cA (.array t) ∧ s.vm.findClass ("[" ++ (FieldType.array t).toString) = some cA := by
  obtain ⟨comp, c, k, h1, h2, h3, h4⟩ := Cond.arrayOver_specA (args := args) (first := s) (o := none) (s := s) (idx := []) (t := t) h
  exact ⟨c, arr_of h2 h3, h4⟩
theorem any_ty {s : State} (hA : Ax s) (d : Nat) : ∃ cA : ClassId, ∀ ty, tyF[d]? = some ty → ArrOfT s cA ty ∧ va_RA s cA ty := by
  have z : ∀ (ty : FieldType), (∃ cA, ArrOfT s cA ty ∧ va_RA s cA ty) → ∃ cA : ClassId, ∀ ty9, some ty = some ty9 → ArrOfT s cA ty9 ∧ va_RA s cA ty9 := fun ty h => by
    obtain ⟨c, h⟩ := h
    exact ⟨c, fun t9 h9 => by cases h9; exact h⟩
  rcases d with _ | _ | _ | _ | _ | _ | _ | _ | d
  · exact z _ (arr_c hA.1)
  · exact z _ (arr_c hA.2.1)
  · exact z _ (arr_c hA.2.2.1)
  · exact z _ (arr_a hA.2.2.2.2.2.1)
  · exact z _ (arr_a hA.2.2.2.2.2.2.1)
  · exact z _ (arr_a hA.2.2.2.2.2.2.2)
  · exact z _ (arr_o hA.2.2.2.1)
  · exact z _ (arr_o hA.2.2.2.2.1)
  · exact ⟨0, fun _ h => nomatch h⟩
set_option maxRecDepth 8000 in
theorem ax_at {args : Array Value} {s : State} (hts : ∀ w ∈ lw_tbl, w.before args s = true) : Ax s := by
  have al := Vm.Alike.refl s.vm
  have f : ∀ {t : FieldType}, (Cond.arrayClass t).before args s = true → (Cond.arrayClass t).before #[] s = true := fun h => SubstrLeaves.arrayClass_alike al h
  refine ⟨f (hts _ (in_t1 _ (List.mem_of_getElem? (i := 60) rfl))), f (hts _ (in_t6 _ (List.mem_of_getElem? (i := 214) rfl))), f (hts _ (in_t8 _ (List.mem_of_getElem? (i := 147) rfl))), Cond.arrayOver_alike al (hts _ (in_t1 _ (List.mem_of_getElem? (i := 147) rfl))), Cond.arrayOver_alike al (hts _ (in_t2 _ (List.mem_of_getElem? (i := 93) rfl))), ax_b al (hts _ (in_t6 _ (List.mem_of_getElem? (i := 49) rfl))), ax_b al (hts _ (in_t6 _ (List.mem_of_getElem? (i := 53) rfl))), ax_b al (hts _ (in_t6 _ (List.mem_of_getElem? (i := 51) rfl)))⟩
