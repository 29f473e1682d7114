/-! where all lies at the law's start -/
set_option maxRecDepth 8000 in
theorem str_tbl : ∀ q ∈ strL, Cond.stringRef q.1 q.2.1 q.2.2 ∈ lw_tbl := by
  unfold strL
  simp only [List.forall_mem_cons]
  exact ⟨in_t3 _ (List.mem_of_getElem? (i := 168) rfl), in_t3 _ (List.mem_of_getElem? (i := 221) rfl), in_t4 _ (List.mem_of_getElem? (i := 38) rfl), in_t4 _ (List.mem_of_getElem? (i := 39) rfl), in_t4 _ (List.mem_of_getElem? (i := 40) rfl), in_t4 _ (List.mem_of_getElem? (i := 41) rfl), in_t4 _ (List.mem_of_getElem? (i := 42) rfl), in_t4 _ (List.mem_of_getElem? (i := 43) rfl), in_t4 _ (List.mem_of_getElem? (i := 44) rfl), in_t4 _ (List.mem_of_getElem? (i := 45) rfl), in_t4 _ (List.mem_of_getElem? (i := 46) rfl), in_t4 _ (List.mem_of_getElem? (i := 47) rfl), in_t4 _ (List.mem_of_getElem? (i := 48) rfl), in_t4 _ (List.mem_of_getElem? (i := 134) rfl), in_t4 _ (List.mem_of_getElem? (i := 147) rfl), in_t4 _ (List.mem_of_getElem? (i := 148) rfl), in_t4 _ (List.mem_of_getElem? (i := 149) rfl), in_t4 _ (List.mem_of_getElem? (i := 150) rfl), in_t4 _ (List.mem_of_getElem? (i := 151) rfl), in_t4 _ (List.mem_of_getElem? (i := 152) rfl), in_t4 _ (List.mem_of_getElem? (i := 158) rfl), in_t4 _ (List.mem_of_getElem? (i := 167) rfl), in_t4 _ (List.mem_of_getElem? (i := 168) rfl), in_t4 _ (List.mem_of_getElem? (i := 169) rfl), in_t4 _ (List.mem_of_getElem? (i := 182) rfl), in_t4 _ (List.mem_of_getElem? (i := 204) rfl), in_t4 _ (List.mem_of_getElem? (i := 222) rfl), in_t5 _ (List.mem_of_getElem? (i := 4) rfl), in_t5 _ (List.mem_of_getElem? (i := 14) rfl), in_t5 _ (List.mem_of_getElem? (i := 77) rfl), in_t5 _ (List.mem_of_getElem? (i := 78) rfl), in_t5 _ (List.mem_of_getElem? (i := 211) rfl), fun _ h => absurd h List.not_mem_nil⟩
theorem nc_at {args : Array Value} {s : State} (hg : (Jvm.Cond.and given_1 narrow_1).before args s = true) : ExN s := by
  have hs := flat_of_before _ hg
  have z : ∀ E ∈ xnL, ∀ F ∈ xnL, E ≠ F → Cond.not (.castable E F) ∈ flatC (Jvm.Cond.and given_1 narrow_1) := by decide +kernel
  exact fun E hE F hF hne => va_Nc.of (hs _ (z E hE F hF hne))
set_option maxRecDepth 8000 in
theorem exz_at {X : Cx} {args : Array Value} {s : State} (hts : ∀ w ∈ lw_tbl, w.before args s = true) (hg : (Jvm.Cond.and given_1 narrow_1).before args s = true) (hA : ∀ a : Nat, a < s.heap.size → ¬ AA X a) : ExZ X s s.heap := by
  have hs := flat_of_before _ hg
  refine ⟨vx_Zqof (hts _ (in_t3 _ (List.mem_of_getElem? (i := 153) rfl))) (hts _ (in_t1 _ (List.mem_of_getElem? (i := 11) rfl))) (hs _ (by decide +kernel)) hA, vx_Zqof (hts _ (in_t3 _ (List.mem_of_getElem? (i := 155) rfl))) (hts _ (in_t1 _ (List.mem_of_getElem? (i := 11) rfl))) (hs _ (by decide +kernel)) hA, va_Zof (hts _ (in_t3 _ (List.mem_of_getElem? (i := 239) rfl))) (hts _ (in_t1 _ (List.mem_of_getElem? (i := 15) rfl))) (va_eqi (hs _ (by decide +kernel))) hA, va_Zqof (hts _ (in_t4 _ (List.mem_of_getElem? (i := 15) rfl))) (hts _ (in_t1 _ (List.mem_of_getElem? (i := 17) rfl))) (hs _ (by decide +kernel)) hA⟩
theorem start_X {b L : Nat} {xs : Nat → Int32} {args : Array Value} {s : State} (hts : ∀ w ∈ lw_tbl, w.before args s = true) (hg : (Jvm.Cond.and given_1 narrow_1).before args s = true) : ∃ X : Cx, X.2.2.2 = s.heap.size ∧ X.2.2.1 SCR = b ∧ WP X hZ J0 0 s.heap s ∧ Ex X s ∧ Ax s := by
  have hAx := ax_at hts
  obtain ⟨fD, hD⟩ := Classical.axiomOfChoice (any_cls hts)
  obtain ⟨fT, hT⟩ := Classical.axiomOfChoice (any_ty hAx)
  have hS0 : ∀ i : Nat, ∃ q : Nat × Nat, i < NS → q.1 < s.heap.size ∧ q.2 < s.heap.size ∧ (sT (strL.getD i ("", 0, ""))).eval args s none [] s = some (.ref q.1) ∧ ∀ A : Nat → Prop, (∀ a : Nat, a < s.heap.size → ¬ A a) → va_O "java/lang/String" q.1 A s s.heap ∧ va_OF "java/lang/String" "coder" "B" (.int 0) q.1 A s s.heap ∧ va_OF "java/lang/String" "value" "[B" (.ref q.2) q.1 A s s.heap ∧ va_T .byte q.2 (bytL.getD i []).length (fun j => .int (nI ((bytL.getD i []).getD j 0))) A s s.heap := by
    intro i
    by_cases hi : i < NS
    · obtain ⟨a, t, h1, h2, h3, h4⟩ := any_str hg i hi
      exact ⟨(a, t), fun _ => ⟨h1, h2, h3, h4⟩⟩
    · exact ⟨(0, 0), fun h => absurd h hi⟩
  obtain ⟨fS, hS⟩ := Classical.axiomOfChoice hS0
  let ad : Nat → Nat := fun p => if p < NP then s.heap.size + idx p else if p = SCR then b else if (p - SB) % 2 = 0 then (fS ((p - SB) / 2)).1 else (fS ((p - SB) / 2)).2
  let X : Cx := ((fun c => (fD c).1, fun c => (fD c).2), fT, ad, s.heap.size)
  have hA : ∀ a : Nat, a < s.heap.size → ¬ AA X a := fun a h1 h2 => Nat.lt_irrefl _ (Nat.lt_of_lt_of_le h1 h2)
  have e0 : ∀ i, i < NS → X.2.2.1 (SB + 2 * i) = (fS i).1 := fun i hi => by
    have hi2 : i < 32 := hi
    show ad (100000 + 2 * i) = _
    show (if 100000 + 2 * i < 1458 then _ else if 100000 + 2 * i = 200000 then _ else if (100000 + 2 * i - 100000) % 2 = 0 then _ else _) = _
    rw [if_neg (by omega), if_neg (by omega), if_pos (by omega), show (100000 + 2 * i - 100000) / 2 = i by omega]
  have e1 : ∀ i, i < NS → X.2.2.1 (SB + 2 * i + 1) = (fS i).2 := fun i hi => by
    have hi2 : i < 32 := hi
    show ad (100000 + 2 * i + 1) = _
    show (if 100000 + 2 * i + 1 < 1458 then _ else if 100000 + 2 * i + 1 = 200000 then _ else if (100000 + 2 * i + 1 - 100000) % 2 = 0 then _ else _) = _
    rw [if_neg (by omega), if_neg (by omega), if_neg (by omega), show (100000 + 2 * i + 1 - 100000) / 2 = i by omega]
  refine ⟨X, rfl, rfl, ⟨fun p _ h => absurd h (Nat.not_lt_zero _), ⟨fun c q h => hD c q h, ?_⟩, rfl, fun p _ => rfl, fun p hp => ?_⟩, ⟨Nat.le_refl _, fun i hi => ?_, fun i q hq => ?_, exz_at hts hg hA, nc_at hg, fun w hw => va_Nw.of (tt_tab hw) (hts w (tt_tbl hw))⟩, hAx⟩
  · intro k q hk
    have z : ∀ d, d < 8 → ∀ ty, tyF[d]? = some ty → (tyX X)[d]? = some (fT d, ty) := by
      intro d hd ty h
      rcases d with _ | _ | _ | _ | _ | _ | _ | _ | d <;> first | (cases h; rfl) | omega
    have hk8 : k < 8 := (List.getElem?_eq_some_iff.mp hk).1
    obtain ⟨ty, hty⟩ : ∃ ty, tyF[k]? = some ty := ⟨tyF[k]'hk8, List.getElem?_eq_getElem hk8⟩
    have e := (z k hk8 ty hty).symm.trans hk
    cases e
    exact hT k ty hty
  · show ad p = s.heap.size + idx p
    exact if_pos hp
  · unfold ExS
    rw [e0 i hi, e1 i hi]
    exact (hS i hi).2.2.2 _ hA
  · have hi : i < NS := (List.getElem?_eq_some_iff.mp hq).1
    rw [e0 i hi]
    have h3 := (hS i hi).2.2.1
    have eq9 : strL.getD i ("", 0, "") = q := by rw [List.getD_eq_getElem?_getD, hq]; rfl
    rw [eq9] at h3
    exact vk_R.of (hts _ (str_tbl q (List.mem_of_getElem? hq))) h3
