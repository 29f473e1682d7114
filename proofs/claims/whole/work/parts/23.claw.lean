/-! a toll's sum by the program -/
def lawQ (p : Nat) : Prop := p = 14 ∨ p = 18 ∨ p = 22 ∨ p = 26 ∨ p = 30 ∨ p = 34 ∨ p = 38
theorem tgl {p : Nat} (hp : lawQ p) : tg p 0 = p + 1 ∧ tg p 1 = p + 2 ∧ tg p 2 = p + 3 := by
  rcases hp with rfl | rfl | rfl | rfl | rfl | rfl | rfl <;> decide
def LC (p : Nat) (h : Hp) (rs : List Row) : Prop := h p 3 = nI (flat rs).length ∧ (flat rs).length ≤ 500 ∧ (∀ i, i < (flat rs).length → (flat rs)[i]? = some (h (p + 1) i)) ∧ (∀ r ∈ rs, rowOk r) ∧ rs.length ≤ 10
theorem LC.same {p : Nat} {h h' : Hp} {rs : List Row} (c : LC p h rs) (e0 : h' p 3 = h p 3) (e1 : h' (p + 1) = h (p + 1)) : LC p h' rs := by
  obtain ⟨a, b, c, d⟩ := c
  exact ⟨e0.trans a, b, by rw [e1]; exact c, d⟩
def stk (g : Nat → Int32) : List Int32 → Prop
  | [] => True
  | a :: r => g r.length = a ∧ stk g r
theorem stk_up {g : Nat → Int32} {v : Int32} : ∀ (s : List Int32) (i : Nat), s.length ≤ i → stk g s → stk (upd g i v) s
  | [], _, _, _ => trivial
  | a :: r, i, hi, hs => by
    have h1 : r.length < i := hi
    refine ⟨?_, stk_up r i (Nat.le_of_lt h1) hs.2⟩
    unfold upd
    rw [if_neg (by omega)]
    exact hs.1
/-- what the program does at one step: joins, answers and stack -/
theorem e_joined {p0 p1 p2 : Int32} {h : Hp} (Q : Int32 → Prop) : w_X0_joined p0 p1 p2 h Q = Q (jn p0 p1 p2) := by
  unfold w_X0_joined jn
  simp only [wsw, wif_e]
  by_cases c1 : p0 = -15
  · simp only [if_pos c1]
  simp only [if_neg c1]
  by_cases c2 : p0 = -14
  · simp only [if_pos c2]
  simp only [if_neg c2]
  by_cases c3 : p0 = -13
  · simp only [if_pos c3]
  simp only [if_neg c3]
  by_cases c4 : p0 = -12
  · simp only [if_pos c4]
  simp only [if_neg c4]
  by_cases c5 : p0 = -11
  · simp only [if_pos c5]
  simp only [if_neg c5]
  by_cases c6 : p0 = -10
  · simp only [if_pos c6]
    by_cases c : p2 = 0
    · rw [if_neg (not_not_intro c), if_neg (not_not_intro c)]
    · rw [if_pos c, if_pos c, and_t c]
  simp only [if_neg c6]
  by_cases c7 : p0 = -9
  · simp only [if_pos c7]
  simp only [if_neg c7]
  by_cases c8 : p0 = -8
  · simp only [if_pos c8]
  simp only [if_neg c8]
  by_cases c9 : p0 = -7
  · simp only [if_pos c9]
  simp only [if_neg c9]
/-- the whole machine over a flat list: what is paid so far, and the stack -/
def cv (f : Nat → Int32) : List Int32 → Int × List Int32 → Int × List Int32
  | [], s => s
  | t :: l, (a, s) =>
    if t = -17 then (match s with
      | v :: r => cv f l (a + v.toInt, r)
      | [] => cv f l (a, []))
    else if t = -18 then (match s with
      | c :: v :: r => cv f l (a + (if c = 0 then 0 else v.toInt), r)
      | _ => cv f l (a, s))
    else cv f l (a, ev1 f t s)
theorem cv_cons {f : Nat → Int32} {t : Int32} {l : List Int32} {a : Int} {s : List Int32} : cv f (t :: l) (a, s) = (if t = -17 then (match s with
      | v :: r => cv f l (a + v.toInt, r)
      | [] => cv f l (a, []))
    else if t = -18 then (match s with
      | c :: v :: r => cv f l (a + (if c = 0 then 0 else v.toInt), r)
      | _ => cv f l (a, s))
    else cv f l (a, ev1 f t s)) := rfl
/-- kinds over a flat list -/
def tyf : List Int32 → List Bool → Prop
  | [], s => s = []
  | t :: l, s =>
    if t = -17 then (match s with
      | [false] => tyf l []
      | _ => False)
    else if t = -18 then (match s with
      | [true, false] => tyf l []
      | _ => False)
    else match ty1 t s with
      | some s' => tyf l s'
      | none => False
theorem ty1_no {t : Int32} {s s' : List Bool} (h : ty1 t s = some s') : t ≠ -17 ∧ t ≠ -18 := by
  constructor
  · intro e
    subst e
    unfold ty1 at h
    rw [if_pos (by decide), if_neg (by decide), if_neg (by decide), if_neg (by decide), if_neg (by decide)] at h
    simp at h
  · intro e
    subst e
    unfold ty1 at h
    rw [if_pos (by decide), if_neg (by decide), if_neg (by decide), if_neg (by decide), if_neg (by decide)] at h
    simp at h
theorem tyf_app : ∀ (l m : List Int32) (s s' : List Bool), tyl l s = some s' → tyf m s' → tyf (l ++ m) s
  | [], m, s, s', h, hm => by
    have h1 : s = s' := by simpa [tyl] using h
    rw [h1]
    exact hm
  | t :: l, m, s, s', h, hm => by
    simp only [tyl] at h
    cases h1 : ty1 t s with
    | none => rw [h1] at h; simp at h
    | some s1 =>
      rw [h1] at h
      have hn := ty1_no h1
      show tyf (t :: (l ++ m)) s
      unfold tyf
      rw [if_neg hn.1, if_neg hn.2, h1]
      exact tyf_app l m s1 s' h hm
theorem cv_app {f : Nat → Int32} : ∀ (l m : List Int32) (s s' : List Bool) (a : Int) (st : List Int32), tyl l s = some s' → cv f (l ++ m) (a, st) = cv f m (a, evl f l st)
  | [], _, _, _, _, _, _ => rfl
  | t :: l, m, s, s', a, st, h => by
    simp only [tyl] at h
    cases h1 : ty1 t s with
    | none => rw [h1] at h; simp at h
    | some s1 =>
      rw [h1] at h
      have hn := ty1_no h1
      show cv f (t :: (l ++ m)) (a, st) = cv f m (a, evl f l (ev1 f t st))
      rw [cv_cons, if_neg hn.1, if_neg hn.2]
      exact cv_app l m s1 s' a _ h
theorem tyf_flat : ∀ (rs : List Row), (∀ r ∈ rs, rowOk r) → tyf (flat rs) []
  | [], _ => rfl
  | r :: rs, h => by
    have h1 := h r List.mem_cons_self
    have h2 := tyf_flat rs (fun r' hr' => h r' (List.mem_cons_of_mem _ hr'))
    show tyf (rowL r ++ flat rs) []
    unfold rowL
    obtain ⟨E, C⟩ := r
    cases C with
    | none =>
      simp only [List.append_assoc]
      refine tyf_app E _ [] [false] h1.1 ?_
      show tyf (-17 :: flat rs) [false]
      unfold tyf
      rw [if_pos rfl]
      exact h2
    | some c =>
      simp only [List.append_assoc]
      refine tyf_app E _ [] [false] h1.1 ?_
      have h4 := (h1.2 c rfl).2.2
      refine tyf_app c _ [false] [true, false] h4 ?_
      show tyf (-18 :: flat rs) [true, false]
      unfold tyf
      rw [if_neg (by decide), if_pos rfl]
      exact h2

theorem ev1_frame {f : Nat → Int32} {t : Int32} {ks ks' : List Bool} {s : List Int32} (u : List Int32) (h : ty1 t ks = some ks') (hl : ks.length = s.length) : ev1 f t (s ++ u) = ev1 f t s ++ u ∧ (ev1 f t s).length = ks'.length := by
  unfold ty1 at h
  unfold ev1
  split at h
  · rename_i c1
    rw [if_pos c1, if_pos c1]
    split at h
    · rename_i c2
      rw [if_pos c2, if_pos c2]
      cases ks with
      | nil => simp at h
      | cons k ks =>
        cases k with
        | false => simp at h
        | true =>
          cases s with
          | nil => simp at hl
          | cons a s =>
            simp at h hl
            subst h
            simp [hl]
    · rename_i c2
      rw [if_neg c2, if_neg c2]
      have main : ∃ x y z r, ks = x :: y :: r ∧ ks' = z :: r := by
        split at h
        · split at h
          · exact ⟨_, _, _, _, rfl, (Option.some.inj h).symm⟩
          · simp at h
        · split at h
          · split at h
            · exact ⟨_, _, _, _, rfl, (Option.some.inj h).symm⟩
            · simp at h
          · split at h
            · split at h
              · exact ⟨_, _, _, _, rfl, (Option.some.inj h).symm⟩
              · simp at h
            · simp at h
      obtain ⟨x, y, z, r, rfl, rfl⟩ := main
      match s, hl with
      | b :: a :: s, hl =>
        simp at hl
        simp [hl]
  · rename_i c1
    rw [if_neg c1, if_neg c1]
    split at h
    · have h2 := (Option.some.inj h).symm
      subst h2
      simp [hl]
    · simp at h
theorem evl_frame {f : Nat → Int32} : ∀ (l : List Int32) {ks ks' : List Bool} {s : List Int32} (u : List Int32), tyl l ks = some ks' → ks.length = s.length → evl f l (s ++ u) = evl f l s ++ u ∧ (evl f l s).length = ks'.length
  | [], ks, ks', s, u, h, hl => by
    have h1 : ks = ks' := by simpa [tyl] using h
    rw [← h1]
    exact ⟨rfl, hl.symm⟩
  | t :: l, ks, ks', s, u, h, hl => by
    simp only [tyl] at h
    cases h1 : ty1 t ks with
    | none => rw [h1] at h; simp at h
    | some k1 =>
      rw [h1] at h
      have h2 := ev1_frame (f := f) u h1 hl
      have h3 := evl_frame (f := f) l u h h2.2.symm
      show evl f l (ev1 f t (s ++ u)) = evl f l (ev1 f t s) ++ u ∧ _
      rw [h2.1]
      exact h3
theorem len1 {s : List Int32} (h : s.length = 1) : s = [s.headD 0] := by
  match s, h with
  | [a], _ => rfl
theorem cv_flat {f : Nat → Int32} : ∀ (rs : List Row) (a : Int), (∀ r ∈ rs, rowOk r) → cv f (flat rs) (a, []) = (a + rowsV f rs, [])
  | [], a, _ => by
    show (a, []) = (a + 0, [])
    rw [Int.add_zero]
  | r :: rs, a, h => by
    have h1 := h r List.mem_cons_self
    have h2 := fun a => cv_flat (f := f) rs a (fun r' hr' => h r' (List.mem_cons_of_mem _ hr'))
    show cv f (rowL r ++ flat rs) (a, []) = (a + (rowV f r + rowsV f rs), [])
    obtain ⟨E, C⟩ := r
    have hE := evl_frame (f := f) E (s := []) [] h1.1 rfl
    have hE1 := len1 hE.2
    cases C with
    | none =>
      unfold rowL rowV
      simp only [List.append_assoc]
      rw [cv_app E _ [] [false] a [] h1.1, hE1]
      show cv f (flat rs) (a + _, []) = _
      rw [h2, Int.add_assoc]
      rfl
    | some c =>
      have hc := h1.2 c rfl
      have hC := evl_frame (f := f) c (s := []) [(evl f E []).headD 0] hc.2.1 rfl
      have hC1 := len1 hC.2
      unfold rowL rowV
      simp only [List.append_assoc]
      rw [cv_app E _ [] [false] a [] h1.1, hE1, cv_app c _ [false] [true, false] a _ hc.2.2]
      rw [show evl f c [(evl f E []).headD 0] = evl f c [] ++ [(evl f E []).headD 0] from hC.1, hC1]
      show cv f (flat rs) (a + _, []) = _
      rw [h2, Int.add_assoc]
      rfl
