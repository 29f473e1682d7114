/-! the pure meaning: bridges, tolls, what each pays -/
abbrev Br := (Nat → Nat) × (Nat → Nat) × (Nat → Nat) × (Nat → Nat → Nat)
theorem if_le {c : Prop} [Decidable c] {a b n : Nat} (ha : a ≤ n) (hb : b ≤ n) : (if c then a else b) ≤ n := by
  split
  · exact ha
  · exact hb
def noonS (s : Nat → Nat) : Nat → Nat
  | 0 => if s 0 = 0 then 2700 else s 0
  | d + 1 => if s (d + 1) = 0 then noonS s d else s (d + 1)
def WB (B : Br) : Prop := B.1 0 ≤ 8 ∧ (1 ≤ B.1 1 ∧ B.1 1 ≤ 9) ∧ (B.1 2 < B.1 3 ∧ B.1 3 ≤ 1439) ∧ (1 ≤ B.1 4 ∧ B.1 4 ≤ 60) ∧ B.1 5 ≤ 16 ∧ B.1 6 ≤ 5400 ∧ B.1 7 ≤ 1 ∧ B.1 8 ≤ 1 ∧ B.1 9 ≤ 60 ∧ B.1 10 ≤ 99 ∧ (∀ d, B.2.1 d = 0 ∨ (60 ≤ B.2.1 d ∧ B.2.1 d ≤ 5400)) ∧ (∀ d, B.2.2.1 d ≤ 1) ∧
  (∀ k, k < B.1 0 → (50 ≤ B.2.2.2 k 0 ∧ B.2.2.2 k 0 ≤ 400) ∧ (1 ≤ B.2.2.2 k 1 ∧ B.2.2.2 k 1 ≤ 999) ∧ B.2.2.2 k 2 ≤ B.2.2.2 k 3 ∧ B.2.2.2 k 3 ≤ 1439 ∧ B.2.2.2 k 4 ≤ 9 ∧ B.2.2.2 k 5 ≤ 99 ∧ B.2.2.2 k 6 ≤ 400) ∧ (∀ k i, B.1 0 ≤ k → B.2.2.2 k i = 0)
/-- bounds of a traveller's numbers, of those that there are and of the others -/
theorem WB.who {B : Br} (h : WB B) (k : Nat) : B.2.2.2 k 0 ≤ 400 ∧ B.2.2.2 k 1 ≤ 999 ∧ B.2.2.2 k 2 ≤ 1439 ∧ B.2.2.2 k 3 ≤ 1439 ∧ B.2.2.2 k 4 ≤ 9 ∧ B.2.2.2 k 5 ≤ 99 ∧ B.2.2.2 k 6 ≤ 400 := by
  obtain ⟨_, _, _, _, _, _, _, _, _, _, _, _, h1, h2⟩ := h
  by_cases hk : k < B.1 0
  · obtain ⟨a, b, c, d, e, f, g⟩ := h1 k hk
    exact ⟨a.2, b.2, by omega, d, e, f, g⟩
  · have hk2 : B.1 0 ≤ k := Nat.le_of_not_lt hk
    rw [h2 k 0 hk2, h2 k 1 hk2, h2 k 2 hk2, h2 k 3 hk2, h2 k 4 hk2, h2 k 5 hk2, h2 k 6 hk2]
    omega
theorem noonS_b {s : Nat → Nat} (h : ∀ d, s d = 0 ∨ (60 ≤ s d ∧ s d ≤ 5400)) : ∀ d, 60 ≤ noonS s d ∧ noonS s d ≤ 5400
  | 0 => by
    unfold noonS
    have := h 0
    split <;> omega
  | d + 1 => by
    unfold noonS
    have := h (d + 1)
    have := noonS_b h d
    split <;> omega
def altB (B : Br) (b d m : Nat) : Nat :=
  let n := if b = 0 then 720 else 720 - B.1 9
  let x := noonS B.2.1 d - B.1 1 * ((m - n) + (n - m))
  if x = 0 then B.1 6 else x
theorem altB_b {B : Br} (h : WB B) (b d m : Nat) : altB B b d m ≤ 5400 := by
  obtain ⟨_, _, _, _, _, h6, _, _, _, _, h11, _, _, _⟩ := h
  have h1 := noonS_b h11 d
  unfold altB
  simp only
  generalize B.1 1 * _ = D
  exact if_le h6 (by omega)
def shB (hh a : Nat) : Nat := if a = 0 then 0 else if hh * (5400 - a) / a < 9999 then hh * (5400 - a) / a else 9999
theorem shB_b (hh a : Nat) : shB hh a ≤ 9999 := by
  unfold shB
  split
  · omega
  · split <;> omega
/-- a toll's steps: numbers for themselves, facts -1 to -6, what joins, -14 not, -17 pay, -18 pay if -/
def jn (t a b : Int32) : Int32 :=
  if t = -15 then a &&& b else if t = -14 then a ||| b else if t = -13 then (if ¬ a = b then 0 else 1) else if t = -12 then (if a ≤ b then 0 else 1) else if t = -11 then (if b ≤ a then 0 else 1)
  else if t = -10 then (if ¬ b = 0 then a / b else 0) else if t = -9 then a * b else if t = -8 then a - b else if t = -7 then a + b else a ||| b
def ev1 (f : Nat → Int32) (t : Int32) (s : List Int32) : List Int32 :=
  if t < -6 then
    (if t = -14 then (match s with
      | a :: r => (1 - a) :: r
      | [] => [])
    else match s with
      | b :: a :: r => jn t a b :: r
      | _ => [])
  else (if t < 0 then f (-1 - t).toNatClampNeg else t) :: s
def evl (f : Nat → Int32) : List Int32 → List Int32 → List Int32
  | [], s => s
  | t :: l, s => evl f l (ev1 f t s)
theorem evl_app (f : Nat → Int32) : ∀ (l m s : List Int32), evl f (l ++ m) s = evl f m (evl f l s)
  | [], _, _ => rfl
  | t :: l, m, s => evl_app f l m (ev1 f t s)
/-- kinds of what stands on the stack: true for answers 0 and 1 -/
def ty1 (t : Int32) (s : List Bool) : Option (List Bool) :=
  if t < -6 then
    (if t = -14 then (match s with
      | true :: r => some (true :: r)
      | _ => none)
    else if t = -15 ∨ t = -16 then (match s with
      | true :: true :: r => some (true :: r)
      | _ => none)
    else if t = -11 ∨ t = -12 ∨ t = -13 then (match s with
      | false :: false :: r => some (true :: r)
      | _ => none)
    else if t = -7 ∨ t = -8 ∨ t = -9 ∨ t = -10 then (match s with
      | false :: false :: r => some (false :: r)
      | _ => none)
    else none)
  else if s.length < 60 then some (false :: s) else none
def tyl : List Int32 → List Bool → Option (List Bool)
  | [], s => some s
  | t :: l, s => match ty1 t s with
    | some s' => tyl l s'
    | none => none
theorem tyl_app : ∀ (l m : List Int32) (s s' : List Bool), tyl l s = some s' → tyl (l ++ m) s = tyl m s'
  | [], m, s, s', h => by
    have h1 : s = s' := by simpa [tyl] using h
    rw [h1]
    rfl
  | t :: l, m, s, s', h => by
    simp only [tyl, List.cons_append] at h ⊢
    cases h1 : ty1 t s with
    | none => rw [h1] at h; simp at h
    | some s1 =>
      rw [h1] at h
      simp only at h ⊢
      exact tyl_app l m s1 s' h
abbrev Row := List Int32 × Option (List Int32)
def rowOk (r : Row) : Prop := tyl r.1 [] = some [false] ∧ (∀ c, r.2 = some c → c ≠ [] ∧ tyl c [] = some [true] ∧ tyl c [false] = some [true, false])
def rowL (r : Row) : List Int32 := match r.2 with
  | none => r.1 ++ [-17]
  | some c => r.1 ++ (c ++ [-18])
def flat (rs : List Row) : List Int32 := rs.flatMap rowL
def rowV (f : Nat → Int32) (r : Row) : Int := match r.2 with
  | none => ((evl f r.1 []).headD 0).toInt
  | some c => if (evl f c []).headD 0 = 0 then 0 else ((evl f r.1 []).headD 0).toInt
def rowsV (f : Nat → Int32) : List Row → Int
  | [] => 0
  | r :: rs => rowV f r + rowsV f rs
def clampN (z : Int) : Nat := if z < 0 then 0 else if z < 9999 then z.toNat else 9999
theorem clampN_b (z : Int) : clampN z ≤ 9999 := by
  unfold clampN
  split
  · omega
  · split <;> omega
def payR (rs : List Row) (f : Nat → Int32) : Nat := clampN (rowsV f rs)
theorem payR_b (rs : List Row) (f : Nat → Int32) : payR rs f ≤ 9999 := clampN_b _
def fcts (sh hh w hr dy ft : Nat) : Nat → Int32 := fun i => if i = 0 then nI sh else if i = 1 then nI hh else if i = 2 then nI w else if i = 3 then nI hr else if i = 4 then nI dy else nI ft
def chargeB (B : Br) (rs : List Row) (a hh w d m : Nat) : Nat := payR rs (fcts (shB hh a) hh w (m / 60) d (B.2.2.1 d))
def stB (B : Br) (k : Nat) : Nat := B.2.2.2 k 0 + B.2.2.2 k 5
def fareB (B : Br) (rs : List Row) (b k d m : Nat) (dark : Bool) : Nat :=
  let a := if dark then 0 else altB B b d m
  let up := chargeB B rs a (stB B k) (B.2.2.2 k 1) d m
  if B.2.2.2 k 6 = 0 then up else if chargeB B rs a (B.2.2.2 k 6) (2 * B.2.2.2 k 1) d m < up then chargeB B rs a (B.2.2.2 k 6) (2 * B.2.2.2 k 1) d m else up
theorem fareB_b (B : Br) (rs : List Row) (b k d m : Nat) (dark : Bool) : fareB B rs b k d m dark ≤ 9999 := by
  have h1 : ∀ a hh w, chargeB B rs a hh w d m ≤ 9999 := fun a hh w => payR_b _ _
  unfold fareB
  exact if_le (h1 _ _ _) (if_le (h1 _ _ _) (h1 _ _ _))
def extraB (B : Br) (b k m : Nat) : Nat := B.2.2.2 k 4 * (m - B.2.2.2 k 2) + (if b = 0 then 0 else B.1 10)
theorem extraB_b {B : Br} (h : WB B) (b k : Nat) {m : Nat} (hm : m ≤ 1439) : extraB B b k m ≤ 13050 := by
  have h1 := h.who k
  obtain ⟨_, _, _, _, _, _, _, _, _, h10, _⟩ := h
  have h2 : B.2.2.2 k 4 * (m - B.2.2.2 k 2) ≤ 9 * 1439 := Nat.mul_le_mul h1.2.2.2.2.1 (by omega)
  unfold extraB
  split <;> omega
def slN (B : Br) : Nat := if (B.1 3 - B.1 2) / B.1 4 < 30 then (B.1 3 - B.1 2) / B.1 4 else 30
theorem slN_b (B : Br) : slN B ≤ 30 := by unfold slN; split <;> omega
def slM (B : Br) (s : Nat) : Nat := B.1 2 + s * B.1 4
theorem slM_b {B : Br} (h : WB B) {s : Nat} (hs : s < slN B) : slM B s ≤ B.1 3 := by
  obtain ⟨_, _, h3, h4, _⟩ := h
  have h1 : s < (B.1 3 - B.1 2) / B.1 4 := by
    unfold slN at hs
    split at hs <;> omega
  have h5 : (B.1 3 - B.1 2) / B.1 4 * B.1 4 ≤ B.1 3 - B.1 2 := Nat.div_mul_le_self _ _
  have h6 : s * B.1 4 ≤ (B.1 3 - B.1 2) / B.1 4 * B.1 4 := Nat.mul_le_mul_right _ (Nat.le_of_lt h1)
  unfold slM
  omega
def mayB (B : Br) (k m : Nat) : Prop := B.2.2.2 k 2 ≤ m ∧ m ≤ B.2.2.2 k 3
