/-! the best plan, as whole numbers: least over the slots from the last on -/
/-- a priced day: bits, slots at the first, all slots, who may come, costs in the light, in the dark, the rest, the penalty -/
abbrev Pz := Nat × Nat × Nat × (Nat → Nat → Bool) × (Nat → Nat → Int) × (Nat → Nat → Int) × (Nat → Nat → Int) × Int
def pB (P : Pz) : Nat := P.1
def pE (P : Pz) : Nat := P.2.1
def pA (P : Pz) : Nat := P.2.2.1
def pM (P : Pz) : Nat → Nat → Bool := P.2.2.2.1
def pC (P : Pz) : Nat → Nat → Int := P.2.2.2.2.1
def pD (P : Pz) : Nat → Nat → Int := P.2.2.2.2.2.1
def pX (P : Pz) : Nat → Nat → Int := P.2.2.2.2.2.2.1
def pP (P : Pz) : Int := P.2.2.2.2.2.2.2
def isD (B : Br) (k last : Nat) : Bool := decide (B.1 7 = 1) && (decide (last < 8) && decide (stB B k < stB B last))
/-- the least of b and of v k for those k below n with c k -/
def mnk (c : Nat → Bool) (v : Nat → Int) (b : Int) : Nat → Int
  | 0 => b
  | n + 1 => if c n = true ∧ v n < mnk c v b n then v n else mnk c v b n
def isMin (x b : Int) (S : Nat → Prop) (v : Nat → Int) : Prop := x ≤ b ∧ (∀ k, S k → x ≤ v k) ∧ (x = b ∨ ∃ k, S k ∧ x = v k)
theorem isMin_uniq {x y b : Int} {S : Nat → Prop} {v : Nat → Int} (hx : isMin x b S v) (hy : isMin y b S v) : x = y := by
  obtain ⟨a1, a2, a3⟩ := hx
  obtain ⟨b1, b2, b3⟩ := hy
  apply Int.le_antisymm
  · rcases b3 with h | ⟨k, hk, h⟩
    · rw [h]; exact a1
    · rw [h]; exact a2 k hk
  · rcases a3 with h | ⟨k, hk, h⟩
    · rw [h]; exact b1
    · rw [h]; exact b2 k hk
theorem isMin_congr {x b : Int} {S T : Nat → Prop} {v w : Nat → Int} (h : isMin x b S v) (hST : ∀ k, S k ↔ T k) (hv : ∀ k, S k → v k = w k) : isMin x b T w := by
  obtain ⟨a1, a2, a3⟩ := h
  refine ⟨a1, fun k hk => ?_, ?_⟩
  · rw [← hv k ((hST k).mpr hk)]
    exact a2 k ((hST k).mpr hk)
  · rcases a3 with h | ⟨k, hk, h⟩
    · exact Or.inl h
    · exact Or.inr ⟨k, (hST k).mp hk, h.trans (hv k hk)⟩
theorem isMin_base (b : Int) {S : Nat → Prop} (v : Nat → Int) (hS : ∀ k, ¬ S k) : isMin b b S v := ⟨Int.le_refl _, fun k hk => absurd hk (hS k), Or.inl rfl⟩
theorem isMin_add {x b : Int} {S T : Nat → Prop} {v : Nat → Int} (h : isMin x b S v) (n : Nat) (hT : ∀ k, T k ↔ S k ∨ k = n) : isMin (if v n < x then v n else x) b T v := by
  obtain ⟨a1, a2, a3⟩ := h
  by_cases c : v n < x
  · rw [if_pos c]
    refine ⟨by omega, fun k hk => ?_, Or.inr ⟨n, (hT n).mpr (Or.inr rfl), rfl⟩⟩
    rcases (hT k).mp hk with h | rfl
    · have := a2 k h
      omega
    · exact Int.le_refl _
  · rw [if_neg c]
    refine ⟨a1, fun k hk => ?_, ?_⟩
    · rcases (hT k).mp hk with h | rfl
      · exact a2 k h
      · omega
    · rcases a3 with h | ⟨k, hk, h⟩
      · exact Or.inl h
      · exact Or.inr ⟨k, (hT k).mpr (Or.inl hk), h⟩
/-- the lesser of the least of two sets -/
theorem isMin_two {x y b : Int} {S T U : Nat → Prop} {v w : Nat → Int} (hx : isMin x b S v) (hy : isMin y b T v) (hU : ∀ k, U k ↔ S k ∨ T k) (hw : ∀ k, U k → v k = w k) : isMin (if y < x then y else x) b U w := by
  refine isMin_congr (S := U) (v := v) ?_ (fun _ => Iff.rfl) hw
  obtain ⟨a1, a2, a3⟩ := hx
  obtain ⟨b1, b2, b3⟩ := hy
  by_cases c : y < x
  · rw [if_pos c]
    refine ⟨b1, fun k hk => ?_, ?_⟩
    · rcases (hU k).mp hk with h | h
      · have := a2 k h
        omega
      · exact b2 k h
    · rcases b3 with h | ⟨k, hk, h⟩
      · exact Or.inl h
      · exact Or.inr ⟨k, (hU k).mpr (Or.inr hk), h⟩
  · rw [if_neg c]
    refine ⟨a1, fun k hk => ?_, ?_⟩
    · rcases (hU k).mp hk with h | h
      · exact a2 k h
      · have := b2 k h
        omega
    · rcases a3 with h | ⟨k, hk, h⟩
      · exact Or.inl h
      · exact Or.inr ⟨k, (hU k).mpr (Or.inl hk), h⟩
theorem mnk_min (c : Nat → Bool) (v : Nat → Int) (b : Int) : ∀ n, isMin (mnk c v b n) b (fun k => k < n ∧ c k = true) v
  | 0 => isMin_base b v (fun k hk => by omega)
  | n + 1 => by
    have ih := mnk_min c v b n
    unfold mnk
    by_cases h : c n = true
    · have h2 := isMin_add ih n (T := fun k => k < n + 1 ∧ c k = true) (fun k => ⟨fun hk => ?_, fun hk => ?_⟩)
      · by_cases h3 : v n < mnk c v b n
        · rw [if_pos ⟨h, h3⟩]
          rw [if_pos h3] at h2
          exact h2
        · rw [if_neg (fun z => h3 z.2)]
          rw [if_neg h3] at h2
          exact h2
      · by_cases e : k = n
        · exact Or.inr e
        · exact Or.inl ⟨by omega, hk.2⟩
      · rcases hk with hk | rfl
        · exact ⟨by omega, hk.2⟩
        · exact ⟨by omega, h⟩
    · rw [if_neg (fun z => h z.1)]
      refine isMin_congr ih (fun k => ⟨fun hk => ⟨by omega, hk.2⟩, fun hk => ⟨?_, hk.2⟩⟩) (fun _ _ => rfl)
      have h1 : k ≠ n := fun e => h (e ▸ hk.2)
      omega
def lastA (P : Pz) (s last : Nat) : Nat := if s = pE P then 8 else last
def canB (P : Pz) (s gone k : Nat) : Bool := pM P s k && !gone.testBit k
def costB (B : Br) (P : Pz) (s k last : Nat) : Int := (if isD B k last = true then pD P s k else pC P s k) + pX P s k
/-- r slots are left -/
def DI (B : Br) (P : Pz) : Nat → Nat → Nat → Int
  | 0, gone, _ => pP P * (onesN 8 (andn (pB P) gone) : Int)
  | r + 1, gone, last => mnk (canB P (pA P - (r + 1)) gone) (fun k => costB B P (pA P - (r + 1)) k (lastA P (pA P - (r + 1)) last) + DI B P r (gone ||| 2 ^ k) k) (DI B P r gone 8) 8
/-- bounds: c at most what one costs, both ways -/
def okP (P : Pz) : Prop := pB P < 256 ∧ pE P ≤ 30 ∧ (pA P = pE P ∨ pA P = 2 * pE P) ∧ 0 ≤ pP P ∧ pP P ≤ 2 ^ 20 ∧ (∀ s k, s < pA P → k < 8 → pM P s k = true → (pB P).testBit k = true ∧ -10000 ≤ pC P s k ∧ pC P s k ≤ 10000 ∧ -10000 ≤ pD P s k ∧ pD P s k ≤ 10000 ∧ 0 ≤ pX P s k ∧ pX P s k ≤ 13050)
theorem okP.al {P : Pz} (h : okP P) : pA P ≤ 60 := by
  obtain ⟨_, h2, h3, _⟩ := h
  omega
theorem DI_b {B : Br} {P : Pz} (h : okP P) : ∀ (r gone last : Nat), r ≤ pA P → -10000 * (r : Int) ≤ DI B P r gone last ∧ DI B P r gone last ≤ 2 ^ 20 * 8
  | 0, gone, last, _ => by
    obtain ⟨_, _, _, h4, h5, _⟩ := h
    have h6 : (onesN 8 (andn (pB P) gone) : Int) ≤ 8 := by
      have := onesN_le 8 (andn (pB P) gone)
      omega
    have h7 : (0 : Int) ≤ onesN 8 (andn (pB P) gone) := by omega
    unfold DI
    refine ⟨?_, ?_⟩
    · have := Int.mul_nonneg h4 h7
      omega
    · exact Int.mul_le_mul h5 h6 h7 (by decide)
  | r + 1, gone, last, hr => by
    have ih := fun g l => DI_b (B := B) h r g l (by omega)
    unfold DI
    obtain ⟨a1, a2, a3⟩ := mnk_min (canB P (pA P - (r + 1)) gone) (fun k => costB B P (pA P - (r + 1)) k (lastA P (pA P - (r + 1)) last) + DI B P r (gone ||| 2 ^ k) k) (DI B P r gone 8) 8
    have i8 := ih gone 8
    refine ⟨?_, Int.le_trans a1 i8.2⟩
    rcases a3 with e | ⟨k, hk, e⟩
    · rw [e]
      push_cast
      omega
    · rw [e]
      have hm : pM P (pA P - (r + 1)) k = true := by
        have := hk.2
        unfold canB at this
        simp at this
        exact this.1
      obtain ⟨_, c1, c2, c3, c4, c5, c6⟩ := h.2.2.2.2.2 (pA P - (r + 1)) k (by omega) hk.1 hm
      have ik := ih (gone ||| 2 ^ k) k
      have hc : -10000 ≤ costB B P (pA P - (r + 1)) k (lastA P (pA P - (r + 1)) last) := by
        unfold costB
        split <;> omega
      simp only
      push_cast
      omega
theorem DI_b2 {B : Br} {P : Pz} (h : okP P) (r gone last : Nat) (hr : r ≤ pA P) : -600000 ≤ DI B P r gone last ∧ DI B P r gone last ≤ 2 ^ 20 * 8 := by
  have h1 := DI_b (B := B) h r gone last hr
  have h2 := h.al
  omega
/-- whether the shade of the slot ahead reaches a slot -/
def reachB (B : Br) (P : Pz) (s : Nat) : Bool := decide (B.1 7 = 1) && (decide (s ≠ 0) && (decide (s ≠ pE P) && decide (s < pA P)))
theorem mnk_congr {c c' : Nat → Bool} {v v' : Nat → Int} {b : Int} : ∀ (n : Nat), (∀ k, k < n → c k = c' k) → (∀ k, k < n → c k = true → v k = v' k) → mnk c v b n = mnk c' v' b n
  | 0, _, _ => rfl
  | n + 1, h1, h2 => by
    have ih := mnk_congr (b := b) n (fun k hk => h1 k (by omega)) (fun k hk => h2 k (by omega))
    unfold mnk
    rw [ih, h1 n (by omega)]
    by_cases h : c' n = true
    · rw [h2 n (by omega) (by rw [h1 n (by omega)]; exact h)]
    · rw [if_neg (fun z => h z.1), if_neg (fun z => h z.1)]
/-- where no shade reaches, it is all one who went right ahead -/
theorem DI_un {B : Br} {P : Pz} {s : Nat} (hs : s ≤ pA P) (hs0 : s ≠ 0) (hr : reachB B P s = false) (gone last : Nat) : DI B P (pA P - s) gone last = DI B P (pA P - s) gone 8 := by
  cases e : pA P - s with
  | zero => rfl
  | succ r =>
    have e2 : pA P - (r + 1) = s := by omega
    unfold DI
    rw [e2]
    refine mnk_congr 8 (fun _ _ => rfl) (fun k hk _ => ?_)
    have e3 : isD B k (lastA P s last) = isD B k (lastA P s 8) := by
      unfold isD lastA
      unfold reachB at hr
      by_cases h7 : B.1 7 = 1
      · by_cases h8 : s = pE P
        · rw [if_pos h8, if_pos h8]
        · exfalso
          have h9 : s < pA P := by omega
          simp [h7, hs0, h8, h9] at hr
      · simp [h7]
    unfold costB
    rw [e3]
