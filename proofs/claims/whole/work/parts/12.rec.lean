/-! the room of methods that call themselves: by the depth -/
def Er (d : Nat) : Rm := (10 + d, 300 + 60 * d, 0, 0)
theorem er_n (d : Nat) {fr lo ml : Nat} (h1 : fr + 1 ≤ 10) (h2 : 8 + (ml + 11) + lo ≤ 300) : fr + 1 ≤ (Er (d + 1)).1 ∧ 8 + (ml + 11) + lo ≤ (Er (d + 1)).2.1 := by
  show fr + 1 ≤ 10 + (d + 1) ∧ 8 + (ml + 11) + lo ≤ 300 + 60 * (d + 1)
  omega
theorem er_r (d : Nat) {ml : Nat} (h : ml ≤ 40) : 10 + d + 1 ≤ (Er (d + 1)).1 ∧ 8 + (ml + 11) + (300 + 60 * d) ≤ (Er (d + 1)).2.1 := by
  show 10 + d + 1 ≤ 10 + (d + 1) ∧ 8 + (ml + 11) + (300 + 60 * d) ≤ 300 + 60 * (d + 1)
  omega
