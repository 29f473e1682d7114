/-! the law's loop: every call keeps the relation -/
theorem step_all {xs : Nat → Int32} {i : Int32} {h : Hp} {K : Hp → Prop} (hR : RR h) (hK : ∀ h', RR h' → K h') : lw_step xs i h K := by
  obtain ⟨B, tn, tl, r, a⟩ := hR
  unfold lw_step
  refine ⟨fun _ => cs0 a hK, fun _ => ⟨fun _ => cs1 a hK, fun _ => ⟨fun _ => cs2 a hK, fun _ => ⟨fun _ => cs3 a hK, fun _ => ⟨fun _ => cs4 a hK, fun _ => ⟨fun _ => cs5 a hK, fun _ => ⟨fun _ => cs6 a hK, fun _ => ⟨fun _ => cs7 a hK, fun _ => ⟨fun _ => cs8 a hK, fun _ => ⟨fun _ => cs9 a hK, fun _ => ⟨fun _ => cs10 a hK, fun _ => ⟨fun _ => cs11 a hK, fun _ => ⟨fun _ => cs12 a hK, fun _ => ⟨fun _ => cs13 a hK, fun _ => ⟨fun _ => cs14 a hK, fun _ => ⟨fun _ => cs15 a hK, fun _ => ⟨fun _ => cs16 a hK, fun _ => ⟨fun _ => cs17 a hK, fun _ => ⟨fun _ => cs18 a hK, fun _ => ⟨fun _ => cs19 a hK, fun _ => ⟨fun _ => cs20 a hK, fun _ => ⟨fun _ => cs21 a hK, fun _ => ⟨fun _ => cs22 a hK, fun _ => ⟨fun _ => cs23 a hK, fun _ => ⟨fun _ => cs24 a hK, fun _ => ⟨fun _ => cs25 a hK, fun _ => ⟨fun _ => cs26 a hK, fun _ => ⟨fun _ => cs27 a hK, fun _ => ⟨fun _ => cs28 a hK, fun _ => ⟨fun _ => cs29 a hK, fun _ => ⟨fun _ => cs30 a hK, fun _ => ⟨fun _ => cs31 a hK, fun _ => ⟨fun _ => cs32 a hK, fun _ => ⟨fun _ => cs33 a hK, fun _ => hK _ ⟨B, tn, tl, r, a⟩⟩⟩⟩⟩⟩⟩⟩⟩⟩⟩⟩⟩⟩⟩⟩⟩⟩⟩⟩⟩⟩⟩⟩⟩⟩⟩⟩⟩⟩⟩⟩⟩⟩⟩
theorem loop_all {N : Nat} (hN : N + 8 < 2 ^ 31) {xs : Nat → Int32} {h : Hp} (hR : RR h) : wl (fun K s => lw_l N xs K s) (0, h) := by
  refine wl_run N (fun n (st : Int32 × Hp) => st.1 = nI (6 * n) ∧ 6 * n ≤ N + 5 ∧ RR st.2) ?_ (Nat.zero_le _) ⟨rfl, by omega, hR⟩
  rintro n ⟨v, g⟩ K hn ⟨e, h6, hg⟩ hK
  simp only at e hg
  subst e
  show lw_l N xs K (nI (6 * n), g)
  unfold lw_l
  refine ⟨fun _ => trivial, fun z => ?_⟩
  have hz : 6 * n + 6 ≤ N := by
    by_cases c : 6 * n + 6 ≤ N
    · exact c
    · refine absurd ?_ z
      rw [q6, nI_subZ, ← zI_n]
      exact (zI_lt (by omega) (by omega)).mpr (by omega)
  have v6 : ∀ k, k < 6 → vp_in (nI (6 * n + k)) N := fun k hk => vp_in_nI (by omega) (by omega)
  have e6 : nI (6 * n) + 6 = nI (6 * n + 6) := by rw [q6, nI_add]
  refine ⟨⟨v6 0 (by decide), ?_, ?_, ?_, ?_, ?_⟩, ?_, ?_, ?_⟩
  · rw [q1, nI_add]; exact v6 1 (by decide)
  · rw [q2, nI_add]; exact v6 2 (by decide)
  · rw [q3, nI_add]; exact v6 3 (by decide)
  · rw [q4, nI_add]; exact v6 4 (by decide)
  · rw [q5, nI_add]; exact v6 5 (by decide)
  · show (nI (6 * n)).toNatClampNeg + 6 ≤ N
    rw [nI_clamp (by omega)]
    exact hz
  · show (nI (6 * n) + 6).toNatClampNeg = (nI (6 * n)).toNatClampNeg + 6
    rw [e6, nI_clamp (by omega), nI_clamp (by omega)]
  · refine step_all hg (fun h' hr => ?_)
    show K (nI (6 * n) + 6, h')
    rw [e6]
    exact hK (by omega) _ ⟨by show nI (6 * n + 6) = nI (6 * (n + 1)); rw [show 6 * (n + 1) = 6 * n + 6 by omega], by omega, hr⟩
