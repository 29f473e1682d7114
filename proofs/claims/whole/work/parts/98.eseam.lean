/-! the whole world stands: from the growing world to the law's loop -/
theorem idx_lt {p : Nat} (hp : p < NP) : idx p < 1458 := by
  have h : p < 1458 := hp
  unfold idx
  repeat' split
  all_goals omega
theorem ent_full {X : Cx} {h : Hp} {J : Jt} {p : Nat} (hf : fullB J p = true) : entP X h (J p) p (kd p) = entK X h p (kd p) := by
  revert hf
  unfold fullB
  generalize kd p = k
  obtain ⟨a, n, b, c, d⟩ := k
  intro hf
  rcases a with _ | _ | _ | _ | a
  · show (Sum.inr (n, (List.range (nf n)).map (fvalP X h (J p) p n)) : va_E) = Sum.inr (n, (List.range (nf n)).map (fval X h p n))
    refine congrArg (fun l => Sum.inr (n, l)) (List.map_congr_left fun k hk => ?_)
    have h2 := List.all_eq_true.mp hf k hk
    unfold fvalP fval
    by_cases c2 : fk n k = 2
    · rw [if_pos c2, if_pos c2]
      simp [c2] at h2
      rw [if_pos h2]
    · rw [if_neg c2, if_neg c2]
  · rfl
  · show (Sum.inl (X.2.1 d, n, .inr (.inr (.inr (.inr (fun j => if j < n then (if J p j = true then some (X.2.2.1 (b + c * j)) else none) else none))))) : va_E) = Sum.inl (X.2.1 d, n, .inr (.inr (.inr (.inr (fun j => if j < n then some (X.2.2.1 (b + c * j)) else none)))))
    have e : (fun j => if j < n then (if J p j = true then some (X.2.2.1 (b + c * j)) else none) else none) = fun j => if j < n then some (X.2.2.1 (b + c * j)) else none := by
      funext j
      by_cases c2 : j < n
      · rw [if_pos c2, if_pos c2, if_pos (List.all_eq_true.mp hf j (List.mem_range.mpr c2))]
      · rw [if_neg c2, if_neg c2]
    rw [e]
  · rfl
  · rfl
theorem wd_full {X : Cx} {h : Hp} {J : Jt} {H : Heap} {s : State} (w : WP X h J 1458 H s) (hf : fullJ J) : Wd X h H s := by
  have hx : ∀ (k : Nat) (q : Nat × va_E), (wsX X h)[k]? = some q → k < NP ∧ q = (X.2.2.1 k, entK X h k (kd k)) := fun k q hq => by
    have hk : k < NP := by
      have := (List.getElem?_eq_some_iff.mp hq).1
      simpa [wsX] using this
    exact ⟨hk, (Option.some.inj ((ws_at X h hk).symm.trans hq)).symm⟩
  refine ⟨fun k q hq => ?_, w.2.1, fun i j p q hp hq e => ?_, fun k q hq => ?_⟩
  · obtain ⟨hk, rfl⟩ := hx k q hq
    have := w.1 k hk (idx_lt hk)
    rw [ent_full (hf k hk)] at this
    exact this
  · obtain ⟨hi, rfl⟩ := hx i p hp
    obtain ⟨hj, rfl⟩ := hx j q hq
    have e2 : X.2.2.1 i = X.2.2.1 j := e
    rw [w.2.2.2.2 i hi, w.2.2.2.2 j hj] at e2
    exact idx_inj (Nat.add_left_cancel e2)
  · obtain ⟨hk, rfl⟩ := hx k q hq
    exact w.A hk
theorem seam {l : Launch} {X : Cx} {Q : Qf} {kc pc : Nat} {h : Hp} {J : Jt} {L : List (Nat × Value)} {st : List Value} (hl : l.stackTraces = false) (hf : fullJ J) (hg : G X M_LAW E_LAW Q kc pc L st h) : GPx l X M_LAW false E_LAW Q kc (6 * kc) pc L st h J 1458 := by
  intro p e R s m args below meth c H locs cells slots ls S Sx Y
  obtain ⟨s1, s2, s3, s4, s5, s6, s7, -, ⟨s8, -⟩, s9⟩ := S
  exact hg p l e R s m args below meth c H locs cells slots ls ⟨s1, s2, s3, s4, s5, s6, s7, Sx, hl, s8, s9⟩ ⟨wd_full Y.1 hf, Y.2.1, Y.2.2.1, Y.2.2.2⟩
theorem noon_B0 : ∀ d, noonS B0.2.1 d = 2700 := by
  intro d
  induction d with
  | zero => rfl
  | succ d ih =>
    show noonS B0.2.1 d + 0 = 2700
    rw [ih]
theorem born_RR {h : Hp} (hb : bornV h) : RR h := by
  obtain ⟨g, ⟨t1, t2, t3, t4, t5, t6⟩, ⟨m1, m2, m3, m4, m5, m6, m7, m8⟩⟩ := hb
  have q92 : ∀ q, q < 92 → h q = g q := fun q hq => m1 q (by omega) (by omega) (by omega) (by omega) (by omega)
  have qz : ∀ q, q ≠ 92 → q ≠ 95 → q ≠ 97 → q ≠ 99 → q ≠ 142 → 90 < q → h q = fun _ => 0 := fun q a b c d e f => (m1 q a b c d e).trans (t6 q (by omega) (by omega))
  have z92 : ∀ i, i ≠ 3 → i ≠ 48 → h 92 i = 0 := fun i a b => by
    rw [m4 i a b, t6 92 (by decide) (by omega)]
    rfl
  refine ⟨B0, 0, fun _ => [], r0, ?_, ?_, ⟨Nat.zero_le _, ?_, z92 18 (by decide) (by decide), fun t ht => absurd ht (Nat.not_lt_zero t), ?_, m3⟩, ⟨0, Nat.zero_le _, ?_, z92 1 (by decide) (by decide), fun j hj => absurd hj (Nat.not_lt_zero j), ?_⟩, ⟨ok_r0 0, ?_, ?_⟩, ⟨0, Nat.zero_le _, ?_, z92 32 (by decide) (by decide), fun j hj => absurd hj (Nat.not_lt_zero j)⟩⟩
  · have q3 : ∀ q, 3 ≤ q → q ≤ 7 → h q = g q := fun q _ _ => q92 q (by omega)
    obtain ⟨a1, a2, a3, a4, a5, a6, a7, a8, a9, a10, a11, b1, b2, b3, b4⟩ := t3
    refine ⟨⟨?_, fun d hd => ?_, fun d hd => ?_, fun k i hk hi => ?_⟩, fun d hd => ?_, WB_0⟩
    · rw [q3 3 (by decide) (by decide)]
      exact ⟨a1, a2, a3, a4, a5, a6, a7, a10, a11, a8, a9⟩
    · rw [q3 4 (by decide) (by decide), b1 d hd]; rfl
    · rw [q3 6 (by decide) (by decide), b3 d hd]; rfl
    · rw [q3 7 (by decide) (by decide), b4 (k * 7 + i) (by omega)]; rfl
    · rw [q3 5 (by decide) (by decide), b2 d hd, noon_B0 d]; rfl
  · refine ⟨fun i hi => ?_, fun d hd => ?_, fun d hd => ?_, fun k i hk => absurd (show k < 0 from hk) (Nat.not_lt_zero k), WB_0⟩
    · rw [m5 i hi]
      exact (show ∀ i, i < 11 → bv i = nI (B0.1 i) by decide) i hi
    · rw [m6 d hd]
      rfl
    · rw [m7 d hd]
      rfl
  · rw [q92 0 (by decide), t6 0 (by decide) (by omega)]
    rfl
  · rw [q92 34 (by decide), t6 34 (by decide) (by omega)]
    rfl
  · rw [q92 1 (by decide), t2 1 (by decide)]
    rfl
  · rw [q92 1 (by decide), t1, m2]
  · obtain ⟨v1, v2, v3, v4⟩ := t5
    refine ⟨?_, ?_, ?_, ?_, fun k hk => absurd (show k < 0 from hk) (Nat.not_lt_zero k), fun d hd => ?_, fun k hk => absurd (show k < 0 from hk) (Nat.not_lt_zero k)⟩
    · rw [q92 62 (by decide), v1]; rfl
    · rw [q92 62 (by decide), v2]; rfl
    · rw [q92 (62 + 1) (by decide), v3 0 (by decide)]; rfl
    · rw [q92 (62 + 1) (by decide), v3 1 (by decide)]; rfl
    · rw [q92 (62 + 4) (by decide), v4 d hd]; rfl
  · refine ⟨z92 30 (by decide) (by decide), z92 31 (by decide) (by decide), ?_, ?_, fun k hk => absurd (show k < 0 from hk) (Nat.not_lt_zero k), fun d hd => m8 d hd, fun k hk => absurd (show k < 0 from hk) (Nat.not_lt_zero k)⟩
    · rw [qz 141 (by decide) (by decide) (by decide) (by decide) (by decide) (by decide)]; rfl
    · rw [qz 141 (by decide) (by decide) (by decide) (by decide) (by decide) (by decide)]; rfl
  · rw [q92 0 (by decide), t6 0 (by decide) (by omega)]
    rfl
