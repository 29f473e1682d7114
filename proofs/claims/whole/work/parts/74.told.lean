/-! bounds of what was told; all clauses, by the program -/
theorem bn_inv {B : Br} {r : Nat × Nat × Nat × Nat} {f : Nat → Nat → Res} (h : (bn B r f).1 = 0) : r.1 = 0 ∧ bn B r f = f r.2.2.1 r.2.2.2 := by
  by_cases c : r.1 = 0
  · exact ⟨c, bn_ok c⟩
  · rw [bn_no c] at h
    exact absurd h c
theorem oneS_inv {T : Nat → Int32} {L lo hi p : Nat} {B : Br} {f : Nat → Br} (h : (oneS T L lo hi p B f).1 = 0) : ∃ v, lo ≤ v ∧ v ≤ hi ∧ (oneS T L lo hi p B f).2.2.2 = f v := by
  unfold oneS at h ⊢
  obtain ⟨a, b⟩ := bn_inv h
  obtain ⟨x, y, _⟩ := numS_ok a
  rw [b]
  exact ⟨_, x, y, rfl⟩
theorem twoS_inv {T : Nat → Int32} {L lo hi p : Nat} {B : Br} {lo2 hi2 : Nat → Nat} {f : Nat → Nat → Br} (h : (twoS T L lo hi p B lo2 hi2 f).1 = 0) : ∃ v w, lo ≤ v ∧ v ≤ hi ∧ lo2 v ≤ w ∧ w ≤ hi2 v ∧ (twoS T L lo hi p B lo2 hi2 f).2.2.2 = f v w := by
  unfold twoS at h ⊢
  obtain ⟨a, b⟩ := bn_inv h
  obtain ⟨x, y, _⟩ := numS_ok a
  rw [b] at h ⊢
  obtain ⟨a2, b2⟩ := bn_inv h
  obtain ⟨x2, y2, _⟩ := numS_ok a2
  rw [b2]
  exact ⟨_, _, x, y, x2, y2, rfl⟩
theorem WB_row {B : Br} (hw : WB B) {w i v : Nat} (hk : w < B.1 0) (hi : (i = 5 ∧ v ≤ 99) ∨ (i = 6 ∧ v ≤ 400)) : WB (setW B w i v) := by
  obtain ⟨a0, a1, a2, a4, a5, a6, a7, a8, a9, a10, b, c, d, e⟩ := hw
  refine ⟨a0, a1, a2, a4, a5, a6, a7, a8, a9, a10, b, c, fun k hk2 => ?_, fun k j hk2 => ?_⟩
  · obtain ⟨x0, x1, x2, x3, x4, x5, x6⟩ := d k hk2
    have g : ∀ j, j ≠ i → (setW B w i v).2.2.2 k j = B.2.2.2 k j := fun j hj => if_neg (fun z => hj z.2)
    have gi : (setW B w i v).2.2.2 k i = v ∨ (setW B w i v).2.2.2 k i = B.2.2.2 k i := by
      show (if k = w ∧ i = i then v else B.2.2.2 k i) = v ∨ (if k = w ∧ i = i then v else B.2.2.2 k i) = B.2.2.2 k i
      split
      · exact Or.inl rfl
      · exact Or.inr rfl
    rw [g 0 (by omega), g 1 (by omega), g 2 (by omega), g 3 (by omega), g 4 (by omega)]
    refine ⟨x0, x1, x2, x3, x4, ?_, ?_⟩
    · by_cases q : (5 : Nat) = i
      · rw [q]
        subst q
        omega
      · rw [g 5 q]; exact x5
    · by_cases q : (6 : Nat) = i
      · rw [q]
        subst q
        omega
      · rw [g 6 q]; exact x6
  · show (if k = w ∧ j = i then v else B.2.2.2 k j) = 0
    have hk3 : B.1 0 ≤ k := hk2
    rw [if_neg (by omega)]
    exact e k j hk3
theorem WB_add {B : Br} (hw : WB B) (h8 : B.1 0 < 8) {a b c d e : Nat} (ha : 50 ≤ a ∧ a ≤ 400) (hb : 1 ≤ b ∧ b ≤ 999) (hc : c ≤ d) (hd : d ≤ 1439) (he : e ≤ 9) : WB (addW B a b c d e) := by
  obtain ⟨a0, a1, a2, a4, a5, a6, a7, a8, a9, a10, b1, c1, d1, e1⟩ := hw
  have z5 := e1 (B.1 0) 5 (Nat.le_refl _)
  have z6 := e1 (B.1 0) 6 (Nat.le_refl _)
  have row : ∀ k j, (addW B a b c d e).2.2.2 k j = if k = B.1 0 ∧ j = 4 then e else if k = B.1 0 ∧ j = 3 then d else if k = B.1 0 ∧ j = 2 then c else if k = B.1 0 ∧ j = 1 then b else if k = B.1 0 ∧ j = 0 then a else B.2.2.2 k j := fun k j => rfl
  refine ⟨?_, a1, a2, a4, a5, a6, a7, a8, a9, a10, b1, c1, fun k hk => ?_, fun k j hk => ?_⟩
  · show B.1 0 + 1 ≤ 8
    omega
  · have hk2 : k < B.1 0 + 1 := hk
    by_cases q : k = B.1 0
    · subst q
      rw [row, row, row, row, row, row, row]
      simp
      omega
    · have g : ∀ j, (addW B a b c d e).2.2.2 k j = B.2.2.2 k j := fun j => by
        rw [row, if_neg (fun z => q z.1), if_neg (fun z => q z.1), if_neg (fun z => q z.1), if_neg (fun z => q z.1), if_neg (fun z => q z.1)]
      rw [g, g, g, g, g, g, g]
      exact d1 k (by omega)
  · have hk2 : B.1 0 + 1 ≤ k := hk
    have q : k ≠ B.1 0 := by omega
    rw [row, if_neg (fun z => q z.1), if_neg (fun z => q z.1), if_neg (fun z => q z.1), if_neg (fun z => q z.1), if_neg (fun z => q z.1)]
    exact e1 k j (by omega)
theorem partS_WB {T : Nat → Int32} {L p : Nat} {B : Br} (hw : WB B) {k : Nat} (h3 : k = 3 → B.1 0 < 8) (h : (partS T L p B k).1 = 0) : WB (partS T L p B k).2.2.2 := by
  have hw0 := hw
  obtain ⟨a0, a1, a2, a4, a5, a6, a7, a8, a9, a10, b, c, d, e⟩ := hw
  by_cases k0 : k = 0
  · subst k0
    obtain ⟨v, w, x1, x2, x3, x4, q⟩ := twoS_inv (show (twoS T L 0 29 p B (fun _ => 60) (fun _ => 5400) (fun d v => setS B d v)).1 = 0 from h)
    have q2 : (partS T L p B 0).2.2.2 = setS B v w := q
    rw [q2]
    refine ⟨a0, a1, a2, a4, a5, a6, a7, a8, a9, a10, fun x => ?_, c, d, e⟩
    show (if x = v then w else B.2.1 x) = 0 ∨ (60 ≤ (if x = v then w else B.2.1 x) ∧ (if x = v then w else B.2.1 x) ≤ 5400)
    split
    · exact Or.inr ⟨x3, x4⟩
    · exact b x
  by_cases k1 : k = 1
  · subst k1
    obtain ⟨v, x1, x2, q⟩ := oneS_inv (show (oneS T L 1 9 p B (fun v => setN B 1 v)).1 = 0 from h)
    have q2 : (partS T L p B 1).2.2.2 = setN B 1 v := q
    rw [q2]
    exact ⟨a0, ⟨x1, x2⟩, a2, a4, a5, a6, a7, a8, a9, a10, b, c, d, e⟩
  by_cases k2 : k = 2
  · subst k2
    obtain ⟨v, w, x1, x2, x3, x4, q⟩ := twoS_inv (show (twoS T L 0 1438 p B (fun a => a + 1) (fun _ => 1439) (fun a b => setN (setN B 2 a) 3 b)).1 = 0 from h)
    have q2 : (partS T L p B 2).2.2.2 = setN (setN B 2 v) 3 w := q
    rw [q2]
    exact ⟨a0, a1, ⟨x3, x4⟩, a4, a5, a6, a7, a8, a9, a10, b, c, d, e⟩
  by_cases k3 : k = 3
  · subst k3
    have h' : (bn B (numS T L 50 400 p) (fun p a => bn B (numS T L 1 999 p) (fun p b => bn B (numS T L 0 1439 p) (fun p c => bn B (numS T L c 1439 p) (fun p d => bn B (numS T L 0 9 p) (fun p e => (0, 0, p, addW B a b c d e))))))).1 = 0 := h
    show WB (bn B (numS T L 50 400 p) (fun p a => bn B (numS T L 1 999 p) (fun p b => bn B (numS T L 0 1439 p) (fun p c => bn B (numS T L c 1439 p) (fun p d => bn B (numS T L 0 9 p) (fun p e => (0, 0, p, addW B a b c d e))))))).2.2.2
    obtain ⟨u1, u2⟩ := bn_inv h'
    rw [u2] at h' ⊢
    obtain ⟨v1, v2⟩ := bn_inv h'
    rw [v2] at h' ⊢
    obtain ⟨w1, w2⟩ := bn_inv h'
    rw [w2] at h' ⊢
    obtain ⟨y1, y2⟩ := bn_inv h'
    rw [y2] at h' ⊢
    obtain ⟨z1, z2⟩ := bn_inv h'
    rw [z2]
    obtain ⟨n1, n2, _⟩ := numS_ok u1
    obtain ⟨n3, n4, _⟩ := numS_ok v1
    obtain ⟨n5, n6, _⟩ := numS_ok w1
    obtain ⟨n7, n8, _⟩ := numS_ok y1
    obtain ⟨n9, n10, _⟩ := numS_ok z1
    exact WB_add hw0 (h3 rfl) ⟨n1, n2⟩ ⟨n3, n4⟩ n7 n8 n10
  by_cases k4 : k = 4
  · subst k4
    obtain ⟨v, x1, x2, q⟩ := oneS_inv (show (oneS T L 1 60 p B (fun v => setN B 4 v)).1 = 0 from h)
    have q2 : (partS T L p B 4).2.2.2 = setN B 4 v := q
    rw [q2]
    exact ⟨a0, a1, a2, ⟨x1, x2⟩, a5, a6, a7, a8, a9, a10, b, c, d, e⟩
  by_cases k5 : k = 5
  · subst k5
    obtain ⟨v, w, x1, x2, x3, x4, q⟩ := twoS_inv (show (twoS T L (whoLo (B.1 0)) (B.1 0 - 1) p B (fun _ => 1) (fun _ => 99) (fun w v => setW B w 5 v)).1 = 0 from h)
    have q2 : (partS T L p B 5).2.2.2 = setW B v 5 w := q
    rw [q2]
    unfold whoLo at x1
    exact WB_row hw0 (by split at x1 <;> omega) (Or.inl ⟨rfl, x4⟩)
  by_cases k6 : k = 6
  · subst k6
    obtain ⟨v, w, x1, x2, x3, x4, q⟩ := twoS_inv (show (twoS T L (whoLo (B.1 0)) (B.1 0 - 1) p B (fun _ => 10) (fun _ => 400) (fun w v => setW B w 6 v)).1 = 0 from h)
    have q2 : (partS T L p B 6).2.2.2 = setW B v 6 w := q
    rw [q2]
    unfold whoLo at x1
    exact WB_row hw0 (by split at x1 <;> omega) (Or.inr ⟨rfl, x4⟩)
  by_cases k7 : k = 7
  · subst k7
    obtain ⟨v, x1, x2, q⟩ := oneS_inv (show (oneS T L 0 29 p B (fun d => setF B d 1)).1 = 0 from h)
    have q2 : (partS T L p B 7).2.2.2 = setF B v 1 := q
    rw [q2]
    refine ⟨a0, a1, a2, a4, a5, a6, a7, a8, a9, a10, b, fun x => ?_, d, e⟩
    show (if x = v then 1 else B.2.2.1 x) ≤ 1
    split
    · omega
    · exact c x
  by_cases k8 : k = 8
  · subst k8
    obtain ⟨v, x1, x2, q⟩ := oneS_inv (show (oneS T L 0 16 p B (fun v => setN B 5 v)).1 = 0 from h)
    have q2 : (partS T L p B 8).2.2.2 = setN B 5 v := q
    rw [q2]
    exact ⟨a0, a1, a2, a4, x2, a6, a7, a8, a9, a10, b, c, d, e⟩
  by_cases k9 : k = 9
  · subst k9
    obtain ⟨v, w, x1, x2, x3, x4, q⟩ := twoS_inv (show (twoS T L 0 60 p B (fun _ => 0) (fun _ => 99) (fun a b => setN (setN (setN B 9 a) 10 b) 8 1)).1 = 0 from h)
    have q2 : (partS T L p B 9).2.2.2 = setN (setN (setN B 9 v) 10 w) 8 1 := q
    rw [q2]
    exact ⟨a0, a1, a2, a4, a5, a6, a7, Nat.le_refl 1, x2, x4, b, c, d, e⟩
  by_cases k10 : k = 10
  · subst k10
    obtain ⟨v, x1, x2, q⟩ := oneS_inv (show (oneS T L 1 5400 p B (fun v => setN B 6 v)).1 = 0 from h)
    have q2 : (partS T L p B 10).2.2.2 = setN B 6 v := q
    rw [q2]
    exact ⟨a0, a1, a2, a4, a5, x2, a7, a8, a9, a10, b, c, d, e⟩
  have q2 : partS T L p B k = (0, 0, p, setN B 7 1) := by
    unfold partS
    rw [if_neg k0, if_neg k1, if_neg k2, if_neg k3, if_neg k4, if_neg k5, if_neg k6, if_neg k7, if_neg k8, if_neg k9, if_neg k10]
  rw [q2]
  exact ⟨a0, a1, a2, a4, a5, a6, Nat.le_refl 1, a8, a9, a10, b, c, d, e⟩
theorem clauseS_WB {T : Nat → Int32} {L n p : Nat} {B : Br} (hw : WB B) (h : (clauseS T L n p B).1 = 0) : WB (clauseS T L n p B).2.2.2 ∧ n < 40 ∧ kindS T L p < 12 := by
  unfold clauseS at h ⊢
  have kb := kdN_le T L p 12 0 rfl
  have kb2 : kindS T L p ≤ 12 := kb
  by_cases c1 : kindS T L p = 12
  · rw [if_pos c1] at h
    exact absurd h (by decide : ¬ (1 : Nat) = 0)
  rw [if_neg c1] at h ⊢
  by_cases c2 : 40 ≤ n ∨ (kindS T L p = 3 ∧ 8 ≤ B.1 0)
  · rw [if_pos c2] at h
    exact absurd h (by decide : ¬ (3 : Nat) = 0)
  rw [if_neg c2] at h ⊢
  by_cases c3 : (partS T L (le T L (sk T L p)) B (kindS T L p)).1 ≠ 0
  · rw [if_pos c3] at h
    exact absurd h c3
  rw [if_neg c3] at h ⊢
  by_cases c4 : sk T L (partS T L (le T L (sk T L p)) B (kindS T L p)).2.2.1 < L ∧ T (sk T L (partS T L (le T L (sk T L p)) B (kindS T L p)).2.2.1) = 59
  · rw [if_pos c4]
    refine ⟨partS_WB hw (fun q => by omega) (Classical.not_not.mp c3), by omega, by omega⟩
  · rw [if_neg c4] at h
    exact absurd h (by decide : ¬ (1 : Nat) = 0)
