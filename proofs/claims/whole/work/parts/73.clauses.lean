/-! kinds of clauses, and all clauses, by the program -/
theorem isW_sk {T : Nat → Int32} {L p p' : Nat} {w : List Nat} (h : sk T L p' = sk T L p) : isW T L w p' = isW T L w p := by
  unfold isW
  rw [h]
def kdN (T : Nat → Int32) (L p : Nat) : Nat → Nat → Nat
  | 0, _ => 12
  | n + 1, i => if isW T L (wOf (i + 1)) p = true then i else kdN T L p n (i + 1)
def kindS (T : Nat → Int32) (L p : Nat) : Nat := kdN T L p 12 0
theorem kdN_t {T : Nat → Int32} {L p n i : Nat} (h : isW T L (wOf (i + 1)) p = true) : kdN T L p (n + 1) i = i := if_pos h
theorem kdN_f {T : Nat → Int32} {L p n i : Nat} (h : isW T L (wOf (i + 1)) p = false) : kdN T L p (n + 1) i = kdN T L p n (i + 1) := if_neg (by rw [h]; decide)
theorem kdN_le (T : Nat → Int32) (L p : Nat) : ∀ n i, i + n = 12 → kdN T L p n i ≤ 12
  | 0, i, _ => Nat.le_refl _
  | n + 1, i, h => by
    unfold kdN
    split
    · omega
    · exact kdN_le T L p n (i + 1) (by omega)
section P3
variable {h : Hp} {T : Nat → Int32} {L p : Nat} {B : Br} {Q : Int32 → Hp → Prop}
/-- one word tried -/
theorem cw1 (i : Nat) (hw : (wOf (i + 1)).length < 30) {p' : Nat} (hs : sk T L p' = sk T L p) (c : CT h T L p') {n : Nat} (hk : kindS T L p = kdN T L p (n + 1) i) {G : Int32 → Hp → Prop} (h1 : ∀ h', fc h h' → kindS T L p = i → CT h' T L (le T L (sk T L p)) → G 1 h') (h0 : ∀ h', fc h h' → kindS T L p = kdN T L p n (i + 1) → CT h' T L (sk T L p) → G 0 h') : w_X7_word (i + 1) h G := by
  refine s_word c hw _ (fun h' f e c' => ?_) (fun h' f e c' => ?_)
  · rw [hs] at c'
    rw [isW_sk hs] at e
    exact h1 h' f (hk.trans (kdN_t e)) c'
  · rw [hs] at c'
    rw [isW_sk hs] at e
    exact h0 h' f (hk.trans (kdN_f e)) c'
theorem s_clauseWord (c : CT h T L p) (h1 : ∀ h', fc h h' → kindS T L p < 12 → CT h' T L (le T L (sk T L p)) → Q (nI (kindS T L p)) h') (h0 : ∀ h', fc h h' → kindS T L p = 12 → CT h' T L (sk T L p) → Q (-1) h') : w_X5_clauseWord h Q := by
  have ss : sk T L (sk T L p) = sk T L p := sc_id isB T L p
  have yes : ∀ (i : Nat) (v : Int32), v = nI i → i < 12 → ∀ h', fc h h' → kindS T L p = i → CT h' T L (le T L (sk T L p)) → Q v h' := fun i v e hi h' f k c' => by
    have := h1 h' f (by omega) c'
    rw [k] at this
    rw [e]
    exact this
  unfold w_X5_clauseWord
  refine cw1 0 (by decide) rfl c (n := 11) rfl (fun g f k c' => wif_n i10 (yes 0 _ rfl (by decide) g f k c')) (fun g1 f1 k1 c1 => wif_p rfl ?_)
  refine cw1 1 (by decide) ss c1 k1 (fun g f k c' => wif_n i10 (yes 1 _ rfl (by decide) g (f1.tr f) k c')) (fun g f k c' => wif_p rfl ?_)
  have f2 := f1.tr f
  refine cw1 2 (by decide) ss c' k (fun g f k c' => wif_n i10 (yes 2 _ rfl (by decide) g (f2.tr f) k c')) (fun g f k c' => wif_p rfl ?_)
  have f3 := f2.tr f
  refine cw1 3 (by decide) ss c' k (fun g f k c' => wif_n i10 (yes 3 _ rfl (by decide) g (f3.tr f) k c')) (fun g f k c' => wif_p rfl ?_)
  have f4 := f3.tr f
  refine cw1 4 (by decide) ss c' k (fun g f k c' => wif_n i10 (yes 4 _ rfl (by decide) g (f4.tr f) k c')) (fun g f k c' => wif_p rfl ?_)
  have f5 := f4.tr f
  refine cw1 5 (by decide) ss c' k (fun g f k c' => wif_n i10 (yes 5 _ rfl (by decide) g (f5.tr f) k c')) (fun g f k c' => wif_p rfl ?_)
  have f6 := f5.tr f
  refine cw1 6 (by decide) ss c' k (fun g f k c' => wif_n i10 (yes 6 _ rfl (by decide) g (f6.tr f) k c')) (fun g f k c' => wif_p rfl ?_)
  have f7 := f6.tr f
  refine cw1 7 (by decide) ss c' k (fun g f k c' => wif_n i10 (yes 7 _ rfl (by decide) g (f7.tr f) k c')) (fun g f k c' => wif_p rfl ?_)
  have f8 := f7.tr f
  refine cw1 8 (by decide) ss c' k (fun g f k c' => wif_n i10 (yes 8 _ rfl (by decide) g (f8.tr f) k c')) (fun g f k c' => wif_p rfl ?_)
  have f9 := f8.tr f
  refine cw1 9 (by decide) ss c' k (fun g f k c' => wif_n i10 (yes 9 _ rfl (by decide) g (f9.tr f) k c')) (fun g f k c' => wif_p rfl ?_)
  have f10 := f9.tr f
  refine cw1 10 (by decide) ss c' k (fun g f k c' => wif_n i10 (yes 10 _ rfl (by decide) g (f10.tr f) k c')) (fun g f k c' => wif_p rfl ?_)
  have f11 := f10.tr f
  refine cw1 11 (by decide) ss c' k (fun g f k c' => ?_) (fun g f k c' => ?_)
  · rw [if_neg i10]
    exact yes 11 _ rfl (by decide) g (f11.tr f) k c'
  · rw [if_pos rfl]
    exact h0 g (f11.tr f) k c'
def clauseS (T : Nat → Int32) (L n p : Nat) (B : Br) : Res :=
  if kindS T L p = 12 then (1, sk T L p, 0, B)
  else if 40 ≤ n ∨ (kindS T L p = 3 ∧ 8 ≤ B.1 0) then (3, sk T L p, 0, B)
  else if (partS T L (le T L (sk T L p)) B (kindS T L p)).1 ≠ 0 then partS T L (le T L (sk T L p)) B (kindS T L p)
  else if sk T L (partS T L (le T L (sk T L p)) B (kindS T L p)).2.2.1 < L ∧ T (sk T L (partS T L (le T L (sk T L p)) B (kindS T L p)).2.2.1) = 59 then (0, 0, sk T L (partS T L (le T L (sk T L p)) B (kindS T L p)).2.2.1 + 1, (partS T L (le T L (sk T L p)) B (kindS T L p)).2.2.2)
  else (1, sk T L (partS T L (le T L (sk T L p)) B (kindS T L p)).2.2.1, 0, B)
theorem s_clause (c : CT h T L p) (hS : CS h B) (h8 : B.1 0 ≤ 8) {p1 : Int32} (n : Nat) (e1 : p1 = nI n) (hn : n ≤ 40) (o : outs h T L (clauseS T L n p B) Q) : w_X5_clause p1 h Q := by
  subst e1
  have ss : sk T L (sk T L p) = sk T L p := sc_id isB T L p
  have ek : kindS T L (sk T L p) = kindS T L p := by
    unfold kindS
    have : ∀ m i, kdN T L (sk T L p) m i = kdN T L p m i := by
      intro m
      induction m with
      | zero => exact fun i => rfl
      | succ m ih =>
        intro i
        unfold kdN
        rw [isW_sk ss, ih]
    exact this 12 0
  unfold w_X5_clause
  refine s_start c _ (fun h1 f1 c1 => ?_)
  refine s_clauseWord c1 (fun h2 f2 k2 c2 => ?_) (fun h2 f2 k2 c2 => ?_)
  · rw [ek] at k2
    rw [ek, ss] at *
    obtain ⟨k, hk⟩ : ∃ k, kindS T L p = k := ⟨_, rfl⟩
    obtain ⟨R, hR⟩ : ∃ R, partS T L (le T L (sk T L p)) B k = R := ⟨_, rfl⟩
    have eo : clauseS T L n p B = if k = 12 then (1, sk T L p, 0, B) else if 40 ≤ n ∨ (k = 3 ∧ 8 ≤ B.1 0) then (3, sk T L p, 0, B) else if R.1 ≠ 0 then R else if sk T L R.2.2.1 < L ∧ T (sk T L R.2.2.1) = 59 then (0, 0, sk T L R.2.2.1 + 1, R.2.2.2) else (1, sk T L R.2.2.1, 0, B) := by
      unfold clauseS
      rw [hk, hR]
    rw [hk] at k2
    rw [hk]
    rw [eo, if_neg (by omega)] at o
    have s2 : CS h2 B := hS.same (fun q hq => (f2.1 q hq).trans (f1.1 q hq))
    have full : (40 ≤ n ∨ (k = 3 ∧ 8 ≤ B.1 0)) → w_X5_clause_b51 (nI n) (nI (sk T L p)) h2 Q := by
      intro hc
      rw [if_pos hc] at o
      unfold w_X5_clause_b51
      refine s_fail q3 rfl _ (fun h3 e3 => ?_)
      rw [b01]
      exact o.2 h3 (by decide : (3 : Nat) ≠ 0) ((f1.tr f2).fs.er e3)
    have well : ¬ (40 ≤ n ∨ (k = 3 ∧ 8 ≤ B.1 0)) → w_X5_clause_b61 (nI n) (nI k) h2 Q := by
      intro hc
      rw [if_neg hc] at o
      unfold w_X5_clause_b61
      have o2 := outs.to (f1.tr f2).fs o
      refine s_partsP c2 s2 h8 k k2 (fun q => by omega) ?_
      rw [hR]
      refine ⟨fun h3 e f3 c3 s3 => wif_n i10 ?_, fun h3 e f3 => wif_p rfl ?_⟩
      · rw [if_neg (not_not_intro e)] at o2
        refine s_must c3 59 _ (fun h4 f4 a b c4 => ?_) (fun h4 e4 a => ?_)
        · rw [if_pos ⟨a, b⟩] at o2
          rw [if_neg i10, b11]
          exact o2.1 h4 rfl (f3.tr f4.fs) c4 (s3.same f4.1)
        · rw [if_neg a] at o2
          rw [if_pos rfl, b01]
          exact o2.2 h4 (by decide : (1 : Nat) ≠ 0) (f3.er e4)
      · rw [if_pos e] at o2
        rw [b01]
        exact o2.2 h3 e f3
    have e84 : h2 8 4 = nI (B.1 0) := s2.1 0 (by decide)
    rw [e84, q40, q3, q8]
    refine wif_p (nI_m1 (by omega)) ⟨fun z => full (Or.inl ((nI_leI (by omega) (by omega)).mp z)), fun z => ?_⟩
    have z2 : ¬ 40 ≤ n := fun q => z ((nI_leI (by omega) (by omega)).mpr q)
    refine ⟨fun z3 => well (fun q => ?_), fun z3 => ⟨fun z4 => well (fun q => ?_), fun z4 => full (Or.inr ⟨?_, ?_⟩)⟩⟩
    · rcases q with q | q
      · exact z2 q
      · exact z3 (by rw [q.1])
    · have := (nI_ltI (by omega) (by omega)).mp z4
      omega
    · exact (nI_eq (by omega) (by omega)).mp (Classical.not_not.mp z3)
    · exact Nat.le_of_not_lt fun q => z4 ((nI_ltI (by omega) (by omega)).mpr q)
  · rw [ek] at k2
    have eo : clauseS T L n p B = (1, sk T L p, 0, B) := by
      unfold clauseS
      rw [if_pos k2]
    rw [eo] at o
    refine wif_n (not_not_intro rfl) (s_fail q1 rfl _ (fun h3 e3 => ?_))
    rw [b01]
    exact o.2 h3 (by decide : (1 : Nat) ≠ 0) ((f1.tr f2).fs.er e3)
def clausesS (T : Nat → Int32) (L : Nat) : Nat → Nat → Nat → Br → Res
  | 0, _, p, B => (0, 0, p, B)
  | m + 1, n, p, B => if sk T L p < L then (if (clauseS T L n p B).1 ≠ 0 then clauseS T L n p B else clausesS T L m (n + 1) (clauseS T L n p B).2.2.1 (clauseS T L n p B).2.2.2) else (0, 0, sk T L p, B)
end P3
