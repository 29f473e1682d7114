/-! kinds and clauses, by the model -/
def fiv (p0 p1 p2 p3 p4 : Int32) : Int64 := if ¬ p4 = 0 then (27 : Int64) * (if ¬ p3 = 0 then (27 : Int64) * ((27 : Int64) * ((27 : Int64) * Int32.toInt64 p0 + Int32.toInt64 p1) + Int32.toInt64 p2) + Int32.toInt64 p3 else (27 : Int64) * ((27 : Int64) * Int32.toInt64 p0 + Int32.toInt64 p1) + Int32.toInt64 p2) + Int32.toInt64 p4 else (if ¬ p3 = 0 then (27 : Int64) * ((27 : Int64) * ((27 : Int64) * Int32.toInt64 p0 + Int32.toInt64 p1) + Int32.toInt64 p2) + Int32.toInt64 p3 else (27 : Int64) * ((27 : Int64) * Int32.toInt64 p0 + Int32.toInt64 p1) + Int32.toInt64 p2)
theorem e_five (p0 p1 p2 p3 p4 : Int32) (h : Hp) (Q : Int64 → Prop) : w_X9_five p0 p1 p2 p3 p4 h Q = Q (fiv p0 p1 p2 p3 p4) := by
  unfold w_X9_five fiv
  rw [wlet_e, wlet_e]
theorem lets_w : ∀ i : Fin 12, (wOf (i.val + 1)).length ≤ 9 ∧ ∀ j : Fin 9, j.val < (wOf (i.val + 1)).length → 97 ≤ (wOf (i.val + 1)).getD j.val 0 ∧ (wOf (i.val + 1)).getD j.val 0 ≤ 122 := by decide +kernel
theorem lets_i {i : Nat} (h : i < 12) : lets (wOf (i + 1)) := ⟨(lets_w ⟨i, h⟩).1, fun j hj => (lets_w ⟨i, h⟩).2 ⟨j, by have := (lets_w ⟨i, h⟩).1; show j < 9; simp only at this; omega⟩ hj⟩
theorem code_0 : fiv 19 21 14 0 0 = lz (codeW (wOf 1) : Nat) := by decide +kernel
theorem code_1 : fiv 6 1 12 12 19 = lz (codeW (wOf 2) : Nat) := by decide +kernel
theorem code_2 : ((27 : Int64) * (fiv 11 5 5 16 5) + (18 : Int64)) = lz (codeW (wOf 3) : Nat) := by decide +kernel
theorem code_4 : fiv 20 1 11 5 19 = lz (codeW (wOf 5) : Nat) := by decide +kernel
theorem code_3 : ((27 : Int64) * ((27 : Int64) * ((27 : Int64) * ((27 : Int64) * (fiv 20 18 1 22 5) + (12 : Int64)) + (12 : Int64)) + (5 : Int64)) + (18 : Int64)) = lz (codeW (wOf 4) : Nat) := by decide +kernel
theorem code_5 : fiv 8 1 20 0 0 = lz (codeW (wOf 6) : Nat) := by decide +kernel
theorem code_6 : fiv 12 9 5 19 0 = lz (codeW (wOf 7) : Nat) := by decide +kernel
theorem code_7 : fiv 6 5 1 19 20 = lz (codeW (wOf 8) : Nat) := by decide +kernel
theorem code_8 : fiv 3 12 15 21 4 = lz (codeW (wOf 9) : Nat) := by decide +kernel
theorem code_9 : ((27 : Int64) * (fiv 19 5 3 15 14) + (4 : Int64)) = lz (codeW (wOf 10) : Nat) := by decide +kernel
theorem code_10 : fiv 12 1 13 16 0 = lz (codeW (wOf 11) : Nat) := by decide +kernel
theorem code_11 : fiv 19 8 1 4 5 = lz (codeW (wOf 12) : Nat) := by decide +kernel
theorem isW_excl {T : Nat → Int32} {L p : Nat} {w w' : List Nat} (h : isW T L w p = true) (hl : w.length ≠ w'.length) : isW T L w' p = false := by
  have a := of_decide_eq_true h
  refine decide_eq_false (fun b => hl ?_)
  omega
section P6
variable {g : Hp} {T : Nat → Int32} {L p : Nat} {B : Br}
/-- one word tried -/
theorem mk1 {i : Nat} (hi : i < 12) {p' : Nat} (hs : sk T L p' = sk T L p) (c : MX g T L p') (h5 : g 92 5 = 0) {v : Int64} (e : v = lz (codeW (wOf (i + 1)) : Nat)) {G : Int32 → Hp → Prop} (h1 : ∀ g', fm g g' → isW T L (wOf (i + 1)) p = true → MX g' T L (sk T L p) → G 1 g') (h0 : ∀ g', fm g g' → isW T L (wOf (i + 1)) p = false → MX g' T L (sk T L p) → g' 92 5 = 0 → G 0 g') : w_X9_isWord v g G := by
  refine s_isWord c h5 (lets_i hi) e _ (fun g' f c' => ?_)
  rw [hs] at c'
  rw [isW_sk hs]
  by_cases y : isW T L (wOf (i + 1)) p = true
  · rw [if_pos y]
    exact h1 g' f y c'
  · rw [if_neg y]
    refine h0 g' f ?_ c' ((f.2 5 (by decide)).trans h5)
    cases q : isW T L (wOf (i + 1)) p
    · rfl
    · exact absurd q y
theorem s_kindHere (c : MX g T L p) (h5 : g 92 5 = 0) (Q : Int32 → Hp → Prop) (h1 : ∀ m g', m < 12 → fm g g' → kindS T L p = mkS m → MX g' T L (sk T L p) → Q (nI m) g') (h0 : ∀ g', fm g g' → kindS T L p = 12 → MX g' T L (sk T L p) → Q (-1) g') : w_X9_kindHere g Q := by
  have ss : sk T L (sk T L p) = sk T L p := sc_id isB T L p
  have ek : kindS T L p = kdN T L p 12 0 := rfl
  unfold w_X9_kindHere
  simp only [e_five]
  refine mk1 (i := 0) (by decide) rfl c h5 code_0 (fun g' f w c' => ?_) (fun g' f w0 c' z' => ?_)
  · exact wif_n i10 (h1 0 g' (by decide) f (by rw [ek, kdN_t w]; rfl) c')
  refine wif_p rfl ?_
  have f1 := f
  have c1 := c'
  have z1 := z'
  refine mk1 (i := 1) (by decide) ss c1 z1 code_1 (fun g' f w c' => ?_) (fun g' f w1 c' z' => ?_)
  · exact wif_n i10 (h1 1 g' (by decide) (f1.tr f) (by rw [ek, kdN_f w0, kdN_t w]; rfl) c')
  refine wif_p rfl ?_
  have f2 := (f1.tr f)
  have c2 := c'
  have z2 := z'
  refine mk1 (i := 2) (by decide) ss c2 z2 code_2 (fun g' f w c' => ?_) (fun g' f w2 c' z' => ?_)
  · exact wif_n i10 (h1 2 g' (by decide) (f2.tr f) (by rw [ek, kdN_f w0, kdN_f w1, kdN_t w]; rfl) c')
  refine wif_p rfl ?_
  have f3 := (f2.tr f)
  have c3 := c'
  have z3 := z'
  refine mk1 (i := 4) (by decide) ss c3 z3 code_4 (fun g' f w c' => ?_) (fun g' f w4 c' z' => ?_)
  · exact wif_n i10 (h1 3 g' (by decide) (f3.tr f) (by have w3 := isW_excl (w' := wOf 4) w (by decide); rw [ek, kdN_f w0, kdN_f w1, kdN_f w2, kdN_f w3, kdN_t w]; rfl) c')
  refine wif_p rfl ?_
  have f4 := (f3.tr f)
  have c4 := c'
  have z4 := z'
  refine mk1 (i := 3) (by decide) ss c4 z4 code_3 (fun g' f w c' => ?_) (fun g' f w3 c' z' => ?_)
  · exact wif_n i10 (h1 4 g' (by decide) (f4.tr f) (by rw [ek, kdN_f w0, kdN_f w1, kdN_f w2, kdN_t w]; rfl) c')
  refine wif_p rfl ?_
  have f5 := (f4.tr f)
  have c5 := c'
  have z5 := z'
  refine mk1 (i := 5) (by decide) ss c5 z5 code_5 (fun g' f w c' => ?_) (fun g' f w5 c' z' => ?_)
  · exact wif_n i10 (h1 5 g' (by decide) (f5.tr f) (by rw [ek, kdN_f w0, kdN_f w1, kdN_f w2, kdN_f w3, kdN_f w4, kdN_t w]; rfl) c')
  refine wif_p rfl ?_
  have f6 := (f5.tr f)
  have c6 := c'
  have z6 := z'
  refine mk1 (i := 6) (by decide) ss c6 z6 code_6 (fun g' f w c' => ?_) (fun g' f w6 c' z' => ?_)
  · exact wif_n i10 (h1 6 g' (by decide) (f6.tr f) (by rw [ek, kdN_f w0, kdN_f w1, kdN_f w2, kdN_f w3, kdN_f w4, kdN_f w5, kdN_t w]; rfl) c')
  refine wif_p rfl ?_
  have f7 := (f6.tr f)
  have c7 := c'
  have z7 := z'
  refine mk1 (i := 7) (by decide) ss c7 z7 code_7 (fun g' f w c' => ?_) (fun g' f w7 c' z' => ?_)
  · exact wif_n i10 (h1 7 g' (by decide) (f7.tr f) (by rw [ek, kdN_f w0, kdN_f w1, kdN_f w2, kdN_f w3, kdN_f w4, kdN_f w5, kdN_f w6, kdN_t w]; rfl) c')
  refine wif_p rfl ?_
  have f8 := (f7.tr f)
  have c8 := c'
  have z8 := z'
  refine mk1 (i := 8) (by decide) ss c8 z8 code_8 (fun g' f w c' => ?_) (fun g' f w8 c' z' => ?_)
  · exact wif_n i10 (h1 8 g' (by decide) (f8.tr f) (by rw [ek, kdN_f w0, kdN_f w1, kdN_f w2, kdN_f w3, kdN_f w4, kdN_f w5, kdN_f w6, kdN_f w7, kdN_t w]; rfl) c')
  refine wif_p rfl ?_
  have f9 := (f8.tr f)
  have c9 := c'
  have z9 := z'
  refine mk1 (i := 9) (by decide) ss c9 z9 code_9 (fun g' f w c' => ?_) (fun g' f w9 c' z' => ?_)
  · exact wif_n i10 (h1 9 g' (by decide) (f9.tr f) (by rw [ek, kdN_f w0, kdN_f w1, kdN_f w2, kdN_f w3, kdN_f w4, kdN_f w5, kdN_f w6, kdN_f w7, kdN_f w8, kdN_t w]; rfl) c')
  refine wif_p rfl ?_
  have f10 := (f9.tr f)
  have c10 := c'
  have z10 := z'
  refine mk1 (i := 10) (by decide) ss c10 z10 code_10 (fun g' f w c' => ?_) (fun g' f w10 c' z' => ?_)
  · exact wif_n i10 (h1 10 g' (by decide) (f10.tr f) (by rw [ek, kdN_f w0, kdN_f w1, kdN_f w2, kdN_f w3, kdN_f w4, kdN_f w5, kdN_f w6, kdN_f w7, kdN_f w8, kdN_f w9, kdN_t w]; rfl) c')
  refine wif_p rfl ?_
  have f11 := (f10.tr f)
  have c11 := c'
  have z11 := z'
  refine mk1 (i := 11) (by decide) ss c11 z11 code_11 (fun g' f w c' => ?_) (fun g' f w11 c' z' => ?_)
  · rw [if_neg i10]
    exact h1 11 g' (by decide) (f11.tr f) (by rw [ek, kdN_f w0, kdN_f w1, kdN_f w2, kdN_f w3, kdN_f w4, kdN_f w5, kdN_f w6, kdN_f w7, kdN_f w8, kdN_f w9, kdN_f w10, kdN_t w]; rfl) c'
  · rw [if_pos rfl]
    exact h0 g' (f11.tr f) (by rw [ek, kdN_f w0, kdN_f w1, kdN_f w2, kdN_f w3, kdN_f w4, kdN_f w5, kdN_f w6, kdN_f w7, kdN_f w8, kdN_f w9, kdN_f w10, kdN_f w11]; rfl) c'
end P6
