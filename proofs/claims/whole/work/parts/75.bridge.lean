/-! the bridge's text whole, by the program -/
def B0 : Br := (fun i => if i = 1 then 4 else if i = 2 then 360 else if i = 3 then 1080 else if i = 4 then 30 else 0, fun _ => 0, fun _ => 0, fun _ _ => 0)
theorem WB_0 : WB B0 := ⟨by decide, by decide, by decide, by decide, by decide, by decide, by decide, by decide, by decide, by decide, fun _ => Or.inl rfl, fun _ => Nat.zero_le _, fun k hk => absurd (show k < 0 from hk) (Nat.not_lt_zero k), fun _ _ _ => rfl⟩
def f2 (h h' : Hp) : Prop := (∀ q, q ≠ 1 → (q < 8 ∨ 12 < q) → h' q = h q) ∧ (∀ i, i ≠ 3 → h' 1 i = h 1 i)
def f2e (h h' : Hp) (k x : Nat) : Prop := (∀ q, q ≠ 1 → (q < 8 ∨ 12 < q) → h' q = h q) ∧ (∀ i, i ≠ 3 → i ≠ 4 → i ≠ 5 → h' 1 i = h 1 i) ∧ h' 1 4 = nI k ∧ h' 1 5 = nI x
theorem eleven {P : Nat → Prop} (h0 : P 0) (h1 : P 1) (h2 : P 2) (h3 : P 3) (h4 : P 4) (h5 : P 5) (h6 : P 6) (h7 : P 7) (h8 : P 8) (h9 : P 9) (h10 : P 10) : ∀ i, i < 11 → P i := fun i hi => by
  have : i = 0 ∨ i = 1 ∨ i = 2 ∨ i = 3 ∨ i = 4 ∨ i = 5 ∨ i = 6 ∨ i = 7 ∨ i = 8 ∨ i = 9 ∨ i = 10 := by omega
  rcases this with rfl | rfl | rfl | rfl | rfl | rfl | rfl | rfl | rfl | rfl | rfl <;> assumption
theorem s_beUntold {h : Hp} (Q : Hp → Prop) (hQ : ∀ h', (∀ q, q < 8 ∨ 12 < q → h' q = h q) → CS h' B0 → Q h') : w_X4_beUntold 8 h Q := by
  have t0 : tg 8 0 = 9 := by decide
  have t1 : tg 8 1 = 10 := by decide
  have t2 : tg 8 2 = 11 := by decide
  have t3 : tg 8 3 = 12 := by decide
  unfold w_X4_beUntold
  rw [t0, t1, t2, t3]
  refine s_fillRow (by decide) _ (fun h1 a1 b1 _ => ?_)
  refine s_fillRow (by decide) _ (fun h2 a2 b2 _ => ?_)
  refine s_fillRow (by decide) _ (fun h3 a3 b3 _ => ?_)
  refine s_fillRow (by decide) _ (fun h4 a4 b4 _ => ?_)
  simp only [wlet_e]
  have n : ∀ q, q ≠ 8 → hup (hup (hup (hup (hup (hup (hup (hup (hup (hup (hup h4 8 4 0) 8 5 4) 8 6 360) 8 7 1080) 8 8 30) 8 9 0) 8 10 0) 8 11 0) 8 12 0) 8 13 0) 8 14 0 q = h4 q := fun q hq => by simp only [hup_ne hq]
  refine hQ _ (fun q hq => ?_) ⟨?_, fun d hd => ?_, fun d hd => ?_, fun k i hk hi => ?_⟩
  · rw [n q (by omega), a4 q (by omega), a3 q (by omega), a2 q (by omega), a1 q (by omega)]
  · refine eleven ?_ ?_ ?_ ?_ ?_ ?_ ?_ ?_ ?_ ?_ ?_ <;> (simp [hup_at, fldx, B0]; try rfl)
  · rw [n 9 (by decide), a4 9 (by decide), a3 9 (by decide), a2 9 (by decide)]
    exact b1 d hd
  · rw [n 11 (by decide), a4 11 (by decide)]
    exact b3 d hd
  · rw [n 12 (by decide)]
    exact b4 _ (by omega)
def pnS (s : Nat → Nat) : Nat → Nat
  | 0 => 2700
  | n + 1 => noonS s n
theorem s_spread {h : Hp} {B : Br} (c : CS h B) (hw : WB B) (Q : Hp → Prop) (hQ : ∀ h', (∀ q, q ≠ 10 → h' q = h q) → (∀ d, d < 30 → h' 10 d = nI (noonS B.2.1 d)) → Q h') : w_X4_spreadSuns 8 h Q := by
  have t0 : tg 8 0 = 9 := by decide
  have t1 : tg 8 1 = 10 := by decide
  obtain ⟨a0, a1, a2, a4, a5, a6, a7, a8, a9, a10, b, _⟩ := hw
  unfold w_X4_spreadSuns w_X4_spreadSuns_b6
  refine wl_run 30 (fun n (st : Int32 × Int32 × Hp) => st.2.1 = nI n ∧ st.1 = nI (pnS B.2.1 n) ∧ (∀ q, q ≠ 10 → st.2.2 q = h q) ∧ ∀ d, d < n → st.2.2 10 d = nI (noonS B.2.1 d)) ?_ (Nat.zero_le _) ⟨rfl, rfl, fun _ _ => rfl, fun d hd => absurd hd (by omega)⟩
  rintro n ⟨v1, v2, g⟩ K hn ⟨e2, e1, fo, fd⟩ hK
  simp only at e1 e2 fo fd
  subst e1 e2
  show w_X4_spreadSuns_l6 8 Q K _ (nI n) g
  unfold w_X4_spreadSuns_l6 w_X4_spreadSuns_b32
  rw [q30, t0, t1]
  refine ⟨fun z => ?_, fun z => ?_⟩
  · have : n = 30 := by
      have := (nI_leI (by omega) (by omega)).mp z
      omega
    subst this
    exact hQ g fo fd
  have hn1 : n < 30 := Nat.lt_of_not_le fun q => z ((nI_leI (by omega) (by omega)).mpr q)
  have e9 : g 9 n = nI (B.2.1 n) := by rw [fo 9 (by decide)]; exact c.2.1 n hn1
  have hb := b n
  have nx : noonS B.2.1 n = if B.2.1 n = 0 then pnS B.2.1 n else B.2.1 n := by
    cases n with
    | zero => rfl
    | succ m => rfl
  have fin : ∀ v, v = nI (noonS B.2.1 n) → K (v, nI (n + 1), hup g 10 n v) := fun v hv => by
    refine hK hn1 _ ⟨rfl, hv, fun q hq => (hup_ne hq).trans (fo q hq), fun d hd => ?_⟩
    show hup g 10 n v 10 d = _
    by_cases ed : d = n
    · rw [ed, hup_eq, hv]
    · rw [hup_o (Or.inr ed)]
      exact fd d (by omega)
  rw [e_at (by decide), rd_n hn1 (by decide), e9]
  refine ⟨fun z0 => ?_, fun z0 => ?_⟩
  · have h0 : B.2.1 n = 0 := by
      rw [q0] at z0
      have := (nI_leI (by omega) (by omega)).mp z0
      omega
    rw [e_put (by decide), wr_n hn1 (by decide), nI_1]
    exact fin _ (by rw [nx, if_pos h0])
  · have h0 : B.2.1 n ≠ 0 := fun q => z0 (by rw [q]; decide)
    rw [e_at (by decide), rd_n hn1 (by decide), e9, e_put (by decide), wr_n hn1 (by decide), nI_1]
    exact fin _ (by rw [nx, if_neg h0])
theorem s_clauses {h : Hp} {T : Nat → Int32} {L : Nat} (c : CT h T L 0) (Q : Int32 → Hp → Prop) (h1 : ∀ h', (clausesS T L 42 0 0 B0).1 = 0 → f2 h h' → CS h' (clausesS T L 42 0 0 B0).2.2.2 → WB (clausesS T L 42 0 0 B0).2.2.2 → (∀ d, d < 30 → h' 10 d = nI (noonS (clausesS T L 42 0 0 B0).2.2.2.2.1 d)) → Q 1 h') (h0 : ∀ h', (clausesS T L 42 0 0 B0).1 ≠ 0 → f2e h h' (clausesS T L 42 0 0 B0).1 (clausesS T L 42 0 0 B0).2.1 → Q 0 h') : w_X5_clauses h Q := by
  obtain ⟨R, hR⟩ : ∃ R, clausesS T L 42 0 0 B0 = R := ⟨_, rfl⟩
  rw [hR] at h1 h0
  unfold w_X5_clauses
  refine s_beUntold _ (fun g fg sg => ?_)
  have cg : CT g T L 0 := by
    unfold CT
    rw [fg 1 (by decide), fg 2 (by decide)]
    exact c
  unfold w_X5_clauses_b9
  refine wl_run 41 (fun n (st : Int32 × Hp) => st.1 = nI n ∧ n ≤ 40 ∧ ∃ p B, CT st.2 T L p ∧ CS st.2 B ∧ WB B ∧ fs g st.2 ∧ clausesS T L (42 - n) n p B = R) ?_ (Nat.zero_le _) ⟨rfl, Nat.zero_le _, 0, B0, cg, sg, WB_0, ⟨fun _ _ _ => rfl, fun _ _ => rfl⟩, hR⟩
  rintro n ⟨v1, u⟩ K hn ⟨e1, h40, p, B, cu, su, wu, fu, eR⟩ hK
  simp only at e1 cu su fu
  subst e1
  show w_X5_clauses_l9 Q K (nI n) u
  unfold w_X5_clauses_l9 w_X5_clauses_b41
  rw [q40]
  refine wif_n (fun q => by have := (nI_ltI (by omega) (by omega)).mp q; omega) ?_
  rw [show 42 - n = (41 - n) + 1 by omega] at eR
  unfold clausesS at eR
  have fr : ∀ {u'}, fs g u' → (∀ q, q ≠ 1 → (q < 8 ∨ 12 < q) → u' q = h q) ∧ (∀ i, i ≠ 3 → u' 1 i = h 1 i) := fun {u'} f => ⟨fun q q1 q2 => (f.1 q q1 (by omega)).trans (fg q q2), fun i hi => (f.2 i hi).trans (by rw [fg 1 (by decide)])⟩
  refine s_more cu _ (fun u1 f1 c1 => ?_)
  by_cases m : sk T L p < L
  · rw [if_pos m]
    rw [if_pos m] at eR
    refine wif_n i10 ?_
    have ss : sk T L (sk T L p) = sk T L p := sc_id isB T L p
    have ecl : clauseS T L n (sk T L p) B = clauseS T L n p B := by
      have ek : kindS T L (sk T L p) = kindS T L p := by
        unfold kindS
        have : ∀ m i, kdN T L (sk T L p) m i = kdN T L p m i := by
          intro m
          induction m with
          | zero => exact fun i => rfl
          | succ m ih =>
            intro i
            unfold kdN
            rw [isW_sk ss, ih]
        exact this 12 0
      unfold clauseS
      rw [ek, ss]
    refine s_clause c1 (su.same f1.1) wu.1 n rfl h40 (Q := fun z3 h4 => wif (¬ z3 = 0) (K (nI n + 1, h4)) (Q (0 &&& 1) h4)) ?_
    rw [ecl]
    refine ⟨fun u2 e f2' c2 s2 => wif_p i10 ?_, fun u2 e f2' => wif_n (not_not_intro rfl) ?_⟩
    · rw [if_neg (not_not_intro e)] at eR
      obtain ⟨w2, n40, _⟩ := clauseS_WB wu e
      rw [nI_1]
      exact hK (by omega) _ ⟨rfl, by omega, _, _, c2, s2, w2, fu.tr (f1.fs.tr f2'), by rw [show 42 - (n + 1) = 41 - n by omega]; exact eR⟩
    · rw [if_pos e] at eR
      rw [b01]
      have f3 := (fu.tr f1.fs).fe f2'
      rw [eR] at f3 e
      exact h0 u2 e ⟨fun q q1 q2 => (f3.1 q q1 (by omega)).trans (fg q q2), fun i x y z => (f3.2.1 i x y z).trans (by rw [fg 1 (by decide)]), f3.2.2⟩
  · rw [if_neg m]
    rw [if_neg m] at eR
    refine wif_p rfl ?_
    have s1 := su.same f1.1
    refine s_spread s1 wu _ (fun u2 fo fd => ?_)
    rw [b11]
    have f3 := fr (fu.tr f1.fs)
    have r1 : R.1 = 0 := by rw [← eR]
    have r2 : R.2.2.2 = B := by rw [← eR]
    rw [r2] at h1
    refine h1 u2 r1 ⟨fun q q1 q2 => (fo q (by omega)).trans (f3.1 q q1 q2), fun i hi => by rw [fo 1 (by decide)]; exact f3.2 i hi⟩ ?_ wu fd
    unfold CS
    rw [fo 8 (by decide), fo 9 (by decide), fo 11 (by decide), fo 12 (by decide)]
    exact s1
