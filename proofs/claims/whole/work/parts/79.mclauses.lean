/-! a clause, and all clauses, by the model -/
section P7
variable {g : Hp} {T : Nat → Int32} {L p : Nat} {B : Br} {Q : Hp → Prop}
def gs7 (g g' : Hp) : Prop := (∀ q, q ≠ 92 → ¬ scr q → g' q = g q) ∧ (∀ i, i ≠ 4 → i ≠ 5 → i ≠ 6 → i ≠ 7 → g' 92 i = g 92 i)
theorem gs7.tr {g g1 g2 : Hp} (a : gs7 g g1) (b : gs7 g1 g2) : gs7 g g2 := ⟨fun q hq h9 => (b.1 q hq h9).trans (a.1 q hq h9), fun i x y z w => (b.2 i x y z w).trans (a.2 i x y z w)⟩
theorem gs.s7 {g g' : Hp} (a : gs g g') : gs7 g g' := ⟨a.1, fun i x y z _ => a.2 i x y z⟩
theorem em.s {g g' : Hp} {k x : Nat} (a : em g g' k x) : gs g g' := ⟨fun q hq _ => a.1 q hq, a.2.1⟩
theorem fm.s {g g' : Hp} (a : fm g g') : gs g g' := a.q.s
def outC (g : Hp) (T : Nat → Int32) (L n : Nat) (res : Res) (Q : Hp → Prop) : Prop := (∀ g', res.1 = 0 → gs7 g g' → g' 92 5 = 0 → g' 92 6 = g 92 6 → g' 92 7 = nI (n + 1) → MX g' T L res.2.2.1 → MC g' res.2.2.2 → Q g') ∧ (∀ g', res.1 ≠ 0 → gs7 g g' → g' 92 5 = nI res.1 → g' 92 6 = nI res.2.1 → g' 92 5 ≠ 0 → (∃ q, MX g' T L q) → Q g')
theorem s_clauseM (hw : WB B) (c : MX g T L p) (h5 : g 92 5 = 0) (hS : MC g B) {n : Nat} (h7 : g 92 7 = nI n) (hn : n ≤ 40) (o : outC g T L n (clauseS T L n p B) Q) : w_X9_clause g Q := by
  have h8 := hw.1
  have v0 : vp_in 0 11 := vl 0 11 (by decide) (by decide)
  have ss : sk T L (sk T L p) = sk T L p := sc_id isB T L p
  have n1 : (nI 1 : Int32) ≠ 0 := by decide
  have n3 : (nI 3 : Int32) ≠ 0 := by decide
  unfold w_X9_clause
  refine s_kindHere c h5 _ (fun m g1 hm f1 k1 c1 => ?_) (fun g1 f1 k1 c1 => ?_)
  · have z1 : g1 92 5 = 0 := (f1.2 5 (by decide)).trans h5
    obtain ⟨R, hR⟩ : ∃ R, partS T L (le T L (sk T L p)) B (mkS m) = R := ⟨_, rfl⟩
    have eo : clauseS T L n p B = if mkS m = 12 then (1, sk T L p, 0, B) else if 40 ≤ n ∨ (mkS m = 3 ∧ 8 ≤ B.1 0) then (3, sk T L p, 0, B) else if R.1 ≠ 0 then R else if sk T L R.2.2.1 < L ∧ T (sk T L R.2.2.1) = 59 then (0, 0, sk T L R.2.2.1 + 1, R.2.2.2) else (1, sk T L R.2.2.1, 0, B) := by
      unfold clauseS
      rw [k1, hR]
    have mk12 : mkS m < 12 := by
      unfold mkS
      split
      · omega
      · split <;> omega
    have mk3 : mkS m = 3 ↔ m = 4 := by
      unfold mkS
      split
      · omega
      · split <;> omega
    rw [eo, if_neg (by omega)] at o
    have s1 := hS.same h8 (fun q hq => f1.1 q (by unfold scr at hq; omega))
    have full : (40 ≤ n ∨ (mkS m = 3 ∧ 8 ≤ B.1 0)) → w_X9_clause_b47 (nI m) g1 Q := by
      intro hc
      rw [if_pos hc] at o
      unfold w_X9_clause_b47 w_X9_clause_b56
      refine s_wrong q3 c1.2.2.1 z1 _ (fun g2 e2 e4 => ?_)
      have ne : g2 92 5 ≠ 0 := by rw [e2.2.2.1]; exact n3
      exact wif_n ne (o.2 g2 (by decide : (3 : Nat) ≠ 0) (f1.s.tr e2.s).s7 e2.2.2.1 e2.2.2.2 ne ⟨_, em.mx c1 e2 e4⟩)
    have well : ¬ (40 ≤ n ∨ (mkS m = 3 ∧ 8 ≤ B.1 0)) → w_X9_clause_b56 (nI m) g1 Q := by
      intro hc
      rw [if_neg hc] at o
      unfold w_X9_clause_b56
      refine wif_p z1 (s_skipWord c1 _ (fun g2 f2 c2 => ?_))
      have e7 : g2 92 7 = nI n := by rw [f2.2 7 (by decide), f1.2 7 (by decide)]; exact h7
      rw [e7, nI_1, wlet_e]
      generalize hg : hup g2 92 7 (nI (n + 1)) = g3
      have f3 : gs7 g g3 := (f1.s.tr f2.s).s7.tr ⟨fun q hq _ => by rw [← hg, hup_ne hq], fun i _ _ _ x => by rw [← hg, hup_o (Or.inr x)]⟩
      have e37 : g3 92 7 = nI (n + 1) := by rw [← hg, hup_eq]
      have e35 : g3 92 5 = 0 := by rw [← hg, hup_o (Or.inr (by decide)), f2.2 5 (by decide)]; exact z1
      have e36 : g3 92 6 = g 92 6 := by rw [← hg, hup_o (Or.inr (by decide)), f2.2 6 (by decide), f1.2 6 (by decide)]
      have c3 : MX g3 T L (le T L (sk T L p)) := by
        obtain ⟨x1, x2, x3, x4, x5⟩ := c2
        exact ⟨by rw [← hg, hup_o (Or.inr (by decide))]; exact x1, x2, by rw [← hg, hup_o (Or.inr (by decide))]; exact x3, x4, by rw [← hg, hup_ne (by decide)]; exact x5⟩
      have s3 : MC g3 B := s1.same h8 (fun q hq => by rw [← hg, hup_ne (by unfold scr at hq; omega), f2.1 q (by unfold scr at hq; omega)])
      refine s_readsM hw c3 e35 s3 m hm (fun q => by have := mk3.mpr q; omega) ?_
      rw [hR]
      refine ⟨fun g4 e f4 c4 s4 => ?_, fun g4 e f4 x5 x6 x7 mx => ?_⟩
      · rw [if_neg (not_not_intro e)] at o
        have y5 : g4 92 5 = 0 := (f4.2 5 (by decide)).trans e35
        refine s_signM c4 y5 (by decide) _ (fun g5 f5 a b c5 => ?_) (fun g5 e5 a mx => ?_)
        · rw [if_pos ⟨a, b⟩] at o
          have hwR : WB R.2.2.2 := by
            rw [← hR]
            refine partS_WB hw (fun q => by omega) (by rw [hR]; exact e)
          exact o.1 g5 rfl (f3.tr (f4.s.tr f5.s).s7) ((f5.2 5 (by decide)).trans y5) (by rw [f5.2 6 (by decide), f4.2 6 (by decide)]; exact e36) (by rw [f5.2 7 (by decide), f4.2 7 (by decide)]; exact e37) c5 (s4.same hwR.1 (fun q hq => f5.1 q (by unfold scr at hq; omega)))
        · rw [if_neg a] at o
          have ne : g5 92 5 ≠ 0 := by rw [e5.2.2.1]; exact n1
          exact o.2 g5 (by decide : (1 : Nat) ≠ 0) (f3.tr (f4.s.tr e5.s).s7) e5.2.2.1 e5.2.2.2 ne ⟨_, mx⟩
      · rw [if_pos e] at o
        rw [e_signN x7]
        exact o.2 g4 e (f3.tr f4.s7) x5 x6 x7 mx
    have e7 : g1 92 7 = nI n := by rw [f1.2 7 (by decide)]; exact h7
    have e94 : g1 94 0 = nI (B.1 0) := s1.1 0 (by decide)
    refine wif_p (nI_m1 (by omega)) ?_
    rw [e7, q40]
    refine ⟨fun z => full (Or.inl (by have := (nI_eq (by omega) (by omega)).mp z; omega)), fun z => ?_⟩
    have z2 : n ≠ 40 := fun q => z (by rw [q])
    refine ⟨fun z3 => well (fun q => ?_), fun z3 => ⟨v0, ?_⟩⟩
    · rcases q with q | q
      · omega
      · exact z3 (by rw [mk3.mp q.1]; rfl)
    · have m4 : m = 4 := (nI_eq (b := 4) (by omega) (by decide)).mp (Classical.not_not.mp z3)
      rw [cl0, e94, q8]
      refine ⟨fun y => well (fun q => ?_), fun y => full (Or.inr ⟨mk3.mpr m4, ?_⟩)⟩
      · rcases q with q | q
        · omega
        · exact y (by rw [show B.1 0 = 8 by omega])
      · have := (nI_eq (by omega) (by omega)).mp (Classical.not_not.mp y)
        omega
  · have eo : clauseS T L n p B = (1, sk T L p, 0, B) := by
      unfold clauseS
      rw [if_pos k1]
    rw [eo] at o
    have z1 : g1 92 5 = 0 := (f1.2 5 (by decide)).trans h5
    refine wif_n (not_not_intro rfl) (s_wrong q1 c1.2.2.1 z1 _ (fun g2 e2 e4 => ?_))
    have ne : g2 92 5 ≠ 0 := by rw [e2.2.2.1]; exact n1
    unfold w_X9_clause_b56
    exact wif_n ne (o.2 g2 (by decide : (1 : Nat) ≠ 0) (f1.s.tr e2.s).s7 e2.2.2.1 e2.2.2.2 ne ⟨_, em.mx c1 e2 e4⟩)
theorem clausesS_sk {T : Nat → Int32} {L m n p : Nat} {B : Br} : (clausesS T L (m + 1) n (sk T L p) B).1 = (clausesS T L (m + 1) n p B).1 ∧ (clausesS T L (m + 1) n (sk T L p) B).2.1 = (clausesS T L (m + 1) n p B).2.1 ∧ (clausesS T L (m + 1) n (sk T L p) B) = (clausesS T L (m + 1) n p B) := by
  have ss : sk T L (sk T L p) = sk T L p := sc_id isB T L p
  have ek : kindS T L (sk T L p) = kindS T L p := by
    unfold kindS
    have : ∀ m i, kdN T L (sk T L p) m i = kdN T L p m i := by
      intro m
      induction m with
      | zero => exact fun i => rfl
      | succ m ih =>
        intro i
        unfold kdN
        rw [isW_sk ss, ih]
    exact this 12 0
  have ecl : clauseS T L n (sk T L p) B = clauseS T L n p B := by
    unfold clauseS
    rw [ek, ss]
  have e : clausesS T L (m + 1) n (sk T L p) B = clausesS T L (m + 1) n p B := by
    unfold clausesS
    rw [ss, ecl]
  exact ⟨by rw [e], by rw [e], e⟩
theorem s_bloop {p1 : Int32} {QQ : Int32 → Hp → Prop} (c : MX g T L p) (hp : sk T L p = p) (h5 : g 92 5 = 0) (h6 : g 92 6 = -1) (h7 : g 92 7 = 0) (hS : MC g B0) {R : Res} (hR : clausesS T L 42 0 p B0 = R) (h1 : ∀ g', R.1 = 0 → gs7 g g' → g' 92 5 = 0 → g' 92 6 = -1 → MC g' R.2.2.2 → WB R.2.2.2 → w_X9_bridge_b85 p1 g' QQ) (h0 : ∀ g', R.1 ≠ 0 → gs7 g g' → g' 92 5 = nI R.1 → g' 92 6 = nI R.2.1 → g' 92 5 ≠ 0 → w_X9_bridge_b85 p1 g' QQ) : w_X9_bridge_b56 p1 QQ g := by
  unfold w_X9_bridge_b56
  refine wl_run 42 (fun n (u : Hp) => (R.1 ≠ 0 ∧ gs7 g u ∧ u 92 5 = nI R.1 ∧ u 92 6 = nI R.2.1 ∧ u 92 5 ≠ 0) ∨ (n ≤ 40 ∧ gs7 g u ∧ u 92 5 = 0 ∧ u 92 6 = -1 ∧ u 92 7 = nI n ∧ ∃ q B, MX u T L q ∧ sk T L q = q ∧ MC u B ∧ WB B ∧ clausesS T L (42 - n) n q B = R)) ?_ (Nat.zero_le _) (Or.inr ⟨Nat.zero_le _, ⟨fun _ _ _ => rfl, fun _ _ _ _ _ => rfl⟩, h5, h6, h7, p, B0, c, hp, hS, WB_0, hR⟩)
  rintro n u K hn hI hK
  show w_X9_bridge_l56 p1 QQ K u
  unfold w_X9_bridge_l56
  rcases hI with ⟨e, f, x5, x6, x7⟩ | ⟨h40, f, x5, x6, x7, q, B, cu, hq, su, wu, eR⟩
  · exact wif_p x7 (h0 u e f x5 x6 x7)
  refine wif_n (not_not_intro x5) ?_
  rw [cu.1, cu.2.2.1]
  have hqL := cu.2.2.2.1
  have hL := cu.2.1
  rw [show 42 - n = (41 - n) + 1 by omega] at eR
  unfold clausesS at eR
  rw [hq] at eR
  refine ⟨fun z => ?_, fun z => ?_⟩
  · have hz : ¬ q < L := by
      have := (nI_leI (by omega) (by omega)).mp z
      omega
    rw [if_neg hz] at eR
    have r1 : R.1 = 0 := by rw [← eR]
    have r2 : R.2.2.2 = B := by rw [← eR]
    exact h1 u r1 f x5 x6 (by rw [r2]; exact su) (by rw [r2]; exact wu)
  · have hz : q < L := Nat.lt_of_not_le fun y => z ((nI_leI (by omega) (by omega)).mpr y)
    rw [if_pos hz] at eR
    refine s_clauseM wu cu x5 su x7 h40 ⟨fun g' e f' y5 y6 y7 c' s' => ?_, fun g' e f' y5 y6 ne mx => ?_⟩
    · rw [if_neg (not_not_intro e)] at eR
      obtain ⟨w2, n40, _⟩ := clauseS_WB wu e
      refine s_blanks c' _ (fun g2 f2 c2 => ?_)
      refine hK (by omega) _ (Or.inr ⟨by omega, (f.tr f').tr f2.s.s7, (f2.2 5 (by decide)).trans y5, by rw [f2.2 6 (by decide), y6]; exact x6, by rw [f2.2 7 (by decide)]; exact y7, _, _, c2, sc_id isB T L _, s'.same w2.1 (fun q hq => f2.1 q (by unfold scr at hq; omega)), w2, ?_⟩)
      rw [show 42 - (n + 1) = (40 - n) + 1 by omega, clausesS_sk.2.2]
      rw [show 41 - n = (40 - n) + 1 by omega] at eR
      exact eR
    · rw [if_pos e] at eR
      rw [eR] at e y5 y6
      obtain ⟨q', mx⟩ := mx
      refine s_blanks mx _ (fun g2 f2 _ => ?_)
      exact hK (by omega) _ (Or.inl ⟨e, (f.tr f').tr f2.s.s7, (f2.2 5 (by decide)).trans y5, (f2.2 6 (by decide)).trans y6, by rw [f2.2 5 (by decide)]; exact ne⟩)
end P7
