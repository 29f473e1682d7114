/-! all kinds of clauses, by the model -/
section P5
variable {g : Hp} {T : Nat → Int32} {L p : Nat} {B : Br} {Q : Hp → Prop}
def mkS (m : Nat) : Nat := if m = 3 then 4 else if m = 4 then 3 else m
theorem setN_comm {B : Br} {i j v w : Nat} (h : i ≠ j) : setN (setN B i v) j w = setN (setN B j w) i v := by
  unfold setN
  congr 1
  funext x
  show (if x = j then w else if x = i then v else B.1 x) = if x = i then v else if x = j then w else B.1 x
  by_cases a : x = j
  · rw [if_pos a, if_neg (by omega), if_pos a]
  · rw [if_neg a, if_neg a]
theorem s_numN (h8 : B.1 0 ≤ 8) (c : MX g T L p) (h5 : g 92 5 = 0) (hS : MC g B) {p1 p2 : Int32} (lo hi i : Nat) (e1 : p1 = nI lo) (e2 : p2 = nI hi) (hlo : lo < 100000) (hhi : hi < 100000) (hi0 : i ≠ 0) (o : outM g T L (oneS T L lo hi p B (fun v => setN B i v)) Q) : w_X9_number p1 p2 g (fun z h' => wlet (hup h' 94 i z) (fun h'' => Q h'')) := by
  have s94 : scr 94 := Or.inl rfl
  refine s_bnM h8 c h5 hS lo hi (rng_n e1 e2 hlo hhi) o _ (fun g1 q v f1 c1 z1 s1 _ _ _ o3 => ?_) (fun g1 _ E => ?_)
  · rw [wlet_e]
    exact o3.1 _ rfl (gq.up gq.rf s94) (c1.sc s94) (s1.setN hi0)
  · rw [wlet_e]
    exact (E.up s94).q
theorem s_rowM (h8 : B.1 0 ≤ 8) (c : MX g T L p) (h5 : g 92 5 = 0) (hS : MC g B) {p1 : Int32} (m lo hi : Nat) (hm : m = 5 ∨ m = 6) (e1 : p1 = nI m) {p2 p3 : Int32} (e2 : p2 = nI lo) (e3 : p3 = nI hi) (hlo : lo < 100000) (hhi : hi < 100000) {w : Nat} (hw : w < B.1 0) (o : outM g T L (bn B (numS T L lo hi p) (fun p v => (0, 0, p, setW B w m v))) Q) : w_X9_number p2 p3 g (fun z28 h29 => w_X9_reads_b210 p1 (nI w) z28 h29 Q) := by
  refine s_bnM h8 c h5 hS lo hi (rng_n e2 e3 hlo hhi) o _ (fun g1 q v f1 c1 z1 s1 _ _ _ o3 => ?_) (fun g1 _ E => ?_)
  · unfold w_X9_reads_b210
    refine wif_n (not_not_intro z1) ⟨v08 (by omega), by rw [e1]; exact vp_in_nI (by omega) (by decide), ?_⟩
    have sw : scr (101 + w) := by unfold scr; omega
    rw [wlet_e, e1, nI_clamp (by omega), nI_clamp (by omega), Nat.one_mul]
    exact o3.1 _ rfl (gq.up gq.rf sw) (c1.sc sw) (s1.setW h8)
  · unfold w_X9_reads_b210
    exact wif_p E.1 E.q
theorem errRow (E : errK g Q) (p1 v2 s0 : Int32) : w_X9_reads_b210 p1 v2 s0 g Q := by
  unfold w_X9_reads_b210
  exact wif_p E.1 E.q
theorem s_readsM (hw : WB B) (c : MX g T L p) (h5 : g 92 5 = 0) (hS : MC g B) (m : Nat) (hm : m < 12) (h3 : m = 4 → B.1 0 < 8) (o : outM g T L (partS T L p B (mkS m)) Q) : w_X9_reads (nI m) g Q := by
  have h8 := hw.1
  have s94 : scr 94 := Or.inl rfl
  have s96 : scr 96 := by unfold scr; omega
  have s98 : scr 98 := by unfold scr; omega
  have v11 : ∀ i, i < 11 → vp_in (nI i) 11 := fun i hi => vp_in_nI hi (by decide)
  have e940 : g 94 0 = nI (B.1 0) := hS.1 0 (by decide)
  unfold w_X9_reads
  rw [cl0, cl1, cl2, cl3, cl4, cl5, cl6, cl7, cl8, cl9, cl10, e940]
  have h12 : m = 0 ∨ m = 1 ∨ m = 2 ∨ m = 3 ∨ m = 4 ∨ m = 5 ∨ m = 6 ∨ m = 7 ∨ m = 8 ∨ m = 9 ∨ m = 10 ∨ m = 11 := by omega
  rcases h12 with rfl | rfl | rfl | rfl | rfl | rfl | rfl | rfl | rfl | rfl | rfl | rfl
  · refine wif_p rfl ?_
    have o2 : outM g T L (bn B (numS T L 0 29 p) (fun p a => bn B (numS T L 60 5400 p) (fun p b => (0, 0, p, setS B a b)))) Q := o
    refine s_bnM h8 c h5 hS 0 29 (rng_n rfl rfl (by decide) (by decide)) o2 _ (fun g1 q a f1 c1 z1 s1 _ a2 _ o3 => ?_) (fun g1 _ E => ?_)
    · refine s_bnM h8 c1 z1 s1 60 5400 (rng_n rfl rfl (by decide) (by decide)) o3 _ (fun g2 q b f2 c2 z2 s2 b1 _ _ o4 => wif_n (not_not_intro z2) ⟨vp_in_nI (by omega) (by decide), ?_⟩) (fun g2 _ E => wif_p E.1 E.q)
      rw [wlet_e, nI_clamp (by omega)]
      exact o4.1 _ rfl (gq.up gq.rf s96) (c2.sc s96) (s2.setS h8 (by omega))
    · rw [e_numN E.1]
      exact wif_p E.1 E.q
  · refine wif_n (by decide) (wif_p rfl ?_)
    refine s_bnM h8 c h5 hS 1 9 (rng_n rfl rfl (by decide) (by decide)) (f := fun p v => (0, 0, p, setN B 1 v)) o _ (fun g1 q a f1 c1 z1 s1 _ a2 _ o3 => ⟨v11 1 (by decide), ?_⟩) (fun g1 _ E => ⟨v11 1 (by decide), ?_⟩)
    · rw [wlet_e]
      exact o3.1 _ rfl (gq.up gq.rf s94) (c1.sc s94) (s1.setN (by decide))
    · rw [wlet_e]
      exact (E.up s94).q
  · refine wif_n (by decide) (wif_n (by decide) (wif_p rfl ?_))
    have o2 : outM g T L (bn B (numS T L 0 1438 p) (fun p a => bn B (numS T L (a + 1) 1439 p) (fun p b => (0, 0, p, setN (setN B 2 a) 3 b)))) Q := o
    refine s_bnM h8 c h5 hS 0 1438 (rng_n rfl rfl (by decide) (by decide)) o2 _ (fun g1 q a f1 c1 z1 s1 _ a2 _ o3 => ⟨v11 2 (by decide), ?_⟩) (fun g1 _ E => ⟨v11 2 (by decide), ?_⟩)
    · rw [wlet_e]
      refine ⟨v11 2 (by decide), ?_⟩
      refine s_bnM (B := setN B 2 a) h8 (c1.sc s94) (by rw [hup_ne (by decide)]; exact z1) (s1.setN (by decide)) (a + 1) 1439 (rng_n (by rw [hup_eq, nI_1]) rfl (by omega) (by decide)) (outM.to (gq.up gq.rf s94) o3) _ (fun g2 q b f2 c2 z2 s2 b1 _ _ o4 => ⟨v11 3 (by decide), ?_⟩) (fun g2 _ E => ⟨v11 3 (by decide), ?_⟩)
      · rw [wlet_e]
        exact o4.1 _ rfl (gq.up gq.rf s94) (c2.sc s94) (s2.setN (by decide))
      · rw [wlet_e]
        exact (E.up s94).q
    · rw [wlet_e]
      refine ⟨v11 2 (by decide), ?_⟩
      have E1 := E.up (i := 2) (v := 0) s94
      rw [e_numN E1.1]
      refine ⟨v11 3 (by decide), ?_⟩
      rw [wlet_e]
      exact (E1.up s94).q
  · refine wif_n (by decide) (wif_n (by decide) (wif_n (by decide) (wif_p rfl ?_)))
    refine s_bnM h8 c h5 hS 1 60 (rng_n rfl rfl (by decide) (by decide)) (f := fun p v => (0, 0, p, setN B 4 v)) o _ (fun g1 q a f1 c1 z1 s1 _ a2 _ o3 => ⟨v11 4 (by decide), ?_⟩) (fun g1 _ E => ⟨v11 4 (by decide), ?_⟩)
    · rw [wlet_e]
      exact o3.1 _ rfl (gq.up gq.rf s94) (c1.sc s94) (s1.setN (by decide))
    · rw [wlet_e]
      exact (E.up s94).q
  · exact wif_n (by decide) (wif_n (by decide) (wif_n (by decide) (wif_n (by decide) (wif_p rfl (s_whoM (h3 rfl) hw c h5 hS o)))))
  · refine wif_n (by decide) (wif_n (by decide) (wif_n (by decide) (wif_n (by decide) (wif_n (by decide) (wif_p rfl ⟨v11 0 (by decide), ?_⟩)))))
    have o2 : outM g T L (bn B (numS T L (whoLo (B.1 0)) (B.1 0 - 1) p) (fun p a => bn B (numS T L 1 99 p) (fun p b => (0, 0, p, setW B a 5 b)))) Q := o
    refine s_bnM h8 c h5 hS _ _ (rng_who h8) o2 _ (fun g1 q a f1 c1 z1 s1 a1 a2 _ o3 => ?_) (fun g1 _ E => ?_)
    · refine wif_n (not_not_intro rfl) (s_rowM h8 c1 z1 s1 5 1 99 (Or.inl rfl) rfl rfl rfl (by decide) (by decide) (by unfold whoLo at a1; split at a1 <;> omega) o3)
    · refine wif_n (not_not_intro rfl) ?_
      rw [e_numN E.1]
      exact errRow E _ _ _
  · refine wif_n (by decide) (wif_n (by decide) (wif_n (by decide) (wif_n (by decide) (wif_n (by decide) (wif_n (by decide) (wif_p rfl ⟨v11 0 (by decide), ?_⟩))))))
    have o2 : outM g T L (bn B (numS T L (whoLo (B.1 0)) (B.1 0 - 1) p) (fun p a => bn B (numS T L 10 400 p) (fun p b => (0, 0, p, setW B a 6 b)))) Q := o
    refine s_bnM h8 c h5 hS _ _ (rng_who h8) o2 _ (fun g1 q a f1 c1 z1 s1 a1 a2 _ o3 => ?_) (fun g1 _ E => ?_)
    · refine wif_p (by decide) (s_rowM h8 c1 z1 s1 6 10 400 (Or.inr rfl) rfl rfl rfl (by decide) (by decide) (by unfold whoLo at a1; split at a1 <;> omega) o3)
    · refine wif_p (by decide) ?_
      rw [e_numN E.1]
      exact errRow E _ _ _
  · refine wif_n (by decide) (wif_n (by decide) (wif_n (by decide) (wif_n (by decide) (wif_n (by decide) (wif_n (by decide) (wif_n (by decide) (wif_p rfl ?_)))))))
    refine s_bnM h8 c h5 hS 0 29 (rng_n rfl rfl (by decide) (by decide)) (f := fun p v => (0, 0, p, setF B v 1)) o _ (fun g1 q a f1 c1 z1 s1 _ a2 _ o3 => ⟨vp_in_nI (by omega) (by decide), ?_⟩) (fun g1 _ E => ⟨vl 0 30 (by decide) (by decide), ?_⟩)
    · rw [wlet_e, nI_clamp (by omega)]
      exact o3.1 _ rfl (gq.up gq.rf s98) (c1.sc s98) (s1.setF (v := 1) h8)
    · rw [wlet_e]
      exact (E.up s98).q
  · refine wif_n (by decide) (wif_n (by decide) (wif_n (by decide) (wif_n (by decide) (wif_n (by decide) (wif_n (by decide) (wif_n (by decide) (wif_n (by decide) (wif_p rfl ?_))))))))
    refine s_bnM h8 c h5 hS 0 16 (rng_n rfl rfl (by decide) (by decide)) (f := fun p v => (0, 0, p, setN B 5 v)) o _ (fun g1 q a f1 c1 z1 s1 _ a2 _ o3 => ⟨v11 5 (by decide), ?_⟩) (fun g1 _ E => ⟨v11 5 (by decide), ?_⟩)
    · rw [wlet_e]
      exact o3.1 _ rfl (gq.up gq.rf s94) (c1.sc s94) (s1.setN (by decide))
    · rw [wlet_e]
      exact (E.up s94).q
  · refine wif_n (by decide) (wif_n (by decide) (wif_n (by decide) (wif_n (by decide) (wif_n (by decide) (wif_n (by decide) (wif_n (by decide) (wif_n (by decide) (wif_n (by decide) (wif_p rfl ⟨v11 8 (by decide), ?_⟩)))))))))
    have o2 : outM g T L (bn B (numS T L 0 60 p) (fun p a => bn B (numS T L 0 99 p) (fun p b => (0, 0, p, setN (setN (setN B 9 a) 10 b) 8 1)))) Q := o
    rw [wlet_e]
    refine s_bnM (B := setN B 8 1) h8 (c.sc s94) (by rw [hup_ne (by decide)]; exact h5) (MC.setN (v := 1) hS (by decide)) 0 60 (rng_n rfl rfl (by decide) (by decide)) (outM.to (gq.up gq.rf s94) o2) _ (fun g1 q a f1 c1 z1 s1 _ a2 _ o3 => ⟨v11 9 (by decide), ?_⟩) (fun g1 _ E => ⟨v11 9 (by decide), ?_⟩)
    · rw [wlet_e]
      refine s_bnM (B := setN (setN B 8 1) 9 a) h8 (c1.sc s94) (by rw [hup_ne (by decide)]; exact z1) (s1.setN (by decide)) 0 99 (rng_n rfl rfl (by decide) (by decide)) (outM.to (gq.up gq.rf s94) o3) _ (fun g2 q b f2 c2 z2 s2 b1 _ _ o4 => ⟨v11 10 (by decide), ?_⟩) (fun g2 _ E => ⟨v11 10 (by decide), ?_⟩)
      · rw [wlet_e]
        refine o4.1 _ rfl (gq.up gq.rf s94) (c2.sc s94) ?_
        have e : setN (setN (setN B 9 a) 10 b) 8 1 = setN (setN (setN B 8 1) 9 a) 10 b := by
          rw [setN_comm (i := 10) (j := 8) (by decide), setN_comm (i := 9) (j := 8) (by decide)]
        show MC _ (setN (setN (setN B 9 a) 10 b) 8 1)
        rw [e]
        exact s2.setN (by decide)
      · rw [wlet_e]
        exact (E.up s94).q
    · rw [wlet_e]
      have E1 := E.up (i := 9) (v := 0) s94
      rw [e_numN E1.1]
      refine ⟨v11 10 (by decide), ?_⟩
      rw [wlet_e]
      exact (E1.up s94).q
  · refine wif_n (by decide) (wif_n (by decide) (wif_n (by decide) (wif_n (by decide) (wif_n (by decide) (wif_n (by decide) (wif_n (by decide) (wif_n (by decide) (wif_n (by decide) (wif_n (by decide) (wif_p rfl ?_))))))))))
    refine s_bnM h8 c h5 hS 1 5400 (rng_n rfl rfl (by decide) (by decide)) (f := fun p v => (0, 0, p, setN B 6 v)) o _ (fun g1 q a f1 c1 z1 s1 _ a2 _ o3 => ⟨v11 6 (by decide), ?_⟩) (fun g1 _ E => ⟨v11 6 (by decide), ?_⟩)
    · rw [wlet_e]
      exact o3.1 _ rfl (gq.up gq.rf s94) (c1.sc s94) (s1.setN (by decide))
    · rw [wlet_e]
      exact (E.up s94).q
  · refine wif_n (by decide) (wif_n (by decide) (wif_n (by decide) (wif_n (by decide) (wif_n (by decide) (wif_n (by decide) (wif_n (by decide) (wif_n (by decide) (wif_n (by decide) (wif_n (by decide) (wif_n (by decide) ⟨v11 7 (by decide), ?_⟩))))))))))
    rw [wlet_e]
    exact o.1 _ rfl (gq.up gq.rf s94) (c.sc s94) (MC.setN (i := 7) (v := 1) hS (by decide))
end P5
