/-! the program's seats, walked from the first slot on -/
theorem e_minuteOf {h : Hp} {B : Br} {P : Pz} (hP : PS h B P) (ho : okP P) {p1 : Int32} (s : Nat) (h1 : p1 = nI s) (hs : s < pA P) (Q : Int32 → Prop) : w_X2_minuteOf p1 h Q = Q (nI (smB B P s)) := by
  have hal := ho.al
  have he := ho.2.1
  subst h1
  unfold w_X2_minuteOf
  rw [hP.2.2.2.1]
  have e : (if nI (pE P) ≤ nI s then nI s - nI (pE P) else nI s) = nI (if pE P ≤ s then s - pE P else s) := by
    by_cases c : pE P ≤ s
    · rw [if_pos c, if_pos ((nI_leI (by omega) (by omega)).mpr c), pk_sub c]
    · rw [if_neg c, if_neg (fun z => c ((nI_leI (by omega) (by omega)).mp z))]
  rw [e, e_slotMinute hP.1 _ rfl]
  rfl
def mayOk (B : Br) (P : Pz) : Prop := pE P = slN B ∧ ∀ s k, s < pA P → k < 8 → pM P s k = true → B.2.2.2 k 2 ≤ smB B P s
def SF (B : Br) (P : Pz) (h h' : Hp) (n : Nat) : Prop := (∀ q, q ≠ 44 → q ≠ 50 → q ≠ 51 → q ≠ 52 → h' q = h q) ∧ (∀ i, i ≠ 17 → i ≠ 18 → i ≠ 19 → h' 44 i = h 44 i) ∧ (∀ s, s < n → h' 50 s = nI (hold B P s)) ∧ (∀ s, s < n → hold B P s ≠ 8 → h' 51 s = zI (cn B P s)) ∧ h' 52 0 = zI (ern B P 0 n) ∧ h' 52 1 = zI (ern B P 1 n) ∧ h' 44 18 = zI (tcs B P n) ∧ h' 44 19 = nI (jmm B P n)
theorem PS.seat {h h' : Hp} {B : Br} {P : Pz} (c : PS h B P) (e : ∀ q, q ≠ 44 → q ≠ 50 → q ≠ 51 → q ≠ 52 → h' q = h q) (e2 : ∀ i, i ≠ 17 → i ≠ 18 → i ≠ 19 → h' 44 i = h 44 i) : PS h' B P := by
  obtain ⟨a1, a2, a3, a4, a5, a6, a7⟩ := c
  refine ⟨a1.same (e 3 (by decide) (by decide) (by decide) (by decide)) (e 4 (by decide) (by decide) (by decide) (by decide)) (e 5 (by decide) (by decide) (by decide) (by decide)) (e 6 (by decide) (by decide) (by decide) (by decide)) (e 7 (by decide) (by decide) (by decide) (by decide)), ?_, ?_, ?_, ?_, ?_, ?_⟩
  · unfold RK
    rw [e 53 (by decide) (by decide) (by decide) (by decide), e 54 (by decide) (by decide) (by decide) (by decide)]
    exact a2
  · rw [e2 14 (by decide) (by decide) (by decide)]; exact a3
  · rw [e2 15 (by decide) (by decide) (by decide)]; exact a4
  · rw [e2 16 (by decide) (by decide) (by decide)]; exact a5
  · rw [e 45 (by decide) (by decide) (by decide) (by decide)]; exact a6
  · rw [e 46 (by decide) (by decide) (by decide) (by decide), e 47 (by decide) (by decide) (by decide) (by decide), e 48 (by decide) (by decide) (by decide) (by decide)]; exact a7
theorem s_fillRow {r n : Nat} (hn : n < 2 ^ 30) {v : Int32} {h : Hp} (Q : Hp → Prop) (hQ : ∀ h', (∀ q, q ≠ r → h' q = h q) → (∀ i, i < n → h' r i = v) → (∀ i, n ≤ i → h' r i = h r i) → Q h') : w_X8_fillRow r n v h Q := by
  unfold w_X8_fillRow w_X8_fillRow_b2
  refine wl_run n (fun t (st : Int32 × Hp) => st.1 = nI t ∧ (∀ q, q ≠ r → st.2 q = h q) ∧ (∀ i, i < t → st.2 r i = v) ∧ (∀ i, t ≤ i → st.2 r i = h r i)) ?_ (Nat.zero_le _) ⟨rfl, fun _ _ => rfl, fun i hi => absurd hi (by omega), fun _ _ => rfl⟩
  rintro t ⟨v2, h2⟩ K ht ⟨e2, hf, hv, hr⟩ hK
  simp only at e2 hf hv hr
  subst e2
  show w_X8_fillRow_l2 r n v Q K (nI t) h2
  unfold w_X8_fillRow_l2
  refine ⟨fun z => ?_, fun z => ?_⟩
  · have e : t = n := by
      have := (nI_leI (by omega) (by omega)).mp z
      omega
    subst e
    exact hQ h2 hf hv hr
  have htn : t < n := Nat.lt_of_not_le fun q => z ((nI_leI (by omega) (by omega)).mpr q)
  rw [and_t (vp_in_nI htn (by omega)), wlet_e, nI_clamp (by omega), nI_1]
  refine hK htn _ ⟨rfl, fun q hq => (hup_ne hq).trans (hf q hq), fun i hi => ?_, fun i hi => ?_⟩
  · show hup h2 r t v r i = v
    by_cases e : i = t
    · rw [e]
      exact hup_eq _ _ _ _
    · rw [hup_o (Or.inr e)]
      exact hv i (by omega)
  · show hup h2 r t v r i = h r i
    rw [hup_o (Or.inr (by omega))]
    exact hr i (by omega)
theorem s_addUp {h : Hp} {B : Br} {P : Pz} (hP : PS h B P) (ho : okP P) (hw : mayOk B P) {p1 p2 : Int32} (s : Nat) (hs : s < pA P) (h8 : hold B P s ≠ 8) (h1 : p1 = nI s) (h2 : p2 = nI (hold B P s)) (g0 : Hp) (hS : SF B P g0 h s) (h51 : h 51 s = zI (cn B P s)) (Q : Hp → Prop)
    (hQ : ∀ h', (∀ q, q ≠ 44 → q ≠ 52 → h' q = h q) → (∀ i, i ≠ 18 → i ≠ 19 → h' 44 i = h 44 i) → h' 52 0 = zI (ern B P 0 (s + 1)) → h' 52 1 = zI (ern B P 1 (s + 1)) → h' 44 18 = zI (tcs B P (s + 1)) → h' 44 19 = nI (jmm B P (s + 1)) → Q h') : w_X2_addUp p1 p2 h Q := by
  have hal := ho.al
  have he := ho.2.1
  obtain ⟨c1, c2⟩ := hold_c h8
  have hm := (canB_tb ho hs c1 c2).1
  have hx := (hP.2.2.2.2.2.2 s _ hs c1 hm).2.2
  have hmm := hw.2 s _ hs c1 hm
  have hAE : pA P ≤ 2 * pE P := by
    have := ho.2.2.1
    omega
  have hsm := smB_b hP.1.2.2 hw.1 hAE hs
  have hj := jmm_b (P := P) hP.1.2.2 hw.1 hAE s (by omega)
  have hw3 := hP.1.2.2.2.2.1
  obtain ⟨_, _, _, _, k0, k1, k18, k19⟩ := hS
  subst h1 h2
  unfold w_X2_addUp
  rw [e_at (by decide), rd_n (by omega) (by decide), h51, e_at (by decide), q8, pk_mul, nI_add, rd_n (by omega) (by decide), hx, zI_add, k18, zI_add, wlet_e]
  have exx : pX P s (hold B P s) = xn B P s := by
    unfold xn
    rw [if_neg h8]
  rw [exx]
  show wlet _ _
  generalize hg1 : hup h 44 18 (zI (tcs B P s + (cn B P s + xn B P s))) = g1
  have e15 : g1 44 15 = nI (pE P) := by
    rw [← hg1, hup_o (Or.inr (by decide))]
    exact hP.2.2.2.1
  have hP1 : PS g1 B P := hP.seat (fun q hq _ _ _ => by rw [← hg1]; exact hup_ne hq) (fun i _ hi _ => by rw [← hg1]; exact hup_o (Or.inr hi))
  have e52 : g1 52 = h 52 := by
    rw [← hg1]
    exact hup_ne (by decide)
  rw [e15, wlet_e]
  have e4 : (if nI (pE P) ≤ nI s then (1 : Int32) else 0) = nI (if pE P ≤ s then 1 else 0) := by
    by_cases c : pE P ≤ s
    · rw [if_pos c, if_pos ((nI_leI (by omega) (by omega)).mpr c)]
      rfl
    · rw [if_neg c, if_neg (fun z => c ((nI_leI (by omega) (by omega)).mp z))]
      rfl
  rw [e4]
  generalize hb : (if pE P ≤ s then 1 else 0) = b
  have hb2 : b = 0 ∨ b = 1 := by
    rw [← hb]
    split
    · exact Or.inr rfl
    · exact Or.inl rfl
  have e6 : g1 52 b = zI (ern B P b s) := by
    rw [e52]
    rcases hb2 with rfl | rfl
    · exact k0
    · exact k1
  rw [e_at (by decide), rd_n (by omega) (by decide), e6, zI_add, e_put (by decide), wr_n (by omega) (by decide)]
  have hP2 : PS (hup g1 52 b (zI (ern B P b s + cn B P s))) B P := hP1.seat (fun q _ _ _ hq => hup_ne hq) (fun i _ _ _ => by rw [hup_ne (by decide)])
  rw [e_minuteOf hP2 ho s rfl hs, e_trait hP2.1 _ 2 rfl q2 c1 (by decide), pk_sub hmm, hup_ne (by decide), wlet_e]
  have e19 : g1 44 19 = nI (jmm B P s) := by
    rw [← hg1, hup_o (Or.inr (by decide))]
    exact k19
  rw [e19]
  have ej : (if nI (jmm B P s) < nI (smB B P s - B.2.2.2 (hold B P s) 2) then nI (smB B P s - B.2.2.2 (hold B P s) 2) else nI (jmm B P s)) = nI (jmm B P (s + 1)) := by
    have e9 : jmm B P (s + 1) = if jmm B P s < smB B P s - B.2.2.2 (hold B P s) 2 then smB B P s - B.2.2.2 (hold B P s) 2 else jmm B P s := by
      show (if hold B P s = 8 then _ else _) = _
      rw [if_neg h8]
    rw [e9]
    by_cases c : jmm B P s < smB B P s - B.2.2.2 (hold B P s) 2
    · rw [if_pos c, if_pos ((nI_ltI (by omega) (by omega)).mpr c)]
    · rw [if_neg c, if_neg (fun z => c ((nI_ltI (by omega) (by omega)).mp z))]
  rw [ej]
  refine hQ _ (fun q a b => ?_) (fun i a b => ?_) ?_ ?_ ?_ ?_
  · rw [hup_ne a, hup_ne b, ← hg1, hup_ne a]
  · rw [hup_o (Or.inr b), hup_ne (by decide), ← hg1, hup_o (Or.inr a)]
  · rw [hup_ne (by decide), hup_at, e52]
    have e9 : ern B P 0 (s + 1) = if b = 0 then ern B P 0 s + cn B P s else ern B P 0 s := by
      show (if (if pE P ≤ s then 1 else 0) = 0 then _ else _) = _
      rw [hb]
    rw [e9]
    rcases hb2 with rfl | rfl
    · rw [if_pos ⟨rfl, rfl⟩, if_pos rfl]
    · rw [if_neg (by decide), if_neg (by decide)]
      exact k0
  · rw [hup_ne (by decide), hup_at, e52]
    have e9 : ern B P 1 (s + 1) = if b = 1 then ern B P 1 s + cn B P s else ern B P 1 s := by
      show (if (if pE P ≤ s then 1 else 0) = 1 then _ else _) = _
      rw [hb]
    rw [e9]
    rcases hb2 with rfl | rfl
    · rw [if_neg (by decide), if_neg (by decide)]
      exact k1
    · rw [if_pos ⟨rfl, rfl⟩, if_pos rfl]
  · rw [hup_o (Or.inr (by decide)), hup_ne (by decide), ← hg1, hup_eq]
    rfl
  · exact hup_eq _ _ _ _
theorem s_seat {h : Hp} {B : Br} {P : Pz} (hP : PS h B P) (ho : okP P) (hw : mayOk B P) (hT : ∀ s, s ≤ pA P → TI B P h s) (Q : Hp → Prop) (hQ : ∀ h', SF B P h h' (pA P) → h' 44 17 = nI (onesN 8 (andn (pB P) (pth B P (pA P)).1)) → Q h') : w_X2_seat h Q := by
  have hal := ho.al
  have he := ho.2.1
  unfold w_X2_seat w_X2_forgetSums
  rw [wlet_e]
  refine s_fillRow (by decide) _ (fun h1 f1 f2 _ => ?_)
  rw [wlet_e]
  unfold w_X2_seat_b11
  refine wl_run (pA P) (fun t (st : Int32 × Int32 × Int32 × Hp) => st.1 = nI (pth B P t).1 ∧ st.2.1 = nI (pth B P t).2 ∧ st.2.2.1 = nI t ∧ SF B P h st.2.2.2 t) ?_ (Nat.zero_le _) ?_
  rotate_left
  · refine ⟨rfl, rfl, rfl, fun q a _ _ d => ?_, fun i a b c => ?_, fun s hs => absurd hs (by omega), fun s hs => absurd hs (by omega), ?_, ?_, ?_, ?_⟩
    · show hup h1 44 19 0 q = h q
      rw [hup_ne a, f1 q d, hup_ne a]
    · show hup h1 44 19 0 44 i = h 44 i
      rw [hup_o (Or.inr c), f1 44 (by decide), hup_o (Or.inr b)]
    · show hup h1 44 19 0 52 0 = _
      rw [hup_ne (by decide)]
      exact f2 0 (by decide)
    · show hup h1 44 19 0 52 1 = _
      rw [hup_ne (by decide)]
      exact f2 1 (by decide)
    · show hup h1 44 19 0 44 18 = _
      rw [hup_o (Or.inr (by decide)), f1 44 (by decide), hup_eq]
      rfl
    · show hup h1 44 19 0 44 19 = _
      rw [hup_eq]
      rfl
  rintro t ⟨v1, v2, v3, h2⟩ K ht ⟨e1, e2, e3, hS⟩ hK
  simp only at e1 e2 e3 hS
  subst e1 e2 e3
  show w_X2_seat_l11 Q K _ _ (nI t) h2
  unfold w_X2_seat_l11
  have hP2 : PS h2 B P := hP.seat hS.1 hS.2.1
  have hT2 : ∀ s, s ≤ pA P → TI B P h2 s := fun s hs => by
    unfold TI TG
    rw [hS.1 49 (by decide) (by decide) (by decide) (by decide)]
    exact hT s hs
  obtain ⟨hp1, hp2, hp3⟩ := pth_ok (B := B) ho t ht
  rw [hP2.2.2.2.2.1]
  refine ⟨fun z => ?_, fun z => ?_⟩
  · have e : t = pA P := by
      have := (nI_leI (by omega) (by omega)).mp z
      omega
    subst e
    rw [hP2.2.2.1, andn_i ho.1, bitc _ (andn_lt ho.1), wlet_e]
    obtain ⟨a1, a2, a3, a4, a5, a6, a7, a8⟩ := hS
    refine hQ _ ⟨fun q a b c d => (hup_ne a).trans (a1 q a b c d), fun i a b c => (hup_o (Or.inr a)).trans (a2 i a b c), ?_, ?_, ?_, ?_, ?_, ?_⟩ (hup_eq _ _ _ _)
    · rw [hup_ne (by decide)]
      exact a3
    · rw [hup_ne (by decide)]
      exact a4
    · rw [hup_ne (by decide)]
      exact a5
    · rw [hup_ne (by decide)]
      exact a6
    · rw [hup_o (Or.inr (by decide))]
      exact a7
    · rw [hup_o (Or.inr (by decide))]
      exact a8
  have htp : t < pA P := Nat.lt_of_not_le fun q => z ((nI_leI (by omega) (by omega)).mpr q)
  have hK1 := hK htp
  have h0 : t = 0 → (pth B P t).2 = 8 := fun e => by
    rw [e]
    rfl
  have elast : (if (if reachB B P t = true then (1 : Int32) else 0) = 0 then (8 : Int32) else nI (pth B P t).2) = nI (lastC B P t (pth B P t).2) := by
    unfold lastC
    cases hr : reachB B P t with
    | true => rw [if_pos rfl, if_neg i10, if_pos rfl]
    | false =>
      rw [if_neg (show ¬ false = true by decide), if_pos rfl, if_neg (by decide)]
      rfl
  rw [e_reach hP2 ho t rfl (by omega), wlet_e, elast]
  refine e_holderOf hP2 ho t (pth B P t).1 (pth B P t).2 rfl rfl rfl htp ⟨hp1, hp2, hp3⟩ h0 (hT2 t ht) (hT2 (t + 1) (by omega)) _ ?_
  rw [show pick B P t (pth B P t).1 (pth B P t).2 = hold B P t from rfl, e_put (by decide), wr_n (by omega) (by decide)]
  have hhl := hold_le B P t
  have hlc : lastC B P t (pth B P t).2 ≤ 8 := by
    unfold lastC
    split <;> omega
  obtain ⟨a1, a2, a3, a4, a5, a6, a7, a8⟩ := hS
  unfold w_X2_seat_b90
  generalize hg1 : hup h2 50 t (nI (hold B P t)) = g1
  have g1o : ∀ q, q ≠ 50 → g1 q = h2 q := fun q hq => by
    rw [← hg1]
    exact hup_ne hq
  have g150 : ∀ s, s < t + 1 → g1 50 s = nI (hold B P s) := fun s hs => by
    rw [← hg1]
    by_cases e : s = t
    · rw [e]
      exact hup_eq _ _ _ _
    · rw [hup_o (Or.inr e)]
      exact a3 s (by omega)
  by_cases c8 : hold B P t = 8
  · rw [c8, wif_t (c := nI 8 = 8) rfl, nI_1]
    have ep : pth B P (t + 1) = ((pth B P t).1, 8) := by
      rw [pth_s, if_pos c8]
    have ecn : cn B P t = 0 := by
      unfold cn
      rw [if_pos c8]
    have exn : xn B P t = 0 := by
      unfold xn
      rw [if_pos c8]
    have er : ∀ b, ern B P b (t + 1) = ern B P b t := fun b => by
      show (if _ then _ else _) = _
      rw [ecn, Int.add_zero]
      exact ite_self _
    refine hK1 _ ⟨by rw [ep], by rw [ep], rfl, fun q a b c d => (g1o q b).trans (a1 q a b c d), ?_, g150, fun s hs h8 => ?_, ?_, ?_, ?_, ?_⟩
    · intro i a b c
      show g1 44 i = h 44 i
      rw [g1o 44 (by decide)]
      exact a2 i a b c
    · show g1 51 s = _
      have : s ≠ t := fun e => h8 (by rw [e]; exact c8)
      rw [g1o 51 (by decide)]
      exact a4 s (by omega) h8
    · show g1 52 0 = _
      rw [g1o 52 (by decide), er]
      exact a5
    · show g1 52 1 = _
      rw [g1o 52 (by decide), er]
      exact a6
    · show g1 44 18 = _
      rw [g1o 44 (by decide)]
      show _ = zI (tcs B P t + (cn B P t + xn B P t))
      rw [ecn, exn, Int.add_zero, Int.add_zero]
      exact a7
    · show g1 44 19 = nI (if hold B P t = 8 then _ else _)
      rw [if_pos c8, g1o 44 (by decide)]
      exact a8
  · obtain ⟨c1, c2⟩ := hold_c c8
    have hm := (canB_tb ho htp c1 c2).1
    have hPg : PS g1 B P := hP2.seat (fun q _ b _ _ => g1o q b) (fun i _ _ _ => by rw [g1o 44 (by decide)])
    refine wif_n (fun q => c8 ((nI_eq (b := 8) (by omega) (by omega)).mp q)) ?_
    rw [e_coinsIn hPg t _ _ rfl rfl rfl htp (by omega) c1 hlc hm]
    have ec : (if lastC B P t (pth B P t).2 < 8 ∧ stB B (hold B P t) < stB B (lastC B P t (pth B P t).2) then pD P t (hold B P t) else pC P t (hold B P t)) = cn B P t := by
      unfold cn
      rw [if_neg c8]
      by_cases c : isD B (hold B P t) (lastA P t (pth B P t).2) = true
      · rw [if_pos c, if_pos ((shade_same htp h0 _).mpr c)]
      · rw [if_neg c, if_neg (fun q => c ((shade_same htp h0 _).mp q))]
    rw [ec, e_put (by decide), wr_n (by omega) (by decide)]
    generalize hg2 : hup g1 51 t (zI (cn B P t)) = g2
    have g2o : ∀ q, q ≠ 51 → g2 q = g1 q := fun q hq => by
      rw [← hg2]
      exact hup_ne hq
    have g251 : ∀ s, s < t + 1 → hold B P s ≠ 8 → g2 51 s = zI (cn B P s) := fun s hs h8 => by
      rw [← hg2]
      by_cases e : s = t
      · rw [e]
        exact hup_eq _ _ _ _
      · rw [hup_o (Or.inr e), g1o 51 (by decide)]
        exact a4 s (by omega) h8
    have hPg2 : PS g2 B P := hPg.seat (fun q _ _ c _ => g2o q c) (fun i _ _ _ => by rw [g2o 44 (by decide)])
    have e44 : g2 44 = h2 44 := (g2o 44 (by decide)).trans (g1o 44 (by decide))
    have e52 : g2 52 = h2 52 := (g2o 52 (by decide)).trans (g1o 52 (by decide))
    have hSF : SF B P h g2 t := by
      refine ⟨fun q a b c d => ((g2o q c).trans (g1o q b)).trans (a1 q a b c d), ?_, fun s hs => ?_, fun s hs h8 => g251 s (by omega) h8, ?_, ?_, ?_, ?_⟩
      · rw [e44]
        exact a2
      · rw [g2o 50 (by decide)]
        exact g150 s (by omega)
      · rw [e52]
        exact a5
      · rw [e52]
        exact a6
      · rw [e44]
        exact a7
      · rw [e44]
        exact a8
    refine s_addUp hPg2 ho hw t htp c8 rfl rfl h hSF (g251 t (by omega) c8) _ (fun h3 b1 b2 b5 b6 b7 b8 => ?_)
    rw [wlet_e, or_bit _ (by omega), nI_1]
    have ep : pth B P (t + 1) = ((pth B P t).1 ||| 2 ^ hold B P t, hold B P t) := by
      rw [pth_s, if_neg c8]
    refine hK1 _ ⟨by rw [ep], by rw [ep], rfl, fun q a b c d => (b1 q a d).trans (((g2o q c).trans (g1o q b)).trans (a1 q a b c d)), fun i a b c => ?_, fun s hs => ?_, fun s hs h8 => ?_, b5, b6, b7, b8⟩
    · show h3 44 i = h 44 i
      rw [b2 i b c, e44]
      exact a2 i a b c
    · show h3 50 s = _
      rw [b1 50 (by decide) (by decide), g2o 50 (by decide)]
      exact g150 s hs
    · show h3 51 s = _
      rw [b1 51 (by decide) (by decide)]
      exact g251 s hs h8
