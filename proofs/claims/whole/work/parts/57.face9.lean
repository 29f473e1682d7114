/-! season and span -/
section F12
variable {h : Hp} {B : Br} {tn : Nat} {tl : Nat → List Row} {r : Rc} {K : Hp → Prop}
theorem fD_c (hw : WB B) {R : List Row} {d s : Nat} (c : fD B R d s ≠ 8) : fD B R d s < B.1 0 := by
  have hm := (hold_c (B := B) (P := plD B R d) (s := s) c).2
  unfold canB at hm
  rw [Bool.and_eq_true] at hm
  have hm2 : ((2 ^ B.1 0 - 1).testBit (fD B R d s) && decide (B.2.2.2 (fD B R d s) 2 ≤ slM B (if slN B ≤ s then s - slN B else s) ∧ slM B (if slN B ≤ s then s - slN B else s) ≤ B.2.2.2 (fD B R d s) 3)) = true := hm.1
  rw [Bool.and_eq_true, all_tb] at hm2
  exact of_decide_eq_true hm2.1
theorem pD_lo (R : List Row) {d s : Nat} (k : Nat) (hs : s < slN B) : pD (plD B R d) s k = ((fareB B R 0 k d (slM B s) true : Nat) : Int) ∧ pC (plD B R d) s k = ((fareB B R 0 k d (slM B s) false : Nat) : Int) := by
  have n : ¬ slN B ≤ s := by omega
  refine ⟨?_, ?_⟩
  · show ((fareB B (if slN B ≤ s then [] else R) (if slN B ≤ s then 1 else 0) k d (slM B (if slN B ≤ s then s - slN B else s)) true : Nat) : Int) = _
    rw [if_neg n, if_neg n, if_neg n]
  · show ((fareB B (if slN B ≤ s then [] else R) (if slN B ≤ s then 1 else 0) k d (slM B (if slN B ≤ s then s - slN B else s)) false : Nat) : Int) = _
    rw [if_neg n, if_neg n, if_neg n]
theorem s_seasonOf (hR : RA h B tn tl r) {p1 p2 p3 : Int32} (d0 n : Nat) (e1 : p1 = nI d0) (e2 : p2 = nI n) (hn : d0 + n ≤ 30) (h42 : h 92 42 = nI (slN B)) (hl : laid B (rowsOf tn tl (tb r 0)) d0 n h) (Q : Int32 → Hp → Prop) (hQ : ∀ h', mS2 h h' → Q (seaT B (rowsOf tn tl (tb r 0)) (nI (B.1 5)) p3 d0 n) h') : w_X9_seasonOf p1 p2 p3 h Q := by
  have w0 := hR.1.2.2.1
  have hb8 := all_lt w0
  have hsl := slN_b B
  have hw := hR.1.2.2
  subst e1 e2
  generalize hRR : rowsOf tn tl (tb r 0) = R at hQ hl
  unfold w_X9_seasonOf w_X9_seasonOf_b11
  rw [wlet_e]
  refine wl_run n (fun v (st : Int32 × Int32 × Hp) => st.2.1 = nI v ∧ st.1 = seaT B R (nI (B.1 5)) p3 d0 v ∧ mS2 h st.2.2 ∧ st.2.2 92 51 = sdv (nI (B.1 5)) p3 v) ?_ (Nat.zero_le _) ⟨rfl, rfl, ⟨fun q _ _ q3 => hup_ne q3, fun i hi => hup_o (p := 92) (q := 92) (j := i) (Or.inr hi)⟩, show hup h 92 51 p3 92 51 = p3 from hup_eq _ _ _ _⟩
  rintro v ⟨v4, v5, g⟩ K11 hv ⟨e5, e4, fg, e51⟩ hK11
  simp only at e4 e5 fg e51
  subst e4 e5
  show w_X9_seasonOf_l11 (nI d0) (nI n) p3 Q K11 _ (nI v) g
  unfold w_X9_seasonOf_l11
  have a := (KP_mS fg.mS).RA hR
  refine ⟨fun z => ?_, fun z => ?_⟩
  · have : v = n := by
      have := (nI_leI (by omega) (by omega)).mp z
      omega
    subst this
    exact hQ g fg
  have hvn : v < n := Nat.lt_of_not_le fun q => z ((nI_leI (by omega) (by omega)).mpr q)
  refine s_skyNow (c := nI (B.1 5)) (a.2.1.1 5 (by decide)) _ (fun g1 f1 f1' e1 => ?_)
  rw [e51] at e1
  rw [e51]
  generalize hb : bitsD (nI (B.1 5)) (sdv (nI (B.1 5)) p3 v) = bits
  have s1 : mS2 g g1 := ⟨fun q _ _ q3 => f1 q q3, f1'⟩
  unfold w_X9_seasonOf_b30
  refine wl_run (slN B) (fun s (st : Int32 × Int32 × Int32 × Hp) => st.2.2.1 = nI s ∧ st.1 = seaT B R (nI (B.1 5)) p3 d0 v + totI (fD B R (d0 + v)) (cst B R (d0 + v) bits) s ∧ st.2.1 = nI (pth B (plD B R (d0 + v)) s).2 ∧ mS2 h st.2.2.2 ∧ st.2.2.2 92 51 = sdv (nI (B.1 5)) p3 (v + 1)) ?_ (Nat.zero_le _) ⟨rfl, (Int32.add_zero _).symm, rfl, fg.tr s1, e1⟩
  rintro s ⟨t4, t7, t8, u⟩ K30 hs ⟨e8, e4, e7, fu, u51⟩ hK30
  simp only at e8 e4 e7 fu u51
  subst e8 e4 e7
  show w_X9_seasonOf_l30 (nI d0) (nI n) p3 (nI v) bits K11 Q K30 _ _ (nI s) u
  unfold w_X9_seasonOf_l30
  have au := (KP_mS fu.mS).RA hR
  have u42 : u 92 42 = nI (slN B) := by rw [fu.2 42 (by decide)]; exact h42
  rw [u42]
  refine ⟨fun z2 => ?_, fun z2 => ?_⟩
  · have : s = slN B := by
      have := (nI_leI (by omega) (by omega)).mp z2
      omega
    subst this
    rw [nI_1]
    refine hK11 hvn _ ⟨rfl, ?_, fu, u51⟩
    show _ = seaT B R (nI (B.1 5)) p3 d0 (v + 1)
    rw [seaT_s, hb]
  have hsE : s < slN B := Nat.lt_of_not_le fun q => z2 ((nI_leI (by omega) (by omega)).mpr q)
  refine ⟨vp_in_nI (by omega) (by decide), vp_in_nI (by omega) (by decide), ?_⟩
  have e14 : u (1427 + v) s = hasv (fD B R (d0 + v) s) := by
    rw [fu.1 _ (by omega) (by omega) (by omega)]
    exact hl v hvn s hsE
  have esm : smB B (plD B R (d0 + v)) s = slM B s := by
    show slM B (if slN B ≤ s then s - slN B else s) = _
    rw [if_neg (by omega)]
  rw [nI_clamp (n := v) (by omega), nI_clamp (n := s) (by omega), Nat.one_mul, e14, wlet_e, e_minuteOfM au.2.1 (P := plD B R (d0 + v)) rfl u42 s rfl (by omega), esm]
  have hp2 := pth_s B (plD B R (d0 + v)) s
  have f8 := fD_8 B R (d0 + v) s
  have fin : ∀ (t : Int32) (last : Int32) (g' : Hp), t = seaT B R (nI (B.1 5)) p3 d0 v + totI (fD B R (d0 + v)) (cst B R (d0 + v) bits) (s + 1) → last = nI (pth B (plD B R (d0 + v)) (s + 1)).2 → mS2 u g' → g' 92 51 = sdv (nI (B.1 5)) p3 (v + 1) → K30 (t, last, nI s + 1, g') := by
    intro t last g' ht hlast hg h51
    rw [nI_1]
    exact hK30 hsE _ ⟨rfl, ht, hlast, fu.tr hg, h51⟩
  by_cases c : fD B R (d0 + v) s = 8
  · have hv8 : hasv (fD B R (d0 + v) s) = -1 := (hasv_m1 f8).mpr c
    refine wif_p hv8 ?_
    unfold w_X9_seasonOf_b114
    rw [hv8, wlet_e]
    refine fin _ _ u (by rw [totI_s, if_pos c]) ?_ mS2.rf u51
    have hp3 : pth B (plD B R (d0 + v)) (s + 1) = ((pth B (plD B R (d0 + v)) s).1, 8) := hp2.trans (if_pos c)
    rw [hp3]
    rfl
  have hkt := fD_c hw c
  have hv8 : hasv (fD B R (d0 + v) s) = nI (fD B R (d0 + v) s) := by unfold hasv; rw [if_neg c]
  have hp3 : pth B (plD B R (d0 + v)) (s + 1) = ((pth B (plD B R (d0 + v)) s).1 ||| 2 ^ fD B R (d0 + v) s, fD B R (d0 + v) s) := hp2.trans (if_neg c)
  have hlast : (if ¬ nI (fD B R (d0 + v) s) = -1 then nI (fD B R (d0 + v) s) else 8) = nI (pth B (plD B R (d0 + v)) (s + 1)).2 := by
    rw [if_pos (nI_m1 (by omega)), hp3]
  obtain ⟨pd, pc⟩ := pD_lo (B := B) R (d := d0 + v) (s := s) (fD B R (d0 + v) s) hsE
  have hlA : lastA (plD B R (d0 + v)) s (pth B (plD B R (d0 + v)) s).2 = (pth B (plD B R (d0 + v)) s).2 := by
    unfold lastA
    exact if_neg (show ¬ s = slN B by omega)
  have hmins : slM B s < 1440 := by
    have := slM_b hw hsE
    have := hw.2.2.1
    omega
  have okk := dayP_ok hw R [] hb8 (d0 + v) false (pen := 1000000) (by decide) (by decide)
  have hpo := pth_ok (B := B) okk s (by show s ≤ slN B; omega)
  have hl8 : (pth B (plD B R (d0 + v)) s).2 ≤ 8 := by
    rcases hpo.2.2 with q | q
    · exact Nat.le_of_eq q
    · exact Nat.le_of_lt q.1
  have hgo : goodL B (pth B (plD B R (d0 + v)) s).2 := by
    rcases hpo.2.2 with q | q
    · exact Or.inl q
    · refine Or.inr (bits_lt (j := 2 ^ B.1 0 - 1) (by have := Nat.two_pow_pos (B.1 0); omega) (hpo.2.1 _ q.1 q.2))
  have hcn : cn B (plD B R (d0 + v)) s = if isD B (fD B R (d0 + v) s) (pth B (plD B R (d0 + v)) s).2 = true then pD (plD B R (d0 + v)) s (fD B R (d0 + v) s) else pC (plD B R (d0 + v)) s (fD B R (d0 + v) s) := by
    unfold cn
    rw [hlA]
    exact if_neg c
  refine wif_n (by rw [hv8]; exact nI_m1 (by omega)) ?_
  rw [hv8]
  refine s_isDark au.2.1 (fD B R (d0 + v) s) (pth B (plD B R (d0 + v)) s).2 rfl rfl hkt hl8 _ (fun zz hz2 hzg => ?_)
  have hz := hzg hgo
  have out : ∀ t g', t = cst B R (d0 + v) bits s → mS2 u g' → wlet (seaT B R (nI (B.1 5)) p3 d0 v + totI (fD B R (d0 + v)) (cst B R (d0 + v) bits) s + t) (fun v4_3 => w_X9_seasonOf_b114 (nI d0) (nI n) p3 v4_3 (nI v) bits (nI s) (nI (fD B R (d0 + v) s)) K11 K30 g' Q) := by
    intro t g' ht hg
    unfold w_X9_seasonOf_b114
    rw [wlet_e, wlet_e, hlast]
    refine fin _ _ g' ?_ rfl hg (by rw [hg.2 51 ?_, u51])
    rw [totI_s, if_neg c, ht, Int32.add_assoc]
  sorry
end F12
