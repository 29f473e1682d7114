/-! the model: the whole table, and the plan -/
theorem hup_eq4 {α β γ : Type} {a : α} {b : β} {c : γ} {h : Hp} {p i : Nat} {v : Int32} : (a, b, c, hup h p i v).2.2.2 p i = v := hup_eq h p i v
theorem hup_o2 {α : Type} {a : α} {h : Hp} {p i : Nat} {v : Int32} {q j : Nat} (hn : q ≠ p ∨ j ≠ i) : (a, hup h p i v).2 q j = h q j := hup_o hn
def f63 (h h' : Hp) : Prop := ∀ q, (q < 1363 ∨ 1423 < q) → h' q = h q
theorem f63.MS {h h' : Hp} {B : Br} {P : Pz} (a : f63 h h') (hA : pA P ≤ 60) (c : MS h B P) : MS h' B P := c.same (fun q h1 _ => a q (Or.inl h1)) (by rw [a 92 (by decide)]) (by rw [a 92 (by decide)]) hA
theorem lastA_le (P : Pz) {s l : Nat} (h : l ≤ 8) : lastA P s l ≤ 8 := by
  unfold lastA
  split <;> omega
theorem DI_lastA {B : Br} {P : Pz} {s : Nat} (hs : s < pA P) (g l : Nat) : DI B P (pA P - s) g (lastA P s l) = DI B P (pA P - s) g l := by
  have e : lastA P s (lastA P s l) = lastA P s l := by
    unfold lastA
    split <;> rfl
  rw [DI_succ hs, DI_succ hs, e]
theorem goodA {B : Br} {P : Pz} {s l : Nat} (h : goodL B l) : goodL B (lastA P s l) := by
  unfold lastA
  split
  · exact Or.inl rfl
  · exact h
theorem s_layLeast {h : Hp} {B : Br} {P : Pz} (hS : MS h B P) (ho : okP P) (hpen : pP P = 1000000) {p1 : Int32} (h1 : p1 = nI (pB P)) (Q : Hp → Prop) (hQ : ∀ h', f63 h h' → (∀ s, s ≤ pA P → TM B P h' s) → Q h') : w_X9_layLeast p1 h Q := by
  have hal := ho.al
  have hpb := ho.1
  subst h1
  unfold w_X9_layLeast w_X9_layLeast_b2
  refine wl_run 256 (fun g (st : Int32 × Hp) => st.1 = nI g ∧ f63 h st.2 ∧ (∀ g' l, g' < g → l ≤ 8 → st.2 (1363 + pA P) (9 * g' + l) = zI (DI B P 0 g' l))) ?_ (Nat.zero_le _) ⟨rfl, fun _ _ => rfl, fun g' _ hg' => absurd hg' (by omega)⟩
  rintro g ⟨v2, h1⟩ K hg ⟨e2, hf, ht⟩ hK
  simp only at e2 hf ht
  subst e2
  show w_X9_layLeast_l2 (nI (pB P)) Q K (nI g) h1
  unfold w_X9_layLeast_l2
  have hS1 := f63.MS hf hal hS
  rw [q256]
  refine ⟨fun z => ?_, fun z => ?_⟩
  rotate_left
  · have hg8 : g < 256 := Nat.lt_of_not_le fun q => z ((nI_leI (by omega) (by omega)).mpr q)
    unfold w_X9_layLeast_b11
    refine wl_run 9 (fun l (st : Int32 × Hp) => st.1 = nI l ∧ f63 h st.2 ∧ (∀ g' l', g' < g → l' ≤ 8 → st.2 (1363 + pA P) (9 * g' + l') = zI (DI B P 0 g' l')) ∧ (∀ l', l' < l → st.2 (1363 + pA P) (9 * g + l') = zI (DI B P 0 g l'))) ?_ (Nat.zero_le _) ⟨rfl, hf, ht, fun l' hl' => absurd hl' (by omega)⟩
    rintro l ⟨v3, h2⟩ K2 hl ⟨e3, hf2, ht2, hl2⟩ hK2
    simp only at e3 hf2 ht2 hl2
    subst e3
    show w_X9_layLeast_l11 (nI (pB P)) (nI g) K Q K2 (nI l) h2
    unfold w_X9_layLeast_l11
    have hS2 := f63.MS hf2 hal hS
    refine ⟨fun z2 => ?_, fun z2 => ?_⟩
    · have e : l = 9 := by
        rw [q9] at z2
        have := (nI_leI (by omega) (by omega)).mp z2
        omega
      subst e
      rw [nI_1]
      refine hK hg8 _ ⟨rfl, hf2, fun g' l' hg' hl' => ?_⟩
      by_cases e : g' = g
      · rw [e]
        exact hl2 l' (by omega)
      · exact ht2 g' l' (by omega) hl'
    have hl9 : l < 9 := Nat.lt_of_not_le fun q => z2 (by rw [q9]; exact (nI_leI (by omega) (by omega)).mpr q)
    rw [hS2.2.2.2.1, andn_i hpb]
    refine ⟨vp_in_nI (by omega) (by decide), s_ones _ rfl (andn_lt hpb) _ ?_⟩
    rw [show (9 : Int32) * nI g + nI l = nI (9 * g + l) by rw [q9, pk_mul, nI_add]]
    refine ⟨vp_in_nI (by omega) (by decide), ?_⟩
    rw [wlet_e, nI_clamp (n := pA P) (by omega), nI_clamp (n := 9 * g + l) (by omega), Nat.one_mul, nI_1]
    have ev : (1000000 : Int32) * nI (onesN 8 (andn (pB P) g)) = zI (DI B P 0 g l) := by
      show _ = zI (pP P * (onesN 8 (andn (pB P) g) : Int))
      rw [hpen, ← zI_mul, zI_n]
      rfl
    rw [ev]
    refine hK2 hl9 _ ⟨rfl, fun q hq => (hup_ne (by omega)).trans (hf2 q hq), fun g' l' hg' hl' => ?_, fun l' hl' => ?_⟩
    · show hup h2 (1363 + pA P) (9 * g + l) (zI (DI B P 0 g l)) (1363 + pA P) (9 * g' + l') = _
      rw [hup_o (Or.inr (by omega))]
      exact ht2 g' l' hg' hl'
    · show hup h2 (1363 + pA P) (9 * g + l) (zI (DI B P 0 g l)) (1363 + pA P) (9 * g + l') = _
      by_cases e : l' = l
      · rw [e]
        exact hup_eq _ _ _ _
      · rw [hup_o (Or.inr (by omega))]
        exact hl2 l' (by omega)
  have hg8 : g = 256 := by
    have := (nI_leI (by omega) (by omega)).mp z
    omega
  subst hg8
  rw [hS1.2.2.2.1, wlet_e, q1, nI_subZ]
  unfold w_X9_layLeast_b64
  refine wl_run (pA P) (fun t (st : Int32 × Hp) => st.1 = zI ((pA P : Int) - (1 : Nat) - t) ∧ f63 h st.2 ∧ (∀ s, pA P - t ≤ s → s ≤ pA P → TM B P st.2 s)) ?_ (Nat.zero_le _) ?_
  rotate_left
  · refine ⟨by show zI _ = zI _; congr 1; omega, hf, fun s a1 a2 g' hg' hs' l hl hgl => ?_⟩
    have : s = pA P := by omega
    subst this
    rw [Nat.sub_self]
    exact ht g' l hg' hl
  rintro t ⟨v2, h2⟩ K2 ht2 ⟨e2, hf2, hT2⟩ hK2
  simp only at e2 hf2 hT2
  subst e2
  show w_X9_layLeast_l64 (nI (pB P)) Q K2 (zI ((pA P : Int) - (1 : Nat) - t)) h2
  unfold w_X9_layLeast_l64
  refine ⟨fun z => ?_, fun z => ?_⟩
  · have e : t = pA P := by
      rw [← zI_0] at z
      have := (zI_lt (by omega) (by omega)).mp z
      omega
    subst e
    exact hQ h2 hf2 (fun s hs => hT2 s (by omega) hs)
  have ht3 : t < pA P := by
    refine Nat.lt_of_not_le fun q => z ?_
    rw [← zI_0]
    exact (zI_lt (by omega) (by omega)).mpr (by omega)
  obtain ⟨s, hs, hst⟩ : ∃ s, s < pA P ∧ s = pA P - 1 - t := ⟨pA P - 1 - t, by omega, rfl⟩
  rw [show zI ((pA P : Int) - (1 : Nat) - t) = nI s from zI_nat (by omega)]
  unfold w_X9_layLeast_b70
  refine wl_run 256 (fun g (st : Int32 × Hp) => st.1 = nI g ∧ f63 h st.2 ∧ (∀ s', s < s' → s' ≤ pA P → TM B P st.2 s') ∧ (∀ g', g' < g → sub8 g' (pB P) → TMg B P st.2 s g')) ?_ (Nat.zero_le _) ⟨rfl, hf2, fun s' a b => hT2 s' (by omega) b, fun g' hg' => absurd hg' (by omega)⟩
  rintro g ⟨v3, h3⟩ K3 hg3 ⟨e3, hf3, hT3, hG3⟩ hK3
  simp only at e3 hf3 hT3 hG3
  subst e3
  show w_X9_layLeast_l70 (nI (pB P)) (nI s) K2 Q K3 (nI g) h3
  unfold w_X9_layLeast_l70
  refine ⟨fun z => ?_, fun z => ?_⟩
  · have hg8 : g = 256 := by
      rw [q256] at z
      have := (nI_leI (by omega) (by omega)).mp z
      omega
    subst hg8
    refine hK2 ht3 _ ⟨?_, hf3, fun s' a b => ?_⟩
    · show nI s + -1 = _
      rw [← zI_n, show (-1 : Int32) = zI (-1) from rfl, zI_add]
      congr 1
      omega
    · by_cases e : s' = s
      · rw [e]
        exact fun g' hg' hs' => hG3 g' hg' hs'
      · exact hT3 s' (by omega) b
  have hg8 : g < 256 := Nat.lt_of_not_le fun q => z (by rw [q256]; exact (nI_leI (by omega) (by omega)).mpr q)
  rw [andn_i hg8]
  unfold w_X9_layLeast_b132
  refine ⟨fun z2 => ?_, fun z2 => ?_⟩
  rotate_left
  · rw [nI_1]
    refine hK3 hg8 _ ⟨rfl, hf3, hT3, fun g' a b => hG3 g' ?_ b⟩
    have : g' ≠ g := fun e => z2 (by rw [← e, (andn_0 (by omega)).mpr b]; rfl)
    omega
  have hsub : sub8 g (pB P) := by
    refine (andn_0 hg8).mp ?_
    have h10 := andn_lt (a := g) (g := pB P) hg8
    exact (nI_eq (b := 0) (by omega) (by omega)).mp z2
  unfold w_X9_layLeast_b91
  refine wl_run 9 (fun l (st : Int32 × Hp) => st.1 = nI l ∧ f63 h st.2 ∧ (∀ s', s < s' → s' ≤ pA P → TM B P st.2 s') ∧ (∀ g', g' < g → sub8 g' (pB P) → TMg B P st.2 s g') ∧ (∀ l', l' < l → goodL B l' → st.2 (1363 + s) (9 * g + l') = zI (DI B P (pA P - s) g l'))) ?_ (Nat.zero_le _) ⟨rfl, hf3, hT3, hG3, fun l' hl' => absurd hl' (by omega)⟩
  rintro l ⟨v4, h4⟩ K4 hl4 ⟨e4, hf4, hT4, hG4, hL4⟩ hK4
  simp only at e4 hf4 hT4 hG4 hL4
  subst e4
  show w_X9_layLeast_l91 (nI (pB P)) (nI s) (nI g) K2 K3 Q K4 (nI l) h4
  unfold w_X9_layLeast_l91 w_X9_layLeast_b132
  have hS4 := f63.MS hf4 hal hS
  refine ⟨fun z => ?_, fun z => ?_⟩
  · have e : l = 9 := by
      rw [q9] at z
      have := (nI_leI (by omega) (by omega)).mp z
      omega
    subst e
    rw [nI_1]
    refine hK3 hg8 _ ⟨rfl, hf4, hT4, fun g' a b => ?_⟩
    by_cases e : g' = g
    · rw [e]
      exact fun l hl hgl => hL4 l (by omega) hgl
    · exact hG4 g' (by omega) b
  have hl9 : l < 9 := Nat.lt_of_not_le fun q => z (by rw [q9]; exact (nI_leI (by omega) (by omega)).mpr q)
  refine ⟨vp_in_nI (by omega) (by decide), ?_⟩
  rw [e_lastAt hS4.2.2.1 ho.2.1 s l rfl rfl (by omega)]
  refine s_leastAt hS4 ho s g (lastA P s l) rfl rfl rfl rfl hs hg8 hsub (lastA_le P (by omega)) (hT4 (s + 1) (by omega) (by omega)) _ (fun v hv => ?_)
  rw [show (9 : Int32) * nI g + nI l = nI (9 * g + l) by rw [q9, pk_mul, nI_add]]
  refine ⟨vp_in_nI (by omega) (by decide), ?_⟩
  rw [wlet_e, nI_clamp (n := s) (by omega), nI_clamp (n := 9 * g + l) (by omega), Nat.one_mul, nI_1]
  refine hK4 hl9 _ ⟨rfl, fun q hq => (hup_ne (by omega)).trans (hf4 q hq), fun s' a b g' hg' hs' l' hl' hgl => ?_, fun g' a b l' hl' hgl => ?_, fun l' hl' hgl => ?_⟩
  · show hup h4 (1363 + s) (9 * g + l) v (1363 + s') (9 * g' + l') = _
    rw [hup_o (Or.inl (by omega))]
    exact hT4 s' a b g' hg' hs' l' hl' hgl
  · show hup h4 (1363 + s) (9 * g + l) v (1363 + s) (9 * g' + l') = _
    rw [hup_o (Or.inr (by omega))]
    exact hG4 g' a b l' hl' hgl
  · show hup h4 (1363 + s) (9 * g + l) v (1363 + s) (9 * g + l') = _
    by_cases e : l' = l
    · rw [e, hup_eq]
      rw [e] at hgl
      rw [hv (goodA hgl), DI_succ hs]
    · rw [hup_o (Or.inr (by omega))]
      exact hL4 l' (by omega) hgl
def hasv (k : Nat) : Int32 := if k = 8 then -1 else nI k
theorem hasv_m1 {k : Nat} (h : k ≤ 8) : hasv k = -1 ↔ k = 8 := by
  unfold hasv
  by_cases c : k = 8
  · rw [if_pos c]
    exact ⟨fun _ => c, fun _ => rfl⟩
  · rw [if_neg c]
    constructor
    · intro e
      have h9 := congrArg Int32.toInt e
      rw [nI_toInt (by omega)] at h9
      have h8 : (-1 : Int32).toInt = -1 := by decide
      omega
    · intro e
      exact absurd e c
def SFM (B : Br) (P : Pz) (h h' : Hp) (n : Nat) : Prop := (∀ q, q ≠ 92 → q ≠ 1424 → q ≠ 1425 → h' q = h q) ∧ (∀ i, i ≠ 46 → h' 92 i = h 92 i) ∧ (∀ s, s < n → h' 1424 s = hasv (hold B P s)) ∧ h' 1425 0 = zI (ern B P 0 n) ∧ h' 1425 1 = zI (ern B P 1 n) ∧ h' 92 46 = nI (jmm B P n)
theorem fst8_none {c : Nat → Bool} : ∀ (f k : Nat), k + f = 8 → (∀ i, k ≤ i → i < 8 → c i = false) → fst8 c f k = 8
  | 0, _, _, _ => rfl
  | f + 1, k, h, hc => by
    unfold fst8
    rw [hc k (Nat.le_refl _) (by omega), if_neg (by decide)]
    exact fst8_none f (k + 1) (by omega) (fun i h1 h2 => hc i (by omega) h2)
theorem s_seatM {h : Hp} {B : Br} {P : Pz} (hS : MS h B P) (ho : okP P) (hw : mayOk B P) (hT : ∀ s, s ≤ pA P → TM B P h s) {p1 p2 p3 : Int32} (h1 : p1 = nI (pB P)) (hz0 : h 1425 0 = 0) (hz1 : h 1425 1 = 0) (hj : h 92 46 = 0) (Q : Hp → Prop) (hQ : ∀ h', SFM B P h h' (pA P) → Q h') : w_X9_findPlan_b74 p1 p2 p3 Q (0, 8, 0, h) := by
  have hal := ho.al
  have he := ho.2.1
  have hAE : pA P ≤ 2 * pE P := by
    have := ho.2.2.1
    omega
  have hwb := hS.1.2.2.2.2
  have hw0 := hwb.1
  have hw3 := hwb.2.2.1
  subst h1
  unfold w_X9_findPlan_b74
  refine wl_run (pA P) (fun t (st : Int32 × Int32 × Int32 × Hp) => st.1 = nI (pth B P t).1 ∧ st.2.1 = nI (pth B P t).2 ∧ st.2.2.1 = nI t ∧ SFM B P h st.2.2.2 t) ?_ (Nat.zero_le _) ⟨rfl, rfl, rfl, fun _ _ _ _ => rfl, fun _ _ => rfl, fun s hs => absurd hs (by omega), hz0, hz1, hj⟩
  rintro s ⟨v4, v5, v6, h1⟩ K ht ⟨e4, e5, e6, hSF⟩ hK
  simp only at e4 e5 e6 hSF
  subst e4 e5 e6
  show w_X9_findPlan_l74 (nI (pB P)) p2 p3 Q K _ _ (nI s) h1
  unfold w_X9_findPlan_l74
  obtain ⟨a1, a2, a3, a5, a6, a8⟩ := hSF
  rw [a2 43 (by decide), hS.2.2.2.1]
  refine ⟨fun z => ?_, fun z => ?_⟩
  · have e : s = pA P := by
      have := (nI_leI (by omega) (by omega)).mp z
      omega
    subst e
    exact hQ h1 ⟨a1, a2, a3, a5, a6, a8⟩
  have hs : s < pA P := Nat.lt_of_not_le fun q => z ((nI_leI (by omega) (by omega)).mpr q)
  have hKs := hK hs
  obtain ⟨hp1, hp2, hp3⟩ := pth_ok (B := B) ho s ht
  have hl8 : (pth B P s).2 ≤ 8 := by omega
  have hgl : goodL B (pth B P s).2 := by
    rcases hp3 with e | ⟨e1, e2⟩
    · exact Or.inl e
    · exact Or.inr (hS.2.2.2.2.2.1 _ (hp2 _ e1 e2))
  have hS1 : MS h1 B P := hS.same (fun q q1 q2 => a1 q q2 (by omega) (by omega)) (a2 42 (by decide)) (a2 43 (by decide)) hal
  have v60 : vp_in (nI s) 60 := vp_in_nI (by omega) (by decide)
  rw [e_lastAt hS1.2.2.1 he s _ rfl rfl (by omega)]
  refine ⟨v60, ?_⟩
  rw [wlet_e, nI_clamp (n := s) (by omega)]
  have hlA := lastA_le P (s := s) hl8
  have hgA : goodL B (lastA P s (pth B P s).2) := goodA hgl
  -- behind the search: who sits here is known
  have hout : ∀ g : Hp, (∀ q, q ≠ 1424 → g q = h1 q) → (∀ i, i ≠ s → g 1424 i = h1 1424 i) → g 1424 s = hasv (hold B P s) → w_X9_findPlan_b217 (nI (pB P)) p2 p3 (nI (pth B P s).1) (nI (lastA P s (pth B P s).2)) (nI s) K g Q := by
    intro g hg hg2 hgs
    have hg92 : g 92 = h1 92 := hg 92 (by decide)
    have hhl := hold_le B P s
    have hSg : MS g B P := hS1.same (fun q q1 q2 => hg q (by omega)) (by rw [hg92]) (by rw [hg92]) hal
    have hgo : ∀ i, i < s + 1 → g 1424 i = hasv (hold B P i) := fun i hi => by
      by_cases e : i = s
      · rw [e]
        exact hgs
      · rw [hg2 i e]
        exact a3 i (by omega)
    unfold w_X9_findPlan_b217 w_X9_findPlan_b327 w_X9_findPlan_b350
    refine ⟨v60, ?_⟩
    rw [nI_clamp (n := s) (by omega), hgs]
    refine ⟨fun z2 => ?_, fun z2 => ?_⟩
    · have c8 : hold B P s = 8 := (hasv_m1 hhl).mp z2
      refine ⟨v60, ?_⟩
      refine wif_n (fun q => q z2) ?_
      rw [nI_1]
      have ep : pth B P (s + 1) = ((pth B P s).1, 8) := by
        rw [pth_s, if_pos c8]
      have ecn : cn B P s = 0 := by
        unfold cn
        rw [if_pos c8]
      have er : ∀ b, ern B P b (s + 1) = ern B P b s := fun b => by
        show (if _ then _ else _) = _
        rw [ecn, Int.add_zero]
        exact ite_self _
      refine hKs _ ⟨by rw [ep], by rw [ep]; rfl, rfl, fun q b1 b2 b3 => (hg q b2).trans (a1 q b1 b2 b3), fun i hi => ?_, hgo, ?_, ?_, ?_⟩
      · show g 92 i = h 92 i
        rw [hg92]
        exact a2 i hi
      · show g 1425 0 = _
        rw [hg 1425 (by decide), er]
        exact a5
      · show g 1425 1 = _
        rw [hg 1425 (by decide), er]
        exact a6
      · show g 92 46 = nI (if hold B P s = 8 then _ else _)
        rw [if_pos c8, hg92]
        exact a8
    · have c8 : hold B P s ≠ 8 := fun e => z2 ((hasv_m1 hhl).mpr e)
      obtain ⟨c1, c2⟩ := hold_c c8
      obtain ⟨hbk, hgk, hmay⟩ := can_tb hS1 hs c2
      have hkn := hS.2.2.2.2.2.1 _ hbk
      have hmm := hw.2 s _ hs c1 (canB_tb ho hs c1 c2).1
      have hsm := smB_b hwb hw.1 hAE hs
      have hjb := jmm_b (P := P) hwb hw.1 hAE s (by omega)
      have ehv : hasv (hold B P s) = nI (hold B P s) := by
        unfold hasv
        rw [if_neg c8]
      have v8 : vp_in (nI (hold B P s)) 8 := vp_in_nI c1 (by decide)
      refine ⟨v60, ?_⟩
      rw [ehv, wlet_e, e_minuteOfM hSg.1 hSg.2.1 hSg.2.2.1 s rfl (by omega)]
      refine ⟨v8, vl 2 7 (by decide) (by decide), ?_⟩
      rw [wlet_e, nI_clamp (n := hold B P s) (by omega), Nat.one_mul, cl2, hSg.1.2.2.2.1 _ 2 hkn (by decide), pk_sub hmm, hSg.2.2.1]
      have eb : (if nI (pE P) ≤ nI s then (1 : Int32) else 0) = nI (if pE P ≤ s then 1 else 0) := by
        by_cases c : pE P ≤ s
        · rw [if_pos c, if_pos ((nI_leI (by omega) (by omega)).mpr c)]
          rfl
        · rw [if_neg c, if_neg (fun q => c ((nI_leI (by omega) (by omega)).mp q))]
          rfl
      rw [eb]
      generalize hb : (if pE P ≤ s then 1 else 0) = b
      have hb2 : b = 0 ∨ b = 1 := by
        rw [← hb]
        split
        · exact Or.inr rfl
        · exact Or.inl rfl
      have vb : vp_in (nI b) 2 := vp_in_nI (by omega) (by decide)
      refine ⟨vb, v60, v8, ?_⟩
      refine s_isDark hSg.1 (hold B P s) (lastA P s (pth B P s).2) rfl rfl hkn hlA _ (fun zz hz2 hzg => ?_)
      have hz := hzg hgA
      refine ⟨vp_in_nI hz2 (by decide), vb, ?_⟩
      rw [nI_clamp (n := b) (by omega), nI_clamp (n := zz) (by omega), wlet_e]
      obtain ⟨_, hco⟩ := hSg.2.2.2.2.1 s hs _ hkn
      obtain ⟨k0, k1, _, _⟩ := hco hmay
      have ecoin : g (761 + 9 * s + 1 + hold B P s) zz = zI (cn B P s) := by
        unfold cn
        rw [if_neg c8, hz]
        cases isD B (hold B P s) (lastA P s (pth B P s).2) with
        | true =>
          rw [if_pos rfl, if_pos rfl]
          exact k1
        | false =>
          rw [if_neg (by decide), if_neg (by decide)]
          exact k0
      have eern : g 1425 b = zI (ern B P b s) := by
        rw [hg 1425 (by decide)]
        rcases hb2 with rfl | rfl
        · exact a5
        · exact a6
      rw [ecoin, eern, zI_add]
      generalize hg9 : hup g 1425 b (zI (ern B P b s + cn B P s)) = g9
      have g9o : ∀ q, q ≠ 1425 → g9 q = g q := fun q hq => by
        rw [← hg9]
        exact hup_ne hq
      rw [g9o 92 (by decide), hg92, a8, wlet_e]
      have ej : (if nI (smB B P s - B.2.2.2 (hold B P s) 2) ≤ nI (jmm B P s) then nI (jmm B P s) else nI (smB B P s - B.2.2.2 (hold B P s) 2)) = nI (jmm B P (s + 1)) := by
        have e9 : jmm B P (s + 1) = if jmm B P s < smB B P s - B.2.2.2 (hold B P s) 2 then smB B P s - B.2.2.2 (hold B P s) 2 else jmm B P s := by
          show (if hold B P s = 8 then _ else _) = _
          rw [if_neg c8]
        rw [e9]
        by_cases c : jmm B P s < smB B P s - B.2.2.2 (hold B P s) 2
        · rw [if_pos c, if_neg (fun q => by have := (nI_leI (by omega) (by omega)).mp q; omega)]
        · rw [if_neg c, if_pos ((nI_leI (by omega) (by omega)).mpr (by omega))]
      rw [ej, wlet_e, or_bit _ (by omega)]
      have e1424 : hup g9 92 46 (nI (jmm B P (s + 1))) 1424 = g 1424 := by
        rw [hup_ne (by decide), g9o 1424 (by decide)]
      refine ⟨v60, ?_⟩
      rw [e1424, hgs]
      refine wif_p z2 ⟨v60, ?_⟩
      rw [ehv, nI_1]
      have ep : pth B P (s + 1) = ((pth B P s).1 ||| 2 ^ hold B P s, hold B P s) := by
        rw [pth_s, if_neg c8]
      refine hKs _ ⟨by rw [ep], by rw [ep], rfl, fun q b1 b2 b3 => ?_, fun i hi => ?_, fun i hi => ?_, ?_, ?_, hup_eq4⟩
      · show hup g9 92 46 (nI (jmm B P (s + 1))) q = h q
        rw [hup_ne b1, g9o q b3, hg q b2]
        exact a1 q b1 b2 b3
      · show hup g9 92 46 (nI (jmm B P (s + 1))) 92 i = h 92 i
        rw [hup_o (Or.inr hi), g9o 92 (by decide), hg92]
        exact a2 i hi
      · show hup g9 92 46 (nI (jmm B P (s + 1))) 1424 i = _
        rw [e1424]
        exact hgo i hi
      · show hup g9 92 46 (nI (jmm B P (s + 1))) 1425 0 = _
        have e9 : ern B P 0 (s + 1) = if b = 0 then ern B P 0 s + cn B P s else ern B P 0 s := by
          show (if (if pE P ≤ s then 1 else 0) = 0 then _ else _) = _
          rw [hb]
        rw [hup_ne (by decide), ← hg9, hup_at, e9]
        rcases hb2 with rfl | rfl
        · rw [if_pos ⟨rfl, rfl⟩, if_pos rfl]
        · rw [if_neg (by decide), if_neg (by decide), hg 1425 (by decide)]
          exact a5
      · show hup g9 92 46 (nI (jmm B P (s + 1))) 1425 1 = _
        have e9 : ern B P 1 (s + 1) = if b = 1 then ern B P 1 s + cn B P s else ern B P 1 s := by
          show (if (if pE P ≤ s then 1 else 0) = 1 then _ else _) = _
          rw [hb]
        rw [hup_ne (by decide), ← hg9, hup_at, e9]
        rcases hb2 with rfl | rfl
        · rw [if_neg (by decide), if_neg (by decide), hg 1425 (by decide)]
          exact a6
        · rw [if_pos ⟨rfl, rfl⟩, if_pos rfl]
  -- the search
  unfold w_X9_findPlan_b104
  refine wl_run (B.1 0) (fun t (st : Int32 × Hp) => st.1 = nI t ∧ (∀ q, q ≠ 1424 → st.2 q = h1 q) ∧ (∀ i, i ≠ s → st.2 1424 i = h1 1424 i) ∧ ((st.2 1424 s = -1 ∧ hold B P s = fst8 (cP B P s (pth B P s).1 (pth B P s).2) (8 - t) t) ∨ (hold B P s ≠ 8 ∧ st.2 1424 s = nI (hold B P s)))) ?_ (Nat.zero_le _) ⟨rfl, fun q hq => hup_ne hq, fun i hi => hup_o2 (Or.inr hi), Or.inl ⟨hup_eq2, rfl⟩⟩
  rintro t ⟨v7, h2⟩ K2 ht2 ⟨e7, hf2, ho2, hcase⟩ hK2
  simp only at e7 hf2 ho2 hcase
  subst e7
  show w_X9_findPlan_l104 (nI (pB P)) p2 p3 _ _ (nI s) K Q K2 (nI t) h2
  unfold w_X9_findPlan_l104 w_X9_findPlan_b211
  have h292 : h2 92 = h1 92 := hf2 92 (by decide)
  have hS2 : MS h2 B P := hS1.same (fun q q1 q2 => hf2 q (by omega)) (by rw [h292]) (by rw [h292]) hal
  refine ⟨vl 0 11 (by decide) (by decide), ?_⟩
  rw [cl0, hS2.1.1 0 (by decide)]
  refine ⟨fun z2 => ?_, fun z2 => ⟨v60, ?_⟩⟩
  · have e : t = B.1 0 := by
      have := (nI_leI (by omega) (by omega)).mp z2
      omega
    subst e
    refine hout h2 hf2 ho2 ?_
    rcases hcase with ⟨b1, b2⟩ | ⟨b1, b2⟩
    · have e8 : hold B P s = 8 := by
        rw [b2]
        refine fst8_none _ _ (by omega) (fun i i1 i2 => ?_)
        cases hc : canB P s (pth B P s).1 i with
        | false =>
          unfold cP
          rw [hc]
          rfl
        | true =>
          have := hS.2.2.2.2.2.1 i (can_tb hS1 hs hc).1
          omega
      rw [b1, e8]
      rfl
    · rw [b2]
      unfold hasv
      rw [if_neg b1]
  have htn : t < B.1 0 := Nat.lt_of_not_le fun q => z2 ((nI_leI (by omega) (by omega)).mpr q)
  have hK3 := hK2 htn
  rw [nI_clamp (n := s) (by omega)]
  rcases hcase with ⟨b1, b2⟩ | ⟨b1, b2⟩
  rotate_left
  · have hne : ¬ h2 1424 s = -1 := by
      rw [b2]
      intro q
      refine b1 ((hasv_m1 (hold_le B P s)).mp ?_)
      unfold hasv
      rw [if_neg b1]
      exact q
    refine wif_p hne (hout h2 hf2 ho2 ?_)
    rw [b2]
    unfold hasv
    rw [if_neg b1]
  refine wif_n (not_not_intro b1) ?_
  have hst : hold B P s = if cP B P s (pth B P s).1 (pth B P s).2 t = true then t else fst8 (cP B P s (pth B P s).1 (pth B P s).2) (8 - (t + 1)) (t + 1) := by
    have e : 8 - t = (8 - (t + 1)) + 1 := by omega
    rw [b2, e]
    rfl
  rw [e_canHave hS2 ho.1 s (pth B P s).1 t rfl rfl rfl rfl hs (by omega) hp1 htn, nI_1 t]
  cases hc : canB P s (pth B P s).1 t with
  | false =>
    rw [if_neg (show ¬ false = true by decide)]
    refine wif_p rfl (hK3 _ ⟨rfl, hf2, ho2, Or.inl ⟨b1, ?_⟩⟩)
    rw [hst, if_neg]
    unfold cP
    rw [hc]
    simp
  | true =>
    obtain ⟨hbk, hgk, hmay⟩ := can_tb hS2 hs hc
    obtain ⟨_, hco⟩ := hS2.2.2.2.2.1 s hs t htn
    obtain ⟨_, _, c0, c1⟩ := hco hmay
    have hog := or_lt (k := t) hp1 (by omega)
    have hTs := hT s ht (pth B P s).1 hp1 hp2 (lastA P s (pth B P s).2) hlA hgA
    have hT1 := hT (s + 1) (by omega) ((pth B P s).1 ||| 2 ^ t) hog (or_sub hp2 hbk) t (by omega) (Or.inr htn)
    have e63 : ∀ q, 1363 ≤ q → q ≤ 1423 → h2 q = h q := fun q q1 q2 => (hf2 q (by omega)).trans (a1 q (by omega) (by omega) (by omega))
    rw [if_pos rfl]
    refine wif_n i10 ⟨v60, vp_in_nI (by omega) (by decide), ?_⟩
    refine s_isDark hS2.1 t (lastA P s (pth B P s).2) rfl rfl htn hlA _ (fun zz hz2 hzg => ?_)
    have hz := hzg hgA
    rw [or_bit _ (by omega), show (9 : Int32) * nI ((pth B P s).1 ||| 2 ^ t) + nI t = nI (9 * ((pth B P s).1 ||| 2 ^ t) + t) by rw [q9, pk_mul, nI_add], show (9 : Int32) * nI (pth B P s).1 + nI (lastA P s (pth B P s).2) = nI (9 * (pth B P s).1 + lastA P s (pth B P s).2) by rw [q9, pk_mul, nI_add], nI_1 s]
    refine ⟨vp_in_nI hz2 (by decide), vp_in_nI (by omega) (by decide), vp_in_nI (by omega) (by decide), vp_in_nI (by omega) (by decide), vp_in_nI (by omega) (by decide), ?_⟩
    rw [nI_clamp (n := t) (by omega), nI_clamp (n := zz) (by omega), nI_clamp (n := s + 1) (by omega), nI_clamp (n := 9 * ((pth B P s).1 ||| 2 ^ t) + t) (by omega), nI_clamp (n := 9 * (pth B P s).1 + lastA P s (pth B P s).2) (by omega), Nat.one_mul, Nat.one_mul, Nat.one_mul, e63 (1363 + (s + 1)) (by omega) (by omega), hT1, e63 (1363 + s) (by omega) (by omega), hTs, DI_lastA hs]
    have ecost : h2 (220 + 9 * s + 1 + t) zz = zI (costB B P s t (lastA P s (pth B P s).2)) := by
      unfold costB
      rw [hz]
      cases isD B t (lastA P s (pth B P s).2) with
      | true =>
        rw [if_pos rfl, if_pos rfl]
        exact c1
      | false =>
        rw [if_neg (by decide), if_neg (by decide)]
        exact c0
    have hm : pM P s t = true := (canB_tb ho hs (by omega) hc).1
    have hcb := ho.2.2.2.2.2 s t hs (by omega) hm
    have hDb := DI_b2 (B := B) ho (pA P - (s + 1)) ((pth B P s).1 ||| 2 ^ t) t (by omega)
    have hDs := DI_b2 (B := B) ho (pA P - s) (pth B P s).1 (pth B P s).2 (by omega)
    have hcc : -10000 ≤ costB B P s t (lastA P s (pth B P s).2) ∧ costB B P s t (lastA P s (pth B P s).2) ≤ 24000 := by
      unfold costB
      split <;> omega
    have hcP : cP B P s (pth B P s).1 (pth B P s).2 t = true ↔ costB B P s t (lastA P s (pth B P s).2) + DI B P (pA P - (s + 1)) ((pth B P s).1 ||| 2 ^ t) t = DI B P (pA P - s) (pth B P s).1 (pth B P s).2 := by
      unfold cP
      rw [hc]
      simp
    rw [ecost, zI_add]
    refine ⟨fun q => hK3 _ ⟨rfl, hf2, ho2, Or.inl ⟨b1, ?_⟩⟩, fun q => ⟨v60, ?_⟩⟩
    · rw [hst, if_neg]
      intro r
      exact q (by rw [hcP.mp r])
    · have q2 := (zI_inj (by omega) (by omega)).mp (Classical.not_not.mp q)
      have e8 : hold B P s = t := by
        rw [hst, if_pos (hcP.mpr q2)]
      rw [wlet_e]
      refine hK3 _ ⟨rfl, fun i hi => (hup_ne hi).trans (hf2 i hi), fun i hi => (hup_o2 (Or.inr hi)).trans (ho2 i hi), Or.inr ⟨by omega, ?_⟩⟩
      rw [e8]
      exact hup_eq2
