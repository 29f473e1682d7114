/-! seasons: the days of both sides -/
def plD (B : Br) (R : List Row) (d : Nat) : Pz := dayP B R [] (2 ^ B.1 0 - 1) d false 1000000
def fD (B : Br) (R : List Row) (d : Nat) : Nat → Nat := hold B (plD B R d)
def cD (B : Br) (R : List Row) (d s : Nat) : Int32 := zI (cn B (plD B R d) s)
def dD (B : Br) (R : List Row) (d s : Nat) : Int32 := zI (pD (plD B R d) s (fD B R d s))
def cst (B : Br) (R : List Row) (d : Nat) (bits : Int32) (s : Nat) : Int32 := if ((bits >>> ((nI (slM B s) / 60) &&& 31)) &&& 1) = 1 then dD B R d s else cD B R d s
def seaT (B : Br) (R : List Row) (c x : Int32) (d0 : Nat) : Nat → Int32
  | 0 => 0
  | v + 1 => seaT B R c x d0 v + totI (fD B R (d0 + v)) (cst B R (d0 + v) (bitsD c (sdv c x v))) (slN B)
theorem seaT_s (B : Br) (R : List Row) (c x : Int32) (d0 v : Nat) : seaT B R c x d0 (v + 1) = seaT B R c x d0 v + totI (fD B R (d0 + v)) (cst B R (d0 + v) (bitsD c (sdv c x v))) (slN B) := rfl
theorem fD_8 (B : Br) (R : List Row) (d s : Nat) : fD B R d s ≤ 8 := hold_le _ _ _
theorem fD_inj (B : Br) (R : List Row) (d s t : Nat) (e : fD B R d s = fD B R d t) (c : fD B R d s ≠ 8) : s = t := hold_inj s t e c
section F11
variable {h : Hp} {B : Br} {tn : Nat} {tl : Nat → List Row} {r : Rc} {K : Hp → Prop}
def keptD (B : Br) (R : List Row) (d0 n : Nat) (h : Hp) : Prop := ∀ v, v < n → ∀ k, k < 8 → kept B (fD B R (d0 + v)) (cD B R (d0 + v)) (dD B R (d0 + v)) (slN B) h v k
theorem s_planDays (hR : RA h B tn tl r) {p1 p2 : Int32} (d0 n : Nat) (e1 : p1 = nI d0) (e2 : p2 = nI n) (hn : d0 + n ≤ 30) (Q : Hp → Prop) (hQ : ∀ h', KP h h' → keptD B (rowsOf tn tl (tb r 0)) d0 n h' → Q h') : w_X8_planDays p1 p2 h Q := by
  have w0 := hR.1.2.2.1
  have hb8 := all_lt w0
  subst e1 e2
  generalize hRR : rowsOf tn tl (tb r 0) = R at hQ
  unfold w_X8_planDays w_X8_planDays_b2
  refine wl_run n (fun v (st : Int32 × Hp) => st.1 = nI v ∧ KP h st.2 ∧ keptD B R d0 v st.2) ?_ (Nat.zero_le _) ⟨rfl, KP.rf, fun v hv => absurd hv (by omega)⟩
  rintro v ⟨v3, g⟩ K2 hv ⟨e3, kg, kd⟩ hK2
  simp only at e3 kg kd
  subst e3
  show w_X8_planDays_l2 (nI d0) (nI n) Q K2 (nI v) g
  unfold w_X8_planDays_l2
  have a := kg.RA hR
  refine ⟨fun z => ?_, fun z => ?_⟩
  · have : v = n := by
      have := (nI_leI (by omega) (by omega)).mp z
      omega
    subst this
    exact hQ g kg kd
  have hvn : v < n := Nat.lt_of_not_le fun q => z ((nI_leI (by omega) (by omega)).mpr q)
  rw [e_everybody a.1, nI_add, nI_1]
  refine s_lawOf a 0 rfl (by decide) _ (fun q2 l2 c2 => ?_)
  rw [hRR] at c2
  refine s_planFor a.1 l2 (show lawQ 34 by unfold lawQ; omega) c2 (LC_free a) (2 ^ B.1 0 - 1) (d0 + v) false rfl rfl (by simp) hb8 (by omega) _ (fun h3 f3 hP => ?_)
  have k3 := KP_f57 l2 (show lawQ 34 by unfold lawQ; omega) f3
  have a3 := k3.RA a
  have okk := dayP_ok hR.1.2.2 R [] hb8 (d0 + v) false (pen := 1000000) (by decide) (by decide)
  have hpos := dayP_pos B R [] (2 ^ B.1 0 - 1) (d0 + v) false 1000000
  obtain ⟨c1, cc, c3, c4, c5, c6, c7, c8, c9, c10⟩ := hP
  have hsl := slN_b B
  have eh : ∀ s, s < slN B → hold B (dayP B R [] (2 ^ B.1 0 - 1) (d0 + v) false 1048576) s = fD B R (d0 + v) s := fun s hs => hold_pen (B := B) okk hpos (p := 1048576) (p' := 1000000) (by decide) (by decide) hs
  have ec : ∀ s, s < slN B → cn B (dayP B R [] (2 ^ B.1 0 - 1) (d0 + v) false 1048576) s = cn B (plD B R (d0 + v)) s := fun s hs => (cn_pen (B := B) okk hpos (p := 1048576) (p' := 1000000) (by decide) (by decide) hs).1
  refine s_keep a3.1 hsl (fD_8 B R (d0 + v)) (fD_inj B R (d0 + v)) (C := cD B R (d0 + v)) (D := dD B R (d0 + v)) c8 c9 (fun s hs => by rw [c1 s hs, eh s hs]) (fun s hs h8 => by rw [cc s hs (by rw [eh s hs]; exact h8), ec s hs]; rfl) (fun s hs h8 => ?_) v (by omega) rfl _ (fun h4 f4 hk4 => ?_)
  · have h7 := fD_8 B R (d0 + v) s
    have hm := (hold_c (B := B) (P := plD B R (d0 + v)) (s := s) h8).2
    unfold canB at hm
    rw [Bool.and_eq_true] at hm
    exact c10 s _ hs (by omega) hm.1
  · have k4 : KP h3 h4 := ⟨fun q hq => f4.1 q (by unfold kp at hq; omega) (by unfold kp at hq; omega) (by unfold kp at hq; omega), fun i _ => by rw [f4.1 92 (by decide) (by decide) (by decide)]⟩
    refine hK2 hvn _ ⟨rfl, kg.tr (k3.tr k4), fun u hu k hk => ?_⟩
    by_cases eu : u = v
    · subst eu
      exact hk4 k hk
    · obtain ⟨x1, x2, x3⟩ := kd u (by omega) k hk
      obtain ⟨y1, y2, y3⟩ := f4.2 (u * 8 + k) (by omega)
      have l2' := l2
      unfold lawQ at l2'
      have z9 : ∀ q, 59 ≤ q → h3 q = g q := fun q hq => f3 q (by omega) (by omega) (by omega) (by omega) (by omega)
      exact ⟨y1.trans (by rw [z9 59 (by decide)]; exact x1), y2.trans (by rw [z9 60 (by decide)]; exact x2), y3.trans (by rw [z9 61 (by decide)]; exact x3)⟩
theorem s_takenUnder (hR : RA h B tn tl r) {R : List Row} {p1 p2 : Int32} (d0 n : Nat) (e1 : p1 = nI n) (hn : n ≤ 30) (hk : keptD B R d0 n h) (Q : Int32 → Hp → Prop) (hQ : ∀ h', (∀ q, q ≠ 58 → h' q = h q) → Q (seaT B R (nI (B.1 5)) p2 d0 n) h') : w_X6_takenUnder p1 p2 h Q := by
  subst e1
  have h9 : h 3 9 = nI (B.1 5) := hR.1.1.1.2.2.2.2.2.1
  unfold w_X6_takenUnder
  rw [wlet_e]
  unfold w_X6_takenUnder_b10
  refine wl_run n (fun v (st : Int32 × Int32 × Hp) => st.2.1 = nI v ∧ st.1 = seaT B R (nI (B.1 5)) p2 d0 v ∧ (∀ q, q ≠ 58 → st.2.2 q = h q) ∧ st.2.2 58 5 = sdv (nI (B.1 5)) p2 v) ?_ (Nat.zero_le _) ⟨rfl, rfl, fun q hq => hup_ne hq, show hup h 58 5 p2 58 5 = p2 from hup_eq _ _ _ _⟩
  rintro v ⟨v3, v4, g⟩ K10 hv ⟨e4, e3, fo, e5⟩ hK10
  simp only at e3 e4 fo e5
  subst e3 e4
  show w_X6_takenUnder_l10 (nI n) p2 Q K10 _ (nI v) g
  unfold w_X6_takenUnder_l10
  refine ⟨fun z => ?_, fun z => ?_⟩
  · have : v = n := by
      have := (nI_leI (by omega) (by omega)).mp z
      omega
    subst this
    exact hQ g fo
  have hvn : v < n := Nat.lt_of_not_le fun q => z ((nI_leI (by omega) (by omega)).mpr q)
  refine s_nextSky (c := nI (B.1 5)) (by rw [fo 3 (by decide)]; exact h9) _ (fun g2 f2 e2 => ?_)
  rw [e5] at e2
  rw [e5]
  generalize hb : bitsD (nI (B.1 5)) (sdv (nI (B.1 5)) p2 v) = bits
  unfold w_X6_takenUnder_b25
  refine wl_run 8 (fun k (st : Int32 × Int32) => st.2 = nI k ∧ st.1 = seaT B R (nI (B.1 5)) p2 d0 v + sm (fun k => lk (fD B R (d0 + v)) (cst B R (d0 + v) bits) k (slN B)) k) ?_ (Nat.zero_le _) ⟨rfl, (Int32.add_zero _).symm⟩
  rintro k ⟨t3, t6⟩ K25 hk8 ⟨e6, e7⟩ hK25
  simp only at e6 e7
  subst e6 e7
  show w_X6_takenUnder_l25 (nI n) p2 (nI v) bits K10 g2 Q K25 _ (nI k)
  unfold w_X6_takenUnder_l25 w_X6_takenUnder_b94
  rw [q8]
  refine ⟨fun z8 => ?_, fun z8 => ?_⟩
  · have : k = 8 := by
      have := (nI_leI (by omega) (by omega)).mp z8
      omega
    subst this
    rw [nI_1]
    refine hK10 hvn _ ⟨rfl, ?_, fun q hq => (f2 q hq).trans (fo q hq), e2⟩
    show _ = seaT B R (nI (B.1 5)) p2 d0 (v + 1)
    rw [seaT_s, hb, ← sm_lk (c := cst B R (d0 + v) bits) (fD_8 B R (d0 + v)) (n := slN B) (fun s t _ _ => fD_inj B R (d0 + v) s t)]
  have hk9 : k < 8 := Nat.lt_of_not_le fun q => z8 ((nI_leI (by omega) (by omega)).mpr q)
  obtain ⟨x1, x2, x3⟩ := hk v hvn k hk9
  have x59 : g2 59 (v * 8 + k) = lk (fD B R (d0 + v)) (fun s => nI (slM B s) / 60) k (slN B) := by rw [f2 59 (by decide), fo 59 (by decide)]; exact x1
  have x60 : g2 60 (v * 8 + k) = lk (fD B R (d0 + v)) (cD B R (d0 + v)) k (slN B) := by rw [f2 60 (by decide), fo 60 (by decide)]; exact x2
  have x61 : g2 61 (v * 8 + k) = lk (fD B R (d0 + v)) (dD B R (d0 + v)) k (slN B) := by rw [f2 61 (by decide), fo 61 (by decide)]; exact x3
  have hsel := lk_sel (fD B R (d0 + v)) (fun y => ((bits >>> (y &&& 31)) &&& 1) = 1) (fun s => nI (slM B s) / 60) (cD B R (d0 + v)) (dD B R (d0 + v)) k (slN B)
  have hsel2 : (if ((bits >>> (lk (fD B R (d0 + v)) (fun s => nI (slM B s) / 60) k (slN B) &&& 31)) &&& 1) = 1 then lk (fD B R (d0 + v)) (dD B R (d0 + v)) k (slN B) else lk (fD B R (d0 + v)) (cD B R (d0 + v)) k (slN B)) = lk (fD B R (d0 + v)) (cst B R (d0 + v) bits) k (slN B) := hsel
  rw [pk_mul, nI_add, wlet_e, e_at (by decide), rd_n (by omega) (by decide), x59, wlet_e]
  have stepk : ∀ t, t = lk (fD B R (d0 + v)) (cst B R (d0 + v) bits) k (slN B) → K25 (seaT B R (nI (B.1 5)) p2 d0 v + sm (fun k => lk (fD B R (d0 + v)) (cst B R (d0 + v) bits) k (slN B)) k + t, nI (k + 1)) := by
    intro t ht
    refine hK25 hk9 _ ⟨rfl, ?_⟩
    show _ = seaT B R (nI (B.1 5)) p2 d0 v + sm (fun k => lk (fD B R (d0 + v)) (cst B R (d0 + v) bits) k (slN B)) (k + 1)
    rw [sm_s, ht, Int32.add_assoc]
  by_cases c : ((bits >>> (lk (fD B R (d0 + v)) (fun s => nI (slM B s) / 60) k (slN B) &&& 31)) &&& 1) = 1
  · rw [if_pos c] at hsel2
    rw [if_neg (not_not_intro c)]
    refine wif_n i10 ?_
    rw [e_at (by decide), rd_n (by omega) (by decide), x61, wlet_e, nI_1]
    exact stepk _ hsel2
  · rw [if_neg c] at hsel2
    rw [if_pos c]
    refine wif_p rfl ?_
    rw [e_at (by decide), rd_n (by omega) (by decide), x60, wlet_e, nI_1]
    exact stepk _ hsel2
def mS (h h' : Hp) : Prop := (∀ q, q ≠ 139 → q ≠ 140 → q ≠ 92 → (q < 220 ∨ 1456 < q) → h' q = h q) ∧ (∀ i, (i < 42 ∨ (46 < i ∧ i ≠ 51)) → h' 92 i = h 92 i)
theorem mS.tr {h h1 h2 : Hp} (a : mS h h1) (b : mS h1 h2) : mS h h2 := ⟨fun q h1 h2 h3 h4 => (b.1 q h1 h2 h3 h4).trans (a.1 q h1 h2 h3 h4), fun i h1 => (b.2 i h1).trans (a.2 i h1)⟩
theorem mS.rf {h : Hp} : mS h h := ⟨fun _ _ _ _ _ => rfl, fun _ _ => rfl⟩
theorem KP_mS {h h' : Hp} (a : mS h h') : KP h h' := ⟨fun q hq => a.1 q (by unfold kp at hq; omega) (by unfold kp at hq; omega) (by unfold kp at hq; omega) (by unfold kp at hq; omega), fun i hi => a.2 i (by omega)⟩
theorem mF.mS {h h' : Hp} (a : mF h h') : mS h h' := ⟨fun q x1 x2 x3 x4 => a.1 q x1 x2 x3 (by omega), fun i hi => a.2 i (by omega)⟩
def mS2 (h h' : Hp) : Prop := (∀ q, q ≠ 139 → q ≠ 140 → q ≠ 92 → h' q = h q) ∧ (∀ i, i ≠ 51 → h' 92 i = h 92 i)
theorem mS2.tr {h h1 h2 : Hp} (a : mS2 h h1) (b : mS2 h1 h2) : mS2 h h2 := ⟨fun q h1 h2 h3 => (b.1 q h1 h2 h3).trans (a.1 q h1 h2 h3), fun i h1 => (b.2 i h1).trans (a.2 i h1)⟩
theorem mS2.rf {h : Hp} : mS2 h h := ⟨fun _ _ _ _ => rfl, fun _ _ => rfl⟩
theorem mS2.mS {h h' : Hp} (a : mS2 h h') : mS h h' := ⟨fun q x1 x2 x3 _ => a.1 q x1 x2 x3, fun i hi => a.2 i (by omega)⟩
theorem mfr_S2 {h h' : Hp} (a : mfr h h') : mS2 h h' := ⟨fun q x1 x2 _ => a q x1 x2, fun i _ => by rw [a 92 (by decide) (by decide)]⟩
def laid (B : Br) (R : List Row) (d0 n : Nat) (h : Hp) : Prop := ∀ v, v < n → ∀ s, s < slN B → h (1427 + v) s = hasv (fD B R (d0 + v) s)
theorem s_layPlans (hR : RA h B tn tl r) {p1 p2 : Int32} (d0 n : Nat) (e1 : p1 = nI d0) (e2 : p2 = nI n) (hn : d0 + n ≤ 30) (h0 : 0 < n) (Q : Hp → Prop) (hQ : ∀ h', mS h h' → h' 92 42 = nI (slN B) → laid B (rowsOf tn tl (tb r 0)) d0 n h' → Q h') : w_X9_layPlans p1 p2 h Q := by
  have w0 := hR.1.2.2.1
  have hb8 := all_lt w0
  have hsl := slN_b B
  subst e1 e2
  unfold w_X9_layPlans w_X9_layPlans_b2
  refine wl_run n (fun v (st : Int32 × Hp) => st.1 = nI v ∧ mS h st.2 ∧ (0 < v → st.2 92 42 = nI (slN B)) ∧ laid B (rowsOf tn tl (tb r 0)) d0 v st.2) ?_ (Nat.zero_le _) ⟨rfl, mS.rf, fun z => absurd z (by omega), fun v hv => absurd hv (by omega)⟩
  rintro v ⟨v3, g⟩ K2 hv ⟨e3, kg, k42, kd⟩ hK2
  simp only at e3 kg k42 kd
  subst e3
  show w_X9_layPlans_l2 (nI d0) (nI n) Q K2 (nI v) g
  unfold w_X9_layPlans_l2
  have a := (KP_mS kg).RA hR
  refine ⟨fun z => ?_, fun z => ?_⟩
  · have : v = n := by
      have := (nI_leI (by omega) (by omega)).mp z
      omega
    subst this
    exact hQ g kg (k42 h0) kd
  have hvn : v < n := Nat.lt_of_not_le fun q => z ((nI_leI (by omega) (by omega)).mpr q)
  rw [e_everybodyM a.2.1, nI_add]
  refine s_findPlan a.2.1 (2 ^ B.1 0 - 1) (d0 + v) false (MT2_0 a) rfl rfl (by simp) (fun k hk => by rw [all_tb] at hk; exact of_decide_eq_true hk) hb8 (by omega) _ (fun g2 f2 hM => ?_)
  obtain ⟨m1, m2, m3, m4, m5, m6, m7, m8⟩ := hM
  have m43 : g2 92 43 = nI (slN B) := m8
  have m1' : ∀ s, s < slN B → g2 1424 s = hasv (fD B (rowsOf tn tl (tb r 0)) (d0 + v) s) := m1
  unfold w_X9_layPlans_b22
  refine wl_run (slN B) (fun s (st : Int32 × Hp) => st.1 = nI s ∧ (∀ q, q ≠ 1427 + v → st.2 q = g2 q) ∧ ∀ t, t < s → st.2 (1427 + v) t = hasv (fD B (rowsOf tn tl (tb r 0)) (d0 + v) t)) ?_ (Nat.zero_le _) ⟨rfl, fun _ _ => rfl, fun t ht => absurd ht (by omega)⟩
  rintro s ⟨v4, u⟩ K22 hs ⟨e4, fu, hu⟩ hK22
  simp only at e4 fu hu
  subst e4
  show w_X9_layPlans_l22 (nI d0) (nI n) (nI v) K2 Q K22 (nI s) u
  unfold w_X9_layPlans_l22
  rw [fu 92 (by omega), m43]
  refine ⟨fun z2 => ?_, fun z2 => ?_⟩
  · have : s = slN B := by
      have := (nI_leI (by omega) (by omega)).mp z2
      omega
    subst this
    rw [nI_1]
    refine hK2 hvn _ ⟨rfl, kg.tr ⟨fun q x1 x2 x3 x4 => ?_, fun i hi => ?_⟩, fun _ => ?_, fun w hw t ht => ?_⟩
    · show u q = g q
      rw [fu q (by omega), f2.1 q x1 x2 x3 (by omega)]
    · show u 92 i = g 92 i
      rw [fu 92 (by omega), f2.2 i (by omega)]
    · show u 92 42 = _
      rw [fu 92 (by omega)]
      exact m7
    · show u (1427 + w) t = _
      by_cases ew : w = v
      · subst ew
        exact hu t ht
      · rw [fu _ (by omega), f2.1 _ (by omega) (by omega) (by omega) (by omega)]
        exact kd w (by omega) t ht
  have hsE : s < slN B := Nat.lt_of_not_le fun q => z2 ((nI_leI (by omega) (by omega)).mpr q)
  refine ⟨vp_in_nI (by omega) (by decide), vp_in_nI (by omega) (by decide), vp_in_nI (by omega) (by decide), ?_⟩
  rw [nI_clamp (n := v) (by omega), nI_clamp (n := s) (by omega), Nat.one_mul, fu 1424 (by omega), m1' s hsE, wlet_e, nI_1]
  refine hK22 hsE _ ⟨rfl, fun q hq => (hup_ne hq).trans (fu q hq), fun t ht => ?_⟩
  show hup u (1427 + v) s (hasv (fD B (rowsOf tn tl (tb r 0)) (d0 + v) s)) (1427 + v) t = _
  by_cases et : t = s
  · subst et
    exact hup_eq _ _ _ _
  · rw [hup_o (Or.inr et)]
    exact hu t (by omega)
end F11
