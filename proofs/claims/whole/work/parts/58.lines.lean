/-! two lines of a law -/
def LL (p : Nat) (h : Hp) (l : List Int32) : Prop := h p 3 = nI l.length ∧ ∀ i, i < l.length → l[i]? = some (h (p + 1) i)
theorem s_add {p : Nat} (hp : lawQ p) {h : Hp} {l : List Int32} (hl : LL p h l) (hn : l.length < 500) (t : Int32) (Q : Hp → Prop) (hQ : ∀ h', (∀ q, q ≠ p → q ≠ p + 1 → h' q = h q) → (∀ i, i ≠ 3 → h' p i = h p i) → LL p h' (l ++ [t]) → Q h') : w_X0_add p t h Q := by
  have t0 := (tgl hp).1
  unfold w_X0_add
  rw [t0, hl.1, e_put (by decide), wr_n hn (by decide)]
  rw [hup_ne (by omega), hl.1, nI_1, wlet_e]
  refine hQ _ (fun q q1 q2 => by rw [hup_ne q1, hup_ne q2]) (fun i hi => by rw [hup_o (Or.inr hi), hup_ne (by omega)]) ⟨?_, fun i hi => ?_⟩
  · rw [hup_eq, List.length_append]
    rfl
  · rw [hup_ne (by omega), hup_at]
    rw [List.length_append] at hi
    have hi2 : i < l.length + 1 := hi
    by_cases c : i = l.length
    · subst c
      rw [if_pos ⟨rfl, rfl⟩]
      simp
    · rw [if_neg (fun z => c z.2), List.getElem?_append_left (by omega)]
      exact hl.2 i (by omega)
theorem s_add6 {p : Nat} (hp : lawQ p) {h : Hp} {l : List Int32} (hl : LL p h l) (hn : l.length + 6 ≤ 500) {p1 p2 p3 : Int32} (Q : Hp → Prop) (hQ : ∀ h', (∀ q, q ≠ p → q ≠ p + 1 → h' q = h q) → (∀ i, i ≠ 3 → h' p i = h p i) → LL p h' (l ++ [p1] ++ [p2] ++ [-9] ++ [p3] ++ [-10] ++ [-17]) → Q h') : w_X0_addLine p p1 p2 p3 h Q := by
  unfold w_X0_addLine
  refine s_add hp hl (by omega) _ _ (fun h1 a1 b1 l1 => ?_)
  refine s_add hp l1 (by simp; omega) _ _ (fun h2 a2 b2 l2 => ?_)
  refine s_add hp l2 (by simp; omega) _ _ (fun h3 a3 b3 l3 => ?_)
  refine s_add hp l3 (by simp; omega) _ _ (fun h4 a4 b4 l4 => ?_)
  refine s_add hp l4 (by simp; omega) _ _ (fun h5 a5 b5 l5 => ?_)
  refine s_add hp l5 (by simp; omega) _ _ (fun h6 a6 b6 l6 => ?_)
  exact hQ h6 (fun q q1 q2 => by rw [a6 q q1 q2, a5 q q1 q2, a4 q q1 q2, a3 q q1 q2, a2 q q1 q2, a1 q q1 q2]) (fun i hi => by rw [b6 i hi, b5 i hi, b4 i hi, b3 i hi, b2 i hi, b1 i hi]) l6
theorem row_a : ∀ a, a < 10 → tyl [-1, nI a, -9, 100, -10] [] = some [false] := by decide
theorem row_b : ∀ a, a < 10 → tyl [-3, nI a, -9, 10, -10] [] = some [false] := by decide
theorem line_ok {a b : Nat} (ha : a < 10) (hb : b < 10) : ∀ x ∈ lineRows a b, rowOk x := by
  intro x hx
  unfold lineRows at hx
  rw [List.mem_cons, List.mem_singleton] at hx
  rcases hx with rfl | rfl
  · exact ⟨row_a a ha, fun c hc => nomatch hc⟩
  · exact ⟨row_b b hb, fun c hc => nomatch hc⟩
theorem s_twoLines {h : Hp} {p1 p2 : Int32} (a b : Nat) (ha : a < 10) (hb : b < 10) (e1 : p1 = nI a) (e2 : p2 = nI b) (Q : Hp → Prop) (hQ : ∀ h', (∀ q, q ≠ 38 → q ≠ 39 → h' q = h q) → LC 38 h' (lineRows a b) → Q h') : w_X0_beTwoLines 38 p1 p2 h Q := by
  subst e1 e2
  have l38 : lawQ 38 := by unfold lawQ; omega
  unfold w_X0_beTwoLines w_X0_empty
  rw [wlet_e]
  have l0 : LL 38 (hup h 38 3 0) [] := ⟨hup_eq _ _ _ _, fun i hi => absurd hi (Nat.not_lt_zero i)⟩
  refine s_add6 l38 l0 (by decide) _ (fun h1 f1 _ l1 => ?_)
  refine s_add6 l38 l1 (show 6 + 6 ≤ 500 by decide) _ (fun h2 f2 _ l2 => ?_)
  exact hQ h2 (fun q q1 q2 => by rw [f2 q q1 q2, f1 q q1 q2, hup_ne q1]) ⟨l2.1, (show 12 ≤ 500 by decide), l2.2, line_ok ha hb, (show 2 ≤ 10 by decide)⟩
def lnP (B : Br) (d i : Nat) : Pz := dayP B (lineRows (i / 10) (i % 10)) [] (2 ^ B.1 0 - 1) d false 1000000
def lnE (B : Br) (d i : Nat) : Int32 := zI (ern B (lnP B d i) 0 (slN B))
def lnJ (B : Br) (d i : Nat) : Int32 := nI (jmm B (lnP B d i) (slN B))
def lnW (B : Br) (p2 : Int32) (d i : Nat) : Int32 := lnE B d i - p2 * lnJ B d i
def bl (w : Nat → Int32) : Nat → Nat
  | 0 => 0
  | n + 1 => if n = 0 ∨ w (bl w n) < w n then n else bl w n
theorem bl_s (w : Nat → Int32) (n : Nat) : bl w (n + 1) = if n = 0 ∨ w (bl w n) < w n then n else bl w n := rfl
theorem bl_b (w : Nat → Int32) : ∀ n, bl w n ≤ n
  | 0 => Nat.le_refl _
  | n + 1 => by
    have := bl_b w n
    rw [bl_s]
    split <;> omega
section F13
variable {h : Hp} {B : Br} {tn : Nat} {tl : Nat → List Row} {r : Rc} {K : Hp → Prop}
def ansL (B : Br) (p3 : Int32) (d i : Nat) : Int32 := if ¬ p3 = 0 then (if ¬ p3 = 1 then lnJ B d i else lnE B d i) else nI i
theorem s_oneLine (hR : RA h B tn tl r) {p1 z2 : Int32} (d i : Nat) (hi : i < 100) (hd : d < 30) (e1 : p1 = nI d) (ez : z2 = nI (2 ^ B.1 0 - 1)) (hc : LC 38 h (lineRows (i / 10) (i % 10))) (Q : Hp → Prop) (hQ : ∀ h', KP h h' → h' 52 0 = lnE B d i → h' 44 19 = lnJ B d i → Q h') : w_X8_planFor z2 p1 0 38 34 h Q := by
  have w0 := hR.1.2.2.1
  have hb8 := all_lt w0
  have l38 : lawQ 38 := by unfold lawQ; omega
  have l34 : lawQ 34 := by unfold lawQ; omega
  refine s_planFor hR.1 l38 l34 hc (LC_free hR) (2 ^ B.1 0 - 1) d false ez e1 (by simp) hb8 hd _ (fun h3 f3 hP => ?_)
  have okk := dayP_ok hR.1.2.2 (lineRows (i / 10) (i % 10)) [] hb8 d false (pen := 1000000) (by decide) (by decide)
  have hpos := dayP_pos B (lineRows (i / 10) (i % 10)) [] (2 ^ B.1 0 - 1) d false 1000000
  obtain ⟨c1, cc, c3, c4, c5, c6, c7, c8, c9, c10⟩ := hP
  obtain ⟨s1, s2, s3⟩ := sums_pen (B := B) okk hpos (p := 1048576) (p' := 1000000) (by decide) (by decide) (slN B) (Nat.le_refl _)
  exact hQ h3 (KP_f57 l38 l34 f3) (c3.trans (congrArg zI (s2 0))) (c6.trans (congrArg nI s3))
def mL (h h' : Hp) : Prop := (∀ q, q ≠ 139 → q ≠ 140 → q ≠ 92 → (q < 220 ∨ 1425 < q) → h' q = h q) ∧ (∀ i, (i < 42 ∨ 46 < i) → i ≠ 48 → i ≠ 49 → h' 92 i = h 92 i)
theorem mL.tr {h h1 h2 : Hp} (a : mL h h1) (b : mL h1 h2) : mL h h2 := ⟨fun q h1 h2 h3 h4 => (b.1 q h1 h2 h3 h4).trans (a.1 q h1 h2 h3 h4), fun i h1 h2 h3 => (b.2 i h1 h2 h3).trans (a.2 i h1 h2 h3)⟩
theorem mL.rf {h : Hp} : mL h h := ⟨fun _ _ _ _ _ => rfl, fun _ _ _ _ => rfl⟩
theorem mF_L {h h' : Hp} (a : mF h h') : mL h h' := ⟨a.1, fun i h1 _ _ => a.2 i h1⟩
theorem cs23 {p1 p2 p3 : Int32} (hR : RA h B tn tl r) (hK : ∀ h', RR h' → K h') : w_L_lines p1 p2 p3 h (fun v1 h1 => w_X9_lines p1 p2 p3 h1 (MQQ K v1)) := by
  have a0 := KP.RA (KP.thr (h := h) (v := 0)) hR
  have w0 := hR.1.2.2.1
  have hb8 := all_lt w0
  unfold w_L_lines w_X8_lines
  refine s_needDay (fun d hd e1 => ?_) (fun hn => ⟨rfl, ?_⟩)
  · refine s_needBetween (lo := 0) (hi := 9) q0 q9 (by decide) (by decide) (fun j2 _ hj2 e2 => ?_) (fun hn => ⟨rfl, ?_⟩)
    · refine s_needBetween (lo := 0) (hi := 2) q0 q2 (by decide) (by decide) (fun j3 _ hj3 e3 => ?_) (fun hn => ⟨rfl, ?_⟩)
      · -- the model, once the program has answered v from the heap g
        have go : ∀ g, KP h g → ∀ v, v = ansL B p3 d (bl (lnW B p2 d) 100) → wlet (hup g 1457 0 v) (fun h2 => w_X9_lines p1 p2 p3 h2 (MQQ K 0)) := by
          intro g kg v hv
          rw [wlet_e]
          have a := KP.RA (KP.tr (KP.out kg) KP.thr : KP h (hup (hup g 1457 0 v) 92 0 0)) hR
          obtain ⟨t0, t1, x1, x2, x3, x4, _, _⟩ := MT2_of a false
          have a48 := a.2.2.1.2.2.2.2.2
          unfold w_X9_lines
          try dsimp only
          rw [wlet_e, isDay_t e1 hd, wif_f i10, in_t (p1 := 0) (p2 := 9) (lo := 0) (hi := 9) e2 rfl rfl (by omega) hj2 (by decide), wif_f i10, in_t (p1 := 0) (p2 := 2) (lo := 0) (hi := 2) e3 rfl rfl (by omega) hj3 (by decide), c_not1, bad_f (thr0 _), wif_t rfl]
          have b0 : hup (hup g 1457 0 v) 92 0 0 92 0 = 0 := thr0 _
          have b1 : hup (hup g 1457 0 v) 92 0 0 1457 0 = v := by rw [hup_ne (by decide), hup_eq]
          generalize hup (hup g 1457 0 v) 92 0 0 = m0 at a x3 x4 a48 b0 b1
          unfold w_X9_lines_b61
          refine wl_run 100 (fun n (st : Int32 × Int32 × Int32 × Int32 × Int32 × Hp) => st.2.2.2.2.1 = nI n ∧ (n = 0 → st.1 = -1) ∧ (0 < n → st.1 = nI (bl (lnW B p2 d) n) ∧ st.2.1 = lnW B p2 d (bl (lnW B p2 d) n) ∧ st.2.2.1 = lnE B d (bl (lnW B p2 d) n) ∧ st.2.2.2.1 = lnJ B d (bl (lnW B p2 d) n)) ∧ mL m0 st.2.2.2.2.2) ?_ (Nat.zero_le _) ⟨rfl, fun _ => rfl, fun z => absurd z (by omega), mL.rf⟩
          rintro n ⟨v4, v5, v6, v7, v8, u⟩ K61 hn ⟨e8, en, ep, fu⟩ hK61
          simp only at e8 en ep fu
          subst e8
          show w_X9_lines_l61 p1 p2 p3 _ K61 v4 v5 v6 v7 (nI n) u
          unfold w_X9_lines_l61
          rw [q100]
          refine ⟨fun z => ?_, fun z => ?_⟩
          · have : n = 100 := by
              have := (nI_leI (by omega) (by omega)).mp z
              omega
            subst this
            obtain ⟨y1, y2, y3, y4⟩ := ep (by omega)
            subst y1 y3 y4
            rw [wlet_e]
            have k : KP m0 (hup u 92 48 (-1)) := ⟨fun q hq => by rw [hup_ne (by unfold kp at hq; omega)]; exact fu.1 q (by unfold kp at hq; omega) (by unfold kp at hq; omega) (by unfold kp at hq; omega) (by unfold kp at hq; omega), fun i hi => by
              by_cases ei : i = 48
              · rw [ei, hup_eq]; exact a48.symm
              · rw [hup_o (Or.inr ei)]; exact fu.2 i (by omega) ei (by omega)⟩
            refine mq_ok ?_ ?_ (hK _ (k.RR a.rr))
            · rw [hup_o (Or.inr (by decide)), fu.2 0 (by decide) (by decide) (by decide)]; exact b0
            · rw [hup_ne (by decide), fu.1 1457 (by decide) (by decide) (by decide) (by decide), b1, hv]
              rfl
          have hn1 : n < 100 := Nat.lt_of_not_le fun q => z ((nI_leI (by omega) (by omega)).mpr q)
          rw [wlet_e, wlet_e, q10, pk_div (by omega) (by decide) (by decide), pk_mul, pk_sub (by omega), show n - n / 10 * 10 = n % 10 by omega]
          generalize hu2 : hup (hup u 92 48 (nI (n / 10))) 92 49 (nI (n % 10)) = u2
          have f2 : mL m0 u2 := fu.tr ⟨fun q _ _ q3 _ => by rw [← hu2, hup_ne q3, hup_ne q3], fun i _ i8 i9 => by rw [← hu2, hup_o (Or.inr i9), hup_o (Or.inr i8)]⟩
          have u48 : u2 92 48 = nI (n / 10) := by rw [← hu2, hup_o (Or.inr (by decide)), hup_eq]
          have u49 : u2 92 49 = nI (n % 10) := by rw [← hu2, hup_eq]
          have hmb : MB u2 B := a.2.1.same (f2.1 95 (by decide) (by decide) (by decide) (by decide)) (f2.1 97 (by decide) (by decide) (by decide) (by decide)) (f2.1 99 (by decide) (by decide) (by decide) (by decide)) (fun k hk => f2.1 _ (by omega) (by omega) (by omega) (by omega))
          have h141 : u2 141 = m0 141 := f2.1 141 (by decide) (by decide) (by decide) (by decide)
          have hmt : MT2 u2 B (lineRows (n / 10) (n % 10)) [] false := ⟨t0, t1, x1, x2, by rw [h141]; exact x3, by rw [h141]; exact x4, Or.inr ⟨n / 10, n % 10, by omega, by omega, u48, u49, rfl⟩, fun q => Bool.noConfusion q⟩
          rw [e_everybodyM hmb]
          refine s_findPlan hmb (2 ^ B.1 0 - 1) d false hmt rfl e1 (by simp) (fun k hk => by rw [all_tb] at hk; exact of_decide_eq_true hk) hb8 hd _ (fun u3 f3 hM => ?_)
          obtain ⟨m1, m2, m3, m4, m5, m6, m7, m8⟩ := hM
          have m2' : u3 1425 0 = lnE B d n := m2
          have m6' : u3 92 46 = lnJ B d n := m6
          refine ⟨vl 0 2 (by decide) (by decide), ?_⟩
          rw [wlet_e, cl0, m2', m6']
          have take : (n = 0 ∨ lnW B p2 d (bl (lnW B p2 d) n) < lnW B p2 d n) → w_X9_lines_b127 p1 p2 p3 (nI n) (lnE B d n - p2 * lnJ B d n) K61 u3 (MQQ K 0) := by
            intro hc
            unfold w_X9_lines_b127 w_X9_lines_b149
            refine ⟨vl 0 2 (by decide) (by decide), ?_⟩
            rw [wlet_e, wlet_e, cl0, m2', m6', nI_1]
            have ebl : bl (lnW B p2 d) (n + 1) = n := by rw [bl_s, if_pos hc]
            exact hK61 hn1 _ ⟨rfl, fun q => absurd q (by omega), fun _ => by rw [ebl]; exact ⟨rfl, rfl, rfl, rfl⟩, f2.tr (mF_L f3)⟩
          by_cases n0 : n = 0
          · exact wif_p (en n0) (take (Or.inl n0))
          · obtain ⟨y1, y2, y3, y4⟩ := ep (by omega)
            have hbb := bl_b (lnW B p2 d) n
            refine wif_n (by rw [y1]; exact nI_m1 (by omega)) ⟨fun c => take (Or.inr (by rw [y2] at c; exact c)), fun c => ?_⟩
            rw [y2] at c
            unfold w_X9_lines_b149
            rw [nI_1]
            have ebl : bl (lnW B p2 d) (n + 1) = bl (lnW B p2 d) n := by
              rw [bl_s, if_neg]
              rintro (q | q)
              · exact n0 q
              · exact c q
            exact hK61 hn1 _ ⟨rfl, fun q => absurd q (by omega), fun _ => by rw [ebl]; exact ⟨y1, y2, y3, y4⟩, f2.tr (mF_L f3)⟩
        unfold w_X8_lines_b26
        refine wl_run 10 (fun a (st : Int32 × Int32 × Int32 × Hp) => st.2.2.1 = nI a ∧ (0 < a → st.1 = ansL B p3 d (bl (lnW B p2 d) (10 * a)) ∧ st.2.1 = lnW B p2 d (bl (lnW B p2 d) (10 * a))) ∧ KP h st.2.2.2) ?_ (Nat.zero_le _) ⟨rfl, fun z => absurd z (by omega), KP.rf⟩
        rintro a ⟨v4, v5, v6, g⟩ K26 hn ⟨e6, ep, kg⟩ hK26
        simp only at e6 ep kg
        subst e6
        show w_X8_lines_l26 p1 p2 p3 _ _ K26 v4 v5 (nI a) g
        unfold w_X8_lines_l26
        rw [q10]
        refine ⟨fun z => ?_, fun z => ?_⟩
        · have : a = 10 := by
            have := (nI_leI (by omega) (by omega)).mp z
            omega
          subst this
          exact go g kg _ (ep (by omega)).1
        have ha1 : a < 10 := Nat.lt_of_not_le fun q => z ((nI_leI (by omega) (by omega)).mpr q)
        unfold w_X8_lines_b36
        refine wl_run 10 (fun b (st : Int32 × Int32 × Int32 × Hp) => st.2.2.1 = nI b ∧ (0 < 10 * a + b → st.1 = ansL B p3 d (bl (lnW B p2 d) (10 * a + b)) ∧ st.2.1 = lnW B p2 d (bl (lnW B p2 d) (10 * a + b))) ∧ KP h st.2.2.2) ?_ (Nat.zero_le _) ⟨rfl, fun z => ep (by omega), kg⟩
        rintro b ⟨w4, w5, w7, u⟩ K36 hb ⟨e7, ep2, ku⟩ hK36
        simp only at e7 ep2 ku
        subst e7
        show w_X8_lines_l36 p1 p2 p3 (nI a) K26 _ _ K36 w4 w5 (nI b) u
        unfold w_X8_lines_l36
        rw [q10]
        refine ⟨fun z2 => ?_, fun z2 => ?_⟩
        · have : b = 10 := by
            have := (nI_leI (by omega) (by omega)).mp z2
            omega
          subst this
          rw [nI_1]
          refine hK26 ha1 _ ⟨rfl, fun _ => ?_, ku⟩
          rw [show 10 * (a + 1) = 10 * a + 10 by omega]
          exact ep2 (by omega)
        have hb1 : b < 10 := Nat.lt_of_not_le fun q => z2 ((nI_leI (by omega) (by omega)).mpr q)
        refine s_twoLines a b ha1 hb1 rfl rfl _ (fun u1 f1 hc => ?_)
        have k1 : KP u u1 := ⟨fun q hq => f1 q (by unfold kp at hq; omega) (by unfold kp at hq; omega), fun i _ => by rw [f1 92 (by decide) (by decide)]⟩
        have a1 := (ku.tr k1).RA hR
        rw [e_everybody a1.1]
        have ea : (10 * a + b) / 10 = a := by omega
        have eb : (10 * a + b) % 10 = b := by omega
        refine s_oneLine a1 d (10 * a + b) (by omega) hd e1 rfl (by rw [ea, eb]; exact hc) _ (fun u2 k2 x1 x2 => ?_)
        have ku2 := (ku.tr k1).tr k2
        unfold w_X2_earnedAt
        rw [e_at (by decide), q0, rd_n (by decide) (by decide), x1, x2]
        try dsimp only
        rw [wlet_e]
        have take : (10 * a + b = 0 ∨ lnW B p2 d (bl (lnW B p2 d) (10 * a + b)) < lnW B p2 d (10 * a + b)) → w_X8_lines_b112 p1 p2 p3 (nI a) (nI b) (lnE B d (10 * a + b) - p2 * lnJ B d (10 * a + b)) K26 K36 u2 (fun r h1 => wlet (hup h1 1457 0 r) (fun h2 => w_X9_lines p1 p2 p3 h2 (MQQ K 0))) (fun C h1 => (C = "java/lang/IllegalArgumentException" ∧ w_X9_lines p1 p2 p3 h1 (MQQ K 1))) := by
          intro hcs
          have ebl : bl (lnW B p2 d) (10 * a + (b + 1)) = 10 * a + b := by
            rw [show 10 * a + (b + 1) = (10 * a + b) + 1 by omega, bl_s, if_pos hcs]
          have nx : ∀ v, v = ansL B p3 d (10 * a + b) → K36 (v, lnE B d (10 * a + b) - p2 * lnJ B d (10 * a + b), nI b + 1, u2) := by
            intro v hv
            rw [nI_1]
            exact hK36 hb1 _ ⟨rfl, fun _ => by rw [ebl]; exact ⟨hv, rfl⟩, ku2⟩
          unfold w_X8_lines_b112 w_X8_lines_b154 w_X8_lines_b156 w_X2_earnedAt
          refine ⟨fun c1 => ⟨fun c2 => nx _ ?_, fun c2 => ?_⟩, fun c1 => nx _ ?_⟩
          · unfold ansL
            rw [if_pos c1, if_pos c2, x2]
          · rw [e_at (by decide), q0, rd_n (by decide) (by decide), x1]
            refine nx _ ?_
            unfold ansL
            rw [if_pos c1, if_neg c2]
          · unfold ansL
            rw [if_neg c1, q10, pk_mul, nI_add]
        have skip : ¬ (10 * a + b = 0) → w_X8_lines_b105 p1 p2 p3 w4 w5 (nI a) (nI b) (lnE B d (10 * a + b) - p2 * lnJ B d (10 * a + b)) K26 K36 u2 (fun r h1 => wlet (hup h1 1457 0 r) (fun h2 => w_X9_lines p1 p2 p3 h2 (MQQ K 0))) (fun C h1 => (C = "java/lang/IllegalArgumentException" ∧ w_X9_lines p1 p2 p3 h1 (MQQ K 1))) := by
          intro n0
          obtain ⟨y1, y2⟩ := ep2 (by omega)
          unfold w_X8_lines_b105
          rw [y2]
          refine ⟨fun c => ?_, fun c => take (Or.inr ((lt_le32 _ _).mpr c))⟩
          have ebl : bl (lnW B p2 d) (10 * a + (b + 1)) = bl (lnW B p2 d) (10 * a + b) := by
            rw [show 10 * a + (b + 1) = (10 * a + b) + 1 by omega, bl_s, if_neg]
            rintro (q | q)
            · exact n0 q
            · exact (lt_le32 _ _).mp q c
          unfold w_X8_lines_b156
          rw [nI_1]
          exact hK36 hb1 _ ⟨rfl, fun _ => by rw [ebl]; exact ⟨y1, y2.symm ▸ rfl⟩, ku2⟩
        refine ⟨fun c => skip (fun q => c (by rw [show a = 0 by omega])), fun c => ⟨fun c2 => take (Or.inl ?_), fun c2 => skip (fun q => c2 (by rw [show b = 0 by omega]))⟩⟩
        have e6 : a = 0 := (nI_eq (b := 0) (by omega) (by decide)).mp (Classical.not_not.mp c)
        have e7 : b = 0 := (nI_eq (b := 0) (by omega) (by decide)).mp c2
        omega
      · unfold w_X9_lines
        try dsimp only
        rw [wlet_e, isDay_t e1 hd, wif_f i10, in_t (p1 := 0) (p2 := 9) (lo := 0) (hi := 9) e2 rfl rfl (by omega) hj2 (by decide), wif_f i10, in_f (p1 := 0) (p2 := 2) (lo := 0) (hi := 2) rfl rfl (by decide) (by decide) hn, c_not0, bad_t (thr0 _) (by decide), wif_f i10]
        exact mq_thr (hup_eq _ _ _ _) (by decide) (hK _ (KP.RR KP.thr a0.rr))
    · unfold w_X9_lines w_X9_lines_b32 w_X9_lines_b37
      try dsimp only
      rw [wlet_e, isDay_t e1 hd, wif_f i10, in_f (p1 := 0) (p2 := 9) (lo := 0) (hi := 9) rfl rfl (by decide) (by decide) hn, wif_t rfl, bad_t (thr0 _) (by decide), wif_f i10]
      exact mq_thr (hup_eq _ _ _ _) (by decide) (hK _ (KP.RR KP.thr a0.rr))
  · unfold w_X9_lines w_X9_lines_b32 w_X9_lines_b37
    try dsimp only
    rw [wlet_e, isDay_f hn, wif_t rfl, bad_t (thr0 _) (by decide), wif_f i10]
    exact mq_thr (hup_eq _ _ _ _) (by decide) (hK _ (KP.RR KP.thr a0.rr))
end F13
