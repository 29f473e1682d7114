/-! a clause's numbers, by the model -/
def MC (g : Hp) (B : Br) : Prop := (∀ i, i < 11 → g 94 i = nI (B.1 i)) ∧ (∀ d, d < 30 → g 96 d = if B.2.1 d = 0 then -1 else nI (B.2.1 d)) ∧ (∀ d, d < 30 → g 98 d = nI (B.2.2.1 d)) ∧ (∀ k i, k < B.1 0 → i < 7 → g (101 + k) i = nI (B.2.2.2 k i))
def scr (q : Nat) : Prop := q = 94 ∨ q = 96 ∨ q = 98 ∨ (101 ≤ q ∧ q ≤ 108)
theorem MC.same {g g' : Hp} {B : Br} (h8 : B.1 0 ≤ 8) (c : MC g B) (e : ∀ q, scr q → g' q = g q) : MC g' B := by
  obtain ⟨a, b, d, f⟩ := c
  refine ⟨?_, ?_, ?_, fun k i hk hi => ?_⟩
  · rw [e 94 (by unfold scr; omega)]; exact a
  · rw [e 96 (by unfold scr; omega)]; exact b
  · rw [e 98 (by unfold scr; omega)]; exact d
  · rw [e (101 + k) (by unfold scr; omega)]; exact f k i hk hi
theorem MC.setN {g : Hp} {B : Br} (c : MC g B) {i v : Nat} (h0 : i ≠ 0) : MC (hup g 94 i (nI v)) (setN B i v) := by
  obtain ⟨a, b, d, f⟩ := c
  refine ⟨fun j hj => ?_, fun x hx => ?_, fun x hx => ?_, fun k x hk hx => ?_⟩
  · show _ = nI (if j = i then v else B.1 j)
    by_cases q : j = i
    · rw [q, hup_eq, if_pos rfl]
    · rw [if_neg q, hup_o (Or.inr q)]
      exact a j hj
  · rw [hup_ne (by decide)]; exact b x hx
  · rw [hup_ne (by decide)]; exact d x hx
  · have hk2 : k < (if 0 = i then v else B.1 0) := hk
    rw [if_neg (fun z => h0 z.symm)] at hk2
    rw [hup_ne (by omega)]
    exact f k x hk2 hx
theorem MC.setS {g : Hp} {B : Br} (h8 : B.1 0 ≤ 8) (c : MC g B) {i v : Nat} (hv : v ≠ 0) : MC (hup g 96 i (nI v)) (setS B i v) := by
  obtain ⟨a, b, d, f⟩ := c
  refine ⟨fun j hj => ?_, fun x hx => ?_, fun x hx => ?_, fun k x hk hx => ?_⟩
  · rw [hup_ne (by decide)]; exact a j hj
  · show _ = if (if x = i then v else B.2.1 x) = 0 then -1 else nI (if x = i then v else B.2.1 x)
    by_cases q : x = i
    · rw [q, hup_eq, if_pos rfl, if_neg hv]
    · rw [if_neg q, hup_o (Or.inr q)]
      exact b x hx
  · rw [hup_ne (by decide)]; exact d x hx
  · have hk2 : k < B.1 0 := hk
    rw [hup_ne (by omega)]
    exact f k x hk2 hx
theorem MC.setF {g : Hp} {B : Br} (h8 : B.1 0 ≤ 8) (c : MC g B) {i v : Nat} : MC (hup g 98 i (nI v)) (setF B i v) := by
  obtain ⟨a, b, d, f⟩ := c
  refine ⟨fun j hj => ?_, fun x hx => ?_, fun x hx => ?_, fun k x hk hx => ?_⟩
  · rw [hup_ne (by decide)]; exact a j hj
  · rw [hup_ne (by decide)]; exact b x hx
  · show _ = nI (if x = i then v else B.2.2.1 x)
    by_cases q : x = i
    · rw [q, hup_eq, if_pos rfl]
    · rw [if_neg q, hup_o (Or.inr q)]
      exact d x hx
  · have hk2 : k < B.1 0 := hk
    rw [hup_ne (by omega)]
    exact f k x hk2 hx
theorem MC.setW {g : Hp} {B : Br} (h8 : B.1 0 ≤ 8) (c : MC g B) {k i v : Nat} : MC (hup g (101 + k) i (nI v)) (setW B k i v) := by
  obtain ⟨a, b, d, f⟩ := c
  refine ⟨fun j hj => ?_, fun x hx => ?_, fun x hx => ?_, fun k' x hk hx => ?_⟩
  · rw [hup_ne (by omega)]; exact a j hj
  · rw [hup_ne (by omega)]; exact b x hx
  · rw [hup_ne (by omega)]; exact d x hx
  · show _ = nI (if k' = k ∧ x = i then v else B.2.2.2 k' x)
    by_cases q : k' = k ∧ x = i
    · rw [q.1, q.2, hup_eq, if_pos ⟨rfl, rfl⟩]
    · rw [if_neg q, hup_o (by omega)]
      exact f k' x hk hx
/-- frames: scratch and 92's 4, 5, 6; scratch and 4 alone -/
def gs (g g' : Hp) : Prop := (∀ q, q ≠ 92 → ¬ scr q → g' q = g q) ∧ (∀ i, i ≠ 4 → i ≠ 5 → i ≠ 6 → g' 92 i = g 92 i)
def gq (g g' : Hp) : Prop := (∀ q, q ≠ 92 → ¬ scr q → g' q = g q) ∧ (∀ i, i ≠ 4 → g' 92 i = g 92 i)
theorem gs.tr {g g1 g2 : Hp} (a : gs g g1) (b : gs g1 g2) : gs g g2 := ⟨fun q hq h9 => (b.1 q hq h9).trans (a.1 q hq h9), fun i x y z => (b.2 i x y z).trans (a.2 i x y z)⟩
theorem gq.tr {g g1 g2 : Hp} (a : gq g g1) (b : gq g1 g2) : gq g g2 := ⟨fun q hq h9 => (b.1 q hq h9).trans (a.1 q hq h9), fun i x => (b.2 i x).trans (a.2 i x)⟩
theorem gq.rf {g : Hp} : gq g g := ⟨fun _ _ _ => rfl, fun _ _ => rfl⟩
theorem gs.rf {g : Hp} : gs g g := ⟨fun _ _ _ => rfl, fun _ _ _ _ => rfl⟩
theorem gq.s {g g' : Hp} (a : gq g g') : gs g g' := ⟨a.1, fun i x _ _ => a.2 i x⟩
theorem fm.q {g g' : Hp} (a : fm g g') : gq g g' := ⟨fun q hq _ => a.1 q hq, a.2⟩
theorem gq.up {g g' : Hp} (a : gq g g') {q i : Nat} {v : Int32} (hq : scr q) : gq g (hup g' q i v) := ⟨fun x hx h9 => by
  have hne : x ≠ q := fun z => h9 (by rw [z]; exact hq)
  rw [hup_ne hne]
  exact a.1 x hx h9, fun j hj => by rw [hup_ne (by unfold scr at hq; omega)]; exact a.2 j hj⟩
theorem MX.sc {g : Hp} {T : Nat → Int32} {L p : Nat} (c : MX g T L p) {q i : Nat} {v : Int32} (hq : scr q) : MX (hup g q i v) T L p := by
  unfold scr at hq
  unfold MX
  rw [hup_ne (q := 92) (by omega), hup_ne (q := 93) (by omega)]
  exact c
section P4
variable {g : Hp} {T : Nat → Int32} {L p : Nat} {B : Br} {Q : Hp → Prop}
def outM (g : Hp) (T : Nat → Int32) (L : Nat) (res : Res) (Q : Hp → Prop) : Prop := (∀ g', res.1 = 0 → gq g g' → MX g' T L res.2.2.1 → MC g' res.2.2.2 → Q g') ∧ (∀ g', res.1 ≠ 0 → gs g g' → g' 92 5 = nI res.1 → g' 92 6 = nI res.2.1 → g' 92 5 ≠ 0 → (∃ q, MX g' T L q) → Q g')
theorem outM.to {g g1 : Hp} {res : Res} (a : gq g g1) (o : outM g T L res Q) : outM g1 T L res Q := ⟨fun g' e f c s => o.1 g' e (a.tr f) c s, fun g' e f => o.2 g' e (a.s.tr f)⟩
/-- something is wrong, and whatever scratch becomes the end holds -/
def errK (g : Hp) (Q : Hp → Prop) : Prop := g 92 5 ≠ 0 ∧ ∀ g', (∀ q, ¬ scr q → g' q = g q) → Q g'
theorem errK.up {g : Hp} (a : errK g Q) {q i : Nat} {v : Int32} (hq : scr q) : errK (hup g q i v) Q := ⟨by rw [hup_ne (by unfold scr at hq; omega)]; exact a.1, fun g' f => a.2 g' (fun x hx => by
  rw [f x hx]
  exact hup_ne (fun z => hx (by rw [z]; exact hq)))⟩
theorem errK.q {g : Hp} (a : errK g Q) : Q g := a.2 g (fun _ _ => rfl)
theorem numS_k {T : Nat → Int32} {L lo hi p : Nat} (h : (numS T L lo hi p).1 ≠ 0) : (numS T L lo hi p).1 = 1 ∨ (numS T L lo hi p).1 = 2 := by
  unfold numS at h ⊢
  split
  · exact Or.inl rfl
  · rename_i c
    rw [if_neg c] at h
    split
    · exact Or.inr rfl
    · rename_i d
      rw [if_neg d] at h
      exact absurd rfl h
theorem s_bnM (h8 : B.1 0 ≤ 8) (c : MX g T L p) (h5 : g 92 5 = 0) (hS : MC g B) {p1 p2 : Int32} (lo hi : Nat) (hr : rng lo hi p1 p2) {f : Nat → Nat → Res} {B' : Br} (o : outM g T L (bn B' (numS T L lo hi p) f) Q) (G : Int32 → Hp → Prop) (h1 : ∀ g' q v, fm g g' → MX g' T L q → g' 92 5 = 0 → MC g' B → lo ≤ v → v ≤ hi → v ≤ 100000 → outM g' T L (f q v) Q → G (nI v) g') (h0 : ∀ g', gs g g' → errK g' Q → G 0 g') : w_X9_number p1 p2 g G := by
  refine s_numMG c h5 lo hi hr _ (fun g' f' e c' => ?_) (fun g' e er' mx => h0 g' ?_ ⟨?_, fun g'' f'' => ?_⟩)
  · rw [bn_ok e] at o
    obtain ⟨b1, b2, b3⟩ := numS_ok e
    exact h1 g' _ _ f' c' ((f'.2 5 (by decide)).trans h5) (hS.same h8 (fun q hq => f'.1 q (by unfold scr at hq; omega))) b1 b2 b3 (outM.to f'.q o)
  · exact ⟨fun q hq _ => er'.1 q hq, er'.2.1⟩
  · rw [er'.2.2.1]
    rcases numS_k e with q | q <;> rw [q] <;> decide
  · rw [bn_no e] at o
    have ne : g' 92 5 ≠ 0 := by
      rw [er'.2.2.1]
      rcases numS_k e with q | q <;> rw [q] <;> decide
    have n92 : ¬ scr 92 := by unfold scr; omega
    have n93 : ¬ scr 93 := by unfold scr; omega
    obtain ⟨q, mx⟩ := mx
    have f92 := f'' 92 n92
    exact o.2 g'' e ⟨fun q hq h9 => (f'' q h9).trans (er'.1 q hq), fun i x y z => by rw [f92]; exact er'.2.1 i x y z⟩ (by rw [f92]; exact er'.2.2.1) (by rw [f92]; exact er'.2.2.2) (by rw [f92]; exact ne) ⟨q, by rw [f92]; exact mx.1, mx.2.1, by rw [f92]; exact mx.2.2.1, mx.2.2.2.1, by rw [f'' 93 n93]; exact mx.2.2.2.2⟩
theorem v08 {n : Nat} (h : n < 8) : vp_in (nI n) 8 := vp_in_nI h (by decide)
theorem s_whoM (h8 : B.1 0 < 8) (hw : WB B) (c : MX g T L p) (h5 : g 92 5 = 0) (hS : MC g B) (o : outM g T L (partS T L p B 3) Q) : w_X9_readsWho g Q := by
  have o2 : outM g T L (bn B (numS T L 50 400 p) (fun p a => bn B (numS T L 1 999 p) (fun p b => bn B (numS T L 0 1439 p) (fun p c => bn B (numS T L c 1439 p) (fun p d => bn B (numS T L 0 9 p) (fun p e => (0, 0, p, addW B a b c d e))))))) Q := o
  have w0 : vp_in 0 11 := vl 0 11 (by decide) (by decide)
  have u0 : vp_in 0 7 := vl 0 7 (by decide) (by decide)
  have u1 : vp_in 1 7 := vl 1 7 (by decide) (by decide)
  have u2 : vp_in 2 7 := vl 2 7 (by decide) (by decide)
  have u3 : vp_in 3 7 := vl 3 7 (by decide) (by decide)
  have u4 : vp_in 4 7 := vl 4 7 (by decide) (by decide)
  have u5 : vp_in 5 7 := vl 5 7 (by decide) (by decide)
  have u6 : vp_in 6 7 := vl 6 7 (by decide) (by decide)
  obtain ⟨n, hn⟩ : ∃ n, B.1 0 = n := ⟨_, rfl⟩
  have e94 : g 94 0 = nI n := by rw [hS.1 0 (by decide), hn]
  have sn : scr (101 + n) := by unfold scr; omega
  have s94 : scr 94 := Or.inl rfl
  have h8' : B.1 0 ≤ 8 := by omega
  unfold w_X9_readsWho
  rw [cl0, cl1, cl2, cl3, cl4, cl5, cl6, e94, nI_clamp (by omega), Nat.one_mul]
  refine ⟨w0, v08 (by omega), ?_⟩
  have kp1 : ∀ {u : Hp} {i : Nat} {v : Int32}, MC u B → MC (hup u (101 + n) i v) B := fun {u i v} m => by
    obtain ⟨m1, m2, m3, m4⟩ := m
    refine ⟨?_, ?_, ?_, fun k x hk hx => ?_⟩
    · rw [hup_ne (by omega)]; exact m1
    · rw [hup_ne (by omega)]; exact m2
    · rw [hup_ne (by omega)]; exact m3
    · rw [hup_ne (by omega)]; exact m4 k x hk hx
  have x5 : ∀ {u : Hp} {i : Nat} {v : Int32}, u 92 5 = 0 → hup u (101 + n) i v 92 5 = 0 := fun {u i v} e => by rw [hup_ne (by omega)]; exact e
  refine s_bnM h8' c h5 hS 50 400 (rng_n rfl rfl (by decide) (by decide)) o2 _ (fun g1 q a f1 c1 z1 s1 _ _ d3 o3 => ⟨u0, ?_⟩) (fun g1 _ E => ?_)
  rotate_left
  · refine ⟨u0, ?_⟩
    rw [wlet_e]
    have E1 := E.up (v := 0) (i := 0) sn
    rw [e_numN E1.1]
    refine ⟨u1, ?_⟩
    rw [wlet_e]
    have E2 := E1.up (v := 0) (i := 1) sn
    rw [e_numN E2.1]
    refine ⟨u2, ?_⟩
    rw [wlet_e]
    have E3 := E2.up (v := 0) (i := 2) sn
    refine ⟨u2, ?_⟩
    rw [e_numN E3.1]
    refine ⟨u3, ?_⟩
    rw [wlet_e]
    have E4 := E3.up (v := 0) (i := 3) sn
    rw [e_numN E4.1]
    refine ⟨u4, ?_⟩
    rw [wlet_e]
    refine ⟨u5, ?_⟩
    rw [wlet_e]
    refine ⟨u6, ?_⟩
    rw [wlet_e]
    refine ⟨w0, w0, ?_⟩
    rw [wlet_e]
    exact ((((E4.up sn).up sn).up sn).up s94).q
  rw [wlet_e]
  refine s_bnM h8' (c1.sc sn) (x5 z1) (kp1 s1) 1 999 (rng_n rfl rfl (by decide) (by decide)) (outM.to (gq.up gq.rf sn) o3) _ (fun g2 q b f2 c2 z2 s2 _ _ d3 o4 => ⟨u1, ?_⟩) (fun g2 _ E => ?_)
  rotate_left
  · refine ⟨u1, ?_⟩
    rw [wlet_e]
    have E2 := E.up (v := 0) (i := 1) sn
    rw [e_numN E2.1]
    refine ⟨u2, ?_⟩
    rw [wlet_e]
    have E3 := E2.up (v := 0) (i := 2) sn
    refine ⟨u2, ?_⟩
    rw [e_numN E3.1]
    refine ⟨u3, ?_⟩
    rw [wlet_e]
    have E4 := E3.up (v := 0) (i := 3) sn
    rw [e_numN E4.1]
    refine ⟨u4, ?_⟩
    rw [wlet_e]
    refine ⟨u5, ?_⟩
    rw [wlet_e]
    refine ⟨u6, ?_⟩
    rw [wlet_e]
    refine ⟨w0, w0, ?_⟩
    rw [wlet_e]
    exact ((((E4.up sn).up sn).up sn).up s94).q
  rw [wlet_e]
  refine s_bnM h8' (c2.sc sn) (x5 z2) (kp1 s2) 0 1439 (rng_n rfl rfl (by decide) (by decide)) (outM.to (gq.up gq.rf sn) o4) _ (fun g3 q cc f3 c3 z3 s3 _ k2 d3 o5 => ⟨u2, ?_⟩) (fun g3 _ E => ?_)
  rotate_left
  · refine ⟨u2, ?_⟩
    rw [wlet_e]
    have E3 := E.up (v := 0) (i := 2) sn
    refine ⟨u2, ?_⟩
    rw [e_numN E3.1]
    refine ⟨u3, ?_⟩
    rw [wlet_e]
    have E4 := E3.up (v := 0) (i := 3) sn
    rw [e_numN E4.1]
    refine ⟨u4, ?_⟩
    rw [wlet_e]
    refine ⟨u5, ?_⟩
    rw [wlet_e]
    refine ⟨u6, ?_⟩
    rw [wlet_e]
    refine ⟨w0, w0, ?_⟩
    rw [wlet_e]
    exact ((((E4.up sn).up sn).up sn).up s94).q
  rw [wlet_e]
  refine ⟨u2, ?_⟩
  refine s_bnM h8' (c3.sc sn) (x5 z3) (kp1 s3) cc 1439 (rng_n (hup_eq _ _ _ _) rfl (by omega) (by decide)) (outM.to (gq.up gq.rf sn) o5) _ (fun g4 q d f4 c4 z4 s4 _ _ d3 o6 => ⟨u3, ?_⟩) (fun g4 _ E => ?_)
  rotate_left
  · refine ⟨u3, ?_⟩
    rw [wlet_e]
    have E4 := E.up (v := 0) (i := 3) sn
    rw [e_numN E4.1]
    refine ⟨u4, ?_⟩
    rw [wlet_e]
    refine ⟨u5, ?_⟩
    rw [wlet_e]
    refine ⟨u6, ?_⟩
    rw [wlet_e]
    refine ⟨w0, w0, ?_⟩
    rw [wlet_e]
    exact ((((E4.up sn).up sn).up sn).up s94).q
  rw [wlet_e]
  refine s_bnM h8' (c4.sc sn) (x5 z4) (kp1 s4) 0 9 (rng_n rfl rfl (by decide) (by decide)) (outM.to (gq.up gq.rf sn) o6) _ (fun g5 q e f5 c5 z5 s5 _ _ d3 o7 => ⟨u4, ?_⟩) (fun g5 _ E => ?_)
  rotate_left
  · refine ⟨u4, ?_⟩
    rw [wlet_e]
    refine ⟨u5, ?_⟩
    rw [wlet_e]
    refine ⟨u6, ?_⟩
    rw [wlet_e]
    refine ⟨w0, w0, ?_⟩
    rw [wlet_e]
    exact ((((E.up sn).up sn).up sn).up s94).q
  rw [wlet_e]
  refine ⟨u5, ?_⟩
  rw [wlet_e]
  refine ⟨u6, ?_⟩
  rw [wlet_e]
  refine ⟨w0, w0, ?_⟩
  have e945 : g5 94 0 = nI n := by rw [s5.1 0 (by decide), hn]
  rw [hup_ne (show (94 : Nat) ≠ 101 + n by omega), hup_ne (show (94 : Nat) ≠ 101 + n by omega), hup_ne (show (94 : Nat) ≠ 101 + n by omega), e945, nI_1, wlet_e]
  have hR : (101 + n : Nat) ≠ 92 := by omega
  have r3 : g5 (101 + n) 3 = nI d := by rw [f5.1 _ hR, hup_eq]
  have r2 : g5 (101 + n) 2 = nI cc := by rw [f5.1 _ hR, hup_o (Or.inr (by decide)), f4.1 _ hR, hup_eq]
  have r1 : g5 (101 + n) 1 = nI b := by rw [f5.1 _ hR, hup_o (Or.inr (by decide)), f4.1 _ hR, hup_o (Or.inr (by decide)), f3.1 _ hR, hup_eq]
  have r0 : g5 (101 + n) 0 = nI a := by rw [f5.1 _ hR, hup_o (Or.inr (by decide)), f4.1 _ hR, hup_o (Or.inr (by decide)), f3.1 _ hR, hup_o (Or.inr (by decide)), f2.1 _ hR, hup_eq]
  refine o7.1 _ rfl ((((gq.up gq.rf sn).up sn).up sn).up s94) ((((c5.sc sn).sc sn).sc sn).sc s94) ?_
  obtain ⟨m1, m2, m3, m4⟩ := s5
  have row : ∀ k j, (addW B a b cc d e).2.2.2 k j = if k = n ∧ j = 4 then e else if k = n ∧ j = 3 then d else if k = n ∧ j = 2 then cc else if k = n ∧ j = 1 then b else if k = n ∧ j = 0 then a else B.2.2.2 k j := fun k j => by rw [← hn]; rfl
  have z5' := hw.2.2.2.2.2.2.2.2.2.2.2.2.2 n 5 (by omega)
  have z6' := hw.2.2.2.2.2.2.2.2.2.2.2.2.2 n 6 (by omega)
  refine ⟨fun i hi => ?_, fun x hx => ?_, fun x hx => ?_, fun k i hk hi => ?_⟩
  · show _ = nI (if i = 0 then B.1 0 + 1 else B.1 i)
    by_cases q : i = 0
    · rw [q, hup_eq, if_pos rfl, hn]
    · rw [if_neg q, hup_o (Or.inr q), hup_ne (by omega), hup_ne (by omega), hup_ne (by omega)]
      exact m1 i hi
  · rw [hup_ne (by decide), hup_ne (by omega), hup_ne (by omega), hup_ne (by omega)]; exact m2 x hx
  · rw [hup_ne (by decide), hup_ne (by omega), hup_ne (by omega), hup_ne (by omega)]; exact m3 x hx
  · have hk2 : k < B.1 0 + 1 := hk
    rw [hup_ne (by omega), row]
    by_cases q : k = n
    · subst q
      have h7 : i = 0 ∨ i = 1 ∨ i = 2 ∨ i = 3 ∨ i = 4 ∨ i = 5 ∨ i = 6 := by omega
      rcases h7 with rfl | rfl | rfl | rfl | rfl | rfl | rfl
      · rw [hup_o (Or.inr (by decide)), hup_o (Or.inr (by decide)), hup_o (Or.inr (by decide)), r0]; simp
      · rw [hup_o (Or.inr (by decide)), hup_o (Or.inr (by decide)), hup_o (Or.inr (by decide)), r1]; simp
      · rw [hup_o (Or.inr (by decide)), hup_o (Or.inr (by decide)), hup_o (Or.inr (by decide)), r2]; simp
      · rw [hup_o (Or.inr (by decide)), hup_o (Or.inr (by decide)), hup_o (Or.inr (by decide)), r3]; simp
      · rw [hup_o (Or.inr (by decide)), hup_o (Or.inr (by decide)), hup_eq]; simp
      · rw [hup_o (Or.inr (by decide)), hup_eq, z5']; simp; rfl
      · rw [hup_eq, z6']; simp; rfl
    · rw [if_neg (fun z => q z.1), if_neg (fun z => q z.1), if_neg (fun z => q z.1), if_neg (fun z => q z.1), if_neg (fun z => q z.1), hup_ne (by omega), hup_ne (by omega), hup_ne (by omega)]
      exact m4 k i (by omega) hi
end P4
