/-! feed -/
theorem s8 : ∀ j : Fin 4, (((nI (24 - 8 * j.val)).toUInt32 &&& Int32.toUInt32 31).toBitVec % 32).toNat = 24 - 8 * j.val ∧ ((nI (24 - 8 * j.val) &&& 31).toBitVec.smod 32).toNat = 24 - 8 * j.val := by decide +kernel
theorem b255 (i : Nat) : (255#32).getLsbD i = decide (i < 8) := by
  rw [BitVec.getLsbD_ofNat, tb255]
  by_cases c : i < 8
  · rw [decide_eq_true c, decide_eq_true (show i < 32 by omega)]
    rfl
  · rw [decide_eq_false c, Bool.and_false]
theorem by_eq (p : Int32) {j : Nat} (hj : j < 4) : ((p.toUInt32 >>> ((nI (24 - 8 * j)).toUInt32 &&& Int32.toUInt32 31)).toInt32 &&& 255) = (p >>> (nI (24 - 8 * j) &&& 31)) &&& 255 := by
  obtain ⟨a, b⟩ := s8 ⟨j, hj⟩
  simp only at a b
  apply Int32.toBitVec_inj.mp
  rw [Int32.toBitVec_and, Int32.toBitVec_and, UInt32.toBitVec_toInt32, UInt32.toBitVec_shiftRight, Int32.toBitVec_shiftRight, Int32.toBitVec_toUInt32]
  rw [BitVec.ushiftRight_eq', BitVec.sshiftRight_eq', a, b]
  apply BitVec.eq_of_getLsbD_eq
  intro i hi
  rw [BitVec.getLsbD_and, BitVec.getLsbD_and, BitVec.getLsbD_ushiftRight, BitVec.getLsbD_sshiftRight, show (255 : Int32).toBitVec = 255#32 from rfl, b255]
  by_cases c : i < 8
  · rw [if_pos (by omega), decide_eq_false (by omega : ¬ 32 ≤ i)]
    rfl
  · rw [decide_eq_false c, Bool.and_false, Bool.and_false]
section F19
variable {h : Hp} {B : Br} {tn : Nat} {tl : Nat → List Row} {r : Rc} {K : Hp → Prop}
def by4 (p : Int32) (j : Nat) : Int32 := (p >>> (nI (24 - 8 * j) &&& 31)) &&& 255
theorem s_add4 {h : Hp} {t : Nat} (p : Int32) (h11 : h 1 1 = nI t) (ht : t + 4 ≤ 500) (Q : Hp → Prop) (hQ : ∀ h', (∀ q, q ≠ 1 → q ≠ 2 → h' q = h q) → (∀ i, i ≠ 1 → h' 1 i = h 1 i) → h' 1 1 = nI (t + 4) → (∀ i, i < t → h' 2 i = h 2 i) → (∀ j, j < 4 → h' 2 (t + j) = by4 p j) → Q h') : w_X7_add p h Q := by
  unfold w_X7_add w_X7_add_b3
  refine wl_run 4 (fun n (st : Int32 × Hp) => st.1 = zI (24 - 8 * (n : Int)) ∧ (∀ q, q ≠ 1 → q ≠ 2 → st.2 q = h q) ∧ (∀ i, i ≠ 1 → st.2 1 i = h 1 i) ∧ st.2 1 1 = nI (t + n) ∧ (∀ i, i < t → st.2 2 i = h 2 i) ∧ (∀ j, j < n → st.2 2 (t + j) = by4 p j)) ?_ (Nat.zero_le _) ⟨rfl, fun _ _ _ => rfl, fun _ _ => rfl, h11, fun _ _ => rfl, fun j hj => absurd hj (by omega)⟩
  rintro n ⟨v2, g⟩ K hn ⟨e2, g1, g2, g3, g4, g5⟩ hK
  simp only at e2 g1 g2 g3 g4 g5
  subst e2
  show w_X7_add_l3 p Q K (zI (24 - 8 * (n : Int))) g
  unfold w_X7_add_l3
  refine ⟨fun z => ?_, fun z => ?_⟩
  · have : n = 4 := by
      have := (zI_lt (a := 24 - 8 * (n : Int)) (b := 0) (by omega) (by omega)).mp z
      omega
    subst this
    exact hQ g g1 g2 g3 g4 g5
  have hn4 : n < 4 := by
    by_cases c : n < 4
    · exact c
    · exact absurd ((zI_lt (a := 24 - 8 * (n : Int)) (b := 0) (by omega) (by omega)).mpr (by omega)) z
  have ez : zI (24 - 8 * (n : Int)) = nI (24 - 8 * n) := by
    rw [← zI_n]
    congr 1
    omega
  rw [g3, e_put (by decide), wr_n (by omega) (by decide)]
  rw [hup_ne (by decide), g3, nI_1, wlet_e]
  have e8 : zI (24 - 8 * (n : Int)) + -8 = zI (24 - 8 * ((n + 1 : Nat) : Int)) := by
    rw [show (-8 : Int32) = zI (-8) by decide, zI_add]
    congr 1
    omega
  rw [e8, ez, by_eq p hn4]
  refine hK hn4 _ ⟨rfl, fun q q1 q2 => ?_, fun i hi => ?_, hup_eq2, fun i hi => ?_, fun j hj => ?_⟩
  · exact (hup_ne q1).trans ((hup_ne q2).trans (g1 q q1 q2))
  · show hup (hup g 2 (t + n) ((p >>> (nI (24 - 8 * n) &&& 31)) &&& 255)) 1 1 (nI (t + n + 1)) 1 i = _
    rw [hup_o (Or.inr hi), hup_ne (by decide)]
    exact g2 i hi
  · show hup (hup g 2 (t + n) ((p >>> (nI (24 - 8 * n) &&& 31)) &&& 255)) 1 1 (nI (t + n + 1)) 2 i = _
    rw [hup_ne (by decide), hup_o (Or.inr (by omega))]
    exact g4 i hi
  · show hup (hup g 2 (t + n) ((p >>> (nI (24 - 8 * n) &&& 31)) &&& 255)) 1 1 (nI (t + n + 1)) 2 (t + j) = _
    rw [hup_ne (by decide), hup_at]
    by_cases e : j = n
    · rw [if_pos ⟨rfl, by omega⟩, e]
      rfl
    · rw [if_neg (by omega)]
      exact g5 j (by omega)
theorem RA.rt {h h' : Hp} {B : Br} {tn : Nat} {tl : Nat → List Row} {r : Rc} (hR : RA h B tn tl r) (e : ∀ q, kp q → q ≠ 1 → q ≠ 2 → q ≠ 93 → h' q = h q) (e92 : ∀ i, (i = 18 ∨ i = 30 ∨ i = 31 ∨ i = 32 ∨ i = 48) → h' 92 i = h 92 i) (ht : RT h') : RA h' B tn tl r := by
  obtain ⟨c1, c2, ⟨l1, l2, l3, l4, l5, l6⟩, _, ⟨r1, r2, r3⟩, ⟨ic, i1, i2, i3, i4⟩⟩ := hR
  have k : ∀ q, (q = 0 ∨ (3 ≤ q ∧ q ≤ 15) ∨ q = 18 ∨ q = 19 ∨ q = 22 ∨ q = 23 ∨ q = 26 ∨ q = 27 ∨ q = 34 ∨ (62 ≤ q ∧ q ≤ 90) ∨ (94 ≤ q ∧ q ≤ 138) ∨ (141 ≤ q ∧ q ≤ 218)) → h' q = h q := fun q hq => e q (by unfold kp; omega) (by omega) (by omega) (by omega)
  refine ⟨c1.same (k 3 (by omega)) (k 4 (by omega)) (k 5 (by omega)) (k 6 (by omega)) (k 7 (by omega)), c2.same (k 95 (by omega)) (k 97 (by omega)) (k 99 (by omega)) (fun i hi => k _ (by omega)), ⟨l1, ?_, (e92 18 (by decide)).trans l3, fun t ht => ⟨(l4 t ht).1.same ?_ (k _ (by omega)), (l4 t ht).2.same (fun q hq => k q (by omega))⟩, ?_, (e92 48 (by decide)).trans l6⟩, ht, ⟨r1, r2.same (fun q q1 q2 => k q (by omega)), r3.same ⟨r1.2.2.1, r1.2.2.2.1⟩ (e92 30 (by decide)) (e92 31 (by decide)) (fun q q1 q2 => k q (by omega))⟩, ⟨ic, i1, ?_, (e92 32 (by decide)).trans i3, fun j hj => ?_⟩⟩
  · rw [k 0 (by omega)]; exact l2
  · rw [k (14 + 4 * t) (by omega)]
  · rw [k 34 (by omega)]; exact l5
  · rw [k 0 (by omega)]; exact i2
  · obtain ⟨r, r1, r2, r3⟩ := i4 j hj
    exact ⟨r, r1, r2.same (fun q q1 q2 => k q (by omega)), r3.same (k _ (by omega))⟩
def wd (p1 p2 p3 p4 p5 : Int32) (k : Nat) : Int32 := if k = 0 then p1 else if k = 1 then p2 else if k = 2 then p3 else if k = 3 then p4 else p5
theorem nI_mod4 {n : Nat} (h : n < 2 ^ 31) : nI n - nI n / 4 * 4 = nI (n % 4) := by
  rw [q4, pk_div h (by decide) (by decide), pk_mul, pk_sub (by omega)]
  congr 1
  omega
theorem cs0 {p1 p2 p3 p4 p5 : Int32} (hR : RA h B tn tl r) (hK : ∀ h', RR h' → K h') : w_X8_feed p1 p2 p3 p4 p5 h (fun v1 h1 => w_X9_feed p1 p2 p3 p4 p5 h1 (fun v2 h2 => v1 = v2 ∧ K h2)) := by
  obtain ⟨tp, t1, t2, t3, t4, t5⟩ := hR.2.2.2.1
  unfold w_X8_feed w_X7_hasRoom
  rw [t2, q20, nI_add, q500, bit_if]
  by_cases c : tp + 20 ≤ 500
  rotate_left
  · rw [if_pos ((nI_ltI (by omega) (by omega)).mpr (by omega))]
    refine wif_n (not_not_intro rfl) ?_
    unfold w_X9_feed
    try dsimp only
    rw [wlet_e, hup_o (Or.inr (by decide)), t3, q20, nI_add, q500]
    exact wif_n (fun q => c ((nI_leI (by omega) (by omega)).mp q)) ⟨rfl, hK _ (KP.RR KP.thr hR.rr)⟩
  rw [if_neg (fun q => by have := (nI_ltI (by omega) (by omega)).mp q; omega)]
  refine wif_p i10 ?_
  refine s_add4 p1 t2 (by omega) _ (fun g1 a1 b1 c1 d1 e1 => ?_)
  refine s_add4 p2 c1 (by omega) _ (fun g2 a2 b2 c2 d2 e2 => ?_)
  refine s_add4 p3 c2 (by omega) _ (fun g3 a3 b3 c3 d3 e3 => ?_)
  refine s_add4 p4 c3 (by omega) _ (fun g4 a4 b4 c4 d4 e4 => ?_)
  refine s_add4 p5 c4 (by omega) _ (fun g5 a5 b5 c5 d5 e5 => ?_)
  rw [c5]
  have ao : ∀ q, q ≠ 1 → q ≠ 2 → g5 q = h q := fun q q1 q2 => by rw [a5 q q1 q2, a4 q q1 q2, a3 q q1 q2, a2 q q1 q2, a1 q q1 q2]
  have bo : ∀ i, i ≠ 1 → g5 1 i = h 1 i := fun i hi => by rw [b5 i hi, b4 i hi, b3 i hi, b2 i hi, b1 i hi]
  have dd0 : ∀ i, i < tp → g5 2 i = h 2 i := fun i hi => by rw [d5 i (by omega), d4 i (by omega), d3 i (by omega), d2 i (by omega), d1 i hi]
  have eo : ∀ j, j < 20 → g5 2 (tp + j) = by4 (wd p1 p2 p3 p4 p5 (j / 4)) (j % 4) := by
    intro j hj
    have hk : j / 4 = 0 ∨ j / 4 = 1 ∨ j / 4 = 2 ∨ j / 4 = 3 ∨ j / 4 = 4 := by omega
    rcases hk with hk | hk | hk | hk | hk
    · rw [hk, show tp + j = tp + j % 4 by omega, d5 _ (by omega), d4 _ (by omega), d3 _ (by omega), d2 _ (by omega), e1 _ (by omega)]
      rfl
    · rw [hk, show tp + j = tp + 4 + j % 4 by omega, d5 _ (by omega), d4 _ (by omega), d3 _ (by omega), e2 _ (by omega)]
      rfl
    · rw [hk, show tp + j = tp + 4 + 4 + j % 4 by omega, d5 _ (by omega), d4 _ (by omega), e3 _ (by omega)]
      rfl
    · rw [hk, show tp + j = tp + 4 + 4 + 4 + j % 4 by omega, d5 _ (by omega), e4 _ (by omega)]
      rfl
    · rw [hk, show tp + j = tp + 4 + 4 + 4 + 4 + j % 4 by omega, e5 _ (by omega)]
      rfl
  unfold w_X9_feed
  try dsimp only
  rw [wlet_e, hup_o (show (92 : Nat) ≠ 92 ∨ (1 : Nat) ≠ 0 from Or.inr (by decide)), ao 92 (by decide) (by decide), t3, q20, nI_add, q500]
  refine wif_p ((nI_leI (by omega) (by omega)).mpr c) ?_
  generalize hm : hup g5 92 0 0 = m0
  have mo : ∀ q, q ≠ 92 → m0 q = g5 q := fun q hq => by rw [← hm, hup_ne hq]
  have m92 : ∀ i, i ≠ 0 → m0 92 i = h 92 i := fun i hi => by rw [← hm, hup_o (Or.inr hi), ao 92 (by decide) (by decide)]
  unfold w_X9_feed_b23
  refine wl_run 20 (fun n (st : Int32 × Hp) => st.1 = nI n ∧ (∀ q, q ≠ 92 → q ≠ 93 → st.2 q = m0 q) ∧ (∀ i, i ≠ 1 → st.2 92 i = m0 92 i) ∧ st.2 92 1 = nI (tp + n) ∧ (∀ i, i < tp → st.2 93 i = m0 93 i) ∧ (∀ j, j < n → st.2 93 (tp + j) = by4 (wd p1 p2 p3 p4 p5 (j / 4)) (j % 4))) ?_ (Nat.zero_le _) ⟨rfl, fun _ _ _ => rfl, fun _ _ => rfl, (m92 1 (by decide)).trans t3, fun _ _ => rfl, fun j hj => absurd hj (by omega)⟩
  rintro n ⟨v6, u⟩ K23 hn ⟨e6, u1, u2, u3, u4, u5⟩ hK23
  simp only at e6 u1 u2 u3 u4 u5
  subst e6
  show w_X9_feed_l23 p1 p2 p3 p4 p5 _ K23 (nI n) u
  unfold w_X9_feed_l23
  rw [show (20 : Int32) = nI 20 from rfl]
  refine ⟨fun z => ?_, fun z => ?_⟩
  · have : n = 20 := by
      have := (nI_leI (by omega) (by omega)).mp z
      omega
    subst this
    refine ⟨u3.symm ▸ rfl, hK _ (RA.rr (RA.rt hR (fun q x1 x2 x3 x4 => ?_) (fun i hi => ?_) ⟨tp + 20, c, ?_, u3, fun j hj => ?_, ?_⟩))⟩
    · have : q ≠ 92 := by unfold kp at x1; omega
      rw [u1 q this x4, mo q this, ao q x2 x3]
    · rw [u2 i (by omega), m92 i (by omega)]
    · rw [u1 1 (by decide) (by decide), mo 1 (by decide), c5]
    · rw [u1 2 (by decide) (by decide), mo 2 (by decide)]
      by_cases cj : j < tp
      · rw [dd0 j cj, u4 j cj, mo 93 (by decide), ao 93 (by decide) (by decide)]
        exact t4 j cj
      · obtain ⟨k, rfl⟩ : ∃ k, j = tp + k := ⟨j - tp, by omega⟩
        rw [eo k (by omega), u5 k (by omega)]
    · rw [u1 1 (by decide) (by decide), mo 1 (by decide), bo 5 (by decide), u2 3 (by decide), m92 3 (by decide)]
      exact t5
  have hn1 : n < 20 := Nat.lt_of_not_le fun q => z ((nI_leI (by omega) (by omega)).mpr q)
  have sh : 24 - 8 * nI (n % 4) = nI (24 - 8 * (n % 4)) := by rw [q24, q8, pk_mul, pk_sub (by omega)]
  have vn : vp_in (nI (tp + n)) 500 := vp_in_nI (by omega) (by decide)
  have fin : ∀ w, w = wd p1 p2 p3 p4 p5 (n / 4) → K23 (nI (n + 1), hup (hup u 93 (tp + n) ((w >>> (nI (24 - 8 * (n % 4)) &&& 31)) &&& 255)) 92 1 (nI (tp + n + 1))) := by
    intro w hw
    refine hK23 hn1 _ ⟨rfl, fun q x1 x2 => ?_, fun i hi => ?_, hup_eq2, fun i hi => ?_, fun j hj => ?_⟩
    · exact (hup_ne x1).trans ((hup_ne x2).trans (u1 q x1 x2))
    · show hup (hup u 93 (tp + n) ((w >>> (nI (24 - 8 * (n % 4)) &&& 31)) &&& 255)) 92 1 (nI (tp + n + 1)) 92 i = _
      rw [hup_o (Or.inr hi), hup_ne (by decide)]
      exact u2 i hi
    · show hup (hup u 93 (tp + n) ((w >>> (nI (24 - 8 * (n % 4)) &&& 31)) &&& 255)) 92 1 (nI (tp + n + 1)) 93 i = _
      rw [hup_ne (by decide), hup_o (Or.inr (by omega))]
      exact u4 i hi
    · show hup (hup u 93 (tp + n) ((w >>> (nI (24 - 8 * (n % 4)) &&& 31)) &&& 255)) 92 1 (nI (tp + n + 1)) 93 (tp + j) = _
      rw [hup_ne (by decide), hup_at]
      by_cases e : j = n
      · rw [if_pos ⟨rfl, by omega⟩, e, hw]
        rfl
      · rw [if_neg (by omega)]
        exact u5 j (by omega)
  rw [u3, nI_mod4 (by omega), sh, nI_clamp (by omega)]
  refine ⟨fun z4 => ?_, fun z4 => ?_⟩
  · have h4 : 4 ≤ n := by
      rw [q4] at z4
      exact (nI_leI (by omega) (by omega)).mp z4
    have ew : (if 8 ≤ nI n then (if 12 ≤ nI n then (if 16 ≤ nI n then p5 else p4) else p3) else p2) = wd p1 p2 p3 p4 p5 (n / 4) := by
      unfold wd
      rw [q8, q12, q16]
      by_cases k8 : 8 ≤ n
      · rw [if_pos ((nI_leI (by omega) (by omega)).mpr k8)]
        by_cases k12 : 12 ≤ n
        · rw [if_pos ((nI_leI (by omega) (by omega)).mpr k12)]
          by_cases k16 : 16 ≤ n
          · rw [if_pos ((nI_leI (by omega) (by omega)).mpr k16), if_neg (by omega), if_neg (by omega), if_neg (by omega), if_neg (by omega)]
          · rw [if_neg (fun q => k16 ((nI_leI (by omega) (by omega)).mp q)), if_neg (by omega), if_neg (by omega), if_neg (by omega), if_pos (by omega)]
        · rw [if_neg (fun q => k12 ((nI_leI (by omega) (by omega)).mp q)), if_neg (by omega), if_neg (by omega), if_pos (by omega)]
      · rw [if_neg (fun q => k8 ((nI_leI (by omega) (by omega)).mp q)), if_neg (by omega), if_pos (by omega)]
    rw [ew, wlet_e]
    refine ⟨vn, ?_⟩
    rw [wlet_e, hup_ne (by decide), u3, nI_1, nI_1, wlet_e]
    exact fin _ rfl
  · have h4 : ¬ 4 ≤ n := fun q => z4 (by rw [q4]; exact (nI_leI (by omega) (by omega)).mpr q)
    unfold w_X9_feed_b76
    rw [u3, nI_mod4 (by omega), sh, nI_clamp (by omega)]
    refine ⟨vn, ?_⟩
    rw [wlet_e, hup_ne (by decide), u3, nI_1, nI_1, wlet_e]
    exact fin _ (by unfold wd; rw [if_pos (by omega)])
end F19
