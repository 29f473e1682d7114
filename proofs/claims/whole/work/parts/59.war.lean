/-! the war of the tolls -/
section F14
variable {h : Hp} {B : Br} {tn : Nat} {tl : Nat → List Row} {r : Rc} {K : Hp → Prop}
def wrP (B : Br) (tn : Nat) (tl : Nat → List Row) (d i j : Nat) : Pz := dayP B (rowsOf tn tl i) (rowsOf tn tl j) (2 ^ B.1 0 - 1) d true 1000000
def wE (B : Br) (tn : Nat) (tl : Nat → List Row) (d s i j : Nat) : Int32 := zI (ern B (wrP B tn tl d i j) s (pA (wrP B tn tl d i j)))
def wT (B : Br) (tn : Nat) (tl : Nat → List Row) (d s o : Nat) (v : Nat) : Int32 := if s = 0 then wE B tn tl d 0 v o else wE B tn tl d 1 o v
theorem bl_lt (w : Nat → Int32) : ∀ n, 0 < n → bl w n < n
  | 0, h => absurd h (by omega)
  | n + 1, _ => by
    have := bl_b w n
    rw [bl_s]
    split
    · omega
    · rename_i c
      have h0 : n ≠ 0 := fun z => c (Or.inl z)
      have := bl_lt w n (by omega)
      omega
def warS (B : Br) (tn : Nat) (tl : Nat → List Row) (d a b : Nat) : Nat → Nat × Nat
  | 0 => (a, b)
  | n + 1 => if n % 2 = 0 then (bl (wT B tn tl d 0 (warS B tn tl d a b n).2) tn, (warS B tn tl d a b n).2) else ((warS B tn tl d a b n).1, bl (wT B tn tl d 1 (warS B tn tl d a b n).1) tn)
theorem warS_s (B : Br) (tn : Nat) (tl : Nat → List Row) (d a b n : Nat) : warS B tn tl d a b (n + 1) = if n % 2 = 0 then (bl (wT B tn tl d 0 (warS B tn tl d a b n).2) tn, (warS B tn tl d a b n).2) else ((warS B tn tl d a b n).1, bl (wT B tn tl d 1 (warS B tn tl d a b n).1) tn) := rfl
theorem warS_b {B : Br} {tn : Nat} {tl : Nat → List Row} {d a b : Nat} (h0 : 0 < tn) (ha : a < tn) (hb : b < tn) : ∀ n, (warS B tn tl d a b n).1 < tn ∧ (warS B tn tl d a b n).2 < tn
  | 0 => ⟨ha, hb⟩
  | n + 1 => by
    obtain ⟨x, y⟩ := warS_b (B := B) (tl := tl) (d := d) h0 ha hb n
    rw [warS_s]
    split
    · exact ⟨bl_lt _ _ h0, y⟩
    · exact ⟨x, bl_lt _ _ h0⟩
def TB (B : Br) (tn : Nat) (tl : Nat → List Row) (d : Nat) (h : Hp) (S : Nat → Nat → Prop) : Prop := ∀ i j, i < tn → j < tn → S i j → h 91 (4 * i + j) = wE B tn tl d 0 i j ∧ h 91 (16 + 4 * j + i) = wE B tn tl d 1 i j
theorem KP_91 {g : Hp} {i j : Nat} {a b : Int32} : KP g (hup (hup g 91 i a) 91 j b) := ⟨fun q hq => by
  have hq9 : q ≠ 91 := by unfold kp at hq; omega
  rw [hup_ne hq9, hup_ne hq9], fun k _ => by rw [hup_ne (by decide), hup_ne (by decide)]⟩
theorem e_tix {s a b : Nat} {p0 p1 p2 : Int32} {h : Hp} (e0 : p0 = nI s) (e1 : p1 = nI a) (e2 : p2 = nI b) (Q : Int32 → Prop) : w_X8_takingsIndex p0 p1 p2 h Q = Q (nI ((s * 4 + a) * 4 + b)) := by
  unfold w_X8_takingsIndex
  rw [e0, e1, e2, q4, pk_mul, nI_add, pk_mul, nI_add]
theorem s_twoLaws (hR : RA h B tn tl r) {p1 z1 : Int32} {q2 q3 : Nat} (d i j : Nat) (hd : d < 30) (e1 : p1 = nI d) (ez : z1 = nI (2 ^ B.1 0 - 1)) (l2 : lawQ q2) (l3 : lawQ q3) (c2 : LC q2 h (rowsOf tn tl i)) (c3 : LC q3 h (rowsOf tn tl j)) (Q : Hp → Prop) (hQ : ∀ h', KP h h' → h' 91 = h 91 → h' 52 0 = wE B tn tl d 0 i j → h' 52 1 = wE B tn tl d 1 i j → Q h') : w_X8_planFor z1 p1 1 q2 q3 h Q := by
  have w0 := hR.1.2.2.1
  have hb8 := all_lt w0
  refine s_planFor hR.1 l2 l3 c2 c3 (2 ^ B.1 0 - 1) d true ez e1 (by simp [i10]) hb8 hd _ (fun h3 f3 hP => ?_)
  have okk := dayP_ok hR.1.2.2 (rowsOf tn tl i) (rowsOf tn tl j) hb8 d true (pen := 1000000) (by decide) (by decide)
  have hpos := dayP_pos B (rowsOf tn tl i) (rowsOf tn tl j) (2 ^ B.1 0 - 1) d true 1000000
  obtain ⟨c1, cc, c3, c4, c5, c6, c7, c8, c9, c10⟩ := hP
  obtain ⟨s1, s2, s3⟩ := sums_pen (B := B) okk hpos (p := 1048576) (p' := 1000000) (by decide) (by decide) _ (Nat.le_refl _)
  have l2' := l2
  have l3' := l3
  unfold lawQ at l2' l3'
  exact hQ h3 (KP_f57 l2 l3 f3) (f3 91 (by omega) (by omega) (by omega) (by omega) (by omega)) (c3.trans (congrArg zI (s2 0))) (c4.trans (congrArg zI (s2 1)))
theorem s_reckon (hR : RA h B tn tl r) {p1 : Int32} (d : Nat) (hd : d < 30) (e1 : p1 = nI d) (Q : Hp → Prop) (hQ : ∀ h', KP h h' → TB B tn tl d h' (fun _ _ => True) → Q h') : w_X8_reckonTakings p1 h Q := by
  have t4 := hR.2.2.1.1
  unfold w_X8_reckonTakings w_X8_reckonTakings_b2
  refine wl_run tn (fun n (st : Int32 × Hp) => st.1 = nI n ∧ KP h st.2 ∧ TB B tn tl d st.2 (fun i _ => i < n)) ?_ (Nat.zero_le _) ⟨rfl, KP.rf, fun i j _ _ hs => absurd hs (by omega)⟩
  rintro n ⟨v2, g⟩ K2 hn ⟨e2, kg, tbg⟩ hK2
  simp only at e2 kg tbg
  subst e2
  show w_X8_reckonTakings_l2 p1 Q K2 (nI n) g
  unfold w_X8_reckonTakings_l2
  have c2 := (kg.RA hR).2.2.1.2.1
  rw [c2]
  refine ⟨fun z => ?_, fun z => ?_⟩
  · have : n = tn := by
      have := (nI_leI (by omega) (by omega)).mp z
      omega
    subst this
    exact hQ g kg (fun i j hi hj _ => tbg i j hi hj hi)
  have hn1 : n < tn := Nat.lt_of_not_le fun q => z ((nI_leI (by omega) (by omega)).mpr q)
  unfold w_X8_reckonTakings_b12
  refine wl_run tn (fun m (st : Int32 × Hp) => st.1 = nI m ∧ KP h st.2 ∧ TB B tn tl d st.2 (fun i j => i < n ∨ (i = n ∧ j < m))) ?_ (Nat.zero_le _) ⟨rfl, kg, fun i j hi hj hs => tbg i j hi hj (by omega)⟩
  rintro m ⟨v3, u⟩ K12 hm ⟨e3, ku, tbu⟩ hK12
  simp only at e3 ku tbu
  subst e3
  show w_X8_reckonTakings_l12 p1 (nI n) K2 Q K12 (nI m) u
  unfold w_X8_reckonTakings_l12
  have a := ku.RA hR
  rw [a.2.2.1.2.1]
  refine ⟨fun z => ?_, fun z => ?_⟩
  · have : m = tn := by
      have := (nI_leI (by omega) (by omega)).mp z
      omega
    subst this
    rw [nI_1]
    exact hK2 hn1 _ ⟨rfl, ku, fun i j hi hj hs => tbu i j hi hj (by omega)⟩
  have hm1 : m < tn := Nat.lt_of_not_le fun q => z ((nI_leI (by omega) (by omega)).mpr q)
  rw [e_everybody a.1]
  refine s_lawAt a n rfl (by omega) _ (fun q2 l2 c2 => ?_)
  refine s_lawAt a m rfl (by omega) _ (fun q3 l3 c3 => ?_)
  refine s_twoLaws a d n m hd e1 rfl l2 l3 c2 c3 _ (fun u2 k2 f91 x0 x1 => ?_)
  unfold w_X2_earnedAt
  rw [e_tix (s := 0) (a := n) (b := m) q0 rfl rfl, e_at (by decide), q0, rd_n (by decide) (by decide), x0]
  try dsimp only
  rw [e_put (by decide), wr_n (by omega) (by decide)]
  try dsimp only
  rw [e_tix (s := 1) (a := m) (b := n) q1 rfl rfl, e_at (by decide), q1, rd_n (by decide) (by decide), hup_ne (by decide), x1]
  try dsimp only
  rw [e_put (by decide), wr_n (by omega) (by decide), nI_add]
  refine hK12 hm1 _ ⟨rfl, ku.tr (k2.tr KP_91), fun i j hi hj hs => ?_⟩
  · show hup (hup u2 91 ((0 * 4 + n) * 4 + m) (wE B tn tl d 0 n m)) 91 ((1 * 4 + m) * 4 + n) (wE B tn tl d 1 n m) 91 (4 * i + j) = _ ∧ hup (hup u2 91 ((0 * 4 + n) * 4 + m) (wE B tn tl d 0 n m)) 91 ((1 * 4 + m) * 4 + n) (wE B tn tl d 1 n m) 91 (16 + 4 * j + i) = _
    by_cases c : i = n ∧ j = m
    · obtain ⟨rfl, rfl⟩ := c
      refine ⟨?_, ?_⟩
      · rw [hup_o (Or.inr (by omega)), show 4 * i + j = (0 * 4 + i) * 4 + j by omega, hup_eq]
      · rw [show 16 + 4 * j + i = (1 * 4 + j) * 4 + i by omega, hup_eq]
    · have hs2 : i < n ∨ (i = n ∧ j < m + 1) := hs
      obtain ⟨y0, y1⟩ := tbu i j hi hj (by omega)
      refine ⟨?_, ?_⟩
      · rw [hup_o (Or.inr (by omega)), hup_o (Or.inr (by omega)), f91]; exact y0
      · rw [hup_o (Or.inr (by omega)), hup_o (Or.inr (by omega)), f91]; exact y1
theorem s_bestReply (hR : RA h B tn tl r) {p1 p2 : Int32} (d s o : Nat) (hs : s < 2) (ho : o < tn) (e1 : p1 = nI s) (e2 : p2 = nI o) (ht : TB B tn tl d h (fun _ _ => True)) (Q : Int32 → Prop) (hQ : Q (nI (bl (wT B tn tl d s o) tn))) : w_X8_bestReply p1 p2 h Q := by
  have t4 := hR.2.2.1.1
  have c2 := hR.2.2.1.2.1
  have val : ∀ v, v < tn → h 91 ((s * 4 + v) * 4 + o) = wT B tn tl d s o v := by
    intro v hv
    unfold wT
    by_cases c : s = 0
    · rw [if_pos c, ← (ht v o hv ho trivial).1, c]
      congr 1
      omega
    · rw [if_neg c, ← (ht o v ho hv trivial).2, show s = 1 by omega]
      congr 1
      omega
  unfold w_X8_bestReply w_X8_bestReply_b5
  refine wl_run (tn - 1) (fun n (st : Int32 × Int32) => st.2 = nI (n + 1) ∧ st.1 = nI (bl (wT B tn tl d s o) (n + 1))) ?_ (Nat.zero_le _) ⟨rfl, by rw [bl_s, if_pos (Or.inl rfl)]; rfl⟩
  rintro n ⟨v3, v4⟩ K5 hn ⟨e4, e3⟩ hK5
  simp only at e3 e4
  subst e3 e4
  show w_X8_bestReply_l5 p1 p2 h Q K5 _ (nI (n + 1))
  unfold w_X8_bestReply_l5 w_X8_bestReply_b47
  rw [c2]
  refine ⟨fun z => ?_, fun z => ?_⟩
  · have : n + 1 = tn := by
      have := (nI_leI (by omega) (by omega)).mp z
      omega
    rw [this]
    exact hQ
  have hn1 : n + 1 < tn := Nat.lt_of_not_le fun q => z ((nI_leI (by omega) (by omega)).mpr q)
  have hbl := bl_lt (wT B tn tl d s o) (n + 1) (by omega)
  rw [e_tix e1 rfl e2, e_at (by decide), rd_n (by omega) (by decide), val _ hn1, e_tix e1 rfl e2, e_at (by decide), rd_n (by omega) (by decide), val _ (by omega), nI_1]
  refine ⟨fun c => hK5 (by omega) _ ⟨rfl, ?_⟩, fun c => hK5 (by omega) _ ⟨rfl, ?_⟩⟩
  · show nI (bl (wT B tn tl d s o) (n + 1)) = nI (bl (wT B tn tl d s o) (n + 1 + 1))
    rw [bl_s _ (n + 1), if_neg]
    rintro (q | q)
    · omega
    · exact (lt_le32 _ _).mp q c
  · show nI (n + 1) = nI (bl (wT B tn tl d s o) (n + 1 + 1))
    rw [bl_s _ (n + 1), if_pos (Or.inr ((lt_le32 _ _).mpr c))]
end F14
