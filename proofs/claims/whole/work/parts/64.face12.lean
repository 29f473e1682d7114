/-! image and restore -/
section F18
variable {h : Hp} {B : Br} {tn : Nat} {tl : Nat → List Row} {r : Rc} {K : Hp → Prop}
theorem RA.rx {h h' : Hp} {B : Br} {tn : Nat} {tl : Nat → List Row} {r r' : Rc} (hR : RA h B tn tl r) (e : ∀ q, kp q → q ≠ 0 → ¬ (62 ≤ q ∧ q ≤ 90) → ¬ (141 ≤ q ∧ q ≤ 218) → h' q = h q) (e0 : h' 0 14 = h 0 14) (e92 : ∀ i, (i = 1 ∨ i = 3 ∨ i = 18 ∨ i = 48) → h' 92 i = h 92 i) (hr : RC h' tn r') (hi : RI h' tn) : RA h' B tn tl r' := by
  obtain ⟨c1, c2, ⟨l1, l2, l3, l4, l5, l6⟩, ⟨tp, t1, t2, t3, t4, t5⟩, _, _⟩ := hR
  have k : ∀ q, ((1 ≤ q ∧ q ≤ 15) ∨ q = 18 ∨ q = 19 ∨ q = 22 ∨ q = 23 ∨ q = 26 ∨ q = 27 ∨ q = 34 ∨ (93 ≤ q ∧ q ≤ 138)) → h' q = h q := fun q hq => e q (by unfold kp; omega) (by omega) (by omega) (by omega)
  refine ⟨c1.same (k 3 (by omega)) (k 4 (by omega)) (k 5 (by omega)) (k 6 (by omega)) (k 7 (by omega)), c2.same (k 95 (by omega)) (k 97 (by omega)) (k 99 (by omega)) (fun i hi => k _ (by omega)), ⟨l1, e0.trans l2, (e92 18 (by decide)).trans l3, fun t ht => ⟨(l4 t ht).1.same ?_ (k _ (by omega)), (l4 t ht).2.same (fun q hq => k q (by omega))⟩, ?_, (e92 48 (by decide)).trans l6⟩, ⟨tp, t1, ?_, (e92 1 (by decide)).trans t3, ?_, ?_⟩, hr, hi⟩
  · rw [k (14 + 4 * t) (by omega)]
  · rw [k 34 (by omega)]; exact l5
  · rw [k 1 (by omega)]; exact t2
  · rw [k 2 (by omega), k 93 (by omega)]; exact t4
  · rw [k 1 (by omega), e92 3 (by decide)]; exact t5
def IS (h0 : Hp) (j c : Nat) (h : Hp) : Prop := h 92 36 = nI c ∧ (∀ i, i < c → h (216 + j) i = h0 (cellP i) (cellI i)) ∧ (∀ q i, q ≠ 216 + j → ¬ (q = 92 ∧ i = 36) → h q i = h0 q i)
def RS (h0 : Hp) (j c : Nat) (h : Hp) : Prop := h 92 36 = nI c ∧ (∀ i, i < c → h (cellP i) (cellI i) = h0 (216 + j) i) ∧ (∀ q i, (∀ k, k < c → ¬ (q = cellP k ∧ i = cellI k)) → ¬ (q = 92 ∧ i = 36) → h q i = h0 q i)
theorem IS_step {h0 : Hp} {j : Nat} (hj : j < 3) : ∀ c g, c < 174 → IS h0 j c g → ∀ (Q : Int32 → Hp → Prop), (∀ z g', IS h0 j (c + 1) (hup g' (cellP c) (cellI c) z) → Q z g') → w_X9_moves (216 + j) 200 (g (cellP c) (cellI c)) 0 g Q := by
  rintro c g hc ⟨a1, a2, a3⟩ Q hQ
  obtain ⟨n1, n2, n3, n4, n5, n6, n7, n8⟩ := cell_ne c hc
  have hp : cellP c ≠ 216 + j := by omega
  have hv : g (cellP c) (cellI c) = h0 (cellP c) (cellI c) := a3 _ _ hp (fun q => by have := n4 q.1; omega)
  refine s_moves hj hc a1 _ (fun _ => hQ _ _ ⟨?_, fun i hi => ?_, fun q i hq hi => ?_⟩) (fun z => absurd rfl z)
  · rw [hup_o (by by_cases e : cellP c = 92; right; have := n4 e; omega; left; omega), hup_eq]
  · rw [hup_ne (by omega), hup_ne (by omega), hup_at]
    by_cases e : i = c
    · rw [if_pos ⟨rfl, e⟩, e, hv]
    · rw [if_neg (fun z => e z.2)]
      exact a2 i (by omega)
  · by_cases e : q = cellP c ∧ i = cellI c
    · rw [e.1, e.2, hup_eq, hv]
    · rw [hup_o (by omega), hup_o (by omega), hup_ne hq]
      exact a3 q i hq hi
theorem RS_step {h0 : Hp} {j : Nat} (hj : j < 3) : ∀ c g, c < 174 → RS h0 j c g → ∀ (Q : Int32 → Hp → Prop), (∀ z g', RS h0 j (c + 1) (hup g' (cellP c) (cellI c) z) → Q z g') → w_X9_moves (216 + j) 200 (g (cellP c) (cellI c)) 1 g Q := by
  rintro c g hc ⟨a1, a2, a3⟩ Q hQ
  obtain ⟨n1, n2, n3, n4, n5, n6, n7, n8⟩ := cell_ne c hc
  have hv : g (216 + j) c = h0 (216 + j) c := a3 _ _ (fun k hk => by
    obtain ⟨k1, k2, k3, _⟩ := cell_ne k (by omega)
    omega) (by omega)
  refine s_moves hj hc a1 _ (fun z => absurd z i10) (fun _ => hQ _ _ ⟨?_, fun i hi => ?_, fun q i hq hi => ?_⟩)
  · rw [hup_o (by by_cases e : cellP c = 92; right; have := n4 e; omega; left; omega), hup_eq]
  · by_cases e : i = c
    · rw [e, hup_eq, hv]
    · have d : ¬ (cellP i = cellP c ∧ cellI i = cellI c) := fun z => by
        have x1 := cell_N i (by omega)
        have x2 := cell_N c hc
        rw [z.1, z.2] at x1
        omega
      have m4 := (cell_ne i (by omega)).2.2.2.1
      rw [hup_o (by omega), hup_o (by by_cases e : cellP i = 92; right; have := m4 e; omega; left; omega)]
      exact a2 i (by omega)
  · have e := hq c (by omega)
    rw [hup_o (by omega), hup_o (by omega)]
    exact a3 q i (fun k hk => hq k (by omega)) hi
theorem cell_0 : cellP 0 = 141 ∧ cellI 0 = 0 ∧ cellP 1 = 141 ∧ cellI 1 = 1 ∧ cellP 2 = 92 ∧ cellI 2 = 30 ∧ cellP 3 = 92 ∧ cellI 3 = 31 := by decide
theorem cell_d {d : Nat} (hd : d < 30) : cellP (4 + d) = 142 ∧ cellI (4 + d) = d := by
  unfold cellP cellI
  rw [if_neg (by omega), if_neg (by omega), if_pos (by omega), if_neg (by omega), if_neg (by omega), if_pos (by omega)]
  omega
theorem cell_k {k i : Nat} (hk : k < 60) (hi : i < 2) : cellP (34 + 2 * k + i) = 144 + k ∧ cellI (34 + 2 * k + i) = i := by
  unfold cellP cellI
  rw [if_neg (by omega), if_neg (by omega), if_neg (by omega), if_pos (by omega), if_neg (by omega), if_neg (by omega), if_neg (by omega), if_pos (by omega)]
  omega
theorem cell_l {k i : Nat} (hk : k < 10) (hi : i < 2) : cellP (154 + 2 * k + i) = 205 + k ∧ cellI (154 + 2 * k + i) = i := by
  unfold cellP cellI
  rw [if_neg (by omega), if_neg (by omega), if_neg (by omega), if_neg (by omega), if_neg (by omega), if_neg (by omega), if_neg (by omega), if_neg (by omega)]
  omega
/-- records in both forms, cell by cell -/
theorem KM {b : Nat} {h h' : Hp} {r : Rc} (ho : r.1.2.2.1 ≤ 60 ∧ r.1.2.2.2 ≤ 10) (e : ∀ i, i < 174 → h b i = h' (cellP i) (cellI i)) : KRec b h r ↔ MRec h' r := by
  obtain ⟨u1, u2, u3, u4, u5, u6, u7, u8⟩ := cell_0
  have e0 := e 0 (by decide)
  have e1 := e 1 (by decide)
  have e2 := e 2 (by decide)
  have e3 := e 3 (by decide)
  rw [u1, u2] at e0
  rw [u3, u4] at e1
  rw [u5, u6] at e2
  rw [u7, u8] at e3
  have ed : ∀ d, d < 30 → h b (4 + d) = h' 142 d := fun d hd => by
    have := e (4 + d) (by omega)
    rw [(cell_d hd).1, (cell_d hd).2] at this
    exact this
  have ek : ∀ k i, k < 60 → i < 2 → h b (34 + 2 * k + i) = h' (144 + k) i := fun k i hk hi => by
    have := e (34 + 2 * k + i) (by omega)
    rw [(cell_k hk hi).1, (cell_k hk hi).2] at this
    exact this
  have el : ∀ k i, k < 10 → i < 2 → h b (154 + 2 * k + i) = h' (205 + k) i := fun k i hk hi => by
    have := e (154 + 2 * k + i) (by omega)
    rw [(cell_l hk hi).1, (cell_l hk hi).2] at this
    exact this
  unfold KRec MRec
  rw [e0, e1, e2, e3]
  refine ⟨fun ⟨a1, a2, a3, a4, a5, a6, a7⟩ => ⟨a1, a2, a3, a4, fun k hk => ?_, fun d hd => ?_, fun i hi => ?_⟩, fun ⟨a1, a2, a3, a4, a5, a6, a7⟩ => ⟨a1, a2, a3, a4, fun k hk => ?_, fun d hd => ?_, fun i hi => ?_⟩⟩
  · rw [← ek k 0 (by omega) (by decide), ← ek k 1 (by omega) (by decide)]; exact a5 k hk
  · rw [← ed d hd]; exact a6 d hd
  · rw [← el i 0 (by omega) (by decide), ← el i 1 (by omega) (by decide)]; exact a7 i hi
  · have := a5 k hk
    rw [← ek k 0 (by omega) (by decide), ← ek k 1 (by omega) (by decide)] at this; exact this
  · rw [ed d hd]; exact a6 d hd
  · have := a7 i hi
    rw [← el i 0 (by omega) (by decide), ← el i 1 (by omega) (by decide)] at this; exact this
theorem rec_j {j : Nat} (hj : j < 3) : isRec (70 + 7 * j) := by
  unfold isRec
  omega
theorem cs31 (hR : RA h B tn tl r) (hK : ∀ h', RR h' → K h') : w_X8_image h (fun v1 h1 => w_X9_image h1 (fun v2 h2 => v1 = v2 ∧ K h2)) := by
  obtain ⟨ic, i1, i2, i3, i4⟩ := hR.2.2.2.2.2
  obtain ⟨o, hc, hm⟩ := hR.2.2.2.2.1
  unfold w_X8_image w_X8_keptAt
  rw [i2]
  refine wif_n (nI_pos (by omega)) ⟨fun z => ?_, fun z => ⟨vp_in_nI ?_ (by decide), ?_⟩⟩
  · have e : ic = 3 := by
      rw [q3] at z
      have := (nI_leI (by omega) (by omega)).mp z
      omega
    subst e
    unfold w_X9_image
    try dsimp only
    rw [wlet_e, hup_o (Or.inr (by decide)), i3]
    exact wif_n (not_not_intro rfl) ⟨rfl, hK _ (KP.RR KP.thr hR.rr)⟩
  · exact Nat.lt_of_not_le fun q => z (by rw [q3]; exact (nI_leI (by omega) (by omega)).mpr q)
  have hic : ic < 3 := Nat.lt_of_not_le fun q => z (by rw [q3]; exact (nI_leI (by omega) (by omega)).mpr q)
  try dsimp only
  rw [nI_clamp (by omega)]
  refine s_copy3 (rec_j hic) (show isRec 62 from Or.inl rfl) (by omega) ⟨o.2.2.1, o.2.2.2.1⟩ hc _ (fun g fg gc => ?_)
  rw [wlet_e, fg 0 (by omega), i2, nI_1, hup_eq]
  generalize hg2 : hup g 0 15 (nI (ic + 1)) = g2
  have f2 : ∀ q, q ≠ 0 → (q < 70 + 7 * ic ∨ 70 + 7 * ic + 6 < q) → g2 q = h q := fun q x1 x2 => by rw [← hg2, hup_ne x1, fg q x2]
  have f20 : ∀ i, i ≠ 15 → g2 0 i = h 0 i := fun i hi => by rw [← hg2, hup_o (Or.inr hi), fg 0 (by omega)]
  have gc2 : CRec (70 + 7 * ic) g2 r := gc.same (fun q x1 x2 => by rw [← hg2, hup_ne (by omega)])
  unfold w_X9_image
  try dsimp only
  rw [wlet_e, hup_o (show (92 : Nat) ≠ 92 ∨ (32 : Nat) ≠ 0 from Or.inr (by decide)), f2 92 (by omega) (by omega), i3]
  refine wif_p (fun q => by have := (nI_eq (b := 3) (by omega) (by decide)).mp q; omega) ⟨vp_in_nI hic (by decide), ?_⟩
  rw [nI_clamp (by omega), Nat.one_mul]
  refine s_movesAll (J := IS (hup (hup g2 92 0 0) 92 36 0) ic) ⟨hup_eq _ _ _ _, fun i hi => absurd hi (by omega), fun _ _ _ _ => rfl⟩ (IS_step hic) _ (fun u ⟨u1, u2, u3⟩ => ?_)
  have e32 : u 92 32 = nI ic := by rw [u3 92 32 (by omega) (by omega), hup_o (Or.inr (by decide)), hup_o (Or.inr (by decide)), f2 92 (by omega) (by omega), i3]
  rw [wlet_e, e32, nI_1, hup_eq]
  refine ⟨rfl, hK _ ?_⟩
  have w : ∀ q, q ≠ 0 → q ≠ 92 → q ≠ 216 + ic → (q < 70 + 7 * ic ∨ 70 + 7 * ic + 6 < q) → hup u 92 32 (nI (ic + 1)) q = h q := fun q x1 x2 x3 x4 => by
    funext i
    rw [hup_ne x2, u3 q i x3 (fun z => x2 z.1), hup_ne x2, hup_ne x2, f2 q x1 x4]
  have w92 : ∀ i, i ≠ 0 → i ≠ 32 → i ≠ 36 → hup u 92 32 (nI (ic + 1)) 92 i = h 92 i := fun i x1 x2 x3 => by
    rw [hup_o (Or.inr x2), u3 92 i (by omega) (by omega), hup_o (Or.inr x3), hup_o (Or.inr x1), f2 92 (by omega) (by omega)]
  have hm2 : MRec (hup u 92 32 (nI (ic + 1))) r := hm.same ⟨o.2.2.1, o.2.2.2.1⟩ (w92 30 (by decide) (by decide) (by decide)) (w92 31 (by decide) (by decide) (by decide)) (fun q x1 x2 => w q (by omega) (by omega) (by omega) (by omega))
  refine RA.rr (RA.rx (r' := r) hR (fun q x1 x2 x3 x4 => w q x2 (by unfold kp at x1; omega) (by omega) (by omega)) ?_ (fun i hi => w92 i (by omega) (by omega) (by omega)) ⟨o, hc.same (fun q x1 x2 => w q (by omega) (by omega) (by omega) (by omega)), hm2⟩ ⟨ic + 1, by omega, ?_, hup_eq _ _ _ _, fun j hj => ?_⟩)
  · rw [hup_ne (by decide), u3 0 14 (by omega) (by omega), hup_ne (by decide), hup_ne (by decide), f20 14 (by decide)]
  · rw [hup_ne (by decide), u3 0 15 (by omega) (by omega), hup_ne (by decide), hup_ne (by decide), ← hg2, hup_eq]
  · by_cases e : j = ic
    · subst e
      refine ⟨r, o, gc2.same (fun q x1 x2 => ?_), ?_⟩
      · funext i
        rw [hup_ne (by omega), u3 q i (by omega) (by omega), hup_ne (by omega), hup_ne (by omega)]
      · refine (KM (h' := hup u 92 32 (nI (j + 1))) ⟨o.2.2.1, o.2.2.2.1⟩ (fun i hi => ?_)).mpr hm2
        obtain ⟨n1, n2, n3, n4, n5, n6, n7, n8⟩ := cell_ne i hi
        have d : cellP i ≠ 92 ∨ cellI i ≠ 32 := by
          by_cases q : cellP i = 92
          · have := n4 q
            omega
          · exact Or.inl q
        rw [hup_ne (by omega), u2 i hi, hup_o (p := 92) (i := 32) d, u3 (cellP i) (cellI i) (by omega) (fun q => by have := n4 q.1; omega)]
    · obtain ⟨r2, x1, x2, x3⟩ := i4 j (by omega)
      exact ⟨r2, x1, x2.same (fun q y1 y2 => w q (by omega) (by omega) (by omega) (by omega)), x3.same (w _ (by omega) (by omega) (by omega) (by omega))⟩
theorem cs32 (hR : RA h B tn tl r) (hK : ∀ h', RR h' → K h') : w_X8_restore h (fun v1 h1 => w_X9_restore h1 (fun v2 h2 => v1 = v2 ∧ K h2)) := by
  obtain ⟨ic, i1, i2, i3, i4⟩ := hR.2.2.2.2.2
  unfold w_X8_restore w_X8_keptAt
  rw [i2]
  by_cases c0 : ic = 0
  · subst c0
    refine wif_p (by decide) ?_
    unfold w_X9_restore
    try dsimp only
    rw [wlet_e, hup_o (Or.inr (by decide)), i3]
    exact wif_n (not_not_intro rfl) ⟨rfl, hK _ (KP.RR KP.thr hR.rr)⟩
  obtain ⟨m, rfl⟩ : ∃ m, ic = m + 1 := ⟨ic - 1, by omega⟩
  rw [nI_pred]
  refine wif_n (nI_pos (by omega)) (wif_n (by rw [q3]; exact fun q => by have := (nI_leI (by omega) (by omega)).mp q; omega) ⟨vp_in_nI (by omega) (by decide), ?_⟩)
  have hic : m < 3 := by omega
  obtain ⟨r2, o, hc, hk⟩ := i4 m (by omega)
  try dsimp only
  rw [nI_clamp (by omega)]
  refine s_copy3 (show isRec 62 from Or.inl rfl) (rec_j hic) (by omega) ⟨o.2.2.1, o.2.2.2.1⟩ hc _ (fun g fg gc => ?_)
  rw [wlet_e, fg 0 (by omega), i2, nI_pred, hup_eq]
  generalize hg2 : hup g 0 15 (nI m) = g2
  have f2 : ∀ q, q ≠ 0 → (q < 62 ∨ 68 < q) → g2 q = h q := fun q x1 x2 => by rw [← hg2, hup_ne x1, fg q (by omega)]
  have f20 : ∀ i, i ≠ 15 → g2 0 i = h 0 i := fun i hi => by rw [← hg2, hup_o (Or.inr hi), fg 0 (by omega)]
  have gc2 : CRec 62 g2 r2 := gc.same (fun q x1 x2 => by rw [← hg2, hup_ne (by omega)])
  unfold w_X9_restore
  try dsimp only
  rw [wlet_e, hup_o (show (92 : Nat) ≠ 92 ∨ (32 : Nat) ≠ 0 from Or.inr (by decide)), f2 92 (by omega) (by omega), i3]
  refine wif_p (fun q => by have := (nI_eq (b := 0) (by omega) (by decide)).mp q; omega) ?_
  rw [wlet_e, hup_eq, nI_pred]
  refine ⟨vp_in_nI hic (by decide), ?_⟩
  rw [nI_clamp (by omega), Nat.one_mul]
  refine s_movesAll (J := RS (hup (hup (hup g2 92 0 0) 92 32 (nI m)) 92 36 0) m) ⟨hup_eq _ _ _ _, fun i hi => absurd hi (by omega), fun _ _ _ _ => rfl⟩ (RS_step hic) _ (fun u ⟨u1, u2, u3⟩ => ?_)
  have off : ∀ q i, (q < 92 ∨ (92 < q ∧ q < 141) ∨ 214 < q ∨ (q = 92 ∧ i ≠ 30 ∧ i ≠ 31)) → ∀ k, k < 174 → ¬ (q = cellP k ∧ i = cellI k) := fun q i hq k hk z => by
    obtain ⟨n1, n2, n3, n4, n5, n6, n7, n8⟩ := cell_ne k hk
    by_cases e : cellP k = 92
    · have := n4 e
      omega
    · have : cellP k < 92 ∨ (92 < cellP k ∧ cellP k < 141) ∨ 214 < cellP k := by omega
      unfold cellP at this
      split at this
      · omega
      · split at this
        · omega
        · split at this
          · omega
          · split at this <;> omega
  have e32 : u 92 32 = nI m := by rw [u3 92 32 (off _ _ (by omega)) (by omega), hup_o (Or.inr (by decide)), hup_eq]
  rw [e32]
  refine ⟨rfl, hK _ ?_⟩
  have w : ∀ q, q ≠ 0 → (q < 62 ∨ (68 < q ∧ q < 92) ∨ (92 < q ∧ q < 141) ∨ 214 < q) → u q = h q := fun q x1 x2 => by
    funext i
    rw [u3 q i (off _ _ (by omega)) (by omega), hup_ne (by omega), hup_ne (by omega), hup_ne (by omega), f2 q x1 (by omega)]
  have w62 : ∀ q, 62 ≤ q → q ≤ 68 → u q = g2 q := fun q x1 x2 => by
    funext i
    rw [u3 q i (off _ _ (by omega)) (by omega), hup_ne (by omega), hup_ne (by omega), hup_ne (by omega)]
  have w92 : ∀ i, i ≠ 0 → i ≠ 32 → i ≠ 36 → i ≠ 30 → i ≠ 31 → u 92 i = h 92 i := fun i x1 x2 x3 x4 x5 => by
    rw [u3 92 i (off _ _ (by omega)) (by omega), hup_o (Or.inr x3), hup_o (Or.inr x2), hup_o (Or.inr x1), f2 92 (by omega) (by omega)]
  have hm2 : MRec u r2 := (KM (b := 216 + m) (h := h) ⟨o.2.2.1, o.2.2.2.1⟩ (fun i hi => by
    rw [u2 i hi, hup_ne (by omega), hup_ne (by omega), hup_ne (by omega), f2 _ (by omega) (by omega)])).mp hk
  refine RA.rr (RA.rx (r' := r2) hR (fun q x1 x2 x3 x4 => w q x2 (by unfold kp at x1; omega)) ?_ (fun i hi => w92 i (by omega) (by omega) (by omega) (by omega) (by omega)) ⟨o, gc2.same (fun q x1 x2 => w62 q x1 x2), hm2⟩ ⟨m, by omega, ?_, e32, fun j hj => ?_⟩)
  · rw [u3 0 14 (off _ _ (by omega)) (by omega), hup_ne (by decide), hup_ne (by decide), hup_ne (by decide), f20 14 (by decide)]
  · rw [u3 0 15 (off _ _ (by omega)) (by omega), hup_ne (by decide), hup_ne (by decide), hup_ne (by decide), ← hg2, hup_eq]
  · obtain ⟨r3, x1, x2, x3⟩ := i4 j (by omega)
    exact ⟨r3, x1, x2.same (fun q y1 y2 => w q (by omega) (by omega)), x3.same (w _ (by omega) (by omega))⟩
end F18
