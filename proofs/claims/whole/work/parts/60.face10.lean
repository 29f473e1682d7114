/-! the war, by the model; the call -/
section F15
variable {h : Hp} {B : Br} {tn : Nat} {tl : Nat → List Row} {r : Rc} {K : Hp → Prop}
def mW (m0 g : Hp) (i j : Nat) : Prop := (∀ q, q ≠ 139 → q ≠ 140 → q ≠ 92 → q ≠ 141 → (q < 220 ∨ 1425 < q) → g q = m0 q) ∧ (∀ i, (i < 42 ∨ 46 < i) → g 92 i = m0 92 i) ∧ g 141 0 = nI i ∧ g 141 1 = nI j ∧ (∀ k, 2 ≤ k → g 141 k = m0 141 k)
theorem mW.mF {m0 g g' : Hp} {i j : Nat} (a : mW m0 g i j) (b : mF g g') : mW m0 g' i j := by
  obtain ⟨a1, a2, a3, a4, a5⟩ := a
  have e := b.1 141 (by decide) (by decide) (by decide) (by decide)
  exact ⟨fun q x1 x2 x3 x4 x5 => (b.1 q x1 x2 x3 x5).trans (a1 q x1 x2 x3 x4 x5), fun i hi => (b.2 i hi).trans (a2 i hi), by rw [e]; exact a3, by rw [e]; exact a4, by rw [e]; exact a5⟩
theorem mW.set0 {m0 g : Hp} {i j n : Nat} (a : mW m0 g i j) : mW m0 (hup g 141 0 (nI n)) n j := by
  obtain ⟨a1, a2, a3, a4, a5⟩ := a
  exact ⟨fun q x1 x2 x3 x4 x5 => by rw [hup_ne x4]; exact a1 q x1 x2 x3 x4 x5, fun i hi => by rw [hup_ne (by decide)]; exact a2 i hi, hup_eq _ _ _ _, by rw [hup_o (Or.inr (by decide))]; exact a4, fun k hk => by rw [hup_o (Or.inr (by omega))]; exact a5 k hk⟩
theorem mW.set1 {m0 g : Hp} {i j n : Nat} (a : mW m0 g i j) : mW m0 (hup g 141 1 (nI n)) i n := by
  obtain ⟨a1, a2, a3, a4, a5⟩ := a
  exact ⟨fun q x1 x2 x3 x4 x5 => by rw [hup_ne x4]; exact a1 q x1 x2 x3 x4 x5, fun i hi => by rw [hup_ne (by decide)]; exact a2 i hi, by rw [hup_o (Or.inr (by decide))]; exact a3, hup_eq _ _ _ _, fun k hk => by rw [hup_o (Or.inr (by omega))]; exact a5 k hk⟩
theorem mW.MB {m0 g : Hp} {i j : Nat} (a : mW m0 g i j) (c : MB m0 B) : MB g B := c.same (a.1 95 (by decide) (by decide) (by decide) (by decide) (by decide)) (a.1 97 (by decide) (by decide) (by decide) (by decide) (by decide)) (a.1 99 (by decide) (by decide) (by decide) (by decide) (by decide)) (fun k hk => a.1 _ (by omega) (by omega) (by omega) (by omega) (by omega))
theorem mW.MT2 {m0 g : Hp} {i j : Nat} (hR : RA m0 B tn tl r) (hi : i < tn) (hj : j < tn) (a : mW m0 g i j) : MT2 g B (rowsOf tn tl i) (rowsOf tn tl j) true := by
  obtain ⟨c1, c2, c3, c4, _, c6⟩ := hR.2.2.1
  have mr : ∀ t, t < tn → MR g t (rowsOf tn tl t) := fun t ht => by
    have m0r : MR m0 t (rowsOf tn tl t) := by
      refine Or.inl ⟨c6, tn, c1, c3, Or.inl ⟨ht, ?_⟩⟩
      unfold rowsOf
      rw [if_pos ht]
      exact (c4 t ht).2
    exact m0r.same ⟨a.2.1 48 (by decide), a.2.1 49 (by decide), a.2.1 18 (by decide)⟩ (fun q x1 x2 => a.1 q (by omega) (by omega) (by omega) (by omega) (by omega))
  exact ⟨i, j, by omega, by omega, a.2.2.1, a.2.2.2.1, mr i hi, fun _ => mr j hj⟩
theorem s_planW (hR : RA h B tn tl r) {g : Hp} {p1 : Int32} (d i j : Nat) (hd : d < 30) (e1 : p1 = nI d) (hi : i < tn) (hj : j < tn) (a : mW h g i j) (Q : Hp → Prop) (hQ : ∀ g', mW h g' i j → g' 1425 0 = wE B tn tl d 0 i j → g' 1425 1 = wE B tn tl d 1 i j → Q g') : w_X9_everybody g (fun z5 => w_X9_findPlan z5 p1 1 g Q) := by
  have w0 := hR.1.2.2.1
  have hb8 := all_lt w0
  have hB := mW.MB a hR.2.1
  rw [e_everybodyM hB]
  refine s_findPlan hB (2 ^ B.1 0 - 1) d true (mW.MT2 hR hi hj a) rfl e1 (by simp [i10]) (fun k hk => by rw [all_tb] at hk; exact of_decide_eq_true hk) hb8 hd _ (fun g' f' hM => ?_)
  obtain ⟨m1, m2, m3, m4, m5, m6, m7, m8⟩ := hM
  exact hQ g' (a.mF f') m2 m3
theorem s_answers (hR : RA h B tn tl r) {g : Hp} {p1 p2 : Int32} (d s i j : Nat) (hd : d < 30) (hs : s < 2) (e1 : p1 = nI s) (e2 : p2 = nI d) (hi : i < tn) (hj : j < tn) (a : mW h g i j) (Q : Int32 → Hp → Prop) (hQ : ∀ g', mW h g' i j → Q (nI (bl (wT B tn tl d s (if s = 0 then j else i)) tn)) g') : w_X9_answers p1 p2 g Q := by
  have t4 := hR.2.2.1.1
  have h0 : 0 < tn := by omega
  subst e1
  have vs : vp_in (nI s) 2 := vp_in_nI hs (by decide)
  unfold w_X9_answers
  refine ⟨vs, ?_⟩
  rw [nI_clamp (by omega), wlet_e]
  have hown : g 141 s = nI (if s = 0 then i else j) := by
    by_cases c : s = 0
    · rw [c, if_pos rfl]; exact a.2.2.1
    · rw [show s = 1 by omega, if_neg (by decide)]; exact a.2.2.2.1
  rw [hown]
  unfold w_X9_answers_b16
  -- the side's own toll may be any one in between
  refine wl_run tn (fun n (st : Int32 × Int32 × Int32 × Hp) => st.2.2.1 = nI n ∧ (n = 0 → st.1 = -1) ∧ (0 < n → st.1 = nI (bl (wT B tn tl d s (if s = 0 then j else i)) n) ∧ st.2.1 = wT B tn tl d s (if s = 0 then j else i) (bl (wT B tn tl d s (if s = 0 then j else i)) n)) ∧ ∃ o, o < tn ∧ mW h st.2.2.2 (if s = 0 then o else i) (if s = 0 then j else o)) ?_ (Nat.zero_le _) ⟨rfl, fun _ => rfl, fun z => absurd z (by omega), if s = 0 then i else j, by split <;> assumption, ?_⟩
  rotate_left
  · by_cases c : s = 0
    · rw [if_pos c, if_pos c]; simp only [c, if_true]; exact a
    · rw [if_neg c, if_neg c]; simp only [c, if_false]; exact a
  rintro n ⟨v4, v5, v6, u⟩ K16 hn ⟨e6, en, ep, o, ho, au⟩ hK16
  simp only at e6 en ep au
  subst e6
  show w_X9_answers_l16 (nI s) p2 _ Q K16 v4 v5 (nI n) u
  unfold w_X9_answers_l16
  have u18 : u 92 18 = nI tn := by
    rw [au.2.1 18 (by decide)]
    exact hR.2.2.1.2.2.1
  rw [u18, nI_clamp (by omega)]
  refine ⟨fun z => ⟨vs, ?_⟩, fun z => ⟨vs, ?_⟩⟩
  · have : n = tn := by
      have := (nI_leI (by omega) (by omega)).mp z
      omega
    subst this
    rw [wlet_e, (ep h0).1]
    refine hQ _ ?_
    by_cases c : s = 0
    · simp only [c, if_true] at au ⊢
      exact au.set0
    · have : s = 1 := by omega
      subst this
      simp only [show ¬ (1 : Nat) = 0 by decide, if_false] at au ⊢
      exact au.set1
  have hn1 : n < tn := Nat.lt_of_not_le fun q => z ((nI_leI (by omega) (by omega)).mpr q)
  rw [wlet_e]
  have av : mW h (hup u 141 s (nI n)) (if s = 0 then n else i) (if s = 0 then j else n) := by
    by_cases c : s = 0
    · simp only [c, if_true] at au ⊢
      exact au.set0
    · have : s = 1 := by omega
      subst this
      simp only [show ¬ (1 : Nat) = 0 by decide, if_false] at au ⊢
      exact au.set1
  refine s_planW hR d _ _ hd e2 (by split <;> assumption) (by split <;> assumption) av _ (fun g' a' x0 x1 => ?_)
  have xs : g' 1425 s = wT B tn tl d s (if s = 0 then j else i) n := by
    unfold wT
    by_cases c : s = 0
    · simp only [c, if_true] at x0 ⊢
      exact x0
    · have : s = 1 := by omega
      subst this
      simp only [show ¬ (1 : Nat) = 0 by decide, if_false] at x1 ⊢
      exact x1
  have take : (n = 0 ∨ wT B tn tl d s (if s = 0 then j else i) (bl (wT B tn tl d s (if s = 0 then j else i)) n) < wT B tn tl d s (if s = 0 then j else i) n) → w_X9_answers_b63 (nI s) p2 (nI (if s = 0 then i else j)) (nI n) K16 g' Q := by
    intro hc
    unfold w_X9_answers_b63 w_X9_answers_b75
    refine ⟨vs, ?_⟩
    rw [nI_clamp (by omega), wlet_e, xs, nI_1]
    have ebl : bl (wT B tn tl d s (if s = 0 then j else i)) (n + 1) = n := by rw [bl_s, if_pos hc]
    exact hK16 hn1 _ ⟨rfl, fun q => absurd q (by omega), fun _ => by rw [ebl]; exact ⟨rfl, rfl⟩, n, hn1, a'⟩
  by_cases n0 : n = 0
  · exact wif_p (en n0) (take (Or.inl n0))
  · obtain ⟨y1, y2⟩ := ep (by omega)
    have hbb := bl_b (wT B tn tl d s (if s = 0 then j else i)) n
    refine wif_n (by rw [y1]; exact nI_m1 (by omega)) ⟨vs, ?_⟩
    rw [xs, y2]
    refine ⟨fun c => take (Or.inr c), fun c => ?_⟩
    unfold w_X9_answers_b75
    rw [nI_1]
    have ebl : bl (wT B tn tl d s (if s = 0 then j else i)) (n + 1) = bl (wT B tn tl d s (if s = 0 then j else i)) n := by
      rw [bl_s, if_neg]
      rintro (q | q)
      · exact n0 q
      · exact c q
    exact hK16 hn1 _ ⟨rfl, fun q => absurd q (by omega), fun _ => by rw [ebl]; exact ⟨y1, rfl⟩, n, hn1, a'⟩
end F15
