/-! fits -/
section F17
variable {h : Hp} {B : Br} {tn : Nat} {tl : Nat → List Row} {r : Rc} {K : Hp → Prop}
def mOf (r : Rc) (i : Nat) : Nat := (r.2.2.2.2.1 i).toNatClampNeg
theorem mOf_e (hR : RA h B tn tl r) {i : Nat} (hi : i < r.1.2.2.2) : mOf r i < 1440 ∧ r.2.2.2.2.1 i = nI (mOf r i) := by
  obtain ⟨m, hm, e⟩ := hR.2.2.2.2.1.1.2.2.2.2 i hi
  unfold mOf
  rw [e, nI_clamp (by omega)]
  exact ⟨hm, rfl⟩
def okL (B : Br) (R : List Row) (r : Rc) (w d hh : Nat) : Nat → Bool
  | 0 => true
  | i + 1 => okL B R r w d hh i && decide (nI (chargeB B R (altB B 0 d (mOf r i)) hh w d (mOf r i)) = r.2.2.2.2.2 i)
theorem okL_s (B : Br) (R : List Row) (r : Rc) (w d hh i : Nat) : okL B R r w d hh (i + 1) = (okL B R r w d hh i && decide (nI (chargeB B R (altB B 0 d (mOf r i)) hh w d (mOf r i)) = r.2.2.2.2.2 i)) := rfl
theorem okL_f {B : Br} {R : List Row} {r : Rc} {w d hh i : Nat} (hf : okL B R r w d hh i = false) : ∀ n, i ≤ n → okL B R r w d hh n = false
  | 0, hi => by
    have : i = 0 := by omega
    subst this
    exact hf
  | n + 1, hi => by
    by_cases c : i = n + 1
    · rw [← c]; exact hf
    · rw [okL_s, okL_f hf n (by omega)]
      rfl
def rowz (ok : Nat → Nat → Bool) (d : Nat) (c f : Int32) : Nat → Int32 × Int32
  | 0 => (c, f)
  | j + 1 => if ok d (50 + j) = true then ((rowz ok d c f j).1 + 1, if ¬ (rowz ok d c f j).2 = -1 then (rowz ok d c f j).2 else nI (1000 * d + (50 + j))) else rowz ok d c f j
theorem rowz_s (ok : Nat → Nat → Bool) (d : Nat) (c f : Int32) (j : Nat) : rowz ok d c f (j + 1) = if ok d (50 + j) = true then ((rowz ok d c f j).1 + 1, if ¬ (rowz ok d c f j).2 = -1 then (rowz ok d c f j).2 else nI (1000 * d + (50 + j))) else rowz ok d c f j := rfl
def allz (ok : Nat → Nat → Bool) : Nat → Int32 × Int32
  | 0 => (0, -1)
  | d + 1 => rowz ok d (allz ok d).1 (allz ok d).2 351
theorem allz_s (ok : Nat → Nat → Bool) (d : Nat) : allz ok (d + 1) = rowz ok d (allz ok d).1 (allz ok d).2 351 := rfl
theorem rowz_k {ok : Nat → Nat → Bool} {d : Nat} {c f : Int32} {i : Nat} {v : Int32} (hv : v ≠ -1) (e : (rowz ok d c f i).2 = v) : ∀ j, i ≤ j → (rowz ok d c f j).2 = v
  | 0, hi => by
    have : i = 0 := by omega
    subst this
    exact e
  | j + 1, hi => by
    by_cases ci : i = j + 1
    · rw [← ci]; exact e
    · have := rowz_k hv e j (by omega)
      rw [rowz_s]
      split
      · show (if ¬ (rowz ok d c f j).2 = -1 then (rowz ok d c f j).2 else nI (1000 * d + (50 + j))) = v
        rw [this, if_pos hv]
      · exact this
theorem allz_k {ok : Nat → Nat → Bool} {i : Nat} {v : Int32} (hv : v ≠ -1) (e : (allz ok i).2 = v) : ∀ d, i ≤ d → (allz ok d).2 = v
  | 0, hi => by
    have : i = 0 := by omega
    subst this
    exact e
  | d + 1, hi => by
    by_cases ci : i = d + 1
    · rw [← ci]; exact e
    · have := allz_k hv e d (by omega)
      rw [allz_s]
      exact rowz_k (i := 0) hv (by show (allz ok d).2 = v; exact this) 351 (by omega)
theorem m_tollT (hR : RA h B tn tl r) {t : Nat} (ht : t < tn) : MR h t (rowsOf tn tl t) := by
  obtain ⟨c1, c2, c3, c4, _, c6⟩ := hR.2.2.1
  refine Or.inl ⟨c6, tn, c1, c3, Or.inl ⟨ht, ?_⟩⟩
  unfold rowsOf
  rw [if_pos ht]
  exact (c4 t ht).2
theorem KP_LC {g : Hp} {q : Nat} {rs : List Row} (k : KP h g) (l : q = 14 ∨ q = 18 ∨ q = 22 ∨ q = 26 ∨ q = 34) (c : LC q h rs) (e : g (q + 1) = h (q + 1) ) : LC q g rs := c.same (by rw [k.1 q (by unfold kp; omega)]) e
theorem s_paysLedger (hR : RA h B tn tl r) {q : Nat} {R : List Row} (lq : lawQ q) (hc : LC q h R) {p2 p3 p4 : Int32} (d hh w : Nat) (e2 : p2 = nI d) (e3 : p3 = nI hh) (e4 : p4 = nI w) (hd : d < 30) (hhb : hh ≤ 999) (Q : Int32 → Hp → Prop) (hQ : ∀ h', lfr q h h' → Q (if okL B R r w d hh r.1.2.2.2 = true then 1 else 0) h') : w_X8_paysLedger q p2 p3 p4 h Q := by
  have o4 := hR.2.2.2.2.1.1.2.2.2.1
  have hg := lq.ge
  unfold w_X8_paysLedger w_X8_paysLedger_b3
  refine wl_run r.1.2.2.2 (fun i (st : Int32 × Hp) => st.1 = nI i ∧ lfr q h st.2 ∧ okL B R r w d hh i = true) ?_ (Nat.zero_le _) ⟨rfl, fun _ _ _ => rfl, rfl⟩
  rintro i ⟨v5, g⟩ K3 hi ⟨e5, fg, ho⟩ hK3
  simp only at e5 fg ho
  subst e5
  show w_X8_paysLedger_l3 q p2 p3 p4 Q K3 (nI i) g
  unfold w_X8_paysLedger_l3
  have a := (KP_lfr lq fg).RA hR
  obtain ⟨c1, c2, c3, c4, c5, c6, c7⟩ := a.2.2.2.2.1.2.1
  rw [c2]
  refine ⟨fun z => ?_, fun z => ?_⟩
  · have : i = r.1.2.2.2 := by
      have := (nI_leI (by omega) (by omega)).mp z
      omega
    subst this
    rw [b11]
    have := hQ g fg
    rw [if_pos ho] at this
    exact this
  have hi1 : i < r.1.2.2.2 := Nat.lt_of_not_le fun q => z ((nI_leI (by omega) (by omega)).mpr q)
  obtain ⟨hm, em⟩ := mOf_e hR hi1
  have x67 : g 67 i = nI (mOf r i) := (c7 i hi1).1.trans em
  have x68 : g 68 i = r.2.2.2.2.2 i := (c7 i hi1).2
  rw [e_at (by decide), rd_n (by omega) (by decide), x67, e_altitudeAt a.1 0 d (mOf r i) q0 e2 rfl (by decide) hd hm]
  refine s_charge lq a.1 (hc.same (fg q (by omega) (by omega) ▸ rfl) (fg _ (by omega) (by omega))) (altB B 0 d (mOf r i)) hh w d (mOf r i) rfl e3 e4 e2 rfl (altB_b a.1.2.2 _ _ _) hhb hd hm _ (fun g2 f2 => ?_)
  rw [e_at (by decide), rd_n (by omega) (by decide), f2 68 (by omega) (by omega), x68, nI_1]
  refine ⟨fun c => hK3 hi1 _ ⟨rfl, fg.tr f2, ?_⟩, fun c => ?_⟩
  · rw [okL_s, ho, decide_eq_true c]
    rfl
  · have hf : okL B R r w d hh (i + 1) = false := by
      rw [okL_s, decide_eq_false c, Bool.and_false]
    have := hQ g2 (fg.tr f2)
    rw [if_neg (by rw [okL_f hf _ (by omega)]; decide)] at this
    rw [b01]
    exact this
theorem s_paidLedger (hR : RA h B tn tl r) {p1 p2 v6 v7 : Int32} {t : Nat} (ht : t < tn) (e1 : p1 = nI t) (d hh w : Nat) (e6 : v6 = nI d) (e7 : v7 = nI hh) (e2 : p2 = nI w) (hd : d < 30) (hhb : hh ≤ 999) (hw : w ≤ 1998) {p3 v4 v5 : Int32} {K63 K74 : Int32 × Int32 × Int32 × Hp → Prop} {Q : Int32 → Hp → Prop} (hQ : ∀ h', mfr h h' → w_X9_fits_b148 p1 p2 p3 v4 v5 v6 v7 (if okL B (rowsOf tn tl t) r w d hh r.1.2.2.2 = true then 1 else 0) K63 K74 h' Q) : w_X9_fits_b88 p1 p2 p3 v4 v5 v6 v7 K63 K74 Q (1, 0, h) := by
  have o4 := hR.2.2.2.2.1.1.2.2.2.1
  have t4 := hR.2.2.1.1
  unfold w_X9_fits_b88
  refine wl_run r.1.2.2.2 (fun i (st : Int32 × Int32 × Hp) => st.2.1 = nI i ∧ mfr h st.2.2 ∧ st.1 = (if okL B (rowsOf tn tl t) r w d hh i = true then 1 else 0)) ?_ (Nat.zero_le _) ⟨rfl, fun _ _ _ => rfl, rfl⟩
  rintro i ⟨v8, v9, g⟩ K88 hi ⟨e9, fg, e8⟩ hK88
  simp only at e9 fg e8
  subst e9 e8
  show w_X9_fits_l88 p1 p2 p3 v4 v5 v6 v7 K63 K74 Q K88 _ (nI i) g
  unfold w_X9_fits_l88
  have a := (KP_mfr fg).RA hR
  obtain ⟨m1, m2, m3, m4, m5, m6, m7⟩ := a.2.2.2.2.1.2.2
  rw [m2]
  refine ⟨fun z => ?_, fun z => ?_⟩
  · have : i = r.1.2.2.2 := by
      have := (nI_leI (by omega) (by omega)).mp z
      omega
    subst this
    exact hQ g fg
  have hi1 : i < r.1.2.2.2 := Nat.lt_of_not_le fun q => z ((nI_leI (by omega) (by omega)).mpr q)
  by_cases ho : okL B (rowsOf tn tl t) r w d hh i = true
  rotate_left
  · have hf : okL B (rowsOf tn tl t) r w d hh i = false := by
      cases hq : okL B (rowsOf tn tl t) r w d hh i
      · rfl
      · exact absurd hq ho
    have h9 := hQ g fg
    rw [if_neg (by rw [okL_f hf _ (by omega)]; decide)] at h9
    rw [if_neg ho]
    exact wif_p rfl h9
  rw [if_pos ho]
  have vi : vp_in (nI i) 10 := vp_in_nI (by omega) (by decide)
  refine wif_n i10 ⟨vi, vl 0 2 (by decide) (by decide), ?_⟩
  obtain ⟨hm, em⟩ := mOf_e hR hi1
  have x67 : g (205 + i) 0 = nI (mOf r i) := (m7 i hi1).1.trans em
  have x68 : g (205 + i) 1 = r.2.2.2.2.2 i := (m7 i hi1).2
  rw [nI_clamp (by omega), Nat.one_mul, cl0, x67]
  refine s_paid a.2.1 (m_tollT a ht) 0 d (mOf r i) hh w false e1 (by omega) rfl e6 rfl e7 e2 (by simp) (by decide) hd hm hhb hw _ (fun g2 f2 => ⟨vi, vl 1 2 (by decide) (by decide), ?_⟩)
  rw [cl1, f2 _ (by omega) (by omega), x68, wlet_e, nI_1]
  refine hK88 hi1 _ ⟨rfl, fun q x1 x2 => (f2 q x1 x2).trans (fg q x1 x2), ?_⟩
  show (if ¬ nI (chargeB B (rowsOf tn tl t) (altB B 0 d (mOf r i)) hh w d (mOf r i)) = r.2.2.2.2.2 i then (0 : Int32) else 1) = if okL B (rowsOf tn tl t) r w d hh (i + 1) = true then 1 else 0
  rw [okL_s, ho]
  by_cases c : nI (chargeB B (rowsOf tn tl t) (altB B 0 d (mOf r i)) hh w d (mOf r i)) = r.2.2.2.2.2 i
  · rw [if_neg (not_not_intro c), decide_eq_true c]
    rfl
  · rw [if_pos c, decide_eq_false c]
    rfl
theorem cs27 {p1 p2 p3 : Int32} (hR : RA h B tn tl r) (hK : ∀ h', RR h' → K h') : w_L_fits p1 p2 p3 h (fun v1 h1 => w_X9_fits p1 p2 p3 h1 (MQQ K v1)) := by
  have a0 := KP.RA (KP.thr (h := h) (v := 0)) hR
  have t4 := hR.2.2.1.1
  have e18 := a0.2.2.1.2.2.1
  unfold w_L_fits w_X8_fits
  rw [hR.2.2.1.2.1]
  refine s_needToll t4 (fun t ht e1 => ?_) (fun hn => ⟨rfl, ?_⟩)
  · refine s_needBetween (lo := 1) (hi := 999) q1 q999 (by decide) (by decide) (fun w w1 w2 e2 => ?_) (fun hn => ⟨rfl, ?_⟩)
    · refine s_needBetween (lo := 0) (hi := 1) q0 q1 (by decide) (by decide) (fun m _ m2 e3 => ?_) (fun hn => ⟨rfl, ?_⟩)
      · refine s_lawAt hR t e1 (by omega) _ (fun q lq hc => ?_)
        obtain ⟨ok, hok⟩ : ∃ ok : Nat → Nat → Bool, ∀ d hh, okL B (rowsOf tn tl t) r w d hh r.1.2.2.2 = ok d hh := ⟨fun d hh => okL B (rowsOf tn tl t) r w d hh r.1.2.2.2, fun _ _ => rfl⟩
        have hlaw : ∀ g, lfr q h g → LC q g (rowsOf tn tl t) := fun g fg => by
          have := lq.ge
          exact hc.same (fg q (by omega) (by omega) ▸ rfl) (fg _ (by omega) (by omega))
        have go : ∀ g, lfr q h g → ∀ v, v = (if p3 = 1 then (allz ok 30).2 else (allz ok 30).1) → wlet (hup g 1457 0 v) (fun h2 => w_X9_fits p1 p2 p3 h2 (MQQ K 0)) := by
          intro g fg v hv
          rw [wlet_e]
          have a := KP.RA (KP.tr (KP.out (KP_lfr lq fg)) KP.thr : KP h (hup (hup g 1457 0 v) 92 0 0)) hR
          unfold w_X9_fits
          try dsimp only
          rw [wlet_e, a.2.2.1.2.2.1, inToll_t t4 ht e1, wif_f i10, in_t (p1 := 1) (p2 := 999) (lo := 1) (hi := 999) e2 rfl rfl w1 w2 (by decide), wif_f i10, in_t (p1 := 0) (p2 := 1) (lo := 0) (hi := 1) e3 rfl rfl (by omega) m2 (by decide), c_not1, bad_f (thr0 _), wif_t rfl]
          have b0 : hup (hup g 1457 0 v) 92 0 0 92 0 = 0 := thr0 _
          have b1 : hup (hup g 1457 0 v) 92 0 0 1457 0 = v := by rw [hup_ne (by decide), hup_eq]
          generalize hup (hup g 1457 0 v) 92 0 0 = m0 at a b0 b1
          unfold w_X9_fits_b63
          refine wl_run 30 (fun d (st : Int32 × Int32 × Int32 × Hp) => st.2.2.1 = nI d ∧ mfr m0 st.2.2.2 ∧ st.1 = (allz ok d).1 ∧ st.2.1 = (allz ok d).2) ?_ (Nat.zero_le _) ⟨rfl, fun _ _ _ => rfl, rfl, rfl⟩
          rintro d ⟨v4, v5, v6, u⟩ K63 hd ⟨e6, fu, e4, e5⟩ hK63
          simp only at e6 fu e4 e5
          subst e6 e4 e5
          show w_X9_fits_l63 p1 p2 p3 _ K63 _ _ (nI d) u
          unfold w_X9_fits_l63
          rw [q30]
          refine ⟨fun z => ?_, fun z => ?_⟩
          · have : d = 30 := by
              have := (nI_leI (by omega) (by omega)).mp z
              omega
            subst this
            refine mq_ok (by rw [fu 92 (by decide) (by decide)]; exact b0) ?_ (hK _ ((KP_mfr fu).RR a.rr))
            rw [fu 1457 (by decide) (by decide), b1, hv]
            have : m = 0 ∨ m = 1 := by omega
            rcases this with q | q
            · rw [if_neg (by rw [e3, q]; decide), if_neg (by rw [e3, q]; decide)]
            · rw [if_pos (by rw [e3, q]; rfl), if_pos (by rw [e3, q]; decide)]
          have hd30 : d < 30 := Nat.lt_of_not_le fun q => z ((nI_leI (by omega) (by omega)).mpr q)
          unfold w_X9_fits_b74
          refine wl_run 351 (fun j (st : Int32 × Int32 × Int32 × Hp) => st.2.2.1 = nI (50 + j) ∧ mfr m0 st.2.2.2 ∧ st.1 = (rowz ok d (allz ok d).1 (allz ok d).2 j).1 ∧ st.2.1 = (rowz ok d (allz ok d).1 (allz ok d).2 j).2) ?_ (Nat.zero_le _) ⟨rfl, fu, rfl, rfl⟩
          rintro j ⟨w4, w5, w7, u1⟩ K74 hj ⟨e7, fu1, e4, e5⟩ hK74
          simp only at e7 fu1 e4 e5
          subst e7 e4 e5
          show w_X9_fits_l74 p1 p2 p3 (nI d) K63 _ K74 _ _ (nI (50 + j)) u1
          unfold w_X9_fits_l74
          rw [q400]
          refine ⟨fun z2 => ?_, fun z2 => ?_⟩
          · have : j = 351 := by
              have := (nI_ltI (by omega) (by omega)).mp z2
              omega
            subst this
            rw [nI_1]
            exact hK63 hd30 _ ⟨rfl, fu1, rfl, rfl⟩
          have hj1 : j < 351 := by
            have : ¬ 400 < 50 + j := fun q => z2 ((nI_ltI (by omega) (by omega)).mpr q)
            omega
          have au1 := (KP_mfr fu1).RA a
          refine s_paidLedger au1 ht e1 d (50 + j) w rfl rfl e2 hd30 (by omega) (by omega) (fun u2 f2 => ?_)
          rw [hok]
          unfold w_X9_fits_b148
          rw [wlet_e, wlet_e, nI_1]
          have fu2 : mfr m0 u2 := fun q x1 x2 => (f2 q x1 x2).trans (fu1 q x1 x2)
          refine hK74 hj1 _ ⟨rfl, fu2, ?_, ?_⟩
          · show _ = (rowz ok d (allz ok d).1 (allz ok d).2 (j + 1)).1
            rw [rowz_s]
            by_cases c : ok d (50 + j) = true
            · rw [if_pos c, if_pos c, if_neg i10]
            · rw [if_neg c, if_neg c, if_pos rfl, Int32.add_zero]
          · show (if (if ok d (50 + j) = true then (1 : Int32) else 0) = 0 then (rowz ok d (allz ok d).1 (allz ok d).2 j).2 else if ¬ (rowz ok d (allz ok d).1 (allz ok d).2 j).2 = -1 then (rowz ok d (allz ok d).1 (allz ok d).2 j).2 else 1000 * nI d + nI (50 + j)) = (rowz ok d (allz ok d).1 (allz ok d).2 (j + 1)).2
            rw [rowz_s]
            by_cases c : ok d (50 + j) = true
            · rw [if_pos c, if_pos c, if_neg i10, q1000, pk_mul, nI_add]
            · rw [if_neg c, if_neg c, if_pos rfl]
        unfold w_X8_fits_b38
        refine wl_run 30 (fun d (st : Int32 × Int32 × Hp) => st.2.1 = nI d ∧ lfr q h st.2.2 ∧ (p3 = 1 → (allz ok d).2 = -1) ∧ (¬ p3 = 1 → st.1 = (allz ok d).1)) ?_ (Nat.zero_le _) ⟨rfl, fun _ _ _ => rfl, fun _ => rfl, fun _ => rfl⟩
        rintro d ⟨v5, v6, g⟩ K38 hd ⟨e6, fg, e5, e4⟩ hK38
        simp only at e6 fg e4 e5
        subst e6
        show w_X8_fits_l38 p1 p2 p3 q _ _ K38 v5 (nI d) g
        unfold w_X8_fits_l38
        rw [q30]
        refine ⟨fun z => ?_, fun z => ?_⟩
        · have : d = 30 := by
            have := (nI_leI (by omega) (by omega)).mp z
            omega
          subst this
          refine go g fg _ ?_
          by_cases c : p3 = 1
          · rw [if_neg (not_not_intro c), if_pos c, e5 c]
          · rw [if_pos c, if_neg c, e4 c]
        have hd30 : d < 30 := Nat.lt_of_not_le fun q => z ((nI_leI (by omega) (by omega)).mpr q)
        unfold w_X8_fits_b49
        refine wl_run 351 (fun j (st : Int32 × Int32 × Hp) => st.2.1 = nI (50 + j) ∧ lfr q h st.2.2 ∧ (p3 = 1 → (rowz ok d (allz ok d).1 (allz ok d).2 j).2 = -1) ∧ (¬ p3 = 1 → st.1 = (rowz ok d (allz ok d).1 (allz ok d).2 j).1)) ?_ (Nat.zero_le _) ⟨rfl, fg, e5, e4⟩
        rintro j ⟨w5, w7, u⟩ K49 hj ⟨e7, fu, f5, f4'⟩ hK49
        simp only at e7 fu f4' f5
        subst e7
        show w_X8_fits_l49 p1 p2 p3 q (nI d) K38 _ _ K49 w5 (nI (50 + j)) u
        unfold w_X8_fits_l49 w_X8_fits_b89
        rw [q400]
        refine ⟨fun z2 => ?_, fun z2 => ?_⟩
        · have : j = 351 := by
            have := (nI_ltI (by omega) (by omega)).mp z2
            omega
          subst this
          rw [nI_1]
          exact hK38 hd30 _ ⟨rfl, fu, f5, f4'⟩
        have hj1 : j < 351 := by
          have : ¬ 400 < 50 + j := fun q => z2 ((nI_ltI (by omega) (by omega)).mpr q)
          omega
        refine s_paysLedger ((KP_lfr lq fu).RA hR) lq (hlaw u fu) d (50 + j) w rfl rfl e2 hd30 (by omega) _ (fun u2 f2 => ?_)
        rw [hok, nI_1]
        have fu2 : lfr q h u2 := fu.tr f2
        by_cases c : ok d (50 + j) = true
        · rw [if_pos c]
          refine wif_n i10 ⟨fun c3 => ?_, fun c3 => ?_⟩
          · refine hK49 hj1 _ ⟨rfl, fu2, fun x => absurd x c3, fun _ => ?_⟩
            show w5 + 1 = (rowz ok d (allz ok d).1 (allz ok d).2 (j + 1)).1
            rw [rowz_s, if_pos c, f4' c3]
          · have c4 : p3 = 1 := Classical.not_not.mp c3
            rw [q1000, pk_mul, nI_add]
            refine go u2 fu2 _ ?_
            rw [if_pos c4]
            have hv : (rowz ok d (allz ok d).1 (allz ok d).2 (j + 1)).2 = nI (1000 * d + (50 + j)) := by
              rw [rowz_s, if_pos c]
              show (if ¬ (rowz ok d (allz ok d).1 (allz ok d).2 j).2 = -1 then _ else _) = _
              rw [if_neg (not_not_intro (f5 c4))]
            have h1 := rowz_k (nI_m1 (by omega)) hv 351 (by omega)
            have h2 : (allz ok (d + 1)).2 = nI (1000 * d + (50 + j)) := h1
            exact (allz_k (nI_m1 (by omega)) h2 30 (by omega)).symm
        · rw [if_neg c]
          refine wif_p rfl ?_
          refine hK49 hj1 _ ⟨rfl, fu2, fun x => ?_, fun x => ?_⟩
          · show (rowz ok d (allz ok d).1 (allz ok d).2 (j + 1)).2 = -1
            rw [rowz_s, if_neg c]
            exact f5 x
          · show w5 = (rowz ok d (allz ok d).1 (allz ok d).2 (j + 1)).1
            rw [rowz_s, if_neg c]
            exact f4' x
      · unfold w_X9_fits
        try dsimp only
        rw [wlet_e, e18, inToll_t t4 ht e1, wif_f i10, in_t (p1 := 1) (p2 := 999) (lo := 1) (hi := 999) e2 rfl rfl w1 w2 (by decide), wif_f i10, in_f (p1 := 0) (p2 := 1) (lo := 0) (hi := 1) rfl rfl (by decide) (by decide) hn, c_not0, bad_t (thr0 _) (by decide), wif_f i10]
        exact mq_thr (hup_eq _ _ _ _) (by decide) (hK _ (KP.RR KP.thr a0.rr))
    · unfold w_X9_fits w_X9_fits_b40 w_X9_fits_b45
      try dsimp only
      rw [wlet_e, e18, inToll_t t4 ht e1, wif_f i10, in_f (p1 := 1) (p2 := 999) (lo := 1) (hi := 999) rfl rfl (by decide) (by decide) hn, wif_t rfl, bad_t (thr0 _) (by decide), wif_f i10]
      exact mq_thr (hup_eq _ _ _ _) (by decide) (hK _ (KP.RR KP.thr a0.rr))
  · unfold w_X9_fits w_X9_fits_b40 w_X9_fits_b45
    try dsimp only
    rw [wlet_e, e18, inToll_f t4 hn, wif_t rfl, bad_t (thr0 _) (by decide), wif_f i10]
    exact mq_thr (hup_eq _ _ _ _) (by decide) (hK _ (KP.RR KP.thr a0.rr))
end F17
