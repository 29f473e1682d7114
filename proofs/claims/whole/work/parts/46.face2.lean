/-! coins, the best minute, the week -/
def rowsOf (tn : Nat) (tl : Nat → List Row) (t : Nat) : List Row := if t < tn then tl t else []
def tb (r : Rc) (b : Nat) : Nat := if b = 0 then r.1.1 else r.1.2.1
theorem KP_lfr {p : Nat} (hp : lawQ p) {h h' : Hp} (a : lfr p h h') : KP h h' := by
  refine ⟨fun q hq => a q ?_ ?_, fun i _ => by rw [a 92 (by have := hp.ge; omega) (by have := hp.ge; omega)]⟩ <;> (unfold kp at hq; rcases hp with rfl | rfl | rfl | rfl | rfl | rfl | rfl <;> omega)
theorem KP_mfr {h h' : Hp} (a : mfr h h') : KP h h' := ⟨fun q hq => a q (by unfold kp at hq; omega) (by unfold kp at hq; omega), fun i _ => by rw [a 92 (by decide) (by decide)]⟩
theorem KP_mF {h h' : Hp} (a : mF h h') : KP h h' := ⟨fun q hq => a.1 q (by unfold kp at hq; omega) (by unfold kp at hq; omega) (by unfold kp at hq; omega) (by unfold kp at hq; omega), fun i hi => a.2 i (by omega)⟩
section F2
variable {h : Hp} {B : Br} {tn : Nat} {tl : Nat → List Row} {r : Rc} {K : Hp → Prop}
theorem tb_b (hR : RA h B tn tl r) (b : Nat) : tb r b < tn ∨ tb r b = 0 := by
  obtain ⟨o1, o2, _⟩ := hR.2.2.2.2.1.1
  unfold tb
  split
  · exact o1
  · exact o2
theorem LC_free (hR : RA h B tn tl r) : LC 34 h [] := ⟨hR.2.2.1.2.2.2.2.1, by decide, fun i hi => absurd hi (by simp [flat]), fun r hr => absurd hr (by simp), by decide⟩
theorem s_lawAt (hR : RA h B tn tl r) {p : Int32} (t : Nat) (e : p = nI t) (ht : t < 2 ^ 20) (Q : Nat → Prop) (hQ : ∀ q, lawQ q → LC q h (rowsOf tn tl t) → Q q) : w_X8_lawAt p h Q := by
  obtain ⟨c1, c2, _, c4, _, _⟩ := hR.2.2.1
  subst e
  unfold w_X8_lawAt
  rw [c2]
  refine wif_n (nI_pos (by omega)) ⟨fun z => ?_, fun z => ?_⟩
  · have h1 := (nI_leI (by omega) (by omega)).mp z
    have e : rowsOf tn tl t = [] := by
      unfold rowsOf
      rw [if_neg (by omega)]
    exact hQ 34 (by unfold lawQ; omega) (by rw [e]; exact LC_free hR)
  · have h1 : t < tn := Nat.lt_of_not_le fun q => z ((nI_leI (by omega) (by omega)).mpr q)
    refine wif_p (by rw [q4]; exact (nI_ltI (by omega) (by omega)).mpr (by omega)) ⟨vp_in_nI (by omega) (by decide), ?_⟩
    rw [nI_clamp (by omega)]
    have e : rowsOf tn tl t = tl t := by
      unfold rowsOf
      rw [if_pos h1]
    exact hQ _ (by unfold lawQ; omega) (by rw [e]; exact (c4 t h1).1)
theorem s_lawOf (hR : RA h B tn tl r) {p : Int32} (b : Nat) (e : p = nI b) (hb : b < 2) (Q : Nat → Prop) (hQ : ∀ q, lawQ q → LC q h (rowsOf tn tl (tb r b)) → Q q) : w_X8_lawOf p h Q := by
  obtain ⟨_, _, b3, b4, _⟩ := hR.2.2.2.2.1.2.1
  have ht := tb_b hR b
  have h4 := hR.2.2.1.1
  have e63 : h 63 b = nI (tb r b) := by
    unfold tb
    by_cases c : b = 0
    · rw [c, if_pos rfl]
      exact b3
    · have : b = 1 := by omega
      rw [this, if_neg (by decide)]
      exact b4
  subst e
  unfold w_X8_lawOf
  rw [e_at (by decide), rd_n hb (by decide), e63]
  exact s_lawAt hR _ rfl (by omega) _ hQ
theorem m_toll (hR : RA h B tn tl r) (b : Nat) (hb : b < 2) : h 141 b = nI (tb r b) ∧ MR h (tb r b) (rowsOf tn tl (tb r b)) := by
  obtain ⟨_, _, b3, b4, _⟩ := hR.2.2.2.2.1.2.2
  obtain ⟨c1, c2, c3, c4, _, c6⟩ := hR.2.2.1
  have ht := tb_b hR b
  refine ⟨?_, Or.inl ⟨c6, tn, c1, c3, ?_⟩⟩
  · unfold tb
    by_cases c : b = 0
    · rw [c, if_pos rfl]
      exact b3
    · have : b = 1 := by omega
      rw [this, if_neg (by decide)]
      exact b4
  · unfold rowsOf
    by_cases c : tb r b < tn
    · rw [if_pos c]
      exact Or.inl ⟨c, (c4 _ c).2⟩
    · rw [if_neg c]
      exact Or.inr ⟨by omega, rfl⟩
theorem MT2_of (hR : RA h B tn tl r) (both : Bool) : MT2 h B (rowsOf tn tl (tb r 0)) (rowsOf tn tl (tb r 1)) both := by
  have h4 := hR.2.2.1.1
  have t0 := tb_b hR 0
  have t1 := tb_b hR 1
  exact ⟨tb r 0, tb r 1, by omega, by omega, (m_toll hR 0 (by decide)).1, (m_toll hR 1 (by decide)).1, (m_toll hR 0 (by decide)).2, fun _ => (m_toll hR 1 (by decide)).2⟩
theorem s_fareF (hR : RA h B tn tl r) {p1 p2 p3 p4 p5 : Int32} (b k d m : Nat) (dark : Bool) (e1 : p1 = nI b) (e2 : p2 = nI k) (e3 : p3 = nI d) (e4 : p4 = nI m) (e5 : p5 = 0 ↔ dark = false) (hb : b < 2) (hk : k < 8) (hd : d < 30) (hm : m < 1440) (Q : Int32 → Hp → Prop) (hQ : ∀ h', KP h h' → Q (nI (fareB B (rowsOf tn tl (tb r b)) b k d m dark)) h') : w_X8_lawOf p1 h (fun q1 => w_X4_fare 3 q1 p1 p2 p3 p4 p5 h Q) :=
  s_lawOf hR b e1 hb _ (fun _ hq hc => s_fare hq hR.1 hc b k d m dark e1 e2 e3 e4 e5 hb hk hd hm Q (fun h' hf => hQ h' (KP_lfr hq hf)))
theorem s_coinsF (hR : RA h B tn tl r) {p1 p2 p3 p4 p5 : Int32} (b k d m : Nat) (dark : Bool) (e1 : p1 = nI b) (e2 : p2 = nI k) (e3 : p3 = nI d) (e4 : p4 = nI m) (e5 : p5 = 0 ↔ dark = false) (hb : b < 2) (hk : k < B.1 0) (hd : d < 30) (hm : m < 1440) (Q : Int32 → Hp → Prop) (hQ : ∀ h', mfr h h' → Q (nI (fareB B (rowsOf tn tl (tb r b)) b k d m dark)) h') : w_X9_coinsOf p1 p2 p3 p4 p5 h Q := by
  have ht := tb_b hR b
  have h4 := hR.2.2.1.1
  obtain ⟨a1, a2⟩ := m_toll hR b hb
  exact s_coinsOf hR.2.1 a2 b k d m dark (by omega) e1 e2 e3 e4 e5 a1 hb hk hd hm Q hQ
theorem cs10 {p1 p2 p3 p4 p5 : Int32} (hR : RA h B tn tl r) (hK : ∀ h', RR h' → K h') : w_L_coins p1 p2 p3 p4 p5 h (fun v1 h1 => w_X9_coins p1 p2 p3 p4 p5 h1 (MQQ K v1)) := by
  have a0 := KP.RA (KP.thr (h := h) (v := 0)) hR
  have w0 := hR.1.2.2.1
  unfold w_L_coins w_X8_coins
  refine s_needBridge hR.1 (fun b hb hb2 e1 => ?_) (fun hn => Or.inl ⟨rfl, ?_⟩)
  · refine s_needTraveller hR.1 (fun k hk e2 => ?_) (fun hn => Or.inr (Or.inl ⟨rfl, ?_⟩))
    · refine s_needDay (fun d hd e3 => ?_) (fun hn => Or.inr (Or.inr ⟨rfl, ?_⟩))
      · refine s_needMinute (fun m hm e4 => ?_) (fun hn => Or.inr (Or.inr ⟨rfl, ?_⟩))
        · have e5 : p5 = 0 ↔ decide (p5 ≠ 0) = false := by simp
          refine s_fareF hR b k d m (decide (p5 ≠ 0)) e1 e2 e3 e4 e5 hb2 (by omega) hd hm _ (fun h1 k1 => ?_)
          try dsimp only
          rw [wlet_e]
          have a := KP.RA (KP.tr (KP.out k1) KP.thr : KP h (hup (hup h1 1457 0 (nI (fareB B (rowsOf tn tl (tb r b)) b k d m (decide (p5 ≠ 0))))) 92 0 0)) hR
          unfold w_X9_coins
          try dsimp only
          rw [wlet_e, isBr_t a.2.1 e1 hb, c_not1, bad_f (thr0 _), wif_f (not_not_intro rfl), isWho_t a.2.1 e2 hk, c_not1, bad_f (thr0 _), wif_f (not_not_intro rfl), isDay_t e3 hd, wif_f i10, isMin_t e4 hm, c_not1, bad_f (thr0 _), wif_t rfl]
          exact s_coinsF a b k d m _ e1 e2 e3 e4 e5 hb2 hk hd hm _ (fun g hg => mq_ok (by rw [hg 92 (by decide) (by decide)]; exact thr0 _) (by rw [hg 1457 (by decide) (by decide), hup_ne (by decide), hup_eq]) (hK _ (KP.RR (KP_mfr hg) a.rr)))
        · unfold w_X9_coins
          try dsimp only
          rw [wlet_e, isBr_t a0.2.1 e1 hb, c_not1, bad_f (thr0 _), wif_f (not_not_intro rfl), isWho_t a0.2.1 e2 hk, c_not1, bad_f (thr0 _), wif_f (not_not_intro rfl), isDay_t e3 hd, wif_f i10, isMin_f hn, c_not0, bad_t (thr0 _) (by decide), wif_f i10]
          exact mq_thr (hup_eq _ _ _ _) (by decide) (hK _ (KP.RR KP.thr a0.rr))
      · unfold w_X9_coins w_X9_coins_b63 w_X9_coins_b68
        try dsimp only
        rw [wlet_e, isBr_t a0.2.1 e1 hb, c_not1, bad_f (thr0 _), wif_f (not_not_intro rfl), isWho_t a0.2.1 e2 hk, c_not1, bad_f (thr0 _), wif_f (not_not_intro rfl), isDay_f hn, wif_t rfl, bad_t (thr0 _) (by decide), wif_f i10]
        exact mq_thr (hup_eq _ _ _ _) (by decide) (hK _ (KP.RR KP.thr a0.rr))
    · unfold w_X9_coins
      try dsimp only
      rw [wlet_e, isBr_t a0.2.1 e1 hb, c_not1, bad_f (thr0 _), wif_f (not_not_intro rfl), isWho_f a0.2.1 hn, c_not0, bad_t (thr0 _) (by decide), wif_t i10]
      exact mq_thr (hup_eq _ _ _ _) (by decide) (hK _ (KP.RR KP.thr a0.rr))
  · unfold w_X9_coins
    try dsimp only
    rw [wlet_e, isBr_f a0.2.1 hn, c_not0, bad_t (thr0 _) (by decide), wif_t i10]
    exact mq_thr (hup_eq _ _ _ _) (by decide) (hK _ (KP.RR KP.thr a0.rr))
end F2
