/-! a clause's numbers, by the program -/
section P1
variable {h : Hp} {T : Nat → Int32} {L p : Nat} {B : Br} {Q : Int32 → Hp → Prop}
def outs (h : Hp) (T : Nat → Int32) (L : Nat) (res : Res) (Q : Int32 → Hp → Prop) : Prop := (∀ h', res.1 = 0 → fs h h' → CT h' T L res.2.2.1 → CS h' res.2.2.2 → Q 1 h') ∧ (∀ h', res.1 ≠ 0 → fe h h' res.1 res.2.1 → Q 0 h')
theorem outs.to {h h1 : Hp} {res : Res} (a : fs h h1) (o : outs h T L res Q) : outs h1 T L res Q := ⟨fun h' e f c s => o.1 h' e (a.tr f) c s, fun h' e f => o.2 h' e (a.fe f)⟩
/-- one number read: well, on with it; wrong, out -/
theorem s_bn (c : CT h T L p) (hS : CS h B) {p1 p2 : Int32} (lo hi : Nat) (hr : rng lo hi p1 p2) {f : Nat → Nat → Res} (o : outs h T L (bn B (numS T L lo hi p) f) Q) (G : Int32 → Hp → Prop) (h1 : ∀ h' q v, fs h h' → CT h' T L q → CS h' B → lo ≤ v → v ≤ hi → v ≤ 100000 → outs h' T L (f q v) Q → G (nI v) h') (h0 : ∀ h', Q 0 h' → G (-1) h') : w_X7_number p1 p2 h G := by
  refine s_numG c lo hi hr _ (fun h' f' e c' => ?_) (fun h' e er' => h0 h' ?_)
  · rw [bn_ok e] at o
    obtain ⟨b1, b2, b3⟩ := numS_ok e
    exact h1 h' _ _ f'.fs c' (hS.same f'.1) b1 b2 b3 (outs.to f'.fs o)
  · rw [bn_no e] at o
    exact o.2 h' e (fs.er ⟨fun _ _ _ => rfl, fun _ _ => rfl⟩ er')
theorem ni {v : Nat} (h : v ≤ 100000) : ¬ nI v = -1 := nI_m1 (by omega)
theorem s_sunP (c : CT h T L p) (hS : CS h B) (o : outs h T L (partS T L p B 0) Q) : w_X5_sun h Q := by
  have o2 : outs h T L (bn B (numS T L 0 29 p) (fun p a => bn B (numS T L 60 5400 p) (fun p b => (0, 0, p, setS B a b)))) Q := o
  unfold w_X5_sun
  refine s_bn c hS 0 29 (rng_n rfl rfl (by decide) (by decide)) o2 _ (fun h1 q d f1 c1 s1 d1 d2 d3 o3 => wif_p (ni d3) ?_) (fun h1 q => wif_n (not_not_intro rfl) ?_)
  · refine s_bn c1 s1 60 5400 (rng_n rfl rfl (by decide) (by decide)) o3 _ (fun h2 q2 v f2 c2 s2 v1 v2 v3 o4 => ?_) (fun h2 q2 => ?_)
    · unfold w_X5_sun_b32
      refine wif_p (ni v3) ?_
      rw [e_put (by decide), wr_n (by omega) (by decide), b11]
      exact o4.1 _ rfl (fs.up ⟨fun _ _ _ => rfl, fun _ _ => rfl⟩ (by omega)) (c2.sc (by omega)) s2.setS
    · unfold w_X5_sun_b32
      exact wif_n (not_not_intro rfl) (by rw [b01]; exact q2)
  · unfold w_X5_sun_b32
    exact wif_n (not_not_intro rfl) (by rw [b01]; exact q)
theorem s_keeperP (c : CT h T L p) (hS : CS h B) (o : outs h T L (partS T L p B 2) Q) : w_X5_keeper h Q := by
  have o2 : outs h T L (bn B (numS T L 0 1438 p) (fun p a => bn B (numS T L (a + 1) 1439 p) (fun p b => (0, 0, p, setN (setN B 2 a) 3 b)))) Q := o
  unfold w_X5_keeper
  refine s_bn c hS 0 1438 (rng_n rfl rfl (by decide) (by decide)) o2 _ (fun h1 q d f1 c1 s1 d1 d2 d3 o3 => wif_p (ni d3) ?_) (fun h1 q => wif_n (not_not_intro rfl) ?_)
  · refine s_bn c1 s1 (d + 1) 1439 (rng_n (nI_1 d) rfl (by omega) (by decide)) o3 _ (fun h2 q2 v f2 c2 s2 v1 v2 v3 o4 => ?_) (fun h2 q2 => ?_)
    · unfold w_X5_keeper_b34
      refine wif_p (ni v3) ?_
      rw [wlet_e, wlet_e, b11]
      refine o4.1 _ rfl (fs.up (fs.up ⟨fun _ _ _ => rfl, fun _ _ => rfl⟩ (by omega)) (by omega)) ((c2.sc (by omega)).sc (by omega)) ?_
      exact CS.setN (i := 3) (CS.setN (i := 2) s2 (by decide)) (by decide)
    · unfold w_X5_keeper_b34
      exact wif_n (not_not_intro rfl) (by rw [b01]; exact q2)
  · unfold w_X5_keeper_b34
    exact wif_n (not_not_intro rfl) (by rw [b01]; exact q)
theorem s_secondP (c : CT h T L p) (hS : CS h B) (o : outs h T L (partS T L p B 9) Q) : w_X5_secondBridge h Q := by
  have o2 : outs h T L (bn B (numS T L 0 60 p) (fun p a => bn B (numS T L 0 99 p) (fun p b => (0, 0, p, setN (setN (setN B 9 a) 10 b) 8 1)))) Q := o
  unfold w_X5_secondBridge
  refine s_bn c hS 0 60 (rng_n rfl rfl (by decide) (by decide)) o2 _ (fun h1 q d f1 c1 s1 d1 d2 d3 o3 => wif_p (ni d3) ?_) (fun h1 q => wif_n (not_not_intro rfl) ?_)
  · refine s_bn c1 s1 0 99 (rng_n rfl rfl (by decide) (by decide)) o3 _ (fun h2 q2 v f2 c2 s2 v1 v2 v3 o4 => ?_) (fun h2 q2 => ?_)
    · unfold w_X5_secondBridge_b30
      refine wif_p (ni v3) ?_
      rw [wlet_e, wlet_e, wlet_e, b11]
      refine o4.1 _ rfl (fs.up (fs.up (fs.up ⟨fun _ _ _ => rfl, fun _ _ => rfl⟩ (by omega)) (by omega)) (by omega)) (((c2.sc (by omega)).sc (by omega)).sc (by omega)) ?_
      exact CS.setN (i := 8) (v := 1) (CS.setN (i := 10) (CS.setN (i := 9) s2 (by decide)) (by decide)) (by decide)
    · unfold w_X5_secondBridge_b30
      exact wif_n (not_not_intro rfl) (by rw [b01]; exact q2)
  · unfold w_X5_secondBridge_b30
    exact wif_n (not_not_intro rfl) (by rw [b01]; exact q)
theorem s_traitP (c : CT h T L p) (hS : CS h B) (h8 : B.1 0 ≤ 8) {p1 p2 p3 : Int32} (i lo hi : Nat) (e1 : p1 = nI i) (e2 : p2 = nI lo) (e3 : p3 = nI hi) (hi7 : i < 7) (hlo : lo < 100000) (hhi : hi < 100000) (o : outs h T L (twoS T L (whoLo (B.1 0)) (B.1 0 - 1) p B (fun _ => lo) (fun _ => hi) (fun w v => setW B w i v)) Q) : w_X5_trait p1 p2 p3 h Q := by
  have e84 : h 8 4 = nI (B.1 0) := hS.1 0 (by decide)
  unfold w_X5_trait
  rw [e84]
  refine s_bn c hS _ _ (rng_who h8) o _ (fun h1 q d f1 c1 s1 d1 d2 d3 o3 => wif_p (ni d3) ?_) (fun h1 q => wif_n (not_not_intro rfl) ?_)
  · have hd : d < 8 := by omega
    refine s_bn c1 s1 lo hi (rng_n e2 e3 hlo hhi) o3 _ (fun h2 q2 v f2 c2 s2 v1 v2 v3 o4 => ?_) (fun h2 q2 => ?_)
    · unfold w_X5_trait_b38
      refine wif_p (ni v3) ?_
      rw [s_setTrait rfl e1 hd hi7, b11]
      exact o4.1 _ rfl (fs.up ⟨fun _ _ _ => rfl, fun _ _ => rfl⟩ (by omega)) (c2.sc (by omega)) (s2.setW hd hi7)
    · unfold w_X5_trait_b38
      exact wif_n (not_not_intro rfl) (by rw [b01]; exact q2)
  · unfold w_X5_trait_b38
    exact wif_n (not_not_intro rfl) (by rw [b01]; exact q)
theorem s_traitsP (c : CT h T L p) (hS : CS h B) (h8 : B.1 0 < 8) (o : outs h T L (partS T L p B 3) Q) : w_X5_traits h Q := by
  have o2 : outs h T L (bn B (numS T L 50 400 p) (fun p a => bn B (numS T L 1 999 p) (fun p b => bn B (numS T L 0 1439 p) (fun p c => bn B (numS T L c 1439 p) (fun p d => bn B (numS T L 0 9 p) (fun p e => (0, 0, p, addW B a b c d e))))))) Q := o
  have no5 : ∀ h' v1 v2 v3 v4, Q 0 h' → w_X5_traits_b97 v1 v2 v3 v4 (-1) h' Q := fun h' v1 v2 v3 v4 q => by
    unfold w_X5_traits_b97
    exact wif_n (not_not_intro rfl) (by rw [b01]; exact q)
  have no4 : ∀ h' v1 v2 v3, Q 0 h' → w_X5_traits_b75 v1 v2 v3 (-1) h' Q := fun h' v1 v2 v3 q => by
    unfold w_X5_traits_b75
    exact wif_n (not_not_intro rfl) (no5 h' _ _ _ _ q)
  have no3 : ∀ h' v1 v2, Q 0 h' → w_X5_traits_b54 v1 v2 (-1) h' Q := fun h' v1 v2 q => by
    unfold w_X5_traits_b54
    exact wif_n (not_not_intro rfl) (no4 h' _ _ _ q)
  have no2 : ∀ h' v1, Q 0 h' → w_X5_traits_b33 v1 (-1) h' Q := fun h' v1 q => by
    unfold w_X5_traits_b33
    exact wif_n (not_not_intro rfl) (no3 h' _ _ q)
  unfold w_X5_traits
  refine s_bn c hS 50 400 (rng_n rfl rfl (by decide) (by decide)) o2 _ (fun h1 q a f1 c1 s1 _ _ d3 o3 => wif_p (ni d3) ?_) (fun h1 q => wif_n (not_not_intro rfl) (no2 _ _ q))
  refine s_bn c1 s1 1 999 (rng_n rfl rfl (by decide) (by decide)) o3 _ (fun h2 q b f2 c2 s2 _ _ d3 o4 => ?_) (fun h2 q => no2 _ _ q)
  unfold w_X5_traits_b33
  refine wif_p (ni d3) ?_
  refine s_bn c2 s2 0 1439 (rng_n rfl rfl (by decide) (by decide)) o4 _ (fun h3 q cc f3 c3 s3 _ k2 d3 o5 => ?_) (fun h3 q => no3 _ _ _ q)
  unfold w_X5_traits_b54
  refine wif_p (ni d3) ?_
  refine s_bn c3 s3 cc 1439 (rng_n rfl rfl (by omega) (by decide)) o5 _ (fun h4 q d f4 c4 s4 _ _ d3 o6 => ?_) (fun h4 q => no4 _ _ _ _ q)
  unfold w_X5_traits_b75
  refine wif_p (ni d3) ?_
  refine s_bn c4 s4 0 9 (rng_n rfl rfl (by decide) (by decide)) o6 _ (fun h5 q e f5 c5 s5 _ _ d3 o7 => ?_) (fun h5 q => no5 _ _ _ _ _ q)
  unfold w_X5_traits_b97
  refine wif_p (ni d3) ?_
  have e84 : h5 8 4 = nI (B.1 0) := s5.1 0 (by decide)
  rw [e84, wlet_e, s_setTrait rfl q0 h8 (by decide), s_setTrait rfl q1 h8 (by decide), s_setTrait rfl q2 h8 (by decide), s_setTrait rfl q3 h8 (by decide), s_setTrait rfl q4 h8 (by decide)]
  have s6 := ((((s5.setW (v := a) h8 (show 0 < 7 by decide)).setW (v := b) h8 (show 1 < 7 by decide)).setW (v := cc) h8 (show 2 < 7 by decide)).setW (v := d) h8 (show 3 < 7 by decide)).setW (v := e) h8 (show 4 < 7 by decide)
  rw [hup_ne (q := 8) (by decide), hup_ne (q := 8) (by decide), hup_ne (q := 8) (by decide), hup_ne (q := 8) (by decide), hup_ne (q := 8) (by decide), e84, nI_1, wlet_e, b11]
  refine o7.1 _ rfl ?_ ?_ (CS.setN (i := 0) s6 (by decide))
  · exact fs.up (fs.up (fs.up (fs.up (fs.up (fs.up ⟨fun _ _ _ => rfl, fun _ _ => rfl⟩ (by omega)) (by omega)) (by omega)) (by omega)) (by omega)) (by omega)
  · exact (((((c5.sc (by omega)).sc (by omega)).sc (by omega)).sc (by omega)).sc (by omega)).sc (by omega)
end P1
