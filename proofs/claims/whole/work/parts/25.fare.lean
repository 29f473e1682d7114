/-! what one pays, by the program -/
theorem ev1_congr {f g : Nat → Int32} (hfg : ∀ i, i < 6 → f i = g i) (t : Int32) (s : List Int32) : ev1 f t s = ev1 g t s := by
  unfold ev1
  by_cases c : t < -6
  · rw [if_pos c, if_pos c]
  · rw [if_neg c, if_neg c]
    by_cases c2 : t < 0
    · obtain ⟨j, hj, _, e⟩ := m1_fact c c2
      rw [if_pos c2, if_pos c2, e, hfg j hj]
    · rw [if_neg c2, if_neg c2]
theorem evl_congr {f g : Nat → Int32} (hfg : ∀ i, i < 6 → f i = g i) : ∀ (l : List Int32) (s : List Int32), evl f l s = evl g l s
  | [], _ => rfl
  | t :: l, s => by
    show evl f l (ev1 f t s) = evl g l (ev1 g t s)
    rw [ev1_congr hfg, evl_congr hfg l]
theorem rowsV_congr {f g : Nat → Int32} (hfg : ∀ i, i < 6 → f i = g i) : ∀ (rs : List Row), rowsV f rs = rowsV g rs
  | [] => rfl
  | r :: rs => by
    show rowV f r + rowsV f rs = rowV g r + rowsV g rs
    rw [rowsV_congr hfg rs]
    obtain ⟨E, C⟩ := r
    cases C with
    | none =>
      show ((evl f E []).headD 0).toInt + _ = ((evl g E []).headD 0).toInt + _
      rw [evl_congr hfg]
    | some c =>
      show (if (evl f c []).headD 0 = 0 then (0 : Int) else ((evl f E []).headD 0).toInt) + _ = (if (evl g c []).headD 0 = 0 then (0 : Int) else ((evl g E []).headD 0).toInt) + _
      rw [evl_congr hfg c, evl_congr hfg E]
theorem payR_congr {f g : Nat → Int32} (hfg : ∀ i, i < 6 → f i = g i) (rs : List Row) : payR rs f = payR rs g := by
  unfold payR
  rw [rowsV_congr hfg]
theorem e_learn {p : Nat} (hp : lawQ p) {c v : Int32} (j : Nat) (hj : j < 6) (hc : -1 - c = nI j) {h : Hp} (Q : Hp → Prop) : w_X0_learn p c v h Q = Q (hup h (p + 2) j v) := by
  unfold w_X0_learn
  rw [e_put (by decide), hc, wr_n hj (by decide), (tgl hp).2.1]
def lfr (p : Nat) (h h' : Hp) : Prop := ∀ q, q ≠ p + 2 → q ≠ p + 3 → h' q = h q
theorem lfr.tr {p : Nat} {h h1 h2 : Hp} (a : lfr p h h1) (b : lfr p h1 h2) : lfr p h h2 := fun q h1 h2 => (b q h1 h2).trans (a q h1 h2)
theorem lawQ.ge {p : Nat} (h : lawQ p) : 14 ≤ p ∧ p ≤ 38 := by
  rcases h with rfl | rfl | rfl | rfl | rfl | rfl | rfl <;> decide
theorem lfr.CB {p : Nat} (hp : lawQ p) {h h' : Hp} {B : Br} (a : lfr p h h') (c : CB h B) : CB h' B := by
  have := hp.ge
  exact c.same (a 3 (by omega) (by omega)) (a 4 (by omega) (by omega)) (a 5 (by omega) (by omega)) (a 6 (by omega) (by omega)) (a 7 (by omega) (by omega))
theorem lfr.LC {p p' : Nat} (hp : lawQ p) (hp' : lawQ p') {h h' : Hp} {rs : List Row} (a : lfr p h h') (c : LC p' h rs) : LC p' h' rs := by
  have h1 : h' p' = h p' := by
    refine a p' ?_ ?_ <;> rcases hp with rfl | rfl | rfl | rfl | rfl | rfl | rfl <;> rcases hp' with rfl | rfl | rfl | rfl | rfl | rfl | rfl <;> decide
  have h2 : h' (p' + 1) = h (p' + 1) := by
    refine a _ ?_ ?_ <;> rcases hp with rfl | rfl | rfl | rfl | rfl | rfl | rfl <;> rcases hp' with rfl | rfl | rfl | rfl | rfl | rfl | rfl <;> decide
  exact c.same (by rw [h1]) h2
theorem s_charge {p : Nat} (hp : lawQ p) {h : Hp} {B : Br} (hB : CB h B) {rs : List Row} (hc : LC p h rs) {p2 p3 p4 p5 p6 : Int32} (a hh w d m : Nat) (e2 : p2 = nI a) (e3 : p3 = nI hh) (e4 : p4 = nI w) (e5 : p5 = nI d) (e6 : p6 = nI m) (ha : a ≤ 5400) (h3 : hh ≤ 999) (hd : d < 30) (hm : m < 1440)
    (Q : Int32 → Hp → Prop) (hQ : ∀ h', lfr p h h' → Q (nI (chargeB B rs a hh w d m)) h') : w_X4_charge 3 p p2 p3 p4 p5 p6 h Q := by
  have hpb := hp.ge
  subst e2 e3 e4 e5 e6
  unfold w_X4_charge
  rw [e_shadowOf hh a rfl rfl h3 ha, e_learn hp (c := -1) 0 (by decide) (by decide), e_learn hp (c := -2) 1 (by decide) (by decide), e_learn hp (c := -3) 2 (by decide) (by decide), e_learn hp (c := -4) 3 (by decide) (by decide), e_learn hp (c := -5) 4 (by decide) (by decide), e_at (by decide), rd_n hd (by decide), tg_32, e_learn hp (c := -6) 5 (by decide) (by decide)]
  have e7 : ∀ g : Hp, (∀ q, q ≠ p + 2 → g q = h q) → g 6 d = nI (B.2.2.1 d) := by
    intro g hg
    rw [hg 6 (by omega)]
    exact hB.1.2.2.1 d hd
  rw [e7 (hup (hup (hup (hup (hup h (p + 2) 0 (nI (shB hh a))) (p + 2) 1 (nI hh)) (p + 2) 2 (nI w)) (p + 2) 3 (nI m / 60)) (p + 2) 4 (nI d)) (fun q hq => by rw [hup_ne hq, hup_ne hq, hup_ne hq, hup_ne hq, hup_ne hq])]
  have e60 : nI m / 60 = nI (m / 60) := by
    rw [q60, pk_div (by omega) (by omega) (by omega)]
  rw [e60]
  generalize hg : hup (hup (hup (hup (hup (hup h (p + 2) 0 (nI (shB hh a))) (p + 2) 1 (nI hh)) (p + 2) 2 (nI w)) (p + 2) 3 (nI (m / 60))) (p + 2) 4 (nI d)) (p + 2) 5 (nI (B.2.2.1 d)) = g
  have hgo : ∀ q, q ≠ p + 2 → g q = h q := by
    intro q hq
    rw [← hg, hup_ne hq, hup_ne hq, hup_ne hq, hup_ne hq, hup_ne hq, hup_ne hq]
  have hgf : ∀ i, i < 6 → g (p + 2) i = fcts (shB hh a) hh w (m / 60) d (B.2.2.1 d) i := by
    intro i hi
    rw [← hg]
    have h6 : i = 0 ∨ i = 1 ∨ i = 2 ∨ i = 3 ∨ i = 4 ∨ i = 5 := by omega
    rcases h6 with rfl | rfl | rfl | rfl | rfl | rfl <;> simp [hup_at, fcts]
  refine s_sum hp (hc.same (by rw [hgo p (by omega)]) (hgo (p + 1) (by omega))) _ (fun h' hf => ?_)
  rw [payR_congr hgf]
  refine hQ h' (fun q h1 h2 => ?_)
  rw [hf q h2, hgo q h1]
theorem s_fare {p : Nat} (hp : lawQ p) {h : Hp} {B : Br} (hB : CB h B) {rs : List Row} (hc : LC p h rs) {p2 p3 p4 p5 p6 : Int32} (b k d m : Nat) (dark : Bool) (e2 : p2 = nI b) (e3 : p3 = nI k) (e4 : p4 = nI d) (e5 : p5 = nI m) (e6 : (p6 = 0) ↔ dark = false) (hb : b < 2) (hk : k < 8) (hd : d < 30) (hm : m < 1440)
    (Q : Int32 → Hp → Prop) (hQ : ∀ h', lfr p h h' → Q (nI (fareB B rs b k d m dark)) h') : w_X4_fare 3 p p2 p3 p4 p5 p6 h Q := by
  have hw := hB.2.2.who k
  have main : ∀ (a : Nat), a = (if dark then 0 else altB B b d m) → w_X4_fare_b18 3 p p2 p3 p4 p5 p6 (nI a) h Q := by
    intro a ha
    have hab : a ≤ 5400 := by
      rw [ha]
      split
      · omega
      · exact altB_b hB.2.2 b d m
    unfold w_X4_fare_b18
    rw [e_standing hB k e3 hk, e_trait hB k 1 e3 q1 hk (by decide)]
    refine s_charge hp hB hc a (stB B k) (B.2.2.2 k 1) d m rfl rfl rfl e4 e5 hab (by unfold stB; omega) hd hm _ (fun h1 f1 => ?_)
    have hB1 := f1.CB hp hB
    have hc1 := f1.LC hp hp hc
    rw [e_trait hB1 k 6 e3 q6 hk (by decide)]
    by_cases c0 : B.2.2.2 k 6 = 0
    · rw [c0, wif_f (by decide)]
      have e : fareB B rs b k d m dark = chargeB B rs a (stB B k) (B.2.2.2 k 1) d m := by
        unfold fareB
        simp only
        rw [if_pos c0, ← ha]
      rw [← e]
      exact hQ h1 f1
    · rw [wif_t (nI_ne0 (by omega) (by omega)), e_trait hB1 k 1 e3 q1 hk (by decide)]
      refine s_charge hp hB1 hc1 a (B.2.2.2 k 6) (2 * B.2.2.2 k 1) d m rfl rfl (by rw [q2, pk_mul]) e4 e5 hab (by omega) hd hm _ (fun h2 f2 => ?_)
      have b1 : chargeB B rs a (B.2.2.2 k 6) (2 * B.2.2.2 k 1) d m ≤ 9999 := payR_b _ _
      have b2 : chargeB B rs a (stB B k) (B.2.2.2 k 1) d m ≤ 9999 := payR_b _ _
      have e : fareB B rs b k d m dark = if chargeB B rs a (B.2.2.2 k 6) (2 * B.2.2.2 k 1) d m < chargeB B rs a (stB B k) (B.2.2.2 k 1) d m then chargeB B rs a (B.2.2.2 k 6) (2 * B.2.2.2 k 1) d m else chargeB B rs a (stB B k) (B.2.2.2 k 1) d m := by
        unfold fareB
        simp only
        rw [if_neg c0, ← ha]
      have e2 : (if nI (chargeB B rs a (B.2.2.2 k 6) (2 * B.2.2.2 k 1) d m) < nI (chargeB B rs a (stB B k) (B.2.2.2 k 1) d m) then nI (chargeB B rs a (B.2.2.2 k 6) (2 * B.2.2.2 k 1) d m) else nI (chargeB B rs a (stB B k) (B.2.2.2 k 1) d m)) = nI (fareB B rs b k d m dark) := by
        rw [e]
        by_cases cl : chargeB B rs a (B.2.2.2 k 6) (2 * B.2.2.2 k 1) d m < chargeB B rs a (stB B k) (B.2.2.2 k 1) d m
        · rw [if_pos cl, if_pos ((nI_ltI (by omega) (by omega)).mpr cl)]
        · rw [if_neg cl, if_neg (fun z => cl ((nI_ltI (by omega) (by omega)).mp z))]
      rw [e2]
      exact hQ h2 (f1.tr f2)
  unfold w_X4_fare
  by_cases c : p6 = 0
  · rw [wif_t c, e_altitudeAt hB b d m e2 e4 e5 hb hd hm]
    exact main _ (by rw [e6.mp c]; rfl)
  · rw [wif_f c]
    have h1 : dark = true := by
      cases dark with
      | false => exact absurd (e6.mpr rfl) c
      | true => rfl
    exact main 0 (by rw [h1]; rfl)
