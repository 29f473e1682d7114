/-! a toll's rows, by the model -/
def At (cs : List Int32) (a : Nat) (l : List Int32) : Prop := ∃ A B, cs = A ++ (l ++ B) ∧ A.length = a
theorem At.app {cs l m : List Int32} {a : Nat} (h : At cs a l) : At (cs ++ m) a l := by
  obtain ⟨A, B, e, ha⟩ := h
  exact ⟨A, B ++ m, by rw [e]; simp only [List.append_assoc], ha⟩
theorem At.end (cs l : List Int32) : At (cs ++ l) cs.length l := ⟨cs, [], by rw [List.append_nil], rfl⟩
theorem At.sg {cs l : List Int32} {a : Nat} {g : Nat → Int32} (h : At cs a l) (hc : ∀ j, j < cs.length → cs[j]? = some (g j)) : SG g a l := by
  obtain ⟨A, B, e, ha⟩ := h
  intro j hj
  subst e ha
  have := hc (A.length + j) (by simp only [List.length_append]; omega)
  rw [List.getElem?_append_right (by omega), Nat.add_sub_cancel_left, List.getElem?_append_left hj] at this
  exact this
def ga (t : Nat) (g g' : Hp) : Prop := (∀ q, q ≠ 92 → q ≠ 120 + t → q ≠ 125 + t → q ≠ 130 + t → q ≠ 135 + t → g' q = g q) ∧ (∀ i, i ≠ 4 → i ≠ 5 → i ≠ 6 → i ≠ 19 → i ≠ 20 → g' 92 i = g 92 i)
theorem ga.rf {t : Nat} {g : Hp} : ga t g g := ⟨fun _ _ _ _ _ _ => rfl, fun _ _ _ _ _ _ => rfl⟩
theorem ga.tr {t : Nat} {g g1 g2 : Hp} (a : ga t g g1) (b : ga t g1 g2) : ga t g g2 := ⟨fun q x y z w v => (b.1 q x y z w v).trans (a.1 q x y z w v), fun i x y z w v => (b.2 i x y z w v).trans (a.2 i x y z w v)⟩
theorem gt.a {t : Nat} {g g' : Hp} (a : gt t g g') : ga t g g' := ⟨fun q x _ _ _ y => a.1 q x y, fun i x y z w _ => a.2 i x y z w⟩
theorem ga.up {t : Nat} {g : Hp} {q i : Nat} {v : Int32} (hq : q = 120 + t ∨ q = 125 + t ∨ q = 130 + t) : ga t g (hup g q i v) := ⟨fun x _ y z w _ => hup_ne (by omega), fun j _ _ _ _ _ => by rw [hup_ne (by omega)]⟩
def RM (t : Nat) (g : Hp) (rs : List Row) (cs : List Int32) : Prop := g 92 20 = nI rs.length ∧ ∀ i r, rs[i]? = some r → ∃ a b c, g (120 + t) i = nI a ∧ g (125 + t) i = nI b ∧ g (130 + t) i = nI c ∧ b = a + (mcs r.1).length ∧ c ≤ cs.length ∧ At cs a (mcs r.1) ∧
  (match r.2 with
    | none => c = b
    | some l => c = b + (mcs l).length ∧ At cs b (mcs l))
theorem RM.same {t : Nat} {g g' : Hp} {rs : List Row} {cs : List Int32} (m : RM t g rs cs) (e : g' 92 20 = g 92 20) (e1 : g' (120 + t) = g (120 + t)) (e2 : g' (125 + t) = g (125 + t)) (e3 : g' (130 + t) = g (130 + t)) : RM t g' rs cs := ⟨e.trans m.1, fun i r hr => by rw [e1, e2, e3]; exact m.2 i r hr⟩
theorem RM.snoc {t : Nat} {g G : Hp} {rs : List Row} {cs E : List Int32} {x : Row} {a b c : Nat} (rm : RM t g rs cs) (e20 : G 92 20 = nI (rs.length + 1)) (o : ∀ i, i < rs.length → G (120 + t) i = g (120 + t) i ∧ G (125 + t) i = g (125 + t) i ∧ G (130 + t) i = g (130 + t) i) (n1 : G (120 + t) rs.length = nI a) (n2 : G (125 + t) rs.length = nI b) (n3 : G (130 + t) rs.length = nI c) (hb : b = a + (mcs x.1).length) (hc : c ≤ (cs ++ E).length) (h1 : At (cs ++ E) a (mcs x.1)) (h2 : (match x.2 with
    | none => c = b
    | some l => c = b + (mcs l).length ∧ At (cs ++ E) b (mcs l))) : RM t G (rs ++ [x]) (cs ++ E) := by
  refine ⟨by rw [e20, List.length_append]; rfl, fun i r hr => ?_⟩
  by_cases hi : i < rs.length
  · rw [List.getElem?_append_left hi] at hr
    obtain ⟨a', b', c', y1, y2, y3, y4, y5, y6, y7⟩ := rm.2 i r hr
    obtain ⟨o1, o2, o3⟩ := o i hi
    refine ⟨a', b', c', o1.trans y1, o2.trans y2, o3.trans y3, y4, by rw [List.length_append]; omega, y6.app, ?_⟩
    cases hr2 : r.2 with
    | none => rw [hr2] at y7; exact y7
    | some l => rw [hr2] at y7; exact ⟨y7.1, y7.2.app⟩
  · rw [List.getElem?_append_right (by omega)] at hr
    have hi0 : i - rs.length = 0 := by
      by_cases z : i - rs.length = 0
      · exact z
      · rw [show i - rs.length = (i - rs.length - 1) + 1 by omega] at hr
        exact nomatch hr
    have hi1 : i = rs.length := by omega
    subst hi1
    rw [hi0] at hr
    injection hr with hr
    subst hr
    exact ⟨a, b, c, n1, n2, n3, hb, hc, h1, h2⟩
theorem RM.mt {t : Nat} {g G : Hp} {rs : List Row} {cs : List Int32} (rm : RM t g rs cs) (l : LM t g cs) (hc : cs.length ≤ 800) (hn : rs.length ≤ 10) (hok : ∀ r ∈ rs, rowOk r) (e118 : G 118 t = nI rs.length) (e : ∀ q, q = 120 + t ∨ q = 125 + t ∨ q = 130 + t ∨ q = 135 + t → G q = g q) : MT t G rs := by
  refine ⟨e118, hn, hok, fun i r hr => ?_⟩
  obtain ⟨a, b, c, y1, y2, y3, y4, y5, y6, y7⟩ := rm.2 i r hr
  rw [e (120 + t) (by omega), e (125 + t) (by omega), e (130 + t) (by omega), e (135 + t) (by omega)]
  refine ⟨a, b, c, y1, y2, y3, y4, by omega, y6.sg l.2.2.2, ?_⟩
  cases hr2 : r.2 with
  | none => rw [hr2] at y7; exact y7
  | some l' => rw [hr2] at y7; exact ⟨y7.1, y7.2.sg l.2.2.2⟩
section M4
variable {t : Nat} {T : Nat → Int32} {L : Nat}
theorem MX.ga {g g' : Hp} {p : Nat} (ht : t < 4) (c : MX g T L p) (a : ga t g g') {q : Nat} (e4 : g' 92 4 = nI q) (hq : q ≤ L) : MX g' T L q := ⟨(a.2 2 (by decide) (by decide) (by decide) (by decide) (by decide)).trans c.1, c.2.1, e4, hq, fun i hi => by rw [a.1 93 (by decide) (by omega) (by omega) (by omega) (by omega)]; exact c.2.2.2.2 i hi⟩
theorem s_blanksF {g : Hp} {p q : Nat} (c : MX g T L p) {g' : Hp} (e2 : g' 92 2 = g 92 2) (e93 : g' 93 = g 93) (e4 : g' 92 4 = nI q) (hq : q ≤ L + 1) (Q : Hp → Prop) (hQ : ∀ h', fm g' h' → Q h') : w_X9_blanks g' Q := by
  have hL := c.2.1
  by_cases hl : q ≤ L
  · have c' : MX g' T L q := ⟨e2.trans c.1, hL, e4, hl, fun i hi => by rw [e93]; exact c.2.2.2.2 i hi⟩
    exact s_blanks c' Q (fun h' f _ => hQ h' f)
  · unfold w_X9_blanks w_X9_blanks_b0
    refine wl_run 0 (fun _ u => u = g') ?_ (Nat.le_refl _) rfl
    rintro n u K _ rfl _
    show w_X9_blanks_l0 Q K u
    unfold w_X9_blanks_l0 w_X9_byteAt
    rw [e4, e2, c.1]
    refine wif_n (fun z => by have := (nI_ltI (by omega) (by omega)).mp z; omega) (wif_p (by decide) (hQ u fm.rf))
theorem m_b113 {g : Hp} {v : Nat} (e18 : g 92 18 = nI t) (ht : t < 4) (e20 : g 92 20 = nI v) (hv : v < 10) (Q : Hp → Prop) (hQ : ∀ G, G = hup (hup g (130 + t) v (g 92 19)) 92 20 (nI (v + 1)) → w_X9_sign 59 G Q) : w_X9_pays_b113 g Q := by
  unfold w_X9_pays_b113
  rw [e18, e20]
  refine ⟨vp_in_nI ht (by decide), vp_in_nI hv (by decide), ?_⟩
  rw [nI_clamp (by omega), nI_clamp (by omega), Nat.one_mul, wlet_e, hup_ne (q := 92) (by omega), e20, nI_1, wlet_e]
  exact hQ _ rfl
/-- behind a fault inside a row -/
theorem m_b113F {g : Hp} {v : Nat} (e18 : g 92 18 = nI t) (ht : t < 4) (e20 : g 92 20 = nI v) (hv : v < 10) (h5 : g 92 5 ≠ 0) (Q : Hp → Prop) (hQ : ∀ G, ga t g G → (∀ i, i ≠ 20 → G 92 i = g 92 i) → Q G) : w_X9_pays_b113 g Q := by
  refine m_b113 e18 ht e20 hv Q (fun G e => ?_)
  have a1 : ∀ i, i ≠ 20 → G 92 i = g 92 i := fun i hi => by rw [e, hup_o (Or.inr hi), hup_ne (by omega)]
  rw [e_signN (by rw [a1 5 (by decide)]; exact h5)]
  refine hQ G ⟨fun q x _ _ w _ => ?_, fun i _ _ _ _ x => a1 i x⟩ a1
  rw [e, hup_ne x, hup_ne w]
theorem m_pays {g : Hp} {rs : List Row} {cs : List Int32} {p m : Nat} {R : TW} (c : MX g T L (sk T L p)) (hpL : p ≤ L) (hlt : sk T L p < L) (h5 : g 92 5 = 0) (h8 : g 92 8 = 0) (l : LM t g cs) (rm : RM t g rs cs) (hb : 2 * (cs.length : Int) ≤ 3 * p) (hrs : rs.length ≤ 10) (hR : RwN T L (m + 1) rs.length p R) (Q : Hp → Prop)
    (ok : ∀ g' x cs' q R', ga t g g' → g' 92 5 = 0 → g' 92 6 = g 92 6 → MX g' T L q → LM t g' cs' → RM t g' (rs ++ [x]) cs' → 2 * (cs'.length : Int) ≤ 3 * q → p < q → rs.length < 10 → RwN T L m (rs.length + 1) q R' → R = consW x R' → Q g')
    (bad : ∀ g' k x, ga t g g' → R = .inr (k, x) → g' 92 5 = nI k → g' 92 6 = nI x → g' 92 5 ≠ 0 → (∃ q, q ≤ L + 1 ∧ g' 92 4 = nI q) → Q g') : w_X9_pays g Q := by
  have ss : sk T L (sk T L p) = sk T L p := sc_id isB T L p
  have hkp : p ≤ sk T L p := sc_ge isB T L p
  have hL := c.2.1
  have ht := l.2.1
  have hs : sk T L p ≤ L := sc_le isB T hpL
  have hll : le T L (sk T L p) ≤ L := sc_le isLt T hs
  unfold RwN at hR
  rw [if_pos hlt] at hR
  unfold w_X9_pays
  rw [e_five]
  refine mkT (i := 0) (by decide) ss c h5 tcode_pay (fun g1 f1 w c1 => ?_) (fun g1 f1 w c1 z5 => ?_)
  · have w' : isW T L (wOf 13) p = true := w
    rw [if_pos w'] at hR
    have w1 := isW_le w'
    have w2 : (wOf 13).length = 3 := by decide
    have z5 : g1 92 5 = 0 := (f1.2 5 (by decide)).trans h5
    have e20 : g1 92 20 = nI rs.length := (f1.2 20 (by decide)).trans rm.1
    have l1 := l.fm f1
    refine wif_p i10 ?_
    rw [e20, q10]
    refine ⟨fun z => ?_, fun z => ?_⟩
    · have n10 : rs.length < 10 := by
        have : rs.length ≠ 10 := fun y => z (by rw [y])
        omega
      rw [if_neg (by omega)] at hR
      unfold w_X9_pays_b47
      refine wif_p z5 (s_skipWord c1 _ (fun g2 f2 c2 => ?_))
      have l2 := l1.fm f2
      have F2 := f1.tr f2
      rw [l2.1, show g2 92 20 = nI rs.length from (f2.2 20 (by decide)).trans e20]
      refine ⟨vp_in_nI ht (by decide), vp_in_nI n10 (by decide), ?_⟩
      rw [nI_clamp (by omega), nI_clamp (by omega), Nat.one_mul, l2.2.2.1, wlet_e]
      generalize hg3 : hup g2 (120 + t) rs.length (nI cs.length) = g3
      have a3 : ∀ q, q ≠ 120 + t → g3 q = g2 q := fun q hq => by rw [← hg3, hup_ne hq]
      have e92 : g3 92 = g2 92 := a3 92 (by omega)
      have c3 : MX g3 T L (le T L (sk T L p)) := ⟨by rw [e92]; exact c2.1, hL, by rw [e92]; exact c2.2.2.1, c2.2.2.2.1, fun i hi => by rw [a3 93 (by omega)]; exact c2.2.2.2.2 i hi⟩
      have l3 : LM t g3 cs := l2.same (by rw [e92]) (by rw [e92]) (a3 _ (by omega))
      have y5 : g3 92 5 = 0 := by rw [e92, f2.2 5 (by decide)]; exact z5
      have y6 : g3 92 6 = g 92 6 := by rw [e92, F2.2 6 (by decide)]
      have y8 : g3 92 8 = 0 := by rw [e92, F2.2 8 (by decide)]; exact h8
      have y20 : g3 92 20 = nI rs.length := by rw [e92, f2.2 20 (by decide)]; exact e20
      have A3 : ga t g g3 := ga.tr F2.t.a (by rw [← hg3]; exact ga.up (Or.inl rfl))
      have o120 : ∀ i, i < rs.length → g3 (120 + t) i = g (120 + t) i := fun i hi => by rw [← hg3, hup_o (Or.inr (by omega)), F2.1 _ (by omega)]
      have n120 : g3 (120 + t) rs.length = nI cs.length := by rw [← hg3, hup_eq]
      have hMN : MSr t T L 0 0 (fun h Q => w_X9_sum h Q) (N6 T L) := (m_all (t := t) (T := T) (L := L) 6 (by decide)).2.1 60 (by decide)
      have hMD : MSr t T L 1 0 (fun h Q => w_X9_ors h Q) (D6 T L) := (m_all (t := t) (T := T) (L := L) 6 (by decide)).2.2.2 60 (by decide)
      rcases hR with ⟨z', a1, a2⟩ | ⟨q, ts, a1, hR⟩
      · refine hMN g3 cs _ _ _ 0 c3 y5 l3 (by omega) (by omega) y8 a1 ⟨(fun _ _ _ e => nomatch e), fun g4 kk x e f x5 x6 fa => ?_⟩
        injection e with e
        subst e
        obtain ⟨n5, q', cc, fa4, fa5, fa6, _⟩ := fa
        rw [show g4 92 18 = nI t from (f.2 18 (by decide) (by decide) (by decide) (by decide)).trans l3.1, show g4 92 20 = nI rs.length from (f.2 20 (by decide) (by decide) (by decide) (by decide)).trans y20]
        refine ⟨vp_in_nI ht (by decide), vp_in_nI n10 (by decide), ?_⟩
        rw [nI_clamp (by omega), nI_clamp (by omega), Nat.one_mul, wlet_e]
        generalize hg5 : hup g4 (125 + t) rs.length (g4 92 19) = g5
        have e925 : g5 92 = g4 92 := by rw [← hg5, hup_ne (by omega)]
        rw [e_eatsN (by rw [e925]; exact n5)]
        refine wif_p rfl ?_
        refine m_b113F (by rw [e925]; exact (f.2 18 (by decide) (by decide) (by decide) (by decide)).trans l3.1) ht (by rw [e925]; exact (f.2 20 (by decide) (by decide) (by decide) (by decide)).trans y20) n10 (by rw [e925]; exact n5) _ (fun G aG bG => ?_)
        refine bad G kk x ((A3.tr f.a).tr (ga.tr (by rw [← hg5]; exact ga.up (Or.inr (Or.inl rfl))) aG)) a2 ?_ ?_ ?_ ⟨q', by omega, ?_⟩
        · rw [bG 5 (by decide), e925]; exact x5
        · rw [bG 6 (by decide), e925]; exact x6
        · rw [bG 5 (by decide), e925]; exact n5
        · rw [bG 4 (by decide), e925]; exact fa4
      · obtain ⟨y1, y2, y3, y4, y5', _⟩ := (gN6 (T := T) _ hll).2.1 _ _ a1
        have hq : q ≤ sk T L q := sc_ge isB T L q
        have hq2 : sk T L q ≤ L := sc_le isB T y2
        have hq3 : le T L (sk T L q) ≤ L := sc_le isLt T hq2
        have sq : sk T L (sk T L q) = sk T L q := sc_id isB T L q
        refine hMN g3 cs _ _ _ 0 c3 y5 l3 (by omega) (by omega) y8 a1 ⟨fun g4 q' ts' e f x5 x6 c4 l4 => ?_, (fun _ _ _ e => nomatch e)⟩
        injection e with e
        injection e with ea eb
        subst ea eb
        have x20 : g4 92 20 = nI rs.length := (f.2 20 (by decide) (by decide) (by decide) (by decide)).trans y20
        rw [l4.1, x20]
        refine ⟨vp_in_nI ht (by decide), vp_in_nI n10 (by decide), ?_⟩
        rw [nI_clamp (by omega), nI_clamp (by omega), Nat.one_mul, l4.2.2.1, wlet_e]
        generalize hg5 : hup g4 (125 + t) rs.length (nI (cs ++ mcs ts).length) = g5
        have a5 : ∀ q, q ≠ 125 + t → g5 q = g4 q := fun q hq => by rw [← hg5, hup_ne hq]
        have e925 : g5 92 = g4 92 := a5 92 (by omega)
        have c5 : MX g5 T L q := ⟨by rw [e925]; exact c4.1, hL, by rw [e925]; exact c4.2.2.1, c4.2.2.2.1, fun i hi => by rw [a5 93 (by omega)]; exact c4.2.2.2.2 i hi⟩
        have l5 : LM t g5 (cs ++ mcs ts) := l4.same (by rw [e925]) (by rw [e925]) (a5 _ (by omega))
        have w5 : g5 92 5 = 0 := by rw [e925]; exact x5
        have w6 : g5 92 6 = g 92 6 := by rw [e925, x6]; exact y6
        have w8 : g5 92 8 = 0 := by rw [e925, f.2 8 (by decide) (by decide) (by decide) (by decide)]; exact y8
        have w20 : g5 92 20 = nI rs.length := by rw [e925]; exact x20
        have A5 : ga t g g5 := (A3.tr f.a).tr (by rw [← hg5]; exact ga.up (Or.inr (Or.inl rfl)))
        have p120 : ∀ i, g5 (120 + t) i = g3 (120 + t) i := fun i => by rw [a5 _ (by omega), f.1 _ (by omega) (by omega)]
        have o125 : ∀ i, i < rs.length → g5 (125 + t) i = g (125 + t) i := fun i hi => by rw [← hg5, hup_o (Or.inr (by omega)), f.1 _ (by omega) (by omega), a3 _ (by omega), F2.1 _ (by omega)]
        have n125 : g5 (125 + t) rs.length = nI (cs ++ mcs ts).length := by rw [← hg5, hup_eq]
        have o130 : ∀ i, g5 (130 + t) i = g (130 + t) i := fun i => by rw [a5 _ (by omega), f.1 _ (by omega) (by omega), a3 _ (by omega), F2.1 _ (by omega)]
        have fin : ∀ (g6 : Hp) (q2 : Nat) (E : List Int32) (x : Row), gt t g5 g6 → g6 92 5 = 0 → g6 92 6 = g 92 6 → MX g6 T L q2 → LM t g6 (cs ++ (mcs ts ++ E)) → 2 * ((cs ++ (mcs ts ++ E)).length : Int) ≤ 3 * q2 + 1 → p < q2 → x.1 = ts → (match x.2 with
            | none => E = []
            | some l => E = mcs l) → EndW T L (RwN T L m) rs.length q2 x R → w_X9_pays_b113 g6 Q := by
          intro g6 q2 E x fg v5 v6 cx lx hbx hpq hx1 hx2 hE
          have u20 : g6 92 20 = nI rs.length := (fg.2 20 (by decide) (by decide) (by decide) (by decide)).trans w20
          have hk2 : q2 ≤ sk T L q2 := sc_ge isB T L q2
          refine m_b113 lx.1 ht u20 n10 Q (fun G eG => ?_)
          rw [lx.2.2.1] at eG
          have b1 : ∀ i, i ≠ 20 → G 92 i = g6 92 i := fun i hi => by rw [eG, hup_o (Or.inr hi), hup_ne (by omega)]
          have b2 : ∀ q, q ≠ 92 → q ≠ 130 + t → G q = g6 q := fun q z1 z2 => by rw [eG, hup_ne z1, hup_ne z2]
          have b20 : G 92 20 = nI (rs.length + 1) := by rw [eG, hup_eq]
          have aG : ga t g6 G := ⟨fun q z1 _ _ z2 _ => b2 q z1 z2, fun i _ _ _ _ z => b1 i z⟩
          have cG : MX G T L q2 := cx.ga ht aG ((b1 4 (by decide)).trans cx.2.2.1) cx.2.2.2.1
          have lG : LM t G (cs ++ (mcs ts ++ E)) := lx.same (b1 18 (by decide)) (b1 19 (by decide)) (b2 _ (by omega) (by omega))
          have rG : RM t G (rs ++ [x]) (cs ++ (mcs ts ++ E)) := by
            refine RM.snoc (a := cs.length) (b := (cs ++ mcs ts).length) (c := (cs ++ (mcs ts ++ E)).length) rm b20 (fun i hi => ⟨?_, ?_, ?_⟩) ?_ ?_ ?_ ?_ (Nat.le_refl _) ?_ ?_
            · rw [b2 _ (by omega) (by omega), fg.1 _ (by omega) (by omega), p120 i, o120 i hi]
            · rw [b2 _ (by omega) (by omega), fg.1 _ (by omega) (by omega), o125 i hi]
            · rw [eG, hup_ne (by omega), hup_o (Or.inr (by omega)), fg.1 _ (by omega) (by omega), o130 i]
            · rw [b2 _ (by omega) (by omega), fg.1 _ (by omega) (by omega), p120, n120]
            · rw [b2 _ (by omega) (by omega), fg.1 _ (by omega) (by omega), n125]
            · rw [eG, hup_ne (by omega), hup_eq]
            · rw [hx1, List.length_append]
            · rw [hx1, ← List.append_assoc]
              exact (At.end cs (mcs ts)).app
            · cases h2 : x.2 with
              | none =>
                rw [h2] at hx2
                have e0 : E = [] := hx2
                show (cs ++ (mcs ts ++ E)).length = (cs ++ mcs ts).length
                rw [e0, List.append_nil]
              | some l' =>
                rw [h2] at hx2
                have e0 : E = mcs l' := hx2
                show (cs ++ (mcs ts ++ E)).length = (cs ++ mcs ts).length + (mcs l').length ∧ At (cs ++ (mcs ts ++ E)) (cs ++ mcs ts).length (mcs l')
                rw [e0, ← List.append_assoc]
                exact ⟨List.length_append, At.end _ _⟩
          have G5 : G 92 5 = 0 := (b1 5 (by decide)).trans v5
          unfold EndW at hE
          refine s_signM cG G5 (by decide) _ (fun g7 f7 d1 d2 c7 => ?_) (fun g7 e7 dn c7 => ?_)
          · rw [if_pos ⟨d1, d2⟩] at hE
            obtain ⟨R', r1, r2⟩ := hE
            refine ok g7 x _ (sk T L q2 + 1) R' (((A5.tr fg.a).tr aG).tr f7.t.a) ((f7.2 5 (by decide)).trans G5) ?_ c7 (lG.fm f7) (rG.same (f7.2 20 (by decide)) (f7.1 _ (by omega)) (f7.1 _ (by omega)) (f7.1 _ (by omega))) (by omega) (by omega) n10 r1 r2
            rw [f7.2 6 (by decide), b1 6 (by decide), v6]
          · rw [if_neg dn] at hE
            refine bad g7 1 (sk T L q2) (((A5.tr fg.a).tr aG).tr e7.t.a) hE e7.2.2.1 e7.2.2.2 ?_ ⟨_, Nat.le_succ_of_le c7.2.2.2.1, c7.2.2.1⟩
            rw [e7.2.2.1]
            decide
        refine s_eats c5 w5 (letsT (i := 7) (by decide)) tcode_if _ (fun g6 f6 wi c6 => ?_) (fun g6 f6 wi c6 => ?_)
        · rw [if_pos wi] at hR
          have wi1 := isW_le wi
          have wi2 : (wOf (7 + 13)).length = 2 := by decide
          refine wif_n i10 ?_
          have z65 : g6 92 5 = 0 := (f6.2 5 (by decide)).trans w5
          have z66 : g6 92 6 = g 92 6 := (f6.2 6 (by decide)).trans w6
          have l6 := l5.fm f6
          have hb6 : 2 * ((cs ++ mcs ts).length : Int) ≤ 3 * (le T L (sk T L q) : Nat) + 0 := by rw [List.length_append]; omega
          rcases hR with ⟨z', b1, b2⟩ | ⟨q2, cq, b1, hE⟩
          · refine hMD g6 _ _ _ _ 0 c6 z65 l6 hb6 (by omega) ((f6.2 8 (by decide)).trans w8) b1 ⟨(fun _ _ _ e => nomatch e), fun g7 kk x e f x5 x6 fa => ?_⟩
            injection e with e
            subst e
            obtain ⟨n5, q', cc, fa4, fa5, fa6, _⟩ := fa
            refine m_b113F ((f.2 18 (by decide) (by decide) (by decide) (by decide)).trans l6.1) ht ((f.2 20 (by decide) (by decide) (by decide) (by decide)).trans ((f6.2 20 (by decide)).trans w20)) n10 n5 _ (fun G aG bG => ?_)
            refine bad G kk x (((A5.tr f6.t.a).tr f.a).tr aG) b2 ?_ ?_ ?_ ⟨q', fa5, ?_⟩
            · rw [bG 5 (by decide)]; exact x5
            · rw [bG 6 (by decide)]; exact x6
            · rw [bG 5 (by decide)]; exact n5
            · rw [bG 4 (by decide)]; exact fa4
          · obtain ⟨v1, v2, v3, v4, v5, _⟩ := (gD6 (T := T) _ hq3).2.1 _ _ b1
            refine hMD g6 _ _ _ _ 0 c6 z65 l6 hb6 (by omega) ((f6.2 8 (by decide)).trans w8) b1 ⟨fun g7 q' ts' e f x5 x6 c7 l7 => ?_, (fun _ _ _ e => nomatch e)⟩
            injection e with e
            injection e with ea eb
            subst ea eb
            rw [List.append_assoc] at l7
            refine fin g7 q2 (mcs cq) (ts, some cq) (f6.t.tr f) x5 (x6.trans z66) c7 l7 ?_ (by omega) rfl rfl hE
            simp only [List.length_append] at hb6 ⊢
            omega
        · rw [if_neg (isW_no wi)] at hR
          refine wif_p rfl ?_
          refine fin g6 (sk T L q) [] (ts, none) f6.t ((f6.2 5 (by decide)).trans w5) ((f6.2 6 (by decide)).trans w6) c6 (by rw [List.append_nil]; exact l5.fm f6) ?_ (by omega) rfl rfl ?_
          · rw [List.append_nil, List.length_append]
            omega
          · unfold EndW at hR ⊢
            rw [sq]
            exact hR
    · have n10 : rs.length = 10 := (nI_eq (b := 10) (by omega) (by decide)).mp (Classical.not_not.mp z)
      rw [if_pos (by omega)] at hR
      refine s_wrong q3 c1.2.2.1 z5 _ (fun g2 e2 e4 => ?_)
      have n5 : g2 92 5 ≠ 0 := by rw [e2.2.2.1]; decide
      unfold w_X9_pays_b47
      exact wif_n n5 (bad g2 3 _ (f1.t.a.tr e2.t.a) hR e2.2.2.1 e2.2.2.2 n5 ⟨_, Nat.le_succ_of_le c1.2.2.2.1, e4.trans c1.2.2.1⟩)
  · have w' : isW T L (wOf 13) p = false := w
    rw [if_neg (isW_no w')] at hR
    refine wif_n (not_not_intro rfl) ?_
    refine s_wrong q1 c1.2.2.1 z5 _ (fun g2 e2 e4 => ?_)
    have n5 : g2 92 5 ≠ 0 := by rw [e2.2.2.1]; decide
    unfold w_X9_pays_b47
    exact wif_n n5 (bad g2 1 _ (f1.t.a.tr e2.t.a) hR e2.2.2.1 e2.2.2.2 n5 ⟨_, Nat.le_succ_of_le c1.2.2.2.1, e4.trans c1.2.2.1⟩)
def TInv (t : Nat) (T : Nat → Int32) (L : Nat) (g0 : Hp) (R0 : TW) (n : Nat) (s : Hp) : Prop := ga t g0 s ∧ ((∃ k x, R0 = .inr (k, x) ∧ s 92 5 = nI k ∧ s 92 6 = nI x ∧ s 92 5 ≠ 0) ∨ (s 92 5 = 0 ∧ s 92 6 = g0 92 6 ∧ ∃ p rs cs R m, MX s T L (sk T L p) ∧ p ≤ L ∧ LM t s cs ∧ RM t s rs cs ∧ 2 * (cs.length : Int) ≤ 3 * p ∧ rs.length ≤ 10 ∧ n ≤ p ∧ RwN T L m rs.length p R ∧ ((∃ r1, R = .inl r1 ∧ R0 = .inl (rs ++ r1)) ∨ ∃ z, R = .inr z ∧ R0 = .inr z)))
theorem m_loop {g : Hp} {R : TW} {m : Nat} {p1 : Int32} {QQ : Int32 → Hp → Prop} (c : MX g T L (sk T L 0)) (h5 : g 92 5 = 0) (h8 : g 92 8 = 0) (l : LM t g []) (h20 : g 92 20 = 0) (hR : RwN T L m 0 0 R)
    (ok : ∀ g' rs cs, ga t g g' → R = .inl rs → g' 92 5 = 0 → g' 92 6 = g 92 6 → LM t g' cs → RM t g' rs cs → cs.length ≤ 800 → w_X9_toll_b95 p1 g' QQ)
    (bad : ∀ g' k x, ga t g g' → R = .inr (k, x) → g' 92 5 = nI k → g' 92 6 = nI x → g' 92 5 ≠ 0 → w_X9_toll_b95 p1 g' QQ) : w_X9_toll_b66 p1 QQ g := by
  have hL := c.2.1
  have ht := l.2.1
  unfold w_X9_toll_b66
  have i0 : RM t g [] [] := ⟨h20, fun i r hr => nomatch hr⟩
  refine wl_run 502 (TInv t T L g R) ?_ (Nat.zero_le _) ⟨ga.rf, Or.inr ⟨h5, rfl, 0, [], [], R, m, c, Nat.zero_le _, l, i0, by simp, by simp, Nat.le_refl _, hR, ?_⟩⟩
  · rintro n u K hn ⟨A, hI⟩ hK
    show w_X9_toll_l66 p1 QQ K u
    unfold w_X9_toll_l66
    rcases hI with ⟨k, x, e, x5, x6, n5⟩ | ⟨u5, u6, p, rs, cs, R1, m1, cu, hpL, lu, ru, hb, hrs, hnp, hR1, hRR⟩
    · exact wif_p n5 (bad u k x A e x5 x6 n5)
    refine wif_n (not_not_intro u5) ?_
    rw [cu.1, cu.2.2.1]
    have hs : sk T L p ≤ L := sc_le isB T hpL
    cases m1 with
    | zero => exact hR1.elim
    | succ m1 =>
    refine ⟨fun z => ?_, fun z => ?_⟩
    · have hz : ¬ sk T L p < L := by
        have := (nI_leI (by omega) (by omega)).mp z
        omega
      unfold RwN at hR1
      rw [if_neg hz] at hR1
      rcases hRR with ⟨r1, e1, e2⟩ | ⟨z, e1, _⟩
      · rw [hR1] at e1
        injection e1 with e1
        subst e1
        rw [List.append_nil] at e2
        exact ok u rs cs A e2 u5 u6 lu ru (by omega)
      · rw [hR1] at e1
        exact nomatch e1
    · have hlt : sk T L p < L := Nat.lt_of_not_le fun y => z ((nI_leI (by omega) (by omega)).mpr y)
      have u8 : u 92 8 = 0 := (A.2 8 (by decide) (by decide) (by decide) (by decide) (by decide)).trans h8
      refine m_pays cu hpL hlt u5 u8 lu ru hb hrs hR1 _ (fun g' x cs' q R' a v5 v6 c' l' r' hb' hpq h10 hR' e => ?_) (fun g' k x a e v5 v6 n5 hq => ?_)
      · refine s_blanks c' _ (fun g2 f2 c2 => ?_)
        refine hK (by omega) _ ⟨(A.tr a).tr f2.t.a, Or.inr ⟨(f2.2 5 (by decide)).trans v5, ?_, q, rs ++ [x], cs', R', m1, c2, c'.2.2.2.1, l'.fm f2, r'.same (f2.2 20 (by decide)) (f2.1 _ (by omega)) (f2.1 _ (by omega)) (f2.1 _ (by omega)), hb', ?_, by omega, ?_, ?_⟩⟩
        · rw [f2.2 6 (by decide), v6, u6]
        · rw [List.length_append]
          exact h10
        · rw [List.length_append]
          exact hR'
        · subst e
          rcases hRR with ⟨r1, e1, e2⟩ | ⟨z, e1, e2⟩
          · obtain ⟨r2, e3, e4⟩ := consW_ok e1.symm
            refine Or.inl ⟨r2, e3, ?_⟩
            rw [e2, e4, List.append_assoc]
            rfl
          · exact Or.inr ⟨z, consW_bad e1.symm, e2⟩
      · obtain ⟨q, hq1, hq2⟩ := hq
        refine s_blanksF cu (g' := g') (q := q) (a.2 2 (by decide) (by decide) (by decide) (by decide) (by decide)) (a.1 93 (by decide) (by omega) (by omega) (by omega) (by omega)) hq2 hq1 _ (fun g2 f2 => ?_)
        refine hK (by omega) _ ⟨(A.tr a).tr f2.t.a, Or.inl ⟨k, x, ?_, (f2.2 5 (by decide)).trans v5, (f2.2 6 (by decide)).trans v6, by rw [f2.2 5 (by decide)]; exact n5⟩⟩
        subst e
        rcases hRR with ⟨r1, e1, e2⟩ | ⟨z, e1, e2⟩
        · exact nomatch e1
        · rw [e2, ← e1]
  · cases R with
    | inl r1 => exact Or.inl ⟨r1, rfl, rfl⟩
    | inr z => exact Or.inr ⟨z, rfl, rfl⟩
end M4
