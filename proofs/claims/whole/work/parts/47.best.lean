/-! the best minute and the week -/
def costM (B : Br) (rs : List Row) (b k d m : Nat) : Nat := fareB B rs b k d m false + extraB B b k m
/-- the first of the least of f at lo, lo + 1, .. -/
def bst (f : Nat → Nat) (lo : Nat) : Nat → Option (Nat × Nat)
  | 0 => none
  | n + 1 => match bst f lo n with
    | none => some (lo + n, f (lo + n))
    | some q => if f (lo + n) < q.2 then some (lo + n, f (lo + n)) else some q
theorem bst_val {f : Nat → Nat} {lo : Nat} : ∀ {n : Nat} {q : Nat × Nat}, bst f lo n = some q → lo ≤ q.1 ∧ q.1 < lo + n ∧ q.2 = f q.1
  | 0, _, h => by simp [bst] at h
  | n + 1, q, h => by
    unfold bst at h
    cases e : bst f lo n with
    | none =>
      rw [e] at h
      have h1 := (Option.some.inj h).symm
      rw [h1]
      exact ⟨by show lo ≤ lo + n; omega, by show lo + n < _; omega, rfl⟩
    | some q0 =>
      rw [e] at h
      simp only at h
      obtain ⟨a, b, c⟩ := bst_val e
      split at h
      · have h1 := (Option.some.inj h).symm
        rw [h1]
        exact ⟨by show lo ≤ lo + n; omega, by show lo + n < _; omega, rfl⟩
      · have h1 := (Option.some.inj h).symm
        rw [h1]
        exact ⟨a, by omega, c⟩
def enc (o : Option (Nat × Nat)) : Int32 × Int32 := match o with
  | none => (-1, 0)
  | some q => (nI q.1, nI q.2)
theorem nI_m1 {n : Nat} (hn : n < 2 ^ 31) : nI n ≠ -1 := fun z => by
  have h9 := congrArg Int32.toInt z
  rw [nI_toInt hn] at h9
  have h8 : (-1 : Int32).toInt = -1 := by decide
  omega
/-- the first of the least of a day -/
def bstD (B : Br) (rs : List Row) (b k d : Nat) : Option (Nat × Nat) := bst (costM B rs b k d) (if B.1 2 < B.2.2.2 k 2 then B.2.2.2 k 2 else B.1 2) ((if B.2.2.2 k 3 < B.1 3 then B.2.2.2 k 3 else B.1 3) + 1 - (if B.1 2 < B.2.2.2 k 2 then B.2.2.2 k 2 else B.1 2))
theorem costM_b {B : Br} (hw : WB B) (rs : List Row) (b k d : Nat) {m : Nat} (hm : m ≤ 1439) : costM B rs b k d m ≤ 24000 := by
  have h1 := fareB_b B rs b k d m false
  have h2 := extraB_b hw b k hm
  unfold costM
  omega
section F3
variable {h : Hp} {B : Br} {tn : Nat} {tl : Nat → List Row} {r : Rc} {K : Hp → Prop}
theorem s_expense (hR : RA h B tn tl r) {p1 p2 p3 p4 : Int32} (b k d m : Nat) (e1 : p1 = nI b) (e2 : p2 = nI k) (e3 : p3 = nI d) (e4 : p4 = nI m) (hb : b < 2) (hk : k < 8) (hd : d < 30) (hm : m < 1440) (hf : B.2.2.2 k 2 ≤ m) (Q : Int32 → Hp → Prop) (hQ : ∀ h', KP h h' → Q (nI (costM B (rowsOf tn tl (tb r b)) b k d m)) h') : w_X8_expense p1 p2 p3 p4 h Q := by
  unfold w_X8_expense
  refine s_fareF hR b k d m false e1 e2 e3 e4 (by simp) hb hk hd hm _ (fun h1 k1 => ?_)
  have a := KP.RA k1 hR
  try dsimp only
  rw [e_extra a.1 b k m e1 e2 e4 hb hk hf, nI_add]
  exact hQ h1 k1
theorem s_bestMinute (hR : RA h B tn tl r) {p1 p2 p3 : Int32} (b k d : Nat) (e1 : p1 = nI b) (e2 : p2 = nI k) (e3 : p3 = nI d) (hb : b < 2) (hk : k < 8) (hd : d < 30) (Q : Int32 → Hp → Prop) (hQ : ∀ h', KP h h' → Q (enc (bstD B (rowsOf tn tl (tb r b)) b k d)).1 h') : w_X8_bestMinute p1 p2 p3 h Q := by
  have hw := hR.1.2.2
  have hwk := hw.who k
  have hw3 := hw.2.2.1
  have f6 : h 3 6 = nI (B.1 2) := hR.1.1.1.2.2.1
  have f7 : h 3 7 = nI (B.1 3) := hR.1.1.1.2.2.2.1
  unfold w_X8_bestMinute
  rw [e_trait hR.1 k 2 e2 q2 hk (by decide), f6, f7]
  try dsimp only
  rw [wlet_e, e_trait hR.1 k 3 e2 q3 hk (by decide)]
  try dsimp only
  rw [wlet_e]
  have el : (if nI (B.1 2) < nI (B.2.2.2 k 2) then nI (B.2.2.2 k 2) else nI (B.1 2)) = nI (if B.1 2 < B.2.2.2 k 2 then B.2.2.2 k 2 else B.1 2) := by
    by_cases c : B.1 2 < B.2.2.2 k 2
    · rw [if_pos c, if_pos ((nI_ltI (by omega) (by omega)).mpr c)]
    · rw [if_neg c, if_neg (fun z => c ((nI_ltI (by omega) (by omega)).mp z))]
  have eh : (if nI (B.2.2.2 k 3) < nI (B.1 3) then nI (B.2.2.2 k 3) else nI (B.1 3)) = nI (if B.2.2.2 k 3 < B.1 3 then B.2.2.2 k 3 else B.1 3) := by
    by_cases c : B.2.2.2 k 3 < B.1 3
    · rw [if_pos c, if_pos ((nI_ltI (by omega) (by omega)).mpr c)]
    · rw [if_neg c, if_neg (fun z => c ((nI_ltI (by omega) (by omega)).mp z))]
  rw [el, eh]
  unfold bstD at hQ
  have hlo : B.2.2.2 k 2 ≤ (if B.1 2 < B.2.2.2 k 2 then B.2.2.2 k 2 else B.1 2) ∧ (if B.1 2 < B.2.2.2 k 2 then B.2.2.2 k 2 else B.1 2) ≤ 1439 := by split <;> omega
  have hhi : (if B.2.2.2 k 3 < B.1 3 then B.2.2.2 k 3 else B.1 3) ≤ 1439 := by split <;> omega
  generalize (if B.1 2 < B.2.2.2 k 2 then B.2.2.2 k 2 else B.1 2) = lo at hlo hQ ⊢
  generalize (if B.2.2.2 k 3 < B.1 3 then B.2.2.2 k 3 else B.1 3) = hi at hhi hQ ⊢
  have hN : ∀ n, lo + n ≤ 1440 → ∀ q, bst (costM B (rowsOf tn tl (tb r b)) b k d) lo n = some q → q.1 ≤ 1439 ∧ q.2 ≤ 24000 := fun n hn q hq => by
    obtain ⟨a1, a2, a3⟩ := bst_val hq
    have := costM_b hw (rowsOf tn tl (tb r b)) b k d (m := q.1) (by omega)
    omega
  unfold w_X8_bestMinute_b52
  refine wl_run (hi + 1 - lo) (fun t (st : Int32 × Int32 × Int32 × Hp) => st.2.2.1 = nI (lo + t) ∧ (st.1, st.2.1) = enc (bst (costM B (rowsOf tn tl (tb r b)) b k d) lo t) ∧ KP h st.2.2.2) ?_ (Nat.zero_le _) ⟨rfl, rfl, KP.rf⟩
  rintro t ⟨v6, v7, v8, h1⟩ K2 ht ⟨e8, e67, kk⟩ hK2
  simp only at e8 e67 kk
  subst e8
  show w_X8_bestMinute_l52 p1 p2 p3 (nI hi) Q K2 v6 v7 (nI (lo + t)) h1
  unfold w_X8_bestMinute_l52
  have e6 : v6 = (enc (bst (costM B (rowsOf tn tl (tb r b)) b k d) lo t)).1 := congrArg Prod.fst e67
  have e7 : v7 = (enc (bst (costM B (rowsOf tn tl (tb r b)) b k d) lo t)).2 := congrArg Prod.snd e67
  have hend : t = hi + 1 - lo → Q v6 h1 := fun e => by
    rw [e6, e]
    exact hQ h1 kk
  refine ⟨fun z => hend (by have := (nI_ltI (by omega) (by omega)).mp z; omega), fun z => ?_⟩
  have hle : lo + t ≤ hi := Nat.le_of_not_lt fun q => z ((nI_ltI (by omega) (by omega)).mpr q)
  refine wif_n (fun z2 => by rw [q1440] at z2; have := (nI_leI (by omega) (by omega)).mp z2; omega) ?_
  have a1 := KP.RA kk hR
  refine s_expense a1 b k d (lo + t) e1 e2 e3 rfl hb hk hd (by omega) (by omega) _ (fun h2 k2 => ?_)
  have hcb := costM_b hw (rowsOf tn tl (tb r b)) b k d (m := lo + t) (by omega)
  have hK3 := hK2 (by omega)
  unfold w_X8_bestMinute_b91 w_X8_bestMinute_b99
  rw [nI_1]
  cases eb : bst (costM B (rowsOf tn tl (tb r b)) b k d) lo t with
  | none =>
    rw [eb] at e6 e7
    refine wif_p e6 (hK3 _ ⟨rfl, ?_, KP.tr kk k2⟩)
    show _ = enc (match bst (costM B (rowsOf tn tl (tb r b)) b k d) lo t with
      | none => some (lo + t, costM B (rowsOf tn tl (tb r b)) b k d (lo + t))
      | some q => if costM B (rowsOf tn tl (tb r b)) b k d (lo + t) < q.2 then some (lo + t, costM B (rowsOf tn tl (tb r b)) b k d (lo + t)) else some q)
    rw [eb]
    rfl
  | some q =>
    rw [eb] at e6 e7
    have hqb := hN t (by omega) q eb
    have hs : bst (costM B (rowsOf tn tl (tb r b)) b k d) lo (t + 1) = if costM B (rowsOf tn tl (tb r b)) b k d (lo + t) < q.2 then some (lo + t, costM B (rowsOf tn tl (tb r b)) b k d (lo + t)) else some q := by
      show (match bst (costM B (rowsOf tn tl (tb r b)) b k d) lo t with
        | none => some (lo + t, costM B (rowsOf tn tl (tb r b)) b k d (lo + t))
        | some q => if costM B (rowsOf tn tl (tb r b)) b k d (lo + t) < q.2 then some (lo + t, costM B (rowsOf tn tl (tb r b)) b k d (lo + t)) else some q) = _
      rw [eb]
    have e7' : v7 = nI q.2 := e7
    have e6' : v6 = nI q.1 := e6
    rw [e7']
    refine wif_n (by rw [e6']; exact nI_m1 (by omega)) ⟨fun z2 => ?_, fun z2 => ?_⟩
    · have z3 := (nI_leI (by omega) (by omega)).mp z2
      refine hK3 _ ⟨rfl, ?_, KP.tr kk k2⟩
      rw [hs, if_neg (by omega)]
      show (v6, nI q.2) = (nI q.1, nI q.2)
      rw [e6']
    · have z3 : ¬ q.2 ≤ costM B (rowsOf tn tl (tb r b)) b k d (lo + t) := fun w => z2 ((nI_leI (by omega) (by omega)).mpr w)
      refine hK3 _ ⟨rfl, ?_, KP.tr kk k2⟩
      rw [hs, if_pos (by omega)]
      rfl
/-! the model's -/
theorem s_costOfM (hR : RA h B tn tl r) {p1 p2 p3 p4 p5 : Int32} (b k d m : Nat) (e1 : p1 = nI b) (e2 : p2 = nI k) (e3 : p3 = nI d) (e4 : p4 = nI m) (e5 : p5 = 0) (hb : b < 2) (hk : k < B.1 0) (hd : d < 30) (hm : m < 1440) (hf : B.2.2.2 k 2 ≤ m) (Q : Int32 → Hp → Prop) (hQ : ∀ h', mfr h h' → Q (nI (costM B (rowsOf tn tl (tb r b)) b k d m)) h') : w_X9_costOf p1 p2 p3 p4 p5 h Q := by
  have w0 := hR.1.2.2.1
  unfold w_X9_costOf
  refine s_coinsF hR b k d m false e1 e2 e3 e4 (by rw [e5]; simp) hb hk hd hm _ (fun h1 k1 => ?_)
  have a := KP.RA (KP_mfr k1) hR
  have v8 : vp_in p2 8 := by rw [e2]; exact vp_in_nI (by omega) (by decide)
  refine ⟨v8, vl 4 7 (by decide) (by decide), v8, vl 2 7 (by decide) (by decide), ?_⟩
  rw [e2, nI_clamp (by omega), Nat.one_mul, cl4, cl2, cl10, a.2.1.2.2.2.1 k 4 hk (by decide), a.2.1.2.2.2.1 k 2 hk (by decide), a.2.1.1 10 (by decide), e4, pk_sub hf, pk_mul, nI_add, q0, nI_add, nI_add]
  have ee : costM B (rowsOf tn tl (tb r b)) b k d m = fareB B (rowsOf tn tl (tb r b)) b k d m false + B.2.2.2 k 4 * (m - B.2.2.2 k 2) + (if b = 0 then 0 else B.1 10) := by
    unfold costM extraB
    omega
  have hq := hQ h1 k1
  rw [ee] at hq
  refine ⟨fun z => ?_, fun z => ⟨vl 10 11 (by decide) (by decide), ?_⟩⟩
  · have : b = 0 := by
      have h9 : b ≠ 1 := fun e => z (by rw [e1, e]; rfl)
      omega
    rw [if_pos this] at hq
    exact hq
  · have : b = 1 := (nI_eq (b := 1) (by omega) (by omega)).mp (by rw [← e1]; exact Classical.not_not.mp z)
    rw [if_neg (by omega)] at hq
    exact hq
theorem s_bestMinuteM (hR : RA h B tn tl r) {p1 p2 p3 : Int32} (b k d : Nat) (e1 : p1 = nI b) (e2 : p2 = nI k) (e3 : p3 = nI d) (hb : b < 2) (hk : k < B.1 0) (hd : d < 30) (Q : Int32 → Hp → Prop) (hQ : ∀ h', mfr h h' → Q (enc (bstD B (rowsOf tn tl (tb r b)) b k d)).1 h') : w_X9_bestMinute p1 p2 p3 h Q := by
  have hw := hR.1.2.2
  have hwk := hw.who k
  have hw3 := hw.2.2.1
  have w0 := hw.1
  unfold w_X9_bestMinute
  refine ⟨vl 2 11 (by decide) (by decide), ?_⟩
  rw [cl2, hR.2.1.1 2 (by decide)]
  try dsimp only
  rw [wlet_e]
  unfold bstD at hQ
  have hlo : (if B.1 2 < B.2.2.2 k 2 then B.2.2.2 k 2 else B.1 2) ≤ 1439 ∧ (∀ m, (if B.1 2 < B.2.2.2 k 2 then B.2.2.2 k 2 else B.1 2) ≤ m ↔ B.1 2 ≤ m ∧ B.2.2.2 k 2 ≤ m) := by
    split
    · exact ⟨by omega, fun m => by omega⟩
    · exact ⟨by omega, fun m => by omega⟩
  have hhi : (if B.2.2.2 k 3 < B.1 3 then B.2.2.2 k 3 else B.1 3) ≤ 1439 ∧ (∀ m, m ≤ (if B.2.2.2 k 3 < B.1 3 then B.2.2.2 k 3 else B.1 3) ↔ m ≤ B.1 3 ∧ m ≤ B.2.2.2 k 3) := by
    split
    · exact ⟨by omega, fun m => by omega⟩
    · exact ⟨by omega, fun m => by omega⟩
  generalize (if B.1 2 < B.2.2.2 k 2 then B.2.2.2 k 2 else B.1 2) = lo at hlo hQ
  generalize (if B.2.2.2 k 3 < B.1 3 then B.2.2.2 k 3 else B.1 3) = hi at hhi hQ
  obtain ⟨lo1, lo2⟩ := hlo
  obtain ⟨hi1, hi2⟩ := hhi
  have hlo2 := (lo2 lo).mp (Nat.le_refl _)
  have hhi2 := (hi2 hi).mp (Nat.le_refl _)
  have hN : ∀ n, lo + n ≤ 1440 → ∀ q, bst (costM B (rowsOf tn tl (tb r b)) b k d) lo n = some q → q.1 ≤ 1439 ∧ q.2 ≤ 24000 := fun n hn q hq => by
    obtain ⟨a1, a2, a3⟩ := bst_val hq
    have := costM_b hw (rowsOf tn tl (tb r b)) b k d (m := q.1) (by omega)
    omega
  unfold w_X9_bestMinute_b14
  -- at minute m so many of lo .. hi have been seen
  refine wl_run (B.1 3 + 1 - B.1 2) (fun t (st : Int32 × Int32 × Int32 × Hp) => st.2.2.1 = nI (B.1 2 + t) ∧ (st.1, st.2.1) = enc (bst (costM B (rowsOf tn tl (tb r b)) b k d) lo (min (B.1 2 + t) (hi + 1) - lo)) ∧ mfr h st.2.2.2) ?_ (Nat.zero_le _) ⟨rfl, ?_, fun _ _ _ => rfl⟩
  rotate_left
  · rw [show min (B.1 2 + 0) (hi + 1) - lo = 0 by omega]
    rfl
  rintro t ⟨v4, v5, v6, h1⟩ K2 ht ⟨e6, e45, kk⟩ hK2
  simp only at e6 e45 kk
  subst e6
  show w_X9_bestMinute_l14 p1 p2 p3 Q K2 v4 v5 (nI (B.1 2 + t)) h1
  unfold w_X9_bestMinute_l14
  have a1 := KP.RA (KP_mfr kk) hR
  have e4 := congrArg Prod.fst e45
  have e5 := congrArg Prod.snd e45
  simp only at e4 e5
  refine ⟨vl 3 11 (by decide) (by decide), ?_⟩
  rw [cl3, a1.2.1.1 3 (by decide)]
  refine ⟨fun z => ?_, fun z => ?_⟩
  · have z1 := (nI_ltI (by omega) (by omega)).mp z
    rw [e4, show min (B.1 2 + t) (hi + 1) - lo = hi + 1 - lo by omega]
    exact hQ h1 kk
  have hle : B.1 2 + t ≤ B.1 3 := Nat.le_of_not_lt fun q => z ((nI_ltI (by omega) (by omega)).mpr q)
  have hK3 := hK2 (by omega)
  rw [e_canCome a1.2.1 k (B.1 2 + t) e2 rfl hk (by omega)]
  unfold w_X9_bestMinute_b66 w_X9_bestMinute_b74
  rw [nI_1]
  by_cases c : (B.1 2 ≤ B.1 2 + t ∧ B.1 2 + t ≤ B.1 3) ∧ B.2.2.2 k 2 ≤ B.1 2 + t ∧ B.2.2.2 k 3 ≥ B.1 2 + t
  · rw [if_pos ⟨c.1, c.2.1, c.2.2⟩]
    have cl := (lo2 (B.1 2 + t)).mpr ⟨c.1.1, c.2.1⟩
    have ch := (hi2 (B.1 2 + t)).mpr ⟨c.1.2, c.2.2⟩
    refine wif_p i10 (s_costOfM a1 b k d (B.1 2 + t) e1 e2 e3 rfl rfl hb hk hd (by omega) c.2.1 _ (fun h2 k2 => ?_))
    have hcb := costM_b hw (rowsOf tn tl (tb r b)) b k d (m := B.1 2 + t) (by omega)
    have en : min (B.1 2 + t) (hi + 1) - lo = B.1 2 + t - lo := by omega
    have en1 : min (B.1 2 + (t + 1)) (hi + 1) - lo = (B.1 2 + t - lo) + 1 := by omega
    have em : lo + (B.1 2 + t - lo) = B.1 2 + t := by omega
    rw [en] at e4 e5
    have hs : bst (costM B (rowsOf tn tl (tb r b)) b k d) lo ((B.1 2 + t - lo) + 1) = (match bst (costM B (rowsOf tn tl (tb r b)) b k d) lo (B.1 2 + t - lo) with
        | none => some (B.1 2 + t, costM B (rowsOf tn tl (tb r b)) b k d (B.1 2 + t))
        | some q => if costM B (rowsOf tn tl (tb r b)) b k d (B.1 2 + t) < q.2 then some (B.1 2 + t, costM B (rowsOf tn tl (tb r b)) b k d (B.1 2 + t)) else some q) := by
      show (match bst (costM B (rowsOf tn tl (tb r b)) b k d) lo (B.1 2 + t - lo) with
        | none => some (lo + (B.1 2 + t - lo), costM B (rowsOf tn tl (tb r b)) b k d (lo + (B.1 2 + t - lo)))
        | some q => if costM B (rowsOf tn tl (tb r b)) b k d (lo + (B.1 2 + t - lo)) < q.2 then some (lo + (B.1 2 + t - lo), costM B (rowsOf tn tl (tb r b)) b k d (lo + (B.1 2 + t - lo))) else some q) = _
      rw [em]
    cases eb : bst (costM B (rowsOf tn tl (tb r b)) b k d) lo (B.1 2 + t - lo) with
    | none =>
      rw [eb] at e4 e5 hs
      refine wif_p e4 (hK3 _ ⟨rfl, ?_, mfr.tr kk k2⟩)
      rw [en1, hs]
      rfl
    | some q =>
      rw [eb] at e4 e5 hs
      simp only at hs
      have hqb := hN _ (by omega) q eb
      have e5' : v5 = nI q.2 := e5
      have e4' : v4 = nI q.1 := e4
      rw [e5']
      refine wif_n (by rw [e4']; exact nI_m1 (by omega)) ⟨fun z2 => ?_, fun z2 => ?_⟩
      · have z3 := (nI_ltI (by omega) (by omega)).mp z2
        refine hK3 _ ⟨rfl, ?_, mfr.tr kk k2⟩
        rw [en1, hs, if_pos (by omega)]
        rfl
      · have z3 : ¬ costM B (rowsOf tn tl (tb r b)) b k d (B.1 2 + t) < q.2 := fun w => z2 ((nI_ltI (by omega) (by omega)).mpr w)
        refine hK3 _ ⟨rfl, ?_, mfr.tr kk k2⟩
        rw [en1, hs, if_neg z3]
        show (v4, nI q.2) = (nI q.1, nI q.2)
        rw [e4']
  · rw [if_neg (fun z2 => c ⟨z2.1, z2.2.1, z2.2.2⟩)]
    refine wif_n (fun z2 => z2 rfl) (hK3 _ ⟨rfl, ?_, kk⟩)
    have c1 := lo2 (B.1 2 + t)
    have c2 := hi2 (B.1 2 + t)
    rw [show min (B.1 2 + (t + 1)) (hi + 1) - lo = min (B.1 2 + t) (hi + 1) - lo by omega]
    exact e45
end F3
