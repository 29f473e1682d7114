/-! reading a text, purely, and by the program -/
def scN (P : Int32 → Bool) (T : Nat → Int32) (L : Nat) : Nat → Nat → Nat
  | 0, p => p
  | n + 1, p => if p < L ∧ P (T p) = true then scN P T L n (p + 1) else p
def scp (P : Int32 → Bool) (T : Nat → Int32) (L p : Nat) : Nat := scN P T L (L - p) p
theorem sc_go {P : Int32 → Bool} {T : Nat → Int32} {L p : Nat} (h1 : p < L) (h2 : P (T p) = true) : scp P T L p = scp P T L (p + 1) := by
  unfold scp
  rw [show L - p = (L - (p + 1)) + 1 by omega]
  exact if_pos ⟨h1, h2⟩
theorem sc_no {P : Int32 → Bool} {T : Nat → Int32} {L p : Nat} (h : ¬ (p < L ∧ P (T p) = true)) : scp P T L p = p := by
  unfold scp
  cases L - p with
  | zero => rfl
  | succ n => exact if_neg h
theorem sc_run {P : Int32 → Bool} {T : Nat → Int32} {L p : Nat} : ∀ {n}, (∀ i, i < n → p + i < L ∧ P (T (p + i)) = true) → scp P T L p = scp P T L (p + n)
  | 0, _ => rfl
  | n + 1, h => by
    rw [sc_run (n := n) (fun i hi => h i (by omega))]
    obtain ⟨a, b⟩ := h n (by omega)
    exact sc_go a b
theorem sc_all {P : Int32 → Bool} {T : Nat → Int32} {L : Nat} : ∀ (n p : Nat), L - p = n → p ≤ scp P T L p ∧ (p ≤ L → scp P T L p ≤ L) ∧ ¬ (scp P T L p < L ∧ P (T (scp P T L p)) = true) ∧ ∀ i, p ≤ i → i < scp P T L p → P (T i) = true
  | 0, p, h => by
    have e : scp P T L p = p := sc_no (fun z => by omega)
    rw [e]
    exact ⟨Nat.le_refl _, fun z => z, fun z => by omega, fun i a b => by omega⟩
  | n + 1, p, h => by
    by_cases c : p < L ∧ P (T p) = true
    · rw [sc_go c.1 c.2]
      obtain ⟨a, b, d, e⟩ := sc_all (P := P) (T := T) (L := L) n (p + 1) (by omega)
      refine ⟨by omega, fun z => b (by omega), d, fun i x y => ?_⟩
      by_cases q : i = p
      · rw [q]; exact c.2
      · exact e i (by omega) y
    · rw [sc_no c]
      exact ⟨Nat.le_refl _, fun z => z, c, fun i a b => by omega⟩
theorem sc_ge (P : Int32 → Bool) (T : Nat → Int32) (L p : Nat) : p ≤ scp P T L p := (sc_all (P := P) (T := T) (L := L) _ p rfl).1
theorem sc_le (P : Int32 → Bool) (T : Nat → Int32) {L p : Nat} (h : p ≤ L) : scp P T L p ≤ L := (sc_all (P := P) (T := T) (L := L) _ p rfl).2.1 h
theorem sc_end (P : Int32 → Bool) (T : Nat → Int32) (L p : Nat) : ¬ (scp P T L p < L ∧ P (T (scp P T L p)) = true) := (sc_all (P := P) (T := T) (L := L) _ p rfl).2.2.1
theorem sc_in (P : Int32 → Bool) (T : Nat → Int32) (L p : Nat) : ∀ i, p ≤ i → i < scp P T L p → P (T i) = true := (sc_all (P := P) (T := T) (L := L) _ p rfl).2.2.2
theorem sc_id (P : Int32 → Bool) (T : Nat → Int32) (L p : Nat) : scp P T L (scp P T L p) = scp P T L p := sc_no (sc_end P T L p)
def isB (x : Int32) : Bool := decide (x = 32)
def isLt (x : Int32) : Bool := decide (¬ x < 97 ∧ ¬ 122 < x)
def isDg (x : Int32) : Bool := decide (¬ x < 48 ∧ ¬ 57 < x)
abbrev sk (T : Nat → Int32) (L p : Nat) : Nat := scp isB T L p
abbrev le (T : Nat → Int32) (L p : Nat) : Nat := scp isLt T L p
abbrev de (T : Nat → Int32) (L p : Nat) : Nat := scp isDg T L p
/-- the word w stands at p, blanks aside, and no letter behind it -/
def isW (T : Nat → Int32) (L : Nat) (w : List Nat) (p : Nat) : Bool := decide (le T L (sk T L p) = sk T L p + w.length ∧ ∀ i, i < w.length → T (sk T L p + i) = nI (w.getD i 0))
/-- a digit's number; what digits from p on say, at most 100000 -/
def dgV (x : Int32) : Nat := (x.toInt - 48).toNat
def nvN (T : Nat → Int32) (p : Nat) : Nat → Nat
  | 0 => 0
  | n + 1 => if 10 * nvN T p n + dgV (T (p + n)) < 100000 then 10 * nvN T p n + dgV (T (p + n)) else 100000
theorem nvN_b (T : Nat → Int32) (p : Nat) : ∀ n, nvN T p n ≤ 100000
  | 0 => Nat.zero_le _
  | n + 1 => by
    unfold nvN
    split <;> omega
theorem dg_b {x : Int32} (h : isDg x = true) : dgV x ≤ 9 ∧ x = nI (48 + dgV x) := by
  have h2 := of_decide_eq_true h
  have a := (not_congr Int32.lt_iff_toInt_lt).mp h2.1
  have b := (not_congr Int32.lt_iff_toInt_lt).mp h2.2
  have e1 : (48 : Int32).toInt = 48 := by decide
  have e2 : (57 : Int32).toInt = 57 := by decide
  rw [e1] at a
  rw [e2] at b
  unfold dgV
  refine ⟨by omega, ?_⟩
  rw [← zI_n]
  refine zI_eta ?_
  omega
/-- (kind, place, where next, value); kind 0: well -/
def numS (T : Nat → Int32) (L lo hi p : Nat) : Nat × Nat × Nat × Nat :=
  if de T L (sk T L p) = sk T L p then (1, sk T L p, sk T L p, 0)
  else if nvN T (sk T L p) (de T L (sk T L p) - sk T L p) < lo ∨ hi < nvN T (sk T L p) (de T L (sk T L p) - sk T L p) then (2, sk T L p, de T L (sk T L p), 0)
  else (0, 0, de T L (sk T L p), nvN T (sk T L p) (de T L (sk T L p) - sk T L p))
def CT (h : Hp) (T : Nat → Int32) (L p : Nat) : Prop := h 1 2 = nI L ∧ L ≤ 500 ∧ h 1 3 = nI p ∧ p ≤ L ∧ h 2 = T
def fc (h h' : Hp) : Prop := (∀ q, q ≠ 1 → h' q = h q) ∧ (∀ i, i ≠ 3 → h' 1 i = h 1 i)
theorem fc.tr {h h1 h2 : Hp} (a : fc h h1) (b : fc h1 h2) : fc h h2 := ⟨fun q hq => (b.1 q hq).trans (a.1 q hq), fun i hi => (b.2 i hi).trans (a.2 i hi)⟩
theorem fc.rf {h : Hp} : fc h h := ⟨fun _ _ => rfl, fun _ _ => rfl⟩
theorem fc.up {h : Hp} {v : Int32} : fc h (hup h 1 3 v) := ⟨fun q hq => hup_ne hq, fun i hi => hup_o (Or.inr hi)⟩
theorem CT.up {h h' : Hp} {T : Nat → Int32} {L p q : Nat} (c : CT h T L p) (f : fc h h') (e : h' 1 3 = nI q) (hq : q ≤ L) : CT h' T L q := ⟨(f.2 2 (by decide)).trans c.1, c.2.1, e, hq, (f.1 2 (by decide)).trans c.2.2.2.2⟩
def er (h h' : Hp) (k x : Nat) : Prop := (∀ q, q ≠ 1 → h' q = h q) ∧ (∀ i, i ≠ 3 → i ≠ 4 → i ≠ 5 → h' 1 i = h 1 i) ∧ h' 1 4 = nI k ∧ h' 1 5 = nI x
theorem er.fc {h h1 h2 : Hp} {k x : Nat} (a : fc h h1) (b : er h1 h2 k x) : er h h2 k x := ⟨fun q hq => (b.1 q hq).trans (a.1 q hq), fun i h3 h4 h5 => (b.2.1 i h3 h4 h5).trans (a.2 i h3), b.2.2⟩
theorem s_start {h : Hp} {T : Nat → Int32} {L p : Nat} (c : CT h T L p) (Q : Int32 → Hp → Prop) (hQ : ∀ h', fc h h' → CT h' T L (sk T L p) → Q (nI (sk T L p)) h') : w_X7_start h Q := by
  obtain ⟨c1, c2, c3, c4, c5⟩ := c
  unfold w_X7_start w_X7_start_b0
  refine wl_run 500 (fun n (g : Hp) => fc h g ∧ g 1 3 = nI (p + n) ∧ p + n ≤ L ∧ sk T L p = sk T L (p + n)) ?_ (Nat.zero_le _) ⟨fc.rf, c3, c4, rfl⟩
  rintro n g K hn ⟨fg, e3, hl, es⟩ hK
  show w_X7_start_l0 Q K g
  unfold w_X7_start_l0
  rw [e3, fg.2 2 (by decide), c1, fg.1 2 (by decide), c5]
  have cg : CT g T L (p + n) := CT.up ⟨c1, c2, c3, c4, c5⟩ fg e3 hl
  have stop : sk T L (p + n) = p + n → Q (nI (p + n)) g := fun e => by
    have := hQ g fg (by rw [es, e]; exact cg)
    rw [es, e] at this
    exact this
  refine wif_n (nI_pos (by omega)) ⟨fun z => stop (sc_no (fun q => ?_)), fun z => wif_n ?_ ?_⟩
  · have := (nI_leI (by omega) (by omega)).mp z
    omega
  · have h1 : ¬ L ≤ p + n := fun q => z ((nI_leI (by omega) (by omega)).mpr q)
    rw [q500]
    exact fun q => by have := (nI_leI (by omega) (by omega)).mp q; omega
  have h1 : ¬ L ≤ p + n := fun q => z ((nI_leI (by omega) (by omega)).mpr q)
  refine ⟨vp_in_nI (by omega) (by decide), ?_⟩
  rw [nI_clamp (by omega)]
  refine ⟨fun q => stop (sc_no (fun y => q (of_decide_eq_true y.2))), fun q => ?_⟩
  rw [nI_1, wlet_e]
  refine hK (by omega) _ ⟨fg.tr fc.up, hup_eq _ _ _ _, by omega, ?_⟩
  rw [es]
  exact sc_go (by omega) (decide_eq_true (Classical.not_not.mp q))
theorem s_more {h : Hp} {T : Nat → Int32} {L p : Nat} (c : CT h T L p) (Q : Int32 → Hp → Prop) (hQ : ∀ h', fc h h' → CT h' T L (sk T L p) → Q (if sk T L p < L then 1 else 0) h') : w_X7_more h Q := by
  unfold w_X7_more
  refine s_start c _ (fun h1 f1 c1 => ?_)
  rw [c1.1, bit_if]
  have h2 := c1.2.2.2.1
  have h3 := c.2.1
  have := hQ h1 f1 c1
  by_cases q : sk T L p < L
  · rw [if_pos q] at this
    rw [if_neg (fun z => by have := (nI_leI (by omega) (by omega)).mp z; omega)]
    exact this
  · rw [if_neg q] at this
    rw [if_pos ((nI_leI (by omega) (by omega)).mpr (by omega))]
    exact this
theorem s_fail {h : Hp} {k x : Nat} {p1 p2 : Int32} (e1 : p1 = nI k) (e2 : p2 = nI x) (Q : Int32 → Hp → Prop) (hQ : ∀ h', er h h' k x → Q 0 h') : w_X7_fail p1 p2 h Q := by
  unfold w_X7_fail
  rw [wlet_e, wlet_e, b01]
  exact hQ _ ⟨fun q hq => by rw [hup_ne hq, hup_ne hq], fun i h3 h4 h5 => by rw [hup_o (Or.inr h5), hup_o (Or.inr h4)], by rw [hup_o (Or.inr (by decide)), hup_eq, e1], by rw [hup_eq, e2]⟩
theorem s_sign {h : Hp} {T : Nat → Int32} {L p : Nat} (c : CT h T L p) (p1 : Int32) (Q : Int32 → Hp → Prop) (h1 : ∀ h', fc h h' → sk T L p < L → T (sk T L p) = p1 → CT h' T L (sk T L p + 1) → Q 1 h') (h0 : ∀ h', fc h h' → ¬ (sk T L p < L ∧ T (sk T L p) = p1) → CT h' T L (sk T L p) → Q 0 h') : w_X7_sign p1 h Q := by
  unfold w_X7_sign
  refine s_start c _ (fun g f g1 => ?_)
  have h2 := g1.2.2.2.1
  have h3 := c.2.1
  rw [g1.1, b01, b11]
  refine ⟨fun z => ?_, fun z => ?_⟩
  · have := (nI_leI (by omega) (by omega)).mp z
    exact h0 g f (fun q => by omega) g1
  · have hl : sk T L p < L := Nat.lt_of_not_le fun q => z ((nI_leI (by omega) (by omega)).mpr q)
    rw [e_at (by decide), rd_n (by omega) (by decide), g1.2.2.2.2]
    refine ⟨fun q => ?_, fun q => h0 g f (fun y => q y.2) g1⟩
    rw [nI_1, wlet_e]
    exact h1 _ (f.tr fc.up) hl q (g1.up fc.up (hup_eq _ _ _ _) (by omega))
theorem s_must {h : Hp} {T : Nat → Int32} {L p : Nat} (c : CT h T L p) (p1 : Int32) (Q : Int32 → Hp → Prop) (h1 : ∀ h', fc h h' → sk T L p < L → T (sk T L p) = p1 → CT h' T L (sk T L p + 1) → Q 1 h') (h0 : ∀ h', er h h' 1 (sk T L p) → ¬ (sk T L p < L ∧ T (sk T L p) = p1) → Q 0 h') : w_X7_must p1 h Q := by
  unfold w_X7_must w_X7_must_b20
  refine s_sign c p1 _ (fun g f a b d => wif_p i10 ?_) (fun g f a d => wif_n (not_not_intro rfl) ?_)
  · rw [b11]
    exact h1 g f a b d
  · refine s_fail q1 d.2.2.1 _ (fun g2 e2 => ?_)
    rw [if_pos rfl, b01]
    exact h0 g2 (er.fc f e2) a
