/-! second level: what the printed formulas mean; rows for their pieces -/
theorem wlet_i {α : Type} {a : α} {f : α → Prop} (h : f a) : wlet a f := fun x hx => by rw [hx]; exact h
theorem wlet_e {α : Type} (a : α) (f : α → Prop) : wlet a f = f a := propext ⟨wlet_use, wlet_i⟩
theorem wif_e (c A B : Prop) [Decidable c] : wif c A B = if c then A else B := by
  by_cases h : c
  · rw [if_pos h]; exact propext ⟨fun z => z.1 h, wif_p h⟩
  · rw [if_neg h]; exact propext ⟨fun z => z.2 h, wif_n h⟩
theorem wif_t {c A B : Prop} (h : c) : wif c A B = A := propext ⟨fun z => z.1 h, wif_p h⟩
theorem wif_f {c A B : Prop} (h : ¬ c) : wif c A B = B := propext ⟨fun z => z.2 h, wif_n h⟩
theorem and_t {a b : Prop} (h : a) : (a ∧ b) = b := propext ⟨And.right, fun z => ⟨h, z⟩⟩
theorem wl_run {σ : Type} {B : (σ → Prop) → σ → Prop} (n : Nat) (Inv : Nat → σ → Prop)
    (step : ∀ (k : Nat) (s : σ) (K : σ → Prop), k ≤ n → Inv k s → (k < n → ∀ s', Inv (k + 1) s' → K s') → B K s) {k0 : Nat} {s : σ} (hk : k0 ≤ n) (hi : Inv k0 s) : wl B s := by
  have main : ∀ j k s, k + j = n → Inv k s → wlN B (j + 1) s := by
    intro j
    induction j with
    | zero => intro k s hk hi; exact step k s _ (by omega) hi (fun h => absurd h (by omega))
    | succ j ih => intro k s hk hi; exact step k s _ (by omega) hi (fun _ s' hs' => ih (k + 1) s' (by omega) hs')
  exact ⟨_, main (n - k0) k0 s (by omega) hi⟩
/-- literals -/
theorem q0 : (0 : Int32) = nI 0 := rfl
theorem q1 : (1 : Int32) = nI 1 := rfl
theorem q2 : (2 : Int32) = nI 2 := rfl
theorem q3 : (3 : Int32) = nI 3 := rfl
theorem q4 : (4 : Int32) = nI 4 := rfl
theorem q5 : (5 : Int32) = nI 5 := rfl
theorem q6 : (6 : Int32) = nI 6 := rfl
theorem q7 : (7 : Int32) = nI 7 := rfl
theorem q8 : (8 : Int32) = nI 8 := rfl
theorem q9 : (9 : Int32) = nI 9 := rfl
theorem q10 : (10 : Int32) = nI 10 := rfl
theorem q11 : (11 : Int32) = nI 11 := rfl
theorem q12 : (12 : Int32) = nI 12 := rfl
theorem q14 : (14 : Int32) = nI 14 := rfl
theorem q16 : (16 : Int32) = nI 16 := rfl
theorem q20 : (20 : Int32) = nI 20 := rfl
theorem q24 : (24 : Int32) = nI 24 := rfl
theorem q30 : (30 : Int32) = nI 30 := rfl
theorem q32 : (32 : Int32) = nI 32 := rfl
theorem q40 : (40 : Int32) = nI 40 := rfl
theorem q50 : (50 : Int32) = nI 50 := rfl
theorem q60 : (60 : Int32) = nI 60 := rfl
theorem q99 : (99 : Int32) = nI 99 := rfl
theorem q100 : (100 : Int32) = nI 100 := rfl
theorem q256 : (256 : Int32) = nI 256 := rfl
theorem q400 : (400 : Int32) = nI 400 := rfl
theorem q500 : (500 : Int32) = nI 500 := rfl
theorem q720 : (720 : Int32) = nI 720 := rfl
theorem q999 : (999 : Int32) = nI 999 := rfl
theorem q1000 : (1000 : Int32) = nI 1000 := rfl
theorem q1439 : (1439 : Int32) = nI 1439 := rfl
theorem q1440 : (1440 : Int32) = nI 1440 := rfl
theorem q2304 : (2304 : Int32) = nI 2304 := rfl
theorem q5400 : (5400 : Int32) = nI 5400 := rfl
theorem q9999 : (9999 : Int32) = nI 9999 := rfl
theorem q99999 : (99999 : Int32) = nI 99999 := rfl
/-- whole numbers as ints -/
def zI (z : Int) : Int32 := Int32.ofInt z
theorem zI_n (n : Nat) : zI (n : Int) = nI n := Int32.ofInt_eq_ofNat
theorem zI_toInt {z : Int} (h1 : -2 ^ 31 ≤ z) (h2 : z < 2 ^ 31) : (zI z).toInt = z := Int32.toInt_ofInt_of_le h1 h2
theorem zI_of (x : Int32) : zI x.toInt = x := Int32.ofInt_toInt x
theorem zI_eta {x : Int32} {z : Int} (h : x.toInt = z) : x = zI z := by rw [← h, zI_of]
theorem zI_add (a b : Int) : zI a + zI b = zI (a + b) := (Int32.ofInt_add a b).symm
theorem zI_sub (a b : Int) : zI a - zI b = zI (a - b) := (Int32.ofInt_sub a b).symm
theorem zI_mul (a b : Int) : zI a * zI b = zI (a * b) := (Int32.ofInt_mul a b).symm
theorem zI_neg (a : Int) : -zI a = zI (-a) := Int32.neg_ofInt
theorem zI_0 : zI 0 = 0 := rfl
theorem zI_le {a b : Int} (ha : -2 ^ 31 ≤ a ∧ a < 2 ^ 31) (hb : -2 ^ 31 ≤ b ∧ b < 2 ^ 31) : zI a ≤ zI b ↔ a ≤ b := by
  rw [Int32.le_iff_toInt_le, zI_toInt ha.1 ha.2, zI_toInt hb.1 hb.2]
theorem zI_lt {a b : Int} (ha : -2 ^ 31 ≤ a ∧ a < 2 ^ 31) (hb : -2 ^ 31 ≤ b ∧ b < 2 ^ 31) : zI a < zI b ↔ a < b := by
  rw [Int32.lt_iff_toInt_lt, zI_toInt ha.1 ha.2, zI_toInt hb.1 hb.2]
theorem zI_inj {a b : Int} (ha : -2 ^ 31 ≤ a ∧ a < 2 ^ 31) (hb : -2 ^ 31 ≤ b ∧ b < 2 ^ 31) : zI a = zI b ↔ a = b := by
  constructor
  · intro h
    have h2 := congrArg Int32.toInt h
    rwa [zI_toInt ha.1 ha.2, zI_toInt hb.1 hb.2] at h2
  · intro h; rw [h]
/-- a script's int that passed its test -/
theorem nI_get {x : Int32} {n : Nat} (hn : n < 2 ^ 31) (h0 : ¬ x < 0) (h1 : x < nI n) : ∃ j, j < n ∧ x = nI j := by
  obtain ⟨j, hj, rfl⟩ := nI_of h0
  exact ⟨j, (nI_ltI hj hn).mp h1, rfl⟩
theorem nI_get2 {x : Int32} {n : Nat} (hn : n < 2 ^ 31) (h0 : ¬ x < 0) (h1 : ¬ nI n ≤ x) : ∃ j, j < n ∧ x = nI j := by
  obtain ⟨j, hj, rfl⟩ := nI_of h0
  refine ⟨j, ?_, rfl⟩
  exact Nat.lt_of_not_le fun q => h1 ((nI_leI hn hj).mpr q)
/-- rows of ints: at and put -/
def rd (h : Hp) (r n : Nat) (p : Int32) : Int32 := if p < 0 then 0 else if nI n ≤ p then 0 else h r p.toNatClampNeg
def wr (h : Hp) (r n : Nat) (p v : Int32) : Hp := if p < 0 then h else if nI n ≤ p then h else hup h r p.toNatClampNeg v
theorem vp_in2 {x : Int32} {n : Nat} (hn : n < 2 ^ 31) (h0 : ¬ x < 0) (h1 : ¬ nI n ≤ x) : vp_in x n := by
  obtain ⟨j, hj, rfl⟩ := nI_get2 hn h0 h1
  exact vp_in_nI hj hn
theorem e_at {r n : Nat} (hn : n < 2 ^ 31) (p : Int32) (h : Hp) (Q : Int32 → Prop) : w_X8_at r n p h Q = Q (rd h r n p) := by
  unfold w_X8_at rd
  rw [wif_e, wif_e]
  split
  · rfl
  · split
    · rfl
    · rename_i h0 h1
      rw [and_t (vp_in2 hn h0 h1)]
theorem e_put {r n : Nat} (hn : n < 2 ^ 31) (p v : Int32) (h : Hp) (Q : Hp → Prop) : w_X8_put r n p v h Q = Q (wr h r n p v) := by
  unfold w_X8_put wr
  rw [wif_e, wif_e]
  split
  · rfl
  · split
    · rfl
    · rename_i h0 h1
      rw [and_t (vp_in2 hn h0 h1), wlet_e]
theorem rd_n {h : Hp} {r n k : Nat} (hk : k < n) (hn : n < 2 ^ 31) : rd h r n (nI k) = h r k := by
  unfold rd
  rw [if_neg (nI_pos (Nat.lt_trans hk hn)), if_neg (nI_ge hk hn), nI_clamp (Nat.lt_trans hk hn)]
theorem wr_n {h : Hp} {r n k : Nat} {v : Int32} (hk : k < n) (hn : n < 2 ^ 31) : wr h r n (nI k) v = hup h r k v := by
  unfold wr
  rw [if_neg (nI_pos (Nat.lt_trans hk hn)), if_neg (nI_ge hk hn), nI_clamp (Nat.lt_trans hk hn)]
theorem hup_at (h : Hp) (p i : Nat) (v : Int32) (q j : Nat) : hup h p i v q j = if q = p ∧ j = i then v else h q j := by
  unfold hup upd
  by_cases h1 : q = p
  · subst h1
    by_cases h2 : j = i
    · simp [h2]
    · simp [h2]
  · simp [h1]
theorem hup_eq (h : Hp) (p i : Nat) (v : Int32) : hup h p i v p i = v := by rw [hup_at]; simp
theorem hup_o {h : Hp} {p i : Nat} {v : Int32} {q j : Nat} (hn : q ≠ p ∨ j ≠ i) : hup h p i v q j = h q j := by
  rw [hup_at, if_neg]
  rintro ⟨a, b⟩
  rcases hn with h1 | h1
  · exact h1 a
  · exact h1 b
/-- what may have changed: places S, and of place 92 (the model's own fields) the fields F -/
def fr (S : Nat → Bool) (F : List Nat) (h h' : Hp) : Prop := (∀ p, S p = false → p ≠ 92 → h' p = h p) ∧ (∀ i, i ∉ F → h' 92 i = h 92 i)
theorem fr_rf {S : Nat → Bool} {F : List Nat} {h : Hp} : fr S F h h := ⟨fun _ _ _ => rfl, fun _ _ => rfl⟩
theorem fr_tr {S : Nat → Bool} {F : List Nat} {h h1 h2 : Hp} (a : fr S F h h1) (b : fr S F h1 h2) : fr S F h h2 :=
  ⟨fun p hp h9 => (b.1 p hp h9).trans (a.1 p hp h9), fun i hi => (b.2 i hi).trans (a.2 i hi)⟩
theorem fr_mono {S S' : Nat → Bool} {F F' : List Nat} {h h' : Hp} (a : fr S F h h') (hS : ∀ p, S' p = false → S p = false) (hF : ∀ i, i ∉ F' → i ∉ F) : fr S' F' h h' :=
  ⟨fun p hp h9 => a.1 p (hS p hp) h9, fun i hi => a.2 i (hF i hi)⟩
theorem fr_up {S : Nat → Bool} {F : List Nat} {h h' : Hp} {p i : Nat} {v : Int32} (a : fr S F h h') (hp : S p = true) (h9 : p ≠ 92) : fr S F h (hup h' p i v) := by
  refine ⟨fun q hq hq9 => ?_, fun j hj => ?_⟩
  · rw [hup_ne (fun e => by rw [e, hp] at hq; exact Bool.noConfusion hq)]
    exact a.1 q hq hq9
  · rw [hup_ne (Ne.symm h9)]
    exact a.2 j hj
theorem fr_92 {S : Nat → Bool} {F : List Nat} {h h' : Hp} {i : Nat} {v : Int32} (a : fr S F h h') (hi : i ∈ F) : fr S F h (hup h' 92 i v) := by
  refine ⟨fun q hq hq9 => ?_, fun j hj => ?_⟩
  · rw [hup_ne hq9]
    exact a.1 q hq hq9
  · rw [hup_o (Or.inr (fun (e : j = i) => hj (by rw [e]; exact hi)))]
    exact a.2 j hj
theorem fr_wr {S : Nat → Bool} {F : List Nat} {h h' : Hp} {p n : Nat} {i v : Int32} (a : fr S F h h') (hp : S p = true) (h9 : p ≠ 92) : fr S F h (wr h' p n i v) := by
  unfold wr
  split
  · exact a
  · split
    · exact a
    · exact fr_up a hp h9
/-- bits of tests -/
theorem b11 : (1 : Int32) &&& 1 = 1 := by decide
theorem b01 : (0 : Int32) &&& 1 = 0 := by decide
theorem bit_if (c : Prop) [Decidable c] : ((if c then (0 : Int32) else 1) &&& 1) = if c then 0 else 1 := by
  split
  · exact b01
  · exact b11
theorem i10 : ¬ (1 : Int32) = 0 := by decide
theorem im10 : ¬ (-1 : Int32) = 0 := by decide
