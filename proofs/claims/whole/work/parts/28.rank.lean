/-! travellers from the lowest on -/
def cntL (st : Nat → Nat) (k : Nat) : Nat → Nat
  | 0 => 0
  | j + 1 => if st j < st k then cntL st k j + 1 else cntL st k j
def cntE (st : Nat → Nat) (k : Nat) : Nat → Nat
  | 0 => 0
  | j + 1 => if ¬ st j < st k ∧ j < k ∧ st j = st k then cntE st k j + 1 else cntE st k j
theorem cnt_b (st : Nat → Nat) (k : Nat) : ∀ n, cntL st k n + cntE st k n + (if k < n then 1 else 0) ≤ n
  | 0 => by simp [cntL, cntE]
  | n + 1 => by
    have ih := cnt_b st k n
    unfold cntL cntE
    by_cases h1 : k < n
    · rw [if_pos h1] at ih
      rw [if_pos (show k < n + 1 by omega), if_neg (show ¬ (¬ st n < st k ∧ n < k ∧ st n = st k) by omega)]
      split <;> omega
    · rw [if_neg h1] at ih
      by_cases h2 : k = n
      · subst h2
        rw [if_pos (Nat.lt_succ_self k), if_neg (by omega), if_neg (by omega)]
        omega
      · rw [if_neg (show ¬ k < n + 1 by omega)]
        by_cases h3 : st n < st k
        · rw [if_pos h3, if_neg (by omega)]
          omega
        · rw [if_neg h3]
          split <;> omega
theorem cnt_lt {st : Nat → Nat} {i j : Nat} (h : st i < st j) : ∀ n, cntL st i n + cntE st i n + (if i < n then 1 else 0) ≤ cntL st j n
  | 0 => by simp [cntL, cntE]
  | n + 1 => by
    have ih := cnt_lt h n
    unfold cntL cntE
    by_cases h1 : i < n
    · rw [if_pos h1] at ih
      rw [if_pos (show i < n + 1 by omega), if_neg (show ¬ (¬ st n < st i ∧ n < i ∧ st n = st i) by omega)]
      by_cases h2 : st n < st i
      · rw [if_pos h2, if_pos (by omega)]
        omega
      · rw [if_neg h2]
        split <;> omega
    · rw [if_neg h1] at ih
      by_cases h2 : i = n
      · subst h2
        rw [if_pos (Nat.lt_succ_self i), if_neg (by omega), if_neg (by omega), if_pos h]
        omega
      · rw [if_neg (show ¬ i < n + 1 by omega)]
        by_cases h3 : st n < st i
        · rw [if_pos h3, if_neg (by omega), if_pos (by omega)]
          omega
        · rw [if_neg h3]
          by_cases h4 : st n = st i
          · rw [if_pos (show st n < st j by omega)]
            split <;> omega
          · rw [if_neg (by omega)]
            split <;> omega
theorem cnt_le {st : Nat → Nat} {i j : Nat} (h : st i ≤ st j) : ∀ n, cntL st i n ≤ cntL st j n
  | 0 => by simp [cntL]
  | n + 1 => by
    have ih := cnt_le h n
    unfold cntL
    by_cases h3 : st n < st i
    · rw [if_pos h3, if_pos (by omega)]
      omega
    · rw [if_neg h3]
      split <;> omega
theorem cnt_eq {st : Nat → Nat} {i j : Nat} (h : st i = st j) (hij : i < j) : ∀ n, cntE st i n + (if i < n then 1 else 0) ≤ cntE st j n
  | 0 => by simp [cntE]
  | n + 1 => by
    have ih := cnt_eq h hij n
    unfold cntE
    by_cases h1 : i < n
    · rw [if_pos h1] at ih
      rw [if_pos (show i < n + 1 by omega), if_neg (show ¬ (¬ st n < st i ∧ n < i ∧ st n = st i) by omega)]
      split <;> omega
    · rw [if_neg h1] at ih
      by_cases h2 : i = n
      · subst h2
        rw [if_pos (Nat.lt_succ_self i), if_neg (by omega), if_pos (by omega)]
        omega
      · rw [if_neg (show ¬ i < n + 1 by omega)]
        by_cases h4 : ¬ st n < st i ∧ n < i ∧ st n = st i
        · rw [if_pos h4, if_pos (by omega)]
          omega
        · rw [if_neg h4]
          split <;> omega
def lowB (B : Br) (k : Nat) : Nat := cntL (stB B) k 8
def rkB (B : Br) (k : Nat) : Nat := cntL (stB B) k 8 + cntE (stB B) k 8
theorem low_b (B : Br) (k : Nat) : lowB B k ≤ 8 := by
  have := cnt_b (stB B) k 8
  unfold lowB
  omega
theorem rk_b (B : Br) {k : Nat} (hk : k < 8) : rkB B k < 8 := by
  have h := cnt_b (stB B) k 8
  rw [if_pos hk] at h
  unfold rkB
  omega
theorem rk_inj {B : Br} {i j : Nat} (hi : i < 8) (hj : j < 8) (h : rkB B i = rkB B j) : i = j := by
  have main : ∀ {i j : Nat}, i < 8 → stB B i < stB B j → rkB B i < rkB B j := by
    intro i j hi h
    have h1 := cnt_lt h 8
    rw [if_pos hi] at h1
    unfold rkB
    omega
  have main2 : ∀ {i j : Nat}, i < 8 → stB B i = stB B j → i < j → rkB B i < rkB B j := by
    intro i j hi h hij
    have h1 := cnt_eq h hij 8
    rw [if_pos hi] at h1
    have h2 := cnt_le (Nat.le_of_eq h) 8
    unfold rkB
    omega
  rcases Nat.lt_trichotomy (stB B i) (stB B j) with h1 | h1 | h1
  · have := main hi h1
    omega
  · rcases Nat.lt_trichotomy i j with h2 | h2 | h2
    · have := main2 hi h1 h2
      omega
    · exact h2
    · have := main2 hj h1.symm h2
      omega
  · have := main hj h1
    omega
/-- the rank tells who is lower -/
theorem rk_low {B : Br} {k last : Nat} (hk : k < 8) : rkB B k < lowB B last ↔ stB B k < stB B last := by
  constructor
  · intro h
    refine Nat.lt_of_not_le fun q => ?_
    have h1 := cnt_le q 8
    unfold rkB lowB at h
    omega
  · intro h
    have h1 := cnt_lt h 8
    rw [if_pos hk] at h1
    unfold rkB lowB
    omega
theorem pig : ∀ (n : Nat) (f : Nat → Nat), (∀ i, i < n → f i < n) → (∀ i j, i < n → j < n → f i = f j → i = j) → ∀ m, m < n → ∃ i, i < n ∧ f i = m
  | 0, _, _, _, m, hm => by omega
  | n + 1, f, hf, hi, m, hm => by
    have hn := hf n (by omega)
    by_cases ha : f n = n
    · by_cases hmn : m = n
      · exact ⟨n, by omega, by omega⟩
      · have h1 : ∀ i, i < n → f i < n := fun i hin => by
          have h2 := hf i (by omega)
          have h3 : f i ≠ n := fun e => by
            have := hi i n (by omega) (by omega) (by omega)
            omega
          omega
        obtain ⟨i, h2, h3⟩ := pig n f h1 (fun i j hi1 hj1 e => hi i j (by omega) (by omega) e) m (by omega)
        exact ⟨i, by omega, h3⟩
    · have hg : ∀ i, i < n → (fun i => if f i = n then f n else f i) i < n := fun i hin => by
        have h2 := hf i (by omega)
        simp only
        split <;> omega
      have hgi : ∀ i j, i < n → j < n → (fun i => if f i = n then f n else f i) i = (fun i => if f i = n then f n else f i) j → i = j := fun i j h1 h2 e => by
        simp only at e
        by_cases e1 : f i = n
        · by_cases e2 : f j = n
          · exact hi i j (by omega) (by omega) (by omega)
          · rw [if_pos e1, if_neg e2] at e
            have := hi n j (by omega) (by omega) e
            omega
        · by_cases e2 : f j = n
          · rw [if_neg e1, if_pos e2] at e
            have := hi i n (by omega) (by omega) e
            omega
          · rw [if_neg e1, if_neg e2] at e
            exact hi i j (by omega) (by omega) e
      have ih := pig n _ hg hgi
      by_cases hm1 : m = f n
      · exact ⟨n, by omega, hm1.symm⟩
      · by_cases hm2 : m = n
        · obtain ⟨i, h1, h2⟩ := ih (f n) (by omega)
          by_cases e1 : f i = n
          · exact ⟨i, by omega, by omega⟩
          · rw [if_neg e1] at h2
            have := hi i n (by omega) (by omega) h2
            omega
        · obtain ⟨i, h1, h2⟩ := ih m (by omega)
          by_cases e1 : f i = n
          · rw [if_pos e1] at h2
            exact absurd h2.symm hm1
          · rw [if_neg e1] at h2
            exact ⟨i, by omega, h2⟩
theorem rk_sur (B : Br) {j : Nat} (hj : j < 8) : ∃ k, k < 8 ∧ rkB B k = j :=
  pig 8 (rkB B) (fun _ h => rk_b B h) (fun _ _ h1 h2 e => rk_inj h1 h2 e) j hj
def RK (B : Br) (h : Hp) : Prop := (∀ k, k < 8 → h 54 k = nI (lowB B k)) ∧ (∀ k, k < 8 → h 53 (rkB B k) = nI k)
theorem st_b {B : Br} (h : WB B) (k : Nat) : stB B k ≤ 499 := by
  have := h.who k
  unfold stB
  omega
theorem s_rank {h : Hp} {B : Br} (hB : CB h B) (Q : Hp → Prop) (hQ : ∀ h', (∀ q, q ≠ 53 → q ≠ 54 → h' q = h q) → RK B h' → Q h') : w_X2_rank h Q := by
  unfold w_X2_rank w_X2_rank_b2
  refine wl_run 8 (fun k (s : Int32 × Hp) => s.1 = nI k ∧ (∀ q, q ≠ 53 → q ≠ 54 → s.2 q = h q) ∧ (∀ i, i < k → s.2 54 i = nI (lowB B i)) ∧ (∀ i, i < k → s.2 53 (rkB B i) = nI i)) ?_ (Nat.zero_le _) ⟨rfl, fun _ _ _ => rfl, fun i hi => by omega, fun i hi => by omega⟩
  rintro k ⟨v1, h1⟩ K hk ⟨e1, hf, hl, ho⟩ hK
  simp only at e1 hf hl ho
  subst e1
  show w_X2_rank_l2 Q K (nI k) h1
  unfold w_X2_rank_l2
  rw [q8]
  refine ⟨fun z => ?_, fun z => ?_⟩
  · have hk8 : k = 8 := by
      have := (nI_leI (by omega) (by omega)).mp z
      omega
    subst hk8
    exact hQ h1 hf ⟨hl, ho⟩
  have hk8 : k < 8 := Nat.lt_of_not_le fun q => z ((nI_leI (by omega) (by omega)).mpr q)
  have hB1 : CB h1 B := hB.same (hf 3 (by decide) (by decide)) (hf 4 (by decide) (by decide)) (hf 5 (by decide) (by decide)) (hf 6 (by decide) (by decide)) (hf 7 (by decide) (by decide))
  unfold w_X2_rank_b15
  refine wl_run 8 (fun j (s : Int32 × Int32 × Int32) => s.1 = nI (cntL (stB B) k j) ∧ s.2.1 = nI (cntE (stB B) k j) ∧ s.2.2 = nI j) ?_ (Nat.zero_le _) ⟨rfl, rfl, rfl⟩
  rintro j ⟨v2, v3, v4⟩ K' hj ⟨e2, e3, e4⟩ hK'
  simp only at e2 e3 e4
  subst e2 e3 e4
  show w_X2_rank_l15 (nI k) K h1 Q K' _ _ (nI j)
  unfold w_X2_rank_l15
  rw [q8]
  refine ⟨fun z => ?_, fun z => ?_⟩
  · have hj8 : j = 8 := by
      have := (nI_leI (by omega) (by omega)).mp z
      omega
    subst hj8
    have hr := rk_b B hk8
    rw [e_put (by decide), wr_n hk8 (by decide), nI_add, e_put (by decide), show cntL (stB B) k 8 + cntE (stB B) k 8 = rkB B k from rfl, wr_n hr (by decide), nI_1]
    refine hK hk8 _ ⟨rfl, fun q h53 h54 => ?_, fun i hi => ?_, fun i hi => ?_⟩
    · show hup (hup h1 54 k (nI (lowB B k))) 53 (rkB B k) (nI k) q = h q
      rw [hup_ne h53, hup_ne h54, hf q h53 h54]
    · show hup (hup h1 54 k (nI (lowB B k))) 53 (rkB B k) (nI k) 54 i = _
      rw [hup_ne (by decide), hup_at]
      by_cases e : i = k
      · rw [if_pos ⟨rfl, e⟩, e]
      · rw [if_neg (fun z => e z.2)]
        exact hl i (by omega)
    · show hup (hup h1 54 k (nI (lowB B k))) 53 (rkB B k) (nI k) 53 (rkB B i) = _
      rw [hup_at]
      by_cases e : i = k
      · rw [e, if_pos ⟨rfl, rfl⟩]
      · rw [if_neg (fun z => e (rk_inj (by omega) hk8 z.2)), hup_ne (by decide)]
        exact ho i (by omega)
  have hj8 : j < 8 := Nat.lt_of_not_le fun q => z ((nI_leI (by omega) (by omega)).mpr q)
  have b1 := st_b hB.2.2 j
  have b2 := st_b hB.2.2 k
  rw [e_standing hB1 j rfl hj8, e_standing hB1 k rfl hk8]
  unfold w_X2_rank_b77
  have step : ∀ a b, a = cntL (stB B) k (j + 1) → b = cntE (stB B) k (j + 1) → K' (nI a, nI b, nI j + 1) := by
    intro a b ea eb
    rw [ea, eb, nI_1]
    exact hK' hj8 _ ⟨rfl, rfl, rfl⟩
  unfold cntL cntE at step
  refine ⟨fun z1 => ?_, fun z1 => ?_⟩
  · have z1 := (nI_leI (by omega) (by omega)).mp z1
    refine ⟨fun z2 => ?_, fun z2 => ?_⟩
    · have z2 := (nI_leI (by omega) (by omega)).mp z2
      exact step _ _ (by rw [if_neg (by omega)]) (by rw [if_neg (by omega)])
    · have z2 : ¬ k ≤ j := fun q => z2 ((nI_leI (by omega) (by omega)).mpr q)
      rw [e_standing hB1 j rfl hj8, e_standing hB1 k rfl hk8]
      refine ⟨fun z3 => ?_, fun z3 => ?_⟩
      · have z3 : ¬ stB B j = stB B k := fun q => z3 (by rw [q])
        exact step _ _ (by rw [if_neg (by omega)]) (by rw [if_neg (by omega)])
      · have z3 : stB B j = stB B k := (nI_eq (by omega) (by omega)).mp (Classical.not_not.mp z3)
        rw [nI_1 (cntE (stB B) k j)]
        exact step _ _ (by rw [if_neg (by omega)]) (by rw [if_pos (by omega)])
  · have z1 : ¬ stB B k ≤ stB B j := fun q => z1 ((nI_leI (by omega) (by omega)).mpr q)
    rw [nI_1 (cntL (stB B) k j)]
    exact step _ _ (by rw [if_pos (by omega)]) (by rw [if_neg (by omega)])
