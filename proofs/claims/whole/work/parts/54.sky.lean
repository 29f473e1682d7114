/-! the sky -/
theorem low4 (y : Int32) : (y &&& 32767) - (y &&& 32767) / 16 * 16 = y &&& 15 := by
  have hy : y = nI y.toBitVec.toNat := by
    apply Int32.toBitVec_inj.mp
    rw [nI_bv]
    simp
  generalize y.toBitVec.toNat = t at hy
  have e1 : t &&& 32767 = t % 32768 := Nat.and_two_pow_sub_one_eq_mod t 15
  have e2 : t &&& 15 = t % 16 := Nat.and_two_pow_sub_one_eq_mod t 4
  rw [hy, show (32767 : Int32) = nI 32767 from rfl, show (15 : Int32) = nI 15 from rfl, nx_and2, nx_and2, e1, e2, q16, pk_div (by omega) (by omega) (by omega), pk_mul, pk_sub (by omega)]
  congr 1
  omega
def stp (x : Int32) : Int32 := x * 1103515245 + 12345
def skst (c x : Int32) : Nat → Int32 × Int32
  | 0 => (0, x)
  | n + 1 => (if c ≤ (stp (skst c x n).2 >>> (16 &&& 31)) &&& 15 then (skst c x n).1 else (skst c x n).1 ||| (1 <<< (nI n &&& 31)), stp (skst c x n).2)
theorem stp_e (x : Int32) : x * 1103515245 + 12345 = stp x := by unfold stp; rfl
theorem skst_s (c x : Int32) (n : Nat) : skst c x (n + 1) = (if c ≤ (stp (skst c x n).2 >>> (16 &&& 31)) &&& 15 then (skst c x n).1 else (skst c x n).1 ||| (1 <<< (nI n &&& 31)), stp (skst c x n).2) := rfl
def bitsD (c x : Int32) : Int32 := (skst c x 24).1
def sdv (c x : Int32) : Nat → Int32
  | 0 => x
  | n + 1 => (skst c (sdv c x n) 24).2
theorem sdv_s (c x : Int32) (n : Nat) : sdv c x (n + 1) = (skst c (sdv c x n) 24).2 := rfl
theorem s_nextSky {h : Hp} {c : Int32} (h9 : h 3 9 = c) (Q : Int32 → Hp → Prop) (hQ : ∀ h', (∀ q, q ≠ 58 → h' q = h q) → h' 58 5 = (skst c (h 58 5) 24).2 → Q (bitsD c (h 58 5)) h') : w_X6_nextSky h Q := by
  unfold w_X6_nextSky w_X6_nextSky_b4
  refine wl_run 24 (fun n (st : Int32 × Int32 × Hp) => st.2.1 = nI n ∧ st.1 = (skst c (h 58 5) n).1 ∧ st.2.2 58 5 = (skst c (h 58 5) n).2 ∧ ∀ q, q ≠ 58 → st.2.2 q = h q) ?_ (Nat.zero_le _) ⟨rfl, rfl, rfl, fun _ _ => rfl⟩
  rintro n ⟨v1, v2, g⟩ K hn ⟨e2, e1, e5, fo⟩ hK
  simp only at e1 e2 e5 fo
  subst e1 e2
  show w_X6_nextSky_l4 Q K _ (nI n) g
  unfold w_X6_nextSky_l4 w_X6_nextSky_b55
  rw [q24]
  refine ⟨fun z => ?_, fun z => ?_⟩
  · have : n = 24 := by
      have := (nI_leI (by omega) (by omega)).mp z
      omega
    subst this
    exact hQ g fo e5
  have hn24 : n < 24 := Nat.lt_of_not_le fun q => z ((nI_leI (by omega) (by omega)).mpr q)
  rw [wlet_e, hup_eq, e5, stp_e, hup_ne (show (3 : Nat) ≠ 58 by decide), fo 3 (by decide), h9, low4, nI_1]
  have fo2 : ∀ v, ∀ q, q ≠ 58 → hup g 58 5 v q = h q := fun v q hq => by rw [hup_ne hq]; exact fo q hq
  have e6 : hup g 58 5 (stp (skst c (h 58 5) n).2) 58 5 = (skst c (h 58 5) (n + 1)).2 := by rw [skst_s]; exact hup_eq _ _ _ _
  refine ⟨fun w => hK hn24 _ ⟨rfl, ?_, e6, fo2 _⟩, fun w => ?_⟩
  · show (skst c (h 58 5) n).1 = (skst c (h 58 5) (n + 1)).1
    rw [skst_s]
    exact (if_pos w).symm
  · rw [wlet_e]
    refine hK hn24 _ ⟨rfl, ?_, e6, fo2 _⟩
    show (skst c (h 58 5) n).1 ||| (1 <<< (nI n &&& 31)) = (skst c (h 58 5) (n + 1)).1
    rw [skst_s]
    exact (if_neg w).symm
theorem s_skyNow {h : Hp} {c : Int32} (h9 : h 95 5 = c) (Q : Int32 → Hp → Prop) (hQ : ∀ h', (∀ q, q ≠ 92 → h' q = h q) → (∀ i, i ≠ 51 → h' 92 i = h 92 i) → h' 92 51 = (skst c (h 92 51) 24).2 → Q (bitsD c (h 92 51)) h') : w_X9_skyNow h Q := by
  unfold w_X9_skyNow w_X9_skyNow_b4
  refine wl_run 24 (fun n (st : Int32 × Int32 × Hp) => st.2.1 = nI n ∧ st.1 = (skst c (h 92 51) n).1 ∧ st.2.2 92 51 = (skst c (h 92 51) n).2 ∧ (∀ q, q ≠ 92 → st.2.2 q = h q) ∧ ∀ i, i ≠ 51 → st.2.2 92 i = h 92 i) ?_ (Nat.zero_le _) ⟨rfl, rfl, rfl, fun _ _ => rfl, fun _ _ => rfl⟩
  rintro n ⟨v1, v2, g⟩ K hn ⟨e2, e1, e5, fo, fi⟩ hK
  simp only at e1 e2 e5 fo fi
  subst e1 e2
  show w_X9_skyNow_l4 Q K _ (nI n) g
  unfold w_X9_skyNow_l4
  rw [q24]
  refine ⟨fun z => ?_, fun z => ?_⟩
  · have : n = 24 := by
      have := (nI_leI (by omega) (by omega)).mp z
      omega
    subst this
    exact hQ g fo fi e5
  have hn24 : n < 24 := Nat.lt_of_not_le fun q => z ((nI_leI (by omega) (by omega)).mpr q)
  rw [wlet_e, hup_eq, e5, stp_e]
  refine ⟨vl 5 11 (by decide) (by decide), ?_⟩
  rw [wlet_e, cl5, hup_ne (show (95 : Nat) ≠ 92 by decide), fo 95 (by decide), h9, nI_1]
  have e6 : hup g 92 51 (stp (skst c (h 92 51) n).2) 92 51 = (skst c (h 92 51) (n + 1)).2 := by rw [skst_s]; exact hup_eq _ _ _ _
  refine hK hn24 _ ⟨rfl, ?_, e6, fun q hq => (hup_ne hq).trans (fo q hq), fun i hi => (hup_o (p := 92) (q := 92) (j := i) (Or.inr hi)).trans (fi i hi)⟩
  show (skst c (h 92 51) n).1 ||| (if c ≤ (stp (skst c (h 92 51) n).2 >>> (16 &&& 31)) &&& 15 then (0 : Int32) else (1 : Int32) <<< (nI n &&& 31)) = (skst c (h 92 51) (n + 1)).1
  rw [skst_s]
  by_cases w : c ≤ (stp (skst c (h 92 51) n).2 >>> (16 &&& 31)) &&& 15
  · rw [if_pos w]
    show _ = if c ≤ (stp (skst c (h 92 51) n).2 >>> (16 &&& 31)) &&& 15 then (skst c (h 92 51) n).1 else _
    rw [if_pos w, Int32.or_zero]
  · rw [if_neg w]
    show _ = if c ≤ (stp (skst c (h 92 51) n).2 >>> (16 &&& 31)) &&& 15 then (skst c (h 92 51) n).1 else _
    rw [if_neg w]
section F10
variable {h : Hp} {B : Br} {tn : Nat} {tl : Nat → List Row} {r : Rc} {K : Hp → Prop}
theorem KP_58 {g : Hp} (e : ∀ q, q ≠ 58 → g q = h q) : KP h g := ⟨fun q hq => e q (by unfold kp at hq; omega), fun i _ => by rw [e 92 (by decide)]⟩
theorem KP_51 {g : Hp} (e : ∀ q, q ≠ 92 → g q = h q) (e2 : ∀ i, i ≠ 51 → g 92 i = h 92 i) : KP h g := ⟨fun q hq => e q (by unfold kp at hq; omega), fun i hi => e2 i (by omega)⟩
theorem cs28 {p1 : Int32} (hR : RA h B tn tl r) (hK : ∀ h', RR h' → K h') : w_X8_sky p1 h (fun v1 h1 => w_X9_sky p1 h1 (fun v2 h2 => v1 = v2 ∧ K h2)) := by
  unfold w_X8_sky w_X6_skyOf
  rw [wlet_e]
  have k1 : KP h (hup h 58 5 p1) := KP_58 (fun q hq => hup_ne hq)
  have a1 := k1.RA hR
  refine s_nextSky (c := nI (B.1 5)) a1.1.1.1.2.2.2.2.2.1 _ (fun h2 f2 _ => ?_)
  have a2 := ((KP_58 f2).tr KP.thr : KP (hup h 58 5 p1) (hup h2 92 0 0)).RA a1
  have k3 : KP (hup h2 92 0 0) (hup (hup h2 92 0 0) 92 51 p1) := ⟨fun q hq => hup_ne (by unfold kp at hq; omega), fun i hi => hup_o (Or.inr (by omega))⟩
  have a3 := k3.RA a2
  rw [hup_eq]
  unfold w_X9_sky
  try dsimp only
  rw [wlet_e, wlet_e]
  refine s_skyNow (c := nI (B.1 5)) (a3.2.1.1 5 (by decide)) _ (fun h4 f4 f5 _ => ?_)
  rw [hup_eq]
  exact ⟨rfl, hK _ ((KP_51 f4 f5).RR a3.rr)⟩
end F10
