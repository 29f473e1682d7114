/-! the plan doesn't depend on the penalty -/
def wp (P : Pz) (p : Int) : Pz := (pB P, pE P, pA P, pM P, pC P, pD P, pX P, p)
def ltL (x y : Int × Int) : Prop := x.1 < y.1 ∨ (x.1 = y.1 ∧ x.2 < y.2)
theorem ltL_iff {p : Int} {x y : Int × Int} (hx : 0 ≤ x.2 ∧ x.2 < p) (hy : 0 ≤ y.2 ∧ y.2 < p) : p * x.1 + x.2 < p * y.1 + y.2 ↔ ltL x y := by
  obtain ⟨a, b⟩ := x
  obtain ⟨c, d⟩ := y
  simp only at hx hy
  unfold ltL
  simp only
  have hp : 0 < p := by omega
  rcases Int.lt_trichotomy a c with h | h | h
  · have h1 : p * (a + 1) ≤ p * c := Int.mul_le_mul_of_nonneg_left (by omega) (by omega)
    rw [Int.mul_add] at h1
    exact ⟨fun _ => Or.inl h, fun _ => by omega⟩
  · subst h
    exact ⟨fun z => Or.inr ⟨rfl, by omega⟩, fun z => by omega⟩
  · have h1 : p * (c + 1) ≤ p * a := Int.mul_le_mul_of_nonneg_left (by omega) (by omega)
    rw [Int.mul_add] at h1
    exact ⟨fun z => by omega, fun z => by omega⟩
theorem eqL_iff {p : Int} {x y : Int × Int} (hx : 0 ≤ x.2 ∧ x.2 < p) (hy : 0 ≤ y.2 ∧ y.2 < p) : p * x.1 + x.2 = p * y.1 + y.2 ↔ x = y := by
  constructor
  · intro h
    have h1 : ¬ ltL x y := fun z => by have := (ltL_iff hx hy).mpr z; omega
    have h2 : ¬ ltL y x := fun z => by have := (ltL_iff hy hx).mpr z; omega
    obtain ⟨a, b⟩ := x
    obtain ⟨c, d⟩ := y
    unfold ltL at h1 h2
    simp only at h1 h2
    have e1 : a = c := by omega
    have e2 : b = d := by omega
    rw [e1, e2]
  · intro h
    rw [h]
noncomputable def mnkL (c : Nat → Bool) (v : Nat → Int × Int) (b : Int × Int) : Nat → Int × Int
  | 0 => b
  | n + 1 => @ite _ (c n = true ∧ ltL (v n) (mnkL c v b n)) (Classical.propDecidable _) (v n) (mnkL c v b n)
theorem mnkL_in (c : Nat → Bool) (v : Nat → Int × Int) (b : Int × Int) : ∀ n, mnkL c v b n = b ∨ ∃ k, k < n ∧ c k = true ∧ mnkL c v b n = v k
  | 0 => Or.inl rfl
  | n + 1 => by
    rcases Classical.em (c n = true ∧ ltL (v n) (mnkL c v b n)) with h | h
    · have e : mnkL c v b (n + 1) = v n := if_pos h
      exact Or.inr ⟨n, by omega, h.1, e⟩
    · have e : mnkL c v b (n + 1) = mnkL c v b n := if_neg h
      rw [e]
      rcases mnkL_in c v b n with h1 | ⟨k, h1, h2, h3⟩
      · exact Or.inl h1
      · exact Or.inr ⟨k, by omega, h2, h3⟩
noncomputable def DL (B : Br) (P : Pz) : Nat → Nat → Nat → Int × Int
  | 0, gone, _ => ((onesN 8 (andn (pB P) gone) : Int), 0)
  | r + 1, gone, last => mnkL (canB P (pA P - (r + 1)) gone) (fun k => ((DL B P r (gone ||| 2 ^ k) k).1, costB B P (pA P - (r + 1)) k (lastA P (pA P - (r + 1)) last) + (DL B P r (gone ||| 2 ^ k) k).2)) (DL B P r gone 8) 8
def posP (P : Pz) : Prop := ∀ s k, s < pA P → k < 8 → pM P s k = true → 0 ≤ pC P s k ∧ 0 ≤ pD P s k
theorem DL_b {B : Br} {P : Pz} (ho : okP P) (hp : posP P) : ∀ (r gone last : Nat), r ≤ pA P → 0 ≤ (DL B P r gone last).1 ∧ 0 ≤ (DL B P r gone last).2 ∧ (DL B P r gone last).2 + 23050 * (DL B P r gone last).1 ≤ 23050 * (onesN 8 (andn (pB P) gone) : Int)
  | 0, gone, last, _ => by
    unfold DL
    simp only
    omega
  | r + 1, gone, last, hr => by
    have ih := fun g l => DL_b (B := B) ho hp r g l (by omega)
    unfold DL
    rcases mnkL_in (canB P (pA P - (r + 1)) gone) (fun k => ((DL B P r (gone ||| 2 ^ k) k).1, costB B P (pA P - (r + 1)) k (lastA P (pA P - (r + 1)) last) + (DL B P r (gone ||| 2 ^ k) k).2)) (DL B P r gone 8) 8 with e | ⟨k, hk, hc, e⟩
    · rw [e]
      exact ih gone 8
    · rw [e]
      simp only
      obtain ⟨hm, hgk, hbk⟩ := canB_tb ho (by omega) hk hc
      obtain ⟨i1, i2, i3⟩ := ih (gone ||| 2 ^ k) k
      have hcb := ho.2.2.2.2.2 (pA P - (r + 1)) k (by omega) hk hm
      have hpp := hp (pA P - (r + 1)) k (by omega) hk hm
      have h1 := onesN_less hbk hgk 8 (Nat.le_refl _)
      rw [if_pos hk] at h1
      have hcc : 0 ≤ costB B P (pA P - (r + 1)) k (lastA P (pA P - (r + 1)) last) ∧ costB B P (pA P - (r + 1)) k (lastA P (pA P - (r + 1)) last) ≤ 23050 := by
        unfold costB
        split <;> omega
      rw [h1]
      push_cast
      omega
theorem DL_b2 {B : Br} {P : Pz} (ho : okP P) (hp : posP P) (r gone last : Nat) (hr : r ≤ pA P) : 0 ≤ (DL B P r gone last).1 ∧ (DL B P r gone last).1 ≤ 8 ∧ 0 ≤ (DL B P r gone last).2 ∧ (DL B P r gone last).2 ≤ 184400 := by
  have h1 := DL_b (B := B) ho hp r gone last hr
  have h2 := onesN_le 8 (andn (pB P) gone)
  omega
theorem DI_DL {B : Br} {P : Pz} (ho : okP P) (hp : posP P) {p : Int} (hpp : 1000000 ≤ p) : ∀ (r gone last : Nat), r ≤ pA P → DI B (wp P p) r gone last = p * (DL B P r gone last).1 + (DL B P r gone last).2
  | 0, gone, last, _ => by
    show p * (onesN 8 (andn (pB P) gone) : Int) = p * (onesN 8 (andn (pB P) gone) : Int) + 0
    omega
  | r + 1, gone, last, hr => by
    have ih := fun g l => DI_DL (B := B) ho hp hpp r g l (by omega)
    have main : ∀ n, n ≤ 8 → mnk (canB P (pA P - (r + 1)) gone) (fun k => costB B P (pA P - (r + 1)) k (lastA P (pA P - (r + 1)) last) + DI B (wp P p) r (gone ||| 2 ^ k) k) (DI B (wp P p) r gone 8) n = p * (mnkL (canB P (pA P - (r + 1)) gone) (fun k => ((DL B P r (gone ||| 2 ^ k) k).1, costB B P (pA P - (r + 1)) k (lastA P (pA P - (r + 1)) last) + (DL B P r (gone ||| 2 ^ k) k).2)) (DL B P r gone 8) n).1 + (mnkL (canB P (pA P - (r + 1)) gone) (fun k => ((DL B P r (gone ||| 2 ^ k) k).1, costB B P (pA P - (r + 1)) k (lastA P (pA P - (r + 1)) last) + (DL B P r (gone ||| 2 ^ k) k).2)) (DL B P r gone 8) n).2 := by
      intro n
      induction n with
      | zero => intro _; exact ih gone 8
      | succ n ihn =>
        intro hn
        have e0 := ihn (by omega)
        generalize hw : (fun k => ((DL B P r (gone ||| 2 ^ k) k).1, costB B P (pA P - (r + 1)) k (lastA P (pA P - (r + 1)) last) + (DL B P r (gone ||| 2 ^ k) k).2)) = w at e0 ⊢
        generalize hv : (fun k => costB B P (pA P - (r + 1)) k (lastA P (pA P - (r + 1)) last) + DI B (wp P p) r (gone ||| 2 ^ k) k) = v at e0 ⊢
        have ev : ∀ k, v k = p * (w k).1 + (w k).2 := fun k => by
          rw [← hw, ← hv]
          simp only
          rw [ih]
          omega
        have ewb : ∀ k, k < 8 → canB P (pA P - (r + 1)) gone k = true → 0 ≤ (w k).2 ∧ (w k).2 < p := fun k hk hc => by
          rw [← hw]
          simp only
          obtain ⟨hm, hgk, hbk⟩ := canB_tb ho (by omega) hk hc
          have i1 := DL_b2 (B := B) ho hp r (gone ||| 2 ^ k) k (by omega)
          have hcb := ho.2.2.2.2.2 (pA P - (r + 1)) k (by omega) hk hm
          have hpp := hp (pA P - (r + 1)) k (by omega) hk hm
          have hcc : 0 ≤ costB B P (pA P - (r + 1)) k (lastA P (pA P - (r + 1)) last) ∧ costB B P (pA P - (r + 1)) k (lastA P (pA P - (r + 1)) last) ≤ 23050 := by
            unfold costB
            split <;> omega
          omega
        have emb : 0 ≤ (mnkL (canB P (pA P - (r + 1)) gone) w (DL B P r gone 8) n).2 ∧ (mnkL (canB P (pA P - (r + 1)) gone) w (DL B P r gone 8) n).2 < p := by
          rcases mnkL_in (canB P (pA P - (r + 1)) gone) w (DL B P r gone 8) n with e | ⟨k, hk, hc, e⟩
          · rw [e]
            have i1 := DL_b2 (B := B) ho hp r gone 8 (by omega)
            omega
          · rw [e]
            exact ewb k (by omega) hc
        rcases Classical.em (canB P (pA P - (r + 1)) gone n = true ∧ ltL (w n) (mnkL (canB P (pA P - (r + 1)) gone) w (DL B P r gone 8) n)) with h | h
        · have e1 : mnkL (canB P (pA P - (r + 1)) gone) w (DL B P r gone 8) (n + 1) = w n := if_pos h
          have e2 : mnk (canB P (pA P - (r + 1)) gone) v (DI B (wp P p) r gone 8) (n + 1) = v n := by
            have hlt : v n < mnk (canB P (pA P - (r + 1)) gone) v (DI B (wp P p) r gone 8) n := by
              rw [ev, e0]
              exact (ltL_iff (ewb n (by omega) h.1) emb).mpr h.2
            show (if _ then _ else _) = _
            rw [if_pos ⟨h.1, hlt⟩]
          rw [e1, e2, ev]
        · have e1 : mnkL (canB P (pA P - (r + 1)) gone) w (DL B P r gone 8) (n + 1) = mnkL (canB P (pA P - (r + 1)) gone) w (DL B P r gone 8) n := if_neg h
          have e2 : mnk (canB P (pA P - (r + 1)) gone) v (DI B (wp P p) r gone 8) (n + 1) = mnk (canB P (pA P - (r + 1)) gone) v (DI B (wp P p) r gone 8) n := by
            show (if _ then _ else _) = _
            rw [if_neg]
            rintro ⟨q1, q2⟩
            refine h ⟨q1, ?_⟩
            rw [ev, e0] at q2
            exact (ltL_iff (ewb n (by omega) q1) emb).mp q2
          rw [e1, e2, e0]
    exact main 8 (Nat.le_refl _)
theorem cP_pen {B : Br} {P : Pz} (ho : okP P) (hp : posP P) {p : Int} (hpp : 1000000 ≤ p) {s g l k : Nat} (hs : s < pA P) (hk : k < 8) : cP B (wp P p) s g l k = true ↔ (canB P s g k = true ∧ ((DL B P (pA P - (s + 1)) (g ||| 2 ^ k) k).1, costB B P s k (lastA P s l) + (DL B P (pA P - (s + 1)) (g ||| 2 ^ k) k).2) = DL B P (pA P - s) g l) := by
  unfold cP
  rw [Bool.and_eq_true, decide_eq_true_iff]
  show canB P s g k = true ∧ costB B P s k (lastA P s l) + DI B (wp P p) (pA P - (s + 1)) (g ||| 2 ^ k) k = DI B (wp P p) (pA P - s) g l ↔ _
  rw [DI_DL ho hp hpp _ _ _ (by omega), DI_DL ho hp hpp _ _ _ (by omega)]
  constructor
  · rintro ⟨hc, e⟩
    refine ⟨hc, ?_⟩
    obtain ⟨hm, hgk, hbk⟩ := canB_tb ho hs hk hc
    have i1 := DL_b2 (B := B) ho hp (pA P - (s + 1)) (g ||| 2 ^ k) k (by omega)
    have i2 := DL_b2 (B := B) ho hp (pA P - s) g l (by omega)
    have hcb := ho.2.2.2.2.2 s k hs hk hm
    have hpp2 := hp s k hs hk hm
    have hcc : 0 ≤ costB B P s k (lastA P s l) ∧ costB B P s k (lastA P s l) ≤ 23050 := by
      unfold costB
      split <;> omega
    refine (eqL_iff (p := p) (by simp only; omega) (by omega)).mp ?_
    simp only
    omega
  · rintro ⟨hc, e⟩
    refine ⟨hc, ?_⟩
    rw [← e]
    simp only
    omega
theorem fst8_congr {c d : Nat → Bool} : ∀ (f k : Nat), k + f = 8 → (∀ i, i < 8 → c i = d i) → fst8 c f k = fst8 d f k
  | 0, _, _, _ => rfl
  | f + 1, k, h, hc => by
    unfold fst8
    rw [hc k (by omega), fst8_congr f (k + 1) (by omega) hc]
theorem pick_pen {B : Br} {P : Pz} (ho : okP P) (hp : posP P) {p p' : Int} (h1 : 1000000 ≤ p) (h2 : 1000000 ≤ p') {s : Nat} (hs : s < pA P) (g l : Nat) : pick B (wp P p) s g l = pick B (wp P p') s g l := by
  unfold pick
  refine fst8_congr 8 0 rfl (fun k hk => ?_)
  have a := cP_pen (B := B) ho hp h1 (g := g) (l := l) hs hk
  have b := cP_pen (B := B) ho hp h2 (g := g) (l := l) hs hk
  cases h3 : cP B (wp P p) s g l k with
  | true => exact (b.mpr (a.mp h3)).symm
  | false =>
    cases h4 : cP B (wp P p') s g l k with
    | false => rfl
    | true =>
      have := a.mpr (b.mp h4)
      rw [h3] at this
      exact Bool.noConfusion this
theorem pth_pen {B : Br} {P : Pz} (ho : okP P) (hp : posP P) {p p' : Int} (h1 : 1000000 ≤ p) (h2 : 1000000 ≤ p') : ∀ s, s ≤ pA P → pth B (wp P p) s = pth B (wp P p') s
  | 0, _ => rfl
  | s + 1, hs => by
    have ih := pth_pen (B := B) ho hp h1 h2 s (by omega)
    have e : hold B (wp P p) s = hold B (wp P p') s := by
      unfold hold
      rw [ih]
      exact pick_pen ho hp h1 h2 (by omega) _ _
    rw [pth_s, pth_s, e, ih]
theorem hold_pen {B : Br} {P : Pz} (ho : okP P) (hp : posP P) {p p' : Int} (h1 : 1000000 ≤ p) (h2 : 1000000 ≤ p') {s : Nat} (hs : s < pA P) : hold B (wp P p) s = hold B (wp P p') s := by
  unfold hold
  rw [pth_pen ho hp h1 h2 s (by omega)]
  exact pick_pen ho hp h1 h2 hs _ _
theorem cn_pen {B : Br} {P : Pz} (ho : okP P) (hp : posP P) {p p' : Int} (h1 : 1000000 ≤ p) (h2 : 1000000 ≤ p') {s : Nat} (hs : s < pA P) : cn B (wp P p) s = cn B (wp P p') s ∧ xn B (wp P p) s = xn B (wp P p') s := by
  unfold cn xn
  rw [hold_pen ho hp h1 h2 hs, pth_pen ho hp h1 h2 s (by omega)]
  exact ⟨rfl, rfl⟩
theorem sums_pen {B : Br} {P : Pz} (ho : okP P) (hp : posP P) {p p' : Int} (h1 : 1000000 ≤ p) (h2 : 1000000 ≤ p') : ∀ s, s ≤ pA P → tcs B (wp P p) s = tcs B (wp P p') s ∧ (∀ b, ern B (wp P p) b s = ern B (wp P p') b s) ∧ jmm B (wp P p) s = jmm B (wp P p') s
  | 0, _ => ⟨rfl, fun _ => rfl, rfl⟩
  | s + 1, hs => by
    obtain ⟨i1, i2, i3⟩ := sums_pen (B := B) ho hp h1 h2 s (by omega)
    obtain ⟨c1, c2⟩ := cn_pen (B := B) ho hp h1 h2 (s := s) (by omega)
    have hh := hold_pen (B := B) ho hp h1 h2 (s := s) (by omega)
    refine ⟨?_, fun b => ?_, ?_⟩
    · show tcs B (wp P p) s + (cn B (wp P p) s + xn B (wp P p) s) = tcs B (wp P p') s + (cn B (wp P p') s + xn B (wp P p') s)
      rw [i1, c1, c2]
    · show (if (if pE P ≤ s then 1 else 0) = b then ern B (wp P p) b s + cn B (wp P p) s else ern B (wp P p) b s) = (if (if pE P ≤ s then 1 else 0) = b then ern B (wp P p') b s + cn B (wp P p') s else ern B (wp P p') b s)
      rw [i2 b, c1]
    · show (if hold B (wp P p) s = 8 then jmm B (wp P p) s else if jmm B (wp P p) s < smB B P s - B.2.2.2 (hold B (wp P p) s) 2 then smB B P s - B.2.2.2 (hold B (wp P p) s) 2 else jmm B (wp P p) s) = (if hold B (wp P p') s = 8 then jmm B (wp P p') s else if jmm B (wp P p') s < smB B P s - B.2.2.2 (hold B (wp P p') s) 2 then smB B P s - B.2.2.2 (hold B (wp P p') s) 2 else jmm B (wp P p') s)
      rw [i3, hh]
theorem fst8_none_c {c : Nat → Bool} : ∀ (f k : Nat), k + f = 8 → fst8 c f k = 8 → ∀ i, k ≤ i → i < 8 → c i = false
  | 0, k, h, _, i, h1, h2 => by omega
  | f + 1, k, h, h8, i, h1, h2 => by
    unfold fst8 at h8
    by_cases e : c k = true
    · rw [if_pos e] at h8
      omega
    · rw [if_neg e] at h8
      by_cases e2 : i = k
      · rw [e2]
        cases h9 : c k with
        | true => exact absurd h9 e
        | false => rfl
      · exact fst8_none_c f (k + 1) (by omega) h8 i (by omega) h2
/-- along the seats: what is paid so far, and the least of the rest -/
theorem path_sum {B : Br} {P : Pz} (ho : okP P) : ∀ s, s ≤ pA P → DI B P (pA P) 0 8 = tcs B P s + DI B P (pA P - s) (pth B P s).1 (pth B P s).2
  | 0, _ => by
    show _ = 0 + DI B P (pA P - 0) 0 8
    rw [Int.zero_add, Nat.sub_zero]
  | s + 1, hs => by
    have ih := path_sum (B := B) ho s (by omega)
    rw [ih]
    show _ = tcs B P s + (cn B P s + xn B P s) + _
    rw [pth_s]
    by_cases h8 : hold B P s = 8
    · rw [if_pos h8]
      have ec : cn B P s = 0 := by
        unfold cn
        rw [if_pos h8]
      have ex : xn B P s = 0 := by
        unfold xn
        rw [if_pos h8]
      rw [ec, ex]
      have hn := fst8_none_c 8 0 rfl (h8 : fst8 (cP B P s (pth B P s).1 (pth B P s).2) 8 0 = 8)
      have hm := mnk_min (canB P s (pth B P s).1) (fun k => costB B P s k (lastA P s (pth B P s).2) + DI B P (pA P - (s + 1)) ((pth B P s).1 ||| 2 ^ k) k) (DI B P (pA P - (s + 1)) (pth B P s).1 8) 8
      rw [← DI_succ (by omega)] at hm
      rcases hm.2.2 with e | ⟨k, ⟨hk, hc⟩, e⟩
      · rw [e]
        simp
      · exfalso
        have h9 := hn k (Nat.zero_le _) hk
        unfold cP at h9
        rw [hc] at h9
        simp at h9
        exact h9 e.symm
    · rw [if_neg h8]
      obtain ⟨h1, h2⟩ := hold_c h8
      have h3 := pick_c (B := B) (P := P) (s := s) (g := (pth B P s).1) (l := (pth B P s).2) h1
      unfold cP at h3
      simp at h3
      have e := h3.2
      have ec : costB B P s (hold B P s) (lastA P s (pth B P s).2) = cn B P s + xn B P s := by
        unfold costB cn xn
        rw [if_neg h8, if_neg h8]
      have e2 : costB B P s (hold B P s) (lastA P s (pth B P s).2) + DI B P (pA P - (s + 1)) ((pth B P s).1 ||| 2 ^ hold B P s) (hold B P s) = DI B P (pA P - s) (pth B P s).1 (pth B P s).2 := e
      rw [ec] at e2
      simp only
      omega
theorem path_val {B : Br} {P : Pz} (ho : okP P) : DI B P (pA P) 0 8 = pP P * (onesN 8 (andn (pB P) (pth B P (pA P)).1) : Int) + tcs B P (pA P) := by
  rw [path_sum ho (pA P) (Nat.le_refl _), Nat.sub_self]
  show _ + pP P * (onesN 8 (andn (pB P) (pth B P (pA P)).1) : Int) = _
  omega
/-- how many are left out and what the others cost, out of the number with the penalty -/
theorem plan_val {B : Br} {P : Pz} (ho : okP P) (hp : posP P) : 0 ≤ tcs B (wp P 1000000) (pA P) ∧ tcs B (wp P 1000000) (pA P) ≤ 184400 ∧ DI B (wp P 1000000) (pA P) 0 8 = 1000000 * (onesN 8 (andn (pB P) (pth B (wp P 1000000) (pA P)).1) : Int) + tcs B (wp P 1000000) (pA P) := by
  have hw : ∀ p : Int, 1000000 ≤ p → p ≤ 2 ^ 20 → okP (wp P p) := fun p h1 h2 => ⟨ho.1, ho.2.1, ho.2.2.1, (by omega : (0 : Int) ≤ p), h2, ho.2.2.2.2.2⟩
  have e1 := path_val (B := B) (hw 1000000 (by decide) (by decide))
  have e2 := path_val (B := B) (hw 1000001 (by decide) (by decide))
  have d1 := DI_DL (B := B) ho hp (p := 1000000) (by decide) (pA P) 0 8 (Nat.le_refl _)
  have d2 := DI_DL (B := B) ho hp (p := 1000001) (by decide) (pA P) 0 8 (Nat.le_refl _)
  have hb := DL_b2 (B := B) ho hp (pA P) 0 8 (Nat.le_refl _)
  have s1 := (sums_pen (B := B) ho hp (p := 1000001) (p' := 1000000) (by decide) (by decide) (pA P) (Nat.le_refl _)).1
  have s2 := pth_pen (B := B) ho hp (p := 1000001) (p' := 1000000) (by decide) (by decide) (pA P) (Nat.le_refl _)
  have f1 : DI B (wp P 1000000) (pA P) 0 8 = 1000000 * (onesN 8 (andn (pB P) (pth B (wp P 1000000) (pA P)).1) : Int) + tcs B (wp P 1000000) (pA P) := e1
  have f2 : DI B (wp P 1000001) (pA P) 0 8 = 1000001 * (onesN 8 (andn (pB P) (pth B (wp P 1000001) (pA P)).1) : Int) + tcs B (wp P 1000001) (pA P) := e2
  rw [s1, s2] at f2
  refine ⟨?_, ?_, f1⟩ <;> omega
