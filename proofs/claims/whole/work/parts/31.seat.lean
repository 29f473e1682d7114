/-! who sits where -/
def fst8 (c : Nat → Bool) : Nat → Nat → Nat
  | 0, _ => 8
  | f + 1, k => if c k = true then k else fst8 c f (k + 1)
theorem fst8_le (c : Nat → Bool) : ∀ (f k : Nat), k + f = 8 → fst8 c f k ≤ 8
  | 0, _, _ => Nat.le_refl _
  | f + 1, k, h => by
    unfold fst8
    split
    · omega
    · exact fst8_le c f (k + 1) (by omega)
theorem fst8_c {c : Nat → Bool} : ∀ (f k : Nat), k + f = 8 → fst8 c f k < 8 → c (fst8 c f k) = true
  | 0, _, _, h => absurd h (by simp [fst8])
  | f + 1, k, h, hl => by
    unfold fst8 at hl ⊢
    by_cases e : c k = true
    · rw [if_pos e]
      exact e
    · rw [if_neg e] at hl ⊢
      exact fst8_c f (k + 1) (by omega) hl
def cP (B : Br) (P : Pz) (s g l k : Nat) : Bool := canB P s g k && decide (costB B P s k (lastA P s l) + DI B P (pA P - (s + 1)) (g ||| 2 ^ k) k = DI B P (pA P - s) g l)
def pick (B : Br) (P : Pz) (s g l : Nat) : Nat := fst8 (cP B P s g l) 8 0
theorem pick_le (B : Br) (P : Pz) (s g l : Nat) : pick B P s g l ≤ 8 := fst8_le _ 8 0 rfl
theorem pick_c {B : Br} {P : Pz} {s g l : Nat} (h : pick B P s g l < 8) : cP B P s g l (pick B P s g l) = true := fst8_c 8 0 rfl h
/-- who has crossed, and who went right ahead, at a slot -/
def pth (B : Br) (P : Pz) : Nat → Nat × Nat
  | 0 => (0, 8)
  | s + 1 => let k := pick B P s (pth B P s).1 (pth B P s).2
    if k = 8 then ((pth B P s).1, 8) else ((pth B P s).1 ||| 2 ^ k, k)
def hold (B : Br) (P : Pz) (s : Nat) : Nat := pick B P s (pth B P s).1 (pth B P s).2
theorem pth_s (B : Br) (P : Pz) (s : Nat) : pth B P (s + 1) = if hold B P s = 8 then ((pth B P s).1, 8) else ((pth B P s).1 ||| 2 ^ hold B P s, hold B P s) := rfl
theorem hold_le (B : Br) (P : Pz) (s : Nat) : hold B P s ≤ 8 := pick_le _ _ _ _ _
theorem hold_c {B : Br} {P : Pz} {s : Nat} (h : hold B P s ≠ 8) : hold B P s < 8 ∧ canB P s (pth B P s).1 (hold B P s) = true := by
  have h1 : hold B P s < 8 := by
    have := hold_le B P s
    omega
  have h2 := pick_c h1
  unfold cP at h2
  simp at h2
  exact ⟨h1, h2.1⟩
def pthOk (P : Pz) (q : Nat × Nat) : Prop := q.1 < 256 ∧ sub8 q.1 (pB P) ∧ (q.2 = 8 ∨ (q.2 < 8 ∧ q.1.testBit q.2 = true))
theorem pth_ok {B : Br} {P : Pz} (ho : okP P) : ∀ s, s ≤ pA P → pthOk P (pth B P s)
  | 0, _ => ⟨(by decide : (0 : Nat) < 256), fun k _ h => by rw [show (pth B P 0).1 = 0 from rfl, Nat.zero_testBit] at h; exact Bool.noConfusion h, Or.inl rfl⟩
  | s + 1, hs => by
    obtain ⟨a, b, c⟩ := pth_ok ho s (by omega)
    rw [pth_s]
    by_cases h : hold B P s = 8
    · rw [if_pos h]
      exact ⟨a, b, Or.inl rfl⟩
    · rw [if_neg h]
      obtain ⟨h1, h2⟩ := hold_c h
      obtain ⟨_, _, h3⟩ := canB_tb ho (by omega) h1 h2
      exact ⟨or_lt a h1, or_sub b h3, Or.inr ⟨h1, by rw [or_tb]; simp⟩⟩
/-- coins and the rest at a slot -/
def cn (B : Br) (P : Pz) (s : Nat) : Int := if hold B P s = 8 then 0 else if isD B (hold B P s) (lastA P s (pth B P s).2) = true then pD P s (hold B P s) else pC P s (hold B P s)
def xn (B : Br) (P : Pz) (s : Nat) : Int := if hold B P s = 8 then 0 else pX P s (hold B P s)
def smB (B : Br) (P : Pz) (s : Nat) : Nat := slM B (if pE P ≤ s then s - pE P else s)
def tcs (B : Br) (P : Pz) : Nat → Int
  | 0 => 0
  | s + 1 => tcs B P s + (cn B P s + xn B P s)
def ern (B : Br) (P : Pz) (b : Nat) : Nat → Int
  | 0 => 0
  | s + 1 => if (if pE P ≤ s then 1 else 0) = b then ern B P b s + cn B P s else ern B P b s
def jmm (B : Br) (P : Pz) : Nat → Nat
  | 0 => 0
  | s + 1 => if hold B P s = 8 then jmm B P s else if jmm B P s < smB B P s - B.2.2.2 (hold B P s) 2 then smB B P s - B.2.2.2 (hold B P s) 2 else jmm B P s
theorem cn_b {B : Br} {P : Pz} (ho : okP P) {s : Nat} (hs : s < pA P) : -10000 ≤ cn B P s ∧ cn B P s ≤ 10000 ∧ 0 ≤ xn B P s ∧ xn B P s ≤ 13050 := by
  unfold cn xn
  by_cases h : hold B P s = 8
  · rw [if_pos h, if_pos h]
    omega
  · rw [if_neg h, if_neg h]
    obtain ⟨h1, h2⟩ := hold_c h
    have h3 := ho.2.2.2.2.2 s _ hs h1 (canB_tb ho hs h1 h2).1
    split <;> omega
theorem ern_b {B : Br} {P : Pz} (ho : okP P) (b : Nat) : ∀ s, s ≤ pA P → -10000 * (s : Int) ≤ ern B P b s ∧ ern B P b s ≤ 10000 * s
  | 0, _ => by simp [ern]
  | s + 1, hs => by
    have ih := ern_b (B := B) ho b s (by omega)
    have h1 := cn_b (B := B) ho (s := s) (by omega)
    unfold ern
    split <;> push_cast <;> omega
theorem smB_b {B : Br} {P : Pz} (hw : WB B) (hE : pE P = slN B) (hA : pA P ≤ 2 * pE P) {s : Nat} (hs : s < pA P) : B.1 2 ≤ smB B P s ∧ smB B P s ≤ B.1 3 := by
  unfold smB
  refine ⟨?_, slM_b hw ?_⟩
  · unfold slM
    omega
  · split <;> omega
theorem jmm_b {B : Br} {P : Pz} (hw : WB B) (hE : pE P = slN B) (hA : pA P ≤ 2 * pE P) : ∀ s, s ≤ pA P → jmm B P s ≤ 1439
  | 0, _ => by simp [jmm]
  | s + 1, hs => by
    have ih := jmm_b hw hE hA s (by omega)
    have h1 := smB_b hw hE hA (s := s) (by omega)
    have h2 := hw.2.2.1
    unfold jmm
    refine if_le ih (if_le ?_ ih)
    omega
/-! the program's own -/
theorem e_coinsIn {h : Hp} {B : Br} {P : Pz} (hP : PS h B P) {p1 p2 p3 : Int32} (s k l : Nat) (h1 : p1 = nI s) (h2 : p2 = nI k) (h3 : p3 = nI l) (hs : s < pA P) (hs6 : s < 60) (hk : k < 8) (hl : l ≤ 8) (hm : pM P s k = true) (Q : Int32 → Prop) : w_X2_coinsIn p1 p2 p3 h Q = Q (zI (if l < 8 ∧ stB B k < stB B l then pD P s k else pC P s k)) := by
  obtain ⟨c1, c2, _⟩ := hP.2.2.2.2.2.2 s k hs hk hm
  subst h1 h2 h3
  unfold w_X2_coinsIn w_X2_coinsIn_b29 w_X2_coinsIn_b30
  rw [q8, pk_mul, nI_add]
  by_cases c : l = 8
  · rw [wif_t (by rw [c]), wif_t (by decide), e_at (by decide), rd_n (by omega) (by decide), c1, if_neg (by omega)]
  · have b1 := st_b hP.1.2.2 k
    have b2 := st_b hP.1.2.2 l
    rw [wif_f (fun z => c ((nI_eq (by omega) (by omega)).mp z)), e_standing hP.1 l rfl (by omega), e_standing hP.1 k rfl hk, wlet_e]
    by_cases c3 : stB B k < stB B l
    · rw [if_neg (fun z => by have := (nI_leI (by omega) (by omega)).mp z; omega), wif_f i10, e_at (by decide), rd_n (by omega) (by decide), c2, if_pos ⟨by omega, c3⟩]
    · rw [if_pos ((nI_leI (by omega) (by omega)).mpr (by omega)), wif_t rfl, e_at (by decide), rd_n (by omega) (by decide), c1, if_neg (fun z => c3 z.2)]
def lastC (B : Br) (P : Pz) (s l : Nat) : Nat := if reachB B P s = true then l else 8
theorem shade_same {B : Br} {P : Pz} {s l : Nat} (hs : s < pA P) (h0 : s = 0 → l = 8) (k : Nat) : (lastC B P s l < 8 ∧ stB B k < stB B (lastC B P s l)) ↔ isD B k (lastA P s l) = true := by
  unfold lastC isD lastA
  cases hr : reachB B P s with
  | true =>
    unfold reachB at hr
    simp at hr
    rw [if_pos rfl, if_neg hr.2.2.1]
    simp [hr.1]
  | false =>
    rw [if_neg (by decide)]
    unfold reachB at hr
    constructor
    · intro z
      omega
    · intro z
      exfalso
      by_cases c7 : B.1 7 = 1
      · by_cases c0 : s = 0
        · rw [h0 c0] at z
          simp at z
        · by_cases ce : s = pE P
          · rw [if_pos ce] at z
            simp at z
          · simp [c7, c0, ce] at hr
            omega
      · simp [c7] at z
theorem DI_lastC {B : Br} {P : Pz} {s l : Nat} (hs : s < pA P) (h0 : s = 0 → l = 8) (g : Nat) : DI B P (pA P - s) g (lastC B P s l) = DI B P (pA P - s) g l := by
  unfold lastC
  cases hr : reachB B P s with
  | true => rw [if_pos rfl]
  | false =>
    rw [if_neg (by decide)]
    by_cases c0 : s = 0
    · rw [h0 c0]
    · exact (DI_un (by omega) c0 hr g l).symm
theorem e_holderOf {h : Hp} {B : Br} {P : Pz} (hP : PS h B P) (ho : okP P) {p1 p2 p3 : Int32} (s g l : Nat) (h1 : p1 = nI s) (h2 : p2 = nI g) (h3 : p3 = nI (lastC B P s l)) (hs : s < pA P) (hg : pthOk P (g, l)) (h0 : s = 0 → l = 8) (hT : TI B P h s) (hT1 : TI B P h (s + 1)) (Q : Int32 → Prop) (hQ : Q (nI (pick B P s g l))) : w_X2_holderOf p1 p2 p3 h Q := by
  have hal := ho.al
  obtain ⟨hg1, hg2, hg3⟩ := hg
  simp only at hg1 hg2 hg3
  obtain ⟨x, hx, hxe, hxb⟩ := hP.2.2.2.2.2.1 s hs
  have hcan : ∀ k, k < 8 → ((andn x g).testBit k = canB P s g k) := fun k hk => by
    rw [andn_tb x g hk, hxb k hk]
    rfl
  have hlc : lastC B P s l ≤ 8 := by
    unfold lastC
    split <;> omega
  have hw : h 49 (ix s g (lastC B P s l)) = zI (DI B P (pA P - s) g l) := by
    rw [← DI_lastC hs h0 g]
    by_cases c8 : lastC B P s l = 8
    · rw [c8]
      exact (hT g hg1 hg2).1
    · have hr : reachB B P s = true := by
        cases hr : reachB B P s with
        | true => rfl
        | false =>
          exfalso
          unfold lastC at c8
          rw [hr] at c8
          exact c8 rfl
      refine (hT g hg1 hg2).2 hr _ (by omega) ?_
      unfold lastC at c8 ⊢
      rw [if_pos hr] at c8 ⊢
      rcases hg3 with e | e
      · exact absurd e c8
      · exact e.2
  subst h1 h2 h3
  unfold w_X2_holderOf
  rw [e_index s g _ rfl rfl rfl, e_at (by decide), rd_n (by unfold ix; omega) (by decide), hw, e_at (by decide), rd_n (by omega) (by decide), hxe, andn_i hx, wlet_e]
  unfold w_X2_holderOf_b32
  refine wl_run 8 (fun t (v : Int32) => v = nI t ∧ fst8 (cP B P s g l) 8 0 = fst8 (cP B P s g l) (8 - t) t) ?_ (Nat.zero_le _) ⟨rfl, rfl⟩
  rintro t v K ht ⟨e, hp⟩ hK
  subst e
  show w_X2_holderOf_l32 _ _ _ _ _ h Q K (nI t)
  unfold w_X2_holderOf_l32
  refine ⟨fun z => ?_, fun z => ?_⟩
  · have ht8 : t = 8 := by
      rw [q8] at z
      have := (nI_leI (by omega) (by omega)).mp z
      omega
    subst ht8
    have e8 : pick B P s g l = 8 := hp
    rw [e8] at hQ
    exact hQ
  have ht8 : t < 8 := Nat.lt_of_not_le fun q => z (by rw [q8]; exact (nI_leI (by omega) (by omega)).mpr q)
  have hst : fst8 (cP B P s g l) (8 - t) t = if cP B P s g l t = true then t else fst8 (cP B P s g l) (8 - (t + 1)) (t + 1) := by
    have e : 8 - t = (8 - (t + 1)) + 1 := by omega
    rw [e]
    rfl
  rw [hst] at hp
  unfold w_X2_holderOf_b75
  rw [bit_t (by have := andn_lt (g := g) hx; omega) (by omega), hcan t ht8, nI_1]
  cases hc : canB P s g t with
  | false =>
    rw [if_neg (show ¬ false = true by decide)]
    refine wif_p (by decide) (hK ht8 _ ⟨rfl, ?_⟩)
    rw [hp, if_neg]
    unfold cP
    rw [hc]
    simp
  | true =>
    obtain ⟨hm, hgk, hbk⟩ := canB_tb ho hs ht8 hc
    have hrb := rest_b (B := B) (g := g) ho hs ht8 hm
    have hcb := ho.2.2.2.2.2 s t hs ht8 hm
    have hDb := DI_b2 (B := B) ho (pA P - s) g l (by omega)
    rw [if_pos rfl]
    refine wif_n (fun z => z rfl) ?_
    rw [e_coinsIn hP s t _ rfl rfl rfl hs (by omega) ht8 hlc hm, e_restBehind hP ho s g t rfl rfl rfl hs hg1 hg2 ht8 hc hT1, zI_add]
    have ec : (if lastC B P s l < 8 ∧ stB B t < stB B (lastC B P s l) then pD P s t else pC P s t) = if isD B t (lastA P s l) = true then pD P s t else pC P s t := by
      by_cases c : isD B t (lastA P s l) = true
      · rw [if_pos c, if_pos ((shade_same hs h0 t).mpr c)]
      · rw [if_neg c, if_neg (fun z => c ((shade_same hs h0 t).mp z))]
    rw [ec]
    have eq9 : (if isD B t (lastA P s l) = true then pD P s t else pC P s t) + restB B P s g t = costB B P s t (lastA P s l) + DI B P (pA P - (s + 1)) (g ||| 2 ^ t) t := by
      unfold costB restB
      omega
    rw [eq9]
    have hbb : -1000000 ≤ costB B P s t (lastA P s l) + DI B P (pA P - (s + 1)) (g ||| 2 ^ t) t ∧ costB B P s t (lastA P s l) + DI B P (pA P - (s + 1)) (g ||| 2 ^ t) t ≤ 10000000 := by
      rw [← eq9]
      split <;> omega
    have hcP : cP B P s g l t = true ↔ costB B P s t (lastA P s l) + DI B P (pA P - (s + 1)) (g ||| 2 ^ t) t = DI B P (pA P - s) g l := by
      unfold cP
      rw [hc]
      simp
    refine ⟨fun z => hK ht8 _ ⟨rfl, ?_⟩, fun z => ?_⟩
    · rw [hp, if_neg]
      intro q
      exact z (by rw [hcP.mp q])
    · have z2 := (zI_inj (by omega) (by omega)).mp (Classical.not_not.mp z)
      have e8 : pick B P s g l = t := by
        show fst8 (cP B P s g l) 8 0 = t
        rw [hp, if_pos (hcP.mpr z2)]
      rw [e8] at hQ
      exact hQ
