/-! reading a text, by the model -/
def MX (g : Hp) (T : Nat → Int32) (L p : Nat) : Prop := g 92 2 = nI L ∧ L ≤ 500 ∧ g 92 4 = nI p ∧ p ≤ L ∧ ∀ i, i < L → g 93 i = T i
def fm (h h' : Hp) : Prop := (∀ q, q ≠ 92 → h' q = h q) ∧ (∀ i, i ≠ 4 → h' 92 i = h 92 i)
theorem fm.tr {h h1 h2 : Hp} (a : fm h h1) (b : fm h1 h2) : fm h h2 := ⟨fun q hq => (b.1 q hq).trans (a.1 q hq), fun i hi => (b.2 i hi).trans (a.2 i hi)⟩
theorem fm.rf {h : Hp} : fm h h := ⟨fun _ _ => rfl, fun _ _ => rfl⟩
theorem fm.up {h : Hp} {v : Int32} : fm h (hup h 92 4 v) := ⟨fun q hq => hup_ne hq, fun i hi => hup_o (Or.inr hi)⟩
theorem MX.up {h h' : Hp} {T : Nat → Int32} {L p q : Nat} (c : MX h T L p) (f : fm h h') (e : h' 92 4 = nI q) (hq : q ≤ L) : MX h' T L q := ⟨(f.2 2 (by decide)).trans c.1, c.2.1, e, hq, fun i hi => by rw [f.1 93 (by decide)]; exact c.2.2.2.2 i hi⟩
def em (h h' : Hp) (k x : Nat) : Prop := (∀ q, q ≠ 92 → h' q = h q) ∧ (∀ i, i ≠ 4 → i ≠ 5 → i ≠ 6 → h' 92 i = h 92 i) ∧ h' 92 5 = nI k ∧ h' 92 6 = nI x
theorem em.fm {h h1 h2 : Hp} {k x : Nat} (a : fm h h1) (b : em h1 h2 k x) : em h h2 k x := ⟨fun q hq => (b.1 q hq).trans (a.1 q hq), fun i h3 h4 h5 => (b.2.1 i h3 h4 h5).trans (a.2 i h3), b.2.2⟩
theorem em.mx {g h' : Hp} {T : Nat → Int32} {L p k x : Nat} (c : MX g T L p) (e : em g h' k x) (e4 : h' 92 4 = g 92 4) : MX h' T L p := ⟨(e.2.1 2 (by decide) (by decide) (by decide)).trans c.1, c.2.1, e4.trans c.2.2.1, c.2.2.2.1, fun i hi => by rw [e.1 93 (by decide)]; exact c.2.2.2.2 i hi⟩
theorem e_byteAt {g : Hp} {T : Nat → Int32} {L p : Nat} (c : MX g T L p) {q : Nat} {p1 : Int32} (e : p1 = nI q) (hq : q < 2 ^ 31) (Q : Int32 → Prop) : w_X9_byteAt p1 g Q = Q (if q < L then T q else -1) := by
  obtain ⟨c1, c2, c3, c4, c5⟩ := c
  subst e
  unfold w_X9_byteAt
  rw [c1]
  by_cases h : q < L
  · rw [wif_t ((nI_ltI hq (by omega)).mpr h), and_t (vp_in_nI (by omega) (by decide)), nI_clamp hq, if_pos h, c5 q h]
  · rw [wif_f (fun z => h ((nI_ltI hq (by omega)).mp z)), if_neg h]
theorem s_blanks {g : Hp} {T : Nat → Int32} {L p : Nat} (c : MX g T L p) (Q : Hp → Prop) (hQ : ∀ h', fm g h' → MX h' T L (sk T L p) → Q h') : w_X9_blanks g Q := by
  have c2 := c.2.1
  unfold w_X9_blanks w_X9_blanks_b0
  refine wl_run 500 (fun n (u : Hp) => fm g u ∧ MX u T L (p + n) ∧ sk T L p = sk T L (p + n)) ?_ (Nat.zero_le _) ⟨fm.rf, c, rfl⟩
  rintro n u K hn ⟨fu, cu, es⟩ hK
  show w_X9_blanks_l0 Q K u
  have hl := cu.2.2.2.1
  unfold w_X9_blanks_l0
  rw [cu.2.2.1, e_byteAt cu rfl (by omega)]
  refine ⟨fun z => ?_, fun z => ?_⟩
  · have e : sk T L (p + n) = p + n := sc_no (fun q => z (by rw [if_pos q.1]; exact of_decide_eq_true q.2))
    refine hQ u fu ?_
    rw [es, e]
    exact cu
  · have z2 := Classical.not_not.mp z
    by_cases q : p + n < L
    · rw [if_pos q] at z2
      rw [nI_1, wlet_e]
      exact hK (by omega) _ ⟨fu.tr fm.up, cu.up fm.up (hup_eq _ _ _ _) (by omega), es.trans (sc_go q (decide_eq_true z2))⟩
    · rw [if_neg q] at z2
      exact absurd z2 (by decide)
theorem s_wrong {g : Hp} {k x : Nat} {p1 p2 : Int32} (e1 : p1 = nI k) (e2 : p2 = nI x) (h5 : g 92 5 = 0) (Q : Hp → Prop) (hQ : ∀ h', em g h' k x → h' 92 4 = g 92 4 → Q h') : w_X9_wrong p1 p2 g Q := by
  unfold w_X9_wrong
  refine wif_n (not_not_intro h5) ?_
  rw [wlet_e, wlet_e]
  exact hQ _ ⟨fun q hq => by rw [hup_ne hq, hup_ne hq], fun i h3 h4 h5 => by rw [hup_o (Or.inr h5), hup_o (Or.inr h4)], by rw [hup_o (Or.inr (by decide)), hup_eq, e1], by rw [hup_eq, e2]⟩ (by rw [hup_o (Or.inr (by decide)), hup_o (Or.inr (by decide))])
theorem e_wrongN {g : Hp} {p1 p2 : Int32} (h5 : g 92 5 ≠ 0) (Q : Hp → Prop) : w_X9_wrong p1 p2 g Q = Q g := by
  unfold w_X9_wrong
  rw [wif_t h5]
/-- letters as numbers to the base 27 -/
def cdF (f : Nat → Nat) : Nat → Nat
  | 0 => 0
  | n + 1 => 27 * cdF f n + f n
theorem cdF_inj {f g : Nat → Nat} (hf : ∀ i, 1 ≤ f i ∧ f i ≤ 26) : ∀ {n m}, (∀ i, i < m → 1 ≤ g i ∧ g i ≤ 26) → cdF f n = cdF g m → n = m ∧ ∀ i, i < n → f i = g i
  | 0, 0, _, _ => ⟨rfl, fun i hi => absurd hi (by omega)⟩
  | 0, m + 1, hg, e => by
    have := hg m (by omega)
    have e2 : (0 : Nat) = 27 * cdF g m + g m := e
    omega
  | n + 1, 0, _, e => by
    have := hf n
    have e2 : 27 * cdF f n + f n = 0 := e
    omega
  | n + 1, m + 1, hg, e => by
    have h1 := hf n
    have h2 := hg m (by omega)
    have e2 : 27 * cdF f n + f n = 27 * cdF g m + g m := e
    obtain ⟨a, b⟩ := cdF_inj hf (n := n) (m := m) (fun i hi => hg i (by omega)) (by omega)
    refine ⟨by omega, fun i hi => ?_⟩
    by_cases ei : i = n
    · subst ei
      subst a
      omega
    · exact b i (by omega)
theorem cdF_b {f : Nat → Nat} (hf : ∀ i, f i ≤ 26) : ∀ n, cdF f n + 1 ≤ 27 ^ n
  | 0 => by simp [cdF]
  | n + 1 => by
    have := cdF_b hf n
    have := hf n
    have e : cdF f (n + 1) = 27 * cdF f n + f n := rfl
    rw [e, Nat.pow_succ]
    omega
theorem cdF_congr {f g : Nat → Nat} : ∀ {n}, (∀ i, i < n → f i = g i) → cdF f n = cdF g n
  | 0, _ => rfl
  | n + 1, h => by
    show 27 * cdF f n + f n = 27 * cdF g n + g n
    rw [cdF_congr (fun i hi => h i (by omega)), h n (by omega)]
def ltV (x : Int32) : Nat := (x.toInt - 96).toNat
theorem lt_b {x : Int32} (h : isLt x = true) : 1 ≤ ltV x ∧ ltV x ≤ 26 ∧ x.toInt = 96 + ltV x := by
  have h2 := of_decide_eq_true h
  have a := (not_congr Int32.lt_iff_toInt_lt).mp h2.1
  have b := (not_congr Int32.lt_iff_toInt_lt).mp h2.2
  have e1 : (97 : Int32).toInt = 97 := by decide
  have e2 : (122 : Int32).toInt = 122 := by decide
  rw [e1] at a
  rw [e2] at b
  unfold ltV
  omega
def lets (w : List Nat) : Prop := w.length ≤ 9 ∧ ∀ i, i < w.length → 97 ≤ w.getD i 0 ∧ w.getD i 0 ≤ 122
def codeW (w : List Nat) : Nat := cdF (fun i => w.getD i 0 - 96) w.length
theorem pow27 {n : Nat} (h : n ≤ 9) : 27 ^ n ≤ 7625597484987 := by
  have : 27 ^ n ≤ 27 ^ 9 := Nat.pow_le_pow_right (by decide) h
  have e : 27 ^ 9 = 7625597484987 := by decide
  omega
theorem lz_inj {a b : Int} (ha : -2 ^ 62 ≤ a ∧ a ≤ 2 ^ 62) (hb : -2 ^ 62 ≤ b ∧ b ≤ 2 ^ 62) (e : lz a = lz b) : a = b := by
  rw [← lz_toInt ha.1 ha.2, ← lz_toInt hb.1 hb.2, e]
theorem lz_mul (a b : Int) : lz a * lz b = lz (a * b) := (Int64.ofInt_mul a b).symm
theorem lz_sub (a b : Int) : lz a - lz b = lz (a - b) := (Int64.ofInt_sub a b).symm
theorem cmp_0 (a b : Int64) : lg_cmp a b = 0 ↔ a = b := by
  unfold lg_cmp
  by_cases c : a > b
  · rw [if_pos c]
    exact ⟨fun z => absurd z (by decide), fun z => by rw [z] at c; exact absurd c (by simp [GT.gt, Int64.lt_irrefl])⟩
  · rw [if_neg c]
    by_cases d : a = b
    · rw [if_pos d]
      exact ⟨fun _ => d, fun _ => rfl⟩
    · rw [if_neg d]
      exact ⟨fun z => absurd z (by decide), fun z => absurd z d⟩
/-- the word at p as the model's number; more than 9 letters: -1 -/
def wnS (T : Nat → Int32) (L p : Nat) : Int := if le T L (sk T L p) - sk T L p ≤ 9 then (cdF (fun i => ltV (T (sk T L p + i))) (le T L (sk T L p) - sk T L p) : Nat) else -1
theorem wnS_isW {T : Nat → Int32} {L p : Nat} {w : List Nat} (hw : lets w) : wnS T L p = (codeW w : Nat) ↔ isW T L w p = true := by
  have hge : sk T L p ≤ le T L (sk T L p) := sc_ge isLt T L (sk T L p)
  have hin : ∀ i, sk T L p ≤ i → i < le T L (sk T L p) → isLt (T i) = true := sc_in isLt T L (sk T L p)
  obtain ⟨z, hz⟩ : ∃ z, sk T L p = z := ⟨_, rfl⟩
  unfold wnS isW
  rw [hz] at hge hin ⊢
  rw [decide_eq_true_iff]
  constructor
  · intro e
    by_cases c : le T L z - z ≤ 9
    · rw [if_pos c] at e
      have e2 : cdF (fun i => if i < le T L z - z then ltV (T (z + i)) else 1) (le T L z - z) = codeW w := by
        rw [cdF_congr (g := fun i => ltV (T (z + i))) (fun i hi => if_pos hi)]
        exact Int.ofNat.inj e
      obtain ⟨a, b⟩ := cdF_inj (f := fun i => if i < le T L z - z then ltV (T (z + i)) else 1) (g := fun i => w.getD i 0 - 96) (fun i => by
        show 1 ≤ (if i < le T L z - z then ltV (T (z + i)) else 1) ∧ (if i < le T L z - z then ltV (T (z + i)) else 1) ≤ 26
        split
        · rename_i q
          have := lt_b (hin (z + i) (by omega) (by omega))
          omega
        · omega) (fun i hi => by have := hw.2 i hi; show 1 ≤ w.getD i 0 - 96 ∧ w.getD i 0 - 96 ≤ 26; omega) e2
      refine ⟨by omega, fun i hi => ?_⟩
      have b2 := b i (by omega)
      have b3 : (if i < le T L z - z then ltV (T (z + i)) else 1) = w.getD i 0 - 96 := b2
      rw [if_pos (by omega)] at b3
      have b4 := lt_b (hin (z + i) (by omega) (by omega))
      have b5 := hw.2 i hi
      rw [← zI_n]
      refine zI_eta ?_
      omega
    · rw [if_neg c] at e
      omega
  · rintro ⟨a, b⟩
    have hl := hw.1
    rw [if_pos (by omega), show le T L z - z = w.length by omega]
    unfold codeW
    congr 1
    refine cdF_congr (fun i hi => ?_)
    have b4 := lt_b (hin (z + i) (by omega) (by omega))
    have b5 := hw.2 i hi
    have b6 := b i hi
    have b7 : (T (z + i)).toInt = (w.getD i 0 : Int) := by
      rw [b6, nI_toInt (by omega)]
    omega
theorem s_wordHere {g : Hp} {T : Nat → Int32} {L p : Nat} (c : MX g T L p) (Q : Int64 → Hp → Prop) (hQ : ∀ h', fm g h' → MX h' T L (sk T L p) → Q (lz (wnS T L p)) h') : w_X9_wordHere g Q := by
  unfold w_X9_wordHere
  refine s_blanks c _ (fun u fu cu => ?_)
  have c2 := c.2.1
  have hl := cu.2.2.2.1
  have hge : sk T L p ≤ le T L (sk T L p) := sc_ge isLt T L (sk T L p)
  have hle : le T L (sk T L p) ≤ L := sc_le isLt T (L := L) hl
  have hin : ∀ i, sk T L p ≤ i → i < le T L (sk T L p) → isLt (T i) = true := sc_in isLt T L (sk T L p)
  have hen : ¬ (le T L (sk T L p) < L ∧ isLt (T (le T L (sk T L p))) = true) := sc_end isLt T L (sk T L p)
  obtain ⟨z, hz⟩ : ∃ z, sk T L p = z := ⟨_, rfl⟩
  have hQ2 := hQ u fu cu
  unfold wnS at hQ2
  rw [hz] at cu hl hge hle hin hen hQ2
  obtain ⟨e, he⟩ : ∃ e, le T L z = e := ⟨_, rfl⟩
  rw [he] at hge hle hin hen hQ2
  unfold w_X9_wordHere_b8
  refine wl_run (e - z) (fun n (st : Int64 × Int32) => st.2 = nI n ∧ st.1 = lz (cdF (fun i => ltV (T (z + i))) (if n ≤ 9 then n else 9) : Nat)) ?_ (Nat.zero_le _) ⟨rfl, rfl⟩
  rintro n ⟨v1, v3⟩ K hn ⟨e3, e1⟩ hK
  simp only at e1 e3
  subst e1 e3
  show w_X9_wordHere_l8 u Q K _ (nI n)
  unfold w_X9_wordHere_l8 w_X9_wordHere_b71
  rw [cu.2.2.1, nI_add, e_byteAt cu rfl (by omega)]
  have stop : ¬ (z + n < L ∧ isLt (T (z + n)) = true) → w_X9_wordHere_b78 (lz (cdF (fun i => ltV (T (z + i))) (if n ≤ 9 then n else 9) : Nat)) (nI n) u Q := by
    intro hs
    have en : n = e - z := by
      by_cases q : n = e - z
      · exact q
      · exact absurd ⟨by omega, hin (z + n) (by omega) (by omega)⟩ hs
    subst en
    unfold w_X9_wordHere_b78
    rw [q9]
    by_cases q : e - z ≤ 9
    · rw [if_pos ((nI_leI (by omega) (by omega)).mpr q), if_pos q]
      rw [if_pos q] at hQ2
      exact hQ2
    · rw [if_neg (fun y => q ((nI_leI (by omega) (by omega)).mp y))]
      rw [if_neg q] at hQ2
      exact hQ2
  by_cases hs : z + n < L ∧ isLt (T (z + n)) = true
  rotate_left
  · have st := stop hs
    by_cases q : z + n < L
    · rw [if_pos q]
      refine ⟨fun _ => st, fun y => ?_⟩
      rw [e_byteAt cu rfl (by omega), if_pos q]
      refine ⟨fun _ => st, fun y2 => absurd ⟨q, decide_eq_true ⟨y, y2⟩⟩ hs⟩
    · rw [if_neg q]
      exact wif_p (by decide) st
  obtain ⟨h1, h2⟩ := hs
  have h3 := of_decide_eq_true h2
  have hne : n < e - z := by
    by_cases q : n < e - z
    · exact q
    · have : z + n = e := by omega
      rw [this] at h1 h2
      exact absurd ⟨h1, h2⟩ hen
  rw [if_pos h1]
  refine wif_n h3.1 ?_
  rw [e_byteAt cu rfl (by omega), if_pos h1]
  refine wif_n h3.2 ?_
  rw [q9]
  refine ⟨fun y => ?_, fun y => ?_⟩
  · have h9 := (nI_leI (by omega) (by omega)).mp y
    rw [nI_1]
    refine hK hne _ ⟨rfl, ?_⟩
    show lz _ = lz _
    congr 2
    congr 1
    by_cases q : n = 9
    · rw [q]
      rfl
    · rw [if_neg (by omega), if_neg (by omega)]
  · have h9 : n < 9 := Nat.lt_of_not_le fun q => y ((nI_leI (by omega) (by omega)).mpr q)
    rw [e_byteAt cu rfl (by omega), if_pos h1, nI_1]
    refine hK hne _ ⟨rfl, ?_⟩
    obtain ⟨b1, b2, b3⟩ := lt_b h2
    show (27 : Int64) * lz _ + Int32.toInt64 (T (z + n)) - 97 + 1 = lz _
    rw [if_pos (by omega), if_pos (by omega), lz_i, b3, show (27 : Int64) = lz 27 from rfl, show (97 : Int64) = lz 97 from rfl, show (1 : Int64) = lz 1 from rfl, lz_mul, lz_add, lz_sub, lz_add]
    congr 1
    show _ = ((27 * cdF (fun i => ltV (T (z + i))) n + ltV (T (z + n)) : Nat) : Int)
    omega
theorem s_isWord {g : Hp} {T : Nat → Int32} {L p : Nat} (c : MX g T L p) (h5 : g 92 5 = 0) {w : List Nat} (hw : lets w) {p1 : Int64} (e1 : p1 = lz (codeW w : Nat)) (Q : Int32 → Hp → Prop) (hQ : ∀ h', fm g h' → MX h' T L (sk T L p) → Q (if isW T L w p = true then 1 else 0) h') : w_X9_isWord p1 g Q := by
  unfold w_X9_isWord
  refine wif_n (not_not_intro h5) (s_wordHere c _ (fun u fu cu => ?_))
  rw [bit_if, e1]
  have hq := hQ u fu cu
  have hb : codeW w ≤ 7625597484987 := by
    have h1 := cdF_b (f := fun i => if i < w.length then w.getD i 0 - 96 else 1) (fun i => by
      show (if i < w.length then w.getD i 0 - 96 else 1) ≤ 26
      split
      · rename_i q
        have := hw.2 i q
        omega
      · omega) w.length
    have h2 := pow27 hw.1
    have h3 : codeW w = cdF (fun i => if i < w.length then w.getD i 0 - 96 else 1) w.length := (cdF_congr (fun i hi => if_pos hi)).symm
    omega
  have ha : -2 ^ 62 ≤ wnS T L p ∧ wnS T L p ≤ 2 ^ 62 := by
    unfold wnS
    have hin : ∀ i, sk T L p ≤ i → i < le T L (sk T L p) → isLt (T i) = true := sc_in isLt T L (sk T L p)
    split
    · rename_i q
      have h1 := cdF_b (f := fun i => if i < le T L (sk T L p) - sk T L p then ltV (T (sk T L p + i)) else 1) (fun i => by
        show (if i < le T L (sk T L p) - sk T L p then ltV (T (sk T L p + i)) else 1) ≤ 26
        split
        · rename_i q2
          have := lt_b (hin (sk T L p + i) (by omega) (by omega))
          omega
        · omega) (le T L (sk T L p) - sk T L p)
      rw [cdF_congr (g := fun i => ltV (T (sk T L p + i))) (fun i hi => if_pos hi)] at h1
      have h2 := pow27 q
      omega
    · decide
  by_cases y : isW T L w p = true
  · rw [if_pos y] at hq
    rw [(wnS_isW hw).mpr y, if_neg (not_not_intro ((cmp_0 _ _).mpr rfl))]
    exact hq
  · rw [if_neg y] at hq
    rw [if_pos (fun z => y ((wnS_isW hw).mp (lz_inj ha (by omega) ((cmp_0 _ _).mp z))))]
    exact hq
