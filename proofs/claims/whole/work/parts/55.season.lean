/-! seasons: sums over travellers and over slots -/
def lk (f : Nat → Nat) (g : Nat → Int32) (k : Nat) : Nat → Int32
  | 0 => 0
  | n + 1 => if f n = k then g n else lk f g k n
theorem lk_s (f : Nat → Nat) (g : Nat → Int32) (k n : Nat) : lk f g k (n + 1) = if f n = k then g n else lk f g k n := rfl
theorem lk_none {f : Nat → Nat} {g : Nat → Int32} {k : Nat} : ∀ {n}, (∀ s, s < n → f s ≠ k) → lk f g k n = 0
  | 0, _ => rfl
  | n + 1, h => by
    rw [lk_s, if_neg (h n (by omega))]
    exact lk_none (fun s hs => h s (by omega))
theorem lk_at {f : Nat → Nat} {g : Nat → Int32} {k s : Nat} (e : f s = k) : ∀ {n}, s < n → (∀ t, t < n → f t = k → t = s) → lk f g k n = g s
  | 0, hs, _ => absurd hs (by omega)
  | n + 1, hs, h => by
    rw [lk_s]
    by_cases c : f n = k
    · rw [if_pos c, h n (by omega) c]
    · rw [if_neg c]
      have : s ≠ n := fun z => c (by rw [← z]; exact e)
      exact lk_at e (by omega) (fun t ht => h t (by omega))
theorem lk_sel (f : Nat → Nat) (p : Int32 → Prop) [DecidablePred p] (a C D : Nat → Int32) (k : Nat) : ∀ n, (if p (lk f a k n) then lk f D k n else lk f C k n) = lk f (fun s => if p (a s) then D s else C s) k n
  | 0 => by
    show (if p 0 then (0 : Int32) else 0) = 0
    split <;> rfl
  | n + 1 => by
    rw [lk_s, lk_s, lk_s, lk_s]
    by_cases c : f n = k
    · rw [if_pos c, if_pos c, if_pos c, if_pos c]
    · rw [if_neg c, if_neg c, if_neg c, if_neg c]
      exact lk_sel f p a C D k n
def sm (g : Nat → Int32) : Nat → Int32
  | 0 => 0
  | m + 1 => sm g m + g m
theorem sm_s (g : Nat → Int32) (m : Nat) : sm g (m + 1) = sm g m + g m := rfl
theorem sm_congr {g g' : Nat → Int32} : ∀ {m}, (∀ k, k < m → g k = g' k) → sm g m = sm g' m
  | 0, _ => rfl
  | m + 1, h => by rw [sm_s, sm_s, sm_congr (fun k hk => h k (by omega)), h m (by omega)]
theorem sm_upd {g g' : Nat → Int32} {k0 : Nat} {v : Int32} (h0 : g k0 = 0) (hv : g' k0 = v) : ∀ {m}, k0 < m → (∀ k, k < m → k ≠ k0 → g' k = g k) → sm g' m = sm g m + v
  | 0, hk, _ => absurd hk (by omega)
  | m + 1, hk, h => by
    rw [sm_s, sm_s]
    by_cases c : k0 = m
    · subst c
      rw [sm_congr (g := g') (g' := g) (fun k hk => h k (by omega) (by omega)), h0, hv, Int32.add_zero]
    · rw [sm_upd h0 hv (by omega) (fun k hk => h k (by omega)), h m (by omega) (by omega), Int32.add_assoc, Int32.add_assoc, Int32.add_comm v]
def totI (f : Nat → Nat) (c : Nat → Int32) : Nat → Int32
  | 0 => 0
  | n + 1 => if f n = 8 then totI f c n else totI f c n + c n
theorem totI_s (f : Nat → Nat) (c : Nat → Int32) (n : Nat) : totI f c (n + 1) = if f n = 8 then totI f c n else totI f c n + c n := rfl
theorem sm_0 : ∀ m, sm (fun _ => 0) m = 0
  | 0 => rfl
  | m + 1 => by rw [sm_s, sm_0 m, Int32.add_zero]
theorem sm_lk {f : Nat → Nat} {c : Nat → Int32} (f8 : ∀ s, f s ≤ 8) : ∀ {n}, (∀ s t, s < n → t < n → f s = f t → f s ≠ 8 → s = t) → sm (fun k => lk f c k n) 8 = totI f c n
  | 0, _ => sm_0 8
  | n + 1, fi => by
    rw [totI_s, ← sm_lk f8 (fun s t hs ht => fi s t (by omega) (by omega))]
    have h8 := f8 n
    by_cases e : f n = 8
    · rw [if_pos e]
      refine sm_congr (fun k hk => ?_)
      show lk f c k (n + 1) = _
      rw [lk_s, if_neg (by omega)]
    · rw [if_neg e]
      have h0 : lk f c (f n) n = 0 := lk_none (fun s hs q => by
        have := fi s n (by omega) (by omega) q (by rw [q]; exact e)
        omega)
      have h1 : lk f c (f n) (n + 1) = c n := by rw [lk_s, if_pos rfl]
      exact sm_upd (g := fun k => lk f c k n) (g' := fun k => lk f c k (n + 1)) (k0 := f n) (v := c n) h0 h1 (m := 8) (by omega) (fun k hk hk0 => by
        show lk f c k (n + 1) = lk f c k n
        rw [lk_s, if_neg (fun q => hk0 q.symm)])
theorem slv_lk {f : Nat → Nat} {E k : Nat} : ∀ (n s : Nat), s + n = E → (slv f E k n s = -1 ∧ ∀ t, s ≤ t → t < E → f t ≠ k) ∨ (∃ t, t < E ∧ f t = k ∧ slv f E k n s = nI t)
  | 0, s, _ => Or.inl ⟨rfl, fun t h1 h2 => absurd h1 (by omega)⟩
  | n + 1, s, h => by
    rw [slv_s]
    by_cases c : f s = k
    · rw [if_pos c, if_neg (by omega)]
      exact Or.inr ⟨s, by omega, c, rfl⟩
    · rw [if_neg c]
      rcases slv_lk (f := f) (E := E) (k := k) n (s + 1) (by omega) with ⟨a, b⟩ | h2
      · refine Or.inl ⟨a, fun t h1 h2 => ?_⟩
        by_cases e : t = s
        · rw [e]; exact c
        · exact b t (by omega) h2
      · exact Or.inr h2
theorem pth_has {B : Br} {P : Pz} {s : Nat} (h : hold B P s ≠ 8) : ∀ n, s < n → (pth B P n).1.testBit (hold B P s) = true
  | 0, hs => absurd hs (by omega)
  | n + 1, hs => by
    rw [pth_s]
    by_cases e : s = n
    · subst e
      rw [if_neg h, or_tb]
      simp
    · have := pth_has h n (by omega)
      by_cases c : hold B P n = 8
      · rw [if_pos c]; exact this
      · rw [if_neg c]
        show ((pth B P n).1 ||| 2 ^ hold B P n).testBit _ = true
        rw [or_tb, this]
        rfl
theorem hold_new {B : Br} {P : Pz} (s t : Nat) (hst : s < t) (e : hold B P s = hold B P t) : hold B P s = 8 := by
  by_cases c : hold B P s = 8
  · exact c
  · have h1 := pth_has c t hst
    obtain ⟨_, h2⟩ := hold_c (B := B) (P := P) (s := t) (by rw [← e]; exact c)
    unfold canB at h2
    rw [← e, h1] at h2
    simp at h2
theorem hold_inj {B : Br} {P : Pz} (s t : Nat) (e : hold B P s = hold B P t) (c : hold B P s ≠ 8) : s = t := by
  rcases Nat.lt_trichotomy s t with h | h | h
  · exact absurd (hold_new s t h e) c
  · exact h
  · exact absurd ((hold_new t s h e.symm)) (by rw [← e]; exact c)
theorem s_slotOf {h : Hp} {A E k : Nat} {f : Nat → Nat} (hA : A ≤ 60) (hE : E ≤ 60) (h15 : h 44 15 = nI E) (h16 : h 44 16 = nI A) (h50 : ∀ s, s < A → h 50 s = nI (f s)) (f8 : ∀ s, f s ≤ 8) (hk : k < 8) (Q : Int32 → Prop) (hQ : Q (slv f E k A 0)) : w_X2_slotOf (nI k) h Q := by
  unfold w_X2_slotOf w_X2_slotOf_b2
  refine wl_run A (fun n (st : Int32) => st = nI n ∧ slv f E k (A - n) n = slv f E k A 0) ?_ (Nat.zero_le _) ⟨rfl, rfl⟩
  rintro n st K2 hn ⟨rfl, hv⟩ hK2
  unfold w_X2_slotOf_l2
  rw [h16, h15]
  refine ⟨fun z => ?_, fun z => ?_⟩
  · have : n = A := by
      have := (nI_leI (by omega) (by omega)).mp z
      omega
    subst this
    rw [Nat.sub_self] at hv
    rw [show (-1 : Int32) = slv f E k 0 n from rfl, hv]
    exact hQ
  have hnA : n < A := Nat.lt_of_not_le fun q => z ((nI_leI (by omega) (by omega)).mpr q)
  rw [show A - n = (A - (n + 1)) + 1 by omega, slv_s] at hv
  rw [e_at (by decide), rd_n (by omega) (by decide), h50 n hnA]
  have := f8 n
  by_cases c : f n = k
  · rw [if_pos c] at hv
    refine wif_n (not_not_intro (by rw [c])) ?_
    have e : (if nI E ≤ nI n then 100 + nI n - nI E else nI n) = slv f E k A 0 := by
      rw [← hv]
      by_cases cE : E ≤ n
      · rw [if_pos cE, if_pos ((nI_leI (by omega) (by omega)).mpr cE)]
      · rw [if_neg cE, if_neg (fun q => cE ((nI_leI (by omega) (by omega)).mp q))]
    rw [e]
    exact hQ
  · rw [if_neg c] at hv
    refine wif_p (fun q => c ?_) ?_
    · exact (nI_eq (by omega) (by omega)).mp q
    · rw [nI_1 n]
      exact hK2 hnA _ ⟨rfl, hv⟩
def kept (B : Br) (f : Nat → Nat) (C D : Nat → Int32) (E : Nat) (h : Hp) (v k : Nat) : Prop := h 59 (v * 8 + k) = lk f (fun s => nI (slM B s) / 60) k E ∧ h 60 (v * 8 + k) = lk f C k E ∧ h 61 (v * 8 + k) = lk f D k E
def KE (h h' : Hp) (v n : Nat) : Prop := (∀ q, q ≠ 59 → q ≠ 60 → q ≠ 61 → h' q = h q) ∧ ∀ i, i < v * 8 ∨ v * 8 + n ≤ i → h' 59 i = h 59 i ∧ h' 60 i = h 60 i ∧ h' 61 i = h 61 i
theorem hup3_at (g : Hp) (i : Nat) (a b c : Int32) : (∀ q, q ≠ 59 → q ≠ 60 → q ≠ 61 → hup (hup (hup g 59 i a) 60 i b) 61 i c q = g q) ∧ (∀ j, j ≠ i → hup (hup (hup g 59 i a) 60 i b) 61 i c 59 j = g 59 j ∧ hup (hup (hup g 59 i a) 60 i b) 61 i c 60 j = g 60 j ∧ hup (hup (hup g 59 i a) 60 i b) 61 i c 61 j = g 61 j) ∧ hup (hup (hup g 59 i a) 60 i b) 61 i c 59 i = a ∧ hup (hup (hup g 59 i a) 60 i b) 61 i c 60 i = b ∧ hup (hup (hup g 59 i a) 60 i b) 61 i c 61 i = c := by
  refine ⟨fun q q1 q2 q3 => by rw [hup_ne q3, hup_ne q2, hup_ne q1], fun j hj => ⟨?_, ?_, ?_⟩, ?_, ?_, ?_⟩
  · rw [hup_ne (by decide), hup_ne (by decide), hup_o (Or.inr hj)]
  · rw [hup_ne (by decide), hup_o (Or.inr hj), hup_ne (by decide)]
  · rw [hup_o (Or.inr hj), hup_ne (by decide), hup_ne (by decide)]
  · rw [hup_ne (by decide), hup_ne (by decide), hup_eq]
  · rw [hup_ne (by decide), hup_eq]
  · rw [hup_eq]
theorem s_keep {h : Hp} {B : Br} (hB : CB h B) {E : Nat} (hE : E ≤ 30) {f : Nat → Nat} (f8 : ∀ s, f s ≤ 8) (fi : ∀ s t, f s = f t → f s ≠ 8 → s = t) {C D : Nat → Int32} (h15 : h 44 15 = nI E) (h16 : h 44 16 = nI E) (h50 : ∀ s, s < E → h 50 s = nI (f s)) (h51 : ∀ s, s < E → f s ≠ 8 → h 51 s = C s) (h47 : ∀ s, s < E → f s ≠ 8 → h 47 (s * 8 + f s) = D s) {p1 : Int32} (v : Nat) (hv : v < 30) (e1 : p1 = nI v) (Q : Hp → Prop) (hQ : ∀ h', KE h h' v 8 → (∀ k, k < 8 → kept B f C D E h' v k) → Q h') : w_X6_keep p1 h Q := by
  subst e1
  unfold w_X6_keep w_X6_keep_b2
  refine wl_run 8 (fun n (st : Int32 × Hp) => st.1 = nI n ∧ KE h st.2 v n ∧ ∀ k, k < n → kept B f C D E st.2 v k) ?_ (Nat.zero_le _) ⟨rfl, ⟨fun _ _ _ _ => rfl, fun _ _ => ⟨rfl, rfl, rfl⟩⟩, fun k hk => absurd hk (by omega)⟩
  rintro n ⟨v2, g⟩ K hn ⟨e2, kg, kk⟩ hK
  simp only at e2 kg kk
  subst e2
  show w_X6_keep_l2 (nI v) Q K (nI n) g
  unfold w_X6_keep_l2
  rw [q8]
  refine ⟨fun z => ?_, fun z => ?_⟩
  · have : n = 8 := by
      have := (nI_leI (by omega) (by omega)).mp z
      omega
    subst this
    exact hQ g kg kk
  have hn8 : n < 8 := Nat.lt_of_not_le fun q => z ((nI_leI (by omega) (by omega)).mpr q)
  have gB : CB g B := hB.same (kg.1 3 (by decide) (by decide) (by decide)) (kg.1 4 (by decide) (by decide) (by decide)) (kg.1 5 (by decide) (by decide) (by decide)) (kg.1 6 (by decide) (by decide) (by decide)) (kg.1 7 (by decide) (by decide) (by decide))
  have k44 := kg.1 44 (by decide) (by decide) (by decide)
  have k50 := kg.1 50 (by decide) (by decide) (by decide)
  have k51 := kg.1 51 (by decide) (by decide) (by decide)
  have k47 := kg.1 47 (by decide) (by decide) (by decide)
  rw [pk_mul, nI_add, wlet_e]
  have fin : ∀ a b c, a = lk f (fun s => nI (slM B s) / 60) n E → b = lk f C n E → c = lk f D n E → K (nI (n + 1), hup (hup (hup g 59 (v * 8 + n) a) 60 (v * 8 + n) b) 61 (v * 8 + n) c) := by
    intro a b c ha hb hc
    obtain ⟨u1, u2, u3, u4, u5⟩ := hup3_at g (v * 8 + n) a b c
    refine hK hn8 _ ⟨rfl, ⟨fun q q1 q2 q3 => (u1 q q1 q2 q3).trans (kg.1 q q1 q2 q3), fun i hi => ?_⟩, fun k hk => ?_⟩
    · obtain ⟨w1, w2, w3⟩ := u2 i (by omega)
      obtain ⟨x1, x2, x3⟩ := kg.2 i (by omega)
      exact ⟨w1.trans x1, w2.trans x2, w3.trans x3⟩
    · by_cases ek : k = n
      · subst ek
        exact ⟨u3.trans ha, u4.trans hb, u5.trans hc⟩
      · obtain ⟨w1, w2, w3⟩ := u2 (v * 8 + k) (by omega)
        obtain ⟨x1, x2, x3⟩ := kk k (by omega)
        exact ⟨w1.trans x1, w2.trans x2, w3.trans x3⟩
  refine s_slotOf (A := E) (E := E) (by omega) (by omega) (by rw [k44]; exact h15) (by rw [k44]; exact h16) (fun s hs => by rw [k50]; exact h50 s hs) f8 hn8 _ ?_
  unfold w_X6_keep_b64 w_X6_keep_b93 w_X6_keep_b127
  rcases slv_lk (f := f) (E := E) (k := n) E 0 (by omega) with ⟨a, b⟩ | ⟨t, ht, ft, a⟩
  · have hno : ∀ s, s < E → f s ≠ n := fun s hs => b s (Nat.zero_le _) hs
    rw [a, wlet_e, if_pos rfl]
    refine wif_p rfl ?_
    rw [e_put (by decide), wr_n (by omega) (by decide)]
    refine wif_p rfl ?_
    rw [e_put (by decide), wr_n (by omega) (by decide)]
    refine wif_p rfl ?_
    rw [e_put (by decide), wr_n (by omega) (by decide), nI_1]
    exact fin 0 0 0 (lk_none hno).symm (lk_none hno).symm (lk_none hno).symm
  · have hun : ∀ u, u < E → f u = n → u = t := fun u hu fu => fi u t (by rw [fu, ft]) (by omega)
    rw [a, wlet_e, if_neg (nI_m1 (by omega))]
    refine wif_n i10 ?_
    rw [e_slotMinute gB t rfl, e_put (by decide), wr_n (by omega) (by decide)]
    refine wif_n i10 ?_
    rw [e_at (by decide), rd_n (by omega) (by decide), e_put (by decide), wr_n (by omega) (by decide), hup_ne (by decide), k51, h51 t ht (by omega)]
    refine wif_n i10 ?_
    rw [q8, pk_mul, nI_add, e_at (by decide), rd_n (by omega) (by decide), hup_ne (by decide), hup_ne (by decide), k47, ← ft, h47 t ht (by omega), e_put (by decide), wr_n (by omega) (by decide), ft, nI_1]
    exact fin _ _ _ (lk_at (g := fun s => nI (slM B s) / 60) ft ht hun).symm (lk_at ft ht hun).symm (lk_at ft ht hun).symm
