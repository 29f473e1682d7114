/-! the relation between the program's ints and the model's -/
abbrev Rc := (Nat × Nat × Nat × Nat) × (Nat → Int32) × (Nat → Int32) × (Nat → Int32) × (Nat → Int32) × (Nat → Int32)
def okRc (tn : Nat) (r : Rc) : Prop := (r.1.1 < tn ∨ r.1.1 = 0) ∧ (r.1.2.1 < tn ∨ r.1.2.1 = 0) ∧ r.1.2.2.1 ≤ 60 ∧ r.1.2.2.2 ≤ 10 ∧ (∀ i, i < r.1.2.2.2 → ∃ m, m < 1440 ∧ r.2.2.2.2.1 i = nI m)
/-- the program's record at place b -/
def CRec (b : Nat) (h : Hp) (r : Rc) : Prop := h b 6 = nI r.1.2.2.1 ∧ h b 7 = nI r.1.2.2.2 ∧ h (b + 1) 0 = nI r.1.1 ∧ h (b + 1) 1 = nI r.1.2.1 ∧ (∀ k, k < r.1.2.2.1 → h (b + 2) k = r.2.1 k ∧ h (b + 3) k = r.2.2.1 k) ∧ (∀ d, d < 30 → h (b + 4) d = r.2.2.2.1 d) ∧ (∀ i, i < r.1.2.2.2 → h (b + 5) i = r.2.2.2.2.1 i ∧ h (b + 6) i = r.2.2.2.2.2 i)
/-- the model's -/
def MRec (h : Hp) (r : Rc) : Prop := h 92 30 = nI r.1.2.2.1 ∧ h 92 31 = nI r.1.2.2.2 ∧ h 141 0 = nI r.1.1 ∧ h 141 1 = nI r.1.2.1 ∧ (∀ k, k < r.1.2.2.1 → h (144 + k) 0 = r.2.1 k ∧ h (144 + k) 1 = r.2.2.1 k) ∧ (∀ d, d < 30 → h 142 d = r.2.2.2.1 d) ∧ (∀ i, i < r.1.2.2.2 → h (205 + i) 0 = r.2.2.2.2.1 i ∧ h (205 + i) 1 = r.2.2.2.2.2 i)
/-- one of the model's images -/
def KRec (b : Nat) (h : Hp) (r : Rc) : Prop := h b 2 = nI r.1.2.2.1 ∧ h b 3 = nI r.1.2.2.2 ∧ h b 0 = nI r.1.1 ∧ h b 1 = nI r.1.2.1 ∧ (∀ k, k < r.1.2.2.1 → h b (34 + 2 * k) = r.2.1 k ∧ h b (34 + 2 * k + 1) = r.2.2.1 k) ∧ (∀ d, d < 30 → h b (4 + d) = r.2.2.2.1 d) ∧ (∀ i, i < r.1.2.2.2 → h b (154 + 2 * i) = r.2.2.2.2.1 i ∧ h b (154 + 2 * i + 1) = r.2.2.2.2.2 i)
def Rlw (h : Hp) (tn : Nat) (tl : Nat → List Row) : Prop := tn ≤ 4 ∧ h 0 14 = nI tn ∧ h 92 18 = nI tn ∧ (∀ t, t < tn → LC (14 + 4 * t) h (tl t) ∧ MT t h (tl t)) ∧ h 34 3 = 0 ∧ h 92 48 = -1
def RT (h : Hp) : Prop := ∃ tp, tp ≤ 500 ∧ h 1 1 = nI tp ∧ h 92 1 = nI tp ∧ (∀ j, j < tp → h 2 j = h 93 j) ∧ h 1 5 = h 92 3
def RC (h : Hp) (tn : Nat) (r : Rc) : Prop := okRc tn r ∧ CRec 62 h r ∧ MRec h r
def RI (h : Hp) (tn : Nat) : Prop := ∃ ic, ic ≤ 3 ∧ h 0 15 = nI ic ∧ h 92 32 = nI ic ∧ ∀ j, j < ic → ∃ r, okRc tn r ∧ CRec (70 + 7 * j) h r ∧ KRec (216 + j) h r
def RA (h : Hp) (B : Br) (tn : Nat) (tl : Nat → List Row) (r : Rc) : Prop := CB h B ∧ MB h B ∧ Rlw h tn tl ∧ RT h ∧ RC h tn r ∧ RI h tn
def RR (h : Hp) : Prop := ∃ B tn tl r, RA h B tn tl r
/-- what calls leave that only tell -/
def kp (q : Nat) : Prop := q ≤ 15 ∨ q = 18 ∨ q = 19 ∨ q = 22 ∨ q = 23 ∨ q = 26 ∨ q = 27 ∨ q = 34 ∨ (62 ≤ q ∧ q ≤ 90) ∨ (93 ≤ q ∧ q ≤ 138) ∨ (141 ≤ q ∧ q ≤ 218)
def KP (h h' : Hp) : Prop := (∀ q, kp q → h' q = h q) ∧ (∀ i, (i = 1 ∨ i = 3 ∨ i = 18 ∨ i = 30 ∨ i = 31 ∨ i = 32 ∨ i = 48) → h' 92 i = h 92 i)
theorem KP.rf {h : Hp} : KP h h := ⟨fun _ _ => rfl, fun _ _ => rfl⟩
theorem KP.tr {h h1 h2 : Hp} (a : KP h h1) (b : KP h1 h2) : KP h h2 := ⟨fun q hq => (b.1 q hq).trans (a.1 q hq), fun i hi => (b.2 i hi).trans (a.2 i hi)⟩
theorem CRec.same {b : Nat} {h h' : Hp} {r : Rc} (c : CRec b h r) (e : ∀ q, b ≤ q → q ≤ b + 6 → h' q = h q) : CRec b h' r := by
  unfold CRec
  rw [e b (by omega) (by omega), e (b + 1) (by omega) (by omega), e (b + 2) (by omega) (by omega), e (b + 3) (by omega) (by omega), e (b + 4) (by omega) (by omega), e (b + 5) (by omega) (by omega), e (b + 6) (by omega) (by omega)]
  exact c
theorem MRec.same {h h' : Hp} {r : Rc} (hr : r.1.2.2.1 ≤ 60 ∧ r.1.2.2.2 ≤ 10) (c : MRec h r) (e30 : h' 92 30 = h 92 30) (e31 : h' 92 31 = h 92 31) (e : ∀ q, 141 ≤ q → q ≤ 214 → h' q = h q) : MRec h' r := by
  obtain ⟨c1, c2, c3, c4, c5, c6, c7⟩ := c
  refine ⟨e30.trans c1, e31.trans c2, ?_, ?_, fun k hk => ?_, ?_, fun i hi => ?_⟩
  · rw [e 141 (by omega) (by omega)]; exact c3
  · rw [e 141 (by omega) (by omega)]; exact c4
  · rw [e (144 + k) (by omega) (by omega)]; exact c5 k hk
  · rw [e 142 (by omega) (by omega)]; exact c6
  · rw [e (205 + i) (by omega) (by omega)]; exact c7 i hi
theorem KRec.same {b : Nat} {h h' : Hp} {r : Rc} (c : KRec b h r) (e : h' b = h b) : KRec b h' r := by
  unfold KRec
  rw [e]
  exact c
theorem KP.Rlw {h h' : Hp} {tn : Nat} {tl : Nat → List Row} (a : KP h h') (c : Rlw h tn tl) : Rlw h' tn tl := by
  obtain ⟨c1, c2, c3, c4, c5, c6⟩ := c
  refine ⟨c1, ?_, (a.2 18 (by decide)).trans c3, fun t ht => ?_, ?_, (a.2 48 (by decide)).trans c6⟩
  · rw [a.1 0 (by unfold kp; omega)]; exact c2
  · refine ⟨(c4 t ht).1.same ?_ (a.1 _ (by unfold kp; omega)), (c4 t ht).2.same (fun q hq => a.1 q (by unfold kp; omega))⟩
    rw [a.1 (14 + 4 * t) (by unfold kp; omega)]
  · rw [a.1 34 (by unfold kp; omega)]; exact c5
theorem KP.RI {h h' : Hp} {tn : Nat} (a : KP h h') (c : RI h tn) : RI h' tn := by
  obtain ⟨ic, i1, i2, i3, i4⟩ := c
  refine ⟨ic, i1, ?_, (a.2 32 (by decide)).trans i3, fun j hj => ?_⟩
  · rw [a.1 0 (by unfold kp; omega)]; exact i2
  · obtain ⟨r, r1, r2, r3⟩ := i4 j hj
    exact ⟨r, r1, r2.same (fun q q1 q2 => a.1 q (by unfold kp; omega)), r3.same (a.1 _ (by unfold kp; omega))⟩
theorem KP.RA {h h' : Hp} {B : Br} {tn : Nat} {tl : Nat → List Row} {r : Rc} (a : KP h h') (c : RA h B tn tl r) : RA h' B tn tl r := by
  obtain ⟨c1, c2, c3, ⟨tp, t1, t2, t3, t4, t5⟩, ⟨r1, r2, r3⟩, c6⟩ := c
  have k : ∀ q, kp q → h' q = h q := a.1
  refine ⟨c1.same (k 3 (by unfold kp; omega)) (k 4 (by unfold kp; omega)) (k 5 (by unfold kp; omega)) (k 6 (by unfold kp; omega)) (k 7 (by unfold kp; omega)), c2.same (k 95 (by unfold kp; omega)) (k 97 (by unfold kp; omega)) (k 99 (by unfold kp; omega)) (fun i hi => k _ (by unfold kp; omega)), KP.Rlw a c3, ⟨tp, t1, ?_, (a.2 1 (by decide)).trans t3, ?_, ?_⟩, ⟨r1, r2.same (fun q q1 q2 => k q (by unfold kp; omega)), r3.same ⟨r1.2.2.1, r1.2.2.2.1⟩ (a.2 30 (by decide)) (a.2 31 (by decide)) (fun q q1 q2 => k q (by unfold kp; omega))⟩, KP.RI a c6⟩
  · rw [k 1 (by unfold kp; omega)]; exact t2
  · rw [k 2 (by unfold kp; omega), k 93 (by unfold kp; omega)]; exact t4
  · rw [k 1 (by unfold kp; omega), a.2 3 (by decide)]; exact t5
theorem KP.RR {h h' : Hp} (a : KP h h') (c : RR h) : RR h' := by
  obtain ⟨B, tn, tl, r, c⟩ := c
  exact ⟨B, tn, tl, r, KP.RA a c⟩
theorem KP.out {h h' : Hp} {v : Int32} (a : KP h h') : KP h (hup h' 1457 0 v) := ⟨fun q hq => by rw [hup_ne (by unfold kp at hq; omega)]; exact a.1 q hq, fun i hi => by rw [hup_ne (by decide)]; exact a.2 i hi⟩
theorem KP.thr {h : Hp} {v : Int32} : KP h (hup h 92 0 v) := ⟨fun q hq => hup_ne (by unfold kp at hq; omega), fun i hi => hup_o (Or.inr (by omega))⟩
/-! tests of arguments: the program's, and the model's -/
theorem s_needBetween {p : Int32} {lo hi : Nat} {h : Hp} {Q : Prop} {Qx : String → Hp → Prop} {p1 p2 : Int32} (e1 : p1 = nI lo) (e2 : p2 = nI hi) (hlo : lo < 2 ^ 31) (hhi : hi < 2 ^ 31) (ok : ∀ j, lo ≤ j → j ≤ hi → p = nI j → Q) (bad : ¬ (∃ j, lo ≤ j ∧ j ≤ hi ∧ p = nI j) → Qx "java/lang/IllegalArgumentException" h) : w_X8_needBetween p p1 p2 h Q Qx := by
  subst e1 e2
  unfold w_X8_needBetween
  refine ⟨fun z => bad ?_, fun z => ⟨fun z2 => ?_, fun z2 => bad ?_⟩⟩
  · rintro ⟨j, j1, j2, rfl⟩
    have := (nI_ltI (by omega) hlo).mp z
    omega
  · have h0 : ¬ p < 0 := fun q => z (by
      have a1 := Int32.lt_iff_toInt_lt.mp q
      refine Int32.lt_iff_toInt_lt.mpr ?_
      rw [nI_toInt hlo]
      have a2 : (0 : Int32).toInt = 0 := by decide
      omega)
    obtain ⟨j, hj, rfl⟩ := nI_of h0
    exact ok j (by refine Nat.le_of_not_lt fun q => z ((nI_ltI hj hlo).mpr q)) ((nI_leI hj hhi).mp z2) rfl
  · rintro ⟨j, j1, j2, rfl⟩
    exact z2 ((nI_leI (by omega) hhi).mpr j2)
theorem s_needDay {p : Int32} {h : Hp} {Q : Prop} {Qx : String → Hp → Prop} (ok : ∀ d, d < 30 → p = nI d → Q) (bad : ¬ (∃ d, d < 30 ∧ p = nI d) → Qx "java/lang/IllegalArgumentException" h) : w_X8_needDay p h Q Qx := by
  unfold w_X8_needDay
  refine ⟨fun z => bad ?_, fun z => ⟨fun z2 => ?_, fun z2 => bad ?_⟩⟩
  · rintro ⟨j, j1, rfl⟩
    exact nI_pos (by omega) z
  · rw [q30] at z2
    obtain ⟨d, hd, e⟩ := nI_get (by decide) z z2
    exact ok d hd e
  · rintro ⟨j, j1, rfl⟩
    exact z2 (by rw [q30]; exact (nI_ltI (by omega) (by decide)).mpr j1)
theorem s_needMinute {p : Int32} {h : Hp} {Q : Prop} {Qx : String → Hp → Prop} (ok : ∀ d, d < 1440 → p = nI d → Q) (bad : ¬ (∃ d, d < 1440 ∧ p = nI d) → Qx "java/lang/IllegalArgumentException" h) : w_X8_needMinute p h Q Qx := by
  unfold w_X8_needMinute
  refine ⟨fun z => bad ?_, fun z => ⟨fun z2 => ?_, fun z2 => bad ?_⟩⟩
  · rintro ⟨j, j1, rfl⟩
    exact nI_pos (by omega) z
  · rw [q1440] at z2
    obtain ⟨d, hd, e⟩ := nI_get (by decide) z z2
    exact ok d hd e
  · rintro ⟨j, j1, rfl⟩
    exact z2 (by rw [q1440]; exact (nI_ltI (by omega) (by decide)).mpr j1)
theorem s_needTraveller {p : Int32} {h : Hp} {B : Br} (hB : CB h B) {Q : Prop} {Qx : String → Hp → Prop} (ok : ∀ k, k < B.1 0 → p = nI k → Q) (bad : ¬ (∃ k, k < B.1 0 ∧ p = nI k) → Qx "java/util/NoSuchElementException" h) : w_X8_needTraveller p h Q Qx := by
  have w0 := hB.2.2.1
  have f4 : h 3 4 = nI (B.1 0) := hB.1.1.1
  unfold w_X8_needTraveller
  rw [f4]
  refine ⟨fun z => bad ?_, fun z => ⟨fun z2 => ?_, fun z2 => bad ?_⟩⟩
  · rintro ⟨j, j1, rfl⟩
    exact nI_pos (by omega) z
  · obtain ⟨d, hd, e⟩ := nI_get (by omega) z z2
    exact ok d hd e
  · rintro ⟨j, j1, rfl⟩
    exact z2 ((nI_ltI (by omega) (by omega)).mpr j1)
def brOk (B : Br) (b : Nat) : Prop := b = 0 ∨ (b = 1 ∧ B.1 8 = 1)
theorem s_needBridge {p : Int32} {h : Hp} {B : Br} (hB : CB h B) {Q : Prop} {Qx : String → Hp → Prop} (ok : ∀ b, brOk B b → b < 2 → p = nI b → Q) (bad : ¬ (∃ b, brOk B b ∧ p = nI b) → Qx "java/lang/IndexOutOfBoundsException" h) : w_X8_needBridge p h Q Qx := by
  have w8 := hB.2.2.2.2.2.2.2.2.2.1
  have f14 : h 3 14 = nI (B.1 8) := hB.1.1.2.2.2.2.2.2.2.2.1
  have e14 : h 3 14 &&& 1 = nI (B.1 8) := by
    rw [f14]
    have : B.1 8 = 0 ∨ B.1 8 = 1 := by omega
    rcases this with e | e <;> rw [e] <;> decide
  unfold w_X8_needBridge
  rw [e14]
  refine ⟨fun z => ok 0 (Or.inl rfl) (by decide) z, fun z => ⟨fun z2 => bad ?_, fun z2 => ⟨fun z3 => ?_, fun z3 => bad ?_⟩⟩⟩
  · rintro ⟨b, hb, rfl⟩
    rcases hb with rfl | ⟨rfl, _⟩
    · exact z rfl
    · exact z2 rfl
  · have h8 : B.1 8 = 1 := by
      have : B.1 8 ≠ 0 := fun e => z3 (by rw [e]; rfl)
      omega
    exact ok 1 (Or.inr ⟨rfl, h8⟩) (by decide) (Classical.not_not.mp z2)
  · rintro ⟨b, hb, rfl⟩
    rcases hb with rfl | ⟨rfl, h8⟩
    · exact z rfl
    · exact z3 (by rw [h8]; decide)
theorem in_t {p : Int32} {lo hi j : Nat} {h : Hp} {p1 p2 : Int32} (e0 : p = nI j) (e1 : p1 = nI lo) (e2 : p2 = nI hi) (h1 : lo ≤ j) (h2 : j ≤ hi) (hhi : hi < 2 ^ 31) (Q : Int32 → Prop) : w_X9_in p p1 p2 h Q = Q 1 := by
  subst e0 e1 e2
  rw [e_inN (by omega) (by omega) hhi, if_pos ⟨h1, h2⟩]
theorem in_f {p : Int32} {lo hi : Nat} {h : Hp} {p1 p2 : Int32} (e1 : p1 = nI lo) (e2 : p2 = nI hi) (hlo : lo < 2 ^ 31) (hhi : hi < 2 ^ 31) (hn : ¬ (∃ j, lo ≤ j ∧ j ≤ hi ∧ p = nI j)) (Q : Int32 → Prop) : w_X9_in p p1 p2 h Q = Q 0 := by
  subst e1 e2
  rw [e_in, if_neg]
  rintro ⟨a, b⟩
  have h0 : ¬ p < 0 := fun q => by
    have a1 := Int32.lt_iff_toInt_lt.mp q
    have a3 := Int32.le_iff_toInt_le.mp a
    rw [nI_toInt hlo] at a3
    have a2 : (0 : Int32).toInt = 0 := by decide
    omega
  obtain ⟨j, hj, rfl⟩ := nI_of h0
  exact hn ⟨j, (nI_leI hlo hj).mp a, (nI_leI hj hhi).mp b, rfl⟩
theorem bad_f {w : Int32} {h : Hp} (h0 : h 92 0 = 0) (Q : Int32 → Hp → Prop) : w_X9_bad 0 w h Q = Q 0 h := by
  unfold w_X9_bad w_X9_bad_b16
  rw [wif_t rfl, h0, if_pos rfl, b01]
theorem bad_t {w : Int32} {h : Hp} (h0 : h 92 0 = 0) (hw : w ≠ 0) (Q : Int32 → Hp → Prop) : w_X9_bad 1 w h Q = Q 1 (hup h 92 0 w) := by
  unfold w_X9_bad w_X9_bad_b16
  rw [wif_f i10, h0, wif_f (not_not_intro rfl), wlet_e, hup_eq, if_neg hw, b11]
theorem isDay_t {p : Int32} {d : Nat} {h : Hp} (e : p = nI d) (hd : d < 30) (Q : Int32 → Prop) : w_X9_isDay p h Q = Q 1 := by
  unfold w_X9_isDay
  rw [in_t (p1 := 0) (p2 := 29) (lo := 0) (hi := 29) e rfl rfl (by omega) (by omega) (by decide), b11]
theorem isDay_f {p : Int32} {h : Hp} (hn : ¬ (∃ d, d < 30 ∧ p = nI d)) (Q : Int32 → Prop) : w_X9_isDay p h Q = Q 0 := by
  unfold w_X9_isDay
  rw [in_f (p1 := 0) (p2 := 29) (lo := 0) (hi := 29) rfl rfl (by decide) (by decide) (by rintro ⟨j, _, j2, e⟩; exact hn ⟨j, by omega, e⟩), b01]
theorem isMin_t {p : Int32} {d : Nat} {h : Hp} (e : p = nI d) (hd : d < 1440) (Q : Int32 → Prop) : w_X9_isMinute p h Q = Q 1 := by
  unfold w_X9_isMinute
  rw [in_t (p1 := 0) (p2 := 1439) (lo := 0) (hi := 1439) e rfl rfl (by omega) (by omega) (by decide), b11]
theorem isMin_f {p : Int32} {h : Hp} (hn : ¬ (∃ d, d < 1440 ∧ p = nI d)) (Q : Int32 → Prop) : w_X9_isMinute p h Q = Q 0 := by
  unfold w_X9_isMinute
  rw [in_f (p1 := 0) (p2 := 1439) (lo := 0) (hi := 1439) rfl rfl (by decide) (by decide) (by rintro ⟨j, _, j2, e⟩; exact hn ⟨j, by omega, e⟩), b01]
theorem nI_sub1 {n : Nat} : nI n - 1 = zI ((n : Int) - 1) := by rw [q1, nI_subZ]; rfl
theorem isWho_t {p : Int32} {k : Nat} {h : Hp} {B : Br} (hB : MB h B) (e : p = nI k) (hk : k < B.1 0) (Q : Int32 → Prop) : w_X9_isWho p h Q = Q 1 := by
  have w0 := hB.2.2.2.2.1
  unfold w_X9_isWho
  rw [v_0_11, true_and, cl0, hB.1 0 (by decide)]
  have e1 : nI (B.1 0) - 1 = nI (B.1 0 - 1) := by rw [q1, pk_sub (by omega)]
  rw [in_t (p1 := 0) (lo := 0) (hi := B.1 0 - 1) e rfl e1 (by omega) (by omega) (by omega), b11]
theorem isWho_f {p : Int32} {h : Hp} {B : Br} (hB : MB h B) (hn : ¬ (∃ k, k < B.1 0 ∧ p = nI k)) (Q : Int32 → Prop) : w_X9_isWho p h Q = Q 0 := by
  have w0 := hB.2.2.2.2.1
  unfold w_X9_isWho
  rw [v_0_11, true_and, cl0, hB.1 0 (by decide), e_in, if_neg, b01]
  rintro ⟨a, b⟩
  have h0 : ¬ p < 0 := fun q => by
    have a1 := Int32.lt_iff_toInt_lt.mp q
    have a3 := Int32.le_iff_toInt_le.mp a
    have a2 : (0 : Int32).toInt = 0 := by decide
    omega
  obtain ⟨j, hj, rfl⟩ := nI_of h0
  rw [nI_sub1, ← zI_n] at b
  have := (zI_le (by omega) (by omega)).mp b
  exact hn ⟨j, by omega, rfl⟩
theorem isBr_t {p : Int32} {b : Nat} {h : Hp} {B : Br} (hB : MB h B) (e : p = nI b) (hb : brOk B b) (Q : Int32 → Prop) : w_X9_isBridge p h Q = Q 1 := by
  unfold w_X9_isBridge w_X9_isBridge_b20
  rcases hb with rfl | ⟨rfl, h8⟩
  · rw [wif_t (c := p = 0) e, b11]
  · rw [wif_f (by rw [e]; decide), wif_f (c := ¬ p = 1) (not_not_intro e), v_8_11, true_and, cl8, hB.1 8 (by decide), h8]
    exact congrArg Q (by decide)
theorem isBr_f {p : Int32} {h : Hp} {B : Br} (hB : MB h B) (hn : ¬ (∃ b, brOk B b ∧ p = nI b)) (Q : Int32 → Prop) : w_X9_isBridge p h Q = Q 0 := by
  have w8 := hB.2.2.2.2.2.2.2.2.2.2.2.1
  unfold w_X9_isBridge
  have h0 : p ≠ 0 := fun e => hn ⟨0, Or.inl rfl, e⟩
  rw [wif_f h0]
  by_cases c : p = 1
  · have h8 : B.1 8 ≠ 1 := fun e => hn ⟨1, Or.inr ⟨rfl, e⟩, c⟩
    rw [wif_f (not_not_intro c), v_8_11, true_and, cl8, hB.1 8 (by decide), if_pos, b01]
    intro e
    exact h8 ((nI_eq (b := 1) (by omega) (by omega)).mp e)
  · rw [wif_t c, b01]
