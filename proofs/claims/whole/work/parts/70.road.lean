/-! a bridge's text, purely; and by the program -/
def setN (B : Br) (i v : Nat) : Br := (fun j => if j = i then v else B.1 j, B.2)
def setS (B : Br) (d v : Nat) : Br := (B.1, fun e => if e = d then v else B.2.1 e, B.2.2)
def setF (B : Br) (d v : Nat) : Br := (B.1, B.2.1, fun e => if e = d then v else B.2.2.1 e, B.2.2.2)
def setW (B : Br) (k i v : Nat) : Br := (B.1, B.2.1, B.2.2.1, fun k' i' => if k' = k ∧ i' = i then v else B.2.2.2 k' i')
abbrev Res := Nat × Nat × Nat × Br
def bn (B : Br) (r : Nat × Nat × Nat × Nat) (f : Nat → Nat → Res) : Res := if r.1 = 0 then f r.2.2.1 r.2.2.2 else (r.1, r.2.1, 0, B)
theorem bn_ok {B : Br} {r : Nat × Nat × Nat × Nat} {f : Nat → Nat → Res} (h : r.1 = 0) : bn B r f = f r.2.2.1 r.2.2.2 := if_pos h
theorem bn_no {B : Br} {r : Nat × Nat × Nat × Nat} {f : Nat → Nat → Res} (h : r.1 ≠ 0) : bn B r f = (r.1, r.2.1, 0, B) := if_neg h
theorem numS_ok {T : Nat → Int32} {L lo hi p : Nat} (h : (numS T L lo hi p).1 = 0) : lo ≤ (numS T L lo hi p).2.2.2 ∧ (numS T L lo hi p).2.2.2 ≤ hi ∧ (numS T L lo hi p).2.2.2 ≤ 100000 := by
  unfold numS at h ⊢
  have hb := nvN_b T (sk T L p) (de T L (sk T L p) - sk T L p)
  split
  · rename_i c
    rw [if_pos c] at h
    exact absurd h (by decide : ¬ (1 : Nat) = 0)
  · rename_i c
    rw [if_neg c] at h
    split
    · rename_i d
      rw [if_pos d] at h
      exact absurd h (by decide : ¬ (2 : Nat) = 0)
    · rename_i d
      show lo ≤ nvN _ _ _ ∧ nvN _ _ _ ≤ hi ∧ nvN _ _ _ ≤ 100000
      omega
def whoLo (n : Nat) : Nat := if n = 0 then 1 else 0
theorem rng_who {n : Nat} (h : n ≤ 8) : rng (whoLo n) (n - 1) 0 (nI n - 1) := fun v hv => by
  unfold whoLo
  by_cases c : n = 0
  · subst c
    rw [if_pos rfl]
    refine ⟨⟨fun z => absurd z.2 (fun w => ?_), fun z => by omega⟩, by omega⟩
    have h1 := Int32.le_iff_toInt_le.mp w
    rw [nI_toInt (by omega)] at h1
    have h2 : (nI 0 - 1 : Int32).toInt = -1 := by decide
    omega
  · rw [if_neg c, show nI n - 1 = nI (n - 1) from by rw [q1, pk_sub (by omega)], q0, nI_ltI (by omega) (by omega), nI_leI (by omega) (by omega)]
    omega
def addW (B : Br) (a b c d e : Nat) : Br := setN (setW (setW (setW (setW (setW B (B.1 0) 0 a) (B.1 0) 1 b) (B.1 0) 2 c) (B.1 0) 3 d) (B.1 0) 4 e) 0 (B.1 0 + 1)
def oneS (T : Nat → Int32) (L lo hi p : Nat) (B : Br) (f : Nat → Br) : Res := bn B (numS T L lo hi p) (fun p v => (0, 0, p, f v))
def twoS (T : Nat → Int32) (L lo hi p : Nat) (B : Br) (lo2 hi2 : Nat → Nat) (f : Nat → Nat → Br) : Res := bn B (numS T L lo hi p) (fun p a => bn B (numS T L (lo2 a) (hi2 a) p) (fun p b => (0, 0, p, f a b)))
def partS (T : Nat → Int32) (L p : Nat) (B : Br) (k : Nat) : Res :=
  if k = 0 then twoS T L 0 29 p B (fun _ => 60) (fun _ => 5400) (fun d v => setS B d v)
  else if k = 1 then oneS T L 1 9 p B (fun v => setN B 1 v)
  else if k = 2 then twoS T L 0 1438 p B (fun a => a + 1) (fun _ => 1439) (fun a b => setN (setN B 2 a) 3 b)
  else if k = 3 then bn B (numS T L 50 400 p) (fun p a => bn B (numS T L 1 999 p) (fun p b => bn B (numS T L 0 1439 p) (fun p c => bn B (numS T L c 1439 p) (fun p d => bn B (numS T L 0 9 p) (fun p e => (0, 0, p, addW B a b c d e))))))
  else if k = 4 then oneS T L 1 60 p B (fun v => setN B 4 v)
  else if k = 5 then twoS T L (whoLo (B.1 0)) (B.1 0 - 1) p B (fun _ => 1) (fun _ => 99) (fun w v => setW B w 5 v)
  else if k = 6 then twoS T L (whoLo (B.1 0)) (B.1 0 - 1) p B (fun _ => 10) (fun _ => 400) (fun w v => setW B w 6 v)
  else if k = 7 then oneS T L 0 29 p B (fun d => setF B d 1)
  else if k = 8 then oneS T L 0 16 p B (fun v => setN B 5 v)
  else if k = 9 then twoS T L 0 60 p B (fun _ => 0) (fun _ => 99) (fun a b => setN (setN (setN B 9 a) 10 b) 8 1)
  else if k = 10 then oneS T L 1 5400 p B (fun v => setN B 6 v)
  else (0, 0, p, setN B 7 1)
/-- the program's scratch -/
def fldx (i : Nat) : Nat := if i < 7 then i + 4 else if i < 9 then i + 6 else i + 2
def CS (h : Hp) (B : Br) : Prop := (∀ i, i < 11 → h 8 (fldx i) = nI (B.1 i)) ∧ (∀ d, d < 30 → h 9 d = nI (B.2.1 d)) ∧ (∀ d, d < 30 → h 11 d = nI (B.2.2.1 d)) ∧ (∀ k i, k < 8 → i < 7 → h 12 (k * 7 + i) = nI (B.2.2.2 k i))
theorem CS.same {h h' : Hp} {B : Br} (c : CS h B) (e : ∀ q, q ≠ 1 → h' q = h q) : CS h' B := by
  unfold CS
  rw [e 8 (by decide), e 9 (by decide), e 11 (by decide), e 12 (by decide)]
  exact c
theorem CS.setN {h : Hp} {B : Br} (c : CS h B) {i v : Nat} (hi : i < 11) : CS (hup h 8 (fldx i) (nI v)) (setN B i v) := by
  obtain ⟨a, b, d, e⟩ := c
  refine ⟨fun j hj => ?_, fun x hx => ?_, fun x hx => ?_, fun k x hk hx => ?_⟩
  · show _ = nI (if j = i then v else B.1 j)
    by_cases q : j = i
    · rw [q, hup_eq, if_pos rfl]
    · rw [if_neg q, hup_o (Or.inr ?_)]
      · exact a j hj
      · unfold fldx
        split <;> split <;> (try split) <;> (try split) <;> omega
  · rw [hup_ne (by decide)]; exact b x hx
  · rw [hup_ne (by decide)]; exact d x hx
  · rw [hup_ne (by decide)]; exact e k x hk hx
theorem CS.setS {h : Hp} {B : Br} (c : CS h B) {i v : Nat} : CS (hup h 9 i (nI v)) (setS B i v) := by
  obtain ⟨a, b, d, e⟩ := c
  refine ⟨fun j hj => ?_, fun x hx => ?_, fun x hx => ?_, fun k x hk hx => ?_⟩
  · rw [hup_ne (by decide)]; exact a j hj
  · show _ = nI (if x = i then v else B.2.1 x)
    by_cases q : x = i
    · rw [q, hup_eq, if_pos rfl]
    · rw [if_neg q, hup_o (Or.inr q)]
      exact b x hx
  · rw [hup_ne (by decide)]; exact d x hx
  · rw [hup_ne (by decide)]; exact e k x hk hx
theorem CS.setF {h : Hp} {B : Br} (c : CS h B) {i v : Nat} : CS (hup h 11 i (nI v)) (setF B i v) := by
  obtain ⟨a, b, d, e⟩ := c
  refine ⟨fun j hj => ?_, fun x hx => ?_, fun x hx => ?_, fun k x hk hx => ?_⟩
  · rw [hup_ne (by decide)]; exact a j hj
  · rw [hup_ne (by decide)]; exact b x hx
  · show _ = nI (if x = i then v else B.2.2.1 x)
    by_cases q : x = i
    · rw [q, hup_eq, if_pos rfl]
    · rw [if_neg q, hup_o (Or.inr q)]
      exact d x hx
  · rw [hup_ne (by decide)]; exact e k x hk hx
theorem CS.setW {h : Hp} {B : Br} (c : CS h B) {k i v : Nat} (hk : k < 8) (hi : i < 7) : CS (hup h 12 (k * 7 + i) (nI v)) (setW B k i v) := by
  obtain ⟨a, b, d, e⟩ := c
  refine ⟨fun j hj => ?_, fun x hx => ?_, fun x hx => ?_, fun k' x hk' hx => ?_⟩
  · rw [hup_ne (by decide)]; exact a j hj
  · rw [hup_ne (by decide)]; exact b x hx
  · rw [hup_ne (by decide)]; exact d x hx
  · show _ = nI (if k' = k ∧ x = i then v else B.2.2.2 k' x)
    by_cases q : k' = k ∧ x = i
    · rw [q.1, q.2, hup_eq, if_pos ⟨rfl, rfl⟩]
    · rw [if_neg q, hup_o (Or.inr (by omega))]
      exact e k' x hk' hx
theorem s_setTrait {h : Hp} {k i : Nat} {p1 p2 p3 : Int32} (e1 : p1 = nI k) (e2 : p2 = nI i) (hk : k < 8) (hi : i < 7) (Q : Hp → Prop) : w_X4_setTrait 8 p1 p2 p3 h Q = Q (hup h 12 (k * 7 + i) p3) := by
  subst e1 e2
  have t : tg 8 3 = 12 := by decide
  unfold w_X4_setTrait
  rw [t, q7, pk_mul, nI_add, e_put (by decide), wr_n (by omega) (by decide)]
/-- frames of reading a clause: well, and wrong -/
def fs (h h' : Hp) : Prop := (∀ q, q ≠ 1 → (q < 8 ∨ 12 < q ∨ q = 10) → h' q = h q) ∧ (∀ i, i ≠ 3 → h' 1 i = h 1 i)
def fe (h h' : Hp) (k x : Nat) : Prop := (∀ q, q ≠ 1 → (q < 8 ∨ 12 < q ∨ q = 10) → h' q = h q) ∧ (∀ i, i ≠ 3 → i ≠ 4 → i ≠ 5 → h' 1 i = h 1 i) ∧ h' 1 4 = nI k ∧ h' 1 5 = nI x
theorem fs.tr {h h1 h2 : Hp} (a : fs h h1) (b : fs h1 h2) : fs h h2 := ⟨fun q hq h9 => (b.1 q hq h9).trans (a.1 q hq h9), fun i hi => (b.2 i hi).trans (a.2 i hi)⟩
theorem fc.fs {h h' : Hp} (a : fc h h') : fs h h' := ⟨fun q hq _ => a.1 q hq, a.2⟩
theorem fs.er {h h1 h2 : Hp} {k x : Nat} (a : fs h h1) (b : er h1 h2 k x) : fe h h2 k x := ⟨fun q hq h9 => (b.1 q hq).trans (a.1 q hq h9), fun i h3 h4 h5 => (b.2.1 i h3 h4 h5).trans (a.2 i h3), b.2.2⟩
theorem fs.fe {h h1 h2 : Hp} {k x : Nat} (a : fs h h1) (b : fe h1 h2 k x) : fe h h2 k x := ⟨fun q hq h9 => (b.1 q hq h9).trans (a.1 q hq h9), fun i h3 h4 h5 => (b.2.1 i h3 h4 h5).trans (a.2 i h3), b.2.2⟩
theorem fs.up {h h1 : Hp} (a : fs h h1) {q i : Nat} {v : Int32} (hq : q = 8 ∨ q = 9 ∨ q = 11 ∨ q = 12) : fs h (hup h1 q i v) := ⟨fun x hx h9 => by rw [hup_ne (by omega)]; exact a.1 x hx h9, fun j hj => by rw [hup_ne (by omega)]; exact a.2 j hj⟩
theorem CT.sc {h : Hp} {T : Nat → Int32} {L p : Nat} (c : CT h T L p) {q i : Nat} {v : Int32} (hq : q = 8 ∨ q = 9 ∨ q = 11 ∨ q = 12) : CT (hup h q i v) T L p := by
  unfold CT
  rw [hup_ne (q := 1) (by omega), hup_ne (q := 2) (by omega)]
  exact c
