/-! predicate transformers: what a printed method is made of, and the rows that tie it to G -/
def wlet {α : Type} (a : α) (f : α → Prop) : Prop := ∀ x, x = a → f x
theorem wlet_use {α : Type} {a : α} {f : α → Prop} (h : wlet a f) : f a := h a rfl
def wlN {σ : Type} (B : (σ → Prop) → σ → Prop) : Nat → σ → Prop
  | 0, _ => False
  | n + 1, s => B (wlN B n) s
/-- a loop: for some number of rounds -/
def wl {σ : Type} (B : (σ → Prop) → σ → Prop) (s : σ) : Prop := ∃ n, wlN B n s
theorem wl_ind {σ : Type} {B : (σ → Prop) → σ → Prop} {P : σ → Prop} (hs : ∀ K : σ → Prop, (∀ s, K s → P s) → ∀ s, B K s → P s) (s : σ) (h : wl B s) : P s := by
  obtain ⟨n, h⟩ := h
  revert s
  induction n with
  | zero => intro s h; exact h.elim
  | succ n ih => intro s h; exact hs (wlN B n) ih s h
theorem wif_m {c A B A' B' : Prop} (hw : wif c A B) (ha : A → A') (hb : B → B') : wif c A' B' := ⟨fun z => ha (hw.1 z), fun z => hb (hw.2 z)⟩
theorem wif_p {c A B : Prop} (h : c) (a : A) : wif c A B := ⟨fun _ => a, fun z => absurd h z⟩
theorem wif_n {c A B : Prop} (h : ¬ c) (b : B) : wif c A B := ⟨fun z => absurd z h, fun _ => b⟩
def wsw (x : Int32) : List (Int32 × Prop) → Prop → Prop
  | [], D => D
  | (c, A) :: l, D => wif (x = c) A (wsw x l D)
def wimp : List (Int32 × Prop) → List (Int32 × Prop) → Prop
  | [], [] => True
  | (c, A) :: l, (d, B) :: m => c = d ∧ (A → B) ∧ wimp l m
  | _, _ => False
theorem wsw_m {x : Int32} : ∀ {l m : List (Int32 × Prop)} {D D' : Prop}, wsw x l D → wimp l m → (D → D') → wsw x m D'
  | [], [], _, _, hw, _, hd => hd hw
  | (c, A) :: l, (d, B) :: m, D, D', hw, hi, hd => by
    obtain ⟨rfl, h1, h2⟩ := hi
    exact wif_m (A := A) (B := wsw x l D) hw h1 (fun hw => wsw_m hw h2 hd)
theorem wsw_in {x c : Int32} {B : Prop} : ∀ {l : List (Int32 × Prop)} {D : Prop} (_ : wsw x l D) (j : Nat), l[j]? = some (c, B) → x = c → (∀ (i : Nat) (d : Int32) (A : Prop), i < j → l[i]? = some (d, A) → d ≠ c) → B
  | [], _, _, j, hj, _, _ => by simp at hj
  | (d, A) :: l, D, hw, 0, hj, hx, _ => by
    have h1 : (d, A) = (c, B) := by simpa using hj
    cases h1
    have hw : wif (x = c) B (wsw x l D) := hw
    exact hw.1 hx
  | (d, A) :: l, D, hw, j + 1, hj, hx, hn => by
    have h1 : d ≠ c := hn 0 d A (Nat.succ_pos j) rfl
    have hw : wif (x = d) A (wsw x l D) := hw
    exact wsw_in (hw.2 (fun z => h1 (z.symm.trans hx))) j (by simpa using hj) hx (fun i d' A' hi h => hn (i + 1) d' A' (Nat.succ_lt_succ hi) (by simpa using h))
theorem wsw_out {x : Int32} : ∀ {l : List (Int32 × Prop)} {D : Prop}, wsw x l D → (∀ (i : Nat) (d : Int32) (A : Prop), l[i]? = some (d, A) → x ≠ d) → D
  | [], _, hw, _ => hw
  | (d, A) :: l, D, hw, hn => by
    have hw : wif (x = d) A (wsw x l D) := hw
    exact wsw_out (hw.2 (hn 0 d A rfl)) (fun i d' A' h => hn (i + 1) d' A' (by simpa using h))
theorem i32_eq {x : Int32} {z : Int} (h : x.toInt = z) : x = Int32.ofInt z := by rw [← h]; exact (Int32.ofInt_toInt x).symm
theorem g_sw {X : Cx} {M : Mi} {E : Rm} {Q : Qf} {kc pc : Nat} {L : List (Nat × Value)} {st : List Value} {h : Hp} {dflt lo hi : Int} {offs : Array Int} {len : Nat} {x : Int32} (tgs : List (Int32 × Nat)) (dt : Nat) (hd : decode M.2.1 pc = .ok (.tableswitch dflt lo hi offs, len))
    (ho : offs.toList = tgs.map (fun t => (t.2 : Int) - pc)) (hn : tgs.map (fun t => t.1.toInt) = (List.range tgs.length).map (fun (j : Nat) => lo + (j : Int))) (hl : (tgs.length : Int) = hi - lo + 1) (hdt : (pc : Int) + dflt = (dt : Int))
    (kk : wsw x (tgs.map (fun t => (t.1, G X M E Q kc t.2 L st h))) (G X M E Q kc dt L st h)) : G X M E Q kc pc L (.int x :: st) h := by
  have hsz : offs.size = tgs.length := by
    rw [← Array.length_toList, ho, List.length_map]
  have hoff : ∀ (j : Nat) (off : Int), offs[j]? = some off → ∃ t, tgs[j]? = some t ∧ off = (t.2 : Int) - pc := by
    intro j off hj
    rw [← Array.getElem?_toList, ho, List.getElem?_map] at hj
    cases ht : tgs[j]? with
    | none => rw [ht] at hj; cases hj
    | some t => rw [ht] at hj; exact ⟨t, rfl, (Option.some.inj hj).symm⟩
  have hval : ∀ (j : Nat) (t : Int32 × Nat), tgs[j]? = some t → t.1.toInt = lo + (j : Int) := by
    intro j t ht
    have h1 : (tgs.map (fun t => t.1.toInt))[j]? = some t.1.toInt := by rw [List.getElem?_map, ht]; rfl
    have hj : j < tgs.length := (List.getElem?_eq_some_iff.mp ht).1
    rw [hn, List.getElem?_map, List.getElem?_range hj] at h1
    exact (Option.some.inj h1).symm
  refine g_table hd (fun j off tgt hj ht hx => ?_) (fun tgt ht hout => ?_) (by omega) (fun j off hj => ?_) (by omega)
  · obtain ⟨t, h1, h2⟩ := hoff j off hj
    have h3 := hval j t h1
    have h4 : tgt = t.2 := by omega
    subst h4
    refine wsw_in (c := t.1) kk j (by rw [List.getElem?_map, h1]; rfl) ?_ ?_
    · have e1 := i32_eq (hx.trans h3.symm)
      rw [e1]
      exact Int32.ofInt_toInt t.1
    · intro i d A hi hd2 hdc
      rw [List.getElem?_map] at hd2
      cases ht2 : tgs[i]? with
      | none => rw [ht2] at hd2; cases hd2
      | some t2 =>
        rw [ht2] at hd2
        have h6 : t2.1 = d := congrArg Prod.fst (Option.some.inj hd2)
        have h5 := hval i t2 ht2
        rw [h6, hdc] at h5
        omega
  · have h4 : tgt = dt := by omega
    subst h4
    refine wsw_out kk (fun i d A hd2 hxd => ?_)
    rw [List.getElem?_map] at hd2
    cases ht2 : tgs[i]? with
    | none => rw [ht2] at hd2; cases hd2
    | some t2 =>
      rw [ht2] at hd2
      have h6 : t2.1 = d := congrArg Prod.fst (Option.some.inj hd2)
      have h5 := hval i t2 ht2
      have hi : i < tgs.length := (List.getElem?_eq_some_iff.mp ht2).1
      rw [h6, ← hxd] at h5
      omega
  · obtain ⟨t, h1, h2⟩ := hoff j off hj
    omega
/-- results -/
def QI (Q : Int32 → Hp → Prop) : Option Value → Hp → Prop := fun r h' => ∃ v, r = some (.int v) ∧ Q v h'
def QIp (h : Hp) (Q : Int32 → Prop) : Option Value → Hp → Prop := fun r h' => ∃ v, r = some (.int v) ∧ h' = h ∧ Q v
def QL (Q : Int64 → Hp → Prop) : Option Value → Hp → Prop := fun r h' => ∃ v, r = some (.long v) ∧ Q v h'
def QLp (h : Hp) (Q : Int64 → Prop) : Option Value → Hp → Prop := fun r h' => ∃ v, r = some (.long v) ∧ h' = h ∧ Q v
def QV (Q : Hp → Prop) : Option Value → Hp → Prop := fun r h' => r = none ∧ Q h'
def QVp (h : Hp) (Q : Prop) : Option Value → Hp → Prop := fun r h' => r = none ∧ h' = h ∧ Q
def LawP (p : Nat) : Prop := kd p = (0, 0, 0, 0, 0) ∧ kd (tg p 0) = (1, 500, 0, 0, 0) ∧ kd (tg p 1) = (1, 6, 0, 0, 0) ∧ kd (tg p 2) = (1, 64, 0, 0, 0)
def RoadP (p : Nat) : Prop := kd p = (0, 4, 0, 0, 0) ∧ kd (tg p 0) = (1, 30, 0, 0, 0) ∧ kd (tg p 1) = (1, 30, 0, 0, 0) ∧ kd (tg p 2) = (1, 30, 0, 0, 0) ∧ kd (tg p 3) = (1, 56, 0, 0, 0)
def RecP (p : Nat) : Prop := kd p = (0, 3, 0, 0, 0) ∧ kd (tg p 0) = (1, 2, 0, 0, 0) ∧ kd (tg p 1) = (1, 60, 0, 0, 0) ∧ kd (tg p 2) = (1, 60, 0, 0, 0) ∧ kd (tg p 3) = (1, 30, 0, 0, 0) ∧ kd (tg p 4) = (1, 10, 0, 0, 0) ∧ kd (tg p 5) = (1, 10, 0, 0, 0)
def QLaw (h : Hp) (Q : Nat → Prop) : Option Value → Hp → Prop := fun r h' => ∃ p, r = some (.ref p) ∧ LawP p ∧ h' = h ∧ Q p
def vopt (o : Option Nat) : Value := match o with
  | none => .null
  | some p => .ref p
def QRec (h : Hp) (Q : Option Nat → Prop) : Option Value → Hp → Prop := fun r h' => ∃ o, r = some (vopt o) ∧ (∀ p, o = some p → RecP p) ∧ h' = h ∧ Q o
theorem lawP_i {i : Int32} (h : vp_in i 4) : LawP (14 + 4 * i.toNatClampNeg) := by
  have h1 : i.toNatClampNeg < 4 := Nat.not_le.mp fun q => h (Or.inr q)
  generalize i.toNatClampNeg = j at h1
  have h2 : j = 0 ∨ j = 1 ∨ j = 2 ∨ j = 3 := by omega
  unfold LawP
  rcases h2 with rfl | rfl | rfl | rfl <;> decide
theorem recP_i {i : Int32} (h : vp_in i 3) : RecP (70 + 7 * i.toNatClampNeg) := by
  have h1 : i.toNatClampNeg < 3 := Nat.not_le.mp fun q => h (Or.inr q)
  generalize i.toNatClampNeg = j at h1
  have h2 : j = 0 ∨ j = 1 ∨ j = 2 := by omega
  rcases h2 with rfl | rfl | rfl <;> exact ⟨by decide, by decide, by decide, by decide, by decide, by decide, by decide⟩
theorem lawP_30 : LawP 30 := by unfold LawP; decide
theorem lawP_34 : LawP 34 := by unfold LawP; decide
theorem lawP_38 : LawP 38 := by unfold LawP; decide
theorem roadP_3 : RoadP 3 := by unfold RoadP; decide
theorem roadP_8 : RoadP 8 := by unfold RoadP; decide
theorem recP_62 : RecP 62 := ⟨by decide, by decide, by decide, by decide, by decide, by decide, by decide⟩
theorem fam {P : Nat → Prop} {n : Nat} (ha : ∀ j, j < n → P j) {i : Int32} (h : vp_in i n) : P i.toNatClampNeg := ha _ (Nat.not_le.mp fun q => h (Or.inr q))
/-- decode rows in bulk -/
def dkA (b : ByteArray) (l : List (Nat × Instr × Nat)) : Prop := ∀ q ∈ l, decode b q.1 = .ok (q.2.1, q.2.2)
theorem dk {b : ByteArray} {l : List (Nat × Instr × Nat)} (h : dkA b l) (i : Nat) {pc n : Nat} {ins : Instr} (hi : l[i]? = some (pc, ins, n)) : decode b pc = .ok (ins, n) := h (pc, ins, n) (List.mem_of_getElem? hi)
