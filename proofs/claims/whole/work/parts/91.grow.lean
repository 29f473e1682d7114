/-! the beginning: a world that grows, cell by cell; where each place will lie is known -/
def idx (p : Nat) : Nat := if p < 14 then p else if p < 30 then p + 41 else if p < 70 then p - 16 else if p < 91 then p + 1 else if p < 92 then 54 else p
theorem idx_inj {p q : Nat} (h : idx p = idx q) : p = q := by
  unfold idx at h
  repeat' split at h
  all_goals omega
def XO (X : Cx) : Prop := ∀ p, p < NP → X.2.2.1 p = X.2.2.2 + idx p
def fvalP (X : Cx) (h : Hp) (J : Nat → Bool) (p c k : Nat) : Value := if fk c k = 2 then (if J k = true then .ref (X.2.2.1 (tg p k)) else .null) else if fk c k = 1 then .int (h p k &&& 1) else .int (h p k)
def entP (X : Cx) (h : Hp) (J : Nat → Bool) (p : Nat) (k : Kd) : va_E := match k with
  | (0, c, _) => .inr (c, (List.range (nf c)).map (fvalP X h J p c))
  | (1, n, _) => .inl (X.2.1 0, n, .inl (h p))
  | (2, n, b, c, d) => .inl (X.2.1 d, n, .inr (.inr (.inr (.inr (fun j => if j < n then (if J j = true then some (X.2.2.1 (b + c * j)) else none) else none)))))
  | (3, n, _) => .inl (X.2.1 1, n, .inl (fun j => h p j &&& 1))
  | (_, n, _) => .inl (X.2.1 2, n, .inr (.inl (fun j => (h p j).toInt64)))
theorem entP_congr (X : Cx) {h h' : Hp} {J J' : Nat → Bool} {i : Nat} (hq : h' i = h i) (hJ : J' = J) (k : Kd) : entP X h' J' i k = entP X h J i k := by
  subst hJ
  have hf : ∀ c, fvalP X h' J' i c = fvalP X h J' i c := fun c => by
    funext k
    unfold fvalP
    rw [hq]
  unfold entP
  split
  · rw [hf]
  · rw [hq]
  · rfl
  · rw [hq]
  · rw [hq]
abbrev Jt := Nat → Nat → Bool
def WP (X : Cx) (h : Hp) (J : Jt) (n : Nat) (H : Heap) (U : State) : Prop := (∀ p, p < NP → idx p < n → va_at X.1 clsL (X.2.2.1 p, entP X h (J p) p (kd p)) H) ∧ va_K X.1 clsL (tyX X) U ∧ H.size = X.2.2.2 + n ∧ (∀ p, n ≤ idx p → h p = fun _ => 0) ∧ XO X
theorem WP.moved {X : Cx} {h : Hp} {J : Jt} {n : Nat} {H : Heap} {u U : State} (w : WP X h J n H u) (hvm : u.vm.Alike U.vm) : WP X h J n H U := ⟨w.1, va_K.moved hvm w.2.1, w.2.2⟩
theorem WP.A {X : Cx} {h : Hp} {J : Jt} {n : Nat} {H : Heap} {s : State} (w : WP X h J n H s) {p : Nat} (hp : p < NP) : AA X (X.2.2.1 p) := by
  show X.2.2.2 ≤ X.2.2.1 p
  rw [w.2.2.2.2 p hp]
  omega
theorem WP.put {X : Cx} {h h' : Hp} {J J' : Jt} {n : Nat} {H H1 : Heap} {s : State} (w : WP X h J n H s) {p : Nat} (hp : p < NP) (hi : idx p < n) (hq : ∀ q, q ≠ p → h' q = h q ∧ J' q = J q) (e : va_at X.1 clsL (X.2.2.1 p, entP X h' (J' p) p (kd p)) H1) (z : H1.size = H.size) (o : ∀ q, q ≠ X.2.2.1 p → H1[q]? = H[q]?) : WP X h' J' n H1 s := by
  obtain ⟨w1, w2, w3, w4, w5⟩ := w
  refine ⟨fun q hqN hqi => ?_, w2, z.trans w3, fun q hq2 => ?_, w5⟩
  · by_cases c : q = p
    · subst c
      exact e
    · rw [entP_congr X (hq q c).1 (hq q c).2]
      refine (w1 q hqN hqi).kept (o _ ?_)
      show X.2.2.1 q ≠ X.2.2.1 p
      rw [w5 q hqN, w5 p hp]
      exact fun y => c (idx_inj (Nat.add_left_cancel y))
  · rw [(hq q (fun y => by subst y; omega)).1]
    exact w4 q hq2
theorem WP.new {X : Cx} {h : Hp} {J : Jt} {n : Nat} {H H1 : Heap} {s : State} (w : WP X h J n H s) {p : Nat} (hp : p < NP) (hi : idx p = n) (e : va_at X.1 clsL (X.2.2.1 p, entP X h (J p) p (kd p)) H1) (z : H1.size = H.size + 1) (o : ∀ q, q < H.size → H1[q]? = H[q]?) : WP X h J (n + 1) H1 s := by
  obtain ⟨w1, w2, w3, w4, w5⟩ := w
  refine ⟨fun q hqN hqi => ?_, w2, by omega, fun q hq2 => w4 q (by omega), w5⟩
  by_cases c : q = p
  · subst c
    exact e
  · have hqn : idx q < n := by
      have : idx q ≠ n := fun y => c (idx_inj (y.trans hi.symm))
      omega
    have h0 := w1 q hqN hqn
    exact h0.kept (o _ h0.lt)
/-- a world of one cell -/
theorem va_one {D : va_G} {cl : List vw_C} {q : Nat × va_E} {H : Heap} (h : va_at D cl q H) : va_P D cl [q] H := fun k x hx => by
  have hz : k < 1 := (List.getElem?_eq_some_iff.mp hx).1
  rw [show k = 0 by omega] at hx
  cases hx
  exact h
section RW
variable {p : Program} {l : Launch} {e : Env} {R : Room} {s : State} {m : MethodId} {args : Array Value} {below : List Frame} {meth : Method} {c : Code} {H : Heap} {locs : List Loc} {cells slots : Nat} {Q : State → Prop}
variable {cc : ByteArray} {pc : Nat} {ls : Array Slot} {rest : List Value} {D : va_G} {cl : List vw_C} {A : Nat → Prop} {a : Nat} {tys : List (ClassId × FieldType)} {H0 : Heap}
theorem rw_put (hexec : p.tables.exec = Jvm.exec) (hb : c.code = cc) {own ref C : String} {T : u_T} {N ci index : Nat} {Ts : List Cond} (hts : ∀ w ∈ Ts, w.before args s = true) (hin : ∀ w ∈ u_ws C T N, w ∈ Ts) (ty0 : Nat → FieldType) (hty : ∀ k, k < N → parseFieldDescriptor (T k).2.2.1 = some (ty0 k)) (hnm : ∀ a, a < N → ∀ b, b < N → a ≠ b → (T a).2.1 ≠ (T b).2.1) (hown : s.vm.findClass own = some m.cls) (hK : va_K D cl tys s) {fs : List Value} (hP : va_at D cl (a, .inr (ci, fs)) H) (hA : A a) (hS0 : va_S A H0 H locs) (hc : cl[ci]? = some (C, T, N)) (k : Nat) (hk : k < N) (hlink : (Cond.fieldLink own index ref (T k).2.1 (T k).2.2.1).before args s = true) (hsame : ∀ x, s.fieldFound? (T k).1 (T k).2.1 (T k).2.2.1 = some x → s.fieldFound? ref (T k).2.1 (T k).2.2.1 = some x) (hfin : (T k).2.2.2 = false ∨ ((T k).2.2.2 = true ∧ meth.name = "<init>" ∧ (T k).1 = own)) {ty : FieldType} {v : Value} (hd : parseFieldDescriptor (T k).2.2.1 = some ty) (hn : narrow ty v = v) (hfit : fits ty v = true) (hl : k < fs.length)
    (hdg : decode cc pc = .ok (.putfield index, 3)) (kk : ∀ (H1 : Heap) (locs1 : List Loc), va_at D cl (a, .inr (ci, fs.set k v)) H1 → H1.size = H.size → (∀ q, q ≠ a → H1[q]? = H[q]?) → va_S A H0 H1 locs1 → W p l e R s m args below meth c H1 locs1 cells slots Q (F0 m (pc + 3) ls rest)) : W p l e R s m args below meth c H locs cells slots Q (F0 m pc ls (v :: .ref a :: rest)) := by
  have hap := va_apart (own := own) hts hin ty0 hty hnm hK hc
  obtain ⟨r, h1, cell, q1, q2, q3, q4⟩ := hP
  have hr : r = (C, T, N) := Option.some.inj (h1.symm.trans hc)
  subst hr
  obtain ⟨hS, hfc, kC, hkC, hkind⟩ := hK.1 ci _ hc
  obtain ⟨cf, kf, fi, f, hi, hsl⟩ := hS k hk
  have hlay := hts _ (hin _ (u_in_lay hk))
  unfold u_lay at hlay
  have hst := (u_facts hfc hkC (u_lays hts hin hk) hi).1
  rcases hfin with hfin | ⟨hfin, hin2, hdecl⟩
  · rw [if_neg (by rw [hfin]; decide)] at hlay
    have h6 := u_store hfc hkC hkind hlay hi hd hn hfit
    refine W.putK hexec hb (f := f) ⟨hown, hlink, ⟨_, _, _, hsame _ hi⟩, hst⟩ (by rw [q2]; exact h6) q1 q3 (by rw [hsl]; exact k2_hasslot (q4 k hk)) rfl rfl hdg fun H' e1 e2 e3 => ?_
    rw [hsl] at e1 ⊢
    exact kk H' _ ⟨_, hc, t_OB.to (V := updV (vp_V fs) k v) ⟨_, e1, q2, q3, t_set q4 hap hk v⟩ (fun j _ => vp_updV_set hl v j)⟩ e2 e3 (hS0.put e2 e3 hA)
  · rw [if_pos hfin] at hlay
    have hcf : m.cls = cf := by
      obtain ⟨_, _, c', _, _, _, -, -, hf', -, -, -, hown2, -⟩ := Cond.laysFinal_spec hlay
      have e1 : c' = cf := by have := hi.symm.trans hf'; simp at this; exact this.1.symm
      rw [hdecl] at hown2
      rw [← e1]; exact Option.some.inj (hown.symm.trans hown2)
    have h6 := u_fits hfc hkC hkind (Or.inr hlay) hi hd hn hfit
    refine W.putFinK hexec hb hown hlink (hsame _ hi) hst hcf hin2 (by rw [q2]; exact h6) q1 q3 (by rw [hsl]; exact k2_hasslot (q4 k hk)) rfl rfl hdg fun H' e1 e2 e3 => ?_
    rw [hsl] at e1 ⊢
    exact kk H' _ ⟨_, hc, t_OB.to (V := updV (vp_V fs) k v) ⟨_, e1, q2, q3, t_set q4 hap hk v⟩ (fun j _ => vp_updV_set hl v j)⟩ e2 e3 (hS0.put e2 e3 hA)
theorem rw_iast (hexec : p.tables.exec = Jvm.exec) (hb : c.code = cc) (hK : va_K D cl tys s) (t0 : Nat) {cA : ClassId} {n : Nat} {f : Nat → Int32} (hP : va_at D cl (a, .inl (cA, n, .inl f)) H) (hA : A a) (hS : va_S A H0 H locs) (ht : tys[t0]? = some (cA, .int)) {i : Int32} {x : Int32} (hin : vp_in i n) (hdg : decode cc pc = .ok (.iastore, 1))
    (kk : ∀ (H1 : Heap) (locs1 : List Loc), va_at D cl (a, .inl (cA, n, .inl (upd f i.toNatClampNeg x))) H1 → H1.size = H.size → (∀ q, q ≠ a → H1[q]? = H[q]?) → va_S A H0 H1 locs1 → W p l e R s m args below meth c H1 locs1 cells slots Q (F0 m (pc + 1) ls rest)) : W p l e R s m args below meth c H locs cells slots Q (F0 m pc ls (.int x :: .int i :: .ref a :: rest)) := by
  refine W.iast hexec hb hP ((hK.2 t0 _ ht).1 n (fun j => .int (f j))) (fun q => by cases q) (by show ¬ (i < 0 ∨ (arrV _ _ _).slots.size ≤ _); rw [arrV_size]; exact hin) rfl rfl hdg fun H1 e z oq => ?_
  refine kk H1 _ ?_ z oq (hS.put z oq hA)
  show H1[a]? = some (vp_cell _ _)
  rw [e]
  show some ((vp_cell cA (n, .inl f)).setSlot _ _) = _
  rw [vp_cell_i, vp_cell_i, arrV_store]
  congr 2
  funext q
  by_cases hq : q = i.toNatClampNeg
  · subst hq
    simp [updV, upd]
  · simp [updV, upd, hq]
theorem rw_aast (hexec : p.tables.exec = Jvm.exec) (hb : c.code = cc) (hK : va_K D cl tys s) (t0 ci : Nat) {cA : ClassId} {r : vw_C} {n v : Nat} {vs : List Value} {f : Nat → Option Nat} (hP : va_at D cl (a, .inl (cA, n, .inr (.inr (.inr (.inr f))))) H) (hA : A a) (hS : va_S A H0 H locs) (ht : tys[t0]? = some (cA, .object r.1)) (hv : va_at D cl (v, .inr (ci, vs)) H) (hc : cl[ci]? = some r) {i : Int32} (hin : vp_in i n) (hdg : decode cc pc = .ok (.aastore, 1))
    (kk : ∀ (H1 : Heap) (locs1 : List Loc), va_at D cl (a, .inl (cA, n, .inr (.inr (.inr (.inr (va_up f i.toNatClampNeg (some v))))))) H1 → H1.size = H.size → (∀ q, q ≠ a → H1[q]? = H[q]?) → va_S A H0 H1 locs1 → W p l e R s m args below meth c H1 locs1 cells slots Q (F0 m (pc + 1) ls rest)) : W p l e R s m args below meth c H locs cells slots Q (F0 m pc ls (.ref v :: .int i :: .ref a :: rest)) := by
  have hlt : i.toNatClampNeg < n := Nat.not_le.mp fun q => hin (Or.inr q)
  have h0 : ¬ i < 0 := fun q => hin (Or.inl q)
  obtain ⟨r', hr', cellV, g1, g2, g3, -⟩ := hv
  have hcls := (hK.1 ci r hc).2
  obtain ⟨kA, comp, k1, k2, k3, -⟩ := (hK.2 t0 _ ht).2
  have hcomp : comp = D.1 ci := Option.some.inj (k3.symm.trans hcls.1)
  subst hcomp
  obtain ⟨kC, hkC, -⟩ := hcls.2
  refine W.aast hexec hb hP (fun q h => by cases h) (fun h => by cases h) k1 k2 rfl hkC ⟨h0, by show _ < (arrV _ _ _).slots.size; rw [arrV_size]; exact hlt⟩ g1 (fun q h => by rw [g3] at h; cases h) (by rw [g2]; exact hkC) (by rw [g2]; exact va_assign hcls) rfl rfl hdg fun H1 e z oq => ?_
  refine kk H1 _ ?_ z oq (hS.put z oq hA)
  show H1[a]? = some (vp_cell _ _)
  rw [e]
  show some ((vp_cell cA (n, .inr (.inr (.inr (.inr f))))).setSlot _ _) = _
  rw [vp_cell_q, vp_cell_q, arrV_store]
  congr 2
  funext q
  by_cases hq : q = i.toNatClampNeg
  · subst hq
    simp [updV, va_up, va_rf]
  · simp [updV, va_up, hq]
end RW
/-- the classes of rows: what the tables say of them goes with every state alike -/
def Ax (U : State) : Prop := (Cond.arrayClass .int).before #[] U = true ∧ (Cond.arrayClass .boolean).before #[] U = true ∧ (Cond.arrayClass .long).before #[] U = true ∧ (Cond.arrayOver (.object RX0)).before #[] U = true ∧ (Cond.arrayOver (.object RX3)).before #[] U = true ∧ (Cond.arrayOver (.array .int)).before #[] U = true ∧ (Cond.arrayOver (.array .boolean)).before #[] U = true ∧ (Cond.arrayOver (.array (.array .int))).before #[] U = true
theorem ax_b {t : FieldType} {a a' : Array Value} {s U : State} (hal : s.vm.Alike U.vm) (h : (Cond.arrayOver (.array t)).before a s = true) : (Cond.arrayOver (.array t)).before a' U = true := arrayOver_alikeB hal h
theorem Ax.moved {s U : State} (hal : s.vm.Alike U.vm) (h : Ax s) : Ax U := ⟨SubstrLeaves.arrayClass_alike hal h.1, SubstrLeaves.arrayClass_alike hal h.2.1, SubstrLeaves.arrayClass_alike hal h.2.2.1, Cond.arrayOver_alike hal h.2.2.2.1, Cond.arrayOver_alike hal h.2.2.2.2.1, ax_b hal h.2.2.2.2.2.1, ax_b hal h.2.2.2.2.2.2.1, ax_b hal h.2.2.2.2.2.2.2⟩
theorem Ax.i {s : State} {args : Array Value} (h : Ax s) : (Cond.arrayClass .int).before args s = true := SubstrLeaves.arrayClass_alike (Vm.Alike.refl _) h.1
theorem Ax.z {s : State} {args : Array Value} (h : Ax s) : (Cond.arrayClass .boolean).before args s = true := SubstrLeaves.arrayClass_alike (Vm.Alike.refl _) h.2.1
theorem Ax.l {s : State} {args : Array Value} (h : Ax s) : (Cond.arrayClass .long).before args s = true := SubstrLeaves.arrayClass_alike (Vm.Alike.refl _) h.2.2.1
theorem Ax.o {s : State} {args : Array Value} {C : String} (h : Ax s) (hC : C = RX0 ∨ C = RX3) : (Cond.arrayOver (.object C)).before args s = true := by
  rcases hC with rfl | rfl
  · exact Cond.arrayOver_alike (Vm.Alike.refl _) h.2.2.2.1
  · exact Cond.arrayOver_alike (Vm.Alike.refl _) h.2.2.2.2.1
theorem Ax.a {s : State} {args : Array Value} {t : FieldType} (h : Ax s) (ht : t = .int ∨ t = .boolean ∨ t = .array .int) : (Cond.arrayOver (.array t)).before args s = true := by
  rcases ht with rfl | rfl | rfl
  · exact ax_b (Vm.Alike.refl _) h.2.2.2.2.2.1
  · exact ax_b (Vm.Alike.refl _) h.2.2.2.2.2.2.1
  · exact ax_b (Vm.Alike.refl _) h.2.2.2.2.2.2.2
theorem Ax.c {s : State} {args : Array Value} {t : FieldType} (h : Ax s) (ht : t = .int ∨ t = .boolean) : (Cond.arrayClass t).before args s = true := by
  rcases ht with rfl | rfl
  · exact h.i
  · exact h.z
/-! the judgement -/
def KS (X : Cx) (M : Mi) (ini : Bool) (E : Rm) (p : Program) (R : Room) (s : State) (m : MethodId) (args : Array Value) (meth : Method) (c : Code) : Prop :=
  p.tables.exec = Jvm.exec ∧ c.code = M.2.1 ∧ c.maxLocals = M.2.2.1 ∧ meth.sig.returnType = M.2.2.2 ∧ s.vm.findClass M.1 = some m.cls ∧ (∀ w ∈ TT, w.before args s = true) ∧ meth.locks = false ∧ (ini = true → meth.name = "<init>") ∧ (Ex X s ∧ Ax s) ∧ E.1 ≤ R.frames ∧ E.2.1 ≤ R.locals ∧ E.2.2.1 ≤ R.cells ∧ E.2.2.2 ≤ R.slots
def KY (X : Cx) (M : Mi) (E : Rm) (kc ks : Nat) (L : List (Nat × Value)) (h : Hp) (J : Jt) (n : Nat) (s : State) (H : Heap) (locs : List Loc) (cells slots : Nat) (ls : Array Slot) : Prop :=
  WP X h J n H s ∧ va_S (AA X) s.heap H locs ∧ lv_has ls M.2.2.1 (lmap X L) ∧ cells + kc ≤ E.2.2.1 ∧ slots + ks ≤ E.2.2.2
def GP (X : Cx) (M : Mi) (ini : Bool) (E : Rm) (Q : Qf) (kc ks pc : Nat) (L : List (Nat × Value)) (st : List Value) (h : Hp) (J : Jt) (n : Nat) : Prop :=
  ∀ (p : Program) (l : Launch) (e : Env) (R : Room) (s : State) (m : MethodId) (args : Array Value) (below : List Frame) (meth : Method) (c : Code) (H : Heap) (locs : List Loc) (cells slots : Nat) (ls : Array Slot),
    KS X M ini E p R s m args meth c → KY X M E kc ks L h J n s H locs cells slots ls → W p l e R s m args below meth c H locs cells slots (Q below args s) (F0 m pc ls (st.map (rv X)))
section GP1
variable {X : Cx} {M : Mi} {ini : Bool} {E : Rm} {Q : Qf} {kc ks pc : Nat} {L : List (Nat × Value)} {st : List Value} {h : Hp} {J : Jt} {n : Nat}
theorem p_iconst {z : Int} {v : Int32} (hd : decode M.2.1 pc = .ok (.iconst z, 1)) (hv : Int32.ofInt z = v) (k : GP X M ini E Q kc ks (pc + 1) L (.int v :: st) h J n) : GP X M ini E Q kc ks pc L st h J n := by
  intro p l e R s m args below meth c H locs cells slots ls S Y
  exact lv_iconst S.1 S.2.1 hd hv (k p l e R s m args below meth c H locs cells slots ls S Y)
theorem p_bipush {z : Int} {v : Int32} (hd : decode M.2.1 pc = .ok (.bipush z, 2)) (hv : (Int8.ofInt z).toInt32 = v) (k : GP X M ini E Q kc ks (pc + 2) L (.int v :: st) h J n) : GP X M ini E Q kc ks pc L st h J n := by
  intro p l e R s m args below meth c H locs cells slots ls S Y
  exact lv_bipush S.1 S.2.1 hd hv (k p l e R s m args below meth c H locs cells slots ls S Y)
theorem p_sipush {z : Int} {v : Int32} (hd : decode M.2.1 pc = .ok (.sipush z, 3)) (hv : (Int16.ofInt z).toInt32 = v) (k : GP X M ini E Q kc ks (pc + 3) L (.int v :: st) h J n) : GP X M ini E Q kc ks pc L st h J n := by
  intro p l e R s m args below meth c H locs cells slots ls S Y
  exact lv_sipush S.1 S.2.1 hd hv (k p l e R s m args below meth c H locs cells slots ls S Y)
theorem p_ldc {v : Int32} {ix : Nat} (hd : decode M.2.1 pc = .ok (.ldc ix, 2)) (hc : Cond.constant M.1 ix v ∈ TT) (k : GP X M ini E Q kc ks (pc + 2) L (.int v :: st) h J n) : GP X M ini E Q kc ks pc L st h J n := by
  intro p l e R s m args below meth c H locs cells slots ls S Y
  exact lv_ldc S.1 S.2.1 S.2.2.2.2.1 (S.2.2.2.2.2.1 _ hc) hd (k p l e R s m args below meth c H locs cells slots ls S Y)
theorem p_iload_n (k9 : Nat) {z : Fin 4} {i : Nat} {x : Int32} (hd : decode M.2.1 pc = .ok (.iload_n z, 1)) (hi : (z : Nat) = i) (hl : L[k9]? = some (i, .int x)) (k : GP X M ini E Q kc ks (pc + 1) L (.int x :: st) h J n) : GP X M ini E Q kc ks pc L st h J n := by
  intro p l e R s m args below meth c H locs cells slots ls S Y
  exact lv_iload_n S.1 S.2.1 hd hi (lv_at Y.2.2.1 k9 (lmap_at hl)) (k p l e R s m args below meth c H locs cells slots ls S Y)
theorem p_aload_n (k9 : Nat) {z : Fin 4} {i : Nat} {x : Nat} (hd : decode M.2.1 pc = .ok (.aload_n z, 1)) (hi : (z : Nat) = i) (hl : L[k9]? = some (i, .ref x)) (k : GP X M ini E Q kc ks (pc + 1) L (.ref x :: st) h J n) : GP X M ini E Q kc ks pc L st h J n := by
  intro p l e R s m args below meth c H locs cells slots ls S Y
  exact lv_aload_n S.1 S.2.1 hd hi (lv_at Y.2.2.1 k9 (lmap_at hl)) (k p l e R s m args below meth c H locs cells slots ls S Y)
theorem p_istore {i : Nat} {x : Int32}  {L' : List (Nat × Value)} (hd : decode M.2.1 pc = .ok (.istore i, 2))  (hn : i < M.2.2.1) (hl : sto1 L i (.int x) = L') (k : GP X M ini E Q kc ks (pc + 2) L' st h J n) : GP X M ini E Q kc ks pc L (.int x :: st) h J n := by
  intro p l e R s m args below meth c H locs cells slots ls S Y
  exact lv_istore S.1 S.2.1 hd  Y.2.2.1 hn (by rw [← hl]; exact lmap_sto1 X L i (.int x)) (fun ls' hls => k p l e R s m args below meth c H locs cells slots ls' S ⟨Y.1, Y.2.1, hls, Y.2.2.2⟩)
theorem p_istore_n {i : Nat} {x : Int32} {z : Fin 4} {L' : List (Nat × Value)} (hd : decode M.2.1 pc = .ok (.istore_n z, 1)) (hi : (z : Nat) = i) (hn : i < M.2.2.1) (hl : sto1 L i (.int x) = L') (k : GP X M ini E Q kc ks (pc + 1) L' st h J n) : GP X M ini E Q kc ks pc L (.int x :: st) h J n := by
  intro p l e R s m args below meth c H locs cells slots ls S Y
  exact lv_istore_n S.1 S.2.1 hd hi Y.2.2.1 hn (by rw [← hl]; exact lmap_sto1 X L i (.int x)) (fun ls' hls => k p l e R s m args below meth c H locs cells slots ls' S ⟨Y.1, Y.2.1, hls, Y.2.2.2⟩)
theorem p_astore_n {i : Nat} {x : Nat} {z : Fin 4} {L' : List (Nat × Value)} (hd : decode M.2.1 pc = .ok (.astore_n z, 1)) (hi : (z : Nat) = i) (hn : i < M.2.2.1) (hl : sto1 L i (.ref x) = L') (k : GP X M ini E Q kc ks (pc + 1) L' st h J n) : GP X M ini E Q kc ks pc L (.ref x :: st) h J n := by
  intro p l e R s m args below meth c H locs cells slots ls S Y
  exact lv_astore_n S.1 S.2.1 hd hi Y.2.2.1 hn (by rw [← hl]; exact lmap_sto1 X L i (.ref x)) (fun ls' hls => k p l e R s m args below meth c H locs cells slots ls' S ⟨Y.1, Y.2.1, hls, Y.2.2.2⟩)
theorem p_dup {v : Value} (hd : decode M.2.1 pc = .ok (.dup, 1)) (hc : v.category = 1) (k : GP X M ini E Q kc ks (pc + 1) L (v :: v :: st) h J n) : GP X M ini E Q kc ks pc L (v :: st) h J n := by
  intro p l e R s m args below meth c H locs cells slots ls S Y
  exact lv_dup S.1 S.2.1 hd (by rw [rv_cat]; exact hc) (k p l e R s m args below meth c H locs cells slots ls S Y)
theorem p_goto {off : Int} {tgt : Nat} (hd : decode M.2.1 pc = .ok (.goto off, 3)) (ht : (pc : Int) + off = (tgt : Int)) (k : GP X M ini E Q kc ks tgt L st h J n) : GP X M ini E Q kc ks pc L st h J n := by
  intro p l e R s m args below meth c H locs cells slots ls S Y
  exact lv_goto S.1 S.2.1 hd ht (k p l e R s m args below meth c H locs cells slots ls S Y)
theorem p_sub (is : List Nat) {L' : List (Nat × Value)} (hl : lv_pick L is = L') (k : GP X M ini E Q kc ks pc L' st h J n) : GP X M ini E Q kc ks pc L st h J n := by
  intro p l e R s m args below meth c H locs cells slots ls S Y
  refine k p l e R s m args below meth c H locs cells slots ls S ⟨Y.1, Y.2.1, ?_, Y.2.2.2⟩
  exact lv_sub Y.2.2.1 is (by rw [lmap_pick, hl])
theorem p_less {kc' ks' : Nat} (h1 : kc' ≤ kc) (h2 : ks' ≤ ks) (k : GP X M ini E Q kc' ks' pc L st h J n) : GP X M ini E Q kc ks pc L st h J n := by
  intro p l e R s m args below meth c H locs cells slots ls S Y
  exact k p l e R s m args below meth c H locs cells slots ls S ⟨Y.1, Y.2.1, Y.2.2.1, by have := Y.2.2.2.1; omega, by have := Y.2.2.2.2; omega⟩
theorem p_get (k9 : Nat) {b c ix : Nat} {q : vw_C} {v : Value} {a1 a2 a3 : Nat} (hd : decode M.2.1 pc = .ok (.getfield ix, 3)) (hk : kd b = (0, c, a1, a2, a3)) (hi : idx b < n) (hc : clsL[c]? = some q) (hnf : nf c = q.2.2) (hkn : k9 < q.2.2) (hw : Cond.fieldLink M.1 ix q.1 (q.2.1 k9).2.1 (q.2.1 k9).2.2.1 ∈ TT) (ho : (q.2.1 k9).1 = q.1) (hv : ∀ X, fvalP X h (J b) b c k9 = rv X v)
    (k : GP X M ini E Q kc ks (pc + 3) L (v :: st) h J n) : GP X M ini E Q kc ks pc L (.ref b :: st) h J n := by
  intro p l e R s m args below meth c0 H locs cells slots ls S Y
  have w := Y.1.1 b (kd_lt hk (by decide)) hi
  rw [hk] at w
  refine va_get (C := q.1) (T := q.2.1) (N := q.2.2) (ci := c) (ref := q.1) (k := k9) (q0 := 0) S.1 S.2.1 S.2.2.2.2.2.1 (cls_z hc) S.2.2.2.2.1 Y.1.2.1 (va_one w) rfl hc hkn (S.2.2.2.2.2.1 _ hw) (fun x hx => by rw [ho] at hx; exact hx) (v := rv X v) (by rw [← hv X]; exact rng_at _ _ (by rw [hnf]; exact hkn)) hd ?_
  exact k p l e R s m args below meth c0 H locs cells slots ls S Y
theorem p_alen {b len : Nat} {v : Int32} {a1 a2 a3 : Nat} (hd : decode M.2.1 pc = .ok (.arraylength, 1)) (hk : kd b = (1, len, a1, a2, a3)) (hi : idx b < n) (hv : Int32.ofNat len = v) (k : GP X M ini E Q kc ks (pc + 1) L (.int v :: st) h J n) : GP X M ini E Q kc ks pc L (.ref b :: st) h J n := by
  intro p l e R s m args below meth c0 H locs cells slots ls S Y
  have w := Y.1.1 b (kd_lt hk (by decide)) hi
  rw [hk] at w
  exact va_alen (q0 := 0) (t0 := 0) S.1 S.2.1 Y.1.2.1 (va_one w) rfl (ty := .int) rfl hv hd (k p l e R s m args below meth c0 H locs cells slots ls S Y)
theorem p_alenR {b len : Nat} {v : Int32} {a1 a2 a3 : Nat} {ty : FieldType} (hd : decode M.2.1 pc = .ok (.arraylength, 1)) (hk : kd b = (2, len, a1, a2, a3)) (hi : idx b < n) (ht : ∀ X : Cx, (tyX X)[a3]? = some (X.2.1 a3, ty)) (hv : Int32.ofNat len = v) (k : GP X M ini E Q kc ks (pc + 1) L (.int v :: st) h J n) : GP X M ini E Q kc ks pc L (.ref b :: st) h J n := by
  intro p l e R s m args below meth c0 H locs cells slots ls S Y
  have w := Y.1.1 b (kd_lt hk (by decide)) hi
  rw [hk] at w
  exact va_alen (q0 := 0) (t0 := a3) S.1 S.2.1 Y.1.2.1 (va_one w) rfl (ty := ty) (ht X) hv hd (k p l e R s m args below meth c0 H locs cells slots ls S Y)
theorem p_iast {b len : Nat} {i x : Int32} {a1 a2 a3 : Nat} (hd : decode M.2.1 pc = .ok (.iastore, 1)) (hk : kd b = (1, len, a1, a2, a3)) (hi : idx b < n) (hin : vp_in i len) (k : GP X M ini E Q kc ks (pc + 1) L st (hup h b i.toNatClampNeg x) J n) : GP X M ini E Q kc ks pc L (.int x :: .int i :: .ref b :: st) h J n := by
  intro p l e R s m args below meth c0 H locs cells slots ls S Y
  have hb := kd_lt hk (by decide)
  have w := Y.1.1 b hb hi
  rw [hk] at w
  refine rw_iast (t0 := 0) S.1 S.2.1 Y.1.2.1 w (Y.1.A hb) Y.2.1 rfl hin hd (fun H1 locs1 w1 z o hS => ?_)
  refine k p l e R s m args below meth c0 H1 locs1 cells slots ls S ⟨Y.1.put hb hi (fun q hq => ⟨hup_ne hq, rfl⟩) ?_ z o, hS, Y.2.2⟩
  rw [hk]
  show va_at _ _ (_, Sum.inl (_, _, Sum.inl (hup h b i.toNatClampNeg x b))) _
  rw [hup_self]
  exact w1
theorem fsP_set {c b k9 : Nat} {h' : Hp} {J0 J1 : Nat → Bool} {v : Value} (hn : k9 < nf c) (h1 : fvalP X h' J1 b c k9 = v) (h2 : ∀ j, j ≠ k9 → fvalP X h J0 b c j = fvalP X h' J1 b c j) : ((List.range (nf c)).map (fvalP X h J0 b c)).set k9 v = (List.range (nf c)).map (fvalP X h' J1 b c) := by
  rw [← h1]
  exact rng_set _ (fvalP X h J0 b c) (fvalP X h' J1 b c) hn h2
def fin9 (q : vw_C) (k9 : Nat) (ini : Bool) (own : String) : Prop := (q.2.1 k9).2.2.2 = false ∨ ((q.2.1 k9).2.2.2 = true ∧ ini = true ∧ (q.2.1 k9).1 = own)
theorem fin9.use {q : vw_C} {k9 : Nat} {own : String} {meth : Method} (f : fin9 q k9 ini own) (hi : ini = true → meth.name = "<init>") : (q.2.1 k9).2.2.2 = false ∨ ((q.2.1 k9).2.2.2 = true ∧ meth.name = "<init>" ∧ (q.2.1 k9).1 = own) := by
  rcases f with f | ⟨f1, f2, f3⟩
  · exact Or.inl f
  · exact Or.inr ⟨f1, hi f2, f3⟩
theorem p_put (k9 : Nat) {b c ix : Nat} {q : vw_C} {x : Int32} {ty0 : Nat → FieldType} {a1 a2 a3 : Nat} (hd : decode M.2.1 pc = .ok (.putfield ix, 3)) (hk : kd b = (0, c, a1, a2, a3)) (hi : idx b < n) (hc : clsL[c]? = some q) (hnf : nf c = q.2.2) (hkn : k9 < q.2.2) (hw : Cond.fieldLink M.1 ix q.1 (q.2.1 k9).2.1 (q.2.1 k9).2.2.1 ∈ TT) (ho : (q.2.1 k9).1 = q.1)
    (hty : ∀ k, k < q.2.2 → parseFieldDescriptor (q.2.1 k).2.2.1 = some (ty0 k)) (hnm : ∀ a, a < q.2.2 → ∀ b, b < q.2.2 → a ≠ b → (q.2.1 a).2.1 ≠ (q.2.1 b).2.1) (hfin : fin9 q k9 ini M.1) (hf : fk c k9 ≠ 2) (hty9 : ty0 k9 = tyZ (fk c k9)) (hz : fk c k9 = 1 → x &&& 1 = x)
    (k : GP X M ini E Q kc ks (pc + 3) L st (hup h b k9 x) J n) : GP X M ini E Q kc ks pc L (.int x :: .ref b :: st) h J n := by
  intro p l e R s m args below meth c0 H locs cells slots ls S Y
  have hb := kd_lt hk (by decide)
  have w := Y.1.1 b hb hi
  rw [hk] at w
  have ht9 := hty k9 hkn
  rw [hty9] at ht9
  have hnz : narrow (tyZ (fk c k9)) (.int x) = .int x ∧ fits (tyZ (fk c k9)) (.int x) = true := by
    unfold tyZ
    split
    · rename_i h1
      exact fits_z (hz h1)
    · exact ⟨rfl, rfl⟩
  refine rw_put (C := q.1) (T := q.2.1) (N := q.2.2) (ci := c) (ref := q.1) (k := k9) (v := .int x) S.1 S.2.1 S.2.2.2.2.2.1 (cls_z hc) ty0 hty hnm S.2.2.2.2.1 Y.1.2.1 w (Y.1.A hb) Y.2.1 hc hkn (S.2.2.2.2.2.1 _ hw) (fun x hx => by rw [ho] at hx; exact hx) (hfin.use S.2.2.2.2.2.2.2.1) ht9 hnz.1 hnz.2 (by rw [List.length_map, List.length_range, hnf]; exact hkn) hd (fun H1 locs1 w1 z o hS => ?_)
  refine k p l e R s m args below meth c0 H1 locs1 cells slots ls S ⟨Y.1.put hb hi (fun q hq => ⟨hup_ne hq, rfl⟩) ?_ z o, hS, Y.2.2⟩
  rw [hk]
  rw [fsP_set (X := X) (h := h) (J0 := J b) (J1 := J b) (h' := hup h b k9 x) (by rw [hnf]; exact hkn) ?_ (fun j hj => ?_)] at w1
  · exact w1
  · unfold fvalP
    rw [if_neg hf, hup_self]
    split
    · rename_i h1
      show Value.int (upd (h b) k9 x k9 &&& 1) = _
      rw [show upd (h b) k9 x k9 = x from if_pos rfl, hz h1]
    · show Value.int (upd (h b) k9 x k9) = _
      rw [show upd (h b) k9 x k9 = x from if_pos rfl]
  · unfold fvalP
    rw [hup_self, show upd (h b) k9 x j = h b j from if_neg hj]
def jup (J : Jt) (b k : Nat) : Jt := fun q j => if q = b ∧ j = k then true else J q j
theorem jup_ne {b k q : Nat} (hq : q ≠ b) : jup J b k q = J q := by
  funext j
  unfold jup
  rw [if_neg (fun z => hq z.1)]
theorem jup_eq {b k : Nat} : jup J b k b k = true := by
  unfold jup
  rw [if_pos ⟨rfl, rfl⟩]
theorem jup_o {b k j : Nat} (hj : j ≠ k) : jup J b k b j = J b j := by
  unfold jup
  rw [if_neg (fun z => hj z.2)]
/-- a reference into a field -/
theorem p_putR (k9 : Nat) {b c ix t : Nat} {q : vw_C} {ty0 : Nat → FieldType} {a1 a2 a3 : Nat} (hd : decode M.2.1 pc = .ok (.putfield ix, 3)) (hk : kd b = (0, c, a1, a2, a3)) (hi : idx b < n) (hc : clsL[c]? = some q) (hnf : nf c = q.2.2) (hkn : k9 < q.2.2) (hw : Cond.fieldLink M.1 ix q.1 (q.2.1 k9).2.1 (q.2.1 k9).2.2.1 ∈ TT) (ho : (q.2.1 k9).1 = q.1)
    (hty : ∀ k, k < q.2.2 → parseFieldDescriptor (q.2.1 k).2.2.1 = some (ty0 k)) (hnm : ∀ a, a < q.2.2 → ∀ b, b < q.2.2 → a ≠ b → (q.2.1 a).2.1 ≠ (q.2.1 b).2.1) (hfin : fin9 q k9 ini M.1) (hf : fk c k9 = 2) (hr : (ty0 k9).isReference = true) (ht : tg b k9 = t)
    (k : GP X M ini E Q kc ks (pc + 3) L st h (jup J b k9) n) : GP X M ini E Q kc ks pc L (.ref t :: .ref b :: st) h J n := by
  intro p l e R s m args below meth c0 H locs cells slots ls S Y
  have hb := kd_lt hk (by decide)
  have w := Y.1.1 b hb hi
  rw [hk] at w
  have hnz : narrow (ty0 k9) (.ref (X.2.2.1 t)) = .ref (X.2.2.1 t) ∧ fits (ty0 k9) (.ref (X.2.2.1 t)) = true := by
    cases hq : ty0 k9 <;> rw [hq] at hr <;> first | exact ⟨rfl, rfl⟩ | exact absurd hr (by decide)
  refine rw_put (C := q.1) (T := q.2.1) (N := q.2.2) (ci := c) (ref := q.1) (k := k9) (v := .ref (X.2.2.1 t)) S.1 S.2.1 S.2.2.2.2.2.1 (cls_z hc) ty0 hty hnm S.2.2.2.2.1 Y.1.2.1 w (Y.1.A hb) Y.2.1 hc hkn (S.2.2.2.2.2.1 _ hw) (fun x hx => by rw [ho] at hx; exact hx) (hfin.use S.2.2.2.2.2.2.2.1) (hty k9 hkn) hnz.1 hnz.2 (by rw [List.length_map, List.length_range, hnf]; exact hkn) hd (fun H1 locs1 w1 z o hS => ?_)
  refine k p l e R s m args below meth c0 H1 locs1 cells slots ls S ⟨Y.1.put hb hi (fun q hq => ⟨rfl, jup_ne hq⟩) ?_ z o, hS, Y.2.2⟩
  rw [hk]
  rw [fsP_set (X := X) (h := h) (J0 := J b) (J1 := jup J b k9 b) (h' := h) (by rw [hnf]; exact hkn) ?_ (fun j hj => ?_)] at w1
  · exact w1
  · unfold fvalP
    rw [if_pos hf, if_pos jup_eq, ht]
  · unfold fvalP
    rw [jup_o hj]
/-- a reference into a row of references -/
theorem p_aast {b len t ci : Nat} {i : Int32} {a1 a2 a3 : Nat} {r : vw_C} {z1 z2 z3 : Nat} (hd : decode M.2.1 pc = .ok (.aastore, 1)) (hk : kd b = (2, len, a1, a2, a3)) (hi : idx b < n) (hin : vp_in i len) (hty : ∀ X : Cx, (tyX X)[a3]? = some (X.2.1 a3, .object r.1)) (hkt : kd t = (0, ci, z1, z2, z3)) (hit : idx t < n) (hc : clsL[ci]? = some r) (ht : a1 + a2 * i.toNatClampNeg = t)
    (k : GP X M ini E Q kc ks (pc + 1) L st h (jup J b i.toNatClampNeg) n) : GP X M ini E Q kc ks pc L (.ref t :: .int i :: .ref b :: st) h J n := by
  intro p l e R s m args below meth c0 H locs cells slots ls S Y
  have hb := kd_lt hk (by decide)
  have w := Y.1.1 b hb hi
  rw [hk] at w
  have wt := Y.1.1 t (kd_lt hkt (by decide)) hit
  rw [hkt] at wt
  have hlt : i.toNatClampNeg < len := Nat.not_le.mp fun q => hin (Or.inr q)
  refine rw_aast (t0 := a3) (ci := ci) (r := r) S.1 S.2.1 Y.1.2.1 w (Y.1.A hb) Y.2.1 (hty X) wt hc hin hd (fun H1 locs1 w1 z o hS => ?_)
  refine k p l e R s m args below meth c0 H1 locs1 cells slots ls S ⟨Y.1.put hb hi (fun q hq => ⟨rfl, jup_ne hq⟩) ?_ z o, hS, Y.2.2⟩
  rw [hk]
  have ef : va_up (fun j => if j < len then (if J b j = true then some (X.2.2.1 (a1 + a2 * j)) else none) else none) i.toNatClampNeg (some (X.2.2.1 t)) = fun j => if j < len then (if jup J b i.toNatClampNeg b j = true then some (X.2.2.1 (a1 + a2 * j)) else none) else none := by
    funext j
    unfold va_up
    by_cases hj : j = i.toNatClampNeg
    · rw [if_pos hj, hj, if_pos hlt, if_pos jup_eq, ht]
    · rw [if_neg hj, jup_o hj]
  rw [ef] at w1
  exact w1
/-- a new object -/
theorem p_new {b c ix : Nat} {q : vw_C} {ty0 : Nat → FieldType} {a1 a2 a3 N : Nat} (hd : decode M.2.1 pc = .ok (.new ix, 3)) (hk : kd b = (0, c, a1, a2, a3)) (hi : idx b = n) (hc : clsL[c]? = some q) (hN : q.2.2 = N) (hnf : nf c = q.2.2) (hty : ∀ k, k < q.2.2 → parseFieldDescriptor (q.2.1 k).2.2.1 = some (ty0 k)) (hdf : ∀ j, j < q.2.2 → defaultValue (ty0 j) = if fk c j = 2 then .null else .int 0) (hJ : ∀ k, J b k = false)
    (hcl : Cond.classLink M.1 ix q.1 ∈ TT) (hins : Cond.instantiable q.1 q.2.2 ∈ TT) (hini : Cond.initialized q.1 ∈ TT) (k : GP X M ini E Q kc ks (pc + 3) L (.ref b :: st) h J (n + 1)) : GP X M ini E Q (kc + 1) (ks + N) pc L st h J n := by
  intro p l e R s m args below meth c0 H locs cells slots ls S Y
  subst hN
  have hb := kd_lt hk (by decide)
  have y1 := Y.2.2.2.1
  have y2 := Y.2.2.2.2
  have s1 := S.2.2.2.2.2.2.2.2.2.2.2.1
  have s2 := S.2.2.2.2.2.2.2.2.2.2.2.2
  have hKn := Y.1.2.1.1 c _ hc
  have hsz := Y.1.2.2.1
  have hS := Y.2.1
  refine W.newcK S.1 S.2.1 S.2.2.2.2.1 (S.2.2.2.2.2.1 _ hcl) (S.2.2.2.2.2.1 _ hins) (S.2.2.2.2.2.1 _ hini) rfl hd (by omega) (by omega) hKn.2.1 rfl fun H1 kC hkC e1 z1 o1 => ?_
  have hX : X.2.2.1 b = H.size := by rw [Y.1.2.2.2.2 b hb, hi, hsz]
  have h0 : h b = fun _ => 0 := Y.1.2.2.2.1 b (by omega)
  show W p l e R s m args below meth c0 H1 locs (cells + 1) (slots + q.2.2) (Q below args s) (F0 m (pc + 3) ls (.ref H.size :: st.map (rv X)))
  rw [← hX]
  refine k p l e R s m args below meth c0 H1 locs (cells + 1) (slots + q.2.2) ls S ⟨Y.1.new hb hi ?_ z1 o1, ⟨Nat.le_trans hS.1 (by omega), fun x h1 h2 => (o1 x (Nat.lt_of_lt_of_le h1 hS.1)).trans (hS.2.1 x h1 h2), hS.2.2⟩, Y.2.2.1, by omega, by omega⟩
  rw [hk, hX]
  refine ⟨_, hc, (u_born ty0 S.2.2.2.2.2.1 (cls_z hc) hKn hkC e1 hty).to (fun j hj => ?_)⟩
  rw [hdf j hj]
  show _ = ((List.range (nf c)).map (fvalP X h (J b) b c)).getD j .null
  rw [List.getD_eq_getElem?_getD, rng_at _ _ (by rw [hnf]; exact hj)]
  show _ = fvalP X h (J b) b c j
  unfold fvalP
  rw [h0, hJ j]
  by_cases c2 : fk c j = 2
  · rw [if_pos c2, if_pos c2, if_neg (by decide)]
  · rw [if_neg c2, if_neg c2]
    split
    · show Value.int 0 = Value.int ((0 : Int32) &&& 1)
      rw [b01]
    · rfl
/-- a new row of ints -/
theorem p_newa {b len : Nat} {v : Int32} {a1 a2 a3 : Nat} (hd : decode M.2.1 pc = .ok (.newarray .int, 2)) (hk : kd b = (1, len, a1, a2, a3)) (hi : idx b = n) (hv : v = nI len) (hlen : len ≤ 134217728) (k : GP X M ini E Q kc ks (pc + 2) L (.ref b :: st) h J (n + 1)) : GP X M ini E Q (kc + 1) (ks + len) pc L (.int v :: st) h J n := by
  intro p l e R s m args below meth c0 H locs cells slots ls S Y
  subst hv
  have hb := kd_lt hk (by decide)
  have y1 := Y.2.2.2.1
  have y2 := Y.2.2.2.2
  have s1 := S.2.2.2.2.2.2.2.2.2.2.2.1
  have s2 := S.2.2.2.2.2.2.2.2.2.2.2.2
  have hsz := Y.1.2.2.1
  have hS := Y.2.1
  have hX : X.2.2.1 b = H.size := by rw [Y.1.2.2.2.2 b hb, hi, hsz]
  have h0 : h b = fun _ => 0 := Y.1.2.2.2.1 b (by omega)
  refine va_newaK (atype := .int) (N := len) S.1 S.2.1 S.2.2.2.2.2.2.2.2.1.2.i rfl hd rfl (nI_pos (by omega)) (nI_clamp (by omega)) (by show len * 4 ≤ _; omega) (by omega) (by omega) rfl fun H1 cA e1 z1 o1 hAr hNm => ?_
  have hcA : cA = X.2.1 0 := by
    have h1 := (Y.1.2.1.2 0 (X.2.1 0, .int) rfl).2
    have h2 : s.vm.findClass ("[" ++ FieldType.int.toString) = some (X.2.1 0) := h1
    exact Option.some.inj (hNm.symm.trans h2)
  subst hcA
  show W p l e R s m args below meth c0 H1 locs (cells + 1) (slots + len) (Q below args s) (F0 m (pc + 2) ls (.ref H.size :: st.map (rv X)))
  rw [← hX]
  refine k p l e R s m args below meth c0 H1 locs (cells + 1) (slots + len) ls S ⟨Y.1.new hb hi ?_ z1 o1, ⟨Nat.le_trans hS.1 (by omega), fun x h1 h2 => (o1 x (Nat.lt_of_lt_of_le h1 hS.1)).trans (hS.2.1 x h1 h2), hS.2.2⟩, Y.2.2.1, by omega, by omega⟩
  rw [hk, hX]
  show H1[H.size]? = some (vp_cell (X.2.1 0) (len, .inl (h b)))
  rw [h0, vp_cell_i]
  exact e1
/-- a new row of longs -/
theorem p_newl {b len : Nat} {v : Int32} {a1 a2 a3 : Nat} (hd : decode M.2.1 pc = .ok (.newarray .long, 2)) (hk : kd b = (4, len, a1, a2, a3)) (hi : idx b = n) (hv : v = nI len) (hlen : len ≤ 67108864) (k : GP X M ini E Q kc ks (pc + 2) L (.ref b :: st) h J (n + 1)) : GP X M ini E Q (kc + 1) (ks + len) pc L (.int v :: st) h J n := by
  intro p l e R s m args below meth c0 H locs cells slots ls S Y
  subst hv
  have hb := kd_lt hk (by decide)
  have y1 := Y.2.2.2.1
  have y2 := Y.2.2.2.2
  have s1 := S.2.2.2.2.2.2.2.2.2.2.2.1
  have s2 := S.2.2.2.2.2.2.2.2.2.2.2.2
  have hsz := Y.1.2.2.1
  have hS := Y.2.1
  have hX : X.2.2.1 b = H.size := by rw [Y.1.2.2.2.2 b hb, hi, hsz]
  have h0 : h b = fun _ => 0 := Y.1.2.2.2.1 b (by omega)
  refine va_newaK (atype := .long) (N := len) S.1 S.2.1 S.2.2.2.2.2.2.2.2.1.2.l rfl hd rfl (nI_pos (by omega)) (nI_clamp (by omega)) (by show len * 8 ≤ _; omega) (by omega) (by omega) rfl fun H1 cA e1 z1 o1 hAr hNm => ?_
  have hcA : cA = X.2.1 2 := by
    have h1 := (Y.1.2.1.2 2 (X.2.1 2, .long) rfl).2
    have h2 : s.vm.findClass ("[" ++ FieldType.long.toString) = some (X.2.1 2) := h1
    exact Option.some.inj (hNm.symm.trans h2)
  subst hcA
  show W p l e R s m args below meth c0 H1 locs (cells + 1) (slots + len) (Q below args s) (F0 m (pc + 2) ls (.ref H.size :: st.map (rv X)))
  rw [← hX]
  refine k p l e R s m args below meth c0 H1 locs (cells + 1) (slots + len) ls S ⟨Y.1.new hb hi ?_ z1 o1, ⟨Nat.le_trans hS.1 (by omega), fun x h1 h2 => (o1 x (Nat.lt_of_lt_of_le h1 hS.1)).trans (hS.2.1 x h1 h2), hS.2.2⟩, Y.2.2.1, by omega, by omega⟩
  rw [hk, hX]
  show H1[H.size]? = some (vp_cell (X.2.1 2) (len, .inr (.inl (fun j => (h b j).toInt64))))
  rw [h0, vp_cell_l]
  exact e1
/-- a new row of references, all null -/
theorem p_newq {b len ix : Nat} {C : String} {v : Int32} {a1 a2 a3 : Nat} (hd : decode M.2.1 pc = .ok (.anewarray ix, 3)) (hk : kd b = (2, len, a1, a2, a3)) (hi : idx b = n) (hv : v = nI len) (hlen : len ≤ 134217728) (hty : ∀ X : Cx, (tyX X)[a3]? = some (X.2.1 a3, .object C)) (hcl : Cond.classLink M.1 ix C ∈ TT) (hC : C = RX0 ∨ C = RX3) (hJ : ∀ k, J b k = false) (k : GP X M ini E Q kc ks (pc + 3) L (.ref b :: st) h J (n + 1)) : GP X M ini E Q (kc + 1) (ks + len) pc L (.int v :: st) h J n := by
  intro p l e R s m args below meth c0 H locs cells slots ls S Y
  subst hv
  have hb := kd_lt hk (by decide)
  have y1 := Y.2.2.2.1
  have y2 := Y.2.2.2.2
  have s1 := S.2.2.2.2.2.2.2.2.2.2.2.1
  have s2 := S.2.2.2.2.2.2.2.2.2.2.2.2
  have hsz := Y.1.2.2.1
  have hS := Y.2.1
  have hcl9 : (nI len).toNatClampNeg = len := nI_clamp (by omega)
  have hX : X.2.2.1 b = H.size := by rw [Y.1.2.2.2.2 b hb, hi, hsz]
  refine W.anew S.1 S.2.1 S.2.2.2.2.1 (S.2.2.2.2.2.1 _ hcl) (S.2.2.2.2.2.2.2.2.1.2.o hC) rfl hd rfl (nI_pos (by omega)) (by rw [hcl9]; omega) (by omega) (by rw [hcl9]; omega) fun cA kA comp f1 f2 f3 f4 => ?_
  rw [hcl9]
  generalize hH1 : H.push ({ cls := cA, slots := Array.replicate len .null, vm := .none } : Cell) = H1
  have z1 : H1.size = H.size + 1 := by rw [← hH1, Array.size_push]
  have e1 : H1[H.size]? = some (arrV cA len (fun _ => .null)) := by rw [← hH1, Array.getElem?_push_size, ← arrV_new]
  have o1 : ∀ q : Nat, q < H.size → H1[q]? = H[q]? := fun q hq => by rw [← hH1, Array.getElem?_push, if_neg (Nat.ne_of_lt hq)]
  have hcA : cA = X.2.1 a3 := by
    obtain ⟨kA', comp', k1, k2, k3, k4⟩ := (Y.1.2.1.2 a3 (X.2.1 a3, .object C) (hty X)).2
    exact Option.some.inj (f1.symm.trans k4)
  subst hcA
  show W p l e R s m args below meth c0 H1 locs (cells + 1) (slots + len) (Q below args s) (F0 m (pc + 3) ls (.ref H.size :: st.map (rv X)))
  rw [← hX]
  refine k p l e R s m args below meth c0 H1 locs (cells + 1) (slots + len) ls S ⟨Y.1.new hb hi ?_ z1 o1, ⟨Nat.le_trans hS.1 (by omega), fun x h1 h2 => (o1 x (Nat.lt_of_lt_of_le h1 hS.1)).trans (hS.2.1 x h1 h2), hS.2.2⟩, Y.2.2.1, by omega, by omega⟩
  rw [hk, hX]
  show H1[H.size]? = some (vp_cell (X.2.1 a3) (len, .inr (.inr (.inr (.inr (fun j => if j < len then (if J b j = true then some (X.2.2.1 (a1 + a2 * j)) else none) else none))))))
  have ef : (fun j => if j < len then (if J b j = true then some (X.2.2.1 (a1 + a2 * j)) else none) else none) = fun _ => (none : Option Nat) := by
    funext j
    rw [hJ j]
    simp
  rw [ef, vp_cell_q]
  exact e1
theorem p_objInit {b ix : Nat} (hd : decode M.2.1 pc = .ok (.invokespecial ix, 3)) (hl : Cond.methodLink M.1 ix Lib.objectInit ∈ TT) (hi : Cond.instanceMethod Lib.objectInit ∈ TT) (hc : Cond.code Lib.objectInit ⟨#[0xb1]⟩ 1 none ∈ TT) (hE : 1 ≤ E.1 ∧ 20 ≤ E.2.1) (hst : st = []) (k : GP X M ini E Q kc ks (pc + 3) L st h J n) : GP X M ini E Q kc ks pc L (.ref b :: st) h J n := by
  intro p l e R s m args below meth c0 H locs cells slots ls S Y
  subst hst
  have s1 := S.2.2.2.2.2.2.2.2.2.1
  have s2 := S.2.2.2.2.2.2.2.2.2.2.1
  refine W.objInit S.1 S.2.1 S.2.2.2.2.1 (S.2.2.2.2.2.1 _ hl) (S.2.2.2.2.2.1 _ hi) (S.2.2.2.2.2.1 _ hc) rfl (Y.2.2.1.1.trans S.2.2.1.symm) rfl hd (by omega) (by show 2 * 0 + 0 + 12 ≤ _; omega) ?_
  exact k p l e R s m args below meth c0 H locs cells slots ls S Y
end GP1
