/-! contracts, ends, throws, calls -/
def Qm (X : Cx) (Qr : Option Value → Hp → Prop) : Array Value → State → Outcome → State → Prop := fun _ st oc t => (∃ (r : Option Value) (h' : Hp), oc = .returned (r.map (rv X)) ∧ Qr r h' ∧ Wd X h' t.heap t) ∧ va_F (AA X) st t
def Xm (X : Cx) (Qx : String → Hp → Prop) : String → State → State → Prop := fun E st t => (∃ h' : Hp, Qx E h' ∧ Wd X h' t.heap t) ∧ va_F (AA X) st t
def Pm (X : Cx) (av : List Value) (h : Hp) : Array Value → State → Prop := va_Pc (av.map (rv X)) (fun U => Wd X h U.heap U ∧ Ex X U)
def rmOf (fr lo mc : Nat) : Room := { frames := fr, cells := mc, slots := 6 * mc, locals := lo }
/-- a method's contract -/
def Con (X : Cx) (y : MethodName) (M : Mi) (fr lo mc : Nat) (av : List Value) (h : Hp) (Qr : Option Value → Hp → Prop) (Qx : String → Hp → Prop) : Prop :=
  ∀ l : Launch, l.stackTraces = false → vx_Met l y [.code y M.2.1 M.2.2.1 M.2.2.2] (rmOf fr lo mc) (Pm X av h) (Qm X Qr) (Xm X Qx) mc (6 * mc) (AA X)
def QM (X : Cx) (E : Rm) (Qr : Option Value → Hp → Prop) (Qx : String → Hp → Prop) : Qf := fun below args s => vx_MQ below (Qm X Qr) (Xm X Qx) args s E.2.2.1 E.2.2.2 (AA X)
theorem lmap_args (X : Cx) : ∀ (av : List Value) (i : Nat), lv_args i (av.map (rv X)) = lmap X (lv_args i av)
  | [], _ => rfl
  | v :: av, i => by
    show (i, rv X v) :: lv_args (if (rv X v).category = 2 then i + 2 else i + 1) (av.map (rv X)) = (i, rv X v) :: lmap X (lv_args (if v.category = 2 then i + 2 else i + 1) av)
    rw [rv_cat, lmap_args X av]
theorem pm_blind {X : Cx} {av : List Value} {h : Hp} : FrameBlind (Pm X av h) := by
  intro a U g mk hp
  obtain ⟨h1, h2, h3⟩ := hp
  exact ⟨h1, h2.moved (Vm.Alike.refl _), h3.same rfl rfl⟩
theorem con_of {X : Cx} {y : MethodName} {M : Mi} {fr lo mc : Nat} {av : List Value} {h : Hp} {Qr : Option Value → Hp → Prop} {Qx : String → Hp → Prop} (hy : plainName y.cls = true) (hown : M.1 = y.cls) (hn : (lg_sl (av.map (rv X))).length ≤ M.2.2.1)
    (hg : G X M (fr, lo, mc, 6 * mc) (QM X (fr, lo, mc, 6 * mc) Qr Qx) mc 0 (lv_args 0 av) [] h) : Con X y M fr lo mc av h Qr Qx := by
  intro l hl
  refine vx_ofW (cc := M.2.1) (maxL := M.2.2.1) (ret := M.2.2.2) hy rfl ?_
  intro p e s m args below meth c s₁ B hml htab hP
  obtain ⟨rfl, hW, hE⟩ := hP
  rw [lg_entry_eq]
  have hl2 := lv_entry (av.map (rv X)) (n := M.2.2.1) hn
  rw [lmap_args] at hl2
  exact hg p l e (headSpec [.code y M.2.1 M.2.2.1 M.2.2.2] (rmOf fr lo mc)).room s m _ below meth c s.heap [] 0 0 _
    ⟨B.exec, B.bytes, hml, B.returns, by rw [hown]; exact findClass_of_methodNamed B.named, fun w hw => va_Nw.use (tt_tab hw) (hE.2.2.2.2.2 w hw), B.notSynchronized, htab, hl, hE, Nat.le_refl _, Nat.le_refl _, Nat.le_refl _, Nat.le_refl _⟩
    ⟨hW, va_S.rf, hl2, by show 0 + mc ≤ mc; omega, by show 0 + 6 * mc ≤ 6 * mc; omega⟩
section ZR
variable {p : Program} {l : Launch} {e : Env} {R : Room} {s : State} {m : MethodId} {args : Array Value} {below : List Frame} {meth : Method} {c : Code} {H : Heap} {locs : List Loc} {cells slots : Nat}
theorem zretN {cc : ByteArray} {Qc : Array Value → State → Outcome → State → Prop} {free : Addr → Prop} {v : Int32} (hexec : p.tables.exec = Jvm.exec) (hb : c.code = cc) (hr : meth.sig.returnType = some .boolean)
    (hq : ∀ t : State, t.heap = H → s.WarmedH t.vm → Qc args s (.returned (some (.int (v &&& 1)))) t) (hf : ∀ q ∈ locs, free q.base)
    {pc : Nat} {ls : Array Slot} (hdg : decode cc pc = .ok (.ireturn, 1)) (hlocks : meth.locks = false) : W p l e R s m args below meth c H locs cells slots (MQ below Qc args s cells slots free) (F0 m pc ls [.int v]) := by
  intro T hT X
  obtain ⟨fs, hret, hrun, hended, hW, hframe⟩ := X.leave (v := some (.int (v &&& 1))) (fun h => by rw [hr] at h; cases h)
  have hmeth' : T.vm.method? m = some meth := X.method'
  refine ⟨T.setFrames fs, ?_, .returned (some (.int (v &&& 1))), hrun, hended, hq _ hT hW, locs, ⟨⟨_, rfl⟩, hW, hframe⟩, hf⟩
  jvm_step X.here [X.here.top, hexec, hb, hdg, hmeth', hr, narrow]
  (try refine ⟨rfl, ?_⟩); (try refine ⟨rfl, ?_⟩)
  first | (intro acts; rw [hret _ acts rfl rfl rfl]) | rw [hret _ _ rfl rfl rfl]
  exact Steps.refl _
end ZR
section GC
variable {X : Cx} {M : Mi} {E : Rm} {Q : Qf} {kc pc : Nat} {L : List (Nat × Value)} {st : List Value} {h : Hp} {Qr : Option Value → Hp → Prop} {Qx : String → Hp → Prop}
theorem qm_ret {r : Option Value} {s t : State} {H : Heap} {locs : List Loc} {args : Array Value} (hW : Wd X h H s) (hS : va_S (AA X) s.heap H locs) (hq : Qr r h) (ht : t.heap = H) (hw : s.WarmedH t.vm) : Qm X Qr args s (.returned (r.map (rv X))) t := by
  refine ⟨⟨r, h, rfl, hq, ?_⟩, hS.F ht⟩
  rw [ht]
  exact hW.moved hw.alike
theorem g_iret {v : Int32} (hd : decode M.2.1 pc = .ok (.ireturn, 1)) (hr : M.2.2.2 = some .int) (hq : Qr (some (.int v)) h) : G X M E (QM X E Qr Qx) kc pc L [.int v] h := by
  intro p l e R s m args below meth c H locs cells slots ls S Y
  have hlocks : meth.locks = false := S.2.2.2.2.2.2.1
  refine W.widen (k := E.2.2.1) (n := E.2.2.2) (by have := Y.2.2.2.1; omega) (by have := Y.2.2.2.2; omega) (vx_ret (W.iret S.1 S.2.1 (S.2.2.2.1.trans hr) (fun t ht hW => qm_ret (r := some (.int v)) Y.1 Y.2.1 hq ht hW) Y.2.1.2.2 hd))
theorem g_zret {v : Int32} (hd : decode M.2.1 pc = .ok (.ireturn, 1)) (hr : M.2.2.2 = some .boolean) (hq : Qr (some (.int (v &&& 1))) h) : G X M E (QM X E Qr Qx) kc pc L [.int v] h := by
  intro p l e R s m args below meth c H locs cells slots ls S Y
  have hlocks : meth.locks = false := S.2.2.2.2.2.2.1
  refine W.widen (k := E.2.2.1) (n := E.2.2.2) (by have := Y.2.2.2.1; omega) (by have := Y.2.2.2.2; omega) (vx_ret (zretN S.1 S.2.1 (S.2.2.2.1.trans hr) (fun t ht hW => qm_ret (r := some (.int (v &&& 1))) Y.1 Y.2.1 hq ht hW) Y.2.1.2.2 hd hlocks))
theorem g_lret {v : Int64} (hd : decode M.2.1 pc = .ok (.lreturn, 1)) (hr : M.2.2.2 = some .long) (hq : Qr (some (.long v)) h) : G X M E (QM X E Qr Qx) kc pc L [.long v] h := by
  intro p l e R s m args below meth c H locs cells slots ls S Y
  have hlocks : meth.locks = false := S.2.2.2.2.2.2.1
  refine W.widen (k := E.2.2.1) (n := E.2.2.2) (by have := Y.2.2.2.1; omega) (by have := Y.2.2.2.2; omega) (vx_ret (W.lret S.1 S.2.1 (S.2.2.2.1.trans hr) (fun t ht hW => qm_ret (r := some (.long v)) Y.1 Y.2.1 hq ht hW) Y.2.1.2.2 hd))
theorem g_aret {v : Value} {n : String} (hd : decode M.2.1 pc = .ok (.areturn, 1)) (hr : M.2.2.2 = some (.object n)) (hv : v = .null ∨ ∃ a, v = .ref a) (hq : Qr (some v) h) : G X M E (QM X E Qr Qx) kc pc L [v] h := by
  intro p l e R s m args below meth c H locs cells slots ls S Y
  have hlocks : meth.locks = false := S.2.2.2.2.2.2.1
  have hv2 : rv X v = .null ∨ ∃ a, rv X v = .ref a := by
    rcases hv with rfl | ⟨a, rfl⟩
    · exact Or.inl rfl
    · exact Or.inr ⟨_, rfl⟩
  refine W.widen (k := E.2.2.1) (n := E.2.2.2) (by have := Y.2.2.2.1; omega) (by have := Y.2.2.2.2; omega) (vx_ret (W.aret S.1 S.2.1 (S.2.2.2.1.trans hr) (Or.inl ⟨n, rfl⟩) hv2 (fun t ht hW => qm_ret (r := some v) Y.1 Y.2.1 hq ht hW) Y.2.1.2.2 hd))
theorem g_vret (hd : decode M.2.1 pc = .ok (.return_, 1)) (hr : M.2.2.2 = none) (hq : Qr none h) : G X M E (QM X E Qr Qx) kc pc L [] h := by
  intro p l e R s m args below meth c H locs cells slots ls S Y
  have hlocks : meth.locks = false := S.2.2.2.2.2.2.1
  refine W.widen (k := E.2.2.1) (n := E.2.2.2) (by have := Y.2.2.2.1; omega) (by have := Y.2.2.2.2; omega) (vx_ret (W.vret S.1 S.2.1 (S.2.2.2.1.trans hr) (fun t ht hW => qm_ret (r := none) Y.1 Y.2.1 hq ht hW) Y.2.1.2.2 hd))
/-- an exception of the class C over the frame -/
def GX (X : Cx) (M : Mi) (E : Rm) (Q : Qf) (kc pc : Nat) (L : List (Nat × Value)) (st : List Value) (h : Hp) (C : String) : Prop :=
  ∀ (p : Program) (l : Launch) (e : Env) (R : Room) (s : State) (m : MethodId) (args : Array Value) (below : List Frame) (meth : Method) (c : Code) (H : Heap) (locs : List Loc) (cells slots : Nat) (ls : Array Slot) (ce : Cell) (q9 : Addr),
    Cs X M E p l R s m args meth c → Cy X M E kc L h s H locs cells slots ls → H[q9]? = some ce → ce.vm = .none → s.vm.findClass C = some ce.cls → vx_W p l e R s m args below meth c H locs cells slots (Q below args s) (F0 m pc ls (st.map (rv X))) q9
theorem gx_out {C : String} (hq : Qx C h) : GX X M E (QM X E Qr Qx) kc pc L st h C := by
  intro p l e R s m args below meth c H locs cells slots ls ce q9 S Y h1 h2 h3
  refine vx_out (fun x hx => absurd hx (S.2.2.2.2.2.2.2.1 x)) S.2.2.2.2.2.2.1 h1 h2 h3 (fun t ht hA => ⟨⟨h, hq, ?_⟩, Y.2.1.F ht⟩) Y.2.1.2.2 (by have := Y.2.2.2.1; omega) (by have := Y.2.2.2.2; omega)
  rw [ht]
  exact Y.1.moved hA
/-- throw new C(text) -/
theorem g_throwS (i : Nat) {C tx : String} {ik is ic : Nat} (names : List String) (hnm : names = ["java/lang/RuntimeException", "java/lang/Exception"]) (hcls : Bundle.fit C = true) (hn : ∀ n ∈ names, Bundle.fit n = true) (hi : strL[i]? = some (M.1, is, tx))
    (hk : Cond.classLink M.1 ik C ∈ TT) (hini : Cond.initialized C ∈ TT) (hat : ∀ w ∈ vx_atS M.1 ic C names, w ∈ TT)
    (d0 : decode M.2.1 pc = .ok (.new ik, 3)) (d3 : decode M.2.1 (pc + 3) = .ok (.dup, 1)) (d4 : decode M.2.1 (pc + 4) = .ok (.ldc is, 2)) (d6 : decode M.2.1 (pc + 6) = .ok (.invokespecial ic, 3)) (d9 : decode M.2.1 (pc + 9) = .ok (.athrow, 1))
    (hfr : 6 ≤ E.1) (hlo : 82 ≤ E.2.1) (hq : Qx C h) : G X M E (QM X E Qr Qx) (kc + 1) pc L [] h := by
  intro p l e R s m args below meth c H locs cells slots ls S Y
  have hSf := S.2.2.2.2.2.2.2.2.2.2
  subst hnm
  have y1 := Y.2.2.2.1
  have y2 := Y.2.2.2.2
  refine vx_throwS (A := AA X) S.1 S.2.1 S.2.2.2.2.2.2.2.2.1 S.2.2.2.2.1 hcls hn (S.2.2.2.2.2.1 _ hk) (S.2.2.2.2.2.1 _ hini) (S.2.2.2.2.2.2.2.2.2.1.2.2.1 i _ hi) (fun w hw => S.2.2.2.2.2.1 w (hat w hw)) (fun w hw => ?_) S.2.2.2.2.2.2.2.2.2.1.2.2.2.1.1 S.2.2.2.2.2.2.2.2.2.1.2.2.2.1.2.1 Y.2.1 (Y.2.2.1.1.trans S.2.2.1.symm) d0 d3 d4 d6 d9 (fun x hx => absurd hx (S.2.2.2.2.2.2.2.1 x)) (by show 2 + 3 < R.frames; omega) (by show 0 + (13 * (2 + 1) + 43) ≤ R.locals; omega) (by omega) (by omega) S.2.2.2.2.2.2.1 (fun t hA hz hs => ⟨⟨h, hq, ?_⟩, ?_⟩) Y.2.1.2.2 (by omega) (by omega)
  · have h9 : w ∈ TT := by
      rcases List.mem_cons.mp hw with rfl | hw
      · exact hk
      · rcases List.mem_cons.mp hw with rfl | hw
        · exact hini
        · exact hat w hw
    unfold vx_ot
    rw [tt_tab h9]
    rfl
  · exact ⟨Y.1.1.kept (fun k q hq => hs q.1 ((Y.1.1 k q hq).lt)), va_K.moved hA Y.1.2.1, Y.1.2.2⟩
  · exact ⟨Nat.le_trans Y.2.1.1 hz, fun q h1 h2 => (hs q (Nat.lt_of_lt_of_le h1 Y.2.1.1)).trans (Y.2.1.2.1 q h1 h2)⟩
/-- behind a run of a callee -/
theorem g_run {p : Program} {l : Launch} {e : Env} {R : Room} {s : State} {m : MethodId} {args : Array Value} {below : List Frame} {meth : Method} {c : Code} {H : Heap} {locs : List Loc} {cells slots : Nat} {ls : Array Slot} {mc : Nat} {a : Array Value} {st0 : List Value} {Qr1 : Option Value → Hp → Prop} {Qx1 : String → Hp → Prop}
    (S : Cs X M E p l R s m args meth c) (Y : Cy X M E (kc + mc) L h s H locs cells slots ls)
    (hr : vx_Run p l e R s m args below meth c H locs cells slots mc (6 * mc) (F0 m pc ls st0) (st.map (rv X)) (Qm X Qr1 a) (Xm X Qx1) (AA X))
    (kx : ∀ C h', Qx1 C h' → GX X M E Q kc pc L st h' C) (kk : ∀ r h', Qr1 r h' → G X M E Q kc (pc + 3) L (r.toList ++ st) h') :
    W p l e R s m args below meth c H locs cells slots (Q below args s) (F0 m pc ls st0) := by
  intro T hT XS
  have hA : ∀ q, q < H.size → AA X q → AA X q := fun _ _ h => h
  have y1 := Y.2.2.2.1
  have y2 := Y.2.2.2.2
  rcases hr T hT XS with ⟨v, st₀, t, T', L9, h0, X', hL, e1, e2, ⟨⟨r, h', hv, hp, hb⟩, hF⟩, st9⟩ | ⟨q, st₀, t, T', L9, C, ce, h0, X', hL, e1, e2, ⟨⟨h', hp, hb⟩, hF⟩, hce, hcv, hcl, st9⟩
  · have hv2 : v = r.map (rv X) := Outcome.returned.inj hv
    subst hv2
    obtain ⟨k1, k2, k3⟩ := vx_keep h0 e1 Y.2.1 hA (fun _ h => h) hL hF
    have hal : s.vm.Alike t.vm := by rw [← e2]; exact X'.warmed.alike
    have hW : Wd X h' T'.heap s := by
      rw [e1]
      exact hb.moved hal.symm
    obtain ⟨t2, a1, b1⟩ := kk r h' hp p l e R s m args below meth c T'.heap (locs ++ L9) (cells + mc) (slots + 6 * mc) ls S ⟨hW, k3, Y.2.2.1, by omega, by omega⟩ T' rfl X'
    refine ⟨t2, st9 t2 ?_, b1⟩
    have es : (r.toList ++ st).map (rv X) = (r.map (rv X)).toList ++ st.map (rv X) := by
      cases r <;> simp
    rw [es] at a1
    exact a1
  · obtain ⟨k1, k2, k3⟩ := vx_keep h0 e1 Y.2.1 hA (fun _ h => h) hL hF
    have hal : s.vm.Alike t.vm := by rw [← e2]; exact X'.warmed.alike
    have hW : Wd X h' T'.heap s := by
      rw [e1]
      exact hb.moved hal.symm
    obtain ⟨t2, a1, b1⟩ := kx C h' hp p l e R s m args below meth c T'.heap (locs ++ L9) (cells + mc) (slots + 6 * mc) ls ce q S ⟨hW, k3, Y.2.2.1, by omega, by omega⟩ (by rw [e1]; exact hce) hcv hcl T' rfl X'
    exact ⟨t2, st9.trans a1, b1⟩
theorem st_room {X : Cx} {m : MethodId} {pc : Nat} {ls : Array Slot} {stk : List Value} {st : List Value} (h : (st.map fun v => v.category).sum ≤ 8) : 2 * (F0 m pc ls stk).monitorRoom + ((st.map (rv X)).map fun v => v.category).sum ≤ 8 := by
  have e : (st.map (rv X)).map (fun v => v.category) = st.map (fun v => v.category) := by
    rw [List.map_map]
    apply List.map_congr_left
    intro v _
    exact rv_cat X v
  exact lv_room (by rw [e]; exact h)
variable {y : MethodName} {My : Mi} {fr lo mc ix : Nat} {As : List Value} {Qr1 : Option Value → Hp → Prop} {Qx1 : String → Hp → Prop} {stk : List Value}
def okD (y : MethodName) (n : Nat) : Prop := y.cls ≠ "java/lang/invoke/MethodHandle" ∧ y.cls ≠ "java/lang/invoke/VarHandle" ∧ (parseMethodDescriptor y.desc).map (fun d => d.parameters.length) = some n
theorem ws_one {s : State} {args : Array Value} (hts : ∀ w ∈ TT, w.before args s = true) (hE : ∀ w ∈ TT, va_Nw w s) (hcode : Cond.code y My.2.1 My.2.2.1 My.2.2.2 ∈ TT) : ∀ w ∈ ([.code y My.2.1 My.2.2.1 My.2.2.2] : List Cond), ∀ (a' : Array Value) (U : State), s.WarmedH U.vm → w.before a' U = true := by
  intro w hw a' U hW
  have e : w = .code y My.2.1 My.2.2.1 My.2.2.2 := by simpa using hw
  subst e
  exact va_Nw.use (tt_tab hcode) (tt_warm hcode hW (hE _ hcode))
theorem callB_g {R : Room} {s : State} {args : Array Value} {own : String} (hts : ∀ w ∈ TT, w.before args s = true) (hE : ∀ w ∈ TT, va_Nw w s) (hcode : Cond.code y My.2.1 My.2.2.1 My.2.2.2 ∈ TT) (hini : Cond.initialized y.cls ∈ TT) (hl : Cond.methodLink own ix y ∈ TT) {n : Nat} (hd : okD y n) (hR : fr + 1 ≤ R.frames ∧ 8 + (My.2.2.1 + 11) + lo ≤ R.locals) :
    CallB R s args own ix y My.2.1 My.2.2.1 My.2.2.2 [.code y My.2.1 My.2.2.1 My.2.2.2] (rmOf fr lo mc) mc (6 * mc) n := by
  refine ⟨rfl, rfl, hR.1, hR.2, ws_one hts hE hcode, List.mem_cons_self, hts _ hcode, hts _ hini, ⟨hd.1, hd.2.1⟩, fun sig hs => ?_, hts _ hl⟩
  have h2 := hd.2.2
  rw [hs] at h2
  exact (Option.some.inj h2).symm
theorem callN_g {R : Room} {s : State} {args : Array Value} {own host : String} (hts : ∀ w ∈ TT, w.before args s = true) (hE : ∀ w ∈ TT, va_Nw w s) (hcode : Cond.code y My.2.1 My.2.2.1 My.2.2.2 ∈ TT) (hini : Cond.initialized y.cls ∈ TT) (hl : Cond.methodLinkNest own ix y host ∈ TT) {n : Nat} (hd : okD y n) (hR : fr + 1 ≤ R.frames ∧ 8 + (My.2.2.1 + 11) + lo ≤ R.locals) :
    va_CN R s args own ix y host My.2.1 My.2.2.1 My.2.2.2 [.code y My.2.1 My.2.2.1 My.2.2.2] (rmOf fr lo mc) mc (6 * mc) n := by
  refine ⟨⟨rfl, rfl, hR.1, hR.2, ws_one hts hE hcode, List.mem_cons_self⟩, hts _ hcode, hts _ hini, ⟨hd.1, hd.2.1⟩, fun sig hs => ?_, hts _ hl⟩
  have h2 := hd.2.2
  rw [hs] at h2
  exact (Option.some.inj h2).symm
theorem pre_g {s U : State} {H : Heap} {locs : List Loc} {av : List Value} (hE : Ex X s) (hW : Wd X h H s) (hS : va_S (AA X) s.heap H locs) (hU : U.heap = H) (hw : s.WarmedH U.vm) : Pm X av h (av.map (rv X)).toArray U :=
  ⟨rfl, by rw [hU]; exact hW.moved hw.alike, hE.to hS hU hw⟩
/-- a static call -/
theorem g_callS (hd : decode M.2.1 pc = .ok (.invokestatic ix, 3)) (hl : Cond.methodLink M.1 ix y ∈ TT) (hs : Cond.static y ∈ TT) (hini : Cond.initialized y.cls ∈ TT) (hcode : Cond.code y My.2.1 My.2.2.1 My.2.2.2 ∈ TT) (hok : okD y As.length) (hR : fr + 1 ≤ E.1 ∧ 8 + (My.2.2.1 + 11) + lo ≤ E.2.1) (hst : (st.map fun v => v.category).sum ≤ 8) (hstk : stk = As.reverse ++ st)
    (hC : Con X y My fr lo mc As h Qr1 Qx1) (kx : ∀ C h', Qx1 C h' → GX X M E Q kc pc L st h' C) (kk : ∀ r h', Qr1 r h' → G X M E Q kc (pc + 3) L (r.toList ++ st) h') : G X M E Q (kc + mc) pc L stk h := by
  intro p l e R s m args below meth c H locs cells slots ls S Y
  have hSf := S.2.2.2.2.2.2.2.2.2.2
  have hE := S.2.2.2.2.2.2.2.2.2.1
  have y1 := Y.2.2.2.1
  have y2 := Y.2.2.2.2
  refine g_run S Y (vx_runS (As := As.map (rv X)) (rest := st.map (rv X)) ⟨S.1, S.2.1, S.2.2.1, S.2.2.2.2.1, S.2.2.2.2.2.1⟩ (hC l S.2.2.2.2.2.2.2.2.1) ⟨callB_g (n := As.length) S.2.2.2.2.2.1 hE.2.2.2.2.2 hcode hini hl hok ⟨by omega, by omega⟩, S.2.2.2.2.2.1 _ hs⟩ ⟨pm_blind, fun U hU hw => pre_g hE Y.1 Y.2.1 hU hw⟩ rfl (by rw [List.length_map]) Y.2.2.1.1 (by rw [hstk]; simp) (st_room hst) hd ⟨by omega, by omega⟩) kx kk
theorem g_callSN {host : String} (hd : decode M.2.1 pc = .ok (.invokestatic ix, 3)) (hl : Cond.methodLinkNest M.1 ix y host ∈ TT) (hs : Cond.static y ∈ TT) (hini : Cond.initialized y.cls ∈ TT) (hcode : Cond.code y My.2.1 My.2.2.1 My.2.2.2 ∈ TT) (hok : okD y As.length) (hR : fr + 1 ≤ E.1 ∧ 8 + (My.2.2.1 + 11) + lo ≤ E.2.1) (hst : (st.map fun v => v.category).sum ≤ 8) (hstk : stk = As.reverse ++ st)
    (hC : Con X y My fr lo mc As h Qr1 Qx1) (kx : ∀ C h', Qx1 C h' → GX X M E Q kc pc L st h' C) (kk : ∀ r h', Qr1 r h' → G X M E Q kc (pc + 3) L (r.toList ++ st) h') : G X M E Q (kc + mc) pc L stk h := by
  intro p l e R s m args below meth c H locs cells slots ls S Y
  have hSf := S.2.2.2.2.2.2.2.2.2.2
  have hE := S.2.2.2.2.2.2.2.2.2.1
  have y1 := Y.2.2.2.1
  have y2 := Y.2.2.2.2
  refine g_run S Y (vx_runSN (As := As.map (rv X)) (rest := st.map (rv X)) ⟨S.1, S.2.1, S.2.2.1, S.2.2.2.2.1, S.2.2.2.2.2.1⟩ (hC l S.2.2.2.2.2.2.2.2.1) ⟨callN_g (n := As.length) S.2.2.2.2.2.1 hE.2.2.2.2.2 hcode hini hl hok ⟨by omega, by omega⟩, S.2.2.2.2.2.1 _ hs, trivial⟩ ⟨pm_blind, fun U hU hw => pre_g hE Y.1 Y.2.1 hU hw⟩ rfl (by rw [List.length_map]) Y.2.2.1.1 (by rw [hstk]; simp) (st_room hst) hd ⟨by omega, by omega⟩) kx kk
theorem g_callV {b c a1 a2 a3 : Nat} {q : vw_C} (hd : decode M.2.1 pc = .ok (.invokevirtual ix, 3)) (hk : kd b = (0, c, a1, a2, a3)) (hc : clsL[c]? = some q) (hq : q.1 = y.cls) (hl : Cond.methodLink M.1 ix y ∈ TT) (hi : Cond.instanceMethod y ∈ TT) (hs : Cond.selects y.cls y y ∈ TT) (hini : Cond.initialized y.cls ∈ TT) (hcode : Cond.code y My.2.1 My.2.2.1 My.2.2.2 ∈ TT) (hok : okD y As.length) (hR : fr + 1 ≤ E.1 ∧ 8 + (My.2.2.1 + 11) + lo ≤ E.2.1) (hst : (st.map fun v => v.category).sum ≤ 8) (hstk : stk = As.reverse ++ .ref b :: st)
    (hC : Con X y My fr lo mc (.ref b :: As) h Qr1 Qx1) (kx : ∀ C h', Qx1 C h' → GX X M E Q kc pc L st h' C) (kk : ∀ r h', Qr1 r h' → G X M E Q kc (pc + 3) L (r.toList ++ st) h') : G X M E Q (kc + mc) pc L stk h := by
  intro p l e R s m args below meth c0 H locs cells slots ls S Y
  have hSf := S.2.2.2.2.2.2.2.2.2.2
  have hE := S.2.2.2.2.2.2.2.2.2.1
  have y1 := Y.2.2.2.1
  have y2 := Y.2.2.2.2
  refine g_run S Y (vx_runV (C := y.cls) (b := X.2.2.1 b) (As := As.map (rv X)) (rest := st.map (rv X)) ⟨S.1, S.2.1, S.2.2.1, S.2.2.2.2.1, S.2.2.2.2.2.1⟩ (hC l S.2.2.2.2.2.2.2.2.1) ⟨callB_g (n := As.length) S.2.2.2.2.2.1 hE.2.2.2.2.2 hcode hini hl hok ⟨by omega, by omega⟩, S.2.2.2.2.2.1 _ hi, S.2.2.2.2.2.1 _ hs⟩ ⟨pm_blind, ?_, fun U hU hw => pre_g (av := .ref b :: As) hE Y.1 Y.2.1 hU hw⟩ rfl (by rw [List.length_map]) Y.2.2.1.1 (by rw [hstk]; simp [rv]) (st_room hst) hd ⟨by omega, by omega⟩) kx kk
  obtain ⟨cell, g1, g2, g3⟩ := va_recv Y.1.2.1 Y.1.1 hc (obj_at hk)
  exact ⟨cell, g1, g2, by rw [← hq]; exact g3⟩
theorem g_callVN {b c a1 a2 a3 : Nat} {q : vw_C} {host : String} (hd : decode M.2.1 pc = .ok (.invokevirtual ix, 3)) (hk : kd b = (0, c, a1, a2, a3)) (hc : clsL[c]? = some q) (hq : q.1 = y.cls) (hl : Cond.methodLinkNest M.1 ix y host ∈ TT) (hi : Cond.instanceMethod y ∈ TT) (hs : Cond.selects y.cls y y ∈ TT) (hini : Cond.initialized y.cls ∈ TT) (hcode : Cond.code y My.2.1 My.2.2.1 My.2.2.2 ∈ TT) (hok : okD y As.length) (hR : fr + 1 ≤ E.1 ∧ 8 + (My.2.2.1 + 11) + lo ≤ E.2.1) (hst : (st.map fun v => v.category).sum ≤ 8) (hstk : stk = As.reverse ++ .ref b :: st)
    (hC : Con X y My fr lo mc (.ref b :: As) h Qr1 Qx1) (kx : ∀ C h', Qx1 C h' → GX X M E Q kc pc L st h' C) (kk : ∀ r h', Qr1 r h' → G X M E Q kc (pc + 3) L (r.toList ++ st) h') : G X M E Q (kc + mc) pc L stk h := by
  intro p l e R s m args below meth c0 H locs cells slots ls S Y
  have hSf := S.2.2.2.2.2.2.2.2.2.2
  have hE := S.2.2.2.2.2.2.2.2.2.1
  have y1 := Y.2.2.2.1
  have y2 := Y.2.2.2.2
  refine g_run S Y (vx_runVN (C := y.cls) (b := X.2.2.1 b) (As := As.map (rv X)) (rest := st.map (rv X)) ⟨S.1, S.2.1, S.2.2.1, S.2.2.2.2.1, S.2.2.2.2.2.1⟩ (hC l S.2.2.2.2.2.2.2.2.1) ⟨callN_g (n := As.length) S.2.2.2.2.2.1 hE.2.2.2.2.2 hcode hini hl hok ⟨by omega, by omega⟩, S.2.2.2.2.2.1 _ hi, S.2.2.2.2.2.1 _ hs⟩ ⟨pm_blind, ?_, fun U hU hw => pre_g (av := .ref b :: As) hE Y.1 Y.2.1 hU hw⟩ rfl (by rw [List.length_map]) Y.2.2.1.1 (by rw [hstk]; simp [rv]) (st_room hst) hd ⟨by omega, by omega⟩) kx kk
  obtain ⟨cell, g1, g2, g3⟩ := va_recv Y.1.2.1 Y.1.1 hc (obj_at hk)
  exact ⟨cell, g1, g2, by rw [← hq]; exact g3⟩
end GC
