/-! rows for methods with an exception table: the law's wrappers -/
abbrev Tb := List (Nat × Nat × Nat × Nat)
def tbOf (c : Code) : Tb := c.exceptionTable.toList.map (fun h => (h.startPc, h.endPc, h.handlerPc, h.catchType))
def CsH (tb : Tb) (X : Cx) (M : Mi) (E : Rm) (p : Program) (l : Launch) (R : Room) (s : State) (m : MethodId) (args : Array Value) (meth : Method) (c : Code) : Prop :=
  p.tables.exec = Jvm.exec ∧ c.code = M.2.1 ∧ c.maxLocals = M.2.2.1 ∧ meth.sig.returnType = M.2.2.2 ∧ s.vm.findClass M.1 = some m.cls ∧ (∀ w ∈ TT, w.before args s = true) ∧ meth.locks = false ∧ tbOf c = tb ∧ l.stackTraces = false ∧ Ex X s ∧ E.1 ≤ R.frames ∧ E.2.1 ≤ R.locals ∧ E.2.2.1 ≤ R.cells ∧ E.2.2.2 ≤ R.slots
def GH (tb : Tb) (X : Cx) (M : Mi) (E : Rm) (Q : Qf) (kc pc : Nat) (L : List (Nat × Value)) (st : List Value) (h : Hp) : Prop :=
  ∀ (p : Program) (l : Launch) (e : Env) (R : Room) (s : State) (m : MethodId) (args : Array Value) (below : List Frame) (meth : Method) (c : Code) (H : Heap) (locs : List Loc) (cells slots : Nat) (ls : Array Slot),
    CsH tb X M E p l R s m args meth c → Cy X M E kc L h s H locs cells slots ls → W p l e R s m args below meth c H locs cells slots (Q below args s) (F0 m pc ls (st.map (rv X)))
def GXH (tb : Tb) (X : Cx) (M : Mi) (E : Rm) (Q : Qf) (kc pc : Nat) (L : List (Nat × Value)) (st : List Value) (h : Hp) (C : String) : Prop :=
  ∀ (p : Program) (l : Launch) (e : Env) (R : Room) (s : State) (m : MethodId) (args : Array Value) (below : List Frame) (meth : Method) (c : Code) (H : Heap) (locs : List Loc) (cells slots : Nat) (ls : Array Slot) (ce : Cell) (q9 : Addr),
    CsH tb X M E p l R s m args meth c → Cy X M E kc L h s H locs cells slots ls → H[q9]? = some ce → ce.vm = .none → s.vm.findClass C = some ce.cls → vx_W p l e R s m args below meth c H locs cells slots (Q below args s) (F0 m pc ls (st.map (rv X))) q9
def ConH (X : Cx) (y : MethodName) (M : Mi) (tb : Tb) (fr lo mc : Nat) (av : List Value) (h : Hp) (Qr : Option Value → Hp → Prop) : Prop :=
  ∀ l : Launch, l.stackTraces = false → vx_Met l y [.codeWith y M.2.1 M.2.2.1 M.2.2.2 tb] (rmOf fr lo mc) (Pm X av h) (Qm X Qr) (Xm X Qn) mc (6 * mc) (AA X)
theorem conH_of {X : Cx} {y : MethodName} {M : Mi} {tb : Tb} {fr lo mc : Nat} {av : List Value} {h : Hp} {Qr : Option Value → Hp → Prop} (hy : plainName y.cls = true) (hown : M.1 = y.cls) (hn : (lg_sl (av.map (rv X))).length ≤ M.2.2.1)
    (hg : GH tb X M (fr, lo, mc, 6 * mc) (QM X (fr, lo, mc, 6 * mc) Qr Qn) mc 0 (lv_args 0 av) [] h) : ConH X y M tb fr lo mc av h Qr := by
  intro l hl
  refine vx_ofWH (cc := M.2.1) (maxL := M.2.2.1) (ret := M.2.2.2) (hh := tb) hy rfl ?_
  intro p e s m args below meth c s₁ B hml hP
  obtain ⟨rfl, hW, hE⟩ := hP
  obtain ⟨m9, meth9, c9, e1, e2, e3, -, -, e6, -⟩ := Cond.codeWith_spec (atoms_spec (ws := [.codeWith y M.2.1 M.2.2.1 M.2.2.2 tb]) B.pre _ List.mem_cons_self)
  cases e1.symm.trans B.named
  cases e2.symm.trans B.method
  rw [lg_entry_eq]
  have hl2 := lv_entry (av.map (rv X)) (n := M.2.2.1) hn
  rw [lmap_args] at hl2
  intro T hT XS
  cases e3.symm.trans XS.code
  exact hg p l e (headSpec [.codeWith y M.2.1 M.2.2.1 M.2.2.2 tb] (rmOf fr lo mc)).room s m _ below meth c s.heap [] 0 0 _
    ⟨B.exec, B.bytes, hml, B.returns, by rw [hown]; exact findClass_of_methodNamed B.named, fun w hw => va_Nw.use (tt_tab hw) (hE.2.2.2.2.2 w hw), B.notSynchronized, e6, hl, hE, Nat.le_refl _, Nat.le_refl _, Nat.le_refl _, Nat.le_refl _⟩
    ⟨hW, va_S.rf, hl2, by show 0 + mc ≤ mc; omega, by show 0 + 6 * mc ≤ 6 * mc; omega⟩ T hT XS
section GHR
variable {tb : Tb} {X : Cx} {M : Mi} {E : Rm} {Q : Qf} {kc pc : Nat} {L : List (Nat × Value)} {st : List Value} {h : Hp} {Qr : Option Value → Hp → Prop} {Qx : String → Hp → Prop}
theorem gh_aload (k9 : Nat) {i : Nat} {x : Nat} (hd : decode M.2.1 pc = .ok (.aload i, 2)) (hl : L[k9]? = some (i, .ref x)) (k : GH tb X M E Q kc (pc + 2) L (.ref x :: st) h) : GH tb X M E Q kc pc L st h := by
  intro p l e R s m args below meth c H locs cells slots ls S Y
  exact lv_aload S.1 S.2.1 hd (lv_at Y.2.2.1 k9 (lmap_at hl)) (k p l e R s m args below meth c H locs cells slots ls S Y)
theorem gh_aload_n (k9 : Nat) {n : Fin 4} {i : Nat} {x : Nat} (hd : decode M.2.1 pc = .ok (.aload_n n, 1)) (hi : (n : Nat) = i) (hl : L[k9]? = some (i, .ref x)) (k : GH tb X M E Q kc (pc + 1) L (.ref x :: st) h) : GH tb X M E Q kc pc L st h := by
  intro p l e R s m args below meth c H locs cells slots ls S Y
  exact lv_aload_n S.1 S.2.1 hd hi (lv_at Y.2.2.1 k9 (lmap_at hl)) (k p l e R s m args below meth c H locs cells slots ls S Y)
theorem gh_iload (k9 : Nat) {i : Nat} {x : Int32} (hd : decode M.2.1 pc = .ok (.iload i, 2)) (hl : L[k9]? = some (i, .int x)) (k : GH tb X M E Q kc (pc + 2) L (.int x :: st) h) : GH tb X M E Q kc pc L st h := by
  intro p l e R s m args below meth c H locs cells slots ls S Y
  exact lv_iload S.1 S.2.1 hd (lv_at Y.2.2.1 k9 (lmap_at hl)) (k p l e R s m args below meth c H locs cells slots ls S Y)
theorem gh_iload_n (k9 : Nat) {n : Fin 4} {i : Nat} {x : Int32} (hd : decode M.2.1 pc = .ok (.iload_n n, 1)) (hi : (n : Nat) = i) (hl : L[k9]? = some (i, .int x)) (k : GH tb X M E Q kc (pc + 1) L (.int x :: st) h) : GH tb X M E Q kc pc L st h := by
  intro p l e R s m args below meth c H locs cells slots ls S Y
  exact lv_iload_n S.1 S.2.1 hd hi (lv_at Y.2.2.1 k9 (lmap_at hl)) (k p l e R s m args below meth c H locs cells slots ls S Y)
theorem gh_iconst {n : Int} {v : Int32} (hd : decode M.2.1 pc = .ok (.iconst n, 1)) (hv : Int32.ofInt n = v) (k : GH tb X M E Q kc (pc + 1) L (.int v :: st) h) : GH tb X M E Q kc pc L st h := by
  intro p l e R s m args below meth c H locs cells slots ls S Y
  exact lv_iconst S.1 S.2.1 hd hv (k p l e R s m args below meth c H locs cells slots ls S Y)
theorem gh_i2l {x : Int32} (hd : decode M.2.1 pc = .ok (.i2l, 1)) (k : GH tb X M E Q kc (pc + 1) L (.long x.toInt64 :: st) h) : GH tb X M E Q kc pc L (.int x :: st) h := by
  intro p l e R s m args below meth c H locs cells slots ls S Y
  exact lv_i2l S.1 S.2.1 hd rfl (k p l e R s m args below meth c H locs cells slots ls S Y)
theorem gh_goto {off : Int} {tgt : Nat} (hd : decode M.2.1 pc = .ok (.goto off, 3)) (ht : (pc : Int) + off = (tgt : Int)) (k : GH tb X M E Q kc tgt L st h) : GH tb X M E Q kc pc L st h := by
  intro p l e R s m args below meth c H locs cells slots ls S Y
  exact lv_goto S.1 S.2.1 hd ht (k p l e R s m args below meth c H locs cells slots ls S Y)
theorem gh_iret {v : Int32} (hd : decode M.2.1 pc = .ok (.ireturn, 1)) (hr : M.2.2.2 = some .int) (hq : Qr (some (.int v)) h) : GH tb X M E (QM X E Qr Qx) kc pc L [.int v] h := by
  intro p l e R s m args below meth c H locs cells slots ls S Y
  have hlocks : meth.locks = false := S.2.2.2.2.2.2.1
  refine W.widen (k := E.2.2.1) (n := E.2.2.2) (by have := Y.2.2.2.1; omega) (by have := Y.2.2.2.2; omega) (vx_ret (W.iret S.1 S.2.1 (S.2.2.2.1.trans hr) (fun t ht hW => qm_ret (r := some (.int v)) Y.1 Y.2.1 hq ht hW) Y.2.1.2.2 hd))
theorem gh_run {p : Program} {l : Launch} {e : Env} {R : Room} {s : State} {m : MethodId} {args : Array Value} {below : List Frame} {meth : Method} {c : Code} {H : Heap} {locs : List Loc} {cells slots : Nat} {ls : Array Slot} {mc : Nat} {a : Array Value} {st0 : List Value} {Qr1 : Option Value → Hp → Prop} {Qx1 : String → Hp → Prop}
    (S : CsH tb X M E p l R s m args meth c) (Y : Cy X M E (kc + mc) L h s H locs cells slots ls)
    (hr : vx_Run p l e R s m args below meth c H locs cells slots mc (6 * mc) (F0 m pc ls st0) (st.map (rv X)) (Qm X Qr1 a) (Xm X Qx1) (AA X))
    (kx : ∀ C h', Qx1 C h' → GXH tb X M E Q kc pc L st h' C) (kk : ∀ r h', Qr1 r h' → GH tb X M E Q kc (pc + 3) L (r.toList ++ st) h') :
    W p l e R s m args below meth c H locs cells slots (Q below args s) (F0 m pc ls st0) := by
  intro T hT XS
  have hA : ∀ q, q < H.size → AA X q → AA X q := fun _ _ h => h
  have y1 := Y.2.2.2.1
  have y2 := Y.2.2.2.2
  rcases hr T hT XS with ⟨v, st₀, t, T', L9, h0, X', hL, e1, e2, ⟨⟨r, h', hv, hp, hb⟩, hF⟩, st9⟩ | ⟨q, st₀, t, T', L9, C, ce, h0, X', hL, e1, e2, ⟨⟨h', hp, hb⟩, hF⟩, hce, hcv, hcl, st9⟩
  · have hv2 : v = r.map (rv X) := Outcome.returned.inj hv
    subst hv2
    obtain ⟨k1, k2, k3⟩ := vx_keep h0 e1 Y.2.1 hA (fun _ h => h) hL hF
    have hal : s.vm.Alike t.vm := by rw [← e2]; exact X'.warmed.alike
    have hW : Wd X h' T'.heap s := by
      rw [e1]
      exact hb.moved hal.symm
    obtain ⟨t2, a1, b1⟩ := kk r h' hp p l e R s m args below meth c T'.heap (locs ++ L9) (cells + mc) (slots + 6 * mc) ls S ⟨hW, k3, Y.2.2.1, by omega, by omega⟩ T' rfl X'
    refine ⟨t2, st9 t2 ?_, b1⟩
    have es : (r.toList ++ st).map (rv X) = (r.map (rv X)).toList ++ st.map (rv X) := by
      cases r <;> simp
    rw [es] at a1
    exact a1
  · obtain ⟨k1, k2, k3⟩ := vx_keep h0 e1 Y.2.1 hA (fun _ h => h) hL hF
    have hal : s.vm.Alike t.vm := by rw [← e2]; exact X'.warmed.alike
    have hW : Wd X h' T'.heap s := by
      rw [e1]
      exact hb.moved hal.symm
    obtain ⟨t2, a1, b1⟩ := kx C h' hp p l e R s m args below meth c T'.heap (locs ++ L9) (cells + mc) (slots + 6 * mc) ls ce q S ⟨hW, k3, Y.2.2.1, by omega, by omega⟩ (by rw [e1]; exact hce) hcv hcl T' rfl X'
    exact ⟨t2, st9.trans a1, b1⟩
variable {y : MethodName} {My : Mi} {fr lo mc ix : Nat} {As : List Value} {Qr1 : Option Value → Hp → Prop} {Qx1 : String → Hp → Prop} {stk : List Value}
theorem gh_callV {b c a1 a2 a3 : Nat} {q : vw_C} (hd : decode M.2.1 pc = .ok (.invokevirtual ix, 3)) (hk : kd b = (0, c, a1, a2, a3)) (hc : clsL[c]? = some q) (hq : q.1 = y.cls) (hl : Cond.methodLink M.1 ix y ∈ TT) (hi : Cond.instanceMethod y ∈ TT) (hs : Cond.selects y.cls y y ∈ TT) (hini : Cond.initialized y.cls ∈ TT) (hcode : Cond.code y My.2.1 My.2.2.1 My.2.2.2 ∈ TT) (hok : okD y As.length) (hR : fr + 1 ≤ E.1 ∧ 8 + (My.2.2.1 + 11) + lo ≤ E.2.1) (hst : (st.map fun v => v.category).sum ≤ 8) (hstk : stk = As.reverse ++ .ref b :: st)
    (hC : Con X y My fr lo mc (.ref b :: As) h Qr1 Qx1) (kx : ∀ C h', Qx1 C h' → GXH tb X M E Q kc pc L st h' C) (kk : ∀ r h', Qr1 r h' → GH tb X M E Q kc (pc + 3) L (r.toList ++ st) h') : GH tb X M E Q (kc + mc) pc L stk h := by
  intro p l e R s m args below meth c0 H locs cells slots ls S Y
  have hSf := S.2.2.2.2.2.2.2.2.2.2
  have hE := S.2.2.2.2.2.2.2.2.2.1
  have y1 := Y.2.2.2.1
  have y2 := Y.2.2.2.2
  refine gh_run S Y (vx_runV (C := y.cls) (b := X.2.2.1 b) (As := As.map (rv X)) (rest := st.map (rv X)) ⟨S.1, S.2.1, S.2.2.1, S.2.2.2.2.1, S.2.2.2.2.2.1⟩ (hC l S.2.2.2.2.2.2.2.2.1) ⟨callB_g (n := As.length) S.2.2.2.2.2.1 hE.2.2.2.2.2 hcode hini hl hok ⟨by omega, by omega⟩, S.2.2.2.2.2.1 _ hi, S.2.2.2.2.2.1 _ hs⟩ ⟨pm_blind, ?_, fun U hU hw => pre_g (av := .ref b :: As) hE Y.1 Y.2.1 hU hw⟩ rfl (by rw [List.length_map]) Y.2.2.1.1 (by rw [hstk]; simp [rv]) (st_room hst) hd ⟨by omega, by omega⟩) kx kk
  obtain ⟨cell, g1, g2, g3⟩ := va_recv Y.1.2.1 Y.1.1 hc (obj_at hk)
  exact ⟨cell, g1, g2, by rw [← hq]; exact g3⟩
theorem gh_last {b n : Nat} {i x : Int32} {a1 a2 a3 : Nat} (hd : decode M.2.1 pc = .ok (.lastore, 1)) (hk : kd b = (4, n, a1, a2, a3)) (hin : vp_in i n) (k : GH tb X M E Q kc (pc + 1) L st (hup h b i.toNatClampNeg x)) : GH tb X M E Q kc pc L (.long x.toInt64 :: .int i :: .ref b :: st) h := by
  intro p l e R s m args below meth c0 H locs cells slots ls S Y
  refine va_last (q0 := b) (t0 := 2) S.1 S.2.1 Y.1.2.1 Y.1.1 Y.1.2.2 Y.2.1 (longs_at hk) rfl hin hd (fun H1 locs1 hP hD hS => ?_)
  have he : (Sum.inl (X.2.1 2, n, Sum.inr (Sum.inl (vp_updL (fun j => (h b j).toInt64) i.toNatClampNeg x.toInt64))) : va_E) = entK X (hup h b i.toNatClampNeg x) b (kd b) := by
    rw [hk]
    show Sum.inl _ = Sum.inl (_, _, Sum.inr (Sum.inl (fun j => (hup h b i.toNatClampNeg x b j).toInt64)))
    rw [hup_self]
    congr 4
    refine congrArg Sum.inl ?_
    funext j
    by_cases hj : j = i.toNatClampNeg
    · simp [upd, vp_updL, hj]
    · simp [upd, vp_updL, hj]
  rw [ws_set X h (hup h b i.toNatClampNeg x) (kd_lt hk (by decide)) he (fun q hq => hup_ne hq)] at hP hD
  exact k p l e R s m args below meth c0 H1 locs1 cells slots ls S ⟨⟨hP, Y.1.2.1, hD⟩, hS, Y.2.2⟩
/-- caught: the handler keeps the exception in a local and answers v -/
theorem gxh_catch {C : String} (pre : Tb) (a b hp ct : Nat) (suf : Tb) (htb : tb = pre ++ (a, b, hp, ct) :: suf) (hin : a ≤ pc ∧ pc < b) (hC : C ∈ xnL) (hpre : ∀ z ∈ pre, z.2.2.2 ≠ 0 ∧ ∃ nm ∈ xnL, C ≠ nm ∧ Cond.classLink M.1 z.2.2.2 nm ∈ TT) (h0 : ct ≠ 0) (hl : Cond.classLink M.1 ct C ∈ TT) (hcast : Cond.castable C C ∈ TT)
    {i n1 : Nat} {n : Int} {v : Int32} (hi : i < M.2.2.1) (d0 : decode M.2.1 hp = .ok (.astore i, 2) ∧ n1 = 2 ∨ ∃ k : Fin 4, (k : Nat) = i ∧ decode M.2.1 hp = .ok (.astore_n k, 1) ∧ n1 = 1) (d1 : decode M.2.1 (hp + n1) = .ok (.iconst n, 1)) (hv : Int32.ofInt n = v) (d2 : decode M.2.1 (hp + n1 + 1) = .ok (.ireturn, 1)) (hr : M.2.2.2 = some .int) (hq : Qr (some (.int v)) h) : GXH tb X M E (QM X E Qr Qx) kc pc L st h C := by
  intro p l e R s m args below meth c H locs cells slots ls ce q9 S Y h1 h2 h3
  have hE := S.2.2.2.2.2.2.2.2.2.1
  have hts := S.2.2.2.2.2.1
  have hlocks : meth.locks = false := S.2.2.2.2.2.2.1
  have ht : tbOf c = tb := S.2.2.2.2.2.2.2.1
  rw [htb] at ht
  obtain ⟨pre', suf', e1, e2, e3⟩ := List.map_eq_append_iff.mp ht
  obtain ⟨x, suf'', e4, e5, e6⟩ := List.map_eq_cons_iff.mp e3
  subst e4
  simp only [Prod.mk.injEq] at e5
  obtain ⟨f1, f2, f3, f4⟩ := e5
  have fin : ∀ ls' : Array Slot, W p l e R s m args below meth c H locs cells slots (QM X E Qr Qx below args s) (F0 m (hp + n1) ls' []) := fun ls' => lv_iconst S.1 S.2.1 d1 hv (W.widen (k := E.2.2.1) (n := E.2.2.2) (by have := Y.2.2.2.1; omega) (by have := Y.2.2.2.2; omega) (vx_ret (W.iret S.1 S.2.1 (S.2.2.2.1.trans hr) (fun t ht hW => qm_ret (r := some (.int v)) Y.1 Y.2.1 hq ht hW) Y.2.1.2.2 d2)))
  refine vx_catch (own := M.1) (name := C) (E := C) S.2.2.2.2.1 pre' x suf'' e1 (fun z hz => ?_) ?_ (by rw [f4]; exact h0) (by rw [f4]; exact hts _ hl) (hts _ hcast) h1 h2 h3 ?_
  · right
    have hz' : (z.startPc, z.endPc, z.handlerPc, z.catchType) ∈ pre := by
      rw [← e2]
      exact List.mem_map_of_mem hz
    obtain ⟨g1, nm, g2, g3, g4⟩ := hpre _ hz'
    exact ⟨g1, nm, hts _ g4, hE.2.2.2.2.1 C hC nm g2 g3⟩
  · unfold covers
    rw [f1, f2]
    simp [hin.1, hin.2]
  · rw [f3]
    rcases d0 with ⟨d0, rfl⟩ | ⟨k, hk, d0, rfl⟩
    · exact lv_astore S.1 S.2.1 d0 Y.2.2.1 hi rfl (fun ls' _ => fin ls')
    · exact lv_astore_n S.1 S.2.1 d0 hk Y.2.2.1 hi rfl (fun ls' _ => fin ls')
end GHR
