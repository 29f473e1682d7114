/-! the growing world: branches, ends, calls, rows of rows -/
section GP2
variable {X : Cx} {M : Mi} {ini : Bool} {E : Rm} {Q : Qf} {kc ks pc : Nat} {L : List (Nat × Value)} {st : List Value} {h : Hp} {J : Jt} {n : Nat}
theorem p_iinc (k9 : Nat) {i : Nat} {z : Int} {x v : Int32} {L' : List (Nat × Value)} (hd : decode M.2.1 pc = .ok (.iinc i z, 3)) (hk : L[k9]? = some (i, .int x)) (hv : x + Int32.ofInt z = v) (hn : i < M.2.2.1) (hl : sto1 L i (.int v) = L') (k : GP X M ini E Q kc ks (pc + 3) L' st h J n) : GP X M ini E Q kc ks pc L st h J n := by
  intro p l e R s m args below meth c H locs cells slots ls S Y
  exact lv_iinc S.1 S.2.1 hd Y.2.2.1 (lmap_at hk) hv hn (by rw [← hl]; exact lmap_sto1 X L i (.int v)) (fun ls' hls => k p l e R s m args below meth c H locs cells slots ls' S ⟨Y.1, Y.2.1, hls, Y.2.2.2⟩)
theorem p_icmp_ge {x y : Int32} {off : Int} {tgt : Nat} (hd : decode M.2.1 pc = .ok (.if_icmp .ge off, 3)) (ht : (pc : Int) + off = (tgt : Int)) (k1 : y ≤ x → GP X M ini E Q kc ks tgt L st h J n) (k2 : ¬ y ≤ x → GP X M ini E Q kc ks (pc + 3) L st h J n) : GP X M ini E Q kc ks pc L (.int y :: .int x :: st) h J n := by
  intro p l e R s m args below meth c H locs cells slots ls S Y
  exact lv_icmp_ge S.1 S.2.1 hd ht (fun z => k1 (by first | exact z | simpa using z) p l e R s m args below meth c H locs cells slots ls S Y) (fun z => k2 (by first | exact z | simpa using z) p l e R s m args below meth c H locs cells slots ls S Y)
theorem p_icmp_ne {x y : Int32} {off : Int} {tgt : Nat} (hd : decode M.2.1 pc = .ok (.if_icmp .ne off, 3)) (ht : (pc : Int) + off = (tgt : Int)) (k1 : ¬ x = y → GP X M ini E Q kc ks tgt L st h J n) (k2 : x = y → GP X M ini E Q kc ks (pc + 3) L st h J n) : GP X M ini E Q kc ks pc L (.int y :: .int x :: st) h J n := by
  intro p l e R s m args below meth c H locs cells slots ls S Y
  exact lv_icmp_ne S.1 S.2.1 hd ht (fun z => k1 (by first | exact z | simpa using z) p l e R s m args below meth c H locs cells slots ls S Y) (fun z => k2 (by first | exact z | simpa using z) p l e R s m args below meth c H locs cells slots ls S Y)
end GP2
/-! contracts -/
def rmP (fr lo mc ms : Nat) : Room := { frames := fr, cells := mc, slots := ms, locals := lo }
abbrev St3 := Hp × Jt × Nat
def QPv (X : Cx) (Qr : Hp → Jt → Nat → Prop) : Array Value → State → Outcome → State → Prop := va_Qv (S := St3) (fun u => Qr u.1 u.2.1 u.2.2) (fun u t => WP X u.1 u.2.1 u.2.2 t.heap t) (AA X)
def PPm (X : Cx) (av : List Value) (h : Hp) (J : Jt) (n : Nat) : Array Value → State → Prop := va_Pc (av.map (rv X)) (fun U => WP X h J n U.heap U ∧ Ex X U ∧ Ax U)
def ConP (X : Cx) (y : MethodName) (M : Mi) (fr lo mc ms : Nat) (av : List Value) (h : Hp) (J : Jt) (n : Nat) (Qr : Hp → Jt → Nat → Prop) : Prop :=
  ∀ l : Launch, Met l y [.code y M.2.1 M.2.2.1 M.2.2.2] (rmP fr lo mc ms) (PPm X av h J n) (QPv X Qr) mc ms (AA X)
def QPf (X : Cx) (E : Rm) (Qr : Hp → Jt → Nat → Prop) : Qf := fun below args s => MQ below (QPv X Qr) args s E.2.2.1 E.2.2.2 (AA X)
theorem pp_blind {X : Cx} {av : List Value} {h : Hp} {J : Jt} {n : Nat} : FrameBlind (PPm X av h J n) := by
  intro a U g mk hp
  obtain ⟨h1, h2, h3, h4⟩ := hp
  exact ⟨h1, h2.moved (Vm.Alike.refl _), h3.same rfl rfl, h4.moved (Vm.Alike.refl _)⟩
theorem conP_of {X : Cx} {y : MethodName} {M : Mi} {ini : Bool} {fr lo mc ms : Nat} {av : List Value} {h : Hp} {J : Jt} {n : Nat} {Qr : Hp → Jt → Nat → Prop} (hy : plainName y.cls = true) (hown : M.1 = y.cls) (hini : ini = true → y.name = "<init>") (hn : (lg_sl (av.map (rv X))).length ≤ M.2.2.1)
    (hg : GP X M ini (fr, lo, mc, ms) (QPf X (fr, lo, mc, ms) Qr) mc ms 0 (lv_args 0 av) [] h J n) : ConP X y M fr lo mc ms av h J n Qr := by
  intro l
  refine Met.ofW (cc := M.2.1) (maxL := M.2.2.1) (ret := M.2.2.2) hy rfl ?_
  intro p e s m args below meth c s₁ B hml hP
  obtain ⟨rfl, hW, hE, hAx⟩ := hP
  rw [lg_entry_eq]
  have hl2 := lv_entry (av.map (rv X)) (n := M.2.2.1) hn
  rw [lmap_args] at hl2
  exact hg p l e (headSpec [.code y M.2.1 M.2.2.1 M.2.2.2] (rmP fr lo mc ms)).room s m _ below meth c s.heap [] 0 0 _
    ⟨B.exec, B.bytes, hml, B.returns, by rw [hown]; exact findClass_of_methodNamed B.named, fun w hw => va_Nw.use (tt_tab hw) (hE.2.2.2.2.2 w hw), B.notSynchronized, fun hi => by rw [(name_of_methodNamed B.named B.method).1]; exact hini hi, ⟨hE, hAx⟩, Nat.le_refl _, Nat.le_refl _, Nat.le_refl _, Nat.le_refl _⟩
    ⟨hW, va_S.rf, hl2, by show 0 + mc ≤ mc; omega, by show 0 + ms ≤ ms; omega⟩
section GP3
variable {X : Cx} {M : Mi} {ini : Bool} {E : Rm} {Q : Qf} {kc ks pc : Nat} {L : List (Nat × Value)} {st : List Value} {h : Hp} {J : Jt} {n : Nat} {Qr : Hp → Jt → Nat → Prop}
theorem p_vret (hd : decode M.2.1 pc = .ok (.return_, 1)) (hr : M.2.2.2 = none) (hq : Qr h J n) : GP X M ini E (QPf X E Qr) kc ks pc L [] h J n := by
  intro p l e R s m args below meth c H locs cells slots ls S Y
  have hlocks : meth.locks = false := S.2.2.2.2.2.2.1
  refine W.widen (k := E.2.2.1) (n := E.2.2.2) (by have := Y.2.2.2.1; omega) (by have := Y.2.2.2.2; omega) (W.vret S.1 S.2.1 (S.2.2.2.1.trans hr) (fun t ht hW => ⟨⟨(h, J, n), rfl, hq, ?_⟩, Y.2.1.F ht⟩) Y.2.1.2.2 hd)
  show WP X h J n t.heap t
  rw [ht]
  exact Y.1.moved hW.alike
variable {y : MethodName} {My : Mi} {fr lo mc ms ix : Nat} {As : List Value} {Qr1 : Hp → Jt → Nat → Prop} {stk : List Value}
theorem p_run {p : Program} {l : Launch} {e : Env} {R : Room} {s : State} {m : MethodId} {args : Array Value} {below : List Frame} {meth : Method} {c : Code} {H : Heap} {locs : List Loc} {cells slots : Nat} {ls : Array Slot} {a : Array Value} {st0 : List Value}
    (S : KS X M ini E p R s m args meth c) (Y : KY X M E (kc + mc) (ks + ms) L h J n s H locs cells slots ls)
    (hr : va_Run p l e R s m args below meth c H locs cells slots mc ms (F0 m pc ls st0) (st.map (rv X)) (QPv X Qr1 a) (AA X))
    (kk : ∀ h' J' n', Qr1 h' J' n' → GP X M ini E Q kc ks (pc + 3) L st h' J' n') :
    W p l e R s m args below meth c H locs cells slots (Q below args s) (F0 m pc ls st0) := by
  have y1 := Y.2.2.2.1
  have y2 := Y.2.2.2.2
  refine va_callv hr Y.2.1 (fun _ _ h => h) (fun _ h => h) (fun u t H1 locs1 ht hal hq hw hz hk hS => ?_)
  refine kk u.1 u.2.1 u.2.2 hq p l e R s m args below meth c H1 locs1 (cells + mc) (slots + ms) ls S ⟨?_, hS, Y.2.2.1, by omega, by omega⟩
  have hw2 : WP X u.1 u.2.1 u.2.2 t.heap t := hw
  rw [ht] at hw2
  exact hw2.moved hal.symm
theorem callB_p {R : Room} {s : State} {args : Array Value} {own : String} (hts : ∀ w ∈ TT, w.before args s = true) (hE : ∀ w ∈ TT, va_Nw w s) (hcode : Cond.code y My.2.1 My.2.2.1 My.2.2.2 ∈ TT) (hini : Cond.initialized y.cls ∈ TT) (hl : Cond.methodLink own ix y ∈ TT) {k : Nat} (hd : okD y k) (hR : fr + 1 ≤ R.frames ∧ 8 + (My.2.2.1 + 11) + lo ≤ R.locals) :
    CallB R s args own ix y My.2.1 My.2.2.1 My.2.2.2 [.code y My.2.1 My.2.2.1 My.2.2.2] (rmP fr lo mc ms) mc ms k := by
  refine ⟨rfl, rfl, hR.1, hR.2, ws_one hts hE hcode, List.mem_cons_self, hts _ hcode, hts _ hini, ⟨hd.1, hd.2.1⟩, fun sig hs => ?_, hts _ hl⟩
  have h2 := hd.2.2
  rw [hs] at h2
  exact (Option.some.inj h2).symm
theorem callN_p {R : Room} {s : State} {args : Array Value} {own host : String} (hts : ∀ w ∈ TT, w.before args s = true) (hE : ∀ w ∈ TT, va_Nw w s) (hcode : Cond.code y My.2.1 My.2.2.1 My.2.2.2 ∈ TT) (hini : Cond.initialized y.cls ∈ TT) (hl : Cond.methodLinkNest own ix y host ∈ TT) {k : Nat} (hd : okD y k) (hR : fr + 1 ≤ R.frames ∧ 8 + (My.2.2.1 + 11) + lo ≤ R.locals) :
    va_CN R s args own ix y host My.2.1 My.2.2.1 My.2.2.2 [.code y My.2.1 My.2.2.1 My.2.2.2] (rmP fr lo mc ms) mc ms k := by
  refine ⟨⟨rfl, rfl, hR.1, hR.2, ws_one hts hE hcode, List.mem_cons_self⟩, hts _ hcode, hts _ hini, ⟨hd.1, hd.2.1⟩, fun sig hs => ?_, hts _ hl⟩
  have h2 := hd.2.2
  rw [hs] at h2
  exact (Option.some.inj h2).symm
theorem pre_p {s U : State} {H : Heap} {locs : List Loc} {av : List Value} (hE : Ex X s) (hAx : Ax s) (hW : WP X h J n H s) (hS : va_S (AA X) s.heap H locs) (hU : U.heap = H) (hw : s.WarmedH U.vm) : PPm X av h J n (av.map (rv X)).toArray U :=
  ⟨rfl, by rw [hU]; exact hW.moved hw.alike, hE.to hS hU hw, hAx.moved hw.alike⟩
/-- a static call -/
theorem p_callS (hd : decode M.2.1 pc = .ok (.invokestatic ix, 3)) (hl : Cond.methodLink M.1 ix y ∈ TT) (hs : Cond.static y ∈ TT) (hini : Cond.initialized y.cls ∈ TT) (hcode : Cond.code y My.2.1 My.2.2.1 My.2.2.2 ∈ TT) (hok : okD y As.length) (hR : fr + 1 ≤ E.1 ∧ 8 + (My.2.2.1 + 11) + lo ≤ E.2.1) (hst : (st.map fun v => v.category).sum ≤ 8) (hstk : stk = As.reverse ++ st)
    (hC : ConP X y My fr lo mc ms As h J n Qr1) (kk : ∀ h' J' n', Qr1 h' J' n' → GP X M ini E Q kc ks (pc + 3) L st h' J' n') : GP X M ini E Q (kc + mc) (ks + ms) pc L stk h J n := by
  intro p l e R s m args below meth c H locs cells slots ls S Y
  have hE := S.2.2.2.2.2.2.2.2.1.1
  have hAx := S.2.2.2.2.2.2.2.2.1.2
  have y1 := Y.2.2.2.1
  have y2 := Y.2.2.2.2
  have s1 := S.2.2.2.2.2.2.2.2.2.1
  have s2 := S.2.2.2.2.2.2.2.2.2.2.1
  have s3 := S.2.2.2.2.2.2.2.2.2.2.2.1
  have s4 := S.2.2.2.2.2.2.2.2.2.2.2.2
  exact p_run S Y (va_runS (As := As.map (rv X)) (rest := st.map (rv X)) ⟨S.1, S.2.1, S.2.2.1, S.2.2.2.2.1, S.2.2.2.2.2.1⟩ (hC l) ⟨callB_p (k := As.length) S.2.2.2.2.2.1 hE.2.2.2.2.2 hcode hini hl hok ⟨by omega, by omega⟩, S.2.2.2.2.2.1 _ hs⟩ ⟨pp_blind, fun U hU hw => pre_p hE hAx Y.1 Y.2.1 hU hw⟩ rfl (by rw [List.length_map]) Y.2.2.1.1 (by rw [hstk]; simp) (st_room hst) hd ⟨by omega, by omega⟩) kk
theorem p_callSN {host : String} (hd : decode M.2.1 pc = .ok (.invokestatic ix, 3)) (hl : Cond.methodLinkNest M.1 ix y host ∈ TT) (hs : Cond.static y ∈ TT) (hini : Cond.initialized y.cls ∈ TT) (hcode : Cond.code y My.2.1 My.2.2.1 My.2.2.2 ∈ TT) (hok : okD y As.length) (hR : fr + 1 ≤ E.1 ∧ 8 + (My.2.2.1 + 11) + lo ≤ E.2.1) (hst : (st.map fun v => v.category).sum ≤ 8) (hstk : stk = As.reverse ++ st)
    (hC : ConP X y My fr lo mc ms As h J n Qr1) (kk : ∀ h' J' n', Qr1 h' J' n' → GP X M ini E Q kc ks (pc + 3) L st h' J' n') : GP X M ini E Q (kc + mc) (ks + ms) pc L stk h J n := by
  intro p l e R s m args below meth c H locs cells slots ls S Y
  have hE := S.2.2.2.2.2.2.2.2.1.1
  have hAx := S.2.2.2.2.2.2.2.2.1.2
  have y1 := Y.2.2.2.1
  have y2 := Y.2.2.2.2
  have s1 := S.2.2.2.2.2.2.2.2.2.1
  have s2 := S.2.2.2.2.2.2.2.2.2.2.1
  have s3 := S.2.2.2.2.2.2.2.2.2.2.2.1
  have s4 := S.2.2.2.2.2.2.2.2.2.2.2.2
  exact p_run S Y (va_runSN (As := As.map (rv X)) (rest := st.map (rv X)) ⟨S.1, S.2.1, S.2.2.1, S.2.2.2.2.1, S.2.2.2.2.2.1⟩ (hC l) ⟨callN_p (k := As.length) S.2.2.2.2.2.1 hE.2.2.2.2.2 hcode hini hl hok ⟨by omega, by omega⟩, S.2.2.2.2.2.1 _ hs, trivial⟩ ⟨pp_blind, fun U hU hw => pre_p hE hAx Y.1 Y.2.1 hU hw⟩ rfl (by rw [List.length_map]) Y.2.2.1.1 (by rw [hstk]; simp) (st_room hst) hd ⟨by omega, by omega⟩) kk
/-- a constructor -/
theorem p_callI {b : Nat} (hd : decode M.2.1 pc = .ok (.invokespecial ix, 3)) (hl : Cond.methodLink M.1 ix y ∈ TT) (hi : Cond.instanceMethod y ∈ TT) (hy : y.name = "<init>") (hret : My.2.2.2 = none) (hini : Cond.initialized y.cls ∈ TT) (hcode : Cond.code y My.2.1 My.2.2.1 My.2.2.2 ∈ TT) (hok : okD y As.length) (hR : fr + 1 ≤ E.1 ∧ 8 + (My.2.2.1 + 11) + lo ≤ E.2.1) (hst : (st.map fun v => v.category).sum ≤ 8) (hstk : stk = As.reverse ++ .ref b :: st)
    (hC : ConP X y My fr lo mc ms (.ref b :: As) h J n Qr1) (kk : ∀ h' J' n', Qr1 h' J' n' → GP X M ini E Q kc ks (pc + 3) L st h' J' n') : GP X M ini E Q (kc + mc) (ks + ms) pc L stk h J n := by
  intro p l e R s m args below meth c H locs cells slots ls S Y
  have hE := S.2.2.2.2.2.2.2.2.1.1
  have hAx := S.2.2.2.2.2.2.2.2.1.2
  have y1 := Y.2.2.2.1
  have y2 := Y.2.2.2.2
  have s1 := S.2.2.2.2.2.2.2.2.2.1
  have s2 := S.2.2.2.2.2.2.2.2.2.2.1
  have s3 := S.2.2.2.2.2.2.2.2.2.2.2.1
  have s4 := S.2.2.2.2.2.2.2.2.2.2.2.2
  have cb := callB_p (y := y) (My := My) (ix := ix) (fr := fr) (lo := lo) (mc := mc) (ms := ms) (k := As.length) S.2.2.2.2.2.1 hE.2.2.2.2.2 hcode hini hl hok (R := R) (own := M.1) ⟨by omega, by omega⟩
  have hM := hC l
  rw [hret] at cb hM
  exact p_run S Y (va_runI (b := X.2.2.1 b) (As := As.map (rv X)) (rest := st.map (rv X)) ⟨S.1, S.2.1, S.2.2.1, S.2.2.2.2.1, S.2.2.2.2.2.1⟩ hM ⟨cb, hy, S.2.2.2.2.2.1 _ hi⟩ ⟨pp_blind, fun U hU hw => pre_p (av := .ref b :: As) hE hAx Y.1 Y.2.1 hU hw⟩ rfl (by rw [List.length_map]) Y.2.2.1.1 (by rw [hstk]; simp [rv]) (st_room hst) hd ⟨by omega, by omega⟩) kk
theorem p_callIN {b : Nat} {host : String} (hd : decode M.2.1 pc = .ok (.invokespecial ix, 3)) (hl : Cond.methodLinkNest M.1 ix y host ∈ TT) (hi : Cond.instanceMethod y ∈ TT) (hy : y.name = "<init>") (hret : My.2.2.2 = none) (hini : Cond.initialized y.cls ∈ TT) (hcode : Cond.code y My.2.1 My.2.2.1 My.2.2.2 ∈ TT) (hok : okD y As.length) (hR : fr + 1 ≤ E.1 ∧ 8 + (My.2.2.1 + 11) + lo ≤ E.2.1) (hst : (st.map fun v => v.category).sum ≤ 8) (hstk : stk = As.reverse ++ .ref b :: st)
    (hC : ConP X y My fr lo mc ms (.ref b :: As) h J n Qr1) (kk : ∀ h' J' n', Qr1 h' J' n' → GP X M ini E Q kc ks (pc + 3) L st h' J' n') : GP X M ini E Q (kc + mc) (ks + ms) pc L stk h J n := by
  intro p l e R s m args below meth c H locs cells slots ls S Y
  have hE := S.2.2.2.2.2.2.2.2.1.1
  have hAx := S.2.2.2.2.2.2.2.2.1.2
  have y1 := Y.2.2.2.1
  have y2 := Y.2.2.2.2
  have s1 := S.2.2.2.2.2.2.2.2.2.1
  have s2 := S.2.2.2.2.2.2.2.2.2.2.1
  have s3 := S.2.2.2.2.2.2.2.2.2.2.2.1
  have s4 := S.2.2.2.2.2.2.2.2.2.2.2.2
  have cb := callN_p (y := y) (My := My) (ix := ix) (fr := fr) (lo := lo) (mc := mc) (ms := ms) (k := As.length) S.2.2.2.2.2.1 hE.2.2.2.2.2 hcode hini hl hok (R := R) (own := M.1) ⟨by omega, by omega⟩
  have hM := hC l
  rw [hret] at cb hM
  exact p_run S Y (va_runIN (b := X.2.2.1 b) (As := As.map (rv X)) (rest := st.map (rv X)) ⟨S.1, S.2.1, S.2.2.1, S.2.2.2.2.1, S.2.2.2.2.2.1⟩ hM ⟨cb, hy, S.2.2.2.2.2.1 _ hi⟩ ⟨pp_blind, fun U hU hw => pre_p (av := .ref b :: As) hE hAx Y.1 Y.2.1 hU hw⟩ rfl (by rw [List.length_map]) Y.2.2.1.1 (by rw [hstk]; simp [rv]) (st_room hst) hd ⟨by omega, by omega⟩) kk
/-- a method of the same object -/
theorem p_callV {b c a1 a2 a3 : Nat} {q : vw_C} (hd : decode M.2.1 pc = .ok (.invokevirtual ix, 3)) (hk : kd b = (0, c, a1, a2, a3)) (hib : idx b < n) (hc : clsL[c]? = some q) (hq : q.1 = y.cls) (hl : Cond.methodLink M.1 ix y ∈ TT) (hi : Cond.instanceMethod y ∈ TT) (hs : Cond.selects y.cls y y ∈ TT) (hini : Cond.initialized y.cls ∈ TT) (hcode : Cond.code y My.2.1 My.2.2.1 My.2.2.2 ∈ TT) (hok : okD y As.length) (hR : fr + 1 ≤ E.1 ∧ 8 + (My.2.2.1 + 11) + lo ≤ E.2.1) (hst : (st.map fun v => v.category).sum ≤ 8) (hstk : stk = As.reverse ++ .ref b :: st)
    (hC : ConP X y My fr lo mc ms (.ref b :: As) h J n Qr1) (kk : ∀ h' J' n', Qr1 h' J' n' → GP X M ini E Q kc ks (pc + 3) L st h' J' n') : GP X M ini E Q (kc + mc) (ks + ms) pc L stk h J n := by
  intro p l e R s m args below meth c0 H locs cells slots ls S Y
  have hE := S.2.2.2.2.2.2.2.2.1.1
  have hAx := S.2.2.2.2.2.2.2.2.1.2
  have y1 := Y.2.2.2.1
  have y2 := Y.2.2.2.2
  have s1 := S.2.2.2.2.2.2.2.2.2.1
  have s2 := S.2.2.2.2.2.2.2.2.2.2.1
  have s3 := S.2.2.2.2.2.2.2.2.2.2.2.1
  have s4 := S.2.2.2.2.2.2.2.2.2.2.2.2
  refine p_run S Y (va_runV (C := y.cls) (b := X.2.2.1 b) (As := As.map (rv X)) (rest := st.map (rv X)) ⟨S.1, S.2.1, S.2.2.1, S.2.2.2.2.1, S.2.2.2.2.2.1⟩ (hC l) ⟨callB_p (k := As.length) S.2.2.2.2.2.1 hE.2.2.2.2.2 hcode hini hl hok ⟨by omega, by omega⟩, S.2.2.2.2.2.1 _ hi, S.2.2.2.2.2.1 _ hs⟩ ⟨pp_blind, ?_, fun U hU hw => pre_p (av := .ref b :: As) hE hAx Y.1 Y.2.1 hU hw⟩ rfl (by rw [List.length_map]) Y.2.2.1.1 (by rw [hstk]; simp [rv]) (st_room hst) hd ⟨by omega, by omega⟩) kk
  have w := Y.1.1 b (kd_lt hk (by decide)) hib
  rw [hk] at w
  obtain ⟨cell, g1, g2, g3⟩ := va_recv (q0 := 0) Y.1.2.1 (va_one w) hc rfl
  exact ⟨cell, g1, g2, by rw [← hq]; exact g3⟩
end GP3
/-! rows of rows -/
theorem WP.newN {X : Cx} {h : Hp} {J : Jt} {n : Nat} {H H1 : Heap} {s : State} (w : WP X h J n H s) {p0 N : Nat} (hp : p0 + N < NP) (hi : ∀ j, j ≤ N → idx (p0 + j) = n + j) (e : ∀ j, j ≤ N → va_at X.1 clsL (X.2.2.1 (p0 + j), entP X h (J (p0 + j)) (p0 + j) (kd (p0 + j))) H1) (z : H1.size = H.size + (N + 1)) (o : ∀ q, q < H.size → H1[q]? = H[q]?) : WP X h J (n + (N + 1)) H1 s := by
  obtain ⟨w1, w2, w3, w4, w5⟩ := w
  refine ⟨fun q hqN hqi => ?_, w2, by omega, fun q hq2 => w4 q (by omega), w5⟩
  by_cases c : idx q < n
  · have h0 := w1 q hqN c
    exact h0.kept (o _ h0.lt)
  · have hj : idx q - n ≤ N := by omega
    have hq : q = p0 + (idx q - n) := idx_inj (by rw [hi _ hj]; omega)
    rw [hq]
    exact e _ hj
theorem outer_c (c : ClassId) (N h0 : Nat) : ∀ i : Nat, Jvm.Free.Multi.outerC c N h0 i = arrV c N (fun j => va_rf (if j < i then some (h0 + 1 + j) else none))
  | 0 => by
    show ({ cls := c, slots := Array.replicate N .null, vm := .none } : Cell) = _
    rw [arrV_new]
    refine congrArg (arrV c N) (funext fun j => ?_)
    simp [va_rf]
  | i + 1 => by
    show (Jvm.Free.Multi.outerC c N h0 i).setSlot i (.ref (h0 + 1 + i)) = _
    rw [outer_c c N h0 i, arrV_store]
    refine congrArg (arrV c N) (funext fun j => ?_)
    by_cases e : j = i
    · subst e
      simp [updV, va_rf]
    · by_cases h : j < i
      · simp [updV, e, h, Nat.lt_succ_of_lt h]
      · simp [updV, e, h, show ¬ j < i + 1 by omega]
section GP4
variable {X : Cx} {M : Mi} {ini : Bool} {E : Rm} {Q : Qf} {kc ks pc : Nat} {L : List (Nat × Value)} {st : List Value} {h : Hp} {J : Jt} {n : Nat}
theorem p_mna2 {b N K d t0 ix NK N1 : Nat} {ty : FieldType} {v1 v2 : Int32} (hd : decode M.2.1 pc = .ok (.multianewarray ix 2, 4)) (hk : kd b = (2, N, b + 1, 1, d)) (hp : b + N < NP) (hi : ∀ j, j ≤ N → idx (b + j) = n + j) (hv1 : v1 = nI N) (hv2 : v2 = nI K) (hN : N ≤ 100000) (hK : K ≤ 100000) (hNK : N + N * K = NK) (hN1 : N + 1 = N1) (hJ : ∀ k, J b k = true)
    (hty : ∀ X : Cx, (tyX X)[d]? = some (X.2.1 d, .array ty)) (ht0 : ∀ X : Cx, (tyX X)[t0]? = some (X.2.1 t0, ty)) (hdv : defaultValue ty = .int 0) (hcb : componentBytes ty ≤ 8) (hft : fits ty (defaultValue ty) = true) (hprim : va_RA = va_RA → ∀ (U : State) (cA : ClassId), va_RA U cA ty → U.vm.findClass ("[" ++ ty.toString) = some cA)
    (hin : ∀ j, j < N → h (b + 1 + j) = (fun _ => 0) → ∀ X : Cx, entP X h (J (b + 1 + j)) (b + 1 + j) (kd (b + 1 + j)) = .inl (X.2.1 t0, K, .inl (fun _ => 0)))
    (hcl : Cond.classLink M.1 ix ("[" ++ (FieldType.array ty).toString) ∈ TT) (hti : ty = .int ∨ ty = .boolean) (k : GP X M ini E Q kc ks (pc + 4) L (.ref b :: st) h J (n + N1)) : GP X M ini E Q (kc + N1) (ks + NK) pc L (.int v2 :: .int v1 :: st) h J n := by
  intro p l e R s m args below meth c0 H locs cells slots ls S Y
  subst hv1 hv2 hN1
  have y1 := Y.2.2.2.1
  have y2 := Y.2.2.2.2
  have s1 := S.2.2.2.2.2.2.2.2.2.2.2.1
  have s2 := S.2.2.2.2.2.2.2.2.2.2.2.2
  have hsz := Y.1.2.2.1
  have hS := Y.2.1
  have cN : (nI N).toNatClampNeg = N := nI_clamp (by omega)
  have cK : (nI K).toNatClampNeg = K := nI_clamp (by omega)
  intro T hT Xs
  have hKc : K * componentBytes ty ≤ 800000 := Nat.le_trans (Nat.mul_le_mul hK hcb) (by decide)
  obtain ⟨vm₁, cA, comp, -, fA, fC, -, -, X', step⟩ := Xs.multianewarray2F S.1 S.2.2.2.2.1 (S.2.2.2.2.2.1 _ hcl) (S.2.2.2.2.2.2.2.2.1.2.a (by rcases hti with h | h <;> simp [h])) (S.2.2.2.2.2.2.2.2.1.2.c hti) (g := F0 m pc ls (.int (nI K) :: .int (nI N) :: st.map (rv X))) rfl (by rw [S.2.1]; exact hd) rfl (nI_pos (by omega)) (nI_pos (by omega)) (by rw [cN]; omega) (by rw [cK]; omega) (by rw [cK]; omega) hft (by rw [hdv]; rfl) (by rw [cN]; omega) (by rw [cN, cK]; omega)
  rw [cN, cK] at X' step
  have hA : cA = X.2.1 d := Option.some.inj (fA.symm.trans ((Y.1.2.1.2 d (X.2.1 d, .array ty) (hty X)).2 : s.vm.findClass ("[" ++ (FieldType.array ty).toString) = some (X.2.1 d)))
  have hC : comp = X.2.1 t0 := Option.some.inj (fC.symm.trans (hprim rfl s _ (Y.1.2.1.2 t0 (X.2.1 t0, ty) (ht0 X)).2))
  subst hA hC
  generalize hF : Jvm.Free.Multi.fill (T.setVm vm₁) (X.2.1 d) (X.2.1 t0) N K (defaultValue ty) N = F at X' step
  have hTh : (T.setVm vm₁).heap = H := hT
  obtain ⟨f1, f2, -, -⟩ := Jvm.Free.Multi.fill_facts (T.setVm vm₁) (X.2.1 d) (X.2.1 t0) N K (defaultValue ty) N
  rw [hF, hTh] at f1 f2
  have hold : ∀ x : Nat, x < H.size → F.heap[x]? = H[x]? := fun x hx => by
    have := Jvm.Free.Multi.fill_old (T.setVm vm₁) (X.2.1 d) (X.2.1 t0) N K (defaultValue ty) (a := x) (by rw [hTh]; exact hx) N
    rw [hF, hTh] at this
    exact this
  have hrow : ∀ j : Nat, j < N → F.heap[H.size + 1 + j]? = some (arrV (X.2.1 t0) K (fun _ => .int 0)) := fun j hj => by
    have := Jvm.Free.Multi.fill_inner (T.setVm vm₁) (X.2.1 d) (X.2.1 t0) N K (defaultValue ty) N j hj
    rw [hF, hTh] at this
    rw [this]
    show some ({ cls := X.2.1 t0, slots := Array.replicate K (defaultValue ty), vm := .none } : Cell) = _
    rw [hdv, arrV_new]
  have xo := Y.1.2.2.2.2
  have hX : ∀ j, j ≤ N → X.2.2.1 (b + j) = H.size + j := fun j hj => by rw [xo (b + j) (by omega), hi j hj, hsz]; omega
  have hX0 : X.2.2.1 b = H.size := hX 0 (by omega)
  have hW : WP X h J (n + (N + 1)) F.heap s := by
    refine Y.1.newN hp hi (fun j hj => ?_) (by rw [f1]; omega) hold
    rcases j with _ | j
    · show va_at X.1 clsL (X.2.2.1 b, entP X h (J b) b (kd b)) F.heap
      rw [hk, hX0]
      show F.heap[H.size]? = some (vp_cell (X.2.1 d) (N, .inr (.inr (.inr (.inr (fun j => if j < N then (if J b j = true then some (X.2.2.1 (b + 1 + 1 * j)) else none) else none))))))
      rw [f2, vp_cell_q, outer_c]
      congr 2
      funext j
      by_cases c : j < N
      · have hx := hX (1 + j) (by omega)
        rw [if_pos c, if_pos c, if_pos (hJ j), show b + 1 + 1 * j = b + (1 + j) by omega, hx]
        exact congrArg va_rf (congrArg some (by omega))
      · rw [if_neg c, if_neg c]
    · have e1 : b + (j + 1) = b + 1 + j := by omega
      have hx := hX (j + 1) hj
      rw [e1] at hx ⊢
      have h0 : h (b + 1 + j) = fun _ => 0 := Y.1.2.2.2.1 _ (by have := hi (j + 1) hj; rw [e1] at this; omega)
      rw [hin j (by omega) h0 X, hx]
      show F.heap[H.size + (j + 1)]? = some (vp_cell (X.2.1 t0) (K, .inl (fun _ => 0)))
      rw [vp_cell_i, show H.size + (j + 1) = H.size + 1 + j by omega]
      exact hrow j (by omega)
  obtain ⟨t, a1, b1⟩ := k p l e R s m args below meth c0 F.heap locs (cells + 1 + N) (slots + N + N * K) ls S ⟨hW, ⟨Nat.le_trans hS.1 (by rw [f1]; omega), fun x h1 h2 => (hold x (Nat.lt_of_lt_of_le h1 hS.1)).trans (hS.2.1 x h1 h2), hS.2.2⟩, Y.2.2.1, by omega, by omega⟩ F rfl X'
  refine ⟨t, step t ?_, b1⟩
  have e9 : T.heap.size = X.2.2.1 b := by rw [hX0]; exact congrArg Array.size hTh
  rw [e9]
  exact a1
end GP4
