/-! rows of the law's own body -/
abbrev SCR : Nat := 200000
def QS (X : Cx) (N : Nat) (xs : Nat → Int32) (Q0 : Qf) : Qf := fun below args s t => (va_X (X.2.2.1 SCR) N xs s s.heap ∧ X.2.2.1 SCR < s.heap.size ∧ ¬ AA X (X.2.2.1 SCR) ∧ s.heap.size ≤ X.2.2.2) → Q0 below args s t
theorem qs_by {p : Program} {l : Launch} {e : Env} {R : Room} {s : State} {m : MethodId} {args : Array Value} {below : List Frame} {meth : Method} {c : Code} {H : Heap} {locs : List Loc} {cells slots : Nat} {P : Prop} {Q : State → Prop} {g : JFrame}
    (k : P → W p l e R s m args below meth c H locs cells slots (fun t => P → Q t) g) : W p l e R s m args below meth c H locs cells slots (fun t => P → Q t) g := by
  intro T hT XS
  by_cases hp : P
  · exact k hp T hT XS
  · exact ⟨_, Steps.refl _, fun h => absurd h hp⟩
def lw_Q (_ : Array Value) (s : State) (o : Outcome) (t : State) : Prop := o = .returned (some (.int 1)) ∧ Framed s o t [] 601024 7293034
def lw_Z (below : List Frame) (a : Array Value) (s : State) : State → Prop := fun t => ∃ o, t.status = .running ∧ Ended t below o ∧ lw_Q a s o t
/-- the law's own end, in any room -/
theorem lw_retR {p : Program} {l : Launch} {e : Env} {R : Room} {s : State} {m : MethodId} {below : List Frame} {meth : Method} {c : Code} {b : Nat} (hx : p.tables.exec = Jvm.exec) (hb : c.code = code) (hr : meth.sig.returnType = ret) (hlocks : meth.locks = false) {pc : Nat} {H : Heap} {ls : Array Slot} (hdg : decode code pc = .ok (.ireturn, 1)) : W p l e R s m #[Value.ref b] below meth c H [] 601024 7293034 (lw_Z below #[Value.ref b] s) (F0 m pc ls [.int 1]) := by
  intro T hT X
  obtain ⟨fs, hret, hrun, hended, hW, hframe⟩ := X.leave (v := some (.int 1)) (hlocks := hlocks) (fun h => by rw [hr] at h; cases h)
  have hmeth' : T.vm.method? m = some meth := X.method'
  refine ⟨T.setFrames fs, ?_, .returned (some (.int 1)), hrun, hended, rfl, ⟨_, rfl⟩, hW, hframe⟩
  jvm_step X.here [X.here.top, hx, hb, hdg, hmeth', hr, ret, narrow_b1]
  (try refine ⟨rfl, ?_⟩); (try refine ⟨rfl, ?_⟩)
  first | (intro acts; rw [hret _ acts rfl rfl rfl]) | rw [hret _ _ rfl rfl rfl]
  exact Steps.refl _
section GL
variable {X : Cx} {M : Mi} {E : Rm} {Q0 : Qf} {N : Nat} {xs : Nat → Int32} {kc pc : Nat} {L : List (Nat × Value)} {st : List Value} {h : Hp}
theorem g_sld {i : Int32} (hd : decode M.2.1 pc = .ok (.iaload, 1)) (hin : vp_in i N) (k : G X M E (QS X N xs Q0) kc (pc + 1) L (.int (xs i.toNatClampNeg) :: st) h) : G X M E (QS X N xs Q0) kc pc L (.int i :: .ref SCR :: st) h := by
  intro p l e R s m args below meth c H locs cells slots ls S Y
  exact qs_by (fun hP => va_sld S.1 S.2.1 hP.1 hP.2.1 hP.2.2.1 Y.2.1 hin hd (k p l e R s m args below meth c H locs cells slots ls S Y))
theorem g_slenS (hd : decode M.2.1 pc = .ok (.arraylength, 1)) (k : G X M E (QS X N xs Q0) kc (pc + 1) L (.int (nI N) :: st) h) : G X M E (QS X N xs Q0) kc pc L (.ref SCR :: st) h := by
  intro p l e R s m args below meth c H locs cells slots ls S Y
  exact qs_by (fun hP => va_slen S.1 S.2.1 hP.1 hP.2.1 hP.2.2.1 Y.2.1 hd (k p l e R s m args below meth c H locs cells slots ls S Y))
theorem g_lald {b n : Nat} {i : Int32} {Q : Qf} {a1 a2 a3 : Nat} (hd : decode M.2.1 pc = .ok (.laload, 1)) (hk : kd b = (4, n, a1, a2, a3)) (hin : vp_in i n) (k : G X M E Q kc (pc + 1) L (.long (h b i.toNatClampNeg).toInt64 :: st) h) : G X M E Q kc pc L (.int i :: .ref b :: st) h := by
  intro p l e R s m args below meth c0 H locs cells slots ls S Y
  exact va_lald (q0 := b) (t0 := 2) S.1 S.2.1 Y.1.2.1 Y.1.1 (longs_at hk) rfl hin hd (k p l e R s m args below meth c0 H locs cells slots ls S Y)
variable {y : MethodName} {My : Mi} {tb : Tb} {Q : Qf} {fr lo mc ix : Nat} {As : List Value} {Qr1 : Option Value → Hp → Prop} {stk : List Value}
theorem g_callSX (hd : decode M.2.1 pc = .ok (.invokestatic ix, 3)) (hl : Cond.methodLink M.1 ix y ∈ TT) (hs : Cond.static y ∈ TT) (hini : Cond.initialized y.cls ∈ TT) (hcode : Cond.codeWith y My.2.1 My.2.2.1 My.2.2.2 tb ∈ TT) (hok : okD y As.length) (hR : fr + 1 ≤ E.1 ∧ 8 + (My.2.2.1 + 11) + lo ≤ E.2.1) (hst : (st.map fun v => v.category).sum ≤ 8) (hstk : stk = As.reverse ++ st)
    (hC : ConH X y My tb fr lo mc As h Qr1) (kk : ∀ r h', Qr1 r h' → G X M E Q kc (pc + 3) L (r.toList ++ st) h') : G X M E Q (kc + mc) pc L stk h := by
  intro p l e R s m args below meth c H locs cells slots ls S Y
  have hSf := S.2.2.2.2.2.2.2.2.2.2
  have hE := S.2.2.2.2.2.2.2.2.2.1
  have y1 := Y.2.2.2.1
  have y2 := Y.2.2.2.2
  have hws : ∀ w ∈ ([.codeWith y My.2.1 My.2.2.1 My.2.2.2 tb] : List Cond), ∀ (a' : Array Value) (U : State), s.WarmedH U.vm → w.before a' U = true := by
    intro w hw a' U hW
    have e9 : w = .codeWith y My.2.1 My.2.2.1 My.2.2.2 tb := by simpa using hw
    subst e9
    exact va_Nw.use (tt_tab hcode) (tt_warm hcode hW (hE.2.2.2.2.2 _ hcode))
  refine g_run S Y (vx_runSX (hh := tb) (As := As.map (rv X)) (rest := st.map (rv X)) (n := As.length) ⟨S.1, S.2.1, S.2.2.1, S.2.2.2.2.1, S.2.2.2.2.2.1⟩ (hC l S.2.2.2.2.2.2.2.2.1) ⟨⟨rfl, rfl, by show fr + 1 ≤ R.frames; omega, by show 8 + (My.2.2.1 + 11) + lo ≤ R.locals; omega, hws, List.mem_cons_self⟩, S.2.2.2.2.2.1 _ hcode, S.2.2.2.2.2.1 _ hini, ⟨hok.1, hok.2.1⟩, fun sig hs9 => by
    have h2 := hok.2.2
    rw [hs9] at h2
    exact (Option.some.inj h2).symm, S.2.2.2.2.2.1 _ hl, S.2.2.2.2.2.1 _ hs⟩ ⟨pm_blind, fun U hU hw => pre_g hE Y.1 Y.2.1 hU hw⟩ rfl (by rw [List.length_map]) Y.2.2.1.1 (by rw [hstk]; simp) (st_room hst) hd ⟨by omega, by omega⟩) (fun _ _ hx => hx.elim) kk
def Q9 (b : Nat) : Qf := fun below args s t => args = #[.ref b] → lw_Z below #[.ref b] s t
theorem g_lawret {b : Nat} (hb : M.2.1 = code) (hr : M.2.2.2 = ret) (hd : decode M.2.1 pc = .ok (.ireturn, 1)) (hE : E.2.2.1 ≤ 601024 ∧ E.2.2.2 ≤ 7293034) : G X M E (QS X N xs (Q9 b)) kc pc L [.int 1] h := by
  intro p l e R s m args below meth c H locs cells slots ls S Y
  have y1 := Y.2.2.2.1
  have y2 := Y.2.2.2.2
  have hlocks : meth.locks = false := S.2.2.2.2.2.2.1
  by_cases ha : args = #[.ref b]
  · subst ha
    refine qs_by (fun hP => ?_)
    have hs : ∀ q ∈ locs, s.heap.size ≤ q.base := fun q hq => Nat.le_trans hP.2.2.2 (Y.2.1.2.2 q hq)
    intro T hT XS
    obtain ⟨t, a1, z⟩ := va_forget hs (W.widen (k := 601024) (n := 7293034) (by omega) (by omega) (lw_retR S.1 (S.2.1.trans hb) (S.2.2.2.1.trans hr) hlocks (by rw [← hb]; exact hd))) T hT XS
    exact ⟨t, a1, fun _ _ => z⟩
  · intro T hT XS
    exact ⟨_, Steps.refl _, fun _ h => absurd h ha⟩
end GL
