/-! helpers of the printed proofs; rows of the JDK members -/
def xnm : List String := ["java/lang/RuntimeException", "java/lang/Exception"]
theorem xnm_ok : ∀ n ∈ xnm, Bundle.fit n = true := by decide +kernel
theorem wM_ini : Cond.initialized "java/lang/Math" ∈ TT := tt_in 121 (by decide +kernel) (by decide +kernel)
theorem wM_smax : Cond.static Lib.Math.max.name ∈ TT := tt_in 1112 (by decide +kernel) (by decide +kernel)
theorem wM_cmax : Cond.code Lib.Math.max.name Lib.Math.max.code 2 (some .int) ∈ TT := tt_in 1113 (by decide +kernel) (by decide +kernel)
theorem wM_smin : Cond.static Lib.Math.min.name ∈ TT := tt_in 511 (by decide +kernel) (by decide +kernel)
theorem wM_cmin : Cond.code Lib.Math.min.name Lib.Math.min.code 2 (some .int) ∈ TT := tt_in 512 (by decide +kernel) (by decide +kernel)
theorem wM_sabs : Cond.static Lib.Math.abs.name ∈ TT := tt_in 580 (by decide +kernel) (by decide +kernel)
theorem wM_cabs : Cond.code Lib.Math.abs.name Lib.Math.abs.code 1 (some .int) ∈ TT := tt_in 581 (by decide +kernel) (by decide +kernel)
theorem wM_smaxL : Cond.static Lib.MathLoose.max_long.x ∈ TT := tt_in 609 (by decide +kernel) (by decide +kernel)
theorem wM_cmaxL : Cond.code Lib.MathLoose.max_long.x Lib.MathLoose.max_long.code 4 (some .long) ∈ TT := tt_in 610 (by decide +kernel) (by decide +kernel)
theorem wM_sminL : Cond.static Lib.MathLoose.min_long.x ∈ TT := tt_in 606 (by decide +kernel) (by decide +kernel)
theorem wM_cminL : Cond.code Lib.MathLoose.min_long.x Lib.MathLoose.min_long.code 4 (some .long) ∈ TT := tt_in 607 (by decide +kernel) (by decide +kernel)
section GJ
variable {X : Cx} {M : Mi} {E : Rm} {Q : Qf} {kc pc : Nat} {L : List (Nat × Value)} {st : List Value} {h : Hp}
theorem rm_room {n : Nat} {R : Room} {lo : Nat} (X : Cx) (h : (st.map fun v => v.category).sum + n ≤ lo) (hl : lo ≤ R.locals) : ((st.map (rv X)).map fun v => v.category).sum + n ≤ R.locals := by
  have e : (st.map (rv X)).map (fun v => v.category) = st.map (fun v => v.category) := by
    rw [List.map_map]
    apply List.map_congr_left
    intro v _
    exact rv_cat X v
  rw [e]
  omega
theorem g_mmax {x y : Int32} {ix : Nat} (hd : decode M.2.1 pc = .ok (.invokestatic ix, 3)) (hl : Cond.methodLink M.1 ix Lib.Math.max.name ∈ TT) (hr : 1 ≤ E.1) (hlo : (st.map fun v => v.category).sum + 13 ≤ E.2.1) (k : G X M E Q kc (pc + 3) L (.int (if x < y then y else x) :: st) h) : G X M E Q kc pc L (.int y :: .int x :: st) h := by
  intro p l e R s m args below meth c H locs cells slots ls S Y
  have hSf := S.2.2.2.2.2.2.2.2.2.2
  have y1 := Y.2.2.2.1
  have y2 := Y.2.2.2.2
  exact va_mmax S.1 S.2.1 (S.2.2.1.trans Y.2.2.1.1.symm) S.2.2.2.2.1 (S.2.2.2.2.2.1 _ hl) (S.2.2.2.2.2.1 _ wM_smax) (S.2.2.2.2.2.1 _ wM_ini) (S.2.2.2.2.2.1 _ wM_cmax) (by omega) (rm_room X hlo hSf.2.1) (by omega) (by omega) hd (k p l e R s m args below meth c H locs cells slots ls S Y)
theorem g_mmin {x y : Int32} {ix : Nat} (hd : decode M.2.1 pc = .ok (.invokestatic ix, 3)) (hl : Cond.methodLink M.1 ix Lib.Math.min.name ∈ TT) (hr : 1 ≤ E.1) (hlo : (st.map fun v => v.category).sum + 13 ≤ E.2.1) (k : G X M E Q kc (pc + 3) L (.int (if y < x then y else x) :: st) h) : G X M E Q kc pc L (.int y :: .int x :: st) h := by
  intro p l e R s m args below meth c H locs cells slots ls S Y
  have hSf := S.2.2.2.2.2.2.2.2.2.2
  have y1 := Y.2.2.2.1
  have y2 := Y.2.2.2.2
  exact va_mmin S.1 S.2.1 (S.2.2.1.trans Y.2.2.1.1.symm) S.2.2.2.2.1 (S.2.2.2.2.2.1 _ hl) (S.2.2.2.2.2.1 _ wM_smin) (S.2.2.2.2.2.1 _ wM_ini) (S.2.2.2.2.2.1 _ wM_cmin) (by omega) (rm_room X hlo hSf.2.1) (by omega) (by omega) hd (k p l e R s m args below meth c H locs cells slots ls S Y)
theorem g_mabs {x : Int32} {ix : Nat} (hd : decode M.2.1 pc = .ok (.invokestatic ix, 3)) (hl : Cond.methodLink M.1 ix Lib.Math.abs.name ∈ TT) (hr : 1 ≤ E.1) (hlo : (st.map fun v => v.category).sum + 13 ≤ E.2.1) (k : G X M E Q kc (pc + 3) L (.int (if 0 ≤ x then x else 0 - x) :: st) h) : G X M E Q kc pc L (.int x :: st) h := by
  intro p l e R s m args below meth c H locs cells slots ls S Y
  have hSf := S.2.2.2.2.2.2.2.2.2.2
  have y1 := Y.2.2.2.1
  have y2 := Y.2.2.2.2
  exact va_mabs S.1 S.2.1 (S.2.2.1.trans Y.2.2.1.1.symm) S.2.2.2.2.1 (S.2.2.2.2.2.1 _ hl) (S.2.2.2.2.2.1 _ wM_sabs) (S.2.2.2.2.2.1 _ wM_ini) (S.2.2.2.2.2.1 _ wM_cabs) (by omega) (rm_room X hlo hSf.2.1) (by omega) (by omega) hd (k p l e R s m args below meth c H locs cells slots ls S Y)
theorem g_mmaxL {x y : Int64} {ix : Nat} (hd : decode M.2.1 pc = .ok (.invokestatic ix, 3)) (hl : Cond.methodLink M.1 ix Lib.MathLoose.max_long.x ∈ TT) (hr : 1 ≤ E.1) (hlo : (st.map fun v => v.category).sum + 15 ≤ E.2.1) (k : G X M E Q kc (pc + 3) L (.long (if y < x then x else y) :: st) h) : G X M E Q kc pc L (.long y :: .long x :: st) h := by
  intro p l e R s m args below meth c H locs cells slots ls S Y
  have hSf := S.2.2.2.2.2.2.2.2.2.2
  have y1 := Y.2.2.2.1
  have y2 := Y.2.2.2.2
  exact va_mmax_long S.1 S.2.1 (S.2.2.1.trans Y.2.2.1.1.symm) S.2.2.2.2.1 (S.2.2.2.2.2.1 _ hl) (S.2.2.2.2.2.1 _ wM_smaxL) (S.2.2.2.2.2.1 _ wM_ini) (S.2.2.2.2.2.1 _ wM_cmaxL) (by omega) (rm_room X hlo hSf.2.1) (by omega) (by omega) hd (k p l e R s m args below meth c H locs cells slots ls S Y)
theorem g_mminL {x y : Int64} {ix : Nat} (hd : decode M.2.1 pc = .ok (.invokestatic ix, 3)) (hl : Cond.methodLink M.1 ix Lib.MathLoose.min_long.x ∈ TT) (hr : 1 ≤ E.1) (hlo : (st.map fun v => v.category).sum + 15 ≤ E.2.1) (k : G X M E Q kc (pc + 3) L (.long (if y < x then y else x) :: st) h) : G X M E Q kc pc L (.long y :: .long x :: st) h := by
  intro p l e R s m args below meth c H locs cells slots ls S Y
  have hSf := S.2.2.2.2.2.2.2.2.2.2
  have y1 := Y.2.2.2.1
  have y2 := Y.2.2.2.2
  exact va_mmin_long S.1 S.2.1 (S.2.2.1.trans Y.2.2.1.1.symm) S.2.2.2.2.1 (S.2.2.2.2.2.1 _ hl) (S.2.2.2.2.2.1 _ wM_sminL) (S.2.2.2.2.2.1 _ wM_ini) (S.2.2.2.2.2.1 _ wM_cminL) (by omega) (rm_room X hlo hSf.2.1) (by omega) (by omega) hd (k p l e R s m args below meth c H locs cells slots ls S Y)
theorem g_slen {si ix : Nat} (hd : decode M.2.1 pc = .ok (.invokevirtual ix, 3)) (hl : Cond.methodLink M.1 ix yJ0_length_8abf5 ∈ TT) (hsi : si < NS) (hr : 6 ≤ E.1) (hlo : 200 ≤ E.2.1) (hst : (st.map fun v => v.category).sum ≤ 8) (k : G X M E Q kc (pc + 3) L (.int (slen si) :: st) h) : G X M E Q kc pc L (.ref (SB + 2 * si) :: st) h := by
  refine g_callT (As := []) (kc := kc) (fr := 1) (lo := 40) (mc := 0) (My := M_slen) hsi hd rfl hl ws_i_slen ws_v_slen ws_n_String ws_c_slen okD_slen ⟨by omega, by show 8 + (1 + 11) + 40 ≤ E.2.1; omega⟩ hst rfl (c_slen hsi h True trivial) (fun _ _ hx => hx.elim) (fun r h' hq => ?_)
  obtain ⟨rfl, rfl, -⟩ := hq
  exact k
theorem g_sch {si ix : Nat} {i : Int32} (hd : decode M.2.1 pc = .ok (.invokevirtual ix, 3)) (hl : Cond.methodLink M.1 ix yJ0_charAt_5068e ∈ TT) (hsi : si < NS) (hin : vp_in i (bytL.getD si []).length) (hr : 6 ≤ E.1) (hlo : 200 ≤ E.2.1) (hst : (st.map fun v => v.category).sum ≤ 8) (k : G X M E Q kc (pc + 3) L (.int (sch si i.toNatClampNeg) :: st) h) : G X M E Q kc pc L (.int i :: .ref (SB + 2 * si) :: st) h := by
  refine g_callT (As := [.int i]) (kc := kc) (fr := 3) (lo := 120) (mc := 0) (My := M_cha) hsi hd rfl hl ws_i_cha ws_v_cha ws_n_String ws_c_cha okD_cha ⟨by omega, by show 8 + (2 + 11) + 120 ≤ E.2.1; omega⟩ hst rfl (c_cha hsi hin h True trivial) (fun _ _ hx => hx.elim) (fun r h' hq => ?_)
  obtain ⟨rfl, rfl, -⟩ := hq
  exact k
theorem g_getI (k9 : Nat) {b c ix : Nat} {q : vw_C} {a1 a2 a3 : Nat} (hd : decode M.2.1 pc = .ok (.getfield ix, 3)) (hk : kd b = (0, c, a1, a2, a3)) (hc : clsL[c]? = some q) (hnf : nf c = q.2.2) (hkn : k9 < q.2.2) (hw : Cond.fieldLink M.1 ix q.1 (q.2.1 k9).2.1 (q.2.1 k9).2.2.1 ∈ TT) (ho : (q.2.1 k9).1 = q.1) (hf : fk c k9 = 0) (k : G X M E Q kc (pc + 3) L (.int (h b k9) :: st) h) : G X M E Q kc pc L (.ref b :: st) h := by
  refine g_get k9 hd hk hc hnf hkn hw ho ?_ k
  unfold fgv
  rw [hf]
  rfl
theorem g_getZ (k9 : Nat) {b c ix : Nat} {q : vw_C} {a1 a2 a3 : Nat} (hd : decode M.2.1 pc = .ok (.getfield ix, 3)) (hk : kd b = (0, c, a1, a2, a3)) (hc : clsL[c]? = some q) (hnf : nf c = q.2.2) (hkn : k9 < q.2.2) (hw : Cond.fieldLink M.1 ix q.1 (q.2.1 k9).2.1 (q.2.1 k9).2.2.1 ∈ TT) (ho : (q.2.1 k9).1 = q.1) (hf : fk c k9 = 1) (k : G X M E Q kc (pc + 3) L (.int (h b k9 &&& 1) :: st) h) : G X M E Q kc pc L (.ref b :: st) h := by
  refine g_get k9 hd hk hc hnf hkn hw ho ?_ k
  unfold fgv
  rw [hf]
  rfl
theorem g_getR (k9 : Nat) {b c ix : Nat} {q : vw_C} {t : Nat} {a1 a2 a3 : Nat} (hd : decode M.2.1 pc = .ok (.getfield ix, 3)) (hk : kd b = (0, c, a1, a2, a3)) (hc : clsL[c]? = some q) (hnf : nf c = q.2.2) (hkn : k9 < q.2.2) (hw : Cond.fieldLink M.1 ix q.1 (q.2.1 k9).2.1 (q.2.1 k9).2.2.1 ∈ TT) (ho : (q.2.1 k9).1 = q.1) (hf : fk c k9 = 2) (ht : tg b k9 = t) (k : G X M E Q kc (pc + 3) L (.ref t :: st) h) : G X M E Q kc pc L (.ref b :: st) h := by
  refine g_get k9 hd hk hc hnf hkn hw ho ?_ k
  unfold fgv
  rw [hf]
  rw [ht]
  rfl
theorem g_getNI (k9 : Nat) {b c ix : Nat} {q : vw_C} {host : String} {a1 a2 a3 : Nat} (hd : decode M.2.1 pc = .ok (.getfield ix, 3)) (hk : kd b = (0, c, a1, a2, a3)) (hc : clsL[c]? = some q) (hnf : nf c = q.2.2) (hkn : k9 < q.2.2) (hw : Cond.fieldLinkNest M.1 ix q.1 (q.2.1 k9).2.1 (q.2.1 k9).2.2.1 host ∈ TT) (ho : (q.2.1 k9).1 = q.1) (hf : fk c k9 = 0) (k : G X M E Q kc (pc + 3) L (.int (h b k9) :: st) h) : G X M E Q kc pc L (.ref b :: st) h := by
  refine g_getN k9 hd hk hc hnf hkn hw ho ?_ k
  unfold fgv
  rw [hf]
  rfl
theorem g_getNZ (k9 : Nat) {b c ix : Nat} {q : vw_C} {host : String} {a1 a2 a3 : Nat} (hd : decode M.2.1 pc = .ok (.getfield ix, 3)) (hk : kd b = (0, c, a1, a2, a3)) (hc : clsL[c]? = some q) (hnf : nf c = q.2.2) (hkn : k9 < q.2.2) (hw : Cond.fieldLinkNest M.1 ix q.1 (q.2.1 k9).2.1 (q.2.1 k9).2.2.1 host ∈ TT) (ho : (q.2.1 k9).1 = q.1) (hf : fk c k9 = 1) (k : G X M E Q kc (pc + 3) L (.int (h b k9 &&& 1) :: st) h) : G X M E Q kc pc L (.ref b :: st) h := by
  refine g_getN k9 hd hk hc hnf hkn hw ho ?_ k
  unfold fgv
  rw [hf]
  rfl
theorem g_getNR (k9 : Nat) {b c ix : Nat} {q : vw_C} {host : String} {t : Nat} {a1 a2 a3 : Nat} (hd : decode M.2.1 pc = .ok (.getfield ix, 3)) (hk : kd b = (0, c, a1, a2, a3)) (hc : clsL[c]? = some q) (hnf : nf c = q.2.2) (hkn : k9 < q.2.2) (hw : Cond.fieldLinkNest M.1 ix q.1 (q.2.1 k9).2.1 (q.2.1 k9).2.2.1 host ∈ TT) (ho : (q.2.1 k9).1 = q.1) (hf : fk c k9 = 2) (ht : tg b k9 = t) (k : G X M E Q kc (pc + 3) L (.ref t :: st) h) : G X M E Q kc pc L (.ref b :: st) h := by
  refine g_getN k9 hd hk hc hnf hkn hw ho ?_ k
  unfold fgv
  rw [hf]
  rw [ht]
  rfl
theorem kIp {Q1 : Int32 → Prop} (k : ∀ v, Q1 v → G X M E Q kc pc L (.int v :: st) h) : ∀ r h', QIp h Q1 r h' → G X M E Q kc pc L (r.toList ++ st) h' := by
  rintro r h' ⟨v, rfl, rfl, hw⟩
  exact k v hw
theorem kI {Q1 : Int32 → Hp → Prop} (k : ∀ v h', Q1 v h' → G X M E Q kc pc L (.int v :: st) h') : ∀ r h', QI Q1 r h' → G X M E Q kc pc L (r.toList ++ st) h' := by
  rintro r h' ⟨v, rfl, hw⟩
  exact k v h' hw
theorem kLp {Q1 : Int64 → Prop} (k : ∀ v, Q1 v → G X M E Q kc pc L (.long v :: st) h) : ∀ r h', QLp h Q1 r h' → G X M E Q kc pc L (r.toList ++ st) h' := by
  rintro r h' ⟨v, rfl, rfl, hw⟩
  exact k v hw
theorem kL {Q1 : Int64 → Hp → Prop} (k : ∀ v h', Q1 v h' → G X M E Q kc pc L (.long v :: st) h') : ∀ r h', QL Q1 r h' → G X M E Q kc pc L (r.toList ++ st) h' := by
  rintro r h' ⟨v, rfl, hw⟩
  exact k v h' hw
theorem kVp {Q1 : Prop} (k : Q1 → G X M E Q kc pc L st h) : ∀ r h', QVp h Q1 r h' → G X M E Q kc pc L (r.toList ++ st) h' := by
  rintro r h' ⟨rfl, rfl, hw⟩
  exact k hw
theorem kV {Q1 : Hp → Prop} (k : ∀ h', Q1 h' → G X M E Q kc pc L st h') : ∀ r h', QV Q1 r h' → G X M E Q kc pc L (r.toList ++ st) h' := by
  rintro r h' ⟨rfl, hw⟩
  exact k h' hw
theorem kLaw {Q1 : Nat → Prop} (k : ∀ p, LawP p → Q1 p → G X M E Q kc pc L (.ref p :: st) h) : ∀ r h', QLaw h Q1 r h' → G X M E Q kc pc L (r.toList ++ st) h' := by
  rintro r h' ⟨p, rfl, hp, rfl, hw⟩
  exact k p hp hw
theorem kRec {Q1 : Option Nat → Prop} (k0 : Q1 none → G X M E Q kc pc L (.null :: st) h) (k1 : ∀ p, RecP p → Q1 (some p) → G X M E Q kc pc L (.ref p :: st) h) : ∀ r h', QRec h Q1 r h' → G X M E Q kc pc L (r.toList ++ st) h' := by
  rintro r h' ⟨o, rfl, hp, rfl, hw⟩
  cases o with
  | none => exact k0 hw
  | some p => exact k1 p (hp p rfl) hw
theorem g_heap (k : ∀ h' : Hp, h' = h → G X M E Q kc pc L st h') : G X M E Q kc pc L st h := k h rfl
theorem g_topi {x : Int32} (k : ∀ y : Int32, y = x → G X M E Q kc pc L (.int y :: st) h) : G X M E Q kc pc L (.int x :: st) h := k x rfl
theorem g_topl {x : Int64} (k : ∀ y : Int64, y = x → G X M E Q kc pc L (.long y :: st) h) : G X M E Q kc pc L (.long x :: st) h := k x rfl
theorem kxN {C : List Value} : ∀ (D : String) (h' : Hp), Qn D h' → GX X M E Q kc pc L C h' D := fun _ _ hx => hx.elim
theorem kxT {Qr : Option Value → Hp → Prop} {Qx : String → Hp → Prop} {C : List Value} : ∀ (D : String) (h' : Hp), Qx D h' → GX X M E (QM X E Qr Qx) kc pc L C h' D := fun _ _ hx => gx_out hx
theorem g_throwSW (i : Nat) {C tx : String} {ik is ic : Nat} {Qr : Option Value → Hp → Prop} {Qx : String → Hp → Prop} (names : List String) (hnm : names = ["java/lang/RuntimeException", "java/lang/Exception"]) (hcls : Bundle.fit C = true) (hn : ∀ n ∈ names, Bundle.fit n = true) (hi : strL[i]? = some (M.1, is, tx))
    (hk : Cond.classLink M.1 ik C ∈ TT) (hini : Cond.initialized C ∈ TT) (hat : ∀ w ∈ vx_atS M.1 ic C names, w ∈ TT)
    (d0 : decode M.2.1 pc = .ok (.new ik, 3)) (d3 : decode M.2.1 (pc + 3) = .ok (.dup, 1)) (d4 : decode M.2.1 (pc + 4) = .ok (.ldc_w is, 3)) (d7 : decode M.2.1 (pc + 7) = .ok (.invokespecial ic, 3)) (d10 : decode M.2.1 (pc + 10) = .ok (.athrow, 1))
    (hfr : 6 ≤ E.1) (hlo : 82 ≤ E.2.1) (hq : Qx C h) : G X M E (QM X E Qr Qx) (kc + 1) pc L [] h := by
  intro p l e R s m args below meth c H locs cells slots ls S Y
  have hSf := S.2.2.2.2.2.2.2.2.2.2
  subst hnm
  have y1 := Y.2.2.2.1
  have y2 := Y.2.2.2.2
  refine vx_throwSW (A := AA X) S.1 S.2.1 S.2.2.2.2.2.2.2.2.1 S.2.2.2.2.1 hcls hn (S.2.2.2.2.2.1 _ hk) (S.2.2.2.2.2.1 _ hini) (S.2.2.2.2.2.2.2.2.2.1.2.2.1 i _ hi) (fun w hw => S.2.2.2.2.2.1 w (hat w hw)) (fun w hw => ?_) S.2.2.2.2.2.2.2.2.2.1.2.2.2.1.1 S.2.2.2.2.2.2.2.2.2.1.2.2.2.1.2.1 Y.2.1 (Y.2.2.1.1.trans S.2.2.1.symm) d0 d3 d4 d7 d10 (fun x hx => absurd hx (S.2.2.2.2.2.2.2.1 x)) (by show 2 + 3 < R.frames; omega) (by show 0 + (13 * (2 + 1) + 43) ≤ R.locals; omega) (by omega) (by omega) S.2.2.2.2.2.2.1 (fun t hA hz hs => ⟨⟨h, hq, ?_⟩, ?_⟩) Y.2.1.2.2 (by omega) (by omega)
  · have h9 : w ∈ TT := by
      rcases List.mem_cons.mp hw with rfl | hw
      · exact hk
      · rcases List.mem_cons.mp hw with rfl | hw
        · exact hini
        · exact hat w hw
    unfold vx_ot
    rw [tt_tab h9]
    rfl
  · exact ⟨Y.1.1.kept (fun k q hq => hs q.1 ((Y.1.1 k q hq).lt)), va_K.moved hA Y.1.2.1, Y.1.2.2⟩
  · exact ⟨Nat.le_trans Y.2.1.1 hz, fun q h1 h2 => (hs q (Nat.lt_of_lt_of_le h1 Y.2.1.1)).trans (Y.2.1.2.1 q h1 h2)⟩
end GJ
theorem atS_173 : ∀ w ∈ vx_atS RX8 173 "java/lang/IllegalArgumentException" xnm, w ∈ TT := by
  intro w hw
  refine List.mem_filter.mpr ?_
  revert w
  decide +kernel
theorem atS_353 : ∀ w ∈ vx_atS RX8 353 "java/lang/IndexOutOfBoundsException" xnm, w ∈ TT := by
  intro w hw
  refine List.mem_filter.mpr ?_
  revert w
  decide +kernel
theorem atS_296 : ∀ w ∈ vx_atS RX8 296 "java/lang/IllegalStateException" xnm, w ∈ TT := by
  intro w hw
  refine List.mem_filter.mpr ?_
  revert w
  decide +kernel
