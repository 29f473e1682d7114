/-! the rows of the growing world that the law uses, by program (wip/whole/p98.py): one launch, a body without handlers -/
def GPx (l : Launch) (X : Cx) (M : Mi) (ini : Bool) (E : Rm) (Q : Qf) (kc ks pc : Nat) (L : List (Nat × Value)) (st : List Value) (h : Hp) (J : Jt) (n : Nat) : Prop :=
  ∀ (p : Program) (e : Env) (R : Room) (s : State) (m : MethodId) (args : Array Value) (below : List Frame) (meth : Method) (c : Code) (H : Heap) (locs : List Loc) (cells slots : Nat) (ls : Array Slot),
    KS X M ini E p R s m args meth c → (∀ x ∈ c.exceptionTable.toList, False) → KY X M E kc ks L h J n s H locs cells slots ls → W p l e R s m args below meth c H locs cells slots (Q below args s) (F0 m pc ls (st.map (rv X)))
section GX1
variable {l : Launch} {X : Cx} {M : Mi} {ini : Bool} {E : Rm} {Q : Qf} {kc ks pc : Nat} {L : List (Nat × Value)} {st : List Value} {h : Hp} {J : Jt} {n : Nat}
theorem x_iconst {z : Int} {v : Int32} (hd : decode M.2.1 pc = .ok (.iconst z, 1)) (hv : Int32.ofInt z = v) (k : GPx l X M ini E Q kc ks (pc + 1) L (.int v :: st) h J n) : GPx l X M ini E Q kc ks pc L st h J n := by
  intro p e R s m args below meth c H locs cells slots ls S Sx Y
  exact lv_iconst S.1 S.2.1 hd hv (k p e R s m args below meth c H locs cells slots ls S Sx Y)
theorem x_istore {i : Nat} {x : Int32}  {L' : List (Nat × Value)} (hd : decode M.2.1 pc = .ok (.istore i, 2))  (hn : i < M.2.2.1) (hl : sto1 L i (.int x) = L') (k : GPx l X M ini E Q kc ks (pc + 2) L' st h J n) : GPx l X M ini E Q kc ks pc L (.int x :: st) h J n := by
  intro p e R s m args below meth c H locs cells slots ls S Sx Y
  exact lv_istore S.1 S.2.1 hd  Y.2.2.1 hn (by rw [← hl]; exact lmap_sto1 X L i (.int x)) (fun ls' hls => k p e R s m args below meth c H locs cells slots ls' S Sx ⟨Y.1, Y.2.1, hls, Y.2.2.2⟩)
theorem x_astore_n {i : Nat} {x : Nat} {z : Fin 4} {L' : List (Nat × Value)} (hd : decode M.2.1 pc = .ok (.astore_n z, 1)) (hi : (z : Nat) = i) (hn : i < M.2.2.1) (hl : sto1 L i (.ref x) = L') (k : GPx l X M ini E Q kc ks (pc + 1) L' st h J n) : GPx l X M ini E Q kc ks pc L (.ref x :: st) h J n := by
  intro p e R s m args below meth c H locs cells slots ls S Sx Y
  exact lv_astore_n S.1 S.2.1 hd hi Y.2.2.1 hn (by rw [← hl]; exact lmap_sto1 X L i (.ref x)) (fun ls' hls => k p e R s m args below meth c H locs cells slots ls' S Sx ⟨Y.1, Y.2.1, hls, Y.2.2.2⟩)
theorem x_dup {v : Value} (hd : decode M.2.1 pc = .ok (.dup, 1)) (hc : v.category = 1) (k : GPx l X M ini E Q kc ks (pc + 1) L (v :: v :: st) h J n) : GPx l X M ini E Q kc ks pc L (v :: st) h J n := by
  intro p e R s m args below meth c H locs cells slots ls S Sx Y
  exact lv_dup S.1 S.2.1 hd (by rw [rv_cat]; exact hc) (k p e R s m args below meth c H locs cells slots ls S Sx Y)
theorem x_sub (is : List Nat) {L' : List (Nat × Value)} (hl : lv_pick L is = L') (k : GPx l X M ini E Q kc ks pc L' st h J n) : GPx l X M ini E Q kc ks pc L st h J n := by
  intro p e R s m args below meth c H locs cells slots ls S Sx Y
  refine k p e R s m args below meth c H locs cells slots ls S Sx ⟨Y.1, Y.2.1, ?_, Y.2.2.2⟩
  exact lv_sub Y.2.2.1 is (by rw [lmap_pick, hl])
theorem x_new {b c ix : Nat} {q : vw_C} {ty0 : Nat → FieldType} {a1 a2 a3 N : Nat} (hd : decode M.2.1 pc = .ok (.new ix, 3)) (hk : kd b = (0, c, a1, a2, a3)) (hi : idx b = n) (hc : clsL[c]? = some q) (hN : q.2.2 = N) (hnf : nf c = q.2.2) (hty : ∀ k, k < q.2.2 → parseFieldDescriptor (q.2.1 k).2.2.1 = some (ty0 k)) (hdf : ∀ j, j < q.2.2 → defaultValue (ty0 j) = if fk c j = 2 then .null else .int 0) (hJ : ∀ k, J b k = false)
    (hcl : Cond.classLink M.1 ix q.1 ∈ TT) (hins : Cond.instantiable q.1 q.2.2 ∈ TT) (hini : Cond.initialized q.1 ∈ TT) (k : GPx l X M ini E Q kc ks (pc + 3) L (.ref b :: st) h J (n + 1)) : GPx l X M ini E Q (kc + 1) (ks + N) pc L st h J n := by
  intro p e R s m args below meth c0 H locs cells slots ls S Sx Y
  subst hN
  have hb := kd_lt hk (by decide)
  have y1 := Y.2.2.2.1
  have y2 := Y.2.2.2.2
  have s1 := S.2.2.2.2.2.2.2.2.2.2.2.1
  have s2 := S.2.2.2.2.2.2.2.2.2.2.2.2
  have hKn := Y.1.2.1.1 c _ hc
  have hsz := Y.1.2.2.1
  have hS := Y.2.1
  refine W.newcK S.1 S.2.1 S.2.2.2.2.1 (S.2.2.2.2.2.1 _ hcl) (S.2.2.2.2.2.1 _ hins) (S.2.2.2.2.2.1 _ hini) rfl hd (by omega) (by omega) hKn.2.1 rfl fun H1 kC hkC e1 z1 o1 => ?_
  have hX : X.2.2.1 b = H.size := by rw [Y.1.2.2.2.2 b hb, hi, hsz]
  have h0 : h b = fun _ => 0 := Y.1.2.2.2.1 b (by omega)
  show W p l e R s m args below meth c0 H1 locs (cells + 1) (slots + q.2.2) (Q below args s) (F0 m (pc + 3) ls (.ref H.size :: st.map (rv X)))
  rw [← hX]
  refine k p e R s m args below meth c0 H1 locs (cells + 1) (slots + q.2.2) ls S Sx ⟨Y.1.new hb hi ?_ z1 o1, ⟨Nat.le_trans hS.1 (by omega), fun x h1 h2 => (o1 x (Nat.lt_of_lt_of_le h1 hS.1)).trans (hS.2.1 x h1 h2), hS.2.2⟩, Y.2.2.1, by omega, by omega⟩
  rw [hk, hX]
  refine ⟨_, hc, (u_born ty0 S.2.2.2.2.2.1 (cls_z hc) hKn hkC e1 hty).to (fun j hj => ?_)⟩
  rw [hdf j hj]
  show _ = ((List.range (nf c)).map (fvalP X h (J b) b c)).getD j .null
  rw [List.getD_eq_getElem?_getD, rng_at _ _ (by rw [hnf]; exact hj)]
  show _ = fvalP X h (J b) b c j
  unfold fvalP
  rw [h0, hJ j]
  by_cases c2 : fk c j = 2
  · rw [if_pos c2, if_pos c2, if_neg (by decide)]
  · rw [if_neg c2, if_neg c2]
    split
    · show Value.int 0 = Value.int ((0 : Int32) &&& 1)
      rw [b01]
    · rfl
theorem x_newl {b len : Nat} {v : Int32} {a1 a2 a3 : Nat} (hd : decode M.2.1 pc = .ok (.newarray .long, 2)) (hk : kd b = (4, len, a1, a2, a3)) (hi : idx b = n) (hv : v = nI len) (hlen : len ≤ 67108864) (k : GPx l X M ini E Q kc ks (pc + 2) L (.ref b :: st) h J (n + 1)) : GPx l X M ini E Q (kc + 1) (ks + len) pc L (.int v :: st) h J n := by
  intro p e R s m args below meth c0 H locs cells slots ls S Sx Y
  subst hv
  have hb := kd_lt hk (by decide)
  have y1 := Y.2.2.2.1
  have y2 := Y.2.2.2.2
  have s1 := S.2.2.2.2.2.2.2.2.2.2.2.1
  have s2 := S.2.2.2.2.2.2.2.2.2.2.2.2
  have hsz := Y.1.2.2.1
  have hS := Y.2.1
  have hX : X.2.2.1 b = H.size := by rw [Y.1.2.2.2.2 b hb, hi, hsz]
  have h0 : h b = fun _ => 0 := Y.1.2.2.2.1 b (by omega)
  refine va_newaK (atype := .long) (N := len) S.1 S.2.1 S.2.2.2.2.2.2.2.2.1.2.l rfl hd rfl (nI_pos (by omega)) (nI_clamp (by omega)) (by show len * 8 ≤ _; omega) (by omega) (by omega) rfl fun H1 cA e1 z1 o1 hAr hNm => ?_
  have hcA : cA = X.2.1 2 := by
    have h1 := (Y.1.2.1.2 2 (X.2.1 2, .long) rfl).2
    have h2 : s.vm.findClass ("[" ++ FieldType.long.toString) = some (X.2.1 2) := h1
    exact Option.some.inj (hNm.symm.trans h2)
  subst hcA
  show W p l e R s m args below meth c0 H1 locs (cells + 1) (slots + len) (Q below args s) (F0 m (pc + 2) ls (.ref H.size :: st.map (rv X)))
  rw [← hX]
  refine k p e R s m args below meth c0 H1 locs (cells + 1) (slots + len) ls S Sx ⟨Y.1.new hb hi ?_ z1 o1, ⟨Nat.le_trans hS.1 (by omega), fun x h1 h2 => (o1 x (Nat.lt_of_lt_of_le h1 hS.1)).trans (hS.2.1 x h1 h2), hS.2.2⟩, Y.2.2.1, by omega, by omega⟩
  rw [hk, hX]
  show H1[H.size]? = some (vp_cell (X.2.1 2) (len, .inr (.inl (fun j => (h b j).toInt64))))
  rw [h0, vp_cell_l]
  exact e1
variable {y : MethodName} {My : Mi} {fr lo mc ms ix : Nat} {As : List Value} {Qr1 : Hp → Jt → Nat → Prop} {stk : List Value}
theorem x_run {p : Program} {e : Env} {R : Room} {s : State} {m : MethodId} {args : Array Value} {below : List Frame} {meth : Method} {c : Code} {H : Heap} {locs : List Loc} {cells slots : Nat} {ls : Array Slot} {a : Array Value} {st0 : List Value}
    (S : KS X M ini E p R s m args meth c) (Sx : ∀ x ∈ c.exceptionTable.toList, False) (Y : KY X M E (kc + mc) (ks + ms) L h J n s H locs cells slots ls)
    (hr : va_Run p l e R s m args below meth c H locs cells slots mc ms (F0 m pc ls st0) (st.map (rv X)) (QPv X Qr1 a) (AA X))
    (kk : ∀ h' J' n', Qr1 h' J' n' → GPx l X M ini E Q kc ks (pc + 3) L st h' J' n') :
    W p l e R s m args below meth c H locs cells slots (Q below args s) (F0 m pc ls st0) := by
  have y1 := Y.2.2.2.1
  have y2 := Y.2.2.2.2
  refine va_callv hr Y.2.1 (fun _ _ h => h) (fun _ h => h) (fun u t H1 locs1 ht hal hq hw hz hk hS => ?_)
  refine kk u.1 u.2.1 u.2.2 hq p e R s m args below meth c H1 locs1 (cells + mc) (slots + ms) ls S Sx ⟨?_, hS, Y.2.2.1, by omega, by omega⟩
  have hw2 : WP X u.1 u.2.1 u.2.2 t.heap t := hw
  rw [ht] at hw2
  exact hw2.moved hal.symm
theorem x_callI {b : Nat} (hd : decode M.2.1 pc = .ok (.invokespecial ix, 3)) (hl : Cond.methodLink M.1 ix y ∈ TT) (hi : Cond.instanceMethod y ∈ TT) (hy : y.name = "<init>") (hret : My.2.2.2 = none) (hini : Cond.initialized y.cls ∈ TT) (hcode : Cond.code y My.2.1 My.2.2.1 My.2.2.2 ∈ TT) (hok : okD y As.length) (hR : fr + 1 ≤ E.1 ∧ 8 + (My.2.2.1 + 11) + lo ≤ E.2.1) (hst : (st.map fun v => v.category).sum ≤ 8) (hstk : stk = As.reverse ++ .ref b :: st)
    (hC : ConP X y My fr lo mc ms (.ref b :: As) h J n Qr1) (kk : ∀ h' J' n', Qr1 h' J' n' → GPx l X M ini E Q kc ks (pc + 3) L st h' J' n') : GPx l X M ini E Q (kc + mc) (ks + ms) pc L stk h J n := by
  intro p e R s m args below meth c H locs cells slots ls S Sx Y
  have hE := S.2.2.2.2.2.2.2.2.1.1
  have hAx := S.2.2.2.2.2.2.2.2.1.2
  have y1 := Y.2.2.2.1
  have y2 := Y.2.2.2.2
  have s1 := S.2.2.2.2.2.2.2.2.2.1
  have s2 := S.2.2.2.2.2.2.2.2.2.2.1
  have s3 := S.2.2.2.2.2.2.2.2.2.2.2.1
  have s4 := S.2.2.2.2.2.2.2.2.2.2.2.2
  have cb := callB_p (y := y) (My := My) (ix := ix) (fr := fr) (lo := lo) (mc := mc) (ms := ms) (k := As.length) S.2.2.2.2.2.1 hE.2.2.2.2.2 hcode hini hl hok (R := R) (own := M.1) ⟨by omega, by omega⟩
  have hM := hC l
  rw [hret] at cb hM
  exact x_run S Sx Y (va_runI (b := X.2.2.1 b) (As := As.map (rv X)) (rest := st.map (rv X)) ⟨S.1, S.2.1, S.2.2.1, S.2.2.2.2.1, S.2.2.2.2.2.1⟩ hM ⟨cb, hy, S.2.2.2.2.2.1 _ hi⟩ ⟨pp_blind, fun U hU hw => pre_p (av := .ref b :: As) hE hAx Y.1 Y.2.1 hU hw⟩ rfl (by rw [List.length_map]) Y.2.2.1.1 (by rw [hstk]; simp [rv]) (st_room hst) hd ⟨by omega, by omega⟩) kk
end GX1
