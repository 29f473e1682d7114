/-! the growing world: rows of rows of rows; rows filled -/
theorem oc3_c (c : ClassId) (N h0 M : Nat) : ∀ i : Nat, oc3 c N h0 M i = arrV c N (fun j => va_rf (if j < i then some (h0 + 1 + j * (M + 1)) else none))
  | 0 => by
    show ({ cls := c, slots := Array.replicate N .null, vm := .none } : Cell) = _
    rw [arrV_new]
    refine congrArg (arrV c N) (funext fun j => ?_)
    simp [va_rf]
  | i + 1 => by
    show (oc3 c N h0 M i).setSlot i (.ref (h0 + 1 + i * (M + 1))) = _
    rw [oc3_c c N h0 M i, arrV_store]
    refine congrArg (arrV c N) (funext fun j => ?_)
    by_cases e : j = i
    · subst e
      simp [updV, va_rf]
    · by_cases h : j < i
      · simp [updV, e, h, Nat.lt_succ_of_lt h]
      · simp [updV, e, h, show ¬ j < i + 1 by omega]
section GP5
variable {X : Cx} {M : Mi} {ini : Bool} {E : Rm} {Q : Qf} {kc ks pc : Nat} {L : List (Nat × Value)} {st : List Value} {h : Hp} {J : Jt} {n : Nat}
theorem p_mna3 {b N M9 K d d2 ix NC NK M1 N1 : Nat} {v1 v2 v3 : Int32} (hd : decode M.2.1 pc = .ok (.multianewarray ix 3, 4)) (hM1 : M9 + 1 = M1) (hk : kd b = (2, N, b + 1, M1, d)) (hk2 : ∀ i, i < N → kd (b + 1 + i * M1) = (2, M9, b + 1 + i * M1 + 1, 1, d2)) (hk3 : ∀ i, i < N → ∀ r, r < M9 → kd (b + 1 + i * M1 + 1 + r) = (1, K, 0, 0, 0)) (hNC : N * M1 = NC) (hN1 : NC + 1 = N1) (hp : b + NC < NP) (hi : ∀ j, j ≤ NC → idx (b + j) = n + j) (hv1 : v1 = nI N) (hv2 : v2 = nI M9) (hv3 : v3 = nI K) (hN : N ≤ 100000) (hM : M9 ≤ 100000) (hK : K ≤ 100000) (hNK : N + N * (M9 + M9 * K) = NK) (hJ : ∀ k, J b k = true) (hJ2 : ∀ i k, i < N → J (b + 1 + i * M1) k = true)
    (hty : ∀ X : Cx, (tyX X)[d]? = some (X.2.1 d, .array (.array .int))) (hty2 : ∀ X : Cx, (tyX X)[d2]? = some (X.2.1 d2, .array .int))
    (hcl : Cond.classLink M.1 ix ("[" ++ (FieldType.array (.array .int)).toString) ∈ TT) (k : GP X M ini E Q kc ks (pc + 4) L (.ref b :: st) h J (n + N1)) : GP X M ini E Q (kc + N1) (ks + NK) pc L (.int v3 :: .int v2 :: .int v1 :: st) h J n := by
  intro p l e R s m args below meth c0 H locs cells slots ls S Y
  subst hv1 hv2 hv3 hN1
  have y1 := Y.2.2.2.1
  have y2 := Y.2.2.2.2
  have s1 := S.2.2.2.2.2.2.2.2.2.2.2.1
  have s2 := S.2.2.2.2.2.2.2.2.2.2.2.2
  have hsz := Y.1.2.2.1
  have hS := Y.2.1
  have cN : (nI N).toNatClampNeg = N := nI_clamp (by omega)
  have cM : (nI M9).toNatClampNeg = M9 := nI_clamp (by omega)
  have cK : (nI K).toNatClampNeg = K := nI_clamp (by omega)
  have hNC' : N * (M9 + 1) = NC := by rw [hM1]; exact hNC
  intro T hT Xs
  obtain ⟨vm₁, c1, c2, c3, f1A, f2A, f3A, X', step⟩ := mna3_step Xs S.1 S.2.2.2.2.1 (S.2.2.2.2.2.1 _ hcl) (S.2.2.2.2.2.2.2.2.1.2.a (Or.inr (Or.inr rfl))) (S.2.2.2.2.2.2.2.2.1.2.a (Or.inl rfl)) S.2.2.2.2.2.2.2.2.1.2.i (g := F0 m pc ls (.int (nI K) :: .int (nI M9) :: .int (nI N) :: st.map (rv X))) rfl (by rw [S.2.1]; exact hd) rfl (nI_pos (by omega)) (nI_pos (by omega)) (nI_pos (by omega)) (by rw [cN]; omega) (by rw [cM]; omega) (by rw [cK]; show K * 4 ≤ _; omega) (by rw [cK]; omega) rfl rfl (by rw [cN, cM]; omega) (by rw [cN, cM, cK]; omega)
  rw [cN, cM, cK] at X' step
  have hA : c1 = X.2.1 d := Option.some.inj (f1A.symm.trans ((Y.1.2.1.2 d (X.2.1 d, .array (.array .int)) (hty X)).2 : s.vm.findClass ("[" ++ (FieldType.array (.array .int)).toString) = some (X.2.1 d)))
  have hB : c2 = X.2.1 d2 := Option.some.inj (f2A.symm.trans ((Y.1.2.1.2 d2 (X.2.1 d2, .array .int) (hty2 X)).2 : s.vm.findClass ("[" ++ (FieldType.array .int).toString) = some (X.2.1 d2)))
  have hC : c3 = X.2.1 0 := Option.some.inj (f3A.symm.trans ((Y.1.2.1.2 0 (X.2.1 0, .int) rfl).2 : s.vm.findClass ("[" ++ FieldType.int.toString) = some (X.2.1 0)))
  subst hA hB hC
  generalize hF : fill3 (T.setVm vm₁) (X.2.1 d) (X.2.1 d2) (X.2.1 0) N M9 K (defaultValue .int) N = F at X' step
  have hTh : (T.setVm vm₁).heap = H := hT
  obtain ⟨f1, f2, -, -⟩ := fill3_facts (T.setVm vm₁) (X.2.1 d) (X.2.1 d2) (X.2.1 0) N M9 K (defaultValue .int) N
  rw [hF, hTh] at f1 f2
  have hold : ∀ x : Nat, x < H.size → F.heap[x]? = H[x]? := fun x hx => by
    have := fill3_old (T.setVm vm₁) (X.2.1 d) (X.2.1 d2) (X.2.1 0) N M9 K (defaultValue .int) (a := x) (by rw [hTh]; exact hx) N
    rw [hF, hTh] at this
    exact this
  have hblk : ∀ j : Nat, j < N → F.heap[H.size + 1 + j * (M9 + 1)]? = some (Jvm.Free.Multi.outerC (X.2.1 d2) M9 (H.size + 1 + j * (M9 + 1)) M9) ∧ ∀ r, r < M9 → F.heap[H.size + 1 + j * (M9 + 1) + 1 + r]? = some (Jvm.Free.Multi.innerC (X.2.1 0) K (defaultValue .int)) := fun j hj => by
    have := fill3_in (T.setVm vm₁) (X.2.1 d) (X.2.1 d2) (X.2.1 0) N M9 K (defaultValue .int) N j hj
    rw [hF, hTh] at this
    exact this
  have xo := Y.1.2.2.2.2
  have hX : ∀ j, j ≤ NC → X.2.2.1 (b + j) = H.size + j := fun j hj => by rw [xo (b + j) (by omega), hi j hj, hsz]; omega
  have hX0 : X.2.2.1 b = H.size := hX 0 (by omega)
  subst hM1
  have hmul : ∀ i, i < N → (i + 1) * (M9 + 1) ≤ NC := fun i hi => by rw [← hNC]; exact Nat.mul_le_mul_right _ hi
  have hW : WP X h J (n + (NC + 1)) F.heap s := by
    refine Y.1.newN hp hi (fun j hj => ?_) (by rw [f1, hNC]; omega) hold
    rcases j with _ | j
    · show va_at X.1 clsL (X.2.2.1 b, entP X h (J b) b (kd b)) F.heap
      rw [hk, hX0]
      show F.heap[H.size]? = some (vp_cell (X.2.1 d) (N, .inr (.inr (.inr (.inr (fun j => if j < N then (if J b j = true then some (X.2.2.1 (b + 1 + (M9 + 1) * j)) else none) else none))))))
      rw [f2, vp_cell_q, oc3_c]
      congr 2
      funext j
      by_cases c : j < N
      · have hm := hmul j c
        have em := mul_s j M9
        have hx := hX (1 + j * (M9 + 1)) (by omega)
        rw [if_pos c, if_pos c, if_pos (hJ j), Nat.mul_comm (M9 + 1) j, show b + 1 + j * (M9 + 1) = b + (1 + j * (M9 + 1)) by omega, hx]
        exact congrArg va_rf (congrArg some (by omega))
      · rw [if_neg c, if_neg c]
    · have hpos : 0 < M9 + 1 := Nat.succ_pos _
      obtain ⟨i, r, hr, ej⟩ : ∃ i r, r < M9 + 1 ∧ j = i * (M9 + 1) + r := ⟨j / (M9 + 1), j % (M9 + 1), Nat.mod_lt _ hpos, by rw [Nat.mul_comm]; exact (Nat.div_add_mod _ _).symm⟩
      have hiN : i < N := by
        refine Nat.lt_of_not_le fun q => ?_
        have : N * (M9 + 1) ≤ i * (M9 + 1) := Nat.mul_le_mul_right _ q
        omega
      obtain ⟨g1, g2⟩ := hblk i hiN
      have hx := hX (j + 1) hj
      rcases r with _ | r
      · have e1 : b + (j + 1) = b + 1 + i * (M9 + 1) := by omega
        rw [e1] at hx ⊢
        have hxs : ∀ r, r < M9 → X.2.2.1 (b + 1 + i * (M9 + 1) + 1 + 1 * r) = H.size + 1 + i * (M9 + 1) + 1 + r := fun r hr => by
          have hm := hmul i hiN
          have em := mul_s i M9
          have hx2 := hX (1 + i * (M9 + 1) + 1 + r) (by omega)
          rw [show b + 1 + i * (M9 + 1) + 1 + 1 * r = b + (1 + i * (M9 + 1) + 1 + r) by omega, hx2]
          omega
        rw [hk2 i hiN, hx]
        show F.heap[H.size + (j + 1)]? = some (vp_cell (X.2.1 d2) (M9, .inr (.inr (.inr (.inr (fun r => if r < M9 then (if J (b + 1 + i * (M9 + 1)) r = true then some (X.2.2.1 (b + 1 + i * (M9 + 1) + 1 + 1 * r)) else none) else none))))))
        rw [show H.size + (j + 1) = H.size + 1 + i * (M9 + 1) by omega, g1, vp_cell_q, outer_c]
        congr 2
        funext r
        by_cases c : r < M9
        · rw [if_pos c, if_pos c, if_pos (hJ2 i r hiN), hxs r c]
        · rw [if_neg c, if_neg c]
      · have e1 : b + (j + 1) = b + 1 + i * (M9 + 1) + 1 + r := by omega
        rw [e1] at hx ⊢
        have h0 : h (b + 1 + i * (M9 + 1) + 1 + r) = fun _ => 0 := Y.1.2.2.2.1 _ (by have := hi (j + 1) hj; rw [e1] at this; omega)
        rw [hk3 i hiN r (by omega), hx]
        show F.heap[H.size + (j + 1)]? = some (vp_cell (X.2.1 0) (K, .inl (h (b + 1 + i * (M9 + 1) + 1 + r))))
        rw [h0, vp_cell_i, show H.size + (j + 1) = H.size + 1 + i * (M9 + 1) + 1 + r by omega, g2 r (by omega)]
        show some ({ cls := X.2.1 0, slots := Array.replicate K (.int 0), vm := .none } : Cell) = _
        rw [arrV_new]
  have eNC : N * (M9 + 1) = NC := hNC
  rw [eNC] at X'
  obtain ⟨t, a1, b1⟩ := k p l e R s m args below meth c0 F.heap locs (cells + 1 + NC) (slots + N + N * (M9 + M9 * K)) ls S ⟨hW, ⟨Nat.le_trans hS.1 (by rw [f1]; omega), fun x h1 h2 => (hold x (Nat.lt_of_lt_of_le h1 hS.1)).trans (hS.2.1 x h1 h2), hS.2.2⟩, Y.2.2.1, by omega, by omega⟩ F rfl X'
  refine ⟨t, step t ?_, b1⟩
  have e9 : T.heap.size = X.2.2.1 b := by rw [hX0]; exact congrArg Array.size hTh
  rw [e9]
  exact a1
end GP5
/-! rows filled -/
def filled (h h' : Hp) (b len : Nat) (v : Int32) : Prop := (∀ q, q ≠ b → h' q = h q) ∧ ∀ i, i < len → h' b i = v
theorem cp_fillRow {X : Cx} {b len : Nat} {v : Int32} {h : Hp} {J : Jt} {n : Nat} (hk : kd b = (1, len, 0, 0, 0)) (hi : idx b < n) (hlen : len < 2 ^ 30) : ConP X yX8_fillRow M_X8_fillRow 0 0 0 0 [.ref b, .int v] h J n (fun h' J' n' => filled h h' b len v ∧ J' = J ∧ n' = n) := by
  refine conP_of (ini := false) (by decide +kernel) rfl (fun h => nomatch h) (Nat.le_of_ble_eq_true rfl) ?_
  have loop : ∀ (k : Nat) (j : Nat) (g : Hp), j + k = len → (∀ q, q ≠ b → g q = h q) → (∀ i, i < j → g b i = v) → GP X M_X8_fillRow false (0, 0, 0, 0) (QPf X (0, 0, 0, 0) (fun h' J' n' => filled h h' b len v ∧ J' = J ∧ n' = n)) 0 0 2 [(0, .ref b), (1, .int v), (2, .int (nI j))] [] g J n := by
    intro k
    induction k with
    | zero =>
      intro j g hj h1 h2
      refine p_iload_n 2 (dk D_X8_fillRow 2 rfl) rfl rfl ?_
      refine p_aload_n 0 (dk D_X8_fillRow 3 rfl) rfl rfl ?_
      refine p_alen (dk D_X8_fillRow 4 rfl) hk hi rfl ?_
      refine p_icmp_ge (dk D_X8_fillRow 5 rfl) rfl (fun _ => ?_) (fun z => absurd ((nI_leI (by omega) (by omega)).mpr (by omega) : nI len ≤ nI j) z)
      refine p_vret (dk D_X8_fillRow 12 rfl) rfl ⟨⟨h1, fun i hi => h2 i (by omega)⟩, rfl, rfl⟩
    | succ k ih =>
      intro j g hj h1 h2
      refine p_iload_n 2 (dk D_X8_fillRow 2 rfl) rfl rfl ?_
      refine p_aload_n 0 (dk D_X8_fillRow 3 rfl) rfl rfl ?_
      refine p_alen (dk D_X8_fillRow 4 rfl) hk hi rfl ?_
      refine p_icmp_ge (dk D_X8_fillRow 5 rfl) rfl (fun z => ?_) (fun _ => ?_)
      · have : len ≤ j := (nI_leI (by omega) (by omega)).mp (z : nI len ≤ nI j)
        omega
      refine p_aload_n 0 (dk D_X8_fillRow 6 rfl) rfl rfl ?_
      refine p_iload_n 2 (dk D_X8_fillRow 7 rfl) rfl rfl ?_
      refine p_iload_n 1 (dk D_X8_fillRow 8 rfl) rfl rfl ?_
      refine p_iast (dk D_X8_fillRow 9 rfl) hk hi (vp_in_nI (by omega) (by omega)) ?_
      refine p_iinc 2 (v := nI (j + 1)) (dk D_X8_fillRow 10 rfl) rfl (by rw [show Int32.ofInt 1 = 1 by decide +kernel, nI_1]) (by decide) rfl ?_
      refine p_goto (tgt := 2) (dk D_X8_fillRow 11 rfl) rfl ?_
      refine p_sub [1, 2, 0] rfl ?_
      rw [nI_clamp (by omega)]
      refine ih (j + 1) _ (by omega) (fun q hq => (hup_ne hq).trans (h1 q hq)) (fun i hi => ?_)
      by_cases c : i = j
      · rw [c, hup_eq]
      · rw [hup_o (Or.inr c)]
        exact h2 i (by omega)
  refine p_iconst (dk D_X8_fillRow 0 rfl) ki_0 ?_
  refine p_istore_n (dk D_X8_fillRow 1 rfl) rfl (by decide) rfl ?_
  refine p_sub [1, 2, 0] rfl ?_
  exact loop len 0 h (by omega) (fun _ _ => rfl) (fun i hi => absurd hi (Nat.not_lt_zero i))
