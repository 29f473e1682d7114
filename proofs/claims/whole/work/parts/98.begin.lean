/-! the law's beginning: its two objects and its row of one long -/
set_option maxRecDepth 8000 in
theorem w_124 : Cond.classLink "ShadowTollsLaw" 8 RX8 ∈ TT := tt_1 (List.mem_of_getElem? (i := 24) rfl) rfl
set_option maxRecDepth 8000 in
theorem w_125 : Cond.instantiable RX8 16 ∈ TT := tt_1 (List.mem_of_getElem? (i := 25) rfl) rfl
set_option maxRecDepth 8000 in
theorem w_126 : Cond.methodLink "ShadowTollsLaw" 96 yX8_init ∈ TT := tt_1 (List.mem_of_getElem? (i := 26) rfl) rfl
set_option maxRecDepth 8000 in
theorem w_127 : Cond.instanceMethod yX8_init ∈ TT := tt_1 (List.mem_of_getElem? (i := 27) rfl) rfl
set_option maxRecDepth 8000 in
theorem w_128 : Cond.code yX8_init cX8_init 2 none ∈ TT := tt_1 (List.mem_of_getElem? (i := 28) rfl) rfl
set_option maxRecDepth 8000 in
theorem w_1342 : Cond.classLink "ShadowTollsLaw" 97 RX9 ∈ TT := tt_6 (List.mem_of_getElem? (i := 42) rfl) rfl
set_option maxRecDepth 8000 in
theorem w_1343 : Cond.instantiable RX9 52 ∈ TT := tt_6 (List.mem_of_getElem? (i := 43) rfl) rfl
set_option maxRecDepth 8000 in
theorem w_1344 : Cond.methodLink "ShadowTollsLaw" 99 yX9_init ∈ TT := tt_6 (List.mem_of_getElem? (i := 44) rfl) rfl
set_option maxRecDepth 8000 in
theorem w_1345 : Cond.instanceMethod yX9_init ∈ TT := tt_6 (List.mem_of_getElem? (i := 45) rfl) rfl
set_option maxRecDepth 8000 in
theorem w_1346 : Cond.code yX9_init cX9_init 2 none ∈ TT := tt_6 (List.mem_of_getElem? (i := 46) rfl) rfl
theorem def9 : ∀ j, j < 52 → defaultValue (tyX9 j) = if fk 9 j = 2 then .null else .int 0 := by decide +kernel
theorem def8 : ∀ j, j < 16 → defaultValue (tyX8 j) = if fk 8 j = 2 then .null else .int 0 := by decide +kernel
theorem J0_92 (k : Nat) : J0 92 k = false := by
  unfold J0
  decide +kernel
def fullJ (J : Jt) : Prop := ∀ p, p < NP → fullB J p = true
def bornV (h : Hp) : Prop := ∃ h1, tollsV h1 ∧ modelV h1 h
theorem full_of {J1 : Jt} (h1 : ∀ p, p < 92 → fullB J1 p = true) (h2 : ∀ p, 92 ≤ p → J1 p = J0 p) : fullJ (jupL J1 92 modF) := by
  have e : ∀ p, fullB (jupL J1 92 modF) p = true := by
    intro p
    have z : ∀ J J' : Jt, J p = J' p → fullB J p = fullB J' p := fun J J' q => by
      unfold fullB
      rw [q]
    by_cases c : p = 92
    · subst c
      have k92 : kd 92 = (0, 9, 0, 0, 0) := by decide +kernel
      unfold fullB
      rw [k92]
      show (List.range (nf 9)).all (fun k => !(decide (fk 9 k = 2)) || jupL J1 92 modF 92 k) = true
      rw [List.all_eq_true]
      intro k hk
      by_cases d : fk 9 k = 2
      · have hm : k ∈ modF := (show ∀ k, k < 52 → fk 9 k = 2 → k ∈ modF by decide) k (List.mem_range.mp hk) d
        rw [jupL_in hm]
        simp
      · simp [d]
    · rw [z _ J1 (jupL_ne c)]
      by_cases d : p < 92
      · exact h1 p d
      · rw [z J1 J0 (h2 p (by omega))]
        have hJ : ∀ k, J0 p k = true := fun k => by
          unfold J0
          have : p ∉ [0, 1, 3, 8, 13, 14, 18, 22, 26, 30, 34, 38, 42, 43, 44, 58, 62, 69, 70, 77, 84, 92] := by
            intro hm
            simp only [List.mem_cons, List.not_mem_nil, or_false] at hm
            omega
          simp [this]
        unfold fullB
        split
        · rw [List.all_eq_true]
          intro k _
          rw [hJ]
          simp
        · rw [List.all_eq_true]
          intro k _
          exact hJ k
        · rfl
  exact fun p _ => e p
set_option maxRecDepth 100000 in
theorem law_begin {l : Launch} {X : Cx} {Q : Qf} {kc ks : Nat} (kk : ∀ h J, bornV h → fullJ J → GPx l X M_LAW false E_LAW Q kc ks 23 [(0, .ref SCR), (1, .ref 0), (2, .ref 92), (3, .ref 1457), (4, .int 0)] [] h J 1458) : GPx l X M_LAW false E_LAW Q (kc + 1 + 1364 + 1 + 91 + 1) (ks + 1 + 150898 + 52 + 148563 + 16) 0 [(0, .ref SCR)] [] hZ J0 0 := by
  refine x_new (b := 0) (N := 16) (dk D_LAW_0 0 rfl) (show kd 0 = (0, 8, 0, 0, 0) by decide +kernel) (by decide +kernel) rfl rfl rfl tyX8_ok def8 (fun k => rfl) w_124 w_125 w_101 ?_
  refine x_dup (dk D_LAW_0 1 rfl) rfl ?_
  refine x_callI (As := []) (st := .ref 0 :: []) (b := 0) (fr := 3) (lo := 100) (mc := 91) (ms := 148563) (My := M_X8_init) (dk D_LAW_0 2 rfl) w_126 w_127 rfl rfl w_101 w_128 okD_X8_init (by decide) (Nat.le_of_ble_eq_true rfl) rfl cp_Tolls (fun h1 J1 n1 hq => ?_)
  obtain ⟨f1, f2, f3, rfl⟩ := hq
  refine x_astore_n (dk D_LAW_0 3 rfl) rfl (by decide) rfl ?_
  refine x_new (b := 92) (N := 52) (dk D_LAW_0 4 rfl) (show kd 92 = (0, 9, 0, 0, 0) by decide +kernel) (by decide +kernel) rfl rfl rfl tyX9_ok def9 (fun k => by rw [f3 92 (by decide)]; exact J0_92 k) w_1342 w_1343 w_110 ?_
  refine x_dup (dk D_LAW_0 5 rfl) rfl ?_
  refine x_callI (As := []) (st := .ref 92 :: []) (b := 92) (fr := 1) (lo := 30) (mc := 1364) (ms := 150898) (My := M_X9_init) (dk D_LAW_0 6 rfl) w_1344 w_1345 rfl rfl w_110 w_1346 okD_X9_init (by decide) (Nat.le_of_ble_eq_true rfl) rfl (cp_Model (fun p hp hpN k => ?_)) (fun h2 J2 n2 hq => ?_)
  · rw [f3 p (by omega)]
    unfold J0
    have : p ∉ [0, 1, 3, 8, 13, 14, 18, 22, 26, 30, 34, 38, 42, 43, 44, 58, 62, 69, 70, 77, 84, 92] := by
      intro hm
      simp only [List.mem_cons, List.not_mem_nil, or_false] at hm
      omega
    simp [this]
  obtain ⟨g1, g2, rfl⟩ := hq
  subst g2
  refine x_astore_n (dk D_LAW_0 7 rfl) rfl (by decide) rfl ?_
  refine x_iconst (v := (1 : Int32)) (dk D_LAW_0 8 rfl) (by decide +kernel) ?_
  refine x_newl (b := 1457) (len := 1) (dk D_LAW_0 9 rfl) (show kd 1457 = (4, 1, 0, 0, 0) by decide +kernel) (by decide +kernel) (by decide +kernel) (by decide) ?_
  refine x_astore_n (dk D_LAW_0 10 rfl) rfl (by decide) rfl ?_
  refine x_iconst (v := (0 : Int32)) (dk D_LAW_0 11 rfl) (by decide +kernel) ?_
  refine x_istore (dk D_LAW_0 12 rfl) (by decide) rfl ?_
  refine x_sub [4, 3, 2, 1, 0] rfl ?_
  exact kk h2 _ ⟨h1, f1, g1⟩ (full_of f2 f3)
