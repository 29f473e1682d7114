/-! String constants: length and charAt, out of the JDK's own bytecode -/
def Qn : String → Hp → Prop := fun _ _ => False
theorem in_lt {i : Int32} {n : Nat} (h : vp_in i n) : i.toNatClampNeg < n := Nat.not_le.mp fun q => h (Or.inr q)
def slen (si : Nat) : Int32 := nI (bytL.getD si []).length
def sch (si k : Nat) : Int32 := nI ((bytL.getD si []).getD k 0)
theorem byt_ok : ∀ i, i < NS → (bytL.getD i []).length < 2 ^ 31 ∧ ∀ b ∈ bytL.getD i [], b < 128 := by decide +kernel
abbrev M_coder : Mi := (RJ0, cJ0_coder_7d493, 1, some .byte)
abbrev M_slen : Mi := (RJ0, cJ0_length_8abf5, 1, some .int)
abbrev M_isL : Mi := (RJ0, cJ0_isLatin1_aae02, 1, some .boolean)
abbrev M_chk : Mi := (RJ0, cJ0_checkIndex_df160, 2, none)
abbrev M_lch : Mi := (RJ1, cJ1_charAt_3b067, 2, some .char)
abbrev M_cha : Mi := (RJ0, cJ0_charAt_5068e, 2, some .char)
set_option maxRecDepth 8000 in
theorem ws_c_cha : Cond.code yJ0_charAt_5068e cJ0_charAt_5068e 2 (some .char) ∈ TT := List.mem_filter.mpr ⟨List.mem_append_right _ (show _ ∈ tables_1 by simp only [tables_1, List.mem_append]; have h9 : Cond.code yJ0_charAt_5068e cJ0_charAt_5068e 2 (some .char) ∈ tables_1_4 := List.mem_of_getElem? (i := 3) rfl; simp only [h9, true_or, or_true]), rfl⟩
set_option maxRecDepth 8000 in
theorem ws_c_chk : Cond.code yJ0_checkIndex_df160 cJ0_checkIndex_df160 2 none ∈ TT := List.mem_filter.mpr ⟨List.mem_append_right _ (show _ ∈ tables_1 by simp only [tables_1, List.mem_append]; have h9 : Cond.code yJ0_checkIndex_df160 cJ0_checkIndex_df160 2 none ∈ tables_1_4 := List.mem_of_getElem? (i := 13) rfl; simp only [h9, true_or, or_true]), rfl⟩
set_option maxRecDepth 8000 in
theorem ws_c_coder : Cond.code yJ0_coder_7d493 cJ0_coder_7d493 1 (some .byte) ∈ TT := List.mem_filter.mpr ⟨List.mem_append_right _ (show _ ∈ tables_1 by simp only [tables_1, List.mem_append]; have h9 : Cond.code yJ0_coder_7d493 cJ0_coder_7d493 1 (some .byte) ∈ tables_1_3 := List.mem_of_getElem? (i := 237) rfl; simp only [h9, true_or, or_true]), rfl⟩
set_option maxRecDepth 8000 in
theorem ws_c_isL : Cond.code yJ0_isLatin1_aae02 cJ0_isLatin1_aae02 1 (some .boolean) ∈ TT := List.mem_filter.mpr ⟨List.mem_append_right _ (show _ ∈ tables_1 by simp only [tables_1, List.mem_append]; have h9 : Cond.code yJ0_isLatin1_aae02 cJ0_isLatin1_aae02 1 (some .boolean) ∈ tables_1_4 := List.mem_of_getElem? (i := 7) rfl; simp only [h9, true_or, or_true]), rfl⟩
set_option maxRecDepth 8000 in
theorem ws_c_lch : Cond.code yJ1_charAt_3b067 cJ1_charAt_3b067 2 (some .char) ∈ TT := List.mem_filter.mpr ⟨List.mem_append_right _ (show _ ∈ tables_1 by simp only [tables_1, List.mem_append]; have h9 : Cond.code yJ1_charAt_3b067 cJ1_charAt_3b067 2 (some .char) ∈ tables_1_4 := List.mem_of_getElem? (i := 10) rfl; simp only [h9, true_or, or_true]), rfl⟩
set_option maxRecDepth 8000 in
theorem ws_c_pre : Cond.code yJ3_checkIndex_8e157 cJ3_checkIndex_8e157 3 (some .int) ∈ TT := List.mem_filter.mpr ⟨List.mem_append_right _ (show _ ∈ tables_1 by simp only [tables_1, List.mem_append]; have h9 : Cond.code yJ3_checkIndex_8e157 cJ3_checkIndex_8e157 3 (some .int) ∈ tables_1_4 := List.mem_of_getElem? (i := 18) rfl; simp only [h9, true_or, or_true]), rfl⟩
set_option maxRecDepth 8000 in
theorem ws_c_slen : Cond.code yJ0_length_8abf5 cJ0_length_8abf5 1 (some .int) ∈ TT := List.mem_filter.mpr ⟨List.mem_append_right _ (show _ ∈ tables_1 by simp only [tables_1, List.mem_append]; have h9 : Cond.code yJ0_length_8abf5 cJ0_length_8abf5 1 (some .int) ∈ tables_1_3 := List.mem_of_getElem? (i := 233) rfl; simp only [h9, true_or, or_true]), rfl⟩
set_option maxRecDepth 8000 in
theorem ws_f_COMPACT_STRINGS : Cond.fieldLink RJ0 38 RJ0 "COMPACT_STRINGS" "Z" ∈ TT := List.mem_filter.mpr ⟨List.mem_append_right _ (show _ ∈ tables_1 by simp only [tables_1, List.mem_append]; have h9 : Cond.fieldLink RJ0 38 RJ0 "COMPACT_STRINGS" "Z" ∈ tables_1_3 := List.mem_of_getElem? (i := 238) rfl; simp only [h9, true_or, or_true]), rfl⟩
set_option maxRecDepth 8000 in
theorem ws_f_SIOOBE_FORMATTER : Cond.fieldLink RJ0 1053 RJ3 "SIOOBE_FORMATTER" "Ljava/util/function/BiFunction;" ∈ TT := List.mem_filter.mpr ⟨List.mem_append_right _ (show _ ∈ tables_1 by simp only [tables_1, List.mem_append]; have h9 : Cond.fieldLink RJ0 1053 RJ3 "SIOOBE_FORMATTER" "Ljava/util/function/BiFunction;" ∈ tables_1_4 := List.mem_of_getElem? (i := 14) rfl; simp only [h9, true_or, or_true]), rfl⟩
set_option maxRecDepth 8000 in
theorem ws_f_coder : Cond.fieldLink RJ0 15 RJ0 "coder" "B" ∈ TT := List.mem_filter.mpr ⟨List.mem_append_right _ (show _ ∈ tables_1 by simp only [tables_1, List.mem_append]; have h9 : Cond.fieldLink RJ0 15 RJ0 "coder" "B" ∈ tables_1_8 := List.mem_of_getElem? (i := 166) rfl; simp only [h9, true_or, or_true]), rfl⟩
set_option maxRecDepth 8000 in
theorem ws_f_value : Cond.fieldLink RJ0 9 RJ0 "value" "[B" ∈ TT := List.mem_filter.mpr ⟨List.mem_append_right _ (show _ ∈ tables_1 by simp only [tables_1, List.mem_append]; have h9 : Cond.fieldLink RJ0 9 RJ0 "value" "[B" ∈ tables_1_8 := List.mem_of_getElem? (i := 165) rfl; simp only [h9, true_or, or_true]), rfl⟩
set_option maxRecDepth 8000 in
theorem ws_i_cha : Cond.instanceMethod yJ0_charAt_5068e ∈ TT := List.mem_filter.mpr ⟨List.mem_append_right _ (show _ ∈ tables_1 by simp only [tables_1, List.mem_append]; have h9 : Cond.instanceMethod yJ0_charAt_5068e ∈ tables_1_4 := List.mem_of_getElem? (i := 1) rfl; simp only [h9, true_or, or_true]), rfl⟩
set_option maxRecDepth 8000 in
theorem ws_i_coder : Cond.instanceMethod yJ0_coder_7d493 ∈ TT := List.mem_filter.mpr ⟨List.mem_append_right _ (show _ ∈ tables_1 by simp only [tables_1, List.mem_append]; have h9 : Cond.instanceMethod yJ0_coder_7d493 ∈ tables_1_3 := List.mem_of_getElem? (i := 235) rfl; simp only [h9, true_or, or_true]), rfl⟩
set_option maxRecDepth 8000 in
theorem ws_i_isL : Cond.instanceMethod yJ0_isLatin1_aae02 ∈ TT := List.mem_filter.mpr ⟨List.mem_append_right _ (show _ ∈ tables_1 by simp only [tables_1, List.mem_append]; have h9 : Cond.instanceMethod yJ0_isLatin1_aae02 ∈ tables_1_4 := List.mem_of_getElem? (i := 5) rfl; simp only [h9, true_or, or_true]), rfl⟩
set_option maxRecDepth 8000 in
theorem ws_i_slen : Cond.instanceMethod yJ0_length_8abf5 ∈ TT := List.mem_filter.mpr ⟨List.mem_append_right _ (show _ ∈ tables_1 by simp only [tables_1, List.mem_append]; have h9 : Cond.instanceMethod yJ0_length_8abf5 ∈ tables_1_3 := List.mem_of_getElem? (i := 231) rfl; simp only [h9, true_or, or_true]), rfl⟩
set_option maxRecDepth 8000 in
theorem ws_l_chk : Cond.methodLink RJ1 9 yJ0_checkIndex_df160 ∈ TT := List.mem_filter.mpr ⟨List.mem_append_right _ (show _ ∈ tables_1 by simp only [tables_1, List.mem_append]; have h9 : Cond.methodLink RJ1 9 yJ0_checkIndex_df160 ∈ tables_1_4 := List.mem_of_getElem? (i := 11) rfl; simp only [h9, true_or, or_true]), rfl⟩
set_option maxRecDepth 8000 in
theorem ws_l_coder : Cond.methodLink RJ0 335 yJ0_coder_7d493 ∈ TT := List.mem_filter.mpr ⟨List.mem_append_right _ (show _ ∈ tables_1 by simp only [tables_1, List.mem_append]; have h9 : Cond.methodLink RJ0 335 yJ0_coder_7d493 ∈ tables_1_3 := List.mem_of_getElem? (i := 234) rfl; simp only [h9, true_or, or_true]), rfl⟩
set_option maxRecDepth 8000 in
theorem ws_l_isL : Cond.methodLink RJ0 492 yJ0_isLatin1_aae02 ∈ TT := List.mem_filter.mpr ⟨List.mem_append_right _ (show _ ∈ tables_1 by simp only [tables_1, List.mem_append]; have h9 : Cond.methodLink RJ0 492 yJ0_isLatin1_aae02 ∈ tables_1_4 := List.mem_of_getElem? (i := 4) rfl; simp only [h9, true_or, or_true]), rfl⟩
set_option maxRecDepth 8000 in
theorem ws_l_lch : Cond.methodLink RJ0 495 yJ1_charAt_3b067 ∈ TT := List.mem_filter.mpr ⟨List.mem_append_right _ (show _ ∈ tables_1 by simp only [tables_1, List.mem_append]; have h9 : Cond.methodLink RJ0 495 yJ1_charAt_3b067 ∈ tables_1_4 := List.mem_of_getElem? (i := 8) rfl; simp only [h9, true_or, or_true]), rfl⟩
set_option maxRecDepth 8000 in
theorem ws_l_pre : Cond.methodLink RJ0 1059 yJ3_checkIndex_8e157 ∈ TT := List.mem_filter.mpr ⟨List.mem_append_right _ (show _ ∈ tables_1 by simp only [tables_1, List.mem_append]; have h9 : Cond.methodLink RJ0 1059 yJ3_checkIndex_8e157 ∈ tables_1_4 := List.mem_of_getElem? (i := 16) rfl; simp only [h9, true_or, or_true]), rfl⟩
set_option maxRecDepth 8000 in
theorem ws_n_Preconditions : Cond.initialized RJ3 ∈ TT := List.mem_filter.mpr ⟨List.mem_append_right _ (show _ ∈ tables_1 by simp only [tables_1, List.mem_append]; have h9 : Cond.initialized RJ3 ∈ tables_1_1 := List.mem_of_getElem? (i := 17) rfl; simp only [h9, true_or, or_true]), rfl⟩
set_option maxRecDepth 8000 in
theorem ws_n_String : Cond.initialized RJ0 ∈ TT := List.mem_filter.mpr ⟨List.mem_append_right _ (show _ ∈ tables_1 by simp only [tables_1, List.mem_append]; have h9 : Cond.initialized RJ0 ∈ tables_1_1 := List.mem_of_getElem? (i := 15) rfl; simp only [h9, true_or, or_true]), rfl⟩
set_option maxRecDepth 8000 in
theorem ws_n_StringLatin1 : Cond.initialized RJ1 ∈ TT := List.mem_filter.mpr ⟨List.mem_append_right _ (show _ ∈ tables_1 by simp only [tables_1, List.mem_append]; have h9 : Cond.initialized RJ1 ∈ tables_1_1 := List.mem_of_getElem? (i := 16) rfl; simp only [h9, true_or, or_true]), rfl⟩
set_option maxRecDepth 8000 in
theorem ws_s_chk : Cond.static yJ0_checkIndex_df160 ∈ TT := List.mem_filter.mpr ⟨List.mem_append_right _ (show _ ∈ tables_1 by simp only [tables_1, List.mem_append]; have h9 : Cond.static yJ0_checkIndex_df160 ∈ tables_1_4 := List.mem_of_getElem? (i := 12) rfl; simp only [h9, true_or, or_true]), rfl⟩
set_option maxRecDepth 8000 in
theorem ws_s_lch : Cond.static yJ1_charAt_3b067 ∈ TT := List.mem_filter.mpr ⟨List.mem_append_right _ (show _ ∈ tables_1 by simp only [tables_1, List.mem_append]; have h9 : Cond.static yJ1_charAt_3b067 ∈ tables_1_4 := List.mem_of_getElem? (i := 9) rfl; simp only [h9, true_or, or_true]), rfl⟩
set_option maxRecDepth 8000 in
theorem ws_s_pre : Cond.static yJ3_checkIndex_8e157 ∈ TT := List.mem_filter.mpr ⟨List.mem_append_right _ (show _ ∈ tables_1 by simp only [tables_1, List.mem_append]; have h9 : Cond.static yJ3_checkIndex_8e157 ∈ tables_1_4 := List.mem_of_getElem? (i := 17) rfl; simp only [h9, true_or, or_true]), rfl⟩
set_option maxRecDepth 8000 in
theorem ws_v_cha : Cond.selects RJ0 yJ0_charAt_5068e yJ0_charAt_5068e ∈ TT := List.mem_filter.mpr ⟨List.mem_append_right _ (show _ ∈ tables_1 by simp only [tables_1, List.mem_append]; have h9 : Cond.selects RJ0 yJ0_charAt_5068e yJ0_charAt_5068e ∈ tables_1_4 := List.mem_of_getElem? (i := 2) rfl; simp only [h9, true_or, or_true]), rfl⟩
set_option maxRecDepth 8000 in
theorem ws_v_coder : Cond.selects RJ0 yJ0_coder_7d493 yJ0_coder_7d493 ∈ TT := List.mem_filter.mpr ⟨List.mem_append_right _ (show _ ∈ tables_1 by simp only [tables_1, List.mem_append]; have h9 : Cond.selects RJ0 yJ0_coder_7d493 yJ0_coder_7d493 ∈ tables_1_3 := List.mem_of_getElem? (i := 236) rfl; simp only [h9, true_or, or_true]), rfl⟩
set_option maxRecDepth 8000 in
theorem ws_v_isL : Cond.selects RJ0 yJ0_isLatin1_aae02 yJ0_isLatin1_aae02 ∈ TT := List.mem_filter.mpr ⟨List.mem_append_right _ (show _ ∈ tables_1 by simp only [tables_1, List.mem_append]; have h9 : Cond.selects RJ0 yJ0_isLatin1_aae02 yJ0_isLatin1_aae02 ∈ tables_1_4 := List.mem_of_getElem? (i := 6) rfl; simp only [h9, true_or, or_true]), rfl⟩
set_option maxRecDepth 8000 in
theorem ws_v_slen : Cond.selects RJ0 yJ0_length_8abf5 yJ0_length_8abf5 ∈ TT := List.mem_filter.mpr ⟨List.mem_append_right _ (show _ ∈ tables_1 by simp only [tables_1, List.mem_append]; have h9 : Cond.selects RJ0 yJ0_length_8abf5 yJ0_length_8abf5 ∈ tables_1_3 := List.mem_of_getElem? (i := 232) rfl; simp only [h9, true_or, or_true]), rfl⟩
section STR
variable {X : Cx} {M : Mi} {E : Rm} {Q : Qf} {kc pc : Nat} {L : List (Nat × Value)} {st : List Value} {h : Hp} {Qr : Option Value → Hp → Prop} {Qx : String → Hp → Prop}
theorem g_cs {ix : Nat} (hd : decode M.2.1 pc = .ok (.getstatic ix, 3)) (hw : Cond.fieldLink M.1 ix RJ0 "COMPACT_STRINGS" "Z" ∈ TT) (k : G X M E Q kc (pc + 3) L (.int 1 :: st) h) : G X M E Q kc pc L st h := by
  intro p l e R s m args below meth c H locs cells slots ls S Y
  exact va_gets (C := "java/lang/String") (n := "COMPACT_STRINGS") (d := "Z") (ref := RJ0) (v := .int 1) S.1 S.2.1 S.2.2.2.2.2.2.2.2.2.1.2.2.2.1.2.2.1 Y.2.1 S.2.2.2.2.1 (S.2.2.2.2.2.1 _ hw) (fun _ h => h) hd (k p l e R s m args below meth c H locs cells slots ls S Y)
theorem g_coder {si ix : Nat} (hsi : si < NS) (hd : decode M.2.1 pc = .ok (.getfield ix, 3)) (hw : Cond.fieldLink M.1 ix RJ0 "coder" "B" ∈ TT) (k : G X M E Q kc (pc + 3) L (.int 0 :: st) h) : G X M E Q kc pc L (.ref (SB + 2 * si) :: st) h := by
  intro p l e R s m args below meth c H locs cells slots ls S Y
  exact vk_getf (o := "java/lang/String") (n := "coder") (d := "B") (ref := RJ0) (v := .int 0) S.1 S.2.1 (S.2.2.2.2.2.2.2.2.2.1.2.1 si hsi).2.1 Y.2.1 S.2.2.2.2.1 (S.2.2.2.2.2.1 _ hw) (fun _ h => h) hd (k p l e R s m args below meth c H locs cells slots ls S Y)
theorem g_value {si ix : Nat} (hsi : si < NS) (hd : decode M.2.1 pc = .ok (.getfield ix, 3)) (hw : Cond.fieldLink M.1 ix RJ0 "value" "[B" ∈ TT) (k : G X M E Q kc (pc + 3) L (.ref (SB + 2 * si + 1) :: st) h) : G X M E Q kc pc L (.ref (SB + 2 * si) :: st) h := by
  intro p l e R s m args below meth c H locs cells slots ls S Y
  exact vk_getf (o := "java/lang/String") (n := "value") (d := "[B") (ref := RJ0) S.1 S.2.1 (S.2.2.2.2.2.2.2.2.2.1.2.1 si hsi).2.2.1 Y.2.1 S.2.2.2.2.1 (S.2.2.2.2.2.1 _ hw) (fun _ h => h) hd (k p l e R s m args below meth c H locs cells slots ls S Y)
theorem g_alenS {si : Nat} (hsi : si < NS) (hd : decode M.2.1 pc = .ok (.arraylength, 1)) (k : G X M E Q kc (pc + 1) L (.int (slen si) :: st) h) : G X M E Q kc pc L (.ref (SB + 2 * si + 1) :: st) h := by
  intro p l e R s m args below meth c H locs cells slots ls S Y
  obtain ⟨cell, h1, h2, h3, h4, h5, h6, h7⟩ := (S.2.2.2.2.2.2.2.2.2.1.2.1 si hsi).2.2.2
  exact W.alen (n := slen si) S.1 S.2.1 (by rw [Y.2.1.2.1 _ (Array.getElem?_eq_some_iff.mp h1).1 h7]; exact h1) h2 h5 rfl rfl hd (k p l e R s m args below meth c H locs cells slots ls S Y)
theorem g_bald {si : Nat} {i : Int32} (hsi : si < NS) (hin : vp_in i (bytL.getD si []).length) (hd : decode M.2.1 pc = .ok (.baload, 1)) (k : G X M E Q kc (pc + 1) L (.int (sch si i.toNatClampNeg) :: st) h) : G X M E Q kc pc L (.int i :: .ref (SB + 2 * si + 1) :: st) h := by
  intro p l e R s m args below meth c H locs cells slots ls S Y
  obtain ⟨cell, h1, h2, h3, h4, h5, h6, h7⟩ := (S.2.2.2.2.2.2.2.2.2.1.2.1 si hsi).2.2.2
  refine W.bald (v := .int (sch si i.toNatClampNeg)) S.1 S.2.1 (by rw [Y.2.1.2.1 _ (Array.getElem?_eq_some_iff.mp h1).1 h7]; exact h1) h2 h3 (fun q => ?_) (h6 _ (in_lt hin)) rfl rfl hd (k p l e R s m args below meth c H locs cells slots ls S Y)
  rcases q with q | q
  · exact hin (Or.inl q)
  · exact hin (Or.inr (Nat.le_trans h4 q))
theorem g_i2c {x : Int32} (hd : decode M.2.1 pc = .ok (.i2c, 1)) (k : G X M E Q kc (pc + 1) L (.int ((x.toUInt32 % 65536).toInt32) :: st) h) : G X M E Q kc pc L (.int x :: st) h := by
  intro p l e R s m args below meth c H locs cells slots ls S Y
  exact lv_i2c S.1 S.2.1 hd rfl (k p l e R s m args below meth c H locs cells slots ls S Y)
theorem g_zretT {v : Int32} {ty : FieldType} (hd : decode M.2.1 pc = .ok (.ireturn, 1)) (hr : M.2.2.2 = some ty) (hn : narrow ty (.int v) = .int v) (hq : Qr (some (.int v)) h) : G X M E (QM X E Qr Qx) kc pc L [.int v] h := by
  intro p l e R s m args below meth c H locs cells slots ls S Y
  have hlocks : meth.locks = false := S.2.2.2.2.2.2.1
  exact W.widen (k := E.2.2.1) (n := E.2.2.2) (by have := Y.2.2.2.1; omega) (by have := Y.2.2.2.2; omega) (vx_ret (W.zret S.1 S.2.1 (S.2.2.2.1.trans hr) hn (fun t ht hW => qm_ret (r := some (.int v)) Y.1 Y.2.1 hq ht hW) Y.2.1.2.2 hd))
variable {y : MethodName} {My : Mi} {fr lo mc ix : Nat} {As : List Value} {Qr1 : Option Value → Hp → Prop} {Qx1 : String → Hp → Prop} {stk : List Value}
theorem g_callT {si : Nat} (hsi : si < NS) (hd : decode M.2.1 pc = .ok (.invokevirtual ix, 3)) (hq : y.cls = "java/lang/String") (hl : Cond.methodLink M.1 ix y ∈ TT) (hi : Cond.instanceMethod y ∈ TT) (hs : Cond.selects y.cls y y ∈ TT) (hini : Cond.initialized y.cls ∈ TT) (hcode : Cond.code y My.2.1 My.2.2.1 My.2.2.2 ∈ TT) (hok : okD y As.length) (hR : fr + 1 ≤ E.1 ∧ 8 + (My.2.2.1 + 11) + lo ≤ E.2.1) (hst : (st.map fun v => v.category).sum ≤ 8) (hstk : stk = As.reverse ++ .ref (SB + 2 * si) :: st)
    (hC : Con X y My fr lo mc (.ref (SB + 2 * si) :: As) h Qr1 Qx1) (kx : ∀ C h', Qx1 C h' → GX X M E Q kc pc L st h' C) (kk : ∀ r h', Qr1 r h' → G X M E Q kc (pc + 3) L (r.toList ++ st) h') : G X M E Q (kc + mc) pc L stk h := by
  intro p l e R s m args below meth c0 H locs cells slots ls S Y
  have hSf := S.2.2.2.2.2.2.2.2.2.2
  have hE := S.2.2.2.2.2.2.2.2.2.1
  have y1 := Y.2.2.2.1
  have y2 := Y.2.2.2.2
  refine g_run S Y (vx_runV (C := y.cls) (b := X.2.2.1 (SB + 2 * si)) (As := As.map (rv X)) (rest := st.map (rv X)) ⟨S.1, S.2.1, S.2.2.1, S.2.2.2.2.1, S.2.2.2.2.2.1⟩ (hC l S.2.2.2.2.2.2.2.2.1) ⟨callB_g (n := As.length) S.2.2.2.2.2.1 hE.2.2.2.2.2 hcode hini hl hok ⟨by omega, by omega⟩, S.2.2.2.2.2.1 _ hi, S.2.2.2.2.2.1 _ hs⟩ ⟨pm_blind, ?_, fun U hU hw => pre_g (av := .ref (SB + 2 * si) :: As) hE Y.1 Y.2.1 hU hw⟩ rfl (by rw [List.length_map]) Y.2.2.1.1 (by rw [hstk]; simp [rv]) (st_room hst) hd ⟨by omega, by omega⟩) kx kk
  obtain ⟨cell, h1, h2, h3, -⟩ := ((hE.2.1 si hsi).1).kept Y.2.1.2.1
  exact ⟨cell, h1, h2, by rw [hq]; exact h3⟩
end STR
def dkB (b : ByteArray) (l : List (Nat × Instr × Nat)) : Prop := ∀ q ∈ l, decode b q.1 = .ok (q.2.1, q.2.2)
theorem dB {b : ByteArray} {l : List (Nat × Instr × Nat)} (h : dkB b l) (i : Nat) {pc n : Nat} {ins : Instr} (hi : l[i]? = some (pc, ins, n)) : decode b pc = .ok (ins, n) := h (pc, ins, n) (List.mem_of_getElem? hi)
def rows_coder : List (Nat × Instr × Nat) := [(0, .getstatic 38, 3), (3, .ifCond .eq 10, 3), (6, .aload_n 0, 1), (7, .getfield 15, 3), (10, .goto 4, 3), (13, .iconst 1, 1), (14, .ireturn, 1)]
theorem D_coder : dkB cJ0_coder_7d493 rows_coder := by
  unfold dkB
  decide +kernel
def rows_slen : List (Nat × Instr × Nat) := [(0, .aload_n 0, 1), (1, .getfield 9, 3), (4, .arraylength, 1), (5, .aload_n 0, 1), (6, .invokevirtual 335, 3), (9, .ishr, 1), (10, .ireturn, 1)]
theorem D_slen : dkB cJ0_length_8abf5 rows_slen := by
  unfold dkB
  decide +kernel
def rows_isL : List (Nat × Instr × Nat) := [(0, .getstatic 38, 3), (3, .ifCond .eq 14, 3), (6, .aload_n 0, 1), (7, .getfield 15, 3), (10, .ifCond .ne 7, 3), (13, .iconst 1, 1), (14, .goto 4, 3), (17, .iconst 0, 1), (18, .ireturn, 1)]
theorem D_isL : dkB cJ0_isLatin1_aae02 rows_isL := by
  unfold dkB
  decide +kernel
def rows_chk : List (Nat × Instr × Nat) := [(0, .iload_n 0, 1), (1, .iload_n 1, 1), (2, .getstatic 1053, 3), (5, .invokestatic 1059, 3), (8, .pop, 1), (9, .return_, 1)]
theorem D_chk : dkB cJ0_checkIndex_df160 rows_chk := by
  unfold dkB
  decide +kernel
def rows_lch : List (Nat × Instr × Nat) := [(0, .iload_n 1, 1), (1, .aload_n 0, 1), (2, .arraylength, 1), (3, .invokestatic 9, 3), (6, .aload_n 0, 1), (7, .iload_n 1, 1), (8, .baload, 1), (9, .sipush 255, 3), (12, .iand, 1), (13, .i2c, 1), (14, .ireturn, 1)]
theorem D_lch : dkB cJ1_charAt_3b067 rows_lch := by
  unfold dkB
  decide +kernel
def rows_cha : List (Nat × Instr × Nat) := [(0, .aload_n 0, 1), (1, .invokevirtual 492, 3), (4, .ifCond .eq 12, 3), (7, .aload_n 0, 1), (8, .getfield 9, 3), (11, .iload_n 1, 1), (12, .invokestatic 495, 3), (15, .ireturn, 1), (16, .aload_n 0, 1), (17, .getfield 9, 3), (20, .iload_n 1, 1), (21, .invokestatic 498, 3), (24, .ireturn, 1)]
theorem D_cha : dkB cJ0_charAt_5068e rows_cha := by
  unfold dkB
  decide +kernel
def rows_pre : List (Nat × Instr × Nat) := [(0, .iload_n 0, 1), (1, .ifCond .lt 8, 3), (4, .iload_n 0, 1), (5, .iload_n 1, 1), (6, .if_icmp .lt 10, 3), (9, .aload_n 2, 1), (10, .iload_n 0, 1), (11, .iload_n 1, 1), (12, .invokestatic 95, 3), (15, .athrow, 1), (16, .iload_n 0, 1), (17, .ireturn, 1)]
theorem D_pre : dkB cJ3_checkIndex_8e157 rows_pre := by
  unfold dkB
  decide +kernel
theorem okD_coder : okD yJ0_coder_7d493 0 := by
  unfold okD
  decide +kernel
theorem okD_slen : okD yJ0_length_8abf5 0 := by
  unfold okD
  decide +kernel
theorem okD_isL : okD yJ0_isLatin1_aae02 0 := by
  unfold okD
  decide +kernel
theorem okD_chk : okD yJ0_checkIndex_df160 2 := by
  unfold okD
  decide +kernel
theorem okD_lch : okD yJ1_charAt_3b067 2 := by
  unfold okD
  decide +kernel
theorem okD_cha : okD yJ0_charAt_5068e 1 := by
  unfold okD
  decide +kernel
theorem okD_pre : okD yJ3_checkIndex_8e157 3 := by
  unfold okD
  decide +kernel
abbrev Rp (h : Hp) (v : Int32) (Q : Prop) : Option Value → Hp → Prop := fun r h' => r = some (.int v) ∧ h' = h ∧ Q
theorem c_coder {X : Cx} {si : Nat} (hsi : si < NS) (h : Hp) (Q : Prop) (hw : Q) : Con X yJ0_coder_7d493 M_coder 0 0 0 [.ref (SB + 2 * si)] h (Rp h 0 Q) Qn := by
  refine con_of (by decide +kernel) rfl (Nat.le_of_ble_eq_true rfl) ?_
  refine g_cs (dB D_coder 0 rfl) ws_f_COMPACT_STRINGS ?_
  refine g_if_eq (dB D_coder 1 rfl) rfl ⟨fun z => absurd z (by decide), fun _ => ?_⟩
  refine g_aload_n (x := SB + 2 * si) 0 (dB D_coder 2 rfl) rfl rfl ?_
  refine g_coder hsi (dB D_coder 3 rfl) ws_f_coder ?_
  refine g_goto (dB D_coder 4 rfl) rfl ?_
  exact g_zretT (dB D_coder 6 rfl) rfl (by decide +kernel) ⟨rfl, rfl, hw⟩
theorem c_isL {X : Cx} {si : Nat} (hsi : si < NS) (h : Hp) (Q : Prop) (hw : Q) : Con X yJ0_isLatin1_aae02 M_isL 0 0 0 [.ref (SB + 2 * si)] h (Rp h 1 Q) Qn := by
  refine con_of (by decide +kernel) rfl (Nat.le_of_ble_eq_true rfl) ?_
  refine g_cs (dB D_isL 0 rfl) ws_f_COMPACT_STRINGS ?_
  refine g_if_eq (dB D_isL 1 rfl) rfl ⟨fun z => absurd z (by decide), fun _ => ?_⟩
  refine g_aload_n (x := SB + 2 * si) 0 (dB D_isL 2 rfl) rfl rfl ?_
  refine g_coder hsi (dB D_isL 3 rfl) ws_f_coder ?_
  refine g_if_ne (dB D_isL 4 rfl) rfl ⟨fun z => absurd rfl z, fun _ => ?_⟩
  refine g_iconst (v := 1) (dB D_isL 5 rfl) (by decide +kernel) ?_
  refine g_goto (dB D_isL 6 rfl) rfl ?_
  exact g_zretT (dB D_isL 8 rfl) rfl (by decide +kernel) ⟨rfl, rfl, hw⟩
theorem c_slen {X : Cx} {si : Nat} (hsi : si < NS) (h : Hp) (Q : Prop) (hw : Q) : Con X yJ0_length_8abf5 M_slen 1 40 0 [.ref (SB + 2 * si)] h (Rp h (slen si) Q) Qn := by
  refine con_of (by decide +kernel) rfl (Nat.le_of_ble_eq_true rfl) ?_
  refine g_aload_n (x := SB + 2 * si) 0 (dB D_slen 0 rfl) rfl rfl ?_
  refine g_value hsi (dB D_slen 1 rfl) ws_f_value ?_
  refine g_alenS hsi (dB D_slen 2 rfl) ?_
  refine g_aload_n (x := SB + 2 * si) 0 (dB D_slen 3 rfl) rfl rfl ?_
  refine g_callT (As := []) (kc := 0) (fr := 0) (lo := 0) (mc := 0) (My := M_coder) hsi (dB D_slen 4 rfl) rfl ws_l_coder ws_i_coder ws_v_coder ws_n_String ws_c_coder okD_coder (by decide) (Nat.le_of_ble_eq_true rfl) rfl (c_coder hsi h True trivial) (fun _ _ hx => hx.elim) (fun r h' hq => ?_)
  obtain ⟨rfl, rfl, -⟩ := hq
  refine g_ishr (x := slen si) (y := 0) (dB D_slen 5 rfl) ?_
  rw [sb_shr0]
  exact g_iret (dB D_slen 6 rfl) rfl ⟨rfl, rfl, hw⟩
/-- Preconditions.checkIndex of an index within -/
theorem met_pre (l : Launch) (i n : Int32) (v : Value) (hv : v = .null ∨ ∃ t, v = .ref t) (h0 : ¬ i < 0) (hn : i < n) : Met l yJ3_checkIndex_8e157 [.code yJ3_checkIndex_8e157 cJ3_checkIndex_8e157 3 (some .int)] rm0 (va_Pc [.int i, .int n, v] (fun _ => True)) (fun _ st oc t => oc = .returned (some (.int i)) ∧ t.heap = st.heap) 0 0 (fun _ => False) := by
  refine Met.ofW (cc := cJ3_checkIndex_8e157) (maxL := 3) (ret := some .int) (by decide +kernel) rfl ?_
  intro p e s m args below meth c s₁ B hml hP
  obtain ⟨rfl, -⟩ := hP
  rw [lg_entry_eq]
  have hlocks := B.notSynchronized
  have hc : (lg_sl [.int i, .int n, v]).length ≤ 3 := by rcases hv with rfl | ⟨t, rfl⟩ <;> exact Nat.le_of_ble_eq_true rfl
  have hl := lv_entry [.int i, .int n, v] hc
  generalize (lg_sl ([.int i, .int n, v]) ++ List.replicate (3 - (lg_sl ([.int i, .int n, v])).length) Slot.unset).toArray = ls at hl ⊢
  have hl : lv_has ls 3 [(0, .int i), (1, .int n), (2, v)] := hl
  refine lv_iload_n (k := 0) (i := 0) (x := i) B.exec B.bytes (dB D_pre 0 rfl) rfl (lv_at hl 0 rfl) ?_
  refine lv_if_lt B.exec B.bytes (dB D_pre 1 rfl) (tgt := 9) rfl (fun z => absurd z h0) (fun _ => ?_)
  refine lv_iload_n (k := 0) (i := 0) (x := i) B.exec B.bytes (dB D_pre 2 rfl) rfl (lv_at hl 0 rfl) ?_
  refine lv_iload_n (k := 1) (i := 1) (x := n) B.exec B.bytes (dB D_pre 3 rfl) rfl (lv_at hl 1 rfl) ?_
  refine lv_icmp_lt B.exec B.bytes (dB D_pre 4 rfl) (tgt := 16) rfl (fun _ => ?_) (fun z => absurd hn z)
  refine lv_iload_n (k := 0) (i := 0) (x := i) B.exec B.bytes (dB D_pre 10 rfl) rfl (lv_at hl 0 rfl) ?_
  exact W.iret B.exec B.bytes B.returns (fun t ht _ => ⟨rfl, ht⟩) (fun _ h => by cases h) (dB D_pre 11 rfl)
theorem c_chk {X : Cx} {i n : Int32} (h0 : ¬ i < 0) (hn : i < n) (h : Hp) (Q : Prop) (hw : Q) : Con X yJ0_checkIndex_df160 M_chk 1 40 0 [.int i, .int n] h (fun r h' => r = none ∧ h' = h ∧ Q) Qn := by
  refine con_of (by decide +kernel) rfl (Nat.le_of_ble_eq_true rfl) ?_
  refine g_iload_n 0 (dB D_chk 0 rfl) rfl rfl ?_
  refine g_iload_n 1 (dB D_chk 1 rfl) rfl rfl ?_
  intro p l e R s m args below meth c H locs cells slots ls S Y
  have hE := S.2.2.2.2.2.2.2.2.2.1
  have hts := S.2.2.2.2.2.1
  have hSf := S.2.2.2.2.2.2.2.2.2.2
  have hlocks : meth.locks = false := S.2.2.2.2.2.2.1
  have hSl : 40 ≤ R.locals := hSf.2.1
  have y1 := Y.2.2.2.1
  have y2 := Y.2.2.2.2
  have go : ∀ v : Value, (v = .null ∨ ∃ t, v = .ref t) → va_Z "jdk/internal/util/Preconditions" "SIOOBE_FORMATTER" "Ljava/util/function/BiFunction;" v (AA X) s s.heap → W p l e R s m args below meth c H locs cells slots (QM X (1, 40, 0, 0) (fun r h' => r = none ∧ h' = h ∧ Q) Qn below args s) (F0 m 2 ls [.int n, .int i]) := by
    intro v hv hZ
    have hvc : v.category = 1 := by rcases hv with rfl | ⟨t, rfl⟩ <;> rfl
    refine va_gets (ref := RJ3) S.1 S.2.1 hZ Y.2.1 S.2.2.2.2.1 (hts _ ws_f_SIOOBE_FORMATTER) (fun _ h => h) (dB D_chk 2 rfl) ?_
    have hrun := W.runS (As := [.int i, .int n, v]) (rest := []) (H := H) (locs := locs) (cells := cells) (slots := slots) (p := p) (l := l) (e := e) (R := R) (s := s) (m := m) (args := args) (below := below) (meth := meth) (c := c) (g := F0 m 5 ls [v, .int n, .int i]) (index := 1059) (n := 3) (nL := 2) (own := RJ0) (Ts := TT) ⟨S.1, S.2.1, S.2.2.1, S.2.2.2.2.1, hts⟩ (met_pre l i n v hv h0 hn)
      ⟨⟨rfl, rfl, by show 0 + 1 ≤ R.frames; omega, by show 8 + (3 + 11) + 0 ≤ R.locals; omega, fun w hw a' U hW => by
        have e9 : w = .code yJ3_checkIndex_8e157 cJ3_checkIndex_8e157 3 (some .int) := by simpa using hw
        subst e9
        exact va_Nw.use (tt_tab ws_c_pre) (tt_warm ws_c_pre hW (hE.2.2.2.2.2 _ ws_c_pre)), List.mem_cons_self, hts _ ws_c_pre, hts _ ws_n_Preconditions, ⟨okD_pre.1, okD_pre.2.1⟩, fun sig hs9 => by
        have h2 := okD_pre.2.2
        rw [hs9] at h2
        exact (Option.some.inj h2).symm, hts _ ws_l_pre⟩, hts _ ws_s_pre⟩
      ⟨fun _ _ _ _ hp => hp, fun U _ _ => ⟨rfl, trivial⟩⟩ rfl rfl Y.2.2.1.1 rfl (lv_room (Nat.le_of_ble_eq_true rfl)) (dB D_chk 3 rfl) ⟨by omega, by omega⟩
    intro T hT XS
    obtain ⟨v9, st₀, t, T', L9, h00, X', hL, e1, ⟨hv9, hh9⟩, st9⟩ := hrun T hT XS
    cases hv9
    have hk : W p l e R s m args below meth c H (locs ++ L9) cells slots (QM X (1, 40, 0, 0) (fun r h' => r = none ∧ h' = h ∧ Q) Qn below args s) (F0 m 8 ls [.int i]) := by
      have hS2 : va_S (AA X) s.heap H (locs ++ L9) := ⟨Y.2.1.1, Y.2.1.2.1, fun q hq => by
        rcases List.mem_append.mp hq with h9 | h9
        · exact Y.2.1.2.2 q h9
        · exact (hL q h9).elim⟩
      refine lv_pop S.1 S.2.1 (dB D_chk 4 rfl) rfl ?_
      refine W.widen (k := 0) (n := 0) (by show cells ≤ 0; have : cells + 0 ≤ 0 := y1; omega) (by show slots ≤ 0; have : slots + 6 * 0 ≤ 0 := y2; omega) (vx_ret (W.vret S.1 S.2.1 S.2.2.2.1 (fun t ht hW => qm_ret (r := none) Y.1 hS2 ⟨rfl, rfl, hw⟩ ht hW) hS2.2.2 (dB D_chk 5 rfl)))
    obtain ⟨t2, a1, b1⟩ := hk T' (by rw [e1, hh9, h00]) X'
    exact ⟨t2, st9 t2 a1, b1⟩
  rcases hE.2.2.2.1.2.2.2 with hZ | ⟨t, hZ⟩
  · exact go .null (Or.inl rfl) hZ
  · exact go (.ref t) (Or.inr ⟨t, rfl⟩) hZ
theorem sch_ok {si k : Nat} (hsi : si < NS) : ((sch si k &&& 255).toUInt32 % 65536).toInt32 = sch si k := by
  have hb : (bytL.getD si []).getD k 0 < 128 := by
    by_cases hk : k < (bytL.getD si []).length
    · rw [List.getD_eq_getElem?_getD, List.getElem?_eq_getElem hk]
      exact (byt_ok si hsi).2 _ (List.getElem_mem hk)
    · rw [List.getD_eq_getElem?_getD, List.getElem?_eq_none (by omega)]
      decide
  unfold sch
  generalize (bytL.getD si []).getD k 0 = b at hb
  have h9 : ∀ b, b < 128 → ((nI b &&& 255).toUInt32 % 65536).toInt32 = nI b := by decide +kernel
  exact h9 b hb
theorem c_lch {X : Cx} {si : Nat} {i : Int32} (hsi : si < NS) (hin : vp_in i (bytL.getD si []).length) (h : Hp) (Q : Prop) (hw : Q) : Con X yJ1_charAt_3b067 M_lch 2 80 0 [.ref (SB + 2 * si + 1), .int i] h (Rp h (sch si i.toNatClampNeg) Q) Qn := by
  refine con_of (by decide +kernel) rfl (Nat.le_of_ble_eq_true rfl) ?_
  have hlt := in_lt hin
  have hL := (byt_ok si hsi).1
  have h0 : ¬ i < 0 := fun q => hin (Or.inl q)
  have hn : i < slen si := by
    obtain ⟨j, hj, e⟩ := vp_in_of hin hL
    rw [e]
    exact nI_lt hj hL
  refine g_iload_n 1 (dB D_lch 0 rfl) rfl rfl ?_
  refine g_aload_n (x := SB + 2 * si + 1) 0 (dB D_lch 1 rfl) rfl rfl ?_
  refine g_alenS hsi (dB D_lch 2 rfl) ?_
  refine g_callS (As := [.int i, .int (slen si)]) (kc := 0) (fr := 1) (lo := 40) (mc := 0) (My := M_chk) (dB D_lch 3 rfl) ws_l_chk ws_s_chk ws_n_String ws_c_chk okD_chk (by decide) (Nat.le_of_ble_eq_true rfl) rfl (c_chk h0 hn h True trivial) (fun _ _ hx => hx.elim) (fun r h' hq => ?_)
  obtain ⟨rfl, rfl, -⟩ := hq
  refine g_aload_n (x := SB + 2 * si + 1) 0 (dB D_lch 4 rfl) rfl rfl ?_
  refine g_iload_n 1 (dB D_lch 5 rfl) rfl rfl ?_
  refine g_bald hsi hin (dB D_lch 6 rfl) ?_
  refine g_sipush (v := 255) (dB D_lch 7 rfl) (by decide +kernel) ?_
  refine g_iand (dB D_lch 8 rfl) ?_
  refine g_i2c (dB D_lch 9 rfl) ?_
  rw [sch_ok hsi]
  refine g_zretT (dB D_lch 10 rfl) rfl ?_ ⟨rfl, rfl, hw⟩
  have hb : (bytL.getD si []).getD i.toNatClampNeg 0 < 128 := by
    rw [List.getD_eq_getElem?_getD, List.getElem?_eq_getElem hlt]
    exact (byt_ok si hsi).2 _ (List.getElem_mem hlt)
  exact (pk_charN (by omega)).1
theorem c_cha {X : Cx} {si : Nat} {i : Int32} (hsi : si < NS) (hin : vp_in i (bytL.getD si []).length) (h : Hp) (Q : Prop) (hw : Q) : Con X yJ0_charAt_5068e M_cha 3 120 0 [.ref (SB + 2 * si), .int i] h (Rp h (sch si i.toNatClampNeg) Q) Qn := by
  refine con_of (by decide +kernel) rfl (Nat.le_of_ble_eq_true rfl) ?_
  have hlt := in_lt hin
  refine g_aload_n (x := SB + 2 * si) 0 (dB D_cha 0 rfl) rfl rfl ?_
  refine g_callT (As := []) (kc := 0) (fr := 0) (lo := 0) (mc := 0) (My := M_isL) hsi (dB D_cha 1 rfl) rfl ws_l_isL ws_i_isL ws_v_isL ws_n_String ws_c_isL okD_isL (by decide) (Nat.le_of_ble_eq_true rfl) rfl (c_isL hsi h True trivial) (fun _ _ hx => hx.elim) (fun r h' hq => ?_)
  obtain ⟨rfl, rfl, -⟩ := hq
  refine g_if_eq (x := 1) (dB D_cha 2 rfl) rfl ⟨fun z => absurd z (by decide), fun _ => ?_⟩
  refine g_aload_n (x := SB + 2 * si) 0 (dB D_cha 3 rfl) rfl rfl ?_
  refine g_value hsi (dB D_cha 4 rfl) ws_f_value ?_
  refine g_iload_n 1 (dB D_cha 5 rfl) rfl rfl ?_
  refine g_callS (As := [.ref (SB + 2 * si + 1), .int i]) (kc := 0) (fr := 2) (lo := 80) (mc := 0) (My := M_lch) (dB D_cha 6 rfl) ws_l_lch ws_s_lch ws_n_StringLatin1 ws_c_lch okD_lch (by decide) (Nat.le_of_ble_eq_true rfl) rfl (c_lch hsi hin _ True trivial) (fun _ _ hx => hx.elim) (fun r h' hq => ?_)
  obtain ⟨rfl, rfl, -⟩ := hq
  have hb : (bytL.getD si []).getD i.toNatClampNeg 0 < 128 := by
    rw [List.getD_eq_getElem?_getD, List.getElem?_eq_getElem hlt]
    exact (byt_ok si hsi).2 _ (List.getElem_mem hlt)
  exact g_zretT (dB D_cha 7 rfl) rfl (pk_charN (by omega)).1 ⟨rfl, rfl, hw⟩
