/-! fields, arrays, ends -/
theorem nf_z (c : Nat) : nf c = nfL.getD c 0 := rfl
theorem tt_ps {ws : List Cond} (ps : List Nat) (h : ws = ps.filterMap (fun i => lw_tbl[i]?)) (hc : ws.all cry = true) : ∀ w ∈ ws, w ∈ TT := by
  intro w hw
  have h1 := List.all_eq_true.mp hc w hw
  rw [h] at hw
  obtain ⟨i, -, hi⟩ := List.mem_filterMap.mp hw
  exact tt_in i hi h1
theorem cls_0 : ∀ w ∈ u_ws RX0 TX0 4, w ∈ TT := tt_ps [257, 259, 261, 263] (by decide +kernel) (by decide +kernel)
theorem cls_1 : ∀ w ∈ u_ws RX1 TX1 2, w ∈ TT := tt_ps [287, 289] (by decide +kernel) (by decide +kernel)
theorem cls_2 : ∀ w ∈ u_ws RX2 TX2 20, w ∈ TT := tt_ps [324, 326, 328, 330, 332, 334, 336, 338, 340, 342, 344, 346, 348, 350, 352, 354, 356, 358, 360, 362] (by decide +kernel) (by decide +kernel)
theorem cls_3 : ∀ w ∈ u_ws RX3 TX3 8, w ∈ TT := tt_ps [416, 418, 420, 422, 424, 426, 428, 430] (by decide +kernel) (by decide +kernel)
theorem cls_4 : ∀ w ∈ u_ws RX4 TX4 15, w ∈ TT := tt_ps [215, 217, 219, 221, 223, 225, 227, 229, 231, 233, 235, 237, 239, 241, 243] (by decide +kernel) (by decide +kernel)
theorem cls_5 : ∀ w ∈ u_ws RX5 TX5 2, w ∈ TT := tt_ps [274, 276] (by decide +kernel) (by decide +kernel)
theorem cls_6 : ∀ w ∈ u_ws RX6 TX6 6, w ∈ TT := tt_ps [377, 379, 381, 383, 385, 387] (by decide +kernel) (by decide +kernel)
theorem cls_7 : ∀ w ∈ u_ws RX7 TX7 6, w ∈ TT := tt_ps [147, 149, 151, 153, 155, 157] (by decide +kernel) (by decide +kernel)
theorem cls_8 : ∀ w ∈ u_ws RX8 TX8 16, w ∈ TT := tt_ps [450, 452, 454, 456, 458, 460, 462, 464, 466, 468, 470, 472, 474, 476, 478, 480] (by decide +kernel) (by decide +kernel)
theorem cls_9 : ∀ w ∈ u_ws RX9 TX9 52, w ∈ TT := tt_ps [1409, 1411, 1413, 1415, 1417, 1419, 1421, 1423, 1425, 1427, 1429, 1431, 1433, 1435, 1437, 1439, 1441, 1443, 1445, 1447, 1449, 1451, 1453, 1455, 1457, 1459, 1461, 1463, 1465, 1467, 1469, 1471, 1473, 1475, 1477, 1479, 1481, 1483, 1485, 1487, 1489, 1491, 1493, 1495, 1497, 1499, 1501, 1503, 1505, 1507, 1509, 1511] (by decide +kernel) (by decide +kernel)
theorem cls_in : ∀ c : Nat, ∀ q : vw_C, clsL[c]? = some q → ∀ w ∈ u_ws q.1 q.2.1 q.2.2, w ∈ TT := by
  intro c q hq
  match c, hq with
  | 0, hq => cases hq; exact cls_0
  | 1, hq => cases hq; exact cls_1
  | 2, hq => cases hq; exact cls_2
  | 3, hq => cases hq; exact cls_3
  | 4, hq => cases hq; exact cls_4
  | 5, hq => cases hq; exact cls_5
  | 6, hq => cases hq; exact cls_6
  | 7, hq => cases hq; exact cls_7
  | 8, hq => cases hq; exact cls_8
  | 9, hq => cases hq; exact cls_9
  | c + 10, hq => exact absurd hq (by simp)
section GM
variable {X : Cx} {M : Mi} {E : Rm} {Q : Qf} {kc pc : Nat} {L : List (Nat × Value)} {st : List Value} {h : Hp}
theorem cls_z {c : Nat} {q : vw_C} (hc : clsL[c]? = some q) : ∀ w ∈ u_ws q.1 q.2.1 q.2.2, w ∈ TT := cls_in c q hc
theorem obj_at {c : Nat} {b a1 d1 e1 : Nat} (hk : kd b = (0, c, a1, d1, e1)) : (wsX X h)[b]? = some (X.2.2.1 b, .inr (c, (List.range (nf c)).map (fval X h b c))) := by
  have h1 := ws_at X h (kd_lt hk (by decide))
  rw [hk] at h1
  exact h1
theorem arr_at {n : Nat} {b a1 d1 e1 : Nat} (hk : kd b = (1, n, a1, d1, e1)) : (wsX X h)[b]? = some (X.2.2.1 b, .inl (X.2.1 0, n, .inl (h b))) := by
  have h1 := ws_at X h (kd_lt hk (by decide))
  rw [hk] at h1
  exact h1
theorem refs_at {n : Nat} {b a1 d1 e1 : Nat} (hk : kd b = (2, n, a1, d1, e1)) : (wsX X h)[b]? = some (X.2.2.1 b, .inl (X.2.1 e1, n, .inr (.inr (.inr (.inr (fun j => if j < n then some (X.2.2.1 (a1 + d1 * j)) else none)))))) := by
  have h1 := ws_at X h (kd_lt hk (by decide))
  rw [hk] at h1
  exact h1
theorem bools_at {n : Nat} {b a1 d1 e1 : Nat} (hk : kd b = (3, n, a1, d1, e1)) : (wsX X h)[b]? = some (X.2.2.1 b, .inl (X.2.1 1, n, .inl (fun j => h b j &&& 1))) := by
  have h1 := ws_at X h (kd_lt hk (by decide))
  rw [hk] at h1
  exact h1
theorem longs_at {n : Nat} {b a1 d1 e1 : Nat} (hk : kd b = (4, n, a1, d1, e1)) : (wsX X h)[b]? = some (X.2.2.1 b, .inl (X.2.1 2, n, .inr (.inl (fun j => (h b j).toInt64)))) := by
  have h1 := ws_at X h (kd_lt hk (by decide))
  rw [hk] at h1
  exact h1
theorem fv_at (X : Cx) (h : Hp) {b c k : Nat} (hn : k < nf c) : ((List.range (nf c)).map (fval X h b c))[k]? = some (fval X h b c k) := rng_at _ _ hn
/-- the value of a field -/
def fgv (h : Hp) (p c k : Nat) : Value := if fk c k = 2 then .ref (tg p k) else if fk c k = 1 then .int (h p k &&& 1) else .int (h p k)
theorem fgv_rv (X : Cx) (h : Hp) (p c k : Nat) : rv X (fgv h p c k) = fval X h p c k := by
  unfold fgv fval
  split
  · rfl
  · split <;> rfl
theorem g_get (k9 : Nat) {b c ix : Nat} {q : vw_C} {v : Value} {a1 a2 a3 : Nat} (hd : decode M.2.1 pc = .ok (.getfield ix, 3)) (hk : kd b = (0, c, a1, a2, a3)) (hc : clsL[c]? = some q) (hnf : nf c = q.2.2) (hkn : k9 < q.2.2) (hw : Cond.fieldLink M.1 ix q.1 (q.2.1 k9).2.1 (q.2.1 k9).2.2.1 ∈ TT) (ho : (q.2.1 k9).1 = q.1) (hv : fgv h b c k9 = v)
    (k : G X M E Q kc (pc + 3) L (v :: st) h) : G X M E Q kc pc L (.ref b :: st) h := by
  intro p l e R s m args below meth c0 H locs cells slots ls S Y
  refine va_get (C := q.1) (T := q.2.1) (N := q.2.2) (ci := c) (ref := q.1) (k := k9) (q0 := b) S.1 S.2.1 S.2.2.2.2.2.1 (cls_z hc) S.2.2.2.2.1 Y.1.2.1 Y.1.1 (obj_at hk) hc hkn (S.2.2.2.2.2.1 _ hw) (fun x hx => by rw [ho] at hx; exact hx) (v := rv X v) (by rw [← hv, fgv_rv]; exact fv_at X h (by rw [hnf]; exact hkn)) hd ?_
  exact k p l e R s m args below meth c0 H locs cells slots ls S Y
theorem g_getN (k9 : Nat) {b c ix : Nat} {q : vw_C} {v : Value} {host : String} {a1 a2 a3 : Nat} (hd : decode M.2.1 pc = .ok (.getfield ix, 3)) (hk : kd b = (0, c, a1, a2, a3)) (hc : clsL[c]? = some q) (hnf : nf c = q.2.2) (hkn : k9 < q.2.2) (hw : Cond.fieldLinkNest M.1 ix q.1 (q.2.1 k9).2.1 (q.2.1 k9).2.2.1 host ∈ TT) (ho : (q.2.1 k9).1 = q.1) (hv : fgv h b c k9 = v)
    (k : G X M E Q kc (pc + 3) L (v :: st) h) : G X M E Q kc pc L (.ref b :: st) h := by
  intro p l e R s m args below meth c0 H locs cells slots ls S Y
  refine va_getN (C := q.1) (T := q.2.1) (N := q.2.2) (ci := c) (ref := q.1) (k := k9) (q0 := b) S.1 S.2.1 S.2.2.2.2.2.1 (cls_z hc) S.2.2.2.2.1 Y.1.2.1 Y.1.1 (obj_at hk) hc hkn (S.2.2.2.2.2.1 _ hw) (fun x hx => by rw [ho] at hx; exact hx) (v := rv X v) (by rw [← hv, fgv_rv]; exact fv_at X h (by rw [hnf]; exact hkn)) hd ?_
  exact k p l e R s m args below meth c0 H locs cells slots ls S Y
theorem fs_set {b c k9 : Nat} {x : Int32} (hf : fk c k9 ≠ 2) (hz : fk c k9 = 1 → x &&& 1 = x) : ((List.range (nf c)).map (fval X h b c)).set k9 (.int x) = (List.range (nf c)).map (fval X (hup h b k9 x) b c) := by
  by_cases hn : k9 < nf c
  · have h1 : fval X (hup h b k9 x) b c k9 = .int x := by
      unfold fval
      rw [if_neg hf, hup_self]
      split
      · rename_i h1
        show Value.int (upd (h b) k9 x k9 &&& 1) = _
        rw [show upd (h b) k9 x k9 = x from if_pos rfl, hz h1]
      · show Value.int (upd (h b) k9 x k9) = _
        rw [show upd (h b) k9 x k9 = x from if_pos rfl]
    rw [← h1]
    refine rng_set _ (fval X h b c) (fval X (hup h b k9 x) b c) hn (fun j hj => ?_)
    unfold fval
    rw [hup_self, show upd (h b) k9 x j = h b j from if_neg hj]
  · rw [List.set_eq_of_length_le (by rw [List.length_map, List.length_range]; omega)]
    apply List.map_congr_left
    intro j hj
    have hj2 := List.mem_range.mp hj
    unfold fval
    rw [hup_self, show upd (h b) k9 x j = h b j from if_neg (by omega)]
theorem ent_obj {b c : Nat} {a1 a2 a3 : Nat} (hk : kd b = (0, c, a1, a2, a3)) : entK X h b (kd b) = .inr (c, (List.range (nf c)).map (fval X h b c)) := by rw [hk]; rfl
def tyZ (n : Nat) : FieldType := if n = 1 then .boolean else .int
theorem and11 (x : Int32) : x &&& 1 &&& 1 = x &&& 1 := by
  apply Int32.toBitVec_inj.mp
  simp only [Int32.toBitVec_and]
  rw [BitVec.and_assoc, BitVec.and_self]
theorem fits_z {x : Int32} (hz : x &&& 1 = x) : narrow .boolean (.int x) = .int x ∧ fits .boolean (.int x) = true := by
  obtain ⟨j, hj, e⟩ := pk_andE x (m := 1) 1 (by decide)
  rw [hz] at e
  have h2 : j = 0 ∨ j = 1 := by omega
  rcases h2 with h2 | h2 <;> subst h2 <;> subst e <;> exact ⟨by decide, by decide⟩
theorem g_put (k9 : Nat) {b c ix : Nat} {q : vw_C} {x : Int32} {ty0 : Nat → FieldType} {a1 a2 a3 : Nat} (hd : decode M.2.1 pc = .ok (.putfield ix, 3)) (hk : kd b = (0, c, a1, a2, a3)) (hc : clsL[c]? = some q) (hnf : nf c = q.2.2) (hkn : k9 < q.2.2) (hw : Cond.fieldLink M.1 ix q.1 (q.2.1 k9).2.1 (q.2.1 k9).2.2.1 ∈ TT) (ho : (q.2.1 k9).1 = q.1)
    (hty : ∀ k, k < q.2.2 → parseFieldDescriptor (q.2.1 k).2.2.1 = some (ty0 k)) (hnm : ∀ a, a < q.2.2 → ∀ b, b < q.2.2 → a ≠ b → (q.2.1 a).2.1 ≠ (q.2.1 b).2.1) (hfin : (q.2.1 k9).2.2.2 = false) (hf : fk c k9 ≠ 2) (hty9 : ty0 k9 = tyZ (fk c k9)) (hz : fk c k9 = 1 → x &&& 1 = x)
    (k : G X M E Q kc (pc + 3) L st (hup h b k9 x)) : G X M E Q kc pc L (.int x :: .ref b :: st) h := by
  intro p l e R s m args below meth c0 H locs cells slots ls S Y
  have ht9 := hty k9 hkn
  rw [hty9] at ht9
  have hnz : narrow (tyZ (fk c k9)) (.int x) = .int x ∧ fits (tyZ (fk c k9)) (.int x) = true := by
    unfold tyZ
    split
    · rename_i h1
      exact fits_z (hz h1)
    · exact ⟨rfl, rfl⟩
  refine va_put (C := q.1) (T := q.2.1) (N := q.2.2) (ci := c) (ref := q.1) (k := k9) (q0 := b) (v := .int x) S.1 S.2.1 S.2.2.2.2.2.1 (cls_z hc) ty0 hty hnm S.2.2.2.2.1 Y.1.2.1 Y.1.1 Y.1.2.2 Y.2.1 (obj_at hk) hc hkn (S.2.2.2.2.2.1 _ hw) (fun x hx => by rw [ho] at hx; exact hx) hfin ht9 hnz.1 hnz.2 (by rw [List.length_map, List.length_range, hnf]; exact hkn) hd (fun H1 locs1 hP hD hS => ?_)
  rw [fs_set hf hz, ws_set X h (hup h b k9 x) (kd_lt hk (by decide)) (ent_obj hk).symm (fun q hq => hup_ne hq)] at hP hD
  exact k p l e R s m args below meth c0 H1 locs1 cells slots ls S ⟨⟨hP, Y.1.2.1, hD⟩, hS, Y.2.2⟩
theorem g_putN (k9 : Nat) {b c ix : Nat} {q : vw_C} {x : Int32} {host : String} {ty0 : Nat → FieldType} {a1 a2 a3 : Nat} (hd : decode M.2.1 pc = .ok (.putfield ix, 3)) (hk : kd b = (0, c, a1, a2, a3)) (hc : clsL[c]? = some q) (hnf : nf c = q.2.2) (hkn : k9 < q.2.2) (hw : Cond.fieldLinkNest M.1 ix q.1 (q.2.1 k9).2.1 (q.2.1 k9).2.2.1 host ∈ TT) (ho : (q.2.1 k9).1 = q.1)
    (hty : ∀ k, k < q.2.2 → parseFieldDescriptor (q.2.1 k).2.2.1 = some (ty0 k)) (hnm : ∀ a, a < q.2.2 → ∀ b, b < q.2.2 → a ≠ b → (q.2.1 a).2.1 ≠ (q.2.1 b).2.1) (hfin : (q.2.1 k9).2.2.2 = false) (hf : fk c k9 ≠ 2) (hty9 : ty0 k9 = tyZ (fk c k9)) (hz : fk c k9 = 1 → x &&& 1 = x)
    (k : G X M E Q kc (pc + 3) L st (hup h b k9 x)) : G X M E Q kc pc L (.int x :: .ref b :: st) h := by
  intro p l e R s m args below meth c0 H locs cells slots ls S Y
  have ht9 := hty k9 hkn
  rw [hty9] at ht9
  have hnz : narrow (tyZ (fk c k9)) (.int x) = .int x ∧ fits (tyZ (fk c k9)) (.int x) = true := by
    unfold tyZ
    split
    · rename_i h1
      exact fits_z (hz h1)
    · exact ⟨rfl, rfl⟩
  refine va_putN (C := q.1) (T := q.2.1) (N := q.2.2) (ci := c) (ref := q.1) (k := k9) (q0 := b) (v := .int x) S.1 S.2.1 S.2.2.2.2.2.1 (cls_z hc) ty0 hty hnm S.2.2.2.2.1 Y.1.2.1 Y.1.1 Y.1.2.2 Y.2.1 (obj_at hk) hc hkn (S.2.2.2.2.2.1 _ hw) (fun x hx => by rw [ho] at hx; exact hx) hfin ht9 hnz.1 hnz.2 (by rw [List.length_map, List.length_range, hnf]; exact hkn) hd (fun H1 locs1 hP hD hS => ?_)
  rw [fs_set hf hz, ws_set X h (hup h b k9 x) (kd_lt hk (by decide)) (ent_obj hk).symm (fun q hq => hup_ne hq)] at hP hD
  exact k p l e R s m args below meth c0 H1 locs1 cells slots ls S ⟨⟨hP, Y.1.2.1, hD⟩, hS, Y.2.2⟩
theorem g_iald {b n : Nat} {i : Int32} {a1 a2 a3 : Nat} (hd : decode M.2.1 pc = .ok (.iaload, 1)) (hk : kd b = (1, n, a1, a2, a3)) (hin : vp_in i n) (k : G X M E Q kc (pc + 1) L (.int (h b i.toNatClampNeg) :: st) h) : G X M E Q kc pc L (.int i :: .ref b :: st) h := by
  intro p l e R s m args below meth c0 H locs cells slots ls S Y
  exact va_iald (q0 := b) (t0 := 0) S.1 S.2.1 Y.1.2.1 Y.1.1 (arr_at hk) rfl hin hd (k p l e R s m args below meth c0 H locs cells slots ls S Y)
theorem g_iast {b n : Nat} {i x : Int32} {a1 a2 a3 : Nat} (hd : decode M.2.1 pc = .ok (.iastore, 1)) (hk : kd b = (1, n, a1, a2, a3)) (hin : vp_in i n) (k : G X M E Q kc (pc + 1) L st (hup h b i.toNatClampNeg x)) : G X M E Q kc pc L (.int x :: .int i :: .ref b :: st) h := by
  intro p l e R s m args below meth c0 H locs cells slots ls S Y
  refine va_iast (q0 := b) (t0 := 0) S.1 S.2.1 Y.1.2.1 Y.1.1 Y.1.2.2 Y.2.1 (arr_at hk) rfl hin hd (fun H1 locs1 hP hD hS => ?_)
  rw [ws_set X h (hup h b i.toNatClampNeg x) (kd_lt hk (by decide)) (by rw [hk]; show Sum.inl _ = Sum.inl (_, _, Sum.inl (hup h b i.toNatClampNeg x b)); rw [hup_self]) (fun q hq => hup_ne hq)] at hP hD
  exact k p l e R s m args below meth c0 H1 locs1 cells slots ls S ⟨⟨hP, Y.1.2.1, hD⟩, hS, Y.2.2⟩
theorem g_alen {b n : Nat} {v : Int32} {a1 a2 a3 : Nat} (hd : decode M.2.1 pc = .ok (.arraylength, 1)) (hk : kd b = (1, n, a1, a2, a3)) (hv : Int32.ofNat n = v) (k : G X M E Q kc (pc + 1) L (.int v :: st) h) : G X M E Q kc pc L (.ref b :: st) h := by
  intro p l e R s m args below meth c0 H locs cells slots ls S Y
  exact va_alen (q0 := b) (t0 := 0) S.1 S.2.1 Y.1.2.1 Y.1.1 (arr_at hk) (ty := .int) rfl hv hd (k p l e R s m args below meth c0 H locs cells slots ls S Y)
theorem g_alenR {b n : Nat} {v : Int32} {a1 a2 a3 : Nat} {ty : FieldType} (hd : decode M.2.1 pc = .ok (.arraylength, 1)) (hk : kd b = (2, n, a1, a2, a3)) (ht : (tyX X)[a3]? = some (X.2.1 a3, ty)) (hv : Int32.ofNat n = v) (k : G X M E Q kc (pc + 1) L (.int v :: st) h) : G X M E Q kc pc L (.ref b :: st) h := by
  intro p l e R s m args below meth c0 H locs cells slots ls S Y
  exact va_alen (q0 := b) (t0 := a3) S.1 S.2.1 Y.1.2.1 Y.1.1 (refs_at hk) (ty := ty) ht hv hd (k p l e R s m args below meth c0 H locs cells slots ls S Y)
theorem g_aald {b n : Nat} {i : Int32} {a1 a2 a3 : Nat} {ty : FieldType} (hd : decode M.2.1 pc = .ok (.aaload, 1)) (hk : kd b = (2, n, a1, a2, a3)) (ht : (tyX X)[a3]? = some (X.2.1 a3, ty)) (hty : ty.isReference = true) (hin : vp_in i n) (k : G X M E Q kc (pc + 1) L (.ref (a1 + a2 * i.toNatClampNeg) :: st) h) : G X M E Q kc pc L (.int i :: .ref b :: st) h := by
  intro p l e R s m args below meth c0 H locs cells slots ls S Y
  have hlt : i.toNatClampNeg < n := Nat.not_le.mp fun q => hin (Or.inr q)
  have hP := Y.1.1 b _ (refs_at hk)
  refine W.aald (v := .ref (X.2.2.1 (a1 + a2 * i.toNatClampNeg))) (ty := ty) S.1 S.2.1 hP ((Y.1.2.1.2 a3 _ ht).1 n (fun j => va_rf (if j < n then some (X.2.2.1 (a1 + a2 * j)) else none))) hty (fun q => by cases q) (by show ¬ (i < 0 ∨ (arrV _ _ _).slots.size ≤ _); rw [arrV_size]; exact hin) (by show (arrV _ _ _).slots[_]? = _; rw [arrV_read _ _ hlt]; show some (va_rf (if i.toNatClampNeg < n then _ else none)) = _; rw [if_pos hlt]; rfl) rfl rfl hd ?_
  exact k p l e R s m args below meth c0 H locs cells slots ls S Y
theorem g_zald {b n : Nat} {i : Int32} {a1 a2 a3 : Nat} (hd : decode M.2.1 pc = .ok (.baload, 1)) (hk : kd b = (3, n, a1, a2, a3)) (hin : vp_in i n) (k : G X M E Q kc (pc + 1) L (.int (h b i.toNatClampNeg &&& 1) :: st) h) : G X M E Q kc pc L (.int i :: .ref b :: st) h := by
  intro p l e R s m args below meth c0 H locs cells slots ls S Y
  exact va_zald (q0 := b) (t0 := 1) (f := fun j => h b j &&& 1) S.1 S.2.1 Y.1.2.1 Y.1.1 (bools_at hk) rfl hin hd (k p l e R s m args below meth c0 H locs cells slots ls S Y)
theorem nar_z (x : Int32) : vp_nar .boolean x = x &&& 1 := rfl
theorem g_zast {b n : Nat} {i x : Int32} {a1 a2 a3 : Nat} (hd : decode M.2.1 pc = .ok (.bastore, 1)) (hk : kd b = (3, n, a1, a2, a3)) (hin : vp_in i n) (k : G X M E Q kc (pc + 1) L st (hup h b i.toNatClampNeg x)) : G X M E Q kc pc L (.int x :: .int i :: .ref b :: st) h := by
  intro p l e R s m args below meth c0 H locs cells slots ls S Y
  refine va_zast (q0 := b) (t0 := 1) (f := fun j => h b j &&& 1) S.1 S.2.1 Y.1.2.1 Y.1.1 Y.1.2.2 Y.2.1 (bools_at hk) rfl hin hd (fun H1 locs1 hP hD hS => ?_)
  have he : (Sum.inl (X.2.1 1, n, Sum.inl (upd (fun j => h b j &&& 1) i.toNatClampNeg (vp_nar .boolean x))) : va_E) = entK X (hup h b i.toNatClampNeg x) b (kd b) := by
    rw [hk]
    show Sum.inl _ = Sum.inl (_, _, Sum.inl (fun j => hup h b i.toNatClampNeg x b j &&& 1))
    rw [hup_self, nar_z]
    congr 3
    congr 1
    funext j
    by_cases hj : j = i.toNatClampNeg
    · simp [upd, hj]
    · simp [upd, hj]
  rw [ws_set X h (hup h b i.toNatClampNeg x) (kd_lt hk (by decide)) he (fun q hq => hup_ne hq)] at hP hD
  exact k p l e R s m args below meth c0 H1 locs1 cells slots ls S ⟨⟨hP, Y.1.2.1, hD⟩, hS, Y.2.2⟩
end GM
