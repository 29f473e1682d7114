/-! a static call over an operand stack of up to 16 words (the kit's vx_runS has 8) -/
section WIDE
variable {X : Cx} {M : Mi} {E : Rm} {Q : Qf} {kc pc : Nat} {L : List (Nat × Value)} {st : List Value} {h : Hp}
variable {y : MethodName} {My : Mi} {fr lo mc ix : Nat} {As : List Value} {Qr1 : Option Value → Hp → Prop} {Qx1 : String → Hp → Prop} {stk : List Value}
theorem g_callS16 (hd : decode M.2.1 pc = .ok (.invokestatic ix, 3)) (hl : Cond.methodLink M.1 ix y ∈ TT) (hs : Cond.static y ∈ TT) (hini : Cond.initialized y.cls ∈ TT) (hcode : Cond.code y My.2.1 My.2.2.1 My.2.2.2 ∈ TT) (hok : okD y As.length) (hR : fr + 1 ≤ E.1 ∧ 16 + (My.2.2.1 + 11) + lo ≤ E.2.1) (hst : (st.map fun v => v.category).sum ≤ 16) (hstk : stk = As.reverse ++ st)
    (hC : Con X y My fr lo mc As h Qr1 Qx1) (kx : ∀ C h', Qx1 C h' → GX X M E Q kc pc L st h' C) (kk : ∀ r h', Qr1 r h' → G X M E Q kc (pc + 3) L (r.toList ++ st) h') : G X M E Q (kc + mc) pc L stk h := by
  intro p l e R s m args below meth c H locs cells slots ls S Y
  have hSf := S.2.2.2.2.2.2.2.2.2.2
  have hE := S.2.2.2.2.2.2.2.2.2.1
  have hts := S.2.2.2.2.2.1
  have y1 := Y.2.2.2.1
  have y2 := Y.2.2.2.2
  have hini2 : (Cond.initialized y.cls).before args s = true := hts _ hini
  have hK : vx_Back l R p e below s args y 3 16 (PreOf R mc (6 * mc) (Pm X As h)) (PostOf (Qm X Qr1) mc (6 * mc) (AA X)) (vx_Post (Xm X Qx1) mc (6 * mc) (AA X)) :=
    vx_back (bytes := My.2.1) (maxL := My.2.2.1) (ret := My.2.2.2) (hC l S.2.2.2.2.2.2.2.2.1) pm_blind rfl rfl (by show fr + 1 ≤ R.frames; omega) (by show 16 + (My.2.2.1 + 11) + lo ≤ R.locals; omega) (ws_one hts hE.2.2.2.2.2 hcode) List.mem_cons_self (fun a' U hW => word_at hW (Or.inl (by first | rfl | simp [Cond.onTables, Cond.keeps, Cond.steady])) hini2)
  have ecat : ((st.map (rv X)).map fun v => v.category).sum ≤ 16 := by
    have e : (st.map (rv X)).map (fun v => v.category) = st.map (fun v => v.category) := by
      rw [List.map_map]
      apply List.map_congr_left
      intro v _
      exact rv_cat X v
    rw [e]
    exact hst
  have hrun : vx_Run p l e R s m args below meth c H locs cells slots mc (6 * mc) (F0 m pc ls (stk.map (rv X))) (st.map (rv X)) (Qm X Qr1 (As.map (rv X)).toArray) (Xm X Qx1) (AA X) := by
    intro T hT XS
    have hpre : ∀ vm₁, s.WarmedH vm₁ → PreOf R mc (6 * mc) (Pm X As h) ⟨T.setVm vm₁, locs, cells, slots⟩ (As.map (rv X)).toArray := fun vm₁ hW₁ => ⟨by show cells + mc ≤ R.cells; omega, by show slots + 6 * mc ≤ R.slots; omega, pre_g hE Y.1 Y.2.1 hT hW₁⟩
    have hlen : ∀ sig, parseMethodDescriptor y.desc = some sig → (As.map (rv X)).length = sig.parameters.length := fun sig hs9 => by
      have h2 := hok.2.2
      rw [hs9] at h2
      rw [List.length_map]
      exact (Option.some.inj h2).symm
    rcases vx_callS XS S.1 (bytes := My.2.1) (maxL := My.2.2.1) (ret := My.2.2.2) S.2.2.2.2.1 (hts _ hl) (hts _ hs) hini2 (hts _ hcode) ⟨hok.1, hok.2.1⟩ hK (g := F0 m pc ls (stk.map (rv X))) rfl (Y.2.2.1.1.trans S.2.2.1.symm) (argsL := As.map (rv X)) (rest := st.map (rv X)) hlen (by rw [hstk]; simp) (by show 2 * 0 + _ ≤ 16; omega) (by rw [S.2.1]; exact hd) hpre with ⟨v, vm₁, ⟨U', l2, c2, s2⟩, hW₁, X', ⟨g', mk, t, L9, e1, e2, hq, h1, hL, h2, h3⟩, st9⟩ | ⟨q, vm₁, ⟨U', l2, c2, s2⟩, hW₁, X', ⟨g', mk, t, L9, C, ce, e1, e2, hq, hce, hcv, hcl, h1, hL, h2, h3⟩, st9⟩
    · dsimp only [Pt.U, Pt.locs, Pt.cells, Pt.slots] at X' e1 e2 h1 h2 h3 st9
      subst h1; subst h2; subst h3
      exact Or.inl ⟨v, (T.setVm vm₁).calling g' mk (As.map (rv X)).toArray, t, U', L9, hT, X', hL, e1, e2, hq, st9⟩
    · dsimp only [Pt.U, Pt.locs, Pt.cells, Pt.slots] at X' e1 e2 h1 h2 h3 st9 hcl
      subst h1; subst h2; subst h3
      exact Or.inr ⟨q, (T.setVm vm₁).calling g' mk (As.map (rv X)).toArray, t, U', L9, C, ce, hT, X', hL, e1, e2, hq, hce, hcv, vx_cls hW₁ hcl, st9⟩
  exact g_run S Y hrun kx kk
end WIDE
