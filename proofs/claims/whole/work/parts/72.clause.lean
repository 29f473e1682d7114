/-! a clause and the clauses, by the program -/
section P2
variable {h : Hp} {T : Nat → Int32} {L p : Nat} {B : Br} {Q : Int32 → Hp → Prop}
theorem s_singleP (c : CT h T L p) (hS : CS h B) {p1 : Int32} (k lo hi : Nat) (f : Nat → Br) (e1 : p1 = nI k) (elo : (if p1 = 7 then (0 : Int32) else (if ¬ p1 = 8 then 1 else 0)) = nI lo) (ehi : ∀ Q', w_X5_greatest p1 h Q' = Q' (nI hi)) (hlo : lo < 100000) (hhi : hi < 100000) (o : outs h T L (oneS T L lo hi p B f) Q) (fin : ∀ h' v, CS h' B → v ≤ hi → (∀ h'', (∃ q i u, (q = 8 ∨ q = 9 ∨ q = 11 ∨ q = 12) ∧ h'' = hup h' q i u) → CS h'' (f v) → Q (1 &&& 1) h'') → wsw p1 [(1, wlet (hup h' 8 5 (nI v)) (fun h7 => Q (1 &&& 1) h7)), (2, wlet (hup h' 8 10 (nI v)) (fun h8 => Q (1 &&& 1) h8)), (3, wlet (hup h' 8 10 (nI v)) (fun h9 => Q (1 &&& 1) h9)), (4, wlet (hup h' 8 8 (nI v)) (fun h10 => Q (1 &&& 1) h10)), (5, wlet (hup h' 8 10 (nI v)) (fun h11 => Q (1 &&& 1) h11)), (6, wlet (hup h' 8 10 (nI v)) (fun h12 => Q (1 &&& 1) h12)), (7, w_X8_put 11 30 (nI v) 1 h' (fun h13 => Q (1 &&& 1) h13)), (8, wlet (hup h' 8 9 (nI v)) (fun h14 => Q (1 &&& 1) h14))] (wlet (hup h' 8 10 (nI v)) (fun h15 => Q (1 &&& 1) h15))) : w_X5_single p1 h Q := by
  unfold w_X5_single
  rw [elo, wlet_e, ehi]
  refine s_bn c hS lo hi (rng_n rfl rfl hlo hhi) o _ (fun h1 q v f1 c1 s1 _ d2 d3 o3 => wif_p (ni d3) (fin h1 v s1 d2 (fun h'' hx s'' => ?_))) (fun h1 q => wif_n (not_not_intro rfl) (by rw [b01]; exact q))
  obtain ⟨q', i', u', hq, rfl⟩ := hx
  rw [b11]
  exact o3.1 _ rfl (fs.up ⟨fun _ _ _ => rfl, fun _ _ => rfl⟩ hq) (c1.sc hq) s''
theorem s_partsP (c : CT h T L p) (hS : CS h B) (h8 : B.1 0 ≤ 8) (k : Nat) (hk : k < 12) (h3 : k = 3 → B.1 0 < 8) (o : outs h T L (partS T L p B k) Q) : w_X5_parts (nI k) h Q := by
  have o1 : outs h T L (partS T L p B k) (fun z h => Q (z &&& 1) h) := ⟨fun h' a b c d => by show Q (1 &&& 1) h'; rw [b11]; exact o.1 h' a b c d, fun h' a b => by show Q (0 &&& 1) h'; rw [b01]; exact o.2 h' a b⟩
  have sel : ∀ (j : Nat), j < 12 → k ≠ j → ¬ nI k = nI j := fun j hj hne z => hne ((nI_eq (by omega) (by omega)).mp z)
  have up8 : ∀ {h' h'' : Hp} {q i : Nat} {u : Int32}, (q = 8 ∨ q = 9 ∨ q = 11 ∨ q = 12) → h'' = hup h' q i u → ∃ q i u, (q = 8 ∨ q = 9 ∨ q = 11 ∨ q = 12) ∧ h'' = hup h' q i u := fun hq e => ⟨_, _, _, hq, e⟩
  unfold w_X5_parts
  have h12 : k = 0 ∨ k = 1 ∨ k = 2 ∨ k = 3 ∨ k = 4 ∨ k = 5 ∨ k = 6 ∨ k = 7 ∨ k = 8 ∨ k = 9 ∨ k = 10 ∨ k = 11 := by omega
  rcases h12 with rfl | rfl | rfl | rfl | rfl | rfl | rfl | rfl | rfl | rfl | rfl | rfl
  · exact ⟨fun _ => s_sunP c hS o1, fun z => absurd rfl z⟩
  · refine wif_n (by decide) (wif_p rfl (s_singleP c hS 1 1 9 (fun v => setN B 1 v) rfl (by decide) (fun Q' => by unfold w_X5_greatest; exact wif_t rfl) (by decide) (by decide) o1 (fun h' v s hv fin => ?_)))
    exact wif_p rfl (by rw [wlet_e]; exact fin _ ⟨8, 5, _, Or.inl rfl, rfl⟩ (CS.setN (i := 1) s (by decide)))
  · exact wif_n (by decide) (wif_n (by decide) (wif_p rfl (s_keeperP c hS o1)))
  · exact wif_n (by decide) (wif_n (by decide) (wif_n (by decide) (wif_p rfl (s_traitsP c hS (h3 rfl) o1))))
  · refine wif_n (by decide) (wif_n (by decide) (wif_n (by decide) (wif_n (by decide) (wif_p rfl (s_singleP c hS 4 1 60 (fun v => setN B 4 v) rfl (by decide) (fun Q' => by unfold w_X5_greatest; exact propext ⟨fun w => ((((w.2 (by decide)).2 (by decide)).2 (by decide)).1 rfl), fun w => wif_n (by decide) (wif_n (by decide) (wif_n (by decide) (wif_p rfl w)))⟩) (by decide) (by decide) o1 (fun h' v s hv fin => ?_))))))
    exact wif_n (by decide) (wif_n (by decide) (wif_n (by decide) (wif_p rfl (by rw [wlet_e]; exact fin _ ⟨8, 8, _, Or.inl rfl, rfl⟩ (CS.setN (i := 4) s (by decide))))))
  · exact wif_n (by decide) (wif_n (by decide) (wif_n (by decide) (wif_n (by decide) (wif_n (by decide) (wif_p rfl (s_traitP c hS h8 5 1 99 rfl rfl rfl (by decide) (by decide) (by decide) o1))))))
  · exact wif_n (by decide) (wif_n (by decide) (wif_n (by decide) (wif_n (by decide) (wif_n (by decide) (wif_n (by decide) (wif_p rfl (s_traitP c hS h8 6 10 400 rfl rfl rfl (by decide) (by decide) (by decide) o1)))))))
  · refine wif_n (by decide) (wif_n (by decide) (wif_n (by decide) (wif_n (by decide) (wif_n (by decide) (wif_n (by decide) (wif_n (by decide) (wif_p rfl (s_singleP c hS 7 0 29 (fun d => setF B d 1) rfl (by decide) (fun Q' => by unfold w_X5_greatest; exact propext ⟨fun w => (((((((w.2 (by decide)).2 (by decide)).2 (by decide)).2 (by decide)).2 (by decide)).2 (by decide)).1 rfl), fun w => wif_n (by decide) (wif_n (by decide) (wif_n (by decide) (wif_n (by decide) (wif_n (by decide) (wif_n (by decide) (wif_p rfl w))))))⟩) (by decide) (by decide) o1 (fun h' v s hv fin => ?_)))))))))
    refine wif_n (by decide) (wif_n (by decide) (wif_n (by decide) (wif_n (by decide) (wif_n (by decide) (wif_n (by decide) (wif_p rfl ?_))))))
    rw [e_put (by decide), wr_n (by omega) (by decide)]
    exact fin _ ⟨11, _, _, by omega, rfl⟩ (CS.setF (v := 1) s)
  · refine wif_n (by decide) (wif_n (by decide) (wif_n (by decide) (wif_n (by decide) (wif_n (by decide) (wif_n (by decide) (wif_n (by decide) (wif_n (by decide) (wif_p rfl (s_singleP c hS 8 0 16 (fun v => setN B 5 v) rfl (by decide) (fun Q' => by unfold w_X5_greatest; exact propext ⟨fun w => ((((((((w.2 (by decide)).2 (by decide)).2 (by decide)).2 (by decide)).2 (by decide)).2 (by decide)).2 (by decide)).1 rfl), fun w => wif_n (by decide) (wif_n (by decide) (wif_n (by decide) (wif_n (by decide) (wif_n (by decide) (wif_n (by decide) (wif_n (by decide) (wif_p rfl w)))))))⟩) (by decide) (by decide) o1 (fun h' v s hv fin => ?_))))))))))
    exact wif_n (by decide) (wif_n (by decide) (wif_n (by decide) (wif_n (by decide) (wif_n (by decide) (wif_n (by decide) (wif_n (by decide) (wif_p rfl (by rw [wlet_e]; exact fin _ ⟨8, 9, _, Or.inl rfl, rfl⟩ (CS.setN (i := 5) s (by decide))))))))))
  · exact wif_n (by decide) (wif_n (by decide) (wif_n (by decide) (wif_n (by decide) (wif_n (by decide) (wif_n (by decide) (wif_n (by decide) (wif_n (by decide) (wif_n (by decide) (wif_p rfl (s_secondP c hS o1))))))))))
  · refine wif_n (by decide) (wif_n (by decide) (wif_n (by decide) (wif_n (by decide) (wif_n (by decide) (wif_n (by decide) (wif_n (by decide) (wif_n (by decide) (wif_n (by decide) (wif_n (by decide) (wif_p rfl (s_singleP c hS 10 1 5400 (fun v => setN B 6 v) rfl (by decide) (fun Q' => by unfold w_X5_greatest; exact propext ⟨fun w => ((((((((w.2 (by decide)).2 (by decide)).2 (by decide)).2 (by decide)).2 (by decide)).2 (by decide)).2 (by decide)).2 (by decide)), fun w => wif_n (by decide) (wif_n (by decide) (wif_n (by decide) (wif_n (by decide) (wif_n (by decide) (wif_n (by decide) (wif_n (by decide) (wif_n (by decide) w)))))))⟩) (by decide) (by decide) o1 (fun h' v s hv fin => ?_))))))))))))
    exact wif_n (by decide) (wif_n (by decide) (wif_n (by decide) (wif_n (by decide) (wif_n (by decide) (wif_n (by decide) (wif_n (by decide) (wif_n (by decide) (by rw [wlet_e]; exact fin _ ⟨8, 10, _, Or.inl rfl, rfl⟩ (CS.setN (i := 6) s (by decide))))))))))
  · refine wif_n (by decide) (wif_n (by decide) (wif_n (by decide) (wif_n (by decide) (wif_n (by decide) (wif_n (by decide) (wif_n (by decide) (wif_n (by decide) (wif_n (by decide) (wif_n (by decide) (wif_n (by decide) (wif_p rfl ?_)))))))))))
    rw [wlet_e, b11]
    exact o.1 _ rfl (fs.up ⟨fun _ _ _ => rfl, fun _ _ => rfl⟩ (by omega)) (c.sc (by omega)) (CS.setN (i := 7) (v := 1) hS (by decide))
end P2
