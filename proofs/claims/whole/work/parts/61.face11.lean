/-! the war: the call -/
section F16
variable {h : Hp} {B : Br} {tn : Nat} {tl : Nat → List Row} {r : Rc} {K : Hp → Prop}
theorem nI_mod2 {n : Nat} (h : n < 2 ^ 31) : nI n - nI n / 2 * 2 = nI (n % 2) := by
  rw [q2, pk_div h (by decide) (by decide), pk_mul, pk_sub (by omega)]
  congr 1
  omega
theorem cs24 {p1 p2 p3 : Int32} (hR : RA h B tn tl r) (hK : ∀ h', RR h' → K h') : w_L_war p1 p2 p3 h (fun v1 h1 => w_X9_war p1 p2 p3 h1 (MQQ K v1)) := by
  have a0 := KP.RA (KP.thr (h := h) (v := 0)) hR
  have t4 := hR.2.2.1.1
  have w8 := hR.1.2.2.2.2.2.2.2.2.2.1
  have f14 : h 3 14 = nI (B.1 8) := hR.1.1.1.2.2.2.2.2.2.2.2.1
  have e14 : h 3 14 &&& 1 = nI (B.1 8) := by
    rw [f14]
    have : B.1 8 = 0 ∨ B.1 8 = 1 := by omega
    rcases this with e | e <;> rw [e] <;> decide
  unfold w_L_war w_X8_war
  refine s_needDay (fun d hd e1 => ?_) (fun hn => Or.inl ⟨rfl, ?_⟩)
  · refine s_needBetween (lo := 0) (hi := 20) q0 q20 (by decide) (by decide) (fun N _ hN e2 => ?_) (fun hn => Or.inl ⟨rfl, ?_⟩)
    · refine s_needBetween (lo := 0) (hi := 1) q0 q1 (by decide) (by decide) (fun m _ hm e3 => ?_) (fun hn => Or.inl ⟨rfl, ?_⟩)
      · rw [e14, hR.2.2.1.2.1]
        have nogo : (B.1 8 = 0 ∨ tn = 0) → w_X9_war p1 p2 p3 h (MQQ K 2) := by
          intro hc
          unfold w_X9_war
          try dsimp only
          rw [wlet_e, isDay_t e1 hd, wif_f i10, in_t (p1 := 0) (p2 := 20) (lo := 0) (hi := 20) e2 rfl rfl (by omega) hN (by decide), wif_f i10, in_t (p1 := 0) (p2 := 1) (lo := 0) (hi := 1) e3 rfl rfl (by omega) hm (by decide), c_not1, bad_f (thr0 _), wif_f (not_not_intro rfl)]
          refine ⟨vl 8 11 (by decide) (by decide), ?_⟩
          rw [cl8, a0.2.1.1 8 (by decide), a0.2.2.1.2.2.1]
          have e : (if nI (B.1 8) = 0 then (1 : Int32) else if ¬ nI tn = 0 then 0 else 1) = 1 := by
            by_cases c : nI (B.1 8) = 0
            · rw [if_pos c]
            · rw [if_neg c]
              rcases hc with q | q
              · exact absurd (by rw [q]; rfl) c
              · rw [if_neg (not_not_intro (by rw [q]; rfl))]
          rw [e, bad_t (thr0 _) (by decide), wif_f i10]
          exact mq_thr (hup_eq _ _ _ _) (by decide) (hK _ (KP.RR KP.thr a0.rr))
        refine ⟨fun z => Or.inr ⟨rfl, nogo (Or.inl ((nI_eq (b := 0) (by omega) (by decide)).mp z))⟩, fun z => ⟨fun z2 => ?_, fun z2 => Or.inr ⟨rfl, nogo (Or.inr ?_)⟩⟩⟩
        rotate_left
        · have : ¬ 0 < tn := fun q => z2 (by rw [q0]; exact (nI_ltI (by decide) (by omega)).mpr q)
          omega
        have h8 : B.1 8 = 1 := by
          have : B.1 8 ≠ 0 := fun q => z (by rw [q]; rfl)
          omega
        have h0 : 0 < tn := by
          rw [q0] at z2
          exact (nI_ltI (by decide) (by omega)).mp z2
        have hta : tb r 0 < tn := by
          have := tb_b hR 0
          omega
        have htb : tb r 1 < tn := by
          have := tb_b hR 1
          omega
        refine s_reckon hR d hd e1 _ (fun g kg htB => ?_)
        have ag := kg.RA hR
        have b3 : g 63 0 = nI (tb r 0) := ag.2.2.2.2.1.2.1.2.2.1
        have b4 : g 63 1 = nI (tb r 1) := ag.2.2.2.2.1.2.1.2.2.2.1
        rw [e_at (by decide), q0, rd_n (by decide) (by decide), b3, e_at (by decide), q1, rd_n (by decide) (by decide), b4]
        obtain ⟨S, hS⟩ : ∃ S, warS B tn tl d (tb r 0) (tb r 1) = S := ⟨_, rfl⟩
        have hSb : ∀ n, (S n).1 < tn ∧ (S n).2 < tn := fun n => by rw [← hS]; exact warS_b h0 hta htb n
        have hSs : ∀ n, S (n + 1) = if n % 2 = 0 then (bl (wT B tn tl d 0 (S n).2) tn, (S n).2) else ((S n).1, bl (wT B tn tl d 1 (S n).1) tn) := fun n => by rw [← hS, warS_s]
        have hS0 : S 0 = (tb r 0, tb r 1) := by rw [← hS]; rfl
        obtain ⟨V, hV⟩ : ∃ V : Int32, V = if p3 = 0 then nI (10 * (S N).1 + (S N).2) else if bl (wT B tn tl d 0 (S N).2) tn = (S N).1 ∧ bl (wT B tn tl d 1 (S N).1) tn = (S N).2 then 1 else 0 := ⟨_, rfl⟩
        have go : wlet (hup g 1457 0 V) (fun h2 => w_X9_war p1 p2 p3 h2 (MQQ K 0)) := by
          rw [wlet_e]
          have a := KP.RA (KP.tr (KP.out kg) KP.thr : KP h (hup (hup g 1457 0 V) 92 0 0)) hR
          unfold w_X9_war
          try dsimp only
          rw [wlet_e, isDay_t e1 hd, wif_f i10, in_t (p1 := 0) (p2 := 20) (lo := 0) (hi := 20) e2 rfl rfl (by omega) hN (by decide), wif_f i10, in_t (p1 := 0) (p2 := 1) (lo := 0) (hi := 1) e3 rfl rfl (by omega) hm (by decide), c_not1, bad_f (thr0 _), wif_f (not_not_intro rfl)]
          refine ⟨vl 8 11 (by decide) (by decide), ?_⟩
          rw [cl8, a.2.1.1 8 (by decide), a.2.2.1.2.2.1, h8, if_neg (by decide), if_pos (show ¬ nI tn = 0 from fun q => by have := (nI_eq (b := 0) (by omega) (by decide)).mp q; omega), bad_f (thr0 _), wif_t rfl]
          refine ⟨vl 0 2 (by decide) (by decide), ?_⟩
          have m3 : hup (hup g 1457 0 V) 92 0 0 141 0 = nI (tb r 0) := a.2.2.2.2.1.2.2.2.2.1
          have m4 : hup (hup g 1457 0 V) 92 0 0 141 1 = nI (tb r 1) := a.2.2.2.2.1.2.2.2.2.2.1
          rw [wlet_e, cl0, cl1, m3]
          refine ⟨vl 1 2 (by decide) (by decide), ?_⟩
          rw [wlet_e, m4]
          have b0 : hup (hup g 1457 0 V) 92 0 0 92 0 = 0 := thr0 _
          have b1 : hup (hup g 1457 0 V) 92 0 0 1457 0 = V := by rw [hup_ne (by decide), hup_eq]
          generalize hup (hup g 1457 0 V) 92 0 0 = m0 at a m3 m4 b0 b1
          -- both tolls are put back at last
          have back : ∀ v g' i j, v = V → mW m0 g' i j → w_X9_war_b185 p1 p2 p3 (nI (tb r 0)) (nI (tb r 1)) v g' (MQQ K 0) := by
            intro v g' i j hv a'
            unfold w_X9_war_b185
            refine ⟨vl 0 2 (by decide) (by decide), ?_⟩
            rw [wlet_e, cl0, cl1]
            refine ⟨vl 1 2 (by decide) (by decide), ?_⟩
            rw [wlet_e]
            have a'' := (a'.set0 (n := tb r 0)).set1 (n := tb r 1)
            have k : KP m0 (hup (hup g' 141 0 (nI (tb r 0))) 141 1 (nI (tb r 1))) := by
              refine ⟨fun q hq => ?_, fun i hi => a''.2.1 i (by omega)⟩
              by_cases e : q = 141
              · subst e
                funext k
                have : k = 0 ∨ k = 1 ∨ 2 ≤ k := by omega
                rcases this with rfl | rfl | hk2
                · rw [a''.2.2.1, m3]
                · rw [a''.2.2.2.1, m4]
                · exact a''.2.2.2.2 k hk2
              · exact a''.1 q (by unfold kp at hq; omega) (by unfold kp at hq; omega) (by unfold kp at hq; omega) e (by unfold kp at hq; omega)
            exact mq_ok (by rw [a''.2.1 0 (by decide)]; exact b0) (by rw [a''.1 1457 (by decide) (by decide) (by decide) (by decide) (by decide), b1, hv]) (hK _ (k.RR a.rr))
          unfold w_X9_war_b95
          refine wl_run N (fun n (st : Int32 × Hp) => st.1 = nI n ∧ mW m0 st.2 (S n).1 (S n).2) ?_ (Nat.zero_le _) ⟨rfl, fun _ _ _ _ _ _ => rfl, fun _ _ => rfl, by rw [hS0]; exact m3, by rw [hS0]; exact m4, fun _ _ => rfl⟩
          rintro n ⟨v6, u⟩ K95 hn ⟨e6, au⟩ hK95
          simp only at e6 au
          subst e6
          show w_X9_war_l95 p1 p2 p3 _ _ _ K95 (nI n) u
          unfold w_X9_war_l95
          obtain ⟨si, sj⟩ := hSb n
          refine ⟨fun z => ⟨vl 0 2 (by decide) (by decide), vl 1 2 (by decide) (by decide), ?_⟩, fun z => ?_⟩
          · rw [e2] at z
            have hnN : n = N := by
              have := (nI_leI (by omega) (by omega)).mp z
              omega
            subst hnN
            rw [wlet_e, cl0, cl1, au.2.2.1, au.2.2.2.1, q10, pk_mul, nI_add]
            refine ⟨fun c => ?_, fun c => ?_⟩
            · have p30 : p3 = 0 := by
                have : m = 0 ∨ m = 1 := by omega
                rcases this with q | q
                · rw [e3, q]; rfl
                · exact absurd (by rw [e3, q]; rfl) c
              exact back _ u _ _ (by rw [hV, if_pos p30]) au
            · have p31 : ¬ p3 = 0 := by
                rw [Classical.not_not.mp c]
                decide
              rw [if_neg p31] at hV
              refine s_answers a d 0 _ _ hd (by decide) rfl e1 si sj au _ (fun u1 a1 => ⟨vl 0 2 (by decide) (by decide), ?_⟩)
              rw [if_pos rfl, a1.2.2.1]
              have hbl0 := bl_lt (wT B tn tl d 0 (S n).2) tn h0
              refine ⟨fun c1 => ?_, fun c1 => ?_⟩
              · unfold w_X9_war_b182 w_X9_war_b183
                exact back _ u1 _ _ (by rw [hV, if_neg]; rintro ⟨q, _⟩; exact c1 (by rw [q])) a1
              · have hb0 := (nI_eq (by omega) (by omega)).mp (Classical.not_not.mp c1)
                refine s_answers a d 1 _ _ hd (by decide) rfl e1 si sj a1 _ (fun u2 a2 => ⟨vl 1 2 (by decide) (by decide), ?_⟩)
                rw [if_neg (show ¬ (1 : Nat) = 0 by decide), a2.2.2.2.1, wlet_e]
                have hbl1 := bl_lt (wT B tn tl d 1 (S n).1) tn h0
                refine back _ u2 _ _ ?_ a2
                rw [hV]
                by_cases c2 : bl (wT B tn tl d 1 (S n).1) tn = (S n).2
                · rw [if_neg (not_not_intro (by rw [c2])), if_pos ⟨hb0, c2⟩]
                · rw [if_pos (fun q => c2 ((nI_eq (by omega) (by omega)).mp q)), if_neg (fun q => c2 q.2)]
          · rw [e2] at z
            have hnN : n < N := Nat.lt_of_not_le fun q => z ((nI_leI (by omega) (by omega)).mpr q)
            rw [nI_mod2 (by omega)]
            have vs : vp_in (nI (n % 2)) 2 := vp_in_nI (by omega) (by decide)
            refine s_answers a d (n % 2) _ _ hd (by omega) rfl e1 si sj au _ (fun u1 a1 => ⟨vs, ?_⟩)
            rw [nI_clamp (by omega), wlet_e, nI_1]
            refine hK95 hnN _ ⟨rfl, ?_⟩
            show mW m0 (hup u1 141 (n % 2) _) (S (n + 1)).1 (S (n + 1)).2
            rw [hSs]
            by_cases c : n % 2 = 0
            · simp only [c, if_true]
              exact a1.set0
            · have c1 : n % 2 = 1 := by omega
              simp only [c1, show ¬ (1 : Nat) = 0 by decide, if_false]
              exact a1.set1
        unfold w_X8_war_b79
        refine wl_run N (fun n (st : Int32 × Int32 × Int32) => st.2.2 = nI n ∧ st.1 = nI (S n).1 ∧ st.2.1 = nI (S n).2) ?_ (Nat.zero_le _) ⟨rfl, by rw [hS0], by rw [hS0]⟩
        rintro n ⟨v4, v5, v6⟩ K79 hn ⟨e6, e4, e5⟩ hK79
        simp only at e4 e5 e6
        subst e4 e5 e6
        show w_X8_war_l79 p1 p2 p3 g _ _ K79 _ _ (nI n)
        unfold w_X8_war_l79 w_X8_war_b113
        obtain ⟨si, sj⟩ := hSb n
        refine ⟨fun z => ⟨fun c => ?_, fun c => ?_⟩, fun z => ?_⟩
        · rw [e2] at z
          have hnN : n = N := by
            have := (nI_leI (by omega) (by omega)).mp z
            omega
          subst hnN
          rw [if_neg (show ¬ p3 = 0 from c)] at hV
          refine s_bestReply ag d 0 _ (by decide) sj rfl rfl htB _ ?_
          have hbl0 := bl_lt (wT B tn tl d 0 (S n).2) tn h0
          refine ⟨fun c1 => ?_, fun c1 => ?_⟩
          · have e : V = 0 := by
              rw [hV, if_neg]
              rintro ⟨q, _⟩
              exact c1 (by rw [q])
            rw [e] at go
            exact go
          · have hb0 := (nI_eq (by omega) (by omega)).mp (Classical.not_not.mp c1)
            refine s_bestReply ag d 1 _ (by decide) si rfl rfl htB _ ?_
            have hbl1 := bl_lt (wT B tn tl d 1 (S n).1) tn h0
            have e : (if ¬ nI (bl (wT B tn tl d 1 (S n).1) tn) = nI (S n).2 then (0 : Int32) else 1) = V := by
              rw [hV]
              by_cases c2 : bl (wT B tn tl d 1 (S n).1) tn = (S n).2
              · rw [if_neg (not_not_intro (by rw [c2])), if_pos ⟨hb0, c2⟩]
              · rw [if_pos (fun q => c2 ((nI_eq (by omega) (by omega)).mp q)), if_neg (fun q => c2 q.2)]
            rw [← e] at go
            exact go
        · rw [e2] at z
          have hnN : n = N := by
            have := (nI_leI (by omega) (by omega)).mp z
            omega
          subst hnN
          rw [if_pos (show p3 = 0 from Classical.not_not.mp c)] at hV
          rw [q10, pk_mul, nI_add, ← hV]
          exact go
        · rw [e2] at z
          have hnN : n < N := Nat.lt_of_not_le fun q => z ((nI_leI (by omega) (by omega)).mpr q)
          rw [nI_mod2 (by omega), nI_1]
          refine ⟨fun c => ?_, fun c => ?_⟩
          · have c1 : n % 2 ≠ 0 := fun q => c (by rw [q]; rfl)
            refine s_bestReply ag d 1 _ (by decide) si rfl rfl htB _ ?_
            refine hK79 hnN _ ⟨rfl, ?_, ?_⟩
            · show _ = nI (S (n + 1)).1
              rw [hSs, if_neg c1]
            · show _ = nI (S (n + 1)).2
              rw [hSs, if_neg c1]
          · have c1 : n % 2 = 0 := (nI_eq (b := 0) (by omega) (by decide)).mp (Classical.not_not.mp c)
            refine s_bestReply ag d 0 _ (by decide) sj rfl rfl htB _ ?_
            refine hK79 hnN _ ⟨rfl, ?_, ?_⟩
            · show _ = nI (S (n + 1)).1
              rw [hSs, if_pos c1]
            · show _ = nI (S (n + 1)).2
              rw [hSs, if_pos c1]
      · unfold w_X9_war
        try dsimp only
        rw [wlet_e, isDay_t e1 hd, wif_f i10, in_t (p1 := 0) (p2 := 20) (lo := 0) (hi := 20) e2 rfl rfl (by omega) hN (by decide), wif_f i10, in_f (p1 := 0) (p2 := 1) (lo := 0) (hi := 1) rfl rfl (by decide) (by decide) hn, c_not0, bad_t (thr0 _) (by decide), wif_t i10]
        exact mq_thr (hup_eq _ _ _ _) (by decide) (hK _ (KP.RR KP.thr a0.rr))
    · unfold w_X9_war w_X9_war_b32 w_X9_war_b37
      try dsimp only
      rw [wlet_e, isDay_t e1 hd, wif_f i10, in_f (p1 := 0) (p2 := 20) (lo := 0) (hi := 20) rfl rfl (by decide) (by decide) hn, wif_t rfl, bad_t (thr0 _) (by decide), wif_t i10]
      exact mq_thr (hup_eq _ _ _ _) (by decide) (hK _ (KP.RR KP.thr a0.rr))
  · unfold w_X9_war w_X9_war_b32 w_X9_war_b37
    try dsimp only
    rw [wlet_e, isDay_f hn, wif_t rfl, bad_t (thr0 _) (by decide), wif_t i10]
    exact mq_thr (hup_eq _ _ _ _) (by decide) (hK _ (KP.RR KP.thr a0.rr))
end F16
