/-! texts: a part, both -/
section PK
variable {B : Nat → Nat} {n t v1 p pa d sz : Nat} {g : hG}
theorem no_here {lo : Nat} {tst : Bool} (h91 : tkF B n p ≠ 2091) (h5 : pa ≤ 50) (hn : 50 ≤ pa ∨ leL (tkF B n p) = none) : MNo B n 0 v1 1 lo p pa d p tst := by
  intro K L len f hf hc ht _
  have key : ∃ f', q_Mo_readPart f = some (3, f') ∧ PF 0 p f' ∧ Un sPm f f' := by
    have e := part_m0 hf hc h91
    cases q : leL (tkF B n p) with
    | none =>
      rw [q] at e
      obtain ⟨v, a, b, e⟩ := e
      rw [e]
      exact p53_no hf 0 (Or.inl rfl) h5 v a b
    | some x =>
      rw [q] at e
      obtain ⟨v, e⟩ := e
      rw [e]
      exact p53_no hf 1 (Or.inr (by rcases hn with z | z; exact z; rw [q] at z; cases z)) h5 v _ _
  obtain ⟨f', e1, e2, e3⟩ := key
  refine ⟨2, f', by omega, fun F => ?_, e2, e3⟩
  rw [show F + 2 = F + 1 + 1 from rfl, lp_s K (F + 1) hf.2.2.2.1 1 (by omega), if_neg (by omega), if_pos rfl, e1, bnd_s, lp_f K F e2.1]
theorem ia_251 : iaLen 251 = 7 := by decide
theorem inner_32 {L : Pi} {f : hG} (h : PL L f) (h29 : gI f 367 29 = nI L.length) (hl : L.length ≤ 400) (hi : ib L = 32) : q_Mo_inner f = some (32, f) := by
  rw [inner_m h h29 hl, hi]
  rfl
theorem ib_32 (L : Pi) : ∀ pe : Pi, (∀ x, x ∈ pe → 5 ≤ bd x.1) → ib (pe ++ (32, 0) :: L) = 32
  | [], _ => rfl
  | x :: pe, hx => by
    have b5 := hx x List.mem_cons_self
    have : x.1 < 31 := by
      by_cases z : x.1 < 31
      · exact z
      · have : bd x.1 = 0 := by unfold bd; rw [if_neg z]
        omega
    show (if 31 ≤ x.1 then x.1 else ib (pe ++ (32, 0) :: L)) = 32
    rw [if_neg (by omega)]
    exact ib_32 L pe (fun y hy => hx y (List.mem_cons_of_mem _ hy))
theorem part_j {rs : Int32 → hG → hO Int32} (hd : d ≤ 8) (hrs : d < 8 → ∀ (p sz pa : Nat) (g : hG), PC B n t 0 p sz pa g → JR B n t 0 v1 1 3 5 p pa (d + 1) sz false noOp g (rs (nI (d + 1)) g)) (h : PC B n t 0 p sz pa g) : JR B n t 0 v1 1 3 7 p pa d sz false (fun _ => True) g (q_Rd_part rs (nI d) g) := by
  have c4 := h.c4
  have t5 := tk_5 h.2.2.1 p
  have hh := ht_ne h.2.2.2.1
  have h5 : pa ≤ 50 := h.2.2.2.2.2.2.2.2.2.1
  have sl : sz ≤ 2 + cnt (stB B) p := h.2.2.2.2.2.2.2.2.2.2
  by_cases h91 : tkF B n p = 2091
  · obtain ⟨hp, hs⟩ := tk_lt h.2.1 (by omega)
    have kn := (tk_n hp hs).2.1
    by_cases hd8 : d < 8
    · have ha := h.adv hp hs
      obtain ⟨b, g2, p2, sz2, pa2, x1, x2, x3, x4, x5, x6, x7, x8⟩ := hrs hd8 _ _ _ _ ha
      -- the model's first step
      have open_m : ∀ (K : hG → hO Unit) (L : Pi) (len : Nat) (f : hG), PM B n 0 p pa d L len f → ∃ f1, (∀ F, q_Mo_readExpression_12L (nI v1) K (F + 1) (nI 1) f = q_Mo_readExpression_12L (nI v1) K F (nI 1) f1) ∧ PM B n 0 (nx B n p) pa (d + 1) ((32, 0) :: L) len f1 ∧ Un sPm f f1 ∧ gI f1 378 = gI f 378 ∧ gI f1 379 = gI f 379 := fun K L len f hf => by
        obtain ⟨f1, a1, a2, a3⟩ := next_p hf hp hs
        obtain ⟨j1, j2, j3, j4, j5, j6, j7, j8, j9, j10, j11, j12⟩ := id a2
        have c5 := hf.c4
        have hl : L.length < 400 := by have := hf.2.2.2.2.2.2.2.2.2.2.1; omega
        have u : Un sPm f1 (pushH L 32 0 (sI f1 367 30 (nI (d + 1)))) := (((Un.rf.sI rfl _).sI (by rfl) _).sI (by rfl) _).sI rfl _
        have r7 : ∀ k, k ≠ 29 → k ≠ 30 → gI (pushH L 32 0 (sI f1 367 30 (nI (d + 1)))) 367 k = gI f1 367 k := fun k h1 h2 => by unfold pushH; rw [rd_k h1, rd_a (by decide), rd_a (by decide), rd_k h2]
        have pl : PL ((32, 0) :: L) (pushH L 32 0 (sI f1 367 30 (nI (d + 1)))) := push_PL (j10.ex (fun i hi => ⟨rd_a (by decide), rd_a (by decide)⟩)) (by omega) (by omega)
        refine ⟨pushH L 32 0 (sI f1 367 30 (nI (d + 1))), fun F => ?_, ⟨⟨j1.1, (r7 13 (by decide) (by decide)).trans j1.2.1, fun j hj => ⟨(u.I rfl).trans (j1.2.2 j hj).1, (j1.2.2 j hj).2⟩⟩, j2.ex (fun k hk => r7 k (by omega) (by omega)) rfl, j3, (r7 19 (by decide) (by decide)).trans j4, (r7 20 (by decide) (by decide)).trans j5, (r7 23 (by decide) (by decide)).trans j6, (r7 26 (by decide) (by decide)).trans j7, by unfold pushH; rw [rd_k (by decide), rd_a (by decide), rd_a (by decide), rd_s], rd_s, pl, ?_, ?_⟩, (sNx_sPm a3).tr u, ?_, ?_⟩
        · rw [lp_s K F hf.2.2.2.1 1 (by omega), if_neg (by omega), if_pos rfl]
          have e : q_Mo_readPart f = some (1, pushH L 32 0 (sI f1 367 30 (nI (d + 1)))) := by
            unfold q_Mo_readPart q_Mo_openBracket q_Mo_openBracket_8
            rw [show q_Mo_isSign 91 f = _ from sign_p hf (s := 91) (by omega), bnd_s, bI_t (by omega), if_neg (by decide), hf.2.2.2.2.2.2.2.1, if_neg (show ¬ (8 : Int32) ≤ nI d from nI_ge (a := d) (b := 8) hd8 (by decide)), must_1 hf, a1, bnd_s, if_pos j4, wr_e, j8, nI_1, show (32 : Int32) = nI 32 from rfl, show (0 : Int32) = nI 0 from rfl, push_m (f := sI f1 367 30 (nI (d + 1))) ((rd_k (by decide)).trans j9) hl 32 0, bnd_s, bnd_s]
          rw [e, bnd_s]
          rfl
        · show L.length + 1 ≤ _
          have := hf.2.2.2.2.2.2.2.2.2.2.1
          omega
        · show len + ((if 32 < 29 then 1 else 0) + wt L) ≤ _
          rw [if_neg (by omega)]; omega
        · unfold pushH
          rw [gI_up0 _ _ _ (by decide), gI_up0 _ _ _ (by decide), gI_up0 _ _ _ (by decide), gI_up0 _ _ _ (by decide)]
          exact funext (fun i => a3.I rfl)
        · unfold pushH
          rw [gI_up0 _ _ _ (by decide), gI_up0 _ _ _ (by decide), gI_up0 _ _ _ (by decide), gI_up0 _ _ _ (by decide)]
          exact funext (fun i => a3.I rfl)
      have cl : q_Rd_part rs (nI d) g = bnd (rs (nI (d + 1)) (adv B n p g)) fun r56 g54 => if r56 = (0 : Int32) then (some ((0 : Int32), g54)) else (bnd (q_Rd_took (2093 : Int32) g54) fun r60 g58 => if r60 = (0 : Int32) then (some ((0 : Int32), g58)) else (some ((1 : Int32), g58))) := by
        unfold q_Rd_part
        rw [tok_c h, bnd_s, h91, if_pos (show nI 2091 = (2091 : Int32) from rfl), if_pos (show nI d < (8 : Int32) from nI_lt' (b := 8) hd8 (by omega)), goOn_c h hp hs, bnd_s, nI_1]
      cases b with
      | false =>
        refine ⟨false, g2, p2, sz2, pa2, ?_, un_adv.tr x2, x3, by omega, by omega, x6, fun q => (by cases q), fun _ => ?_⟩
        · rw [cl, x1, bnd_s, bI_f Bool.false_ne_true, if_pos rfl]
        · intro K L len f hf hc ht _
          obtain ⟨f1, e1, h1, u1, -, -⟩ := open_m K L len f hf
          obtain ⟨s3, f3, b3, e3, h3, u3⟩ := x8 rfl K ((32, 0) :: L) len f1 h1 (hc.un u1) (by show bd 32 < 5; decide) (fun q => (by cases q))
          refine ⟨1 + s3, f3, by omega, fun F => ?_, h3, u1.tr u3⟩
          rw [show F + (1 + s3) = F + s3 + 1 by omega, e1]
          exact e3 F
      | true =>
        obtain ⟨y1, y2, y3, den, k, y4, y5, y6, y7, y8⟩ := x7 rfl
        have tk2 := took_c x3 (v := 2093) (by omega)
        by_cases h93 : tkF B n p2 = 2093
        · obtain ⟨hp2, hs2⟩ := tk_lt x3.2.1 (by omega)
          have kn2 := (tk_n hp2 hs2).2.1
          rw [if_pos h93] at tk2
          have ha2 := x3.adv hp2 hs2
          have tt := ht_ne h.2.2.2.1
          refine ⟨true, adv B n p2 g2, nx B n p2, sz2, pa2, ?_, (un_adv.tr x2).tr un_adv, ha2, by omega, by omega, x6, fun _ => ⟨by omega, trivial, fun j hj => ?_, den, k, y4.ex (fun j a b => rd_a tt.2.1), y5, y6, y7, ?_⟩, fun q => (by cases q)⟩
          · rw [cl, x1, bnd_s, bI_t rfl, if_neg (by decide), show q_Rd_took (2093 : Int32) g2 = _ from tk2, bnd_s, if_neg (by decide)]
          · exact (rd_a tt.2.1).trans ((y3 j hj).trans (rd_a tt.2.1))
          · intro K L len f hf hc ht _
            obtain ⟨f1, e1, h1, u1, o1, w1⟩ := open_m K L len f hf
            obtain ⟨s3, f3, pe3, l3, b3, e3, h3, u3, g3, a3, f3', z3⟩ := y8 K ((32, 0) :: L) len f1 h1 (hc.un u1) (by show bd 32 < 5; decide) (fun q => (by cases q))
            obtain ⟨f4, m1, m2, m3⟩ := next_p h3 hp2 hs2
            obtain ⟨f5, q1, q2, q3, q4, q5⟩ := settle_p m2 (lo := 5) (by omega) (by omega) (fun x hx => (g3 x hx).1) (by show bd 32 < 5; decide)
            have s4 : gI f4 378 = gI f3 378 ∧ gI f4 379 = gI f3 379 := ⟨funext (fun i => m3.I rfl), funext (fun i => m3.I rfl)⟩
            rw [s4.1, s4.2] at q2 q3 q4
            rw [o1, w1] at z3
            generalize hC : sfF pe3 (gI f3 378, gI f3 379, l3) = C at *
            obtain ⟨j1, j2, j3, j4, j5, j6, j7, j8, j9, j10, j11, j12⟩ := id q2
            have u6 : Un sPm f5 (sI (sI f5 367 29 (nI L.length)) 367 30 (nI d)) := (Un.rf.sI rfl _).sI rfl _
            have r7 : ∀ k, k ≠ 29 → k ≠ 30 → gI (sI (sI f5 367 29 (nI L.length)) 367 30 (nI d)) 367 k = gI f5 367 k := fun k h1 h2 => by rw [rd_k h2, rd_k h1]
            have iz : ib (pe3 ++ (32, 0) :: L) = 32 := ib_32 L pe3 (fun x hx => (g3 x hx).1)
            refine ⟨1 + s3 + 1, sI (sI f5 367 29 (nI L.length)) 367 30 (nI d), [], C.2.2, by omega, fun F => ?_, ?_, (((u1.tr u3).tr (sNx_sPm m3)).tr (sSt_sPm q5)).tr u6, fun x hx => (by cases hx), ?_⟩
            · rw [show F + (1 + s3 + 1) = F + 1 + s3 + 1 by omega, e1, e3, lp_s K F h3.2.2.2.1 3 (by omega), if_neg (by omega), if_neg (by omega), if_pos rfl, bs_no h3 (by omega)]
              have e : q_Mo_behindSum_31 (nI v1) (-1) f3 = some (3, sI (sI f5 367 29 (nI L.length)) 367 30 (nI d)) := by
                unfold q_Mo_behindSum_31
                have e29 : nI ((32, 0) :: L : Pi).length - (1 : Int32) = nI L.length := nI_sub (a := L.length + 1) (b := 1) (by omega)
                have e30 : nI (d + 1) - (1 : Int32) = nI d := nI_sub (b := 1) (by omega)
                rw [if_pos rfl, inner_32 h3.2.2.2.2.2.2.2.2.2.1 h3.2.2.2.2.2.2.2.2.1 h3.ln iz, bnd_s, if_pos rfl, show q_Mo_isSign 93 f3 = _ from sign_p h3 (s := 93) (by omega), bnd_s, bI_t (by omega), must_1 h3, m1, bnd_s, if_pos m2.2.2.2.1, show (5 : Int32) = nI 5 from rfl, q1, bnd_s, wr_e, wr_e, j9, e29, rd_k (by decide), j8, e30]
              rw [e, bnd_s]
              rfl
            · exact ⟨⟨j1.1, (r7 13 (by decide) (by decide)).trans j1.2.1, fun j hj => ⟨(u6.I rfl).trans (j1.2.2 j hj).1, (j1.2.2 j hj).2⟩⟩, j2.ex (fun k hk => r7 k (by omega) (by omega)) rfl, j3, (r7 19 (by decide) (by decide)).trans j4, (r7 20 (by decide) (by decide)).trans j5, (r7 23 (by decide) (by decide)).trans j6, (r7 26 (by decide) (by decide)).trans j7, rd_s, (rd_k (by decide)).trans rd_s, j10.2.2.2.2.ex (fun i hi => ⟨by rw [rd_a (by decide), rd_a (by decide)], by rw [rd_a (by decide), rd_a (by decide)]⟩), by have : L.length + 1 ≤ _ := j11; show L.length ≤ _; omega, by have : C.2.2 + ((if 32 < 29 then 1 else 0) + wt L) ≤ _ := j12; rw [if_neg (by omega)] at this; show C.2.2 + wt L ≤ _; omega⟩
            · have o6 : gI (sI (sI f5 367 29 (nI L.length)) 367 30 (nI d)) 378 = C.1 := by rw [gI_up0 _ _ _ (by decide), gI_up0 _ _ _ (by decide), q3]
              have w6 : gI (sI (sI f5 367 29 (nI L.length)) 367 30 (nI d)) 379 = C.2.1 := by rw [gI_up0 _ _ _ (by decide), gI_up0 _ _ _ (by decide), q4]
              rw [o6, w6]
              exact ⟨a3, f3', z3⟩
        · rw [if_neg h93] at tk2
          refine ⟨false, g2, p2, sz2, pa2, ?_, un_adv.tr x2, x3, by omega, by omega, x6, fun q => (by cases q), fun _ => ?_⟩
          · rw [cl, x1, bnd_s, bI_t rfl, if_neg (by decide), show q_Rd_took (2093 : Int32) g2 = _ from tk2, bnd_s, if_pos rfl, bI_f Bool.false_ne_true]
          · intro K L len f hf hc ht _
            obtain ⟨f1, e1, h1, u1, o1, w1⟩ := open_m K L len f hf
            obtain ⟨s3, f3, pe3, l3, b3, e3, h3, u3, g3, a3, f3', z3⟩ := y8 K ((32, 0) :: L) len f1 h1 (hc.un u1) (by show bd 32 < 5; decide) (fun q => (by cases q))
            obtain ⟨f4, m1, m2, m3⟩ := must_0 h3
            refine ⟨1 + s3 + 2, f4, by omega, fun F => ?_, m2, (u1.tr u3).tr m3⟩
            rw [show F + (1 + s3 + 2) = F + 1 + 1 + s3 + 1 by omega, e1, e3, lp_s K (F + 1) h3.2.2.2.1 3 (by omega), if_neg (by omega), if_neg (by omega), if_pos rfl, bs_no h3 y2]
            have e : q_Mo_behindSum_31 (nI v1) (-1) f3 = some (3, f4) := by
              unfold q_Mo_behindSum_31
              rw [if_pos rfl, inner_32 h3.2.2.2.2.2.2.2.2.2.1 h3.2.2.2.2.2.2.2.2.1 h3.ln (ib_32 L pe3 (fun x hx => (g3 x hx).1)), bnd_s, if_pos rfl, show q_Mo_isSign 93 f3 = _ from sign_p h3 (s := 93) (by omega), bnd_s, bI_f (by omega), m1, bnd_s, if_neg (by rw [m2.1]; decide)]
            rw [e, bnd_s, lp_f K F m2.1]
    · have c : q_Rd_part rs (nI d) g = some (0, g) := by
        unfold q_Rd_part
        rw [tok_c h, bnd_s, h91, if_pos (show nI 2091 = (2091 : Int32) from rfl), if_neg (show ¬ nI d < (8 : Int32) from nI_ngt (a := 8) (by omega) (by omega))]
      refine ⟨false, g, p, sz, pa, c, Un.rf, h, Nat.le_refl _, by omega, Nat.le_refl _, fun q => (by cases q), fun _ => ?_⟩
      intro K L len f hf hc ht _
      obtain ⟨f4, m1, m2, m3⟩ := must_0 hf
      refine ⟨2, f4, by omega, fun F => ?_, m2, m3⟩
      rw [show F + 2 = F + 1 + 1 from rfl, lp_s K (F + 1) hf.2.2.2.1 1 (by omega), if_neg (by omega), if_pos rfl]
      have e : q_Mo_readPart f = some (1, f4) := by
        unfold q_Mo_readPart q_Mo_openBracket q_Mo_openBracket_8
        rw [show q_Mo_isSign 91 f = _ from sign_p hf (s := 91) (by omega), bnd_s, bI_t (by omega), if_neg (by decide), hf.2.2.2.2.2.2.2.1, if_pos (show (8 : Int32) ≤ nI d from nI_le (a := 8) (by omega) (by omega)), m1, bnd_s, if_neg (by rw [m2.1]; decide), bnd_s]
      rw [e, bnd_s, lp_f K F m2.1]
  · have cl := part_c0 rs h h91 (nI d)
    have hg1 : PC B n t 0 p sz (min 50 (pa + 1)) (sI g 239 3 (nI (min 50 (pa + 1)))) := h.ex (Un.rf.sI rfl _) h.2.1 rd_s ((rd_k (by decide)).trans h.2.2.2.2.2.2.2.1) ((rd_a hh.1).trans h.2.2.2.2.2.2.2.2.1) (by omega) sl
    by_cases z : pa < 50
    · rw [if_pos z] at cl
      have e50 : min 50 (pa + 1) = pa + 1 := by omega
      rw [e50] at hg1
      cases q : leL (tkF B n p) with
      | none =>
        rw [q] at cl
        exact ⟨false, _, p, sz, pa + 1, by rw [cl, bI_f Bool.false_ne_true], Un.rf.sI rfl _, hg1, Nat.le_refl _, by omega, by omega, fun q => (by cases q), fun _ => no_here h91 h5 (Or.inr q)⟩
      | some x =>
        rw [q] at cl
        replace cl : q_Rd_part rs (nI d) g = some ((1 : Int32), adv B n p (addH t sz (if x.1 = 0 then 16 * x.2 else 16 * (x.1 - 1) + 1) (sI g 239 3 (nI (pa + 1))))) := cl
        have hx : tkF B n p ≠ 4000 ∧ x.2 < 1024 ∧ ((x.1 = 0) ∨ (1 ≤ x.1 ∧ x.1 ≤ 7 ∧ x.2 = 0)) := by
          unfold leL at q
          by_cases a1 : tkF B n p ≤ 1000
          · rw [if_pos a1] at q; injection q with q; rw [← q]; exact ⟨by omega, by show tkF B n p < 1024; omega, Or.inl rfl⟩
          · rw [if_neg a1] at q
            by_cases a2 : 3015 ≤ tkF B n p ∧ tkF B n p ≤ 3021
            · rw [if_pos a2] at q; injection q with q; rw [← q]; exact ⟨by omega, by show 0 < 1024; omega, Or.inr ⟨by show 1 ≤ tkF B n p - 3014; omega, by show tkF B n p - 3014 ≤ 7; omega, rfl⟩⟩
            · rw [if_neg a2] at q; cases q
        obtain ⟨hp, hs⟩ := tk_lt h.2.1 hx.1
        have kn := (tk_n hp hs).2.1
        have kk := cnt_in (stB B) hp hs
        have tt := h.2.2.2.1.2
        generalize hc : (if x.1 = 0 then 16 * x.2 else 16 * (x.1 - 1) + 1) = c at *
        have ua : Un (sRd t) g (adv B n p (addH t sz c (sI g 239 3 (nI (pa + 1))))) := ((Un.rf.sI rfl _).tr un_add).tr un_adv
        have r1 : ∀ k, k ≠ 4 → gI (adv B n p (addH t sz c (sI g 239 3 (nI (pa + 1))))) 239 k = gI (sI g 239 3 (nI (pa + 1))) 239 k := fun k hk => by
          unfold adv addH
          rw [rd_k hk, rd_a (by omega), rd_a (by omega)]
        have rc : ∀ j, gI (adv B n p (addH t sz c (sI g 239 3 (nI (pa + 1))))) (t + 1) j = if j = sz then nI c else gI g (t + 1) j := fun j => by
          unfold adv addH
          rw [rd_a (by omega), rd_a (by omega), gI_sI, rd_a (by omega)]
          by_cases w : j = sz
          · rw [if_pos ⟨rfl, w⟩, if_pos w]
          · rw [if_neg (fun q => w q.2), if_neg w]
        have pc2 : PC B n t 0 (nx B n p) (sz + 1) (pa + 1) (adv B n p (addH t sz c (sI g 239 3 (nI (pa + 1))))) := h.ex ua (tk_n hp hs).1 ((r1 3 (by decide)).trans rd_s) rd_s (by unfold adv addH; rw [rd_a (by omega), rd_s]) (by omega) (by omega)
        have cv : gI (adv B n p (addH t sz c (sI g 239 3 (nI (pa + 1))))) (t + 1) sz = nI c := by rw [rc, if_pos rfl]
        have mok : ∀ den : Den, (∀ (o w : Nat → Int32) (len : Nat), o len = nI x.1 → w len = nI x.2 → FrM 0 o w len (len + 1) den) → MOk B n 0 v1 1 3 7 p pa d (nx B n p) (pa + 1) false den := fun den hden => by
          intro K L len f hf hcc ht _
          have e := part_m0 hf hcc h91
          rw [q] at e
          obtain ⟨v, e⟩ := e
          obtain ⟨f', e1, e2, e3, e4, e5⟩ := p53_ok hf hp hs z v (nI x.1) (nI x.2)
          refine ⟨1, f', [], len + 1, by omega, fun F => ?_, e2, e3, fun x hx => (by cases hx), ?_⟩
          · rw [lp_s K F hf.2.2.2.1 1 (by omega), if_neg (by omega), if_pos rfl, e, e1, bnd_s]
            rfl
          · show len < len + 1 ∧ FrM 0 (gI f' 378) (gI f' 379) len (len + 1) den ∧ ∀ j, j < len → gI f' 378 j = gI f 378 j ∧ gI f' 379 j = gI f 379 j
            rw [e4, e5]
            exact ⟨by omega, hden _ _ len (upR_s _ _ _) (upR_s _ _ _), fun j hj => ⟨upR_n _ _ (by omega), upR_n _ _ (by omega)⟩⟩
        rcases hx.2.2 with x0 | ⟨x1, x7, x2⟩
        · rw [if_pos x0] at hc
          refine ⟨true, _, nx B n p, sz + 1, pa + 1, by rw [cl, bI_t rfl], ua, pc2, by omega, by omega, by omega, fun _ => ⟨by omega, trivial, fun j hj => by rw [rc, if_neg (by omega)], fun _ => some (nI x.2), 1, frc_num _ hx.2.1 (by rw [cv, ← hc]), by omega, fun q => (by cases q), gd_num _ (by omega), mok _ (fun o w len ho hw => frm_num 0 (by rw [ho, x0]; rfl) hw)⟩, fun q => (by cases q)⟩
        · rw [if_neg (by omega)] at hc
          refine ⟨true, _, nx B n p, sz + 1, pa + 1, by rw [cl, bI_t rfl], ua, pc2, by omega, by omega, by omega, fun _ => ⟨by omega, trivial, fun j hj => by rw [rc, if_neg (by omega)], fun f => some (f (x.1 - 1)), 1, frc_fact (m := x.1 - 1) (by decide) (by omega) (show x.1 - 1 < iaLen 251 by rw [ia_251]; omega) (by decide) (by rw [cv, ← hc]), by omega, fun q => (by cases q), gd_fact (show x.1 - 1 < 7 by omega), mok _ (fun o w len ho hw => frm_fact (k := x.1 - 1) (Or.inl ⟨rfl, by omega⟩) (by rw [ho]; unfold fcO; rw [if_pos rfl, show x.1 - 1 + 1 = x.1 by omega]) (fun q => (by cases q)))⟩, fun q => (by cases q)⟩
    · rw [if_neg z] at cl
      exact ⟨false, g, p, sz, pa, by rw [cl, bI_f Bool.false_ne_true], Un.rf, h, Nat.le_refl _, by omega, Nat.le_refl _, fun q => (by cases q), fun _ => no_here h91 h5 (Or.inl (by omega))⟩
end PK
