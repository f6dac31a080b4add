/-! texts: not, brackets, and, or: the model -/
section TF
variable {B : Nat → Nat} {n lg hi lo p0 pa0 p pa dp p' pa' p2 pa2 len d : Nat} {L : Pi} {f : hG} {den : Den}
theorem not_push (h : PM B n lg p pa dp L len f) (hq : tkF B n p = 3006) : ∃ f', q_Mo_readPlain f = some (0, f') ∧ PM B n lg (nx B n p) pa dp ((28, 0) :: L) len f' ∧ Un sPm f f' ∧ gI f' 378 = gI f 378 ∧ gI f' 379 = gI f 379 := by
  obtain ⟨hp, hs⟩ := tk_lt h.2.2.1 (by omega)
  obtain ⟨f1, a1, a2, a3, a4, a5⟩ := push_p h hp hs (a := 28) (b := 0) (by omega) (by omega)
  refine ⟨f1, ?_, a2, a3, a4, a5⟩
  have w : q_Mo_isWord 14836 f = some (bI (tkF B n p = 3001 + 5), f) := word_p h (i := 5) (by omega)
  have e : (bnd (q_Mo_push (28 : Int32) (0 : Int32) f) fun _ g14 => bnd (q_Mo_next g14) fun _ g16 => some ((0 : Int32), g16)) = bnd (bnd (q_Mo_push (nI 28) (nI 0) f) fun _ g16 => q_Mo_next g16) fun _ g => some ((0 : Int32), g) := by
    show bnd (q_Mo_push (nI 28) (nI 0) f) _ = _
    cases q : q_Mo_push (nI 28) (nI 0) f with
    | none => rfl
    | some x => rfl
  unfold q_Mo_readPlain
  rw [w, bnd_s, bI_t (by omega), if_neg (by decide), e, a1, bnd_s]
theorem MOkT_not (hq : tkF B n p = 3006) (hp : p < n ∧ stB B p = true) (m : MOkT B n lg 4 3 (nx B n p) pa dp p2 pa2 den) (c2 : cnt (stB B) (nx B n p) ≤ cnt (stB B) p2) (h0 : t01 den) : MOkT B n lg 4 3 p pa dp p2 pa2 (notD den) := by
  intro K L len f hf hc ht hib
  obtain ⟨f1, e1, h1, u1, o1, w1⟩ := not_push hf hq
  have kn := (tk_n hp.1 hp.2).2.1
  obtain ⟨s3, f3, pe3, l3, b3, e3, h3, u3, g3, x3, y3, z3⟩ := m K ((28, 0) :: L) len f1 h1 (hc.un u1) (by show bd 28 < 4; decide) (by show (if 31 ≤ 28 then 28 else ib L) ≠ 32; rw [if_neg (by omega)]; exact hib)
  rw [o1, w1] at z3
  generalize hC3 : sfF pe3 (gI f3 378, gI f3 379, l3) = C3 at *
  have eC : sfF (pe3 ++ [(28, 0)]) (gI f3 378, gI f3 379, l3) = (upR C3.1 C3.2.2 (nI 28), upR C3.2.1 C3.2.2 0, C3.2.2 + 1) := by
    rw [sfF_app, hC3]
    show sf1 (28, 0) C3 = _
    unfold sf1
    rw [if_neg (show ¬ ((28, 0).1 = 29 ∨ (28, 0).1 = 30) by show ¬ (28 = 29 ∨ 28 = 30); omega)]
  refine ⟨1 + s3, f3, pe3 ++ [(28, 0)], l3, by omega, fun F => ?_, ?_, u1.tr u3, fun x hx => ?_, ?_⟩
  · have a := lp_s (v1 := 1) K (F + s3) hf.2.2.2.1 0 (by omega)
    rw [if_pos rfl, e1, bnd_s] at a
    rw [show F + (1 + s3) = F + s3 + 1 by omega]
    exact a.trans (e3 F)
  · rw [List.append_assoc]; exact h3
  · rcases List.mem_append.mp hx with hx | hx
    · exact g3 x hx
    · rw [List.mem_singleton.mp hx]; show 3 ≤ bd 28; decide
  · rw [eC]
    refine ⟨by show len < C3.2.2 + 1; omega, ?_, fun j hj => ?_⟩
    · show FrM lg (upR C3.1 C3.2.2 (nI 28)) (upR C3.2.1 C3.2.2 0) len (C3.2.2 + 1) (notD den)
      exact frm_not (y3.ex (fun j a b => ⟨upR_n _ _ (by omega), upR_n _ _ (by omega)⟩)) h0 (upR_s _ _ _)
    · have b := z3 j hj
      exact ⟨(upR_n _ _ (by omega)).trans b.1, (upR_n _ _ (by omega)).trans b.2⟩
theorem MNoT_not (hq : tkF B n p = 3006) (hp : p < n ∧ stB B p = true) (m : MNoT B n lg 4 (nx B n p) pa dp p2) (c2 : cnt (stB B) (nx B n p) ≤ cnt (stB B) p2) : MNoT B n lg 4 p pa dp p2 := by
  intro K L len f hf hc ht hib
  obtain ⟨f1, e1, h1, u1, o1, w1⟩ := not_push hf hq
  have kn := (tk_n hp.1 hp.2).2.1
  obtain ⟨s3, f3, b3, e3, h3, u3⟩ := m K ((28, 0) :: L) len f1 h1 (hc.un u1) (by show bd 28 < 4; decide) (by show (if 31 ≤ 28 then 28 else ib L) ≠ 32; rw [if_neg (by omega)]; exact hib)
  refine ⟨1 + s3, f3, by omega, fun F => ?_, h3, u1.tr u3⟩
  have a := lp_s (v1 := 1) K (F + s3) hf.2.2.2.1 0 (by omega)
  rw [if_pos rfl, e1, bnd_s] at a
  rw [show F + (1 + s3) = F + s3 + 1 by omega]
  exact a.trans (e3 F)
def noAO (x : Nat) : Prop := x ≠ 3005 ∧ x ≠ 3004
/-- ( -/
theorem br_open (h : PM B n lg p pa d L len f) (hq : tkF B n p = 2040) (hd : d < 8) : ∃ f', q_Mo_readPlain f = some (0, f') ∧ PM B n lg (nx B n p) pa (d + 1) ((31, 0) :: L) len f' ∧ Un sPm f f' ∧ gI f' 378 = gI f 378 ∧ gI f' 379 = gI f 379 := by
  obtain ⟨hp, hs⟩ := tk_lt h.2.2.1 (by omega)
  have kn := (tk_n hp hs).2.1
  obtain ⟨f1, a1, a2, a3⟩ := next_p h hp hs
  obtain ⟨j1, j2, j3, j4, j5, j6, j7, j8, j9, j10, j11, j12⟩ := id a2
  have c5 := h.c4
  have hl : L.length < 400 := by have := h.2.2.2.2.2.2.2.2.2.2.1; omega
  have u : Un sPm f1 (pushH L 31 0 (sI f1 367 30 (nI (d + 1)))) := (((Un.rf.sI rfl _).sI (by rfl) _).sI (by rfl) _).sI rfl _
  have r7 : ∀ k, k ≠ 29 → k ≠ 30 → gI (pushH L 31 0 (sI f1 367 30 (nI (d + 1)))) 367 k = gI f1 367 k := fun k h1 h2 => by unfold pushH; rw [rd_k h1, rd_a (by decide), rd_a (by decide), rd_k h2]
  have pl : PL ((31, 0) :: L) (pushH L 31 0 (sI f1 367 30 (nI (d + 1)))) := push_PL (j10.ex (fun i hi => ⟨rd_a (by decide), rd_a (by decide)⟩)) (by omega) (by omega)
  refine ⟨pushH L 31 0 (sI f1 367 30 (nI (d + 1))), ?_, ⟨⟨j1.1, (r7 13 (by decide) (by decide)).trans j1.2.1, fun j hj => ⟨(u.I rfl).trans (j1.2.2 j hj).1, (j1.2.2 j hj).2⟩⟩, j2.ex (fun k hk => r7 k (by omega) (by omega)) rfl, j3, (r7 19 (by decide) (by decide)).trans j4, (r7 20 (by decide) (by decide)).trans j5, (r7 23 (by decide) (by decide)).trans j6, (r7 26 (by decide) (by decide)).trans j7, by unfold pushH; rw [rd_k (by decide), rd_a (by decide), rd_a (by decide), rd_s], rd_s, pl, ?_, ?_⟩, (sNx_sPm a3).tr u, ?_, ?_⟩
  · have w : q_Mo_isWord 14836 f = some (bI (tkF B n p = 3001 + 5), f) := word_p h (i := 5) (by omega)
    unfold q_Mo_readPlain q_Mo_openBracket q_Mo_openBracket_8
    rw [w, bnd_s, bI_f (by omega), if_pos rfl, show q_Mo_isSign 40 f = _ from sign_p h (s := 40) (by omega), bnd_s, bI_t (by omega), if_neg (by decide), h.2.2.2.2.2.2.2.1, if_neg (show ¬ (8 : Int32) ≤ nI d from nI_ge (a := d) (b := 8) hd (by decide)), must_1 h, a1, bnd_s, if_pos j4, wr_e, j8, nI_1, show (31 : Int32) = nI 31 from rfl, show q_Mo_push (nI 31) (0 : Int32) (sI f1 367 30 (nI (d + 1))) = _ from push_m (f := sI f1 367 30 (nI (d + 1))) ((rd_k (by decide)).trans j9) hl 31 0, bnd_s, bnd_s]
  · show L.length + 1 ≤ _
    have := h.2.2.2.2.2.2.2.2.2.2.1
    omega
  · show len + ((if 31 < 29 then 1 else 0) + wt L) ≤ _
    rw [if_neg (by omega)]; omega
  · unfold pushH
    rw [gI_up0 _ _ _ (by decide), gI_up0 _ _ _ (by decide), gI_up0 _ _ _ (by decide), gI_up0 _ _ _ (by decide)]
    exact funext (fun i => a3.I rfl)
  · unfold pushH
    rw [gI_up0 _ _ _ (by decide), gI_up0 _ _ _ (by decide), gI_up0 _ _ _ (by decide), gI_up0 _ _ _ (by decide)]
    exact funext (fun i => a3.I rfl)
theorem br_8 (h : PM B n lg p pa d L len f) (hq : tkF B n p = 2040) (hd : 8 ≤ d) (hd2 : d < 100) : ∃ f', q_Mo_readPlain f = some (0, f') ∧ PF lg p f' ∧ Un sPm f f' := by
  obtain ⟨f4, m1, m2, m3⟩ := must_0 h
  refine ⟨f4, ?_, m2, m3⟩
  have w : q_Mo_isWord 14836 f = some (bI (tkF B n p = 3001 + 5), f) := word_p h (i := 5) (by omega)
  unfold q_Mo_readPlain q_Mo_openBracket q_Mo_openBracket_8
  rw [w, bnd_s, bI_f (by omega), if_pos rfl, show q_Mo_isSign 40 f = _ from sign_p h (s := 40) (by omega), bnd_s, bI_t (by omega), if_neg (by decide), h.2.2.2.2.2.2.2.1, if_pos (show (8 : Int32) ≤ nI d from nI_le (a := 8) hd (by omega)), m1, bnd_s, if_neg (by rw [m2.1]; decide), bnd_s]
/-- ) or none -/
theorem bt_no (h : PM B n lg p pa dp L len f) (hq : noAO (tkF B n p)) : q_Mo_behindTest f = bnd (q_Mo_inner f) fun r25 g23 => if r25 = (-1 : Int32) then (some ((4 : Int32), g23)) else (bnd (q_Mo_isSign (41 : Int32) g23) fun r29 g27 => bnd (q_Mo_must r29 g27) fun _ g30 => if (gI g30 367 19) = (0 : Int32) then (bnd (q_Mo_settle (1 : Int32) g30) fun _ g33 => wr (sI g33 367 29 ((gI g33 367 29) - (1 : Int32))) fun g35 => wr (sI g35 367 30 ((gI g35 367 30) - (1 : Int32))) fun g37 => some ((2 : Int32), g37)) else (some ((2 : Int32), g30))) := by
  obtain ⟨q1, q2⟩ := hq
  unfold q_Mo_behindTest
  rw [show q_Mo_isWord 1476 f = _ from word_p h (i := 4) (by omega), bnd_s, bI_f (by omega), if_pos rfl, show q_Mo_isWord 498 f = _ from word_p h (i := 3) (by omega), bnd_s, bI_f (by omega), if_pos rfl]
theorem br_close {pend : Pi} (h : PM B n lg p pa (d + 1) (pend ++ (31, 0) :: L) len f) (hq : tkF B n p = 2041) (hb : ∀ x, x ∈ pend → 1 ≤ bd x.1) : ∃ f', q_Mo_behindTest f = some (2, f') ∧ PM B n lg (nx B n p) pa d L (sfF pend (gI f 378, gI f 379, len)).2.2 f' ∧ gI f' 378 = (sfF pend (gI f 378, gI f 379, len)).1 ∧ gI f' 379 = (sfF pend (gI f 378, gI f 379, len)).2.1 ∧ Un sPm f f' := by
  obtain ⟨hp, hst⟩ := tk_lt h.2.2.1 (by omega)
  obtain ⟨f4, m1, m2, m3⟩ := next_p h hp hst
  obtain ⟨f5, q1, q2, q3, q4, q5⟩ := settle_p m2 (lo := 1) (by omega) (by omega) hb (by show bd 31 < 1; decide)
  have s4 : gI f4 378 = gI f 378 ∧ gI f4 379 = gI f 379 := ⟨funext (fun i => m3.I rfl), funext (fun i => m3.I rfl)⟩
  rw [s4.1, s4.2] at q2 q3 q4
  generalize hC : sfF pend (gI f 378, gI f 379, len) = C at *
  obtain ⟨j1, j2, j3, j4, j5, j6, j7, j8, j9, j10, j11, j12⟩ := id q2
  have u6 : Un sPm f5 (sI (sI f5 367 29 (nI L.length)) 367 30 (nI d)) := (Un.rf.sI rfl _).sI rfl _
  have r7 : ∀ k, k ≠ 29 → k ≠ 30 → gI (sI (sI f5 367 29 (nI L.length)) 367 30 (nI d)) 367 k = gI f5 367 k := fun k h1 h2 => by rw [rd_k h2, rd_k h1]
  have e29 : nI ((31, 0) :: L : Pi).length - (1 : Int32) = nI L.length := nI_sub (a := L.length + 1) (b := 1) (by omega)
  have e30 : nI (d + 1) - (1 : Int32) = nI d := nI_sub (b := 1) (by omega)
  refine ⟨sI (sI f5 367 29 (nI L.length)) 367 30 (nI d), ?_, ⟨⟨j1.1, (r7 13 (by decide) (by decide)).trans j1.2.1, fun j hj => ⟨(u6.I rfl).trans (j1.2.2 j hj).1, (j1.2.2 j hj).2⟩⟩, j2.ex (fun k hk => r7 k (by omega) (by omega)) rfl, j3, (r7 19 (by decide) (by decide)).trans j4, (r7 20 (by decide) (by decide)).trans j5, (r7 23 (by decide) (by decide)).trans j6, (r7 26 (by decide) (by decide)).trans j7, rd_s, (rd_k (by decide)).trans rd_s, j10.2.2.2.2.ex (fun i hi => ⟨by rw [rd_a (by decide), rd_a (by decide)], by rw [rd_a (by decide), rd_a (by decide)]⟩), by have : L.length + 1 ≤ _ := j11; show L.length ≤ _; omega, by have : C.2.2 + ((if 31 < 29 then 1 else 0) + wt L) ≤ _ := j12; rw [if_neg (by omega)] at this; show C.2.2 + wt L ≤ _; omega⟩, ?_, ?_, ((sNx_sPm m3).tr (sSt_sPm q5)).tr u6⟩
  · have iz : q_Mo_inner f = some (31, f) := by
      rw [inner_m h.2.2.2.2.2.2.2.2.2.1 h.2.2.2.2.2.2.2.2.1 h.ln, ib_pe _ pend hb]
      rfl
    rw [bt_no h ⟨by omega, by omega⟩, iz, bnd_s, if_neg (by decide), show q_Mo_isSign 41 f = _ from sign_p h (s := 41) (by omega), bnd_s, bI_t (by omega), must_1 h, m1, bnd_s, if_pos m2.2.2.2.1, show (1 : Int32) = nI 1 from rfl, q1, bnd_s, show nI 1 = (1 : Int32) from rfl, wr_e, wr_e, j9, e29, rd_k (by decide), j8, e30]
  · rw [gI_up0 _ _ _ (by decide), gI_up0 _ _ _ (by decide), q3]
  · rw [gI_up0 _ _ _ (by decide), gI_up0 _ _ _ (by decide), q4]
theorem br_miss {pend : Pi} (h : PM B n lg p pa (d + 1) (pend ++ (31, 0) :: L) len f) (hq : tkF B n p ≠ 2041) (hn : noAO (tkF B n p)) (hb : ∀ x, x ∈ pend → 1 ≤ bd x.1) : ∃ f', q_Mo_behindTest f = some (2, f') ∧ PF lg p f' ∧ Un sPm f f' := by
  obtain ⟨f4, m1, m2, m3⟩ := must_0 h
  refine ⟨f4, ?_, m2, m3⟩
  have iz : q_Mo_inner f = some (31, f) := by
    rw [inner_m h.2.2.2.2.2.2.2.2.2.1 h.2.2.2.2.2.2.2.2.1 h.ln, ib_pe _ pend hb]
    rfl
  rw [bt_no h hn, iz, bnd_s, if_neg (by decide), show q_Mo_isSign 41 f = _ from sign_p h (s := 41) (by omega), bnd_s, bI_f (by omega), m1, bnd_s, if_neg (by rw [m2.1]; decide)]
theorem MOkT_br (hq : tkF B n p0 = 2040) (hd : d < 8) (hp : p0 < n ∧ stB B p0 = true) (m : MOkT B n lg 1 1 (nx B n p0) pa0 (d + 1) p pa den) (c1 : cnt (stB B) (nx B n p0) ≤ cnt (stB B) p) (hq2 : tkF B n p = 2041) (hp2 : p < n ∧ stB B p = true) : MOkT B n lg 7 7 p0 pa0 d (nx B n p) pa den := by
  intro K L len f hf hc ht hib
  obtain ⟨f1, e1, h1, u1, o1, w1⟩ := br_open hf hq hd
  have kn := (tk_n hp.1 hp.2).2.1
  have kn2 := (tk_n hp2.1 hp2.2).2.1
  obtain ⟨s3, f3, pe3, l3, b3, e3, h3, u3, g3, x3, y3, z3⟩ := m K ((31, 0) :: L) len f1 h1 (hc.un u1) (by show bd 31 < 1; decide) (by show (if 31 ≤ 31 then 31 else ib L) ≠ 32; rw [if_pos (by omega)]; omega)
  obtain ⟨f4, e4, h4, o4, w4, u4⟩ := br_close h3 hq2 g3
  rw [o1, w1] at z3
  generalize hC3 : sfF pe3 (gI f3 378, gI f3 379, l3) = C3 at *
  refine ⟨1 + s3 + 1, f4, [], C3.2.2, by omega, fun F => ?_, h4, (u1.tr u3).tr u4, fun x hx => (by cases hx), ?_⟩
  · have a := lp_s (v1 := 1) K (F + 1 + s3) hf.2.2.2.1 0 (by omega)
    rw [if_pos rfl, e1, bnd_s] at a
    rw [show F + (1 + s3 + 1) = F + 1 + s3 + 1 by omega]
    refine a.trans ((e3 (F + 1)).trans ?_)
    have b := lp_s (v1 := 1) K F h3.2.2.2.1 2 (by omega)
    rw [if_neg (by omega), if_neg (by omega), if_neg (by omega), e4, bnd_s] at b
    exact b
  · rw [o4, w4]
    exact ⟨x3, y3, z3⟩
theorem MNoT_br0 (hq : tkF B n p0 = 2040) (hd : 8 ≤ d) (hd2 : d < 100) : MNoT B n lg 7 p0 pa0 d p0 := by
  intro K L len f hf hc ht hib
  obtain ⟨f1, e1, h1, u1⟩ := br_8 hf hq hd hd2
  refine ⟨2, f1, by omega, fun F => ?_, h1, u1⟩
  have a := lp_s (v1 := 1) K (F + 1) hf.2.2.2.1 0 (by omega)
  rw [if_pos rfl, e1, bnd_s] at a
  exact a.trans (lp_f K F h1.1 _)
theorem MNoT_br1 (hq : tkF B n p0 = 2040) (hd : d < 8) (hp : p0 < n ∧ stB B p0 = true) (m : MNoT B n lg 1 (nx B n p0) pa0 (d + 1) p) (c1 : cnt (stB B) (nx B n p0) ≤ cnt (stB B) p) : MNoT B n lg 7 p0 pa0 d p := by
  intro K L len f hf hc ht hib
  obtain ⟨f1, e1, h1, u1, o1, w1⟩ := br_open hf hq hd
  have kn := (tk_n hp.1 hp.2).2.1
  obtain ⟨s3, f3, b3, e3, h3, u3⟩ := m K ((31, 0) :: L) len f1 h1 (hc.un u1) (by show bd 31 < 1; decide) (by show (if 31 ≤ 31 then 31 else ib L) ≠ 32; rw [if_pos (by omega)]; omega)
  refine ⟨1 + s3, f3, by omega, fun F => ?_, h3, u1.tr u3⟩
  have a := lp_s (v1 := 1) K (F + s3) hf.2.2.2.1 0 (by omega)
  rw [if_pos rfl, e1, bnd_s] at a
  rw [show F + (1 + s3) = F + s3 + 1 by omega]
  exact a.trans (e3 F)
theorem MNoT_br2 (hq : tkF B n p0 = 2040) (hd : d < 8) (hp : p0 < n ∧ stB B p0 = true) (m : MOkT B n lg 1 1 (nx B n p0) pa0 (d + 1) p pa den) (c1 : cnt (stB B) (nx B n p0) ≤ cnt (stB B) p) (hq2 : tkF B n p ≠ 2041) (hn : noAO (tkF B n p)) : MNoT B n lg 7 p0 pa0 d p := by
  intro K L len f hf hc ht hib
  obtain ⟨f1, e1, h1, u1, o1, w1⟩ := br_open hf hq hd
  have kn := (tk_n hp.1 hp.2).2.1
  obtain ⟨s3, f3, pe3, l3, b3, e3, h3, u3, g3, x3, y3, z3⟩ := m K ((31, 0) :: L) len f1 h1 (hc.un u1) (by show bd 31 < 1; decide) (by show (if 31 ≤ 31 then 31 else ib L) ≠ 32; rw [if_pos (by omega)]; omega)
  obtain ⟨f4, e4, h4, u4⟩ := br_miss h3 hq2 hn g3
  refine ⟨1 + s3 + 2, f4, by omega, fun F => ?_, h4, (u1.tr u3).tr u4⟩
  have a := lp_s (v1 := 1) K (F + 1 + 1 + s3) hf.2.2.2.1 0 (by omega)
  rw [if_pos rfl, e1, bnd_s] at a
  rw [show F + (1 + s3 + 2) = F + 1 + 1 + s3 + 1 by omega]
  refine a.trans ((e3 (F + 1 + 1)).trans ?_)
  have b := lp_s (v1 := 1) K (F + 1) h3.2.2.2.1 2 (by omega)
  rw [if_neg (by omega), if_neg (by omega), if_neg (by omega), e4, bnd_s] at b
  exact b.trans (lp_f K F h4.1 _)
/-- and, or -/
def jwS (s : Nat) : Nat := if s = 29 then 3005 else 3004
theorem jmp_push {pend : Pi} (h : PM B n lg p pa dp (pend ++ L) len f) {s lo : Nat} (hs : s = 29 ∨ s = 30) (hlo : bd s = lo) (hq : tkF B n p = jwS s) (hb : ∀ x, x ∈ pend → lo ≤ bd x.1) (ht : tb L < lo) : ∃ f', q_Mo_behindTest f = some (0, f') ∧ PM B n lg (nx B n p) pa dp ((s, (sfF pend (gI f 378, gI f 379, len)).2.2) :: L) ((sfF pend (gI f 378, gI f 379, len)).2.2 + 1) f' ∧ gI f' 378 = upR (sfF pend (gI f 378, gI f 379, len)).1 (sfF pend (gI f 378, gI f 379, len)).2.2 (nI s) ∧ gI f' 379 = upR (sfF pend (gI f 378, gI f 379, len)).2.1 (sfF pend (gI f 378, gI f 379, len)).2.2 0 ∧ Un sPm f f' := by
  have l1 : 1 ≤ lo ∧ lo ≤ 2 := by rcases hs with rfl | rfl <;> rw [← hlo] <;> decide
  have hqv : tkF B n p = 3005 ∨ tkF B n p = 3004 := by
    rcases hs with rfl | rfl
    · exact Or.inl hq
    · exact Or.inr hq
  obtain ⟨hp, hst⟩ := tk_lt h.2.2.1 (by omega)
  obtain ⟨f1, a1, a2, a3, a4, a5⟩ := settle_p h l1.1 (by omega) hb ht
  generalize hC : sfF pend (gI f 378, gI f 379, len) = C at *
  obtain ⟨j1, j2, j3, j4, j5, j6, j7, j8, j9, j10, j11, j12⟩ := id a2
  have c4 := a2.c4
  have c5 := c4.2.2.2 hp
  have kn := (tk_n hp hst).2.1
  -- pushed, then written
  have hl : L.length < 400 := by omega
  have hc4 : C.2.2 < 400 := by omega
  have e23 : gI (pushH L s C.2.2 f1) 367 23 = nI C.2.2 := by unfold pushH; rw [rd_k (by decide), rd_a (by decide), rd_a (by decide)]; exact j6
  have u : Un sPm f1 (emitH C.2.2 (nI s) 0 (pushH L s C.2.2 f1)) := (((((Un.rf.sI (by rfl) _).sI (by rfl) _).sI rfl _).sI (by rfl) _).sI (by rfl) _).sI rfl _
  have r7 : ∀ k, k ≠ 29 → k ≠ 23 → gI (emitH C.2.2 (nI s) 0 (pushH L s C.2.2 f1)) 367 k = gI f1 367 k := fun k h1 h2 => by unfold emitH pushH; rw [rd_k h2, rd_a (by decide), rd_a (by decide), rd_k h1, rd_a (by decide), rd_a (by decide)]
  have pl : PL ((s, C.2.2) :: L) (pushH L s C.2.2 f1) := push_PL j10 (by omega) hc4
  have pe : ∀ a, a = 380 ∨ a = 381 → ∀ i, gI (emitH C.2.2 (nI s) 0 (pushH L s C.2.2 f1)) a i = gI (pushH L s C.2.2 f1) a i := fun a ha i => by unfold emitH; rw [rd_a (by omega), rd_a (by omega), rd_a (by omega)]
  have pm1 : PM B n lg p pa dp L 0 f1 ∨ True := Or.inr trivial
  have h1 : TBM B n (emitH C.2.2 (nI s) 0 (pushH L s C.2.2 f1)) := ⟨j1.1, (r7 13 (by decide) (by decide)).trans j1.2.1, fun j hj => ⟨(u.I rfl).trans (j1.2.2 j hj).1, (j1.2.2 j hj).2⟩⟩
  obtain ⟨ee1, ee2, -, -⟩ := eE_p B hp
  have h15 : gI (emitH C.2.2 (nI s) 0 (pushH L s C.2.2 f1)) 367 15 = nI (eE B n p) := by rw [r7 15 (by decide) (by decide), j2.2.2.1]; unfold enB; rw [if_pos hp]
  obtain ⟨f', b1, b2, b3⟩ := next_m h1 ee2 h15 ((r7 18 (by decide) (by decide)).trans j2.1.2)
  have ex : nb B n (eE B n p) = nx B n p := by unfold nx; rw [if_pos hp]
  rw [ex] at b2
  have tt := tk_n hp hst
  refine ⟨f', ?_, ⟨h1.ex b3, b2, tt.1, (b3.I rfl).trans ((r7 19 (by decide) (by decide)).trans j4), (b3.I rfl).trans ((r7 20 (by decide) (by decide)).trans j5), (b3.I rfl).trans rd_s, (b3.I rfl).trans ((r7 26 (by decide) (by decide)).trans j7), (b3.I rfl).trans ((r7 30 (by decide) (by decide)).trans j8), (b3.I rfl).trans (by unfold emitH; rw [rd_k (by decide), rd_a (by decide), rd_a (by decide)]; exact rd_s), pl.ex (fun i hi => ⟨(b3.I rfl).trans (pe 380 (by omega) i), (b3.I rfl).trans (pe 381 (by omega) i)⟩), by show L.length + 1 ≤ _; omega, by show C.2.2 + 1 + ((if s < 29 then 1 else 0) + wt L) ≤ _; rw [if_neg (by omega)]; omega⟩, ?_, ?_, (sSt_sPm a5).tr (u.tr (sNx_sPm b3))⟩
  · have fin : q_Mo_behindTest_23 (if s = 29 then 1 else 0) (nI s) f1 = some (0, f') := by
      unfold q_Mo_behindTest_23 q_Mo_behindTest_32
      have es : (if (if s = 29 then (1 : Int32) else 0) = 0 then (30 : Int32) else 29) = nI s := by
        rcases hs with rfl | rfl
        · rfl
        · rfl
      rw [j6, push_m j9 hl s C.2.2, bnd_s, es, emit_m e23 hc4, bnd_s, b1, bnd_s]
    unfold q_Mo_behindTest q_Mo_behindTest_10 q_Mo_behindTest_16
    rcases hs with rfl | rfl
    · have hq : tkF B n p = 3005 := hq
      have hlo : 2 = lo := hlo
      subst hlo
      rw [show q_Mo_isWord 1476 f = _ from word_p h (i := 4) (by omega), bnd_s, bI_t (by omega), if_neg (by decide), if_neg (by decide), if_neg (by decide), show (2 : Int32) = nI 2 from rfl, a1, bnd_s]
      exact fin
    · have hq : tkF B n p = 3004 := hq
      have hlo : 1 = lo := hlo
      subst hlo
      rw [show q_Mo_isWord 1476 f = _ from word_p h (i := 4) (by omega), bnd_s, bI_f (by omega), if_pos rfl, show q_Mo_isWord 498 f = _ from word_p h (i := 3) (by omega), bnd_s, bI_t (by omega), if_neg (by decide), if_pos rfl, if_pos rfl, show q_Mo_settle (1 : Int32) f = _ from a1, bnd_s]
      exact fin
  · rw [show gI f' 378 = gI (emitH C.2.2 (nI s) 0 (pushH L s C.2.2 f1)) 378 from funext (fun i => b3.I rfl)]
    unfold emitH pushH
    rw [gI_up0 _ _ _ (by decide), gI_up0 _ _ _ (by decide), gI_up, gI_up0 _ _ _ (by decide), gI_up0 _ _ _ (by decide), gI_up0 _ _ _ (by decide), a3]
  · rw [show gI f' 379 = gI (emitH C.2.2 (nI s) 0 (pushH L s C.2.2 f1)) 379 from funext (fun i => b3.I rfl)]
    unfold emitH pushH
    rw [gI_up0 _ _ _ (by decide), gI_up, gI_up0 _ _ _ (by decide), gI_up0 _ _ _ (by decide), gI_up0 _ _ _ (by decide), gI_up0 _ _ _ (by decide), a4]
theorem MOkT_jmp {s hi2 : Nat} {d1 d2 : Den} (hs : s = 29 ∨ s = 30) (hlo : bd s = lo) (m1 : MOkT B n lg lo lo p0 pa0 dp p pa d1) (hq : tkF B n p = jwS s) (c1 : cnt (stB B) p0 ≤ cnt (stB B) p) (hp : p < n ∧ stB B p = true) (m2 : MOkT B n lg hi2 (lo + 1) (nx B n p) pa dp p2 pa2 d2) (hh : lo < hi2) (c2 : cnt (stB B) (nx B n p) ≤ cnt (stB B) p2) : MOkT B n lg lo lo p0 pa0 dp p2 pa2 (jmpD (if s = 29 then 0 else 1) d1 d2) := by
  intro K L len f hf hc ht hib
  obtain ⟨s1, f1, pe1, l1, b1, e1, h1, u1, g1, x1, y1, z1⟩ := m1 K L len f hf hc ht hib
  obtain ⟨f2, e2, h2, o2, w2, u2⟩ := jmp_push h1 hs hlo hq g1 ht
  have kn := (tk_n hp.1 hp.2).2.1
  generalize hC1 : sfF pe1 (gI f1 378, gI f1 379, l1) = C1 at *
  obtain ⟨s3, f3, pe3, l3, b3, e3, h3, u3, g3, x3, y3, z3⟩ := m2 K ((s, C1.2.2) :: L) _ f2 h2 ((hc.un u1).un u2) (by show bd s < hi2; omega) (by show (if 31 ≤ s then s else ib L) ≠ 32; rw [if_neg (by omega)]; exact hib)
  generalize hC3 : sfF pe3 (gI f3 378, gI f3 379, l3) = C3 at *
  have eC : sfF (pe3 ++ [(s, C1.2.2)]) (gI f3 378, gI f3 379, l3) = (C3.1, upR C3.2.1 C1.2.2 (nI C3.2.2), C3.2.2) := by
    rw [sfF_app, hC3]
    show sf1 (s, C1.2.2) C3 = _
    unfold sf1
    rw [if_pos (show (s, C1.2.2).1 = 29 ∨ (s, C1.2.2).1 = 30 from hs)]
  refine ⟨s1 + 1 + s3, f3, pe3 ++ [(s, C1.2.2)], l3, by omega, fun F => ?_, ?_, (u1.tr u2).tr u3, fun x hx => ?_, ?_⟩
  · have a := e1 (F + s3 + 1)
    rw [show F + (s1 + 1 + s3) = F + s3 + 1 + s1 by omega]
    refine a.trans ?_
    have b := lp_s (v1 := 1) K (F + s3) h1.2.2.2.1 2 (by omega)
    rw [if_neg (by omega), if_neg (by omega), if_neg (by omega), e2, bnd_s] at b
    exact b.trans (e3 F)
  · rw [List.append_assoc]; exact h3
  · rcases List.mem_append.mp hx with hx | hx
    · have := g3 x hx; omega
    · rw [List.mem_singleton.mp hx]; show lo ≤ bd s; omega
  · rw [eC]
    have k1 : ∀ j, j < C1.2.2 → C3.1 j = C1.1 j ∧ C3.2.1 j = C1.2.1 j := fun j hj => by
      have := z3 j (by omega)
      rw [o2, w2] at this
      exact ⟨this.1.trans (upR_n _ _ (by omega)), this.2.trans (upR_n _ _ (by omega))⟩
    have k2 : C3.1 C1.2.2 = nI s := by
      have := (z3 C1.2.2 (by omega)).1
      rw [o2, upR_s] at this
      exact this
    refine ⟨by show len < C3.2.2; omega, ?_, fun j hj => ?_⟩
    · show FrM lg C3.1 (upR C3.2.1 C1.2.2 (nI C3.2.2)) len C3.2.2 (jmpD (if s = 29 then 0 else 1) d1 d2)
      exact frm_jmp (b := C1.2.2) (c := C3.2.2) (y1.ex (fun j a b => ⟨(k1 j b).1, (upR_n _ _ (by omega)).trans (k1 j b).2⟩)) (y3.ex (fun j a b => ⟨rfl, upR_n _ _ (by omega)⟩)) hs k2 (upR_s _ _ _)
    · have a := k1 j (by omega)
      have b := z1 j hj
      exact ⟨a.1.trans b.1, (upR_n _ _ (by omega)).trans (a.2.trans b.2)⟩
theorem MNoT_jmp {s hi2 : Nat} {d1 : Den} (hs : s = 29 ∨ s = 30) (hlo : bd s = lo) (m1 : MOkT B n lg lo lo p0 pa0 dp p pa d1) (hq : tkF B n p = jwS s) (c1 : cnt (stB B) p0 ≤ cnt (stB B) p) (hp : p < n ∧ stB B p = true) (m2 : MNoT B n lg hi2 (nx B n p) pa dp p2) (hh : lo < hi2) (c2 : cnt (stB B) (nx B n p) ≤ cnt (stB B) p2) : MNoT B n lg lo p0 pa0 dp p2 := by
  intro K L len f hf hc ht hib
  obtain ⟨s1, f1, pe1, l1, b1, e1, h1, u1, g1, x1, y1, z1⟩ := m1 K L len f hf hc ht hib
  obtain ⟨f2, e2, h2, o2, w2, u2⟩ := jmp_push h1 hs hlo hq g1 ht
  have kn := (tk_n hp.1 hp.2).2.1
  obtain ⟨s3, f3, b3, e3, h3, u3⟩ := m2 K _ _ f2 h2 ((hc.un u1).un u2) (by show bd s < hi2; omega) (by show (if 31 ≤ s then s else ib L) ≠ 32; rw [if_neg (by omega)]; exact hib)
  refine ⟨s1 + 1 + s3, f3, by omega, fun F => ?_, h3, (u1.tr u2).tr u3⟩
  have a := e1 (F + s3 + 1)
  rw [show F + (s1 + 1 + s3) = F + s3 + 1 + s1 by omega]
  refine a.trans ?_
  have b := lp_s (v1 := 1) K (F + s3) h1.2.2.2.1 2 (by omega)
  rw [if_neg (by omega), if_neg (by omega), if_neg (by omega), e2, bnd_s] at b
  exact b.trans (e3 F)
end TF
