/-! texts: a whole expression, the model -/
section RX
variable {B : Nat → Nat} {n p pa dp len p' pa' q : Nat} {L : Pi} {f : hG} {den : Den}
/-- the model's reader between expressions -/
def PQ (B : Nat → Nat) (n p pa len : Nat) (f : hG) : Prop := TBM B n f ∧ MS B n p f ∧ Tk B n p ∧ gI f 367 19 = 0 ∧ gI f 367 20 = 0 ∧ gI f 367 23 = nI len ∧ gI f 367 26 = nI pa ∧ len ≤ cnt (stB B) p
theorem PM.toQ (h : PM B n 0 p pa dp L len f) : PQ B n p pa len f := by
  obtain ⟨j1, j2, j3, j4, j5, j6, j7, j8, j9, j10, j11, j12⟩ := h
  exact ⟨j1, j2, j3, j4, j5, j6, j7, by omega⟩
theorem next_q (h : PQ B n p pa len f) (hp : p < n) (hs : stB B p = true) : ∃ f', q_Mo_next f = some ((), f') ∧ PQ B n (nx B n p) pa len f' ∧ Un sNx f f' := by
  obtain ⟨h1, h2, h3, h4, h5, h6, h7, h8⟩ := h
  obtain ⟨k1, k2, k3, k4⟩ := tk_n hp hs
  obtain ⟨e1, e2, -, -⟩ := eE_p B hp
  have h15 : gI f 367 15 = nI (eE B n p) := by rw [h2.2.2.1]; unfold enB; rw [if_pos hp]
  obtain ⟨f', a1, a2, a3⟩ := next_m h1 e2 h15 h2.1.2
  have ex : nb B n (eE B n p) = nx B n p := by unfold nx; rw [if_pos hp]
  rw [ex] at a2
  exact ⟨f', a1, ⟨h1.ex a3, a2, k1, (a3.I rfl).trans h4, (a3.I rfl).trans h5, (a3.I rfl).trans h6, (a3.I rfl).trans h7, by omega⟩, a3⟩
theorem must_q1 (h : PQ B n p pa len f) : q_Mo_must 1 f = q_Mo_next f := by
  unfold q_Mo_must q_Mo_must_12
  rw [if_pos h.2.2.2.1, if_neg (by decide), if_pos h.2.2.2.1]
  cases q : q_Mo_next f with
  | none => rfl
  | some x => rfl
def MFl (q : Nat) (f : hG) : Prop := gI f 367 19 = 1 ∧ gI f 367 18 = nI q ∧ gI f 367 20 = 0
theorem must_q0 (h : PQ B n p pa len f) : ∃ f', q_Mo_must 0 f = some ((), f') ∧ MFl p f' ∧ Un sPm f f' := by
  obtain ⟨h1, h2, h3, h4, h5, h6, h7, h8⟩ := h
  unfold q_Mo_must q_Mo_must_12
  rw [if_pos h4, if_pos rfl, wr_e, wr_e, rd_k (show ¬ (19 : Nat) = 18 by decide), rd_s, if_neg (by decide), rd_k (show ¬ (14 : Nat) = 19 by decide), h2.2.1]
  exact ⟨_, rfl, ⟨by rw [rd_k (by decide), rd_s], rd_s, by rw [rd_k (by decide), rd_k (by decide)]; exact h5⟩, (Un.rf.sI rfl _).sI rfl _⟩
theorem sign_q (h : PQ B n p pa len f) {s : Nat} (hs : s < 256) : q_Mo_isSign (nI s) f = some (bI (tkF B n p = 2000 + s), f) := sign_m h.1 h.2.1 hs
theorem word_q (h : PQ B n p pa len f) {i : Nat} (hi : i < 25) : q_Mo_isWord (hw i) f = some (bI (tkF B n p = 3001 + i), f) := word_m h.1 h.2.1 hi
theorem reset_p (h : PQ B n p pa len f) : PM B n 0 p pa 0 [] len (sI (sI f 367 29 0) 367 30 0) ∧ Un sPm f (sI (sI f 367 29 0) 367 30 0) ∧ gI (sI (sI f 367 29 0) 367 30 0) 378 = gI f 378 ∧ gI (sI (sI f 367 29 0) 367 30 0) 379 = gI f 379 := by
  obtain ⟨j1, j2, j3, j4, j5, j6, j7, j8⟩ := h
  have u : Un sPm f (sI (sI f 367 29 0) 367 30 0) := (Un.rf.sI rfl _).sI rfl _
  have r7 : ∀ k, k ≠ 29 → k ≠ 30 → gI (sI (sI f 367 29 0) 367 30 0) 367 k = gI f 367 k := fun k h1 h2 => by rw [rd_k h2, rd_k h1]
  refine ⟨⟨⟨j1.1, (r7 13 (by decide) (by decide)).trans j1.2.1, fun j hj => ⟨(u.I rfl).trans (j1.2.2 j hj).1, (j1.2.2 j hj).2⟩⟩, j2.ex (fun k hk => r7 k (by omega) (by omega)) rfl, j3, (r7 19 (by decide) (by decide)).trans j4, (r7 20 (by decide) (by decide)).trans j5, (r7 23 (by decide) (by decide)).trans j6, (r7 26 (by decide) (by decide)).trans j7, rd_s, (rd_k (by decide)).trans rd_s, trivial, Nat.zero_le _, ?_⟩, u, ?_, ?_⟩
  · show len + 0 ≤ _
    omega
  · rw [gI_up0 _ _ _ (by decide), gI_up0 _ _ _ (by decide)]
  · rw [gI_up0 _ _ _ (by decide), gI_up0 _ _ _ (by decide)]
/-- all is settled -/
theorem settle_all {pend : Pi} (h : PM B n 0 p pa dp (pend ++ []) len f) (hb : ∀ x, x ∈ pend → 1 ≤ bd x.1) : ∃ f', q_Mo_readExpression_40 f = some ((), f') ∧ PM B n 0 p pa dp [] (sfF pend (gI f 378, gI f 379, len)).2.2 f' ∧ gI f' 378 = (sfF pend (gI f 378, gI f 379, len)).1 ∧ gI f' 379 = (sfF pend (gI f 378, gI f 379, len)).2.1 ∧ Un sPm f f' := by
  obtain ⟨f', e1, e2, e3, e4, e5⟩ := settle_p h (lo := 1) (by omega) (by omega) hb (by show 0 < 1; omega)
  refine ⟨f', ?_, e2, e3, e4, sSt_sPm e5⟩
  unfold q_Mo_readExpression_40
  rw [show q_Mo_settle (1 : Int32) f = _ from e1, bnd_s]
theorem settle_bad (h : PF 0 q f) : ∃ f', q_Mo_readExpression_40 f = some ((), f') ∧ gI f' 367 19 = 1 ∧ gI f' 367 18 = nI q ∧ gI f' 367 20 = 0 ∧ Un sPm f f' := by
  obtain ⟨f', e1, e2, e3, e4, e5⟩ := settle_f h
  refine ⟨f', ?_, e2, e3, e4, sSt_sPm e5⟩
  unfold q_Mo_readExpression_40
  rw [e1, bnd_s]
theorem ib_0 (pend : Pi) (h : ∀ x, x ∈ pend → 1 ≤ bd x.1) : ib (pend ++ []) = 0 := ib_pe [] pend h
theorem fu_s {s : Nat} (h : s ≤ 5000) : ∃ F, FU = F + 1 + 1 + s := ⟨1000000 - 2 - s, by have e : FU = 1000000 := rfl; omega⟩
theorem cnt_400 (h : TBM B n f) (p : Nat) (hp : p ≤ n) : cnt (stB B) p ≤ 400 := by
  have := cnt_m (stB B) p
  have := h.1
  omega
/-- a sum -/
theorem rexp_s (hm : MOk B n 0 0 1 3 5 p pa 0 p' pa' false den) (hq : noOp (tkF B n p')) (h : PQ B n p pa len f) (hc : CoR f) : ∃ len' f', q_Mo_readExpression 0 f = some ((), f') ∧ PQ B n p' pa' len' f' ∧ len < len' ∧ FrM 0 (gI f' 378) (gI f' 379) len len' den ∧ (∀ j, j < len → gI f' 378 j = gI f 378 j ∧ gI f' 379 j = gI f 379 j) ∧ Un sPm f f' := by
  obtain ⟨h0, u0, o0, w0⟩ := reset_p h
  obtain ⟨s, f1, pe, l1, b1, e1, h1, u1, g1, x1, y1, z1⟩ := hm (fun g24 => q_Mo_readExpression_40 g24) [] len _ h0 (hc.un u0) (by show 0 < 5; omega) (fun q => (by cases q))
  have c4 := h1.c4
  obtain ⟨f2, a1, a2, a3, a4, a5⟩ := settle_all h1 (fun x hx => by have := (g1 x hx).1; omega)
  rw [o0, w0] at z1
  refine ⟨_, f2, ?_, a2.toQ, x1, ?_, ?_, (u0.tr u1).tr a5⟩
  · unfold q_Mo_readExpression q_Mo_readExpression_11
    rw [wr_e, wr_e, if_pos rfl]
    obtain ⟨F, hF⟩ := fu_s (s := s) (by omega)
    rw [hF]
    refine (e1 (F + 1 + 1)).trans ?_
    have b := lp_s (v1 := 0) (fun g24 => q_Mo_readExpression_40 g24) (F + 1) h1.2.2.2.1 3 (by omega)
    refine b.trans ?_
    rw [if_neg (by omega), if_neg (by omega), if_pos rfl, bs_no h1 hq]
    unfold q_Mo_behindSum_31
    rw [if_pos rfl, inner_m h1.2.2.2.2.2.2.2.2.2.1 h1.2.2.2.2.2.2.2.2.1 h1.ln, bnd_s, ib_0 pe (fun x hx => by have := (g1 x hx).1; omega), if_pos (show (0 : Nat) = 0 from rfl), if_neg (show ¬ (-1 : Int32) = 32 by decide), if_pos rfl, if_pos (show nI 0 = 0 from rfl), bnd_s, q_Mo_readExpression_12L_s]
    unfold q_Mo_readExpression_12
    rw [if_pos h1.2.2.2.1, if_pos rfl]
    exact a1
  · rw [a3, a4]; exact y1
  · rw [a3, a4]; exact z1
theorem rexp_sn (hm : MNo B n 0 0 1 5 p pa 0 q false) (hq : q ≤ n) (h : PQ B n p pa len f) (hc : CoR f) : ∃ f', q_Mo_readExpression 0 f = some ((), f') ∧ gI f' 367 19 = 1 ∧ gI f' 367 18 = nI q ∧ gI f' 367 20 = 0 ∧ Un sPm f f' := by
  obtain ⟨h0, u0, o0, w0⟩ := reset_p h
  obtain ⟨s, f1, b1, e1, h1, u1⟩ := hm (fun g24 => q_Mo_readExpression_40 g24) [] len _ h0 (hc.un u0) (by show 0 < 5; omega) (fun q => (by cases q))
  have c4 := cnt_400 h.1 q hq
  obtain ⟨f2, a1, a2, a3, a4, a5⟩ := settle_bad h1
  refine ⟨f2, ?_, a2, a3, a4, (u0.tr u1).tr a5⟩
  unfold q_Mo_readExpression q_Mo_readExpression_11
  rw [wr_e, wr_e, if_pos rfl]
  obtain ⟨F, hF⟩ := fu_s (s := s) (by omega)
  rw [hF]
  exact (e1 (F + 1 + 1)).trans a1
/-- a test -/
theorem rexp_t (hm : MOkT B n 0 1 1 p pa 0 p' pa' den) (hq : noAO (tkF B n p')) (h : PQ B n p pa len f) (hc : CoR f) : ∃ len' f', q_Mo_readExpression 1 f = some ((), f') ∧ PQ B n p' pa' len' f' ∧ len < len' ∧ FrM 0 (gI f' 378) (gI f' 379) len len' den ∧ (∀ j, j < len → gI f' 378 j = gI f 378 j ∧ gI f' 379 j = gI f 379 j) ∧ Un sPm f f' := by
  obtain ⟨h0, u0, o0, w0⟩ := reset_p h
  obtain ⟨s, f1, pe, l1, b1, e1, h1, u1, g1, x1, y1, z1⟩ := hm (fun g24 => q_Mo_readExpression_40 g24) [] len _ h0 (hc.un u0) (by show 0 < 1; omega) (by decide)
  have c4 := h1.c4
  obtain ⟨f2, a1, a2, a3, a4, a5⟩ := settle_all h1 g1
  rw [o0, w0] at z1
  refine ⟨_, f2, ?_, a2.toQ, x1, ?_, ?_, (u0.tr u1).tr a5⟩
  · unfold q_Mo_readExpression q_Mo_readExpression_11
    rw [wr_e, wr_e, if_neg (by decide)]
    obtain ⟨F, hF⟩ := fu_s (s := s) (by omega)
    rw [hF]
    refine (e1 (F + 1 + 1)).trans ?_
    have b := lp_s (v1 := 1) (fun g24 => q_Mo_readExpression_40 g24) (F + 1) h1.2.2.2.1 2 (by omega)
    refine Eq.trans b ?_
    rw [if_neg (by omega), if_neg (by omega), if_neg (by omega), bt_no h1 hq, inner_m h1.2.2.2.2.2.2.2.2.2.1 h1.2.2.2.2.2.2.2.2.1 h1.ln, bnd_s, ib_0 pe g1, if_pos (show (0 : Nat) = 0 from rfl), if_pos rfl, bnd_s, q_Mo_readExpression_12L_s]
    unfold q_Mo_readExpression_12
    rw [if_pos h1.2.2.2.1, if_pos rfl]
    exact a1
  · rw [a3, a4]; exact y1
  · rw [a3, a4]; exact z1
theorem rexp_tn (hm : MNoT B n 0 1 p pa 0 q) (hq : q ≤ n) (h : PQ B n p pa len f) (hc : CoR f) : ∃ f', q_Mo_readExpression 1 f = some ((), f') ∧ gI f' 367 19 = 1 ∧ gI f' 367 18 = nI q ∧ gI f' 367 20 = 0 ∧ Un sPm f f' := by
  obtain ⟨h0, u0, o0, w0⟩ := reset_p h
  obtain ⟨s, f1, b1, e1, h1, u1⟩ := hm (fun g24 => q_Mo_readExpression_40 g24) [] len _ h0 (hc.un u0) (by show 0 < 1; omega) (by decide)
  have c4 := cnt_400 h.1 q hq
  obtain ⟨f2, a1, a2, a3, a4, a5⟩ := settle_bad h1
  refine ⟨f2, ?_, a2, a3, a4, (u0.tr u1).tr a5⟩
  unfold q_Mo_readExpression q_Mo_readExpression_11
  rw [wr_e, wr_e, if_neg (by decide)]
  obtain ⟨F, hF⟩ := fu_s (s := s) (by omega)
  rw [hF]
  exact (e1 (F + 1 + 1)).trans a1
end RX
