/-! orders: the head of a clause, the model -/
section CGo
variable {B : Nat → Nat} {n t p sz pa p' pa' i len v q : Nat} {f g : hG}
/-- spill 0, raise 1, split 2, pass 3, else none -/
def actW (tk : Nat) : Int32 := if tk = 3013 then nI 3 else if tk = 3011 then nI 2 else if tk = 3009 then nI 1 else if tk = 3007 then nI 0 else -1
def K31 (x6 : Int32) (g8 : hG) : hO Unit := q_Mo_readOrder_31 x6 (if x6 = (-1 : Int32) then (0 : Int32) else (if (12 : Int32) ≤ (gI g8 367 21) then (0 : Int32) else (1 : Int32))) g8
theorem act_s (h : PQo B n p pa len f) (hc : CoR f) (F : Nat) (v : Int32) {i : Nat} (hi : i < 4) : q_Mo_readOrder_4L K31 (F + 1) v (nI i) f = q_Mo_readOrder_4L K31 F (if tkF B n p = 3001 + (6 + 2 * i) then nI i else v) (nI (i + 1)) f := by
  rw [q_Mo_readOrder_4L_s]
  unfold q_Mo_readOrder_4
  rw [if_neg (show ¬ (4 : Int32) ≤ nI i from nI_ge (a := i) (b := 4) (by omega) (by decide)), gd_nI (by omega) (by omega), nI_clamp (by omega), hc.2.2.2.1 i hi, word_qo h (by omega), bnd_s, nI_1]
  by_cases z : tkF B n p = 3001 + (6 + 2 * i)
  · rw [bI_t z, if_neg (by decide), if_pos z]
  · rw [bI_f z, if_pos rfl, if_neg z]
theorem head_wo (h : PQo B n p pa len f) (hc : CoR f) : q_Mo_readOrder f = K31 (actW (tkF B n p)) f := by
  show q_Mo_readOrder_4L K31 FU (-1) (nI 0) f = _
  rw [show FU = 999995 + 1 + 1 + 1 + 1 + 1 from rfl, act_s h hc _ _ (i := 0) (by omega), act_s h hc _ _ (i := 1) (by omega), act_s h hc _ _ (i := 2) (by omega), act_s h hc _ _ (i := 3) (by omega), q_Mo_readOrder_4L_s]
  unfold q_Mo_readOrder_4
  rw [if_pos (show (4 : Int32) ≤ nI (3 + 1) by decide)]
  rfl
theorem head_noo (h : PQo B n p pa len f) (hc : CoR f) (hn : actW (tkF B n p) = -1 ∨ gI f 367 21 = nI 12) : ∃ f', q_Mo_readOrder f = some ((), f') ∧ MFo p f' ∧ Un sLo f f' := by
  obtain ⟨f', m1, m2, m3⟩ := must_qo0 h
  have e : (if actW (tkF B n p) = (-1 : Int32) then (0 : Int32) else (if (12 : Int32) ≤ (gI f 367 21) then (0 : Int32) else (1 : Int32))) = 0 := by
    by_cases z : actW (tkF B n p) = -1
    · exact if_pos z
    · rw [if_neg z]
      rcases hn with y | y
      · exact absurd y z
      · rw [y]; decide
  refine ⟨f', ?_, m2, sPm_sLo m3⟩
  rw [head_wo h hc]
  unfold K31
  rw [e]
  unfold q_Mo_readOrder_31
  rw [m1, bnd_s, if_neg (by rw [m2.1]; decide)]
theorem zero_49 (K : hG → hO Unit) (hi : i < 12) (f : hG) : q_Mo_readOrder_49L (nI (8 * i)) K FU 0 f = K (sSeg f 397 (8 * i) 8 (fun _ => 0)) := by
  refine copy_loop (fun n g j => q_Mo_readOrder_49L (nI (8 * i)) K n (nI j) g) K 397 (8 * i) 8 _ f ?_ ?_ FU (by decide)
  · intro n j hj
    rw [q_Mo_readOrder_49L_s]
    unfold q_Mo_readOrder_49
    rw [if_neg (show ¬ (8 : Int32) ≤ nI j from nI_ge hj (by decide)), nI_add, gd_nI (by omega) (by omega), wr_e, nI_clamp (by omega), nI_1]
  · intro n
    rw [q_Mo_readOrder_49L_s]
    unfold q_Mo_readOrder_49
    rw [if_pos (by decide)]
/-- both sums of a clause, the model -/
def mTwo (i v : Nat) (f : hG) : hO Unit := bnd (q_Mo_readSum (nI (8 * i) + 1) f) fun _ g52 => if (gI g52 367 19) = (0 : Int32) then (gd (nI v) 3 <| bnd (q_Mo_isWord (gJ g52 396 (nI v).toNatClampNeg) g52) fun r59 g57 => bnd (q_Mo_must r59 g57) fun _ g60 => q_Mo_readOrder_85 (nI (8 * i)) g60) else (q_Mo_readOrder_85 (nI (8 * i)) g52)
theorem head_yeso (h : PQo B n p pa len f) (hc : CoR f) (hi : i < 12) (h21 : gI f 367 21 = nI i) {v : Nat} (hv : v < 4) (ha : actW (tkF B n p) = nI v) : ∃ f1, q_Mo_readOrder f = (if v = 3 then q_Mo_readOrder_90 (nI (8 * i)) f1 else mTwo i v f1) ∧ PQo B n (nx B n p) pa len f1 ∧ Un sLo f f1 ∧ gI f1 367 21 = nI (i + 1) ∧ gI f1 397 (8 * i) = nI v ∧ (∀ k, 1 ≤ k → k < 8 → gI f1 397 (8 * i + k) = 0) ∧ (∀ k, k < 8 * i → gI f1 397 k = gI f 397 k) ∧ gI f1 378 = gI f 378 ∧ gI f1 379 = gI f 379 := by
  have nt : tkF B n p ≠ 4000 := fun q => by
    rw [q] at ha
    exact n_m1 (a := v) (by omega) (ha.symm.trans rfl)
  have hp := tk_lt h.2.2.1 nt
  obtain ⟨f1, a1, a2, a3⟩ := next_qo h hp.1 hp.2
  have e1 : (if actW (tkF B n p) = (-1 : Int32) then (0 : Int32) else (if (12 : Int32) ≤ (gI f 367 21) then (0 : Int32) else (1 : Int32))) = 1 := by
    rw [ha, if_neg (n_m1 (by omega)), h21, if_neg (show ¬ (12 : Int32) ≤ nI i from nI_ge (a := i) (b := 12) hi (by decide))]
  have i1 : gI f1 367 21 = nI i := (a3.I rfl).trans h21
  have e8 : (8 : Int32) * nI i = nI (8 * i) := by rw [show (8 : Int32) = nI 8 from rfl, pk_mul]
  have pm2 : PQo B n (nx B n p) pa len (sI (sSeg (sI f1 367 21 (nI (i + 1))) 397 (8 * i) 8 (fun _ => 0)) 397 (8 * i) (nI v)) := by
    obtain ⟨j1, j2, j3, j4, j5, j6, j7, j8⟩ := a2
    have r : ∀ a x, a ≠ 397 → ¬ (a = 367 ∧ x = 21) → gI (sI (sSeg (sI f1 367 21 (nI (i + 1))) 397 (8 * i) 8 (fun _ => 0)) 397 (8 * i) (nI v)) a x = gI f1 a x := fun a x ha hb => by
      rw [rd_a ha, gI_sSeg, if_neg (fun q => ha q.1), gI_sI, if_neg hb]
    exact ⟨⟨j1.1, (r _ _ (by decide) (by omega)).trans j1.2.1, fun j hj => ⟨(r _ _ (by decide) (by omega)).trans (j1.2.2 j hj).1, (j1.2.2 j hj).2⟩⟩, j2.ex (fun x hx => r _ _ (by decide) (by omega)) rfl, j3, (r _ _ (by decide) (by omega)).trans j4, (r _ _ (by decide) (by omega)).trans j5, (r _ _ (by decide) (by omega)).trans j6, (r _ _ (by decide) (by omega)).trans j7, j8⟩
  refine ⟨_, ?_, pm2, ((((sPm_sLo (sNx_sPm a3)).sI rfl _).seg (fun j _ => by rfl) _).sI rfl _), ?_, rd_s, fun k h1 h2 => ?_, fun k hk => ?_, ?_, ?_⟩
  · rw [head_wo h hc]
    unfold K31
    rw [e1, ha]
    unfold q_Mo_readOrder_31
    rw [must_qo1 h, a1, bnd_s, if_pos a2.2.2.2.1, wr_e, i1, e8, zero_49 _ hi, gd_nI (by omega) (by omega), wr_e, nI_clamp (by omega), nI_1]
    by_cases z : v = 3
    · rw [if_pos z, if_pos (show nI v = 3 by rw [z]; rfl)]
    · rw [if_neg z, if_neg (show ¬ nI v = (3 : Int32) from nI_dif (b := 3) z (by omega) (by omega))]
      rfl
  · rw [rd_a (by decide), gI_sSeg, if_neg (by omega), rd_s]
  · rw [rd_k (by omega), gI_sSeg, if_pos (by omega)]
  · rw [rd_k (by omega), gI_sSeg, if_neg (by omega), rd_a (by decide)]
    exact a3.I rfl
  · rw [gI_up0 _ _ _ (by decide)]
    funext x
    rw [gI_sSeg, if_neg (by omega), rd_a (by decide)]
    exact a3.I rfl
  · rw [gI_up0 _ _ _ (by decide)]
    funext x
    rw [gI_sSeg, if_neg (by omega), rd_a (by decide)]
    exact a3.I rfl
theorem MFo.w397 (h : MFo q f) (k : Nat) (v : Int32) : MFo q (sI f 397 k v) := ⟨(rd_a (by decide)).trans h.1, (rd_a (by decide)).trans h.2.1, (rd_a (by decide)).trans h.2.2⟩
theorem rsum_ok {k : Nat} {den : Den} (hm : MOk B n 1 0 1 3 5 p pa 0 p' pa' false den) (hq : noOp (tkF B n p')) (hi : i < 12) (hk : k < 7) (h : PQo B n p pa len f) (hc : CoR f) : ∃ len' f', q_Mo_readSum (nI (8 * i + k)) f = some ((), f') ∧ PQo B n p' pa' len' f' ∧ len < len' ∧ FrM 1 (gI f' 378) (gI f' 379) len len' den ∧ (∀ j, j < len → gI f' 378 j = gI f 378 j ∧ gI f' 379 j = gI f 379 j) ∧ Un sLo f f' ∧ gI f' 397 (8 * i + k) = nI len ∧ gI f' 397 (8 * i + k + 1) = nI len' ∧ (∀ j, j ≠ 8 * i + k → j ≠ 8 * i + k + 1 → gI f' 397 j = gI f 397 j) ∧ gI f' 367 21 = gI f 367 21 := by
  have h23 : gI f 367 23 = nI len := h.2.2.2.2.2.1
  obtain ⟨len', f1, a1, a2, a3, a4, a5, a6⟩ := rexp_so hm hq (h.w397 (8 * i + k) (nI len)) (hc.J (fun a k q => rfl))
  have g23 : gI f1 367 23 = nI len' := a2.2.2.2.2.2.1
  refine ⟨len', sI f1 397 (8 * i + k + 1) (nI len'), ?_, a2.w397 _ _, a3, ?_, fun j hj => ?_, ((((Un.rf : Un sLo f f).sI (by rfl) (nI len)).tr (sPm_sLo a6)).sI rfl _), ?_, rd_s, fun j j1 j2 => ?_, ?_⟩
  · unfold q_Mo_readSum q_Mo_readSum_12
    rw [gd_nI (by omega) (by omega), wr_e, nI_clamp (by omega), h23, rd_a (by decide), if_pos h.2.2.2.1, a1, bnd_s, nI_1, gd_nI (by omega) (by omega), wr_e, nI_clamp (by omega), g23]
  · rw [gI_up0 _ _ _ (by decide), gI_up0 _ _ _ (by decide)]; exact a4
  · rw [rd_a (by decide), rd_a (by decide)]
    have := a5 j hj
    rw [rd_a (by decide), rd_a (by decide)] at this
    exact this
  · rw [rd_k (by omega), a6.I rfl, rd_s]
  · rw [rd_k j2, a6.I rfl, rd_k j1]
  · rw [rd_a (by decide), a6.I rfl, rd_a (by decide)]
theorem rsum_no {k : Nat} (hm : MNo B n 1 0 1 5 p pa 0 q false) (hq : q ≤ n) (hi : i < 12) (hk : k < 7) (h : PQo B n p pa len f) (hc : CoR f) : ∃ f', q_Mo_readSum (nI (8 * i + k)) f = some ((), f') ∧ MFo q f' ∧ Un sLo f f' := by
  have h23 : gI f 367 23 = nI len := h.2.2.2.2.2.1
  obtain ⟨f1, a1, a2, a3, a4, a5⟩ := rexp_sno hm hq (h.w397 (8 * i + k) (nI len)) (hc.J (fun a k q => rfl))
  refine ⟨sI f1 397 (8 * i + k + 1) (gI f1 367 23), ?_, (show MFo q f1 from ⟨a2, a3, a4⟩).w397 _ _, ((((Un.rf : Un sLo f f).sI (by rfl) (nI len)).tr (sPm_sLo a5)).sI rfl _)⟩
  unfold q_Mo_readSum q_Mo_readSum_12
  rw [gd_nI (by omega) (by omega), wr_e, nI_clamp (by omega), h23, rd_a (by decide), if_pos h.2.2.2.1, a1, bnd_s, nI_1, gd_nI (by omega) (by omega), wr_e, nI_clamp (by omega)]
theorem rsum_bad {k : Nat} (hi : i < 12) (hk : k < 7) (h : MFo q f) : ∃ f', q_Mo_readSum (nI (8 * i + k)) f = some ((), f') ∧ MFo q f' ∧ Un sLo f f' := by
  refine ⟨sI (sI f 397 (8 * i + k) (gI f 367 23)) 397 (8 * i + k + 1) (gI (sI f 397 (8 * i + k) (gI f 367 23)) 367 23), ?_, (h.w397 _ _).w397 _ _, (Un.rf.sI rfl _).sI rfl _⟩
  unfold q_Mo_readSum q_Mo_readSum_12
  rw [gd_nI (by omega) (by omega), wr_e, nI_clamp (by omega), rd_a (by decide), if_neg (by rw [h.1]; decide), nI_1, gd_nI (by omega) (by omega), wr_e, nI_clamp (by omega), rd_a (by decide)]
theorem bad_85 (hi : i < 12) (h : MFo q f) : ∃ f', q_Mo_readOrder_85 (nI (8 * i)) f = q_Mo_readOrder_90 (nI (8 * i)) f' ∧ MFo q f' ∧ Un sLo f f' := by
  obtain ⟨f', a1, a2, a3⟩ := rsum_bad (k := 3) hi (by omega) h
  refine ⟨f', ?_, a2, a3⟩
  unfold q_Mo_readOrder_85
  rw [show nI (8 * i) + (3 : Int32) = nI (8 * i + 3) from nI_add _ 3, a1, bnd_s]
theorem bad_116 (hi : i < 12) (h : MFo q f) : ∃ f', q_Mo_readOrder_116 (nI (8 * i)) f = some ((), f') ∧ MFo q f' ∧ Un sLo f f' := by
  have e5 : nI (8 * i) + (5 : Int32) = nI (8 * i + 5) := nI_add _ 5
  refine ⟨sI (sI f 397 (8 * i + 5) (gI f 367 23)) 397 (8 * i + 6) (gI (sI f 397 (8 * i + 5) (gI f 367 23)) 367 23), ?_, (h.w397 _ _).w397 _ _, (Un.rf.sI rfl _).sI rfl _⟩
  unfold q_Mo_readOrder_116
  rw [e5, gd_nI (by omega) (by omega), wr_e, nI_clamp (by omega), rd_a (by decide), if_neg (by rw [h.1]; decide), e136 i hi, rd_a (by decide)]
theorem bad_90 (hi : i < 12) (h : MFo q f) : ∃ f', q_Mo_readOrder_90 (nI (8 * i)) f = some ((), f') ∧ MFo q f' ∧ Un sLo f f' := by
  have e7 : nI (8 * i) + (7 : Int32) = nI (8 * i + 7) := nI_add _ 7
  obtain ⟨f', a1, a2, a3⟩ := bad_116 hi (h.w397 (8 * i + 7) 1)
  refine ⟨f', ?_, a2, ((Un.rf : Un sLo f f).sI rfl _).tr a3⟩
  unfold q_Mo_readOrder_90
  rw [e7, gd_nI (by omega) (by omega), wr_e, nI_clamp (by omega), rd_a (by decide), if_neg (by rw [h.1]; decide), a1]
theorem mid_116 (h : PQo B n p pa len f) (hi : i < 12) : q_Mo_readOrder_116 (nI (8 * i)) f = mIfo (nI (8 * i)) (sI f 397 (8 * i + 5) (nI len)) := by
  have e5 : nI (8 * i) + (5 : Int32) = nI (8 * i + 5) := nI_add _ 5
  have h23 : gI f 367 23 = nI len := h.2.2.2.2.2.1
  unfold q_Mo_readOrder_116 mIfo
  rw [e5, gd_nI (by omega) (by omega), wr_e, nI_clamp (by omega), h23, rd_a (by decide), if_pos h.2.2.2.1]
end CGo
