/-! law: a clause, both -/
section CG
variable {B : Nat → Nat} {n t p sz pa i len : Nat} {f g : hG}
/-- stands 0, holds 1, else none -/
def hdW (tk : Nat) : Int32 := if tk = 3002 then 1 else if tk = 3001 then 0 else -1
theorem head_w (h : PQ B n p pa len f) (hc : CoR f) : q_Mo_readLaw f = q_Mo_readLaw_31 (hdW (tkF B n p)) (if hdW (tkF B n p) = (-1 : Int32) then (0 : Int32) else (if (12 : Int32) ≤ (gI f 367 21) then (0 : Int32) else (1 : Int32))) f := by
  have w0 : q_Mo_isWord (gJ f 384 0) f = some (bI (tkF B n p = 3001 + 0), f) := by rw [hc.2.2.1 0 (by omega)]; exact word_q h (by omega)
  have w1 : q_Mo_isWord (gJ f 384 1) f = some (bI (tkF B n p = 3001 + 1), f) := by rw [hc.2.2.1 1 (by omega)]; exact word_q h (by omega)
  have fin : ∀ v g, q_Mo_readLaw_4L (fun x6 g8 => q_Mo_readLaw_31 x6 (if x6 = (-1 : Int32) then (0 : Int32) else (if (12 : Int32) ≤ (gI g8 367 21) then (0 : Int32) else (1 : Int32))) g8) (999997 + 1) v 2 g = q_Mo_readLaw_31 v (if v = (-1 : Int32) then (0 : Int32) else (if (12 : Int32) ≤ (gI g 367 21) then (0 : Int32) else (1 : Int32))) g := fun v g => by
    rw [q_Mo_readLaw_4L_s]
    unfold q_Mo_readLaw_4
    rw [if_pos (by decide)]
  have st1 : ∀ v, q_Mo_readLaw_4L (fun x6 g8 => q_Mo_readLaw_31 x6 (if x6 = (-1 : Int32) then (0 : Int32) else (if (12 : Int32) ≤ (gI g8 367 21) then (0 : Int32) else (1 : Int32))) g8) (999998 + 1) v 1 f = if tkF B n p = 3002 then q_Mo_readLaw_31 1 (if (12 : Int32) ≤ (gI f 367 21) then (0 : Int32) else (1 : Int32)) f else q_Mo_readLaw_31 v (if v = (-1 : Int32) then (0 : Int32) else (if (12 : Int32) ≤ (gI f 367 21) then (0 : Int32) else (1 : Int32))) f := fun v => by
    rw [q_Mo_readLaw_4L_s]
    unfold q_Mo_readLaw_4
    rw [if_neg (by decide), gd_L _ _ (by decide) (by decide), cl_L _ (by decide), w1, bnd_s, show (1 : Int32) + 1 = 2 by decide]
    by_cases z : tkF B n p = 3002
    · rw [bI_t (by omega), if_neg (by decide), if_pos z]
      refine (fin 1 f).trans ?_
      rw [if_neg (show ¬ (1 : Int32) = -1 by decide)]
    · rw [bI_f (by omega), if_pos rfl, if_neg z]
      exact fin v f
  have st0 : q_Mo_readLaw f = if tkF B n p = 3001 then q_Mo_readLaw_4L (fun x6 g8 => q_Mo_readLaw_31 x6 (if x6 = (-1 : Int32) then (0 : Int32) else (if (12 : Int32) ≤ (gI g8 367 21) then (0 : Int32) else (1 : Int32))) g8) (999998 + 1) 0 1 f else q_Mo_readLaw_4L (fun x6 g8 => q_Mo_readLaw_31 x6 (if x6 = (-1 : Int32) then (0 : Int32) else (if (12 : Int32) ≤ (gI g8 367 21) then (0 : Int32) else (1 : Int32))) g8) (999998 + 1) (-1) 1 f := by
    unfold q_Mo_readLaw
    rw [show FU = 999999 + 1 from rfl, q_Mo_readLaw_4L_s]
    unfold q_Mo_readLaw_4
    rw [if_neg (by decide), gd_L _ _ (by decide) (by decide), cl_L _ (by decide), w0, bnd_s, show (0 : Int32) + 1 = 1 by decide]
    by_cases z : tkF B n p = 3001
    · rw [bI_t (by omega), if_neg (by decide), if_pos z]
    · rw [bI_f (by omega), if_pos rfl, if_neg z]
  rw [st0]
  unfold hdW
  by_cases z0 : tkF B n p = 3001
  · have z1 : ¬ tkF B n p = 3002 := by omega
    rw [if_pos z0, st1, if_neg z1, if_neg z1, if_pos z0]
  · rw [if_neg z0, st1]
    by_cases z1 : tkF B n p = 3002
    · rw [if_pos z1, if_pos z1, if_neg (show ¬ (1 : Int32) = -1 by decide)]
    · rw [if_neg z1, if_neg z1, if_neg z0]
theorem head_no (h : PQ B n p pa len f) (hc : CoR f) (hn : (tkF B n p ≠ 3001 ∧ tkF B n p ≠ 3002) ∨ gI f 367 21 = nI 12) : ∃ f', q_Mo_readLaw f = some ((), f') ∧ MFl p f' ∧ Un sLw f f' := by
  obtain ⟨f', m1, m2, m3⟩ := must_q0 h
  have e : (if hdW (tkF B n p) = (-1 : Int32) then (0 : Int32) else (if (12 : Int32) ≤ (gI f 367 21) then (0 : Int32) else (1 : Int32))) = 0 := by
    rcases hn with z | z
    · unfold hdW
      rw [if_neg z.2, if_neg z.1, if_pos rfl]
    · rw [z, if_pos (show (12 : Int32) ≤ nI 12 by decide)]
      split <;> rfl
  refine ⟨f', ?_, m2, sPm_sLw m3⟩
  rw [head_w h hc, e]
  unfold q_Mo_readLaw_31
  rw [m1, bnd_s, if_neg (by rw [m2.1]; decide)]
theorem zero_43 (K : hG → hO Unit) (hi : i < 12) (f : hG) : q_Mo_readLaw_43L (nI (8 * i)) K FU 0 f = K (sSeg f 377 (8 * i) 8 (fun _ => 0)) := by
  refine copy_loop (fun n g j => q_Mo_readLaw_43L (nI (8 * i)) K n (nI j) g) K 377 (8 * i) 8 _ f ?_ ?_ FU (by decide)
  · intro n j hj
    rw [q_Mo_readLaw_43L_s]
    unfold q_Mo_readLaw_43
    rw [if_neg (show ¬ (8 : Int32) ≤ nI j from nI_ge hj (by decide)), nI_add, gd_nI (by omega) (by omega), wr_e, nI_clamp (by omega), nI_1]
  · intro n
    rw [q_Mo_readLaw_43L_s]
    unfold q_Mo_readLaw_43
    rw [if_pos (by decide)]
theorem head_yes (h : PQ B n p pa len f) (hc : CoR f) (hi : i < 12) (h21 : gI f 367 21 = nI i) {v : Nat} (hv : (v = 0 ∧ tkF B n p = 3001) ∨ (v = 1 ∧ tkF B n p = 3002)) : ∃ f1, q_Mo_readLaw f = (if v = 1 then q_Mo_readLaw_80 (nI (8 * i)) f1 else bnd (q_Mo_readExpression 0 f1) fun _ g42 => q_Mo_readLaw_80 (nI (8 * i)) g42) ∧ PQ B n (nx B n p) pa len f1 ∧ Un sLw f f1 ∧ gI f1 367 21 = nI (i + 1) ∧ gI f1 377 (8 * i) = nI v ∧ gI f1 377 (8 * i + 3) = nI len ∧ (∀ k, k < 8 * i → gI f1 377 k = gI f 377 k) ∧ gI f1 378 = gI f 378 ∧ gI f1 379 = gI f 379 := by
  have hp := tk_lt h.2.2.1 (show tkF B n p ≠ 4000 by omega)
  obtain ⟨f1, a1, a2, a3⟩ := next_q h hp.1 hp.2
  have hw : hdW (tkF B n p) = nI v := by
    unfold hdW
    rcases hv with ⟨rfl, q⟩ | ⟨rfl, q⟩
    · rw [if_neg (by omega), if_pos q]; rfl
    · rw [if_pos q]; rfl
  have e1 : (if hdW (tkF B n p) = (-1 : Int32) then (0 : Int32) else (if (12 : Int32) ≤ (gI f 367 21) then (0 : Int32) else (1 : Int32))) = 1 := by
    rw [hw, if_neg (n_m1 (by omega)), h21, if_neg (show ¬ (12 : Int32) ≤ nI i from nI_ge (a := i) (b := 12) hi (by decide))]
  have i1 : gI f1 367 21 = nI i := (a3.I rfl).trans h21
  have e8 : (8 : Int32) * nI i = nI (8 * i) := by rw [show (8 : Int32) = nI 8 from rfl, pk_mul]
  have e83 : nI (8 * i) + (3 : Int32) = nI (8 * i + 3) := nI_add _ 3
  have pm2 : PQ B n (nx B n p) pa len (sI (sI (sI (sSeg f1 377 (8 * i) 8 (fun _ => 0)) 377 (8 * i) (nI v)) 367 21 (nI (i + 1))) 377 (8 * i + 3) (nI len)) := by
    obtain ⟨j1, j2, j3, j4, j5, j6, j7, j8⟩ := a2
    have r : ∀ a x, a ≠ 377 → ¬ (a = 367 ∧ x = 21) → gI (sI (sI (sI (sSeg f1 377 (8 * i) 8 (fun _ => 0)) 377 (8 * i) (nI v)) 367 21 (nI (i + 1))) 377 (8 * i + 3) (nI len)) a x = gI f1 a x := fun a x ha hb => by
      rw [rd_a ha, gI_sI, if_neg hb, rd_a ha, gI_sSeg, if_neg (fun q => ha q.1)]
    exact ⟨⟨j1.1, (r _ _ (by decide) (by omega)).trans j1.2.1, fun j hj => ⟨(r _ _ (by decide) (by omega)).trans (j1.2.2 j hj).1, (j1.2.2 j hj).2⟩⟩, j2.ex (fun x hx => r _ _ (by decide) (by omega)) rfl, j3, (r _ _ (by decide) (by omega)).trans j4, (r _ _ (by decide) (by omega)).trans j5, (r _ _ (by decide) (by omega)).trans j6, (r _ _ (by decide) (by omega)).trans j7, j8⟩
  refine ⟨_, ?_, pm2, (((((sPm_sLw (sNx_sPm a3)).seg (fun j _ => by rfl) _).sI rfl _).sI rfl _).sI rfl _), ?_, ?_, rd_s, fun k hk => ?_, ?_, ?_⟩
  · have e23 : gI (sI (sI (sSeg f1 377 (8 * i) 8 (fun _ => 0)) 377 (8 * i) (nI v)) 367 21 (nI (i + 1))) 367 23 = nI len := by
      rw [rd_k (by decide), rd_a (by decide), gI_sSeg, if_neg (by omega)]
      exact a2.2.2.2.2.2.1
    have e21 : gI (sI (sSeg f1 377 (8 * i) 8 (fun _ => 0)) 377 (8 * i) (nI v)) 367 21 = nI i := by
      rw [rd_a (by decide), gI_sSeg, if_neg (by omega)]
      exact i1
    rw [head_w h hc, e1]
    unfold q_Mo_readLaw_31
    rw [must_q1 h, a1, bnd_s, if_pos a2.2.2.2.1, i1, e8, zero_43 _ hi, gd_nI (by omega) (by omega), wr_e, nI_clamp (by omega), wr_e, hw, e21, nI_1, e83, gd_nI (by omega) (by omega), wr_e, nI_clamp (by omega), e23]
    rcases hv with ⟨rfl, q⟩ | ⟨rfl, q⟩
    · rw [if_neg (show ¬ nI 0 = 1 by decide), if_neg (by omega)]
    · rw [if_pos (show nI 1 = 1 from rfl), if_pos rfl]
  · rw [rd_a (by decide), rd_s]
  · rw [rd_k (by omega), rd_a (by decide), rd_s]
  · rw [rd_k (by omega), rd_a (by decide), rd_k (by omega), gI_sSeg, if_neg (by omega)]
    exact a3.I rfl
  · rw [gI_up0 _ _ _ (by decide), gI_up0 _ _ _ (by decide), gI_up0 _ _ _ (by decide)]
    funext x
    rw [gI_sSeg, if_neg (by omega)]
    exact a3.I rfl
  · rw [gI_up0 _ _ _ (by decide), gI_up0 _ _ _ (by decide), gI_up0 _ _ _ (by decide)]
    funext x
    rw [gI_sSeg, if_neg (by omega)]
    exact a3.I rfl
theorem mid_80 (h : PQ B n p pa len f) (hi : i < 12) : q_Mo_readLaw_80 (nI (8 * i)) f = mIf (nI (8 * i)) (sI (sI f 377 (8 * i + 4) (nI len)) 377 (8 * i + 5) (nI len)) := by
  have e4 : nI (8 * i) + (4 : Int32) = nI (8 * i + 4) := nI_add _ 4
  have e5 : nI (8 * i) + (5 : Int32) = nI (8 * i + 5) := nI_add _ 5
  have h23 : gI f 367 23 = nI len := h.2.2.2.2.2.1
  unfold q_Mo_readLaw_80 mIf
  rw [e4, e5, gd_nI (by omega) (by omega), wr_e, nI_clamp (by omega), h23, rd_a (by decide), h23, gd_nI (by omega) (by omega), wr_e, nI_clamp (by omega), rd_a (by decide), rd_a (by decide), if_pos h.2.2.2.1]
theorem bad_80 (h : gI f 367 19 = 1) (hi : i < 12) {q : Nat} (h2 : gI f 367 18 = nI q) (h3 : gI f 367 20 = 0) : ∃ f', q_Mo_readLaw_80 (nI (8 * i)) f = some ((), f') ∧ MFl q f' ∧ Un sLw f f' := by
  have e4 : nI (8 * i) + (4 : Int32) = nI (8 * i + 4) := nI_add _ 4
  have e5 : nI (8 * i) + (5 : Int32) = nI (8 * i + 5) := nI_add _ 5
  unfold q_Mo_readLaw_80
  rw [e4, e5, gd_nI (by omega) (by omega), wr_e, nI_clamp (by omega), gd_nI (by omega) (by omega), wr_e, nI_clamp (by omega), rd_a (by decide), rd_a (by decide), if_neg (by rw [h]; decide), e108 i hi]
  refine ⟨_, rfl, ⟨?_, ?_, ?_⟩, ((Un.rf.sI rfl _).sI rfl _).sI rfl _⟩
  · rw [rd_a (by decide), rd_a (by decide), rd_a (by decide)]; exact h
  · rw [rd_a (by decide), rd_a (by decide), rd_a (by decide)]; exact h2
  · rw [rd_a (by decide), rd_a (by decide), rd_a (by decide)]; exact h3
end CG
