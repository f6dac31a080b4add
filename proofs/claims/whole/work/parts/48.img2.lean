/-! image, back -/
theorem gJ_sSeg (g : hG) (a off n : Nat) (f : Nat → Int32) : gJ (sSeg g a off n f) = gJ g := rfl
theorem gP_sSeg (g : hG) (a off n : Nat) (f : Nat → Int32) : gP (sSeg g a off n f) = gP g := rfl
theorem isI_n {v : Int32} (h : 0 ≤ v ∧ v ≤ 1) : ∃ n, n < 2 ∧ v = nI n := by
  obtain ⟨n, h3, rfl⟩ := nI_of (lt_m1 v h.1)
  exact ⟨n, by have := h.2; rw [show (1 : Int32) = nI 1 from rfl, nI_leI h3 (by omega)] at this; omega, rfl⟩
theorem img_loop (m : Nat) (hm : m < 2) (K : hG → hO Int32) (g : hG) : q_Mo_image_15L (nI m) K FU 0 g = K (sSeg g 370 (5468 * m) 5468 (fun i => gI g 369 i)) := by
  refine copy_loop (fun n g i => q_Mo_image_15L (nI m) K n (nI i) g) K 370 (5468 * m) 5468 _ g ?_ ?_ FU (by decide)
  · intro n i hi
    rw [q_Mo_image_15L_s]
    unfold q_Mo_image_15
    rw [if_neg (show ¬ (5468 : Int32) ≤ nI i from nI_ge hi (by decide)), show (5468 : Int32) * nI m + nI i = nI (5468 * m + i) by rw [show (5468 : Int32) = nI 5468 from rfl, pk_mul, nI_add], gd_nI (by omega) (by omega), gd_nI (by omega) (by omega), wr_e, nI_clamp (by omega), nI_clamp (by omega), nI_1, gI_sSeg, if_neg (by omega)]
  · intro n
    rw [q_Mo_image_15L_s]
    unfold q_Mo_image_15
    rw [if_pos (by decide)]
theorem back_loop (m : Nat) (hm : m < 2) (K : hG → hO Int32) (g : hG) : q_Mo_back_24L (nI m) K FU 0 g = K (sSeg g 369 0 5468 (fun i => gI g 370 (5468 * m + i))) := by
  refine copy_loop (fun n g i => q_Mo_back_24L (nI m) K n (nI i) g) K 369 0 5468 _ g ?_ ?_ FU (by decide)
  · intro n i hi
    rw [q_Mo_back_24L_s]
    unfold q_Mo_back_24
    rw [if_neg (show ¬ (5468 : Int32) ≤ nI i from nI_ge hi (by decide)), show (5468 : Int32) * nI m + nI i = nI (5468 * m + i) by rw [show (5468 : Int32) = nI 5468 from rfl, pk_mul, nI_add], gd_nI (by omega) (by omega), gd_nI (by omega) (by omega), wr_e, nI_clamp (by omega), nI_clamp (by omega), nI_1, gI_sSeg, if_neg (by omega), Nat.zero_add]
  · intro n
    rw [q_Mo_back_24L_s]
    unfold q_Mo_back_24
    rw [if_pos (by decide)]
theorem te_0 (g : hG) : q_Mo_tell 0 g = some (0, sI g 367 1 0) := te_p (by decide) g
theorem sp_image {g : hG} (h : Inv g) (v : Int32) : Sp (q_MP_image v) (q_Mo_image v) g := by
  by_cases hv : 0 ≤ v ∧ v ≤ 1
  · obtain ⟨m, hm, rfl⟩ := isI_n hv
    obtain ⟨n, hn, l1, l2⟩ := laws_n h
    obtain ⟨ga, a1, a2, a3, a4, a5⟩ := keptcopy (265 + 51 * m) 1 g (by omega) n hn l1
    have q0 : ∀ x y, ¬ (265 + 51 * m ≤ x ∧ x ≤ 315 + 51 * m) → ¬ (x = 53 ∧ y = m) → ¬ (x = 263 ∧ y = 1) → ¬ (x = 367 ∧ y = 0) → gI (sI (sI (sI ga 53 m 1) 263 1 0) 367 0 0) x y = gI g x y := fun x y z1 z2 z3 z4 => by
      rw [gI_sI, if_neg z4, gI_sI, if_neg z3, gI_sI, if_neg z2, a2 _ _ (by omega)]
    have q1 : ∀ x y, ¬ (x = 53 ∧ y = m) → ¬ (x = 263 ∧ y = 1) → ¬ (x = 367 ∧ y = 0) → gI (sI (sI (sI ga 53 m 1) 263 1 0) 367 0 0) x y = gI ga x y := fun x y z2 z3 z4 => by
      rw [gI_sI, if_neg z4, gI_sI, if_neg z3, gI_sI, if_neg z2]
    generalize hx : sI (sI (sI ga 53 m 1) 263 1 0) 367 0 0 = gx at q0 q1
    have q : ∀ x y, ¬ (265 + 51 * m ≤ x ∧ x ≤ 315 + 51 * m) → ¬ (x = 53 ∧ y = m) → ¬ (x = 263 ∧ y = 1) → ¬ (x = 367 ∧ y = 0) → ¬ (x = 370 ∧ 5468 * m ≤ y ∧ y < 5468 * m + 5468) → ¬ (x = 371 ∧ y = m) → ¬ (x = 367 ∧ y = 1) → gI (sI (sI (sSeg gx 370 (5468 * m) 5468 (fun i => gI gx 369 i)) 371 m 1) 367 1 0) x y = gI g x y := fun x y z1 z2 z3 z4 z5 z6 z7 => by
      rw [gI_sI, if_neg z7, gI_sI, if_neg z6, gI_sSeg, if_neg (by omega), q0 x y z1 z2 z3 z4]
    have qx : ∀ x y, x < 367 → gI (sI (sI (sSeg gx 370 (5468 * m) 5468 (fun i => gI gx 369 i)) 371 m 1) 367 1 0) x y = gI gx x y := fun x y z => by
      rw [gI_sI, if_neg (by omega), gI_sI, if_neg (by omega), gI_sSeg, if_neg (by omega)]
    obtain ⟨h1, h2, h3, h4, h5, h6, h7⟩ := id h
    refine Sp.q (r := 0) (g1 := sI (sI ga 53 m 1) 263 1 0) (g2 := sI (sI (sSeg gx 370 (5468 * m) 5468 (fun i => gI gx 369 i)) 371 m 1) 367 1 0) ?_ ?_ ⟨KeptR.ag h1 (fun x y z => ?_), h2.ag (fun x y z => ?_), fun k hk => ?_, h4.ag (fun x y z => ?_), h5.yes ?_ rd_s (fun x y z z2 z3 => ?_), h6.ag (fun x y z => ?_), h7.ag (q _ _ (by omega) (by omega) (by omega) (by omega) (by omega) (by omega) (by omega)) (fun x y _ => ?_)⟩
    · unfold q_MP_image
      rw [isImg_c, bnd_s, bI_t hv, if_neg (by decide), gd_nI hm (by omega), nI_clamp (by omega), a1, bnd_s, gd_nI hm (by omega), wr_e, gr_e, bnd_s]
    · unfold q_Mo_image
      rw [wr_e, hx, in_e _ 0 1 0 1 rfl rfl, bnd_s, bI_t hv, if_neg (by decide), img_loop m hm, gd_nI hm (by omega), wr_e, nI_clamp (by omega), te_0, bnd_s]
    · simp only [suK, Bool.or_eq_true, Bool.and_eq_true, beq_iff_eq, Nat.ble_eq] at z
      exact q _ _ (by omega) (by omega) (by omega) (by omega) (by omega) (by omega) (by omega)
    · simp only [suP, Bool.or_eq_true, Bool.and_eq_true, beq_iff_eq, Nat.ble_eq] at z
      exact q _ _ (by omega) (by omega) (by omega) (by omega) (by omega) (by omega) (by omega)
    · by_cases z : k = m
      · subst z
        have row : ∀ i, i < 5468 → gI (sI (sI (sSeg gx 370 (5468 * k) 5468 (fun i => gI gx 369 i)) 371 k 1) 367 1 0) 370 (5468 * k + i) = gI g 369 i := fun i hi => by
          rw [gI_sI, if_neg (by omega), gI_sI, if_neg (by omega), gI_sSeg, if_pos (by omega), Nat.add_sub_cancel_left, q0 _ _ (by omega) (by omega) (by omega) (by omega)]
        have e1 : gI (sI (sI (sSeg gx 370 (5468 * k) 5468 (fun i => gI gx 369 i)) 371 k 1) 367 1 0) 371 k = 1 := by rw [rd_a (by decide), rd_s]
        refine ⟨?_, Or.inr e1, fun _ => ⟨(a3 _ h1.1).ex (fun j y hj => ?_) (fun i hi => row i hi), h1.2.ex (fun i hi => row i hi)⟩⟩
        · rw [e1, qx _ _ (by omega), ← hx, rd_a (by decide), rd_a (by decide), rd_s]
        · rw [qx _ _ (by omega), q1 _ _ (by omega) (by omega) (by omega)]
      · rw [q 53 k (by omega) (by omega) (by omega) (by omega) (by omega) (by omega) (by omega), q 371 k (by omega) (by omega) (by omega) (by omega) (by omega) (by omega) (by omega)]
        refine ⟨(h3 k hk).1, (h3 k hk).2.1, fun e => ⟨((h3 k hk).2.2 e).1.ex (fun j y hj => q _ _ (by omega) (by omega) (by omega) (by omega) (by omega) (by omega) (by omega)) (fun i hi => q _ _ (by omega) (by omega) (by omega) (by omega) (by omega) (by omega) (by omega)), ((h3 k hk).2.2 e).2.ex (fun i hi => q _ _ (by omega) (by omega) (by omega) (by omega) (by omega) (by omega) (by omega))⟩⟩
    · simp only [suT, Bool.or_eq_true, Bool.and_eq_true, beq_iff_eq, Nat.ble_eq] at z
      exact q _ _ (by omega) (by omega) (by omega) (by omega) (by omega) (by omega) (by omega)
    · rw [qx _ _ (by omega), ← hx, rd_a (by decide), rd_s]
    · simp only [suN, Bool.or_eq_true, Bool.and_eq_true, beq_iff_eq, Nat.ble_eq] at z
      exact q _ _ (by omega) (by omega) z2 (by omega) (by omega) (by omega) z3
    · simp only [suD, Bool.or_eq_true, Bool.and_eq_true, beq_iff_eq, Nat.ble_eq] at z
      exact q _ _ (by omega) (by omega) (by omega) (by omega) (by omega) (by omega) (by omega)
    · rw [gJ_sI, gJ_sI, gJ_sSeg, ← hx, gJ_sI, gJ_sI, gJ_sI, a4]
  · refine Sp.q (r := -1) (g1 := nC (-1) 1 g) (g2 := nM (-1) 1 (sI (nC (-1) 1 g) 367 0 0)) ?_ ?_ (h.no (-1) (by omega) (Un.rf.sI rfl _))
    · unfold q_MP_image
      rw [isImg_c, bnd_s, bI_f hv, if_pos rfl, rf_1, bnd_s]
    · unfold q_Mo_image
      rw [wr_e, in_e _ 0 1 0 1 rfl rfl, bnd_s, bI_f hv, if_pos rfl, te_1, bnd_s]
theorem las_0 (g : hG) : q_Mo_lasting 0 g = some (0, sI (sI g 367 8 0) 367 1 0) := by
  unfold q_Mo_lasting q_Mo_lasting_7
  rw [if_pos (by decide), wr_e, te_0, bnd_s]
theorem sp_back {g : hG} (h : Inv g) (v : Int32) : Sp (q_MP_back v) (q_Mo_back v) g := by
  by_cases hv : 0 ≤ v ∧ v ≤ 1
  · obtain ⟨m, hm, rfl⟩ := isI_n hv
    obtain ⟨i1, i2, i3⟩ := h.2.2.1 m hm
    rcases i2 with e | e
    · refine Sp.q (r := -2) (g1 := nC (-2) 2 g) (g2 := nM (-2) 2 (sI (nC (-2) 2 g) 367 0 0)) ?_ ?_ (h.no (-2) (by omega) (Un.rf.sI rfl _))
      · unfold q_MP_back
        rw [isImg_c, bnd_s, bI_t hv, if_neg (by decide), gd_nI hm (by omega), nI_clamp (by omega), i1, e, if_pos rfl, rf_2, bnd_s]
      · unfold q_Mo_back
        rw [wr_e, in_e _ 0 1 0 1 rfl rfl, bnd_s, bI_t hv, if_neg (by decide), gd_nI hm (by omega), nI_clamp (by omega), show gI (sI (nC (-2) 2 g) 367 0 0) 371 m = 0 by simp [nC, gI_sI, e], if_pos rfl, te_2, bnd_s]
    · obtain ⟨kp, wf⟩ := i3 e
      obtain ⟨p, hp, pl⟩ := place_n h
      have l1 := kp.2.1.2.2.2.2.1
      obtain ⟨-, -, -, -, -, -, n, hn, l2, -⟩ := id wf
      obtain ⟨ga, a1, a2, a3, a4, a5⟩ := keptcopy 1 (265 + 51 * m) g (by omega) n hn (l1.trans l2)
      have q0 : ∀ x y, ¬ (x = 54 ∧ y = 2) → ¬ (x = 263 ∧ y = 1) → ¬ (x = 367 ∧ y = 0) → gI (sI (sI (sI ga 54 2 0) 263 1 0) 367 0 0) x y = gI ga x y := fun x y z2 z3 z4 => by
        rw [gI_sI, if_neg z4, gI_sI, if_neg z3, gI_sI, if_neg z2]
      generalize hx : sI (sI (sI ga 54 2 0) 263 1 0) 367 0 0 = gx at q0
      have q : ∀ x y, ¬ (1 ≤ x ∧ x ≤ 51) → ¬ (x = 54 ∧ y = 2) → ¬ (x = 263 ∧ y = 1) → ¬ (x = 367 ∧ y = 0) → ¬ (x = 369) → ¬ (x = 367 ∧ y = 8) → ¬ (x = 367 ∧ y = 1) → gI (sI (sI (sSeg gx 369 0 5468 (fun i => gI gx 370 (5468 * m + i))) 367 8 0) 367 1 0) x y = gI g x y := fun x y z1 z2 z3 z4 z5 z6 z7 => by
        rw [gI_sI, if_neg z7, gI_sI, if_neg z6, gI_sSeg, if_neg (by omega), q0 x y z2 z3 z4, a2 _ _ (by omega)]
      have row : ∀ i, i < 5468 → gI (sI (sI (sSeg gx 369 0 5468 (fun i => gI gx 370 (5468 * m + i))) 367 8 0) 367 1 0) 369 i = gI g 370 (5468 * m + i) := fun i hi => by
        rw [gI_sI, if_neg (by omega), gI_sI, if_neg (by omega), gI_sSeg, if_pos (by omega), Nat.sub_zero, q0 _ _ (by omega) (by omega) (by omega), a2 _ _ (by omega)]
      refine Sp.q (r := 0) (g1 := sI (sI ga 54 2 0) 263 1 0) (g2 := sI (sI (sSeg gx 369 0 5468 (fun i => gI gx 370 (5468 * m + i))) 367 8 0) 367 1 0) ?_ ?_ (h.kp ⟨(a3 _ kp).ex (fun j y hj => ?_) row, wf.ex row⟩ (past_0 p hp ?_ ?_ ?_) (fun x y z1 z2 z3 z4 z5 => ?_) ?_ (fun x y _ => ?_))
      · unfold q_MP_back
        rw [isImg_c, bnd_s, bI_t hv, if_neg (by decide), gd_nI hm (by omega), nI_clamp (by omega), i1, e, if_neg (by decide), gd_nI hm (by omega), a1, bnd_s]
        rfl
      · unfold q_Mo_back
        rw [wr_e, hx, in_e _ 0 1 0 1 rfl rfl, bnd_s, bI_t hv, if_neg (by decide), gd_nI hm (by omega), nI_clamp (by omega), q0 _ _ (by omega) (by omega) (by omega), a2 _ _ (by omega), e, if_neg (by decide), back_loop m hm, las_0, bnd_s]
      · rw [gI_sI, if_neg (by omega), gI_sI, if_neg (by omega), gI_sSeg, if_neg (by omega), q0 _ _ (by omega) (by omega) (by omega)]
      · rw [gI_sI, if_neg (by omega), gI_sI, if_neg (by omega), gI_sSeg, if_neg (by omega), ← hx, rd_a (by decide), rd_a (by decide), rd_s]
      · rw [rd_k (by decide), rd_s]
      · rw [q _ _ (by omega) (by omega) (by omega) (by omega) (by omega) (by omega) (by omega), pl]
      · have y1 := Bool.eq_false_iff.mp z1
        have y2 := Bool.eq_false_iff.mp z2
        have y3 : ¬ (x = 367 ∧ y = 0) := by rintro ⟨rfl, rfl⟩; cases z3
        simp only [suK, suP, Ne, Bool.or_eq_true, Bool.and_eq_true, beq_iff_eq, Nat.ble_eq] at y1 y2
        exact q _ _ (by omega) (by omega) z4 y3 (by omega) (by omega) z5
      · rw [rd_s, rd_a (by decide), rd_a (by decide), gI_sSeg, if_neg (by omega), ← hx, rd_a (by decide), rd_s]
      · rw [gJ_sI, gJ_sI, gJ_sSeg, ← hx, gJ_sI, gJ_sI, gJ_sI, a4]
  · refine Sp.q (r := -1) (g1 := nC (-1) 1 g) (g2 := nM (-1) 1 (sI (nC (-1) 1 g) 367 0 0)) ?_ ?_ (h.no (-1) (by omega) (Un.rf.sI rfl _))
    · unfold q_MP_back
      rw [isImg_c, bnd_s, bI_f hv, if_pos rfl, rf_1, bnd_s]
    · unfold q_Mo_back
      rw [wr_e, in_e _ 0 1 0 1 rfl rfl, bnd_s, bI_f hv, if_pos rfl, te_1, bnd_s]
