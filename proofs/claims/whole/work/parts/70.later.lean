/-! later -/
theorem paper_back {f h2 : hG} (u : Un sHM (sSeg f 372 (52 * 16) 52 (fun i => gI f 369 (4 + i))) h2) (uj : ∀ y, gJ h2 369 y = gJ f 369 y ∧ gP h2 369 y = gP f 369 y) : Un sX f (sSeg h2 369 4 52 (fun i => gI h2 372 (52 * 16 + i))) := by
  intro x y z
  have z' := Bool.eq_false_iff.mp z
  simp only [sX, sC, sM, sMf, Ne, Bool.or_eq_true, Bool.and_eq_true, beq_iff_eq, Nat.ble_eq] at z'
  refine ⟨?_, ?_, ?_⟩
  · rw [gI_sSeg]
    by_cases q : x = 369 ∧ 4 ≤ y ∧ y < 4 + 52
    · rw [if_pos q, u.I (Bool.eq_false_iff.mpr (fun p => by simp only [sHM, sV, sT, Bool.or_eq_true, Bool.and_eq_true, beq_iff_eq, Nat.ble_eq] at p; omega)), gI_sSeg, if_pos (by omega), q.1, show 4 + (52 * 16 + (y - 4) - 52 * 16) = y by omega]
    · rw [if_neg q, u.I (Bool.eq_false_iff.mpr (fun p => by simp only [sHM, sV, sT, Bool.or_eq_true, Bool.and_eq_true, beq_iff_eq, Nat.ble_eq] at p; omega)), gI_sSeg, if_neg (by omega)]
  · rw [gJ_sSeg]
    by_cases q : x = 369
    · subst q
      exact (uj y).1
    · rw [u.J (Bool.eq_false_iff.mpr (fun p => by simp only [sHM, sV, sT, Bool.or_eq_true, Bool.and_eq_true, beq_iff_eq, Nat.ble_eq] at p; omega)), gJ_sSeg]
  · rw [gP_sSeg]
    by_cases q : x = 369
    · subst q
      exact (uj y).2
    · rw [u.P (Bool.eq_false_iff.mpr (fun p => by simp only [sHM, sV, sT, Bool.or_eq_true, Bool.and_eq_true, beq_iff_eq, Nat.ble_eq] at p; omega)), gP_sSeg]
theorem sH_sX {g g' : hG} (u : Un (sH 225) g g') : Un sX g g' := u.mo (fun a k z => Bool.eq_false_iff.mpr (fun y => by
  have z' := Bool.eq_false_iff.mp z
  simp only [sH, sW, sX, sC, Ne, Bool.or_eq_true, Bool.and_eq_true, beq_iff_eq, Nat.ble_eq] at y z'
  omega))
theorem sp_later {g : hG} (h : Inv g) (l n : Int32) : Sp (q_MP_later l n) (q_Mo_later l n) g := by
  have bad : ∀ (Y : isL8 l → ¬ ((0 : Int32) ≤ n ∧ n ≤ 60)), Sp (q_MP_later l n) (q_Mo_later l n) g := fun Y => by
    refine Sp.q (r := -1) (g1 := g) (g2 := sI g 367 0 0) ?_ ?_ (inv_0 h)
    · unfold q_MP_later
      by_cases z : isL8 l
      · rw [isLet_c, bnd_s, bI_t z, if_neg (by decide)]
        by_cases y : n < 0
        · rw [if_pos y]
        · rw [if_neg y, if_neg (fun q => Y z ⟨Int32.not_lt.mp y, q⟩)]
      · rw [isLet_c, bnd_s, bI_f z, if_pos rfl]
    · unfold q_Mo_later
      by_cases z : isL8 l
      · rw [wr_e, isLet_m, bnd_s, bI_t z, if_neg (by decide), in_e n 0 60 0 60 rfl rfl, bnd_s, bI_f (Y z), if_pos rfl]
      · rw [wr_e, isLet_m, bnd_s, bI_f z, if_pos rfl]
  by_cases hl : isL8 l
  · by_cases hn : (0 : Int32) ≤ n ∧ n ≤ 60
    · obtain ⟨k, hk, rfl⟩ := isL_n hl
      obtain ⟨m, hm, rfl⟩ := (nI_le_iff (n := 60) (by decide) n (Int32.not_lt.mpr hn.1)).mp hn.2
      obtain ⟨m1, m2, m3, m4, m5, m6, m7, m8⟩ := inv_m h
      obtain ⟨hh, hh9, eh⟩ := h.1.2.2.1
      obtain ⟨Lo, L1, L2⟩ := law_force h
      obtain ⟨gt, t1, t2, t3, t4⟩ := paper_c h L1 (n := m) (by omega)
      have rs : ∀ i, gI (sI gt 367 0 0) 369 i = gI g 369 i := fun i => by rw [rd_a (by decide), (sH_sX t4).I rfl]
      have rs2 : ∀ i, gI (sSeg (sI gt 367 0 0) 372 (52 * 16) 52 (fun i => gI (sI gt 367 0 0) 369 (4 + i))) 369 i = gI g 369 i := fun i => by rw [gI_sSeg, if_neg (by omega), rs]
      obtain ⟨h2, e1, e2, e3, e4⟩ := later_l (Lo := Lo) (D := gI g 369 3) m (by omega) (fun g18 => gd ((40 : Int32) + nI k) 5468 <| bnd (q_Mo_putBack (16 : Int32) g18) fun _ g20 => some ((gI g18 369 ((40 : Int32) + nI k).toNatClampNeg), g20)) m 0 FU hh (sSeg (sI gt 367 0 0) 372 (52 * 16) 52 (fun i => gI (sI gt 367 0 0) 369 (4 + i))) (fun i => gI g 369 (4 + i)) (by omega) (Nat.lt_of_le_of_lt hm (by decide)) (by omega) eh (m3.ex rs2) m2
        (L2.ex rs2 (by rw [gI_sSeg, if_neg (by omega), rd_k (by decide), (sH_sX t4).I rfl])) (rs2 3)
      have pb := paper_back (f := sI gt 367 0 0) e3 e4
      refine Sp.q (r := pN (gI g 369 3) Lo m (fun i => gI g 369 (4 + i)) (36 + k)) (g1 := gt) (g2 := sSeg h2 369 4 52 (fun i => gI h2 372 (52 * 16 + i))) ?_ ?_ (h.un (((sH_sX t4).tr (Un.rf.sI rfl _)).tr pb))
      · unfold q_MP_later
        rw [isLet_c, bnd_s, bI_t hl, if_neg (by decide), if_neg (Int32.not_lt.mpr hn.1), if_pos hn.2, t1, bnd_s, gd_nI hk (by omega), nI_clamp (by omega)]
        exact congrArg (fun x => some (x, gt)) (t2.2.2.2.1 k hk)
      · unfold q_Mo_later
        rw [wr_e, isLet_m, bnd_s, bI_t hl, if_neg (by decide), in_e (nI m) 0 60 0 60 rfl rfl, bnd_s, bI_t hn, if_neg (by decide), show (16 : Int32) = nI 16 from rfl, keepAll_e 16 (by decide), bnd_s]
        refine Eq.trans e1 ?_
        have e40 : (40 : Int32) + nI k = nI (40 + k) := nI_add 40 k
        show gd ((40 : Int32) + nI k) 5468 (bnd (q_Mo_putBack (16 : Int32) h2) fun _ g20 => some ((gI h2 369 ((40 : Int32) + nI k).toNatClampNeg), g20)) = _
        rw [e40, gd_nI (by omega) (by omega), show (16 : Int32) = nI 16 from rfl, putBack_e 16 (by decide), bnd_s, nI_clamp (by omega), show 40 + k = 4 + (36 + k) by omega, e2 (36 + k) (by omega)]
    · exact bad (fun _ => hn)
  · exact bad (fun z => absurd z hl)
