/-! pass -/
theorem law_force {g : hG} (h : Inv g) : ∃ Lo, LE g (gI g 1 9) Lo ∧ LEM g Lo := by
  obtain ⟨m1, m2, m3, m4, m5, m6, m7, m8⟩ := inv_m h
  obtain ⟨Lo, hl, hl2⟩ := law_both h (gI g 369 2) (force_ok h)
  exact ⟨Lo, by rw [m8]; exact hl, ⟨m6, inv_bk h⟩, hl2⟩
theorem sp_pass {g : hG} (h : Inv g) : Sp q_MP_pass q_Mo_pass g := by
  obtain ⟨m1, m2, m3, m4, m5, m6, m7, m8⟩ := inv_m h
  obtain ⟨hh, hh9, eh⟩ := h.1.2.2.1
  by_cases z : hh = 999
  · subst z
    have hr : rfF (fun i => gI g 369 (4 + i)) 3 0 0 = -3 := by rw [rfF_3, if_pos]; rw [Nat.add_zero, eh]; decide
    refine Sp.q (r := -3) (g1 := nC (-3) 3 g) (g2 := nM (-3) 3 (sI (nC (-3) 3 g) 367 0 0)) ?_ ?_ (h.no (-3) (by omega) (Un.rf.sI rfl _))
    · have := att_no m1 3 (by omega) 0 0 (by rw [hr]; decide)
      unfold q_MP_pass
      rw [show q_MP_attempt 3 0 0 g = _ from this, bnd_s, hr, st_3, bnd_s]
    · unfold q_Mo_pass q_Mo_passNow
      rw [wr_e, gd_L _ _ (by decide) (by decide), cl_L _ (by decide), show gI (sI (nC (-3) 3 g) 367 0 0) 369 4 = nI 999 by simp [nC, gI_sI, eh], if_pos (by decide), bnd_s, te_3, bnd_s]
  · obtain ⟨p, n, hp, hn, p3, p2, n8⟩ := past_n h.2.1
    obtain ⟨Lo, hl, hM⟩ := law_force h
    have hr : rfF (fun i => gI g 369 (4 + i)) 3 0 0 = 0 := by rw [rfF_3, if_neg]; rw [Nat.add_zero, eh]; exact nI_ge (a := hh) (b := 999) (by omega) (by decide)
    obtain ⟨ga, a1, a2, a3, a4, a5⟩ := keep_e 3 g p n p3 p2 hp hn
    have mA : MomR ga 2 (fun i => gI g 369 (4 + i)) := m1.ex (fun j k hj => a2 _ _ (by omega)) (fun _ _ _ _ => rfl)
    obtain ⟨gb, b1, b2, b3⟩ := passHour_c (Lo := Lo) rfl mA m2 (by rw [a2 _ _ (by omega)]; exact m4) (by rw [a2 _ _ (by omega)]; exact m5) (by rw [a2 _ _ (by omega)]; exact hl.ex (fun x k hx => a2 _ _ (by omega)))
    have dA : gI ga 1 1 = gI g 369 3 := (a2 _ _ (by omega)).trans m7
    rw [dA] at b1 b2
    generalize hN : nextF (gI g 369 3) (SV Lo (fun i => gI g 369 (4 + i)) (hiR (fun i => gI g 369 (4 + i)))) (HV Lo (fun i => gI g 369 (4 + i)) (hiR (fun i => gI g 369 (4 + i)))) = N at b1 b2
    have hNin : ∀ c, c < 25 → ∃ d, d < 25 ∧ N c = nI d := fun c hc => by rw [← hN]; exact nextF_in _ _ _ hc
    obtain ⟨w1, w2, w3, w4, w5, k, hk, ek⟩ := ps_wf (D := gI g 369 3) (N := N) m2 hNin (n := hh) eh (by omega)
    have uB : ∀ x y, sW x y = false → ¬ (2 ≤ x ∧ x ≤ 6) → ¬ (54 ≤ x ∧ x ≤ 136) → gI gb x y = gI g x y := fun x y z1 z2 z3 => by
      rw [b3.I (by unfold sH; rw [z1, Bool.false_or]; exact Bool.eq_false_iff.mpr (fun y => by simp only [Bool.and_eq_true, Nat.ble_eq] at y; omega)), a2 _ _ z3]
    have q0 : ∀ y, gI (sI (sI gb 263 1 0) 367 0 0) 369 y = gI g 369 y := fun y => by rw [rd_a (by decide), rd_a (by decide), uB _ _ rfl (by omega) (by omega)]
    have M0 : MomM (sI (sI gb 263 1 0) 367 0 0) (fun i => gI g 369 (4 + i)) := m3.ex q0
    have L0 : LEM (sI (sI gb 263 1 0) 367 0 0) Lo := hM.ex q0 (by rw [rd_k (by decide), rd_a (by decide), uB _ _ rfl (by omega) (by omega)])
    obtain ⟨h1, c1, c2, c3, c4, c5, c6⟩ := rem_e 3 (sI (sI gb 263 1 0) 367 0 0) n (by rw [rd_k (by decide), rd_a (by decide), uB _ _ rfl (by omega) (by omega), n8]) hn
    have M1 : MomM h1 (fun i => gI g 369 (4 + i)) := M0.ex (fun i => c2 _ _ (by omega) (by omega) (by omega))
    have L1 : LEM h1 Lo := L0.ex (fun i => c2 _ _ (by omega) (by omega) (by omega)) (c2 _ _ (by omega) (by omega) (by omega))
    obtain ⟨h2, d1, d2, d3⟩ := passIt_m M1 m2 L1
    rw [show gI h1 369 3 = gI g 369 3 from (c2 _ _ (by omega) (by omega) (by omega)).trans (q0 3), hN] at d1 d2
    have cl : ∀ x y, x < 367 → ¬ x = 263 → gI (sI h2 367 1 0) x y = gI gb x y := fun x y z1 z2 => by
      rw [rd_a (by omega), d3.I (Bool.eq_false_iff.mpr (fun q => by simp only [sHM, sV, sT, Bool.or_eq_true, Bool.and_eq_true, beq_iff_eq, Nat.ble_eq] at q; omega)), c2 _ _ (by omega) (by omega) (by omega), rd_a (by omega), rd_a z2]
    have fin : ∀ x y, sW x y = false → sV x y = false → ¬ (2 ≤ x ∧ x ≤ 6) → ¬ (54 ≤ x ∧ x ≤ 136) → ¬ (x = 263 ∧ y = 1) → ¬ (x = 367 ∧ y = 0) → ¬ x = 372 → ¬ x = 373 → ¬ (x = 367 ∧ y = 8) → ¬ (x = 369 ∧ (y = 4 ∨ 32 ≤ y ∧ y ≤ 55)) → ¬ (x = 367 ∧ y = 1) → gI (sI h2 367 1 0) x y = gI g x y := fun x y z1 z2 z3 z4 z5 z6 z7 z8 z9 z10 z11 => by
      rw [gI_sI, if_neg z11, d3.I (by unfold sHM; rw [z2, Bool.false_or]; exact Bool.eq_false_iff.mpr (fun q => by simp only [Bool.or_eq_true, Bool.and_eq_true, beq_iff_eq, Nat.ble_eq] at q; omega)), c2 _ _ z7 z8 z9, gI_sI, if_neg z6, gI_sI, if_neg z5, uB _ _ z1 z3 z4]
    have row : ∀ i, i < 52 → gI (sI h2 367 1 0) 369 (4 + i) = (psF (gI g 369 3) N (fun i => gI g 369 (4 + i))).2 i := fun i hi => (rd_a (by decide)).trans (d2 i hi)
    have er : ∀ y, ¬ (4 ≤ y ∧ y < 56 ∧ y ≠ 5 ∧ y ≠ 6) → gI (sI h2 367 1 0) 369 y = gI g 369 y := fun y hy => fin _ _ rfl rfl (by omega) (by omega) (by omega) (by omega) (by omega) (by omega) (by omega) (by omega) (by omega)
    refine Sp.q (r := nI k) (g1 := sI gb 263 1 0) (g2 := sI h2 367 1 0) ?_ ?_ (h.kp ⟨h.1.1.mom (fun x y z1 z2 z3 => fin x y (Bool.eq_false_iff.mpr (fun q => by simp only [sW, Bool.or_eq_true, beq_iff_eq] at q; omega)) (Bool.eq_false_iff.mpr (fun q => by simp only [sV, sT, Bool.or_eq_true, Bool.and_eq_true, beq_iff_eq] at q; omega)) z3 (by omega) (by omega) (by omega) (by omega) (by omega) (by omega) (by omega) (by omega)) er ?_, h.1.2.mom er ?_ ?_⟩ (past_push (s := 3) (by omega) h.2.1 m1 h.1.2 (a3.ag (fun x y q => ?_)) ((c4.pre (fun x y q => ?_)).ag (fun x y q => ?_)) (er 5 (by omega)) (er 6 (by omega))) ?_ ?_ (fun x y z => ?_))
    · unfold q_MP_pass q_MP_attempt
      rw [show q_Mom_refusalOf 2 3 0 0 g = _ from ref_c m1 3 (by omega) 0 0, bnd_s, hr, if_pos rfl, a1, bnd_s, if_pos rfl, b1, bnd_s, bnd_s, ek, st_p (nI_pos' (by omega)), bnd_s]
    · unfold q_Mo_pass q_Mo_passNow
      rw [wr_e, gd_L _ _ (by decide) (by decide), cl_L _ (by decide), q0, eh, if_neg (show ¬ nI hh = 999 by rw [show (999 : Int32) = nI 999 from rfl, nI_eq (by omega) (by omega)]; exact z), c1, bnd_s, d1, bnd_s, bnd_s, ek, te_p (nI_pos' (by omega)), bnd_s]
    · exact b2.ex (fun j y hj => cl _ _ (by omega) (by omega)) (fun i hi _ _ => row i hi)
    · exact w1.ex (fun i hi _ _ => row i hi)
    · exact ⟨hh + 1, by omega, (row 0 (by omega)).trans w2⟩
    · simp only [suPc, Bool.and_eq_true, Nat.ble_eq] at q
      rw [cl _ _ (by omega) (by omega), b3.I (Bool.eq_false_iff.mpr (fun y => by simp only [sH, sW, Bool.or_eq_true, Bool.and_eq_true, beq_iff_eq, Nat.ble_eq] at y; omega))]
    · rw [gI_sI, if_neg (by omega), gI_sI, if_neg (by omega), uB _ _ (Bool.eq_false_iff.mpr (fun y => by simp only [sW, Bool.or_eq_true, beq_iff_eq] at y; omega)) (by omega) (by omega)]
    · simp only [suPm, Bool.or_eq_true, Bool.and_eq_true, beq_iff_eq, Nat.ble_eq] at q
      rw [gI_sI, if_neg (by omega), d3.I (Bool.eq_false_iff.mpr (fun y => by simp only [sHM, sV, sT, Bool.or_eq_true, Bool.and_eq_true, beq_iff_eq, Nat.ble_eq] at y; omega))]
    · intro x y z1 z2 z3 z4 z5
      have y1 := Bool.eq_false_iff.mp z1
      have y2 := Bool.eq_false_iff.mp z2
      have y3 := Bool.eq_false_iff.mp z3
      simp only [suK, suP, sX, sC, sM, sMf, Ne, Bool.or_eq_true, Bool.and_eq_true, beq_iff_eq, Nat.ble_eq] at y1 y2 y3
      by_cases q : x = 372 ∧ 832 ≤ y
      · omega
      · exact fin x y (Bool.eq_false_iff.mpr (fun q => by simp only [sW, Bool.or_eq_true, beq_iff_eq] at q; omega)) (Bool.eq_false_iff.mpr (fun q => by simp only [sV, sT, Bool.or_eq_true, Bool.and_eq_true, beq_iff_eq] at q; omega)) (by omega) (by omega) z4 (by omega) (by omega) (by omega) (by omega) (by omega) z5
    · rw [rd_s, rd_a (by decide), d3.I rfl, c2 _ _ (by omega) (by omega) (by omega), rd_a (by decide), rd_s]
    · have wr : sHM x y = false ∧ sH 2 x y = false := by rcases z with rfl | rfl | rfl | rfl | rfl <;> exact ⟨rfl, rfl⟩
      rw [gJ_sI, d3.J wr.1, c5, gJ_sI, gJ_sI, b3.J wr.2, a4]
