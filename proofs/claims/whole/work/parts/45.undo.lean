/-! undo -/
theorem sp_undo {g : hG} (h : Inv g) : Sp q_MP_undo q_Mo_undo g := by
  obtain ⟨n, p, hn, hp, p2, m8, p3, pj⟩ := id h.2.1
  by_cases z : n = 0
  · subst z
    refine Sp.q (r := -3) (g1 := nC (-3) 3 g) (g2 := nM (-3) 3 (sI (nC (-3) 3 g) 367 0 0)) ?_ ?_ (h.no (-3) (by omega) (Un.rf.sI rfl _))
    · unfold q_MP_undo
      rw [p2, if_pos (by decide), rf_3, bnd_s]
    · unfold q_Mo_undo
      rw [wr_e, show gI (sI (nC (-3) 3 g) 367 0 0) 367 8 = nI 0 by simp [nC, gI_sI, m8], if_pos (by decide), te_3, bnd_s]
  · obtain ⟨m, rfl⟩ : ∃ m, n = m + 1 := ⟨n - 1, by omega⟩
    have ei : pIx p (m + 1) m = (p + 15) % 16 := by unfold pIx; omega
    obtain ⟨o1, o2, o3, ⟨s, hs, o4, o4'⟩, o5, o6⟩ := pj m (by omega)
    rw [ei] at o1 o4
    -- the class
    have w : (if gI g 54 3 = 0 then (15 : Int32) else gI g 54 3 - 1) = nI ((p + 15) % 16) := by
      rw [p3]
      by_cases y : p = 0
      · subst y; decide
      · rw [if_neg (by rw [show (0 : Int32) = nI 0 from rfl, nI_eq (by omega) (by omega)]; exact y)]
        obtain ⟨q, rfl⟩ : ∃ q, p = q + 1 := ⟨p - 1, by omega⟩
        rw [nI_pred]
        congr 1
        omega
    have hq : (p + 15) % 16 < 16 := Nat.mod_lt _ (by omega)
    obtain ⟨ga, a1, a2, a3, a4, a5⟩ := momcopy 2 (57 + 5 * ((p + 15) % 16)) (sI (sI g 54 3 (nI ((p + 15) % 16))) 54 2 (nI m)) (by omega)
    have cR : q_Past_restore g = some (nI s, ga) := by
      unfold q_Past_restore
      rw [w]
      unfold q_Past_restore_10
      rw [wr_e, wr_e, show gI (sI g 54 3 (nI ((p + 15) % 16))) 54 2 = nI (m + 1) by rw [rd_k (by decide), p2], nI_pred, rd_k (by decide), rd_s, gd_nI hq (by omega), nI_clamp (by omega), a1, bnd_s, a2 _ _ (by omega), rd_k (by decide), rd_s, gd_nI hq (by omega), nI_clamp (by omega), a2 _ _ (by omega), rd_a (by decide), rd_a (by decide), o4]
    have ha : ∀ x y, ¬ (2 ≤ x ∧ x ≤ 6) → ¬ (x = 54 ∧ y = 3) → ¬ (x = 54 ∧ y = 2) → gI ga x y = gI g x y := fun x y z1 z2 z3 => by
      rw [a2 _ _ (by omega), gI_sI, if_neg z3, gI_sI, if_neg z2]
    -- the model
    have hb : ∀ gx : hG, (gx = sI (sI (sI ga 263 1 0) 367 0 0) 367 8 (nI m)) → ∀ x y, ¬ (x = 263 ∧ y = 1) → ¬ (x = 367 ∧ y = 0) → ¬ (x = 367 ∧ y = 8) → gI gx x y = gI ga x y := fun gx e x y z1 z2 z3 => by
      rw [e, gI_sI, if_neg z3, gI_sI, if_neg z2, gI_sI, if_neg z1]
    generalize hgx : sI (sI (sI ga 263 1 0) 367 0 0) 367 8 (nI m) = gx at hb
    have hb := hb gx rfl
    have e8 : gI gx 367 8 = nI m := by rw [← hgx, rd_s]
    have u : ∀ i, gI gx 372 i = gI g 372 i := fun i => by rw [hb _ _ (by omega) (by omega) (by omega), ha _ _ (by omega) (by omega) (by omega)]
    have mR : q_Mo_undo (sI ga 263 1 0) = some (nI s, sI (sSeg gx 369 4 52 (fun i => gI gx 372 (52 * m + i))) 367 1 0) := by
      unfold q_Mo_undo
      rw [wr_e, show gI (sI (sI ga 263 1 0) 367 0 0) 367 8 = nI (m + 1) by rw [rd_k (by decide), rd_a (by decide), ha _ _ (by omega) (by omega) (by omega), m8], if_neg (by rw [show (0 : Int32) = nI 0 from rfl, nI_eq (by omega) (by omega)]; omega), wr_e, nI_pred, hgx, e8, putBack_e m (by omega), bnd_s, gI_sSeg, if_neg (by omega), e8, gd_nI (by omega) (by omega), nI_clamp (by omega), gI_sSeg, if_neg (by omega), hb _ _ (by omega) (by omega) (by omega), ha _ _ (by omega) (by omega) (by omega), o4', te_p (nI_pos' (by omega)), bnd_s]
    have fin : ∀ x y, ¬ (2 ≤ x ∧ x ≤ 6) → ¬ (x = 54 ∧ y = 3) → ¬ (x = 54 ∧ y = 2) → ¬ (x = 263 ∧ y = 1) → ¬ (x = 367 ∧ y = 0) → ¬ (x = 367 ∧ y = 8) → ¬ (x = 369 ∧ 4 ≤ y ∧ y < 56 ∧ y ≠ 5 ∧ y ≠ 6) → ¬ (x = 367 ∧ y = 1) → gI (sI (sSeg gx 369 4 52 (fun i => gI gx 372 (52 * m + i))) 367 1 0) x y = gI g x y := fun x y z1 z2 z3 z4 z5 z6 z7 z8 => by
      rw [gI_sI, if_neg z8]
      by_cases q : x = 369 ∧ y = 5
      · rw [q.1, q.2, gI_sSeg, if_pos (by omega), u]; exact o5
      · by_cases q2 : x = 369 ∧ y = 6
        · rw [q2.1, q2.2, gI_sSeg, if_pos (by omega), u]; exact o6
        · rw [gI_sSeg, if_neg (by omega), hb _ _ z4 z5 z6, ha _ _ z1 z2 z3]
    have row : ∀ i, i < 52 → gI (sI (sSeg gx 369 4 52 (fun i => gI gx 372 (52 * m + i))) 367 1 0) 369 (4 + i) = gI g 372 (52 * m + i) := fun i hi => by
      rw [rd_a (by decide), gI_sSeg, if_pos (by omega), Nat.add_sub_cancel_left, u]
    have cl : ∀ x y, x < 367 → ¬ x = 263 → gI (sI (sSeg gx 369 4 52 (fun i => gI gx 372 (52 * m + i))) 367 1 0) x y = gI ga x y := fun x y z1 z2 => by
      rw [rd_a (by omega), gI_sSeg, if_neg (by omega), hb _ _ (by omega) (by omega) (by omega)]
    have o1' : MomR ga 2 (fun i => gI g 372 (52 * m + i)) := a3 _ (o1.ex (fun j k hj => by rw [rd_a (by omega), rd_a (by omega)]) (fun _ _ _ _ => rfl))
    refine Sp.q (r := nI s) (g1 := sI ga 263 1 0) (g2 := sI (sSeg gx 369 4 52 (fun i => gI gx 372 (52 * m + i))) 367 1 0) ?_ mR (h.kp ⟨h.1.1.mom (fun x y z1 z2 z3 => fin x y z3 (by omega) (by omega) (by omega) (by omega) (by omega) (by omega) (by omega)) (fun y hy => fin _ _ (by omega) (by omega) (by omega) (by omega) (by omega) (by omega) (by omega) (by omega)) ?_, h.1.2.mom (fun y hy => fin _ _ (by omega) (by omega) (by omega) (by omega) (by omega) (by omega) (by omega) (by omega)) ?_ ?_⟩ ⟨m, (p + 15) % 16, by omega, hq, ?_, ?_, ?_, fun j hj => ?_⟩ ?_ ?_ (fun x y z => ?_))
    · unfold q_MP_undo
      rw [p2, if_neg (by rw [show (0 : Int32) = nI 0 from rfl, nI_eq (by omega) (by omega)]; omega), cR, bnd_s, gr_e, bnd_s]
    · exact o1'.ex (fun j k hj => cl _ _ (by omega) (by omega)) (fun i hi _ _ => row i hi)
    · exact o2.ex (fun i hi _ _ => row i hi)
    · obtain ⟨q, hq, e⟩ := o3
      exact ⟨q, hq, (row 0 (by omega)).trans e⟩
    · rw [cl _ _ (by omega) (by omega), a2 _ _ (by omega), rd_s]
    · rw [rd_k (by decide), gI_sSeg, if_neg (by omega), e8]
    · rw [cl _ _ (by omega) (by omega), a2 _ _ (by omega), rd_k (by decide), rd_s]
    · have ej : pIx ((p + 15) % 16) m j = pIx p (m + 1) j := by unfold pIx; omega
      have pl : pIx p (m + 1) j < 16 := Nat.mod_lt _ (by omega)
      obtain ⟨k1, k2, k3, k4, k5, k6⟩ := pj j (by omega)
      have v : ∀ i, gI (sI (sSeg gx 369 4 52 (fun i => gI gx 372 (52 * m + i))) 367 1 0) 372 i = gI g 372 i := fun i => fin _ _ (by omega) (by omega) (by omega) (by omega) (by omega) (by omega) (by omega) (by omega)
      rw [ej]
      refine ⟨k1.ex (fun i k hi => fin _ _ (by omega) (by omega) (by omega) (by omega) (by omega) (by omega) (by omega) (by omega)) (fun i _ _ _ => v _), k2.ex (fun i _ _ _ => v _), ?_, ?_, ?_, ?_⟩
      · rw [v]; exact k3
      · rw [fin 56 _ (by omega) (by omega) (by omega) (by omega) (by omega) (by omega) (by omega) (by omega), fin 373 _ (by omega) (by omega) (by omega) (by omega) (by omega) (by omega) (by omega) (by omega)]; exact k4
      · rw [v, fin 369 5 (by omega) (by omega) (by omega) (by omega) (by omega) (by omega) (by omega) (by omega)]; exact k5
      · rw [v, fin 369 6 (by omega) (by omega) (by omega) (by omega) (by omega) (by omega) (by omega) (by omega)]; exact k6
    · intro x y z1 z2 z3 z4 z5
      have y1 := Bool.eq_false_iff.mp z1
      have y2 := Bool.eq_false_iff.mp z2
      have y3 : ¬ (x = 367 ∧ y = 0) := by rintro ⟨rfl, rfl⟩; cases z3
      simp only [suK, suP, Ne, Bool.or_eq_true, Bool.and_eq_true, beq_iff_eq, Nat.ble_eq] at y1 y2
      exact fin x y (by omega) (by omega) (by omega) z4 y3 (by omega) (by omega) z5
    · rw [rd_s, rd_a (by decide), gI_sSeg, if_neg (by omega), ← hgx, rd_a (by decide), rd_a (by decide), rd_s]
    · rw [← hgx]
      show gJ ga x y = gJ g x y
      rw [a4]
      rfl
