/-! feed, row -/
def TapeRR (g f : hG) (n : Nat) : Prop := gI g 235 1 = nI n ∧ gI f 367 13 = nI n ∧ ∀ j, j < n → ∃ b, b < 256 ∧ gI g 236 j = nI b ∧ gI f 376 j = nI b
theorem by_e (x : Int32) : ∃ b, b < 256 ∧ x &&& 255 = nI b := pk_andE x 8 (by decide)
theorem TapeRR.push {g f : hG} {n : Nat} (h : TapeRR g f n) (x : Int32) : TapeRR (sI (sI g 236 n (x &&& 255)) 235 1 (nI (n + 1))) (sI (sI f 376 n (x &&& 255)) 367 13 (nI (n + 1))) (n + 1) := by
  obtain ⟨h1, h2, h3⟩ := h
  refine ⟨rd_s, rd_s, fun j hj => ?_⟩
  by_cases z : j = n
  · subst z
    obtain ⟨b, hb, e⟩ := by_e x
    exact ⟨b, hb, by rw [rd_a (by decide), rd_s, e], by rw [rd_a (by decide), rd_s, e]⟩
  · obtain ⟨b, hb, e1, e2⟩ := h3 j (by omega)
    exact ⟨b, hb, by rw [rd_a (by decide), rd_k z, e1], by rw [rd_a (by decide), rd_k z, e2]⟩
def tC (a k : Nat) : Bool := a == 236 || (a == 235 && k == 1)
def tM (a k : Nat) : Bool := a == 376 || (a == 367 && k == 13)
theorem add1 (v s : Int32) (n f : Nat) (hn : n < 400) (hs : ¬ s < 0) (K : hG → hO Unit) (g : hG) (h : gI g 235 1 = nI n) : q_Tape_add_2L v K (f + 1) s g = q_Tape_add_2L v K f (s + -8) (sI (sI g 236 n (shr v s &&& 255)) 235 1 (nI (n + 1))) := by
  rw [q_Tape_add_2L_s]
  unfold q_Tape_add_2
  rw [if_neg hs, h, if_neg (show ¬ (400 : Int32) ≤ nI n from nI_ge hn (by decide)), gd_nI hn (by omega), wr_e, wr_e, nI_clamp (by omega), rd_a (by decide), h, nI_1]
theorem four1 (v s : Int32) (n f : Nat) (hn : n < 400) (hs : ¬ s < 0) (K : hG → hO Unit) (g : hG) (h : gI g 367 13 = nI n) : q_Mo_four_2L v K (f + 1) s g = q_Mo_four_2L v K f (s + -8) (sI (sI g 376 n (shr v s &&& 255)) 367 13 (nI (n + 1))) := by
  rw [q_Mo_four_2L_s]
  unfold q_Mo_four_2
  rw [if_neg hs, h, gd_nI hn (by omega), wr_e, wr_e, nI_clamp (by omega), rd_a (by decide), h, nI_1]
theorem four_e (v : Int32) {g f : hG} {n : Nat} (h : TapeRR g f n) (hn : n + 4 ≤ 400) : ∃ g' f', q_Tape_add v g = some ((), g') ∧ q_Mo_four v f = some ((), f') ∧ TapeRR g' f' (n + 4) ∧ Un tC g g' ∧ Un tM f f' := by
  have h1 := h.push (shr v 24)
  have h2 := h1.push (shr v 16)
  have h3 := h2.push (shr v 8)
  have h4 := h3.push (shr v 0)
  refine ⟨_, _, ?_, ?_, h4, ((((((((Un.rf.sI rfl _).sI rfl _).sI rfl _).sI rfl _).sI rfl _).sI rfl _).sI rfl _).sI rfl _), ((((((((Un.rf.sI rfl _).sI rfl _).sI rfl _).sI rfl _).sI rfl _).sI rfl _).sI rfl _).sI rfl _)⟩
  · unfold q_Tape_add
    rw [show FU = 999995 + 1 + 1 + 1 + 1 + 1 from rfl, add1 v 24 n _ (by omega) (by decide) _ g h.1, show (24 : Int32) + -8 = 16 by decide, add1 v 16 (n + 1) _ (by omega) (by decide) _ _ h1.1, show (16 : Int32) + -8 = 8 by decide, add1 v 8 (n + 1 + 1) _ (by omega) (by decide) _ _ h2.1, show (8 : Int32) + -8 = 0 by decide, add1 v 0 (n + 1 + 1 + 1) _ (by omega) (by decide) _ _ h3.1, show (0 : Int32) + -8 = -8 by decide, q_Tape_add_2L_s]
    unfold q_Tape_add_2
    rw [if_pos (by decide)]
  · unfold q_Mo_four
    rw [show FU = 999995 + 1 + 1 + 1 + 1 + 1 from rfl, four1 v 24 n _ (by omega) (by decide) _ f h.2.1, show (24 : Int32) + -8 = 16 by decide, four1 v 16 (n + 1) _ (by omega) (by decide) _ _ h1.2.1, show (16 : Int32) + -8 = 8 by decide, four1 v 8 (n + 1 + 1) _ (by omega) (by decide) _ _ h2.2.1, show (8 : Int32) + -8 = 0 by decide, four1 v 0 (n + 1 + 1 + 1) _ (by omega) (by decide) _ _ h3.2.1, show (0 : Int32) + -8 = -8 by decide, q_Mo_four_2L_s]
    unfold q_Mo_four_2
    rw [if_pos (by decide)]
theorem feed_e (a b c d e : Int32) {g f : hG} {n : Nat} (h : TapeRR g f n) (hn : n + 20 ≤ 400) : ∃ g' f', (bnd (q_Tape_add a g) fun _ g5 => bnd (q_Tape_add b g5) fun _ g7 => bnd (q_Tape_add c g7) fun _ g9 => bnd (q_Tape_add d g9) fun _ g11 => bnd (q_Tape_add e g11) fun _ g13 => some ((gI g13 235 1), g13)) = some (nI (n + 20), g') ∧ (bnd (q_Mo_four a f) fun _ g4 => bnd (q_Mo_four b g4) fun _ g6 => bnd (q_Mo_four c g6) fun _ g8 => bnd (q_Mo_four d g8) fun _ g10 => bnd (q_Mo_four e g10) fun _ g12 => some ((gI g12 367 13), g12)) = some (nI (n + 20), f') ∧ TapeRR g' f' (n + 20) ∧ Un tC g g' ∧ Un tM f f' := by
  obtain ⟨c1, m1, a1, b1, T1, u1, v1⟩ := four_e a h (by omega)
  obtain ⟨c2, m2, a2, b2, T2, u2, v2⟩ := four_e b T1 (by omega)
  obtain ⟨c3, m3, a3, b3, T3, u3, v3⟩ := four_e c T2 (by omega)
  obtain ⟨c4, m4, a4, b4, T4, u4, v4⟩ := four_e d T3 (by omega)
  obtain ⟨c5, m5, a5, b5, T5, u5, v5⟩ := four_e e T4 (by omega)
  refine ⟨c5, m5, ?_, ?_, T5, (((u1.tr u2).tr u3).tr u4).tr u5, (((v1.tr v2).tr v3).tr v4).tr v5⟩
  · rw [a1, bnd_s, a2, bnd_s, a3, bnd_s, a4, bnd_s, a5, bnd_s, T5.1]
  · rw [b1, bnd_s, b2, bnd_s, b3, bnd_s, b4, bnd_s, b5, bnd_s, T5.2.1]
theorem tK_x (a k : Nat) (h : suK a k = true) : tC a k = false ∧ tM a k = false ∧ ¬ (a = 367 ∧ k = 0) := by
  refine ⟨Bool.eq_false_iff.mpr (fun q => ?_), Bool.eq_false_iff.mpr (fun q => ?_), fun q => ?_⟩
  · simp only [suK, tC, Bool.or_eq_true, Bool.and_eq_true, beq_iff_eq, Nat.ble_eq] at h q
    omega
  · simp only [suK, tM, Bool.or_eq_true, Bool.and_eq_true, beq_iff_eq, Nat.ble_eq] at h q
    omega
  · simp only [suK, Bool.or_eq_true, Bool.and_eq_true, beq_iff_eq, Nat.ble_eq] at h
    omega
theorem tP_x (a k : Nat) (h : suP a k = true) : tC a k = false ∧ tM a k = false ∧ ¬ (a = 367 ∧ k = 0) := by
  refine ⟨Bool.eq_false_iff.mpr (fun q => ?_), Bool.eq_false_iff.mpr (fun q => ?_), fun q => ?_⟩
  · simp only [suP, tC, Bool.or_eq_true, Bool.and_eq_true, beq_iff_eq, Nat.ble_eq] at h q
    omega
  · simp only [suP, tM, Bool.or_eq_true, Bool.and_eq_true, beq_iff_eq, Nat.ble_eq] at h q
    omega
  · simp only [suP, Bool.or_eq_true, Bool.and_eq_true, beq_iff_eq, Nat.ble_eq] at h
    omega
theorem tI_x (a k : Nat) (h : suI a k = true) : tC a k = false ∧ tM a k = false ∧ ¬ (a = 367 ∧ k = 0) := by
  refine ⟨Bool.eq_false_iff.mpr (fun q => ?_), Bool.eq_false_iff.mpr (fun q => ?_), fun q => ?_⟩
  · simp only [suI, tC, Bool.or_eq_true, Bool.and_eq_true, beq_iff_eq, Nat.ble_eq] at h q
    omega
  · simp only [suI, tM, Bool.or_eq_true, Bool.and_eq_true, beq_iff_eq, Nat.ble_eq] at h q
    omega
  · simp only [suI, Bool.or_eq_true, Bool.and_eq_true, beq_iff_eq, Nat.ble_eq] at h
    omega
theorem tN_x (a k : Nat) (h : suN a k = true) : tC a k = false ∧ tM a k = false ∧ ¬ (a = 367 ∧ k = 0) := by
  refine ⟨Bool.eq_false_iff.mpr (fun q => ?_), Bool.eq_false_iff.mpr (fun q => ?_), fun q => ?_⟩
  · simp only [suN, tC, Bool.or_eq_true, Bool.and_eq_true, beq_iff_eq, Nat.ble_eq] at h q
    omega
  · simp only [suN, tM, Bool.or_eq_true, Bool.and_eq_true, beq_iff_eq, Nat.ble_eq] at h q
    omega
  · simp only [suN, Bool.or_eq_true, Bool.and_eq_true, beq_iff_eq, Nat.ble_eq] at h
    omega
theorem tD_x (a k : Nat) (h : suD a k = true) : tC a k = false ∧ tM a k = false ∧ ¬ (a = 367 ∧ k = 0) := by
  refine ⟨Bool.eq_false_iff.mpr (fun q => ?_), Bool.eq_false_iff.mpr (fun q => ?_), fun q => ?_⟩
  · simp only [suD, tC, Bool.or_eq_true, Bool.and_eq_true, beq_iff_eq, Nat.ble_eq] at h q
    omega
  · simp only [suD, tM, Bool.or_eq_true, Bool.and_eq_true, beq_iff_eq, Nat.ble_eq] at h q
    omega
  · simp only [suD, Bool.or_eq_true, Bool.and_eq_true, beq_iff_eq, Nat.ble_eq] at h
    omega
theorem sp_feed {g : hG} (h : Inv g) (a b c d e : Int32) : Sp (q_MP_feed a b c d e) (q_Mo_feed a b c d e) g := by
  obtain ⟨h1, h2, h3, ⟨n, hn, t1, t2, t3⟩, h5, h6, h7⟩ := id h
  have hr : q_Tape_hasRoom g = some (bI (n + 20 ≤ 400), g) := by
    unfold q_Tape_hasRoom bI
    rw [t1, show nI n + (20 : Int32) = nI (n + 20) from nI_add n 20]
    by_cases z : n + 20 ≤ 400
    · rw [if_neg (show ¬ (400 : Int32) < nI (n + 20) from nI_nlt (a := 400) (b := n + 20) z (by omega)), if_pos z]
    · rw [if_pos (show (400 : Int32) < nI (n + 20) from nI_lt (a := 400) (b := n + 20) (by omega) (by omega)), if_neg z]
  by_cases z : n + 20 ≤ 400
  · obtain ⟨g1, -, a1, -, -, u1, -⟩ := feed_e a b c d e (f := g) ⟨t1, t2, t3⟩ z
    obtain ⟨g1', f1, a2, a3, T, -, v1⟩ := feed_e a b c d e (g := g) (f := sI g1 367 0 0) ⟨t1, by rw [rd_k (by decide), u1.I rfl, t2], fun j hj => by rw [rd_a (by decide), u1.I (a := 376) (k := j) rfl]; exact t3 j hj⟩ z
    obtain rfl : g1 = g1' := by rw [a1] at a2; cases a2; rfl
    have q : ∀ x y, tC x y = false → tM x y = false → ¬ (x = 367 ∧ y = 0) → gI f1 x y = gI g x y := fun x y z1 z2 z3 => by
      rw [v1.I z2, gI_sI, if_neg z3, u1.I z1]
    have cl : ∀ x y, x < 367 → gI f1 x y = gI g1 x y := fun x y hx => by
      rw [v1.I (by simp [tM]; omega), rd_a (by omega)]
    refine Sp.q (r := nI (n + 20)) (g1 := g1) (g2 := f1) ?_ ?_ ⟨KeptR.ag h1 (fun x y w => ?_), h2.ag (fun x y w => ?_), h3.ag (fun x y w => ?_), ⟨n + 20, z, ?_, T.2.1, fun j hj => ?_⟩, h5.ag (fun x y w => ?_), h6.ag (fun x y w => ?_), h7.ag (q _ _ rfl rfl (by omega)) (fun x y w => ?_)⟩
    · unfold q_MP_feed
      rw [hr, bnd_s, bI_t z, if_neg (by decide), a1]
    · unfold q_Mo_feed
      rw [wr_e, rd_k (by decide), u1.I rfl, t2, show nI n + (20 : Int32) = nI (n + 20) from nI_add n 20, if_pos (show nI (n + 20) ≤ 400 from nI_le z (by decide)), a3]
    · exact q x y (tK_x x y w).1 (tK_x x y w).2.1 (tK_x x y w).2.2
    · exact q x y (tP_x x y w).1 (tP_x x y w).2.1 (tP_x x y w).2.2
    · exact q x y (tI_x x y w).1 (tI_x x y w).2.1 (tI_x x y w).2.2
    · rw [cl _ _ (by omega)]; exact T.1
    · obtain ⟨b', hb', e1, e2⟩ := T.2.2 j hj
      exact ⟨b', hb', by rw [cl _ _ (by omega), e1], e2⟩
    · exact q x y (tN_x x y w).1 (tN_x x y w).2.1 (tN_x x y w).2.2
    · exact q x y (tD_x x y w).1 (tD_x x y w).2.1 (tD_x x y w).2.2
    · rw [v1.J (by rcases w with rfl | rfl | rfl | rfl | rfl <;> rfl), gJ_sI, u1.J (by rcases w with rfl | rfl | rfl | rfl | rfl <;> rfl)]
  · refine Sp.q (r := -1) (g1 := g) (g2 := sI g 367 0 0) ?_ ?_ (inv_0 h)
    · unfold q_MP_feed
      rw [hr, bnd_s, bI_f z, if_pos rfl]
    · unfold q_Mo_feed
      rw [wr_e, rd_k (by decide), t2, show nI n + (20 : Int32) = nI (n + 20) from nI_add n 20, if_neg (show ¬ nI (n + 20) ≤ 400 from nI_ge (b := n + 20) (a := 400) (by omega) (by omega))]
