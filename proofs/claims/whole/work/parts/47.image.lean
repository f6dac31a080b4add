/-! images: kept, gone back to -/
/-- two texts that are alike -/
def TxS (g g' : hG) (a b : Nat) : Prop := gI g' a 1 = gI g b 1 ∧ gI g' a 2 = gI g b 2 ∧ (∀ j, j < 402 → gI g' (a + 1) j = gI g (b + 1) j) ∧ ∀ i, i < 12 → gI g' (a + 2) i = gI g (b + 2) i ∧ gI g' (a + 3) i = gI g (b + 3) i ∧ gI g' (a + 4) i = gI g (b + 4) i ∧ gI g' (a + 5) i = gI g (b + 5) i ∧ gI g' (a + 6) i = gI g (b + 6) i
theorem TxS.law {g g' : hG} {a b : Nat} {seg : Nat → Int32} (h : TxS g g' a b) (l : LawR g b seg) : LawR g' a seg := l.ex h.1 h.2.1 h.2.2.1 (fun i hi => ⟨(h.2.2.2 i hi).1, (h.2.2.2 i hi).2.1, (h.2.2.2 i hi).2.2.2.2⟩) (fun _ _ => rfl)
theorem textcopy (a b : Nat) (g : hG) (h : a + 6 < b ∨ b + 6 < a) : ∃ g', q_Text_copy a b g = some ((), g') ∧ (∀ x k, ¬ (a ≤ x ∧ x ≤ a + 6) → gI g' x k = gI g x k) ∧ TxS g g' a b ∧ gJ g' = gJ g ∧ gP g' = gP g := by
  unfold q_Text_copy
  rw [show (402 : Int32) = nI 402 from rfl, show (12 : Int32) = nI 12 from rfl, cl_L _ (by decide)]
  simp only [nI_clamp (show 402 < 2 ^ 31 by decide), nI_clamp (show 12 < 2 ^ 31 by decide)]
  rw [gne_p (by omega), gc_p 402 402 402 (by omega) (by omega) (by omega), wr_e, cpy_seg, wr_e, wr_e]
  rw [gne_p (by omega), gc_p 12 12 12 (by omega) (by omega) (by omega), wr_e, cpy_seg]
  rw [gne_p (by omega), gc_p 12 12 12 (by omega) (by omega) (by omega), wr_e, cpy_seg]
  rw [gne_p (by omega), gc_p 12 12 12 (by omega) (by omega) (by omega), wr_e, cpy_seg]
  rw [gne_p (by omega), gc_p 12 12 12 (by omega) (by omega) (by omega), wr_e, cpy_seg]
  rw [gne_p (by omega), gc_p 12 12 12 (by omega) (by omega) (by omega), wr_e, cpy_seg]
  refine ⟨_, rfl, fun x k hx => ?_, ⟨?_, ?_, fun j hj => ?_, fun i hi => ⟨?_, ?_, ?_, ?_, ?_⟩⟩, rfl, rfl⟩
  · skip
    repeat (first | rw [gI_sSeg, if_neg (by omega)] | rw [gI_sI, if_neg (by omega)])
  · skip
    repeat (first | rw [gI_sSeg, if_neg (by omega)] | rw [gI_sI, if_neg (by omega)])
    rw [gI_sI, if_pos (by omega)]
    repeat (first | rw [gI_sSeg, if_neg (by omega)] | rw [gI_sI, if_neg (by omega)])
  · skip
    repeat (first | rw [gI_sSeg, if_neg (by omega)] | rw [gI_sI, if_neg (by omega)])
    rw [gI_sI, if_pos (by omega)]
    repeat (first | rw [gI_sSeg, if_neg (by omega)] | rw [gI_sI, if_neg (by omega)])
  · skip
    repeat (first | rw [gI_sSeg, if_neg (by omega)] | rw [gI_sI, if_neg (by omega)])
    rw [gI_sSeg, if_pos (by omega)]
    repeat (first | rw [gI_sSeg, if_neg (by omega)] | rw [gI_sI, if_neg (by omega)])
    rfl
  · skip
    repeat (first | rw [gI_sSeg, if_neg (by omega)] | rw [gI_sI, if_neg (by omega)])
    rw [gI_sSeg, if_pos (by omega)]
    repeat (first | rw [gI_sSeg, if_neg (by omega)] | rw [gI_sI, if_neg (by omega)])
    rfl
  · skip
    repeat (first | rw [gI_sSeg, if_neg (by omega)] | rw [gI_sI, if_neg (by omega)])
    rw [gI_sSeg, if_pos (by omega)]
    repeat (first | rw [gI_sSeg, if_neg (by omega)] | rw [gI_sI, if_neg (by omega)])
    rfl
  · skip
    repeat (first | rw [gI_sSeg, if_neg (by omega)] | rw [gI_sI, if_neg (by omega)])
    rw [gI_sSeg, if_pos (by omega)]
    repeat (first | rw [gI_sSeg, if_neg (by omega)] | rw [gI_sI, if_neg (by omega)])
    rfl
  · skip
    repeat (first | rw [gI_sSeg, if_neg (by omega)] | rw [gI_sI, if_neg (by omega)])
    rw [gI_sSeg, if_pos (by omega)]
    repeat (first | rw [gI_sSeg, if_neg (by omega)] | rw [gI_sI, if_neg (by omega)])
    rfl
  · skip
    repeat (first | rw [gI_sSeg, if_neg (by omega)] | rw [gI_sI, if_neg (by omega)])
    rw [gI_sSeg, if_pos (by omega)]
    repeat (first | rw [gI_sSeg, if_neg (by omega)] | rw [gI_sI, if_neg (by omega)])
    rfl
theorem keptcopy (a b : Nat) (g : hG) (h : a + 50 < b ∨ b + 50 < a) (n : Nat) (hn : n ≤ 6) (hb : gI g b 8 = nI n) : ∃ g', q_Kept_copy a b g = some ((), g') ∧ (∀ x k, ¬ (a ≤ x ∧ x ≤ a + 50) → gI g' x k = gI g x k) ∧ (∀ r, KeptR g b r → KeptR g' a r) ∧ gJ g' = gJ g ∧ gP g' = gP g := by
  unfold q_Kept_copy
  obtain ⟨g1, m1, m2, m3, m4, m5⟩ := momcopy (a + 1) (b + 1) g (by omega)
  rw [m1, bnd_s, wr_e, wr_e, wr_e, show (6 : Int32) = nI 6 from rfl, cl_L _ (by decide)]
  simp only [nI_clamp (show 6 < 2 ^ 31 by decide)]
  rw [gne_p (by omega), gc_p 6 6 6 (by omega) (by omega) (by omega), wr_e, cpy_seg, gne_p (by omega), gc_p 6 6 6 (by omega) (by omega) (by omega), wr_e, cpy_seg, wr_e]
  generalize hx : sI (sSeg (sSeg (sI (sI (sI g1 a 1 (gI g1 b 1)) a 2 (gI (sI g1 a 1 (gI g1 b 1)) b 2)) a 3 (gI (sI (sI g1 a 1 (gI g1 b 1)) a 2 (gI (sI g1 a 1 (gI g1 b 1)) b 2)) b 3)) (a + 6) 0 6 (gI (sI (sI (sI g1 a 1 (gI g1 b 1)) a 2 (gI (sI g1 a 1 (gI g1 b 1)) b 2)) a 3 (gI (sI (sI g1 a 1 (gI g1 b 1)) a 2 (gI (sI g1 a 1 (gI g1 b 1)) b 2)) b 3)) (b + 6))) (a + 7) 0 6 (gI (sSeg (sI (sI (sI g1 a 1 (gI g1 b 1)) a 2 (gI (sI g1 a 1 (gI g1 b 1)) b 2)) a 3 (gI (sI (sI g1 a 1 (gI g1 b 1)) a 2 (gI (sI g1 a 1 (gI g1 b 1)) b 2)) b 3)) (a + 6) 0 6 (gI (sI (sI (sI g1 a 1 (gI g1 b 1)) a 2 (gI (sI g1 a 1 (gI g1 b 1)) b 2)) a 3 (gI (sI (sI g1 a 1 (gI g1 b 1)) a 2 (gI (sI g1 a 1 (gI g1 b 1)) b 2)) b 3)) (b + 6))) (b + 7))) a 6 _ = gx
  have x1 : ∀ x k, ¬ (a ≤ x ∧ x ≤ a + 7) → gI gx x k = gI g x k := fun x k hh => by
    rw [← hx]
    repeat (first | rw [gI_sSeg, if_neg (by omega)] | rw [gI_sI, if_neg (by omega)])
    exact m2 x k (by omega)
  have x2 : ∀ r, MomR g (b + 1) r → MomR gx (a + 1) r := fun r hr => (m3 r hr).ex (fun j k hj => by
    rw [← hx]
    repeat (first | rw [gI_sSeg, if_neg (by omega)] | rw [gI_sI, if_neg (by omega)])) (fun _ _ _ _ => rfl)
  have x3 : gI gx a 1 = gI g b 1 ∧ gI gx a 2 = gI g b 2 ∧ gI gx a 3 = gI g b 3 ∧ gI gx a 6 = gI g b 6 := by
    have q : ∀ k, gI g1 b k = gI g b k := fun k => m2 b k (by omega)
    rw [← hx]
    refine ⟨?_, ?_, ?_, ?_⟩
    · repeat (first | rw [gI_sSeg, if_neg (by omega)] | rw [gI_sI, if_neg (by omega)])
      rw [gI_sI, if_pos (by omega), q]
    · repeat (first | rw [gI_sSeg, if_neg (by omega)] | rw [gI_sI, if_neg (by omega)])
      rw [gI_sI, if_pos (by omega)]
      repeat (first | rw [gI_sSeg, if_neg (by omega)] | rw [gI_sI, if_neg (by omega)])
      rw [q]
    · repeat (first | rw [gI_sSeg, if_neg (by omega)] | rw [gI_sI, if_neg (by omega)])
      rw [gI_sI, if_pos (by omega)]
      repeat (first | rw [gI_sSeg, if_neg (by omega)] | rw [gI_sI, if_neg (by omega)])
      rw [q]
    · rw [gI_sI, if_pos (by omega)]
      repeat (first | rw [gI_sSeg, if_neg (by omega)] | rw [gI_sI, if_neg (by omega)])
      rw [q]
  have x4 : ∀ k, k < 6 → gI gx (a + 6) k = gI g (b + 6) k ∧ gI gx (a + 7) k = gI g (b + 7) k := fun k hk => by
    rw [← hx]
    refine ⟨?_, ?_⟩
    · repeat (first | rw [gI_sSeg, if_neg (by omega)] | rw [gI_sI, if_neg (by omega)])
      rw [gI_sSeg, if_pos (by omega)]
      repeat (first | rw [gI_sSeg, if_neg (by omega)] | rw [gI_sI, if_neg (by omega)])
      exact m2 _ _ (by omega)
    · repeat (first | rw [gI_sSeg, if_neg (by omega)] | rw [gI_sI, if_neg (by omega)])
      rw [gI_sSeg, if_pos (by omega)]
      repeat (first | rw [gI_sSeg, if_neg (by omega)] | rw [gI_sI, if_neg (by omega)])
      exact m2 _ _ (by omega)
  have x5 : gJ gx = gJ g ∧ gP gx = gP g := by
    rw [← hx]
    exact ⟨m4, m5⟩
  have key : ∀ (m i f : Nat) (g0 : hG), i + m = n → m < f → (∀ x k, ¬ (a + 9 ≤ x ∧ x ≤ a + 50) → gI g0 x k = gI gx x k) → (∀ k, k < i → TxS gx g0 (a + 9 + 7 * k) (b + 9 + 7 * k)) → gJ g0 = gJ gx → gP g0 = gP gx → ∃ g', q_Kept_copy_39L a b (fun g21 => wr (sI g21 a 8 (gI g21 b 8)) fun g23 => wr (sI g23 a 9 (gI g23 b 9)) fun g25 => some ((), g25)) f (nI i) g0 = (fun g21 => wr (sI g21 a 8 (gI g21 b 8)) fun g23 => wr (sI g23 a 9 (gI g23 b 9)) fun g25 => some ((), g25)) g' ∧ (∀ x k, ¬ (a + 9 ≤ x ∧ x ≤ a + 50) → gI g' x k = gI gx x k) ∧ (∀ k, k < n → TxS gx g' (a + 9 + 7 * k) (b + 9 + 7 * k)) ∧ gJ g' = gJ gx ∧ gP g' = gP gx := by
    intro m
    induction m with
    | zero =>
      intro i f g0 h1 h2 h3 h4 h5 h6
      obtain ⟨f, rfl⟩ : ∃ q, f = q + 1 := ⟨f - 1, by omega⟩
      obtain rfl : i = n := by omega
      rw [q_Kept_copy_39L_s]
      unfold q_Kept_copy_39
      rw [h3 _ _ (by omega), x1 _ _ (by omega), hb, if_pos (nI_le (by omega) (by omega))]
      exact ⟨g0, rfl, h3, h4, h5, h6⟩
    | succ m ih =>
      intro i f g0 h1 h2 h3 h4 h5 h6
      obtain ⟨f, rfl⟩ : ∃ q, f = q + 1 := ⟨f - 1, by omega⟩
      obtain ⟨gt, t1, t2, t3, t4, t5⟩ := textcopy (a + 9 + 7 * i) (b + 9 + 7 * i) g0 (by omega)
      rw [q_Kept_copy_39L_s]
      unfold q_Kept_copy_39
      rw [h3 _ _ (by omega), x1 _ _ (by omega), hb, if_neg (nI_ge (by omega) (by omega)), gd_nI (by omega) (by omega), gd_nI (by omega) (by omega), nI_clamp (by omega), t1, bnd_s, nI_1]
      refine ih (i + 1) f gt (by omega) (by omega) (fun x k hh => (t2 x k (by omega)).trans (h3 x k hh)) (fun k hk => ?_) (t4.trans h5) (t5.trans h6)
      by_cases z : k = i
      · subst z
        obtain ⟨s1, s2, s3, s4⟩ := t3
        refine ⟨s1.trans (h3 _ _ (by omega)), s2.trans (h3 _ _ (by omega)), fun j hj => (s3 j hj).trans (h3 _ _ (by omega)), fun j hj => ⟨((s4 j hj).1).trans (h3 _ _ (by omega)), ((s4 j hj).2.1).trans (h3 _ _ (by omega)), ((s4 j hj).2.2.1).trans (h3 _ _ (by omega)), ((s4 j hj).2.2.2.1).trans (h3 _ _ (by omega)), ((s4 j hj).2.2.2.2).trans (h3 _ _ (by omega))⟩⟩
      · obtain ⟨s1, s2, s3, s4⟩ := h4 k (by omega)
        refine ⟨(t2 _ _ (by omega)).trans s1, (t2 _ _ (by omega)).trans s2, fun j hj => (t2 _ _ (by omega)).trans (s3 j hj), fun j hj => ⟨(t2 _ _ (by omega)).trans (s4 j hj).1, (t2 _ _ (by omega)).trans (s4 j hj).2.1, (t2 _ _ (by omega)).trans (s4 j hj).2.2.1, (t2 _ _ (by omega)).trans (s4 j hj).2.2.2.1, (t2 _ _ (by omega)).trans (s4 j hj).2.2.2.2⟩⟩
  obtain ⟨g', k1, k2, k3, k4, k5⟩ := key n 0 FU gx (by omega) (Nat.lt_of_le_of_lt hn (by decide)) (fun _ _ _ => rfl) (fun k hk => by omega) rfl rfl
  refine ⟨sI (sI g' a 8 (gI g' b 8)) a 9 (gI (sI g' a 8 (gI g' b 8)) b 9), k1, fun x k hh => ?_, fun r hr => ?_, k4.trans x5.1, k5.trans x5.2⟩
  · rw [gI_sI, if_neg (by omega), gI_sI, if_neg (by omega), k2 _ _ (by omega), x1 _ _ (by omega)]
  · obtain ⟨r1, ⟨f1, f2, f3, f4, f5, f6⟩, r3, r4⟩ := hr
    have y : ∀ x k, x ≠ a → gI (sI (sI g' a 8 (gI g' b 8)) a 9 (gI (sI g' a 8 (gI g' b 8)) b 9)) x k = gI g' x k := fun x k hx => by rw [gI_sI, if_neg (by omega), gI_sI, if_neg (by omega)]
    have yb : ∀ k, gI g' b k = gI g b k := fun k => (k2 _ _ (by omega)).trans (x1 _ _ (by omega))
    refine ⟨(x2 _ r1).ex (fun j k hj => (y _ _ (by omega)).trans (k2 _ _ (by omega))) (fun _ _ _ _ => rfl), ⟨?_, ?_, ?_, ?_, ?_, ?_⟩, fun k hk => ?_, fun k n' q1 q2 q3 => ?_⟩
    · rw [gI_sI, if_neg (by omega), gI_sI, if_neg (by omega), k2 _ _ (by omega)]; exact x3.1.trans f1
    · rw [gI_sI, if_neg (by omega), gI_sI, if_neg (by omega), k2 _ _ (by omega)]; exact x3.2.1.trans f2
    · rw [gI_sI, if_neg (by omega), gI_sI, if_neg (by omega), k2 _ _ (by omega)]; exact x3.2.2.1.trans f3
    · rw [gI_sI, if_neg (by omega), gI_sI, if_neg (by omega), k2 _ _ (by omega)]; exact x3.2.2.2.trans f4
    · rw [gI_sI, if_neg (by omega), gI_sI, if_pos (by omega), yb]; exact f5
    · rw [gI_sI, if_pos (by omega), gI_sI, if_neg (by omega), yb]; exact f6
    · rw [y _ _ (by omega), y _ _ (by omega), k2 _ _ (by omega), k2 _ _ (by omega)]
      exact ⟨(x4 k hk).1.trans (r3 k hk).1, (x4 k hk).2.trans (r3 k hk).2⟩
    · have e : n' = n := by
        have : nI n' = nI n := q1.symm.trans (f5.symm.trans hb)
        exact (nI_eq (by omega) (by omega)).mp this
      subst e
      obtain ⟨s1, s2, s3, s4⟩ := k3 k q3
      have z : ∀ x k', ¬ (a ≤ x ∧ x ≤ a + 7) → gI gx x k' = gI g x k' := x1
      refine (r4 k n' q1 q2 q3).ex ?_ ?_ (fun j hj => ?_) (fun i hi => ⟨?_, ?_, ?_⟩) (fun _ _ => rfl)
      · rw [y _ _ (by omega), s1, z _ _ (by omega)]
      · rw [y _ _ (by omega), s2, z _ _ (by omega)]
      · rw [y _ _ (by omega), s3 j hj, z _ _ (by omega)]
      · rw [y _ _ (by omega), (s4 i hi).1, z _ _ (by omega)]
      · rw [y _ _ (by omega), (s4 i hi).2.1, z _ _ (by omega)]
      · rw [y _ _ (by omega), (s4 i hi).2.2.2.2, z _ _ (by omega)]
