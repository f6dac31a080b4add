/-! moments copied, kept, put back -/
theorem gc_p {α : Type} (n la lb : Nat) (h : n ≤ la) (h2 : n ≤ lb) (hn : n < 2 ^ 31) (Y : hO α) : gc 0 0 (nI n) la lb Y = Y := by
  unfold gc
  rw [if_pos]
  refine ⟨by decide, by decide, nI_pos hn, ?_, ?_⟩ <;> rw [nI_clamp hn, show (0 : Int32).toNatClampNeg = 0 by decide] <;> omega
theorem momcopy (a b : Nat) (g : hG) (h : a + 4 < b ∨ b + 4 < a) : ∃ g', q_Mom_copy a b g = some ((), g') ∧ (∀ x k, ¬ (a ≤ x ∧ x ≤ a + 4) → gI g' x k = gI g x k) ∧ (∀ r, MomR g b r → MomR g' a r) ∧ gJ g' = gJ g ∧ gP g' = gP g := by
  unfold q_Mom_copy
  rw [gne_p (by omega), show (8 : Int32) = nI 8 from rfl, show (25 : Int32) = nI 25 from rfl, gc_p 8 8 8 (by omega) (by omega) (by omega), wr_e, cl_L _ (by decide), nI_clamp (by omega), cpy_seg]
  rw [gne_p (by omega), gc_p 8 8 8 (by omega) (by omega) (by omega), wr_e, cpy_seg]
  rw [gne_p (by omega), gc_p 8 8 8 (by omega) (by omega) (by omega), wr_e, cpy_seg]
  rw [gne_p (by omega), gc_p 25 25 25 (by omega) (by omega) (by omega), wr_e, nI_clamp (by omega), cpy_seg, wr_e]
  refine ⟨_, rfl, fun x k hx => ?_, fun r hr => ?_, rfl, rfl⟩
  · rw [gI_sI, if_neg (by omega), gI_sSeg, if_neg (by omega), gI_sSeg, if_neg (by omega), gI_sSeg, if_neg (by omega), gI_sSeg, if_neg (by omega)]
  · obtain ⟨r1, r2, r3, r4, r5⟩ := hr
    refine ⟨?_, fun c hc => ?_, fun l hl => ?_, fun l hl => ?_, fun l hl => ?_⟩
    · rw [gI_sI, if_pos ⟨rfl, rfl⟩, gI_sSeg, if_neg (by omega), gI_sSeg, if_neg (by omega), gI_sSeg, if_neg (by omega), gI_sSeg, if_neg (by omega)]
      exact r1
    · rw [gI_sI, if_neg (by omega), gI_sSeg, if_pos (by omega), gI_sSeg, if_neg (by omega), gI_sSeg, if_neg (by omega), gI_sSeg, if_neg (by omega)]
      exact r2 c hc
    · rw [gI_sI, if_neg (by omega), gI_sSeg, if_neg (by omega), gI_sSeg, if_neg (by omega), gI_sSeg, if_neg (by omega), gI_sSeg, if_pos (by omega)]
      exact r3 l hl
    · rw [gI_sI, if_neg (by omega), gI_sSeg, if_neg (by omega), gI_sSeg, if_neg (by omega), gI_sSeg, if_pos (by omega), gI_sSeg, if_neg (by omega)]
      exact r4 l hl
    · rw [gI_sI, if_neg (by omega), gI_sSeg, if_neg (by omega), gI_sSeg, if_pos (by omega), gI_sSeg, if_neg (by omega), gI_sSeg, if_neg (by omega)]
      exact r5 l hl
/-- the model's 52 kept at a place -/
theorem keepAll_e (m : Nat) (hm : m < 18) (g : hG) : q_Mo_keepAll (nI m) g = some ((), sSeg g 372 (52 * m) 52 (fun i => gI g 369 (4 + i))) := by
  unfold q_Mo_keepAll
  refine copy_loop (fun n g i => q_Mo_keepAll_2L (nI m) (fun g5 => some ((), g5)) n (nI i) g) (fun g => some ((), g)) 372 (52 * m) 52 _ g ?_ ?_ FU (by decide)
  · intro n i hi
    rw [q_Mo_keepAll_2L_s]
    unfold q_Mo_keepAll_2
    rw [if_neg (show ¬ (52 : Int32) ≤ nI i from nI_ge hi (by decide)), show (4 : Int32) + nI i = nI (4 + i) from nI_add 4 i, show (52 : Int32) * nI m + nI i = nI (52 * m + i) by rw [show (52 : Int32) = nI 52 from rfl, pk_mul, nI_add], gd_nI (by omega) (by omega), gd_nI (by omega) (by omega), wr_e, nI_clamp (by omega), nI_clamp (by omega), nI_1, gI_sSeg, if_neg (by omega)]
  · intro n
    rw [q_Mo_keepAll_2L_s]
    unfold q_Mo_keepAll_2
    rw [if_pos (by decide)]
theorem putBack_e (m : Nat) (hm : m < 18) (g : hG) : q_Mo_putBack (nI m) g = some ((), sSeg g 369 4 52 (fun i => gI g 372 (52 * m + i))) := by
  unfold q_Mo_putBack
  refine copy_loop (fun n g i => q_Mo_putBack_2L (nI m) (fun g5 => some ((), g5)) n (nI i) g) (fun g => some ((), g)) 369 4 52 _ g ?_ ?_ FU (by decide)
  · intro n i hi
    rw [q_Mo_putBack_2L_s]
    unfold q_Mo_putBack_2
    rw [if_neg (show ¬ (52 : Int32) ≤ nI i from nI_ge hi (by decide)), show (4 : Int32) + nI i = nI (4 + i) from nI_add 4 i, show (52 : Int32) * nI m + nI i = nI (52 * m + i) by rw [show (52 : Int32) = nI 52 from rfl, pk_mul, nI_add], gd_nI (by omega) (by omega), gd_nI (by omega) (by omega), wr_e, nI_clamp (by omega), nI_clamp (by omega), nI_1, gI_sSeg, if_neg (by omega)]
  · intro n
    rw [q_Mo_putBack_2L_s]
    unfold q_Mo_putBack_2
    rw [if_pos (by decide)]
/-- what keep() does -/
def KeepS (s : Int32) (g g' : hG) : Prop := ∀ p n, gI g 54 3 = nI p → gI g 54 2 = nI n → p < 16 → n ≤ 16 → gI g' 54 3 = nI ((p + 1) % 16) ∧ gI g' 54 2 = nI (min (n + 1) 16) ∧ (∀ r, MomR g 2 r → MomR g' (57 + 5 * p) r) ∧ gI g' 56 p = s ∧ (∀ q k j, q < 16 → q ≠ p → j ≤ 4 → gI g' (57 + 5 * q + j) k = gI g (57 + 5 * q + j) k) ∧ ∀ q, q < 16 → q ≠ p → gI g' 56 q = gI g 56 q
def suPc (a _k : Nat) : Bool := Nat.ble 54 a && Nat.ble a 136
theorem KeepS.ag {s : Int32} {g ga g' : hG} (h : KeepS s g ga) (u : Ag suPc ga g') : KeepS s g g' := by
  intro p n h1 h2 h3 h4
  obtain ⟨k1, k2, k3, k4, k5, k6⟩ := h p n h1 h2 h3 h4
  refine ⟨(u _ _ rfl).trans k1, (u _ _ rfl).trans k2, fun r hr => (k3 r hr).ex (fun j k hj => u _ _ (by simp [suPc]; omega)) (fun _ _ _ _ => rfl), (u _ _ rfl).trans k4, fun q k j q1 q2 q3 => (u _ _ (by simp [suPc]; omega)).trans (k5 q k j q1 q2 q3), fun q q1 q2 => (u _ _ rfl).trans (k6 q q1 q2)⟩
theorem keep_e (s : Int32) (g : hG) (p n : Nat) (h3 : gI g 54 3 = nI p) (h2 : gI g 54 2 = nI n) (hp : p < 16) (hn : n ≤ 16) : ∃ g', q_Past_keep s g = some ((), g') ∧ (∀ x k, ¬ (54 ≤ x ∧ x ≤ 136) → gI g' x k = gI g x k) ∧ KeepS s g g' ∧ gJ g' = gJ g ∧ gP g' = gP g := by
  unfold q_Past_keep
  obtain ⟨ga, e1, e2, e3, e4, e5⟩ := momcopy (57 + 5 * p) 2 g (by omega)
  rw [h3, gd_nI hp (by omega), nI_clamp (by omega), e1, bnd_s, show gI ga 54 3 = nI p by rw [e2 _ _ (by omega), h3], gd_nI hp (by omega), wr_e, nI_clamp (by omega)]
  unfold q_Past_keep_24
  rw [wr_e, wr_e]
  have w : (if gI (sI ga 56 p s) 54 3 = 15 then (0 : Int32) else gI (sI ga 56 p s) 54 3 + 1) = nI ((p + 1) % 16) := by
    rw [rd_a (by decide), e2 _ _ (by omega), h3]
    by_cases z : p = 15
    · subst z; decide
    · rw [if_neg (by rw [show (15 : Int32) = nI 15 from rfl, nI_eq (by omega) (by omega)]; exact z), nI_1, Nat.mod_eq_of_lt (by omega)]
  rw [w]
  have w2 : imin (gI (sI (sI ga 56 p s) 54 3 (nI ((p + 1) % 16))) 54 2 + 1) 16 = nI (min (n + 1) 16) := by
    rw [rd_k (by decide), rd_a (by decide), e2 _ _ (by omega), h2, nI_1]
    unfold imin
    by_cases z : n = 16
    · subst z; decide
    · rw [if_neg (by rw [show (16 : Int32) = nI 16 from rfl, nI_ltI (by omega) (by omega)]; omega), Nat.min_eq_left (by omega)]
  rw [w2]
  refine ⟨_, rfl, fun x k hx => ?_, ?_, e4, e5⟩
  · rw [rd_a (by omega), rd_a (by omega), rd_a (by omega), e2 _ _ (by omega)]
  · intro p' n' q1 q2 q3 q4
    obtain rfl : p' = p := by rw [h3, nI_eq (by omega) (by omega)] at q1; exact q1.symm
    obtain rfl : n' = n := by rw [h2, nI_eq (by omega) (by omega)] at q2; exact q2.symm
    refine ⟨by rw [rd_k (by decide), rd_s], rd_s, fun r hr => (e3 r hr).ex (fun j k hj => ?_) (fun _ _ _ _ => rfl), ?_, fun q k j h1 h2 h3 => ?_, fun q h1 h2 => ?_⟩
    · rw [rd_a (by omega), rd_a (by omega), rd_a (by omega)]
    · rw [rd_a (by decide), rd_a (by decide), rd_s]
    · rw [rd_a (by omega), rd_a (by omega), rd_a (by omega), e2 _ _ (by omega)]
    · rw [rd_a (by decide), rd_a (by decide), rd_k h2, e2 _ _ (by omega)]
/-- what remember() does -/
def RemS (s : Int32) (g g' : hG) : Prop := ∀ n, gI g 367 8 = nI n → n ≤ 16 → gI g' 367 8 = nI (min (n + 1) 16) ∧ (∀ i, i < 52 → gI g' 372 (52 * min n 15 + i) = gI g 369 (4 + i)) ∧ gI g' 373 (min n 15) = s ∧ (n < 16 → ∀ j, j < n → (∀ i, i < 52 → gI g' 372 (52 * j + i) = gI g 372 (52 * j + i)) ∧ gI g' 373 j = gI g 373 j) ∧ (n = 16 → ∀ j, j < 15 → (∀ i, i < 52 → gI g' 372 (52 * j + i) = gI g 372 (52 * (j + 1) + i)) ∧ gI g' 373 j = gI g 373 (j + 1))
def suPm (a k : Nat) : Bool := (a == 372 && Nat.ble k 831) || a == 373 || (a == 367 && k == 8)
theorem RemS.ag {s : Int32} {g ga g' : hG} (h : RemS s g ga) (u : Ag suPm ga g') : RemS s g g' := by
  intro n h1 h2
  obtain ⟨k1, k2, k3, k4, k5⟩ := h n h1 h2
  have q : ∀ i, i < 832 → gI g' 372 i = gI ga 372 i := fun i hi => u _ _ (by simp [suPm]; omega)
  refine ⟨(u _ _ rfl).trans k1, fun i hi => (q _ (by omega)).trans (k2 i hi), (u 373 _ rfl).trans k3, fun z j hj => ⟨fun i hi => (q _ (by omega)).trans ((k4 z j hj).1 i hi), (u 373 _ rfl).trans (k4 z j hj).2⟩, fun z j hj => ⟨fun i hi => (q _ (by omega)).trans ((k5 z j hj).1 i hi), (u 373 _ rfl).trans (k5 z j hj).2⟩⟩
theorem RemS.pre {s : Int32} {g ga g' : hG} (h : RemS s ga g') (u : ∀ a k, (a = 372 ∨ a = 373 ∨ (a = 367 ∧ k = 8) ∨ a = 369) → gI ga a k = gI g a k) : RemS s g g' := by
  intro n h1 h2
  obtain ⟨k1, k2, k3, k4, k5⟩ := h n ((u _ _ (by omega)).trans h1) h2
  refine ⟨k1, fun i hi => (k2 i hi).trans (u _ _ (by omega)), k3, fun z j hj => ⟨fun i hi => ((k4 z j hj).1 i hi).trans (u _ _ (by omega)), (k4 z j hj).2.trans (u _ _ (by omega))⟩, fun z j hj => ⟨fun i hi => ((k5 z j hj).1 i hi).trans (u _ _ (by omega)), (k5 z j hj).2.trans (u _ _ (by omega))⟩⟩
theorem rem44 (s : Int32) (g : hG) (n : Nat) (h : gI g 367 8 = nI n) (hn : n < 16) : q_Mo_remember_44 s g = some ((), sI (sI (sSeg g 372 (52 * n) 52 (fun i => gI g 369 (4 + i))) 373 n s) 367 8 (nI (n + 1))) := by
  unfold q_Mo_remember_44
  rw [h, keepAll_e n (by omega), bnd_s, gI_sSeg, if_neg (by omega), h, gd_nI hn (by omega), wr_e, nI_clamp (by omega), rd_a (by decide), gI_sSeg, if_neg (by omega), h, wr_e, nI_1]
theorem rem_e (s : Int32) (g : hG) (n : Nat) (h : gI g 367 8 = nI n) (hn : n ≤ 16) : ∃ g', q_Mo_remember s g = some ((), g') ∧ (∀ x k, ¬ x = 372 → ¬ x = 373 → ¬ (x = 367 ∧ k = 8) → gI g' x k = gI g x k) ∧ (∀ k, 832 ≤ k → gI g' 372 k = gI g 372 k) ∧ RemS s g g' ∧ gJ g' = gJ g ∧ gP g' = gP g := by
  unfold q_Mo_remember
  by_cases z : n = 16
  · subst z
    rw [h, if_pos (by decide)]
    have L1 : q_Mo_remember_6L (fun g12 => q_Mo_remember_23L (fun g18 => wr (sI g18 367 8 (gI g18 367 8 - 1)) fun g20 => q_Mo_remember_44 s g20) FU 0 g12) FU 0 g = q_Mo_remember_23L (fun g18 => wr (sI g18 367 8 (gI g18 367 8 - 1)) fun g20 => q_Mo_remember_44 s g20) FU 0 (sSeg g 372 0 780 (fun i => gI g 372 (i + 52))) := by
      refine copy_loop (fun n g i => q_Mo_remember_6L (fun g12 => q_Mo_remember_23L (fun g18 => wr (sI g18 367 8 (gI g18 367 8 - 1)) fun g20 => q_Mo_remember_44 s g20) FU 0 g12) n (nI i) g) (fun g12 => q_Mo_remember_23L (fun g18 => wr (sI g18 367 8 (gI g18 367 8 - 1)) fun g20 => q_Mo_remember_44 s g20) FU 0 g12) 372 0 780 _ g ?_ ?_ FU (by decide)
      · intro n i hi
        rw [q_Mo_remember_6L_s]
        unfold q_Mo_remember_6
        rw [if_neg (show ¬ (780 : Int32) ≤ nI i from nI_ge hi (by decide)), show nI i + (52 : Int32) = nI (i + 52) from nI_add i 52, gd_nI (by omega) (by omega), gd_nI (by omega) (by omega), wr_e, nI_clamp (by omega), nI_clamp (by omega), nI_1, gI_sSeg, if_neg (by omega), Nat.zero_add]
      · intro n
        rw [q_Mo_remember_6L_s]
        unfold q_Mo_remember_6
        rw [if_pos (by decide)]
    rw [L1]
    have L2 : ∀ g1 : hG, q_Mo_remember_23L (fun g18 => wr (sI g18 367 8 (gI g18 367 8 - 1)) fun g20 => q_Mo_remember_44 s g20) FU 0 g1 = wr (sI (sSeg g1 373 0 15 (fun i => gI g1 373 (i + 1))) 367 8 (gI (sSeg g1 373 0 15 (fun i => gI g1 373 (i + 1))) 367 8 - 1)) fun g20 => q_Mo_remember_44 s g20 := by
      intro g1
      refine copy_loop (fun n g i => q_Mo_remember_23L (fun g18 => wr (sI g18 367 8 (gI g18 367 8 - 1)) fun g20 => q_Mo_remember_44 s g20) n (nI i) g) (fun g18 => wr (sI g18 367 8 (gI g18 367 8 - 1)) fun g20 => q_Mo_remember_44 s g20) 373 0 15 _ g1 ?_ ?_ FU (by decide)
      · intro n i hi
        rw [q_Mo_remember_23L_s]
        unfold q_Mo_remember_23
        rw [if_neg (show ¬ (15 : Int32) ≤ nI i from nI_ge hi (by decide)), nI_1, gd_nI (by omega) (by omega), gd_nI (by omega) (by omega), wr_e, nI_clamp (by omega), nI_clamp (by omega), gI_sSeg, if_neg (by omega), Nat.zero_add]
      · intro n
        rw [q_Mo_remember_23L_s]
        unfold q_Mo_remember_23
        rw [if_pos (by decide)]
    rw [L2, wr_e, gI_sSeg, if_neg (by omega), gI_sSeg, if_neg (by omega), h, show nI 16 - 1 = nI 15 from nI_pred 15, rem44 s _ 15 rd_s (by omega)]
    refine ⟨_, rfl, fun x k h1 h2 h3 => ?_, fun k hk => ?_, ?_, rfl, rfl⟩
    · rw [gI_sI, if_neg h3, rd_a h2, gI_sSeg, if_neg (by omega), gI_sI, if_neg h3, gI_sSeg, if_neg (by omega), gI_sSeg, if_neg (by omega)]
    · rw [rd_a (by decide), rd_a (by decide), gI_sSeg, if_neg (by omega), rd_a (by decide), gI_sSeg, if_neg (by omega), gI_sSeg, if_neg (by omega)]
    · intro n' q1 q2
      obtain rfl : n' = 16 := by rw [h, nI_eq (by omega) (by omega)] at q1; exact q1.symm
      refine ⟨rd_s, fun i hi => ?_, ?_, fun h => by omega, fun _ j hj => ⟨fun i hi => ?_, ?_⟩⟩
      · rw [rd_a (by decide), rd_a (by decide), gI_sSeg, if_pos (by omega)]
        rw [show 52 * min 16 15 + i - 52 * 15 = i by omega, rd_a (by decide), gI_sSeg, if_neg (by omega), gI_sSeg, if_neg (by omega)]
      · rw [rd_a (by decide)]; exact rd_s
      · rw [rd_a (by decide), rd_a (by decide), gI_sSeg, if_neg (by omega), rd_a (by decide), gI_sSeg, if_neg (by omega), gI_sSeg, if_pos (by omega)]
        rw [show 52 * j + i - 0 + 52 = 52 * (j + 1) + i by omega]
      · rw [rd_a (by decide), rd_k (by omega), gI_sSeg, if_neg (by omega), rd_a (by decide), gI_sSeg, if_pos (by omega), gI_sSeg, if_neg (by omega), Nat.sub_zero]
  · rw [h, if_neg (by rw [show (16 : Int32) = nI 16 from rfl, nI_eq (by omega) (by omega)]; exact z), rem44 s g n h (by omega)]
    refine ⟨_, rfl, fun x k h1 h2 h3 => ?_, fun k hk => ?_, ?_, rfl, rfl⟩
    · rw [gI_sI, if_neg h3, rd_a h2, gI_sSeg, if_neg (by omega)]
    · rw [rd_a (by decide), rd_a (by decide), gI_sSeg, if_neg (by omega)]
    · intro n' q1 q2
      obtain rfl : n' = n := by rw [h, nI_eq (by omega) (by omega)] at q1; exact q1.symm
      have m15 : min n' 15 = n' := by omega
      rw [m15]
      refine ⟨by rw [rd_s, Nat.min_eq_left (by omega)], fun i hi => ?_, ?_, fun _ j hj => ⟨fun i hi => ?_, ?_⟩, fun h => absurd h z⟩
      · rw [rd_a (by decide), rd_a (by decide), gI_sSeg, if_pos (by omega), Nat.add_sub_cancel_left]
      · rw [rd_a (by decide), rd_s]
      · rw [rd_a (by decide), rd_a (by decide), gI_sSeg, if_neg (by omega)]
      · rw [rd_a (by decide), rd_k (by omega), gI_sSeg, if_neg (by omega)]
theorem pIx_push {p n j : Nat} (hp : p < 16) (hn : n < 16) : pIx ((p + 1) % 16) (n + 1) j = pIx p n j := by unfold pIx; omega
theorem pIx_last {p n : Nat} (hp : p < 16) (hn : n < 16) : pIx p n n = p := by unfold pIx; omega
theorem pIx_full {p j : Nat} (hp : p < 16) (hj : j < 15) : pIx ((p + 1) % 16) 16 j = pIx p 16 (j + 1) := by unfold pIx; omega
theorem pIx_full15 {p : Nat} (hp : p < 16) : pIx ((p + 1) % 16) 16 15 = p := by unfold pIx; omega
theorem pIx_ne {p n j : Nat} (hp : p < 16) (hn : n < 16) (hj : j < n) : pIx p n j ≠ p := by unfold pIx; omega
theorem pIx_ne16 {p j : Nat} (hp : p < 16) (hj : j < 15) : pIx p 16 (j + 1) ≠ p := by unfold pIx; omega
theorem past_push {g g' f f' : hG} {s : Nat} (hs : s ≤ 3) (h : PastRR g f) (hm : MomR g 2 (fun i => gI f 369 (4 + i))) (w : WFr (gI f 369)) (k : KeepS (nI s) g g') (r : RemS (nI s) f f') (e5 : gI f' 369 5 = gI f 369 5) (e6 : gI f' 369 6 = gI f 369 6) : PastRR g' f' := by
  obtain ⟨n, p, h1, h2, h3, h4, h5, h6⟩ := h
  obtain ⟨k1, k2, k3, k4, k5, k6⟩ := k p n h5 h3 h2 h1
  obtain ⟨r1, r2, r3, r4, r5⟩ := r n h4 h1
  have pl : ∀ a b c, pIx a b c < 16 := fun a b c => Nat.mod_lt _ (by omega)
  have new : MomR g' (57 + 5 * p) (fun i => gI f' 372 (52 * min n 15 + i)) ∧ WFm (fun i => gI f' 372 (52 * min n 15 + i)) ∧ (∃ h, h ≤ 999 ∧ gI f' 372 (52 * min n 15) = nI h) ∧ gI f' 372 (52 * min n 15 + 1) = gI f' 369 5 ∧ gI f' 372 (52 * min n 15 + 2) = gI f' 369 6 := by
    refine ⟨(k3 _ hm).ex (fun _ _ _ => rfl) (fun i hi _ _ => r2 i hi), w.1.ex (fun i hi _ _ => r2 i hi), ?_, ?_, ?_⟩
    · rw [show gI f' 372 (52 * min n 15) = gI f 369 4 from r2 0 (by omega)]; exact w.2.1
    · rw [r2 1 (by omega), e5]
    · rw [r2 2 (by omega), e6]
  have old : ∀ j j', j < n → (∀ i, i < 52 → gI f' 372 (52 * j' + i) = gI f 372 (52 * j + i)) → gI f' 373 j' = gI f 373 j → pIx p n j ≠ p → MomR g' (57 + 5 * pIx p n j) (fun i => gI f' 372 (52 * j' + i)) ∧ WFm (fun i => gI f' 372 (52 * j' + i)) ∧ (∃ h, h ≤ 999 ∧ gI f' 372 (52 * j') = nI h) ∧ (∃ s, s ≤ 3 ∧ gI g' 56 (pIx p n j) = nI s ∧ gI f' 373 j' = nI s) ∧ gI f' 372 (52 * j' + 1) = gI f' 369 5 ∧ gI f' 372 (52 * j' + 2) = gI f' 369 6 := by
    intro j j' hj q1 q2 q3
    obtain ⟨o1, o2, o3, o4, o5, o6⟩ := h6 j hj
    refine ⟨o1.ex (fun i k hi => k5 _ k i (pl _ _ _) q3 hi) (fun i hi _ _ => q1 i hi), o2.ex (fun i hi _ _ => q1 i hi), ?_, ?_, ?_, ?_⟩
    · rw [show gI f' 372 (52 * j') = gI f 372 (52 * j) from q1 0 (by omega)]; exact o3
    · rw [k6 _ (pl _ _ _) q3, q2]; exact o4
    · rw [q1 1 (by omega), e5]; exact o5
    · rw [q1 2 (by omega), e6]; exact o6
  by_cases z : n = 16
  · subst z
    refine ⟨16, (p + 1) % 16, by omega, by omega, k2, r1, k1, fun j hj => ?_⟩
    by_cases z2 : j = 15
    · subst z2
      rw [pIx_full15 h2]
      exact ⟨new.1, new.2.1, new.2.2.1, ⟨s, hs, k4, r3⟩, new.2.2.2.1, new.2.2.2.2⟩
    · have hj15 : j < 15 := by omega
      rw [pIx_full h2 hj15]
      exact old (j + 1) j (by omega) (r5 rfl j hj15).1 (r5 rfl j hj15).2 (pIx_ne16 h2 hj15)
  · have hn : n < 16 := by omega
    have m15 : min n 15 = n := by omega
    have m16 : min (n + 1) 16 = n + 1 := by omega
    rw [m15] at new r3
    rw [m16] at k2 r1
    refine ⟨n + 1, (p + 1) % 16, by omega, by omega, k2, r1, k1, fun j hj => ?_⟩
    rw [pIx_push h2 hn]
    by_cases z2 : j = n
    · subst z2
      rw [pIx_last h2 hn]
      exact ⟨new.1, new.2.1, new.2.2.1, ⟨s, hs, k4, r3⟩, new.2.2.2.1, new.2.2.2.2⟩
    · exact old j j (by omega) (r4 hn j (by omega)).1 (r4 hn j (by omega)).2 (pIx_ne h2 hn (by omega))
theorem past_n {g f : hG} (h : PastRR g f) : ∃ p n, p < 16 ∧ n ≤ 16 ∧ gI g 54 3 = nI p ∧ gI g 54 2 = nI n ∧ gI f 367 8 = nI n := by
  obtain ⟨n, p, h1, h2, h3, h4, h5, -⟩ := h
  exact ⟨p, n, h2, h1, h5, h3, h4⟩
