/-! orders: what is copied ahead, and given back -/
section OP
variable {g f g' f' : hG}
theorem pastcopy (a b : Nat) (g : hG) (h : (a = 137 ∧ b = 54) ∨ (a = 54 ∧ b = 137)) : ∃ g', q_Past_copy a b g = some ((), g') ∧ (∀ x k, ¬ (a ≤ x ∧ x ≤ a + 82) → gI g' x k = gI g x k) ∧ (∀ k, k < 16 → (∀ r, MomR g (b + 3 + 5 * k) r → MomR g' (a + 3 + 5 * k) r) ∧ gI g' (a + 2) k = gI g (b + 2) k) ∧ gI g' a 2 = gI g b 2 ∧ gI g' a 3 = gI g b 3 ∧ gJ g' = gJ g ∧ gP g' = gP g := by
  have key : ∀ (m i F : Nat) (ga : hG), i + m = 16 → m < F → (∀ x k, ¬ (a ≤ x ∧ x ≤ a + 82) → gI ga x k = gI g x k) → (∀ k, k < i → (∀ r, MomR g (b + 3 + 5 * k) r → MomR ga (a + 3 + 5 * k) r) ∧ gI ga (a + 2) k = gI g (b + 2) k) → gJ ga = gJ g → gP ga = gP g → ∃ g', q_Past_copy_2L a b (fun g9 => wr (sI g9 a 2 (gI g9 b 2)) fun g11 => wr (sI g11 a 3 (gI g11 b 3)) fun g13 => some ((), g13)) F (nI i) ga = some ((), g') ∧ (∀ x k, ¬ (a ≤ x ∧ x ≤ a + 82) → gI g' x k = gI g x k) ∧ (∀ k, k < 16 → (∀ r, MomR g (b + 3 + 5 * k) r → MomR g' (a + 3 + 5 * k) r) ∧ gI g' (a + 2) k = gI g (b + 2) k) ∧ gI g' a 2 = gI g b 2 ∧ gI g' a 3 = gI g b 3 ∧ gJ g' = gJ g ∧ gP g' = gP g := by
    intro m
    induction m with
    | zero =>
      intro i F ga h1 h2 e1 e2 e3 e4
      obtain ⟨F, rfl⟩ : ∃ q, F = q + 1 := ⟨F - 1, by omega⟩
      obtain rfl : i = 16 := by omega
      refine ⟨sI (sI ga a 2 (gI ga b 2)) a 3 (gI (sI ga a 2 (gI ga b 2)) b 3), ?_, fun x k q => ?_, fun k hk => ⟨fun r hr => ?_, ?_⟩, ?_, ?_, e3, e4⟩
      · rw [q_Past_copy_2L_s]
        unfold q_Past_copy_2
        rw [if_pos (by decide)]
        rfl
      · rw [gI_sI, if_neg (by omega), gI_sI, if_neg (by omega), e1 x k q]
      · exact ((e2 k hk).1 r hr).ex (fun j y hj => by rw [gI_sI, if_neg (by omega), gI_sI, if_neg (by omega)]) (fun _ _ _ _ => rfl)
      · rw [gI_sI, if_neg (by omega), gI_sI, if_neg (by omega)]; exact (e2 k hk).2
      · rw [rd_k (by decide), rd_s, e1 b 2 (by omega)]
      · rw [rd_s, rd_a (by omega), e1 b 3 (by omega)]
    | succ m ih =>
      intro i F ga h1 h2 e1 e2 e3 e4
      obtain ⟨F, rfl⟩ : ∃ q, F = q + 1 := ⟨F - 1, by omega⟩
      obtain ⟨gb, b1, b2, b3, b4, b5⟩ := momcopy (a + 3 + 5 * i) (b + 3 + 5 * i) ga (by omega)
      rw [q_Past_copy_2L_s]
      unfold q_Past_copy_2
      rw [if_neg (show ¬ (16 : Int32) ≤ nI i from nI_ge (a := i) (b := 16) (by omega) (by decide)), gd_nI (by omega) (by omega), gd_nI (by omega) (by omega), nI_clamp (by omega), b1, bnd_s, gd_nI (by omega) (by omega), gd_nI (by omega) (by omega), wr_e, nI_1]
      refine ih (i + 1) F _ (by omega) (by omega) (fun x k q => ?_) (fun k hk => ?_) (b4.trans e3) (b5.trans e4)
      · rw [gI_sI, if_neg (by omega), b2 x k (by omega), e1 x k q]
      · by_cases z : k = i
        · subst z
          refine ⟨fun r hr => ?_, ?_⟩
          · have m1 : MomR ga (b + 3 + 5 * k) r := hr.ex (fun j y hj => e1 _ _ (by omega)) (fun _ _ _ _ => rfl)
            exact (b3 r m1).ex (fun j y hj => by rw [gI_sI, if_neg (by omega)]) (fun _ _ _ _ => rfl)
          · rw [rd_s, b2 _ _ (by omega), e1 _ _ (by omega)]
        · obtain ⟨c1, c2⟩ := e2 k (by omega)
          refine ⟨fun r hr => (c1 r hr).ex (fun j y hj => by rw [gI_sI, if_neg (by omega), b2 _ _ (by omega)]) (fun _ _ _ _ => rfl), ?_⟩
          rw [rd_k z, b2 _ _ (by omega)]
          exact c2
  unfold q_Past_copy
  exact key 16 0 FU g (by omega) (by decide) (fun _ _ _ => rfl) (fun k hk => absurd hk (Nat.not_lt_zero _)) rfl rfl
/-- the model's copies ahead -/
theorem o40 (K : hG → hO Int32) (f : hG) : q_Mo_orders_40L K FU 0 f = K (sSeg f 374 0 832 (gI f 372)) := by
  have e : ∀ j k, gI (sSeg f 374 0 j (gI f 372)) 372 k = gI f 372 k := fun j k => by rw [gI_sSeg, if_neg (by omega)]
  refine copy_loop (fun n g j => q_Mo_orders_40L K n (nI j) g) K 374 0 832 _ f ?_ ?_ FU (by decide)
  · intro n j hj
    rw [q_Mo_orders_40L_s]
    unfold q_Mo_orders_40
    rw [if_neg (show ¬ (832 : Int32) ≤ nI j from nI_ge hj (by decide)), gd_nI (by omega) (by omega), gd_nI (by omega) (by omega), wr_e, nI_clamp (by omega), nI_1, e, Nat.zero_add]
  · intro n
    rw [q_Mo_orders_40L_s]
    unfold q_Mo_orders_40
    rw [if_pos (by decide)]
theorem o55 (K : hG → hO Int32) (f : hG) : q_Mo_orders_55L K FU 0 f = K (sSeg f 375 0 16 (gI f 373)) := by
  have e : ∀ j k, gI (sSeg f 375 0 j (gI f 373)) 373 k = gI f 373 k := fun j k => by rw [gI_sSeg, if_neg (by omega)]
  refine copy_loop (fun n g j => q_Mo_orders_55L K n (nI j) g) K 375 0 16 _ f ?_ ?_ FU (by decide)
  · intro n j hj
    rw [q_Mo_orders_55L_s]
    unfold q_Mo_orders_55
    rw [if_neg (show ¬ (16 : Int32) ≤ nI j from nI_ge hj (by decide)), gd_nI (by omega) (by omega), gd_nI (by omega) (by omega), wr_e, nI_clamp (by omega), nI_1, e, Nat.zero_add]
  · intro n
    rw [q_Mo_orders_55L_s]
    unfold q_Mo_orders_55
    rw [if_pos (by decide)]
theorem o5 (K : hG → hO Unit) (f : hG) : q_Mo_giveBack_5L K FU 0 f = K (sSeg f 372 0 832 (gI f 374)) := by
  have e : ∀ j k, gI (sSeg f 372 0 j (gI f 374)) 374 k = gI f 374 k := fun j k => by rw [gI_sSeg, if_neg (by omega)]
  refine copy_loop (fun n g j => q_Mo_giveBack_5L K n (nI j) g) K 372 0 832 _ f ?_ ?_ FU (by decide)
  · intro n j hj
    rw [q_Mo_giveBack_5L_s]
    unfold q_Mo_giveBack_5
    rw [if_neg (show ¬ (832 : Int32) ≤ nI j from nI_ge hj (by decide)), gd_nI (by omega) (by omega), gd_nI (by omega) (by omega), wr_e, nI_clamp (by omega), nI_1, e, Nat.zero_add]
  · intro n
    rw [q_Mo_giveBack_5L_s]
    unfold q_Mo_giveBack_5
    rw [if_pos (by decide)]
theorem o20 (K : hG → hO Unit) (f : hG) : q_Mo_giveBack_20L K FU 0 f = K (sSeg f 373 0 16 (gI f 375)) := by
  have e : ∀ j k, gI (sSeg f 373 0 j (gI f 375)) 375 k = gI f 375 k := fun j k => by rw [gI_sSeg, if_neg (by omega)]
  refine copy_loop (fun n g j => q_Mo_giveBack_20L K n (nI j) g) K 373 0 16 _ f ?_ ?_ FU (by decide)
  · intro n j hj
    rw [q_Mo_giveBack_20L_s]
    unfold q_Mo_giveBack_20
    rw [if_neg (show ¬ (16 : Int32) ≤ nI j from nI_ge hj (by decide)), gd_nI (by omega) (by omega), gd_nI (by omega) (by omega), wr_e, nI_clamp (by omega), nI_1, e, Nat.zero_add]
  · intro n
    rw [q_Mo_giveBack_20L_s]
    unfold q_Mo_giveBack_20
    rw [if_pos (by decide)]
def gbH (v : Int32) (f : hG) : hG := sI (sSeg (sSeg (sSeg f 369 4 52 (fun i => gI f 372 (884 + i))) 372 0 832 (gI f 374)) 373 0 16 (gI f 375)) 367 8 v
theorem give_m (v : Int32) (f : hG) : q_Mo_giveBack v f = some ((), gbH v f) := by
  unfold q_Mo_giveBack gbH
  rw [show (17 : Int32) = nI 17 from rfl, putBack_e 17 (by omega), bnd_s, o5, o20, wr_e]
  have e1 : gI (sSeg f 369 4 52 (fun i => gI f 372 (52 * 17 + i))) 374 = gI f 374 := funext (fun k => by rw [gI_sSeg, if_neg (by omega)])
  have e2 : gI (sSeg (sSeg f 369 4 52 (fun i => gI f 372 (52 * 17 + i))) 372 0 832 (gI f 374)) 375 = gI f 375 := funext (fun k => by rw [gI_sSeg, if_neg (by omega), gI_sSeg, if_neg (by omega)])
  rw [e1, e2]
theorem gbH_I (v : Int32) (f : hG) {a k : Nat} : gI (gbH v f) a k = if a = 367 ∧ k = 8 then v else if a = 373 ∧ k < 16 then gI f 375 k else if a = 372 ∧ k < 832 then gI f 374 k else if a = 369 ∧ 4 ≤ k ∧ k < 56 then gI f 372 (884 + (k - 4)) else gI f a k := by
  unfold gbH
  rw [gI_sI, gI_sSeg, gI_sSeg, gI_sSeg]
  by_cases z1 : a = 367 ∧ k = 8
  · rw [if_pos z1, if_pos z1]
  · rw [if_neg z1, if_neg z1]
    by_cases z2 : a = 373 ∧ k < 16
    · rw [if_pos z2, if_pos ⟨z2.1, by omega, by omega⟩, Nat.sub_zero]
    · rw [if_neg z2, if_neg (by omega)]
      by_cases z3 : a = 372 ∧ k < 832
      · rw [if_pos z3, if_pos ⟨z3.1, by omega, by omega⟩, Nat.sub_zero]
      · rw [if_neg z3, if_neg (by omega)]
/-- the model's copies, put together: the heap that the orders begin with -/
def okH (f : hG) : hG := sSeg f 372 (52 * 17) 52 (fun i => gI f 369 (4 + i))
def olH (f : hG) : hG := sSeg (okH f) 374 0 832 (gI (okH f) 372)
def obH (f : hG) : hG := sI (sI (sSeg (olH f) 375 0 16 (gI (olH f) 373)) 367 51 0) 367 52 (-1)
theorem okH_I (f : hG) {a k : Nat} : gI (okH f) a k = if a = 372 ∧ 884 ≤ k ∧ k < 936 then gI f 369 (4 + (k - 884)) else gI f a k := by
  unfold okH
  rw [gI_sSeg]
theorem olH_I (f : hG) {a k : Nat} : gI (olH f) a k = if a = 374 ∧ k < 832 then gI f 372 k else gI (okH f) a k := by
  unfold olH
  rw [gI_sSeg]
  by_cases z : a = 374 ∧ k < 832
  · rw [if_pos z, if_pos ⟨z.1, by omega, by omega⟩, Nat.sub_zero, okH_I, if_neg (by omega)]
  · rw [if_neg z, if_neg (by omega)]
theorem obH_I (f : hG) {a k : Nat} : gI (obH f) a k = if a = 367 ∧ k = 52 then -1 else if a = 367 ∧ k = 51 then 0 else if a = 375 ∧ k < 16 then gI f 373 k else if a = 374 ∧ k < 832 then gI f 372 k else if a = 372 ∧ 884 ≤ k ∧ k < 936 then gI f 369 (4 + (k - 884)) else gI f a k := by
  unfold obH
  rw [gI_sI, gI_sI, gI_sSeg]
  by_cases z1 : a = 367 ∧ k = 52
  · rw [if_pos z1, if_pos z1]
  · rw [if_neg z1, if_neg z1]
    by_cases z0 : a = 367 ∧ k = 51
    · rw [if_pos z0, if_pos z0]
    · rw [if_neg z0, if_neg z0]
      by_cases z2 : a = 375 ∧ k < 16
      · rw [if_pos z2, if_pos ⟨z2.1, by omega, by omega⟩, Nat.sub_zero, olH_I, if_neg (by omega), okH_I, if_neg (by omega)]
      · rw [if_neg z2, if_neg (by omega), olH_I, okH_I]
theorem obH_J (f : hG) : gJ (obH f) = gJ f := rfl
theorem gbH_J (v : Int32) (f : hG) : gJ (gbH v f) = gJ f := rfl
/-- the model's orders() behind a text that can be read -/
theorem o23 {f f1 : hG} (he : q_Mo_endText f = some ((), f1)) (h19 : gI f1 367 19 = 0) : q_Mo_orders_23 f = q_Mo_orders_76L (fun g55 => bnd (q_Mo_tell (gI g55 367 51) g55) fun r59 g57 => some (r59, g57)) (fun x60 g62 => bnd (q_Mo_giveBack (gI f1 367 8) g62) fun _ g64 => wr (sI g64 367 53 x60) fun g66 => bnd (q_Mo_tell (-3 : Int32) g66) fun r70 g68 => some (r70, g68)) FU 0 (obH f1) := by
  have e1 : gI (sSeg f1 372 (52 * 17) 52 (fun i => gI f1 369 (4 + i))) 367 8 = gI f1 367 8 := by rw [gI_sSeg, if_neg (by omega)]
  unfold q_Mo_orders_23
  rw [he, bnd_s, if_pos h19, show (17 : Int32) = nI 17 from rfl, keepAll_e 17 (by omega), bnd_s, o40, o55, wr_e, wr_e, e1]
  rfl
end OP
