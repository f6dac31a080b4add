/-! orders: one could not be: all is given back -/
section SR
variable {B : Nat → Nat} {n M sz : Nat} {hd : Nat → Nat × Nat} {te : Nat → Den} {su : Nat → Den × Den} {g gb : hG}
/-- the class gives back -/
theorem cls_back (hC : PreC g gb) {j : Nat} {gc : hG} (hc : ∀ k111 k91, q_MP_carryOut_6L k111 k91 FU 0 (-1) 0 gb = k91 (nI j) gc) (hu : Un sRc gb gc) (h2 : MomR g 2 (fun i => gI g 369 (4 + i))) : ∃ gE, q_MP_orders g = some (-3, gE) ∧ (∀ a k, ¬ (2 ≤ a ∧ a ≤ 6) → ¬ (54 ≤ a ∧ a ≤ 136) → ¬ (a = 263 ∧ (k = 1 ∨ k = 3)) → ¬ (a = 264 ∧ k = 3) → gI gE a k = gI gc a k) ∧ MomR gE 2 (fun i => gI g 369 (4 + i)) ∧ (∀ k, k < 16 → (∀ r, MomR g (57 + 5 * k) r → MomR gE (57 + 5 * k) r) ∧ gI gE 56 k = gI g 56 k) ∧ gI gE 54 2 = gI g 54 2 ∧ gI gE 54 3 = gI g 54 3 ∧ gI gE 263 1 = -3 ∧ gI gE 263 3 = nI j ∧ gI gE 264 3 = gI gc 264 3 + 1 ∧ gJ gE = gJ gc := by
  obtain ⟨c1, c2, c3, c4, c5, c6, c7, c8, c9, c10⟩ := hC
  have s1 : ∀ a k, 137 ≤ a → a ≤ 224 → gI (sI gc 263 3 (nI j)) a k = gI gb a k := fun a k q1 q2 => by rw [rd_a (by omega), hu.I (sRc_137 (by omega) (by omega))]
  obtain ⟨g1, d1, d2, d3, d4, d5⟩ := momcopy 2 220 (sI gc 263 3 (nI j)) (by omega)
  obtain ⟨g2, p1, p2, p3, p4, p5, p6, p7⟩ := pastcopy 54 137 g1 (Or.inr ⟨rfl, rfl⟩)
  have nE : ∀ a k, ¬ (a = 263 ∧ k = 1) → ¬ (a = 264 ∧ k = 3) → gI (nC (-3) 3 g2) a k = gI g2 a k := fun a k q1 q2 => by
    unfold nC
    rw [gI_sI, if_neg q2, gI_sI, if_neg q1]
  refine ⟨nC (-3) 3 g2, ?_, fun a k q1 q2 q3 q4 => ?_, ?_, fun k hk => ⟨fun r hr => ?_, ?_⟩, ?_, ?_, ?_, ?_, ?_, ?_⟩
  · rw [c10]
    unfold q_MP_carryOut
    rw [hc]
    rw [wr_e, bnd_s, if_pos rfl, d1, bnd_s, p1, bnd_s, rf_3, bnd_s]
  · rw [nE _ _ (by omega) q4, p2 _ _ (by omega), d2 _ _ (by omega), gI_sI, if_neg (by omega)]
  · have m1 : MomR (sI gc 263 3 (nI j)) 220 (fun i => gI g 369 (4 + i)) := c6.ex (fun i y hi => s1 _ _ (by omega) (by omega)) (fun _ _ _ _ => rfl)
    exact (d3 _ m1).ex (fun i y hi => by rw [nE _ _ (by omega) (by omega), p2 _ _ (by omega)]) (fun _ _ _ _ => rfl)
  · have m1 : MomR g1 (137 + 3 + 5 * k) r := by
      rw [show 137 + 3 + 5 * k = 140 + 5 * k by omega]
      exact ((c7 k hk).1 r hr).ex (fun i y hi => by rw [d2 _ _ (by omega), s1 _ _ (by omega) (by omega)]) (fun _ _ _ _ => rfl)
    have m2 := (p3 k hk).1 r m1
    rw [show 54 + 3 + 5 * k = 57 + 5 * k by omega] at m2
    exact m2.ex (fun i y hi => nE _ _ (by omega) (by omega)) (fun _ _ _ _ => rfl)
  · rw [nE _ _ (by omega) (by omega)]
    exact (p3 k hk).2.trans ((d2 _ _ (by omega)).trans ((s1 _ _ (by omega) (by omega)).trans (c7 k hk).2))
  · rw [nE _ _ (by omega) (by omega), p4, d2 _ _ (by omega), s1 _ _ (by omega) (by omega), c8]
  · rw [nE _ _ (by omega) (by omega), p5, d2 _ _ (by omega), s1 _ _ (by omega) (by omega), c9]
  · unfold nC
    rw [rd_a (by decide), rd_s]
  · rw [nE _ _ (by omega) (by omega), p2 _ _ (by omega), d2 _ _ (by omega), rd_s]
  · unfold nC
    rw [rd_s, p2 _ _ (by omega), d2 _ _ (by omega), rd_a (by decide)]
  · unfold nC
    rw [gJ_sI, gJ_sI, p6, d4, gJ_sI]
def gaH (v w : Int32) (f : hG) : hG := nM (-3) 3 (sI (gbH v f) 367 53 w)
theorem back_m (v w : Int32) (f : hG) : backK v w f = some (-3, gaH v w f) := by
  unfold backK gaH
  rw [give_m, bnd_s, wr_e, te_3, bnd_s]
theorem gaH_J (v w : Int32) (f : hG) : gJ (gaH v w f) = gJ f := by
  unfold gaH nM
  rw [gJ_sI, gJ_sI, gJ_sI, gbH_J]
theorem gaH_n (v w : Int32) (f : hG) {a k : Nat} (h1 : ¬ (a = 367 ∧ (k = 1 ∨ k = 53))) (h2 : ¬ (a = 368 ∧ k = 3)) : gI (gaH v w f) a k = gI (gbH v f) a k := by
  unfold gaH nM
  rw [gI_sI, if_neg h2, gI_sI, if_neg (by omega), gI_sI, if_neg (by omega)]
theorem gbH_n (v : Int32) (f : hG) {a k : Nat} (h1 : ¬ (a = 367 ∧ k = 8)) (h2 : ¬ (a = 373 ∧ k < 16)) (h3 : ¬ (a = 372 ∧ k < 832)) (h4 : ¬ (a = 369 ∧ 4 ≤ k ∧ k < 56)) : gI (gbH v f) a k = gI f a k := by
  rw [gbH_I, if_neg h1, if_neg h2, if_neg h3, if_neg h4]
theorem sRm_52 {k : Nat} (h : 832 ≤ k) : sRm 372 k = false := Bool.eq_false_iff.mpr (fun y => by
  simp only [sRm, sAm, sV, sT, Bool.or_eq_true, Bool.and_eq_true, beq_iff_eq, Nat.ble_eq] at y
  omega)
theorem sRm_kp {a k : Nat} (h : a = 374 ∨ a = 375 ∨ a = 368 ∨ (a = 369 ∧ ¬ (4 ≤ k ∧ k < 56)) ∨ (a = 367 ∧ (k = 11 ∨ k = 13 ∨ k = 18 ∨ k = 53))) : sRm a k = false := Bool.eq_false_iff.mpr (fun y => by
  simp only [sRm, sAm, sV, sT, Bool.or_eq_true, Bool.and_eq_true, beq_iff_eq, Nat.ble_eq] at y
  omega)
end SR
