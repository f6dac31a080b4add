/-! orders: both calls -/
section SO
variable {B : Nat → Nat} {n M sz : Nat} {hd : Nat → Nat × Nat} {te : Nat → Den} {su : Nat → Den × Den} {g gb : hG}
/-- what else a call of orders may change -/
def OXc (a k : Nat) : Prop := a = 263 ∨ a = 264 ∨ a = 368 ∨ (a = 367 ∧ (k = 1 ∨ k = 13 ∨ k = 18 ∨ k = 20 ∨ k = 53)) ∨ (a = 235 ∧ k = 1)
theorem ord_inv {g' : hG} (h : Inv g) (hK : RR g' g') (hP : PastR g') (E : ∀ a k, sX a k = false → suK a k = false → suP a k = false → ¬ OXc a k → gI g' a k = gI g a k) (eJ : ∀ a k, (a = 382 ∨ a = 383 ∨ a = 384 ∨ a = 395 ∨ a = 396) → gJ g' a k = gJ g a k) (e20 : gI g' 367 20 = 0) (eT : gI g' 235 1 = 0) (eM : gI g' 367 13 = 0) (eN : NoteR g') : Inv g' := by
  obtain ⟨h1, h2, h3, h4, h5, h6, h7⟩ := h
  refine ⟨hK, hP, h3.ag (fun a k q => E a k (suI_x a k q) ?_ ?_ ?_), ⟨0, by omega, eT, eM, fun j hj => absurd hj (Nat.not_lt_zero _)⟩, eN, h6.ag (fun a k q => E a k (suD_x a k q) ?_ ?_ ?_), h7.ag (e20.trans h7.1.symm) eJ⟩
  · exact Bool.eq_false_iff.mpr (fun y => by simp only [suI, suK, Bool.or_eq_true, Bool.and_eq_true, beq_iff_eq, Nat.ble_eq] at q y; omega)
  · exact Bool.eq_false_iff.mpr (fun y => by simp only [suI, suP, Bool.or_eq_true, Bool.and_eq_true, beq_iff_eq, Nat.ble_eq] at q y; omega)
  · unfold OXc; simp only [suI, Bool.or_eq_true, Bool.and_eq_true, beq_iff_eq, Nat.ble_eq] at q; omega
  · exact Bool.eq_false_iff.mpr (fun y => by simp only [suD, suK, Bool.or_eq_true, Bool.and_eq_true, beq_iff_eq, Nat.ble_eq] at q y; omega)
  · exact Bool.eq_false_iff.mpr (fun y => by simp only [suD, suP, Bool.or_eq_true, Bool.and_eq_true, beq_iff_eq, Nat.ble_eq] at q y; omega)
  · unfold OXc; simp only [suD, Bool.or_eq_true, Bool.and_eq_true, beq_iff_eq, Nat.ble_eq] at q; omega
theorem sBo_f {a k : Nat} (h : sBo a k = false) : sLo a k = false ∧ ¬ (a = 367 ∧ (k = 20 ∨ k = 13 ∨ k = 0)) := by
  refine ⟨by unfold sBo at h; rw [Bool.or_eq_false_iff] at h; exact h.1, ?_⟩
  rintro ⟨rfl, rfl | rfl | rfl⟩ <;> exact absurd h (by decide)
theorem sBo_lo {a k : Nat} (h : a < 367) : sBo a k = false := Bool.eq_false_iff.mpr (fun y => by
  simp only [sBo, sLo, sPm, Bool.or_eq_true, Bool.and_eq_true, beq_iff_eq] at y
  omega)
theorem sBo_X {a k : Nat} (h : sX a k = false) (h2 : ¬ OXc a k) : sBo a k = false := by
  refine Bool.eq_false_iff.mpr (fun q => Bool.eq_false_iff.mp h ?_)
  simp only [sBo, sLo, sPm, Bool.or_eq_true, Bool.and_eq_true, beq_iff_eq] at q
  simp only [sX, sM, sMf, Bool.or_eq_true, Bool.and_eq_true, beq_iff_eq, Nat.ble_eq]
  unfold OXc at h2
  omega
theorem sBo_J {a k : Nat} (z : a = 382 ∨ a = 383 ∨ a = 384 ∨ a = 395 ∨ a = 396) : sBo a k = false ∧ sLo a k = false ∧ sRm a k = false ∧ sRc a k = false := by rcases z with rfl | rfl | rfl | rfl | rfl <;> exact ⟨rfl, rfl, rfl, rfl⟩
def tellK (g55 : hG) : hO Int32 := bnd (q_Mo_tell (gI g55 367 51) g55) fun r59 g57 => some (r59, g57)
def backK (v : Int32) (x60 : Int32) (g62 : hG) : hO Int32 := bnd (q_Mo_giveBack v g62) fun _ g64 => wr (sI g64 367 53 x60) fun g66 => bnd (q_Mo_tell (-3 : Int32) g66) fun r70 g68 => some (r70, g68)
/-- the model's text, read: out of any heap with g's model cells -/
def PreM (g hX fe : hG) : Prop := q_Mo_orders hX = q_Mo_orders_76L tellK (backK (gI fe 367 8)) FU 0 (obH fe) ∧ (∀ a k, sBo a k = false → ¬ (a = 367 ∧ k = 53) → gI fe a k = gI hX a k) ∧ (∀ a k, (a = 382 ∨ a = 383 ∨ a = 384 ∨ a = 395 ∨ a = 396) → gJ fe a k = gJ hX a k) ∧ gI fe 367 53 = -1 ∧ gI fe 367 18 = -1 ∧ gI fe 367 20 = 0 ∧ gI fe 367 13 = 0
theorem ord_pre (hco : CoR g) (hm : TBM B n g) {hX : hG} (mI : ∀ a k, 367 ≤ a → sX a k = false → ¬ OXc a k → gI hX a k = gI g a k) (m13 : gI hX 367 13 = gI g 367 13) (mJ : ∀ a k, (a = 382 ∨ a = 383 ∨ a = 384 ∨ a = 395 ∨ a = 396) → gJ hX a k = gJ g a k) (kM : ∀ (f : hG), PQo B n (nb B n 0) 0 0 f → CoR f → gI f 367 21 = nI 0 → ∃ (pa' : Nat) (len' : Nat) (f' : hG), mO (fun g18 => q_Mo_orders_23 g18) FU f = q_Mo_orders_23 f' ∧ PQo B n n pa' len' f' ∧ Un sLo f f' ∧ gI f' 367 21 = nI M ∧ ∀ j, j < M → DMo f' len' j (hd j) (te j) (su j)) : ∃ fe len, PreM g hX fe ∧ DatM M len hd te su (obH fe) := by
  have h0 : ∀ a k, ¬ (a = 367 ∧ (k = 0 ∨ k = 53)) → gI (sI (sI hX 367 0 0) 367 53 (-1)) a k = gI hX a k := fun a k q => by
    rw [gI_sI, if_neg (by omega), gI_sI, if_neg (by omega)]
  obtain ⟨f1, m1, m2, m3, m4⟩ := begin_o (f := sI (sI hX 367 0 0) 367 53 (-1)) (hm.of ((h0 _ _ (by omega)).trans m13) (fun j => (h0 _ _ (by omega)).trans (mI _ _ (by omega) rfl (by unfold OXc; omega))))
  have c1 : CoR f1 := hco.J (fun a k q => by rw [m4.J (sBo_J q).1, gJ_sI, gJ_sI, mJ a k q])
  obtain ⟨pa', len', f2, n1, n2, n3, n4, n5⟩ := kM f1 m2 c1 m3
  have e := end_oko n2
  have fe : ∀ a k, ¬ (a = 367 ∧ (k = 20 ∨ k = 13)) → gI (sI (sI f2 367 20 0) 367 13 0) a k = gI f2 a k := fun a k q => by
    rw [gI_sI, if_neg (by omega), gI_sI, if_neg (by omega)]
  refine ⟨sI (sI f2 367 20 0) 367 13 0, len', ⟨?_, fun a k q1 q2 => ?_, fun a k q => ?_, ?_, ?_, by rw [rd_k (by decide), rd_s], rd_s⟩, n2.le4, ?_, fun j hj => ?_⟩
  · rw [orders_m, m1, bnd_s, n1]
    exact o23 e ((fe _ _ (by omega)).trans n2.2.2.2.1)
  · obtain ⟨q3, q4⟩ := sBo_f q1
    rw [fe _ _ (by omega), n3.I q3, m4.I q1, h0 _ _ (by omega)]
  · show gJ f2 a k = _
    rw [n3.J (sBo_J q).2.1, m4.J (sBo_J q).1, gJ_sI, gJ_sI]
  · rw [fe _ _ (by omega), n3.I rfl, m4.I rfl, rd_s]
  · rw [fe _ _ (by omega)]; exact n2.2.1.1.2
  · rw [obH_I, if_neg (by omega), if_neg (by omega), if_neg (by omega), if_neg (by omega), if_neg (by omega), fe _ _ (by omega)]; exact n4
  · have r : ∀ a k, a = 397 ∨ a = 378 ∨ a = 379 → gI (obH (sI (sI f2 367 20 0) 367 13 0)) a k = gI f2 a k := fun a k q => by
      rw [obH_I, if_neg (by omega), if_neg (by omega), if_neg (by omega), if_neg (by omega), if_neg (by omega), fe _ _ (by omega)]
    exact (n5 j hj).ex (Nat.le_refl _) (fun k _ => r _ _ (by omega)) (fun j _ => ⟨r _ _ (by omega), r _ _ (by omega)⟩)
theorem ord_rx (h : Inv g) (c : ∀ a k, a ≤ 136 → gI gb a k = gI g a k) {fe : hG} (m : ∀ a k, (a = 369 ∨ (a = 372 ∧ k ≤ 831) ∨ a = 373 ∨ (a = 367 ∧ k = 8)) → gI fe a k = gI g a k) (e20 : gI fe 367 20 = 0) : RX gb (obH fe) :=
  RX.ex (g := g) (f := g) ⟨h.1, h.2.1, h.2.2.2.2.2.2.1⟩ c (fun a k q => by
    rw [obH_I, if_neg (by omega), if_neg (by omega), if_neg (by omega), if_neg (by omega), if_neg (by omega)]
    exact m a k q) (by
    rw [obH_I, if_neg (by omega), if_neg (by omega), if_neg (by omega), if_neg (by omega), if_neg (by omega)]
    exact e20)
/-- the class ahead of its first order -/
def PreC (g gb : hG) : Prop := (∀ a k, sX a k = false → ¬ (a = 263 ∧ (k = 2 ∨ k = 3)) → ¬ (a = 235 ∧ k = 1) → gI gb a k = gI g a k) ∧ gI gb 263 2 = -1 ∧ gI gb 263 3 = -1 ∧ gI gb 235 1 = 0 ∧ (∀ a k, (a = 382 ∨ a = 383 ∨ a = 384 ∨ a = 395 ∨ a = 396) → gJ gb a k = gJ g a k) ∧ MomR gb 220 (fun i => gI g 369 (4 + i)) ∧ (∀ k, k < 16 → (∀ r, MomR g (57 + 5 * k) r → MomR gb (140 + 5 * k) r) ∧ gI gb 139 k = gI g 56 k) ∧ gI gb 137 2 = gI g 54 2 ∧ gI gb 137 3 = gI g 54 3 ∧
  q_MP_orders g = bnd (q_MP_carryOut gb) fun r17 g15 => if r17 = (-1 : Int32) then (bnd (q_Mom_copy 2 220 g15) fun _ g22 => bnd (q_Past_copy 54 137 g22) fun _ g24 => bnd (q_Notes_refuse (-3 : Int32) g24) fun r28 g26 => some (r28, g26)) else (bnd (q_Notes_grant r17 g15) fun r21 g19 => some (r21, g19))
theorem cls_pre (h : Inv g) {gA : hG} (r1 : q_Rd_read 240 1 g = some (-1, gA)) (r2 : Un sX g gA) (k1 : gI gA 240 2 = nI M) (k2 : gI gA 240 1 = nI sz) (k3 : sz ≤ 402) (hM : M ≤ 12) (k4 : ∀ j, j < M → DCo gA 240 sz j (hd j) (te j) (su j)) : ∃ gb, PreC g gb ∧ DatC M sz hd te su gb := by
  let g8 := sI (sI (sI gA 263 2 (-1)) 263 3 (-1)) 235 1 0
  have e8 : ∀ a k, ¬ (a = 263 ∧ (k = 2 ∨ k = 3)) → ¬ (a = 235 ∧ k = 1) → gI g8 a k = gI gA a k := fun a k q1 q2 => by
    show gI (sI (sI (sI gA 263 2 (-1)) 263 3 (-1)) 235 1 0) a k = _
    rw [gI_sI, if_neg q2, gI_sI, if_neg (by omega), gI_sI, if_neg (by omega)]
  obtain ⟨ga, a1, a2, a3, a4, a5⟩ := momcopy 220 2 g8 (by omega)
  obtain ⟨gb, b1, b2, b3, b4, b5, b6, b7⟩ := pastcopy 137 54 ga (Or.inl ⟨rfl, rfl⟩)
  have eb : ∀ a k, sX a k = false → gI gb a k = gI g8 a k := fun a k q => by
    have q' : ¬ (137 ≤ a ∧ a ≤ 229) := fun y => by
      refine Bool.eq_false_iff.mp q ?_
      simp only [sX, sC, Bool.or_eq_true, Bool.and_eq_true, beq_iff_eq, Nat.ble_eq]
      omega
    rw [b2 _ _ (by omega), a2 _ _ (by omega)]
  have m2 : MomR g8 2 (fun i => gI g 369 (4 + i)) := (show MomR g 2 (fun i => gI g 369 (4 + i)) from h.1.1.1).ex (fun j k hj => (e8 _ _ (by omega) (by omega)).trans (r2.I (suK_x _ _ (by simp [suK]; omega)))) (fun _ _ _ _ => rfl)
  have p54 : ∀ a k, 54 ≤ a → a ≤ 136 → gI ga a k = gI g a k := fun a k q1 q2 => by
    rw [a2 _ _ (by omega), e8 _ _ (by omega) (by omega), r2.I (suP_x _ _ (by simp [suP]; omega))]
  refine ⟨gb, ⟨fun a k q1 q2 q3 => ?_, ?_, ?_, ?_, fun a k q => ?_, ?_, fun k hk => ⟨fun r hr => ?_, ?_⟩, ?_, ?_, ?_⟩, ?_⟩
  · rw [eb a k q1, e8 a k q2 q3, r2.I q1]
  · rw [eb _ _ rfl]
    show gI (sI (sI (sI gA 263 2 (-1)) 263 3 (-1)) 235 1 0) 263 2 = _
    rw [rd_a (by decide), rd_k (by decide), rd_s]
  · rw [eb _ _ rfl]
    show gI (sI (sI (sI gA 263 2 (-1)) 263 3 (-1)) 235 1 0) 263 3 = _
    rw [rd_a (by decide), rd_s]
  · rw [eb _ _ rfl]
    exact rd_s
  · rw [b6, a4]
    show gJ gA a k = _
    exact r2.J (sX_J q)
  · exact (a3 _ m2).ex (fun j y hj => b2 _ _ (by omega)) (fun _ _ _ _ => rfl)
  · have mm : MomR ga (54 + 3 + 5 * k) r := hr.ex (fun j y hj => by rw [show 54 + 3 + 5 * k + j = 57 + 5 * k + j by omega]; exact p54 _ _ (by omega) (by omega)) (fun _ _ _ _ => rfl)
    have := (b3 k hk).1 r mm
    rw [show 137 + 3 + 5 * k = 140 + 5 * k by omega] at this
    exact this
  · exact (b3 k hk).2.trans (p54 _ _ (by omega) (by omega))
  · exact b4.trans (p54 _ _ (by omega) (by omega))
  · exact b5.trans (p54 _ _ (by omega) (by omega))
  · unfold q_MP_orders
    rw [r1, bnd_s, wr_e, wr_e, wr_e, if_pos (show gI (sI (sI (sI gA 263 2 (-1)) 263 3 (-1)) 235 1 0) 263 2 = -1 by rw [rd_a (by decide), rd_k (by decide), rd_s])]
    show bnd (q_Mom_copy 220 2 g8) _ = _
    rw [a1, bnd_s, b1, bnd_s]
  · have c : ∀ a k, 240 ≤ a → a ≤ 246 → gI gb a k = gI gA a k := fun a k q1 q2 => by
      rw [b2 _ _ (by omega), a2 _ _ (by omega), e8 _ _ (by omega) (by omega)]
    exact ⟨(c _ _ (by omega) (by omega)).trans k2, k3, (c _ _ (by omega) (by omega)).trans k1, hM, fun j hj => (k4 j hj).ex (Nat.le_refl _) (fun a q1 q2 => c _ _ (by omega) (by omega)) (fun i _ => c _ _ (by omega) (by omega))⟩
/-- both over the orders, whatever heap the model begins with -/
theorem run_x (h : Inv g) (hC : PreC g gb) (hD : DatC M sz hd te su gb) {hX fe : hG} {len : Nat} (hP : PreM g hX fe) (hM : DatM M len hd te su (obH fe)) (mI : ∀ a k, 367 ≤ a → sX a k = false → ¬ OXc a k → gI hX a k = gI g a k) : LX3 gb (obH fe) (fun k111 k91 => q_MP_carryOut_6L k111 k91 FU 0 (-1) 0 gb) (fun k112 k98 => q_Mo_orders_76L k112 k98 FU 0 (obH fe)) := by
  have hR : RX gb (obH fe) := ord_rx h (fun a k q => hC.1 a k (Bool.eq_false_iff.mpr (fun y => by
      simp only [sX, sC, sM, Bool.or_eq_true, Bool.and_eq_true, beq_iff_eq, Nat.ble_eq] at y
      omega)) (by omega) (by omega)) (fun a k q => by
    have q1 : sX a k = false := Bool.eq_false_iff.mpr (fun y => by
      simp only [sX, sC, sM, sMf, Bool.or_eq_true, Bool.and_eq_true, beq_iff_eq, Nat.ble_eq] at y
      omega)
    have q2 : ¬ OXc a k := by unfold OXc; omega
    rw [hP.2.1 a k (sBo_X q1 q2) (by omega), mI a k (by omega) q1 q2]) hP.2.2.2.2.2.1
  have h12 := hD.2.2.2.1
  exact ordersL_x M 0 FU FU 0 (-1) gb (obH fe) (by omega) (Nat.lt_of_le_of_lt h12 (by decide)) (Nat.lt_of_le_of_lt h12 (by decide)) (by omega) (by decide) hR hD hM (by rw [obH_I, if_neg (by omega), if_pos ⟨rfl, rfl⟩]; rfl) (by rw [obH_I, if_pos ⟨rfl, rfl⟩])
end SO
