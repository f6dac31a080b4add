/-! orders: the call -/
section SR
variable {B : Nat → Nat} {n M sz : Nat} {hd : Nat → Nat × Nat} {te : Nat → Den} {su : Nat → Den × Den} {g gb : hG}
theorem ord_no (h : Inv g) (hco : CoR g) (hm : TBM B n g) (hC : PreC g gb) (hD : DatC M sz hd te su gb) (kM : ∀ (f : hG), PQo B n (nb B n 0) 0 0 f → CoR f → gI f 367 21 = nI 0 → ∃ (pa' : Nat) (len' : Nat) (f' : hG), mO (fun g18 => q_Mo_orders_23 g18) FU f = q_Mo_orders_23 f' ∧ PQo B n n pa' len' f' ∧ Un sLo f f' ∧ gI f' 367 21 = nI M ∧ ∀ j, j < M → DMo f' len' j (hd j) (te j) (su j)) {j : Nat} {gc : hG} (hc : ∀ k111 k91, q_MP_carryOut_6L k111 k91 FU 0 (-1) 0 gb = k91 (nI j) gc) (hu : Un sRc gb gc) : Sp q_MP_orders q_Mo_orders g := by
  obtain ⟨gE, cl, e1, e2, e3, e4, e5, e6, e7, e8, e9⟩ := cls_back hC hc hu h.1.1.1
  obtain ⟨c1, c2, c3, c4, c5, c6, c7, c8, c9, c10⟩ := id hC
  obtain ⟨hn1, hn2, hn3, hn4, hn5⟩ := h.2.2.2.2.1
  have cE : ∀ a k, 254 ≤ a → ¬ (a = 263 ∧ (k = 1 ∨ k = 3)) → ¬ (a = 264 ∧ k = 3) → gI gE a k = gI gb a k := fun a k q1 q2 q3 => by
    rw [e1 a k (by omega) (by omega) q2 q3, hu.I (sRc_hi q1)]
  have mI : ∀ a k, 367 ≤ a → sX a k = false → ¬ OXc a k → gI gE a k = gI g a k := fun a k q1 q2 q3 => by
    rw [cE a k (by omega) (by omega) (by omega), c1 a k q2 (by omega) (by omega)]
  have J0 : ∀ a k, (a = 382 ∨ a = 383 ∨ a = 384 ∨ a = 395 ∨ a = 396) → gJ gE a k = gJ g a k := fun a k q => by
    rw [e9, hu.J (sBo_J q).2.2.2, c5 a k q]
  obtain ⟨fe, len, hP, hM⟩ := ord_pre hco hm mI (by rw [cE _ _ (by omega) (by omega) (by omega), c1 _ _ rfl (by omega) (by omega)]) J0 kM
  obtain ⟨P1, P2, P3, P4, P5, P6, P7⟩ := id hP
  rcases run_x h hC hD hP hM mI with ⟨x', gc', fc, a1, a2, a3, a4, a5, a6, a7⟩ | ⟨j', gc', fc, a1, a2, a3, a4, a5⟩
  · have e := (hc (fun _ _ => none) (fun v g => some (v, g))).symm.trans (a1 (fun _ _ => none) (fun v g => some (v, g)))
    cases e
  · have e := (hc (fun _ _ => none) (fun v g => some (v, g))).symm.trans (a1 (fun _ _ => none) (fun v g => some (v, g)))
    injection e with e
    injection e with ex eg
    have mo : q_Mo_orders gE = some (-3, gaH (gI fe 367 8) (nI j) fc) := by
      rw [ex]
      exact (P1.trans (a2 tellK (backK (gI fe 367 8)))).trans (back_m _ _ _)
    -- rows of the model's text, as g has them
    have fg : ∀ a k, 367 ≤ a → sX a k = false → ¬ OXc a k → gI fe a k = gI g a k := fun a k q1 q2 q3 => by
      rw [P2 a k (sBo_X q2 q3) (by unfold OXc at q3; omega), mI a k q1 q2 q3]
    generalize hv : gI fe 367 8 = v at *
    have lo : ∀ a k, a < 367 → gI (gaH v (nI j) fc) a k = gI gE a k := fun a k q => by
      rw [gaH_n _ _ _ (by omega) (by omega), gbH_n _ _ (by omega) (by omega) (by omega) (by omega), a4.I (sRm_lo q), obH_n (by omega) (by omega) (by omega) (by omega), P2 a k (sBo_lo q) (by omega)]
    have r369 : ∀ k, gI (gaH v (nI j) fc) 369 k = gI g 369 k := fun k => by
      rw [gaH_n _ _ _ (by omega) (by omega)]
      by_cases z : 4 ≤ k ∧ k < 56
      · rw [gbH_I, if_neg (by omega), if_neg (by omega), if_neg (by omega), if_pos ⟨rfl, z⟩, a4.I (sRm_52 (by omega)), obH_I, if_neg (by omega), if_neg (by omega), if_neg (by omega), if_neg (by omega), if_pos ⟨rfl, by omega, by omega⟩, show 4 + (884 + (k - 4) - 884) = k by omega]
        exact fg _ _ (by omega) rfl (by unfold OXc; omega)
      · rw [gbH_n _ _ (by omega) (by omega) (by omega) (by omega), a4.I (sRm_kp (by omega)), obH_n (by omega) (by omega) (by omega) (by omega)]
        exact fg _ _ (by omega) rfl (by unfold OXc; omega)
    have sx2 : ∀ k, k < 832 → sX 372 k = false := fun k q => Bool.eq_false_iff.mpr (fun y => by
      simp only [sX, sC, sM, Bool.or_eq_true, Bool.and_eq_true, beq_iff_eq, Nat.ble_eq] at y
      omega)
    have r372 : ∀ k, k < 832 → gI (gaH v (nI j) fc) 372 k = gI g 372 k := fun k q => by
      rw [gaH_n _ _ _ (by omega) (by omega), gbH_I, if_neg (by omega), if_neg (by omega), if_pos ⟨rfl, q⟩, a4.I (sRm_kp (by omega)), obH_I, if_neg (by omega), if_neg (by omega), if_neg (by omega), if_pos ⟨rfl, q⟩]
      exact fg _ _ (by omega) (sx2 k q) (by unfold OXc; omega)
    have r373 : ∀ k, k < 16 → gI (gaH v (nI j) fc) 373 k = gI g 373 k := fun k q => by
      rw [gaH_n _ _ _ (by omega) (by omega), gbH_I, if_neg (by omega), if_pos ⟨rfl, q⟩, a4.I (sRm_kp (by omega)), obH_I, if_neg (by omega), if_neg (by omega), if_pos ⟨rfl, q⟩]
      exact fg _ _ (by omega) rfl (by unfold OXc; omega)
    have r8 : gI (gaH v (nI j) fc) 367 8 = gI g 367 8 := by
      rw [gaH_n _ _ _ (by omega) (by omega), gbH_I, if_pos ⟨rfl, rfl⟩, ← hv]
      exact fg _ _ (by omega) rfl (by unfold OXc; omega)
    have md : ∀ a k, 367 ≤ a → ¬ (a = 367 ∧ (k = 51 ∨ k = 52 ∨ k = 1 ∨ k = 53 ∨ k = 8)) → ¬ (a = 368 ∧ k = 3) → ¬ a = 375 → ¬ a = 374 → ¬ a = 372 → ¬ a = 373 → ¬ a = 369 → sRm a k = false → gI (gaH v (nI j) fc) a k = gI fe a k := fun a k q1 q2 q3 q4 q5 q6 q7 q8 q9 => by
      rw [gaH_n _ _ _ (by omega) (by omega), gbH_n _ _ (by omega) (by omega) (by omega) (by omega), a4.I q9, obH_n (by omega) q4 q5 (by omega)]
    have kc : ∀ a k, 1 ≤ a → a ≤ 51 → ¬ (2 ≤ a ∧ a ≤ 6) → gI (gaH v (nI j) fc) a k = gI g a k := fun a k q1 q2 q3 => by
      have sx : sX a k = false := suK_x a k (by simp [suK]; omega)
      have sr : sRc a k = false := Bool.eq_false_iff.mpr (fun y => by
        simp only [sRc, sA, sH, sW, Bool.or_eq_true, Bool.and_eq_true, beq_iff_eq, Nat.ble_eq] at y
        omega)
      rw [lo _ _ (by omega), e1 _ _ q3 (by omega) (by omega) (by omega), hu.I sr, c1 _ _ sx (by omega) (by omega)]
    have hRR : RR (gaH v (nI j) fc) (gaH v (nI j) fc) := by
      refine ⟨h.1.1.mom2 kc (fun y _ => r369 y) ?_, h.1.2.ex (fun i _ => r369 i)⟩
      exact e2.ex (fun i y hi => lo _ _ (by omega)) (fun i hi _ _ => r369 _)
    have hPP : PastR (gaH v (nI j) fc) := by
      obtain ⟨n', p, h1, h2, h3, h4, h5, h6⟩ := h.2.1
      refine ⟨n', p, h1, h2, (lo _ _ (by omega)).trans (e4.trans h3), r8.trans h4, (lo _ _ (by omega)).trans (e5.trans h5), fun i hi => ?_⟩
      obtain ⟨k1, k2, k3, ⟨s, k4, k5, k6⟩, k7, k8⟩ := h6 i hi
      have hp : pIx p n' i < 16 := Nat.mod_lt _ (by omega)
      have q : ∀ y, y < 52 → gI (gaH v (nI j) fc) 372 (52 * i + y) = gI g 372 (52 * i + y) := fun y hy => r372 _ (by omega)
      refine ⟨((e3 _ hp).1 _ k1).ex (fun y z hy => lo _ _ (by omega)) (fun y hy _ _ => q y hy), k2.ex (fun y hy _ _ => q y hy), ?_, ⟨s, k4, (lo _ _ (by omega)).trans ((e3 _ hp).2.trans k5), (r373 _ (by omega)).trans k6⟩, ?_, ?_⟩
      · obtain ⟨m, m1, m2⟩ := k3
        exact ⟨m, m1, (q 0 (by omega)).trans m2⟩
      · rw [q 1 (by omega), r369]; exact k7
      · rw [q 2 (by omega), r369]; exact k8
    refine Sp.q cl mo (ord_inv h hRR hPP (fun a k q1 q2 q3 q4 => ?_) (fun a k q => ?_) ?_ ?_ ?_ ⟨?_, ?_, ?_, ?_, fun k hk => ?_⟩)
    · obtain ⟨s1, s2, s3, s4, s5, s6, s7, s8⟩ := sRm_X q1 q2 q3 q4
      by_cases z : a < 367
      · have n1 : ¬ (2 ≤ a ∧ a ≤ 6) := fun y => Bool.eq_false_iff.mp q2 (by simp [suK]; omega)
        have n2 : ¬ (54 ≤ a ∧ a ≤ 136) := fun y => Bool.eq_false_iff.mp q3 (by simp [suP]; omega)
        rw [lo a k z, e1 a k n1 n2 (by unfold OXc at q4; omega) (by unfold OXc at q4; omega), hu.I (sRc_X q1 q2 q3), c1 a k q1 (by unfold OXc at q4; omega) (by unfold OXc at q4; omega)]
      · rw [md a k (by omega) (by unfold OXc at q4; omega) (by unfold OXc at q4; omega) s3 s4 s5 s7 s6 s1]
        exact fg a k (by omega) q1 q4
    · rw [gaH_J, a4.J (sBo_J q).2.2.1, obH_J, P3 a k q, J0 a k q]
    · rw [gaH_n _ _ _ (by omega) (by omega), gbH_n _ _ (by omega) (by omega) (by omega) (by omega)]; exact a5
    · rw [lo _ _ (by omega), e1 _ _ (by omega) (by omega) (by omega) (by omega), hu.I (sRc_137 (by omega) (by omega)), c4]
    · rw [md 367 13 (by omega) (by omega) (by omega) (by omega) (by omega) (by omega) (by omega) (by omega) rfl]; exact P7
    · rw [lo _ _ (by omega), e6]
      unfold gaH nM
      rw [rd_a (by decide), rd_s]
    · rw [lo _ _ (by omega), cE _ _ (by omega) (by omega) (by omega), c2, md 367 18 (by omega) (by omega) (by omega) (by omega) (by omega) (by omega) (by omega) (by omega) rfl]; exact P5.symm
    · rw [lo _ _ (by omega), e7]
      unfold gaH nM
      rw [rd_a (by decide), rd_k (by decide), rd_s]
    · rw [lo _ _ (by omega), cE _ _ (by omega) (by omega) (by omega), c1 _ _ rfl (by omega) (by omega), md 367 11 (by omega) (by omega) (by omega) (by omega) (by omega) (by omega) (by omega) (by omega) rfl, fg _ _ (by omega) rfl (by unfold OXc; omega)]
      exact hn4
    · have r68 : ∀ k, gI fe 368 k = gI g 368 k := fun k => by
        rw [P2 _ _ rfl (by omega), cE _ _ (by omega) (by omega) (by omega), c1 _ _ rfl (by omega) (by omega)]
      rw [lo _ _ (by omega)]
      by_cases w : k = 3
      · subst w
        rw [e8, hu.I (sRc_hi (by omega)), c1 _ _ rfl (by omega) (by omega)]
        have g3 : gI (sI (gbH v fc) 367 53 (nI j)) 368 3 = gI g 368 3 := by
          rw [rd_a (by decide), gbH_n _ _ (by omega) (by omega) (by omega) (by omega), a4.I (sRm_kp (by omega)), obH_n (by omega) (by omega) (by omega) (by omega), r68]
        unfold gaH nM
        rw [rd_s, g3, hn5 3 hk]
      · rw [cE _ _ (by omega) (by omega) (by omega), c1 264 k rfl (by omega) (by omega), md 368 k (by omega) (by omega) (by omega) (by omega) (by omega) (by omega) (by omega) (by omega) (sRm_kp (by omega)), r68]
        exact hn5 k hk
theorem sp_orders {g : hG} (h : Inv g) : Sp q_MP_orders q_Mo_orders g := by
  obtain ⟨B, n, hb, hm⟩ := tape_B h.2.2.2.1
  have hco := con_co h.2.2.2.2.2.2
  obtain ⟨res, gA, r1, r2, r3⟩ := ord_c hb
  cases res with
  | some q => exact ord_bad h hb hm r1 r2 r3.1 r3.2
  | none =>
    obtain ⟨M, sz, hd, te, su, hM, k1, k2, k3, k4, k5⟩ := r3
    obtain ⟨gb, hC, hD⟩ := cls_pre h r1 r2 k1 k2 k3 hM k4
    -- the class's way, told over the model out of g itself
    obtain ⟨fe, len, hP, hMd⟩ := ord_pre (hX := g) hco hm (fun _ _ _ _ _ => rfl) rfl (fun _ _ _ => rfl) k5
    rcases run_x h hC hD hP hMd (fun _ _ _ _ _ => rfl) with ⟨x, gc, fc, a1, a2, a3, a4, a5, a6, a7⟩ | ⟨j, gc, fc, a1, a2, a3, a4, a5⟩
    · exact ord_yes h hco hm hC hD k5 a7 a1 a3
    · exact ord_no h hco hm hC hD k5 a1 a3
end SR
