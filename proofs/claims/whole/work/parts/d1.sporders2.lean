/-! orders: the call, case by case -/
section SQ
variable {B : Nat → Nat} {n M sz : Nat} {hd : Nat → Nat × Nat} {te : Nat → Den} {su : Nat → Den × Den} {g gb : hG}
theorem suK_O {a k : Nat} (q : suK a k = true) : ¬ OXc a k := by
  unfold OXc; simp only [suK, Bool.or_eq_true, Bool.and_eq_true, beq_iff_eq, Nat.ble_eq] at q; omega
theorem suP_O {a k : Nat} (q : suP a k = true) : ¬ OXc a k := by
  unfold OXc; simp only [suP, Bool.or_eq_true, Bool.and_eq_true, beq_iff_eq, Nat.ble_eq] at q; omega
theorem ord_bad (h : Inv g) (hb : TB B n g) (hm : TBM B n g) {gA : hG} {q : Nat} (r1 : q_Rd_read 240 1 g = some (nI q, gA)) (r2 : Un sX g gA) (hq : q ≤ n) (r4 : ∀ (f : hG), PQo B n (nb B n 0) 0 0 f → CoR f → gI f 367 21 = nI 0 → ∃ f', mO (fun g18 => q_Mo_orders_23 g18) FU f = q_Mo_orders_23 f' ∧ MEndo B n q f' ∧ Un sLo f f') : Sp q_MP_orders q_Mo_orders g := by
  obtain ⟨-, -, -, ht, hn, -, hco⟩ := id h
  have cl : q_MP_orders g = some (-6, nC (-6) 6 (sI (sI (sI gA 263 2 (nI q)) 263 3 (-1)) 235 1 0)) := by
    unfold q_MP_orders
    rw [r1, bnd_s, wr_e, wr_e, wr_e, if_neg (show ¬ gI (sI (sI (sI gA 263 2 (nI q)) 263 3 (-1)) 235 1 0) 263 2 = -1 by rw [rd_a (by decide), rd_k (by decide), rd_s]; exact n_m1 (by have := hb.1; omega)), rf_6, bnd_s]
  generalize hE : nC (-6) 6 (sI (sI (sI gA 263 2 (nI q)) 263 3 (-1)) 235 1 0) = gE at cl
  have e0 : ∀ a k, ¬ (a = 263 ∧ (k = 1 ∨ k = 2 ∨ k = 3)) → ¬ (a = 264 ∧ k = 6) → ¬ (a = 235 ∧ k = 1) → gI gE a k = gI gA a k := fun a k q2 q3 q4 => by
    rw [← hE]
    unfold nC
    rw [gI_sI, if_neg q3, gI_sI, if_neg (by omega), gI_sI, if_neg q4, gI_sI, if_neg (by omega), gI_sI, if_neg (by omega)]
  have eE : gI gE 263 1 = -6 ∧ gI gE 264 6 = gI gA 264 6 + 1 ∧ gI gE 235 1 = 0 ∧ gI gE 263 2 = nI q ∧ gI gE 263 3 = -1 ∧ gJ gE = gJ gA := by
    rw [← hE]
    unfold nC
    exact ⟨by rw [rd_a (by decide), rd_s], by rw [rd_s, rd_a (by decide), rd_a (by decide), rd_a (by decide)], by rw [rd_a (by decide), rd_a (by decide), rd_s], by rw [rd_a (by decide), rd_k (by decide), rd_a (by decide), rd_k (by decide), rd_s], by rw [rd_a (by decide), rd_k (by decide), rd_a (by decide), rd_s], rfl⟩
  have h0 : ∀ a k, ¬ (a = 367 ∧ (k = 0 ∨ k = 53)) → gI (sI (sI gE 367 0 0) 367 53 (-1)) a k = gI gE a k := fun a k q => by
    rw [gI_sI, if_neg (by omega), gI_sI, if_neg (by omega)]
  obtain ⟨f1, m1, m2, m3, m4⟩ := begin_o (f := sI (sI gE 367 0 0) 367 53 (-1)) (hm.of (by rw [h0 _ _ (by omega), e0 _ _ (by omega) (by omega) (by omega), r2.I rfl]) (fun j => by rw [h0 _ _ (by omega), e0 _ _ (by omega) (by omega) (by omega), r2.I rfl]))
  have c1 : CoR f1 := (con_co hco).J (fun a k q => by rw [m4.J (sBo_J q).1, gJ_sI, gJ_sI, eE.2.2.2.2.2, r2.J (sX_J q)])
  obtain ⟨f2, n1, n2, n3⟩ := r4 f1 m2 c1 m3
  obtain ⟨f3, p1, p2, p3, p4⟩ := end_bado n2
  have y3 : ∀ a k, sBo a k = false → ¬ (a = 367 ∧ k = 53) → gI f3 a k = gI gE a k := fun a k q1 q2 => by
    obtain ⟨q3, q4⟩ := sBo_f q1
    rw [p4.I q1, n3.I q3, m4.I q1, h0 _ _ (by omega)]
  have w3 : ∀ a k, ¬ (a = 367 ∧ k = 1) → ¬ (a = 368 ∧ k = 6) → gI (nM (-6) 6 f3) a k = gI f3 a k := fun a k q1 q2 => by
    unfold nM
    rw [gI_sI, if_neg q2, gI_sI, if_neg q1]
  have z3 : ∀ a k, sX a k = false → ¬ OXc a k → gI (nM (-6) 6 f3) a k = gI g a k := fun a k q1 q2 => by
    rw [w3 a k (by unfold OXc at q2; omega) (by unfold OXc at q2; omega), y3 a k (sBo_X q1 q2) (by unfold OXc at q2; omega), e0 a k (by unfold OXc at q2; omega) (by unfold OXc at q2; omega) (by unfold OXc at q2; omega), r2.I q1]
  have lo : ∀ a k, a < 367 → gI (nM (-6) 6 f3) a k = gI gE a k := fun a k q => (w3 a k (by omega) (by omega)).trans (y3 a k (sBo_lo q) (by omega))
  have hi : ∀ k, gI f3 368 k = gI g 368 k := fun k => by rw [y3 _ _ rfl (by omega), e0 _ _ (by omega) (by omega) (by omega), r2.I rfl]
  obtain ⟨hn1, hn2, hn3, hn4, hn5⟩ := hn
  refine Sp.q cl ?_ (ord_inv (g' := nM (-6) 6 f3) h (KeptR.ag h.1 (fun a k q => z3 a k (suK_x a k q) (suK_O q))) (h.2.1.ag (fun a k q => z3 a k (suP_x a k q) (suP_O q))) (fun a k q1 _ _ q2 => z3 a k q1 q2) (fun a k q => ?_) ((w3 _ _ (by omega) (by omega)).trans p2.2.2) ((lo _ _ (by omega)).trans eE.2.2.1) ((w3 _ _ (by omega) (by omega)).trans p3) ⟨?_, ?_, ?_, ?_, fun k hk => ?_⟩)
  · rw [orders_m, m1, bnd_s, n1]
    unfold q_Mo_orders_23
    rw [p1, bnd_s, if_neg (by rw [p2.1]; decide), te_6, bnd_s]
  · show gJ f3 a k = _
    rw [p4.J (sBo_J q).1, n3.J (sBo_J q).2.1, m4.J (sBo_J q).1, gJ_sI, gJ_sI, eE.2.2.2.2.2, r2.J (sX_J q)]
  · rw [lo _ _ (by omega), eE.1]
    unfold nM
    rw [rd_a (by decide), rd_s]
  · rw [lo _ _ (by omega), eE.2.2.2.1, w3 _ _ (by omega) (by omega)]
    exact p2.2.1.symm
  · rw [lo _ _ (by omega), eE.2.2.2.2.1, w3 _ _ (by omega) (by omega), p4.I rfl, n3.I rfl, m4.I rfl, rd_s]
  · rw [lo _ _ (by omega), e0 _ _ (by omega) (by omega) (by omega), r2.I rfl, w3 _ _ (by omega) (by omega), y3 _ _ rfl (by omega), e0 _ _ (by omega) (by omega) (by omega), r2.I rfl]
    exact hn4
  · rw [lo _ _ (by omega)]
    by_cases w : k = 6
    · subst w
      rw [eE.2.1, r2.I rfl]
      unfold nM
      rw [rd_s, hi, hn5 6 hk]
    · rw [e0 _ _ (by omega) (by omega) (by omega), r2.I rfl, w3 _ _ (by omega) (by omega), hi]
      exact hn5 k hk
theorem sRc_hi {a k : Nat} (h : 254 ≤ a) : sRc a k = false := Bool.eq_false_iff.mpr (fun y => by
  simp only [sRc, sA, sH, sW, Bool.or_eq_true, Bool.and_eq_true, beq_iff_eq, Nat.ble_eq] at y
  omega)
theorem sRc_137 {a k : Nat} (h : 137 ≤ a) (h2 : a ≤ 247) : sRc a k = false := Bool.eq_false_iff.mpr (fun y => by
  simp only [sRc, sA, sH, sW, Bool.or_eq_true, Bool.and_eq_true, beq_iff_eq, Nat.ble_eq] at y
  omega)
theorem sRc_X {a k : Nat} (h : sX a k = false) (h2 : suK a k = false) (h3 : suP a k = false) : sRc a k = false := Bool.eq_false_iff.mpr (fun y => by
  have y1 := Bool.eq_false_iff.mp h
  have y2 := Bool.eq_false_iff.mp h2
  have y3 := Bool.eq_false_iff.mp h3
  simp only [sX, sC, suK, suP, Ne, Bool.or_eq_true, Bool.and_eq_true, beq_iff_eq, Nat.ble_eq] at y1 y2 y3
  simp only [sRc, sA, sH, sW, Bool.or_eq_true, Bool.and_eq_true, beq_iff_eq, Nat.ble_eq] at y
  omega)
theorem sRm_lo {a k : Nat} (h : a < 367) : sRm a k = false := Bool.eq_false_iff.mpr (fun y => by
  simp only [sRm, sAm, sV, sT, Bool.or_eq_true, Bool.and_eq_true, beq_iff_eq, Nat.ble_eq] at y
  omega)
theorem sRm_X {a k : Nat} (h : sX a k = false) (h2 : suK a k = false) (h3 : suP a k = false) (h4 : ¬ OXc a k) : sRm a k = false ∧ ¬ (a = 367 ∧ (k = 51 ∨ k = 52)) ∧ ¬ a = 375 ∧ ¬ a = 374 ∧ ¬ a = 372 ∧ ¬ a = 369 ∧ ¬ a = 373 ∧ ¬ (a = 367 ∧ k = 8) := by
  have y1 := Bool.eq_false_iff.mp h
  have y2 := Bool.eq_false_iff.mp h2
  have y3 := Bool.eq_false_iff.mp h3
  unfold OXc at h4
  simp only [sX, sM, sMf, suK, suP, Ne, Bool.or_eq_true, Bool.and_eq_true, beq_iff_eq, Nat.ble_eq] at y1 y2 y3
  refine ⟨Bool.eq_false_iff.mpr (fun y => ?_), ?_, ?_, ?_, ?_, ?_, ?_, ?_⟩
  · simp only [sRm, sAm, sV, sT, Bool.or_eq_true, Bool.and_eq_true, beq_iff_eq, Nat.ble_eq] at y
    omega
  all_goals omega
theorem obH_n {f : hG} {a k : Nat} (h1 : ¬ (a = 367 ∧ (k = 51 ∨ k = 52))) (h2 : ¬ a = 375) (h3 : ¬ a = 374) (h4 : ¬ (a = 372 ∧ 832 ≤ k)) : gI (obH f) a k = gI f a k := by
  rw [obH_I, if_neg (by omega), if_neg (by omega), if_neg (by omega), if_neg (by omega), if_neg (by omega)]
/-- all orders were carried out -/
theorem ord_yes (h : Inv g) (hco : CoR g) (hm : TBM B n g) (hC : PreC g gb) (hD : DatC M sz hd te su gb) (kM : ∀ (f : hG), PQo B n (nb B n 0) 0 0 f → CoR f → gI f 367 21 = nI 0 → ∃ (pa' : Nat) (len' : Nat) (f' : hG), mO (fun g18 => q_Mo_orders_23 g18) FU f = q_Mo_orders_23 f' ∧ PQo B n n pa' len' f' ∧ Un sLo f f' ∧ gI f' 367 21 = nI M ∧ ∀ j, j < M → DMo f' len' j (hd j) (te j) (su j)) {x : Nat} {gc : hG} (hx : x < 1000) (hc : ∀ k111 k91, q_MP_carryOut_6L k111 k91 FU 0 (-1) 0 gb = k111 (nI x) gc) (hu : Un sRc gb gc) : Sp q_MP_orders q_Mo_orders g := by
  obtain ⟨c1, c2, c3, c4, c5, c6, c7, c8, c9, c10⟩ := id hC
  obtain ⟨hn1, hn2, hn3, hn4, hn5⟩ := h.2.2.2.2.1
  have cl : q_MP_orders g = some (nI x, sI gc 263 1 0) := by
    rw [c10]
    unfold q_MP_carryOut
    rw [hc, bnd_s, if_neg (n_m1 (by omega)), gr_e, bnd_s]
  have eE : ∀ a k, ¬ (a = 263 ∧ k = 1) → gI (sI gc 263 1 0) a k = gI gc a k := fun a k q => by rw [gI_sI, if_neg q]
  have mI : ∀ a k, 367 ≤ a → sX a k = false → ¬ OXc a k → gI (sI gc 263 1 0) a k = gI g a k := fun a k q1 q2 q3 => by
    rw [eE a k (by omega), hu.I (sRc_hi (by omega)), c1 a k q2 (by omega) (by omega)]
  have J0 : ∀ a k, (a = 382 ∨ a = 383 ∨ a = 384 ∨ a = 395 ∨ a = 396) → gJ (sI gc 263 1 0) a k = gJ g a k := fun a k q => by
    rw [gJ_sI, hu.J (sBo_J q).2.2.2, c5 a k q]
  obtain ⟨fe, len, hP, hM⟩ := ord_pre hco hm mI (by rw [eE _ _ (by omega), hu.I (sRc_hi (by omega)), c1 _ _ rfl (by omega) (by omega)]) J0 kM
  obtain ⟨P1, P2, P3, P4, P5, P6, P7⟩ := id hP
  rcases run_x h hC hD hP hM mI with ⟨x', gc', fc, a1, a2, a3, a4, a5, a6, a7⟩ | ⟨j, gc', fc, a1, a2, a3, a4, a5⟩
  · have e := (hc (fun v g => some (v, g)) (fun _ _ => none)).symm.trans (a1 (fun v g => some (v, g)) (fun _ _ => none))
    injection e with e
    injection e with ex eg
    subst eg
    have exx : x = x' := (nI_eq (by omega) (by omega)).mp ex
    subst exx
    have f0 : ∀ a k, ¬ (a = 367 ∧ k = 1) → gI (sI fc 367 1 0) a k = gI fc a k := fun a k q => by rw [gI_sI, if_neg q]
    have lo : ∀ a k, a < 367 → gI (sI fc 367 1 0) a k = gI (sI gc 263 1 0) a k := fun a k q => by
      rw [f0 _ _ (by omega), a4.I (sRm_lo q), obH_n (by omega) (by omega) (by omega) (by omega), P2 a k (sBo_lo q) (by omega)]
    have RX2 : RX (sI fc 367 1 0) (sI fc 367 1 0) := a5.ex (fun a k q => (lo a k (by omega)).trans (eE a k (by omega))) (fun a k q => f0 a k (by omega)) ((f0 _ _ (by omega)).trans a5.2.2)
    have md : ∀ a k, 367 ≤ a → sRm a k = false → ¬ (a = 367 ∧ (k = 51 ∨ k = 52 ∨ k = 1 ∨ k = 53)) → ¬ a = 375 → ¬ a = 374 → ¬ a = 372 → sBo a k = false → gI (sI fc 367 1 0) a k = gI gb a k := fun a k q1 q2 q3 q4 q5 q6 q7 => by
      rw [f0 _ _ (by omega), a4.I q2, obH_n (by omega) q4 q5 (by omega), P2 a k q7 (by omega), eE _ _ (by omega), hu.I (sRc_hi (by omega))]
    refine Sp.q cl ?_ (ord_inv h RX2.1 RX2.2.1 (fun a k q1 q2 q3 q4 => ?_) (fun a k q => ?_) RX2.2.2 ?_ ?_ ⟨?_, ?_, ?_, ?_, fun k hk => ?_⟩)
    · refine (P1.trans (a2 tellK (backK (gI fe 367 8)))).trans ?_
      unfold tellK
      rw [a6, te_p (nI_pos' (by omega)), bnd_s]
    · obtain ⟨s1, s2, s3, s4, s5, s6, s7, s8⟩ := sRm_X q1 q2 q3 q4
      by_cases z : a < 367
      · rw [lo a k z, eE a k (by unfold OXc at q4; omega), hu.I (sRc_X q1 q2 q3), c1 a k q1 (by unfold OXc at q4; omega) (by unfold OXc at q4; omega)]
      · rw [md a k (by omega) s1 (by unfold OXc at q4; omega) s3 s4 s5 (sBo_X q1 q4), c1 a k q1 (by omega) (by omega)]
    · rw [gJ_sI, a4.J (sBo_J q).2.2.1, obH_J, P3 a k q, J0 a k q]
    · rw [lo _ _ (by omega), eE _ _ (by omega), hu.I (sRc_137 (by omega) (by omega)), c4]
    · rw [f0 _ _ (by omega), a4.I rfl, obH_n (by omega) (by omega) (by omega) (by omega), P7]
    · rw [lo _ _ (by omega), rd_s, rd_s]
    · rw [lo _ _ (by omega), eE _ _ (by omega), hu.I (sRc_hi (by omega)), c2, f0 _ _ (by omega), a4.I rfl, obH_n (by omega) (by omega) (by omega) (by omega), P5]
    · rw [lo _ _ (by omega), eE _ _ (by omega), hu.I (sRc_hi (by omega)), c3, f0 _ _ (by omega), a4.I rfl, obH_n (by omega) (by omega) (by omega) (by omega), P4]
    · rw [lo _ _ (by omega), eE _ _ (by omega), hu.I (sRc_hi (by omega)), c1 _ _ rfl (by omega) (by omega), md 367 11 (by omega) rfl (by omega) (by omega) (by omega) (by omega) rfl, c1 _ _ rfl (by omega) (by omega)]
      exact hn4
    · rw [lo _ _ (by omega), eE _ _ (by omega), hu.I (sRc_hi (by omega)), c1 264 k rfl (by omega) (by omega), md 368 k (by omega) rfl (by omega) (by omega) (by omega) (by omega) rfl, c1 368 k rfl (by omega) (by omega)]
      exact hn5 k hk
  · have e := (hc (fun v g => some (v, g)) (fun _ _ => none)).symm.trans (a1 (fun v g => some (v, g)) (fun _ _ => none))
    cases e
end SQ
