/-! law: both calls -/
section SN
variable {B : Nat → Nat} {n t N : Nat} {g : hG}
theorem tape_B {g : hG} (h : TapeR g) : ∃ (B : Nat → Nat) (n : Nat), TB B n g ∧ TBM B n g := by
  obtain ⟨n, h1, h2, h3, h4⟩ := h
  have q : ∀ j, j < n → gI g 236 j = nI ((gI g 236 j).toNatClampNeg) ∧ gI g 376 j = nI ((gI g 236 j).toNatClampNeg) ∧ (gI g 236 j).toNatClampNeg < 256 := fun j hj => by
    obtain ⟨b, b1, b2, b3⟩ := h4 j hj
    rw [b3, b2, nI_clamp (by omega)]
    exact ⟨rfl, rfl, b1⟩
  exact ⟨fun j => (gI g 236 j).toNatClampNeg, n, ⟨h1, h2, fun j hj => ⟨(q j hj).1, (q j hj).2.2⟩⟩, ⟨h1, h3, fun j hj => (q j hj).2⟩⟩
theorem sLC_f {a k : Nat} (h : sX a k = false) (h2 : ¬ (t ≤ a ∧ a ≤ t + 6)) : sLC t a k = false := by
  refine Bool.eq_false_iff.mpr (fun q => Bool.eq_false_iff.mp h ?_)
  simp only [sLC, Bool.or_eq_true, Bool.and_eq_true, Nat.ble_eq] at q
  rcases q with q | q
  · exact q
  · exact absurd q h2
theorem TBM.of {f : hG} (h : TBM B n g) (h1 : gI f 367 13 = gI g 367 13) (h2 : ∀ j, gI f 376 j = gI g 376 j) : TBM B n f := ⟨h.1, h1.trans h.2.1, fun j hj => ⟨(h2 j).trans (h.2.2 j hj).1, (h.2.2 j hj).2⟩⟩
theorem CoR.J {f f' : hG} (h : CoR f) (u : ∀ a k, (a = 382 ∨ a = 383 ∨ a = 384 ∨ a = 395 ∨ a = 396) → gJ f' a k = gJ f a k) : CoR f' := by
  obtain ⟨h1, h2, h3, h4, h5⟩ := h
  exact ⟨fun j hj => (u _ _ (by omega)).trans (h1 j hj), fun j hj => (u _ _ (by omega)).trans (h2 j hj), fun j hj => (u _ _ (by omega)).trans (h3 j hj), fun j hj => (u _ _ (by omega)).trans (h4 j hj), fun j hj => (u _ _ (by omega)).trans (h5 j hj)⟩
theorem sBt_J {a k : Nat} (z : a = 382 ∨ a = 383 ∨ a = 384 ∨ a = 395 ∨ a = 396) : sBt a k = false := by rcases z with rfl | rfl | rfl | rfl | rfl <;> rfl
theorem sLw_J {a k : Nat} (z : a = 382 ∨ a = 383 ∨ a = 384 ∨ a = 395 ∨ a = 396) : sLw a k = false := by rcases z with rfl | rfl | rfl | rfl | rfl <;> rfl
theorem sX_J {a k : Nat} (z : a = 382 ∨ a = 383 ∨ a = 384 ∨ a = 395 ∨ a = 396) : sX a k = false := by rcases z with rfl | rfl | rfl | rfl | rfl <;> rfl
/-- the model's law() up to its end, out of any heap -/
theorem law_m {g : hG} (hN : N < 6) (h1 : gI g 369 1 = nI N) : q_Mo_law g = bnd (q_Mo_beginText 0 (sI g 367 0 0)) fun _ g4 => mL (fun g17 => q_Mo_law_33 g17) FU g4 := by
  unfold q_Mo_law mL
  rw [wr_e, gd_L _ _ (by decide) (by decide), cl_L _ (by decide), rd_a (by decide), h1, if_neg (show ¬ nI N = (6 : Int32) from nI_dif (b := 6) (by omega) (by omega) (by omega))]
theorem law_six {g : hG} (h : Inv g) (l1 : gI g 1 8 = nI 6) (l2 : gI g 369 1 = nI 6) : Sp q_MP_law q_Mo_law g := by
  have hA : Inv (sI (sI g 235 1 0) 367 13 0) := by
    obtain ⟨h1, h2, h3, h4, h5, h6, h7⟩ := h
    exact ⟨KeptR.ag h1 ((Ag.rf.sI rfl _).sI rfl _), h2.ag ((Ag.rf.sI rfl _).sI rfl _), h3.ag ((Ag.rf.sI rfl _).sI rfl _), ⟨0, by omega, by rw [rd_a (by decide), rd_s]; rfl, by rw [rd_s]; rfl, fun j hj => absurd hj (Nat.not_lt_zero _)⟩, h5.ag ((Ag.rf.sI rfl _).sI rfl _), h6.ag ((Ag.rf.sI rfl _).sI rfl _), h7.ag (by rw [rd_k (by decide), rd_a (by decide)]) (fun a k _ => rfl)⟩
  refine Sp.q (r := -5) (g1 := nC (-5) 5 (sI g 235 1 0)) (g2 := nM (-5) 5 (sI (sI (nC (-5) 5 (sI g 235 1 0)) 367 0 0) 367 13 0)) ?_ ?_ (hA.no (-5) (by omega) ?_)
  · unfold q_MP_law
    rw [l1, if_neg (by decide), wr_e, rf_5, bnd_s]
  · unfold q_Mo_law
    rw [wr_e, gd_L _ _ (by decide) (by decide), cl_L _ (by decide), show gI (sI (nC (-5) 5 (sI g 235 1 0)) 367 0 0) 369 1 = nI 6 by simp [nC, gI_sI, l2], if_pos (by decide), wr_e, te_5, bnd_s]
  · intro a k q
    refine ⟨?_, by simp only [nC, gJ_sI], by simp only [nC, gP_sI]⟩
    have n0 : ¬ (a = 367 ∧ k = 0) := by rintro ⟨rfl, rfl⟩; exact absurd q (by decide)
    simp only [nC, gI_sI]
    by_cases w : a = 367 ∧ k = 13
    · obtain ⟨rfl, rfl⟩ := w; simp
    · simp only [if_neg w, if_neg n0]
      simp
theorem law_clg {g gA : hG} (hN : N < 6) (l1 : gI g 1 8 = nI N) : ∀ v, q_Rd_read (10 + 7 * N) 0 g = some (v, gA) → q_MP_law g = if v = -1 then some (gI gA 1 8 + 1 - 1, sI (sI (sI (sI gA 263 2 v) 235 1 0) 1 8 (gI gA 1 8 + 1)) 263 1 0) else some (-6, nC (-6) 6 (sI (sI gA 263 2 v) 235 1 0)) := fun v hv => by
  unfold q_MP_law
  rw [l1, if_pos (show nI N < (6 : Int32) from nI_lt' (b := 6) hN (by omega)), gd_nI hN (by omega), nI_clamp (by omega), hv, bnd_s, wr_e, wr_e, rd_a (by decide), rd_s]
  by_cases y : v = -1
  · rw [if_pos y, if_pos y, wr_e, gr_e, bnd_s, rd_s, rd_a (by decide), rd_a (by decide)]
  · rw [if_neg y, if_neg y, rf_6, bnd_s]
theorem law_none {g gA : hG} (h : Inv g) (hN : N < 6) (l1 : gI g 1 8 = nI N) (l2 : gI g 369 1 = nI N) (hb : TB B n g) (hm : TBM B n g) (r1 : q_Rd_read (10 + 7 * N) 0 g = some (-1, gA)) (r2 : Un (sLC (10 + 7 * N)) g gA) {M sz : Nat} {hd : Nat → Bool} {te su : Nat → Den} (hM : M ≤ 12) (k1 : gI gA (10 + 7 * N) 2 = nI M) (k2 : gI gA (10 + 7 * N) 1 = nI sz) (k3 : sz ≤ 402) (k4 : ∀ j, j < M → DC gA (10 + 7 * N) sz j (hd j) (te j) (su j)) (k5 : ∀ (f : hG), PQ B n (nb B n 0) 0 0 f → CoR f → gI f 367 21 = nI 0 → ∃ (pa' : Nat) (len' : Nat) (f' : hG), mL (fun g17 => q_Mo_law_33 g17) FU f = q_Mo_law_33 f' ∧ PQ B n n pa' len' f' ∧ Un sLw f f' ∧ gI f' 367 21 = nI M ∧ ∀ j, j < M → DM f' len' j (hd j) (te j) (su j)) : Sp q_MP_law q_Mo_law g := by
  have clg := law_clg (gA := gA) hN l1
  obtain ⟨-, -, -, ht, hn, -, hco⟩ := id h
  have uA : ∀ a k, sX a k = false → ¬ (10 + 7 * N ≤ a ∧ a ≤ 16 + 7 * N) → gI gA a k = gI g a k := fun a k q1 q2 => r2.I (sLC_f q1 (by omega))
  have uJ : ∀ a k, (a = 382 ∨ a = 383 ∨ a = 384 ∨ a = 395 ∨ a = 396) → gJ gA a k = gJ g a k := fun a k q => r2.J (sLC_f (sX_J q) (by omega))
  have cl := (clg _ r1).trans (if_pos rfl)
  have a18 : gI gA 1 8 = nI N := (uA 1 8 rfl (by omega)).trans l1
  rw [a18, nI_1, show nI (N + 1) - (1 : Int32) = nI N from nI_sub (a := N + 1) (b := 1) (by omega)] at cl
  generalize hE : sI (sI (sI (sI gA 263 2 (-1)) 235 1 0) 1 8 (nI (N + 1))) 263 1 0 = gE at cl
  have e0 : ∀ a k, ¬ (a = 263 ∧ k = 1) → ¬ (a = 1 ∧ k = 8) → ¬ (a = 235 ∧ k = 1) → ¬ (a = 263 ∧ k = 2) → gI gE a k = gI gA a k := fun a k q2 q3 q4 q5 => by
    rw [← hE, gI_sI, if_neg q2, gI_sI, if_neg q3, gI_sI, if_neg q4, gI_sI, if_neg q5]
  have eE : gI gE 263 1 = 0 ∧ gI gE 1 8 = nI (N + 1) ∧ gI gE 235 1 = 0 ∧ gI gE 263 2 = -1 ∧ gJ gE = gJ gA := by
    rw [← hE]
    exact ⟨rd_s, by rw [rd_a (by decide), rd_s], by rw [rd_a (by decide), rd_a (by decide), rd_s], by rw [rd_k (by decide), rd_a (by decide), rd_a (by decide), rd_s], rfl⟩
  have f0 : ∀ a k, ¬ (a = 367 ∧ k = 0) → gI (sI gE 367 0 0) a k = gI gE a k := fun a k q => by rw [gI_sI, if_neg q]
  have g1 : ∀ a k, sX a k = false → ¬ (10 + 7 * N ≤ a ∧ a ≤ 16 + 7 * N) → ¬ (a = 263 ∧ k = 1) → ¬ (a = 1 ∧ k = 8) → ¬ (a = 235 ∧ k = 1) → ¬ (a = 263 ∧ k = 2) → gI (sI gE 367 0 0) a k = gI g a k := fun a k q1 q2 q3 q4 q5 q6 => by
    rw [f0 a k (by rintro ⟨rfl, rfl⟩; exact absurd q1 (by decide)), e0 a k q3 q4 q5 q6, uA a k q1 q2]
  obtain ⟨f1, m1, m2, m3, m4⟩ := begin_m (f := sI gE 367 0 0) (hm.of (g1 _ _ rfl (by omega) (by omega) (by omega) (by omega) (by omega)) (fun j => g1 _ _ rfl (by omega) (by omega) (by omega) (by omega) (by omega)))
  have c1 : CoR f1 := (con_co hco).J (fun a k q => by rw [m4.J (sBt_J q), gJ_sI, eE.2.2.2.2, uJ a k q])
  obtain ⟨pa', len', f2, n1, n2, n3, n4, n5⟩ := k5 f1 m2 c1 m3
  have x1 : gI f2 369 1 = nI N := by rw [n3.I rfl, m4.I rfl, g1 _ _ rfl (by omega) (by omega) (by omega) (by omega) (by omega)]; exact l2
  obtain ⟨f3, p1, p2, p3, p4, p5, p6, p7, p8, p9, p10⟩ := law33_ok n2 hM n4 hN x1
  have hl : len' ≤ 400 := by
    have a := cnt_m (stB B) n
    have b := n2.2.2.2.2.2.2.2
    have c := n2.1.1
    omega
  have y3 : ∀ a k, sBt a k = false → ¬ (a = 367 ∧ k = 1) → ¬ (a = 369 ∧ (k = 1 ∨ (68 + 900 * N ≤ k ∧ k < 968 + 900 * N))) → gI f3 a k = gI gE a k := fun a k q1 q2 q3 => by
    have q4 : ¬ (a = 367 ∧ (k = 20 ∨ k = 13 ∨ k = 0)) := by
      rintro ⟨rfl, rfl | rfl | rfl⟩ <;> exact absurd q1 (by decide)
    rw [p6 a k (by omega) q3, n3.I (by unfold sBt at q1; rw [Bool.or_eq_false_iff] at q1; exact q1.1), m4.I q1, f0 a k (by omega)]
  have z3 : ∀ a k, sX a k = false → ¬ LX N a k → gI f3 a k = gI g a k := fun a k q1 q2 => by
    rw [y3 a k (sBt_X q1 q2) (by unfold LX at q2; omega) (by unfold LX at q2; omega), e0 a k (by unfold LX at q2; omega) (by unfold LX at q2; omega) (by unfold LX at q2; omega) (by unfold LX at q2; omega), uA a k q1 (by unfold LX at q2; omega)]
  have bt : ∀ a k, a < 367 → sBt a k = false := fun a k q => Bool.eq_false_iff.mpr (fun y => by
    simp only [sBt, sLw, sPm, Bool.or_eq_true, Bool.and_eq_true, beq_iff_eq] at y
    omega)
  have lo : ∀ a k, a < 367 → gI f3 a k = gI gE a k := fun a k q => y3 a k (bt a k q) (by omega) (by omega)
  have tx : ∀ a k, 10 + 7 * N ≤ a → a ≤ 16 + 7 * N → gI f3 a k = gI gA a k := fun a k q1 q2 => (lo a k (by omega)).trans (e0 a k (by omega) (by omega) (by omega) (by omega))
  refine Sp.q cl ?_ (law_inv (g' := f3) h hN l2 z3 (fun a k q => ?_) p3 ((lo _ _ (by omega)).trans eE.2.2.1) p4 (hn.law ?_ ?_ ?_ ?_ ?_ ?_ (fun k hk => ?_)) (Or.inr ⟨(lo _ _ (by omega)).trans eE.2.1, p2, ?_⟩))
  · rw [law_m hN (by rw [e0 _ _ (by omega) (by omega) (by omega) (by omega), uA _ _ rfl (by omega)]; exact l2), m1, bnd_s, n1, p1]
  · rw [p7, n3.J (sLw_J q), m4.J (sBt_J q), gJ_sI, eE.2.2.2.2, uJ a k q]
  · rw [lo _ _ (by omega), eE.1, p5]
  · rw [lo _ _ (by omega), eE.2.2.2.1, p6 367 18 (by omega) (by omega)]
    exact n2.2.1.1.2.symm
  · rw [lo _ _ (by omega), e0 _ _ (by omega) (by omega) (by omega) (by omega), uA _ _ rfl (by omega)]
  · rw [lo _ _ (by omega), e0 _ _ (by omega) (by omega) (by omega) (by omega), uA _ _ rfl (by omega)]
  · exact z3 _ _ rfl (by unfold LX; omega)
  · exact z3 _ _ rfl (by unfold LX; omega)
  · rw [lo _ _ (by omega), e0 _ _ (by omega) (by omega) (by omega) (by omega), uA _ _ rfl (by omega), y3 368 k rfl (by omega) (by omega), e0 _ _ (by omega) (by omega) (by omega) (by omega), uA _ _ rfl (by omega)]
    exact hn.2.2.2.2 k hk
  · exact law_r (f := f2) (len := len') hM ((tx _ _ (by omega) (by omega)).trans k1) ((tx _ _ (by omega) (by omega)).trans k2) k3 hl (fun j hj => (k4 j hj).ex (Nat.le_refl _) (fun a q1 q2 => tx a _ (by omega) (by omega)) (fun i hi => tx _ _ (by omega) (by omega))) n5 p8 p9 p10
theorem law_some {g gA : hG} (h : Inv g) (hN : N < 6) (l1 : gI g 1 8 = nI N) (l2 : gI g 369 1 = nI N) (hb : TB B n g) (hm : TBM B n g) {q : Nat} (r1 : q_Rd_read (10 + 7 * N) 0 g = some (nI q, gA)) (r2 : Un (sLC (10 + 7 * N)) g gA) (hq : q ≤ n) (r4 : ∀ (f : hG), PQ B n (nb B n 0) 0 0 f → CoR f → gI f 367 21 = nI 0 → ∃ f', mL (fun g17 => q_Mo_law_33 g17) FU f = q_Mo_law_33 f' ∧ MEnd B n q f' ∧ Un sLw f f') : Sp q_MP_law q_Mo_law g := by
  have clg := law_clg (gA := gA) hN l1
  obtain ⟨-, -, -, ht, hn, -, hco⟩ := id h
  have uA : ∀ a k, sX a k = false → ¬ (10 + 7 * N ≤ a ∧ a ≤ 16 + 7 * N) → gI gA a k = gI g a k := fun a k q1 q2 => r2.I (sLC_f q1 (by omega))
  have uJ : ∀ a k, (a = 382 ∨ a = 383 ∨ a = 384 ∨ a = 395 ∨ a = 396) → gJ gA a k = gJ g a k := fun a k q => r2.J (sLC_f (sX_J q) (by omega))
  have cl := (clg _ r1).trans (if_neg (show ¬ nI q = -1 from n_m1 (by have := hb.1; omega)))
  generalize hE : nC (-6) 6 (sI (sI gA 263 2 (nI q)) 235 1 0) = gE at cl
  have e0 : ∀ a k, ¬ (a = 263 ∧ k = 1) → ¬ (a = 264 ∧ k = 6) → ¬ (a = 235 ∧ k = 1) → ¬ (a = 263 ∧ k = 2) → gI gE a k = gI gA a k := fun a k q2 q3 q4 q5 => by
    rw [← hE]
    unfold nC
    rw [gI_sI, if_neg q3, gI_sI, if_neg q2, gI_sI, if_neg q4, gI_sI, if_neg q5]
  have eE : gI gE 263 1 = -6 ∧ gI gE 264 6 = gI gA 264 6 + 1 ∧ gI gE 235 1 = 0 ∧ gI gE 263 2 = nI q ∧ gJ gE = gJ gA := by
    rw [← hE]
    unfold nC
    exact ⟨by rw [rd_a (by decide), rd_s], by rw [rd_s, rd_a (by decide), rd_a (by decide)], by rw [rd_a (by decide), rd_a (by decide), rd_s], by rw [rd_a (by decide), rd_k (by decide), rd_a (by decide), rd_s], rfl⟩
  have f0 : ∀ a k, ¬ (a = 367 ∧ k = 0) → gI (sI gE 367 0 0) a k = gI gE a k := fun a k q => by rw [gI_sI, if_neg q]
  have g1 : ∀ a k, sX a k = false → ¬ (10 + 7 * N ≤ a ∧ a ≤ 16 + 7 * N) → ¬ (a = 263 ∧ k = 1) → ¬ (a = 264 ∧ k = 6) → ¬ (a = 235 ∧ k = 1) → ¬ (a = 263 ∧ k = 2) → gI (sI gE 367 0 0) a k = gI g a k := fun a k q1 q2 q3 q4 q5 q6 => by
    rw [f0 a k (by rintro ⟨rfl, rfl⟩; exact absurd q1 (by decide)), e0 a k q3 q4 q5 q6, uA a k q1 q2]
  obtain ⟨f1, m1, m2, m3, m4⟩ := begin_m (f := sI gE 367 0 0) (hm.of (g1 _ _ rfl (by omega) (by omega) (by omega) (by omega) (by omega)) (fun j => g1 _ _ rfl (by omega) (by omega) (by omega) (by omega) (by omega)))
  have c1 : CoR f1 := (con_co hco).J (fun a k q => by rw [m4.J (sBt_J q), gJ_sI, eE.2.2.2.2, uJ a k q])
  obtain ⟨f2, n1, n2, n3⟩ := r4 f1 m2 c1 m3
  obtain ⟨f3, p1, p2, p3, p4⟩ := law33_no n2
  have y3 : ∀ a k, sBt a k = false → gI f3 a k = gI gE a k := fun a k q1 => by
    have q4 : ¬ (a = 367 ∧ (k = 20 ∨ k = 13 ∨ k = 0)) := by
      rintro ⟨rfl, rfl | rfl | rfl⟩ <;> exact absurd q1 (by decide)
    rw [p4.I q1, n3.I (by unfold sBt at q1; rw [Bool.or_eq_false_iff] at q1; exact q1.1), m4.I q1, f0 a k (by omega)]
  have w3 : ∀ a k, ¬ (a = 367 ∧ k = 1) → ¬ (a = 368 ∧ k = 6) → gI (nM (-6) 6 f3) a k = gI f3 a k := fun a k q1 q2 => by
    unfold nM
    rw [gI_sI, if_neg q2, gI_sI, if_neg q1]
  have z3 : ∀ a k, sX a k = false → ¬ LX N a k → gI (nM (-6) 6 f3) a k = gI g a k := fun a k q1 q2 => by
    rw [w3 a k (by unfold LX at q2; omega) (by unfold LX at q2; omega), y3 a k (sBt_X q1 q2), e0 a k (by unfold LX at q2; omega) (by unfold LX at q2; omega) (by unfold LX at q2; omega) (by unfold LX at q2; omega), uA a k q1 (by unfold LX at q2; omega)]
  have bt : ∀ a k, a < 367 → sBt a k = false := fun a k q => Bool.eq_false_iff.mpr (fun y => by
    simp only [sBt, sLw, sPm, Bool.or_eq_true, Bool.and_eq_true, beq_iff_eq] at y
    omega)
  have lo : ∀ a k, a < 367 → gI (nM (-6) 6 f3) a k = gI gE a k := fun a k q => (w3 a k (by omega) (by omega)).trans (y3 a k (bt a k q))
  have hi : ∀ k, gI f3 368 k = gI g 368 k := fun k => by rw [y3 _ _ rfl, e0 _ _ (by omega) (by omega) (by omega) (by omega), uA _ _ rfl (by omega)]
  refine Sp.q cl ?_ (law_inv (g' := nM (-6) 6 f3) h hN l2 z3 (fun a k q => ?_) ((w3 _ _ (by omega) (by omega)).trans p2.2.2) ((lo _ _ (by omega)).trans eE.2.2.1) ((w3 _ _ (by omega) (by omega)).trans p3) (hn.law ?_ ?_ ?_ ?_ ?_ ?_ (fun k hk => ?_)) (Or.inl ⟨?_, ?_⟩))
  · rw [law_m hN (by rw [e0 _ _ (by omega) (by omega) (by omega) (by omega), uA _ _ rfl (by omega)]; exact l2), m1, bnd_s, n1, p1]
  · show gJ f3 a k = _
    rw [p4.J (sBt_J q), n3.J (sLw_J q), m4.J (sBt_J q), gJ_sI, eE.2.2.2.2, uJ a k q]
  · rw [lo _ _ (by omega), eE.1]
    unfold nM
    rw [rd_a (by decide), rd_s]
  · rw [lo _ _ (by omega), eE.2.2.2.1, w3 _ _ (by omega) (by omega)]
    exact p2.2.1.symm
  · rw [lo _ _ (by omega), e0 _ _ (by omega) (by omega) (by omega) (by omega), uA _ _ rfl (by omega)]
  · rw [lo _ _ (by omega), e0 _ _ (by omega) (by omega) (by omega) (by omega), uA _ _ rfl (by omega)]
  · exact z3 _ _ rfl (by unfold LX; omega)
  · exact z3 _ _ rfl (by unfold LX; omega)
  · rw [lo _ _ (by omega)]
    by_cases w : k = 6
    · subst w
      rw [eE.2.1, uA _ _ rfl (by omega)]
      unfold nM
      rw [rd_s, hi, hn.2.2.2.2 6 hk]
    · rw [e0 _ _ (by omega) (by omega) (by omega) (by omega), uA _ _ rfl (by omega), w3 _ _ (by omega) (by omega), hi]
      exact hn.2.2.2.2 k hk
  · rw [lo _ _ (by omega), e0 _ _ (by omega) (by omega) (by omega) (by omega), uA _ _ rfl (by omega)]; exact l1
  · rw [w3 _ _ (by omega) (by omega), y3 _ _ rfl, e0 _ _ (by omega) (by omega) (by omega) (by omega), uA _ _ rfl (by omega)]; exact l2
theorem sp_law {g : hG} (h : Inv g) : Sp q_MP_law q_Mo_law g := by
  obtain ⟨N, hN6, l1, l2⟩ := laws_n h
  obtain ⟨B, n, hb, hm⟩ := tape_B h.2.2.2.1
  by_cases z : N = 6
  · subst z
    exact law_six h l1 l2
  · have hN : N < 6 := by omega
    have htx : HT (10 + 7 * N) := ⟨(show ∀ N, N < 6 → is_txt (10 + 7 * N) = true by decide) N hN, Or.inl (by omega)⟩
    obtain ⟨res, gA, r1, r2, r3⟩ := law_c hb htx
    cases res with
    | none =>
      obtain ⟨M, sz, hd, te, su, hM, k1, k2, k3, k4, k5⟩ := r3
      exact law_none h hN l1 l2 hb hm r1 r2 hM k1 k2 k3 k4 k5
    | some q => exact law_some h hN l1 l2 hb hm r1 r2 r3.1 r3.2
end SN
