/-! orders: a clause, both -/
section CIo
variable {B : Nat → Nat} {n t p sz pa i len v q : Nat} {f g : hG}
theorem CoR.unO {f f' : hG} (h : CoR f) (u : Un sLo f f') : CoR f' := h.J (fun a k q => u.J (by rcases q with rfl | rfl | rfl | rfl | rfl <;> rfl))
theorem PQo.le4 (h : PQo B n p pa len f) : len ≤ 400 := by
  have a := cnt_m (stB B) p
  have b := h.2.2.2.2.2.2.2
  have c := h.1.1
  have d := h.2.1.1.1
  omega
/-- times, both -/
theorem times_j (h : PC B n t 1 p sz pa g) (hi : i < 12) (h5 : gI g (t + 5) i = 1) : ∃ (b : Bool) (g' : hG) (p' : Nat), q_Rd_readTimes (nI i) g = some (bI (b = true), g') ∧ Un (sTx t) g g' ∧ PC B n t 1 p' sz pa g' ∧ (∀ a k, t + 2 ≤ a → a ≤ t + 6 → ¬ (a = t + 5 ∧ k = i) → gI g' a k = gI g a k) ∧ (∀ j, gI g' (t + 1) j = gI g (t + 1) j) ∧ cnt (stB B) p ≤ cnt (stB B) p' ∧
    (b = true → ∃ tm, 1 ≤ tm ∧ tm ≤ 20 ∧ gI g' (t + 5) i = nI tm ∧ ∀ (len : Nat) (f : hG), PQo B n p pa len f → ∃ f', q_Mo_readOrder_90 (nI (8 * i)) f = q_Mo_readOrder_116 (nI (8 * i)) f' ∧ PQo B n p' pa len f' ∧ Un sLo f f' ∧ (∀ j, gI f' 378 j = gI f 378 j ∧ gI f' 379 j = gI f 379 j) ∧ (∀ k, k ≠ 8 * i + 7 → gI f' 397 k = gI f 397 k) ∧ gI f' 397 (8 * i + 7) = nI tm ∧ gI f' 367 21 = gI f 367 21) ∧
    (b = false → ∀ (len : Nat) (f : hG), PQo B n p pa len f → ∃ f', q_Mo_readOrder_90 (nI (8 * i)) f = q_Mo_readOrder_116 (nI (8 * i)) f' ∧ MFo p' f' ∧ Un sLo f f') := by
  have tt := h.2.2.2.1.2
  have hh := ht_ne h.2.2.2.1
  have hT := h.2.2.2.1
  have e7 : nI (8 * i) + (7 : Int32) = nI (8 * i + 7) := nI_add _ 7
  have wd : ∀ {len : Nat} {f : hG}, PQo B n p pa len f → q_Mo_isWord 21279923 f = some (bI (tkF B n p = 3001 + 13), f) := fun hf => word_qo hf (i := 13) (by omega)
  unfold q_Rd_readTimes
  rw [show q_Rd_took (3014 : Int32) g = _ from took_c h (v := 3014) (by omega)]
  by_cases z : tkF B n p = 3014
  · have hp := tk_lt h.2.1 (by omega)
    have kn := (tk_n hp.1 hp.2).2.1
    have ha := h.adv hp.1 hp.2
    have h5' := tk_5 h.2.2.1 (nx B n p)
    have md : ∀ (len : Nat) (f : hG), PQo B n p pa len f → ∃ f1, PQo B n (nx B n p) pa len f1 ∧ Un sLo f f1 ∧ (∀ j, gI f1 378 j = gI f 378 j ∧ gI f1 379 j = gI f 379 j) ∧ (∀ k, k ≠ 8 * i + 7 → gI f1 397 k = gI f 397 k) ∧ gI f1 367 21 = gI f 367 21 ∧ q_Mo_readOrder_90 (nI (8 * i)) f = bnd (q_Mo_must (bI (tkF B n (nx B n p) ≤ 1000 ∧ 1 ≤ tkF B n (nx B n p) ∧ tkF B n (nx B n p) ≤ 20)) f1) fun _ g2 => q_Mo_readOrder_116 (nI (8 * i)) (sI g2 397 (8 * i + 7) (gJ f1 367 17).toInt32) := fun len f hf => by
      have h0 := hf.w397 (8 * i + 7) 1
      obtain ⟨f1, a1, a2, a3⟩ := next_qo h0 hp.1 hp.2
      obtain ⟨b1, b2⟩ := number_b a2.1 a2.2.1 (lo := 1) (hi := 20) (by omega) (by omega)
      refine ⟨f1, a2, ((Un.rf : Un sLo f f).sI rfl _).tr (sPm_sLo (sNx_sPm a3)), fun j => ⟨(a3.I rfl).trans (rd_a (by decide)), (a3.I rfl).trans (rd_a (by decide))⟩, fun k hk => (a3.I rfl).trans (rd_k hk), (a3.I rfl).trans (rd_a (by decide)), ?_⟩
      unfold q_Mo_readOrder_90
      rw [e7, gd_nI (by omega) (by omega), wr_e, nI_clamp (by omega), rd_a (by decide), if_pos hf.2.2.2.1, wd h0, bnd_s, bI_t (by omega), if_neg (by decide), a1, bnd_s, show q_Mo_number (1 : Int64) (20 : Int64) f1 = _ from b1]
      cases q_Mo_must (bI (tkF B n (nx B n p) ≤ 1000 ∧ 1 ≤ tkF B n (nx B n p) ∧ tkF B n (nx B n p) ≤ 20)) f1 with
      | none => rfl
      | some x =>
        show gd (nI (8 * i + 7)) 96 _ = _
        rw [gd_nI (by omega) (by omega)]
        rfl
    rw [if_pos z, bnd_s, if_neg (by decide), tok_c ha, bnd_s]
    have bad : (tkF B n (nx B n p) = 0 ∨ 20 < tkF B n (nx B n p)) → ∀ (len : Nat) (f : hG), PQo B n p pa len f → ∃ f', q_Mo_readOrder_90 (nI (8 * i)) f = q_Mo_readOrder_116 (nI (8 * i)) f' ∧ MFo (nx B n p) f' ∧ Un sLo f f' := fun w len f hf => by
      obtain ⟨f1, a1, a2, a3, a4, a5, a6⟩ := md len f hf
      obtain ⟨f2, b1, b2, b3⟩ := must_qo0 a1
      refine ⟨sI f2 397 (8 * i + 7) (gJ f1 367 17).toInt32, ?_, b2.w397 _ _, (a2.tr (sPm_sLo b3)).sI rfl _⟩
      rw [a6, bI_f (by omega), b1, bnd_s]
    have ca : ∀ j, gI (adv B n p g) (t + 1) j = gI g (t + 1) j := fun j => rd_a hh.2.1
    have ra : ∀ a k, t + 2 ≤ a → a ≤ t + 6 → gI (adv B n p g) a k = gI g a k := fun a k q1 q2 => rd_a (by omega)
    by_cases y1 : tkF B n (nx B n p) = 0
    · rw [if_pos (show nI (tkF B n (nx B n p)) < (1 : Int32) by rw [y1]; decide)]
      exact ⟨false, adv B n p g, nx B n p, by rw [bI_f Bool.false_ne_true], sRd_sTx un_adv, ha, fun a k q1 q2 _ => ra a k q1 q2, ca, by omega, fun q => (by cases q), fun _ => bad (Or.inl y1)⟩
    · rw [if_neg (show ¬ nI (tkF B n (nx B n p)) < (1 : Int32) from nI_ngt (a := 1) (by omega) (by omega)), tok_c ha, bnd_s]
      by_cases y2 : tkF B n (nx B n p) ≤ 20
      · have hp2 := tk_lt ha.2.1 (by omega)
        have kn2 := (tk_n hp2.1 hp2.2).2.1
        have hk : PC B n t 1 (nx B n p) sz pa (sI (adv B n p g) (t + 5) i (nI (tkF B n (nx B n p)))) := ha.keep1 (fun a k hh => rd_a (by omega)) rfl
        rw [if_pos (show nI (tkF B n (nx B n p)) ≤ (20 : Int32) from nI_le (b := 20) y2 (by omega)), ha.2.2.2.2.1, gp_p hT.1, tok_c ha, bnd_s, gd_nI hi (by omega), wr_e, nI_clamp (by omega), goOn_c hk hp2.1 hp2.2, bnd_s]
        refine ⟨true, _, nx B n (nx B n p), by rw [bI_t rfl], ((sRd_sTx un_adv).sI (sTx_t (by omega) (by omega)) _).tr (sRd_sTx un_adv), hk.adv hp2.1 hp2.2, fun a k q1 q2 q3 => ?_, fun j => ?_, by omega, fun _ => ⟨tkF B n (nx B n p), by omega, y2, ?_, fun len f hf => ?_⟩, fun q => (by cases q)⟩
        · exact (rd_a (by omega)).trans ((by rw [gI_sI, if_neg q3] : gI (sI (adv B n p g) (t + 5) i (nI (tkF B n (nx B n p)))) a k = gI (adv B n p g) a k).trans (ra a k q1 q2))
        · exact (rd_a (by omega)).trans ((rd_a (by omega)).trans (ca j))
        · exact (rd_a (by omega)).trans rd_s
        · obtain ⟨f1, a1, a2, a3, a4, a5, a6⟩ := md len f hf
          obtain ⟨f2, b1, b2, b3⟩ := next_qo a1 hp2.1 hp2.2
          have nv := (number_b a1.1 a1.2.1 (lo := 1) (hi := 20) (by omega) (by omega)).2 (by omega)
          refine ⟨sI f2 397 (8 * i + 7) (gJ f1 367 17).toInt32, ?_, b2.w397 _ _, (a2.tr (sPm_sLo (sNx_sPm b3))).sI rfl _, fun j => ?_, fun k hk => ?_, ?_, ?_⟩
          · rw [a6, bI_t (by omega), must_qo1 a1, b1, bnd_s]
          · rw [rd_a (by decide), rd_a (by decide), b3.I rfl, b3.I rfl]; exact a3 j
          · rw [rd_k hk, b3.I rfl]; exact a4 k hk
          · rw [rd_s]; exact nv
          · rw [rd_a (by decide), b3.I rfl]; exact a5
      · rw [if_neg (show ¬ nI (tkF B n (nx B n p)) ≤ (20 : Int32) from nI_ge (a := 20) (by omega) (by omega))]
        exact ⟨false, adv B n p g, nx B n p, by rw [bI_f Bool.false_ne_true], sRd_sTx un_adv, ha, fun a k q1 q2 _ => ra a k q1 q2, ca, by omega, fun q => (by cases q), fun _ => bad (Or.inr (by omega))⟩
  · rw [if_neg z, bnd_s, if_pos rfl]
    refine ⟨true, g, p, by rw [bI_t rfl], Un.rf, h, fun _ _ _ _ _ => rfl, fun _ => rfl, Nat.le_refl _, fun _ => ⟨1, by omega, by omega, h5, fun len f hf => ?_⟩, fun q => (by cases q)⟩
    have h0 := hf.w397 (8 * i + 7) 1
    refine ⟨sI f 397 (8 * i + 7) 1, ?_, h0, Un.rf.sI rfl _, fun j => ⟨rd_a (by decide), rd_a (by decide)⟩, fun k hk => rd_k hk, rd_s, rd_a (by decide)⟩
    unfold q_Mo_readOrder_90
    rw [e7, gd_nI (by omega) (by omega), wr_e, nI_clamp (by omega), rd_a (by decide), if_pos hf.2.2.2.1, wd h0, bnd_s, bI_f (by omega), if_pos rfl]
def JH (B : Nat → Nat) (n t p sz pa i : Nat) (g : hG) : Prop := ∃ (b : Bool) (g' : hG) (p' sz' pa' : Nat), q_Rd_readOrder (nI i) g = q_Rd_readOrder_48 (nI i) (bI (b = true)) g' ∧ Un (sTx t) g g' ∧ PC B n t 1 p' sz' pa' g' ∧ (∀ a k, t + 2 ≤ a → a ≤ t + 6 → ¬ (k = i ∧ a ≤ t + 4) → gI g' a k = gI g a k) ∧
    (b = true → cnt (stB B) p < cnt (stB B) p' ∧ sz ≤ sz' ∧ (∀ j, j < sz → gI g' (t + 1) j = gI g (t + 1) j) ∧ ∃ (kd : Nat) (fi se : Den), (kd ≤ 3 ∧ (kd = 3 → fi = (fun _ => some (nI 1)) ∧ se = fun _ => some (nI 1))) ∧ gI g' (t + 2) i = nI kd ∧ GD 1 fi ∧ GD 1 se ∧ (∃ a, gI g' (t + 3) i = nI a ∧ Rwo g' t sz' a fi) ∧ (∃ a, gI g' (t + 4) i = nI a ∧ Rwo g' t sz' a se) ∧ ∀ (len : Nat) (f : hG), PQo B n p pa len f → CoR f → gI f 367 21 = nI i → ∃ (len' : Nat) (f' : hG), q_Mo_readOrder f = q_Mo_readOrder_90 (nI (8 * i)) f' ∧ PQo B n p' pa' len' f' ∧ Un sLo f f' ∧ len ≤ len' ∧ (∀ j, j < len → gI f' 378 j = gI f 378 j ∧ gI f' 379 j = gI f 379 j) ∧ (∀ k, k < 8 * i → gI f' 397 k = gI f 397 k) ∧ gI f' 367 21 = nI (i + 1) ∧ gI f' 397 (8 * i) = nI kd ∧ (kd < 3 → FS f' len' i 1 fi ∧ FS f' len' i 3 se) ∧ (kd = 3 → ∀ k, 1 ≤ k → k ≤ 4 → gI f' 397 (8 * i + k) = 0)) ∧
    (b = false → ∀ (len : Nat) (f : hG), PQo B n p pa len f → CoR f → gI f 367 21 = nI i → ∃ f', q_Mo_readOrder f = some ((), f') ∧ MFo p' f' ∧ Un sLo f f')
/-- the head and its sums, both -/
theorem order_h (h : PC B n t 1 p sz pa g) (hi : i < 12) (h3 : gI g (t + 3) i = 0) (h4 : gI g (t + 4) i = 0) (hB : gI g (t + 1) 0 = nI 16 ∧ gI g (t + 1) 1 = nI 13 ∧ 2 ≤ sz) : JH B n t p sz pa i g := by
  have tt := h.2.2.2.1.2
  have hh := ht_ne h.2.2.2.1
  have hT := h.2.2.2.1
  have sl : sz ≤ 2 + cnt (stB B) p := h.2.2.2.2.2.2.2.2.2.2
  -- both sums behind a head
  have two : ∀ v, v < 3 → tkF B n p = 3007 + 2 * v → q_Rd_readOrder (nI i) g = bnd (q_Rd_readTwo (nI i) (nI v) (nI (3008 + 2 * v)) (adv B n p g)) (fun r24 g22 => q_Rd_readOrder_48 (nI i) r24 g22) → JH B n t p sz pa i g := fun v hv z hcl => by
    have ha : actW (tkF B n p) = nI v := by
      have hx : v = 0 ∨ v = 1 ∨ v = 2 := by omega
      rcases hx with rfl | rfl | rfl <;> rw [z] <;> rfl
    have hp := tk_lt h.2.1 (by omega)
    have kn := (tk_n hp.1 hp.2).2.1
    obtain ⟨b, g', p', sz', pa', x1, x2, x3, x4, x5, x6⟩ := two_j (h.adv hp.1 hp.2) (by omega) hi hv
    have ca : ∀ j, gI (adv B n p g) (t + 1) j = gI g (t + 1) j := fun j => rd_a hh.2.1
    have r4 : ∀ a k, t + 2 ≤ a → a ≤ t + 6 → ¬ (k = i ∧ a ≤ t + 4) → gI g' a k = gI g a k := fun a k q1 q2 q3 => (x4 a k q1 q2 q3).trans (rd_a (by omega))
    refine ⟨b, g', p', sz', pa', by rw [hcl, x1, bnd_s], (sRd_sTx un_adv).tr x2, x3, r4, fun q => ?_, fun q len f hf hc h21 => ?_⟩
    · obtain ⟨y1, y2, y3, y4, fi, se, y5, y6, y7, y8, y9⟩ := x5 q
      refine ⟨by omega, y2, fun j hj => (y3 j hj).trans (ca j), v, fi, se, ⟨by omega, fun q => by omega⟩, y4, y5, y6, y7, y8, fun len f hf hc h21 => ?_⟩
      obtain ⟨f1, a1, a2, a3, a4, a5, a6, a7, a8, a9⟩ := head_yeso hf hc hi h21 (v := v) (by omega) ha
      obtain ⟨len', f', b1, b2, b3, b4, b5, b6, b7, b8, b9⟩ := y9 len f1 a2 (hc.unO a3)
      rw [a8, a9] at b5
      exact ⟨len', f', by rw [a1, if_neg (by omega), b1], b2, a3.tr b3, b4, b5, fun k hk => (b6 k (by omega)).trans (a7 k hk), b7.trans a4, (b6 _ (by omega)).trans a5, fun _ => ⟨b8, b9⟩, fun q => by omega⟩
    · obtain ⟨f1, a1, a2, a3, a4, a5, a6, a7, a8, a9⟩ := head_yeso hf hc hi h21 (v := v) (by omega) ha
      obtain ⟨f2, b1, b2, b3⟩ := x6 q len f1 a2 (hc.unO a3)
      obtain ⟨f3, c1, c2, c3⟩ := bad_90 hi b2
      exact ⟨f3, by rw [a1, if_neg (by omega), b1, c1], c2, (a3.tr b3).tr c3⟩
  have tk : ∀ v, v < 4000 → q_Rd_took (nI v) g = if tkF B n p = v then some (1, adv B n p g) else some (0, g) := fun v hv => took_c h hv
  by_cases z3 : tkF B n p = 3013
  · -- pass
    have hp := tk_lt h.2.1 (by omega)
    have kn := (tk_n hp.1 hp.2).2.1
    have ha := h.adv hp.1 hp.2
    have hk : PC B n t 1 (nx B n p) sz pa (sI (adv B n p g) (t + 2) i 3) := ha.keep1 (fun a k hh => rd_a (by omega)) rfl
    have c1 : ∀ j, gI (sI (adv B n p g) (t + 2) i 3) (t + 1) j = gI g (t + 1) j := fun j => (rd_a (by omega)).trans (rd_a (by omega))
    have r1 : ∀ a k, t + 2 ≤ a → a ≤ t + 6 → ¬ (a = t + 2 ∧ k = i) → gI (sI (adv B n p g) (t + 2) i 3) a k = gI g a k := fun a k q1 q2 q3 => by
      rw [gI_sI, if_neg q3]
      exact rd_a (by omega)
    have rw1 : Rwo (sI (adv B n p g) (t + 2) i 3) t sz 0 (fun _ => some (nI 1)) := ⟨1, 1, frc_num 249 (m := 1) (by omega) ((c1 0).trans hB.1), by omega, (c1 1).trans hB.2.1, by omega⟩
    refine ⟨true, sI (adv B n p g) (t + 2) i 3, nx B n p, sz, pa, ?_, (sRd_sTx un_adv).sI (sTx_t (by omega) (by omega)) _, hk, fun a k q1 q2 q3 => r1 a k q1 q2 (by omega), fun _ => ⟨by omega, Nat.le_refl _, fun j hj => c1 j, 3, fun _ => some (nI 1), fun _ => some (nI 1), ⟨by omega, fun _ => ⟨rfl, rfl⟩⟩, rd_s, gd_num 1 (m := 1) (by omega), gd_num 1 (m := 1) (by omega), ⟨0, (r1 _ _ (by omega) (by omega) (by omega)).trans h3, rw1⟩, ⟨0, (r1 _ _ (by omega) (by omega) (by omega)).trans h4, rw1⟩, fun len f hf hc h21 => ?_⟩, fun q => (by cases q)⟩
    · unfold q_Rd_readOrder
      rw [show q_Rd_took (3013 : Int32) g = _ from tk 3013 (by omega), if_pos z3, bnd_s, if_neg (by decide), ha.2.2.2.2.1, gp_p hT.1, gd_nI hi (by omega), wr_e, nI_clamp (by omega), bI_t rfl]
    · obtain ⟨f1, a1, a2, a3, a4, a5, a6, a7, a8, a9⟩ := head_yeso hf hc hi h21 (v := 3) (by omega) (by rw [z3]; rfl)
      exact ⟨len, f1, by rw [a1, if_pos rfl], a2, a3, Nat.le_refl _, fun j hj => by rw [a8, a9]; exact ⟨rfl, rfl⟩, a7, a4, a5, fun q => by omega, fun _ k k1 k2 => a6 k k1 (by omega)⟩
  · by_cases z0 : tkF B n p = 3007
    · refine two 0 (by omega) z0 ?_
      unfold q_Rd_readOrder
      rw [show q_Rd_took (3013 : Int32) g = _ from tk 3013 (by omega), if_neg z3, bnd_s, if_pos rfl, show q_Rd_took (3007 : Int32) g = _ from tk 3007 (by omega), if_pos z0, bnd_s, if_neg (by decide)]
      rfl
    · by_cases z1 : tkF B n p = 3009
      · refine two 1 (by omega) z1 ?_
        unfold q_Rd_readOrder
        rw [show q_Rd_took (3013 : Int32) g = _ from tk 3013 (by omega), if_neg z3, bnd_s, if_pos rfl, show q_Rd_took (3007 : Int32) g = _ from tk 3007 (by omega), if_neg z0, bnd_s, if_pos rfl, show q_Rd_took (3009 : Int32) g = _ from tk 3009 (by omega), if_pos z1, bnd_s, if_neg (by decide)]
        rfl
      · by_cases z2 : tkF B n p = 3011
        · refine two 2 (by omega) z2 ?_
          unfold q_Rd_readOrder
          rw [show q_Rd_took (3013 : Int32) g = _ from tk 3013 (by omega), if_neg z3, bnd_s, if_pos rfl, show q_Rd_took (3007 : Int32) g = _ from tk 3007 (by omega), if_neg z0, bnd_s, if_pos rfl, show q_Rd_took (3009 : Int32) g = _ from tk 3009 (by omega), if_neg z1, bnd_s, if_pos rfl, show q_Rd_took (3011 : Int32) g = _ from tk 3011 (by omega), if_pos z2, bnd_s, if_neg (by decide)]
          rfl
        · refine ⟨false, g, p, sz, pa, ?_, Un.rf, h, fun _ _ _ _ _ => rfl, fun q => (by cases q), fun _ len f hf hc h21 => head_noo hf hc (Or.inl ?_)⟩
          · unfold q_Rd_readOrder
            rw [show q_Rd_took (3013 : Int32) g = _ from tk 3013 (by omega), if_neg z3, bnd_s, if_pos rfl, show q_Rd_took (3007 : Int32) g = _ from tk 3007 (by omega), if_neg z0, bnd_s, if_pos rfl, show q_Rd_took (3009 : Int32) g = _ from tk 3009 (by omega), if_neg z1, bnd_s, if_pos rfl, show q_Rd_took (3011 : Int32) g = _ from tk 3011 (by omega), if_neg z2, bnd_s, if_pos rfl, bI_f Bool.false_ne_true]
          · unfold actW
            rw [if_neg z3, if_neg z2, if_neg z1, if_neg z0]
end CIo
