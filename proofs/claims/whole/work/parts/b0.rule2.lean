/-! law: a clause, both, put together -/
section CH
variable {B : Nat → Nat} {n t p sz pa i : Nat} {g : hG}
def clC (i : Nat) (g : hG) : hO Int32 := bnd (q_Rd_readRule (nI i) g) fun r g => if r = (0 : Int32) then some ((0 : Int32), g) else q_Rd_readIf (nI i) g
/-- a clause of the model -/
def DM (f : hG) (len i : Nat) (hd : Bool) (te su : Den) : Prop := gI f 377 (8 * i) = (if hd = true then 1 else 0) ∧ DT f len i te ∧ (hd = false → ∃ a b, b ≤ len ∧ gI f 377 (8 * i + 3) = nI a ∧ gI f 377 (8 * i + 4) = nI b ∧ FrM 0 (gI f 378) (gI f 379) a b su)
/-- a clause of the class -/
def DC (g : hG) (t sz i : Nat) (hd : Bool) (te su : Den) : Prop := gI g (t + 2) i = (if hd = true then 5 else 4) ∧ t01 te ∧ GD 0 te ∧ GD 0 su ∧ (∃ a, gI g (t + 6) i = nI a ∧ Rw g t sz a te) ∧ (hd = false → ∃ a, gI g (t + 3) i = nI a ∧ Rw g t sz a su)
theorem gd_none (lg : Nat) : GD lg (fun _ => none) := ⟨fun _ _ _ => rfl, fun _ _ _ q => by cases q⟩
def JC (B : Nat → Nat) (n t p sz pa i : Nat) (g : hG) (X : hO Int32) : Prop := ∃ (b : Bool) (g' : hG) (p' sz' pa' : Nat), X = some (bI (b = true), g') ∧ Un (sTx t) g g' ∧ PC B n t 0 p' sz' pa' g' ∧ (∀ a k, t + 2 ≤ a → a ≤ t + 6 → k ≠ i → gI g' a k = gI g a k) ∧
    (b = true → cnt (stB B) p < cnt (stB B) p' ∧ sz ≤ sz' ∧ (∀ j, j < sz → gI g' (t + 1) j = gI g (t + 1) j) ∧ ∃ (hd : Bool) (te su : Den), DC g' t sz' i hd te su ∧ ∀ (len : Nat) (f : hG), PQ B n p pa len f → CoR f → gI f 367 21 = nI i → ∃ (len' : Nat) (f' : hG), q_Mo_readLaw f = some ((), f') ∧ PQ B n p' pa' len' f' ∧ Un sLw f f' ∧ len ≤ len' ∧ (∀ j, j < len → gI f' 378 j = gI f 378 j ∧ gI f' 379 j = gI f 379 j) ∧ (∀ k, k < 8 * i → gI f' 377 k = gI f 377 k) ∧ gI f' 367 21 = nI (i + 1) ∧ DM f' len' i hd te su) ∧
    (b = false → ∀ (len : Nat) (f : hG), PQ B n p pa len f → CoR f → gI f 367 21 = nI i → ∃ f', q_Mo_readLaw f = some ((), f') ∧ MFl p' f' ∧ Un sLw f f')
theorem CoR.unL {f f' : hG} (h : CoR f) (u : Un sLw f f') : CoR f' := by
  obtain ⟨h1, h2, h3, h4, h5⟩ := h
  exact ⟨fun j hj => (u.J (by rfl)).trans (h1 j hj), fun j hj => (u.J (by rfl)).trans (h2 j hj), fun j hj => (u.J (by rfl)).trans (h3 j hj), fun j hj => (u.J (by rfl)).trans (h4 j hj), fun j hj => (u.J (by rfl)).trans (h5 j hj)⟩
theorem rule_j (h : PC B n t 0 p sz pa g) (hi : i < 12) (h6 : gI g (t + 6) i = 0) (hB : gI g (t + 1) 0 = nI 16 ∧ gI g (t + 1) 1 = nI 13 ∧ 2 ≤ sz) : JC B n t p sz pa i g (clC i g) := by
  have tt := h.2.2.2.1.2
  have hh := ht_ne h.2.2.2.1
  have sl : sz ≤ 2 + cnt (stB B) p := h.2.2.2.2.2.2.2.2.2.2
  unfold clC q_Rd_readRule
  rw [show q_Rd_took (3002 : Int32) g = _ from took_c h (v := 3002) (by omega)]
  by_cases z2 : tkF B n p = 3002
  · -- holds
    have hp := tk_lt h.2.1 (by omega)
    have kn := (tk_n hp.1 hp.2).2.1
    have ha := h.adv hp.1 hp.2
    have hk : PC B n t 0 (nx B n p) sz pa (sI (adv B n p g) (t + 2) i 5) := ha.keep (fun a k hh => rd_a (by omega)) rfl
    have r1 : ∀ a k, t + 2 ≤ a → a ≤ t + 6 → ¬ (a = t + 2 ∧ k = i) → gI (sI (adv B n p g) (t + 2) i 5) a k = gI g a k := fun a k q1 q2 q3 => by
      rw [gI_sI, if_neg q3]
      exact rd_a (by omega)
    have c1 : ∀ j, gI (sI (adv B n p g) (t + 2) i 5) (t + 1) j = gI g (t + 1) j := fun j => (rd_a (by omega)).trans (rd_a (by omega))
    obtain ⟨b, g2, p2, sz2, pa2, x1, x2, x3, x4, x5, x6⟩ := if_j hk hi ((r1 _ _ (by omega) (by omega) (by omega)).trans h6) ⟨(c1 0).trans hB.1, (c1 1).trans hB.2.1, hB.2.2⟩
    have u1 : Un (sTx t) g (sI (adv B n p g) (t + 2) i 5) := (sRd_sTx un_adv).sI (by unfold sTx; simp) _
    rw [if_pos z2, bnd_s, if_neg (by decide), ha.2.2.2.2.1, gp_p h.2.2.2.1.1, gd_nI hi (by omega), wr_e, nI_clamp (by omega), bnd_s, if_neg (by decide)]
    refine ⟨b, g2, p2, sz2, pa2, x1, u1.tr x2, x3, fun a k q1 q2 q3 => (x4 a k q1 q2 (by omega)).trans (r1 a k q1 q2 (by omega)), fun q => ?_, fun q len f hf hc h21 => ?_⟩
    · obtain ⟨y1, y2, y3, te, y4, y5, y6, y7⟩ := x5 q
      refine ⟨by omega, y2, fun j hj => (y3 j hj).trans (c1 j), true, te, fun _ => none, ⟨?_, y4, y5, gd_none 0, y6, fun q => (by cases q)⟩, fun len f hf hc h21 => ?_⟩
      · rw [x4 _ _ (by omega) (by omega) (by omega), rd_s, if_pos rfl]
      · obtain ⟨f1, a1, a2, a3, a4, a5, a6, a7, a8, a9⟩ := head_yes hf hc hi h21 (v := 1) (Or.inr ⟨rfl, z2⟩)
        obtain ⟨len', f', b1, b2, b3, b4, b5, b6, b7, b8⟩ := y7 len (sI (sI f1 377 (8 * i + 4) (nI len)) 377 (8 * i + 5) (nI len)) ((a2.w377 _ _).w377 _ _) (hc.unL (a3.tr ((Un.rf.sI rfl _).sI rfl _))) rd_s
        refine ⟨len', f', ?_, b2, (a3.tr ((Un.rf.sI rfl _).sI rfl _)).tr b3, b4, fun j hj => ?_, fun k hk => ?_, ?_, ?_, b8, fun q => (by cases q)⟩
        · rw [a1, if_pos rfl, mid_80 a2 hi, b1]
        · have := b5 j hj
          rw [rd_a (by decide), rd_a (by decide), rd_a (by decide), rd_a (by decide), a8, a9] at this
          exact this
        · rw [b6 k (by omega), rd_k (by omega), rd_k (by omega)]; exact a7 k hk
        · rw [b7, rd_a (by decide), rd_a (by decide)]; exact a4
        · rw [b6 _ (by omega), rd_k (by omega), rd_k (by omega), a5]; rfl
    · obtain ⟨f1, a1, a2, a3, a4, a5, a6, a7, a8, a9⟩ := head_yes hf hc hi h21 (v := 1) (Or.inr ⟨rfl, z2⟩)
      obtain ⟨f', b1, b2, b3⟩ := x6 q len (sI (sI f1 377 (8 * i + 4) (nI len)) 377 (8 * i + 5) (nI len)) ((a2.w377 _ _).w377 _ _) (hc.unL (a3.tr ((Un.rf.sI rfl _).sI rfl _)))
      exact ⟨f', by rw [a1, if_pos rfl, mid_80 a2 hi, b1], b2, (a3.tr ((Un.rf.sI rfl _).sI rfl _)).tr b3⟩
  · rw [if_neg z2, bnd_s, if_pos rfl, show q_Rd_took (3001 : Int32) g = _ from took_c h (v := 3001) (by omega)]
    by_cases z1 : tkF B n p = 3001
    · -- stands
      have hp := tk_lt h.2.1 (by omega)
      have kn := (tk_n hp.1 hp.2).2.1
      have ha := h.adv hp.1 hp.2
      have hk : PC B n t 0 (nx B n p) sz pa (sI (sI (adv B n p g) (t + 2) i 4) (t + 3) i (nI sz)) := ha.keep (fun a k hh => (rd_a (by omega)).trans (rd_a (by omega))) rfl
      obtain ⟨b, g1, p1, sz1, pa1, s1, s2, s3, s4, s5, s6, s7, s8⟩ := sum_z (v1 := 0) FR 0 (by decide) (by omega) _ _ _ _ hk
      obtain ⟨a1, a2, a3⟩ := add_j s3 (by omega) (s := 13) (by omega)
      have sRow : ∀ a k, t + 2 ≤ a → a ≤ t + 6 → sRd t a k = false := fun a k q1 q2 => Bool.eq_false_iff.mpr (fun y => by
        simp only [sRd, Bool.or_eq_true, Bool.and_eq_true, beq_iff_eq] at y
        omega)
      have r0 : ∀ a k, t + 2 ≤ a → a ≤ t + 6 → gI (addH t sz1 13 g1) a k = gI (sI (sI (adv B n p g) (t + 2) i 4) (t + 3) i (nI sz)) a k := fun a k q1 q2 => by
        rw [un_add.I (sRow a k q1 q2), s2.I (sRow a k q1 q2)]
      have r1 : ∀ a k, t + 2 ≤ a → a ≤ t + 6 → k ≠ i → gI (addH t sz1 13 g1) a k = gI g a k := fun a k q1 q2 q3 => by
        rw [r0 a k q1 q2, rd_k q3, rd_k q3]
        exact rd_a (by omega)
      have u1 : Un (sTx t) g (addH t sz1 13 g1) := ((((sRd_sTx un_adv).sI (by unfold sTx; simp) _).sI (by unfold sTx; simp) _).tr (sRd_sTx s2)).tr (sRd_sTx un_add)
      have er : ∀ r, q_Rd_endRow (bI (b = true)) g1 = r → r = some (bI (b = true), addH t sz1 13 g1) := fun r q => by
        rw [← q]
        unfold q_Rd_endRow
        rw [s3.2.2.2.2.1, gp_p h.2.2.2.1.1, show q_Text_add t (13 : Int32) (0 : Int32) g1 = _ from a1, bnd_s, gb_bI2]
      have hk0 : gP (sI (adv B n p g) (t + 2) i 4) 239 1 = some t := ha.2.2.2.2.1
      have hz : gI (sI (adv B n p g) (t + 2) i 4) t 1 = nI sz := (rd_a (by omega)).trans ha.2.2.2.2.2.2.2.2.1
      rw [if_pos z1, bnd_s, if_neg (by decide), ha.2.2.2.2.1, gp_p h.2.2.2.1.1, gd_nI hi (by omega), wr_e, nI_clamp (by omega), hk0, gp_p h.2.2.2.1.1, gp_p h.2.2.2.1.1, gd_nI hi (by omega), wr_e, hz, show z_Rd_sum FR (0 : Int32) (sI (sI (adv B n p g) (t + 2) i 4) (t + 3) i (nI sz)) = _ from s1, bnd_s, er _ rfl, bnd_s, gb_bI2, bnd_s]
      cases b with
      | false =>
        rw [bI_f Bool.false_ne_true, if_pos rfl]
        refine ⟨false, _, p1, sz1 + 1, pa1, by rw [bI_f Bool.false_ne_true], u1, a2, r1, fun q => (by cases q), fun _ len f hf hc h21 => ?_⟩
        obtain ⟨f1, b1, b2, b3, b4, b5, b6, b7, b8, b9⟩ := head_yes hf hc hi h21 (v := 0) (Or.inl ⟨rfl, z1⟩)
        obtain ⟨f2, c1, c2, c3, c4, c5⟩ := rexp_sn (s8 rfl) s3.2.1.le b2 (hc.unL b3)
        obtain ⟨f3, d1, d2, d3⟩ := bad_80 c2 hi c3 c4
        exact ⟨f3, by rw [b1, if_neg (by omega), c1, bnd_s, d1], d2, (b3.tr (sPm_sLw c5)).tr d3⟩
      | true =>
        rw [bI_t rfl, if_neg (by decide)]
        obtain ⟨y1, y2, y3, su, k, y4, y5, y6, y7, y8⟩ := s7 rfl
        have f4 := y4.1
        have pa50 : pa1 ≤ 50 := s3.2.2.2.2.2.2.2.2.2.1
        have cd : ∀ j, j < sz → gI (addH t sz1 13 g1) (t + 1) j = gI g (t + 1) j := fun j hj => by
          rw [a3, if_neg (by omega), y3 j hj, rd_a (by omega), rd_a (by omega)]
          exact rd_a (by omega)
        have k6 : gI (addH t sz1 13 g1) (t + 6) i = 0 := by
          rw [r0 _ _ (by omega) (by omega), rd_a (by omega), rd_a (by omega)]
          exact (rd_a (by omega)).trans h6
        have rw0 : Rw (addH t sz1 13 g1) t (sz1 + 1) sz su := ⟨sz1, k, y4.ex (fun j a b => by rw [a3, if_neg (by omega)]), by omega, by rw [a3, if_pos rfl], by omega⟩
        obtain ⟨b, g2, p2, sz2, pa2, x1, x2, x3, x4, x5, x6⟩ := if_j a2 hi k6 ⟨(cd 0 (by omega)).trans hB.1, (cd 1 (by omega)).trans hB.2.1, by omega⟩
        have model : ∀ (len : Nat) (f : hG), PQ B n p pa len f → CoR f → gI f 367 21 = nI i → ∃ (len1 : Nat) (f1 : hG), q_Mo_readLaw f = mIf (nI (8 * i)) f1 ∧ PQ B n p1 pa1 len1 f1 ∧ Un sLw f f1 ∧ len < len1 ∧ FrM 0 (gI f1 378) (gI f1 379) len len1 su ∧ (∀ j, j < len → gI f1 378 j = gI f 378 j ∧ gI f1 379 j = gI f 379 j) ∧ (∀ k, k < 8 * i → gI f1 377 k = gI f 377 k) ∧ gI f1 367 21 = nI (i + 1) ∧ gI f1 377 (8 * i) = 0 ∧ gI f1 377 (8 * i + 3) = nI len ∧ gI f1 377 (8 * i + 4) = nI len1 ∧ gI f1 377 (8 * i + 5) = nI len1 := fun len f hf hc h21 => by
          obtain ⟨f1, b1, b2, b3, b4, b5, b6, b7, b8, b9⟩ := head_yes hf hc hi h21 (v := 0) (Or.inl ⟨rfl, z1⟩)
          obtain ⟨len', f2, c1, c2, c3, c4, c5, c6⟩ := rexp_s y8 y2 b2 (hc.unL b3)
          have r7 : ∀ k, gI f2 377 k = gI f1 377 k := fun k => c6.I rfl
          refine ⟨len', sI (sI f2 377 (8 * i + 4) (nI len')) 377 (8 * i + 5) (nI len'), ?_, (c2.w377 _ _).w377 _ _, ((b3.tr (sPm_sLw c6)).sI rfl _).sI rfl _, c3, ?_, fun j hj => ?_, fun k hk => ?_, ?_, ?_, ?_, ?_, rd_s⟩
          · rw [b1, if_neg (by omega), c1, bnd_s, mid_80 c2 hi]
          · rw [gI_up0 _ _ _ (by decide), gI_up0 _ _ _ (by decide), gI_up0 _ _ _ (by decide), gI_up0 _ _ _ (by decide)]; exact c4
          · rw [rd_a (by decide), rd_a (by decide), rd_a (by decide), rd_a (by decide)]
            have := c5 j hj
            rw [b8, b9] at this
            exact this
          · rw [rd_k (by omega), rd_k (by omega), r7]; exact b7 k hk
          · rw [rd_a (by decide), rd_a (by decide)]; exact (c6.I rfl).trans b4
          · rw [rd_k (by omega), rd_k (by omega), r7]; exact b5
          · rw [rd_k (by omega), rd_k (by omega), r7]; exact b6
          · rw [rd_k (by omega), rd_s]
        refine ⟨b, g2, p2, sz2, pa2, x1, u1.tr x2, x3, fun a k q1 q2 q3 => (x4 a k q1 q2 (by omega)).trans (r1 a k q1 q2 q3), fun q => ?_, fun q len f hf hc h21 => ?_⟩
        · obtain ⟨w1, w2, w3, te, w4, w5, w6, w7⟩ := x5 q
          refine ⟨by omega, by omega, fun j hj => (w3 j (by omega)).trans (cd j hj), false, te, su, ⟨?_, w4, w5, y7, w6, fun _ => ⟨sz, ?_, rw0.ex w2 w3⟩⟩, fun len f hf hc h21 => ?_⟩
          · rw [x4 _ _ (by omega) (by omega) (by omega), r0 _ _ (by omega) (by omega), rd_a (by omega), rd_s]; rfl
          · rw [x4 _ _ (by omega) (by omega) (by omega), r0 _ _ (by omega) (by omega), rd_s]
          · obtain ⟨len1, f1, m1, m2, m3, m4, m5, m6, m7, m8, m9, m10, m11, m12⟩ := model len f hf hc h21
            obtain ⟨len', f', b1, b2, b3, b4, b5, b6, b7, b8⟩ := w7 len1 f1 m2 (hc.unL m3) m12
            refine ⟨len', f', by rw [m1, b1], b2, m3.tr b3, by omega, fun j hj => ⟨(b5 j (by omega)).1.trans (m6 j hj).1, (b5 j (by omega)).2.trans (m6 j hj).2⟩, fun k hk => (b6 k (by omega)).trans (m7 k hk), b7.trans m8, (b6 _ (by omega)).trans m9, b8, fun _ => ⟨len, len1, by omega, (b6 _ (by omega)).trans m10, (b6 _ (by omega)).trans m11, m5.ex (fun j a b => b5 j b)⟩⟩
        · obtain ⟨len1, f1, m1, m2, m3, m4, m5, m6, m7, m8, m9, m10, m11, m12⟩ := model len f hf hc h21
          obtain ⟨f', b1, b2, b3⟩ := x6 q len1 f1 m2 (hc.unL m3)
          exact ⟨f', by rw [m1, b1], b2, m3.tr b3⟩
    · rw [if_neg z1, bnd_s, if_pos rfl, bnd_s, if_pos rfl]
      exact ⟨false, g, p, sz, pa, by rw [bI_f Bool.false_ne_true], Un.rf, h, fun _ _ _ _ _ => rfl, fun q => (by cases q), fun _ len f hf hc h21 => head_no hf hc (Or.inl ⟨z1, z2⟩)⟩
end CH
