/-! law: what is behind a clause's sum, both -/
section CF
variable {B : Nat → Nat} {n t p sz pa i : Nat} {g : hG}
/-- the text's cells but its number of clauses -/
def sTx (t a k : Nat) : Bool := sRd t a k || (Nat.ble (t + 2) a && Nat.ble a (t + 6))
theorem sRd_sTx {g g' : hG} (u : Un (sRd t) g g') : Un (sTx t) g g' := u.mo (fun a k z => by unfold sTx at z; rw [Bool.or_eq_false_iff] at z; exact z.1)
theorem PC.keep {g' : hG} (h : PC B n t 0 p sz pa g) (e : ∀ a k, (a = 235 ∨ a = 237 ∨ a = 238 ∨ a = 239 ∨ (a = t ∧ k = 1)) → gI g' a k = gI g a k) (eP : gP g' 239 1 = gP g 239 1) : PC B n t 0 p sz pa g' := by
  obtain ⟨⟨a1, a2⟩, a3, a4, a5, a6, a7, a8, a9, a10, a11, a12⟩ := h
  exact ⟨⟨(e 235 4 (by omega)).trans a1, fun p hp => ⟨(e 238 _ (by omega)).trans (a2 p hp).1, (e 237 _ (by omega)).trans (a2 p hp).2⟩⟩, a3, a4, a5, eP.trans a6, (e 239 2 (by omega)).trans a7, (e 239 3 (by omega)).trans a8, (e 239 4 (by omega)).trans a9, (e t 1 (by omega)).trans a10, a11, a12⟩
/-- a row of code with its STOP -/
def Rw (g : hG) (t sz a : Nat) (den : Den) : Prop := ∃ b k, FrC 251 (gI g (t + 1)) a b k den ∧ k ≤ 50 ∧ gI g (t + 1) b = nI 13 ∧ b < sz
theorem Rw.ex {g' : hG} {a sz' : Nat} {den : Den} (h : Rw g t sz a den) (hs : sz ≤ sz') (e : ∀ j, j < sz → gI g' (t + 1) j = gI g (t + 1) j) : Rw g' t sz' a den := by
  obtain ⟨b, k, h1, h2, h3, h4⟩ := h
  exact ⟨b, k, h1.ex (fun j x y => e j (by omega)), h2, (e b h4).trans h3, by omega⟩
def sLw (a k : Nat) : Bool := sPm a k || a == 377 || (a == 367 && k == 21)
theorem sPm_sLw {f f' : hG} (u : Un sPm f f') : Un sLw f f' := u.mo (fun a k z => by
  unfold sLw at z
  rw [Bool.or_eq_false_iff, Bool.or_eq_false_iff] at z
  exact z.1.1)
def mIf (v2 : Int32) (g : hG) : hO Unit := bnd (q_Mo_isWord (294 : Int64) g) fun r36 g34 => if r36 = (0 : Int32) then (q_Mo_readLaw_108 v2 g34) else (bnd (q_Mo_next g34) fun _ g38 => bnd (q_Mo_readExpression (1 : Int32) g38) fun _ g40 => q_Mo_readLaw_108 v2 g40)
theorem e108 (i : Nat) (hi : i < 12) (f : hG) : q_Mo_readLaw_108 (nI (8 * i)) f = some ((), sI f 377 (8 * i + 6) (gI f 367 23)) := by
  unfold q_Mo_readLaw_108
  rw [show nI (8 * i) + (6 : Int32) = nI (8 * i + 6) from nI_add _ 6, gd_nI (by omega) (by omega), wr_e, nI_clamp (by omega)]
theorem PQ.w377 {len : Nat} {f : hG} (h : PQ B n p pa len f) (k : Nat) (v : Int32) : PQ B n p pa len (sI f 377 k v) := by
  obtain ⟨j1, j2, j3, j4, j5, j6, j7, j8⟩ := h
  have r : ∀ a x, a ≠ 377 → gI (sI f 377 k v) a x = gI f a x := fun a x ha => rd_a ha
  exact ⟨⟨j1.1, (r _ _ (by decide)).trans j1.2.1, fun j hj => ⟨(r _ _ (by decide)).trans (j1.2.2 j hj).1, (j1.2.2 j hj).2⟩⟩, j2.ex (fun x _ => r _ _ (by decide)) rfl, j3, (r _ _ (by decide)).trans j4, (r _ _ (by decide)).trans j5, (r _ _ (by decide)).trans j6, (r _ _ (by decide)).trans j7, j8⟩
/-- the test's part of a clause of the model -/
def DT (f : hG) (len i : Nat) (te : Den) : Prop := (∃ a b, a < b ∧ b ≤ len ∧ gI f 377 (8 * i + 5) = nI a ∧ gI f 377 (8 * i + 6) = nI b ∧ FrM 0 (gI f 378) (gI f 379) a b te) ∨ ∃ a, a ≤ len ∧ gI f 377 (8 * i + 5) = nI a ∧ gI f 377 (8 * i + 6) = nI a ∧ te = fun _ => some 1
theorem if_j (h : PC B n t 0 p sz pa g) (hi : i < 12) (h6 : gI g (t + 6) i = 0) (hB : gI g (t + 1) 0 = nI 16 ∧ gI g (t + 1) 1 = nI 13 ∧ 2 ≤ sz) : ∃ (b : Bool) (g' : hG) (p' sz' pa' : Nat), q_Rd_readIf (nI i) g = some (bI (b = true), g') ∧ Un (sTx t) g g' ∧ PC B n t 0 p' sz' pa' g' ∧ (∀ a k, t + 2 ≤ a → a ≤ t + 6 → ¬ (a = t + 6 ∧ k = i) → gI g' a k = gI g a k) ∧
    (b = true → cnt (stB B) p ≤ cnt (stB B) p' ∧ sz ≤ sz' ∧ (∀ j, j < sz → gI g' (t + 1) j = gI g (t + 1) j) ∧ ∃ te : Den, t01 te ∧ GD 0 te ∧ (∃ a, gI g' (t + 6) i = nI a ∧ Rw g' t sz' a te) ∧ ∀ (len : Nat) (f : hG), PQ B n p pa len f → CoR f → gI f 377 (8 * i + 5) = nI len → ∃ (len' : Nat) (f' : hG), mIf (nI (8 * i)) f = some ((), f') ∧ PQ B n p' pa' len' f' ∧ Un sLw f f' ∧ len ≤ len' ∧ (∀ j, j < len → gI f' 378 j = gI f 378 j ∧ gI f' 379 j = gI f 379 j) ∧ (∀ k, k ≠ 8 * i + 6 → gI f' 377 k = gI f 377 k) ∧ gI f' 367 21 = gI f 367 21 ∧ DT f' len' i te) ∧
    (b = false → ∀ (len : Nat) (f : hG), PQ B n p pa len f → CoR f → ∃ f', mIf (nI (8 * i)) f = some ((), f') ∧ MFl p' f' ∧ Un sLw f f') := by
  have tt := h.2.2.2.1.2
  have hh := ht_ne h.2.2.2.1
  have sl : sz ≤ 2 + cnt (stB B) p := h.2.2.2.2.2.2.2.2.2.2
  have wd : ∀ {len : Nat} {f : hG}, PQ B n p pa len f → q_Mo_isWord 294 f = some (bI (tkF B n p = 3001 + 2), f) := fun hf => word_q hf (i := 2) (by omega)
  unfold q_Rd_readIf
  rw [show q_Rd_took (3003 : Int32) g = _ from took_c h (v := 3003) (by omega)]
  by_cases z : tkF B n p = 3003
  · have hp := tk_lt h.2.1 (by omega)
    have kn := (tk_n hp.1 hp.2).2.1
    have ha := h.adv hp.1 hp.2
    have hk : PC B n t 0 (nx B n p) sz pa (sI (adv B n p g) (t + 6) i (nI sz)) := ha.keep (fun a k hh => rd_a (by omega)) rfl
    obtain ⟨b, g2, p2, sz2, pa2, x1, x2, x3, x4, x5, x6, x7, x8⟩ := test_z FR 0 (by decide) (by omega) _ _ _ _ hk
    obtain ⟨a1, a2, a3⟩ := add_j x3 (by omega) (s := 13) (by omega)
    have u1 : Un (sTx t) g (sI (adv B n p g) (t + 6) i (nI sz)) := (sRd_sTx un_adv).sI (by unfold sTx; simp) _
    have uu := (u1.tr (sRd_sTx x2)).tr (sRd_sTx (un_add (t := t) (g := g2) (sz := sz2) (c := 13)))
    have rows : ∀ a k, t + 2 ≤ a → a ≤ t + 6 → ¬ (a = t + 6 ∧ k = i) → gI (addH t sz2 13 g2) a k = gI g a k := fun a k q1 q2 q3 => by
      have q : sRd t a k = false := Bool.eq_false_iff.mpr (fun y => by
        simp only [sRd, Bool.or_eq_true, Bool.and_eq_true, beq_iff_eq] at y
        omega)
      rw [un_add.I q, x2.I q, gI_sI, if_neg q3, un_adv.I q]
    rw [if_pos z, bnd_s, if_neg (by decide), ha.2.2.2.2.1, gp_p h.2.2.2.1.1, gp_p h.2.2.2.1.1, gd_nI hi (by omega), wr_e, nI_clamp (by omega), ha.2.2.2.2.2.2.2.2.1, show z_Rd_test FR (0 : Int32) (sI (adv B n p g) (t + 6) i (nI sz)) = _ from x1, bnd_s]
    have er : ∀ r, q_Rd_endRow (bI (b = true)) g2 = r → r = some (bI (b = true), addH t sz2 13 g2) := fun r q => by
      rw [← q]
      unfold q_Rd_endRow
      rw [x3.2.2.2.2.1, gp_p h.2.2.2.1.1, show q_Text_add t (13 : Int32) (0 : Int32) g2 = _ from a1, bnd_s, gb_bI2]
    rw [er _ rfl, bnd_s, gb_bI2]
    refine ⟨b, _, p2, sz2 + 1, pa2, rfl, uu, a2, rows, fun q => ?_, fun q => ?_⟩
    · obtain ⟨y1, y2, y3, te, k, y4, y5, y6, y7, y8⟩ := x7 q
      have s4 := y4.1
      have pa50 : pa2 ≤ 50 := x3.2.2.2.2.2.2.2.2.2.1
      refine ⟨by omega, by omega, fun j hj => ?_, te, y6, y7, ⟨sz, ?_, sz2, k, ?_, by omega, by rw [a3, if_pos rfl], by omega⟩, fun len f hf hc h5 => ?_⟩
      · rw [a3, if_neg (by omega), y3 j hj, rd_a (by omega)]
        exact rd_a (by omega)
      · have q : sRd t (t + 6) i = false := Bool.eq_false_iff.mpr (fun y => by
          simp only [sRd, Bool.or_eq_true, Bool.and_eq_true, beq_iff_eq] at y
          omega)
        rw [un_add.I q, x2.I q, rd_s]
      · exact y4.ex (fun j a b => by rw [a3, if_neg (by omega)])
      · obtain ⟨f1, b1, b2, b3⟩ := next_q hf hp.1 hp.2
        obtain ⟨len', f2, c1, c2, c3, c4, c5, c6⟩ := rexp_t y8 y2 b2 (hc.un (sNx_sPm b3))
        have u2 : Un sLw f (sI f2 377 (8 * i + 6) (gI f2 367 23)) := ((sPm_sLw (sNx_sPm b3)).tr (sPm_sLw c6)).sI rfl _
        have e23 : gI f2 367 23 = nI len' := c2.2.2.2.2.2.1
        have r7 : ∀ k, gI f2 377 k = gI f 377 k := fun k => (c6.I rfl).trans (b3.I rfl)
        refine ⟨len', sI f2 377 (8 * i + 6) (gI f2 367 23), ?_, c2.w377 _ _, u2, by omega, fun j hj => ?_, fun k hk => ?_, ?_, Or.inl ⟨len, len', c3, Nat.le_refl _, ?_, ?_, ?_⟩⟩
        · unfold mIf
          rw [wd hf, bnd_s, bI_t (by omega), if_neg (by decide), b1, bnd_s, c1, bnd_s, e108 i hi]
        · rw [rd_a (by decide), rd_a (by decide)]
          exact ⟨(c5 j hj).1.trans (b3.I rfl), (c5 j hj).2.trans (b3.I rfl)⟩
        · rw [rd_k hk, r7]
        · rw [rd_a (by decide)]; exact (c6.I rfl).trans (b3.I rfl)
        · rw [rd_k (by omega), r7]; exact h5
        · rw [rd_s, e23]
        · rw [gI_up0 _ _ _ (by decide), gI_up0 _ _ _ (by decide)]; exact c4
    · intro len f hf hc
      obtain ⟨f1, b1, b2, b3⟩ := next_q hf hp.1 hp.2
      obtain ⟨f2, c1, c2, c3, c4, c5⟩ := rexp_tn (x8 q) x3.2.1.le b2 (hc.un (sNx_sPm b3))
      refine ⟨sI f2 377 (8 * i + 6) (gI f2 367 23), ?_, ⟨(rd_a (by decide)).trans c2, (rd_a (by decide)).trans c3, (rd_a (by decide)).trans c4⟩, ((sPm_sLw (sNx_sPm b3)).tr (sPm_sLw c5)).sI rfl _⟩
      unfold mIf
      rw [wd hf, bnd_s, bI_t (by omega), if_neg (by decide), b1, bnd_s, c1, bnd_s, e108 i hi]
  · rw [if_neg z, bnd_s, if_pos rfl]
    refine ⟨true, g, p, sz, pa, by rw [bI_t rfl], Un.rf, h, fun _ _ _ _ _ => rfl, fun _ => ⟨Nat.le_refl _, Nat.le_refl _, fun _ _ => rfl, fun _ => some 1, fun _ v q => by injection q with q; exact Or.inr q.symm, gd_num 0 (m := 1) (by omega), ⟨0, h6, 1, 1, frc_num 251 (m := 1) (by omega) hB.1, by omega, hB.2.1, by omega⟩, fun len f hf hc h5 => ?_⟩, fun q => (by cases q)⟩
    have e23 : gI f 367 23 = nI len := hf.2.2.2.2.2.1
    refine ⟨len, sI f 377 (8 * i + 6) (gI f 367 23), ?_, hf.w377 _ _, Un.rf.sI rfl _, Nat.le_refl _, fun j hj => ⟨rd_a (by decide), rd_a (by decide)⟩, fun k hk => rd_k hk, rd_a (by decide), Or.inr ⟨len, Nat.le_refl _, (rd_k (by omega)).trans h5, by rw [rd_s, e23], rfl⟩⟩
    unfold mIf
    rw [wd hf, bnd_s, bI_f (by omega), if_pos rfl, e108 i hi]
end CF
