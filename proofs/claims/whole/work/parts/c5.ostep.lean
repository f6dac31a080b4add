/-! orders: one order, once, both -/
section OS
variable {g f g' f' : hG} {i sz len d : Nat} {hd : Nat × Nat} {te : Den} {su : Den × Den} {la : Int32}
theorem RX.ex (h : RX g f) (e1 : ∀ a k, a ≤ 136 → gI g' a k = gI g a k) (e2 : ∀ a k, (a = 369 ∨ (a = 372 ∧ k ≤ 831) ∨ a = 373 ∨ (a = 367 ∧ k = 8)) → gI f' a k = gI f a k) (e20 : gI f' 367 20 = 0) : RX g' f' := by
  obtain ⟨⟨hK, hW⟩, ⟨n, p, h1, h2, h3, h4, h5, h6⟩, h20⟩ := h
  refine ⟨⟨hK.ex (fun j k hj => e1 _ _ (by omega)) (fun i _ => e2 _ _ (by omega)), hW.ex (fun i _ => e2 _ _ (by omega))⟩, ⟨n, p, h1, h2, (e1 _ _ (by omega)).trans h3, (e2 _ _ (by omega)).trans h4, (e1 _ _ (by omega)).trans h5, fun j hj => ?_⟩, e20⟩
  obtain ⟨k1, k2, k3, ⟨s, k4, k5, k6⟩, k7, k8⟩ := h6 j hj
  have hp : pIx p n j < 16 := Nat.mod_lt _ (by omega)
  have q : ∀ i, i < 52 → gI f' 372 (52 * j + i) = gI f 372 (52 * j + i) := fun i hi => e2 _ _ (by omega)
  refine ⟨k1.ex (fun j k hj => e1 _ _ (by omega)) (fun i hi _ _ => q i hi), k2.ex (fun i hi _ _ => q i hi), ?_, ⟨s, k4, (e1 _ _ (by omega)).trans k5, (e2 _ _ (by omega)).trans k6⟩, ?_, ?_⟩
  · obtain ⟨m, m1, m2⟩ := k3
    exact ⟨m, m1, (q 0 (by omega)).trans m2⟩
  · rw [q 1 (by omega), e2 369 5 (by omega)]; exact k7
  · rw [q 2 (by omega), e2 369 6 (by omega)]; exact k8
def sRc (a k : Nat) : Bool := sA a k || a == 249
def sRm (a k : Nat) : Bool := sAm a k || a == 386 || (a == 367 && (k == 20 || k == 51 || k == 52 || k == 54))
theorem s248_Rc (u : Un s248 g g') : Un sRc g g' := u.mo (fun a k z => Bool.eq_false_iff.mpr (fun y => by
  have z' := Bool.eq_false_iff.mp z
  simp only [s248, sRc, sA, sH, sW, Ne, Bool.or_eq_true, beq_iff_eq] at y z'
  exact z' (by simp [y])))
theorem s249_Rc (u : Un s249 g g') : Un sRc g g' := u.mo (fun a k z => Bool.eq_false_iff.mpr (fun y => by
  have z' := Bool.eq_false_iff.mp z
  simp only [s249, sRc, Ne, Bool.or_eq_true, beq_iff_eq] at y z'
  exact z' (by simp [y])))
theorem sA_Rc (u : Un sA g g') : Un sRc g g' := u.mo (fun a k z => by unfold sRc at z; rw [Bool.or_eq_false_iff] at z; exact z.1)
theorem sSo_Rm (u : Un sSo f f') : Un sRm f f' := u.mo (fun a k z => Bool.eq_false_iff.mpr (fun y => by
  have z' := Bool.eq_false_iff.mp z
  simp only [sSo, sRk, sRm, sAm, sV, sT, Ne, Bool.or_eq_true, Bool.and_eq_true, beq_iff_eq] at y z'
  omega))
theorem sAm_Rm (u : Un sAm f f') : Un sRm f f' := u.mo (fun a k z => by unfold sRm at z; rw [Bool.or_eq_false_iff, Bool.or_eq_false_iff] at z; exact z.1.1)
theorem sRc_f {a k : Nat} (h : 240 ≤ a) (h2 : a ≤ 247) : sRc a k = false := Bool.eq_false_iff.mpr (fun y => by
  simp only [sRc, sA, sH, sW, Bool.or_eq_true, Bool.and_eq_true, beq_iff_eq, Nat.ble_eq] at y
  omega)
theorem sRm_f {a k : Nat} (h : a = 378 ∨ a = 379 ∨ a = 397) : sRm a k = false := Bool.eq_false_iff.mpr (fun y => by
  simp only [sRm, sAm, sV, sT, Bool.or_eq_true, Bool.and_eq_true, beq_iff_eq, Nat.ble_eq] at y
  omega)
/-- a sum or a test of a clause, worked by the class -/
theorem work_o {a : Nat} {D : Den} {F : Nat → Int32} (hR : Rwo g 240 sz a D) (hG : GD 1 D) (h4 : sz ≤ 402) (e1 : gI g' 240 1 = nI sz) (e2 : ∀ j, gI g' 241 j = gI g 241 j) (hF : ∀ k, k < 38 → gI g' 249 k = F k) : ∃ g2, q_Calc_work 240 (nI a) 249 g' = some ((D F).getD BRK, g2) ∧ Un s248 g' g2 := by
  obtain ⟨b, k, r1, r2, r3, r4⟩ := hR
  obtain ⟨g2, w1, w2⟩ := frc_work r1 r2 r3 r4 h4 240 g' (by omega) (by omega) e1 (fun j _ => e2 j)
  refine ⟨g2, ?_, w2⟩
  rw [w1, hG.1 (gI g' 249) F hF]
def cTwo (i : Nat) (v1 v2 v4 : Int32) (k13 : Int32 → Int32 → Int32 → hG → hO Int32) (k91 : hG → hO Int32) (g5 : hG) : hO Int32 := gd (nI i) 12 <| bnd (q_Calc_work 240 (gI g5 243 (nI i).toNatClampNeg) 249 g5) fun r11 g9 => gd (nI i) 12 <| bnd (q_Calc_work 240 (gI g9 244 (nI i).toNatClampNeg) 249 g9) fun r14 g12 => q_MP_carryOut_74 v1 v2 (nI i) v4 r11 r14 k13 k91 (if r11 = (-2000000000 : Int32) then (1 : Int32) else (if r14 = (-2000000000 : Int32) then (1 : Int32) else (0 : Int32))) g12
/-- a step's outcome: done and latest, or none -/
def OX (d : Nat) (g f : hG) (X : (Int32 → Int32 → Int32 → hG → hO Int32) → (hG → hO Int32) → Int32 → hO Int32) (Y : hO Int32) : Prop :=
  (∃ (x : Nat) (l : Int32) (g' f' : hG), (∀ k13 k91 v4, X k13 k91 v4 = k13 (nI x) l (v4 + 1) g') ∧ Y = some (0, f') ∧ Un sRc g g' ∧ Un sRm f f' ∧ RX g' f' ∧ gI f' 367 51 = nI x ∧ gI f' 367 52 = l ∧ x ≤ d + 1 ∧ l ≠ BRK) ∨
  ∃ (g' f' : hG), (∀ k13 k91 v4, X k13 k91 v4 = k91 g') ∧ Y = some (-3, f') ∧ Un sRc g g' ∧ Un sRm f f' ∧ gI f' 367 20 = 0
theorem OX.pre {gs fs : hG} {X : (Int32 → Int32 → Int32 → hG → hO Int32) → (hG → hO Int32) → Int32 → hO Int32} {Y : hO Int32} (h : OX d g f X Y) (u1 : Un sRc gs g) (u2 : Un sRm fs f) : OX d gs fs X Y := by
  rcases h with ⟨x, l, g', f', h1, h2, h3, h4, h5⟩ | ⟨g', f', h1, h2, h3, h4, h5⟩
  · exact Or.inl ⟨x, l, g', f', h1, h2, u1.tr h3, u2.tr h4, h5⟩
  · exact Or.inr ⟨g', f', h1, h2, u1.tr h3, u2.tr h4, h5⟩
/-- the act, both -/
theorem fin_x (h : RX g f) (hi : i < 12) (hk : hd.1 ≤ 3) (k2 : gI g 242 i = nI hd.1) (m1 : gI f 397 (8 * i) = nI hd.1) (hd' : d < 1000) (hla : la ≠ BRK) (h51 : gI f 367 51 = nI d) (h52 : gI f 367 52 = la) (h54 : gI f 367 54 = 0) {a b a' b' : Int32} (hA : AX g f (q_MP_attempt (nI hd.1) a b g) (q_Mo_act (nI hd.1) a' b' f)) : OX d g f (fun k13 k91 v4 => q_MP_carryOut_74 (nI d) la (nI i) v4 a b k13 k91 0 g) (if gI f 367 54 = (0 : Int32) then (gd (nI (8 * i)) 96 <| bnd (q_Mo_act (gI f 397 (nI (8 * i)).toNatClampNeg) a' b' f) fun r29 g27 => if (0 : Int32) ≤ r29 then (gd (nI (8 * i)) 96 <| q_Mo_runOnce_109 (if (gI g27 397 (nI (8 * i)).toNatClampNeg) = (3 : Int32) then r29 else (gI g27 367 52)) g27) else (some ((-3 : Int32), g27))) else (some ((-3 : Int32), f))) := by
  obtain ⟨v, gx, fx, x1, x2, x3, x4, x5, x6⟩ := hA
  have cl : ∀ k13 k91 v4, q_MP_carryOut_74 (nI d) la (nI i) v4 a b k13 k91 0 g = q_MP_carryOut_88 (nI d) la (nI i) v4 k13 k91 v gx := fun k13 k91 v4 => by
    unfold q_MP_carryOut_74
    rw [if_pos rfl, gd_nI hi (by omega), nI_clamp (by omega), k2, x1, bnd_s]
  have mo : (if gI f 367 54 = (0 : Int32) then (gd (nI (8 * i)) 96 <| bnd (q_Mo_act (gI f 397 (nI (8 * i)).toNatClampNeg) a' b' f) fun r29 g27 => if (0 : Int32) ≤ r29 then (gd (nI (8 * i)) 96 <| q_Mo_runOnce_109 (if (gI g27 397 (nI (8 * i)).toNatClampNeg) = (3 : Int32) then r29 else (gI g27 367 52)) g27) else (some ((-3 : Int32), g27))) else (some ((-3 : Int32), f))) = if (0 : Int32) ≤ v then q_Mo_runOnce_109 (if hd.1 = 3 then v else la) fx else some (-3, fx) := by
    rw [if_pos h54, gd_nI (by omega) (by omega), nI_clamp (by omega), m1, x2, bnd_s]
    by_cases z : (0 : Int32) ≤ v
    · have q : gI fx 397 (8 * i) = nI hd.1 := ((sAm_Rm x4).I (sRm_f (by omega))).trans m1
      have q5 : gI fx 367 52 = la := (x4.I (by rfl)).trans h52
      rw [if_pos z, if_pos z, gd_nI (by omega) (by omega), q, q5]
      by_cases y : hd.1 = 3
      · rw [if_pos y, if_pos (show nI hd.1 = (3 : Int32) by rw [y]; rfl)]
      · rw [if_neg y, if_neg (show ¬ nI hd.1 = (3 : Int32) from nI_dif (b := 3) y (by omega) (by omega))]
    · rw [if_neg z, if_neg z]
  rw [mo]
  by_cases z : (0 : Int32) ≤ v
  · refine Or.inl ⟨d + 1, if hd.1 = 3 then v else la, gx, sI (sI fx 367 52 (if hd.1 = 3 then v else la)) 367 51 (nI (d + 1)), fun k13 k91 v4 => ?_, ?_, sA_Rc x3, ((sAm_Rm x4).sI rfl _).sI rfl _, (x6 z).ex (fun _ _ _ => rfl) (fun a k q => ?_) ?_, rd_s, by rw [rd_k (by decide), rd_s], Nat.le_refl _, ?_⟩
    · have q2 : gI gx 242 i = nI hd.1 := ((sA_Rc x3).I (sRc_f (by omega) (by omega))).trans k2
      refine (cl k13 k91 v4).trans ?_
      unfold q_MP_carryOut_88
      rw [if_pos z, gd_nI hi (by omega), nI_clamp (by omega), q2, nI_1]
      by_cases y : hd.1 = 3
      · rw [if_pos (show nI hd.1 = (3 : Int32) by rw [y]; rfl), if_pos y]
      · rw [if_neg (show ¬ nI hd.1 = (3 : Int32) from nI_dif (b := 3) y (by omega) (by omega)), if_neg y]
    · unfold q_Mo_runOnce_109
      rw [if_pos z, wr_e, rd_k (by decide), show gI fx 367 51 = nI d from (x4.I (by rfl)).trans h51, nI_1, wr_e]
    · rw [gI_sI, if_neg (by omega), gI_sI, if_neg (by omega)]
    · rw [rd_k (by decide), rd_k (by decide)]; exact (x6 z).2.2
    · by_cases y : hd.1 = 3
      · rw [if_pos y]
        intro q
        rw [q] at z
        exact absurd z (by decide)
      · rw [if_neg y]; exact hla
  · have z' := Int32.not_le.mp z
    obtain ⟨e1, e2⟩ := x5 z'
    refine Or.inr ⟨gx, fx, fun k13 k91 v4 => ?_, by rw [if_neg z], sA_Rc x3, sAm_Rm x4, by rw [e2]; exact h.2.2⟩
    refine (cl k13 k91 v4).trans ?_
    unfold q_MP_carryOut_88
    rw [if_neg z]
end OS
