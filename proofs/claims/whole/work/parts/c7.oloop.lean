/-! orders: all that is carried out, both -/
section OL
variable {M sz len i : Nat} {hd : Nat → Nat × Nat} {te : Nat → Den} {su : Nat → Den × Den} {g f g' f' : hG}
def DatC (M sz : Nat) (hd : Nat → Nat × Nat) (te : Nat → Den) (su : Nat → Den × Den) (g : hG) : Prop := gI g 240 1 = nI sz ∧ sz ≤ 402 ∧ gI g 240 2 = nI M ∧ M ≤ 12 ∧ ∀ j, j < M → DCo g 240 sz j (hd j) (te j) (su j)
def DatM (M len : Nat) (hd : Nat → Nat × Nat) (te : Nat → Den) (su : Nat → Den × Den) (f : hG) : Prop := len ≤ 400 ∧ gI f 367 21 = nI M ∧ ∀ j, j < M → DMo f len j (hd j) (te j) (su j)
theorem DatC.un (h : DatC M sz hd te su g) (u : Un sRc g g') : DatC M sz hd te su g' := ⟨(sA240 u (by omega) (by omega) _).trans h.1, h.2.1, (sA240 u (by omega) (by omega) _).trans h.2.2.1, h.2.2.2.1, fun j hj => (h.2.2.2.2 j hj).ex (Nat.le_refl _) (fun a q1 q2 => sA240 u (by omega) (by omega) _) (fun j _ => sA240 u (by omega) (by omega) _)⟩
theorem DatM.un (h : DatM M len hd te su f) (u : Un sRm f f') : DatM M len hd te su f' := ⟨h.1, (u.I (by rfl)).trans h.2.1, fun j hj => (h.2.2 j hj).ex (Nat.le_refl _) (fun k _ => u.I (sRm_f (by omega))) (fun j _ => ⟨u.I (sRm_f (by omega)), u.I (sRm_f (by omega))⟩)⟩
theorem c13 (hi : i < 12) {tm v : Nat} (ht : tm < 100) (hv : v < 100) (h5 : gI g 245 i = nI tm) (k109 : Int32 → Int32 → hG → hO Int32) (k13 : Int32 → Int32 → Int32 → hG → hO Int32) (k91 : hG → hO Int32) (v1 v2 : Int32) : q_MP_carryOut_13 (nI i) k109 k13 k91 v1 v2 (nI v) g = if tm ≤ v then k109 v1 v2 g else cOne i v1 v2 (nI v) k13 k91 g := by
  unfold q_MP_carryOut_13 cOne cTwo
  rw [gd_nI hi (by omega), nI_clamp (by omega), h5]
  by_cases z : tm ≤ v
  · rw [if_pos z, if_pos (nI_le z (by omega))]
  · rw [if_neg z, if_neg (nI_ge (by omega) (by omega))]
theorem m82 (hi : i < 12) {tm v : Nat} (ht : tm < 100) (hv : v < 100) (h7 : gI f 397 (8 * i + 7) = nI tm) (k110 : hG → hO Int32) (k82 : Int32 → hG → hO Int32) (k98 : hG → hO Int32) : q_Mo_orders_82 (nI i) k110 k82 k98 (nI v) f = if tm ≤ v then k110 f else bnd (q_Mo_runOnce (nI (8 * i)) f) fun r45 g43 => if (0 : Int32) ≤ r45 then (k82 (nI (v + 1)) g43) else (k98 g43) := by
  unfold q_Mo_orders_82
  rw [show (8 : Int32) * nI i = nI (8 * i) by rw [show (8 : Int32) = nI 8 from rfl, pk_mul], show nI (8 * i) + (7 : Int32) = nI (8 * i + 7) from nI_add _ 7, gd_nI (by omega) (by omega), nI_clamp (by omega), h7, nI_1]
  by_cases z : tm ≤ v
  · rw [if_pos z, if_pos (nI_le z (by omega))]
  · rw [if_neg z, if_neg (nI_ge (by omega) (by omega))]
def LX2 (d : Nat) (g f : hG) (X : (Int32 → Int32 → hG → hO Int32) → (hG → hO Int32) → hO Int32) (Y : (hG → hO Int32) → (hG → hO Int32) → hO Int32) : Prop :=
  (∃ (x : Nat) (l : Int32) (g' f' : hG), (∀ k109 k91, X k109 k91 = k109 (nI x) l g') ∧ (∀ k110 k98, Y k110 k98 = k110 f') ∧ Un sRc g g' ∧ Un sRm f f' ∧ RX g' f' ∧ gI f' 367 51 = nI x ∧ gI f' 367 52 = l ∧ x ≤ d ∧ l ≠ BRK) ∨
  ∃ (g' f' : hG), (∀ k109 k91, X k109 k91 = k91 g') ∧ (∀ k110 k98, Y k110 k98 = k98 f') ∧ Un sRc g g' ∧ Un sRm f f' ∧ gI f' 367 20 = 0
theorem timesL_x (hi : i < M) : ∀ (m v F F' d : Nat) (la : Int32) (g f : hG), v + m = (hd i).2 → m < F → m < F' → d + m < 1000 → la ≠ BRK → RX g f → DatC M sz hd te su g → DatM M len hd te su f → gI f 367 51 = nI d → gI f 367 52 = la → LX2 (d + m) g f (fun k109 k91 => q_MP_carryOut_13L (nI i) k109 k91 F (nI d) la (nI v) g) (fun k110 k98 => q_Mo_orders_82L (nI i) k110 k98 F' (nI v) f) := by
  intro m
  induction m with
  | zero =>
    intro v F F' d la g f h1 h2 h3 hd' hla hR hC hM h51 h52
    obtain ⟨F, rfl⟩ : ∃ q, F = q + 1 := ⟨F - 1, by omega⟩
    obtain ⟨F', rfl⟩ : ∃ q, F' = q + 1 := ⟨F' - 1, by omega⟩
    have hi12 : i < 12 := by have := hC.2.2.2.1; omega
    obtain ⟨⟨p1, p2, p3, -⟩, -, c5, -⟩ := hC.2.2.2.2 i hi
    have m7 := (hM.2.2 i hi).2.1
    refine Or.inl ⟨d, la, g, f, fun k109 k91 => ?_, fun k110 k98 => ?_, Un.rf, Un.rf, hR, h51, h52, by omega, hla⟩
    · show q_MP_carryOut_13L (nI i) k109 k91 (F + 1) (nI d) la (nI v) g = _
      rw [q_MP_carryOut_13L_s, c13 hi12 (tm := (hd i).2) (by omega) (by omega) c5, if_pos (by omega)]
    · show q_Mo_orders_82L (nI i) k110 k98 (F' + 1) (nI v) f = _
      rw [q_Mo_orders_82L_s, m82 hi12 (tm := (hd i).2) (by omega) (by omega) m7, if_pos (by omega)]
  | succ m ih =>
    intro v F F' d la g f h1 h2 h3 hd' hla hR hC hM h51 h52
    obtain ⟨F, rfl⟩ : ∃ q, F = q + 1 := ⟨F - 1, by omega⟩
    obtain ⟨F', rfl⟩ : ∃ q, F' = q + 1 := ⟨F' - 1, by omega⟩
    have hi12 : i < 12 := by have := hC.2.2.2.1; omega
    obtain ⟨⟨p1, p2, p3, -⟩, -, c5, -⟩ := id (hC.2.2.2.2 i hi)
    have m7 := (hM.2.2 i hi).2.1
    have eX : ∀ k109 k91, q_MP_carryOut_13L (nI i) k109 k91 (F + 1) (nI d) la (nI v) g = cOne i (nI d) la (nI v) (q_MP_carryOut_13L (nI i) k109 k91 F) k91 g := fun k109 k91 => by
      rw [q_MP_carryOut_13L_s, c13 hi12 (tm := (hd i).2) (by omega) (by omega) c5, if_neg (by omega)]
    have eY : ∀ k110 k98, q_Mo_orders_82L (nI i) k110 k98 (F' + 1) (nI v) f = bnd (q_Mo_runOnce (nI (8 * i)) f) fun r45 g43 => if (0 : Int32) ≤ r45 then (q_Mo_orders_82L (nI i) k110 k98 F' (nI (v + 1)) g43) else (k98 g43) := fun k110 k98 => by
      rw [q_Mo_orders_82L_s, m82 hi12 (tm := (hd i).2) (by omega) (by omega) m7, if_neg (by omega)]
    rcases one_x hR hi12 (hC.2.2.2.2 i hi) hC.1 hC.2.1 (hM.2.2 i hi) hM.1 (by omega) hla h51 h52 with ⟨x, l, g1, f1, a1, a2, a3, a4, a5, a6, a7, a8, a9⟩ | ⟨g1, f1, a1, a2, a3, a4, a5⟩
    · rcases ih (v + 1) F F' x l g1 f1 (by omega) (by omega) (by omega) (by omega) a9 a5 (hC.un a3) (hM.un a4) a6 a7 with ⟨y, l', g2, f2, b1, b2, b3, b4, b5, b6, b7, b8, b9⟩ | ⟨g2, f2, b1, b2, b3, b4, b5⟩
      · refine Or.inl ⟨y, l', g2, f2, fun k109 k91 => ?_, fun k110 k98 => ?_, a3.tr b3, a4.tr b4, b5, b6, b7, by omega, b9⟩
        · refine (eX k109 k91).trans ((a1 _ k91 (nI v)).trans ?_)
          rw [nI_1]
          exact b1 k109 k91
        · refine (eY k110 k98).trans ?_
          rw [a2, bnd_s, if_pos Int32.le_rfl]
          exact b2 k110 k98
      · refine Or.inr ⟨g2, f2, fun k109 k91 => ?_, fun k110 k98 => ?_, a3.tr b3, a4.tr b4, b5⟩
        · refine (eX k109 k91).trans ((a1 _ k91 (nI v)).trans ?_)
          rw [nI_1]
          exact b1 k109 k91
        · refine (eY k110 k98).trans ?_
          rw [a2, bnd_s, if_pos Int32.le_rfl]
          exact b2 k110 k98
    · refine Or.inr ⟨g1, f1, fun k109 k91 => (eX k109 k91).trans (a1 _ k91 (nI v)), fun k110 k98 => ?_, a3, a4, a5⟩
      refine (eY k110 k98).trans ?_
      rw [a2, bnd_s, if_neg (by decide)]
def LX3 (g f : hG) (X : (Int32 → hG → hO Int32) → (Int32 → hG → hO Int32) → hO Int32) (Y : (hG → hO Int32) → (Int32 → hG → hO Int32) → hO Int32) : Prop :=
  (∃ (x : Nat) (g' f' : hG), (∀ k111 k91, X k111 k91 = k111 (nI x) g') ∧ (∀ k112 k98, Y k112 k98 = k112 f') ∧ Un sRc g g' ∧ Un sRm f f' ∧ RX g' f' ∧ gI f' 367 51 = nI x ∧ x < 1000) ∨
  ∃ (j : Nat) (g' f' : hG), (∀ k111 k91, X k111 k91 = k91 (nI j) g') ∧ (∀ k112 k98, Y k112 k98 = k98 (nI j) f') ∧ Un sRc g g' ∧ Un sRm f f' ∧ gI f' 367 20 = 0
theorem ordersL_x : ∀ (m i F F' d : Nat) (la : Int32) (g f : hG), i + m = M → m < F → m < F' → d + 20 * m < 1000 → la ≠ BRK → RX g f → DatC M sz hd te su g → DatM M len hd te su f → gI f 367 51 = nI d → gI f 367 52 = la → LX3 g f (fun k111 k91 => q_MP_carryOut_6L k111 k91 F (nI d) la (nI i) g) (fun k112 k98 => q_Mo_orders_76L k112 k98 F' (nI i) f) := by
  intro m
  induction m with
  | zero =>
    intro i F F' d la g f h1 h2 h3 hd' hla hR hC hM h51 h52
    obtain ⟨F, rfl⟩ : ∃ q, F = q + 1 := ⟨F - 1, by omega⟩
    obtain ⟨F', rfl⟩ : ∃ q, F' = q + 1 := ⟨F' - 1, by omega⟩
    have h12 := hC.2.2.2.1
    refine Or.inl ⟨d, g, f, fun k111 k91 => ?_, fun k112 k98 => ?_, Un.rf, Un.rf, hR, h51, by omega⟩
    · show q_MP_carryOut_6L k111 k91 (F + 1) (nI d) la (nI i) g = _
      rw [q_MP_carryOut_6L_s]
      unfold q_MP_carryOut_6
      rw [hC.2.2.1, if_pos (nI_le (by omega) (by omega))]
    · show q_Mo_orders_76L k112 k98 (F' + 1) (nI i) f = _
      rw [q_Mo_orders_76L_s]
      unfold q_Mo_orders_76
      rw [hM.2.1, if_pos (nI_le (by omega) (by omega))]
  | succ m ih =>
    intro i F F' d la g f h1 h2 h3 hd' hla hR hC hM h51 h52
    obtain ⟨F, rfl⟩ : ∃ q, F = q + 1 := ⟨F - 1, by omega⟩
    obtain ⟨F', rfl⟩ : ∃ q, F' = q + 1 := ⟨F' - 1, by omega⟩
    have h12 := hC.2.2.2.1
    obtain ⟨⟨p1, p2, p3, -⟩, -⟩ := id (hC.2.2.2.2 i (by omega))
    have eX : ∀ k111 k91, q_MP_carryOut_6L k111 k91 (F + 1) (nI d) la (nI i) g = q_MP_carryOut_13L (nI i) (fun x24 x25 g31 => q_MP_carryOut_6L k111 k91 F x24 x25 (nI (i + 1)) g31) (fun g40 => k91 (nI i) g40) FU (nI d) la (nI 0) g := fun k111 k91 => by
      rw [q_MP_carryOut_6L_s]
      unfold q_MP_carryOut_6
      rw [hC.2.2.1, if_neg (nI_ge (by omega) (by omega)), nI_1]
      rfl
    have eY : ∀ k112 k98, q_Mo_orders_76L k112 k98 (F' + 1) (nI i) f = q_Mo_orders_82L (nI i) (fun g48 => q_Mo_orders_76L k112 k98 F' (nI (i + 1)) g48) (fun g51 => k98 (nI i) g51) FU (nI 0) f := fun k112 k98 => by
      rw [q_Mo_orders_76L_s]
      unfold q_Mo_orders_76
      rw [hM.2.1, if_neg (nI_ge (by omega) (by omega)), nI_1]
      rfl
    have f20 : (hd i).2 < FU := Nat.lt_of_le_of_lt p3 (by decide)
    rcases timesL_x (i := i) (by omega) (hd i).2 0 FU FU d la g f (by omega) f20 f20 (by omega) hla hR hC hM h51 h52 with ⟨x, l, g1, f1, a1, a2, a3, a4, a5, a6, a7, a8, a9⟩ | ⟨g1, f1, a1, a2, a3, a4, a5⟩
    · rcases ih (i + 1) F F' x l g1 f1 (by omega) (by omega) (by omega) (by omega) a9 a5 (hC.un a3) (hM.un a4) a6 a7 with ⟨y, g2, f2, b1, b2, b3, b4, b5, b6, b7⟩ | ⟨j, g2, f2, b1, b2, b3, b4, b5⟩
      · exact Or.inl ⟨y, g2, f2, fun k111 k91 => (eX k111 k91).trans ((a1 _ _).trans (b1 k111 k91)), fun k112 k98 => (eY k112 k98).trans ((a2 _ _).trans (b2 k112 k98)), a3.tr b3, a4.tr b4, b5, b6, b7⟩
      · exact Or.inr ⟨j, g2, f2, fun k111 k91 => (eX k111 k91).trans ((a1 _ _).trans (b1 k111 k91)), fun k112 k98 => (eY k112 k98).trans ((a2 _ _).trans (b2 k112 k98)), a3.tr b3, a4.tr b4, b5⟩
    · exact Or.inr ⟨i, g1, f1, fun k111 k91 => (eX k111 k91).trans (a1 _ _), fun k112 k98 => (eY k112 k98).trans (a2 _ _), a3, a4, a5⟩
end OL
