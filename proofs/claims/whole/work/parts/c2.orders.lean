/-! orders: all clauses, both -/
section CKo
variable {B : Nat → Nat} {n t p sz pa i : Nat} {g : hG}
def clCo (i : Nat) (g : hG) : hO Int32 := bnd (q_Rd_readOrder (nI i) g) fun r g => if r = (0 : Int32) then some ((0 : Int32), g) else q_Rd_readIf (nI i) g
/-- a clause of the class: its kind and times, its test, its sums -/
def DCo (g : hG) (t sz i : Nat) (hd : Nat × Nat) (te : Den) (su : Den × Den) : Prop := (hd.1 ≤ 3 ∧ 1 ≤ hd.2 ∧ hd.2 ≤ 20 ∧ (hd.1 = 3 → su.1 = (fun _ => some (nI 1)) ∧ su.2 = fun _ => some (nI 1))) ∧ gI g (t + 2) i = nI hd.1 ∧ gI g (t + 5) i = nI hd.2 ∧ (t01 te ∧ GD 1 te ∧ GD 1 su.1 ∧ GD 1 su.2) ∧ (∃ a, gI g (t + 6) i = nI a ∧ Rwo g t sz a te) ∧ (∃ a, gI g (t + 3) i = nI a ∧ Rwo g t sz a su.1) ∧ ∃ a, gI g (t + 4) i = nI a ∧ Rwo g t sz a su.2
/-- a clause of the model -/
def DMo (f : hG) (len i : Nat) (hd : Nat × Nat) (te : Den) (su : Den × Den) : Prop := gI f 397 (8 * i) = nI hd.1 ∧ gI f 397 (8 * i + 7) = nI hd.2 ∧ DTo f len i te ∧ (hd.1 < 3 → FS f len i 1 su.1 ∧ FS f len i 3 su.2) ∧ (hd.1 = 3 → ∀ k, 1 ≤ k → k ≤ 4 → gI f 397 (8 * i + k) = 0)
theorem DCo.ex {g g' : hG} {sz sz' i : Nat} {hd : Nat × Nat} {te : Den} {su : Den × Den} (h : DCo g t sz i hd te su) (hs : sz ≤ sz') (e1 : ∀ a, t + 2 ≤ a → a ≤ t + 6 → gI g' a i = gI g a i) (e2 : ∀ j, j < sz → gI g' (t + 1) j = gI g (t + 1) j) : DCo g' t sz' i hd te su := by
  obtain ⟨h1, h2, h3, h4, ⟨a, h5, h6⟩, ⟨b, h7, h8⟩, ⟨c, h9, h10⟩⟩ := h
  exact ⟨h1, (e1 _ (by omega) (by omega)).trans h2, (e1 _ (by omega) (by omega)).trans h3, h4, ⟨a, (e1 _ (by omega) (by omega)).trans h5, h6.ex hs e2⟩, ⟨b, (e1 _ (by omega) (by omega)).trans h7, h8.ex hs e2⟩, ⟨c, (e1 _ (by omega) (by omega)).trans h9, h10.ex hs e2⟩⟩
theorem DTo.ex {f f' : hG} {len len' i : Nat} {te : Den} (h : DTo f len i te) (hl : len ≤ len') (e5 : gI f' 397 (8 * i + 5) = gI f 397 (8 * i + 5)) (e6 : gI f' 397 (8 * i + 6) = gI f 397 (8 * i + 6)) (e2 : ∀ j, j < len → gI f' 378 j = gI f 378 j ∧ gI f' 379 j = gI f 379 j) : DTo f' len' i te := by
  rcases h with ⟨a, b, k1, k2, k3, k4, k5⟩ | ⟨a, k1, k2, k3, k4⟩
  · exact Or.inl ⟨a, b, k1, by omega, e5.trans k3, e6.trans k4, k5.ex (fun j x y => e2 j (by omega))⟩
  · exact Or.inr ⟨a, by omega, e5.trans k2, e6.trans k3, k4⟩
theorem DMo.ex {f f' : hG} {len len' i : Nat} {hd : Nat × Nat} {te : Den} {su : Den × Den} (h : DMo f len i hd te su) (hl : len ≤ len') (e1 : ∀ k, k < 8 * i + 8 → gI f' 397 k = gI f 397 k) (e2 : ∀ j, j < len → gI f' 378 j = gI f 378 j ∧ gI f' 379 j = gI f 379 j) : DMo f' len' i hd te su := by
  obtain ⟨h1, h2, h3, h4, h5⟩ := h
  exact ⟨(e1 _ (by omega)).trans h1, (e1 _ (by omega)).trans h2, h3.ex hl (e1 _ (by omega)) (e1 _ (by omega)) e2, fun q => ⟨(h4 q).1.ex hl (e1 _ (by omega)) (e1 _ (by omega)) e2, (h4 q).2.ex hl (e1 _ (by omega)) (e1 _ (by omega)) e2⟩, fun q k k1 k2 => (e1 _ (by omega)).trans (h5 q k k1 k2)⟩
def JCo (B : Nat → Nat) (n t p sz pa i : Nat) (g : hG) (X : hO Int32) : Prop := ∃ (b : Bool) (g' : hG) (p' sz' pa' : Nat), X = some (bI (b = true), g') ∧ Un (sTx t) g g' ∧ PC B n t 1 p' sz' pa' g' ∧ (∀ a k, t + 2 ≤ a → a ≤ t + 6 → k ≠ i → gI g' a k = gI g a k) ∧
    (b = true → cnt (stB B) p < cnt (stB B) p' ∧ sz ≤ sz' ∧ (∀ j, j < sz → gI g' (t + 1) j = gI g (t + 1) j) ∧ ∃ (hd : Nat × Nat) (te : Den) (su : Den × Den), DCo g' t sz' i hd te su ∧ ∀ (len : Nat) (f : hG), PQo B n p pa len f → CoR f → gI f 367 21 = nI i → ∃ (len' : Nat) (f' : hG), q_Mo_readOrder f = some ((), f') ∧ PQo B n p' pa' len' f' ∧ Un sLo f f' ∧ len ≤ len' ∧ (∀ j, j < len → gI f' 378 j = gI f 378 j ∧ gI f' 379 j = gI f 379 j) ∧ (∀ k, k < 8 * i → gI f' 397 k = gI f 397 k) ∧ gI f' 367 21 = nI (i + 1) ∧ DMo f' len' i hd te su) ∧
    (b = false → ∀ (len : Nat) (f : hG), PQo B n p pa len f → CoR f → gI f 367 21 = nI i → ∃ f', q_Mo_readOrder f = some ((), f') ∧ MFo p' f' ∧ Un sLo f f')
theorem order_j (h : PC B n t 1 p sz pa g) (hi : i < 12) (h6 : gI g (t + 6) i = 0 ∧ gI g (t + 5) i = 1 ∧ gI g (t + 3) i = 0 ∧ gI g (t + 4) i = 0) (hB : gI g (t + 1) 0 = nI 16 ∧ gI g (t + 1) 1 = nI 13 ∧ 2 ≤ sz) : JCo B n t p sz pa i g (clCo i g) := by
  obtain ⟨b, g1, p1, sz1, pa1, x1, x2, x3, x4, x5, x6⟩ := order_h h hi h6.2.2.1 h6.2.2.2 hB
  unfold clCo
  rw [x1]
  unfold q_Rd_readOrder_48
  cases b with
  | false =>
    rw [bI_f Bool.false_ne_true, if_pos rfl, bnd_s, if_pos rfl]
    exact ⟨false, g1, p1, sz1, pa1, by rw [bI_f Bool.false_ne_true], x2, x3, fun a k q1 q2 q3 => x4 a k q1 q2 (by omega), fun q => (by cases q), x6⟩
  | true =>
    rw [bI_t rfl, if_neg (by decide)]
    obtain ⟨y1, y2, y3, kd, fi, se, y4, y5, y6, y7, y8, y9, y10⟩ := x5 rfl
    obtain ⟨b, g2, p2, v1, v2, v3, v4, v5, v6, v7, v8⟩ := times_j x3 hi ((x4 _ _ (by omega) (by omega) (by omega)).trans h6.2.1)
    rw [v1, bnd_s]
    have hc2 : ∀ {f f' : hG}, CoR f → Un sLo f f' → CoR f' := fun h u => h.unO u
    cases b with
    | false =>
      rw [bI_f Bool.false_ne_true, if_pos rfl, bnd_s, if_pos rfl]
      refine ⟨false, g2, p2, sz1, pa1, by rw [bI_f Bool.false_ne_true], x2.tr v2, v3, fun a k q1 q2 q3 => (v4 a k q1 q2 (by omega)).trans (x4 a k q1 q2 (by omega)), fun q => (by cases q), fun _ len f hf hc h21 => ?_⟩
      obtain ⟨len1, f1, a1, a2, a3, a4, a5, a6, a7, a8, a9, a10⟩ := y10 len f hf hc h21
      obtain ⟨f2, b1, b2, b3⟩ := v8 rfl len1 f1 a2
      obtain ⟨f3, c1, c2, c3⟩ := bad_116 hi b2
      exact ⟨f3, by rw [a1, b1, c1], c2, (a3.tr b3).tr c3⟩
    | true =>
      obtain ⟨tm, w1, w2, w3, w4⟩ := v7 rfl
      rw [bI_t rfl, if_neg (by decide), bnd_s, if_neg (by decide)]
      obtain ⟨b, g3, p3, sz3, pa3, z1, z2, z3, z4, z5, z6⟩ := if_jo v3 hi ((v4 _ _ (by omega) (by omega) (by omega)).trans ((x4 _ _ (by omega) (by omega) (by omega)).trans h6.1)) ⟨(v5 0).trans ((y3 0 (by omega)).trans hB.1), (v5 1).trans ((y3 1 (by omega)).trans hB.2.1), by omega⟩
      have mid : ∀ (len : Nat) (f : hG), PQo B n p pa len f → CoR f → gI f 367 21 = nI i → ∃ (len1 : Nat) (f1 : hG), q_Mo_readOrder f = mIfo (nI (8 * i)) f1 ∧ PQo B n p2 pa1 len1 f1 ∧ Un sLo f f1 ∧ len ≤ len1 ∧ (∀ j, j < len → gI f1 378 j = gI f 378 j ∧ gI f1 379 j = gI f 379 j) ∧ (∀ k, k < 8 * i → gI f1 397 k = gI f 397 k) ∧ gI f1 367 21 = nI (i + 1) ∧ gI f1 397 (8 * i + 5) = nI len1 ∧ gI f1 397 (8 * i) = nI kd ∧ gI f1 397 (8 * i + 7) = nI tm ∧ (kd < 3 → FS f1 len1 i 1 fi ∧ FS f1 len1 i 3 se) ∧ (kd = 3 → ∀ k, 1 ≤ k → k ≤ 4 → gI f1 397 (8 * i + k) = 0) := fun len f hf hc h21 => by
        obtain ⟨len1, f1, a1, a2, a3, a4, a5, a6, a7, a8, a9, a10⟩ := y10 len f hf hc h21
        obtain ⟨f2, b1, b2, b3, b4, b5, b6, b7⟩ := w4 len1 f1 a2
        have r : ∀ k, k ≠ 8 * i + 7 → k ≠ 8 * i + 5 → gI (sI f2 397 (8 * i + 5) (nI len1)) 397 k = gI f1 397 k := fun k k1 k2 => by rw [rd_k k2, b5 k k1]
        have rc : ∀ j, gI (sI f2 397 (8 * i + 5) (nI len1)) 378 j = gI f1 378 j ∧ gI (sI f2 397 (8 * i + 5) (nI len1)) 379 j = gI f1 379 j := fun j => by
          rw [rd_a (by decide), rd_a (by decide)]; exact b4 j
        refine ⟨len1, sI f2 397 (8 * i + 5) (nI len1), ?_, b2.w397 _ _, (a3.tr b3).sI rfl _, a4, fun j hj => ⟨(rc j).1.trans (a5 j hj).1, (rc j).2.trans (a5 j hj).2⟩, fun k hk => (r k (by omega) (by omega)).trans (a6 k hk), ?_, rd_s, (r _ (by omega) (by omega)).trans a8, ?_, fun q => ⟨(a9 q).1.ex (Nat.le_refl _) (r _ (by omega) (by omega)) (r _ (by omega) (by omega)) (fun j _ => rc j), (a9 q).2.ex (Nat.le_refl _) (r _ (by omega) (by omega)) (r _ (by omega) (by omega)) (fun j _ => rc j)⟩, fun q k k1 k2 => (r _ (by omega) (by omega)).trans (a10 q k k1 k2)⟩
        · rw [a1, b1, mid_116 b2 hi]
        · rw [rd_a (by decide), b7]; exact a7
        · rw [rd_k (by omega)]; exact b6
      refine ⟨b, g3, p3, sz3, pa3, z1, (x2.tr v2).tr z2, z3, fun a k q1 q2 q3 => (z4 a k q1 q2 (by omega)).trans ((v4 a k q1 q2 (by omega)).trans (x4 a k q1 q2 (by omega))), fun q => ?_, fun q len f hf hc h21 => ?_⟩
      · obtain ⟨u1, u2, u3, te, u4, u5, u6, u7⟩ := z5 q
        have cc : ∀ j, j < sz1 → gI g3 (t + 1) j = gI g1 (t + 1) j := fun j hj => (u3 j hj).trans (v5 j)
        have rr : ∀ a, t + 2 ≤ a → a ≤ t + 4 → gI g3 a i = gI g1 a i := fun a q1 q2 => (z4 _ _ q1 (by omega) (by omega)).trans (v4 _ _ q1 (by omega) (by omega))
        refine ⟨by omega, by omega, fun j hj => (cc j (by omega)).trans (y3 j hj), (kd, tm), te, (fi, se), ⟨⟨y4.1, w1, w2, y4.2⟩, (rr _ (by omega) (by omega)).trans y5, (z4 _ _ (by omega) (by omega) (by omega)).trans w3, ⟨u4, u5, y6, y7⟩, u6, ?_, ?_⟩, fun len f hf hc h21 => ?_⟩
        · obtain ⟨a, q1, q2⟩ := y8
          exact ⟨a, (rr _ (by omega) (by omega)).trans q1, q2.ex u2 cc⟩
        · obtain ⟨a, q1, q2⟩ := y9
          exact ⟨a, (rr _ (by omega) (by omega)).trans q1, q2.ex u2 cc⟩
        · obtain ⟨len1, f1, a1, a2, a3, a4, a5, a6, a7, a8, a9, a10, a11, a12⟩ := mid len f hf hc h21
          obtain ⟨len', f', b1, b2, b3, b4, b5, b6, b7, b8⟩ := u7 len1 f1 a2 (hc2 hc a3) a8
          exact ⟨len', f', by rw [a1, b1], b2, a3.tr b3, by omega, fun j hj => ⟨(b5 j (by omega)).1.trans (a5 j hj).1, (b5 j (by omega)).2.trans (a5 j hj).2⟩, fun k hk => (b6 k (by omega)).trans (a6 k hk), b7.trans a7, (b6 _ (by omega)).trans a9, (b6 _ (by omega)).trans a10, b8, fun q => ⟨(a11 q).1.ex b4 (b6 _ (by omega)) (b6 _ (by omega)) b5, (a11 q).2.ex b4 (b6 _ (by omega)) (b6 _ (by omega)) b5⟩, fun q k k1 k2 => (b6 _ (by omega)).trans (a12 q k k1 k2)⟩
      · obtain ⟨len1, f1, a1, a2, a3, a4, a5, a6, a7, a8, a9, a10, a11, a12⟩ := mid len f hf hc h21
        obtain ⟨f2, b1, b2, b3⟩ := z6 q len1 f1 a2 (hc2 hc a3)
        exact ⟨f2, by rw [a1, b1], b2, a3.tr b3⟩
def mO (K : hG → hO Int32) (F : Nat) (f : hG) : hO Int32 := bnd (q_Mo_readOrder f) fun _ g6 => q_Mo_orders_11L K F g6
theorem start_c1 {p sz pa : Nat} {g : hG} (h : PC B n t 1 p sz pa g) (a1 : Nat) : q_Rd_read_58 a1 g = some (nI p, g) := by
  have c := h.c4
  unfold q_Rd_read_58
  rw [h.2.2.2.2.2.2.2.1, gd_nI (by omega) (by omega), nI_clamp (by omega), (h.1.2 p h.2.1).1]
theorem opH_o {g : hG} {i : Nat} : gI (opH t i g) (t + 6) i = 0 ∧ gI (opH t i g) (t + 5) i = 1 ∧ gI (opH t i g) (t + 3) i = 0 ∧ gI (opH t i g) (t + 4) i = 0 := by
  unfold opH
  refine ⟨by rw [rd_a (by omega), rd_s], by rw [rd_a (by omega), rd_a (by omega), rd_s], by rw [rd_a (by omega), rd_a (by omega), rd_a (by omega), rd_a (by omega), rd_s], by rw [rd_a (by omega), rd_a (by omega), rd_a (by omega), rd_s]⟩
/-- model: the text ends badly, or is left at q -/
def MEndo (B : Nat → Nat) (n q : Nat) (f : hG) : Prop := MFo q f ∨ ((∃ pa len, PQo B n q pa len f) ∧ tkF B n q ≠ 4000)
theorem m11_no {K : hG → hO Int32} {F : Nat} {f : hG} (h : gI f 367 19 = 1) : q_Mo_orders_11L K (F + 1) f = K f := by
  rw [q_Mo_orders_11L_s]
  unfold q_Mo_orders_11
  rw [if_neg (by rw [h]; decide)]
theorem m11_s {K : hG → hO Int32} {F p pa len : Nat} {f : hG} (h : PQo B n p pa len f) : q_Mo_orders_11L K (F + 1) f = if tkF B n p = 2059 then bnd (q_Mo_next f) fun _ g13 => mO K F g13 else K f := by
  rw [q_Mo_orders_11L_s]
  unfold q_Mo_orders_11
  rw [if_pos h.2.2.2.1, show q_Mo_isSign 59 f = _ from sign_qo h (s := 59) (by omega), bnd_s]
  by_cases z : tkF B n p = 2059
  · rw [bI_t (by omega), if_neg (by decide), if_pos z]
    rfl
  · rw [bI_f (by omega), if_pos rfl, if_neg z]
theorem orders_l {a1 : Nat} (KM : hG → hO Int32) : ∀ (m i F F' p sz pa : Nat) (g : hG) (hd : Nat → Nat × Nat) (te : Nat → Den) (su : Nat → Den × Den), i + m = 12 → m < F → m < F' → PC B n t 1 p sz pa g → gI g t 2 = nI i → gI g (t + 1) 0 = nI 16 ∧ gI g (t + 1) 1 = nI 13 ∧ 2 ≤ sz → (∀ j, j < i → DCo g t sz j (hd j) (te j) (su j)) →
    ∃ (res : Option Nat) (g' : hG), q_Rd_read_20L a1 (fun g42 => q_Rd_read_58 a1 g42) (fun g46 => q_Rd_read_58 a1 g46) (fun g50 => q_Rd_read_58 a1 g50) F (nI i) g = some ((match res with | none => -1 | some q => nI q), g') ∧ Un (sTy t) g g' ∧
      match res with
      | none => ∃ (N sz' : Nat) (hd' : Nat → Nat × Nat) (te' : Nat → Den) (su' : Nat → Den × Den), N ≤ 12 ∧ gI g' t 2 = nI N ∧ gI g' t 1 = nI sz' ∧ sz' ≤ 402 ∧ (∀ j, j < N → DCo g' t sz' j (hd' j) (te' j) (su' j)) ∧ ∀ (len : Nat) (f : hG), PQo B n p pa len f → CoR f → gI f 367 21 = nI i → (∀ j, j < i → DMo f len j (hd j) (te j) (su j)) → ∃ (pa' : Nat) (len' : Nat) (f' : hG), mO KM F' f = KM f' ∧ PQo B n n pa' len' f' ∧ Un sLo f f' ∧ gI f' 367 21 = nI N ∧ ∀ j, j < N → DMo f' len' j (hd' j) (te' j) (su' j)
      | some q => q ≤ n ∧ ∀ (len : Nat) (f : hG), PQo B n p pa len f → CoR f → gI f 367 21 = nI i → (∀ j, j < i → DMo f len j (hd j) (te j) (su j)) → ∃ f', mO KM F' f = KM f' ∧ MEndo B n q f' ∧ Un sLo f f' := by
  intro m
  induction m with
  | zero =>
    intro i F F' p sz pa g hd te su h1 h2 h2' h h3 hB hD
    obtain ⟨F, rfl⟩ : ∃ q, F = q + 1 := ⟨F - 1, by omega⟩
    obtain ⟨F', rfl⟩ : ∃ q, F' = q + 1 := ⟨F' - 1, by omega⟩
    obtain rfl : i = 12 := by omega
    refine ⟨some p, g, ?_, Un.rf, h.2.1.le, fun len f hf hc h21 hDM => ?_⟩
    · rw [q_Rd_read_20L_s]
      unfold q_Rd_read_20
      rw [if_pos (show (12 : Int32) ≤ nI 12 by decide)]
      exact start_c1 h a1
    · obtain ⟨f', e1, e2, e3⟩ := head_noo hf hc (Or.inr h21)
      refine ⟨f', ?_, Or.inl e2, e3⟩
      unfold mO
      rw [e1, bnd_s, m11_no e2.1]
  | succ m ih =>
    intro i F F' p sz pa g hd te su h1 h2 h2' h h3 hB hD
    obtain ⟨F, rfl⟩ : ∃ q, F = q + 1 := ⟨F - 1, by omega⟩
    obtain ⟨F', rfl⟩ : ∃ q, F' = q + 1 := ⟨F' - 1, by omega⟩
    have hi : i < 12 := by omega
    have tt := h.2.2.2.1.2
    have ho : PC B n t 1 p sz pa (opH t i g) := h.keep1 (fun a k hh => opH_a (by omega) (by omega)) rfl
    have oB : ∀ j, gI (opH t i g) (t + 1) j = gI g (t + 1) j := fun j => opH_a (by omega) (by omega)
    obtain ⟨b, g1, p1, sz1, pa1, x1, x2, x3, x4, x5, x6⟩ := order_j ho hi opH_o ⟨(oB 0).trans hB.1, (oB 1).trans hB.2.1, hB.2.2⟩
    have cl : q_Rd_read_20L a1 (fun g42 => q_Rd_read_58 a1 g42) (fun g46 => q_Rd_read_58 a1 g46) (fun g50 => q_Rd_read_58 a1 g50) (F + 1) (nI i) g = bnd (clCo i (opH t i g)) fun r g => if r = (0 : Int32) then q_Rd_read_58 a1 g else (bnd (q_Rd_token g) fun r31 g29 => if r31 = (4000 : Int32) then (some ((-1 : Int32), g29)) else (bnd (q_Rd_took (2059 : Int32) g29) fun r35 g33 => if r35 = (0 : Int32) then (q_Rd_read_58 a1 g33) else (q_Rd_read_20L a1 (fun g42 => q_Rd_read_58 a1 g42) (fun g46 => q_Rd_read_58 a1 g46) (fun g50 => q_Rd_read_58 a1 g50) F (nI (i + 1)) g33))) := by
      rw [q_Rd_read_20L_s]
      unfold q_Rd_read_20 q_Rd_read_37 clCo
      rw [if_neg (show ¬ (12 : Int32) ≤ nI i from nI_ge (a := i) (b := 12) hi (by decide)), h.2.2.2.2.1, gp_p h.2.2.2.1.1, open_c h3 hi, bnd_s, if_neg (by decide), if_neg (show ¬ gI (opH t i g) 239 2 = 0 by rw [ho.2.2.2.2.2.1]; decide), nI_1]
      cases q : q_Rd_readOrder (nI i) (opH t i g) with
      | none => rfl
      | some x =>
        obtain ⟨v, g3⟩ := x
        show (if v = 0 then _ else _) = bnd (if v = 0 then _ else _) _
        by_cases w : v = 0
        · rw [if_pos w, if_pos w, bnd_s, if_pos rfl]
        · rw [if_neg w, if_neg w]
    have u1 : Un (sTy t) g g1 := opH_u.tr (sTx_sTy x2)
    rw [cl, x1, bnd_s]
    cases b with
    | false =>
      rw [bI_f Bool.false_ne_true, if_pos rfl]
      refine ⟨some p1, g1, start_c1 x3 a1, u1, x3.2.1.le, fun len f hf hc h21 hDM => ?_⟩
      obtain ⟨f', e1, e2, e3⟩ := x6 rfl len f hf hc h21
      refine ⟨f', ?_, Or.inl e2, e3⟩
      unfold mO
      rw [e1, bnd_s, m11_no e2.1]
    | true =>
      obtain ⟨y1, y2, y3, hd1, te1, su1, y4, y5⟩ := x5 rfl
      have t5 := tk_5 x3.2.2.1 p1
      have D' : ∀ j, j < i + 1 → DCo g1 t sz1 j ((fun j => if j = i then hd1 else hd j) j) ((fun j => if j = i then te1 else te j) j) ((fun j => if j = i then su1 else su j) j) := fun j hj => by
        by_cases w : j = i
        · subst w
          simp only [if_pos]
          exact y4
        · simp only [if_neg w]
          exact (hD j (by omega)).ex y2 (fun a q1 q2 => (x4 a j q1 q2 w).trans (opH_a (by omega) (by omega))) (fun k hk => (y3 k hk).trans (oB k))
      have M' : ∀ (len len' : Nat) (f f' : hG), (∀ j, j < i → DMo f len j (hd j) (te j) (su j)) → len ≤ len' → (∀ j, j < len → gI f' 378 j = gI f 378 j ∧ gI f' 379 j = gI f 379 j) → (∀ k, k < 8 * i → gI f' 397 k = gI f 397 k) → DMo f' len' i hd1 te1 su1 → ∀ j, j < i + 1 → DMo f' len' j ((fun j => if j = i then hd1 else hd j) j) ((fun j => if j = i then te1 else te j) j) ((fun j => if j = i then su1 else su j) j) := fun len len' f f' q1 q2 q3 q4 q5 j hj => by
        by_cases w : j = i
        · subst w
          simp only [if_pos]
          exact q5
        · simp only [if_neg w]
          exact (q1 j (by omega)).ex q2 (fun k hk => q4 k (by omega)) q3
      have t2 : gI g1 t 2 = nI (i + 1) := by
        rw [x2.I (Bool.eq_false_iff.mpr (fun q => by
          simp only [sTx, sRd, Bool.or_eq_true, Bool.and_eq_true, beq_iff_eq, Nat.ble_eq] at q
          omega))]
        exact opH_2
      rw [bI_t rfl, if_neg (by decide), tok_c x3, bnd_s]
      by_cases z : tkF B n p1 = 4000
      · have pn : p1 = n := by
          rcases x3.2.1 with q | ⟨q, hs⟩
          · exact q
          · exfalso
            have := tk_5 x3.2.2.1 p1
            unfold tkF at z
            rw [if_neg (by omega)] at z
            split at z
            · rcases wR_p (isW B p1 (eE B n p1)) 25 0 with ⟨q, -⟩ | ⟨j, -, q1, -, q2⟩ <;> omega
            · split at z
              · have := cv_le (fun j => B (p1 + j) - 48) (eE B n p1 - p1)
                omega
              · have := x3.2.2.1.2 p1 q
                omega
        rw [if_pos (show nI (tkF B n p1) = (4000 : Int32) by rw [z]; rfl)]
        refine ⟨none, g1, rfl, u1, i + 1, sz1, _, _, _, by omega, t2, x3.2.2.2.2.2.2.2.2.1, by have := x3.c4; have := x3.2.2.2.2.2.2.2.2.2.2; omega, D', fun len f hf hc h21 hDM => ?_⟩
        obtain ⟨len', f', e1, e2, e3, e4, e5, e6, e7, e8⟩ := y5 len f hf hc h21
        refine ⟨pa1, len', f', ?_, by rw [pn] at e2; exact e2, e3, e7, M' len len' f f' hDM e4 e5 e6 e8⟩
        unfold mO
        rw [e1, bnd_s, m11_s e2, if_neg (by omega)]
      · rw [if_neg (show ¬ nI (tkF B n p1) = (4000 : Int32) from nI_dif (b := 4000) z (by omega) (by omega)), show q_Rd_took (2059 : Int32) g1 = _ from took_c x3 (v := 2059) (by omega)]
        by_cases y : tkF B n p1 = 2059
        · have hp := tk_lt x3.2.1 z
          have ha := x3.adv hp.1 hp.2
          rw [if_pos y, bnd_s, if_neg (by decide)]
          obtain ⟨res, g', r1, r2, r3⟩ := ih (i + 1) F F' (nx B n p1) sz1 pa1 (adv B n p1 g1) _ _ _ (by omega) (by omega) (by omega) ha ((rd_a (by omega)).trans t2) ⟨(rd_a (by omega)).trans ((y3 0 (by omega)).trans ((oB 0).trans hB.1)), (rd_a (by omega)).trans ((y3 1 (by omega)).trans ((oB 1).trans hB.2.1)), by omega⟩ (fun j hj => (D' j hj).ex (Nat.le_refl _) (fun a q1 q2 => rd_a (by omega)) (fun k hk => rd_a (by omega)))
          refine ⟨res, g', r1, (u1.tr (sTx_sTy (sRd_sTx un_adv))).tr r2, ?_⟩
          have stp : ∀ (len : Nat) (f : hG), PQo B n p pa len f → CoR f → gI f 367 21 = nI i → (∀ j, j < i → DMo f len j (hd j) (te j) (su j)) → ∃ (len' : Nat) (f2 : hG), mO KM (F' + 1) f = mO KM F' f2 ∧ PQo B n (nx B n p1) pa1 len' f2 ∧ CoR f2 ∧ Un sLo f f2 ∧ gI f2 367 21 = nI (i + 1) ∧ ∀ j, j < i + 1 → DMo f2 len' j ((fun j => if j = i then hd1 else hd j) j) ((fun j => if j = i then te1 else te j) j) ((fun j => if j = i then su1 else su j) j) := fun len f hf hc h21 hDM => by
            obtain ⟨len', f', e1, e2, e3, e4, e5, e6, e7, e8⟩ := y5 len f hf hc h21
            obtain ⟨f2, n1, n2, n3⟩ := next_qo e2 hp.1 hp.2
            have u2 : Un sLo f f2 := e3.tr (sPm_sLo (sNx_sPm n3))
            refine ⟨len', f2, ?_, n2, hc.unO u2, u2, (n3.I rfl).trans e7, fun j hj => (M' len len' f f' hDM e4 e5 e6 e8 j hj).ex (Nat.le_refl _) (fun k _ => n3.I rfl) (fun k _ => ⟨n3.I rfl, n3.I rfl⟩)⟩
            show bnd (q_Mo_readOrder f) _ = _
            rw [e1, bnd_s, m11_s e2, if_pos y, n1, bnd_s]
          cases res with
          | none =>
            obtain ⟨N, sz', hd', te', su', v1, v2, v3, v4, v5, v6⟩ := r3
            refine ⟨N, sz', hd', te', su', v1, v2, v3, v4, v5, fun len f hf hc h21 hDM => ?_⟩
            obtain ⟨len', f2, q1, q2, q3, q4, q5, q6⟩ := stp len f hf hc h21 hDM
            obtain ⟨pa', len2, f', w1, w2, w3, w4, w5⟩ := v6 len' f2 q2 q3 q5 q6
            exact ⟨pa', len2, f', q1.trans w1, w2, q4.tr w3, w4, w5⟩
          | some q =>
            obtain ⟨v1, v2⟩ := r3
            refine ⟨v1, fun len f hf hc h21 hDM => ?_⟩
            obtain ⟨len', f2, q1, q2, q3, q4, q5, q6⟩ := stp len f hf hc h21 hDM
            obtain ⟨f', w1, w2, w3⟩ := v2 len' f2 q2 q3 q5 q6
            exact ⟨f', q1.trans w1, w2, q4.tr w3⟩
        · rw [if_neg y, bnd_s, if_pos rfl]
          refine ⟨some p1, g1, start_c1 x3 a1, u1, x3.2.1.le, fun len f hf hc h21 hDM => ?_⟩
          obtain ⟨len', f', e1, e2, e3, e4, e5, e6, e7, e8⟩ := y5 len f hf hc h21
          refine ⟨f', ?_, Or.inr ⟨⟨pa1, len', e2⟩, z⟩, e3⟩
          unfold mO
          rw [e1, bnd_s, m11_s e2, if_neg y]
end CKo
