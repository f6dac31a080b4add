/-! calls that change a little: force, forget, seen, terms, door, count -/
theorem WFr.m {r r' : Nat → Int32} (h : WFr r) (e : ∀ i, 7 ≤ i → i < 56 → r' i = r i) (e4 : r' 4 = r 4) : WFm (fun i => r' (4 + i)) := h.1.ex (fun i hi h1 h2 => by
  by_cases q : i = 0
  · subst q; exact e4
  · exact e _ (by omega) (by omega))
theorem nI_le_iff {n : Nat} (hn : n < 2 ^ 31) (v : Int32) (h : ¬ v < 0) : (v ≤ nI n) ↔ ∃ m, m ≤ n ∧ v = nI m := by
  obtain ⟨m, hm, rfl⟩ := nI_of h
  rw [nI_leI hm hn]
  constructor
  · exact fun q => ⟨m, q, rfl⟩
  · rintro ⟨k, q1, q2⟩
    rw [nI_eq hm (by omega)] at q2
    omega
theorem law_nI {n : Nat} (hn : n ≤ 6) (v : Int32) : (v = -1 ∨ (0 ≤ v ∧ v ≤ nI n - 1)) ↔ (v = -1 ∨ ∃ k, k < n ∧ v = nI k) := by
  constructor
  · rintro (h | ⟨h1, h2⟩)
    · exact Or.inl h
    · right
      obtain ⟨m, hm, rfl⟩ := nI_of (show ¬ v < 0 by grind)
      match n, hn with
      | 0, _ => exfalso; rw [show nI 0 - 1 = -1 from rfl] at h2; grind
      | k + 1, _ => rw [nI_pred, nI_leI hm (by omega)] at h2; exact ⟨m, by omega, rfl⟩
  · rintro (h | ⟨k, h1, rfl⟩)
    · exact Or.inl h
    · right
      match n, hn, h1 with
      | j + 1, _, _ => rw [nI_pred]; exact ⟨nI_pos' (by omega), nI_le (by omega) (by omega)⟩
/-- a law's number that can be -/
abbrev isLw (n : Nat) (v : Int32) : Prop := v = -1 ∨ (0 ≤ v ∧ v ≤ nI n - 1)
theorem isLaw_c {g : hG} {n : Nat} (hn : n ≤ 6) (h : gI g 1 8 = nI n) (v : Int32) : q_MP_isLawOrNone v g = some (bI (isLw n v), g) := by
  unfold q_MP_isLawOrNone bI
  rw [h]
  by_cases h1 : v < -1
  · rw [if_pos h1, if_neg]
    rintro (rfl | ⟨q, -⟩)
    · exact absurd h1 (by decide)
    · grind
  · rw [if_neg h1]
    by_cases h2 : nI n ≤ v
    · rw [if_pos h2, if_neg]
      refine (not_congr (law_nI hn v)).mpr ?_
      rintro (rfl | ⟨k, q1, rfl⟩)
      · have := nI_pos' (show n < 2 ^ 31 by omega); grind
      · exact nI_ge q1 (by omega) h2
    · rw [if_neg h2, if_pos]
      refine (law_nI hn v).mpr ?_
      by_cases h3 : v < 0
      · left; grind
      · right
        obtain ⟨m, hm, rfl⟩ := nI_of h3
        refine ⟨m, ?_, rfl⟩
        rw [nI_leI (by omega) hm] at h2
        omega
theorem isLaw_m {g : hG} {n : Nat} (hn : n ≤ 6) (h : gI g 369 1 = nI n) (v : Int32) : q_Mo_isLaw v g = some (bI (isLw n v), g) := by
  unfold q_Mo_isLaw
  by_cases h1 : v = -1
  · rw [if_pos h1, bI_t (Or.inl h1)]
  · rw [if_neg h1, gd_L _ _ (by decide) (by decide), cl_L _ (by decide), h, in_e v 0 (nI n - 1) 0 _ rfl ?_, bnd_s]
    · unfold bI
      by_cases h2 : 0 ≤ v ∧ v ≤ nI n - 1
      · rw [if_pos h2, if_neg (by decide), if_pos (Or.inr h2)]
      · rw [if_neg h2, if_pos rfl, if_neg (fun q => q.elim h1 h2)]
    · have : n = 0 ∨ n = 1 ∨ n = 2 ∨ n = 3 ∨ n = 4 ∨ n = 5 ∨ n = 6 := by omega
      rcases this with rfl | rfl | rfl | rfl | rfl | rfl | rfl <;> rfl
theorem ch_e (k : Nat) (hk : k < 5468) (v : Int32) (g : hG) : q_Mo_change (nI k) v g = some (gI g 369 k, sI (sI g 369 k v) 367 1 0) := by
  unfold q_Mo_change
  rw [gd_nI hk (by omega), gd_nI hk (by omega), nI_clamp (by omega)]
  rfl
theorem laws_n {g : hG} (h : Inv g) : ∃ n, n ≤ 6 ∧ gI g 1 8 = nI n ∧ gI g 369 1 = nI n := by
  obtain ⟨⟨⟨-, k2, -, -⟩, w⟩, -⟩ := h
  obtain ⟨-, -, -, -, -, -, n, h1, h2, h3⟩ := w
  exact ⟨n, h1, k2.2.2.2.2.1.trans h2, h2⟩
/-- what the kept cells, the past and the scratch aside, stands as it was -/
theorem Inv.kp {g g' : hG} (h : Inv g) (hk : KeptR g' 1 (gI g' 369) ∧ WFr (gI g' 369)) (hp : PastR g') (e : ∀ a k, suK a k = false → suP a k = false → sX a k = false → ¬ (a = 263 ∧ k = 1) → ¬ (a = 367 ∧ k = 1) → gI g' a k = gI g a k) (n1 : gI g' 263 1 = gI g' 367 1) (eJ : ∀ a k, (a = 382 ∨ a = 383 ∨ a = 384 ∨ a = 395 ∨ a = 396) → gJ g' a k = gJ g a k) : Inv g' := by
  obtain ⟨h1, h2, h3, h4, h5, h6, h7⟩ := h
  have d : ∀ {sup : Nat → Nat → Bool}, (∀ a k, sup a k = true → sX a k = false) → (∀ a k, sup a k = true → suK a k = false ∧ suP a k = false ∧ ¬ a = 263 ∧ ¬ (a = 367 ∧ k = 1)) → Ag sup g g' := fun d1 d2 a k q => e a k (d2 a k q).1 (d2 a k q).2.1 (d1 a k q) (fun z => (d2 a k q).2.2.1 z.1) (d2 a k q).2.2.2
  refine ⟨hk, hp, h3.ag (d suI_x (fun a k q => ?_)), h4.ag (d suT_x (fun a k q => ?_)), ?_, h6.ag (d suD_x (fun a k q => ?_)), h7.ag (e _ _ rfl rfl rfl (by omega) (by omega)) eJ⟩
  · refine ⟨Bool.eq_false_iff.mpr (fun z => ?_), Bool.eq_false_iff.mpr (fun z => ?_), ?_, ?_⟩ <;> simp only [suK, suP, suI, Bool.or_eq_true, Bool.and_eq_true, beq_iff_eq, Nat.ble_eq] at * <;> omega
  · refine ⟨Bool.eq_false_iff.mpr (fun z => ?_), Bool.eq_false_iff.mpr (fun z => ?_), ?_, ?_⟩ <;> simp only [suK, suP, suT, Bool.or_eq_true, Bool.and_eq_true, beq_iff_eq, Nat.ble_eq] at * <;> omega
  · obtain ⟨n0, n2, n3, n4, n5⟩ := h5
    refine ⟨n1, ?_, ?_, ?_, fun j hj => ?_⟩
    · rw [e 263 2 rfl rfl rfl (by omega) (by omega), e 367 18 rfl rfl rfl (by omega) (by omega)]; exact n2
    · rw [e 263 3 rfl rfl rfl (by omega) (by omega), e 367 53 rfl rfl rfl (by omega) (by omega)]; exact n3
    · rw [e 263 4 rfl rfl rfl (by omega) (by omega), e 367 11 rfl rfl rfl (by omega) (by omega)]; exact n4
    · rw [e 264 j rfl rfl rfl (by omega) (by omega), e 368 j rfl rfl rfl (by omega) (by omega)]; exact n5 j hj
  · refine ⟨Bool.eq_false_iff.mpr (fun z => ?_), Bool.eq_false_iff.mpr (fun z => ?_), ?_, ?_⟩ <;> simp only [suK, suP, suD, Bool.or_eq_true, Bool.and_eq_true, beq_iff_eq, Nat.ble_eq] at * <;> omega
theorem Inv.kept {g g' : hG} (h : Inv g) (hk : KeptR g' 1 (gI g' 369) ∧ WFr (gI g' 369)) (e : ∀ a k, suK a k = false → sX a k = false → ¬ (a = 263 ∧ k = 1) → ¬ (a = 367 ∧ k = 1) → gI g' a k = gI g a k) (e5 : gI g' 369 5 = gI g 369 5) (e6 : gI g' 369 6 = gI g 369 6) (n1 : gI g' 263 1 = gI g' 367 1) (eJ : ∀ a k, (a = 382 ∨ a = 383 ∨ a = 384 ∨ a = 395 ∨ a = 396) → gJ g' a k = gJ g a k) : Inv g' := by
  refine h.kp hk (h.2.1.ag (fun a k q => ?_)) (fun a k q1 _ q3 q4 q5 => e a k q1 q3 q4 q5) n1 eJ
  by_cases z : a = 369
  · subst z
    have : k = 5 ∨ k = 6 := by simp only [suP, Bool.or_eq_true, Bool.and_eq_true, beq_iff_eq, Nat.ble_eq] at q; omega
    rcases this with rfl | rfl
    · exact e5
    · exact e6
  · refine e a k (Bool.eq_false_iff.mpr (fun z => ?_)) (suP_x a k q) ?_ ?_ <;> simp only [suK, suP, Bool.or_eq_true, Bool.and_eq_true, beq_iff_eq, Nat.ble_eq] at * <;> omega
/-- one field of the kept ones changes: cell (1, k1) and row k0 -/
theorem KeptR.fld {g g' : hG} (k0 k1 : Nat) (hk : (k0, k1) = (3, 1) ∨ (k0, k1) = (0, 6) ∨ (k0, k1) = (2, 9) ∨ (k0, k1) = (5, 2) ∨ (k0, k1) = (6, 3)) (h : KeptR g 1 (gI g 369)) (e : ∀ a k, suK a k = true → ¬ (a = 1 ∧ k = k1) → ¬ (a = 369 ∧ k = k0) → gI g' a k = gI g a k) (e0 : gI g' 1 k1 = gI g' 369 k0) : KeptR g' 1 (gI g' 369) := by
  obtain ⟨h1, h2, h3, h4⟩ := h
  have q : ∀ j k, 1 ≤ j → j ≤ 50 → gI g' (1 + j) k = gI g (1 + j) k := fun j k hj hj2 => e _ _ (by simp [suK]; omega) (by omega) (by omega)
  have hk0 : k0 ≠ 1 ∧ k0 ≠ 4 ∧ k0 < 7 := by
    rcases hk with z | z | z | z | z <;> cases z <;> decide
  have r : ∀ i, i ≠ k0 → gI g' 369 i = gI g 369 i := fun i hi => e _ _ rfl (by omega) (by omega)
  refine ⟨h1.ex (fun j k hj => by rw [Nat.add_assoc]; exact q (1 + j) k (by omega) (by omega)) (fun i hi i1 i2 => r _ ?_), ?_, fun k hk => ?_, h4.ex (fun j k h9 h50 => q j k (by omega) h50) (r _ (by omega)) (fun i hi _ => r _ (by omega))⟩
  · by_cases z : i = 0
    · omega
    · omega
  · obtain ⟨a1, a2, a3, a4, a5, a6⟩ := h2
    unfold KFld
    have e1 : ∀ k, k ≠ k1 → gI g' 1 k = gI g 1 k := fun k z => e _ _ rfl (by omega) (by omega)
    rcases hk with z | z | z | z | z <;> cases z
    · rw [e1 2 (by decide), e1 3 (by decide), e1 6 (by decide), e1 8 (by decide), e1 9 (by decide), r 5 (by decide), r 6 (by decide), r 0 (by decide), r 1 (by decide), r 2 (by decide)]
      exact ⟨e0, a2, a3, a4, a5, a6⟩
    · rw [e1 2 (by decide), e1 3 (by decide), e1 1 (by decide), e1 8 (by decide), e1 9 (by decide), r 5 (by decide), r 6 (by decide), r 3 (by decide), r 1 (by decide), r 2 (by decide)]
      exact ⟨a1, a2, a3, e0, a5, a6⟩
    · rw [e1 2 (by decide), e1 3 (by decide), e1 1 (by decide), e1 8 (by decide), e1 6 (by decide), r 5 (by decide), r 6 (by decide), r 3 (by decide), r 1 (by decide), r 0 (by decide)]
      exact ⟨a1, a2, a3, a4, a5, e0⟩
    · rw [e1 3 (by decide), e1 1 (by decide), e1 8 (by decide), e1 6 (by decide), e1 9 (by decide), r 2 (by decide), r 6 (by decide), r 3 (by decide), r 1 (by decide), r 0 (by decide)]
      exact ⟨a1, e0, a3, a4, a5, a6⟩
    · rw [e1 2 (by decide), e1 1 (by decide), e1 8 (by decide), e1 6 (by decide), e1 9 (by decide), r 2 (by decide), r 5 (by decide), r 3 (by decide), r 1 (by decide), r 0 (by decide)]
      exact ⟨a1, a2, e0, a4, a5, a6⟩
  · rw [q 6 k (by omega) (by omega), q 7 k (by omega) (by omega), r _ (by omega), r _ (by omega)]
    exact h3 k hk
theorem sp_force {g : hG} (h : Inv g) (v : Int32) : Sp (q_MP_force v) (q_Mo_force v) g := by
  obtain ⟨n, hn, l1, l2⟩ := laws_n h
  by_cases hv : isLw n v
  · have e2 : gI (sI g 1 9 v) 1 9 = v := by simp [gI_sI]
    have q : ∀ a k, ¬ (a = 1 ∧ k = 9) → ¬ (a = 263 ∧ k = 1) → ¬ (a = 367 ∧ k = 0) → ¬ (a = 369 ∧ k = 2) → ¬ (a = 367 ∧ k = 1) → gI (sI (sI (sI (sI (sI g 1 9 v) 263 1 0) 367 0 0) 369 2 v) 367 1 0) a k = gI g a k := fun a k z1 z2 z3 z4 z5 => by
      rw [gI_sI, if_neg z5, gI_sI, if_neg z4, gI_sI, if_neg z3, gI_sI, if_neg z2, gI_sI, if_neg z1]
    refine Sp.q (r := gI g 369 2) (g1 := sI (sI g 1 9 v) 263 1 0) (g2 := sI (sI (sI (sI (sI g 1 9 v) 263 1 0) 367 0 0) 369 2 v) 367 1 0) ?_ ?_ (h.kept ⟨?_, ?_⟩ ?_ (q _ _ (by omega) (by omega) (by omega) (by omega) (by omega)) (q _ _ (by omega) (by omega) (by omega) (by omega) (by omega)) (by simp [gI_sI]) (fun a k _ => rfl))
    · unfold q_MP_force
      rw [isLaw_c hn l1, bnd_s, bI_t hv, if_neg (by decide), wr_e, gr_e, bnd_s, h.1.1.2.1.2.2.2.2.2]
    · unfold q_Mo_force
      rw [wr_e, isLaw_m hn (by simp [gI_sI, l2]), bnd_s, bI_t hv, if_neg (by decide), show (2 : Int32) = nI 2 from rfl, ch_e 2 (by omega), bnd_s]
      simp [gI_sI]
    · exact h.1.1.fld 2 9 (by simp) (fun a k z1 z2 z3 => q a k z2 (by rintro ⟨rfl, rfl⟩; cases z1) (by rintro ⟨rfl, rfl⟩; cases z1) z3 (by rintro ⟨rfl, rfl⟩; cases z1)) (by simp [gI_sI])
    · have e : ∀ i, ¬ i = 2 → gI (sI (sI (sI (sI (sI g 1 9 v) 263 1 0) 367 0 0) 369 2 v) 367 1 0) 369 i = gI g 369 i := fun i hi => q _ _ (by omega) (by omega) (by omega) (by omega) (by omega)
      have w := h.1.2
      refine ⟨w.m (fun i h1 h2 => e i (by omega)) (e 4 (by omega)), ?_⟩
      obtain ⟨-, w2, w3, w4, w5, ⟨m, w6, w7, w8⟩, ⟨m2, w9, w10, w11⟩⟩ := w
      rw [e 4 (by omega), e 5 (by omega), e 6 (by omega), e 3 (by omega), e 0 (by omega), e 1 (by omega)]
      refine ⟨w2, w3, w4, w5, ⟨m, w6, w7, fun k hk => ?_⟩, ⟨n, hn, l2, ?_⟩⟩
      · rw [e _ (by omega), e _ (by omega)]; exact w8 k hk
      · simp only [gI_sI]; simp; exact (law_nI hn v).mp hv
    · intro a k z1 z2 z3 z4
      exact q a k (by rintro ⟨rfl, rfl⟩; cases z1) z3 (by rintro ⟨rfl, rfl⟩; cases z2) (by rintro ⟨rfl, rfl⟩; cases z1) z4
  · refine Sp.q (r := -2) (g1 := nC (-2) 2 g) (g2 := nM (-2) 2 (sI (nC (-2) 2 g) 367 0 0)) ?_ ?_ (h.no (-2) (by omega) (Un.rf.sI rfl _))
    · unfold q_MP_force
      rw [isLaw_c hn l1, bnd_s, bI_f hv, if_pos rfl, rf_2, bnd_s]
    · unfold q_Mo_force
      rw [wr_e, isLaw_m hn (by simp [gI_sI, nC, l2]), bnd_s, bI_f hv, if_pos rfl, te_2, bnd_s]

theorem WFr.fld {r r' : Nat → Int32} (k0 : Nat) (hk : k0 < 4 ∨ k0 = 5 ∨ k0 = 6) (h : WFr r) (e : ∀ i, i ≠ k0 → r' i = r i) (h3 : k0 = 3 → ∃ n, n < 33554432 ∧ r' 3 = nI n) (h5 : k0 = 5 → ∃ n, n ≤ 10 ∧ r' 5 = nI n) (h6 : k0 = 6 → ∃ n, n ≤ 9 ∧ r' 6 = nI n) (h0 : k0 = 0 → r' 0 = nI 0) (hk12 : k0 ≠ 1 ∧ k0 ≠ 2) : WFr r' := by
  have e4 := e 4 (by clear h3 h5 h6 h0; omega)
  have e1 := e 1 (by clear h3 h5 h6 h0; omega)
  have e2 := e 2 (by clear h3 h5 h6 h0; omega)
  have eg : ∀ i, 7 ≤ i → r' i = r i := fun i hi => e i (by clear h3 h5 h6 h0; omega)
  refine ⟨h.m (fun i h1 h2 => eg i h1) e4, ?_⟩
  obtain ⟨-, w2, w3, w4, w5, ⟨m, w6, w7, w8⟩, ⟨m2, w9, w10, w11⟩⟩ := h
  refine ⟨by rw [e4]; exact w2, ?_, ?_, ?_, ?_, ⟨m2, w9, by rw [e1]; exact w10, by rw [e2]; exact w11⟩⟩
  · by_cases z : k0 = 5
    · exact h5 z
    · rw [e 5 (Ne.symm z)]; exact w3
  · by_cases z : k0 = 6
    · exact h6 z
    · rw [e 6 (Ne.symm z)]; exact w4
  · by_cases z : k0 = 3
    · exact h3 z
    · rw [e 3 (Ne.symm z)]; exact w5
  · by_cases z : k0 = 0
    · exact ⟨0, by omega, h0 z, fun k hk => by omega⟩
    · refine ⟨m, w6, by rw [e 0 (Ne.symm z)]; exact w7, fun k hk => ?_⟩
      rw [eg _ (by omega), eg _ (by omega)]
      exact w8 k hk
theorem sp_forget {g : hG} (h : Inv g) : Sp q_MP_forget q_Mo_forget g := by
  have q : ∀ a k, ¬ (a = 1 ∧ k = 6) → ¬ (a = 367 ∧ k = 0) → ¬ (a = 369 ∧ k = 0) → gI (sI (sI (sI g 1 6 0) 367 0 0) 369 0 0) a k = gI g a k := fun a k z1 z2 z3 => by
    rw [gI_sI, if_neg z3, gI_sI, if_neg z2, gI_sI, if_neg z1]
  refine Sp.q (r := gI g 369 0) (g1 := sI g 1 6 0) (g2 := sI (sI (sI g 1 6 0) 367 0 0) 369 0 0) ?_ ?_ (h.kept ⟨?_, ?_⟩ ?_ (q _ _ (by omega) (by omega) (by omega)) (q _ _ (by omega) (by omega) (by omega)) ?_ (fun a k _ => rfl))
  · unfold q_MP_forget
    rw [wr_e, h.1.1.2.1.2.2.2.1]
  · unfold q_Mo_forget
    rw [wr_e, gd_L _ _ (by decide) (by decide), gd_L _ _ (by decide) (by decide), wr_e, cl_L _ (by decide)]
    simp [gI_sI]
  · exact h.1.1.fld 0 6 (by simp) (fun a k z1 z2 z3 => q a k z2 (by rintro ⟨rfl, rfl⟩; cases z1) z3) (by simp [gI_sI])
  · exact h.1.2.fld 0 (by omega) (fun i hi => q _ _ (by omega) (by omega) (by omega)) (by omega) (by omega) (by omega) (fun _ => by simp [gI_sI, nI_0]) (by omega)
  · intro a k z1 z2 z3 z4
    exact q a k (by rintro ⟨rfl, rfl⟩; cases z1) (by rintro ⟨rfl, rfl⟩; cases z2) (by rintro ⟨rfl, rfl⟩; cases z1)
  · rw [q _ _ (by omega) (by omega) (by omega), q _ _ (by omega) (by omega) (by omega)]; exact h.2.2.2.2.1.1
