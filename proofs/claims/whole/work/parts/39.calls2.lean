/-! seen, terms, door, count, feed -/
theorem past_0 {g : hG} (p : Nat) (hp : p < 16) (h1 : gI g 54 2 = 0) (h2 : gI g 367 8 = 0) (h3 : gI g 54 3 = nI p) : PastR g := ⟨0, p, by omega, hp, h1, h2, h3, fun j hj => by omega⟩
theorem sp_seen {g : hG} (h : Inv g) (v c : Int32) : Sp (q_MP_seen v c) (q_Mo_seen v c) g := by
  by_cases hv : 0 ≤ v ∧ v ≤ 30
  · by_cases hc : isC c
    · obtain ⟨n, hn, w0, wk⟩ := h.1.2.2.2.2.2.2.1
      have l1 : gI g 1 6 = nI n := h.1.1.2.1.2.2.2.1.trans w0
      have hv1 : ¬ v < 0 := by have := hv.1; grind
      have hv2 : ¬ 30 < v := by have := hv.2; grind
      by_cases h6 : n = 6
      · refine Sp.q (r := -5) (g1 := nC (-5) 5 g) (g2 := nM (-5) 5 (sI (nC (-5) 5 g) 367 0 0)) ?_ ?_ (h.no (-5) (by omega) (Un.rf.sI rfl _))
        · unfold q_MP_seen
          rw [if_neg hv1, if_neg hv2, isCell_c, bnd_s, bI_t hc, if_neg (by decide), l1, h6, if_neg (by decide), rf_5, bnd_s]
        · unfold q_Mo_seen
          rw [wr_e, in_e v 0 30 0 30 rfl rfl, bnd_s, bI_t hv, if_neg (by decide), isCell_m, bnd_s, bI_t hc, if_neg (by decide), gd_L _ _ (by decide) (by decide), cl_L _ (by decide)]
          rw [show gI (sI (nC (-5) 5 g) 367 0 0) 369 0 = nI n by simp [nC, gI_sI, w0], h6, if_pos (show nI 6 = 6 from rfl), te_5, bnd_s]
      · have hn6 : n < 6 := by omega
        have q : ∀ a k, ¬ (a = 7 ∧ k = n) ∧ ¬ (a = 8 ∧ k = n) ∧ ¬ (a = 1 ∧ k = 6) ∧ ¬ (a = 263 ∧ k = 1) ∧ ¬ (a = 367 ∧ k = 0) ∧ ¬ (a = 369 ∧ k = 56 + 2 * n) ∧ ¬ (a = 369 ∧ k = 57 + 2 * n) ∧ ¬ (a = 369 ∧ k = 0) ∧ ¬ (a = 367 ∧ k = 1) → gI (sI (sI (sI (sI (sI (sI (sI (sI (sI g 7 n v) 8 n c) 1 6 (nI (n + 1))) 263 1 0) 367 0 0) 369 (56 + 2 * n) v) 369 (57 + 2 * n) c) 369 0 (nI (n + 1))) 367 1 0) a k = gI g a k := fun a k ⟨z1, z2, z3, z4, z5, z6, z7, z8, z9⟩ => by
          rw [gI_sI, if_neg z9, gI_sI, if_neg z8, gI_sI, if_neg z7, gI_sI, if_neg z6, gI_sI, if_neg z5, gI_sI, if_neg z4, gI_sI, if_neg z3, gI_sI, if_neg z2, gI_sI, if_neg z1]
        refine Sp.q (r := nI (n + 1)) (g1 := sI (sI (sI (sI g 7 n v) 8 n c) 1 6 (nI (n + 1))) 263 1 0) (g2 := sI (sI (sI (sI (sI (sI (sI (sI (sI g 7 n v) 8 n c) 1 6 (nI (n + 1))) 263 1 0) 367 0 0) 369 (56 + 2 * n) v) 369 (57 + 2 * n) c) 369 0 (nI (n + 1))) 367 1 0) ?_ ?_ (h.kept ⟨⟨?_, ?_, ?_, ?_⟩, ?_⟩ ?_ (q _ _ (by omega)) (q _ _ (by omega)) (by simp [gI_sI]) (fun a k _ => rfl))
        · unfold q_MP_seen
          rw [if_neg hv1, if_neg hv2, isCell_c, bnd_s, bI_t hc, if_neg (by decide), l1, if_pos (show nI n < 6 from nI_lt hn6 (by decide)), gd_nI hn6 (by omega), wr_e]
          rw [show gI (sI g 7 (nI n).toNatClampNeg v) 1 6 = nI n by rw [rd_a (by decide), l1], gd_nI hn6 (by omega), wr_e, wr_e, nI_clamp (by omega)]
          rw [show gI (sI (sI g 7 n v) 8 n c) 1 6 = nI n by rw [rd_a (by decide), rd_a (by decide), l1], nI_1, gr_e, bnd_s, rd_s]
        · unfold q_Mo_seen
          rw [wr_e, in_e v 0 30 0 30 rfl rfl, bnd_s, bI_t hv, if_neg (by decide), isCell_m, bnd_s, bI_t hc, if_neg (by decide), gd_L _ _ (by decide) (by decide), cl_L _ (by decide)]
          have e0 : gI (sI (sI (sI (sI (sI g 7 n v) 8 n c) 1 6 (nI (n + 1))) 263 1 0) 367 0 0) 369 0 = nI n := by simp [gI_sI, w0]
          have e1 : (56 : Int32) + 2 * nI n = nI (56 + 2 * n) := by rw [← nI_add, ← pk_mul]; rfl
          have e2 : nI (56 + 2 * n) + 1 = nI (57 + 2 * n) := by rw [nI_1]; congr 1; omega
          simp only [e0]
          rw [if_neg (by rw [show (6 : Int32) = nI 6 from rfl, nI_eq (by omega) (by omega)]; omega), e1, e2, gd_nI (by omega) (by omega), wr_e, gd_nI (by omega) (by omega), wr_e, gd_L _ _ (by decide) (by decide), gd_L _ _ (by decide) (by decide), wr_e, nI_clamp (by omega), nI_clamp (by omega), nI_1, te_p (nI_pos' (by omega)), bnd_s]
          rw [show gI (sI (sI (sI (sI (sI (sI (sI g 7 n v) 8 n c) 1 6 (nI (n + 1))) 263 1 0) 367 0 0) 369 (56 + 2 * n) v) 369 (57 + 2 * n) c) 369 0 = nI n by rw [rd_k (by omega), rd_k (by omega), e0], nI_1]
        · exact h.1.1.1.ex (fun j k hj => q _ _ (by omega)) (fun i hi _ _ => q _ _ (by omega))
        · obtain ⟨a1, a2, a3, a4, a5, a6⟩ := h.1.1.2.1
          have r : ∀ k, k ≠ 0 → k < 56 → gI (sI (sI (sI (sI (sI (sI (sI (sI (sI g 7 n v) 8 n c) 1 6 (nI (n + 1))) 263 1 0) 367 0 0) 369 (56 + 2 * n) v) 369 (57 + 2 * n) c) 369 0 (nI (n + 1))) 367 1 0) 369 k = gI g 369 k := fun k z1 z2 => q _ _ (by omega)
          unfold KFld
          rw [r 3 (by omega) (by omega), r 5 (by omega) (by omega), r 6 (by omega) (by omega), r 1 (by omega) (by omega), r 2 (by omega) (by omega)]
          simp [gI_sI, a1, a2, a3, a5, a6]
        · intro k hk
          by_cases z : k = n
          · subst z
            simp [gI_sI]
          · rw [q _ _ (by omega), q _ _ (by omega), q _ _ (by omega), q _ _ (by omega)]
            exact h.1.1.2.2.1 k hk
        · exact h.1.1.2.2.2.ex (fun j k h9 h50 => q _ _ (by omega)) (q _ _ (by omega)) (fun i hi _ => q _ _ (by omega))
        · have r : ∀ k, k ≠ 0 → k ≠ 56 + 2 * n → k ≠ 57 + 2 * n → gI (sI (sI (sI (sI (sI (sI (sI (sI (sI g 7 n v) 8 n c) 1 6 (nI (n + 1))) 263 1 0) 367 0 0) 369 (56 + 2 * n) v) 369 (57 + 2 * n) c) 369 0 (nI (n + 1))) 367 1 0) 369 k = gI g 369 k := fun k z1 z2 z3 => q _ _ (by omega)
          obtain ⟨w1, w2, w3, w4, w5, -, w7⟩ := id h.1.2
          refine ⟨h.1.2.m (fun i h1 h2 => r i (by omega) (by omega) (by omega)) (r 4 (by omega) (by omega) (by omega)), ?_⟩
          rw [r 4 (by omega) (by omega) (by omega), r 5 (by omega) (by omega) (by omega), r 6 (by omega) (by omega) (by omega), r 3 (by omega) (by omega) (by omega), r 1 (by omega) (by omega) (by omega), r 2 (by omega) (by omega) (by omega)]
          refine ⟨w2, w3, w4, w5, ⟨n + 1, by omega, by simp [gI_sI], fun k hk => ?_⟩, w7⟩
          by_cases z : k = n
          · subst z
            obtain ⟨m, hm, e⟩ := (nI_le_iff (n := 30) (by omega) v hv1).mp hv.2
            refine ⟨⟨m, hm, ?_⟩, ?_⟩
            · rw [← e]; simp [gI_sI]
            · obtain ⟨c', hc', e⟩ := isC_n hc
              exact ⟨c', hc', by rw [← e]; simp [gI_sI]⟩
          · rw [r _ (by omega) (by omega) (by omega), r _ (by omega) (by omega) (by omega)]
            exact wk k (by omega)
        · intro a k z1 z2 z3 z4
          have z1' := Bool.eq_false_iff.mp z1
          have z2' := Bool.eq_false_iff.mp z2
          simp only [suK, Ne, Bool.or_eq_true, Bool.and_eq_true, beq_iff_eq, Nat.ble_eq] at z1'
          have : ¬ (a = 367 ∧ k = 0) := by rintro ⟨rfl, rfl⟩; exact z2' rfl
          exact q a k (by omega)
    · refine Sp.q (r := -1) (g1 := nC (-1) 1 g) (g2 := nM (-1) 1 (sI (nC (-1) 1 g) 367 0 0)) ?_ ?_ (h.no (-1) (by omega) (Un.rf.sI rfl _))
      · unfold q_MP_seen q_MP_seen_8
        rw [isCell_c, bnd_s, bI_f hc, if_pos rfl, rf_1, bnd_s]
        split
        · rfl
        · split <;> rfl
      · unfold q_Mo_seen q_Mo_seen_12
        rw [wr_e, in_e v 0 30 0 30 rfl rfl, bnd_s, bI_t hv, if_neg (by decide), isCell_m, bnd_s, bI_f hc, if_pos rfl, te_1, bnd_s]
  · refine Sp.q (r := -1) (g1 := nC (-1) 1 g) (g2 := nM (-1) 1 (sI (nC (-1) 1 g) 367 0 0)) ?_ ?_ (h.no (-1) (by omega) (Un.rf.sI rfl _))
    · unfold q_MP_seen q_MP_seen_8
      rw [rf_1, bnd_s]
      by_cases h1 : v < 0
      · rw [if_pos h1]
      · rw [if_neg h1]
        by_cases h2 : 30 < v
        · rw [if_pos h2]
        · exfalso; apply hv; constructor <;> grind
    · unfold q_Mo_seen q_Mo_seen_12
      rw [wr_e, in_e v 0 30 0 30 rfl rfl, bnd_s, bI_f hv, if_pos rfl, te_1, bnd_s]

/-- the hour changes -/
theorem KeptR.hour {g g' : hG} (h : KeptR g 1 (gI g 369)) (e : ∀ a k, suK a k = true → ¬ (a = 2 ∧ k = 4) → ¬ (a = 369 ∧ k = 4) → gI g' a k = gI g a k) (e0 : gI g' 2 4 = gI g' 369 4) : KeptR g' 1 (gI g' 369) := by
  obtain ⟨h1, h2, h3, h4⟩ := h
  have q : ∀ j k, j ≤ 50 → ¬ (j = 1 ∧ k = 4) → gI g' (1 + j) k = gI g (1 + j) k := fun j k hj z => e _ _ (by simp [suK]; omega) (by omega) (by omega)
  have r : ∀ i, i ≠ 4 → gI g' 369 i = gI g 369 i := fun i hi => e _ _ rfl (by omega) (by omega)
  refine ⟨⟨e0, fun c hc => ?_, fun l hl => ?_, fun l hl => ?_, fun l hl => ?_⟩, ?_, fun k hk => ?_, h4.ex (fun j k h9 h50 => q j k (by omega) (by omega)) (r _ (by omega)) (fun i hi _ => r _ (by omega))⟩
  · exact ((q 5 c (by omega) (by omega)).trans (h1.2.1 c hc)).trans (r _ (by omega)).symm
  · exact ((q 2 l (by omega) (by omega)).trans (h1.2.2.1 l hl)).trans (r _ (by omega)).symm
  · exact ((q 3 l (by omega) (by omega)).trans (h1.2.2.2.1 l hl)).trans (r _ (by omega)).symm
  · exact ((q 4 l (by omega) (by omega)).trans (h1.2.2.2.2 l hl)).trans (r _ (by omega)).symm
  · obtain ⟨a1, a2, a3, a4, a5, a6⟩ := h2
    unfold KFld
    have e1 : ∀ k, gI g' 1 k = gI g 1 k := fun k => q 0 k (by omega) (by omega)
    rw [e1, e1, e1, e1, e1, e1, r 3 (by omega), r 5 (by omega), r 6 (by omega), r 0 (by omega), r 1 (by omega), r 2 (by omega)]
    exact ⟨a1, a2, a3, a4, a5, a6⟩
  · rw [q 6 k (by omega) (by omega), q 7 k (by omega) (by omega), r _ (by omega), r _ (by omega)]
    exact h3 k hk
theorem WFr.hour {r r' : Nat → Int32} (h : WFr r) (e : ∀ i, i ≠ 4 → r' i = r i) (e4 : ∃ n, n ≤ 999 ∧ r' 4 = nI n) : WFr r' := by
  obtain ⟨⟨-, v2, v3⟩, -, w3, w4, w5, ⟨m, w6, w7, w8⟩, w9⟩ := h
  refine ⟨⟨?_, fun c hc => ?_, fun l hl => ?_⟩, e4, ?_, ?_, ?_, ⟨m, w6, ?_, fun k hk => ?_⟩, ?_⟩
  · obtain ⟨n, h1, h2⟩ := e4; exact ⟨n, by omega, h2⟩
  · dsimp only at v2 ⊢; rw [e (4 + (3 + c)) (by omega)]; exact v2 c hc
  · dsimp only at v3 ⊢; rw [e (4 + (28 + l)) (by omega), e (4 + (36 + l)) (by omega)]; exact v3 l hl
  · rw [e 5 (by omega)]; exact w3
  · rw [e 6 (by omega)]; exact w4
  · rw [e 3 (by omega)]; exact w5
  · rw [e 0 (by omega)]; exact w7
  · rw [e _ (by omega), e _ (by omega)]; exact w8 k hk
  · rw [e 1 (by omega), e 2 (by omega)]; exact w9
theorem place_n {g : hG} (h : Inv g) : ∃ p, p < 16 ∧ gI g 54 3 = nI p := by
  obtain ⟨-, ⟨n, p, h1, h2, h3, h4, h5, -⟩, -⟩ := h
  exact ⟨p, h2, h5⟩
theorem terms_no_c (a b w : Int32) (g : hG) (h : ¬ (0 ≤ a ∧ a ≤ 2 ∧ 0 ≤ b ∧ b ≤ w)) : q_MP_terms_10 a b w g = some (-1, nC (-1) 1 g) := by
  unfold q_MP_terms_10 q_MP_terms_21
  rw [rf_1, bnd_s]
  by_cases h1 : a < 0
  · rw [if_pos h1]
  · rw [if_neg h1]
    by_cases h2 : 2 < a
    · rw [if_pos h2]
    · rw [if_neg h2]
      by_cases h3 : b < 0
      · rw [if_pos h3]
      · rw [if_neg h3, if_neg]
        intro h4
        apply h
        refine ⟨?_, ?_, ?_, h4⟩ <;> grind
theorem terms_yes_m (a b : Int32) (k : Nat) (hk : k < 5468) (ha : 4 + a = nI k) (g : hG) : q_Mo_terms_32 a b 1 g = some (gI g 369 k, sI (sI (sI g 367 8 0) 369 k b) 367 1 0) := by
  unfold q_Mo_terms_32
  rw [if_neg (by decide), wr_e, ha, ch_e k hk, bnd_s, rd_a (by decide)]
theorem terms_no_m (a b : Int32) (g : hG) : q_Mo_terms_32 a b 0 g = some (-1, nM (-1) 1 g) := by
  unfold q_Mo_terms_32
  rw [if_pos rfl, te_1, bnd_s]
theorem terms_49 (v : Int32) (g : hG) : q_MP_terms_49 v g = some (v, sI (sI g 54 2 0) 263 1 0) := rfl
theorem sp_terms {g : hG} (h : Inv g) (a b : Int32) : Sp (q_MP_terms a b) (q_Mo_terms a b) g := by
  obtain ⟨p, hp, pl⟩ := place_n h
  obtain ⟨a1, a2, a3, a4, a5, a6⟩ := h.1.1.2.1
  have no : ∀ (w : Int32), ¬ (0 ≤ a ∧ a ≤ 2 ∧ 0 ≤ b ∧ b ≤ w) → (if a = 0 then (999 : Int32) else if a = 1 then 10 else 9) = w → q_Mo_terms a b (nC (-1) 1 g) = q_Mo_terms_32 a b 0 (sI (nC (-1) 1 g) 367 0 0) → Sp (q_MP_terms a b) (q_Mo_terms a b) g := fun w hw e em => by
    refine Sp.q (r := -1) (g1 := nC (-1) 1 g) (g2 := nM (-1) 1 (sI (nC (-1) 1 g) 367 0 0)) ?_ ?_ (h.no (-1) (by omega) (Un.rf.sI rfl _))
    · unfold q_MP_terms
      rw [e, terms_no_c a b w g hw]
    · rw [em, terms_no_m]
  by_cases h0 : a = 0
  · subst h0
    by_cases hb : 0 ≤ b ∧ b ≤ 999
    · have q : ∀ x k, ¬ (x = 2 ∧ k = 4) ∧ ¬ (x = 54 ∧ k = 2) ∧ ¬ (x = 263 ∧ k = 1) ∧ ¬ (x = 367 ∧ k = 0) ∧ ¬ (x = 367 ∧ k = 8) ∧ ¬ (x = 369 ∧ k = 4) ∧ ¬ (x = 367 ∧ k = 1) → gI (sI (sI (sI (sI (sI (sI (sI g 2 4 b) 54 2 0) 263 1 0) 367 0 0) 367 8 0) 369 4 b) 367 1 0) x k = gI g x k := fun x k ⟨z1, z2, z3, z4, z5, z6, z7⟩ => by
        rw [gI_sI, if_neg z7, gI_sI, if_neg z6, gI_sI, if_neg z5, gI_sI, if_neg z4, gI_sI, if_neg z3, gI_sI, if_neg z2, gI_sI, if_neg z1]
      refine Sp.q (r := gI g 369 4) (g1 := sI (sI (sI g 2 4 b) 54 2 0) 263 1 0) (g2 := sI (sI (sI (sI (sI (sI (sI g 2 4 b) 54 2 0) 263 1 0) 367 0 0) 367 8 0) 369 4 b) 367 1 0) ?_ ?_ (h.kp ⟨?_, ?_⟩ (past_0 p hp (by simp [gI_sI]) (by simp [gI_sI]) (by simp [gI_sI, pl])) ?_ (by simp [gI_sI]) (fun _ _ _ => rfl))
      · unfold q_MP_terms q_MP_terms_10 q_MP_termNow
        rw [if_pos rfl, if_neg (by decide), if_neg (by decide), if_neg (lt_m1 b hb.1), if_pos hb.2, if_pos rfl, bnd_s, if_pos rfl, wr_e, terms_49, h.1.1.1.1]
      · unfold q_Mo_terms
        rw [wr_e, if_pos rfl, in_e b 0 999 0 999 rfl rfl, bnd_s, bI_t hb, terms_yes_m 0 b 4 (by omega) rfl]
        simp [gI_sI]
      · exact h.1.1.hour (fun x k z1 z2 z3 => q x k ⟨z2, (by rintro ⟨rfl, rfl⟩; cases z1), (by rintro ⟨rfl, rfl⟩; cases z1), (by rintro ⟨rfl, rfl⟩; cases z1), (by rintro ⟨rfl, rfl⟩; cases z1), z3, (by rintro ⟨rfl, rfl⟩; cases z1)⟩) (by simp [gI_sI])
      · refine h.1.2.hour (fun i hi => q _ _ (by omega)) ?_
        obtain ⟨m, hm, e⟩ := (nI_le_iff (n := 999) (by omega) b (lt_m1 b hb.1)).mp hb.2
        exact ⟨m, hm, by simp [gI_sI, e]⟩
      · intro x k z1 z2 z3 z4 z5
        exact q x k ⟨(by rintro ⟨rfl, rfl⟩; cases z1), (by rintro ⟨rfl, rfl⟩; cases z2), z4, (by rintro ⟨rfl, rfl⟩; cases z3), (by rintro ⟨rfl, rfl⟩; cases z2), (by rintro ⟨rfl, rfl⟩; cases z1), z5⟩
    · refine no 999 (fun z => hb ⟨z.2.2.1, z.2.2.2⟩) rfl ?_
      unfold q_Mo_terms
      rw [wr_e, if_pos rfl, in_e b 0 999 0 999 rfl rfl, bnd_s, bI_f hb]
  · by_cases h1 : a = 1
    · subst h1
      by_cases hb : 0 ≤ b ∧ b ≤ 10
      · have q : ∀ x k, ¬ (x = 1 ∧ k = 2) ∧ ¬ (x = 54 ∧ k = 2) ∧ ¬ (x = 263 ∧ k = 1) ∧ ¬ (x = 367 ∧ k = 0) ∧ ¬ (x = 367 ∧ k = 8) ∧ ¬ (x = 369 ∧ k = 5) ∧ ¬ (x = 367 ∧ k = 1) → gI (sI (sI (sI (sI (sI (sI (sI g 1 2 b) 54 2 0) 263 1 0) 367 0 0) 367 8 0) 369 5 b) 367 1 0) x k = gI g x k := fun x k ⟨z1, z2, z3, z4, z5, z6, z7⟩ => by
          rw [gI_sI, if_neg z7, gI_sI, if_neg z6, gI_sI, if_neg z5, gI_sI, if_neg z4, gI_sI, if_neg z3, gI_sI, if_neg z2, gI_sI, if_neg z1]
        refine Sp.q (r := gI g 369 5) (g1 := sI (sI (sI g 1 2 b) 54 2 0) 263 1 0) (g2 := sI (sI (sI (sI (sI (sI (sI g 1 2 b) 54 2 0) 263 1 0) 367 0 0) 367 8 0) 369 5 b) 367 1 0) ?_ ?_ (h.kp ⟨?_, ?_⟩ (past_0 p hp (by simp [gI_sI]) (by simp [gI_sI]) (by simp [gI_sI, pl])) ?_ (by simp [gI_sI]) (fun _ _ _ => rfl))
        · unfold q_MP_terms
          rw [show (if (1 : Int32) = 0 then (999 : Int32) else if (1 : Int32) = 1 then 10 else 9) = 10 from rfl]
          have hb0 : ¬ b < 0 := lt_m1 b hb.1
          unfold q_MP_terms_10 q_MP_termNow
          rw [if_neg (by decide), if_neg (by decide), if_neg hb0, if_pos hb.2, if_neg (by decide), if_pos rfl, bnd_s, if_neg (by decide), if_pos rfl, wr_e, terms_49, a2]
        · unfold q_Mo_terms
          rw [wr_e, if_neg (by decide), if_pos rfl, in_e b 0 10 0 10 rfl rfl, bnd_s, bI_t hb, terms_yes_m 1 b 5 (by omega) rfl]
          simp [gI_sI]
        · exact h.1.1.fld 5 2 (by simp) (fun x k z1 z2 z3 => q x k ⟨z2, (by rintro ⟨rfl, rfl⟩; cases z1), (by rintro ⟨rfl, rfl⟩; cases z1), (by rintro ⟨rfl, rfl⟩; cases z1), (by rintro ⟨rfl, rfl⟩; cases z1), z3, (by rintro ⟨rfl, rfl⟩; cases z1)⟩) (by simp [gI_sI])
        · refine h.1.2.fld 5 (by omega) (fun i hi => q _ _ (by omega)) (by omega) (fun _ => ?_) (by omega) (by omega) (by omega)
          obtain ⟨m, hm, e⟩ := (nI_le_iff (n := 10) (by omega) b (lt_m1 b hb.1)).mp hb.2
          exact ⟨m, hm, by simp [gI_sI, e]⟩
        · intro x k z1 z2 z3 z4 z5
          exact q x k ⟨(by rintro ⟨rfl, rfl⟩; cases z1), (by rintro ⟨rfl, rfl⟩; cases z2), z4, (by rintro ⟨rfl, rfl⟩; cases z3), (by rintro ⟨rfl, rfl⟩; cases z2), (by rintro ⟨rfl, rfl⟩; cases z1), z5⟩
      · refine no 10 (fun z => hb ⟨z.2.2.1, z.2.2.2⟩) rfl ?_
        unfold q_Mo_terms
        rw [wr_e, if_neg (by decide), if_pos rfl, in_e b 0 10 0 10 rfl rfl, bnd_s, bI_f hb]
    · by_cases h2 : a = 2
      · subst h2
        by_cases hb : 0 ≤ b ∧ b ≤ 9
        · have q : ∀ x k, ¬ (x = 1 ∧ k = 3) ∧ ¬ (x = 54 ∧ k = 2) ∧ ¬ (x = 263 ∧ k = 1) ∧ ¬ (x = 367 ∧ k = 0) ∧ ¬ (x = 367 ∧ k = 8) ∧ ¬ (x = 369 ∧ k = 6) ∧ ¬ (x = 367 ∧ k = 1) → gI (sI (sI (sI (sI (sI (sI (sI g 1 3 b) 54 2 0) 263 1 0) 367 0 0) 367 8 0) 369 6 b) 367 1 0) x k = gI g x k := fun x k ⟨z1, z2, z3, z4, z5, z6, z7⟩ => by
            rw [gI_sI, if_neg z7, gI_sI, if_neg z6, gI_sI, if_neg z5, gI_sI, if_neg z4, gI_sI, if_neg z3, gI_sI, if_neg z2, gI_sI, if_neg z1]
          refine Sp.q (r := gI g 369 6) (g1 := sI (sI (sI g 1 3 b) 54 2 0) 263 1 0) (g2 := sI (sI (sI (sI (sI (sI (sI g 1 3 b) 54 2 0) 263 1 0) 367 0 0) 367 8 0) 369 6 b) 367 1 0) ?_ ?_ (h.kp ⟨?_, ?_⟩ (past_0 p hp (by simp [gI_sI]) (by simp [gI_sI]) (by simp [gI_sI, pl])) ?_ (by simp [gI_sI]) (fun _ _ _ => rfl))
          · unfold q_MP_terms
            rw [show (if (2 : Int32) = 0 then (999 : Int32) else if (2 : Int32) = 1 then 10 else 9) = 9 from rfl]
            have hb0 : ¬ b < 0 := lt_m1 b hb.1
            unfold q_MP_terms_10 q_MP_termNow
            rw [if_neg (by decide), if_neg (by decide), if_neg hb0, if_pos hb.2, if_neg (by decide), if_neg (by decide), bnd_s, if_neg (by decide), if_neg (by decide), wr_e, terms_49, a3]
          · unfold q_Mo_terms
            rw [wr_e, if_neg (by decide), if_neg (by decide), if_pos rfl, in_e b 0 9 0 9 rfl rfl, bnd_s, bI_t hb, if_neg (by decide), terms_yes_m 2 b 6 (by omega) rfl]
            simp [gI_sI]
          · exact h.1.1.fld 6 3 (by simp) (fun x k z1 z2 z3 => q x k ⟨z2, (by rintro ⟨rfl, rfl⟩; cases z1), (by rintro ⟨rfl, rfl⟩; cases z1), (by rintro ⟨rfl, rfl⟩; cases z1), (by rintro ⟨rfl, rfl⟩; cases z1), z3, (by rintro ⟨rfl, rfl⟩; cases z1)⟩) (by simp [gI_sI])
          · refine h.1.2.fld 6 (by omega) (fun i hi => q _ _ (by omega)) (by omega) (by omega) (fun _ => ?_) (by omega) (by omega)
            obtain ⟨m, hm, e⟩ := (nI_le_iff (n := 9) (by omega) b (lt_m1 b hb.1)).mp hb.2
            exact ⟨m, hm, by simp [gI_sI, e]⟩
          · intro x k z1 z2 z3 z4 z5
            exact q x k ⟨(by rintro ⟨rfl, rfl⟩; cases z1), (by rintro ⟨rfl, rfl⟩; cases z2), z4, (by rintro ⟨rfl, rfl⟩; cases z3), (by rintro ⟨rfl, rfl⟩; cases z2), (by rintro ⟨rfl, rfl⟩; cases z1), z5⟩
        · refine no 9 (fun z => hb ⟨z.2.2.1, z.2.2.2⟩) rfl ?_
          unfold q_Mo_terms
          rw [wr_e, if_neg (by decide), if_neg (by decide), if_pos rfl, in_e b 0 9 0 9 rfl rfl, bnd_s, bI_f hb, if_pos rfl]
      · refine no 9 (fun z => ?_) (by rw [if_neg h0, if_neg h1]) ?_
        · have := z.1; have := z.2.1; grind
        · unfold q_Mo_terms q_Mo_terms_31
          rw [wr_e, if_neg h0, if_neg h1, if_neg h2]
