/-! spill, raise, split, undo -/
theorem KeptR.mom {g g' : hG} (h : KeptR g 1 (gI g 369)) (e : ∀ a k, 1 ≤ a → a ≤ 51 → ¬ (2 ≤ a ∧ a ≤ 6) → gI g' a k = gI g a k) (er : ∀ y, ¬ (4 ≤ y ∧ y < 56 ∧ y ≠ 5 ∧ y ≠ 6) → gI g' 369 y = gI g 369 y) (hm : MomR g' 2 (fun i => gI g' 369 (4 + i))) : KeptR g' 1 (gI g' 369) := by
  obtain ⟨-, h2, h3, h4⟩ := h
  refine ⟨hm, ?_, fun k hk => ?_, h4.ex (fun j k h9 h50 => e _ _ (by omega) (by omega) (by omega)) (er _ (by omega)) (fun i hi _ => er _ (by omega))⟩
  · unfold KFld
    rw [e 1 1 (by omega) (by omega) (by omega), e 1 2 (by omega) (by omega) (by omega), e 1 3 (by omega) (by omega) (by omega), e 1 6 (by omega) (by omega) (by omega), e 1 8 (by omega) (by omega) (by omega), e 1 9 (by omega) (by omega) (by omega), er 3 (by omega), er 5 (by omega), er 6 (by omega), er 0 (by omega), er 1 (by omega), er 2 (by omega)]
    exact h2
  · rw [e (1 + 6) k (by omega) (by omega) (by omega), e (1 + 7) k (by omega) (by omega) (by omega), er _ (by omega), er _ (by omega)]
    exact h3 k hk
theorem WFr.mom {r r' : Nat → Int32} (h : WFr r) (er : ∀ y, ¬ (4 ≤ y ∧ y < 56 ∧ y ≠ 5 ∧ y ≠ 6) → r' y = r y) (hw : WFm (fun i => r' (4 + i))) (hh : ∃ n, n ≤ 999 ∧ r' 4 = nI n) : WFr r' := by
  obtain ⟨-, -, w3, w4, w5, ⟨m, w6, w7, w8⟩, w9⟩ := h
  refine ⟨hw, hh, ?_, ?_, ?_, ⟨m, w6, ?_, fun k hk => ?_⟩, ?_⟩
  · rw [er 5 (by omega)]; exact w3
  · rw [er 6 (by omega)]; exact w4
  · rw [er 3 (by omega)]; exact w5
  · rw [er 0 (by omega)]; exact w7
  · rw [er _ (by omega), er _ (by omega)]; exact w8 k hk
  · rw [er 1 (by omega), er 2 (by omega)]; exact w9
theorem nx_wf {r : Nat → Int32} (w : WFm r) (k : Nat) (hk : k < 3) (a b : Int32) (h0 : rfF r k a b = 0) : WFm (nxF r k a b) ∧ 0 ≤ reF r k a b ∧ nxF r k a b 0 = r 0 ∧ nxF r k a b 1 = r 1 ∧ nxF r k a b 2 = r 2 := by
  have : k = 0 ∨ k = 1 ∨ k = 2 := by omega
  obtain ⟨w1, w2, w3⟩ := w
  rcases this with rfl | rfl | rfl
  · rw [rfF_0] at h0
    by_cases h1 : isL8 a ∧ isC b
    · obtain ⟨l, hl, rfl⟩ := isL_n h1.1
      obtain ⟨c, hc, rfl⟩ := isC_n h1.2
      rw [reF_0, nxF_0, nI_clamp (by omega)]
      refine ⟨⟨?_, fun d hd => ?_, fun j hj => ?_⟩, ?_, ?_, ?_, ?_⟩
      · rw [upR_n _ _ (by omega), upR_n _ _ (by omega)]; exact w1
      · rw [upR_n _ _ (by omega), upR_n _ _ (by omega)]; exact w2 d hd
      · by_cases z : j = l
        · subst z
          right
          rw [upR_n _ _ (by omega), upR_s, upR_s]
          exact ⟨Or.inl rfl, c, hc, rfl⟩
        · rw [upR_n _ _ (by omega), upR_n _ _ (by omega), upR_n _ _ (by omega), upR_n _ _ (by omega)]; exact w3 j hj
      · obtain ⟨q, hq, e⟩ := loF_8 (upR (upR r (28 + l) 1) (36 + l) (nI c)) (nI c)
        obtain ⟨-, m, hm, e2, -⟩ := bc_8 q hq
        rw [e, e2]; exact nI_pos' (by omega)
      · rw [upR_n _ _ (by omega), upR_n _ _ (by omega)]
      · rw [upR_n _ _ (by omega), upR_n _ _ (by omega)]
      · rw [upR_n _ _ (by omega), upR_n _ _ (by omega)]
    · rw [if_neg h1] at h0; exact absurd h0 (by decide)
  · rw [rfF_1] at h0
    by_cases h1 : isC a ∧ 0 ≤ b ∧ b ≤ 9
    · obtain ⟨l, hl, rfl⟩ := isC_n h1.1
      obtain ⟨q, hq, e⟩ := (nI_le_iff (n := 9) (by omega) b (lt_m1 b h1.2.1)).mp h1.2.2
      rw [reF_1, nxF_1, nI_clamp (by omega)]
      refine ⟨⟨?_, fun d hd => ?_, fun j hj => ?_⟩, ?_, ?_, ?_, ?_⟩
      · rw [upR_n _ _ (by omega)]; exact w1
      · by_cases z : d = l
        · subst z; rw [upR_s]; exact ⟨q, hq, e⟩
        · rw [upR_n _ _ (by omega)]; exact w2 d hd
      · rw [upR_n _ _ (by omega), upR_n _ _ (by omega)]; exact w3 j hj
      · obtain ⟨m, hm, e2⟩ := w2 l hl
        rw [e2]; exact nI_pos' (by omega)
      · rw [upR_n _ _ (by omega)]
      · rw [upR_n _ _ (by omega)]
      · rw [upR_n _ _ (by omega)]
    · rw [if_neg h1] at h0; exact absurd h0 (by decide)
  · rw [rfF_2] at h0
    by_cases h1 : isL8 a ∧ 0 ≤ b ∧ b ≤ 3
    · rw [if_pos h1] at h0
      obtain ⟨l, hl, rfl⟩ := isL_n h1.1
      rw [nI_clamp (by omega)] at h0
      by_cases h3 : r (28 + l) = 1
      · rw [if_pos h3] at h0
        rcases w3 l hl with q | ⟨-, c, hc, e⟩
        · rw [q.1] at h3; exact absurd h3 (by decide)
        · obtain ⟨m, hm', rfl⟩ := nI_of (lt_m1 b h1.2.1)
          have hm4 : m < 4 := by have := h1.2.2; rw [show (3 : Int32) = nI 3 from rfl, nI_leI hm' (by omega)] at this; omega
          rw [e] at h0
          by_cases h4 : bsF (nI c) (nI m) = -1
          · rw [if_pos h4] at h0; exact absurd h0 (by decide)
          · obtain ⟨d, hd, e2⟩ := (bs_in c hc m hm4).resolve_left h4
            rw [reF_2, nxF_2, nI_clamp (by omega), e, e2]
            refine ⟨⟨?_, fun d hd => ?_, fun j hj => ?_⟩, nI_pos' (by omega), ?_, ?_, ?_⟩
            · rw [upR_n _ _ (by omega)]; exact w1
            · rw [upR_n _ _ (by omega)]; exact w2 d hd
            · by_cases z : j = l
              · subst z
                right
                rw [upR_n _ _ (by omega), upR_s]
                exact ⟨Or.inl h3, d, hd, rfl⟩
              · rw [upR_n _ _ (by omega), upR_n _ _ (by omega)]; exact w3 j hj
            · rw [upR_n _ _ (by omega)]
            · rw [upR_n _ _ (by omega)]
            · rw [upR_n _ _ (by omega)]
      · rw [if_neg h3] at h0; exact absurd h0 (by decide)
    · rw [if_neg h1] at h0; exact absurd h0 (by decide)
theorem st_1 (g : hG) : q_Notes_settle (-1) g = some (-1, nC (-1) 1 g) := by unfold q_Notes_settle; rw [if_neg (by decide), rf_1, bnd_s]
theorem st_3 (g : hG) : q_Notes_settle (-3) g = some (-3, nC (-3) 3 g) := by unfold q_Notes_settle; rw [if_neg (by decide), rf_3, bnd_s]
theorem sp_act {g : hG} (h : Inv g) (k : Nat) (hk : k < 3) (a b : Int32) : Sp (fun g => bnd (q_MP_attempt (nI k) a b g) fun r3 g1 => bnd (q_Notes_settle r3 g1) fun r6 g4 => some (r6, g4)) (fun g => wr (sI g 367 0 0) fun g1 => bnd (q_act k a b g1) fun r5 g3 => bnd (q_Mo_tell r5 g3) fun r8 g6 => some (r8, g6)) g := by
  have hm : MomR g 2 (fun i => gI g 369 (4 + i)) := h.1.1.1
  have w := h.1.2.1
  by_cases h0 : rfF (fun i => gI g 369 (4 + i)) k a b = 0
  · obtain ⟨p, n, hp, hn, p3, p2, m8⟩ := past_n h.2.1
    obtain ⟨ga, a1, a2, a3, a4, a5, a6⟩ := att_c hm k hk a b h0 p3 p2 hp hn
    obtain ⟨w1, w2, w3, w4, w5⟩ := nx_wf w k hk a b h0
    have hM : MomM (sI (sI ga 263 1 0) 367 0 0) (fun i => gI g 369 (4 + i)) := fun i hi => by rw [rd_a (by decide), rd_a (by decide), a2 _ _ (by omega) (by omega)]
    obtain ⟨gb, b1, b2, b3, b4, b5, b6, b7⟩ := act_c hM w k hk a b h0 (n := n) (by rw [rd_k (by decide), rd_a (by decide), a2 _ _ (by omega) (by omega), m8]) hn
    have cl : ∀ x y, ¬ (2 ≤ x ∧ x ≤ 6) → ¬ (54 ≤ x ∧ x ≤ 136) → ¬ (x = 263 ∧ y = 1) → ¬ (x = 367 ∧ y = 0) → ¬ x = 372 → ¬ x = 373 → ¬ (x = 367 ∧ y = 8) → ¬ (x = 369 ∧ 4 ≤ y ∧ y < 56 ∧ y ≠ 5 ∧ y ≠ 6) → ¬ (x = 367 ∧ y = 1) → gI (sI gb 367 1 0) x y = gI g x y := fun x y z1 z2 z3 z4 z5 z6 z7 z8 z9 => by
      rw [gI_sI, if_neg z9, b2 x y z5 z6 z7 z8, gI_sI, if_neg z4, gI_sI, if_neg z3, a2 x y z1 z2]
    have c2 : ∀ x y, x < 367 → ¬ x = 263 → gI (sI gb 367 1 0) x y = gI ga x y := fun x y z1 z2 => by
      rw [rd_a (by omega), b2 x y (by omega) (by omega) (by omega) (by omega), rd_a (by omega), rd_a (by omega)]
    refine Sp.q (r := reF (fun i => gI g 369 (4 + i)) k a b) (g1 := sI ga 263 1 0) (g2 := sI gb 367 1 0) ?_ ?_ (h.kp ⟨h.1.1.mom (fun x y z1 z2 z3 => cl x y (by omega) (by omega) (by omega) (by omega) (by omega) (by omega) (by omega) (by omega) (by omega)) (fun y hy => cl _ _ (by omega) (by omega) (by omega) (by omega) (by omega) (by omega) (by omega) (by omega) (by omega)) ?_, h.1.2.mom (fun y hy => cl _ _ (by omega) (by omega) (by omega) (by omega) (by omega) (by omega) (by omega) (by omega) (by omega)) ?_ ?_⟩ (past_push (s := k) (by omega) h.2.1 hm h.1.2 (a4.ag (fun x y q => ?_)) ((b5.pre (fun x y q => ?_)).ag (fun x y q => ?_)) (cl _ _ (by omega) (by omega) (by omega) (by omega) (by omega) (by omega) (by omega) (by omega) (by omega)) (cl _ _ (by omega) (by omega) (by omega) (by omega) (by omega) (by omega) (by omega) (by omega) (by omega))) ?_ ?_ (fun x y z => ?_))
    · rw [a1, bnd_s, st_p w2, bnd_s]
    · rw [wr_e, b1, bnd_s, te_p w2, bnd_s]
    · refine a3.ex (fun j y hj => c2 _ _ (by omega) (by omega)) (fun i hi _ _ => ?_)
      exact (rd_a (by decide)).trans (b4 i hi)
    · exact w1.ex (fun i hi _ _ => (rd_a (by decide)).trans (b4 i hi))
    · obtain ⟨q, hq, e⟩ := h.1.2.2.1
      exact ⟨q, hq, ((rd_a (by decide)).trans (b4 0 (by omega))).trans (w3.trans e)⟩
    · simp only [suPc, Bool.and_eq_true, Nat.ble_eq] at q
      exact c2 _ _ (by omega) (by omega)
    · rw [gI_sI, if_neg (by omega), gI_sI, if_neg (by omega), a2 _ _ (by omega) (by omega)]
    · simp only [suPm, Bool.or_eq_true, Bool.and_eq_true, beq_iff_eq, Nat.ble_eq] at q
      rw [gI_sI, if_neg (by omega)]
    · intro x y z1 z2 z3 z4 z5
      by_cases q : x = 372 ∧ 832 ≤ y
      · rw [q.1, rd_a (by decide), b3 y q.2, rd_a (by decide), rd_a (by decide), a2 _ _ (by omega) (by omega)]
      · have y1 := Bool.eq_false_iff.mp z1
        have y2 := Bool.eq_false_iff.mp z2
        have y3 : ¬ (x = 367 ∧ y = 0) := by rintro ⟨rfl, rfl⟩; cases z3
        simp only [suK, suP, Ne, Bool.or_eq_true, Bool.and_eq_true, beq_iff_eq, Nat.ble_eq] at y1 y2
        exact cl x y (by omega) (by omega) z4 y3 (by omega) (by omega) (by omega) (by omega) z5
    · rw [rd_s, rd_a (by decide), b2 _ _ (by omega) (by omega) (by omega) (by omega), rd_a (by decide), rd_s]
    · rw [gJ_sI, b6, gJ_sI, gJ_sI, a5]
  · have hM : MomM (sI (nC (rfF (fun i => gI g 369 (4 + i)) k a b) (if rfF (fun i => gI g 369 (4 + i)) k a b = -1 then 1 else 3) g) 367 0 0) (fun i => gI g 369 (4 + i)) := fun i hi => by simp [nC, gI_sI]
    have rc := (rf_cases (fun i => gI g 369 (4 + i)) k a b).resolve_left h0
    have e1 := att_no hm k (by omega) a b h0
    have e2 := act_no hM w k hk a b h0
    rcases rc with e | e
    · rw [e] at e1 e2
      rw [if_pos rfl] at e2
      refine Sp.q (r := -1) (g1 := nC (-1) 1 g) (g2 := nM (-1) 1 (sI (nC (-1) 1 g) 367 0 0)) ?_ ?_ (h.no (-1) (by omega) (Un.rf.sI rfl _))
      · rw [e1, bnd_s, st_1, bnd_s]
      · rw [wr_e, e2, bnd_s, te_1, bnd_s]
    · rw [e] at e1 e2
      rw [if_neg (by decide)] at e2
      refine Sp.q (r := -3) (g1 := nC (-3) 3 g) (g2 := nM (-3) 3 (sI (nC (-3) 3 g) 367 0 0)) ?_ ?_ (h.no (-3) (by omega) (Un.rf.sI rfl _))
      · rw [e1, bnd_s, st_3, bnd_s]
      · rw [wr_e, e2, bnd_s, te_3, bnd_s]
theorem sp_spill {g : hG} (h : Inv g) (a b : Int32) : Sp (q_MP_spill a b) (q_Mo_spill a b) g := sp_act h 0 (by omega) a b
theorem sp_raise {g : hG} (h : Inv g) (a b : Int32) : Sp (q_MP_raise a b) (q_Mo_raise a b) g := sp_act h 1 (by omega) a b
theorem sp_split {g : hG} (h : Inv g) (a b : Int32) : Sp (q_MP_split a b) (q_Mo_split a b) g := sp_act h 2 (by omega) a b
