/-! the model lays out all runs -/
theorem hasDoor_m (c : Int32) (g : hG) : q_Mo_hasDoor c g = some (bI (bt (gI g 369 3) c), g) := by
  unfold q_Mo_hasDoor
  rw [gd_L _ _ (by decide) (by decide), cl_L _ (by decide), is_m, bnd_s, gb_bI]
theorem lay_in (S : Nat → Int32) {c : Nat} (hc : c < 25) (K : Int32 → hG → hO Unit) (g : hG) (hs : ∀ d, d < 25 → gI g 388 d = S d) : ∀ (m w F to : Nat), w + m = 4 → m < F → to < 25 → q_Mo_layRuns_23L (nI c) K F (nI to) (nI w) g = K (it (fun w to => if bsF (nI c) (nI w) = -1 then to else if S to.toNatClampNeg ≤ S (bsF (nI c) (nI w)).toNatClampNeg then to else bsF (nI c) (nI w)) w m (nI to)) g := by
  intro m
  induction m with
  | zero =>
    intro w F to h1 h2 h3
    obtain ⟨F, rfl⟩ : ∃ q, F = q + 1 := ⟨F - 1, by omega⟩
    obtain rfl : w = 4 := by omega
    rw [q_Mo_layRuns_23L_s]
    unfold q_Mo_layRuns_23
    rw [if_pos (by decide)]
    rfl
  | succ m ih =>
    intro w F to h1 h2 h3
    obtain ⟨F, rfl⟩ : ∃ q, F = q + 1 := ⟨F - 1, by omega⟩
    rw [q_Mo_layRuns_23L_s]
    unfold q_Mo_layRuns_23
    rw [if_neg (show ¬ (4 : Int32) ≤ nI w from nI_ge (a := w) (b := 4) (by omega) (by decide)), bs_m c w hc (by omega), bnd_s, nI_1]
    rw [it]
    rcases bs_in c hc w (by omega) with e | ⟨d, hd, e⟩
    · rw [if_pos e, if_pos e]
      exact ih (w + 1) F to (by omega) (by omega) h3
    · have ne : ¬ bsF (nI c) (nI w) = -1 := by rw [e]; exact fun q => by have := nI_pos' (show d < 2 ^ 31 by omega); rw [q] at this; exact absurd this (by decide)
      rw [if_neg ne, if_neg ne, e, gd_nI hd (by omega), gd_nI h3 (by omega), nI_clamp (by omega), nI_clamp (by omega), hs to h3, hs d hd]
      by_cases q : S to ≤ S d
      · rw [if_pos q, if_pos q]
        exact ih (w + 1) F to (by omega) (by omega) h3
      · rw [if_neg q, if_neg q]
        exact ih (w + 1) F d (by omega) (by omega) hd
theorem lay_in0 (S : Nat → Int32) {c : Nat} (hc : c < 25) (K : Int32 → hG → hO Unit) (g : hG) (hs : ∀ d, d < 25 → gI g 388 d = S d) : q_Mo_layRuns_23L (nI c) K FU (nI c) 0 g = K (rnF S c) g := lay_in S hc K g hs 4 0 FU c (by omega) (by decide) hc
theorem lay1 {r : Nat → Int32} {Lo : Option Lw} (w : WFm r) (K : hG → hO Unit) : ∀ (m i F : Nat) (g : hG), i + m = 25 → m < F → MomM g r → LEM g Lo → (∀ d, d < i → gI g 388 d = SV Lo r (hiR r) d) → ∃ g', q_Mo_layRuns_2L K F (nI i) g = K g' ∧ Un sV g g' ∧ ∀ d, d < 25 → gI g' 388 d = SV Lo r (hiR r) d := by
  intro m
  induction m with
  | zero =>
    intro i F g h1 h2 h3 h4 h5
    obtain ⟨F, rfl⟩ : ∃ q, F = q + 1 := ⟨F - 1, by omega⟩
    obtain rfl : i = 25 := by omega
    rw [q_Mo_layRuns_2L_s]
    unfold q_Mo_layRuns_2
    rw [if_pos (by decide)]
    exact ⟨g, rfl, Un.rf, h5⟩
  | succ m ih =>
    intro i F g h1 h2 h3 h4 h5
    obtain ⟨F, rfl⟩ : ∃ q, F = q + 1 := ⟨F - 1, by omega⟩
    obtain ⟨g1, a1, a2⟩ := standsAt_m w h3 h4 (c := i) (by omega)
    have u1 : Un sV g (sI g1 388 i (SV Lo r (hiR r) i)) := (sT_sV a2).sI (by simp [sV]) _
    rw [q_Mo_layRuns_2L_s]
    unfold q_Mo_layRuns_2
    rw [if_neg (show ¬ (25 : Int32) ≤ nI i from nI_ge (a := i) (b := 25) (by omega) (by decide)), a1, bnd_s, gd_nI (by omega) (by omega), wr_e, nI_clamp (by omega), nI_1]
    obtain ⟨g', e1, e2, e3⟩ := ih (i + 1) F (sI g1 388 i (SV Lo r (hiR r) i)) (by omega) (by omega) (h3.un u1) (h4.un u1) (fun d hd => by
      by_cases z : d = i
      · subst z; rw [rd_s]
      · rw [rd_k z, a2.I (by rfl)]; exact h5 d (by omega))
    exact ⟨g', e1, u1.tr e2, e3⟩
theorem lay2 {r : Nat → Int32} {Lo : Option Lw} (w : WFm r) : ∀ (m i F : Nat) (g : hG), i + m = 25 → m < F → MomM g r → LEM g Lo → (∀ d, d < 25 → gI g 388 d = SV Lo r (hiR r) d) → (∀ d, d < i → gI g 389 d = nextF (gI g 369 3) (SV Lo r (hiR r)) (HV Lo r (hiR r)) d) → ∃ g', q_Mo_layRuns_16L (fun g37 => some ((), g37)) F (nI i) g = some ((), g') ∧ Un sV g g' ∧ ∀ d, d < 25 → gI g' 389 d = nextF (gI g 369 3) (SV Lo r (hiR r)) (HV Lo r (hiR r)) d := by
  intro m
  induction m with
  | zero =>
    intro i F g h1 h2 h3 h4 h5 h6
    obtain ⟨F, rfl⟩ : ∃ q, F = q + 1 := ⟨F - 1, by omega⟩
    obtain rfl : i = 25 := by omega
    rw [q_Mo_layRuns_16L_s]
    unfold q_Mo_layRuns_16
    rw [if_pos (by decide)]
    exact ⟨g, rfl, Un.rf, h6⟩
  | succ m ih =>
    intro i F g h1 h2 h3 h4 h5 h6
    obtain ⟨F, rfl⟩ : ∃ q, F = q + 1 := ⟨F - 1, by omega⟩
    rw [q_Mo_layRuns_16L_s]
    unfold q_Mo_layRuns_16
    rw [if_neg (show ¬ (25 : Int32) ≤ nI i from nI_ge (a := i) (b := 25) (by omega) (by decide)), lay_in0 (SV Lo r (hiR r)) (c := i) (by omega) _ g h5]
    rw [hasDoor_m, bnd_s]
    have step : ∀ (g1 : hG) (v : Int32), Un sT g g1 → v = nextF (gI g 369 3) (SV Lo r (hiR r)) (HV Lo r (hiR r)) i → ∃ g', q_Mo_layRuns_62 (nI i) (q_Mo_layRuns_16L (fun g37 => some ((), g37)) F) (nI i) v g1 = some ((), g') ∧ Un sV g g' ∧ ∀ d, d < 25 → gI g' 389 d = nextF (gI g 369 3) (SV Lo r (hiR r)) (HV Lo r (hiR r)) d := by
      intro g1 v u hv
      have u1 : Un sV g (sI g1 389 i v) := (sT_sV u).sI (by simp [sV]) _
      unfold q_Mo_layRuns_62
      rw [gd_nI (by omega) (by omega), wr_e, nI_clamp (by omega), nI_1]
      obtain ⟨g', e1, e2, e3⟩ := ih (i + 1) F (sI g1 389 i v) (by omega) (by omega) (h3.un u1) (h4.un u1) (fun d hd => by rw [rd_a (by decide), u.I (by rfl)]; exact h5 d hd) (fun d hd => by
        rw [rd_a (show ¬ 369 = 389 by decide), u.I (a := 369) (by rfl)]
        by_cases z : d = i
        · subst z; rw [rd_s, hv]
        · rw [rd_k z, u.I (by rfl)]; exact h6 d (by omega))
      rw [rd_a (show ¬ 369 = 389 by decide), u.I (a := 369) (by rfl)] at e3
      exact ⟨g', e1, u1.tr e2, e3⟩
    by_cases hd : bt (gI g 369 3) (nI i)
    · rw [bI_t hd, if_neg (by decide)]
      exact step g (nI i) Un.rf (by unfold nextF; rw [if_pos hd])
    · rw [bI_f hd, if_pos rfl]
      obtain ⟨g1, a1, a2⟩ := isHeld_m w h3 h4 (c := i) (by omega)
      rw [a1, bnd_s]
      by_cases hx : HV Lo r (hiR r) i = true
      · rw [bI_t hx, if_neg (by decide)]
        exact step g1 (nI i) a2 (by unfold nextF; rw [if_neg hd, if_pos hx])
      · rw [bI_f hx, if_pos rfl]
        exact step g1 _ a2 (by unfold nextF; rw [if_neg hd, if_neg hx])
theorem lay_m {g : hG} {r : Nat → Int32} {Lo : Option Lw} (w : WFm r) (hm : MomM g r) (hl : LEM g Lo) : ∃ g', q_Mo_layRuns g = some ((), g') ∧ Un sV g g' ∧ ∀ d, d < 25 → gI g' 389 d = nextF (gI g 369 3) (SV Lo r (hiR r)) (HV Lo r (hiR r)) d := by
  unfold q_Mo_layRuns
  obtain ⟨g1, a1, a2, a3⟩ := lay1 w (fun g8 => q_Mo_layRuns_16L (fun g37 => some ((), g37)) FU (0 : Int32) g8) 25 0 FU g (by omega) (by decide) hm hl (fun d hd => by omega)
  obtain ⟨g', e1, e2, e3⟩ := lay2 w 25 0 FU g1 (by omega) (by decide) (hm.un a2) (hl.un a2) a3 (fun d hd => by omega)
  rw [a2.I (a := 369) (by rfl)] at e3
  exact ⟨g', a1.trans e1, a2.tr e2, e3⟩
/-- both laws out of the kept ones -/
theorem law_both {g : hG} (h : Inv g) (l : Int32) (hl : ∀ n, n ≤ 6 → gI g 369 1 = nI n → (l = -1 ∨ ∃ k, k < n ∧ l = nI k)) : ∃ Lo, LE g l Lo ∧ ((Lo = none ∧ l = -1) ∨ ∃ k L, l = nI k ∧ k < 6 ∧ Lo = some L ∧ LwM L (fun i => gI g 369 (68 + 900 * k + i))) := by
  obtain ⟨n, hn, l1, l2⟩ := laws_n h
  rcases hl n hn l2 with rfl | ⟨k, hk, rfl⟩
  · exact ⟨none, Or.inl ⟨rfl, Or.inl (by decide)⟩, Or.inl ⟨rfl, rfl⟩⟩
  · obtain ⟨L, c1, c2⟩ := law_lw (h.1.1.2.2.2 k n l2 hn hk)
    exact ⟨some L, Or.inr ⟨k, n, L, rfl, hk, hn, l1, rfl, c1⟩, Or.inr ⟨k, L, rfl, by omega, rfl, c2⟩⟩
theorem force_ok {g : hG} (h : Inv g) : ∀ n, n ≤ 6 → gI g 369 1 = nI n → (gI g 369 2 = -1 ∨ ∃ k, k < n ∧ gI g 369 2 = nI k) := by
  intro n hn e
  obtain ⟨-, -, -, -, -, -, m, w9, w10, w11⟩ := h.1.2
  obtain rfl : m = n := by rw [w10, nI_eq (by omega) (by omega)] at e; exact e
  exact w11
