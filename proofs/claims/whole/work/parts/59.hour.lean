/-! an hour -/
/-- what an hour does to one letter; how many are read -/
def plF (D : Int32) (N : Nat → Int32) (l : Nat) (p : Int32 × (Nat → Int32)) : Int32 × (Nat → Int32) :=
  if p.2 (28 + l) = 1 then (if bt D (p.2 (36 + l)) then (p.1 + 1, upR (upR p.2 (28 + l) 2) (44 + l) (p.2 0)) else (p.1, upR p.2 (36 + l) (N (p.2 (36 + l)).toNatClampNeg))) else p
def psF (D : Int32) (N : Nat → Int32) (r : Nat → Int32) : Int32 × (Nat → Int32) :=
  ((it (plF D N) 0 8 (0, r)).1, upR (it (plF D N) 0 8 (0, r)).2 0 ((it (plF D N) 0 8 (0, r)).2 0 + 1))
theorem psF_1 (D : Int32) (N : Nat → Int32) (r : Nat → Int32) : (psF D N r).1 = (it (plF D N) 0 8 (0, r)).1 := by simp only [psF]
theorem psF_2 (D : Int32) (N : Nat → Int32) (r : Nat → Int32) : (psF D N r).2 = upR (it (plF D N) 0 8 (0, r)).2 0 ((it (plF D N) 0 8 (0, r)).2 0 + 1) := by simp only [psF]
/-- rows behind l letters: the letters from l on are as they were, the hour too -/
def Mid (D : Int32) (r r' : Nat → Int32) (l : Nat) : Prop := r' 0 = r 0 ∧ (∀ j, l ≤ j → j < 8 → r' (28 + j) = r (28 + j) ∧ r' (36 + j) = r (36 + j))
theorem Mid.step {D : Int32} {N : Nat → Int32} {r : Nat → Int32} {l : Nat} {p : Int32 × (Nat → Int32)} (h : Mid D r p.2 l) (hl : l < 8) : Mid D r (plF D N l p).2 (l + 1) := by
  obtain ⟨h1, h2⟩ := h
  unfold plF
  by_cases q : p.2 (28 + l) = 1
  · rw [if_pos q]
    by_cases d : bt D (p.2 (36 + l))
    · rw [if_pos d]
      refine ⟨?_, fun j hj hj8 => ⟨?_, ?_⟩⟩
      · dsimp only; rw [upR_n _ _ (by omega), upR_n _ _ (by omega), h1]
      · dsimp only; rw [upR_n _ _ (by omega), upR_n _ _ (by omega), (h2 j (by omega) hj8).1]
      · dsimp only; rw [upR_n _ _ (by omega), upR_n _ _ (by omega), (h2 j (by omega) hj8).2]
    · rw [if_neg d]
      refine ⟨?_, fun j hj hj8 => ⟨?_, ?_⟩⟩
      · dsimp only; rw [upR_n _ _ (by omega), h1]
      · dsimp only; rw [upR_n _ _ (by omega), (h2 j (by omega) hj8).1]
      · dsimp only; rw [upR_n _ _ (by omega), (h2 j (by omega) hj8).2]
  · rw [if_neg q]
    exact ⟨h1, fun j hj hj8 => h2 j (by omega) hj8⟩
theorem Faced.ex {g g' : hG} {b : Nat} {r hi : Nat → Int32} (h : Faced g b r hi) (hP : gP g' 250 5 = gP g 250 5) (q : ∀ j k, j ≤ 4 → gI g' (b + j) k = gI g (b + j) k) (q1 : gI g' 1 2 = gI g 1 2) (q2 : gI g' 1 3 = gI g 1 3) (q3 : gI g' 250 7 = gI g 250 7) : Faced g' b r hi := by
  obtain ⟨h1, h2, h3, h4, h5, h6⟩ := h
  refine ⟨h1, hP.trans h2, h3.ex q (fun _ _ _ _ => rfl), q1.trans h4, q2.trans h5, fun c hc => ?_⟩
  rw [q3]; exact h6 c hc
def s53 (a k : Nat) : Bool := sS a k || a == 253
theorem sS_53 {g g' : hG} (u : Un sS g g') : Un s53 g g' := u.mo (fun a k z => Bool.eq_false_iff.mpr (fun y => by
  have z' := Bool.eq_false_iff.mp z
  apply z'
  unfold s53
  rw [y]; rfl))
theorem mom_53 {b : Nat} (h : is_mom b = true) (j : Nat) (hj : j ≤ 4) : ¬ b + j = 253 := by
  have : ∀ a ∈ momL, ∀ j, j ≤ 4 → a + j ≠ 253 := by decide +kernel
  exact this b (mom_in h) j hj
theorem hour1 {a : Nat} {r : Nat → Int32} {Lo : Option Lw} (hb : is_mom a = true) (w : WFm r) (K : hG → hO Int32) (D : Int32) : ∀ (m l F : Nat) (g : hG), l + m = 8 → m < F → Faced g a r (hiR r) → LE g (gI g 250 6) Lo → SlOK g Lo r (hiR r) → gI g 1 1 = D → (∀ j, j < l → r (28 + j) = 1 → gI g 253 j = nextF D (SV Lo r (hiR r)) (HV Lo r (hiR r)) (r (36 + j)).toNatClampNeg) →
    ∃ g', q_Slope_passHour_8L a K F (nI l) g = K g' ∧ Un s53 g g' ∧ Faced g' a r (hiR r) ∧ ∀ j, j < 8 → r (28 + j) = 1 → gI g' 253 j = nextF D (SV Lo r (hiR r)) (HV Lo r (hiR r)) (r (36 + j)).toNatClampNeg := by
  intro m
  induction m with
  | zero =>
    intro l F g h1 h2 h3 h4 h5 h6 h7
    obtain ⟨F, rfl⟩ : ∃ q, F = q + 1 := ⟨F - 1, by omega⟩
    obtain rfl : l = 8 := by omega
    rw [q_Slope_passHour_8L_s]
    unfold q_Slope_passHour_8
    rw [if_pos (by decide)]
    exact ⟨g, rfl, Un.rf, h3, h7⟩
  | succ m ih =>
    intro l F g h1 h2 h3 h4 h5 h6 h7
    obtain ⟨F, rfl⟩ : ∃ q, F = q + 1 := ⟨F - 1, by omega⟩
    have hm := h3.2.2.1
    rw [q_Slope_passHour_8L_s]
    unfold q_Slope_passHour_8
    rw [if_neg (show ¬ (8 : Int32) ≤ nI l from nI_ge (a := l) (b := 8) (by omega) (by decide)), gd_nI (by omega) (by omega), gd_nI (by omega) (by omega), nI_clamp (by omega), hm.2.2.1 l (by omega), hm.2.2.2.1 l (by omega), nI_1]
    by_cases q : r (28 + l) = 1
    · rw [if_pos q]
      rcases w.2.2 l (by omega) with z | ⟨-, c, hc, e⟩
      · rw [z.1] at q; exact absurd q (by decide)
      · obtain ⟨g1, n1, n2, n3⟩ := next_c h3 h4 h5 hc
        rw [e, n1, bnd_s, gd_nI (by omega) (by omega), wr_e, h6]
        have f1 := (h3.un n2).ex (g' := sI g1 253 l (nextF D (SV Lo r (hiR r)) (HV Lo r (hiR r)) c)) rfl (fun j k hj => rd_a (mom_53 hb j hj)) (rd_a (by decide)) (rd_a (by decide)) (rd_a (by decide))
        have l1 : LE (sI g1 253 l (nextF D (SV Lo r (hiR r)) (HV Lo r (hiR r)) c)) (gI (sI g1 253 l (nextF D (SV Lo r (hiR r)) (HV Lo r (hiR r)) c)) 250 6) Lo := by
          rw [rd_a (by decide), n2.I rfl]
          exact (h4.un n2).ex (fun x k hx => rd_a (by omega))
        obtain ⟨g', e1, e2, e3, e4⟩ := ih (l + 1) F (sI g1 253 l (nextF D (SV Lo r (hiR r)) (HV Lo r (hiR r)) c)) (by omega) (by omega) f1 l1 (fun d hd z => by rw [rd_a (by decide)] at z ⊢; rw [rd_a (by decide)]; exact n3 d hd z) (by rw [rd_a (by decide), n2.I rfl]; exact h6) (fun j hj z => by
          by_cases y : j = l
          · subst y; rw [rd_s, e, nI_clamp (by omega)]
          · rw [rd_k y, n2.I rfl]
            exact h7 j (by omega) z)
        exact ⟨g', e1, ((sS_53 n2).sI rfl _).tr e2, e3, e4⟩
    · rw [if_neg q]
      exact ih (l + 1) F g (by omega) (by omega) h3 h4 h5 h6 (fun j hj z => by
        by_cases y : j = l
        · subst y; exact absurd z q
        · exact h7 j (by omega) z)
/-- the letters move; the class -/
theorem hour2 {a : Nat} {r : Nat → Int32} (hb : is_mom a = true) (w : WFm r) (D : Int32) (N : Nat → Int32) (K : Int32 → hG → hO Int32) : ∀ (m l F : Nat) (g : hG) (p : Int32 × (Nat → Int32)), l + m = 8 → m < F → MomR g a p.2 → Mid D r p.2 l → gI g 1 1 = D → (∀ j, j < 8 → r (28 + j) = 1 → gI g 253 j = N (r (36 + j)).toNatClampNeg) →
    ∃ g', q_Slope_passHour_33L a K F p.1 (nI l) g = K (it (plF D N) l m p).1 g' ∧ MomR g' a (it (plF D N) l m p).2 ∧ (∀ x k, ¬ (a ≤ x ∧ x ≤ a + 4) → gI g' x k = gI g x k) ∧ gJ g' = gJ g ∧ gP g' = gP g := by
  intro m
  induction m with
  | zero =>
    intro l F g p h1 h2 h3 h4 h5 h6
    obtain ⟨F, rfl⟩ : ∃ q, F = q + 1 := ⟨F - 1, by omega⟩
    obtain rfl : l = 8 := by omega
    rw [q_Slope_passHour_33L_s]
    unfold q_Slope_passHour_33
    rw [if_pos (by decide)]
    exact ⟨g, rfl, h3, fun _ _ _ => rfl, rfl, rfl⟩
  | succ m ih =>
    intro l F g p h1 h2 h3 h4 h5 h6
    obtain ⟨F, rfl⟩ : ∃ q, F = q + 1 := ⟨F - 1, by omega⟩
    have hl : l < 8 := by omega
    have am : a ∈ momL := mom_in hb
    have a1 : ∀ j, j ≤ 4 → ¬ a + j = 253 := fun j hj => mom_53 hb j hj
    have a2 : ∀ j, j ≤ 4 → ¬ a + j = 1 := fun j hj => by
      have : ∀ a ∈ momL, ∀ j, j ≤ 4 → a + j ≠ 1 := by decide +kernel
      exact this a am j hj
    obtain ⟨s1, s2⟩ := h4.2 l (by omega) hl
    have M := h4.step (N := N) (p := p) hl
    rw [q_Slope_passHour_33L_s]
    unfold q_Slope_passHour_33
    rw [if_neg (show ¬ (8 : Int32) ≤ nI l from nI_ge hl (by decide)), gd_nI hl (by omega), gd_nI hl (by omega), nI_clamp (by omega), h3.2.2.1 l hl, h3.2.2.2.1 l hl, nI_1, it]
    by_cases q : p.2 (28 + l) = 1
    · rw [if_pos q, hasDoor_c, bnd_s, h5]
      by_cases d : bt D (p.2 (36 + l))
      · have ep : plF D N l p = (p.1 + 1, upR (upR p.2 (28 + l) 2) (44 + l) (p.2 0)) := by unfold plF; rw [if_pos q, if_pos d]
        rw [bI_t d, if_neg (by decide), gd_nI hl (by omega), wr_e, gd_nI hl (by omega), wr_e, show gI (sI g (a + 1) l 2) a 4 = p.2 0 from (rd_a (by omega)).trans h3.1, ep]
        have m1 := (h3.sp 1 l 2 (Or.inl ⟨rfl, hl⟩)).sp 3 l (p.2 0) (Or.inr (Or.inr (Or.inl ⟨rfl, hl⟩)))
        simp only [show ¬ (3 : Nat) = 1 by decide, show ¬ (3 : Nat) = 2 by decide, if_true, if_false] at m1
        rw [ep] at M
        obtain ⟨g', e1, e2, e3, e4, e5⟩ := ih (l + 1) F _ (p.1 + 1, upR (upR p.2 (28 + l) 2) (44 + l) (p.2 0)) (by omega) (by omega) m1 M (by rw [rd_a (fun e => a2 3 (by omega) e.symm), rd_a (fun e => a2 1 (by omega) e.symm)]; exact h5) (fun j hj z => by rw [rd_a (fun e => a1 3 (by omega) e.symm), rd_a (fun e => a1 1 (by omega) e.symm)]; exact h6 j hj z)
        exact ⟨g', e1, e2, fun x k hx => (e3 x k hx).trans (by rw [rd_a (by omega), rd_a (by omega)]), e4, e5⟩
      · have ep : plF D N l p = (p.1, upR p.2 (36 + l) (N (p.2 (36 + l)).toNatClampNeg)) := by unfold plF; rw [if_pos q, if_neg d]
        rw [bI_f d, if_pos rfl, gd_nI hl (by omega), gd_nI hl (by omega), wr_e, h6 l hl (by rw [← s1]; exact q), ← s2, ep]
        have m1 := h3.sp 2 l (N (p.2 (36 + l)).toNatClampNeg) (Or.inr (Or.inl ⟨rfl, hl⟩))
        simp only [show ¬ (2 : Nat) = 1 by decide, if_true, if_false] at m1
        rw [ep] at M
        obtain ⟨g', e1, e2, e3, e4, e5⟩ := ih (l + 1) F _ (p.1, upR p.2 (36 + l) (N (p.2 (36 + l)).toNatClampNeg)) (by omega) (by omega) m1 M (by rw [rd_a (fun e => a2 2 (by omega) e.symm)]; exact h5) (fun j hj z => by rw [rd_a (fun e => a1 2 (by omega) e.symm)]; exact h6 j hj z)
        exact ⟨g', e1, e2, fun x k hx => (e3 x k hx).trans (by rw [rd_a (by omega)]), e4, e5⟩
    · have ep : plF D N l p = p := by unfold plF; rw [if_neg q]
      rw [if_neg q, ep]
      rw [ep] at M
      exact ih (l + 1) F g p (by omega) (by omega) h3 M h5 h6
/-- the letters move; the model -/
theorem hour_m2 {r : Nat → Int32} (w : WFm r) (D : Int32) (N : Nat → Int32) (hN : ∀ c, c < 25 → bt D (nI c) → N c = nI c) (K : Int32 → hG → hO Int32) : ∀ (m l F : Nat) (g : hG) (p : Int32 × (Nat → Int32)), l + m = 8 → m < F → MomM g p.2 → Mid D r p.2 l → gI g 369 3 = D → (∀ c, c < 25 → gI g 389 c = N c) →
    ∃ g', q_Mo_passIt_6L K F p.1 (nI l) g = K (it (plF D N) l m p).1 g' ∧ MomM g' (it (plF D N) l m p).2 ∧ (∀ x k, ¬ (x = 369 ∧ 32 ≤ k ∧ k < 56) → gI g' x k = gI g x k) ∧ gJ g' = gJ g ∧ gP g' = gP g := by
  intro m
  induction m with
  | zero =>
    intro l F g p h1 h2 h3 h4 h5 h6
    obtain ⟨F, rfl⟩ : ∃ q, F = q + 1 := ⟨F - 1, by omega⟩
    obtain rfl : l = 8 := by omega
    rw [q_Mo_passIt_6L_s]
    unfold q_Mo_passIt_6
    rw [if_pos (by decide)]
    exact ⟨g, rfl, h3, fun _ _ _ => rfl, rfl, rfl⟩
  | succ m ih =>
    intro l F g p h1 h2 h3 h4 h5 h6
    obtain ⟨F, rfl⟩ : ∃ q, F = q + 1 := ⟨F - 1, by omega⟩
    have hl : l < 8 := by omega
    obtain ⟨s1, s2⟩ := h4.2 l (by omega) hl
    have M := h4.step (N := N) (p := p) hl
    rw [q_Mo_passIt_6L_s]
    unfold q_Mo_passIt_6 q_Mo_passIt_46
    rw [if_neg (show ¬ (8 : Int32) ≤ nI l from nI_ge hl (by decide)), show (32 : Int32) + nI l = nI (32 + l) from nI_add 32 l, show (40 : Int32) + nI l = nI (40 + l) from nI_add 40 l, show (48 : Int32) + nI l = nI (48 + l) from nI_add 48 l, gd_nI (by omega) (by omega), nI_clamp (by omega), nI_clamp (by omega), nI_clamp (by omega), h3.st hl, h3.at hl, nI_1, it]
    by_cases q : p.2 (28 + l) = 1
    · rw [if_pos q, gd_nI (by omega) (by omega), hasDoor_m, bnd_s, h5]
      rcases w.2.2 l hl with z | ⟨-, c, hc, e⟩
      · rw [s1, z.1] at q; exact absurd q (by decide)
      · have e' : p.2 (36 + l) = nI c := s2.trans e
        rw [e']
        by_cases d : bt D (nI c)
        · have ep : plF D N l p = (p.1 + 1, upR (upR p.2 (28 + l) 2) (44 + l) (p.2 0)) := by unfold plF; rw [if_pos q, e', if_pos d]
          have m1 := ((h3.sp (28 + l) 2).sp (44 + l) (p.2 0)).sp (36 + l) (N c)
          rw [show 4 + (28 + l) = 32 + l by omega, show 4 + (44 + l) = 48 + l by omega, show 4 + (36 + l) = 40 + l by omega] at m1
          have eu : upR (upR (upR p.2 (28 + l) 2) (44 + l) (p.2 0)) (36 + l) (N c) = upR (upR p.2 (28 + l) 2) (44 + l) (p.2 0) := by
            funext i
            by_cases y : i = 36 + l
            · subst y; rw [upR_s, upR_n _ _ (by omega), upR_n _ _ (by omega), e', hN c hc d]
            · rw [upR_n _ _ y]
          rw [eu] at m1
          rw [ep] at M
          rw [bI_t d, if_neg (by decide), gd_nI (by omega) (by omega), wr_e, gd_L _ _ (by decide) (by decide), gd_nI (by omega) (by omega), wr_e, cl_L _ (by decide), gd_nI hc (by omega), gd_nI (by omega) (by omega), wr_e, nI_clamp (by omega), show gI (sI g 369 (32 + l) 2) 369 4 = p.2 0 from (rd_k (show ¬ 4 = 32 + l by omega)).trans (h3 0 (by omega)), rd_a (show ¬ 389 = 369 by decide), rd_a (show ¬ 389 = 369 by decide), h6 c hc, ep]
          obtain ⟨g', e1, e2, e3, e4, e5⟩ := ih (l + 1) F _ (p.1 + 1, upR (upR p.2 (28 + l) 2) (44 + l) (p.2 0)) (by omega) (by omega) m1 M (by rw [rd_k (by omega), rd_k (by omega), rd_k (by omega)]; exact h5) (fun c' hc' => by rw [rd_a (by decide), rd_a (by decide), rd_a (by decide)]; exact h6 c' hc')
          exact ⟨g', e1, e2, fun x k hx => (e3 x k hx).trans (by rw [gI_sI, if_neg (by omega), gI_sI, if_neg (by omega), gI_sI, if_neg (by omega)]), e4, e5⟩
        · have ep : plF D N l p = (p.1, upR p.2 (36 + l) (N c)) := by unfold plF; rw [if_pos q, e', if_neg d, nI_clamp (by omega)]
          have m1 := h3.sp (36 + l) (N c)
          rw [show 4 + (36 + l) = 40 + l by omega] at m1
          rw [ep] at M
          rw [bI_f d, if_pos rfl, gd_nI hc (by omega), gd_nI (by omega) (by omega), wr_e, nI_clamp (by omega), h6 c hc, ep]
          obtain ⟨g', e1, e2, e3, e4, e5⟩ := ih (l + 1) F _ (p.1, upR p.2 (36 + l) (N c)) (by omega) (by omega) m1 M (by rw [rd_k (by omega)]; exact h5) (fun c' hc' => by rw [rd_a (by decide)]; exact h6 c' hc')
          exact ⟨g', e1, e2, fun x k hx => (e3 x k hx).trans (by rw [gI_sI, if_neg (by omega)]), e4, e5⟩
    · have ep : plF D N l p = p := by unfold plF; rw [if_neg q]
      rw [if_neg q, ep]
      rw [ep] at M
      exact ih (l + 1) F g p (by omega) (by omega) h3 M h5 h6
