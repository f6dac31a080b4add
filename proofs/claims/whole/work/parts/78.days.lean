/-! days -/
def sDm (x k : Nat) : Bool := sHM x k || (x == 367 && k == 55)
theorem sHM_sDm {g g' : hG} (u : Un sHM g g') : Un sDm g g' := u.mo (fun x k z => by unfold sDm at z; rw [Bool.or_eq_false_iff] at z; exact z.1)
theorem sDm_369 {k : Nat} (h : k < 4 ∨ 56 ≤ k ∨ k = 5 ∨ k = 6) : sDm 369 k = false := by
  unfold sDm
  rw [sHM_369 h]
  rfl
theorem sH230 {x k : Nat} (h : x ≤ 224) : sH 230 x k = false := Bool.eq_false_iff.mpr (fun q => by
  simp only [sH, sW, Bool.or_eq_true, Bool.and_eq_true, beq_iff_eq, Nat.ble_eq] at q; omega)
theorem LE.ex1 {g g' : hG} {l : Int32} {Lo : Option Lw} (h : LE g l Lo) (q : ∀ a k, 1 ≤ a → a ≤ 51 → gI g' a k = gI g a k) : LE g' l Lo := by
  rcases h with ⟨h1, h2⟩ | ⟨k, n, L, h1, h2, h3, h4, h5, h6⟩
  · exact Or.inl ⟨h1, by rw [q _ _ (by omega) (by omega)]; exact h2⟩
  · exact Or.inr ⟨k, n, L, h1, h2, h3, (q _ _ (by omega) (by omega)).trans h4, h5, h6.ex (fun j k' hj => q _ _ (by omega) (by omega))⟩
theorem hm_n (st : Nat → Int32) (s : Int32) : ∃ k, k ≤ 8 ∧ hmF st s = nI k := by
  refine it_inv (fun i acc => if st i = s then acc + 1 else acc) (fun i acc => ∃ k, k ≤ i ∧ acc = nI k) 8 (fun i b hi hp => ?_) 8 0 0 rfl ⟨0, by omega, rfl⟩
  obtain ⟨k, hk, e⟩ := hp
  by_cases z : st i = s
  · rw [if_pos z, e, nI_1]; exact ⟨k + 1, by omega, rfl⟩
  · rw [if_neg z]; exact ⟨k, by omega, e⟩
theorem days_l {Lo : Option Lw} {D : Int32} {n : Nat} (hn : n ≤ 60) (K K' : hG → hO Int32) : ∀ (m i F F' h s : Nat) (g : hG) (r : Nat → Int32), i + m = n → m < F → m < F' → h ≤ 999 → s < 1000003 → r 0 = nI h → MomR g 230 r → WFm r → gI g 1 2 = r 1 → gI g 1 3 = r 2 → LE g (gI g 1 9) Lo → gI g 1 1 = D → ∃ (g' : hG) (r' : Nat → Int32), q_MP_days_28L (nI n) K F (nI s) (nI i) g = K g' ∧ MomR g' 230 r' ∧ WFm r' ∧ Un (sH 230) g g' ∧ ∀ f, MomM f r → LEM f Lo → gI f 369 3 = D → gJ f 367 55 = nL s → ∃ f', q_Mo_days_28L (nI n) K' F' (nI i) f = K' f' ∧ MomM f' r' ∧ Un sDm f f' ∧ ∀ y, gJ f' 369 y = gJ f 369 y ∧ gP f' 369 y = gP f 369 y := by
  intro m
  induction m with
  | zero =>
    intro i F F' h s g r h1 h2 h3 h4 hs h0 mr w c1 c2 hl hd
    obtain ⟨F, rfl⟩ : ∃ q, F = q + 1 := ⟨F - 1, by omega⟩
    obtain ⟨F', rfl⟩ : ∃ q, F' = q + 1 := ⟨F' - 1, by omega⟩
    obtain rfl : i = n := by omega
    have y : nI i ≤ nI i := nI_le (Nat.le_refl _) (by omega)
    rw [q_MP_days_28L_s]
    unfold q_MP_days_28
    rw [if_pos y]
    refine ⟨g, r, rfl, mr, w, Un.rf, fun f mm _ _ _ => ?_⟩
    rw [q_Mo_days_28L_s]
    unfold q_Mo_days_28
    rw [if_pos y]
    exact ⟨f, rfl, mm, Un.rf, fun _ => ⟨rfl, rfl⟩⟩
  | succ m ih =>
    intro i F F' h s g r h1 h2 h3 h4 hs h0 mr w c1 c2 hl hd
    obtain ⟨F, rfl⟩ : ∃ q, F = q + 1 := ⟨F - 1, by omega⟩
    obtain ⟨F', rfl⟩ : ∃ q, F' = q + 1 := ⟨F' - 1, by omega⟩
    have y : ¬ nI n ≤ nI i := nI_ge (by omega) (by omega)
    rw [q_MP_days_28L_s]
    unfold q_MP_days_28
    rw [if_neg y, show gI g 230 4 = nI h from mr.1.trans h0]
    by_cases z : h = 999
    · subst z
      rw [if_pos (by decide)]
      refine ⟨g, r, rfl, mr, w, Un.rf, fun f mm _ _ _ => ?_⟩
      have hr : gI f 369 4 = nI 999 := (mm 0 (by omega)).trans h0
      rw [q_Mo_days_28L_s]
      unfold q_Mo_days_28
      rw [if_neg y, gd_L _ _ (by decide) (by decide), cl_L _ (by decide), hr, if_pos (by decide)]
      exact ⟨f, rfl, mm, Un.rf, fun _ => ⟨rfl, rfl⟩⟩
    · have nz : ¬ (999 : Int32) ≤ nI h := nI_ge (a := h) (b := 999) (by omega) (by decide)
      have d1 := dS_lt s
      have d2 := dS_lt (dS s)
      have d3 := dS_lt (dS (dS s))
      have l8 : dS s % 8 < 8 := Nat.mod_lt _ (by omega)
      have c25 : dS (dS s) % 25 < 25 := Nat.mod_lt _ (by omega)
      have t4 : dS (dS (dS s)) % 4 < 4 := Nat.mod_lt _ (by omega)
      have i4 : irem (nI (dS (dS (dS s)))) (4 : Int32) = nI (dS (dS (dS s)) % 4) := irem_nI (b := 4) (by omega) (by omega)
      have i8 : irem (nI (dS s)) (8 : Int32) = nI (dS s % 8) := irem_nI (b := 8) (by omega) (by omega)
      have i25 : irem (nI (dS (dS s))) (25 : Int32) = nI (dS (dS s) % 25) := irem_nI (b := 25) (by omega) (by omega)
      obtain ⟨w1, w2, w3, w4⟩ := chD_wf w (dS s % 8) (dS (dS s) % 25) (dS (dS (dS s)) % 4)
      obtain ⟨g1, a1, a2, a3⟩ := chD_c mr (l := dS s % 8) c25 t4
      obtain ⟨g2, b1, b2, b3⟩ := passHour_c (Lo := Lo) rfl a2 w1 (by rw [a3.I (sH230 (by omega)), w3]; exact c1) (by rw [a3.I (sH230 (by omega)), w4]; exact c2) (by rw [a3.I (sH230 (by omega))]; exact hl.ex (fun x k hx => a3.I (sH230 (by omega))))
      rw [a3.I (sH230 (by omega)), hd] at b1 b2
      obtain ⟨x1, x2, x3, x4⟩ := stepP_wf (D := D) (Lo := Lo) w1 (n := h) (w2.trans h0) (by omega)
      have uc : Un (sH 230) g g2 := a3.tr b3
      rw [if_neg nz, draw_c hs, bnd_s, draw_c d1, bnd_s, draw_c d2, bnd_s, i4, i8, i25, a1, bnd_s, b1, bnd_s]
      obtain ⟨g', r', e1, e3, e5, e6, e7⟩ := ih (i + 1) F F' (h + 1) (dS (dS (dS s))) g2 (stepP D Lo (chD r (dS s % 8) (dS (dS s) % 25) (dS (dS (dS s)) % 4))) (by omega) (by omega) (by omega) (by omega) d3 x2 b2 x1
        (by rw [uc.I (sH230 (by omega)), x3, w3]; exact c1) (by rw [uc.I (sH230 (by omega)), x4, w4]; exact c2)
        (by rw [uc.I (sH230 (by omega))]; exact hl.ex (fun x k hx => uc.I (sH230 (by omega))))
        (by rw [uc.I (sH230 (by omega))]; exact hd)
      refine ⟨g', r', by rw [nI_1]; exact e1, e3, e5, uc.tr e6, fun f mm hlm hdm hj => ?_⟩
      have hr : gI f 369 4 = nI h := (mm 0 (by omega)).trans h0
      have m1 : q_Mo_draw (8 : Int32) f = _ := draw_m (m := 8) (by omega) (by omega) hs hj
      have j1 : gJ (sJ f 367 55 (nL (dS s))) 367 55 = nL (dS s) := by rw [gJ_sJ, if_pos ⟨rfl, rfl⟩]
      have m2 : q_Mo_draw (25 : Int32) (sJ f 367 55 (nL (dS s))) = _ := draw_m (m := 25) (by omega) (by omega) d1 j1
      have j2 : gJ (sJ (sJ f 367 55 (nL (dS s))) 367 55 (nL (dS (dS s)))) 367 55 = nL (dS (dS s)) := by rw [gJ_sJ, if_pos ⟨rfl, rfl⟩]
      have m3 : q_Mo_draw (4 : Int32) (sJ (sJ f 367 55 (nL (dS s))) 367 55 (nL (dS (dS s)))) = _ := draw_m (m := 4) (by omega) (by omega) d2 j2
      have j3 : gJ (sJ (sJ (sJ f 367 55 (nL (dS s))) 367 55 (nL (dS (dS s)))) 367 55 (nL (dS (dS (dS s))))) 367 55 = nL (dS (dS (dS s))) := by rw [gJ_sJ, if_pos ⟨rfl, rfl⟩]
      have uj : Un sDm f (sJ (sJ (sJ f 367 55 (nL (dS s))) 367 55 (nL (dS (dS s)))) 367 55 (nL (dS (dS (dS s))))) := fun x k q => by
        have nq : ¬ (x = 367 ∧ k = 55) := fun p => by rw [p.1, p.2] at q; exact absurd q (by decide)
        refine ⟨rfl, ?_, rfl⟩
        rw [gJ_sJ, if_neg nq, gJ_sJ, if_neg nq, gJ_sJ, if_neg nq]
      have mj : MomM (sJ (sJ (sJ f 367 55 (nL (dS s))) 367 55 (nL (dS (dS s)))) 367 55 (nL (dS (dS (dS s))))) r := mm
      have jj : ∀ y, gJ (sJ (sJ (sJ f 367 55 (nL (dS s))) 367 55 (nL (dS (dS s)))) 367 55 (nL (dS (dS (dS s))))) 369 y = gJ f 369 y := fun y => by rw [gJ_sJ, if_neg (by omega), gJ_sJ, if_neg (by omega), gJ_sJ, if_neg (by omega)]
      have pp : ∀ y, gP (sJ (sJ (sJ f 367 55 (nL (dS s))) 367 55 (nL (dS (dS s)))) 367 55 (nL (dS (dS (dS s))))) 369 y = gP f 369 y := fun y => rfl
      generalize hf3 : sJ (sJ (sJ f 367 55 (nL (dS s))) 367 55 (nL (dS (dS s)))) 367 55 (nL (dS (dS (dS s)))) = f3 at *
      obtain ⟨f4, p1, p2, p3, p4, p5⟩ := chD_m mj w l8 c25 t4 (nI i) (q_Mo_days_28L (nI n) K' F')
      have u4 : Un sDm f f4 := uj.tr (sHM_sDm p3)
      obtain ⟨f5, q1, q2, q3, q4⟩ := passIt_m2 (Lo := Lo) p2 w1 (hlm.ex2 (fun j hj => u4.I (sDm_369 (by omega))) (u4.I rfl))
      rw [u4.I (sDm_369 (by omega)), hdm] at q1 q2
      have u5 : Un sDm f f5 := u4.tr (sHM_sDm q3)
      obtain ⟨f', e2, e4, e7, e8⟩ := e7 f5 q2 (hlm.ex2 (fun j hj => u5.I (sDm_369 (by omega))) (u5.I rfl)) (by rw [u5.I (sDm_369 (by omega))]; exact hdm) (by rw [q3.J rfl, p4]; exact j3)
      refine ⟨f', ?_, e4, u5.tr e7, fun y => ⟨(e8 y).1.trans ((q4 y).1.trans ((congrFun (congrFun p4 369) y).trans (jj y))), (e8 y).2.trans ((q4 y).2.trans ((congrFun (congrFun p5 369) y).trans (pp y)))⟩⟩
      rw [q_Mo_days_28L_s]
      unfold q_Mo_days_28
      rw [if_neg y, gd_L _ _ (by decide) (by decide), cl_L _ (by decide), hr, if_neg nz, m1, bnd_s, m2, bnd_s, m3, bnd_s]
      refine Eq.trans p1 ?_
      unfold q_Mo_days_96
      rw [q1, bnd_s, nI_1]
      exact e2
theorem days_copy (K : hG → hO Int32) (g : hG) : q_Mo_days_103L K FU 0 g = K (sSeg g 398 0 52 (fun i => gI g 369 (4 + i))) := by
  refine copy_loop (fun n g i => q_Mo_days_103L K n (nI i) g) K 398 0 52 _ g ?_ ?_ FU (by decide)
  · intro n i hi
    rw [q_Mo_days_103L_s]
    unfold q_Mo_days_103
    rw [if_neg (show ¬ (52 : Int32) ≤ nI i from nI_ge hi (by decide)), show (4 : Int32) + nI i = nI (4 + i) from nI_add 4 i, gd_nI (by omega) (by omega), gd_nI (by omega) (by omega), wr_e, nI_clamp (by omega), nI_clamp (by omega), nI_1, gI_sSeg, if_neg (by omega), Nat.zero_add]
  · intro n
    rw [q_Mo_days_103L_s]
    unfold q_Mo_days_103
    rw [if_pos (by decide)]
theorem sp_days {g : hG} (h : Inv g) (s n : Int32) : Sp (q_MP_days s n) (q_Mo_days s n) g := by
  have no : ¬ ((0 ≤ s ∧ s ≤ 1000000) ∧ (1 ≤ n ∧ n ≤ 60)) → Sp (q_MP_days s n) (q_Mo_days s n) g := fun Y => by
    refine Sp.q (r := -1) (g1 := nC (-1) 1 g) (g2 := nM (-1) 1 (sI (nC (-1) 1 g) 367 0 0)) ?_ ?_ (h.no (-1) (by omega) (Un.rf.sI rfl _))
    · have e : q_MP_days_11 g = some (-1, nC (-1) 1 g) := by unfold q_MP_days_11; rw [rf_1, bnd_s]
      unfold q_MP_days
      rw [e]
      by_cases y1 : s < 0
      · rw [if_pos y1]
      · by_cases y2 : (1000000 : Int32) < s
        · rw [if_neg y1, if_pos y2]
        · by_cases y3 : n < 1
          · rw [if_neg y1, if_neg y2, if_pos y3]
          · rw [if_neg y1, if_neg y2, if_neg y3, if_neg (fun q => Y ⟨⟨Int32.not_lt.mp y1, Int32.not_lt.mp y2⟩, Int32.not_lt.mp y3, q⟩)]
    · have e : ∀ x, q_Mo_days_15 x = some (-1, nM (-1) 1 x) := fun x => by unfold q_Mo_days_15; rw [te_1, bnd_s]
      unfold q_Mo_days
      rw [wr_e, in_e s 0 1000000 0 1000000 rfl rfl, bnd_s]
      by_cases y : 0 ≤ s ∧ s ≤ 1000000
      · rw [bI_t y, if_neg (by decide), in_e n 1 60 1 60 rfl rfl, bnd_s, bI_f (fun q => Y ⟨y, q⟩), if_pos rfl, e]
      · rw [bI_f y, if_pos rfl, e]
  by_cases hs : 0 ≤ s ∧ s ≤ 1000000
  · by_cases hn : 1 ≤ n ∧ n ≤ 60
    · have y1 : ¬ s < 0 := Int32.not_lt.mpr hs.1
      have y2 : ¬ (1000000 : Int32) < s := Int32.not_lt.mpr hs.2
      have y3 : ¬ n < 1 := Int32.not_lt.mpr hn.1
      have y4 : ¬ n < 0 := fun q => y3 (Int32.lt_trans q (by decide))
      obtain ⟨s', hs', rfl⟩ := (nI_le_iff (n := 1000000) (by omega) s y1).mp hs.2
      obtain ⟨n', hn', rfl⟩ := (nI_le_iff (n := 60) (by omega) n y4).mp hn.2
      obtain ⟨m1, m2, m3, m4, m5, m6, m7, m8⟩ := inv_m h
      obtain ⟨hh, hh9, eh⟩ := h.1.2.2.1
      obtain ⟨Lo, L1, L2⟩ := law_force h
      obtain ⟨ga, a1, a2, a3, a4, a5⟩ := momcopy 230 2 g (by omega)
      have ua : ∀ x k, ¬ (230 ≤ x ∧ x ≤ 234) → ¬ (x = 0 ∧ k = 9) → gI (sI ga 0 9 1) x k = gI g x k := fun x k z1 z2 => by rw [gI_sI, if_neg z2, a2 x k z1]
      have q0 : ∀ x k, x ≤ 224 → ¬ (x = 0 ∧ k = 9) → gI (sI ga 0 9 1) x k = gI g x k := fun x k z1 z2 => ua x k (by omega) z2
      obtain ⟨gc, r', c1, c2, c3, c4, c5⟩ := days_l (Lo := Lo) (D := gI g 369 3) hn' (fun g32 => q_MP_days_68 g32) (fun g52 => q_Mo_days_101 g52) n' 0 FU FU hh s' (sI ga 0 9 1) (fun i => gI g 369 (4 + i)) (by omega) (Nat.lt_of_le_of_lt hn' (by decide)) (Nat.lt_of_le_of_lt hn' (by decide)) hh9 (by omega) eh
        ((a3 _ m1).ex (fun j k hj => rd_a (by omega)) (fun _ _ _ _ => rfl)) m2 (by rw [q0 _ _ (by omega) (by omega)]; exact m4) (by rw [q0 _ _ (by omega) (by omega)]; exact m5)
        (by rw [q0 _ _ (by omega) (by omega)]; exact L1.ex1 (fun x k h1 hx => q0 x k (by omega) (by omega))) (by rw [q0 _ _ (by omega) (by omega)]; exact m7)
      obtain ⟨kk, hk8, ek⟩ := hm_n (fun l => r' (28 + l)) 2
      -- what the class leaves
      have uc : ∀ x k, sH 230 x k = false → ¬ (x = 0 ∧ k = 9) → ¬ (x = 263 ∧ k = 1) → gI (sI gc 263 1 0) x k = gI g x k := fun x k z1 z2 z3 => by
        rw [gI_sI, if_neg z3, c4.I z1, ua x k (fun p => by have z1' := Bool.eq_false_iff.mp z1; simp only [sH, Ne, Bool.or_eq_true, Bool.and_eq_true, Nat.ble_eq] at z1'; omega) z2]
      have rs : ∀ i, gI (sI (sI gc 263 1 0) 367 0 0) 369 i = gI g 369 i := fun i => by rw [rd_a (by decide), uc _ _ rfl (by omega) (by omega)]
      have rs2 : ∀ i, gI (sJ (sSeg (sI (sI gc 263 1 0) 367 0 0) 372 (52 * 16) 52 (fun i => gI (sI (sI gc 263 1 0) 367 0 0) 369 (4 + i))) 367 55 (nL s')) 369 i = gI g 369 i := fun i => by rw [gI_sJ, gI_sSeg, if_neg (by omega), rs]
      obtain ⟨f3, d1, d2, d3, d4⟩ := c5 (sJ (sSeg (sI (sI gc 263 1 0) 367 0 0) 372 (52 * 16) 52 (fun i => gI (sI (sI gc 263 1 0) 367 0 0) 369 (4 + i))) 367 55 (nL s')) (m3.ex rs2)
        (L2.ex rs2 (by rw [gI_sJ, gI_sSeg, if_neg (by omega), rd_k (by decide), uc _ _ rfl (by omega) (by omega)])) (rs2 3) (by rw [gJ_sJ, if_pos ⟨rfl, rfl⟩])
      have f3I : ∀ x k, sDm x k = false → ¬ (x = 372 ∧ 832 ≤ k) → ¬ (x = 367 ∧ k = 0) → gI f3 x k = gI (sI gc 263 1 0) x k := fun x k z1 z2 z3 => by
        rw [d3.I z1, gI_sJ, gI_sSeg, if_neg (by omega), gI_sI, if_neg z3]
      have f3K : ∀ i, i < 52 → gI f3 372 (52 * 16 + i) = gI g 369 (4 + i) := fun i hi => by
        rw [d3.I rfl, gI_sJ, gI_sSeg, if_pos (by omega), show 52 * 16 + i - 52 * 16 = i by omega, rs]
      -- what the model leaves
      generalize hf7 : sI (sSeg (sI (sSeg f3 398 0 52 (fun i => gI f3 369 (4 + i))) 367 57 1) 369 4 52 (fun i => gI (sI (sSeg f3 398 0 52 (fun i => gI f3 369 (4 + i))) 367 57 1) 372 (52 * 16 + i))) 367 1 0 = f7
      have f7I : ∀ x k, ¬ (x = 398) → ¬ (x = 367 ∧ k = 57) → ¬ (x = 369 ∧ 4 ≤ k ∧ k < 56) → ¬ (x = 367 ∧ k = 1) → gI f7 x k = gI f3 x k := fun x k z1 z2 z3 z4 => by
        rw [← hf7, gI_sI, if_neg z4, gI_sSeg, if_neg (by omega), gI_sI, if_neg z2, gI_sSeg, if_neg (by omega)]
      have f7R : ∀ i, i < 52 → gI f7 369 (4 + i) = gI g 369 (4 + i) := fun i hi => by
        rw [← hf7, rd_a (by decide), gI_sSeg, if_pos (by omega), rd_a (by decide), gI_sSeg, if_neg (by omega), show 4 + i - 4 = i by omega, f3K i hi]
      have f7D : ∀ i, i < 52 → gI f7 398 i = r' i := fun i hi => by
        rw [← hf7, rd_a (by decide), gI_sSeg, if_neg (by omega), rd_a (by decide), gI_sSeg, if_pos (by omega), Nat.sub_zero, d2 i hi]
      have E : ∀ x k, sX x k = false → suD x k = false → ¬ (x = 263 ∧ k = 1) → ¬ (x = 367 ∧ k = 1) → gI f7 x k = gI g x k := fun x k z1 z2 z3 z4 => by
        have y1 := Bool.eq_false_iff.mp z1
        have y2 := Bool.eq_false_iff.mp z2
        simp only [sX, sC, sM, sMf, suD, Ne, Bool.or_eq_true, Bool.and_eq_true, beq_iff_eq, Nat.ble_eq] at y1 y2
        by_cases q : x = 369 ∧ 4 ≤ k ∧ k < 56
        · rw [q.1, show k = 4 + (k - 4) by omega]
          exact f7R (k - 4) (by omega)
        · rw [f7I x k (by omega) (by omega) q z4, f3I x k (Bool.eq_false_iff.mpr (fun p => by simp only [sDm, sHM, sV, sT, Bool.or_eq_true, Bool.and_eq_true, beq_iff_eq, Nat.ble_eq] at p; omega)) (by omega) (by omega), uc x k (Bool.eq_false_iff.mpr (fun p => by simp only [sH, sW, Bool.or_eq_true, Bool.and_eq_true, beq_iff_eq, Nat.ble_eq] at p; omega)) (by omega) z3]
      have A : ∀ {sup : Nat → Nat → Bool}, (∀ a k, sup a k = true → sX a k = false) → (∀ a k, sup a k = true → suD a k = false ∧ ¬ (a = 263 ∧ k = 1) ∧ ¬ (a = 367 ∧ k = 1)) → Ag sup g f7 := fun dd1 dd2 a k q => E a k (dd1 a k q) (dd2 a k q).1 (dd2 a k q).2.1 (dd2 a k q).2.2
      have i0 : gI f7 0 9 = 1 := by
        rw [f7I _ _ (by omega) (by omega) (by omega) (by omega), f3I _ _ rfl (by omega) (by omega), rd_a (by decide), c4.I rfl, rd_s]
      have i57 : gI f7 367 57 = 1 := by
        rw [← hf7, rd_k (by decide), gI_sSeg, if_neg (by omega), rd_s]
      have inv : Inv f7 := by
        obtain ⟨v1, v2, v3, v4, v5, v6, v7⟩ := h
        refine ⟨KeptR.ag v1 (A suK_x (fun a k q => ?_)), v2.ag (A suP_x (fun a k q => ?_)), v3.ag (A suI_x (fun a k q => ?_)), v4.ag (A suT_x (fun a k q => ?_)), v5.yes ?_ ?_ (fun a k q z1 z2 => ?_), ⟨i0.trans i57.symm, Or.inr i57, fun _ => ⟨?_, ?_⟩⟩, v7.ag ?_ (fun a k q => ?_)⟩
        · refine ⟨Bool.eq_false_iff.mpr (fun p => ?_), fun p => ?_, fun p => ?_⟩ <;> simp only [suK, suD, Bool.or_eq_true, Bool.and_eq_true, beq_iff_eq, Nat.ble_eq] at p q <;> omega
        · refine ⟨Bool.eq_false_iff.mpr (fun p => ?_), fun p => ?_, fun p => ?_⟩ <;> simp only [suP, suD, Bool.or_eq_true, Bool.and_eq_true, beq_iff_eq, Nat.ble_eq] at p q <;> omega
        · refine ⟨Bool.eq_false_iff.mpr (fun p => ?_), fun p => ?_, fun p => ?_⟩ <;> simp only [suI, suD, Bool.or_eq_true, Bool.and_eq_true, beq_iff_eq, Nat.ble_eq] at p q <;> omega
        · refine ⟨Bool.eq_false_iff.mpr (fun p => ?_), fun p => ?_, fun p => ?_⟩ <;> simp only [suT, suD, Bool.or_eq_true, Bool.and_eq_true, beq_iff_eq, Nat.ble_eq] at p q <;> omega
        · rw [f7I _ _ (by omega) (by omega) (by omega) (by omega), f3I _ _ rfl (by omega) (by omega), rd_s]
        · rw [← hf7, rd_s]
        · exact E a k (suN_x a k q) (Bool.eq_false_iff.mpr (fun p => by simp only [suN, suD, Bool.or_eq_true, Bool.and_eq_true, beq_iff_eq, Nat.ble_eq] at p q; omega)) z1 z2
        · exact c2.ex (fun j k hj => by rw [f7I _ _ (by omega) (by omega) (by omega) (by omega), f3I _ _ (Bool.eq_false_iff.mpr (fun p => by simp only [sDm, sHM, sV, sT, Bool.or_eq_true, Bool.and_eq_true, beq_iff_eq, Nat.ble_eq] at p; omega)) (by omega) (by omega), rd_a (by omega)]) (fun i hi _ _ => f7D i hi)
        · exact c3.ex (fun i hi _ _ => f7D i hi)
        · exact E _ _ rfl rfl (by omega) (by omega)
        · have wr : sDm a k = false ∧ sH 230 a k = false ∧ ¬ (a = 367 ∧ k = 55) := by rcases q with rfl | rfl | rfl | rfl | rfl <;> exact ⟨rfl, rfl, by omega⟩
          rw [← hf7, gJ_sI, gJ_sSeg, gJ_sI, gJ_sSeg, d3.J wr.1, gJ_sJ, if_neg wr.2.2, gJ_sSeg, gJ_sI, gJ_sI, c4.J wr.2.1, gJ_sI, a4]
      refine Sp.q (r := nI kk) (g1 := sI gc 263 1 0) (g2 := f7) ?_ ?_ inv
      · unfold q_MP_days
        rw [if_neg y1, if_neg y2, if_neg y3, if_pos hn.2, a1, bnd_s, wr_e]
        refine Eq.trans c1 ?_
        unfold q_MP_days_68
        rw [hm_c (a := 230) c2.2.2.1 2, bnd_s, ek, gr_e, bnd_s]
      · unfold q_Mo_days
        rw [wr_e, in_e _ 0 1000000 0 1000000 rfl rfl, bnd_s, bI_t hs, if_neg (by decide), in_e _ 1 60 1 60 rfl rfl, bnd_s, bI_t hn, if_neg (by decide), show (16 : Int32) = nI 16 from rfl, keepAll_e 16 (by decide), bnd_s, nI_64 (by omega), wr_e]
        refine Eq.trans d1 ?_
        unfold q_Mo_days_101
        rw [days_copy, wr_e, hm_m (g := sI (sSeg f3 398 0 52 (fun i => gI f3 369 (4 + i))) 367 57 1) (st := fun l => r' (28 + l)) (fun l hl => by rw [rd_a (by decide), gI_sSeg, if_neg (by omega)]; exact d2.st hl) 2, bnd_s, show (16 : Int32) = nI 16 from rfl, putBack_e 16 (by decide), bnd_s, ek, te_p (nI_pos' (by omega)), bnd_s, hf7]
    · exact no (fun q => hn q.2)
  · exact no (fun q => hs q.1)
