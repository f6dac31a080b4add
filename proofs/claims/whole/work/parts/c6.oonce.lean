/-! orders: one order, once, both, put together -/
section OT
variable {g f : hG} {i sz len d : Nat} {hd : Nat × Nat} {te : Den} {su : Den × Den} {la : Int32}
theorem rx_c {g' : hG} (h : RX g f) (u : Un sRc g g') (hu : ∀ a k, a ≤ 136 → gI g' a k = gI g a k) : RX g' f := h.ex hu (fun _ _ _ => rfl) h.2.2
theorem u248_136 {g g' : hG} (u : Un s248 g g') : ∀ a k, a ≤ 136 → gI g' a k = gI g a k := fun a k q => u.I (by unfold s248; exact beq_false_of_ne (by omega))
theorem sSo_RX {f' : hG} (h : RX g f) (u : Un sSo f f') (e20 : gI f' 367 20 = 0) : RX g f' := h.ex (fun _ _ _ => rfl) (fun a k q => u.I (Bool.eq_false_iff.mpr (fun y => by
  simp only [sSo, sRk, Bool.or_eq_true, Bool.and_eq_true, beq_iff_eq] at y
  omega))) e20
theorem sums_x (h : RX g f) (hi : i < 12) (hC : DCo g 240 sz i hd te su) (hz : gI g 240 1 = nI sz) (h4 : sz ≤ 402) (hM : DMo f len i hd te su) (hl : len ≤ 400) {F : Nat → Int32} (hF : ∀ k, k < 38 → gI g 249 k = F k) (hx : FXM 1 F f) (hnb : ∀ k, k < 38 → F k ≠ BRK) (hd' : d < 1000) (hla : la ≠ BRK) (h51 : gI f 367 51 = nI d) (h52 : gI f 367 52 = la) (h54 : gI f 367 54 = 0) : OX d g f (fun k13 k91 v4 => cTwo i (nI d) la v4 k13 k91 g) (q_Mo_runOnce_68 (nI (8 * i)) f) := by
  obtain ⟨⟨p1, p2, p3, p4⟩, c2, c5, ⟨t1, t2, t3, t4⟩, ⟨a6, e6, r6⟩, ⟨a3, e3, r3⟩, ⟨a4, e4, r4⟩⟩ := hC
  obtain ⟨m1, m7, mD, mS, m3⟩ := hM
  obtain ⟨ga, wa, ua⟩ := work_o (g := g) (g' := g) r3 t3 h4 hz (fun _ => rfl) hF
  obtain ⟨gb, wb, ub⟩ := work_o (g := g) (g' := ga) r4 t4 h4 ((u248 ua (by omega) 1).trans hz) (fun j => u248 ua (by omega) j) (fun k hk => (u248 ua (by omega) k).trans (hF k hk))
  have uab : Un s248 g gb := ua.tr ub
  have hb : RX gb f := rx_c h (s248_Rc uab) (u248_136 uab)
  have cl : ∀ k13 k91 v4, cTwo i (nI d) la v4 k13 k91 g = q_MP_carryOut_74 (nI d) la (nI i) v4 ((su.1 F).getD BRK) ((su.2 F).getD BRK) k13 k91 (if (su.1 F).getD BRK = (-2000000000 : Int32) then (1 : Int32) else (if (su.2 F).getD BRK = (-2000000000 : Int32) then (1 : Int32) else (0 : Int32))) gb := fun k13 k91 v4 => by
    unfold cTwo
    rw [gd_nI hi (by omega), nI_clamp (by omega), e3, wa, bnd_s, gd_nI hi (by omega), u248 ua (by omega), e4, wb, bnd_s]
  have k2 : gI gb 242 i = nI hd.1 := (u248 uab (by omega) i).trans c2
  have bad : ∀ k13 k91 v4, ((su.1 F).getD BRK = BRK ∨ (su.2 F).getD BRK = BRK) → cTwo i (nI d) la v4 k13 k91 g = k91 gb := fun k13 k91 v4 q => by
    have w : (if (su.1 F).getD BRK = (-2000000000 : Int32) then (1 : Int32) else (if (su.2 F).getD BRK = (-2000000000 : Int32) then (1 : Int32) else (0 : Int32))) = 1 := by
      by_cases y : (su.1 F).getD BRK = (-2000000000 : Int32)
      · rw [if_pos y]
      · rw [if_neg y, if_pos (show (su.2 F).getD BRK = (-2000000000 : Int32) from q.resolve_left y)]
    rw [cl, w]
    unfold q_MP_carryOut_74 q_MP_carryOut_88
    rw [if_neg (by decide), if_neg (by decide)]
  have e13 : nI (8 * i) + (3 : Int32) = nI (8 * i + 3) := nI_add _ 3
  refine OX.pre (g := gb) (f := f) ?_ (s248_Rc uab) Un.rf
  by_cases y : hd.1 = 3
  · obtain ⟨y1, y2⟩ := p4 y
    have z1 : (su.1 F).getD BRK = nI 1 := by rw [y1]; rfl
    have z2 : (su.2 F).getD BRK = nI 1 := by rw [y2]; rfl
    have eX : (fun k13 k91 v4 => cTwo i (nI d) la v4 k13 k91 g) = fun k13 k91 v4 => q_MP_carryOut_74 (nI d) la (nI i) v4 (nI 1) (nI 1) k13 k91 0 gb := by
      funext k13 k91 v4
      rw [cl, z1, z2, if_neg (by decide), if_neg (by decide)]
    rw [eX]
    unfold q_Mo_runOnce_68
    rw [nI_1, sumof_0 hi (by omega) ((m3 y 1 (by omega) (by omega)).trans (m3 y 2 (by omega) (by omega)).symm), bnd_s, e13, sumof_0 hi (by omega) ((m3 y 3 (by omega) (by omega)).trans (m3 y 4 (by omega) (by omega)).symm), bnd_s]
    exact fin_x hb hi p1 k2 m1 hd' hla h51 h52 h54 (by rw [y]; exact act_xp hb _ _ _ _)
  · obtain ⟨S1, S2⟩ := mS (by omega)
    obtain ⟨a, b, s1, s2, s3, s4, s5⟩ := S1
    obtain ⟨v, f1, n1, n2, n3, n4⟩ := sumof_m hi (by omega) s1 (by omega) s3 s4 s5 h54 hx
    have q5 : ∀ k, k = 51 ∨ k = 52 → gI f1 367 k = gI f 367 k := fun k hk => n2.I (by rcases hk with rfl | rfl <;> rfl)
    cases q1 : su.1 F with
    | none =>
      rw [q1] at n4
      refine Or.inr ⟨gb, f1, fun k13 k91 v4 => bad k13 k91 v4 (Or.inl (by rw [q1]; rfl)), ?_, Un.rf, sSo_Rm n2, n3⟩
      unfold q_Mo_runOnce_68
      rw [nI_1, n1, bnd_s, e13, sumof_off n4, bnd_s, if_neg (by rw [n4]; decide)]
    | some x =>
      rw [q1] at n4
      obtain ⟨n5, n6⟩ := n4
      subst n5
      have xb : v ≠ BRK := t3.2 F v hnb q1
      obtain ⟨a', b', s1', s2', s3', s4', s5'⟩ := S2
      obtain ⟨v', f2, o1, o2, o3, o4⟩ := sumof_m (f := f1) hi (by omega) s1' (by omega) ((n2.I (by rfl)).trans s3') ((n2.I (by rfl)).trans s4') (s5'.ex (fun j _ _ => ⟨n2.I (by rfl), n2.I (by rfl)⟩)) n6 (fxm_ex hx (fun k => n2.J (by rfl)) (fun k _ _ => n2.I (by rfl)))
      refine OX.pre (g := gb) (f := f1) ?_ Un.rf (sSo_Rm n2)
      cases q2 : su.2 F with
      | none =>
        rw [q2] at o4
        refine Or.inr ⟨gb, f2, fun k13 k91 v4 => bad k13 k91 v4 (Or.inr (by rw [q2]; rfl)), ?_, Un.rf, sSo_Rm o2, o3⟩
        unfold q_Mo_runOnce_68
        rw [nI_1, n1, bnd_s, e13, o1, bnd_s, if_neg (by rw [o4]; decide)]
      | some x' =>
        rw [q2] at o4
        obtain ⟨o5, o6⟩ := o4
        subst o5
        have xb' : v' ≠ BRK := t4.2 F v' hnb q2
        have eX : (fun k13 k91 v4 => cTwo i (nI d) la v4 k13 k91 g) = fun k13 k91 v4 => q_MP_carryOut_74 (nI d) la (nI i) v4 v v' k13 k91 0 gb := by
          funext k13 k91 v4
          rw [cl, q1, q2, if_neg (show ¬ (some v).getD BRK = (-2000000000 : Int32) from xb), if_neg (show ¬ (some v').getD BRK = (-2000000000 : Int32) from xb')]
          rfl
        have h2 : RX gb f2 := sSo_RX (sSo_RX hb n2 n3) o2 o3
        refine OX.pre (g := gb) (f := f2) ?_ Un.rf (sSo_Rm o2)
        rw [eX]
        unfold q_Mo_runOnce_68
        rw [nI_1, n1, bnd_s, e13, o1, bnd_s]
        exact fin_x h2 hi p1 k2 ((o2.I (by rfl)).trans ((n2.I (by rfl)).trans m1)) hd' hla ((o2.I (by rfl)).trans ((q5 51 (by omega)).trans h51)) ((o2.I (by rfl)).trans ((q5 52 (by omega)).trans h52)) o6 (act_x3 h2 (by omega) _ _)
def cOne (i : Nat) (v1 v2 v4 : Int32) (k13 : Int32 → Int32 → Int32 → hG → hO Int32) (k91 : hG → hO Int32) (g : hG) : hO Int32 := bnd (q_MP_fillOrderFacts v1 v2 g) fun _ g3 => gd (nI i) 12 <| bnd (q_Calc_work 240 (gI g3 246 (nI i).toNatClampNeg) 249 g3) fun r7 g5 => if r7 = (1 : Int32) then cTwo i v1 v2 v4 k13 k91 g5 else k13 v1 v2 (v4 + (1 : Int32)) g5
theorem u249 {g g' : hG} (u : Un s249 g g') {t : Nat} (h : t ≠ 249) (j : Nat) : gI g' t j = gI g t j := u.I (by unfold s249; exact beq_false_of_ne h)
theorem sA240 {g g' : hG} (u : Un sRc g g') {a : Nat} (h : 240 ≤ a) (h2 : a ≤ 247) (k : Nat) : gI g' a k = gI g a k := u.I (sRc_f h h2)
/-- the model's facts laid out -/
def fcts (f : hG) (x1 x2 x3 x4 x5 : Int64) : hG := sI (sJ (sJ (sJ (sJ (sJ f 386 1 x1) 386 2 x2) 386 3 x3) 386 4 x4) 386 5 x5) 367 54 0
theorem fcts_J (f : hG) (x1 x2 x3 x4 x5 : Int64) : gJ (fcts f x1 x2 x3 x4 x5) 386 1 = x1 ∧ gJ (fcts f x1 x2 x3 x4 x5) 386 2 = x2 ∧ gJ (fcts f x1 x2 x3 x4 x5) 386 3 = x3 ∧ gJ (fcts f x1 x2 x3 x4 x5) 386 4 = x4 ∧ gJ (fcts f x1 x2 x3 x4 x5) 386 5 = x5 := by
  unfold fcts
  rw [gJ_sI]
  refine ⟨?_, ?_, ?_, ?_, ?_⟩
  · rw [gJ_sJ, if_neg (by omega), gJ_sJ, if_neg (by omega), gJ_sJ, if_neg (by omega), gJ_sJ, if_neg (by omega), gJ_sJ, if_pos ⟨rfl, rfl⟩]
  · rw [gJ_sJ, if_neg (by omega), gJ_sJ, if_neg (by omega), gJ_sJ, if_neg (by omega), gJ_sJ, if_pos ⟨rfl, rfl⟩]
  · rw [gJ_sJ, if_neg (by omega), gJ_sJ, if_neg (by omega), gJ_sJ, if_pos ⟨rfl, rfl⟩]
  · rw [gJ_sJ, if_neg (by omega), gJ_sJ, if_pos ⟨rfl, rfl⟩]
  · rw [gJ_sJ, if_pos ⟨rfl, rfl⟩]
theorem fcts_I (f : hG) (x1 x2 x3 x4 x5 : Int64) {a k : Nat} (h : ¬ (a = 367 ∧ k = 54)) : gI (fcts f x1 x2 x3 x4 x5) a k = gI f a k := by
  unfold fcts
  rw [gI_sI, if_neg h, gI_sJ, gI_sJ, gI_sJ, gI_sJ, gI_sJ]
theorem fcts_u (f : hG) (x1 x2 x3 x4 x5 : Int64) : Un sRm f (fcts f x1 x2 x3 x4 x5) := by
  unfold fcts
  exact (((((Un.rf.sJ (by rfl) _).sJ (by rfl) _).sJ (by rfl) _).sJ (by rfl) _).sJ (by rfl) _).sI (by rfl) _
theorem once_u (hi : i < 12) (f : hG) (H0 H2 : Int32) (h0 : ∀ x : hG, gI x = gI f → q_Mo_howMany 0 x = some (H0, x)) (h2 : ∀ x : hG, gI x = gI f → q_Mo_howMany 2 x = some (H2, x)) : q_Mo_runOnce (nI (8 * i)) f = (if (gI (fcts f (gI f 369 4).toInt64 (gI f 367 51).toInt64 (gI f 367 52).toInt64 H0.toInt64 H2.toInt64) 397 (8 * i + 6)) ≤ (gI (fcts f (gI f 369 4).toInt64 (gI f 367 51).toInt64 (gI f 367 52).toInt64 H0.toInt64 H2.toInt64) 397 (8 * i + 5)) then (q_Mo_runOnce_68 (nI (8 * i)) (fcts f (gI f 369 4).toInt64 (gI f 367 51).toInt64 (gI f 367 52).toInt64 H0.toInt64 H2.toInt64)) else (bnd (q_Mo_sumOf (nI (8 * i + 5)) (fcts f (gI f 369 4).toInt64 (gI f 367 51).toInt64 (gI f 367 52).toInt64 H0.toInt64 H2.toInt64)) fun r39 g37 => if (gI g37 367 54) = (0 : Int32) then (if r39 = (0 : Int32) then (some ((0 : Int32), g37)) else (q_Mo_runOnce_68 (nI (8 * i)) g37)) else (some ((0 : Int32), g37)))) := by
  unfold q_Mo_runOnce fcts
  rw [gd_L _ _ (by decide) (by decide), gd_L _ _ (by decide) (by decide), cl_L _ (by decide), cl_L _ (by decide), wr_e, gd_L _ _ (by decide) (by decide), cl_L _ (by decide), wr_e, gd_L _ _ (by decide) (by decide), cl_L _ (by decide), wr_e, h0 _ (by rw [gI_sJ, gI_sJ, gI_sJ]), bnd_s, gd_L _ _ (by decide) (by decide), wr_e, h2 _ (by rw [gI_sJ, gI_sJ, gI_sJ, gI_sJ]), bnd_s, gd_L _ _ (by decide) (by decide), cl_L _ (by decide), wr_e, wr_e]
  rw [show nI (8 * i) + (5 : Int32) = nI (8 * i + 5) from nI_add _ 5, show nI (8 * i) + (6 : Int32) = nI (8 * i + 6) from nI_add _ 6, gd_nI (by omega) (by omega), gd_nI (by omega) (by omega), nI_clamp (by omega), nI_clamp (by omega)]
  simp only [gI_sJ]
  rfl
theorem once_m (hi : i < 12) (h51 : gI f 367 51 = nI d) (h52 : gI f 367 52 = la) : ∃ f1, Un sRm f f1 ∧ gI f1 367 54 = 0 ∧ gI f1 367 20 = gI f 367 20 ∧ (∀ k, k = 51 ∨ k = 52 → gI f1 367 k = gI f 367 k) ∧ (∀ a k, a ≠ 367 → gI f1 a k = gI f a k) ∧ (∀ k, k ≠ 54 → gI f1 367 k = gI f 367 k) ∧ FXM 1 (fcO2 (fun j => gI f 369 (4 + j)) (nI d) la) f1 ∧ q_Mo_runOnce (nI (8 * i)) f = (if (gI f1 397 (8 * i + 6)) ≤ (gI f1 397 (8 * i + 5)) then (q_Mo_runOnce_68 (nI (8 * i)) f1) else (bnd (q_Mo_sumOf (nI (8 * i + 5)) f1) fun r39 g37 => if (gI g37 367 54) = (0 : Int32) then (if r39 = (0 : Int32) then (some ((0 : Int32), g37)) else (q_Mo_runOnce_68 (nI (8 * i)) g37)) else (some ((0 : Int32), g37)))) := by
  have hs : ∀ s, ∀ (x : hG), gI x = gI f → q_Mo_howMany s x = some (hmF (fun l => gI f 369 (4 + (28 + l))) s, x) := fun s x q => hm_m (fun l hl => by rw [q, show 32 + l = 4 + (28 + l) by omega]) s
  have key := once_u hi f _ _ (hs 0) (hs 2)
  have v3 : fcO2 (fun j => gI f 369 (4 + j)) (nI d) la 3 = hmF (fun l => gI f 369 (4 + (28 + l))) 0 := by
    unfold fcO2
    rw [if_neg (by omega), if_neg (by omega), if_neg (by omega), if_pos rfl]
  have v4 : fcO2 (fun j => gI f 369 (4 + j)) (nI d) la 4 = hmF (fun l => gI f 369 (4 + (28 + l))) 2 := by
    unfold fcO2
    rw [if_neg (by omega), if_neg (by omega), if_neg (by omega), if_neg (by omega), if_pos rfl]
  have v0 : fcO2 (fun j => gI f 369 (4 + j)) (nI d) la 0 = gI f 369 4 := by
    unfold fcO2
    rw [if_pos rfl]
  have v1 : fcO2 (fun j => gI f 369 (4 + j)) (nI d) la 1 = nI d := by
    unfold fcO2
    rw [if_neg (by omega), if_pos rfl]
  have v2 : fcO2 (fun j => gI f 369 (4 + j)) (nI d) la 2 = la := by
    unfold fcO2
    rw [if_neg (by omega), if_neg (by omega), if_pos rfl]
  have v5 : ∀ l, l < 8 → fcO2 (fun j => gI f 369 (4 + j)) (nI d) la (5 + l) = gI f 369 (40 + l) := fun l hl => by
    unfold fcO2
    rw [if_neg (by omega), if_neg (by omega), if_neg (by omega), if_neg (by omega), if_neg (by omega), if_pos (by omega)]
    show gI f 369 (4 + (36 + (5 + l - 5))) = _
    rw [show 4 + (36 + (5 + l - 5)) = 40 + l by omega]
  have v6 : ∀ c, c < 25 → fcO2 (fun j => gI f 369 (4 + j)) (nI d) la (13 + c) = gI f 369 (7 + c) := fun c hc => by
    unfold fcO2
    rw [if_neg (by omega), if_neg (by omega), if_neg (by omega), if_neg (by omega), if_neg (by omega), if_neg (by omega)]
    show gI f 369 (4 + (3 + (13 + c - 13))) = _
    rw [show 4 + (3 + (13 + c - 13)) = 7 + c by omega]
  generalize fcO2 (fun j => gI f 369 (4 + j)) (nI d) la = F at *
  generalize hmF (fun l => gI f 369 (4 + (28 + l))) 0 = H0 at *
  generalize hmF (fun l => gI f 369 (4 + (28 + l))) 2 = H2 at *
  obtain ⟨x1, x2, x3, x4, x5⟩ := fcts_J f (gI f 369 4).toInt64 (gI f 367 51).toInt64 (gI f 367 52).toInt64 H0.toInt64 H2.toInt64
  have xI := fun (a k : Nat) (q : ¬ (a = 367 ∧ k = 54)) => fcts_I f (gI f 369 4).toInt64 (gI f 367 51).toInt64 (gI f 367 52).toInt64 H0.toInt64 H2.toInt64 q
  refine ⟨_, fcts_u f (gI f 369 4).toInt64 (gI f 367 51).toInt64 (gI f 367 52).toInt64 H0.toInt64 H2.toInt64, rd_s, xI _ _ (by omega), fun k hk => xI _ _ (by omega), fun a k q => xI _ _ (by omega), fun k q => xI _ _ (by omega), Or.inr ⟨rfl, fun j hj => ?_, fun l hl => ?_, fun c hc => ?_⟩, key⟩
  · have hx : j = 0 ∨ j = 1 ∨ j = 2 ∨ j = 3 ∨ j = 4 := by omega
    rcases hx with rfl | rfl | rfl | rfl | rfl
    · rw [v0]; exact x1
    · rw [v1, ← h51]; exact x2
    · rw [v2, ← h52]; exact x3
    · rw [v3]; exact x4
    · rw [v4]; exact x5
  · rw [xI _ _ (by omega), v5 l hl]
  · rw [xI _ _ (by omega), v6 c hc]
theorem one_x (h : RX g f) (hi : i < 12) (hC : DCo g 240 sz i hd te su) (hz : gI g 240 1 = nI sz) (h4 : sz ≤ 402) (hM : DMo f len i hd te su) (hl : len ≤ 400) (hd' : d < 1000) (hla : la ≠ BRK) (h51 : gI f 367 51 = nI d) (h52 : gI f 367 52 = la) : OX d g f (fun k13 k91 v4 => cOne i (nI d) la v4 k13 k91 g) (q_Mo_runOnce (nI (8 * i)) f) := by
  have hm : MomR g 2 (fun j => gI f 369 (4 + j)) := h.1.1.1
  have w := h.1.2.1
  have hnb := fc_nb w hd' hla
  obtain ⟨g3, a1, a2, a3⟩ := fill_o hm (nI d) la
  obtain ⟨f1, b1, b2, b3, b4, b5, b6, b7, b8⟩ := once_m (f := f) (d := d) (la := la) hi h51 h52
  generalize hF : fcO2 (fun j => gI f 369 (4 + j)) (nI d) la = F at *
  obtain ⟨⟨p1, p2, p3, p4⟩, c2, c5, ⟨t1, t2, t3, t4⟩, ⟨a6, e6, r6⟩, q3, q4⟩ := id hC
  obtain ⟨g5, w5, u5⟩ := work_o (g := g) (g' := g3) r6 t2 h4 ((u249 a3 (by omega) 1).trans hz) (fun j => u249 a3 (by omega) j) a2
  have ug : Un sRc g g5 := (s249_Rc a3).tr (s248_Rc u5)
  have hg5 : RX g5 f1 := h.ex (fun a k q => (u248_136 u5 a k q).trans (u249 a3 (by omega) k)) (fun a k q => by
    by_cases z : a = 367
    · subst z; exact b6 k (by omega)
    · exact b5 a k z) (b3.trans h.2.2)
  have hC5 : DCo g5 240 sz i hd te su := hC.ex (Nat.le_refl _) (fun a q1 q2 => sA240 ug (by omega) (by omega) _) (fun j _ => sA240 ug (by omega) (by omega) _)
  have hM1 : DMo f1 len i hd te su := hM.ex (Nat.le_refl _) (fun k _ => b5 _ _ (by decide)) (fun j _ => ⟨b5 _ _ (by decide), b5 _ _ (by decide)⟩)
  have cl : ∀ k13 k91 v4, cOne i (nI d) la v4 k13 k91 g = if te F = some 1 then cTwo i (nI d) la v4 k13 k91 g5 else k13 (nI d) la (v4 + 1) g5 := fun k13 k91 v4 => by
    unfold cOne
    rw [a1, bnd_s, gd_nI hi (by omega), nI_clamp (by omega), u249 a3 (by omega), e6, w5, bnd_s]
    by_cases z : te F = some 1
    · rw [if_pos z, if_pos ((getD_1 (te F)).mpr z)]
    · rw [if_neg z, if_neg (fun q => z ((getD_1 (te F)).mp q))]
  refine OX.pre (g := g5) (f := f1) ?_ ug b1
  have F5 : ∀ k, k < 38 → gI g5 249 k = F k := fun k hk => (u248 u5 (by omega) k).trans (a2 k hk)
  have z5 : gI g5 240 1 = nI sz := (sA240 ug (by omega) (by omega) 1).trans hz
  have go : ∀ f2, Un sSo f1 f2 → gI f2 367 20 = 0 → gI f2 367 54 = 0 → OX d g5 f1 (fun k13 k91 v4 => cTwo i (nI d) la v4 k13 k91 g5) (q_Mo_runOnce_68 (nI (8 * i)) f2) := fun f2 u2 e20 e54 => by
    refine OX.pre (g := g5) (f := f2) ?_ Un.rf (sSo_Rm u2)
    exact sums_x (sSo_RX hg5 u2 e20) hi hC5 z5 h4 (hM1.ex (Nat.le_refl _) (fun k _ => u2.I (by rfl)) (fun j _ => ⟨u2.I (by rfl), u2.I (by rfl)⟩)) hl F5 (fxm_ex b7 (fun k => u2.J (by rfl)) (fun k _ _ => u2.I (by rfl))) hnb hd' hla ((u2.I (by rfl)).trans ((b4 51 (by omega)).trans h51)) ((u2.I (by rfl)).trans ((b4 52 (by omega)).trans h52)) e54
  rw [b8]
  rcases hM1.2.2.1 with ⟨a, b, k1, k2, k3, k4, k5⟩ | ⟨a, k1, k2, k3, k4⟩
  · obtain ⟨v, f2, n1, n2, n3, n4⟩ := sumof_m (f := f1) hi (k := 5) (by omega) k1 (by omega) k3 k4 k5 b2 b7
    have ne : ¬ nI b ≤ nI a := nI_ge k1 (by omega)
    rw [k3, k4, if_neg ne, n1, bnd_s]
    have stay : te F ≠ some 1 → OX d g5 f1 (fun k13 k91 v4 => cOne i (nI d) la v4 k13 k91 g) (some (0, f2)) := fun z => by
      refine Or.inl ⟨d, la, g5, f2, fun k13 k91 v4 => (cl k13 k91 v4).trans (if_neg z), rfl, Un.rf, sSo_Rm n2, sSo_RX hg5 n2 n3, (n2.I (by rfl)).trans ((b4 51 (by omega)).trans h51), (n2.I (by rfl)).trans ((b4 52 (by omega)).trans h52), by omega, hla⟩
    cases q : te F with
    | none =>
      rw [q] at n4
      rw [if_neg (by rw [n4]; decide)]
      exact stay (by rw [q]; simp)
    | some x =>
      rw [q] at n4
      obtain ⟨n5, n6⟩ := n4
      subst n5
      rw [if_pos n6]
      rcases t1 F v q with z | z
      · rw [if_pos z]
        exact stay (by rw [q, z]; decide)
      · rw [if_neg (by rw [z]; decide)]
        have eX : (fun k13 k91 v4 => cOne i (nI d) la v4 k13 k91 g) = fun k13 k91 v4 => cTwo i (nI d) la v4 k13 k91 g5 := by
          funext k13 k91 v4
          rw [cl, if_pos (by rw [q, z])]
        rw [eX]
        exact go f2 n2 n3 n6
  · rw [k2, k3, if_pos Int32.le_rfl]
    have eX : (fun k13 k91 v4 => cOne i (nI d) la v4 k13 k91 g) = fun k13 k91 v4 => cTwo i (nI d) la v4 k13 k91 g5 := by
      funext k13 k91 v4
      rw [cl, if_pos (by rw [k4])]
    rw [eX]
    exact go f1 Un.rf (b3.trans h.2.2) b2
end OT
