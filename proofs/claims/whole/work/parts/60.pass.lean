/-! an hour as both run it; pass -/
def sH (a x k : Nat) : Bool := sW x k || (Nat.ble a x && Nat.ble x (a + 4))
def sHM (x k : Nat) : Bool := sV x k || (x == 369 && (k == 4 || (Nat.ble 32 k && Nat.ble k 55)))
theorem nextF_door (D : Int32) (S : Nat → Int32) (H : Nat → Bool) (c : Nat) (h : bt D (nI c)) : nextF D S H c = nI c := if_pos h
theorem passHour_c {g : hG} {a : Nat} {r : Nat → Int32} {Lo : Option Lw} (hb : is_mom a = true) (hm : MomR g a r) (w : WFm r) (c1 : gI g 1 2 = r 1) (c2 : gI g 1 3 = r 2) (hl : LE g (gI g 1 9) Lo) : ∃ g', q_Slope_passHour a g = some ((psF (gI g 1 1) (nextF (gI g 1 1) (SV Lo r (hiR r)) (HV Lo r (hiR r))) r).1, g') ∧ MomR g' a (psF (gI g 1 1) (nextF (gI g 1 1) (SV Lo r (hiR r)) (HV Lo r (hiR r))) r).2 ∧ Un (sH a) g g' := by
  obtain ⟨gf, f1, f2, f3, f4, f5⟩ := face_c hb hm c1 c2 hl
  have d0 : gI gf 1 1 = gI g 1 1 := f5.I rfl
  obtain ⟨g1, a1, a2, a3, a4⟩ := hour1 hb w (fun g11 => q_Slope_passHour_33L a (fun x25 g27 => wr (sI g27 a 4 ((gI g27 a 4) + (1 : Int32))) fun g29 => some (x25, g29)) FU (0 : Int32) (0 : Int32) g11) (gI g 1 1) 8 0 FU gf (by omega) (by decide) f2 f3 f4 d0 (fun j hj => by omega)
  obtain ⟨g2, b1, b2, b3, b4, b5⟩ := hour2 hb w (gI g 1 1) (nextF (gI g 1 1) (SV Lo r (hiR r)) (HV Lo r (hiR r))) (fun x25 g27 => wr (sI g27 a 4 ((gI g27 a 4) + (1 : Int32))) fun g29 => some (x25, g29)) 8 0 FU g1 (0, r) (by omega) (by decide) a3.2.2.1 ⟨rfl, fun _ _ _ => ⟨rfl, rfl⟩⟩ ((a2.I rfl).trans d0) a4
  have u1 : Un (sH a) g g1 := (f5.mo (fun x k z => by unfold sH at z; rw [Bool.or_eq_false_iff] at z; exact z.1)).tr (a2.mo (fun x k z => Bool.eq_false_iff.mpr (fun y => by
    have z' := Bool.eq_false_iff.mp z
    simp only [sH, sW, s53, sS, Ne, Bool.or_eq_true, Bool.and_eq_true, beq_iff_eq, Nat.ble_eq] at y z'
    omega)))
  have u2 : Un (sH a) g1 g2 := fun x k z => by
    have z' := Bool.eq_false_iff.mp z
    simp only [sH, sW, Ne, Bool.or_eq_true, Bool.and_eq_true, beq_iff_eq, Nat.ble_eq] at z'
    exact ⟨b3 x k (by omega), by rw [b4], by rw [b5]⟩
  refine ⟨sI g2 a 4 (gI g2 a 4 + 1), ?_, ?_, (u1.tr u2).sI (by simp [sH]) _⟩
  · unfold q_Slope_passHour
    rw [f1, bnd_s]
    refine a1.trans ?_
    refine b1.trans ?_
    rw [psF_1, wr_e]
  · obtain ⟨r1, r2, r3, r4, r5⟩ := b2
    rw [psF_2]
    refine ⟨?_, fun c hc => ?_, fun l hl => ?_, fun l hl => ?_, fun l hl => ?_⟩
    · rw [rd_s, r1]; exact (upR_s _ _ _).symm
    · rw [rd_a (by omega), r2 c hc]; exact (upR_n _ _ (by omega)).symm
    · rw [rd_a (by omega), r3 l hl]; exact (upR_n _ _ (by omega)).symm
    · rw [rd_a (by omega), r4 l hl]; exact (upR_n _ _ (by omega)).symm
    · rw [rd_a (by omega), r5 l hl]; exact (upR_n _ _ (by omega)).symm
theorem passIt_m2 {g : hG} {r : Nat → Int32} {Lo : Option Lw} (hm : MomM g r) (w : WFm r) (hl : LEM g Lo) : ∃ g', q_Mo_passIt g = some ((psF (gI g 369 3) (nextF (gI g 369 3) (SV Lo r (hiR r)) (HV Lo r (hiR r))) r).1, g') ∧ MomM g' (psF (gI g 369 3) (nextF (gI g 369 3) (SV Lo r (hiR r)) (HV Lo r (hiR r))) r).2 ∧ Un sHM g g' ∧ ∀ y, gJ g' 369 y = gJ g 369 y ∧ gP g' 369 y = gP g 369 y := by
  obtain ⟨g1, a1, a2, a3⟩ := lay_m w hm hl
  obtain ⟨g2, b1, b2, b3, b4, b5⟩ := hour_m2 w (gI g 369 3) (nextF (gI g 369 3) (SV Lo r (hiR r)) (HV Lo r (hiR r))) (fun c _ h => nextF_door _ _ _ c h) (fun x15 g18 => gd (4 : Int32) 5468 <| gd (4 : Int32) 5468 <| wr (sI g18 369 (4 : Int32).toNatClampNeg ((gI g18 369 (4 : Int32).toNatClampNeg) + (1 : Int32))) fun g20 => some (x15, g20)) 8 0 FU g1 (0, r) (by omega) (by decide) (hm.un a2) ⟨rfl, fun _ _ _ => ⟨rfl, rfl⟩⟩ (a2.I rfl) a3
  have u1 : Un sHM g g1 := a2.mo (fun x k z => by unfold sHM at z; rw [Bool.or_eq_false_iff] at z; exact z.1)
  have u2 : Un sHM g1 g2 := fun x k z => by
    have z' := Bool.eq_false_iff.mp z
    simp only [sHM, Ne, Bool.or_eq_true, Bool.and_eq_true, beq_iff_eq, Nat.ble_eq] at z'
    exact ⟨b3 x k (by omega), by rw [b4], by rw [b5]⟩
  refine ⟨sI g2 369 4 (gI g2 369 4 + 1), ?_, fun i hi => ?_, (u1.tr u2).sI rfl _, fun y => ⟨by rw [gJ_sI, b4]; exact a2.J rfl, by rw [gP_sI, b5]; exact a2.P rfl⟩⟩
  · unfold q_Mo_passIt
    rw [a1, bnd_s]
    refine b1.trans ?_
    rw [gd_L _ _ (by decide) (by decide), gd_L _ _ (by decide) (by decide), wr_e, cl_L _ (by decide), psF_1]
  · rw [psF_2]
    by_cases z : i = 0
    · subst z
      have q := b2 0 (by omega)
      rw [Nat.add_zero] at q
      rw [Nat.add_zero, rd_s, q, upR_s]
    · rw [rd_k (by omega), b2 i hi, upR_n _ _ z]
theorem passIt_m {g : hG} {r : Nat → Int32} {Lo : Option Lw} (hm : MomM g r) (w : WFm r) (hl : LEM g Lo) : ∃ g', q_Mo_passIt g = some ((psF (gI g 369 3) (nextF (gI g 369 3) (SV Lo r (hiR r)) (HV Lo r (hiR r))) r).1, g') ∧ MomM g' (psF (gI g 369 3) (nextF (gI g 369 3) (SV Lo r (hiR r)) (HV Lo r (hiR r))) r).2 ∧ Un sHM g g' := by
  obtain ⟨g', a1, a2, a3, -⟩ := passIt_m2 hm w hl
  exact ⟨g', a1, a2, a3⟩
/-- an hour keeps a row that can be -/
theorem ps_wf {D : Int32} {N : Nat → Int32} {r : Nat → Int32} (w : WFm r) (hN : ∀ c, c < 25 → ∃ d, d < 25 ∧ N c = nI d) {n : Nat} (h0 : r 0 = nI n) (hn : n + 1 < 2000) : WFm (psF D N r).2 ∧ (psF D N r).2 0 = nI (n + 1) ∧ (psF D N r).2 1 = r 1 ∧ (psF D N r).2 2 = r 2 ∧ (∀ c, c < 25 → (psF D N r).2 (3 + c) = r (3 + c)) ∧ ∃ k, k ≤ 8 ∧ (psF D N r).1 = nI k := by
  have key := it_inv (plF D N) (fun i p => WFm p.2 ∧ p.2 0 = r 0 ∧ p.2 1 = r 1 ∧ p.2 2 = r 2 ∧ (∀ c, c < 25 → p.2 (3 + c) = r (3 + c)) ∧ ∃ k, k ≤ i ∧ p.1 = nI k) 8 (fun i p hi hp => by
    obtain ⟨⟨w1, w2, w3⟩, p0, p1, p2, p3, k, hk, pk⟩ := hp
    unfold plF
    by_cases q : p.2 (28 + i) = 1
    · rw [if_pos q]
      rcases w3 i hi with z | ⟨-, c, hc, e⟩
      · rw [z.1] at q; exact absurd q (by decide)
      · by_cases d : bt D (p.2 (36 + i))
        · rw [if_pos d]
          refine ⟨⟨?_, fun c' hc' => ?_, fun l hl => ?_⟩, ?_, ?_, ?_, fun c' hc' => ?_, k + 1, by omega, ?_⟩
          · dsimp only; rw [upR_n _ _ (by omega), upR_n _ _ (by omega)]; exact w1
          · dsimp only; rw [upR_n _ _ (by omega), upR_n _ _ (by omega)]; exact w2 c' hc'
          · dsimp only
            by_cases y : l = i
            · subst y
              right
              rw [upR_n _ _ (by omega), upR_s, upR_n _ _ (by omega), upR_n _ _ (by omega)]
              exact ⟨Or.inr rfl, c, hc, e⟩
            · rw [upR_n _ _ (by omega), upR_n _ _ (by omega), upR_n _ _ (by omega), upR_n _ _ (by omega)]; exact w3 l hl
          · dsimp only; rw [upR_n _ _ (by omega), upR_n _ _ (by omega)]; exact p0
          · dsimp only; rw [upR_n _ _ (by omega), upR_n _ _ (by omega)]; exact p1
          · dsimp only; rw [upR_n _ _ (by omega), upR_n _ _ (by omega)]; exact p2
          · dsimp only; rw [upR_n _ _ (by omega), upR_n _ _ (by omega)]; exact p3 c' hc'
          · dsimp only; rw [pk, nI_1]
        · rw [if_neg d]
          rw [e, nI_clamp (by omega)]
          obtain ⟨d', hd', e'⟩ := hN c hc
          refine ⟨⟨?_, fun c' hc' => ?_, fun l hl => ?_⟩, ?_, ?_, ?_, fun c' hc' => ?_, k, by omega, pk⟩
          · dsimp only; rw [upR_n _ _ (by omega)]; exact w1
          · dsimp only; rw [upR_n _ _ (by omega)]; exact w2 c' hc'
          · dsimp only
            by_cases y : l = i
            · subst y
              right
              rw [upR_n _ _ (by omega), upR_s]
              exact ⟨Or.inl q, d', hd', e'⟩
            · rw [upR_n _ _ (by omega), upR_n _ _ (by omega)]; exact w3 l hl
          · dsimp only; rw [upR_n _ _ (by omega)]; exact p0
          · dsimp only; rw [upR_n _ _ (by omega)]; exact p1
          · dsimp only; rw [upR_n _ _ (by omega)]; exact p2
          · dsimp only; rw [upR_n _ _ (by omega)]; exact p3 c' hc'
    · rw [if_neg q]
      exact ⟨⟨w1, w2, w3⟩, p0, p1, p2, p3, k, by omega, pk⟩) 8 0 (0, r) rfl ⟨w, rfl, rfl, rfl, fun _ _ => rfl, 0, by omega, rfl⟩
  obtain ⟨⟨w1, w2, w3⟩, p0, p1, p2, p3, k, hk, pk⟩ := key
  rw [psF_2, psF_1]
  have e0 : upR (it (plF D N) 0 8 (0, r)).2 0 ((it (plF D N) 0 8 (0, r)).2 0 + 1) 0 = nI (n + 1) := by
    rw [upR_s, p0, h0, nI_1]
  refine ⟨⟨⟨n + 1, hn, e0⟩, fun c hc => ?_, fun l hl => ?_⟩, e0, ?_, ?_, fun c hc => ?_, k, hk, pk⟩
  · rw [upR_n _ _ (by omega)]; exact w2 c hc
  · rw [upR_n _ _ (by omega), upR_n _ _ (by omega)]; exact w3 l hl
  · rw [upR_n _ _ (by omega)]; exact p1
  · rw [upR_n _ _ (by omega)]; exact p2
  · rw [upR_n _ _ (by omega)]; exact p3 c hc
