/-! whither a drop runs, by the class -/
def SV (Lo : Option Lw) (r hi : Nat → Int32) (d : Nat) : Int32 := svF Lo (fcF r (nI d) (hi d)) (hi d)
def HV (Lo : Option Lw) (r hi : Nat → Int32) (d : Nat) : Bool := hdF Lo (fcF r (nI d) (hi d))
/-- the lowest beside, the first of alike ones -/
def rnF (S : Nat → Int32) (c : Nat) : Int32 := it (fun w to => if bsF (nI c) (nI w) = -1 then to else if S to.toNatClampNeg ≤ S (bsF (nI c) (nI w)).toNatClampNeg then to else bsF (nI c) (nI w)) 0 4 (nI c)
def nextF (D : Int32) (S : Nat → Int32) (H : Nat → Bool) (c : Nat) : Int32 := if bt D (nI c) then nI c else if H c = true then nI c else rnF S c
theorem rnF_in (S : Nat → Int32) {c : Nat} (hc : c < 25) : ∃ d, d < 25 ∧ rnF S c = nI d := by
  unfold rnF
  refine it_inv _ (fun _ b => ∃ d, d < 25 ∧ b = nI d) 4 (fun i b hi hb => ?_) 4 0 (nI c) rfl ⟨c, hc, rfl⟩
  rcases bs_in c hc i hi with e | ⟨d, hd, e⟩
  · rw [if_pos e]; exact hb
  · rw [if_neg (by rw [e]; exact fun q => by have := nI_pos' (show d < 2 ^ 31 by omega); rw [q] at this; exact absurd this (by decide))]
    split
    · exact hb
    · exact ⟨d, hd, e⟩
theorem nextF_in (D : Int32) (S : Nat → Int32) (H : Nat → Bool) {c : Nat} (hc : c < 25) : ∃ d, d < 25 ∧ nextF D S H c = nI d := by
  unfold nextF
  split
  · exact ⟨c, hc, rfl⟩
  · split
    · exact ⟨c, hc, rfl⟩
    · exact rnF_in S hc
theorem next_loop {b : Nat} {r hi : Nat → Int32} {Lo : Option Lw} {c : Nat} (hc : c < 25) : ∀ (m w F : Nat) (g : hG) (to : Nat), w + m = 4 → m < F → to < 25 → Faced g b r hi → LE g (gI g 250 6) Lo → SlOK g Lo r hi → bt (gI g 250 8) (nI to) →
    ∃ g', q_Slope_next_19L (nI c) (fun x19 g22 => some (x19, g22)) F (nI to) (nI w) g = some (it (fun w to => if bsF (nI c) (nI w) = -1 then to else if SV Lo r hi to.toNatClampNeg ≤ SV Lo r hi (bsF (nI c) (nI w)).toNatClampNeg then to else bsF (nI c) (nI w)) w m (nI to), g') ∧ Un sS g g' ∧ SlOK g' Lo r hi := by
  intro m
  induction m with
  | zero =>
    intro w F g to h1 h2 h3 h4 h5 h6 h7
    obtain ⟨F, rfl⟩ : ∃ q, F = q + 1 := ⟨F - 1, by omega⟩
    obtain rfl : w = 4 := by omega
    rw [q_Slope_next_19L_s]
    unfold q_Slope_next_19
    rw [if_pos (by decide)]
    exact ⟨g, rfl, Un.rf, h6⟩
  | succ m ih =>
    intro w F g to h1 h2 h3 h4 h5 h6 h7
    obtain ⟨F, rfl⟩ : ∃ q, F = q + 1 := ⟨F - 1, by omega⟩
    rw [q_Slope_next_19L_s]
    unfold q_Slope_next_19
    rw [if_neg (show ¬ (4 : Int32) ≤ nI w from nI_ge (a := w) (b := 4) (by omega) (by decide)), bs_c, bnd_s, nI_1]
    rw [it]
    rcases bs_in c hc w (by omega) with e | ⟨d, hd, e⟩
    · rw [if_pos e, if_pos e]
      exact ih (w + 1) F g to (by omega) (by omega) h3 h4 h5 h6 h7
    · have ne : ¬ bsF (nI c) (nI w) = -1 := by rw [e]; exact fun q => by have := nI_pos' (show d < 2 ^ 31 by omega); rw [q] at this; exact absurd this (by decide)
      obtain ⟨g1, a1, a2, a3, a4, a5⟩ := learn_c h4 h5 h6 hd
      have F1 := h4.un a2
      have E1 : LE g1 (gI g1 250 6) Lo := by rw [a2.I rfl]; exact h5.un a2
      have s1 : gI g1 252 to = SV Lo r hi to := (a3 to h3 (a5 to h3 h7)).1
      have s2 : gI g1 252 d = SV Lo r hi d := (a3 d hd a4).1
      rw [if_neg ne, if_neg ne, e, a1, bnd_s, gd_nI hd (by omega), gd_nI h3 (by omega), nI_clamp (by omega), nI_clamp (by omega), s1, s2]
      by_cases q : SV Lo r hi to ≤ SV Lo r hi d
      · rw [if_pos q, if_pos q]
        obtain ⟨g', e1, e2, e3⟩ := ih (w + 1) F g1 to (by omega) (by omega) h3 F1 E1 a3 (a5 to h3 h7)
        exact ⟨g', e1, a2.tr e2, e3⟩
      · rw [if_neg q, if_neg q]
        obtain ⟨g', e1, e2, e3⟩ := ih (w + 1) F g1 d (by omega) (by omega) hd F1 E1 a3 a4
        exact ⟨g', e1, a2.tr e2, e3⟩
theorem next_c {g : hG} {b : Nat} {r hi : Nat → Int32} {Lo : Option Lw} (h : Faced g b r hi) (hl : LE g (gI g 250 6) Lo) (ok : SlOK g Lo r hi) {c : Nat} (hc : c < 25) : ∃ g', q_Slope_next (nI c) g = some (nextF (gI g 1 1) (SV Lo r hi) (HV Lo r hi) c, g') ∧ Un sS g g' ∧ SlOK g' Lo r hi := by
  obtain ⟨g1, a1, a2, a3, a4, a5⟩ := learn_c h hl ok hc
  unfold q_Slope_next nextF
  rw [a1, bnd_s, hasDoor_c, bnd_s, a2.I rfl]
  by_cases hd : bt (gI g 1 1) (nI c)
  · rw [bI_t hd, if_neg (by decide), if_pos hd]
    exact ⟨g1, rfl, a2, a3⟩
  · rw [bI_f hd, if_pos rfl, if_neg hd, isA_c, bnd_s]
    have hh := (a3 c hc a4).2
    by_cases hx : bt (gI g1 250 9) (nI c)
    · rw [bI_t hx, if_neg (by decide), if_pos (show HV Lo r hi c = true from hh.mp hx)]
      exact ⟨g1, rfl, a2, a3⟩
    · rw [bI_f hx, if_pos rfl, if_neg (show ¬ HV Lo r hi c = true from fun z => hx (hh.mpr z))]
      obtain ⟨g', e1, e2, e3⟩ := next_loop (b := b) (r := r) (hi := hi) (Lo := Lo) hc 4 0 FU g1 c (by omega) (by decide) hc (h.un a2) (by rw [a2.I rfl]; exact hl.un a2) a3 a4
      exact ⟨g', e1, a2.tr e2, e3⟩
theorem standOf_c {g : hG} {b : Nat} {r hi : Nat → Int32} {Lo : Option Lw} (h : Faced g b r hi) (hl : LE g (gI g 250 6) Lo) (ok : SlOK g Lo r hi) {c : Nat} (hc : c < 25) : ∃ g', q_Slope_standOf (nI c) g = some (SV Lo r hi c, g') ∧ Un sS g g' := by
  obtain ⟨g1, a1, a2, a3, a4, a5⟩ := learn_c h hl ok hc
  unfold q_Slope_standOf
  rw [a1, bnd_s, gd_nI hc (by omega), nI_clamp (by omega), (a3 c hc a4).1]
  exact ⟨g1, rfl, a2⟩
theorem holdsAt_c {g : hG} {b : Nat} {r hi : Nat → Int32} {Lo : Option Lw} (h : Faced g b r hi) (hl : LE g (gI g 250 6) Lo) (ok : SlOK g Lo r hi) {c : Nat} (hc : c < 25) : ∃ g', q_Slope_holdsAt (nI c) g = some (bI (HV Lo r hi c = true), g') ∧ Un sS g g' := by
  obtain ⟨g1, a1, a2, a3, a4, a5⟩ := learn_c h hl ok hc
  unfold q_Slope_holdsAt
  have hh := (a3 c hc a4).2
  rw [a1, bnd_s, isA_c, bnd_s, gb_bI]
  refine ⟨g1, ?_, a2⟩
  by_cases hx : bt (gI g1 250 9) (nI c)
  · rw [bI_t hx, bI_t (show HV Lo r hi c = true from hh.mp hx)]
  · rw [bI_f hx, bI_f (show ¬ HV Lo r hi c = true from fun z => hx (hh.mpr z))]
