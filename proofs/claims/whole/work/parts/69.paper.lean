/-! hours on paper -/
def stepP (D : Int32) (Lo : Option Lw) (r : Nat → Int32) : Nat → Int32 := (psF D (nextF D (SV Lo r (hiR r)) (HV Lo r (hiR r))) r).2
def pN (D : Int32) (Lo : Option Lw) : Nat → (Nat → Int32) → Nat → Int32
  | 0, r => r
  | n + 1, r => pN D Lo n (stepP D Lo r)
theorem stepP_wf {D : Int32} {Lo : Option Lw} {r : Nat → Int32} {n : Nat} (w : WFm r) (h0 : r 0 = nI n) (hn : n + 1 < 2000) : WFm (stepP D Lo r) ∧ stepP D Lo r 0 = nI (n + 1) ∧ stepP D Lo r 1 = r 1 ∧ stepP D Lo r 2 = r 2 := by
  obtain ⟨w1, w2, w3, w4, -⟩ := ps_wf (D := D) (N := nextF D (SV Lo r (hiR r)) (HV Lo r (hiR r))) w (fun c hc => nextF_in _ _ _ hc) h0 hn
  exact ⟨w1, w2, w3, w4⟩
theorem sH225 {x k : Nat} (h : x ≤ 224) : sH 225 x k = false := Bool.eq_false_iff.mpr (fun q => by
  simp only [sH, sW, Bool.or_eq_true, Bool.and_eq_true, beq_iff_eq, Nat.ble_eq] at q; omega)
theorem paper_l {Lo : Option Lw} {D : Int32} (n : Nat) (hn : n < 2 ^ 31) (K : hG → hO Unit) : ∀ (m i F h : Nat) (g : hG) (r : Nat → Int32), i + m = n → m < F → h + m < 2000 → r 0 = nI h → MomR g 225 r → WFm r → gI g 1 2 = r 1 → gI g 1 3 = r 2 → LE g (gI g 1 9) Lo → gI g 1 1 = D → ∃ g', q_MP_passOnPaper_7L (nI n) K F (nI i) g = K g' ∧ MomR g' 225 (pN D Lo m r) ∧ WFm (pN D Lo m r) ∧ Un (sH 225) g g' := by
  intro m
  induction m with
  | zero =>
    intro i F h g r h1 h2 h3 h0 mr w c1 c2 hl hd
    obtain ⟨F, rfl⟩ : ∃ q, F = q + 1 := ⟨F - 1, by omega⟩
    rw [q_MP_passOnPaper_7L_s]
    unfold q_MP_passOnPaper_7
    rw [if_pos (nI_le (by omega) (by omega))]
    exact ⟨g, rfl, mr, w, Un.rf⟩
  | succ m ih =>
    intro i F h g r h1 h2 h3 h0 mr w c1 c2 hl hd
    obtain ⟨F, rfl⟩ : ∃ q, F = q + 1 := ⟨F - 1, by omega⟩
    obtain ⟨g1, a1, a2, a3⟩ := passHour_c rfl mr w c1 c2 hl
    rw [hd] at a1 a2
    obtain ⟨w1, w2, w3, w4⟩ := stepP_wf (D := D) (Lo := Lo) w h0 (by omega)
    rw [q_MP_passOnPaper_7L_s]
    unfold q_MP_passOnPaper_7
    rw [if_neg (nI_ge (by omega) hn), a1, bnd_s, nI_1]
    obtain ⟨g', e1, e2, e3, e4⟩ := ih (i + 1) F (h + 1) g1 (stepP D Lo r) (by omega) (by omega) (by omega) w2 a2 w1
      (by rw [a3.I (sH225 (by omega)), w3]; exact c1) (by rw [a3.I (sH225 (by omega)), w4]; exact c2)
      (by rw [a3.I (sH225 (by omega))]; exact hl.ex (fun x k hx => a3.I (sH225 (by omega)))) (by rw [a3.I (sH225 (by omega))]; exact hd)
    exact ⟨g', e1, e2, e3, a3.tr e4⟩
theorem paper_c {g : hG} (hi : Inv g) {Lo : Option Lw} (hl : LE g (gI g 1 9) Lo) {n : Nat} (hn : n < 1000) : ∃ g', q_MP_passOnPaper (nI n) g = some ((), g') ∧ MomR g' 225 (pN (gI g 369 3) Lo n (fun i => gI g 369 (4 + i))) ∧ WFm (pN (gI g 369 3) Lo n (fun i => gI g 369 (4 + i))) ∧ Un (sH 225) g g' := by
  obtain ⟨m1, m2, m3, m4, m5, m6, m7, m8⟩ := inv_m hi
  obtain ⟨hh, hh9, eh⟩ := hi.1.2.2.1
  obtain ⟨g1, a1, a2, a3, a4, a5⟩ := momcopy 225 2 g (by omega)
  have u1 : Un (sH 225) g g1 := fun x k z => by
    refine ⟨a2 x k (fun q => ?_), by rw [a4], by rw [a5]⟩
    have z' := Bool.eq_false_iff.mp z
    simp only [sH, Ne, Bool.or_eq_true, Bool.and_eq_true, Nat.ble_eq] at z'
    omega
  obtain ⟨g', e1, e2, e3, e4⟩ := paper_l (Lo := Lo) (D := gI g 369 3) n (by omega) (fun g8 => some ((), g8)) n 0 FU hh g1 (fun i => gI g 369 (4 + i)) (by omega) (Nat.lt_of_lt_of_le hn (by decide)) (by omega) eh (a3 _ m1) m2
    (by rw [a2 _ _ (by omega)]; exact m4) (by rw [a2 _ _ (by omega)]; exact m5) (by rw [a2 _ _ (by omega)]; exact hl.ex (fun x k hx => a2 _ _ (by omega))) (by rw [a2 _ _ (by omega)]; exact m7)
  refine ⟨g', ?_, e2, e3, u1.tr e4⟩
  unfold q_MP_passOnPaper
  rw [a1, bnd_s]
  exact e1
theorem LEM.ex2 {g g' : hG} {Lo : Option Lw} (h : LEM g Lo) (q : ∀ i, i = 2 ∨ i = 5 ∨ i = 6 ∨ 68 ≤ i → gI g' 369 i = gI g 369 i) (q2 : gI g' 367 20 = gI g 367 20) : LEM g' Lo := by
  obtain ⟨h0, h⟩ := h
  refine ⟨⟨q2.trans h0.1, by rw [q _ (by omega)]; exact h0.2.1, by rw [q _ (by omega)]; exact h0.2.2⟩, ?_⟩
  rcases h with ⟨h1, h2⟩ | ⟨k, L, h1, h2, h3, h4⟩
  · exact Or.inl ⟨h1, (q _ (by omega)).trans h2⟩
  · refine Or.inr ⟨k, L, (q _ (by omega)).trans h1, h2, h3, ?_⟩
    have e : (fun i => gI g' 369 (68 + 900 * k + i)) = fun i => gI g 369 (68 + 900 * k + i) := funext (fun i => q _ (by omega))
    rw [e]; exact h4
theorem sHM_369 {k : Nat} (h : k < 4 ∨ 56 ≤ k ∨ k = 5 ∨ k = 6) : sHM 369 k = false := Bool.eq_false_iff.mpr (fun q => by
  simp only [sHM, sV, sT, Bool.or_eq_true, Bool.and_eq_true, beq_iff_eq, Nat.ble_eq] at q; omega)
theorem later_l {Lo : Option Lw} {D : Int32} (n : Nat) (hn : n < 2 ^ 31) (K : hG → hO Int32) : ∀ (m i F h : Nat) (g : hG) (r : Nat → Int32), i + m = n → m < F → h + m < 2000 → r 0 = nI h → MomM g r → WFm r → LEM g Lo → gI g 369 3 = D → ∃ g', q_Mo_later_19L (nI n) K F (nI i) g = K g' ∧ MomM g' (pN D Lo m r) ∧ Un sHM g g' ∧ ∀ y, gJ g' 369 y = gJ g 369 y ∧ gP g' 369 y = gP g 369 y := by
  intro m
  induction m with
  | zero =>
    intro i F h g r h1 h2 h3 h0 mr w hl hd
    obtain ⟨F, rfl⟩ : ∃ q, F = q + 1 := ⟨F - 1, by omega⟩
    rw [q_Mo_later_19L_s]
    unfold q_Mo_later_19
    rw [if_pos (nI_le (by omega) (by omega))]
    exact ⟨g, rfl, mr, Un.rf, fun _ => ⟨rfl, rfl⟩⟩
  | succ m ih =>
    intro i F h g r h1 h2 h3 h0 mr w hl hd
    obtain ⟨F, rfl⟩ : ∃ q, F = q + 1 := ⟨F - 1, by omega⟩
    obtain ⟨g1, a1, a2, a3, a4⟩ := passIt_m2 mr w hl
    rw [hd] at a1 a2
    obtain ⟨w1, w2, w3, w4⟩ := stepP_wf (D := D) (Lo := Lo) w h0 (by omega)
    rw [q_Mo_later_19L_s]
    unfold q_Mo_later_19
    rw [if_neg (nI_ge (by omega) hn), a1, bnd_s, nI_1]
    obtain ⟨g', e1, e2, e3, e4⟩ := ih (i + 1) F (h + 1) g1 (stepP D Lo r) (by omega) (by omega) (by omega) w2 a2 w1
      (hl.ex2 (fun j hj => a3.I (sHM_369 (by omega))) (a3.I rfl)) (by rw [a3.I (sHM_369 (by omega))]; exact hd)
    exact ⟨g', e1, e2, a3.tr e3, fun y => ⟨(e4 y).1.trans (a4 y).1, (e4 y).2.trans (a4 y).2⟩⟩
