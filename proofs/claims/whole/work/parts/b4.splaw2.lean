/-! law: the call -/
section SM
variable {B : Nat → Nat} {n q t N : Nat} {g : hG}
theorem law_c (hb : TB B n g) (ht : HT t) : ∃ (res : Option Nat) (g' : hG), q_Rd_read t 0 g = some ((match res with | none => -1 | some q => nI q), g') ∧ Un (sLC t) g g' ∧
      match res with
      | none => ∃ (M sz : Nat) (hd : Nat → Bool) (te su : Nat → Den), M ≤ 12 ∧ gI g' t 2 = nI M ∧ gI g' t 1 = nI sz ∧ sz ≤ 402 ∧ (∀ j, j < M → DC g' t sz j (hd j) (te j) (su j)) ∧ ∀ (f : hG), PQ B n (nb B n 0) 0 0 f → CoR f → gI f 367 21 = nI 0 → ∃ (pa' : Nat) (len' : Nat) (f' : hG), mL (fun g17 => q_Mo_law_33 g17) FU f = q_Mo_law_33 f' ∧ PQ B n n pa' len' f' ∧ Un sLw f f' ∧ gI f' 367 21 = nI M ∧ ∀ j, j < M → DM f' len' j (hd j) (te j) (su j)
      | some q => q ≤ n ∧ ∀ (f : hG), PQ B n (nb B n 0) 0 0 f → CoR f → gI f 367 21 = nI 0 → ∃ f', mL (fun g17 => q_Mo_law_33 g17) FU f = q_Mo_law_33 f' ∧ MEnd B n q f' ∧ Un sLw f f' := by
  obtain ⟨g1, e1, e2, e3, e4, e5, e6⟩ := read_c hb ht 0 (Or.inl rfl)
  obtain ⟨res, g2, r1, r2, r3⟩ := rules_l (a1 := t) (fun g17 => q_Mo_law_33 g17) 12 0 FU FU (nb B n 0) 2 0 g1 (fun _ => true) (fun _ => fun _ => none) (fun _ => fun _ => none) rfl (by decide) (by decide) e2 e3 ⟨e4, e5, by omega⟩ (fun j hj => absurd hj (Nat.not_lt_zero _))
  refine ⟨res, g2, e1.trans r1, e6.tr (r2.mo fun _ _ z => sTy_sLC z), ?_⟩
  cases res with
  | none =>
    obtain ⟨M, sz, hd, te, su, a1, a2, a3, a4, a5, a6⟩ := r3
    exact ⟨M, sz, hd, te, su, a1, a2, a3, a4, a5, fun f h1 h2 h3 => a6 0 f h1 h2 h3 (fun j hj => absurd hj (Nat.not_lt_zero _))⟩
  | some q => exact ⟨r3.1, fun f h1 h2 h3 => r3.2 0 f h1 h2 h3 (fun j hj => absurd hj (Nat.not_lt_zero _))⟩
def LX (N a k : Nat) : Prop := (10 + 7 * N ≤ a ∧ a ≤ 16 + 7 * N) ∨ (a = 367 ∧ (k = 1 ∨ k = 13 ∨ k = 18 ∨ k = 20)) ∨ (a = 1 ∧ k = 8) ∨ a = 263 ∨ (a = 235 ∧ k = 1) ∨ a = 264 ∨ a = 368 ∨ (a = 369 ∧ (k = 1 ∨ (68 + 900 * N ≤ k ∧ k < 968 + 900 * N)))
theorem law_inv {g' : hG} (h : Inv g) (hN : N < 6) (h1 : gI g 369 1 = nI N) (E : ∀ a k, sX a k = false → ¬ LX N a k → gI g' a k = gI g a k) (eJ : ∀ a k, (a = 382 ∨ a = 383 ∨ a = 384 ∨ a = 395 ∨ a = 396) → gJ g' a k = gJ g a k) (e20 : gI g' 367 20 = 0) (eT : gI g' 235 1 = 0) (eM : gI g' 367 13 = 0) (eN : NoteR g') (eL : (gI g' 1 8 = nI N ∧ gI g' 369 1 = nI N) ∨ (gI g' 1 8 = nI (N + 1) ∧ gI g' 369 1 = nI (N + 1) ∧ LawR g' (10 + 7 * N) (fun i => gI g' 369 (68 + 900 * N + i)))) : Inv g' := by
  obtain ⟨⟨⟨k1, ⟨c1, c2, c3, c4, c5, c6⟩, k3, k4⟩, w⟩, h2, h3, h4, h5, h6, h7⟩ := h
  have K : ∀ a k, 1 ≤ a → a ≤ 51 → ¬ (10 + 7 * N ≤ a ∧ a ≤ 16 + 7 * N) → ¬ (a = 1 ∧ k = 8) → gI g' a k = gI g a k := fun a k q1 q2 q3 q4 => E a k (suK_x a k (by simp [suK]; omega)) (by unfold LX; omega)
  have R : ∀ k, k ≠ 1 → ¬ (68 + 900 * N ≤ k ∧ k < 968 + 900 * N) → gI g' 369 k = gI g 369 k := fun k q1 q2 => E 369 k (suK_x 369 k (by simp [suK])) (by unfold LX; omega)
  have cn : ∃ m, m ≤ N + 1 ∧ N ≤ m ∧ gI g' 369 1 = nI m ∧ gI g' 1 8 = nI m ∧ (m = N + 1 → LawR g' (10 + 7 * N) (fun i => gI g' 369 (68 + 900 * N + i))) := by
    rcases eL with ⟨a, b⟩ | ⟨a, b, c⟩
    · exact ⟨N, by omega, by omega, b, a, fun z => by omega⟩
    · exact ⟨N + 1, by omega, by omega, b, a, fun _ => c⟩
  obtain ⟨m, m1, m2, m3, m4, m5⟩ := cn
  refine ⟨⟨⟨k1.ex (fun j k hj => K _ _ (by omega) (by omega) (by omega) (by omega)) (fun i hi _ _ => R _ (by omega) (by omega)), ⟨?_, ?_, ?_, ?_, m4.trans m3.symm, ?_⟩, fun k hk => ⟨?_, ?_⟩, fun k n' q1 q2 q3 => ?_⟩, ?_⟩, h2.ag (fun a k q => ?_), h3.ag (fun a k q => ?_), ⟨0, by omega, eT, eM, fun j hj => absurd hj (Nat.not_lt_zero _)⟩, eN, h6.ag (fun a k q => ?_), h7.ag (e20.trans h7.1.symm) eJ⟩
  · rw [K 1 1 (by omega) (by omega) (by omega) (by omega), R 3 (by omega) (by omega)]; exact c1
  · rw [K 1 2 (by omega) (by omega) (by omega) (by omega), R 5 (by omega) (by omega)]; exact c2
  · rw [K 1 3 (by omega) (by omega) (by omega) (by omega), R 6 (by omega) (by omega)]; exact c3
  · rw [K 1 6 (by omega) (by omega) (by omega) (by omega), R 0 (by omega) (by omega)]; exact c4
  · rw [K 1 9 (by omega) (by omega) (by omega) (by omega), R 2 (by omega) (by omega)]; exact c6
  · rw [K _ k (by omega) (by omega) (by omega) (by omega), R _ (by omega) (by omega)]; exact (k3 k hk).1
  · rw [K _ k (by omega) (by omega) (by omega) (by omega), R _ (by omega) (by omega)]; exact (k3 k hk).2
  · have e : n' = m := (nI_eq (by omega) (by omega)).mp (q1.symm.trans m3)
    subst e
    by_cases z : k = N
    · subst z
      have := m5 (by omega)
      rw [show 1 + 9 + 7 * k = 10 + 7 * k by omega]
      exact this
    · have y : ∀ j k', j ≤ 6 → gI g' (1 + 9 + 7 * k + j) k' = gI g (1 + 9 + 7 * k + j) k' := fun j k' hj => K _ _ (by omega) (by omega) (by omega) (by omega)
      exact (k4 k N h1 (by omega) (by omega)).ex (y 0 1 (by omega)) (y 0 2 (by omega)) (fun j _ => y 1 j (by omega)) (fun i _ => ⟨y 2 i (by omega), y 3 i (by omega), y 6 i (by omega)⟩) (fun j hj => R _ (by omega) (by omega))
  · obtain ⟨w1, w2, w3, w4, w5, ⟨m', w6, w7, w8⟩, ⟨m6, w9, w10, w11⟩⟩ := w
    have e : m6 = N := (nI_eq (by omega) (by omega)).mp (w10.symm.trans h1)
    refine ⟨w1.ex (fun i hi _ _ => R _ (by omega) (by omega)), ?_, ?_, ?_, ?_, ⟨m', w6, ?_, fun k hk => ?_⟩, ⟨m, by omega, m3, ?_⟩⟩
    · rw [R 4 (by omega) (by omega)]; exact w2
    · rw [R 5 (by omega) (by omega)]; exact w3
    · rw [R 6 (by omega) (by omega)]; exact w4
    · rw [R 3 (by omega) (by omega)]; exact w5
    · rw [R 0 (by omega) (by omega)]; exact w7
    · rw [R _ (by omega) (by omega), R _ (by omega) (by omega)]; exact w8 k hk
    · rw [R 2 (by omega) (by omega)]
      rcases w11 with x | ⟨f, x1, x2⟩
      · exact Or.inl x
      · exact Or.inr ⟨f, by omega, x2⟩
  · refine E a k (suP_x a k q) ?_
    simp only [suP, Bool.or_eq_true, Bool.and_eq_true, beq_iff_eq, Nat.ble_eq] at q
    unfold LX
    omega
  · refine E a k (suI_x a k q) ?_
    simp only [suI, Bool.or_eq_true, Bool.and_eq_true, beq_iff_eq, Nat.ble_eq] at q
    unfold LX
    omega
  · refine E a k (suD_x a k q) ?_
    simp only [suD, Bool.or_eq_true, Bool.and_eq_true, beq_iff_eq, Nat.ble_eq] at q
    unfold LX
    omega
theorem sBt_X {a k : Nat} (h : sX a k = false) (h2 : ¬ LX N a k) : sBt a k = false := by
  refine Bool.eq_false_iff.mpr (fun q => Bool.eq_false_iff.mp h ?_)
  simp only [sBt, sLw, sPm, Bool.or_eq_true, Bool.and_eq_true, beq_iff_eq] at q
  simp only [sX, sM, sMf, Bool.or_eq_true, Bool.and_eq_true, beq_iff_eq, Nat.ble_eq]
  unfold LX at h2
  omega
theorem sLC_X {a k : Nat} (h : sX a k = false) (h2 : ¬ LX N a k) : sLC (10 + 7 * N) a k = false := by
  refine Bool.eq_false_iff.mpr (fun q => Bool.eq_false_iff.mp h ?_)
  simp only [sLC, Bool.or_eq_true, Bool.and_eq_true, Nat.ble_eq] at q
  unfold LX at h2
  rcases q with q | q
  · exact q
  · omega
theorem NoteR.law {g' : hG} (h : NoteR g) (e1 : gI g' 263 1 = gI g' 367 1) (e2 : gI g' 263 2 = gI g' 367 18) (a3 : gI g' 263 3 = gI g 263 3) (a4 : gI g' 263 4 = gI g 263 4) (b3 : gI g' 367 53 = gI g 367 53) (b4 : gI g' 367 11 = gI g 367 11) (c : ∀ k, k < 7 → gI g' 264 k = gI g' 368 k) : NoteR g' := ⟨e1, e2, by rw [a3, b3]; exact h.2.2.1, by rw [a4, b4]; exact h.2.2.2.1, c⟩
end SM
