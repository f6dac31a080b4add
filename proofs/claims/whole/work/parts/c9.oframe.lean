/-! orders: the model's frame; the class's reader -/
section LFo
variable {B : Nat → Nat} {n q pa len : Nat} {f : hG}
def sBo (a k : Nat) : Bool := sLo a k || (a == 367 && (k == 20 || k == 13 || k == 0))
theorem sLo_sBo {f f' : hG} (u : Un sLo f f') : Un sBo f f' := u.mo (fun a k z => by unfold sBo at z; rw [Bool.or_eq_false_iff] at z; exact z.1)
theorem begin_o {f : hG} (h : TBM B n f) : ∃ f', q_Mo_beginText 1 f = some ((), f') ∧ PQo B n (nb B n 0) 0 0 f' ∧ gI f' 367 21 = nI 0 ∧ Un sBo f f' := by
  have e1 : TBM B n (sI (sI (sI (sI f 367 20 1) 367 15 0) 367 19 0) 367 18 (-1)) := ⟨h.1, by rw [rd_k (by decide), rd_k (by decide), rd_k (by decide), rd_k (by decide)]; exact h.2.1, fun j hj => ⟨by rw [rd_a (by decide), rd_a (by decide), rd_a (by decide), rd_a (by decide)]; exact (h.2.2 j hj).1, (h.2.2 j hj).2⟩⟩
  obtain ⟨f1, a1, a2, a3⟩ := next_m e1 (Nat.zero_le n) (by rw [rd_k (by decide), rd_k (by decide), rd_s]; rfl) rd_s
  have r : ∀ k, k ≠ 14 → k ≠ 15 → k ≠ 16 → k ≠ 17 → gI f1 367 k = gI (sI (sI (sI (sI f 367 20 1) 367 15 0) 367 19 0) 367 18 (-1)) 367 k := fun k h1 h2 h3 h4 => a3.I (by unfold sNx; simp [h1, h2, h3, h4])
  have u0 : Un sBo f (sI (sI (sI (sI f 367 20 1) 367 15 0) 367 19 0) 367 18 (-1)) := (((Un.rf.sI rfl _).sI rfl _).sI rfl _).sI rfl _
  refine ⟨sI (sI (sI f1 367 21 0) 367 23 0) 367 26 0, ?_, ⟨⟨e1.1, ?_, fun j hj => ⟨?_, (e1.2.2 j hj).2⟩⟩, a2.ex (fun k hk => ?_) rfl, (tk_0 B n).1, ?_, ?_, ?_, rd_s, Nat.zero_le _⟩, ?_, (((u0.tr (sLo_sBo (sPm_sLo (sNx_sPm a3)))).sI rfl _).sI rfl _).sI rfl _⟩
  · unfold q_Mo_beginText q_Mo_begin
    rw [gb_1, wr_e, wr_e, wr_e, wr_e, a1, bnd_s, bnd_s, wr_e, wr_e, wr_e]
  · rw [rd_k (by decide), rd_k (by decide), rd_k (by decide), r 13 (by decide) (by decide) (by decide) (by decide)]; exact e1.2.1
  · rw [rd_a (by decide), rd_a (by decide), rd_a (by decide), a3.I rfl]; exact (e1.2.2 j hj).1
  · rw [rd_k (by omega), rd_k (by omega), rd_k (by omega)]
  · rw [rd_k (by decide), rd_k (by decide), rd_k (by decide), r 19 (by decide) (by decide) (by decide) (by decide), rd_k (by decide), rd_s]
  · rw [rd_k (by decide), rd_k (by decide), rd_k (by decide), r 20 (by decide) (by decide) (by decide) (by decide), rd_k (by decide), rd_k (by decide), rd_k (by decide), rd_s]
  · rw [rd_k (by decide), rd_s]; rfl
  · rw [rd_k (by decide), rd_k (by decide), rd_s]; rfl
theorem end_oko (h : PQo B n n pa len f) : q_Mo_endText f = some ((), sI (sI f 367 20 0) 367 13 0) := by
  have k := (num_m h.1 h.2.1).2.2.mpr tk_end
  unfold q_Mo_endText q_Mo_endText_9
  rw [if_pos h.2.2.2.1, if_pos k, wr_e, wr_e]
theorem end_bado (h : MEndo B n q f) : ∃ f', q_Mo_endText f = some ((), f') ∧ MFl q f' ∧ gI f' 367 13 = 0 ∧ Un sBo f f' := by
  rcases h with h | ⟨⟨pa, len, h⟩, hq⟩
  · refine ⟨sI (sI f 367 20 0) 367 13 0, ?_, ⟨by rw [rd_k (by decide), rd_k (by decide)]; exact h.1, by rw [rd_k (by decide), rd_k (by decide)]; exact h.2.1, by rw [rd_k (by decide), rd_s]⟩, rd_s, (Un.rf.sI rfl _).sI rfl _⟩
    unfold q_Mo_endText q_Mo_endText_9
    rw [if_neg (by rw [h.1]; decide), wr_e, wr_e]
  · obtain ⟨f1, a1, a2, a3⟩ := must_qo0 h
    refine ⟨sI (sI f1 367 20 0) 367 13 0, ?_, ⟨by rw [rd_k (by decide), rd_k (by decide)]; exact a2.1, by rw [rd_k (by decide), rd_k (by decide)]; exact a2.2.1, by rw [rd_k (by decide), rd_s]⟩, rd_s, ((sLo_sBo (sPm_sLo a3)).sI rfl _).sI rfl _⟩
    have k : ¬ gI f 367 16 = 0 := fun z => hq ((num_m h.1 h.2.1).2.2.mp z)
    unfold q_Mo_endText q_Mo_endText_9
    rw [if_pos h.2.2.2.1, if_neg k, a1, bnd_s, wr_e, wr_e]
theorem ht_240 : HT 240 := ⟨by decide, Or.inr rfl⟩
theorem sLC_240 {a k : Nat} (h : sX a k = false) : sLC 240 a k = false := sLC_f h (fun q => Bool.eq_false_iff.mp h (by
  simp only [sX, sC, Bool.or_eq_true, Bool.and_eq_true, beq_iff_eq, Nat.ble_eq]
  omega))
theorem ord_c {g : hG} (hb : TB B n g) : ∃ (res : Option Nat) (g' : hG), q_Rd_read 240 1 g = some ((match res with | none => -1 | some q => nI q), g') ∧ Un sX g g' ∧
      match res with
      | none => ∃ (M sz : Nat) (hd : Nat → Nat × Nat) (te : Nat → Den) (su : Nat → Den × Den), M ≤ 12 ∧ gI g' 240 2 = nI M ∧ gI g' 240 1 = nI sz ∧ sz ≤ 402 ∧ (∀ j, j < M → DCo g' 240 sz j (hd j) (te j) (su j)) ∧ ∀ (f : hG), PQo B n (nb B n 0) 0 0 f → CoR f → gI f 367 21 = nI 0 → ∃ (pa' : Nat) (len' : Nat) (f' : hG), mO (fun g18 => q_Mo_orders_23 g18) FU f = q_Mo_orders_23 f' ∧ PQo B n n pa' len' f' ∧ Un sLo f f' ∧ gI f' 367 21 = nI M ∧ ∀ j, j < M → DMo f' len' j (hd j) (te j) (su j)
      | some q => q ≤ n ∧ ∀ (f : hG), PQo B n (nb B n 0) 0 0 f → CoR f → gI f 367 21 = nI 0 → ∃ f', mO (fun g18 => q_Mo_orders_23 g18) FU f = q_Mo_orders_23 f' ∧ MEndo B n q f' ∧ Un sLo f f' := by
  obtain ⟨g1, e1, e2, e3, e4, e5, e6⟩ := read_c hb ht_240 1 (Or.inr rfl)
  obtain ⟨res, g2, r1, r2, r3⟩ := orders_l (a1 := 240) (fun g18 => q_Mo_orders_23 g18) 12 0 FU FU (nb B n 0) 2 0 g1 (fun _ => (0, 0)) (fun _ => fun _ => none) (fun _ => (fun _ => none, fun _ => none)) rfl (by decide) (by decide) e2 e3 ⟨e4, e5, by omega⟩ (fun j hj => absurd hj (Nat.not_lt_zero _))
  refine ⟨res, g2, e1.trans r1, (e6.tr (r2.mo fun _ _ z => sTy_sLC z)).mo (fun _ _ z => sLC_240 z), ?_⟩
  cases res with
  | none =>
    obtain ⟨M, sz, hd, te, su, a1, a2, a3, a4, a5, a6⟩ := r3
    exact ⟨M, sz, hd, te, su, a1, a2, a3, a4, a5, fun f h1 h2 h3 => a6 0 f h1 h2 h3 (fun j hj => absurd hj (Nat.not_lt_zero _))⟩
  | some q => exact ⟨r3.1, fun f h1 h2 h3 => r3.2 0 f h1 h2 h3 (fun j hj => absurd hj (Nat.not_lt_zero _))⟩
theorem orders_m (g : hG) : q_Mo_orders g = bnd (q_Mo_beginText 1 (sI (sI g 367 0 0) 367 53 (-1))) fun _ g4 => mO (fun g18 => q_Mo_orders_23 g18) FU g4 := rfl
end LFo
