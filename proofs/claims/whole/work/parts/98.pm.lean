/-! texts: the model's reader, step by step -/
section PM
variable {B : Nat → Nat} {n lg p pa dp len : Nat} {L : Pi} {f : hG}
def PM (B : Nat → Nat) (n lg p pa dp : Nat) (L : Pi) (len : Nat) (f : hG) : Prop := TBM B n f ∧ MS B n p f ∧ Tk B n p ∧ gI f 367 19 = 0 ∧ gI f 367 20 = nI lg ∧ gI f 367 23 = nI len ∧ gI f 367 26 = nI pa ∧ gI f 367 30 = nI dp ∧ gI f 367 29 = nI L.length ∧ PL L f ∧ L.length ≤ cnt (stB B) p ∧ len + wt L ≤ cnt (stB B) p
/-- a fault at q -/
def PF (lg q : Nat) (f : hG) : Prop := gI f 367 19 = 1 ∧ gI f 367 18 = nI q ∧ gI f 367 20 = nI lg ∧ ∃ (L : Pi) (len : Nat), gI f 367 29 = nI L.length ∧ PL L f ∧ gI f 367 23 = nI len ∧ L.length ≤ 400 ∧ len + wt L ≤ 400
theorem PM.c4 (h : PM B n lg p pa dp L len f) : p ≤ n ∧ cnt (stB B) p ≤ 400 ∧ cnt (stB B) p ≤ cnt (stB B) n ∧ (p < n → cnt (stB B) p < 400) := by
  have a := h.2.2.1.le
  have c := cnt_m (stB B) n
  have d := cnt_m (stB B) p
  have e := h.1.1
  exact ⟨a, by omega, cnt_mono' (stB B) a, fun q => by omega⟩
theorem PM.ln (h : PM B n lg p pa dp L len f) : L.length ≤ 400 := by
  have a := h.c4
  have b : L.length ≤ cnt (stB B) p := h.2.2.2.2.2.2.2.2.2.2.1
  omega
theorem sNx_sPm {f f' : hG} (u : Un sNx f f') : Un sPm f f' := u.mo (fun a k z => Bool.eq_false_iff.mpr (fun y => by
  have z' := Bool.eq_false_iff.mp z
  simp only [sNx, sPm, Ne, Bool.or_eq_true, Bool.and_eq_true, beq_iff_eq] at y z'
  omega))
theorem sSt_sPm {f f' : hG} (u : Un sSt f f') : Un sPm f f' := u.mo (fun a k z => Bool.eq_false_iff.mpr (fun y => by
  have z' := Bool.eq_false_iff.mp z
  simp only [sSt, sPm, Ne, Bool.or_eq_true, Bool.and_eq_true, beq_iff_eq] at y z'
  omega))
theorem MS.ex {f' : hG} (h : MS B n p f) (e : ∀ k, k = 14 ∨ k = 15 ∨ k = 16 ∨ k = 18 → gI f' 367 k = gI f 367 k) (e2 : gJ f' 367 17 = gJ f 367 17) : MS B n p f' := by
  obtain ⟨h0, h1, h2, h3⟩ := h
  refine ⟨⟨h0.1, (e 18 (by omega)).trans h0.2⟩, (e 14 (by omega)).trans h1, (e 15 (by omega)).trans h2, ?_⟩
  rw [e 16 (by omega), e2]
  exact h3
/-- the next token -/
theorem next_p (h : PM B n lg p pa dp L len f) (hp : p < n) (hs : stB B p = true) : ∃ f', q_Mo_next f = some ((), f') ∧ PM B n lg (nx B n p) pa dp L len f' ∧ Un sNx f f' := by
  obtain ⟨h1, h2, h3, h4, h5, h6, h7, h8, h9, h10, h11, h12⟩ := h
  obtain ⟨k1, k2, k3, k4⟩ := tk_n hp hs
  obtain ⟨e1, e2, -, -⟩ := eE_p B hp
  have h15 : gI f 367 15 = nI (eE B n p) := by rw [h2.2.2.1]; unfold enB; rw [if_pos hp]
  obtain ⟨f', a1, a2, a3⟩ := next_m h1 e2 h15 h2.1.2
  have ex : nb B n (eE B n p) = nx B n p := by unfold nx; rw [if_pos hp]
  rw [ex] at a2
  exact ⟨f', a1, ⟨h1.ex a3, a2, k1, (a3.I rfl).trans h4, (a3.I rfl).trans h5, (a3.I rfl).trans h6, (a3.I rfl).trans h7, (a3.I rfl).trans h8, (a3.I rfl).trans h9, h10.ex (fun i hi => ⟨a3.I rfl, a3.I rfl⟩), by omega, by omega⟩, a3⟩
theorem must_1 (h : PM B n lg p pa dp L len f) : q_Mo_must 1 f = q_Mo_next f := by
  unfold q_Mo_must q_Mo_must_12
  rw [if_pos h.2.2.2.1, if_neg (by decide), if_pos h.2.2.2.1]
  cases q : q_Mo_next f with
  | none => rfl
  | some x => rfl
theorem must_0 (h : PM B n lg p pa dp L len f) : ∃ f', q_Mo_must 0 f = some ((), f') ∧ PF lg p f' ∧ Un sPm f f' := by
  obtain ⟨c1, c2, c3, -⟩ := h.c4
  obtain ⟨h1, h2, h3, h4, h5, h6, h7, h8, h9, h10, h11, h12⟩ := h
  unfold q_Mo_must q_Mo_must_12
  rw [if_pos h4, if_pos rfl, wr_e, wr_e, rd_k (show ¬ (19 : Nat) = 18 by decide), rd_s, if_neg (by decide), rd_k (show ¬ (14 : Nat) = 19 by decide), h2.2.1]
  refine ⟨_, rfl, ⟨by rw [rd_k (by decide), rd_s], rd_s, by rw [rd_k (by decide), rd_k (by decide)]; exact h5, L, len, by rw [rd_k (by decide), rd_k (by decide)]; exact h9, h10.ex (fun i hi => ⟨by rw [rd_a (by decide), rd_a (by decide)], by rw [rd_a (by decide), rd_a (by decide)]⟩), by rw [rd_k (by decide), rd_k (by decide)]; exact h6, by omega, by omega⟩, (Un.rf.sI rfl _).sI rfl _⟩
theorem sfF_len : ∀ (pend : Pi) (C : Cd), (∀ x, x ∈ pend → 1 ≤ bd x.1) → (sfF pend C).2.2 = C.2.2 + wt pend
  | [], _, _ => rfl
  | x :: pend, C, h => by
    have hx := h x List.mem_cons_self
    have h31 : x.1 < 31 := by
      by_cases z : x.1 < 31
      · exact z
      · have : bd x.1 = 0 := by unfold bd; rw [if_neg z]
        omega
    show (sfF pend (sf1 x C)).2.2 = C.2.2 + ((if x.1 < 29 then 1 else 0) + wt pend)
    rw [sfF_len pend _ (fun y hy => h y (List.mem_cons_of_mem _ hy))]
    unfold sf1
    by_cases z : x.1 = 29 ∨ x.1 = 30
    · rw [if_pos z, if_neg (by omega)]; show C.2.2 + wt pend = _; omega
    · rw [if_neg z, if_pos (by omega)]; show C.2.2 + 1 + wt pend = _; omega
/-- settling -/
theorem settle_p {pend : Pi} (h : PM B n lg p pa dp (pend ++ L) len f) {lo : Nat} (h1 : 1 ≤ lo) (hlo : lo < 100) (hb : ∀ x, x ∈ pend → lo ≤ bd x.1) (ht : tb L < lo) : ∃ f', q_Mo_settle (nI lo) f = some ((), f') ∧ PM B n lg p pa dp L (sfF pend (gI f 378, gI f 379, len)).2.2 f' ∧ gI f' 378 = (sfF pend (gI f 378, gI f 379, len)).1 ∧ gI f' 379 = (sfF pend (gI f 378, gI f 379, len)).2.1 ∧ Un sSt f f' := by
  obtain ⟨c1, c2, c3, -⟩ := h.c4
  obtain ⟨k1, k2, k3, k4, k5, k6, k7, k8, k9, k10, k11, k12⟩ := h
  have w := wt_app pend L
  have l : (pend ++ L).length = pend.length + L.length := List.length_append
  obtain ⟨f', e1, e2, e3, e4, e5, e6⟩ := settle_l h1 hlo (fun g14 => some ((), g14)) pend L len FU f k10 k9 k6 hb ht (by omega) (by omega) (Nat.lt_of_le_of_lt (show pend.length ≤ 400 by omega) (by decide))
  have sl := sfF_len pend (gI f 378, gI f 379, len) (fun x hx => Nat.le_trans h1 (hb x hx))
  refine ⟨f', e1, ⟨⟨k1.1, (e6.I rfl).trans k1.2.1, fun j hj => ⟨(e6.I rfl).trans (k1.2.2 j hj).1, (k1.2.2 j hj).2⟩⟩, k2.ex (fun k hk => by rcases hk with rfl | rfl | rfl | rfl <;> exact e6.I rfl) (e6.J rfl), k3, (e6.I rfl).trans k4, (e6.I rfl).trans k5, e3, (e6.I rfl).trans k7, (e6.I rfl).trans k8, e2, (PL.app k10).ex (fun i hi => ⟨e6.I rfl, e6.I rfl⟩), by omega, ?_⟩, e4, e5, e6⟩
  rw [sl]
  show len + wt pend + wt L ≤ _
  omega
/-- settling a pile that can be anything -/
theorem spl : ∀ L : Pi, ∃ pend L', L = pend ++ L' ∧ (∀ x, x ∈ pend → 1 ≤ bd x.1) ∧ tb L' < 1
  | [] => ⟨[], [], rfl, fun x hx => (by cases hx), by decide⟩
  | x :: L => by
    by_cases z : 1 ≤ bd x.1
    · obtain ⟨pend, L', h1, h2, h3⟩ := spl L
      refine ⟨x :: pend, L', by rw [h1]; rfl, fun y hy => ?_, h3⟩
      rcases List.mem_cons.mp hy with rfl | hy
      · exact z
      · exact h2 y hy
    · exact ⟨[], x :: L, rfl, fun y hy => (by cases hy), (by show bd x.1 < 1; omega)⟩
theorem settle_f {q : Nat} (h : PF lg q f) : ∃ f', q_Mo_settle 1 f = some ((), f') ∧ gI f' 367 19 = 1 ∧ gI f' 367 18 = nI q ∧ gI f' 367 20 = nI lg ∧ Un sSt f f' := by
  obtain ⟨h1, h2, h3, L, len, h4, h5, h6, h7, h8⟩ := h
  obtain ⟨pend, L', rfl, e2, e3⟩ := spl L
  have w := wt_app pend L'
  have l : (pend ++ L').length = pend.length + L'.length := List.length_append
  obtain ⟨f', a1, a2, a3, a4, a5, a6⟩ := settle_l (lo := 1) (by omega) (by omega) (fun g14 => some ((), g14)) pend L' len FU f h5 h4 h6 e2 e3 (by omega) h7 (Nat.lt_of_le_of_lt (show pend.length ≤ 400 by omega) (by decide))
  exact ⟨f', a1, (a6.I rfl).trans h1, (a6.I rfl).trans h2, (a6.I rfl).trans h3, a6⟩
/-- pushed -/
theorem push_p (h : PM B n lg p pa dp L len f) (hp : p < n) (hs : stB B p = true) {a b : Nat} (ha : a < 100) (hb : b < 400) : ∃ f', (bnd (q_Mo_push (nI a) (nI b) f) fun _ g16 => q_Mo_next g16) = some ((), f') ∧ PM B n lg (nx B n p) pa dp ((a, b) :: L) len f' ∧ Un sPm f f' ∧ gI f' 378 = gI f 378 ∧ gI f' 379 = gI f 379 := by
  obtain ⟨c1, c2, c3, c4⟩ := h.c4
  have c5 := c4 hp
  obtain ⟨k1, k2, k3, k4, k5, k6, k7, k8, k9, k10, k11, k12⟩ := h
  obtain ⟨t1, t2, t3, t4⟩ := tk_n hp hs
  obtain ⟨e1, e2, -, -⟩ := eE_p B hp
  have u : Un sPm f (pushH L a b f) := ((Un.rf.sI (by rfl) _).sI (by rfl) _).sI rfl _
  have r7 : ∀ k, k ≠ 29 → gI (pushH L a b f) 367 k = gI f 367 k := fun k hk => by unfold pushH; rw [rd_k hk, rd_a (by decide), rd_a (by decide)]
  have h1 : TBM B n (pushH L a b f) := ⟨k1.1, (r7 13 (by decide)).trans k1.2.1, fun j hj => ⟨(u.I rfl).trans (k1.2.2 j hj).1, (k1.2.2 j hj).2⟩⟩
  have h15 : gI (pushH L a b f) 367 15 = nI (eE B n p) := by rw [r7 15 (by decide), k2.2.2.1]; unfold enB; rw [if_pos hp]
  obtain ⟨f', a1, a2, a3⟩ := next_m h1 e2 h15 ((r7 18 (by decide)).trans k2.1.2)
  have ex : nb B n (eE B n p) = nx B n p := by unfold nx; rw [if_pos hp]
  rw [ex] at a2
  have pl := push_PL k10 ha hb
  have s8 : ∀ x, x = 378 ∨ x = 379 → gI (pushH L a b f) x = gI f x := fun x hx => by unfold pushH; rw [gI_up0 _ _ _ (by omega), gI_up0 _ _ _ (by omega), gI_up0 _ _ _ (by omega)]
  refine ⟨f', ?_, ⟨h1.ex a3, a2, t1, (a3.I rfl).trans ((r7 19 (by decide)).trans k4), (a3.I rfl).trans ((r7 20 (by decide)).trans k5), (a3.I rfl).trans ((r7 23 (by decide)).trans k6), (a3.I rfl).trans ((r7 26 (by decide)).trans k7), (a3.I rfl).trans ((r7 30 (by decide)).trans k8), (a3.I rfl).trans rd_s, pl.ex (fun i hi => ⟨a3.I rfl, a3.I rfl⟩), ?_, ?_⟩, u.tr (sNx_sPm a3), ?_, ?_⟩
  · rw [push_m k9 (by omega), bnd_s]; exact a1
  · show L.length + 1 ≤ _; omega
  · show len + ((if a < 29 then 1 else 0) + wt L) ≤ _
    split <;> omega
  · rw [← s8 378 (by omega)]; exact funext (fun i => a3.I rfl)
  · rw [← s8 379 (by omega)]; exact funext (fun i => a3.I rfl)
/-- a leaf -/
theorem leaf_p (h : PM B n lg p pa dp L len f) (hp : p < n) (hs : stB B p = true) (h50 : pa < 50) (a b : Int32) : ∃ f', q_Mo_leaf 1 a b f = some ((), f') ∧ PM B n lg (nx B n p) (pa + 1) dp L (len + 1) f' ∧ Un sPm f f' ∧ gI f' 378 = upR (gI f 378) len a ∧ gI f' 379 = upR (gI f 379) len b := by
  obtain ⟨c1, c2, c3, c4⟩ := h.c4
  have c5 := c4 hp
  have k2 := (tk_n hp hs).2.1
  obtain ⟨f1, a1, a2, a3⟩ := next_p h hp hs
  obtain ⟨j1, j2, j3, j4, j5, j6, j7, j8, j9, j10, j11, j12⟩ := id a2
  have hl : len < 400 := by have := h.2.2.2.2.2.2.2.2.2.2.2; omega
  have u : Un sPm f1 (sI (emitH len a b f1) 367 26 (nI (pa + 1))) := (((Un.rf.sI rfl _).sI rfl _).sI rfl _).sI rfl _
  have r7 : ∀ k, k ≠ 23 → k ≠ 26 → gI (sI (emitH len a b f1) 367 26 (nI (pa + 1))) 367 k = gI f1 367 k := fun k h1 h2 => by unfold emitH; rw [rd_k h2, rd_k h1, rd_a (by decide), rd_a (by decide)]
  refine ⟨sI (emitH len a b f1) 367 26 (nI (pa + 1)), ?_, ⟨⟨j1.1, (r7 13 (by decide) (by decide)).trans j1.2.1, fun j hj => ⟨(u.I rfl).trans (j1.2.2 j hj).1, (j1.2.2 j hj).2⟩⟩, j2.ex (fun k hk => r7 k (by omega) (by omega)) rfl, j3, (r7 19 (by decide) (by decide)).trans j4, (r7 20 (by decide) (by decide)).trans j5, ?_, rd_s, (r7 30 (by decide) (by decide)).trans j8, (r7 29 (by decide) (by decide)).trans j9, j10.ex (fun i hi => ?_), j11, ?_⟩, (sNx_sPm a3).tr u, ?_, ?_⟩
  · unfold q_Mo_leaf q_Mo_leaf_10
    rw [if_neg (by decide), h.2.2.2.2.2.2.1, if_neg (show ¬ (50 : Int32) ≤ nI pa from nI_ge (a := pa) (b := 50) h50 (by decide)), must_1 h, a1, bnd_s, if_pos j4, emit_m j6 hl, bnd_s, wr_e]
    have e26 : gI (emitH len a b f1) 367 26 = nI pa := by unfold emitH; rw [rd_k (by decide), rd_a (by decide), rd_a (by decide)]; exact j7
    rw [e26, nI_1]
  · rw [rd_k (by decide)]; exact rd_s
  · unfold emitH
    exact ⟨by rw [rd_a (by decide), rd_a (by decide), rd_a (by decide), rd_a (by decide)], by rw [rd_a (by decide), rd_a (by decide), rd_a (by decide), rd_a (by decide)]⟩
  · have := h.2.2.2.2.2.2.2.2.2.2.2; omega
  · unfold emitH
    rw [gI_up0 _ _ _ (by decide), gI_up0 _ _ _ (by decide), gI_up0 _ _ _ (by decide), gI_up, show gI f1 378 = gI f 378 from funext (fun i => a3.I rfl)]
  · unfold emitH
    rw [gI_up0 _ _ _ (by decide), gI_up0 _ _ _ (by decide), gI_up, gI_up0 _ _ _ (by decide), show gI f1 379 = gI f 379 from funext (fun i => a3.I rfl)]
theorem leaf_0 (h : PM B n lg p pa dp L len f) (w : Int32) (hw : w = 0 ∨ 50 ≤ pa) (h5 : pa ≤ 50) (a b : Int32) : ∃ f', q_Mo_leaf w a b f = some ((), f') ∧ PF lg p f' ∧ Un sPm f f' := by
  obtain ⟨f', e1, e2, e3⟩ := must_0 h
  refine ⟨f', ?_, e2, e3⟩
  have hh : (if w = (0 : Int32) then (0 : Int32) else (if (50 : Int32) ≤ (gI f 367 26) then (0 : Int32) else (1 : Int32))) = 0 := by
    by_cases z : w = 0
    · rw [if_pos z]
    · rw [if_neg z, h.2.2.2.2.2.2.1, if_pos (show (50 : Int32) ≤ nI pa from nI_le (a := 50) (by rcases hw with q | q; exact absurd q z; exact q) (by omega))]
  unfold q_Mo_leaf q_Mo_leaf_10
  rw [hh, e1, bnd_s, if_neg (by rw [e2.1]; decide)]
end PM
