/-! orders: acts, over two heaps -/
section AO
variable {g f g' f' : hG}
def RX (g f : hG) : Prop := RR g f ∧ PastRR g f ∧ gI f 367 20 = 0
theorem KeptR.mom2 {r r' : Nat → Int32} (h : KeptR g 1 r) (e : ∀ a k, 1 ≤ a → a ≤ 51 → ¬ (2 ≤ a ∧ a ≤ 6) → gI g' a k = gI g a k) (er : ∀ y, ¬ (4 ≤ y ∧ y < 56 ∧ y ≠ 5 ∧ y ≠ 6) → r' y = r y) (hm : MomR g' 2 (fun i => r' (4 + i))) : KeptR g' 1 r' := by
  obtain ⟨-, h2, h3, h4⟩ := h
  refine ⟨hm, ?_, fun k hk => ?_, h4.ex (fun j k h9 h50 => e _ _ (by omega) (by omega) (by omega)) (er _ (by omega)) (fun i hi _ => er _ (by omega))⟩
  · unfold KFld
    rw [e 1 1 (by omega) (by omega) (by omega), e 1 2 (by omega) (by omega) (by omega), e 1 3 (by omega) (by omega) (by omega), e 1 6 (by omega) (by omega) (by omega), e 1 8 (by omega) (by omega) (by omega), e 1 9 (by omega) (by omega) (by omega), er 3 (by omega), er 5 (by omega), er 6 (by omega), er 0 (by omega), er 1 (by omega), er 2 (by omega)]
    exact h2
  · rw [e (1 + 6) k (by omega) (by omega) (by omega), e (1 + 7) k (by omega) (by omega) (by omega), er _ (by omega), er _ (by omega)]
    exact h3 k hk
theorem law_rx (h : RR g f) (h20 : gI f 367 20 = 0) : ∃ Lo, LE g (gI g 1 9) Lo ∧ LEM f Lo := by
  obtain ⟨⟨k1, ⟨c1, c2, c3, c4, c5, c6⟩, k3, k4⟩, w⟩ := id h
  obtain ⟨w1, w2, ⟨a, ha, ea⟩, ⟨b, hb, eb⟩, w5, w6, ⟨n, hn, e1, e2⟩⟩ := w
  have pos : ∀ n : Nat, n ≤ 10 → nI n ≠ BRK := by decide +kernel
  have bk : gI f 369 5 ≠ BRK ∧ gI f 369 6 ≠ BRK := ⟨by rw [ea]; exact pos a ha, by rw [eb]; exact pos b (by omega)⟩
  rcases e2 with e2 | ⟨k, hk, e2⟩
  · exact ⟨none, Or.inl ⟨rfl, Or.inl (by rw [c6, e2]; decide)⟩, ⟨h20, bk⟩, Or.inl ⟨rfl, e2⟩⟩
  · obtain ⟨L, l1, l2⟩ := law_lw (k4 k n e1 hn hk)
    exact ⟨some L, Or.inr ⟨k, n, L, by rw [c6, e2], hk, hn, by rw [c5, e1], rfl, l1⟩, ⟨h20, bk⟩, Or.inr ⟨k, L, e2, by omega, rfl, l2⟩⟩
def sA (a k : Nat) : Bool := sH 2 a k || (Nat.ble 54 a && Nat.ble a 136)
def sAm (a k : Nat) : Bool := sV a k || (a == 369 && (k == 4 || (Nat.ble 7 k && Nat.ble k 55))) || (a == 372 && Nat.ble k 831) || a == 373 || (a == 367 && k == 8)
theorem sA_f {a k : Nat} (h : sA a k = false) : ¬ (2 ≤ a ∧ a ≤ 6) ∧ ¬ (54 ≤ a ∧ a ≤ 136) ∧ sH 2 a k = false := by
  refine ⟨fun q => Bool.eq_false_iff.mp h ?_, fun q => Bool.eq_false_iff.mp h ?_, ?_⟩
  · simp only [sA, sH, Bool.or_eq_true, Bool.and_eq_true, Nat.ble_eq]; omega
  · simp only [sA, sH, Bool.or_eq_true, Bool.and_eq_true, Nat.ble_eq]; omega
  · unfold sA at h; rw [Bool.or_eq_false_iff] at h; exact h.1
theorem sAm_f {a k : Nat} (h : sAm a k = false) : sV a k = false ∧ ¬ (a = 369 ∧ (k = 4 ∨ (7 ≤ k ∧ k ≤ 55))) ∧ ¬ (a = 372 ∧ k ≤ 831) ∧ ¬ a = 373 ∧ ¬ (a = 367 ∧ k = 8) := by
  refine ⟨?_, fun q => Bool.eq_false_iff.mp h ?_, fun q => Bool.eq_false_iff.mp h ?_, fun q => Bool.eq_false_iff.mp h ?_, fun q => Bool.eq_false_iff.mp h ?_⟩
  · unfold sAm at h; rw [Bool.or_eq_false_iff, Bool.or_eq_false_iff, Bool.or_eq_false_iff, Bool.or_eq_false_iff] at h; exact h.1.1.1.1
  · simp only [sAm, Bool.or_eq_true, Bool.and_eq_true, beq_iff_eq, Nat.ble_eq]; omega
  · simp only [sAm, Bool.or_eq_true, Bool.and_eq_true, beq_iff_eq, Nat.ble_eq]; omega
  · simp only [sAm, Bool.or_eq_true, Bool.and_eq_true, beq_iff_eq, Nat.ble_eq]; omega
  · simp only [sAm, Bool.or_eq_true, Bool.and_eq_true, beq_iff_eq, Nat.ble_eq]; omega
theorem bnd_id {α : Type} (X : hO α) : (bnd X fun r g => some (r, g)) = X := by
  cases X with
  | none => rfl
  | some x => rfl
theorem act_q {k : Nat} (hk : k < 3) (a b : Int32) (f : hG) : q_Mo_act (nI k) a b f = q_act k a b f := by
  have hx : k = 0 ∨ k = 1 ∨ k = 2 := by omega
  unfold q_Mo_act q_act
  rcases hx with rfl | rfl | rfl
  · rw [if_pos (by decide), if_pos rfl, bnd_id]
  · rw [if_neg (by decide), if_pos (by decide), if_neg (by decide), if_pos rfl, bnd_id]
  · rw [if_neg (by decide), if_neg (by decide), if_pos (by decide), if_neg (by decide), if_neg (by decide), bnd_id]
theorem act_3 (a b : Int32) (f : hG) : q_Mo_act (nI 3) a b f = q_Mo_passNow f := by
  unfold q_Mo_act
  rw [if_neg (by decide), if_neg (by decide), if_neg (by decide), bnd_id]
def AX (g f : hG) (X Y : hO Int32) : Prop := ∃ (v : Int32) (g' f' : hG), X = some (v, g') ∧ Y = some (v, f') ∧ Un sA g g' ∧ Un sAm f f' ∧ (v < 0 → g' = g ∧ f' = f) ∧ (0 ≤ v → RX g' f')
theorem act_x3 (h : RX g f) {k : Nat} (hk : k < 3) (a b : Int32) : AX g f (q_MP_attempt (nI k) a b g) (q_Mo_act (nI k) a b f) := by
  obtain ⟨⟨hK, hW⟩, hP, h20⟩ := h
  have hm : MomR g 2 (fun i => gI f 369 (4 + i)) := hK.1
  have w := hW.1
  have hM : MomM f (fun i => gI f 369 (4 + i)) := fun _ _ => rfl
  rw [act_q hk]
  by_cases h0 : rfF (fun i => gI f 369 (4 + i)) k a b = 0
  · obtain ⟨p, n, hp, hn, p3, p2, m8⟩ := past_n hP
    obtain ⟨ga, a1, a2, a3, a4, a5, a6⟩ := att_c hm k hk a b h0 p3 p2 hp hn
    obtain ⟨w1, w2, w3, w4, w5⟩ := nx_wf w k hk a b h0
    obtain ⟨gb, b1, b2, b3, b4, b5, b6, b7⟩ := act_c hM w k hk a b h0 (n := n) m8 hn
    have er : ∀ y, ¬ (4 ≤ y ∧ y < 56 ∧ y ≠ 5 ∧ y ≠ 6) → gI gb 369 y = gI f 369 y := fun y hy => b2 _ _ (by omega) (by omega) (by omega) (by omega)
    refine ⟨_, ga, gb, a1, b1, fun x y q => ?_, fun x y q => ?_, fun q => absurd w2 (Int32.not_le.mpr q), fun _ => ⟨⟨hK.mom2 (fun x y z1 z2 z3 => a2 x y z3 (by omega)) er ?_, hW.mom er ?_ ?_⟩, past_push (s := k) (by omega) hP hm hW a4 b5 (er 5 (by omega)) (er 6 (by omega)), (b2 _ _ (by omega) (by omega) (by omega) (by omega)).trans h20⟩⟩
    · obtain ⟨q1, q2, q3⟩ := sA_f q
      exact ⟨a2 x y q1 q2, by rw [a5], by rw [a6]⟩
    · obtain ⟨q1, q2, q3, q4, q5⟩ := sAm_f q
      refine ⟨?_, by rw [b6], by rw [b7]⟩
      by_cases z : x = 372
      · subst z; exact b3 y (by omega)
      · exact b2 x y z q4 q5 (by omega)
    · exact a3.ex (fun j y hj => rfl) (fun i hi _ _ => b4 i hi)
    · exact w1.ex (fun i hi _ _ => b4 i hi)
    · obtain ⟨q, hq, e⟩ := hW.2.1
      exact ⟨q, hq, (b4 0 (by omega)).trans (w3.trans e)⟩
  · have rc := (rf_cases (fun i => gI f 369 (4 + i)) k a b).resolve_left h0
    refine ⟨_, g, f, att_no hm k (by omega) a b h0, act_no hM w k hk a b h0, Un.rf, Un.rf, fun _ => ⟨rfl, rfl⟩, fun q => ?_⟩
    rcases rc with e | e <;> rw [e] at q <;> exact absurd q (by decide)
theorem act_xp (h : RX g f) (a b a' b' : Int32) : AX g f (q_MP_attempt (nI 3) a b g) (q_Mo_act (nI 3) a' b' f) := by
  obtain ⟨⟨hK, hW⟩, hP, h20⟩ := id h
  have m1 : MomR g 2 (fun i => gI f 369 (4 + i)) := hK.1
  have m2 := hW.1
  have m3 : MomM f (fun i => gI f 369 (4 + i)) := fun _ _ => rfl
  obtain ⟨c1, c2, c3, c4, c5, c6⟩ := hK.2.1
  obtain ⟨hh, hh9, eh⟩ := hW.2.1
  rw [act_3]
  by_cases z : hh = 999
  · subst z
    have hr : rfF (fun i => gI f 369 (4 + i)) 3 a b = -3 := by rw [rfF_3, if_pos]; rw [Nat.add_zero, eh]; decide
    refine ⟨-3, g, f, ?_, ?_, Un.rf, Un.rf, fun _ => ⟨rfl, rfl⟩, fun q => absurd q (by decide)⟩
    · rw [att_no m1 3 (by omega) a b (by rw [hr]; decide), hr]
    · unfold q_Mo_passNow
      rw [gd_L _ _ (by decide) (by decide), cl_L _ (by decide), eh, if_pos (by decide)]
  · obtain ⟨p, n, hp, hn, p3, p2, n8⟩ := past_n hP
    obtain ⟨Lo, hl, hM⟩ := law_rx ⟨hK, hW⟩ h20
    have hr : rfF (fun i => gI f 369 (4 + i)) 3 a b = 0 := by rw [rfF_3, if_neg]; rw [Nat.add_zero, eh]; exact nI_ge (a := hh) (b := 999) (by omega) (by decide)
    obtain ⟨ga, a1, a2, a3, a4, a5⟩ := keep_e 3 g p n p3 p2 hp hn
    have mA : MomR ga 2 (fun i => gI f 369 (4 + i)) := m1.ex (fun j k hj => a2 _ _ (by omega)) (fun _ _ _ _ => rfl)
    obtain ⟨gb, b1, b2, b3⟩ := passHour_c (Lo := Lo) rfl mA m2 (by rw [a2 _ _ (by omega)]; exact c2) (by rw [a2 _ _ (by omega)]; exact c3) (by rw [a2 _ _ (by omega)]; exact hl.ex (fun x k hx => a2 _ _ (by omega)))
    have dA : gI ga 1 1 = gI f 369 3 := (a2 _ _ (by omega)).trans c1
    rw [dA] at b1 b2
    generalize hN : nextF (gI f 369 3) (SV Lo (fun i => gI f 369 (4 + i)) (hiR (fun i => gI f 369 (4 + i)))) (HV Lo (fun i => gI f 369 (4 + i)) (hiR (fun i => gI f 369 (4 + i)))) = N at b1 b2
    have hNin : ∀ c, c < 25 → ∃ d, d < 25 ∧ N c = nI d := fun c hc => by rw [← hN]; exact nextF_in _ _ _ hc
    obtain ⟨w1, w2, w3, w4, w5, k, hk, ek⟩ := ps_wf (D := gI f 369 3) (N := N) m2 hNin (n := hh) eh (by omega)
    obtain ⟨h1, e1, e2, e3, e4, e5, e6⟩ := rem_e 3 f n n8 hn
    have M1 : MomM h1 (fun i => gI f 369 (4 + i)) := m3.ex (fun i => e2 _ _ (by omega) (by omega) (by omega))
    have L1 : LEM h1 Lo := hM.ex (fun i => e2 _ _ (by omega) (by omega) (by omega)) (e2 _ _ (by omega) (by omega) (by omega))
    obtain ⟨h2, d1, d2, d3⟩ := passIt_m M1 m2 L1
    rw [show gI h1 369 3 = gI f 369 3 from e2 _ _ (by omega) (by omega) (by omega), hN] at d1 d2
    have ug : Un sA g gb := fun x y q => by
      obtain ⟨q1, q2, q3⟩ := sA_f q
      exact ⟨(b3.I q3).trans (a2 x y q2), (b3.J q3).trans (by rw [a4]), (b3.P q3).trans (by rw [a5])⟩
    have uf : Un sAm f h2 := fun x y q => by
      obtain ⟨q1, q2, q3, q4, q5⟩ := sAm_f q
      have q6 : sHM x y = false := Bool.eq_false_iff.mpr (fun q => by
        unfold sHM at q
        rw [q1] at q
        simp only [Bool.false_or, Bool.or_eq_true, Bool.and_eq_true, beq_iff_eq, Nat.ble_eq] at q
        omega)
      refine ⟨(d3.I q6).trans ?_, (d3.J q6).trans (by rw [e5]), (d3.P q6).trans (by rw [e6])⟩
      by_cases z : x = 372
      · subst z; exact e3 y (by omega)
      · exact e2 x y z q4 q5
    have cf : ∀ x y, 1 ≤ x → x ≤ 51 → ¬ (2 ≤ x ∧ x ≤ 6) → gI gb x y = gI g x y := fun x y z1 z2 z3 => ug.I (Bool.eq_false_iff.mpr (fun q => by
      simp only [sA, sH, sW, Bool.or_eq_true, Bool.and_eq_true, beq_iff_eq, Nat.ble_eq] at q
      omega))
    have er : ∀ y, ¬ (4 ≤ y ∧ y < 56 ∧ y ≠ 5 ∧ y ≠ 6) → gI h2 369 y = gI f 369 y := fun y hy => uf.I (Bool.eq_false_iff.mpr (fun q => by
      simp only [sAm, sV, sT, Bool.or_eq_true, Bool.and_eq_true, beq_iff_eq, Nat.ble_eq] at q
      omega))
    refine ⟨nI k, gb, h2, ?_, ?_, ug, uf, fun q => absurd (nI_pos' (by omega)) (Int32.not_le.mpr q), fun _ => ⟨⟨hK.mom2 cf er (b2.ex (fun j y hj => rfl) (fun i hi _ _ => d2 i hi)), hW.mom er (w1.ex (fun i hi _ _ => d2 i hi)) ⟨hh + 1, by omega, (d2 0 (by omega)).trans w2⟩⟩, past_push (s := 3) (by omega) hP m1 hW (a3.ag (fun x y q => ?_)) (e4.ag (fun x y q => ?_)) (er 5 (by omega)) (er 6 (by omega)), uf.I rfl |>.trans h20⟩⟩
    · unfold q_MP_attempt
      rw [show q_Mom_refusalOf 2 (nI 3) a b g = _ from ref_c m1 3 (by omega) a b, bnd_s, hr, if_pos rfl, show q_Past_keep (nI 3) g = _ from a1, bnd_s, if_pos (show nI 3 = (3 : Int32) from rfl), b1, bnd_s, ek]
    · unfold q_Mo_passNow
      rw [gd_L _ _ (by decide) (by decide), cl_L _ (by decide), eh, if_neg (show ¬ nI hh = 999 by rw [show (999 : Int32) = nI 999 from rfl, nI_eq (by omega) (by omega)]; exact z), e1, bnd_s, d1, ek]
      rfl
    · simp only [suPc, Bool.and_eq_true, Nat.ble_eq] at q
      exact b3.I (Bool.eq_false_iff.mpr (fun y => by simp only [sH, sW, Bool.or_eq_true, Bool.and_eq_true, beq_iff_eq, Nat.ble_eq] at y; omega))
    · simp only [suPm, Bool.or_eq_true, Bool.and_eq_true, beq_iff_eq, Nat.ble_eq] at q
      exact d3.I (Bool.eq_false_iff.mpr (fun y => by simp only [sHM, sV, sT, Bool.or_eq_true, Bool.and_eq_true, beq_iff_eq, Nat.ble_eq] at y; omega))
end AO
