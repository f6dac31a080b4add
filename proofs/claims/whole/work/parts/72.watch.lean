/-! thirty hours ahead: watchLetters (class) -/
theorem cpy_seg2 (g : hG) (a b d n : Nat) : sRow g b (va_cpy (gI g a) (gI g b) 0 d n) = sSeg g b d n (gI g a) := by
  have e : va_cpy (gI g a) (gI g b) 0 d n = fun k => if d ≤ k ∧ k < d + n then gI g a (k - d) else gI g b k := by
    funext k
    show (if d ≤ k ∧ k < d + n then gI g a (0 + (k - d)) else gI g b k) = _
    rw [Nat.zero_add]
  rw [e]
  rfl
theorem gc_p2 {α : Type} (d n la lb : Nat) (h : n ≤ la) (h2 : d + n ≤ lb) (hn : n < 2 ^ 31) (hd : d < 2 ^ 31) (Y : hO α) : gc 0 (nI d) (nI n) la lb Y = Y := by
  unfold gc
  rw [if_pos]
  refine ⟨by decide, nI_pos hd, nI_pos hn, ?_, ?_⟩ <;> rw [nI_clamp hn] <;> first | (rw [nI_clamp hd]; omega) | (rw [show (0 : Int32).toNatClampNeg = 0 by decide]; omega)
theorem note_c (v : Nat) (hv : v ≤ 30) (g : hG) : q_Watch_note (nI v) g = some ((), sSeg g 261 (8 * v) 8 (gI g 227)) := by
  unfold q_Watch_note
  rw [gne_p (by omega), show nI v * (8 : Int32) = nI (8 * v) by rw [show (8 : Int32) = nI 8 from rfl, pk_mul, Nat.mul_comm], show (8 : Int32) = nI 8 from rfl, gc_p2 (8 * v) 8 8 248 (by omega) (by omega) (by omega) (by omega), wr_e, cl_L _ (by decide), nI_clamp (by omega), nI_clamp (by omega), cpy_seg2]
def sWt (x k : Nat) : Bool := sH 225 x k || x == 261
theorem sWt_sX {g g' : hG} (u : Un sWt g g') : Un sX g g' := u.mo (fun a k z => Bool.eq_false_iff.mpr (fun y => by
  have z' := Bool.eq_false_iff.mp z
  simp only [sWt, sH, sW, sX, sC, Ne, Bool.or_eq_true, Bool.and_eq_true, beq_iff_eq, Nat.ble_eq] at y z'
  omega))
theorem sWt_51 {x k : Nat} (h : x ≤ 224) : sWt x k = false := Bool.eq_false_iff.mpr (fun q => by
  simp only [sWt, sH, sW, Bool.or_eq_true, Bool.and_eq_true, beq_iff_eq, Nat.ble_eq] at q; omega)
theorem sH_261 (k : Nat) : sH 225 261 k = false := Bool.eq_false_iff.mpr (fun q => by
  simp only [sH, sW, Bool.or_eq_true, Bool.and_eq_true, beq_iff_eq, Nat.ble_eq] at q; omega)
theorem watch_l {Lo : Option Lw} {D : Int32} (K : hG → hO Unit) : ∀ (m i F h : Nat) (g : hG) (r : Nat → Int32), i + m = 31 → m < F → h + m < 2000 → r 0 = nI h → MomR g 225 r → WFm r → gI g 1 2 = r 1 → gI g 1 3 = r 2 → LE g (gI g 1 9) Lo → gI g 1 1 = D → ∃ g', q_MP_watchLetters_7L K F (nI i) g = K g' ∧ Un sWt g g' ∧ (∀ v l, v < i → l < 8 → gI g' 261 (8 * v + l) = gI g 261 (8 * v + l)) ∧ ∀ v l, v < m → l < 8 → gI g' 261 (8 * (i + v) + l) = pN D Lo v r (36 + l) := by
  intro m
  induction m with
  | zero =>
    intro i F h g r h1 h2 h3 h0 mr w c1 c2 hl hd
    obtain ⟨F, rfl⟩ : ∃ q, F = q + 1 := ⟨F - 1, by omega⟩
    obtain rfl : i = 31 := by omega
    rw [q_MP_watchLetters_7L_s]
    unfold q_MP_watchLetters_7
    rw [if_pos (by decide)]
    exact ⟨g, rfl, Un.rf, fun _ _ _ _ => rfl, fun v l hv => by omega⟩
  | succ m ih =>
    intro i F h g r h1 h2 h3 h0 mr w c1 c2 hl hd
    obtain ⟨F, rfl⟩ : ∃ q, F = q + 1 := ⟨F - 1, by omega⟩
    have u0 : Un sWt g (sSeg g 261 (8 * i) 8 (gI g 227)) := Un.rf.seg (fun j _ => by simp [sWt]) _
    have q0 : ∀ x k, ¬ x = 261 → gI (sSeg g 261 (8 * i) 8 (gI g 227)) x k = gI g x k := fun x k hx => by rw [gI_sSeg, if_neg (fun q => hx q.1)]
    obtain ⟨g1, a1, a2, a3⟩ := passHour_c (Lo := Lo) rfl (mr.ex (fun j k hj => q0 _ _ (by omega)) (fun _ _ _ _ => rfl)) w (by rw [q0 _ _ (by omega)]; exact c1) (by rw [q0 _ _ (by omega)]; exact c2) (by rw [q0 _ _ (by omega)]; exact hl.ex (fun x k hx => q0 _ _ (by omega)))
    rw [q0 _ _ (by omega), hd] at a1 a2
    obtain ⟨w1, w2, w3, w4⟩ := stepP_wf (D := D) (Lo := Lo) w h0 (by omega)
    have u1 : Un sWt g g1 := u0.tr (a3.mo (fun x k z => by unfold sWt at z; rw [Bool.or_eq_false_iff] at z; exact z.1))
    rw [q_MP_watchLetters_7L_s]
    unfold q_MP_watchLetters_7
    rw [if_neg (show ¬ (30 : Int32) < nI i from nI_ngt (b := 30) (by omega) (by omega)), note_c i (by omega), bnd_s, a1, bnd_s, nI_1]
    obtain ⟨g', e1, e2, e3, e4⟩ := ih (i + 1) F (h + 1) g1 (stepP D Lo r) (by omega) (by omega) (by omega) w2 a2 w1
      (by rw [u1.I (sWt_51 (by omega)), w3]; exact c1) (by rw [u1.I (sWt_51 (by omega)), w4]; exact c2)
      (by rw [u1.I (sWt_51 (by omega))]; exact hl.ex (fun x k hx => u1.I (sWt_51 (by omega)))) (by rw [u1.I (sWt_51 (by omega))]; exact hd)
    have mid : ∀ v l, v < i + 1 → l < 8 → gI g' 261 (8 * v + l) = if v = i then r (36 + l) else gI g 261 (8 * v + l) := fun v l hv hl8 => by
      rw [e3 v l hv hl8, a3.I (sH_261 _), gI_sSeg]
      by_cases z : v = i
      · subst z
        rw [if_pos ⟨rfl, by omega, by omega⟩, if_pos rfl, show 8 * v + l - 8 * v = l by omega]
        exact mr.2.2.2.1 l hl8
      · rw [if_neg (by omega), if_neg z]
    refine ⟨g', e1, u1.tr e2, fun v l hv hl8 => ?_, fun v l hv hl8 => ?_⟩
    · rw [mid v l (by omega) hl8, if_neg (by omega)]
    · cases v with
      | zero => rw [Nat.add_zero, mid i l (by omega) hl8, if_pos rfl]; rfl
      | succ v =>
        rw [show i + (v + 1) = i + 1 + v by omega, e4 v l (by omega) hl8]
        rfl
