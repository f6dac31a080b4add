/-! law: both -/
section SL
variable {B : Nat → Nat} {n q t N : Nat} {g : hG}
def sLC (t a k : Nat) : Bool := sX a k || (Nat.ble t a && Nat.ble a (t + 6))
theorem sTy_sLC {t a k : Nat} (h : sLC t a k = false) : sTy t a k = false := by
  refine Bool.eq_false_iff.mpr (fun q => Bool.eq_false_iff.mp h ?_)
  simp only [sTy, sTx, sRd, Bool.or_eq_true, Bool.and_eq_true, beq_iff_eq, Nat.ble_eq] at q
  simp only [sLC, sX, sC, Bool.or_eq_true, Bool.and_eq_true, beq_iff_eq, Nat.ble_eq]
  omega
theorem sCu_sLC {t a k : Nat} (h : sLC t a k = false) : sCu a k = false := by
  refine Bool.eq_false_iff.mpr (fun q => Bool.eq_false_iff.mp h ?_)
  simp only [sCu, Bool.or_eq_true, Bool.and_eq_true, beq_iff_eq] at q
  simp only [sLC, sX, sC, Bool.or_eq_true, Bool.and_eq_true, beq_iff_eq, Nat.ble_eq]
  omega
theorem sLC_9 (t k : Nat) : sLC t 239 k = true := by simp [sLC, sX, sC]
theorem sLC_t {t a k : Nat} (h1 : t ≤ a) (h2 : a ≤ t + 6) : sLC t a k = true := by simp [sLC, h1, h2]
def rd0 (t : Nat) (v : Int32) (g : hG) : hG := sI (sI (sI (addH t 1 13 (addH t 0 16 (sI (sI (sP g 239 1 (some t)) t 1 0) t 2 0))) 239 2 v) 239 3 0) 239 4 0
theorem read_c (hb : TB B n g) (ht : HT t) (lg : Nat) (hl : lg = 0 ∨ lg = 1) : ∃ g1, q_Rd_read t (nI lg) g = q_Rd_read_20L t (fun g42 => q_Rd_read_58 t g42) (fun g46 => q_Rd_read_58 t g46) (fun g50 => q_Rd_read_58 t g50) FU 0 g1 ∧ PC B n t lg (nb B n 0) 2 0 g1 ∧ gI g1 t 2 = nI 0 ∧ gI g1 (t + 1) 0 = nI 16 ∧ gI g1 (t + 1) 1 = nI 13 ∧ Un (sLC t) g g1 := by
  have tt := ht.2
  have r : ∀ a k, ¬ (t ≤ a ∧ a ≤ t + 1) → a ≠ 239 → gI (rd0 t (nI lg) g) a k = gI g a k := fun a k h1 h2 => by
    unfold rd0 addH
    rw [rd_a h2, rd_a h2, rd_a h2, rd_a (by omega), rd_a (by omega), rd_a (by omega), rd_a (by omega), rd_a (by omega), rd_a (by omega), gI_sP]
  have b1 : TB B n (rd0 t (nI lg) g) := ⟨hb.1, (r _ _ (by omega) (by omega)).trans hb.2.1, fun j hj => ⟨(r _ _ (by omega) (by omega)).trans (hb.2.2 j hj).1, (hb.2.2 j hj).2⟩⟩
  obtain ⟨g1, e1, e2, e3⟩ := cut_c b1
  have u0 : Un (sLC t) g (rd0 t (nI lg) g) := by
    unfold rd0 addH
    exact (((((((((Un.rf.sP (sLC_9 t 1) _).sI (sLC_t (by omega) (by omega)) _).sI (sLC_t (by omega) (by omega)) _).sI (sLC_t (by omega) (by omega)) _).sI (sLC_t (by omega) (by omega)) _).sI (sLC_t (by omega) (by omega)) _).sI (sLC_t (by omega) (by omega)) _).sI (sLC_9 t 2) _).sI (sLC_9 t 3) _).sI (sLC_9 t 4) _
  have s : ∀ a k, a ≠ 237 → a ≠ 238 → a ≠ 235 → gI g1 a k = gI (rd0 t (nI lg) g) a k := fun a k h1 h2 h3 => e2.I (by simp [sCu, h1, h2, h3])
  have k1 : gI g1 t 1 = nI 2 := by
    rw [s _ _ (by omega) (by omega) (by omega)]
    unfold rd0 addH
    rw [rd_a (by omega), rd_a (by omega), rd_a (by omega), rd_s]
  refine ⟨g1, ?_, ⟨e3, (tk_0 B n).1, ⟨hb.1, fun j hj => (hb.2.2 j hj).2⟩, ht, ?_, ?_, ?_, ?_, k1, by omega, by omega⟩, ?_, ?_, ?_, u0.tr (e2.mo fun _ _ z => sCu_sLC z)⟩
  · have a1 : q_Text_clear t (sP g 239 1 (some t)) = some ((), addH t 1 13 (addH t 0 16 (sI (sI (sP g 239 1 (some t)) t 1 0) t 2 0))) := by
      unfold q_Text_clear
      rw [wr_e, wr_e, show q_Text_add t (0 : Int32) (1 : Int32) (sI (sI (sP g 239 1 (some t)) t 1 0) t 2 0) = _ from add_c (s := 0) (m := 1) (sz := 0) (by rw [rd_k (by decide), rd_s]; rfl) (by omega) (by omega) (by omega), bnd_s, show q_Text_add t (13 : Int32) (0 : Int32) (addH t 0 (16 * 1 + 0) (sI (sI (sP g 239 1 (some t)) t 1 0) t 2 0)) = _ from add_c (s := 13) (m := 0) (sz := 1) rd_s (by omega) (by omega) (by omega), bnd_s]
      rfl
    unfold q_Rd_read
    rw [wr_e, show gP (sP g 239 1 (some t)) 239 1 = some t by simp [gP_sP], gp_p ht.1, a1, bnd_s, show ∀ Y : hO Int32, gb (nI lg) Y = Y from fun Y => by rcases hl with rfl | rfl; exact gb_0 Y; exact gb_1 Y, wr_e, wr_e, wr_e]
    show bnd (q_Tape_cut (rd0 t (nI lg) g)) _ = _
    rw [e1, bnd_s]
  · rw [e2.P rfl]
    unfold rd0 addH
    rw [gP_sI, gP_sI, gP_sI, gP_sI, gP_sI, gP_sI, gP_sI, gP_sI, gP_sI, gP_sP, if_pos ⟨rfl, rfl⟩]
  · rw [s _ _ (by omega) (by omega) (by omega)]
    unfold rd0
    rw [rd_k (by decide), rd_k (by decide), rd_s]
  · rw [s _ _ (by omega) (by omega) (by omega)]
    unfold rd0
    rw [rd_k (by decide), rd_s]; rfl
  · rw [s _ _ (by omega) (by omega) (by omega), (tk_0 B n).2]
    unfold rd0
    rw [rd_s]; rfl
  · rw [s _ _ (by omega) (by omega) (by omega)]
    unfold rd0 addH
    rw [rd_a (by omega), rd_a (by omega), rd_a (by omega), rd_k (by omega), rd_a (by omega), rd_k (by omega), rd_a (by omega), rd_s]; rfl
  · rw [s _ _ (by omega) (by omega) (by omega)]
    unfold rd0 addH
    rw [rd_a (by omega), rd_a (by omega), rd_a (by omega), rd_a (by omega), rd_k (by omega), rd_a (by omega), rd_s]
  · rw [s _ _ (by omega) (by omega) (by omega)]
    unfold rd0 addH
    rw [rd_a (by omega), rd_a (by omega), rd_a (by omega), rd_a (by omega), rd_s]
/-- the model's end of a law, good -/
theorem law33_ok {M pa len : Nat} {f : hG} (h : PQ B n n pa len f) (hM : M ≤ 12) (h21 : gI f 367 21 = nI M) (hN : N < 6) (h1 : gI f 369 1 = nI N) : ∃ f', q_Mo_law_33 f = some (nI N, f') ∧ gI f' 369 1 = nI (N + 1) ∧ gI f' 367 20 = 0 ∧ gI f' 367 13 = 0 ∧ gI f' 367 1 = 0 ∧ (∀ a k, ¬ (a = 367 ∧ (k = 20 ∨ k = 13 ∨ k = 1)) → ¬ (a = 369 ∧ (k = 1 ∨ (68 + 900 * N ≤ k ∧ k < 968 + 900 * N))) → gI f' a k = gI f a k) ∧ gJ f' = gJ f ∧
    gI f' 369 (68 + 900 * N + 1) = nI M ∧ (∀ j, j < 8 * M → gI f' 369 (68 + 900 * N + (2 + j)) = gI f 377 j) ∧ ∀ j, j < len → gI f' 369 (68 + 900 * N + (98 + 2 * j)) = gI f 378 j ∧ gI f' 369 (68 + 900 * N + (98 + 2 * j + 1)) = gI f 379 j := by
  have hl : len ≤ 400 := by
    have a := cnt_m (stB B) n
    have b := h.2.2.2.2.2.2.2
    have c := h.1.1
    omega
  have hb : (68 + 900 * N) + 900 ≤ 5468 := by omega
  have eb : (68 : Int32) + (900 : Int32) * gI (sI (sI f 367 20 0) 367 13 0) 369 (1 : Int32).toNatClampNeg = nI (68 + 900 * N) := by
    rw [show (1 : Int32).toNatClampNeg = 1 from rfl, rd_a (by decide), rd_a (by decide), h1, show (900 : Int32) = nI 900 from rfl, pk_mul, show (68 : Int32) = nI 68 from rfl, nI_add]
  have e19 : gI (sI (sI f 367 20 0) 367 13 0) 367 19 = 0 := by rw [rd_k (by decide), rd_k (by decide)]; exact h.2.2.2.1
  have e21 : gI (sI (sI f 367 20 0) 367 13 0) 367 21 = nI M := by rw [rd_k (by decide), rd_k (by decide)]; exact h21
  let f4 := sI (sI (sI f 367 20 0) 367 13 0) 369 (68 + 900 * N + 1) (nI M)
  let f5 := sSeg f4 369 (68 + 900 * N + 2) (8 * M) (fun j => gI f4 377 j)
  have r5 : ∀ a k, ¬ (a = 367 ∧ (k = 20 ∨ k = 13)) → ¬ (a = 369 ∧ 68 + 900 * N + 1 ≤ k ∧ k < 68 + 900 * N + 98) → gI f5 a k = gI f a k := fun a k q1 q2 => by
    show gI (sSeg f4 369 (68 + 900 * N + 2) (8 * M) (fun j => gI f4 377 j)) a k = _
    rw [gI_sSeg, if_neg (by omega)]
    show gI (sI (sI (sI f 367 20 0) 367 13 0) 369 (68 + 900 * N + 1) (nI M)) a k = _
    rw [gI_sI, if_neg (by omega), gI_sI, if_neg (by omega), gI_sI, if_neg (by omega)]
  obtain ⟨f6, b1, b2, b3, b4, b5⟩ := copy_83 (f0 := f) hb hl (fun g36 => gd (1 : Int32) 5468 <| gd (1 : Int32) 5468 <| wr (sI g36 369 (1 : Int32).toNatClampNeg ((gI g36 369 (1 : Int32).toNatClampNeg) + (1 : Int32))) fun g38 => gd (1 : Int32) 5468 <| bnd (q_Mo_tell ((gI g38 369 (1 : Int32).toNatClampNeg) - (1 : Int32)) g38) fun r42 g40 => some (r42, g40)) len 0 FU f5 (by omega) (Nat.lt_of_le_of_lt hl (by decide)) ((r5 _ _ (by omega) (by omega)).trans h.2.2.2.2.2.1)
  have j1 : gI f6 369 1 = nI N := by rw [b2 _ _ (by omega), r5 _ _ (by omega) (by omega)]; exact h1
  refine ⟨sI (sI f6 369 1 (nI (N + 1))) 367 1 0, ?_, by rw [rd_a (by decide), rd_s], ?_, ?_, rd_s, fun a k q1 q2 => ?_, b4, ?_, fun j hj => ?_, fun j hj => ⟨?_, ?_⟩⟩
  · have gd1 : ∀ Y : hO Int32, gd (1 : Int32) 5468 Y = Y := fun Y => gd_nI (i := 1) (n := 5468) (by omega) (by omega) Y
    unfold q_Mo_law_33
    rw [end_ok h, bnd_s, if_pos e19, eb, e21, gd1, show nI (68 + 900 * N) + (1 : Int32) = nI (68 + 900 * N + 1) from nI_add _ 1, gd_nI (by omega) (by omega), wr_e, nI_clamp (by omega)]
    show q_Mo_law_61L (nI (68 + 900 * N)) _ FU 0 f4 = _
    rw [copy_61 hb hM _ (show gI f4 367 21 = nI M from (rd_a (by decide)).trans e21)]
    show q_Mo_law_83L (nI (68 + 900 * N)) _ FU (nI 0) f5 = _
    rw [b1, gd1, gd1, wr_e, show (1 : Int32).toNatClampNeg = 1 from rfl, j1, nI_1, gd1, rd_s, show nI (N + 1) - (1 : Int32) = nI N from nI_sub (a := N + 1) (b := 1) (by omega), te_p (nI_pos' (by omega)), bnd_s]
  · rw [rd_k (by decide), rd_a (by decide), b2 _ _ (by omega)]
    show gI (sSeg f4 369 (68 + 900 * N + 2) (8 * M) (fun j => gI f4 377 j)) 367 20 = _
    rw [gI_sSeg, if_neg (by omega)]
    show gI (sI (sI (sI f 367 20 0) 367 13 0) 369 (68 + 900 * N + 1) (nI M)) 367 20 = _
    rw [rd_a (by decide), rd_k (by decide), rd_s]
  · rw [rd_k (by decide), rd_a (by decide), b2 _ _ (by omega)]
    show gI (sSeg f4 369 (68 + 900 * N + 2) (8 * M) (fun j => gI f4 377 j)) 367 13 = _
    rw [gI_sSeg, if_neg (by omega)]
    show gI (sI (sI (sI f 367 20 0) 367 13 0) 369 (68 + 900 * N + 1) (nI M)) 367 13 = _
    rw [rd_a (by decide), rd_s]
  · rw [gI_sI, if_neg (by omega), gI_sI, if_neg (by omega), b2 _ _ (by omega), r5 _ _ (by omega) (by omega)]
  · rw [rd_a (by decide), rd_k (by omega), b2 _ _ (by omega)]
    show gI (sSeg f4 369 (68 + 900 * N + 2) (8 * M) (fun j => gI f4 377 j)) 369 (68 + 900 * N + 1) = _
    rw [gI_sSeg, if_neg (by omega)]
    exact rd_s
  · rw [rd_a (by decide), rd_k (by omega), b2 _ _ (by omega)]
    show gI (sSeg f4 369 (68 + 900 * N + 2) (8 * M) (fun j => gI f4 377 j)) 369 (68 + 900 * N + (2 + j)) = _
    rw [gI_sSeg, if_pos (by omega), show 68 + 900 * N + (2 + j) - (68 + 900 * N + 2) = j by omega]
    show gI (sI (sI (sI f 367 20 0) 367 13 0) 369 (68 + 900 * N + 1) (nI M)) 377 j = _
    rw [rd_a (by decide), rd_a (by decide), rd_a (by decide)]
  · rw [rd_a (by decide), rd_k (by omega), show 68 + 900 * N + (98 + 2 * j) = 68 + 900 * N + 98 + 2 * j by omega, (b3 j (by omega) hj).1, r5 _ _ (by omega) (by omega)]
  · rw [rd_a (by decide), rd_k (by omega), show 68 + 900 * N + (98 + 2 * j + 1) = 68 + 900 * N + 98 + 2 * j + 1 by omega, (b3 j (by omega) hj).2, r5 _ _ (by omega) (by omega)]
theorem law33_no {f : hG} (h : MEnd B n q f) : ∃ f', q_Mo_law_33 f = some (-6, nM (-6) 6 f') ∧ MFl q f' ∧ gI f' 367 13 = 0 ∧ Un sBt f f' := by
  obtain ⟨f', a1, a2, a3, a4⟩ := end_bad h
  refine ⟨f', ?_, a2, a3, a4⟩
  unfold q_Mo_law_33
  rw [a1, bnd_s, if_neg (by rw [a2.1]; decide), te_6, bnd_s]
end SL
