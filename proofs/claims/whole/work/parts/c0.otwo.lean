/-! orders: sums of a clause, both -/
section CHo
variable {B : Nat → Nat} {n t p sz pa i len v q : Nat} {f g : hG}
def FS (f : hG) (len i k : Nat) (d : Den) : Prop := ∃ a b, a < b ∧ b ≤ len ∧ gI f 397 (8 * i + k) = nI a ∧ gI f 397 (8 * i + k + 1) = nI b ∧ FrM 1 (gI f 378) (gI f 379) a b d
theorem FS.ex {f f' : hG} {len len' k : Nat} {d : Den} (h : FS f len i k d) (hl : len ≤ len') (e1 : gI f' 397 (8 * i + k) = gI f 397 (8 * i + k)) (e2 : gI f' 397 (8 * i + k + 1) = gI f 397 (8 * i + k + 1)) (e3 : ∀ j, j < len → gI f' 378 j = gI f 378 j ∧ gI f' 379 j = gI f 379 j) : FS f' len' i k d := by
  obtain ⟨a, b, h1, h2, h3, h4, h5⟩ := h
  exact ⟨a, b, h1, by omega, e1.trans h3, e2.trans h4, h5.ex (fun j x y => e3 j (by omega))⟩
theorem sRow_f {a k : Nat} (h : HT t) (h1 : t + 2 ≤ a) (h2 : a ≤ t + 6) : sRd t a k = false := Bool.eq_false_iff.mpr (fun y => by
  have := h.2
  simp only [sRd, Bool.or_eq_true, Bool.and_eq_true, beq_iff_eq] at y
  omega)
theorem sTx_t {a k : Nat} (h1 : t + 2 ≤ a) (h2 : a ≤ t + 6) : sTx t a k = true := by
  unfold sTx
  rw [show Nat.ble (t + 2) a = true from Nat.ble_eq.mpr h1, show Nat.ble a (t + 6) = true from Nat.ble_eq.mpr h2]
  simp
/-- a sum with its row, the class -/
theorem sumr_j (h : PC B n t 1 p sz pa g) (hs : sz + 1 ≤ 2 + cnt (stB B) p) {k : Nat} (hk : 2 ≤ k ∧ k ≤ 6) : ∃ (b : Bool) (g1 g' : hG) (p' sz' pa' : Nat), z_Rd_sum FR 0 (sI g (t + k) i (nI sz)) = some (bI (b = true), g1) ∧ q_Rd_endRow (bI (b = true)) g1 = some (bI (b = true), g') ∧ Un (sTx t) g g' ∧ PC B n t 1 p' sz' pa' g' ∧ cnt (stB B) p ≤ cnt (stB B) p' ∧ (∀ a k', t + 2 ≤ a → a ≤ t + 6 → ¬ (a = t + k ∧ k' = i) → gI g' a k' = gI g a k') ∧
    (b = true → sz < sz' ∧ noOp (tkF B n p') ∧ (∀ j, j < sz → gI g' (t + 1) j = gI g (t + 1) j) ∧ ∃ d : Den, GD 1 d ∧ (∃ a, gI g' (t + k) i = nI a ∧ Rwo g' t sz' a d) ∧ MOk B n 1 0 1 3 5 p pa 0 p' pa' false d) ∧
    (b = false → MNo B n 1 0 1 5 p pa 0 p' false) := by
  have tt := h.2.2.2.1.2
  have hh := ht_ne h.2.2.2.1
  have hk' : PC B n t 1 p sz pa (sI g (t + k) i (nI sz)) := h.keep1 (fun a k' hh => rd_a (by omega)) rfl
  obtain ⟨b, g1, p1, sz1, pa1, s1, s2, s3, s4, s5, s6, s7, s8⟩ := sum_z1 (v1 := 0) FR 0 (by decide) (by omega) _ _ _ _ hk'
  obtain ⟨a1, a2, a3⟩ := add_j s3 (by omega) (s := 13) (by omega)
  have er : q_Rd_endRow (bI (b = true)) g1 = some (bI (b = true), addH t sz1 13 g1) := by
    unfold q_Rd_endRow
    rw [s3.2.2.2.2.1, gp_p h.2.2.2.1.1, show q_Text_add t (13 : Int32) (0 : Int32) g1 = _ from a1, bnd_s, gb_bI2]
  have r0 : ∀ a k', t + 2 ≤ a → a ≤ t + 6 → gI (addH t sz1 13 g1) a k' = gI (sI g (t + k) i (nI sz)) a k' := fun a k' q1 q2 => by
    rw [un_add.I (sRow_f h.2.2.2.1 q1 q2), s2.I (sRow_f h.2.2.2.1 q1 q2)]
  refine ⟨b, g1, addH t sz1 13 g1, p1, sz1 + 1, pa1, s1, er, ((Un.rf.sI (sTx_t (by omega) (by omega)) _).tr (sRd_sTx s2)).tr (sRd_sTx un_add), a2, s4, fun a k' q1 q2 q3 => ?_, fun q => ?_, s8⟩
  · rw [r0 a k' q1 q2, gI_sI, if_neg q3]
  · obtain ⟨y1, y2, y3, su, k2, y4, y5, y6, y7, y8⟩ := s7 q
    have f4 := y4.1
    have pa50 : pa1 ≤ 50 := s3.2.2.2.2.2.2.2.2.2.1
    refine ⟨by omega, y2, fun j hj => ?_, su, y7, ⟨sz, ?_, sz1, k2, y4.ex (fun j a b => by rw [a3, if_neg (by omega)]), by omega, by rw [a3, if_pos rfl], by omega⟩, y8⟩
    · rw [a3, if_neg (by omega), y3 j hj]
      exact rd_a (by omega)
    · rw [r0 _ _ (by omega) (by omega), rd_s]
theorem eb_85 (i : Nat) (g : hG) : q_Mo_readOrder_85 (nI (8 * i)) g = bnd (q_Mo_readSum (nI (8 * i + 3)) g) fun _ g55 => q_Mo_readOrder_90 (nI (8 * i)) g55 := by
  unfold q_Mo_readOrder_85
  rw [show nI (8 * i) + (3 : Int32) = nI (8 * i + 3) from nI_add _ 3]
theorem eb_two (hv : v < 3) (f : hG) : mTwo i v f = bnd (q_Mo_readSum (nI (8 * i + 1)) f) fun _ g52 => if (gI g52 367 19) = (0 : Int32) then (bnd (q_Mo_isWord (gJ g52 396 v) g52) fun r59 g57 => bnd (q_Mo_must r59 g57) fun _ g60 => q_Mo_readOrder_85 (nI (8 * i)) g60) else (q_Mo_readOrder_85 (nI (8 * i)) g52) := by
  unfold mTwo
  rw [nI_1, nI_clamp (by omega)]
  congr 1
  funext _ g
  rw [gd_nI hv (by omega)]
/-- what a part of a clause brings: rows told by R, the model's part by M -/
theorem two_j (h : PC B n t 1 p sz pa g) (hs : sz + 1 ≤ 2 + cnt (stB B) p) (hi : i < 12) (hv : v < 3) : ∃ (b : Bool) (g' : hG) (p' sz' pa' : Nat), q_Rd_readTwo (nI i) (nI v) (nI (3008 + 2 * v)) g = some (bI (b = true), g') ∧ Un (sTx t) g g' ∧ PC B n t 1 p' sz' pa' g' ∧ (∀ a k, t + 2 ≤ a → a ≤ t + 6 → ¬ (k = i ∧ a ≤ t + 4) → gI g' a k = gI g a k) ∧
    (b = true → cnt (stB B) p ≤ cnt (stB B) p' ∧ sz ≤ sz' ∧ (∀ j, j < sz → gI g' (t + 1) j = gI g (t + 1) j) ∧ gI g' (t + 2) i = nI v ∧ ∃ fi se : Den, GD 1 fi ∧ GD 1 se ∧ (∃ a, gI g' (t + 3) i = nI a ∧ Rwo g' t sz' a fi) ∧ (∃ a, gI g' (t + 4) i = nI a ∧ Rwo g' t sz' a se) ∧ ∀ (len : Nat) (f : hG), PQo B n p pa len f → CoR f → ∃ (len' : Nat) (f' : hG), mTwo i v f = q_Mo_readOrder_90 (nI (8 * i)) f' ∧ PQo B n p' pa' len' f' ∧ Un sLo f f' ∧ len ≤ len' ∧ (∀ j, j < len → gI f' 378 j = gI f 378 j ∧ gI f' 379 j = gI f 379 j) ∧ (∀ k, ¬ (8 * i + 1 ≤ k ∧ k ≤ 8 * i + 4) → gI f' 397 k = gI f 397 k) ∧ gI f' 367 21 = gI f 367 21 ∧ FS f' len' i 1 fi ∧ FS f' len' i 3 se) ∧
    (b = false → ∀ (len : Nat) (f : hG), PQo B n p pa len f → CoR f → ∃ f', mTwo i v f = q_Mo_readOrder_90 (nI (8 * i)) f' ∧ MFo p' f' ∧ Un sLo f f') := by
  have tt := h.2.2.2.1.2
  have hh := ht_ne h.2.2.2.1
  have hT := h.2.2.2.1
  have h0 : PC B n t 1 p sz pa (sI g (t + 2) i (nI v)) := h.keep1 (fun a k hh => rd_a (by omega)) rfl
  obtain ⟨b, g1, g2, p1, sz1, pa1, x1, x2, x3, x4, x5, x6, x8, x9⟩ := sumr_j (i := i) (k := 3) h0 hs (by omega)
  have z2 : sz1 ≤ 2 + cnt (stB B) p1 := x4.2.2.2.2.2.2.2.2.2.2
  have c0 : ∀ j, gI (sI g (t + 2) i (nI v)) (t + 1) j = gI g (t + 1) j := fun j => rd_a (by omega)
  have r2 : ∀ a k, t + 2 ≤ a → a ≤ t + 6 → ¬ (k = i ∧ a ≤ t + 4) → gI g2 a k = gI g a k := fun a k q1 q2 q3 => by
    rw [x6 a k q1 q2 (by omega), gI_sI, if_neg (by omega)]
  have u2 : Un (sTx t) g g2 := (Un.rf.sI (sTx_t (by omega) (by omega)) _).tr x3
  have hz : gI (sI g (t + 2) i (nI v)) t 1 = nI sz := (rd_a (by omega)).trans h.2.2.2.2.2.2.2.2.1
  have cl : q_Rd_readTwo (nI i) (nI v) (nI (3008 + 2 * v)) g = if bI (b = true) = (0 : Int32) then some ((0 : Int32), g2) else bnd (q_Rd_took (nI (3008 + 2 * v)) g2) fun r17 g15 => if r17 = (0 : Int32) then (some ((0 : Int32), g15)) else (gp is_txt (gP g15 239 1) fun b19 => gp is_txt (gP g15 239 1) fun b20 => gd (nI i) 12 <| wr (sI g15 (b19 + 4) (nI i).toNatClampNeg (gI g15 b20 1)) fun g21 => bnd (z_Rd_sum FR (0 : Int32) g21) fun r25 g23 => bnd (q_Rd_endRow r25 g23) fun r28 g26 => gb r28 (some (r28, g26))) := by
    unfold q_Rd_readTwo
    rw [h.2.2.2.2.1, gp_p hT.1, gd_nI hi (by omega), wr_e, nI_clamp (by omega), show gP (sI g (t + 2) i (nI v)) 239 1 = some t from h0.2.2.2.2.1, gp_p hT.1, gp_p hT.1, gd_nI hi (by omega), wr_e, hz, x1, bnd_s, x2, bnd_s]
  rw [cl]
  cases b with
  | false =>
    rw [bI_f Bool.false_ne_true, if_pos rfl]
    refine ⟨false, g2, p1, sz1, pa1, by rw [bI_f Bool.false_ne_true], u2, x4, r2, fun q => (by cases q), fun _ len f hf hc => ?_⟩
    obtain ⟨f1, a1, a2, a3⟩ := rsum_no (i := i) (k := 1) (x9 rfl) x4.2.1.le hi (by omega) hf hc
    obtain ⟨f2, b1, b2, b3⟩ := bad_85 hi a2
    refine ⟨f2, ?_, b2, a3.tr b3⟩
    rw [eb_two hv, a1, bnd_s, if_neg (by rw [a2.1]; decide), b1]
  | true =>
    obtain ⟨x7, y1, y2, fi, y3, ⟨a, y4, y5⟩, y6⟩ := x8 rfl
    have d1 : ∀ (len : Nat) (f : hG), PQo B n p pa len f → CoR f → ∃ (len1 : Nat) (f1 : hG), PQo B n p1 pa1 len1 f1 ∧ Un sLo f f1 ∧ CoR f1 ∧ len < len1 ∧ (∀ j, j < len → gI f1 378 j = gI f 378 j ∧ gI f1 379 j = gI f 379 j) ∧ (∀ k, ¬ (8 * i + 1 ≤ k ∧ k ≤ 8 * i + 2) → gI f1 397 k = gI f 397 k) ∧ gI f1 367 21 = gI f 367 21 ∧ FS f1 len1 i 1 fi ∧ mTwo i v f = bnd (q_Mo_must (bI (tkF B n p1 = 3008 + 2 * v)) f1) fun _ g60 => q_Mo_readOrder_85 (nI (8 * i)) g60 := fun len f hf hc => by
      obtain ⟨len1, f1, a1, a2, a3, a4, a5, a6, a7, a8, a9, a10⟩ := rsum_ok (i := i) (k := 1) y6 y1 hi (by omega) hf hc
      have hc1 : CoR f1 := hc.J (fun a k q => a6.J (by rcases q with rfl | rfl | rfl | rfl | rfl <;> rfl))
      refine ⟨len1, f1, a2, a6, hc1, a3, a5, fun k hk => a9 k (by omega) (by omega), a10, ⟨len, len1, a3, Nat.le_refl _, a7, a8, a4⟩, ?_⟩
      rw [eb_two hv, a1, bnd_s, if_pos a2.2.2.2.1, hc1.2.2.2.2 v hv, word_qo a2 (by omega), bnd_s, show 3001 + (7 + 2 * v) = 3008 + 2 * v by omega]
    rw [bI_t rfl, if_neg (by decide), took_c x4 (v := 3008 + 2 * v) (by omega)]
    by_cases z : tkF B n p1 = 3008 + 2 * v
    · obtain ⟨hp, hst⟩ := tk_lt x4.2.1 (by omega)
      have kn := (tk_n hp hst).2.1
      have ha := x4.adv hp hst
      obtain ⟨b, g3, g4, p2, sz2, pa2, w1, w2, w3, w4, w5, w6, w8, w9⟩ := sumr_j (i := i) (k := 4) ha (by omega) (by omega)
      have ca : ∀ j, gI (adv B n p1 g2) (t + 1) j = gI g2 (t + 1) j := fun j => rd_a hh.2.1
      have r4 : ∀ a k, t + 2 ≤ a → a ≤ t + 6 → ¬ (a = t + 4 ∧ k = i) → gI g4 a k = gI g2 a k := fun a k q1 q2 q3 => by
        rw [w6 a k q1 q2 q3]
        exact rd_a (by omega)
      have mv : ∀ (f1 : hG) (len1 : Nat), PQo B n p1 pa1 len1 f1 → CoR f1 → ∃ f2, q_Mo_must (bI (tkF B n p1 = 3008 + 2 * v)) f1 = some ((), f2) ∧ PQo B n (nx B n p1) pa1 len1 f2 ∧ CoR f2 ∧ Un sLo f1 f2 ∧ gI f2 378 = gI f1 378 ∧ gI f2 379 = gI f1 379 ∧ gI f2 397 = gI f1 397 ∧ gI f2 367 21 = gI f1 367 21 := fun f1 len1 hf1 hc1 => by
        obtain ⟨f2, a1, a2, a3⟩ := next_qo hf1 hp hst
        refine ⟨f2, by rw [bI_t z, must_qo1 hf1, a1], a2, hc1.un (sNx_sPm a3), sPm_sLo (sNx_sPm a3), funext (fun j => a3.I rfl), funext (fun j => a3.I rfl), funext (fun j => a3.I rfl), a3.I rfl⟩
      rw [if_pos z, bnd_s, if_neg (by decide), ha.2.2.2.2.1, gp_p hT.1, gp_p hT.1, gd_nI hi (by omega), wr_e, nI_clamp (by omega), ha.2.2.2.2.2.2.2.2.1, w1, bnd_s, w2, bnd_s, gb_bI2]
      cases b with
      | false =>
        refine ⟨false, g4, p2, sz2, pa2, rfl, (u2.tr (sRd_sTx un_adv)).tr w3, w4, fun a k q1 q2 q3 => by rw [r4 a k q1 q2 (by omega), r2 a k q1 q2 q3], fun q => (by cases q), fun _ len f hf hc => ?_⟩
        obtain ⟨len1, f1, a1, a2, a3, a4, a5, a6, a7, a8, a9⟩ := d1 len f hf hc
        obtain ⟨f2, b1, b2, b3, b4, -⟩ := mv f1 len1 a1 a3
        obtain ⟨f3, c1, c2, c3⟩ := rsum_no (i := i) (k := 3) (w9 rfl) w4.2.1.le hi (by omega) b2 b3
        refine ⟨f3, ?_, c2, (a2.tr b4).tr c3⟩
        rw [a9, b1, bnd_s, eb_85, c1, bnd_s]
      | true =>
        obtain ⟨w7, v1, v2, se, v3, ⟨a', v4, v5⟩, v6⟩ := w8 rfl
        refine ⟨true, g4, p2, sz2, pa2, rfl, (u2.tr (sRd_sTx un_adv)).tr w3, w4, fun a k q1 q2 q3 => by rw [r4 a k q1 q2 (by omega), r2 a k q1 q2 q3], fun _ => ⟨by omega, by omega, fun j hj => ?_, ?_, fi, se, y3, v3, ⟨a, ?_, y5.ex (by omega) (fun j hj => (v2 j hj).trans (ca j))⟩, ⟨a', v4, v5⟩, fun len f hf hc => ?_⟩, fun q => (by cases q)⟩
        · rw [v2 j (by omega), ca, y2 j hj, c0]
        · rw [r4 _ _ (by omega) (by omega) (by omega), x6 _ _ (by omega) (by omega) (by omega), rd_s]
        · rw [r4 _ _ (by omega) (by omega) (by omega), y4]
        · obtain ⟨len1, f1, a1, a2, a3, a4, a5, a6, a7, a8, a9⟩ := d1 len f hf hc
          obtain ⟨f2, b1, b2, b3, b4, b5, b6, b7, b8⟩ := mv f1 len1 a1 a3
          obtain ⟨len3, f3, c1, c2, c3, c4, c5, c6, c7, c8, c9, c10⟩ := rsum_ok (i := i) (k := 3) v6 v1 hi (by omega) b2 b3
          rw [b5, b6] at c5
          refine ⟨len3, f3, ?_, c2, (a2.tr b4).tr c6, by omega, fun j hj => ⟨(c5 j (by omega)).1.trans (a5 j hj).1, (c5 j (by omega)).2.trans (a5 j hj).2⟩, fun k hk => ?_, c10.trans (b8.trans a7), ?_, ⟨len1, len3, c3, Nat.le_refl _, c7, c8, c4⟩⟩
          · rw [a9, b1, bnd_s, eb_85, c1, bnd_s]
          · rw [c9 k (by omega) (by omega), b7, a6 k (by omega)]
          · exact a8.ex (by omega) ((c9 _ (by omega) (by omega)).trans (by rw [b7])) ((c9 _ (by omega) (by omega)).trans (by rw [b7])) c5
    · rw [if_neg z, bnd_s, if_pos rfl]
      refine ⟨false, g2, p1, sz1, pa1, by rw [bI_f Bool.false_ne_true], u2, x4, r2, fun q => (by cases q), fun _ len f hf hc => ?_⟩
      obtain ⟨len1, f1, a1, a2, a3, a4, a5, a6, a7, a8, a9⟩ := d1 len f hf hc
      obtain ⟨f2, b1, b2, b3⟩ := must_qo0 a1
      obtain ⟨f3, c1, c2, c3⟩ := bad_85 hi b2
      refine ⟨f3, ?_, c2, (a2.tr (sPm_sLo b3)).tr c3⟩
      rw [a9, bI_f z, b1, bnd_s, c1]
end CHo
