/-! canBe -/
def allB (Q : Nat → Bool) : Nat → Nat → Bool
  | _, 0 => true
  | i, m + 1 => Q i && allB Q (i + 1) m
/-- class: what was seen, and where the letters will be -/
def SeC (g : hG) (n : Nat) (hN : Nat → Nat) (C : Nat → Int32) (P : Nat → Nat → Int32) : Prop := gI g 1 6 = nI n ∧ (∀ j, j < n → gI g 7 j = nI (hN j) ∧ gI g 8 j = C j) ∧ ∀ v l, v ≤ 30 → l < 8 → gI g 261 (8 * v + l) = P v l
def SeM (g : hG) (n : Nat) (hN : Nat → Nat) (C : Nat → Int32) (P : Nat → Nat → Int32) : Prop := gI g 369 0 = nI n ∧ (∀ j, j < n → gI g 369 (56 + 2 * j) = nI (hN j) ∧ gI g 369 (57 + 2 * j) = C j) ∧ ∀ v l, v ≤ 30 → l < 8 → gI g 393 (8 * v + l) = P v l
theorem seen_c {g : hG} {n : Nat} {hN : Nat → Nat} {C : Nat → Int32} {P : Nat → Nat → Int32} (s : SeC g n hN C P) (hn : n ≤ 6) (h30 : ∀ j, j < n → hN j ≤ 30) {l : Nat} (hl : l < 8) : ∀ (m i F : Nat), i + m = n → m < F → q_Watch_isAtAllSeen_2L (nI l) (fun g4 => some ((1 : Int32), g4)) F (nI i) g = some (bI (allB (fun j => decide (P (hN j) l = C j)) i m = true), g) := by
  obtain ⟨s1, s2, s3⟩ := s
  intro m
  induction m with
  | zero =>
    intro i F h1 h2
    obtain ⟨F, rfl⟩ : ∃ q, F = q + 1 := ⟨F - 1, by omega⟩
    rw [q_Watch_isAtAllSeen_2L_s]
    unfold q_Watch_isAtAllSeen_2
    rw [s1, if_pos (nI_le (by omega) (by omega))]
    rfl
  | succ m ih =>
    intro i F h1 h2
    obtain ⟨F, rfl⟩ : ∃ q, F = q + 1 := ⟨F - 1, by omega⟩
    have hi : i < n := by omega
    have y := h30 i hi
    rw [q_Watch_isAtAllSeen_2L_s]
    unfold q_Watch_isAtAllSeen_2
    rw [s1, if_neg (nI_ge hi (by omega)), gd_nI (by omega) (by omega), nI_clamp (by omega), (s2 i hi).1, show nI (hN i) * (8 : Int32) + nI l = nI (8 * hN i + l) by rw [show (8 : Int32) = nI 8 from rfl, pk_mul, nI_add, Nat.mul_comm], gd_nI (by omega) (by omega), gd_nI (by omega) (by omega), nI_clamp (by omega), s3 _ _ y hl, (s2 i hi).2, nI_1]
    unfold allB
    by_cases z : P (hN i) l = C i
    · rw [if_pos z, ih (i + 1) F (by omega) (by omega), decide_eq_true z, Bool.true_and]
    · rw [if_neg z, decide_eq_false z, Bool.false_and, bI_f Bool.false_ne_true]
theorem seen_m {g : hG} {n : Nat} {hN : Nat → Nat} {C : Nat → Int32} {P : Nat → Nat → Int32} (s : SeM g n hN C P) (hn : n ≤ 6) (h30 : ∀ j, j < n → hN j ≤ 30) {l : Nat} (hl : l < 8) (K : Int32 → hG → hO Int32) : ∀ (m i F : Nat) (b : Bool), i + m = n → m < F → q_Mo_thatCanBe_20L (nI l) K F (bI (b = true)) (nI i) g = K (bI ((b && allB (fun j => decide (P (hN j) l = C j)) i m) = true)) g := by
  obtain ⟨s1, s2, s3⟩ := s
  intro m
  induction m with
  | zero =>
    intro i F b h1 h2
    obtain ⟨F, rfl⟩ : ∃ q, F = q + 1 := ⟨F - 1, by omega⟩
    rw [q_Mo_thatCanBe_20L_s]
    unfold q_Mo_thatCanBe_20
    rw [gd_L _ _ (by decide) (by decide), cl_L _ (by decide), s1, if_pos (nI_le (by omega) (by omega))]
    unfold allB
    rw [Bool.and_true]
  | succ m ih =>
    intro i F b h1 h2
    obtain ⟨F, rfl⟩ : ∃ q, F = q + 1 := ⟨F - 1, by omega⟩
    have hi : i < n := by omega
    have y := h30 i hi
    have nt := ih (i + 1) F true (by omega) (by omega)
    have nf := ih (i + 1) F false (by omega) (by omega)
    rw [bI_t rfl] at nt
    rw [bI_f Bool.false_ne_true] at nf
    rw [q_Mo_thatCanBe_20L_s]
    unfold q_Mo_thatCanBe_20
    rw [gd_L _ _ (by decide) (by decide), cl_L _ (by decide), s1, if_neg (nI_ge hi (by omega)), nI_1]
    cases b with
    | false =>
      rw [bI_f Bool.false_ne_true, if_pos rfl, nf, Bool.false_and, Bool.false_and]
    | true =>
      have e2 : (2 : Int32) * nI i = nI (2 * i) := by rw [show (2 : Int32) = nI 2 from rfl, pk_mul]
      have e3 : (56 : Int32) + nI (2 * i) = nI (56 + 2 * i) := nI_add 56 (2 * i)
      rw [bI_t rfl, if_neg (by decide), e2, e3, nI_1, gd_nI (by omega) (by omega), nI_clamp (show 56 + 2 * i < 2 ^ 31 by omega), (s2 i hi).1, show (8 : Int32) * nI (hN i) + nI l = nI (8 * hN i + l) by rw [show (8 : Int32) = nI 8 from rfl, pk_mul, nI_add], gd_nI (by omega) (by omega), gd_nI (by omega) (by omega), nI_clamp (show 8 * hN i + l < 2 ^ 31 by omega), nI_clamp (show 56 + 2 * i + 1 < 2 ^ 31 by omega), s3 _ _ y hl, show 56 + 2 * i + 1 = 57 + 2 * i by omega, (s2 i hi).2, Bool.true_and]
      unfold allB
      by_cases z : P (hN i) l = C i
      · rw [if_pos z, nt, decide_eq_true z, Bool.true_and]
      · rw [if_neg z, nf, decide_eq_false z, Bool.false_and]
theorem can_l {g f : hG} {n : Nat} {hN : Nat → Nat} {C : Nat → Int32} {P : Nat → Nat → Int32} (s : SeC g n hN C P) (t : SeM f n hN C P) (hn : n ≤ 6) (h30 : ∀ j, j < n → hN j ≤ 30) (hq : ∀ l, l < 8 → gI g 3 l = gI f 369 (32 + l)) : ∀ (m i F F' : Nat) (x : Int32), i + m = 8 → m < F → m < F' → ∃ r, q_Watch_lettersSeen_4L (fun x7 g9 => some (x7, g9)) F x (nI i) g = some (r, g) ∧ q_Mo_thatCanBe_4L (fun x12 g16 => some (x12, g16)) F' x (nI i) f = some (r, f) ∧ ∀ j, j < 8 → bt r (nI j) → bt x (nI j) ∨ gI f 369 (32 + j) ≠ 0 := by
  intro m
  induction m with
  | zero =>
    intro i F F' x h1 h2 h3
    obtain ⟨F, rfl⟩ : ∃ q, F = q + 1 := ⟨F - 1, by omega⟩
    obtain ⟨F', rfl⟩ : ∃ q, F' = q + 1 := ⟨F' - 1, by omega⟩
    obtain rfl : i = 8 := by omega
    rw [q_Watch_lettersSeen_4L_s, q_Mo_thatCanBe_4L_s]
    unfold q_Watch_lettersSeen_4 q_Mo_thatCanBe_4
    rw [if_pos (by decide), if_pos (by decide)]
    exact ⟨_, rfl, rfl, fun _ _ q => Or.inl q⟩
  | succ m ih =>
    intro i F F' x h1 h2 h3
    obtain ⟨F, rfl⟩ : ∃ q, F = q + 1 := ⟨F - 1, by omega⟩
    obtain ⟨F', rfl⟩ : ∃ q, F' = q + 1 := ⟨F' - 1, by omega⟩
    have hi : i < 8 := by omega
    have ne : ¬ (8 : Int32) ≤ nI i := nI_ge (a := i) (b := 8) (by omega) (by decide)
    have n1 := fun x => ih (i + 1) F F' x (by omega) (by omega) (by omega)
    have fu : n < FU := Nat.lt_of_le_of_lt hn (by decide)
    have c1 := seen_c s hn h30 hi n 0 FU (by omega) fu
    rw [q_Watch_lettersSeen_4L_s, q_Mo_thatCanBe_4L_s]
    unfold q_Watch_lettersSeen_4 q_Mo_thatCanBe_4 q_Mo_thatCanBe_17
    rw [if_neg ne, if_neg ne, show (32 : Int32) + nI i = nI (32 + i) from nI_add 32 i, gd_nI hi (by omega), gd_nI (by omega) (by omega), nI_clamp (by omega), nI_clamp (by omega), hq i hi, nI_1]
    unfold q_Watch_isAtAllSeen
    rw [show q_Watch_isAtAllSeen_2L (nI i) (fun g4 => some ((1 : Int32), g4)) FU 0 g = some (bI (allB (fun j => decide (P (hN j) i = C j)) 0 n = true), g) from c1, bnd_s]
    by_cases z : gI f 369 (32 + i) = 0
    · have c2 := seen_m t hn h30 hi (fun x6 g8 => if x6 = (0 : Int32) then (q_Mo_thatCanBe_4L (fun x12 g16 => some (x12, g16)) F' (x ||| (0 : Int32)) (nI (i + 1)) g8) else (q_Mo_thatCanBe_4L (fun x12 g16 => some (x12, g16)) F' (x ||| (shl (1 : Int32) (nI i))) (nI (i + 1)) g8)) n 0 FU false (by omega) fu
      rw [bI_f Bool.false_ne_true] at c2
      rw [if_pos z, if_pos z, show q_Mo_thatCanBe_20L (nI i) _ FU 0 0 f = _ from c2, Bool.false_and, bI_f Bool.false_ne_true, if_pos rfl, show x ||| 0 = x from Int32.or_zero]
      exact n1 _
    · have c2 := seen_m t hn h30 hi (fun x6 g8 => if x6 = (0 : Int32) then (q_Mo_thatCanBe_4L (fun x12 g16 => some (x12, g16)) F' (x ||| (0 : Int32)) (nI (i + 1)) g8) else (q_Mo_thatCanBe_4L (fun x12 g16 => some (x12, g16)) F' (x ||| (shl (1 : Int32) (nI i))) (nI (i + 1)) g8)) n 0 FU true (by omega) fu
      rw [bI_t rfl] at c2
      rw [if_neg z, if_neg z, show q_Mo_thatCanBe_20L (nI i) _ FU 1 0 f = _ from c2, Bool.true_and, show x ||| 0 = x from Int32.or_zero]
      by_cases y : allB (fun j => decide (P (hN j) i = C j)) 0 n = true
      · rw [bI_t y, if_neg (by decide), if_neg (by decide)]
        obtain ⟨r, r1, r2, r3⟩ := n1 (x ||| shl (1 : Int32) (nI i))
        refine ⟨r, r1, r2, fun j hj hb => ?_⟩
        rcases r3 j hj hb with q | q
        · rcases (bt_set x (by omega) (by omega)).mp q with q | q
          · exact Or.inl q
          · subst q; exact Or.inr z
        · exact Or.inr q
      · rw [bI_f y, if_pos rfl, if_pos rfl]
        exact n1 _
theorem see_both {g : hG} (h : Inv g) : ∃ (P : Nat → Nat → Int32) (n : Nat) (hN : Nat → Nat) (C : Nat → Int32) (gt : hG), q_MP_watchLetters g = some ((), gt) ∧ Un sX g gt ∧ SeC gt n hN C P ∧ n ≤ 6 ∧ (∀ j, j < n → hN j ≤ 30) ∧ (∀ l, l < 8 → gI gt 3 l = gI g 369 (32 + l)) ∧ (∀ v l, v ≤ 30 → l < 8 → gI g 369 (32 + l) ≠ 0 → ∃ c, c < 25 ∧ P v l = nI c) ∧ ∀ f, Un sX g f → ∃ gm, q_Mo_layPlaces (sI f 367 0 0) = some ((), gm) ∧ Un sX f gm ∧ SeM gm n hN C P := by
  obtain ⟨n, hn, w0, wk⟩ := h.1.2.2.2.2.2.2.1
  have l1 : gI g 1 6 = nI n := h.1.1.2.1.2.2.2.1.trans w0
  obtain ⟨P, gt, t1, t2, t3, t5, t4⟩ := watch_both h
  have hk : ∀ j, j < n → gI g 369 (56 + 2 * j) = nI (gI g 369 (56 + 2 * j)).toNatClampNeg ∧ (gI g 369 (56 + 2 * j)).toNatClampNeg ≤ 30 := fun j hj => by
    obtain ⟨⟨v, v1, v2⟩, -⟩ := wk j hj
    rw [v2, nI_clamp (by omega)]
    exact ⟨rfl, v1⟩
  refine ⟨P, n, fun j => (gI g 369 (56 + 2 * j)).toNatClampNeg, fun j => gI g 369 (57 + 2 * j), gt, t1, t2, ⟨(t2.I rfl).trans l1, fun j hj => ⟨?_, ?_⟩, t3⟩, hn, fun j hj => (hk j hj).2, fun l hl => ?_, t5, fun f uf => ?_⟩
  · rw [t2.I rfl, ← (hk j hj).1]; exact (h.1.1.2.2.1 j (by omega)).1
  · rw [t2.I rfl]; exact (h.1.1.2.2.1 j (by omega)).2
  · rw [t2.I rfl, show 32 + l = 4 + (28 + l) by omega]; exact (inv_m h).1.2.2.1 l hl
  · obtain ⟨gm, l1, l2, l3⟩ := t4 f uf
    have e : ∀ i, gI gm 369 i = gI g 369 i := fun i => by rw [l2.I rfl, uf.I rfl]
    exact ⟨gm, l1, l2, (e 0).trans w0, fun j hj => ⟨(e _).trans (hk j hj).1, e _⟩, l3⟩
theorem sp_canBe {g : hG} (h : Inv g) : Sp q_MP_canBe q_Mo_canBe g := by
  obtain ⟨P, n, hN, C, gt, t1, t2, t3, t4, t5, t6, -, t7⟩ := see_both h
  obtain ⟨gm, l1, l2, l3⟩ := t7 gt t2
  obtain ⟨r, e1, e2, -⟩ := can_l t3 l3 t4 t5 (fun l hl => by rw [t6 l hl, l2.I rfl, t2.I rfl]) 8 0 FU FU 0 (by omega) (by decide) (by decide)
  refine Sp.q (r := r) (g1 := gt) (g2 := gm) ?_ ?_ (h.un (t2.tr l2))
  · unfold q_MP_canBe q_Watch_lettersSeen
    rw [t1, bnd_s]
    exact congrArg (fun x => bnd x _) e1
  · unfold q_Mo_canBe q_Mo_thatCanBe
    rw [wr_e, l1, bnd_s]
    exact congrArg (fun x => bnd x _) e2
