/-! door, count; bits -/
theorem bvE {x y : Int32} (h : ∀ i, i < 32 → x.toBitVec.getLsbD i = y.toBitVec.getLsbD i) : x = y := Int32.toBitVec_inj.mp (BitVec.eq_of_getLsbD_eq (fun i hi => h i hi))
theorem or_set (d m : Int32) : (d &&& (m ^^^ (-1))) ||| m = d ||| m := by
  refine bvE (fun i hi => ?_)
  simp only [Int32.toBitVec_or, Int32.toBitVec_and, Int32.toBitVec_xor, BitVec.getLsbD_or, BitVec.getLsbD_and, BitVec.getLsbD_xor, show (-1 : Int32).toBitVec = BitVec.allOnes 32 from by decide, BitVec.getLsbD_allOnes, decide_eq_true hi]
  cases d.toBitVec.getLsbD i <;> cases m.toBitVec.getLsbD i <;> simp
theorem or_0 (d : Int32) : d ||| 0 = d := by
  refine bvE (fun i hi => ?_)
  simp
theorem and_1 (x : Int32) : x &&& 1 = bI (x &&& 1 = 1) := by
  obtain ⟨j, hj, e⟩ := pk_andE x (m := 1) 1 (by decide)
  have : j = 0 ∨ j = 1 := by omega
  rcases this with rfl | rfl <;> rw [e] <;> decide
/-- a set of cells -/
def P25 (x : Int32) : Prop := ∃ n, n < 33554432 ∧ x = nI n
theorem p25_bv (x : Int32) : P25 x ↔ x.toBitVec.toNat < 33554432 := by
  constructor
  · rintro ⟨n, hn, rfl⟩; rw [pk_tn (by omega)]; exact hn
  · intro h
    refine ⟨x.toBitVec.toNat, h, ?_⟩
    apply Int32.toBitVec_inj.mp
    apply BitVec.eq_of_toNat_eq
    rw [pk_tn (by omega)]
theorem p25_and {x : Int32} (h : P25 x) (y : Int32) : P25 (x &&& y) := by
  rw [p25_bv] at *
  rw [Int32.toBitVec_and, BitVec.toNat_and]
  exact Nat.lt_of_le_of_lt Nat.and_le_left h
theorem p25_or {x y : Int32} (h : P25 x) (h2 : P25 y) : P25 (x ||| y) := by
  rw [p25_bv] at *
  rw [Int32.toBitVec_or, BitVec.toNat_or]
  exact Nat.or_lt_two_pow (n := 25) h h2
theorem shl_1 : ∀ c, c < 25 → shl 1 (nI c) = nI (2 ^ c) := by decide +kernel
theorem shl_0 : ∀ c, c < 25 → shl 0 (nI c) = 0 := by decide +kernel
theorem p25_shl {c : Nat} (h : c < 25) : P25 (shl 1 (nI c)) := ⟨2 ^ c, Nat.lt_of_lt_of_le (Nat.pow_lt_pow_right (by decide) h) (by decide), shl_1 c h⟩
/-- a door set, or none -/
def dSet (d c is : Int32) : Int32 := if is = 0 then d &&& (shl 1 c ^^^ (-1)) else d ||| shl 1 c
theorem p25_dSet {d is : Int32} {c : Nat} (h : P25 d) (hc : c < 25) : P25 (dSet d (nI c) is) := by
  unfold dSet
  split
  · exact p25_and h _
  · exact p25_or h (p25_shl hc)
theorem setDoor_c (c is : Int32) (g : hG) : q_Kept_setDoor c is g = some ((), sI g 1 1 (dSet (gI g 1 1) c is)) := rfl
theorem setDoor_m {c : Nat} (hc : c < 25) {is : Int32} (hi : is = 0 ∨ is = 1) (g : hG) : q_Mo_setDoor (nI c) is g = some ((), sI g 369 3 (dSet (gI g 369 3) (nI c) is)) := by
  unfold q_Mo_setDoor
  rw [gd_L _ _ (by decide) (by decide), gd_L _ _ (by decide) (by decide), wr_e, cl_L _ (by decide)]
  rcases hi with rfl | rfl
  · rw [shl_0 c hc, or_0]; rfl
  · rw [or_set]; rfl
theorem sp_door {g : hG} (h : Inv g) (c is : Int32) : Sp (q_MP_door c is) (q_Mo_door c is) g := by
  by_cases hc : isC c
  · by_cases hi : 0 ≤ is ∧ is ≤ 1
    · have hi' : is = 0 ∨ is = 1 := by grind
      obtain ⟨n, hn, rfl⟩ := isC_n hc
      have e1 := h.1.1.2.1.1
      have q : ∀ x k, ¬ (x = 1 ∧ k = 1) ∧ ¬ (x = 263 ∧ k = 1) ∧ ¬ (x = 367 ∧ k = 0) ∧ ¬ (x = 369 ∧ k = 3) ∧ ¬ (x = 367 ∧ k = 1) → gI (sI (sI (sI (sI (sI g 1 1 (dSet (gI g 369 3) (nI n) is)) 263 1 0) 367 0 0) 369 3 (dSet (gI g 369 3) (nI n) is)) 367 1 0) x k = gI g x k := fun x k ⟨z1, z2, z3, z4, z5⟩ => by
        rw [gI_sI, if_neg z5, gI_sI, if_neg z4, gI_sI, if_neg z3, gI_sI, if_neg z2, gI_sI, if_neg z1]
      refine Sp.q (r := bI (bt (gI g 369 3) (nI n))) (g1 := sI (sI g 1 1 (dSet (gI g 369 3) (nI n) is)) 263 1 0) (g2 := sI (sI (sI (sI (sI g 1 1 (dSet (gI g 369 3) (nI n) is)) 263 1 0) 367 0 0) 369 3 (dSet (gI g 369 3) (nI n) is)) 367 1 0) ?_ ?_ (h.kept ⟨?_, ?_⟩ ?_ (q _ _ (by omega)) (q _ _ (by omega)) (by simp [gI_sI]) (fun _ _ _ => rfl))
      · unfold q_MP_door q_MP_door_21 q_MP_door_31
        rw [isCell_c, bnd_s, bI_t hc, if_neg (by decide), if_neg (lt_m1 _ hi.1), if_pos hi.2, hasDoor_c, bnd_s, setDoor_c, bnd_s, gr_e, bnd_s, e1]
        rw [show (if bI (bt (gI g 369 3) (nI n)) = 0 then (0 : Int32) else 1) = bI (bt (gI g 369 3) (nI n)) by unfold bI; split <;> simp]
        rw [show (if is = 1 then (1 : Int32) else 0) = is by rcases hi' with rfl | rfl <;> decide]
      · unfold q_Mo_door
        rw [wr_e, isCell_m, bnd_s, bI_t hc, if_neg (by decide), in_e is 0 1 0 1 rfl rfl, bnd_s, bI_t hi, if_neg (by decide), gd_L _ _ (by decide) (by decide), setDoor_m hn hi', bnd_s, cl_L _ (by decide)]
        rw [show gI (sI (sI (sI g 1 1 (dSet (gI g 369 3) (nI n) is)) 263 1 0) 367 0 0) 369 3 = gI g 369 3 by simp [gI_sI]]
        rw [show q_Mo_tell (shr (gI g 369 3) (nI n) &&& 1) = q_Mo_tell (bI (bt (gI g 369 3) (nI n))) from congrArg q_Mo_tell (and_1 _), te_p (by unfold bI; split <;> decide), bnd_s]
      · exact h.1.1.fld 3 1 (by simp) (fun x k z1 z2 z3 => q x k ⟨z2, (by rintro ⟨rfl, rfl⟩; cases z1), (by rintro ⟨rfl, rfl⟩; cases z1), z3, (by rintro ⟨rfl, rfl⟩; cases z1)⟩) (by simp [gI_sI])
      · refine h.1.2.fld 3 (by omega) (fun i hi => q _ _ (by omega)) (fun _ => ?_) (by omega) (by omega) (by omega) (by omega)
        rw [show gI (sI (sI (sI (sI (sI g 1 1 (dSet (gI g 369 3) (nI n) is)) 263 1 0) 367 0 0) 369 3 (dSet (gI g 369 3) (nI n) is)) 367 1 0) 369 3 = dSet (gI g 369 3) (nI n) is by simp [gI_sI]]
        exact p25_dSet h.1.2.2.2.2.2.1 hn
      · intro x k z1 z2 z3 z4
        exact q x k ⟨(by rintro ⟨rfl, rfl⟩; cases z1), z3, (by rintro ⟨rfl, rfl⟩; cases z2), (by rintro ⟨rfl, rfl⟩; cases z1), z4⟩
    · refine Sp.q (r := -1) (g1 := nC (-1) 1 g) (g2 := nM (-1) 1 (sI (nC (-1) 1 g) 367 0 0)) ?_ ?_ (h.no (-1) (by omega) (Un.rf.sI rfl _))
      · unfold q_MP_door q_MP_door_8
        rw [isCell_c, bnd_s, bI_t hc, if_neg (by decide), rf_1, bnd_s]
        by_cases h1 : is < 0
        · rw [if_pos h1]
        · rw [if_neg h1, if_neg]
          intro h2; apply hi; constructor <;> grind
      · unfold q_Mo_door q_Mo_door_12
        rw [wr_e, isCell_m, bnd_s, bI_t hc, if_neg (by decide), in_e is 0 1 0 1 rfl rfl, bnd_s, bI_f hi, if_pos rfl, te_1, bnd_s]
  · refine Sp.q (r := -1) (g1 := nC (-1) 1 g) (g2 := nM (-1) 1 (sI (nC (-1) 1 g) 367 0 0)) ?_ ?_ (h.no (-1) (by omega) (Un.rf.sI rfl _))
    · unfold q_MP_door q_MP_door_8
      rw [isCell_c, bnd_s, bI_f hc, if_pos rfl, rf_1, bnd_s]
    · unfold q_Mo_door q_Mo_door_12
      rw [wr_e, isCell_m, bnd_s, bI_f hc, if_pos rfl, te_1, bnd_s]
/-- how many letters are so -/
def hmF (st : Nat → Int32) (s : Int32) : Int32 := it (fun i acc => if st i = s then acc + 1 else acc) 0 8 0
theorem hm_c {g : hG} {a : Nat} {st : Nat → Int32} (h : ∀ l, l < 8 → gI g (a + 1) l = st l) (s : Int32) : q_Mom_howManyAre a s g = some (hmF st s, g) := by
  unfold q_Mom_howManyAre
  refine for_loop (fun n (b : Int32) i => q_Mom_howManyAre_4L a s (fun x3 g5 => some (x3, g5)) n b (nI i) g) (fun b => some (b, g)) (fun i acc => if st i = s then acc + 1 else acc) 8 ?_ ?_ 8 0 0 FU rfl (by decide)
  · intro n i b hi
    rw [q_Mom_howManyAre_4L_s]
    unfold q_Mom_howManyAre_4
    rw [if_neg (show ¬ (8 : Int32) ≤ nI i from nI_ge hi (by decide)), gd_nI hi (by omega), nI_clamp (by omega), h i hi, nI_1]
    split <;> rfl
  · intro n b
    rw [q_Mom_howManyAre_4L_s]
    unfold q_Mom_howManyAre_4
    rw [if_pos (by decide)]
theorem hm_m {g : hG} {st : Nat → Int32} (h : ∀ l, l < 8 → gI g 369 (32 + l) = st l) (s : Int32) : q_Mo_howMany s g = some (hmF st s, g) := by
  unfold q_Mo_howMany
  refine for_loop (fun n (b : Int32) i => q_Mo_howMany_4L s (fun x3 g5 => some (x3, g5)) n b (nI i) g) (fun b => some (b, g)) (fun i acc => if st i = s then acc + 1 else acc) 8 ?_ ?_ 8 0 0 FU rfl (by decide)
  · intro n i b hi
    rw [q_Mo_howMany_4L_s]
    unfold q_Mo_howMany_4
    rw [if_neg (show ¬ (8 : Int32) ≤ nI i from nI_ge hi (by decide)), show (32 : Int32) + nI i = nI (32 + i) from nI_add 32 i, gd_nI (by omega) (by omega), nI_clamp (by omega), h i hi, nI_1]
    split
    · rfl
    · rw [show b + 0 = b by grind]
  · intro n b
    rw [q_Mo_howMany_4L_s]
    unfold q_Mo_howMany_4
    rw [if_pos (by decide)]
theorem sp_count {g : hG} (h : Inv g) (v : Int32) : Sp (q_MP_count v) (q_Mo_count v) g := by
  obtain ⟨⟨⟨k1, ⟨a1, a2, a3, a4, a5, a6⟩, -, -⟩, -⟩, ⟨n, p, -, -, p1, p2, -, -⟩, -, ⟨t, -, t1, t2, -⟩, ⟨-, -, -, -, n5⟩, -, -⟩ := id h
  have hm1 : ∀ s, q_Mom_howManyAre 2 s g = some (hmF (fun l => gI g 369 (4 + (28 + l))) s, g) := fun s => hm_c (a := 2) k1.2.2.1 s
  have hm2 : ∀ s, q_Mo_howMany s (sI g 367 0 0) = some (hmF (fun l => gI g 369 (4 + (28 + l))) s, sI g 367 0 0) := fun s => hm_m (fun l hl => by rw [rd_a (by decide), show 32 + l = 4 + (28 + l) by omega]) s
  have k0 := k1.1
  have fin : ∀ r, q_MP_count v g = some (r, g) → q_Mo_count v g = some (r, sI g 367 0 0) → Sp (q_MP_count v) (q_Mo_count v) g := fun r e1 e2 => Sp.q e1 e2 (inv_0 h)
  by_cases hv : 0 ≤ v ∧ v ≤ 15
  · obtain ⟨m, hm, rfl⟩ := nI_of (lt_m1 v hv.1)
    have hm16 : m < 16 := by have := hv.2; rw [show (15 : Int32) = nI 15 from rfl, nI_leI hm (by omega)] at this; omega
    have : m = 0 ∨ m = 1 ∨ m = 2 ∨ m = 3 ∨ m = 4 ∨ m = 5 ∨ m = 6 ∨ m = 7 ∨ m = 8 ∨ m = 9 ∨ m = 10 ∨ m = 11 ∨ m = 12 ∨ m = 13 ∨ m = 14 ∨ m = 15 := by omega
    clear hm hm16 hv
    rcases this with rfl | rfl | rfl | rfl | rfl | rfl | rfl | rfl | rfl | rfl | rfl | rfl | rfl | rfl | rfl | rfl
    · exact fin (gI g 369 3) (by rw [← a1]; rfl) (by simp [q_Mo_count, wr, gd, inb, gI_sI, nI])
    · exact fin _ (by simp [q_MP_count, nI, hm1, bnd]; rfl) (by simp [q_Mo_count, wr, nI, hm2, bnd])
    · exact fin _ (by simp [q_MP_count, nI, hm1, bnd]; rfl) (by simp [q_Mo_count, wr, nI, hm2, bnd])
    · exact fin (gI g 369 0) (by rw [← a4]; rfl) (by simp [q_Mo_count, wr, gd, inb, gI_sI, nI])
    · exact fin (gI g 369 1) (by rw [← a5]; rfl) (by simp [q_Mo_count, wr, gd, inb, gI_sI, nI])
    · exact fin (nI n) (by rw [← p1]; rfl) (by rw [← p2]; simp [q_Mo_count, wr, gd, inb, gI_sI, nI])
    · exact fin (nI t) (by rw [← t1]; rfl) (by rw [← t2]; simp [q_Mo_count, wr, gd, inb, gI_sI, nI])
    · exact fin (gI g 368 1) (by rw [← n5 1 (by omega)]; simp [q_MP_count, gd, inb, nI]) (by simp [q_Mo_count, wr, gd, inb, gI_sI, nI])
    · exact fin (gI g 368 2) (by rw [← n5 2 (by omega)]; simp [q_MP_count, gd, inb, nI]) (by simp [q_Mo_count, wr, gd, inb, gI_sI, nI])
    · exact fin (gI g 368 3) (by rw [← n5 3 (by omega)]; simp [q_MP_count, gd, inb, nI]) (by simp [q_Mo_count, wr, gd, inb, gI_sI, nI])
    · exact fin (gI g 368 5) (by rw [← n5 5 (by omega)]; simp [q_MP_count, gd, inb, nI]) (by simp [q_Mo_count, wr, gd, inb, gI_sI, nI])
    · exact fin (gI g 368 6) (by rw [← n5 6 (by omega)]; simp [q_MP_count, gd, inb, nI]) (by simp [q_Mo_count, wr, gd, inb, gI_sI, nI])
    · exact fin (gI g 369 2) (by rw [← a6]; rfl) (by simp [q_Mo_count, wr, gd, inb, gI_sI, nI])
    · exact fin (gI g 369 4) (by rw [← show gI g 2 4 = gI g 369 4 from k0]; simp [q_MP_count, q_MP_termNow, bnd, nI]) (by simp [q_Mo_count, q_Mo_in, bnd, wr, gd, inb, gI_sI, nI])
    · exact fin (gI g 369 5) (by rw [← a2]; simp [q_MP_count, q_MP_termNow, bnd, nI]) (by simp [q_Mo_count, q_Mo_in, bnd, wr, gd, inb, gI_sI, nI])
    · exact fin (gI g 369 6) (by rw [← a3]; simp [q_MP_count, q_MP_termNow, bnd, nI]) (by simp [q_Mo_count, q_Mo_in, bnd, wr, gd, inb, gI_sI, nI])
  · have z : ∀ m : Nat, m < 16 → ¬ v = nI m := fun m hm e => hv ⟨by rw [e]; exact nI_pos' (by omega), by rw [e]; exact (nI_le (show m ≤ 15 by omega) (by decide) : nI m ≤ nI 15)⟩
    refine fin (-1) ?_ ?_
    · unfold q_MP_count
      rw [if_neg (show ¬ v = 0 from z 0 (by omega)), if_neg (show ¬ v = 1 from z 1 (by omega)), if_neg (show ¬ v = 2 from z 2 (by omega)), if_neg (show ¬ v = 3 from z 3 (by omega)), if_neg (show ¬ v = 4 from z 4 (by omega)), if_neg (show ¬ v = 5 from z 5 (by omega)), if_neg (show ¬ v = 6 from z 6 (by omega)), if_neg (show ¬ v = 7 from z 7 (by omega)), if_neg (show ¬ v = 8 from z 8 (by omega)), if_neg (show ¬ v = 9 from z 9 (by omega)), if_neg (show ¬ v = 10 from z 10 (by omega)), if_neg (show ¬ v = 11 from z 11 (by omega)), if_neg (show ¬ v = 12 from z 12 (by omega)), if_neg (show ¬ v = 13 from z 13 (by omega)), if_neg (show ¬ v = 14 from z 14 (by omega)), if_neg (show ¬ v = 15 from z 15 (by omega))]
    · unfold q_Mo_count
      rw [wr_e, if_neg (show ¬ v = 0 from z 0 (by omega)), if_neg (show ¬ v = 1 from z 1 (by omega)), if_neg (show ¬ v = 2 from z 2 (by omega)), if_neg (show ¬ v = 3 from z 3 (by omega)), if_neg (show ¬ v = 4 from z 4 (by omega)), if_neg (show ¬ v = 5 from z 5 (by omega)), if_neg (show ¬ v = 6 from z 6 (by omega)), if_neg (show ¬ v = 7 from z 7 (by omega)), if_neg (show ¬ v = 8 from z 8 (by omega)), if_neg (show ¬ v = 9 from z 9 (by omega)), if_neg (show ¬ v = 10 from z 10 (by omega)), if_neg (show ¬ v = 11 from z 11 (by omega)), if_neg (show ¬ v = 12 from z 12 (by omega)), in_e v 13 15 13 15 rfl rfl, bnd_s, bI_f, if_pos rfl]
      rintro ⟨h1, h2⟩
      apply hv
      constructor <;> grind
