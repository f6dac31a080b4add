/-! bits of sets of cells -/
theorem sm31 : ∀ c, c < 32 → ((nI c &&& 31).toBitVec.smod 32).toNat = c := by decide +kernel
theorem bt_l (x : Int32) (c : Nat) (hc : c < 32) : bt x (nI c) ↔ x.toBitVec.getLsbD c = true := by
  have h : (shr x (nI c) &&& 1).toBitVec.getLsbD 0 = x.toBitVec.getLsbD c := by
    rw [Int32.toBitVec_and, BitVec.getLsbD_and, Int32.toBitVec_shiftRight]
    rw [BitVec.sshiftRight_eq', sm31 c hc, BitVec.getLsbD_sshiftRight]
    simp [hc]
  unfold bt
  rw [← h, and_1]
  unfold bI
  split <;> simp
theorem bt_or (x y : Int32) (c : Nat) (hc : c < 32) : bt (x ||| y) (nI c) ↔ bt x (nI c) ∨ bt y (nI c) := by
  rw [bt_l _ c hc, bt_l _ c hc, bt_l _ c hc, Int32.toBitVec_or, BitVec.getLsbD_or, Bool.or_eq_true]
theorem bt_and (x y : Int32) (c : Nat) (hc : c < 32) : bt (x &&& y) (nI c) ↔ bt x (nI c) ∧ bt y (nI c) := by
  rw [bt_l _ c hc, bt_l _ c hc, bt_l _ c hc, Int32.toBitVec_and, BitVec.getLsbD_and, Bool.and_eq_true]
theorem bt_not (x : Int32) (c : Nat) (hc : c < 32) : bt (x ^^^ (-1)) (nI c) ↔ ¬ bt x (nI c) := by
  rw [bt_l _ c hc, bt_l _ c hc, Int32.toBitVec_xor, BitVec.getLsbD_xor, show (-1 : Int32).toBitVec = BitVec.allOnes 32 from by decide, BitVec.getLsbD_allOnes, decide_eq_true hc]
  cases x.toBitVec.getLsbD c <;> simp
theorem bt_shl : ∀ c, c < 25 → ∀ d, d < 32 → (bt (shl 1 (nI c)) (nI d) ↔ d = c) := by decide +kernel
theorem bt_0 : ∀ c, c < 32 → ¬ bt 0 (nI c) := by decide +kernel
theorem bt_set (x : Int32) {c d : Nat} (hc : c < 25) (hd : d < 32) : bt (x ||| shl 1 (nI c)) (nI d) ↔ bt x (nI d) ∨ d = c := by
  rw [bt_or _ _ d hd, bt_shl c hc d hd]
theorem bt_clr (x : Int32) {c d : Nat} (hc : c < 25) (hd : d < 32) : bt (x &&& (shl 1 (nI c) ^^^ (-1))) (nI d) ↔ bt x (nI d) ∧ d ≠ c := by
  rw [bt_and _ _ d hd, bt_not _ d hd, bt_shl c hc d hd]
theorem bt_ext {x y : Int32} (hx : P25 x) (hy : P25 y) (h : ∀ c, c < 25 → (bt x (nI c) ↔ bt y (nI c))) : x = y := by
  refine bvE (fun i hi => ?_)
  by_cases z : i < 25
  · have := h i z
    rw [bt_l _ i hi, bt_l _ i hi] at this
    cases h1 : x.toBitVec.getLsbD i <;> cases h2 : y.toBitVec.getLsbD i <;> simp_all
  · rw [p25_bv] at hx hy
    have h25 : 33554432 ≤ 2 ^ i := Nat.le_trans (show 33554432 ≤ 2 ^ 25 by decide) (Nat.pow_le_pow_right (by decide) (by omega))
    show x.toBitVec.toNat.testBit i = y.toBitVec.toNat.testBit i
    rw [Nat.testBit_lt_two_pow (Nat.lt_of_lt_of_le hx h25), Nat.testBit_lt_two_pow (Nat.lt_of_lt_of_le hy h25)]
