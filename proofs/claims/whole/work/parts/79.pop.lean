/-! how many bits: the library's way and one by one -/
theorem ushr_nI {n k : Nat} (hn : n < 2 ^ 31) (hk : k < 32) : ushr (nI n) (nI k) = nI (n / 2 ^ k) := by
  have hd : n / 2 ^ k ≤ n := Nat.div_le_self _ _
  apply Int32.toBitVec_inj.mp
  apply BitVec.eq_of_toNat_eq
  rw [pk_tn (by omega)]
  have e : ((nI k).toUInt32 &&& Int32.toUInt32 31).toNat % 32 = k := by
    have : ∀ k, k < 32 → ((nI k).toUInt32 &&& Int32.toUInt32 31).toNat % 32 = k := by decide +kernel
    exact this k hk
  unfold ushr
  show ((nI n).toUInt32 >>> ((nI k).toUInt32 &&& Int32.toUInt32 31)).toNat = _
  rw [UInt32.toNat_shiftRight, e, Nat.shiftRight_eq_div_pow]
  show (nI n).toBitVec.toNat / _ = _
  rw [pk_tn (by omega)]
theorem nI_and {a b : Nat} (ha : a < 2 ^ 31) (hb : b < 2 ^ 31) : nI a &&& nI b = nI (a &&& b) := by
  apply Int32.toBitVec_inj.mp
  apply BitVec.eq_of_toNat_eq
  rw [Int32.toBitVec_and, BitVec.toNat_and, pk_tn (by omega), pk_tn (by omega), pk_tn (Nat.lt_trans (Nat.lt_of_le_of_lt Nat.and_le_left ha) (by decide))]
theorem land_split {a m b k : Nat} (ha : a < 256) (hm : m < 256) : (256 * b + a) &&& (256 * k + m) = 256 * (b &&& k) + (a &&& m) := by
  apply Nat.eq_of_testBit_eq
  intro j
  have hl : a &&& m < 2 ^ 8 := Nat.lt_of_le_of_lt Nat.and_le_left ha
  rw [Nat.testBit_and, show 256 = 2 ^ 8 from rfl, Nat.testBit_two_pow_mul_add _ ha, Nat.testBit_two_pow_mul_add _ hm, Nat.testBit_two_pow_mul_add _ hl]
  by_cases z : j < 8
  · rw [if_pos z, if_pos z, if_pos z, Nat.testBit_and]
  · rw [if_neg z, if_neg z, if_neg z, Nat.testBit_and]
def pA (M n : Nat) : Nat := n - (n / 2 &&& M)
def pB (M n : Nat) : Nat := (n &&& M) + (n / 4 &&& M)
def pC (M n : Nat) : Nat := (n + n / 16) &&& M
theorem pA_s {a b K : Nat} (ha : a < 256) : pA (256 * K + 85) (256 * b + a) = 256 * pA K b + pA 85 a := by
  unfold pA
  have e1 : (256 * b + a) / 2 = 256 * (b / 2) + (128 * (b % 2) + a / 2) := by omega
  have e2 : ∀ a, a < 256 → ∀ c, c < 2 → (128 * c + a / 2) &&& 85 = a / 2 &&& 85 := by decide +kernel
  rw [e1, land_split (by omega) (by omega), e2 a ha (b % 2) (by omega)]
  have l1 : b / 2 &&& K ≤ b / 2 := Nat.and_le_left
  have l2 : a / 2 &&& 85 ≤ a / 2 := Nat.and_le_left
  omega
theorem pB_s {a b K : Nat} (ha : a < 256) : pB (256 * K + 51) (256 * b + a) = 256 * pB K b + pB 51 a := by
  unfold pB
  have e1 : (256 * b + a) / 4 = 256 * (b / 4) + (64 * (b % 4) + a / 4) := by omega
  have e2 : ∀ a, a < 256 → ∀ c, c < 4 → (64 * c + a / 4) &&& 51 = a / 4 &&& 51 := by decide +kernel
  rw [e1, land_split ha (by omega), land_split (by omega) (by omega), e2 a ha (b % 4) (by omega)]
  omega
theorem pC_s {a b K : Nat} (ha : a ≤ 68) (hb : b % 16 ≤ 4) : pC (256 * K + 15) (256 * b + a) = 256 * pC K b + pC 15 a := by
  unfold pC
  have e1 : 256 * b + a + (256 * b + a) / 16 = 256 * (b + b / 16) + (16 * (b % 16) + (a + a / 16)) := by omega
  have e2 : ∀ a, a < 69 → ∀ c, c < 5 → (16 * c + (a + a / 16)) &&& 15 = (a + a / 16) &&& 15 := by decide +kernel
  rw [e1, land_split (by omega) (by omega), e2 a (by omega) (b % 16) (by omega)]
def pop (n : Nat) : Nat → Nat
  | 0 => 0
  | k + 1 => pop n k + n / 2 ^ k % 2
theorem pop_8 {a b : Nat} (ha : a < 256) : ∀ k, pop (256 * b + a) (8 + k) = pop a 8 + pop b k
  | 0 => by
    show pop (256 * b + a) 8 = _
    unfold pop pop pop pop pop pop pop pop pop
    simp only [Nat.pow_succ, Nat.pow_zero, Nat.one_mul]
    simp
    omega
  | k + 1 => by
    show pop (256 * b + a) (8 + k) + (256 * b + a) / 2 ^ (8 + k) % 2 = _
    rw [pop_8 ha k, Nat.pow_add, ← Nat.div_div_eq_div_mul, show (256 * b + a) / 2 ^ 8 = b by omega, Nat.add_assoc]
    rfl
theorem byte : ∀ a, a < 256 → pB 51 (pA 85 a) ≤ 68 ∧ pB 51 (pA 85 a) % 16 ≤ 4 ∧ pA 85 a < 256 ∧ pC 15 (pB 51 (pA 85 a)) = pop a 8 ∧ pop a 8 ≤ 8 := by decide +kernel
theorem swar {a b c d : Nat} (ha : a < 256) (hb : b < 256) (hc : c < 256) (hd : d < 2) : pC 252645135 (pB 858993459 (pA 1431655765 (256 * (256 * (256 * d + c) + b) + a))) = 256 * (256 * (256 * pop d 1 + pop c 8) + pop b 8) + pop a 8 := by
  obtain ⟨a1, a2, a3, a4, a5⟩ := byte a ha
  obtain ⟨b1, b2, b3, b4, b5⟩ := byte b hb
  obtain ⟨c1, c2, c3, c4, c5⟩ := byte c hc
  have dd : ∀ d, d < 2 → pC 15 (pB 51 (pA 85 d)) = pop d 1 := by decide +kernel
  obtain ⟨d1, d2, d3, -, -⟩ := byte d (by omega)
  rw [show 1431655765 = 256 * (256 * (256 * 85 + 85) + 85) + 85 from rfl, pA_s ha, pA_s hb, pA_s hc,
    show 858993459 = 256 * (256 * (256 * 51 + 51) + 51) + 51 from rfl, pB_s a3, pB_s b3, pB_s c3,
    show 252645135 = 256 * (256 * (256 * 15 + 15) + 15) + 15 from rfl, pC_s a1 (by omega), pC_s b1 (by omega), pC_s c1 (by omega), a4, b4, c4, dd d hd]
theorem swar2 (p q r s : Nat) (hp : p ≤ 8) (hq : q ≤ 8) (hr : r ≤ 8) (hs : s ≤ 8) {n : Nat} (e : n = 256 * (256 * (256 * s + r) + q) + p) : n + n / 256 + (n + n / 256) / 65536 < 2 ^ 31 ∧ (n + n / 256 + (n + n / 256) / 65536) % 64 = p + q + r + s := by
  have e1 : n / 256 = 256 * (256 * s + r) + q := by omega
  have e2 : n + n / 256 = 256 * (256 * (256 * s + (r + s)) + (q + r)) + (p + q) := by omega
  have e3 : (n + n / 256) / 65536 = 256 * s + (r + s) := by omega
  rw [e3, e2]
  omega
theorem pop_n (n : Nat) (hn : n < 33554432) : ∃ m, m = pC 252645135 (pB 858993459 (pA 1431655765 n)) ∧ m + m / 256 + (m + m / 256) / 65536 < 2 ^ 31 ∧ (m + m / 256 + (m + m / 256) / 65536) % 64 = pop n 25 := by
  have en : n = 256 * (256 * (256 * (n / 16777216) + n / 65536 % 256) + n / 256 % 256) + n % 256 := by omega
  have p3 : n / 16777216 < 2 := by omega
  generalize n / 16777216 = d at *
  have p2 : n / 65536 % 256 < 256 := by omega
  generalize n / 65536 % 256 = c at *
  have p1 : n / 256 % 256 < 256 := by omega
  generalize n / 256 % 256 = b at *
  have p0 : n % 256 < 256 := by omega
  generalize n % 256 = a at *
  subst en
  have hd : pop d 1 ≤ 8 := by unfold pop pop; omega
  obtain ⟨h1, h2⟩ := swar2 (pop a 8) (pop b 8) (pop c 8) (pop d 1) (byte a p0).2.2.2.2 (byte b p1).2.2.2.2 (byte c p2).2.2.2.2 hd (swar p0 p1 p2 p3)
  refine ⟨_, rfl, h1, h2.trans ?_⟩
  rw [show 25 = 8 + (8 + (8 + 1)) from rfl, pop_8 p0, pop_8 p1, pop_8 p2]
  omega
theorem bcF_n {n : Nat} (hn : n < 33554432) : bcF (nI n) = nI (pop n 25) := by
  obtain ⟨m, e, h1, h2⟩ := pop_n n hn
  have l1 : n / 2 ^ 1 &&& 1431655765 ≤ n / 2 ^ 1 := Nat.and_le_left
  have l2 : pA 1431655765 n ≤ n := Nat.sub_le _ _
  have l3 : pA 1431655765 n &&& 858993459 ≤ pA 1431655765 n := Nat.and_le_left
  have l4 : pA 1431655765 n / 2 ^ 2 &&& 858993459 ≤ pA 1431655765 n / 2 ^ 2 := Nat.and_le_left
  have l5 : pB 858993459 (pA 1431655765 n) ≤ 2 * n := by
    show (pA 1431655765 n &&& 858993459) + (pA 1431655765 n / 2 ^ 2 &&& 858993459) ≤ _
    omega
  have a1 : nI n - (ushr (nI n) 1 &&& 1431655765) = nI (pA 1431655765 n) := by
    rw [show (1 : Int32) = nI 1 from rfl, ushr_nI (by omega) (by omega), show (1431655765 : Int32) = nI 1431655765 from rfl, nI_and (by omega) (by omega), nI_sub (by omega)]
    rfl
  have a2 : (nI (pA 1431655765 n) &&& 858993459) + (ushr (nI (pA 1431655765 n)) 2 &&& 858993459) = nI (pB 858993459 (pA 1431655765 n)) := by
    rw [show (2 : Int32) = nI 2 from rfl, ushr_nI (by omega) (by omega), show (858993459 : Int32) = nI 858993459 from rfl, nI_and (by omega) (by omega), nI_and (by omega) (by omega), nI_add]
    rfl
  have a3 : (nI (pB 858993459 (pA 1431655765 n)) + ushr (nI (pB 858993459 (pA 1431655765 n))) 4) &&& 252645135 = nI m := by
    rw [show (4 : Int32) = nI 4 from rfl, ushr_nI (by omega) (by omega), nI_add, show (252645135 : Int32) = nI 252645135 from rfl, nI_and (by omega) (by omega), e]
    rfl
  unfold bcF
  simp only []
  rw [a1, a2, a3, show (8 : Int32) = nI 8 from rfl, ushr_nI (by omega) (by omega), nI_add, show (16 : Int32) = nI 16 from rfl, ushr_nI (by omega) (by omega), nI_add, show (63 : Int32) = nI 63 from rfl, nI_and (by omega) (by omega)]
  show nI ((m + m / 256 + (m + m / 256) / 65536) &&& (2 ^ 6 - 1)) = _
  rw [Nat.and_two_pow_sub_one_eq_mod, ← h2]
theorem bt_nI {n i : Nat} (hn : n < 2 ^ 31) (hi : i < 32) : bt (nI n) (nI i) ↔ n / 2 ^ i % 2 = 1 := by
  rw [bt_l _ _ hi]
  show (nI n).toBitVec.toNat.testBit i = true ↔ _
  rw [pk_tn (by omega), Nat.testBit_eq_decide_div_mod_eq, decide_eq_true_iff]
/-- a set's bits -/
def btQ (A : Int32) (c : Nat) : Bool := decide (bt A (nI c))
theorem btQ_t {A : Int32} {c : Nat} (h : bt A (nI c)) : btQ A c = true := decide_eq_true h
theorem btQ_f {A : Int32} {c : Nat} (h : ¬ bt A (nI c)) : ¬ btQ A c = true := fun q => h (of_decide_eq_true q)
theorem bt_Q {A : Int32} {c : Nat} (h : btQ A c = true) : bt A (nI c) := of_decide_eq_true h
theorem pop_cnt {n : Nat} (hn : n < 2 ^ 31) : ∀ k, k ≤ 32 → pop n k = cnt (btQ (nI n)) k
  | 0, _ => rfl
  | k + 1, hk => by
    unfold pop cnt
    rw [pop_cnt hn k (by omega)]
    by_cases z : n / 2 ^ k % 2 = 1
    · rw [if_pos (btQ_t ((bt_nI hn (by omega)).mpr z)), z]
    · rw [if_neg (btQ_f (fun q => z ((bt_nI hn (by omega)).mp q)))]
      omega
theorem shr_bt (x c : Int32) : shr x c &&& 1 = if bt x c then 1 else 0 := by
  show _ = bI (bt x c)
  exact and_1 _
theorem onesF_n (A : Int32) : onesF A = nI (cnt (btQ A) 25) := by
  refine it_inv (fun i acc => acc + (shr A (nI i) &&& 1)) (fun i acc => acc = nI (cnt (btQ A) i)) 25 (fun i b hi hb => ?_) 25 0 0 rfl rfl
  rw [hb, shr_bt]
  show _ = nI (cnt (btQ A) i + if btQ A i = true then 1 else 0)
  by_cases z : bt A (nI i)
  · rw [if_pos z, if_pos (btQ_t z), nI_1]
  · rw [if_neg z, if_neg (btQ_f z), Int32.add_zero, Nat.add_zero]
theorem bc_n {n : Nat} (hn : n < 33554432) : bcF (nI n) = nI (cnt (btQ (nI n)) 25) := by
  rw [bcF_n hn, pop_cnt (by omega) 25 (by omega)]
