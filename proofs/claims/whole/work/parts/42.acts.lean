/-! acts: to spill, to raise, to split, as functions of a moment's row -/
def upR (r : Nat → Int32) (k : Nat) (v : Int32) : Nat → Int32 := fun i => if i = k then v else r i
theorem upR_s (r : Nat → Int32) (k : Nat) (v : Int32) : upR r k v k = v := if_pos rfl
theorem upR_n (r : Nat → Int32) {k i : Nat} (v : Int32) (h : i ≠ k) : upR r k v i = r i := if_neg h
/-- letters on a cell -/
def loF (r : Nat → Int32) (c : Int32) : Int32 := it (fun i acc => acc ||| (if r (28 + i) = 1 ∧ r (36 + i) = c then shl 1 (nI i) else 0)) 0 8 0
theorem lo_c {g : hG} {a : Nat} {r : Nat → Int32} (h : MomR g a r) (c : Int32) : q_Mom_lettersOn a c g = some (loF r c, g) := by
  unfold q_Mom_lettersOn
  refine for_loop (fun n (b : Int32) i => q_Mom_lettersOn_4L a c (fun x4 g6 => some (x4, g6)) n b (nI i) g) (fun b => some (b, g)) (fun i acc => acc ||| (if r (28 + i) = 1 ∧ r (36 + i) = c then shl 1 (nI i) else 0)) 8 ?_ ?_ 8 0 0 FU rfl (by decide)
  · intro n i b hi
    rw [q_Mom_lettersOn_4L_s]
    unfold q_Mom_lettersOn_4
    rw [if_neg (show ¬ (8 : Int32) ≤ nI i from nI_ge hi (by decide)), gd_nI hi (by omega), gd_nI hi (by omega), nI_clamp (by omega), h.2.2.1 i hi, h.2.2.2.1 i hi, nI_1]
    by_cases h1 : r (28 + i) = 1
    · rw [if_pos h1]
      by_cases h2 : r (36 + i) = c
      · rw [if_pos h2, if_pos ⟨h1, h2⟩]
      · rw [if_neg h2, if_neg (fun q => h2 q.2), or_0]
    · rw [if_neg h1, if_neg (fun q => h1 q.1), or_0]
  · intro n b
    rw [q_Mom_lettersOn_4L_s]
    unfold q_Mom_lettersOn_4
    rw [if_pos (by decide)]
/-- the model's moment -/
def MomM (g : hG) (r : Nat → Int32) : Prop := ∀ i, i < 52 → gI g 369 (4 + i) = r i
theorem lo_m {g : hG} {r : Nat → Int32} (h : MomM g r) (c : Int32) : q_Mo_lettersOn c g = some (loF r c, g) := by
  unfold q_Mo_lettersOn
  refine for_loop (fun n (b : Int32) i => q_Mo_lettersOn_4L c (fun x4 g6 => some (x4, g6)) n b (nI i) g) (fun b => some (b, g)) (fun i acc => acc ||| (if r (28 + i) = 1 ∧ r (36 + i) = c then shl 1 (nI i) else 0)) 8 ?_ ?_ 8 0 0 FU rfl (by decide)
  · intro n i b hi
    rw [q_Mo_lettersOn_4L_s]
    unfold q_Mo_lettersOn_4
    have e1 : gI g 369 (32 + i) = r (28 + i) := by rw [← h _ (by omega)]; congr 1; omega
    have e2 : gI g 369 (40 + i) = r (36 + i) := by rw [← h _ (by omega)]; congr 1; omega
    rw [if_neg (show ¬ (8 : Int32) ≤ nI i from nI_ge hi (by decide)), show (32 : Int32) + nI i = nI (32 + i) from nI_add 32 i, show (40 : Int32) + nI i = nI (40 + i) from nI_add 40 i, gd_nI (by omega) (by omega), gd_nI (by omega) (by omega), nI_clamp (by omega), nI_clamp (by omega), e1, e2, nI_1]
    by_cases h1 : r (28 + i) = 1
    · rw [if_pos h1]
      by_cases h2 : r (36 + i) = c
      · rw [if_pos h2, if_pos ⟨h1, h2⟩]
      · rw [if_neg h2, if_neg (fun q => h2 q.2)]
    · rw [if_neg h1, if_neg (fun q => h1 q.1)]
  · intro n b
    rw [q_Mo_lettersOn_4L_s]
    unfold q_Mo_lettersOn_4
    rw [if_pos (by decide)]
/-- how many bits -/
def onesF (x : Int32) : Int32 := it (fun i acc => acc + (shr x (nI i) &&& 1)) 0 25 0
theorem ones_m (x : Int32) (g : hG) : q_Mo_ones x g = some (onesF x, g) := by
  unfold q_Mo_ones
  refine for_loop (fun n (b : Int32) i => q_Mo_ones_4L x (fun x2 g4 => some (x2, g4)) n b (nI i) g) (fun b => some (b, g)) (fun i acc => acc + (shr x (nI i) &&& 1)) 25 ?_ ?_ 25 0 0 FU rfl (by decide)
  · intro n i b hi
    rw [q_Mo_ones_4L_s]
    unfold q_Mo_ones_4
    rw [if_neg (show ¬ (25 : Int32) ≤ nI i from nI_ge hi (by decide)), nI_1]
  · intro n b
    rw [q_Mo_ones_4L_s]
    unfold q_Mo_ones_4
    rw [if_pos (by decide)]
def bcF (x : Int32) : Int32 :=
  let a := x - (ushr x 1 &&& 1431655765)
  let b := (a &&& 858993459) + (ushr a 2 &&& 858993459)
  let c := (b + ushr b 4) &&& 252645135
  let d := c + ushr c 8
  let e := d + ushr d 16
  e &&& 63
theorem bc_e (x : Int32) (g : hG) : q_Ji_bitCount x g = some (bcF x, g) := rfl
theorem bc_8 : ∀ n, n < 256 → bcF (nI n) = onesF (nI n) ∧ ∃ k, k ≤ 8 ∧ onesF (nI n) = nI k ∧ (n ≠ 0 → 0 < k) := by
  have h : ∀ n, n < 256 → bcF (nI n) = onesF (nI n) ∧ (onesF (nI n)).toNatClampNeg ≤ 8 ∧ onesF (nI n) = nI (onesF (nI n)).toNatClampNeg ∧ (n ≠ 0 → 0 < (onesF (nI n)).toNatClampNeg) := by decide +kernel
  intro n hn
  obtain ⟨h1, h2, h3, h4⟩ := h n hn
  exact ⟨h1, _, h2, h3, h4⟩
theorem shl8 : ∀ i, i < 8 → shl 1 (nI i) = nI (2 ^ i) := by decide +kernel
theorem nI_or (a b : Nat) (ha : a < 2 ^ 31) (hb : b < 2 ^ 31) : nI a ||| nI b = nI (a ||| b) := by
  apply Int32.toBitVec_inj.mp
  apply BitVec.eq_of_toNat_eq
  rw [Int32.toBitVec_or, BitVec.toNat_or, pk_tn (by omega), pk_tn (by omega), pk_tn (Nat.lt_trans (Nat.or_lt_two_pow (n := 31) ha hb) (by decide))]
theorem loF_8 (r : Nat → Int32) (c : Int32) : ∃ n, n < 256 ∧ loF r c = nI n := by
  unfold loF
  refine it_inv _ (fun _ b => ∃ n, n < 256 ∧ b = nI n) 8 (fun i b hi hb => ?_) 8 0 0 rfl ⟨0, by omega, rfl⟩
  obtain ⟨n, hn, rfl⟩ := hb
  split
  · rw [shl8 i hi, nI_or _ _ (by omega) (Nat.lt_of_lt_of_le (Nat.pow_lt_pow_right (by decide) hi) (by decide))]
    exact ⟨_, Nat.or_lt_two_pow (n := 8) hn (Nat.pow_lt_pow_right (by decide) hi), rfl⟩
  · rw [or_0]; exact ⟨n, hn, rfl⟩
/-- the cell beside a cell; -1 beyond -/
def bsF (c w : Int32) : Int32 := if w = 0 then (if 4 ≤ c / 5 then -1 else c + 5) else if w = 1 then (if 4 ≤ irem c 5 then -1 else c + 1) else if w = 2 then (if c / 5 ≤ 0 then -1 else c - 5) else if w = 3 then (if irem c 5 ≤ 0 then -1 else c - 1) else -1
theorem bs_c (c w : Int32) (g : hG) : q_MP_beside c w g = some (bsF c w, g) := by
  unfold q_MP_beside bsF
  repeat' split
  all_goals rfl
def bsM (c w : Int32) : Int32 :=
  let x := irem c 5 + (if w = 1 then 1 else if w = 3 then -1 else 0)
  let y := c / 5 + (if w = 0 then 1 else if w = 2 then -1 else 0)
  if 0 ≤ x ∧ x ≤ 4 then (if 0 ≤ y ∧ y ≤ 4 then 5 * y + x else -1) else -1
theorem bs_eq : ∀ c, c < 25 → ∀ w, w < 4 → bsM (nI c) (nI w) = bsF (nI c) (nI w) := by decide +kernel
theorem bs_m (c w : Nat) (hc : c < 25) (hw : w < 4) (g : hG) : q_Mo_beside (nI c) (nI w) g = some (bsF (nI c) (nI w), g) := by
  rw [← bs_eq c hc w hw]
  unfold q_Mo_beside q_Mo_beside_14 q_Mo_beside_29 bsM
  rw [in_e _ 0 4 0 4 rfl rfl, bnd_s]
  by_cases h1 : 0 ≤ irem (nI c) 5 + (if nI w = 1 then 1 else if nI w = 3 then -1 else 0) ∧ irem (nI c) 5 + (if nI w = 1 then 1 else if nI w = 3 then -1 else 0) ≤ 4
  · rw [bI_t h1, if_neg (by decide), in_e _ 0 4 0 4 rfl rfl, bnd_s]
    by_cases h2 : 0 ≤ nI c / 5 + (if nI w = 0 then 1 else if nI w = 2 then -1 else 0) ∧ nI c / 5 + (if nI w = 0 then 1 else if nI w = 2 then -1 else 0) ≤ 4
    · rw [bI_t h2, if_neg (by decide)]
      simp only [if_pos h1, if_pos h2]
    · rw [bI_f h2, if_pos rfl]
      simp only [if_pos h1, if_neg h2]
  · rw [bI_f h1, if_pos rfl]
    simp only [if_neg h1]
theorem bs_in : ∀ c, c < 25 → ∀ w, w < 4 → bsF (nI c) (nI w) = -1 ∨ ∃ d, d < 25 ∧ bsF (nI c) (nI w) = nI d := by
  have h : ∀ c, c < 25 → ∀ w, w < 4 → bsF (nI c) (nI w) = -1 ∨ ((bsF (nI c) (nI w)).toNatClampNeg < 25 ∧ bsF (nI c) (nI w) = nI (bsF (nI c) (nI w)).toNatClampNeg) := by decide +kernel
  intro c hc w hw
  rcases h c hc w hw with h | ⟨h1, h2⟩
  · exact Or.inl h
  · exact Or.inr ⟨_, h1, h2⟩
