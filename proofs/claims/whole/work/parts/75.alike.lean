/-! look: how many letters of a set lie at one place, both -/
def ku (Q : Nat → Bool) : Nat → Nat → Nat
  | _, 0 => 0
  | i, m + 1 => (if Q i = true then 1 else 0) + ku Q (i + 1) m
/-- letters of the set A that lie at p in v hours -/
def alQ (A : Int32) (P : Nat → Nat → Int32) (v : Nat) (p : Int32) (j : Nat) : Bool := decide (bt A (nI j)) && decide (P v j = p)
theorem alQ_t {A : Int32} {P : Nat → Nat → Int32} {v j : Nat} {p : Int32} (a : bt A (nI j)) (z : P v j = p) : alQ A P v p j = true := by
  unfold alQ
  rw [decide_eq_true a, decide_eq_true z]
  rfl
theorem alQ_f {A : Int32} {P : Nat → Nat → Int32} {v j : Nat} {p : Int32} (h : ¬ (bt A (nI j) ∧ P v j = p)) : ¬ alQ A P v p j = true := fun q => by
  unfold alQ at q
  rw [Bool.and_eq_true] at q
  exact h ⟨of_decide_eq_true q.1, of_decide_eq_true q.2⟩
theorem alike_c {g : hG} {P : Nat → Nat → Int32} (s3 : ∀ v l, v ≤ 30 → l < 8 → gI g 261 (8 * v + l) = P v l) (A : Int32) {v l : Nat} (hv : v ≤ 30) (hl : l < 8) (K : Int32 → hG → hO Int32) : ∀ (m i F acc : Nat), i + m = 8 → m < F → q_Watch_mostAtOne_11L (nI v) A (nI l) K F (nI acc) (nI i) g = K (nI (acc + ku (alQ A P v (P v l)) i m)) g := by
  intro m
  induction m with
  | zero =>
    intro i F acc h1 h2
    obtain ⟨F, rfl⟩ : ∃ q, F = q + 1 := ⟨F - 1, by omega⟩
    obtain rfl : i = 8 := by omega
    rw [q_Watch_mostAtOne_11L_s]
    unfold q_Watch_mostAtOne_11
    rw [if_pos (by decide)]
    rfl
  | succ m ih =>
    intro i F acc h1 h2
    obtain ⟨F, rfl⟩ : ∃ q, F = q + 1 := ⟨F - 1, by omega⟩
    have hi : i < 8 := by omega
    have e8 : ∀ j, nI v * (8 : Int32) + nI j = nI (8 * v + j) := fun j => by rw [show (8 : Int32) = nI 8 from rfl, pk_mul, nI_add, Nat.mul_comm]
    rw [q_Watch_mostAtOne_11L_s]
    unfold q_Watch_mostAtOne_11 ku
    rw [if_neg (show ¬ (8 : Int32) ≤ nI i from nI_ge (a := i) (b := 8) (by omega) (by decide)), isA_c, bnd_s, nI_1, nI_1]
    by_cases a : bt A (nI i)
    · rw [bI_t a, if_neg (by decide), e8, e8, gd_nI (by omega) (by omega), gd_nI (by omega) (by omega), nI_clamp (by omega), nI_clamp (by omega), s3 v i hv hi, s3 v l hv hl]
      by_cases z : P v i = P v l
      · rw [if_pos z, ih (i + 1) F (acc + 1) (by omega) (by omega), if_pos (alQ_t a z), Nat.add_assoc]
      · rw [if_neg z, ih (i + 1) F acc (by omega) (by omega), if_neg (alQ_f (fun q => z q.2)), Nat.zero_add]
    · rw [bI_f a, if_pos rfl, ih (i + 1) F acc (by omega) (by omega), if_neg (alQ_f (fun q => a q.1)), Nat.zero_add]
theorem alike_m {g : hG} {P : Nat → Nat → Int32} (s3 : ∀ v l, v ≤ 30 → l < 8 → gI g 393 (8 * v + l) = P v l) (A : Int32) {v : Nat} (p : Int32) (hv : v ≤ 30) (K : Int32 → hG → hO Int32) : ∀ (m i F acc : Nat), i + m = 8 → m < F → q_Mo_mostAlike_11L A (nI v) p K F (nI acc) (nI i) g = K (nI (acc + ku (alQ A P v p) i m)) g := by
  intro m
  induction m with
  | zero =>
    intro i F acc h1 h2
    obtain ⟨F, rfl⟩ : ∃ q, F = q + 1 := ⟨F - 1, by omega⟩
    obtain rfl : i = 8 := by omega
    rw [q_Mo_mostAlike_11L_s]
    unfold q_Mo_mostAlike_11
    rw [if_pos (by decide)]
    rfl
  | succ m ih =>
    intro i F acc h1 h2
    obtain ⟨F, rfl⟩ : ∃ q, F = q + 1 := ⟨F - 1, by omega⟩
    have hi : i < 8 := by omega
    have e8 : ∀ j, (8 : Int32) * nI v + nI j = nI (8 * v + j) := fun j => by rw [show (8 : Int32) = nI 8 from rfl, pk_mul, nI_add]
    have z0 : nI acc + (0 : Int32) = nI acc := Int32.add_zero _
    rw [q_Mo_mostAlike_11L_s]
    unfold q_Mo_mostAlike_11 ku
    rw [if_neg (show ¬ (8 : Int32) ≤ nI i from nI_ge (a := i) (b := 8) (by omega) (by decide)), is_m, bnd_s, nI_1, nI_1, z0]
    by_cases a : bt A (nI i)
    · rw [bI_t a, if_neg (by decide), e8, gd_nI (by omega) (by omega), nI_clamp (by omega), s3 v i hv hi]
      by_cases z : P v i = p
      · rw [if_pos z, ih (i + 1) F (acc + 1) (by omega) (by omega), if_pos (alQ_t a z), Nat.add_assoc]
      · rw [if_neg z, ih (i + 1) F acc (by omega) (by omega), if_neg (alQ_f (fun q => z q.2)), Nat.zero_add]
    · rw [bI_f a, if_pos rfl, ih (i + 1) F acc (by omega) (by omega), if_neg (alQ_f (fun q => a q.1)), Nat.zero_add]
