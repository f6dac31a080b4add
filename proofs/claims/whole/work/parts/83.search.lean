/-! apart: the model's search finds what the class sorts -/
theorem allB_iff (Q : Nat → Bool) : ∀ m i, allB Q i m = true ↔ ∀ j, i ≤ j → j < i + m → Q j = true
  | 0, i => by
    unfold allB
    exact ⟨fun _ j h1 h2 => by omega, fun _ => rfl⟩
  | m + 1, i => by
    unfold allB
    rw [Bool.and_eq_true, allB_iff Q m (i + 1)]
    constructor
    · intro h j h1 h2
      by_cases z : j = i
      · subst z; exact h.1
      · exact h.2 j (by omega) (by omega)
    · intro h
      exact ⟨h i (by omega) (by omega), fun j h1 h2 => h j (by omega) (by omega)⟩
section FK
variable {nx : Nat → Nat} {D : Int32} {x : Nat → Nat}
theorem ahead_l {f : hG} {q : Nat → Nat} {i : Nat} (hi : i ≤ 8) (hq : ∀ j, j < i → gI f 391 j = nI (q j)) (q8 : ∀ j, j < i → q j ≤ j) (K : Int32 → hG → hO Int32) : ∀ (m j F acc : Nat), j + m = i → m < F → acc ≤ 9 → q_Mo_kindsAhead_4L (nI i) K F (nI acc) (nI j) f = K (nI (mx (fun j => q j + 1) m j acc)) f := by
  intro m
  induction m with
  | zero =>
    intro j F acc h1 h2 h3
    obtain ⟨F, rfl⟩ : ∃ q, F = q + 1 := ⟨F - 1, by omega⟩
    obtain rfl : j = i := by omega
    rw [q_Mo_kindsAhead_4L_s]
    unfold q_Mo_kindsAhead_4
    rw [if_pos (nI_le (Nat.le_refl _) (by omega))]
    rfl
  | succ m ih =>
    intro j F acc h1 h2 h3
    obtain ⟨F, rfl⟩ : ∃ q, F = q + 1 := ⟨F - 1, by omega⟩
    have hj : j < i := by omega
    have q1 := q8 j hj
    rw [q_Mo_kindsAhead_4L_s]
    unfold q_Mo_kindsAhead_4 mx
    rw [if_neg (nI_ge hj (by omega)), gd_nI (by omega) (by omega), gd_nI (by omega) (by omega), nI_clamp (by omega), hq j hj, nI_1, nI_1, nI_lt_if (by omega) (by omega)]
    by_cases z : q j < acc
    · rw [if_pos z, if_neg (show ¬ acc < q j + 1 by omega)]
      exact ih (j + 1) F acc (by omega) (by omega) h3
    · rw [if_neg z, if_pos (show acc < q j + 1 by omega)]
      exact ih (j + 1) F (q j + 1) (by omega) (by omega) (by omega)
def kA (q : Nat → Nat) (i : Nat) : Nat := mx (fun j => q j + 1) i 0 0
theorem ahead_m {f : hG} {q : Nat → Nat} {i : Nat} (hi : i ≤ 8) (hq : ∀ j, j < i → gI f 391 j = nI (q j)) (q8 : ∀ j, j < i → q j ≤ j) : q_Mo_kindsAhead (nI i) f = some (nI (kA q i), f) :=
  ahead_l hi hq q8 _ i 0 FU 0 (by omega) (Nat.lt_of_le_of_lt hi (by decide)) (by omega)
theorem kA_le {q : Nat → Nat} {i : Nat} (q8 : ∀ j, j < i → q j ≤ j) : kA q i ≤ i := (mx_le _ _ _).mpr ⟨Nat.zero_le _, fun j _ hj => by have := q8 j (by omega); omega⟩
/-- a as kind of i -/
def fit (D : Int32) (nx : Nat → Nat) (x q : Nat → Nat) (a i j : Nat) : Bool := !(decide (q j = a) && decide (ky D nx (x j) = ky D nx (x i)))
theorem fit_iff (q : Nat → Nat) (a i j : Nat) : fit D nx x q a i j = true ↔ (q j = a → ky D nx (x j) ≠ ky D nx (x i)) := by
  unfold fit
  by_cases z : q j = a <;> by_cases y : ky D nx (x j) = ky D nx (x i) <;> simp [z, y]
theorem fits_l {f : hG} {q : Nat → Nat} {n i a : Nat} (hi : i < n) (hn : n ≤ 8) (ha : a < 100) (hq : ∀ j, j < i → gI f 391 j = nI (q j)) (q8 : ∀ j, j < i → q j ≤ j) (hx : gI f 391 i = nI a) (hm : ∀ a b, a < n → b < n → gI f 392 (8 * a + b) = clM D nx x a b) (K : Int32 → hG → hO Int32) : ∀ (m j F : Nat) (b : Bool), j + m = i → m < F → q_Mo_fitsKind_4L (nI i) K F (bI (b = true)) (nI j) f = K (bI ((b && allB (fit D nx x q a i) j m) = true)) f := by
  intro m
  induction m with
  | zero =>
    intro j F b h1 h2
    obtain ⟨F, rfl⟩ : ∃ q, F = q + 1 := ⟨F - 1, by omega⟩
    obtain rfl : j = i := by omega
    rw [q_Mo_fitsKind_4L_s]
    unfold q_Mo_fitsKind_4 allB
    rw [if_pos (nI_le (Nat.le_refl _) (by omega)), Bool.and_true]
  | succ m ih =>
    intro j F b h1 h2
    obtain ⟨F, rfl⟩ : ∃ q, F = q + 1 := ⟨F - 1, by omega⟩
    have hj : j < i := by omega
    have q1 := q8 j hj
    have nt := ih (j + 1) F true (by omega) (by omega)
    have nf := ih (j + 1) F false (by omega) (by omega)
    rw [bI_t rfl] at nt
    rw [bI_f Bool.false_ne_true] at nf
    rw [q_Mo_fitsKind_4L_s]
    unfold q_Mo_fitsKind_4
    rw [if_neg (nI_ge hj (by omega)), nI_1]
    cases b with
    | false =>
      rw [bI_f Bool.false_ne_true, if_pos rfl, nf, Bool.false_and, Bool.false_and]
    | true =>
      have e8 : (8 : Int32) * nI j + nI i = nI (8 * j + i) := by rw [show (8 : Int32) = nI 8 from rfl, pk_mul, nI_add]
      have c1 : clM D nx x j i = bI (ky D nx (x j) = ky D nx (x i)) := by unfold clM; rw [if_neg (by omega)]
      rw [bI_t rfl, if_neg (by decide), gd_nI (by omega) (by omega), gd_nI (by omega) (by omega), nI_clamp (by omega), nI_clamp (by omega), hq j hj, hx, e8, gd_nI (by omega) (by omega), nI_clamp (by omega), hm j i (by omega) hi, c1, Bool.true_and]
      unfold allB
      by_cases z : q j = a
      · rw [if_pos (by rw [z])]
        by_cases y : ky D nx (x j) = ky D nx (x i)
        · have e : fit D nx x q a i j = false := Bool.eq_false_iff.mpr (fun p => (fit_iff q a i j).mp p z y)
          rw [bI_t y, if_neg (by decide), nf, e, Bool.false_and]
        · have e : fit D nx x q a i j = true := (fit_iff q a i j).mpr (fun _ => y)
          rw [bI_f y, if_pos rfl, nt, e]
      · have e : fit D nx x q a i j = true := (fit_iff q a i j).mpr (fun p => absurd p z)
        rw [if_neg (fun p => z ((nI_eq (by omega) (by omega)).mp p)), nt, e]
theorem fits_m {f : hG} {q : Nat → Nat} {n i a : Nat} (hi : i < n) (hn : n ≤ 8) (ha : a < 100) (hq : ∀ j, j < i → gI f 391 j = nI (q j)) (q8 : ∀ j, j < i → q j ≤ j) (hx : gI f 391 i = nI a) (hm : ∀ a b, a < n → b < n → gI f 392 (8 * a + b) = clM D nx x a b) : q_Mo_fitsKind (nI i) f = some (bI (allB (fit D nx x q a i) 0 i = true), f) := by
  have e := fits_l hi hn ha hq q8 hx hm (fun x5 g7 => gb x5 (some (x5, g7))) i 0 FU true (by omega) (Nat.lt_of_lt_of_le (Nat.lt_of_lt_of_le hi hn) (by decide))
  rw [bI_t rfl, Bool.true_and, gb_bI2] at e
  exact e
/-- one round of the search -/
theorem find_s {f : hG} {q : Nat → Nat} {n i a M : Nat} (hi : i < n) (hn : n ≤ 8) (ha : a < 100) (hM : M < 100) (hq : ∀ j, j < i → gI f 391 j = nI (q j)) (q8 : ∀ j, j < i → q j ≤ j) (hx : gI f 391 i + 1 = nI a) (hm : ∀ a b, a < n → b < n → gI f 392 (8 * a + b) = clM D nx x a b) (K : Int32 → hG → hO Int32) (F : Nat) : q_Mo_findKinds_7L (nI n) (nI M) K (F + 1) (nI i) f = if M ≤ a then q_Mo_findKinds_7L (nI n) (nI M) K F (nI i + -1) (sI f 391 i (nI a)) else if a ≤ kA q i then (if allB (fit D nx x q a i) 0 i = true then q_Mo_findKinds_7L (nI n) (nI M) K F (nI (i + 1)) (sI (sI f 391 i (nI a)) 391 (i + 1) (-1)) else q_Mo_findKinds_7L (nI n) (nI M) K F (nI i) (sI f 391 i (nI a))) else q_Mo_findKinds_7L (nI n) (nI M) K F (nI i + -1) (sI f 391 i (nI a)) := by
  have kl := kA_le q8
  have r1 : ∀ j, j < i → gI (sI f 391 i (nI a)) 391 j = nI (q j) := fun j hj => (rd_k (by omega)).trans (hq j hj)
  rw [q_Mo_findKinds_7L_s]
  unfold q_Mo_findKinds_7
  rw [if_neg (Int32.not_lt.mpr (nI_pos' (by omega))), if_neg (nI_ge hi (by omega)), gd_nI (by omega) (by omega), gd_nI (by omega) (by omega), wr_e, nI_clamp (by omega), hx, gd_nI (by omega) (by omega), rd_s, nI_le_if (by omega) (by omega), gd_nI (by omega) (by omega), ahead_m (by omega) r1 q8, bnd_s, nI_le_if (by omega) (by omega), fits_m hi hn ha r1 q8 rd_s (fun a b ha hb => (rd_a (by decide)).trans (hm a b ha hb)), bnd_s, nI_1, gd_nI (by omega) (by omega), wr_e, nI_clamp (by omega)]
  by_cases z : allB (fit D nx x q a i) 0 i = true
  · rw [bI_t z, if_neg (show ¬ (1 : Int32) = 0 by decide), if_pos z]
  · rw [bI_f z, if_pos (show (0 : Int32) = 0 from rfl), if_neg z]
def TT (n : Nat) : Nat → Nat
  | 0 => 0
  | k + 1 => (n - k) * (1 + TT n k) + 1
theorem nI_back {i : Nat} : nI (i + 1) + (-1 : Int32) = nI i := by
  rw [← nI_1, Int32.add_assoc]
  exact Int32.add_zero _
/-- too few kinds: all is tried, nothing is found -/
theorem find_f {n M i0 : Nat} (hn : n ≤ 8) (h0 : i0 < n) (hM : M ≤ kd (fun j => ky D nx (x j)) i0) (K : Int32 → hG → hO Int32) : ∀ (k i : Nat), i + k + 1 = n → ∀ (b a : Nat), a + b = i + 1 → ∀ (f : hG) (q : Nat → Nat), (∀ a b, a < n → b < n → gI f 392 (8 * a + b) = clM D nx x a b) → gI f 391 i + 1 = nI a → (∀ j, j < i → gI f 391 j = nI (q j)) → (∀ j, j < i → q j ≤ j) → (∀ j, j < i → q j < M) → (∀ j l, j < l → l < i → ky D nx (x j) = ky D nx (x l) → q j ≠ q l) → ∃ t f', t ≤ b * (1 + TT n k) + 1 ∧ (∀ F, q_Mo_findKinds_7L (nI n) (nI M) K (F + t) (nI i) f = q_Mo_findKinds_7L (nI n) (nI M) K F (nI i + -1) f') ∧ Un (sOn 391) f f' ∧ ∀ j, j < i → gI f' 391 j = gI f 391 j := by
  have M8 : M < 100 := by
    have := kd_le (fun j => ky D nx (x j)) i0
    omega
  intro k
  induction k with
  | zero =>
    intro i hi b
    induction b with
    | zero =>
      intro a hab f q hm hx hq q8 qM qd
      have kl := kA_le q8
      refine ⟨1, sI f 391 i (nI a), by omega, fun F => ?_, Un.rf.sI rfl _, fun j hj => rd_k (by omega)⟩
      rw [find_s (by omega) hn (by omega) M8 hq q8 hx hm K F]
      by_cases z : M ≤ a
      · rw [if_pos z]
      · rw [if_neg z, if_neg (by omega)]
    | succ b ihb =>
      intro a hab f q hm hx hq q8 qM qd
      by_cases z : M ≤ a
      · refine ⟨1, sI f 391 i (nI a), by omega, fun F => ?_, Un.rf.sI rfl _, fun j hj => rd_k (by omega)⟩
        rw [find_s (by omega) hn (by omega) M8 hq q8 hx hm K F, if_pos z]
      · by_cases y : a ≤ kA q i
        · by_cases w : allB (fit D nx x q a i) 0 i = true
          · exfalso
            rw [allB_iff] at w
            refine kd_no (q := fun j => if j = i then a else q j) h0 hM (fun j hj => ?_) (fun j l hj hl e => ?_)
            · by_cases p : j = i
              · rw [if_pos p]; omega
              · rw [if_neg p]; exact qM j (by omega)
            · rw [if_neg (by omega)]
              by_cases p : l = i
              · subst p
                rw [if_pos rfl]
                exact fun c => (fit_iff q a l j).mp (w j (by omega) (by omega)) c e
              · rw [if_neg p]; exact qd j l hj (by omega) e
          · obtain ⟨t, f', t1, t2, t3, t4⟩ := ihb (a + 1) (by omega) (sI f 391 i (nI a)) q (fun a b ha hb => (rd_a (by decide)).trans (hm a b ha hb)) (by rw [rd_s, nI_1]) (fun j hj => (rd_k (by omega)).trans (hq j hj)) q8 qM qd
            refine ⟨t + 1, f', ?_, fun F => ?_, (Un.rf.sI rfl _).tr t3, fun j hj => (t4 j hj).trans (rd_k (by omega))⟩
            · rw [Nat.succ_mul]; omega
            · rw [show F + (t + 1) = F + t + 1 from rfl, find_s (by omega) hn (by omega) M8 hq q8 hx hm K (F + t), if_neg z, if_pos y, if_neg w]
              exact t2 F
        · refine ⟨1, sI f 391 i (nI a), by omega, fun F => ?_, Un.rf.sI rfl _, fun j hj => rd_k (by omega)⟩
          rw [find_s (by omega) hn (by omega) M8 hq q8 hx hm K F, if_neg z, if_neg y]
  | succ k ihk =>
    intro i hi b
    induction b with
    | zero =>
      intro a hab f q hm hx hq q8 qM qd
      have kl := kA_le q8
      refine ⟨1, sI f 391 i (nI a), by omega, fun F => ?_, Un.rf.sI rfl _, fun j hj => rd_k (by omega)⟩
      rw [find_s (by omega) hn (by omega) M8 hq q8 hx hm K F]
      by_cases z : M ≤ a
      · rw [if_pos z]
      · rw [if_neg z, if_neg (by omega)]
    | succ b ihb =>
      intro a hab f q hm hx hq q8 qM qd
      by_cases z : M ≤ a
      · refine ⟨1, sI f 391 i (nI a), by omega, fun F => ?_, Un.rf.sI rfl _, fun j hj => rd_k (by omega)⟩
        rw [find_s (by omega) hn (by omega) M8 hq q8 hx hm K F, if_pos z]
      · by_cases y : a ≤ kA q i
        · by_cases w : allB (fit D nx x q a i) 0 i = true
          · have w' := (allB_iff _ _ _).mp w
            have kl := kA_le q8
            obtain ⟨t, f', t1, t2, t3, t4⟩ : ∃ t f', t ≤ TT n (k + 1) ∧ (∀ F, q_Mo_findKinds_7L (nI n) (nI M) K (F + t) (nI (i + 1)) (sI (sI f 391 i (nI a)) 391 (i + 1) (-1)) = q_Mo_findKinds_7L (nI n) (nI M) K F (nI (i + 1) + -1) f') ∧ Un (sOn 391) (sI (sI f 391 i (nI a)) 391 (i + 1) (-1)) f' ∧ ∀ j, j < i + 1 → gI f' 391 j = gI (sI f 391 i (nI a)) 391 j := by
              have q' : ∀ j, (if j = i then a else q j) = if j = i then a else q j := fun _ => rfl
              obtain ⟨t, f', t1, t2, t3, t4⟩ := ihk (i + 1) (by omega) (i + 2) 0 (by omega) (sI (sI f 391 i (nI a)) 391 (i + 1) (-1)) (fun j => if j = i then a else q j) (fun a b ha hb => (rd_a (by decide)).trans ((rd_a (by decide)).trans (hm a b ha hb))) (by rw [rd_s]; rfl)
                (fun j hj => by
                  rw [rd_k (by omega)]
                  by_cases p : j = i
                  · rw [if_pos p, p, rd_s]
                  · rw [if_neg p, rd_k p]; exact hq j (by omega))
                (fun j hj => by
                  by_cases p : j = i
                  · rw [if_pos p]; omega
                  · rw [if_neg p]; exact q8 j (by omega))
                (fun j hj => by
                  by_cases p : j = i
                  · rw [if_pos p]; omega
                  · rw [if_neg p]; exact qM j (by omega))
                (fun j l hj hl e => by
                  rw [if_neg (by omega)]
                  by_cases p : l = i
                  · subst p
                    rw [if_pos rfl]
                    exact fun c => (fit_iff q a l j).mp (w' j (by omega) (by omega)) c e
                  · rw [if_neg p]; exact qd j l hj (by omega) e)
              refine ⟨t, f', ?_, t2, t3, fun j hj => ?_⟩
              · rw [TT, show n - k = i + 2 by omega]; exact t1
              · rw [t4 j hj, rd_k (by omega)]
            obtain ⟨s, f2, s1, s2, s3, s4⟩ := ihb (a + 1) (by omega) f' q (fun a b ha hb => (t3.I (sOn_n (by decide))).trans ((rd_a (by decide)).trans ((rd_a (by decide)).trans (hm a b ha hb)))) (by rw [t4 i (by omega), rd_s, nI_1]) (fun j hj => (t4 j (by omega)).trans ((rd_k (by omega)).trans (hq j hj))) q8 qM qd
            refine ⟨s + t + 1, f2, ?_, fun F => ?_, (((Un.rf.sI rfl _).sI rfl _).tr t3).tr s3, fun j hj => (s4 j hj).trans ((t4 j (by omega)).trans (rd_k (by omega)))⟩
            · rw [Nat.succ_mul]; omega
            · rw [show F + (s + t + 1) = F + s + t + 1 by omega, find_s (by omega) hn (by omega) M8 hq q8 hx hm K (F + s + t), if_neg z, if_pos y, if_pos w, t2, nI_back]
              exact s2 F
          · obtain ⟨t, f', t1, t2, t3, t4⟩ := ihb (a + 1) (by omega) (sI f 391 i (nI a)) q (fun a b ha hb => (rd_a (by decide)).trans (hm a b ha hb)) (by rw [rd_s, nI_1]) (fun j hj => (rd_k (by omega)).trans (hq j hj)) q8 qM qd
            refine ⟨t + 1, f', ?_, fun F => ?_, (Un.rf.sI rfl _).tr t3, fun j hj => (t4 j hj).trans (rd_k (by omega))⟩
            · rw [Nat.succ_mul]; omega
            · rw [show F + (t + 1) = F + t + 1 from rfl, find_s (by omega) hn (by omega) M8 hq q8 hx hm K (F + t), if_neg z, if_pos y, if_neg w]
              exact t2 F
        · refine ⟨1, sI f 391 i (nI a), by omega, fun F => ?_, Un.rf.sI rfl _, fun j hj => rd_k (by omega)⟩
          rw [find_s (by omega) hn (by omega) M8 hq q8 hx hm K F, if_neg z, if_neg y]
end FK
