/-! apart -/
section AF
variable {nx : Nat → Nat} {D : Int32} {x : Nat → Nat}
theorem TT_n : ∀ n, n ≤ 8 → TT n n < 900000 := by decide +kernel
theorem fu_spl {t : Nat} (h : t < 900000) : ∃ F, FU = F + 1 + t := ⟨1000000 - 1 - t, by have e : FU = 1000000 := rfl; omega⟩
theorem find_no {n M i0 : Nat} (hn : n ≤ 8) (h0 : i0 < n) (hM : M ≤ kd (fun j => ky D nx (x j)) i0) {f : hG} (hm : ∀ a b, a < n → b < n → gI f 392 (8 * a + b) = clM D nx x a b) : ∃ f', q_Mo_findKinds (nI n) (nI M) f = some (0, f') ∧ Un (sOn 391) f f' := by
  obtain ⟨k, rfl⟩ : ∃ k, n = k + 1 := ⟨n - 1, by omega⟩
  have b0 := TT_n (k + 1) hn
  obtain ⟨t, f', t1, t2, t3, -⟩ := find_f hn h0 hM (fun x18 g19 => q_Mo_findKinds_47 (nI (k + 1)) x18 g19) k 0 (by omega) 1 0 (by omega) (sI f 391 0 (-1)) (fun _ => 0) (fun a b ha hb => (rd_a (by decide)).trans (hm a b ha hb)) (by rw [rd_s]; rfl) (fun j hj => absurd hj (Nat.not_lt_zero _)) (fun j hj => absurd hj (Nat.not_lt_zero _)) (fun j hj => absurd hj (Nat.not_lt_zero _)) (fun j l _ hl => absurd hl (Nat.not_lt_zero _))
  have t1' : t < 900000 := by
    rw [TT, show k + 1 - k = 1 by omega] at b0
    omega
  obtain ⟨F, hF⟩ := fu_spl t1'
  refine ⟨f', ?_, (Un.rf.sI rfl _).tr t3⟩
  unfold q_Mo_findKinds
  rw [gd_L _ _ (by decide) (by decide), wr_e, cl_L _ (by decide), hF]
  refine (t2 (F + 1)).trans ?_
  rw [q_Mo_findKinds_7L_s]
  unfold q_Mo_findKinds_7 q_Mo_findKinds_47
  have n1 : ¬ (nI 0 + (-1 : Int32)) = nI (k + 1) := fun q => by
    have : (0 : Int32) ≤ nI 0 + (-1) := by rw [q]; exact nI_pos' (by omega)
    exact absurd this (by decide)
  rw [if_pos (by decide)]
  exact if_neg n1
/-- enough kinds: the first way -/
theorem succ_i {n M i : Nat} (hn : n ≤ 8) (hi : i < n) (hM : ∀ j, j < n → kd (fun j => ky D nx (x j)) j < M) (M8 : M < 100) (K : Int32 → hG → hO Int32) : ∀ (m a : Nat), a + m = kd (fun j => ky D nx (x j)) i → ∀ f : hG, (∀ a b, a < n → b < n → gI f 392 (8 * a + b) = clM D nx x a b) → gI f 391 i + 1 = nI a → (∀ j, j < i → gI f 391 j = nI (kd (fun j => ky D nx (x j)) j)) → ∃ f', (∀ F, q_Mo_findKinds_7L (nI n) (nI M) K (F + (m + 1)) (nI i) f = q_Mo_findKinds_7L (nI n) (nI M) K F (nI (i + 1)) f') ∧ Un (sOn 391) f f' ∧ (∀ j, j < i + 1 → gI f' 391 j = nI (kd (fun j => ky D nx (x j)) j)) ∧ gI f' 391 (i + 1) = -1 := by
  have ki := kd_le (fun j => ky D nx (x j)) i
  have kAk : kd (fun j => ky D nx (x j)) i ≤ kA (kd (fun j => ky D nx (x j))) i := by
    by_cases z : kd (fun j => ky D nx (x j)) i = 0
    · omega
    · obtain ⟨j, j1, j2, j3⟩ := kd_ex (κ := fun j => ky D nx (x j)) (i := i) (a := kd (fun j => ky D nx (x j)) i - 1) (by omega)
      have := ((mx_le (Q := fun j => kd (fun j => ky D nx (x j)) j + 1) i 0 0).mp (Nat.le_refl _)).2 j (by omega) (by omega)
      unfold kA
      omega
  intro m
  induction m with
  | zero =>
    intro a ha f hm hx hq
    have w : allB (fit D nx x (kd (fun j => ky D nx (x j))) a i) 0 i = true := (allB_iff _ _ _).mpr (fun j _ hj => (fit_iff _ a i j).mpr (fun p e => by
      have := kd_lt (κ := fun j => ky D nx (x j)) (i := i) (j := j) (by omega) e
      omega))
    have ma := hM i hi
    refine ⟨sI (sI f 391 i (nI a)) 391 (i + 1) (-1), fun F => ?_, (Un.rf.sI rfl _).sI rfl _, fun j hj => ?_, rd_s⟩
    · rw [show F + (0 + 1) = F + 1 by omega, find_s hi hn (by omega) M8 hq (fun j _ => kd_le _ j) hx hm K F, if_neg (by omega), if_pos (by omega), if_pos w]
    · rw [rd_k (by omega)]
      by_cases p : j = i
      · subst p; rw [rd_s, show a = kd (fun j => ky D nx (x j)) j by omega]
      · rw [rd_k p]; exact hq j (by omega)
  | succ m ih =>
    intro a ha f hm hx hq
    have w : ¬ allB (fit D nx x (kd (fun j => ky D nx (x j))) a i) 0 i = true := fun q => by
      obtain ⟨j, j1, j2, j3⟩ := kd_ex (κ := fun j => ky D nx (x j)) (i := i) (a := a) (by omega)
      exact (fit_iff _ a i j).mp ((allB_iff _ _ _).mp q j (by omega) (by omega)) j3 j2
    have ma := hM i hi
    obtain ⟨f', e1, e2, e3, e4⟩ := ih (a + 1) (by omega) (sI f 391 i (nI a)) (fun a b ha hb => (rd_a (by decide)).trans (hm a b ha hb)) (by rw [rd_s, nI_1]) (fun j hj => (rd_k (by omega)).trans (hq j hj))
    refine ⟨f', fun F => ?_, (Un.rf.sI rfl _).tr e2, e3, e4⟩
    rw [show F + (m + 1 + 1) = F + (m + 1) + 1 by omega, find_s hi hn (by omega) M8 hq (fun j _ => kd_le _ j) hx hm K (F + (m + 1)), if_neg (by omega), if_pos (by omega), if_neg w]
    exact e1 F
theorem succ_l {n M : Nat} (hn : n ≤ 8) (hM : ∀ j, j < n → kd (fun j => ky D nx (x j)) j < M) (M8 : M < 100) (K : Int32 → hG → hO Int32) : ∀ (k i : Nat), i + k = n → ∀ f : hG, (∀ a b, a < n → b < n → gI f 392 (8 * a + b) = clM D nx x a b) → gI f 391 i = -1 → (∀ j, j < i → gI f 391 j = nI (kd (fun j => ky D nx (x j)) j)) → ∃ t f', t ≤ 9 * k ∧ (∀ F, q_Mo_findKinds_7L (nI n) (nI M) K (F + t) (nI i) f = q_Mo_findKinds_7L (nI n) (nI M) K F (nI n) f') ∧ Un (sOn 391) f f' ∧ ∀ j, j < n → gI f' 391 j = nI (kd (fun j => ky D nx (x j)) j) := by
  intro k
  induction k with
  | zero =>
    intro i hi f hm hx hq
    obtain rfl : i = n := by omega
    exact ⟨0, f, by omega, fun F => rfl, Un.rf, hq⟩
  | succ k ih =>
    intro i hi f hm hx hq
    have ki := kd_le (fun j => ky D nx (x j)) i
    obtain ⟨f1, e1, e2, e3, e4⟩ := succ_i hn (by omega) hM M8 K (kd (fun j => ky D nx (x j)) i) 0 (by omega) f hm (by rw [hx]; rfl) hq
    obtain ⟨t, f', t1, t2, t3, t4⟩ := ih (i + 1) (by omega) f1 (fun a b ha hb => (e2.I (sOn_n (by decide))).trans (hm a b ha hb)) e4 e3
    refine ⟨t + (kd (fun j => ky D nx (x j)) i + 1), f', by omega, fun F => ?_, e2.tr t3, t4⟩
    rw [← Nat.add_assoc]
    exact (e1 (F + t)).trans (t2 F)
theorem find_yes {n M : Nat} (hn : n ≤ 8) (hM : ∀ j, j < n → kd (fun j => ky D nx (x j)) j < M) (M8 : M < 100) {f : hG} (hm : ∀ a b, a < n → b < n → gI f 392 (8 * a + b) = clM D nx x a b) : ∃ f', q_Mo_findKinds (nI n) (nI M) f = some (1, f') ∧ Un (sOn 391) f f' ∧ ∀ j, j < n → gI f' 391 j = nI (kd (fun j => ky D nx (x j)) j) := by
  obtain ⟨t, f', t1, t2, t3, t4⟩ := succ_l hn hM M8 (fun x18 g19 => q_Mo_findKinds_47 (nI n) x18 g19) n 0 (by omega) (sI f 391 0 (-1)) (fun a b ha hb => (rd_a (by decide)).trans (hm a b ha hb)) rd_s (fun j hj => absurd hj (Nat.not_lt_zero _))
  obtain ⟨F, hF⟩ := fu_spl (t := t) (by omega)
  refine ⟨f', ?_, (Un.rf.sI rfl _).tr t3, t4⟩
  unfold q_Mo_findKinds
  rw [gd_L _ _ (by decide) (by decide), wr_e, cl_L _ (by decide), hF]
  refine (t2 (F + 1)).trans ?_
  rw [q_Mo_findKinds_7L_s]
  unfold q_Mo_findKinds_7 q_Mo_findKinds_47
  rw [if_neg (Int32.not_lt.mpr (nI_pos' (by omega))), if_pos (nI_le (Nat.le_refl _) (by omega))]
  exact if_pos rfl
theorem find_l {n : Nat} (hn : n ≤ 8) (K : Int32 → hG → hO Int32) : ∀ (m M F : Nat) (f : hG), M + m = mk D nx x n → m < F → (∀ a b, a < n → b < n → gI f 392 (8 * a + b) = clM D nx x a b) → ∃ f', q_Mo_apart_88L (nI n) K F (nI M) f = K (nI (mk D nx x n)) f' ∧ Un (sOn 391) f f' ∧ ∀ j, j < n → gI f' 391 j = nI (kd (fun j => ky D nx (x j)) j) := by
  have le : mk D nx x n ≤ 8 := (mx_le _ _ _).mpr ⟨by omega, fun j _ hj => by have := kd_le (fun j => ky D nx (x j)) j; omega⟩
  intro m
  induction m with
  | zero =>
    intro M F f h1 h2 hm
    obtain ⟨F, rfl⟩ : ∃ q, F = q + 1 := ⟨F - 1, by omega⟩
    obtain rfl : M = mk D nx x n := by omega
    obtain ⟨f', e1, e2, e3⟩ := find_yes (D := D) (nx := nx) (x := x) (M := mk D nx x n) hn (fun j hj => ((mx_le (Q := fun j => kd (fun j => ky D nx (x j)) j + 1) n 0 0).mp (Nat.le_refl _)).2 j (by omega) (by omega)) (by omega) hm
    refine ⟨f', ?_, e2, e3⟩
    rw [q_Mo_apart_88L_s]
    unfold q_Mo_apart_88
    rw [e1, bnd_s, if_neg (by decide)]
  | succ m ih =>
    intro M F f h1 h2 hm
    obtain ⟨F, rfl⟩ : ∃ q, F = q + 1 := ⟨F - 1, by omega⟩
    obtain ⟨i0, i1, i2⟩ : ∃ i0, i0 < n ∧ M ≤ kd (fun j => ky D nx (x j)) i0 := by
      refine Classical.byContradiction (fun q => ?_)
      have : mk D nx x n ≤ M := (mx_le _ _ _).mpr ⟨Nat.zero_le _, fun j _ hj => Nat.lt_of_not_le (fun p => q ⟨j, by omega, p⟩)⟩
      omega
    obtain ⟨f1, e1, e2⟩ := find_no hn i1 i2 hm
    obtain ⟨f', p1, p2, p3⟩ := ih (M + 1) F f1 (by omega) (by omega) (fun a b ha hb => (e2.I (sOn_n (by decide))).trans (hm a b ha hb))
    refine ⟨f', ?_, e2.tr p2, p3⟩
    rw [q_Mo_apart_88L_s]
    unfold q_Mo_apart_88
    rw [e1, bnd_s, if_pos rfl, nI_1]
    exact p1
end AF
