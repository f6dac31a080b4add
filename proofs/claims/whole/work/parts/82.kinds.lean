/-! apart: the model's lists and its search -/
section KM
variable {S : Nat → Int32} {nx : Nat → Nat} {D : Int32} {x : Nat → Nat}
theorem meets_m {f : hG} (h : Fall S nx) (hf : M389 f nx) (hd : gI f 369 3 = D) {c e : Nat} (hc : c < 25) (he : e < 25) : q_Mo_clash (nI c) (nI e) (0 : Int32) f = some (bI (ky D nx c = ky D nx e), f) := by
  refine (clash_e (d := 0) h hf hd hc he (by omega)).trans ?_
  rw [bI_congr (meet_iff h hc he)]
/-- only rows a -/
def sOn (b : Nat) (a _k : Nat) : Bool := a == b
theorem sOn_n {b a k : Nat} (h : a ≠ b) : sOn b a k = false := by unfold sOn; exact beq_false_of_ne h
theorem list_m {A : Int32} (hx : ∀ c, c < 25 → btQ A c = true → x (cnt (btQ A) c) = c) (h8 : cnt (btQ A) 25 ≤ 8) (K : Int32 → hG → hO Int32) : ∀ (m i F : Nat) (f : hG), i + m = 25 → m < F → (∀ j, j < cnt (btQ A) i → gI f 390 j = nI (x j)) → ∃ f', q_Mo_apart_31L A K F (nI (cnt (btQ A) i)) (nI i) f = K (nI (cnt (btQ A) 25)) f' ∧ Un (sOn 390) f f' ∧ ∀ j, j < cnt (btQ A) 25 → gI f' 390 j = nI (x j) := by
  intro m
  induction m with
  | zero =>
    intro i F f h1 h2 hr
    obtain ⟨F, rfl⟩ : ∃ q, F = q + 1 := ⟨F - 1, by omega⟩
    obtain rfl : i = 25 := by omega
    rw [q_Mo_apart_31L_s]
    unfold q_Mo_apart_31
    rw [if_pos (by decide)]
    exact ⟨f, rfl, Un.rf, hr⟩
  | succ m ih =>
    intro i F f h1 h2 hr
    obtain ⟨F, rfl⟩ : ∃ q, F = q + 1 := ⟨F - 1, by omega⟩
    have hi : i < 25 := by omega
    rw [q_Mo_apart_31L_s]
    unfold q_Mo_apart_31
    rw [if_neg (show ¬ (25 : Int32) ≤ nI i from nI_ge (a := i) (b := 25) (by omega) (by decide)), is_m, bnd_s, nI_1, nI_1]
    have ih1 := ih (i + 1) F
    rw [cnt_s] at ih1
    by_cases z : bt A (nI i)
    · have zq := btQ_t z
      have ci := cnt_in (btQ A) hi zq
      rw [if_pos zq] at ih1
      rw [bI_t z, if_neg (by decide), gd_nI (by omega) (by omega), wr_e, nI_clamp (by omega)]
      have xk : x (cnt (btQ A) i) = i := hx i hi zq
      generalize hk : cnt (btQ A) i = k at *
      obtain ⟨f', e1, e2, e3⟩ := ih1 (sI f 390 k (nI i)) (by omega) (by omega) (fun j hj => by
        by_cases w : j = k
        · subst w; rw [rd_s, xk]
        · rw [rd_k w]; exact hr j (by omega))
      exact ⟨f', e1, (Un.rf.sI rfl _).tr e2, e3⟩
    · rw [if_neg (btQ_f z), Nat.add_zero] at ih1
      rw [bI_f z, if_pos rfl]
      exact ih1 f (by omega) (by omega) hr
/-- who is not to be of one kind -/
def clM (D : Int32) (nx : Nat → Nat) (x : Nat → Nat) (i j : Nat) : Int32 := if i = j then 0 else bI (ky D nx (x i) = ky D nx (x j))
theorem gb_bI2 {α : Type} (p : Prop) [Decidable p] (Y : hO α) : gb (bI p) Y = Y := by
  unfold bI
  split
  · exact gb_1 Y
  · exact gb_0 Y
theorem row_m {n i : Nat} (hn : n ≤ 8) (hi : i < n) (h : Fall S nx) (x25 : ∀ j, j < n → x j < 25) (K : hG → hO Int32) : ∀ (m j F : Nat) (f : hG), j + m = n → m < F → M389 f nx → gI f 369 3 = D → (∀ j, j < n → gI f 390 j = nI (x j)) → ∃ f', q_Mo_apart_53L (nI n) (nI i) K F (nI j) f = K f' ∧ Un (sOn 392) f f' ∧ (∀ k, ¬ (8 * i + j ≤ k ∧ k < 8 * i + n) → gI f' 392 k = gI f 392 k) ∧ ∀ k, j ≤ k → k < n → gI f' 392 (8 * i + k) = clM D nx x i k := by
  intro m
  induction m with
  | zero =>
    intro j F f h1 h2 hf hd hr
    obtain ⟨F, rfl⟩ : ∃ q, F = q + 1 := ⟨F - 1, by omega⟩
    obtain rfl : j = n := by omega
    rw [q_Mo_apart_53L_s]
    unfold q_Mo_apart_53
    rw [if_pos (nI_le (Nat.le_refl _) (by omega))]
    exact ⟨f, rfl, Un.rf, fun _ _ => rfl, fun k h1 h2 => by omega⟩
  | succ m ih =>
    intro j F f h1 h2 hf hd hr
    obtain ⟨F, rfl⟩ : ∃ q, F = q + 1 := ⟨F - 1, by omega⟩
    have hj : j < n := by omega
    have e8 : (8 : Int32) * nI i + nI j = nI (8 * i + j) := by rw [show (8 : Int32) = nI 8 from rfl, pk_mul, nI_add]
    have fin : ∃ f', q_Mo_apart_53L (nI n) (nI i) K F (nI (j + 1)) (sI f 392 (8 * i + j) (clM D nx x i j)) = K f' ∧ Un (sOn 392) f f' ∧ (∀ k, ¬ (8 * i + j ≤ k ∧ k < 8 * i + n) → gI f' 392 k = gI f 392 k) ∧ ∀ k, j ≤ k → k < n → gI f' 392 (8 * i + k) = clM D nx x i k := by
      obtain ⟨f', e1, e2, e3, e4⟩ := ih (j + 1) F (sI f 392 (8 * i + j) (clM D nx x i j)) (by omega) (by omega) (fun c hc => (rd_a (by decide)).trans (hf c hc)) ((rd_a (by decide)).trans hd) (fun j hj => (rd_a (by decide)).trans (hr j hj))
      refine ⟨f', e1, (Un.rf.sI rfl _).tr e2, fun k hk => ?_, fun k k1 k2 => ?_⟩
      · rw [e3 k (by omega), rd_k (by omega)]
      · by_cases w : k = j
        · subst w; rw [e3 _ (by omega), rd_s]
        · exact e4 k (by omega) k2
    rw [q_Mo_apart_53L_s]
    unfold q_Mo_apart_53 q_Mo_apart_80 q_Mo_apart_81
    rw [if_neg (nI_ge hj (by omega)), e8]
    by_cases w : i = j
    · have c0 : clM D nx x i j = 0 := by unfold clM; rw [if_pos w]
      rw [c0] at fin
      rw [if_pos (by rw [w]), gd_nI (by omega) (by omega), gb_0, wr_e, nI_clamp (by omega), nI_1]
      exact fin
    · have c1 : clM D nx x i j = bI (ky D nx (x i) = ky D nx (x j)) := by unfold clM; rw [if_neg w]
      rw [c1] at fin
      rw [if_neg (fun q => w ((nI_eq (by omega) (by omega)).mp q)), gd_nI (by omega) (by omega), gd_nI (by omega) (by omega), nI_clamp (by omega), nI_clamp (by omega), hr i (by omega), hr j hj, meets_m h hf hd (x25 i (by omega)) (x25 j hj), bnd_s]
      have e : (if bI (ky D nx (x i) = ky D nx (x j)) = (0 : Int32) then (0 : Int32) else 1) = bI (ky D nx (x i) = ky D nx (x j)) := by
        by_cases z : ky D nx (x i) = ky D nx (x j)
        · rw [bI_t z]; rfl
        · rw [bI_f z]; rfl
      rw [e, gd_nI (by omega) (by omega), gb_bI2, wr_e, nI_clamp (by omega), nI_1]
      exact fin
theorem rows_m {n : Nat} (hn : n ≤ 8) (h : Fall S nx) (x25 : ∀ j, j < n → x j < 25) (K : hG → hO Int32) : ∀ (m i F : Nat) (f : hG), i + m = n → m < F → M389 f nx → gI f 369 3 = D → (∀ j, j < n → gI f 390 j = nI (x j)) → (∀ a b, a < i → b < n → gI f 392 (8 * a + b) = clM D nx x a b) → ∃ f', q_Mo_apart_48L (nI n) K F (nI i) f = K f' ∧ Un (sOn 392) f f' ∧ ∀ a b, a < n → b < n → gI f' 392 (8 * a + b) = clM D nx x a b := by
  intro m
  induction m with
  | zero =>
    intro i F f h1 h2 hf hd hr hm
    obtain ⟨F, rfl⟩ : ∃ q, F = q + 1 := ⟨F - 1, by omega⟩
    obtain rfl : i = n := by omega
    rw [q_Mo_apart_48L_s]
    unfold q_Mo_apart_48
    rw [if_pos (nI_le (Nat.le_refl _) (by omega))]
    exact ⟨f, rfl, Un.rf, hm⟩
  | succ m ih =>
    intro i F f h1 h2 hf hd hr hm
    obtain ⟨F, rfl⟩ : ∃ q, F = q + 1 := ⟨F - 1, by omega⟩
    have hi : i < n := by omega
    rw [q_Mo_apart_48L_s]
    unfold q_Mo_apart_48
    rw [if_neg (nI_ge hi (by omega)), nI_1]
    obtain ⟨f1, e1, e2, e3, e4⟩ := row_m hn hi h x25 (fun g42 => q_Mo_apart_48L (nI n) K F (nI (i + 1)) g42) n 0 FU f (by omega) (Nat.lt_of_le_of_lt hn (by decide)) hf hd hr
    obtain ⟨f', p1, p2, p3⟩ := ih (i + 1) F f1 (by omega) (by omega) (fun c hc => (e2.I (sOn_n (by decide))).trans (hf c hc)) ((e2.I (sOn_n (by decide))).trans hd) (fun j hj => (e2.I (sOn_n (by decide))).trans (hr j hj)) (fun a b ha hb => by
      by_cases w : a = i
      · subst w; exact e4 b (by omega) hb
      · rw [e3 _ (by omega)]; exact hm a b (by omega) hb)
    exact ⟨f', e1.trans p1, e2.tr p2, p3⟩
end KM
