/-! apart: the class sorts -/
def n40 (v0 v1 : Int32) : Int32 := if v0 ≤ (4 : Int32) then v1 + ushr v0 1 else (v1 + 2) + ushr (ushr v0 2) 1
def n32 (v0 v1 : Int32) : Int32 := if v0 ≤ (16 : Int32) then n40 v0 v1 else n40 (ushr v0 4) (v1 + 4)
def n24 (v0 v1 : Int32) : Int32 := if v0 ≤ (256 : Int32) then n32 v0 v1 else n32 (ushr v0 8) (v1 + 8)
def ntF (v0 : Int32) : Int32 := if (0 : Int32) < ((v0 ^^^ (-1 : Int32)) &&& (v0 - (1 : Int32))) then (if ((v0 ^^^ (-1 : Int32)) &&& (v0 - (1 : Int32))) ≤ (65536 : Int32) then n24 ((v0 ^^^ (-1 : Int32)) &&& (v0 - (1 : Int32))) 1 else n24 (ushr ((v0 ^^^ (-1 : Int32)) &&& (v0 - (1 : Int32))) 16) (1 + 16)) else ((v0 ^^^ (-1 : Int32)) &&& (v0 - (1 : Int32))) &&& 32
theorem n40_e (a b : Int32) (g : hG) : q_Ji_numberOfTrailingZeros_40 a b g = some (n40 a b, g) := by
  unfold q_Ji_numberOfTrailingZeros_40 n40
  split <;> rfl
theorem n32_e (a b : Int32) (g : hG) : q_Ji_numberOfTrailingZeros_32 a b g = some (n32 a b, g) := by
  unfold q_Ji_numberOfTrailingZeros_32 n32
  split <;> exact n40_e _ _ _
theorem n24_e (a b : Int32) (g : hG) : q_Ji_numberOfTrailingZeros_24 a b g = some (n24 a b, g) := by
  unfold q_Ji_numberOfTrailingZeros_24 n24
  split <;> exact n32_e _ _ _
theorem nt_e (x : Int32) (g : hG) : q_Ji_numberOfTrailingZeros x g = some (ntF x, g) := by
  unfold q_Ji_numberOfTrailingZeros ntF
  split
  · split <;> exact n24_e _ _ _
  · rfl
theorem nt_v : ∀ t, t < 9 → ntF (nI (2 ^ t - 1) ^^^ (-1)) = nI t := by decide +kernel
theorem or_v : ∀ t, t < 8 → nI (2 ^ t - 1) ||| shl 1 (nI t) = nI (2 ^ (t + 1) - 1) := by decide +kernel
theorem bI_congr {p q : Prop} [Decidable p] [Decidable q] (h : p ↔ q) : bI p = bI q := by
  by_cases z : q
  · rw [bI_t (h.mpr z), bI_t z]
  · rw [bI_f (fun y => z (h.mp y)), bI_f z]
section SA
variable {S : Nat → Int32} {nx : Nat → Nat} {g : hG} {D : Int32} {x : Nat → Nat}
theorem TrR.ex {g g' : hG} {nx : Nat → Nat} (h : TrR g nx) (e : ∀ a k, a = 255 ∨ a = 256 ∨ a = 257 → gI g' a k = gI g a k) : TrR g' nx := fun c hc => by
  rw [e 255 c (by omega), e 256 c (by omega), e 257 c (by omega)]
  exact h c hc
theorem meets_c (h : Fall S nx) (hg : TrR g nx) (hd : gI g 254 5 = D) {c e : Nat} (hc : c < 25) (he : e < 25) : q_Str_everOnOne (nI c) (nI e) (0 : Int32) g = some (bI (ky D nx c = ky D nx e), g) := by
  refine (ever_e (d := 0) h hg hd hc he (by omega)).trans ?_
  rw [bI_congr (meet_iff h hc he)]
theorem free_l (h : Fall S nx) (hg : TrR g nx) (hd : gI g 254 5 = D) {k : Nat} (hk : k < 8) (x25 : ∀ j, j ≤ k → x j < 25) (h9 : ∀ j, j ≤ k → gI g 259 j = nI (x j)) (h8 : ∀ j, j < k → gI g 258 j = nI (kd (fun j => ky D nx (x j)) j)) (K : Int32 → hG → hO Int32) : ∀ (m i F : Nat), i + m = k → m < F → q_Str_firstFreeKind_4L (nI k) K F (nI (2 ^ cnt (fun j => decide (ky D nx (x j) = ky D nx (x k))) i - 1)) (nI i) g = K (nI (2 ^ kd (fun j => ky D nx (x j)) k - 1)) g := by
  intro m
  induction m with
  | zero =>
    intro i F h1 h2
    obtain ⟨F, rfl⟩ : ∃ q, F = q + 1 := ⟨F - 1, by omega⟩
    obtain rfl : i = k := by omega
    rw [q_Str_firstFreeKind_4L_s]
    unfold q_Str_firstFreeKind_4
    rw [if_pos (nI_le (Nat.le_refl _) (by omega))]
    rfl
  | succ m ih =>
    intro i F h1 h2
    obtain ⟨F, rfl⟩ : ∃ q, F = q + 1 := ⟨F - 1, by omega⟩
    have hi : i < k := by omega
    have nx1 := ih (i + 1) F (by omega) (by omega)
    have c8 := cnt_m (fun j => decide (ky D nx (x j) = ky D nx (x k))) i
    rw [q_Str_firstFreeKind_4L_s]
    unfold q_Str_firstFreeKind_4
    rw [if_neg (nI_ge hi (by omega)), gd_nI (by omega) (by omega), gd_nI (by omega) (by omega), nI_clamp (by omega), nI_clamp (by omega), h9 i (by omega), h9 k (by omega), meets_c h hg hd (x25 i (by omega)) (x25 k (by omega)), bnd_s, gd_nI (by omega) (by omega), h8 i hi, nI_1]
    rw [cnt_s] at nx1
    by_cases z : ky D nx (x i) = ky D nx (x k)
    · rw [if_pos (decide_eq_true z), ← or_v _ (by omega)] at nx1
      have e : kd (fun j => ky D nx (x j)) i = cnt (fun j => decide (ky D nx (x j) = ky D nx (x k))) i := by
        unfold kd
        simp only [z]
      rw [bI_t z, if_neg (by decide), e]
      exact nx1
    · rw [if_neg (show ¬ decide (ky D nx (x i) = ky D nx (x k)) = true from fun q => z (of_decide_eq_true q)), Nat.add_zero] at nx1
      rw [bI_f z, if_pos rfl]
      exact nx1
theorem free_e (h : Fall S nx) (hg : TrR g nx) (hd : gI g 254 5 = D) {k : Nat} (hk : k < 8) (x25 : ∀ j, j ≤ k → x j < 25) (h9 : ∀ j, j ≤ k → gI g 259 j = nI (x j)) (h8 : ∀ j, j < k → gI g 258 j = nI (kd (fun j => ky D nx (x j)) j)) : q_Str_firstFreeKind (nI k) g = some (nI (kd (fun j => ky D nx (x j)) k), g) := by
  have g8 := kd_le (fun j => ky D nx (x j)) k
  unfold q_Str_firstFreeKind
  refine (free_l h hg hd hk x25 h9 h8 _ k 0 FU (by omega) (Nat.lt_of_lt_of_le hk (by decide))).trans ?_
  rw [nt_e, bnd_s, nt_v _ (by omega)]
/-- the most kinds of n -/
def mk (D : Int32) (nx : Nat → Nat) (x : Nat → Nat) (n : Nat) : Nat := mx (fun j => kd (fun j => ky D nx (x j)) j + 1) n 0 0
theorem sort_l {A : Int32} (h : Fall S nx) (hx : ∀ c, c < 25 → btQ A c = true → x (cnt (btQ A) c) = c) (h8 : cnt (btQ A) 25 ≤ 8) : ∀ (m i F : Nat) (g : hG), i + m = 25 → m < F → TrR g nx → gI g 254 5 = D → (∀ j, j < cnt (btQ A) i → gI g 259 j = nI (x j) ∧ gI g 258 j = nI (kd (fun j => ky D nx (x j)) j)) → ∃ g', q_Str_sortApart_6L A (fun x14 g17 => some (x14, g17)) F (nI (cnt (btQ A) i)) (nI (mk D nx x (cnt (btQ A) i))) (nI i) g = some (nI (mk D nx x (cnt (btQ A) 25)), g') ∧ Un (fun a _ => a == 258 || a == 259) g g' ∧ ∀ j, j < cnt (btQ A) 25 → gI g' 258 j = nI (kd (fun j => ky D nx (x j)) j) := by
  have x25 : ∀ j, j < cnt (btQ A) 25 → x j < 25 := fun j hj => by
    obtain ⟨c, c1, c2, c3⟩ := cnt_sur _ 25 j hj
    rw [← c3, hx c c1 c2]; exact c1
  intro m
  induction m with
  | zero =>
    intro i F g h1 h2 hg hd hr
    obtain ⟨F, rfl⟩ : ∃ q, F = q + 1 := ⟨F - 1, by omega⟩
    obtain rfl : i = 25 := by omega
    rw [q_Str_sortApart_6L_s]
    unfold q_Str_sortApart_6
    rw [if_pos (by decide)]
    exact ⟨g, rfl, Un.rf, fun j hj => (hr j hj).2⟩
  | succ m ih =>
    intro i F g h1 h2 hg hd hr
    obtain ⟨F, rfl⟩ : ∃ q, F = q + 1 := ⟨F - 1, by omega⟩
    have hi : i < 25 := by omega
    have cm := cnt_mono' (btQ A) (m := i) (n := 25) (by omega)
    rw [q_Str_sortApart_6L_s]
    unfold q_Str_sortApart_6
    rw [if_neg (show ¬ (25 : Int32) ≤ nI i from nI_ge (a := i) (b := 25) (by omega) (by decide))]
    by_cases y : cnt (btQ A) i = 8
    · rw [if_pos (show (8 : Int32) ≤ nI (cnt (btQ A) i) by rw [y]; decide)]
      have e : cnt (btQ A) 25 = cnt (btQ A) i := by omega
      rw [e]
      exact ⟨g, rfl, Un.rf, fun j hj => (hr j hj).2⟩
    · rw [if_neg (show ¬ (8 : Int32) ≤ nI (cnt (btQ A) i) from nI_ge (b := 8) (by omega) (by decide)), isA_c, bnd_s, nI_1]
      have ih1 := ih (i + 1) F
      rw [cnt_s] at ih1
      by_cases z : bt A (nI i)
      · have zq := btQ_t z
        have ci := cnt_in (btQ A) hi zq
        rw [if_pos zq] at ih1
        rw [bI_t z, if_neg (by decide), gd_nI (by omega) (by omega), wr_e, nI_clamp (by omega)]
        generalize hk : cnt (btQ A) i = k at *
        have xk : x k = i := by rw [← hk]; exact hx i hi zq
        have r9 : ∀ j, j ≤ k → gI (sI g 259 k (nI i)) 259 j = nI (x j) := fun j hj => by
          by_cases w : j = k
          · subst w; rw [rd_s, xk]
          · rw [rd_k w]; exact (hr j (by omega)).1
        have fe := free_e (g := sI g 259 k (nI i)) (D := D) (x := x) h (hg.ex (fun a j ha => rd_a (by omega))) (by rw [rd_a (by decide)]; exact hd) (k := k) (by omega) (fun j hj => x25 j (by omega)) r9 (fun j hj => by rw [rd_a (by decide)]; exact (hr j hj).2)
        have g8 := kd_le (fun j => ky D nx (x j)) k
        have ge : ∀ v, gI (sI (sI g 259 k (nI i)) 258 k v) 258 k = v := fun v => rd_s
        rw [fe, bnd_s, gd_nI (by omega) (by omega), wr_e, gd_nI (by omega) (by omega), ge, nI_1, nI_1]
        have mk1 : imax (nI (mk D nx x k)) (nI (kd (fun j => ky D nx (x j)) k + 1)) = nI (mk D nx x (k + 1)) := by
          have b8 : mk D nx x k ≤ 8 := (mx_le _ _ _).mpr ⟨by omega, fun j _ hj => by have := kd_le (fun j => ky D nx (x j)) j; omega⟩
          unfold imax
          rw [nI_lt_if (by omega) (by omega), nI_if]
          unfold mk
          rw [mx_snoc, Nat.zero_add]
        rw [mk1]
        obtain ⟨g', e1, e2, e3⟩ := ih1 (sI (sI g 259 k (nI i)) 258 k (nI (kd (fun j => ky D nx (x j)) k))) (by omega) (by omega) (hg.ex (fun a j ha => by rw [rd_a (by omega), rd_a (by omega)])) (by rw [rd_a (by decide), rd_a (by decide)]; exact hd)
          (fun j hj => ⟨by rw [rd_a (by decide)]; exact r9 j (by omega), by
            by_cases w : j = k
            · subst w; exact rd_s
            · rw [rd_k w, rd_a (by decide)]; exact (hr j (by omega)).2⟩)
        exact ⟨g', e1, ((Un.rf.sI rfl _).sI rfl _).tr e2, e3⟩
      · rw [if_neg (btQ_f z), Nat.add_zero] at ih1
        rw [bI_f z, if_pos rfl]
        exact ih1 g (by omega) (by omega) hg hd hr
end SA
