/-! texts: what a part of the class's code comes to -/
theorem cd_15 : ∀ m, m < 1024 → ∀ s, s < 16 → nI (16 * m + s) &&& (15 : Int32) = nI s ∧ shr (nI (16 * m + s)) (4 : Int32) = nI m ∧ (shl (nI m) (4 : Int32)) ||| nI s = nI (16 * m + s) := by decide +kernel
def bnF (x : Int64) : Option Int32 := if (1000000000 : Int64) < x then none else if (-1000000000 : Int64) ≤ x then some x.toInt32 else none
theorem bnF_b {x : Int64} {v : Int32} (h : bnF x = some v) : v.toInt = x.toInt ∧ -1000000000 ≤ x.toInt ∧ x.toInt ≤ 1000000000 := by
  unfold bnF at h
  by_cases z : (1000000000 : Int64) < x
  · rw [if_pos z] at h; cases h
  · rw [if_neg z] at h
    by_cases y : (-1000000000 : Int64) ≤ x
    · rw [if_pos y] at h
      injection h with h
      rw [Int64.lt_iff_toInt_lt, show (1000000000 : Int64).toInt = 1000000000 from rfl] at z
      rw [Int64.le_iff_toInt_le, show (-1000000000 : Int64).toInt = -1000000000 from rfl] at y
      refine ⟨?_, y, by omega⟩
      rw [← h, Int64.toInt_toInt32]
      exact Int.bmod_eq_of_le (by simp <;> omega) (by simp <;> omega)
    · rw [if_neg y] at h; cases h
def jnF (s : Nat) (l r : Int32) : Option Int32 :=
  if (s = 5 ∨ s = 6) ∧ r = 0 then none else if s = 2 then bnF (l.toInt64 + r.toInt64) else if s = 3 then bnF (l.toInt64 - r.toInt64) else if s = 4 then bnF (l.toInt64 * r.toInt64) else if s = 5 then bnF (l.toInt64 / r.toInt64) else if s = 6 then bnF (lrem l.toInt64 r.toInt64) else if s = 7 then some (if r ≤ l then 0 else 1) else if s = 8 then some (if l ≤ r then 0 else 1) else some (if l = r then 1 else 0)
theorem j66 (x : Int64) (g : hG) : q_Calc_joined_66 x g = some ((bnF x).getD BRK, g) := by
  unfold q_Calc_joined_66 bnF
  by_cases z : (1000000000 : Int64) < x
  · rw [if_pos z, if_pos z]; rfl
  · rw [if_neg z, if_neg z]
    by_cases y : (-1000000000 : Int64) ≤ x
    · rw [if_pos y, if_pos y]; rfl
    · rw [if_neg y, if_neg y]; rfl
theorem z64 {r : Int32} (h : ¬ r = 0) : ¬ r.toInt64 = 0 := fun q => h (by
  have : r.toInt64.toInt = (0 : Int64).toInt := by rw [q]
  rw [Int32.toInt_toInt64] at this
  exact Int32.toInt_inj.mp this)
theorem jn7 (l r : Int32) : jnF 7 l r = some (if r ≤ l then 0 else 1) := by
  unfold jnF
  rw [if_neg (show ¬ ((7 = 5 ∨ 7 = 6) ∧ r = 0) by omega), if_neg (show ¬ 7 = 2 by decide), if_neg (show ¬ 7 = 3 by decide), if_neg (show ¬ 7 = 4 by decide), if_neg (show ¬ 7 = 5 by decide), if_neg (show ¬ 7 = 6 by decide), if_pos (show 7 = 7 from rfl)]
theorem jn8 (l r : Int32) : jnF 8 l r = some (if l ≤ r then 0 else 1) := by
  unfold jnF
  rw [if_neg (show ¬ ((8 = 5 ∨ 8 = 6) ∧ r = 0) by omega), if_neg (show ¬ 8 = 2 by decide), if_neg (show ¬ 8 = 3 by decide), if_neg (show ¬ 8 = 4 by decide), if_neg (show ¬ 8 = 5 by decide), if_neg (show ¬ 8 = 6 by decide), if_neg (show ¬ 8 = 7 by decide), if_pos (show 8 = 8 from rfl)]
theorem jn9 (l r : Int32) : jnF 9 l r = some (if l = r then 1 else 0) := by
  unfold jnF
  rw [if_neg (show ¬ ((9 = 5 ∨ 9 = 6) ∧ r = 0) by omega), if_neg (show ¬ 9 = 2 by decide), if_neg (show ¬ 9 = 3 by decide), if_neg (show ¬ 9 = 4 by decide), if_neg (show ¬ 9 = 5 by decide), if_neg (show ¬ 9 = 6 by decide), if_neg (show ¬ 9 = 7 by decide), if_neg (show ¬ 9 = 8 by decide)]
theorem joined_c {s : Nat} (hs : 2 ≤ s ∧ s ≤ 9) (l r : Int32) (g : hG) : q_Calc_joined (nI s) l r g = some ((jnF s l r).getD BRK, g) := by
  have e : s = 2 ∨ s = 3 ∨ s = 4 ∨ s = 5 ∨ s = 6 ∨ s = 7 ∨ s = 8 ∨ s = 9 := by omega
  unfold q_Calc_joined q_Calc_joined_6 q_Calc_joined_10 jnF
  rcases e with rfl | rfl | rfl | rfl | rfl | rfl | rfl | rfl
  · rw [if_neg (by decide), if_neg (by decide), if_pos (by decide), if_neg (by omega), if_pos rfl, j66]
  · rw [if_neg (by decide), if_neg (by decide), if_neg (by decide), if_pos (by decide), if_neg (by omega), if_neg (by omega), if_pos rfl, j66]
  · rw [if_neg (by decide), if_neg (by decide), if_neg (by decide), if_neg (by decide), if_pos (by decide), if_neg (by omega), if_neg (by omega), if_neg (by omega), if_pos rfl, j66]
  · rw [if_pos (by decide)]
    by_cases z : r = 0
    · rw [if_pos z, if_pos ⟨by omega, z⟩]; rfl
    · rw [if_neg z, if_neg (by decide), if_neg (by decide), if_neg (by decide), if_pos (by decide), if_neg (fun q => z q.2), if_neg (by omega), if_neg (by omega), if_neg (by omega), if_pos rfl]
      unfold gzL
      rw [if_neg (z64 z), j66]
  · rw [if_neg (by decide), if_pos (by decide)]
    by_cases z : r = 0
    · rw [if_pos z, if_pos ⟨by omega, z⟩]; rfl
    · rw [if_neg z, if_neg (by decide), if_neg (by decide), if_neg (by decide), if_neg (by decide), if_pos (by decide), if_neg (fun q => z q.2), if_neg (by omega), if_neg (by omega), if_neg (by omega), if_neg (by omega), if_pos rfl]
      unfold gzL
      rw [if_neg (z64 z), j66]
  · rw [if_neg (by decide), if_neg (by decide), if_neg (by decide), if_neg (by decide), if_neg (by decide), if_neg (by decide), if_neg (by decide), if_pos (by decide)]
    refine Eq.trans ?_ (congrArg (fun o => some (o.getD BRK, g)) (jn7 l r).symm)
    by_cases z : r ≤ l
    · rw [if_pos z, if_pos z]; rfl
    · rw [if_neg z, if_neg z]; rfl
  · rw [if_neg (by decide), if_neg (by decide), if_neg (by decide), if_neg (by decide), if_neg (by decide), if_neg (by decide), if_neg (by decide), if_neg (by decide), if_pos (by decide)]
    refine Eq.trans ?_ (congrArg (fun o => some (o.getD BRK, g)) (jn8 l r).symm)
    by_cases z : l ≤ r
    · rw [if_pos z, if_pos z]; rfl
    · rw [if_neg z, if_neg z]; rfl
  · rw [if_neg (by decide), if_neg (by decide), if_neg (by decide), if_neg (by decide), if_neg (by decide), if_neg (by decide), if_neg (by decide), if_neg (by decide), if_neg (by decide)]
    refine Eq.trans ?_ (congrArg (fun o => some (o.getD BRK, g)) (jn9 l r).symm)
    by_cases z : l = r
    · rw [if_pos z, if_pos z]; rfl
    · rw [if_neg z, if_neg z]; rfl
theorem jnF_b {s : Nat} {l r v : Int32} (h : jnF s l r = some v) : v ≠ BRK := by
  have bb : ∀ x, bnF x = some v → v ≠ BRK := fun x h q => by
    have := bnF_b h
    rw [q, show BRK.toInt = -2000000000 from rfl] at this
    omega
  unfold jnF at h
  by_cases z : (s = 5 ∨ s = 6) ∧ r = 0
  · rw [if_pos z] at h; cases h
  rw [if_neg z] at h
  by_cases z2 : s = 2
  · rw [if_pos z2] at h; exact bb _ h
  rw [if_neg z2] at h
  by_cases z3 : s = 3
  · rw [if_pos z3] at h; exact bb _ h
  rw [if_neg z3] at h
  by_cases z4 : s = 4
  · rw [if_pos z4] at h; exact bb _ h
  rw [if_neg z4] at h
  by_cases z5 : s = 5
  · rw [if_pos z5] at h; exact bb _ h
  rw [if_neg z5] at h
  by_cases z6 : s = 6
  · rw [if_pos z6] at h; exact bb _ h
  rw [if_neg z6] at h
  by_cases z7 : s = 7
  · rw [if_pos z7] at h; injection h with h; rw [← h]; split <;> decide
  rw [if_neg z7] at h
  by_cases z8 : s = 8
  · rw [if_pos z8] at h; injection h with h; rw [← h]; split <;> decide
  rw [if_neg z8] at h
  injection h with h; rw [← h]; split <;> decide
/-- the top of so many values -/
def tI (n : Nat) : Int32 := if n = 0 then -1 else nI (n - 1)
theorem tI_s (n : Nat) : tI (n + 1) = nI n := by unfold tI; rw [if_neg (by omega), Nat.add_sub_cancel]
theorem tI_1 (n : Nat) : tI n + 1 = nI n := by
  cases n with
  | zero => rfl
  | succ n => rw [tI_s, nI_1]
theorem tI_d (n : Nat) : nI n + (-1 : Int32) = tI n := by
  cases n with
  | zero => rfl
  | succ n => rw [tI_s, nI_back]
section WK
variable {t fa : Nat} {K1 K2 : hG → hO Int32} {K3 : Int32 → hG → hO Int32} {g : hG} {sz a top : Nat}
theorem wk_and (k : Nat) (hk : k < 16) : nI k &&& (15 : Int32) = nI k := by
  have := (cd_15 0 (by omega) k hk).1
  rw [show 16 * 0 + k = k by omega] at this
  exact this
theorem wk_push (hz : gI g t 1 = nI sz) (ha : a < sz) (h4 : sz ≤ 402) {m : Nat} (hm : m < 1024) (hc : gI g (t + 1) a = nI (16 * m)) (ht : top < 50) (F : Nat) : q_Calc_work_4L t fa K1 K2 K3 (F + 1) (tI top) (nI a) g = q_Calc_work_4L t fa K1 K2 K3 F (tI (top + 1)) (nI (a + 1)) (sI g 248 top (nI m)) := by
  obtain ⟨c1, c2, -⟩ := cd_15 m hm 0 (by omega)
  rw [Nat.add_zero] at c1 c2
  rw [q_Calc_work_4L_s]
  unfold q_Calc_work_4 q_Calc_work_29 q_Calc_work_39 q_Calc_work_50 q_Calc_work_60
  rw [if_neg (show ¬ nI a < (0 : Int32) from Int32.not_lt.mpr (nI_pos' (by omega))), hz, if_neg (nI_ge ha (by omega)), gd_nI (by omega) (by omega), gd_nI (by omega) (by omega), nI_clamp (by omega), hc, c1, c2, if_pos (by decide), if_neg (show ¬ nI m < (0 : Int32) from Int32.not_lt.mpr (nI_pos' (by omega))), tI_1, if_neg (show ¬ (50 : Int32) ≤ nI top from nI_ge (a := top) (b := 50) ht (by decide)), if_neg (by decide), if_pos (by decide), gd_nI ht (by omega), wr_e, nI_clamp (by omega), nI_1, tI_s]
theorem wk_fact (hz : gI g t 1 = nI sz) (ha : a < sz) (h4 : sz ≤ 402) {m : Nat} (hm : m < 1024) (hl : m < iaLen fa) (hl2 : iaLen fa < 2 ^ 31) (hc : gI g (t + 1) a = nI (16 * m + 1)) (ht : top < 50) (F : Nat) : q_Calc_work_4L t fa K1 K2 K3 (F + 1) (tI top) (nI a) g = q_Calc_work_4L t fa K1 K2 K3 F (tI (top + 1)) (nI (a + 1)) (sI g 248 top (gI g fa m)) := by
  obtain ⟨c1, c2, -⟩ := cd_15 m hm 1 (by omega)
  rw [q_Calc_work_4L_s]
  unfold q_Calc_work_4 q_Calc_work_29 q_Calc_work_39 q_Calc_work_50 q_Calc_work_60
  rw [if_neg (show ¬ nI a < (0 : Int32) from Int32.not_lt.mpr (nI_pos' (by omega))), hz, if_neg (nI_ge ha (by omega)), gd_nI (by omega) (by omega), gd_nI (by omega) (by omega), nI_clamp (by omega), hc, c1, c2, if_neg (by decide), if_pos (by decide), if_neg (show ¬ nI m < (0 : Int32) from Int32.not_lt.mpr (nI_pos' (by omega))), tI_1, if_neg (show ¬ (50 : Int32) ≤ nI top from nI_ge (a := top) (b := 50) ht (by decide)), if_pos (by decide), if_pos (show nI m < Int32.ofNat (iaLen fa) from nI_lt' hl hl2), if_pos (show (0 : Int32) = 0 from rfl), if_neg (by decide), gd_nI hl hl2, gd_nI ht (by omega), wr_e, nI_clamp (by omega), nI_clamp (by omega), nI_1, tI_s]
theorem wk_not (hz : gI g t 1 = nI sz) (ha : a < sz) (h4 : sz ≤ 402) (hc : gI g (t + 1) a = nI 10) (ht : top < 50) (F : Nat) : q_Calc_work_4L t fa K1 K2 K3 (F + 1) (tI (top + 1)) (nI a) g = q_Calc_work_4L t fa K1 K2 K3 F (tI (top + 1)) (nI (a + 1)) (sI g 248 top (1 - gI g 248 top)) := by
  have c1 := wk_and 10 (by omega)
  rw [q_Calc_work_4L_s]
  unfold q_Calc_work_4
  rw [tI_s, if_neg (Int32.not_lt.mpr (nI_pos' (by omega))), hz, if_neg (nI_ge ha (by omega)), gd_nI (by omega) (by omega), gd_nI (by omega) (by omega), nI_clamp (show a < 2 ^ 31 by omega), hc, c1, if_neg (by decide), if_neg (by decide), if_pos (nI_pos' (by omega)), if_neg (by decide), if_pos (by decide), gd_nI ht (by omega), gd_nI ht (by omega), wr_e, nI_clamp (by omega), nI_1]
theorem wk_jmp (hz : gI g t 1 = nI sz) (ha : a < sz) (h4 : sz ≤ 402) {m s : Nat} (hm : a < m) (hm4 : m ≤ 402) (hs : s = 11 ∨ s = 12) (hc : gI g (t + 1) a = nI (16 * m + s)) (ht : top < 50) (F : Nat) : q_Calc_work_4L t fa K1 K2 K3 (F + 1) (tI (top + 1)) (nI a) g = if gI g 248 top = (if s = 11 then 1 else 0) then q_Calc_work_4L t fa K1 K2 K3 F (tI (top + 1)) (nI m) g else q_Calc_work_4L t fa K1 K2 K3 F (tI top) (nI (a + 1)) g := by
  obtain ⟨c1, c2, -⟩ := cd_15 m (by omega) s (by omega)
  have e1 : imax (nI a) (nI m - 1) + 1 = nI m := by
    rw [show nI m - (1 : Int32) = nI (m - 1) from nI_sub (b := 1) (by omega)]
    unfold imax
    rw [nI_lt_if (by omega) (by omega), nI_if, nI_1]
    congr 1
    split <;> omega
  rw [q_Calc_work_4L_s]
  unfold q_Calc_work_4 q_Calc_work_94 q_Calc_work_104
  rw [tI_s, if_neg (Int32.not_lt.mpr (nI_pos' (by omega))), hz, if_neg (nI_ge ha (by omega)), gd_nI (by omega) (by omega), gd_nI (by omega) (by omega), nI_clamp (show a < 2 ^ 31 by omega), hc, c1, c2]
  rcases hs with rfl | rfl
  · rw [if_neg (by decide), if_neg (by decide), if_pos (nI_pos' (by omega)), if_neg (by decide), if_neg (by decide), if_pos (by decide), gd_nI ht (by omega), nI_clamp (by omega), if_pos (show nI 11 = 11 from rfl), if_pos (show 11 = 11 from rfl), e1, nI_1, tI_d]
  · rw [if_neg (by decide), if_neg (by decide), if_pos (nI_pos' (by omega)), if_neg (by decide), if_neg (by decide), if_neg (by decide), if_pos (by decide), gd_nI ht (by omega), nI_clamp (by omega), if_neg (show ¬ nI 12 = 11 by decide), if_neg (show ¬ 12 = 11 by decide), e1, nI_1, tI_d]
theorem wk_op (hz : gI g t 1 = nI sz) (ha : a < sz) (h4 : sz ≤ 402) {s : Nat} (hs : 2 ≤ s ∧ s ≤ 9) (hc : gI g (t + 1) a = nI s) (ht : top + 1 < 50) (F : Nat) : q_Calc_work_4L t fa K1 K2 K3 (F + 1) (tI (top + 2)) (nI a) g = match jnF s (gI g 248 top) (gI g 248 (top + 1)) with
    | some v => q_Calc_work_4L t fa K1 K2 K3 F (tI (top + 1)) (nI (a + 1)) (sI g 248 top v)
    | none => some (BRK, sI g 248 top BRK) := by
  have c1 := wk_and s (by omega)
  have d : ∀ k, k < 16 → (k = 0 ∨ k = 1 ∨ 10 ≤ k) → ¬ nI s = nI k := fun k hk hh => nI_dif (by omega) (by omega) (by omega)
  rw [q_Calc_work_4L_s]
  unfold q_Calc_work_4
  rw [show top + 2 = top + 1 + 1 from rfl, tI_s, if_neg (Int32.not_lt.mpr (nI_pos' (by omega))), hz, if_neg (nI_ge ha (by omega)), gd_nI (by omega) (by omega), gd_nI (by omega) (by omega), nI_clamp (show a < 2 ^ 31 by omega), hc, c1, if_neg (show ¬ nI s = (0 : Int32) from d 0 (by omega) (by omega)), if_neg (show ¬ nI s = (1 : Int32) from d 1 (by omega) (by omega)), if_pos (nI_pos' (by omega)), if_neg (show ¬ nI s = (13 : Int32) from d 13 (by omega) (by omega)), if_neg (show ¬ nI s = (10 : Int32) from d 10 (by omega) (by omega)), if_neg (show ¬ nI s = (11 : Int32) from d 11 (by omega) (by omega)), if_neg (show ¬ nI s = (12 : Int32) from d 12 (by omega) (by omega)), if_pos (show (1 : Int32) ≤ nI (top + 1) from nI_le (a := 1) (by omega) (by omega)), nI_back, nI_1, gd_nI (by omega) (by omega), gd_nI (by omega) (by omega), nI_clamp (by omega), nI_clamp (by omega), joined_c hs, bnd_s, gd_nI (by omega) (by omega), wr_e, gd_nI (by omega) (by omega), rd_s, tI_s]
  cases q : jnF s (gI g 248 top) (gI g 248 (top + 1)) with
  | none => exact if_pos rfl
  | some v =>
    show (if v = BRK then some (BRK, sI g 248 top v) else q_Calc_work_4L t fa K1 K2 K3 F (nI top) (nI a + 1) (sI g 248 top v)) = _
    rw [if_neg (jnF_b q), nI_1]
theorem wk_stop (hz : gI g t 1 = nI sz) (ha : a < sz) (h4 : sz ≤ 402) (hc : gI g (t + 1) a = nI 13) (F : Nat) (ht : top < 50) : q_Calc_work_4L t fa K1 K2 K3 (F + 1) (tI (top + 1)) (nI a) g = K3 (nI top) g := by
  have c1 := wk_and 13 (by omega)
  rw [q_Calc_work_4L_s]
  unfold q_Calc_work_4
  rw [tI_s, if_neg (Int32.not_lt.mpr (nI_pos' (by omega))), hz, if_neg (nI_ge ha (by omega)), gd_nI (by omega) (by omega), gd_nI (by omega) (by omega), nI_clamp (show a < 2 ^ 31 by omega), hc, c1, if_neg (by decide), if_neg (by decide), if_pos (nI_pos' (by omega)), if_pos (by decide)]
end WK
