/-! texts: what a part of the model's code comes to -/
theorem in_64 (x l h : Int64) (g : hG) : q_Mo_in x l h g = some (bI (l ≤ x ∧ x ≤ h), g) := by
  unfold q_Mo_in
  by_cases z : x < l
  · rw [if_pos z, bI_f (fun q => Int64.not_lt.mpr q.1 z)]
  · rw [if_neg z]
    by_cases y : h < x
    · rw [if_pos y, bI_f (fun q => Int64.not_lt.mpr q.2 y)]
    · rw [if_neg y, bI_t ⟨Int64.not_lt.mp z, Int64.not_lt.mp y⟩]
def RDM (lg base : Nat) (o w : Nat → Int32) (a b : Nat) (g : hG) : Prop :=
  (lg = 0 ∧ gI g 367 20 = 0 ∧ gI g 367 34 = nI base ∧ base + 900 ≤ 5468 ∧ ∀ j, a ≤ j → j < b → gI g 369 (base + 98 + 2 * j) = o j ∧ gI g 369 (base + 98 + 2 * j + 1) = w j) ∨
  (lg = 1 ∧ gI g 367 20 = 1 ∧ ∀ j, a ≤ j → j < b → gI g 378 j = o j ∧ gI g 379 j = w j)
def FXM (lg : Nat) (f : Nat → Int32) (g : hG) : Prop :=
  (lg = 0 ∧ ∀ j, j < 7 → gJ g 385 (j + 1) = (f j).toInt64) ∨
  (lg = 1 ∧ (∀ j, j < 5 → gJ g 386 (j + 1) = (f j).toInt64) ∧ (∀ l, l < 8 → gI g 369 (40 + l) = f (5 + l)) ∧ ∀ c, c < 25 → gI g 369 (7 + c) = f (13 + c))
theorem RDM.un {lg base : Nat} {o w : Nat → Int32} {a b a' b' : Nat} {g g' : hG} (h : RDM lg base o w a b g) (u : Un sRk g g') (ha : a ≤ a') (hb : b' ≤ b) : RDM lg base o w a' b' g' := by
  rcases h with ⟨h0, h1, h2, h3, h4⟩ | ⟨h0, h1, h2⟩
  · exact Or.inl ⟨h0, (u.I rfl).trans h1, (u.I rfl).trans h2, h3, fun j x y => ⟨(u.I (by rfl)).trans (h4 j (by omega) (by omega)).1, (u.I (by rfl)).trans (h4 j (by omega) (by omega)).2⟩⟩
  · exact Or.inr ⟨h0, (u.I rfl).trans h1, fun j x y => ⟨(u.I (by rfl)).trans (h2 j (by omega) (by omega)).1, (u.I (by rfl)).trans (h2 j (by omega) (by omega)).2⟩⟩
theorem FXM.un {lg : Nat} {f : Nat → Int32} {g g' : hG} (h : FXM lg f g) (u : Un sRk g g') : FXM lg f g' := by
  rcases h with ⟨h0, h1⟩ | ⟨h0, h1, h2, h3⟩
  · exact Or.inl ⟨h0, fun j hj => (u.J (by rfl)).trans (h1 j hj)⟩
  · exact Or.inr ⟨h0, fun j hj => (u.J (by rfl)).trans (h1 j hj), fun l hl => (u.I (by rfl)).trans (h2 l hl), fun c hc => (u.I (by rfl)).trans (h3 c hc)⟩
section RK
variable {lg base last top a b : Nat} {o w : Nat → Int32} {g : hG} {f : Nat → Int32} {K : Int32 → hG → hO Unit}
/-- a step is read -/
theorem rk_rd (hr : RDM lg base o w a b g) (hb : a < b) (hl : a < last) (h4 : last ≤ 400) (h38 : gI g 367 38 = 0) (top : Nat) (F : Nat) : q_Mo_reckonAll_7L (nI last) K (F + 1) (nI top) (nI a) g = q_Mo_reckonAll_54 (nI top) (nI a) (o a) (q_Mo_reckonAll_7L (nI last) K F) (w a) g := by
  rw [q_Mo_reckonAll_7L_s]
  unfold q_Mo_reckonAll_7 q_Mo_reckonAll_32
  rw [if_neg (nI_ge hl (by omega)), if_pos h38]
  rcases hr with ⟨h0, h1, h2, h3, h5⟩ | ⟨h0, h1, h2⟩
  · obtain ⟨e1, e2⟩ := h5 a (by omega) hb
    have i1 : nI base + (98 : Int32) + (2 : Int32) * nI a = nI (base + 98 + 2 * a) := by
      rw [show (98 : Int32) = nI 98 from rfl, nI_add, show (2 : Int32) = nI 2 from rfl, pk_mul, nI_add]
    rw [if_pos h1, if_pos h1, h2, i1, nI_1, gd_nI (by omega) (by omega), gd_nI (by omega) (by omega), nI_clamp (by omega), nI_clamp (by omega), e1, e2]
  · obtain ⟨e1, e2⟩ := h2 a (by omega) hb
    have n0 : ¬ gI g 367 20 = 0 := by rw [h1]; decide
    rw [if_neg n0, if_neg n0, gd_nI (by omega) (by omega), gd_nI (by omega) (by omega), nI_clamp (by omega), e1, e2]
theorem rk_end (h38 : gI g 367 38 = 1) (x pc : Int32) (F : Nat) : q_Mo_reckonAll_7L (nI last) K (F + 1) x pc g = K x g := by
  rw [q_Mo_reckonAll_7L_s]
  unfold q_Mo_reckonAll_7
  by_cases z : nI last ≤ pc
  · rw [if_pos z]
  · rw [if_neg z, if_neg (by rw [h38]; decide)]
theorem rk_101 (v3 v4 : Int32) (k7 : Int32 → Int32 → hG → hO Unit) (x : Int64) (ht : top < 400) : q_Mo_reckonAll_101 v3 v4 k7 (nI top) x g = k7 (v3 + 1) v4 (sJ g 387 top x) := by
  unfold q_Mo_reckonAll_101
  rw [gd_nI ht (by omega), wr_e, nI_clamp (by omega)]
theorem rk_num (k7 : Int32 → Int32 → hG → hO Unit) (x : Int32) (ht : top < 400) : q_Mo_reckonAll_54 (nI top) (nI a) 0 k7 x g = k7 (nI (top + 1)) (nI (a + 1)) (sJ g 387 top x.toInt64) := by
  unfold q_Mo_reckonAll_54
  rw [if_neg (by decide), if_pos rfl, rk_101 _ _ _ _ ht, nI_1, nI_1]
/-- facts, as both languages write them: word, argument -/
def fcO (lg k : Nat) : Nat := if lg = 0 then k + 1 else if k < 5 then k + 1 else if k < 13 then 6 else 7
def fcW (lg k : Nat) : Nat := if lg = 0 then 0 else if k < 5 then 0 else if k < 13 then k - 5 else k - 13
theorem rk_fact (k7 : Int32 → Int32 → hG → hO Unit) {k : Nat} (hk : (lg = 0 ∧ k < 7) ∨ (lg = 1 ∧ k < 38)) (hx : FXM lg f g) (h20 : gI g 367 20 = nI lg) (x : Int32) (hxx : lg = 1 → 5 ≤ k → x = nI (fcW lg k)) (ht : top < 400) : q_Mo_reckonAll_54 (nI top) (nI a) (nI (fcO lg k)) k7 x g = k7 (nI (top + 1)) (nI (a + 1)) (sJ g 387 top (f k).toInt64) := by
  unfold q_Mo_reckonAll_54
  rcases hk with ⟨rfl, hk⟩ | ⟨rfl, hk⟩
  · rcases hx with ⟨-, h1⟩ | ⟨h0, -⟩
    · have e : fcO 0 k = k + 1 := if_pos rfl
      rw [e, if_neg (show ¬ (20 : Int32) ≤ nI (k + 1) from nI_ge (a := k + 1) (b := 20) (by omega) (by decide)), if_neg (show ¬ nI (k + 1) = (0 : Int32) from nI_dif (b := 0) (by omega) (by omega) (by omega)), if_pos (show gI g 367 20 = 0 from h20), gd_nI (by omega) (by omega), nI_clamp (by omega), h1 k hk, rk_101 _ _ _ _ ht, nI_1, nI_1]
    · omega
  · rcases hx with ⟨h0, -⟩ | ⟨-, h1, h2, h3⟩
    · omega
    · have n0 : ¬ gI g 367 20 = 0 := by rw [h20]; decide
      by_cases k5 : k < 5
      · have e : fcO 1 k = k + 1 := by unfold fcO; rw [if_neg (by omega), if_pos k5]
        rw [e, if_neg (show ¬ (20 : Int32) ≤ nI (k + 1) from nI_ge (a := k + 1) (b := 20) (by omega) (by decide)), if_neg (show ¬ nI (k + 1) = (0 : Int32) from nI_dif (b := 0) (by omega) (by omega) (by omega)), if_neg n0, if_neg (show ¬ (6 : Int32) ≤ nI (k + 1) from nI_ge (a := k + 1) (b := 6) (by omega) (by decide)), gd_nI (by omega) (by omega), nI_clamp (by omega), h1 k k5, rk_101 _ _ _ _ ht, nI_1, nI_1]
      · have ex := hxx rfl (by omega)
        by_cases k13 : k < 13
        · have e : fcO 1 k = 6 := by unfold fcO; rw [if_neg (by omega), if_neg k5, if_pos k13]
          have e2 : fcW 1 k = k - 5 := by unfold fcW; rw [if_neg (by omega), if_neg k5, if_pos k13]
          have e4 : (40 : Int32) + nI (k - 5) = nI (40 + (k - 5)) := nI_add 40 (k - 5)
          rw [e, ex, e2, if_neg (by decide), if_neg (by decide), if_neg n0, if_pos (by decide), if_pos (by decide), e4, gd_nI (by omega) (by omega), nI_clamp (by omega), h2 (k - 5) (by omega), show 5 + (k - 5) = k by omega, rk_101 _ _ _ _ ht, nI_1, nI_1]
        · have e : fcO 1 k = 7 := by unfold fcO; rw [if_neg (by omega), if_neg k5, if_neg k13]
          have e2 : fcW 1 k = k - 13 := by unfold fcW; rw [if_neg (by omega), if_neg k5, if_neg k13]
          have e4 : (7 : Int32) + nI (k - 13) = nI (7 + (k - 13)) := nI_add 7 (k - 13)
          rw [e, ex, e2, if_neg (by decide), if_neg (by decide), if_neg n0, if_pos (by decide), if_neg (by decide), e4, gd_nI (by omega) (by omega), nI_clamp (by omega), h3 (k - 13) (by omega), show 13 + (k - 13) = k by omega, rk_101 _ _ _ _ ht, nI_1, nI_1]
theorem rk_not (k7 : Int32 → Int32 → hG → hO Unit) (x : Int32) (ht : top < 400) : q_Mo_reckonAll_54 (nI (top + 1)) (nI a) (nI 28) k7 x g = k7 (nI (top + 1)) (nI (a + 1)) (sJ g 387 top (1 - gJ g 387 top)) := by
  unfold q_Mo_reckonAll_54
  have e : nI (top + 1) - (1 : Int32) = nI top := nI_sub (b := 1) (by omega)
  rw [if_pos (by decide), if_pos (by decide), if_pos (by decide), e, gd_nI ht (by omega), gd_nI ht (by omega), wr_e, nI_clamp (by omega), nI_1]
theorem rk_jmp (k7 : Int32 → Int32 → hG → hO Unit) (x : Int32) (ht : top < 400) {s : Nat} (hs : s = 29 ∨ s = 30) : q_Mo_reckonAll_54 (nI (top + 1)) (nI a) (nI s) k7 x g = if gJ g 387 top = (if s = 29 then 0 else 1) then k7 (nI (top + 1)) x g else k7 (nI top) (nI (a + 1)) g := by
  unfold q_Mo_reckonAll_54 q_Mo_reckonAll_176
  have e : nI (top + 1) - (1 : Int32) = nI top := nI_sub (b := 1) (by omega)
  rcases hs with rfl | rfl
  · rw [if_pos (by decide), if_pos (by decide), if_neg (by decide), e, gd_nI ht (by omega), nI_clamp (by omega), if_pos (show nI 29 = 29 from rfl), if_pos (show 29 = 29 from rfl), nI_back, nI_1]
  · rw [if_pos (by decide), if_pos (by decide), if_neg (by decide), e, gd_nI ht (by omega), nI_clamp (by omega), if_neg (show ¬ nI 30 = 29 by decide), if_neg (show ¬ 30 = 29 by decide), nI_back, nI_1]
theorem r64 {x : Int64} {v : Int32} (h : v.toInt = x.toInt) : x = v.toInt64 := by
  apply Int64.toInt_inj.mp
  rw [Int32.toInt_toInt64, h]
theorem bnF_i (x : Int64) : match bnF x with
    | some v => x = v.toInt64 ∧ ((-1000000000 : Int64) ≤ x ∧ x ≤ (1000000000 : Int64))
    | none => ¬ ((-1000000000 : Int64) ≤ x ∧ x ≤ (1000000000 : Int64)) := by
  cases q : bnF x with
  | some v =>
    obtain ⟨h1, h2, h3⟩ := bnF_b q
    refine ⟨r64 h1, ?_, ?_⟩
    · rw [Int64.le_iff_toInt_le, show (-1000000000 : Int64).toInt = -1000000000 from rfl]; exact h2
    · rw [Int64.le_iff_toInt_le, show (1000000000 : Int64).toInt = 1000000000 from rfl]; exact h3
  | none =>
    rintro ⟨h1, h2⟩
    unfold bnF at q
    rw [if_neg (Int64.not_lt.mpr h2), if_pos h1] at q
    cases q
theorem jn2 (l r : Int32) : jnF 2 l r = bnF (l.toInt64 + r.toInt64) := by
  unfold jnF
  rw [if_neg (show ¬ ((2 = 5 ∨ 2 = 6) ∧ r = 0) by omega), if_pos (show 2 = 2 from rfl)]
theorem jn3 (l r : Int32) : jnF 3 l r = bnF (l.toInt64 - r.toInt64) := by
  unfold jnF
  rw [if_neg (show ¬ ((3 = 5 ∨ 3 = 6) ∧ r = 0) by omega), if_neg (show ¬ 3 = 2 by decide), if_pos (show 3 = 3 from rfl)]
theorem jn4 (l r : Int32) : jnF 4 l r = bnF (l.toInt64 * r.toInt64) := by
  unfold jnF
  rw [if_neg (show ¬ ((4 = 5 ∨ 4 = 6) ∧ r = 0) by omega), if_neg (show ¬ 4 = 2 by decide), if_neg (show ¬ 4 = 3 by decide), if_pos (show 4 = 4 from rfl)]
theorem jn5 (l r : Int32) : jnF 5 l r = if r = 0 then none else bnF (l.toInt64 / r.toInt64) := by
  unfold jnF
  by_cases z : r = 0
  · rw [if_pos z, if_pos ⟨by omega, z⟩]
  · rw [if_neg z, if_neg (fun q => z q.2), if_neg (show ¬ 5 = 2 by decide), if_neg (show ¬ 5 = 3 by decide), if_neg (show ¬ 5 = 4 by decide), if_pos (show 5 = 5 from rfl)]
theorem jn6 (l r : Int32) : jnF 6 l r = if r = 0 then none else bnF (lrem l.toInt64 r.toInt64) := by
  unfold jnF
  by_cases z : r = 0
  · rw [if_pos z, if_pos ⟨by omega, z⟩]
  · rw [if_neg z, if_neg (fun q => z q.2), if_neg (show ¬ 6 = 2 by decide), if_neg (show ¬ 6 = 3 by decide), if_neg (show ¬ 6 = 4 by decide), if_neg (show ¬ 6 = 5 by decide), if_pos (show 6 = 6 from rfl)]
theorem bnF_m (x : Int64) (h38 : gI g 367 38 = 0) : match bnF x with
    | some v => gI g 367 38 = 0 ∧ x = v.toInt64 ∧ ((-1000000000 : Int64) ≤ x ∧ x ≤ (1000000000 : Int64))
    | none => gI g 367 38 = 1 ∨ (gI g 367 38 = 0 ∧ ¬ ((-1000000000 : Int64) ≤ x ∧ x ≤ (1000000000 : Int64))) := by
  have := bnF_i x
  cases q : bnF x with
  | some v => rw [q] at this; exact ⟨h38, this⟩
  | none => rw [q] at this; exact Or.inr ⟨h38, this⟩
theorem le64 (l r : Int32) : l.toInt64 ≤ r.toInt64 ↔ l ≤ r := by
  rw [Int64.le_iff_toInt_le, Int32.le_iff_toInt_le, Int32.toInt_toInt64, Int32.toInt_toInt64]
theorem eq64 (l r : Int32) : l.toInt64 = r.toInt64 ↔ l = r := by
  refine ⟨fun q => ?_, fun q => by rw [q]⟩
  apply Int32.toInt_inj.mp
  rw [← Int32.toInt_toInt64, ← Int32.toInt_toInt64 r, q]
/-- the model reckons as the class joins -/
theorem reckon_m {s : Nat} (hs : 2 ≤ s ∧ s ≤ 9) (l r : Int32) (h38 : gI g 367 38 = 0) : ∃ x g', q_Mo_reckon (nI (18 + s)) l.toInt64 r.toInt64 g = some (x, g') ∧ Un sRk g g' ∧ (∀ i, gJ g' 387 i = gJ g 387 i) ∧ match jnF s l r with
    | some v => gI g' 367 38 = 0 ∧ x = v.toInt64 ∧ ((-1000000000 : Int64) ≤ x ∧ x ≤ (1000000000 : Int64))
    | none => gI g' 367 38 = 1 ∨ (gI g' 367 38 = 0 ∧ ¬ ((-1000000000 : Int64) ≤ x ∧ x ≤ (1000000000 : Int64))) := by
  have e : s = 2 ∨ s = 3 ∨ s = 4 ∨ s = 5 ∨ s = 6 ∨ s = 7 ∨ s = 8 ∨ s = 9 := by omega
  have w1 : (0 : Int64) = (0 : Int32).toInt64 := by decide
  have u38 : ∀ v, Un sRk g (sI g 367 38 v) := fun v => Un.rf.sI rfl _
  have b01 : ∀ v : Int32, v = 0 ∨ v = 1 → ((-1000000000 : Int64) ≤ v.toInt64 ∧ v.toInt64 ≤ (1000000000 : Int64)) := fun v hv => by
    rcases hv with rfl | rfl <;> exact ⟨by decide, by decide⟩
  unfold q_Mo_reckon
  rcases e with rfl | rfl | rfl | rfl | rfl | rfl | rfl | rfl
  · rw [if_pos (by decide), jn2]
    exact ⟨_, g, rfl, Un.rf, fun _ => rfl, bnF_m _ h38⟩
  · rw [if_neg (by decide), if_pos (by decide), jn3]
    exact ⟨_, g, rfl, Un.rf, fun _ => rfl, bnF_m _ h38⟩
  · rw [if_neg (by decide), if_neg (by decide), if_pos (by decide), jn4]
    exact ⟨_, g, rfl, Un.rf, fun _ => rfl, bnF_m _ h38⟩
  · rw [if_neg (by decide), if_neg (by decide), if_neg (by decide), if_pos (by decide), jn5]
    unfold q_Mo_reckon_22
    by_cases z : r = 0
    · rw [if_pos z, if_pos (by rw [z]; rfl), gb_1, wr_e, rd_s, if_neg (by decide)]
      exact ⟨_, _, rfl, u38 1, fun _ => rfl, Or.inl rd_s⟩
    · rw [if_neg z, if_neg (z64 z), gb_0, wr_e, rd_s, if_pos rfl]
      unfold gzL
      rw [if_neg (z64 z)]
      exact ⟨_, _, rfl, u38 0, fun _ => rfl, bnF_m _ rd_s⟩
  · rw [if_neg (by decide), if_neg (by decide), if_neg (by decide), if_neg (by decide), if_pos (by decide), jn6]
    unfold q_Mo_reckon_40
    by_cases z : r = 0
    · rw [if_pos z, if_pos (by rw [z]; rfl), gb_1, wr_e, rd_s, if_neg (by decide)]
      exact ⟨_, _, rfl, u38 1, fun _ => rfl, Or.inl rd_s⟩
    · rw [if_neg z, if_neg (z64 z), gb_0, wr_e, rd_s, if_pos rfl]
      unfold gzL
      rw [if_neg (z64 z)]
      exact ⟨_, _, rfl, u38 0, fun _ => rfl, bnF_m _ rd_s⟩
  · rw [if_neg (by decide), if_neg (by decide), if_neg (by decide), if_neg (by decide), if_neg (by decide), if_pos (by decide), jn7]
    by_cases z : r ≤ l
    · rw [if_pos ((le64 r l).mpr z), if_pos z]
      exact ⟨_, g, rfl, Un.rf, fun _ => rfl, h38, w1, b01 0 (Or.inl rfl)⟩
    · rw [if_neg (fun q => z ((le64 r l).mp q)), if_neg z]
      exact ⟨_, g, rfl, Un.rf, fun _ => rfl, h38, by decide, b01 1 (Or.inr rfl)⟩
  · rw [if_neg (by decide), if_neg (by decide), if_neg (by decide), if_neg (by decide), if_neg (by decide), if_neg (by decide), if_pos (by decide), jn8]
    by_cases z : l ≤ r
    · rw [if_pos ((le64 l r).mpr z), if_pos z]
      exact ⟨_, g, rfl, Un.rf, fun _ => rfl, h38, w1, b01 0 (Or.inl rfl)⟩
    · rw [if_neg (fun q => z ((le64 l r).mp q)), if_neg z]
      exact ⟨_, g, rfl, Un.rf, fun _ => rfl, h38, by decide, b01 1 (Or.inr rfl)⟩
  · rw [if_neg (by decide), if_neg (by decide), if_neg (by decide), if_neg (by decide), if_neg (by decide), if_neg (by decide), if_neg (by decide), jn9]
    by_cases z : l = r
    · rw [if_pos ((eq64 l r).mpr z), if_pos z]
      exact ⟨_, g, rfl, Un.rf, fun _ => rfl, h38, by decide, b01 1 (Or.inr rfl)⟩
    · rw [if_neg (fun q => z ((eq64 l r).mp q)), if_neg z]
      exact ⟨_, g, rfl, Un.rf, fun _ => rfl, h38, w1, b01 0 (Or.inl rfl)⟩
theorem rk_op (ht : top + 1 < 400) {s : Nat} (hs : 2 ≤ s ∧ s ≤ 9) {l r : Int32} (hl : gJ g 387 top = l.toInt64) (hr : gJ g 387 (top + 1) = r.toInt64) (h38 : gI g 367 38 = 0) : ∃ g', (∀ (k7 : Int32 → Int32 → hG → hO Unit) (a : Nat) (x : Int32), q_Mo_reckonAll_54 (nI (top + 2)) (nI a) (nI (18 + s)) k7 x g = k7 (nI (top + 1)) (nI (a + 1)) g') ∧ Un sRk g g' ∧ (∀ i, i < top → gJ g' 387 i = gJ g 387 i) ∧ match jnF s l r with
    | some v => gI g' 367 38 = 0 ∧ gJ g' 387 top = v.toInt64
    | none => gI g' 367 38 = 1 := by
  obtain ⟨y, g1, e1, e2, e3, e4⟩ := reckon_m (g := g) hs l r h38
  have d20 : (20 : Int32) ≤ nI (18 + s) := nI_le (a := 20) (by omega) (by omega)
  have d28 : ¬ (28 : Int32) ≤ nI (18 + s) := nI_ge (a := 18 + s) (b := 28) (by omega) (by decide)
  have t1 : nI (top + 2) + (-1 : Int32) = nI (top + 1) := nI_back
  have t2 : nI (top + 1) - (1 : Int32) = nI top := nI_sub (b := 1) (by omega)
  have u2 : Un sRk g (sJ g1 387 top y) := e2.sJ rfl _
  have p2 : ∀ i, i < top → gJ (sJ g1 387 top y) 387 i = gJ g 387 i := fun i hi => by rw [gJ_sJ, if_neg (by omega), e3 i]
  have s2 : gJ (sJ g1 387 top y) 387 top = y := by rw [gJ_sJ, if_pos ⟨rfl, rfl⟩]
  have hd : ∀ (k7 : Int32 → Int32 → hG → hO Unit) (a : Nat) (x : Int32), q_Mo_reckonAll_54 (nI (top + 2)) (nI a) (nI (18 + s)) k7 x g = if gI g1 367 38 = 0 then q_Mo_reckonAll_144 (nI (top + 1)) (nI (a + 1)) k7 (if bI ((-1000000000 : Int64) ≤ y ∧ y ≤ (1000000000 : Int64)) = 0 then 1 else 0) (sJ g1 387 top y) else q_Mo_reckonAll_144 (nI (top + 1)) (nI (a + 1)) k7 1 (sJ g1 387 top y) := fun k7 a x => by
    unfold q_Mo_reckonAll_54
    rw [if_pos d20, if_neg d28, t1, t2, gd_nI (by omega) (by omega), gd_nI (by omega) (by omega), nI_clamp (by omega), nI_clamp (by omega), hl, hr, e1, bnd_s, gd_nI (by omega) (by omega), wr_e, gI_sJ, nI_1, gd_nI (by omega) (by omega), s2, in_64, bnd_s]
  cases q : jnF s l r with
  | some v =>
    rw [q] at e4
    obtain ⟨f1, f2, f3⟩ := e4
    refine ⟨sI (sJ g1 387 top y) 367 38 0, fun k7 a x => ?_, u2.sI rfl _, fun i hi => p2 i hi, rd_s, ?_⟩
    · rw [hd, if_pos f1, bI_t f3, if_neg (by decide)]
      unfold q_Mo_reckonAll_144
      rw [gb_0, wr_e]
    · rw [gJ_sI, s2, f2]
  | none =>
    rw [q] at e4
    refine ⟨sI (sJ g1 387 top y) 367 38 1, fun k7 a x => ?_, u2.sI rfl _, fun i hi => p2 i hi, rd_s⟩
    rw [hd]
    unfold q_Mo_reckonAll_144
    rcases e4 with f1 | ⟨f1, f3⟩
    · rw [if_neg (by rw [f1]; decide), gb_1, wr_e]
    · rw [if_pos f1, bI_f f3, if_pos rfl, gb_1, wr_e]
end RK
