/-! the acts of the class and of the model -/
def rfF (r : Nat → Int32) (k : Nat) (a b : Int32) : Int32 :=
  if k = 0 then (if isL8 a ∧ isC b then (if r (28 + a.toNatClampNeg) = 0 then 0 else -3) else -1)
  else if k = 1 then (if isC a ∧ 0 ≤ b ∧ b ≤ 9 then (if r (3 + a.toNatClampNeg) = b then -3 else 0) else -1)
  else if k = 2 then (if isL8 a ∧ 0 ≤ b ∧ b ≤ 3 then (if r (28 + a.toNatClampNeg) = 1 then (if bsF (r (36 + a.toNatClampNeg)) b = -1 then -3 else 0) else -3) else -1)
  else (if 999 ≤ r 0 then -3 else 0)
def nxF (r : Nat → Int32) (k : Nat) (a b : Int32) : Nat → Int32 :=
  if k = 0 then upR (upR r (28 + a.toNatClampNeg) 1) (36 + a.toNatClampNeg) b
  else if k = 1 then upR r (3 + a.toNatClampNeg) b
  else upR r (36 + a.toNatClampNeg) (bsF (r (36 + a.toNatClampNeg)) b)
def reF (r : Nat → Int32) (k : Nat) (a b : Int32) : Int32 :=
  if k = 0 then onesF (loF (nxF r 0 a b) b)
  else if k = 1 then r (3 + a.toNatClampNeg)
  else bsF (r (36 + a.toNatClampNeg)) b
theorem rfF_0 (r : Nat → Int32) (a b : Int32) : rfF r 0 a b = if isL8 a ∧ isC b then (if r (28 + a.toNatClampNeg) = 0 then 0 else -3) else -1 := if_pos rfl
theorem rfF_1 (r : Nat → Int32) (a b : Int32) : rfF r 1 a b = if isC a ∧ 0 ≤ b ∧ b ≤ 9 then (if r (3 + a.toNatClampNeg) = b then -3 else 0) else -1 := (if_neg (by decide)).trans (if_pos rfl)
theorem rfF_2 (r : Nat → Int32) (a b : Int32) : rfF r 2 a b = if isL8 a ∧ 0 ≤ b ∧ b ≤ 3 then (if r (28 + a.toNatClampNeg) = 1 then (if bsF (r (36 + a.toNatClampNeg)) b = -1 then -3 else 0) else -3) else -1 := (if_neg (by decide)).trans ((if_neg (by decide)).trans (if_pos rfl))
theorem rfF_3 (r : Nat → Int32) (a b : Int32) : rfF r 3 a b = if 999 ≤ r 0 then -3 else 0 := (if_neg (by decide)).trans ((if_neg (by decide)).trans (if_neg (by decide)))
theorem nxF_0 (r : Nat → Int32) (a b : Int32) : nxF r 0 a b = upR (upR r (28 + a.toNatClampNeg) 1) (36 + a.toNatClampNeg) b := if_pos rfl
theorem nxF_1 (r : Nat → Int32) (a b : Int32) : nxF r 1 a b = upR r (3 + a.toNatClampNeg) b := (if_neg (by decide)).trans (if_pos rfl)
theorem nxF_2 (r : Nat → Int32) (a b : Int32) : nxF r 2 a b = upR r (36 + a.toNatClampNeg) (bsF (r (36 + a.toNatClampNeg)) b) := (if_neg (by decide)).trans (if_neg (by decide))
theorem reF_0 (r : Nat → Int32) (a b : Int32) : reF r 0 a b = onesF (loF (nxF r 0 a b) b) := if_pos rfl
theorem reF_1 (r : Nat → Int32) (a b : Int32) : reF r 1 a b = r (3 + a.toNatClampNeg) := (if_neg (by decide)).trans (if_pos rfl)
theorem reF_2 (r : Nat → Int32) (a b : Int32) : reF r 2 a b = bsF (r (36 + a.toNatClampNeg)) b := (if_neg (by decide)).trans (if_neg (by decide))
theorem rf_cases (r : Nat → Int32) (k : Nat) (a b : Int32) : rfF r k a b = 0 ∨ rfF r k a b = -1 ∨ rfF r k a b = -3 := by
  unfold rfF
  repeat' split
  all_goals simp
theorem ref_c {g : hG} {m : Nat} {r : Nat → Int32} (h : MomR g m r) (k : Nat) (hk : k < 4) (a b : Int32) : q_Mom_refusalOf m (nI k) a b g = some (rfF r k a b, g) := by
  have : k = 0 ∨ k = 1 ∨ k = 2 ∨ k = 3 := by omega
  unfold q_Mom_refusalOf
  rcases this with rfl | rfl | rfl | rfl
  · rw [if_pos (by decide), isLet_c, bnd_s]
    rw [rfF_0]
    by_cases h1 : isL8 a
    · rw [bI_t h1, if_neg (by decide), isCell_c, bnd_s]
      by_cases h2 : isC b
      · obtain ⟨n, hn, rfl⟩ := isL_n h1
        rw [bI_t h2, if_neg (by decide), if_pos (show isL8 _ ∧ isC _ from ⟨h1, h2⟩), gd_nI hn (by omega), nI_clamp (by omega), h.2.2.1 n hn]
        split <;> rfl
      · rw [bI_f h2, if_pos rfl, if_neg (show ¬ (_ ∧ isC b) from fun q => h2 q.2)]
    · rw [bI_f h1, if_pos rfl, if_neg (show ¬ (isL8 a ∧ _) from fun q => h1 q.1)]
  · rw [if_neg (by decide), if_pos (by decide), isCell_c, bnd_s]
    rw [rfF_1]
    by_cases h1 : isC a
    · rw [bI_t h1, if_neg (by decide)]
      by_cases h2 : b < 0
      · rw [if_pos h2, if_neg (show ¬ (_ ∧ (0 : Int32) ≤ b ∧ _) by intro q; have := q.2.1; grind)]
      · rw [if_neg h2]
        by_cases h3 : b ≤ 9
        · obtain ⟨n, hn, rfl⟩ := isC_n h1
          rw [if_pos h3, gd_nI hn (by omega), nI_clamp (by omega), h.2.1 n hn, if_pos (show isC _ ∧ (0 : Int32) ≤ b ∧ b ≤ 9 from ⟨h1, by grind, h3⟩)]
          split <;> rfl
        · rw [if_neg h3, if_neg (show ¬ (_ ∧ _ ∧ b ≤ (9 : Int32)) from fun q => h3 q.2.2)]
    · rw [bI_f h1, if_pos rfl, if_neg (show ¬ (isC a ∧ _) from fun q => h1 q.1)]
  · rw [if_neg (by decide), if_neg (by decide), if_pos (by decide), isLet_c, bnd_s]
    rw [rfF_2]
    by_cases h1 : isL8 a
    · rw [bI_t h1, if_neg (by decide)]
      by_cases h2 : b < 0
      · rw [if_pos h2, if_neg (show ¬ (_ ∧ (0 : Int32) ≤ b ∧ _) by intro q; have := q.2.1; grind)]
      · rw [if_neg h2]
        by_cases h3 : b < 4
        · obtain ⟨n, hn, rfl⟩ := isL_n h1
          rw [if_pos h3, gd_nI hn (by omega), nI_clamp (by omega), h.2.2.1 n hn, if_pos (show isL8 _ ∧ (0 : Int32) ≤ b ∧ b ≤ 3 from ⟨h1, by grind, by grind⟩)]
          split
          · rw [gd_nI hn (by omega), bs_c, bnd_s, h.2.2.2.1 n hn]
            split <;> rfl
          · rfl
        · rw [if_neg h3, if_neg (show ¬ (_ ∧ _ ∧ b ≤ (3 : Int32)) by intro q; have := q.2.2; grind)]
    · rw [bI_f h1, if_pos rfl, if_neg (show ¬ (isL8 a ∧ _) from fun q => h1 q.1)]
  · rw [if_neg (by decide), if_neg (by decide), if_neg (by decide), h.1]
    rw [rfF_3]
    split <;> rfl
/-- one field of a moment's letters, cells is written -/
theorem MomR.sp {g : hG} {a : Nat} {r : Nat → Int32} (h : MomR g a r) (j k : Nat) (v : Int32) (hj : (j = 1 ∧ k < 8) ∨ (j = 2 ∧ k < 8) ∨ (j = 3 ∧ k < 8) ∨ (j = 4 ∧ k < 25)) : MomR (sI g (a + j) k v) a (upR r ((if j = 1 then 28 else if j = 2 then 36 else if j = 3 then 44 else 3) + k) v) := by
  obtain ⟨h1, h2, h3, h4, h5⟩ := h
  rcases hj with ⟨rfl, hk⟩ | ⟨rfl, hk⟩ | ⟨rfl, hk⟩ | ⟨rfl, hk⟩
  · refine ⟨by rw [rd_a (by omega), upR_n _ _ (by simp; omega), h1], fun c hc => by rw [rd_a (by omega), upR_n _ _ (by simp; omega), h2 c hc], fun l hl => ?_, fun l hl => by rw [rd_a (by omega), upR_n _ _ (by simp; omega), h4 l hl], fun l hl => by rw [rd_a (by omega), upR_n _ _ (by simp; omega), h5 l hl]⟩
    by_cases z : l = k
    · subst z; rw [rd_s]; exact (upR_s _ _ _).symm
    · rw [rd_k z, upR_n _ _ (by simp; omega), h3 l hl]
  · refine ⟨by rw [rd_a (by omega), upR_n _ _ (by simp; omega), h1], fun c hc => by rw [rd_a (by omega), upR_n _ _ (by simp; omega), h2 c hc], fun l hl => by rw [rd_a (by omega), upR_n _ _ (by simp; omega), h3 l hl], fun l hl => ?_, fun l hl => by rw [rd_a (by omega), upR_n _ _ (by simp; omega), h5 l hl]⟩
    by_cases z : l = k
    · subst z; rw [rd_s]; exact (upR_s _ _ _).symm
    · rw [rd_k z, upR_n _ _ (by simp; omega), h4 l hl]
  · refine ⟨by rw [rd_a (by omega), upR_n _ _ (by simp; omega), h1], fun c hc => by rw [rd_a (by omega), upR_n _ _ (by simp; omega), h2 c hc], fun l hl => by rw [rd_a (by omega), upR_n _ _ (by simp; omega), h3 l hl], fun l hl => by rw [rd_a (by omega), upR_n _ _ (by simp; omega), h4 l hl], fun l hl => ?_⟩
    by_cases z : l = k
    · subst z; rw [rd_s]; exact (upR_s _ _ _).symm
    · rw [rd_k z, upR_n _ _ (by simp; omega), h5 l hl]
  · refine ⟨by rw [rd_a (by omega), upR_n _ _ (by simp; omega), h1], fun c hc => ?_, fun l hl => by rw [rd_a (by omega), upR_n _ _ (by simp; omega), h3 l hl], fun l hl => by rw [rd_a (by omega), upR_n _ _ (by simp; omega), h4 l hl], fun l hl => by rw [rd_a (by omega), upR_n _ _ (by simp; omega), h5 l hl]⟩
    by_cases z : c = k
    · subst z; rw [rd_s]; exact (upR_s _ _ _).symm
    · rw [rd_k z, upR_n _ _ (by simp; omega), h2 c hc]
theorem MomM.sp {g : hG} {r : Nat → Int32} (h : MomM g r) (k : Nat) (v : Int32) : MomM (sI g 369 (4 + k) v) (upR r k v) := fun i hi => by
  by_cases z : i = k
  · subst z; rw [rd_s, upR_s]
  · rw [rd_k (by omega), upR_n _ _ z]; exact h i hi
/-- what the class's act changes of a moment -/
theorem chg_c {g : hG} {m : Nat} {r : Nat → Int32} (h : MomR g m r) (k : Nat) (hk : k < 3) (a b : Int32) (h0 : rfF r k a b = 0) : ∃ g', q_Mom_change m (nI k) a b g = some (reF r k a b, g') ∧ (∀ x y, ¬ (m ≤ x ∧ x ≤ m + 4) → gI g' x y = gI g x y) ∧ MomR g' m (nxF r k a b) ∧ gJ g' = gJ g ∧ gP g' = gP g := by
  have : k = 0 ∨ k = 1 ∨ k = 2 := by omega
  unfold q_Mom_change
  rcases this with rfl | rfl | rfl
  · rw [rfF_0] at h0
    by_cases h1 : isL8 a ∧ isC b
    · obtain ⟨n, hn, rfl⟩ := isL_n h1.1
      have m1 := (h.sp 1 n 1 (Or.inl ⟨rfl, hn⟩)).sp 2 n b (Or.inr (Or.inl ⟨rfl, hn⟩))
      rw [if_pos (by decide), gd_nI hn (by omega), wr_e, gd_nI hn (by omega), wr_e, nI_clamp (by omega)]
      simp only [show ¬ (2 : Nat) = 1 by decide, if_true, if_false] at m1
      rw [lo_c m1, bnd_s, bc_e, bnd_s]
      have en : nxF r 0 (nI n) b = upR (upR r (28 + n) 1) (36 + n) b := by rw [nxF_0, nI_clamp (by omega)]
      refine ⟨sI (sI g (m + 1) n 1) (m + 2) n b, ?_, fun x y hx => ?_, by rw [en]; exact m1, rfl, rfl⟩
      · obtain ⟨q, hq, e⟩ := loF_8 (upR (upR r (28 + n) 1) (36 + n) b) b
        rw [reF_0, en, e, (bc_8 q hq).1]
      · rw [rd_a (by omega), rd_a (by omega)]
    · rw [if_neg h1] at h0; exact absurd h0 (by decide)
  · rw [rfF_1] at h0
    by_cases h1 : isC a ∧ 0 ≤ b ∧ b ≤ 9
    · obtain ⟨n, hn, rfl⟩ := isC_n h1.1
      have m1 := h.sp 4 n b (Or.inr (Or.inr (Or.inr ⟨rfl, hn⟩)))
      simp only [show ¬ (4 : Nat) = 1 by decide, show ¬ (4 : Nat) = 2 by decide, show ¬ (4 : Nat) = 3 by decide, if_false] at m1
      rw [if_neg (by decide), if_pos (by decide), gd_nI hn (by omega), gd_nI hn (by omega), wr_e, nI_clamp (by omega), h.2.1 n hn]
      refine ⟨sI g (m + 4) n b, by rw [reF_1, nI_clamp (by omega)], fun x y hx => by rw [rd_a (by omega)], ?_, rfl, rfl⟩
      rw [nxF_1, nI_clamp (by omega)]
      exact m1
    · rw [if_neg h1] at h0; exact absurd h0 (by decide)
  · rw [rfF_2] at h0
    by_cases h1 : isL8 a ∧ 0 ≤ b ∧ b ≤ 3
    · obtain ⟨n, hn, rfl⟩ := isL_n h1.1
      have m1 := h.sp 2 n (bsF (r (36 + n)) b) (Or.inr (Or.inl ⟨rfl, hn⟩))
      simp only [show ¬ (2 : Nat) = 1 by decide, if_true, if_false] at m1
      rw [if_neg (by decide), if_neg (by decide), if_pos (by decide), gd_nI hn (by omega), bs_c, bnd_s, gd_nI hn (by omega), wr_e, gd_nI hn (by omega), nI_clamp (by omega), rd_s, h.2.2.2.1 n hn]
      refine ⟨sI g (m + 2) n (bsF (r (36 + n)) b), by rw [reF_2, nI_clamp (by omega)], fun x y hx => by rw [rd_a (by omega)], ?_, rfl, rfl⟩
      rw [nxF_2, nI_clamp (by omega)]
      exact m1
    · rw [if_neg h1] at h0; exact absurd h0 (by decide)
/-- spill(), raise(), split() as the class tries them -/
theorem att_no {g : hG} {r : Nat → Int32} (h : MomR g 2 r) (k : Nat) (hk : k < 4) (a b : Int32) (h0 : ¬ rfF r k a b = 0) : q_MP_attempt (nI k) a b g = some (rfF r k a b, g) := by
  unfold q_MP_attempt
  rw [ref_c h k hk, bnd_s, if_neg h0]
theorem att_c {g : hG} {r : Nat → Int32} (h : MomR g 2 r) (k : Nat) (hk : k < 3) (a b : Int32) (h0 : rfF r k a b = 0) {p n : Nat} (h3 : gI g 54 3 = nI p) (h2 : gI g 54 2 = nI n) (hp : p < 16) (hn : n ≤ 16) : ∃ g', q_MP_attempt (nI k) a b g = some (reF r k a b, g') ∧ (∀ x y, ¬ (2 ≤ x ∧ x ≤ 6) → ¬ (54 ≤ x ∧ x ≤ 136) → gI g' x y = gI g x y) ∧ MomR g' 2 (nxF r k a b) ∧ KeepS (nI k) g g' ∧ gJ g' = gJ g ∧ gP g' = gP g := by
  obtain ⟨ga, a1, a2, a3, a4, a5⟩ := keep_e (nI k) g p n h3 h2 hp hn
  have hm : MomR ga 2 r := h.ex (fun j y hj => a2 _ _ (by omega)) (fun _ _ _ _ => rfl)
  obtain ⟨gb, b1, b2, b3, b4, b5⟩ := chg_c hm k hk a b h0
  refine ⟨gb, ?_, fun x y h1 h2 => (b2 x y (by omega)).trans (a2 x y h2), b3, a3.ag (fun x y q => b2 x y ?_), b4.trans a4, b5.trans a5⟩
  · unfold q_MP_attempt
    rw [ref_c h k (by omega), bnd_s, if_pos h0, a1, bnd_s, if_neg (by rw [show (3 : Int32) = nI 3 from rfl, nI_eq (by omega) (by omega)]; omega), b1, bnd_s]
  · simp only [suPc, Bool.and_eq_true, Nat.ble_eq] at q; omega
/-- the model's acts -/
def q_act (k : Nat) (a b : Int32) (g : hG) : hO Int32 := if k = 0 then q_Mo_spillNow a b g else if k = 1 then q_Mo_raiseNow a b g else q_Mo_splitNow a b g
theorem MomM.hi {g : hG} {r : Nat → Int32} (h : MomM g r) {n : Nat} (hn : n < 25) : gI g 369 (7 + n) = r (3 + n) := by rw [← h _ (by omega)]; congr 1; omega
theorem MomM.st {g : hG} {r : Nat → Int32} (h : MomM g r) {n : Nat} (hn : n < 8) : gI g 369 (32 + n) = r (28 + n) := by rw [← h _ (by omega)]; congr 1; omega
theorem MomM.at {g : hG} {r : Nat → Int32} (h : MomM g r) {n : Nat} (hn : n < 8) : gI g 369 (40 + n) = r (36 + n) := by rw [← h _ (by omega)]; congr 1; omega
theorem act_no {g : hG} {r : Nat → Int32} (h : MomM g r) (w : WFm r) (k : Nat) (hk : k < 3) (a b : Int32) (h0 : ¬ rfF r k a b = 0) : q_act k a b g = some (rfF r k a b, g) := by
  have : k = 0 ∨ k = 1 ∨ k = 2 := by omega
  unfold q_act
  rcases this with rfl | rfl | rfl
  · rw [rfF_0] at *
    rw [if_pos rfl]
    unfold q_Mo_spillNow
    rw [isLet_m, bnd_s]
    by_cases h1 : isL8 a
    · rw [bI_t h1, if_neg (by decide), isCell_m, bnd_s]
      by_cases h2 : isC b
      · obtain ⟨n, hn, rfl⟩ := isL_n h1
        rw [if_pos (show isL8 _ ∧ isC _ from ⟨h1, h2⟩), nI_clamp (by omega)] at h0
        rw [bI_t h2, if_neg (by decide), show (32 : Int32) + nI n = nI (32 + n) from nI_add 32 n, gd_nI (by omega) (by omega), nI_clamp (by omega), nI_clamp (by omega), h.st hn, if_pos (show isL8 _ ∧ isC _ from ⟨h1, h2⟩)]
        by_cases h3 : r (28 + n) = 0
        · rw [if_pos h3] at h0; exact absurd rfl h0
        · rw [if_neg h3, if_neg h3]
      · rw [bI_f h2, if_pos rfl, if_neg (show ¬ (_ ∧ isC b) from fun q => h2 q.2)]
    · rw [bI_f h1, if_pos rfl, if_neg (show ¬ (isL8 a ∧ _) from fun q => h1 q.1)]
  · rw [rfF_1] at *
    rw [if_neg (by decide), if_pos rfl]
    unfold q_Mo_raiseNow
    rw [isCell_m, bnd_s]
    by_cases h1 : isC a
    · rw [bI_t h1, if_neg (by decide), in_e b 0 9 0 9 rfl rfl, bnd_s]
      by_cases h2 : 0 ≤ b ∧ b ≤ 9
      · obtain ⟨n, hn, rfl⟩ := isC_n h1
        rw [if_pos (show isC _ ∧ (0 : Int32) ≤ b ∧ b ≤ 9 from ⟨h1, h2⟩), nI_clamp (by omega)] at h0
        rw [bI_t h2, if_neg (by decide), show (7 : Int32) + nI n = nI (7 + n) from nI_add 7 n, gd_nI (by omega) (by omega), nI_clamp (by omega), nI_clamp (by omega), h.hi hn, if_pos (show isC _ ∧ (0 : Int32) ≤ b ∧ b ≤ 9 from ⟨h1, h2⟩)]
        by_cases h3 : r (3 + n) = b
        · rw [if_pos h3, if_pos h3]
        · rw [if_neg h3] at h0; exact absurd rfl h0
      · rw [bI_f h2, if_pos rfl, if_neg (show ¬ (_ ∧ (0 : Int32) ≤ b ∧ b ≤ 9) from fun q => h2 q.2)]
    · rw [bI_f h1, if_pos rfl, if_neg (show ¬ (isC a ∧ _) from fun q => h1 q.1)]
  · rw [rfF_2] at *
    rw [if_neg (by decide), if_neg (by decide)]
    unfold q_Mo_splitNow
    rw [isLet_m, bnd_s]
    by_cases h1 : isL8 a
    · rw [bI_t h1, if_neg (by decide), in_e b 0 3 0 3 rfl rfl, bnd_s]
      by_cases h2 : 0 ≤ b ∧ b ≤ 3
      · obtain ⟨n, hn, rfl⟩ := isL_n h1
        rw [if_pos (show isL8 _ ∧ (0 : Int32) ≤ b ∧ b ≤ 3 from ⟨h1, h2⟩), nI_clamp (by omega)] at h0
        unfold q_Mo_splitTo
        rw [bI_t h2, if_neg (by decide), show (32 : Int32) + nI n = nI (32 + n) from nI_add 32 n, show (40 : Int32) + nI n = nI (40 + n) from nI_add 40 n, gd_nI (by omega) (by omega), nI_clamp (by omega), nI_clamp (by omega), nI_clamp (by omega), h.st hn, if_pos (show isL8 _ ∧ (0 : Int32) ≤ b ∧ b ≤ 3 from ⟨h1, h2⟩)]
        by_cases h3 : r (28 + n) = 1
        · rw [if_pos h3] at h0
          rcases w.2.2 n hn with q | ⟨-, c, hc, e⟩
          · rw [q.1] at h3; exact absurd h3 (by decide)
          · obtain ⟨m, hm, rfl⟩ := nI_of (lt_m1 b h2.1)
            have hm4 : m < 4 := by have := h2.2; rw [show (3 : Int32) = nI 3 from rfl, nI_leI hm (by omega)] at this; omega
            rw [if_pos h3, if_pos h3, gd_nI (by omega) (by omega), h.at hn, e, bs_m c m hc hm4, bnd_s, bnd_s]
            rw [e] at h0
            by_cases h4 : bsF (nI c) (nI m) = -1
            · rw [if_pos h4, if_pos h4]
            · rw [if_neg h4] at h0; exact absurd rfl h0
        · rw [if_neg h3, if_neg h3, bnd_s, if_pos rfl]
      · rw [bI_f h2, if_pos rfl, if_neg (show ¬ (_ ∧ (0 : Int32) ≤ b ∧ b ≤ 3) from fun q => h2 q.2)]
    · rw [bI_f h1, if_pos rfl, if_neg (show ¬ (isL8 a ∧ _) from fun q => h1 q.1)]
theorem act_c {g : hG} {r : Nat → Int32} (h : MomM g r) (w : WFm r) (k : Nat) (hk : k < 3) (a b : Int32) (h0 : rfF r k a b = 0) {n : Nat} (h2 : gI g 367 8 = nI n) (hn : n ≤ 16) : ∃ g', q_act k a b g = some (reF r k a b, g') ∧ (∀ x y, ¬ x = 372 → ¬ x = 373 → ¬ (x = 367 ∧ y = 8) → ¬ (x = 369 ∧ 4 ≤ y ∧ y < 56 ∧ y ≠ 5 ∧ y ≠ 6) → gI g' x y = gI g x y) ∧ (∀ y, 832 ≤ y → gI g' 372 y = gI g 372 y) ∧ MomM g' (nxF r k a b) ∧ RemS (nI k) g g' ∧ gJ g' = gJ g ∧ gP g' = gP g := by
  obtain ⟨ga, a1, a2, a3, a4, a5, a6⟩ := rem_e (nI k) g n h2 hn
  have hm : MomM ga r := fun i hi => (a2 _ _ (by omega) (by omega) (by omega)).trans (h i hi)
  have : k = 0 ∨ k = 1 ∨ k = 2 := by omega
  unfold q_act
  rcases this with rfl | rfl | rfl
  · rw [rfF_0] at h0
    rw [if_pos rfl]
    by_cases h1 : isL8 a ∧ isC b
    · rw [if_pos h1] at h0
      obtain ⟨l, hl, rfl⟩ := isL_n h1.1
      rw [nI_clamp (by omega)] at h0
      by_cases h3 : r (28 + l) = 0
      · have m1 := (hm.sp (28 + l) 1).sp (36 + l) b
        rw [show 4 + (28 + l) = 32 + l by omega, show 4 + (36 + l) = 40 + l by omega] at m1
        have en : nxF r 0 (nI l) b = upR (upR r (28 + l) 1) (36 + l) b := by rw [nxF_0, nI_clamp (by omega)]
        unfold q_Mo_spillNow
        rw [isLet_m, bnd_s, bI_t h1.1, if_neg (by decide), isCell_m, bnd_s, bI_t h1.2, if_neg (by decide), show (32 : Int32) + nI l = nI (32 + l) from nI_add 32 l, show (40 : Int32) + nI l = nI (40 + l) from nI_add 40 l, gd_nI (by omega) (by omega), nI_clamp (by omega), nI_clamp (by omega), h.st hl, if_pos h3, show q_Mo_remember 0 g = some ((), ga) from a1, bnd_s, gd_nI (by omega) (by omega), wr_e, gd_nI (by omega) (by omega), wr_e, lo_m m1, bnd_s, ones_m, bnd_s]
        refine ⟨sI (sI ga 369 (32 + l) 1) 369 (40 + l) b, ?_, fun x y x1 x2 x3 x4 => ?_, fun y hy => ?_, by rw [en]; exact m1, a4.ag (((Ag.rf.sI ?_ _)).sI ?_ _), a5, a6⟩
        · rw [reF_0, en]
        · rw [gI_sI, if_neg (by omega), gI_sI, if_neg (by omega), a2 _ _ x1 x2 x3]
        · rw [rd_a (by decide), rd_a (by decide), a3 y hy]
        · rfl
        · rfl
      · rw [if_neg h3] at h0; exact absurd h0 (by decide)
    · rw [if_neg h1] at h0; exact absurd h0 (by decide)
  · rw [rfF_1] at h0
    rw [if_neg (by decide), if_pos rfl]
    by_cases h1 : isC a ∧ 0 ≤ b ∧ b ≤ 9
    · rw [if_pos h1] at h0
      obtain ⟨l, hl, rfl⟩ := isC_n h1.1
      rw [nI_clamp (by omega)] at h0
      by_cases h3 : r (3 + l) = b
      · rw [if_pos h3] at h0; exact absurd h0 (by decide)
      · have m1 := hm.sp (3 + l) b
        rw [show 4 + (3 + l) = 7 + l by omega] at m1
        unfold q_Mo_raiseNow
        rw [isCell_m, bnd_s, bI_t h1.1, if_neg (by decide), in_e b 0 9 0 9 rfl rfl, bnd_s, bI_t h1.2, if_neg (by decide), show (7 : Int32) + nI l = nI (7 + l) from nI_add 7 l, gd_nI (by omega) (by omega), nI_clamp (by omega), h.hi hl, if_neg h3, show q_Mo_remember 1 g = some ((), ga) from a1, bnd_s, gd_nI (by omega) (by omega), wr_e]
        refine ⟨sI ga 369 (7 + l) b, ?_, fun x y x1 x2 x3 x4 => ?_, fun y hy => ?_, ?_, a4.ag (Ag.rf.sI ?_ _), a5, a6⟩
        · rw [reF_1, nI_clamp (by omega)]
        · rw [gI_sI, if_neg (by omega), a2 _ _ x1 x2 x3]
        · rw [rd_a (by decide), a3 y hy]
        · rw [nxF_1, nI_clamp (by omega)]; exact m1
        · rfl
    · rw [if_neg h1] at h0; exact absurd h0 (by decide)
  · rw [rfF_2] at h0
    rw [if_neg (by decide), if_neg (by decide)]
    by_cases h1 : isL8 a ∧ 0 ≤ b ∧ b ≤ 3
    · rw [if_pos h1] at h0
      obtain ⟨l, hl, rfl⟩ := isL_n h1.1
      rw [nI_clamp (by omega)] at h0
      by_cases h3 : r (28 + l) = 1
      · rw [if_pos h3] at h0
        rcases w.2.2 l hl with q | ⟨-, c, hc, e⟩
        · rw [q.1] at h3; exact absurd h3 (by decide)
        · obtain ⟨m, hm', rfl⟩ := nI_of (lt_m1 b h1.2.1)
          have hm4 : m < 4 := by have := h1.2.2; rw [show (3 : Int32) = nI 3 from rfl, nI_leI hm' (by omega)] at this; omega
          rw [e] at h0
          by_cases h4 : bsF (nI c) (nI m) = -1
          · rw [if_pos h4] at h0; exact absurd h0 (by decide)
          · have m1 := hm.sp (36 + l) (bsF (nI c) (nI m))
            rw [show 4 + (36 + l) = 40 + l by omega] at m1
            unfold q_Mo_splitNow q_Mo_splitTo
            rw [isLet_m, bnd_s, bI_t h1.1, if_neg (by decide), in_e (nI m) 0 3 0 3 rfl rfl, bnd_s, bI_t h1.2, if_neg (by decide), show (32 : Int32) + nI l = nI (32 + l) from nI_add 32 l, show (40 : Int32) + nI l = nI (40 + l) from nI_add 40 l, gd_nI (by omega) (by omega), nI_clamp (by omega), h.st hl, if_pos h3, gd_nI (by omega) (by omega), nI_clamp (by omega), h.at hl, e, bs_m c m hc hm4, bnd_s, bnd_s, if_neg h4, show q_Mo_remember 2 g = some ((), ga) from a1, bnd_s, gd_nI (by omega) (by omega), wr_e]
            refine ⟨sI ga 369 (40 + l) (bsF (nI c) (nI m)), ?_, fun x y x1 x2 x3 x4 => ?_, fun y hy => ?_, ?_, a4.ag (Ag.rf.sI ?_ _), a5, a6⟩
            · rw [reF_2, nI_clamp (by omega), e]
            · rw [gI_sI, if_neg (by omega), a2 _ _ x1 x2 x3]
            · rw [rd_a (by decide), a3 y hy]
            · rw [nxF_2, nI_clamp (by omega), e]; exact m1
            · rfl
      · rw [if_neg h3] at h0; exact absurd h0 (by decide)
    · rw [if_neg h1] at h0; exact absurd h0 (by decide)
