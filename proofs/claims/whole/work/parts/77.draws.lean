/-! days: draws and what they change, both -/
theorem nI_div {a b : Nat} (ha : a < 2 ^ 31) (hb : b < 2 ^ 31) : nI a / nI b = nI (a / b) := by
  unfold nI
  apply Int32.toInt_inj.mp
  have h : a / b ≤ a := Nat.div_le_self a b
  rw [Int32.toInt_div, Int32.toInt_ofNat_of_lt (by omega), Int32.toInt_ofNat_of_lt (by omega), Int32.toInt_ofNat_of_lt (by omega)]
  rw [show (a:Int).tdiv b = ((a / b : Nat) : Int) from (by rw [Int.tdiv_eq_ediv_of_nonneg (by omega)]; norm_cast)]
  generalize a / b = q at *
  exact Int.bmod_eq_of_le (by simp <;> omega) (by simp <;> omega)
theorem nI_sub {a b : Nat} (h : b ≤ a) : nI a - nI b = nI (a - b) := by
  rw [Int32.sub_eq_iff_eq_add, nI_add]
  congr 1
  omega
theorem irem_nI {a b : Nat} (ha : a < 2 ^ 31) (hb : b < 2 ^ 31) : irem (nI a) (nI b) = nI (a % b) := by
  unfold irem
  rw [nI_div ha hb, pk_mul, nI_sub (Nat.div_mul_le_self a b), Nat.mod_eq_sub_div_mul]
def nL (n : Nat) : Int64 := Int64.ofNat n
theorem nL_div {a b : Nat} (ha : a < 2 ^ 63) (hb : b < 2 ^ 63) : nL a / nL b = nL (a / b) := by
  unfold nL
  apply Int64.toInt_inj.mp
  have h : a / b ≤ a := Nat.div_le_self a b
  rw [Int64.toInt_div, Int64.toInt_ofNat_of_lt (by omega), Int64.toInt_ofNat_of_lt (by omega), Int64.toInt_ofNat_of_lt (by omega)]
  rw [show (a:Int).tdiv b = ((a / b : Nat) : Int) from (by rw [Int.tdiv_eq_ediv_of_nonneg (by omega)]; norm_cast)]
  generalize a / b = q at *
  exact Int.bmod_eq_of_le (by simp <;> omega) (by simp <;> omega)
theorem nL_mul (a b : Nat) : nL a * nL b = nL (a * b) := (Int64.ofNat_mul a b).symm
theorem nL_add (a b : Nat) : nL a + nL b = nL (a + b) := (Int64.ofNat_add a b).symm
theorem nL_sub {a b : Nat} (h : b ≤ a) : nL a - nL b = nL (a - b) := by
  rw [Int64.sub_eq_iff_eq_add, nL_add]
  congr 1
  omega
theorem lrem_nL {a b : Nat} (ha : a < 2 ^ 63) (hb : b < 2 ^ 63) : lrem (nL a) (nL b) = nL (a % b) := by
  unfold lrem
  rw [nL_div ha hb, nL_mul, nL_sub (Nat.div_mul_le_self a b), Nat.mod_eq_sub_div_mul]
theorem nI_64 {n : Nat} (h : n < 2 ^ 31) : (nI n).toInt64 = nL n := by
  unfold nI nL
  apply Int64.toInt_inj.mp
  rw [Int32.toInt_toInt64, Int32.toInt_ofNat_of_lt (by omega), Int64.toInt_ofNat_of_lt (by omega)]
theorem nL_32 {n : Nat} (h : n < 2 ^ 31) : (nL n).toInt32 = nI n := by
  unfold nI nL
  apply Int32.toInt_inj.mp
  rw [Int64.toInt_toInt32, Int32.toInt_ofNat_of_lt (by omega), Int64.toInt_ofNat_of_lt (by omega)]
  rw [Int.bmod_def]
  omega
theorem nL_0 {n : Nat} (h : n < 2 ^ 63) (h0 : 0 < n) : ¬ nL n = 0 := fun q => by
  have : (nL n).toInt = (0 : Int64).toInt := by rw [q]
  unfold nL at this
  rw [Int64.toInt_ofNat_of_lt (by omega), show (0 : Int64).toInt = 0 from rfl] at this
  omega
def dS (s : Nat) : Nat := (s * 1103 + 12345) % 1000003
theorem dS_lt (s : Nat) : dS s < 1000003 := Nat.mod_lt _ (by omega)
theorem draw_c {s : Nat} (hs : s < 1000003) (g : hG) : q_MP_draw (nI s) g = some (nI (dS s), g) := by
  unfold q_MP_draw
  rw [show (1103 : Int32) = nI 1103 from rfl, pk_mul, show (12345 : Int32) = nI 12345 from rfl, nI_add, show (1000003 : Int32) = nI 1000003 from rfl, irem_nI (by omega) (by omega)]
  rfl
theorem draw_m {m s : Nat} (hm : 0 < m) (hm2 : m < 2 ^ 31) (hs : s < 1000003) {g : hG} (h : gJ g 367 55 = nL s) : q_Mo_draw (nI m) g = some (nI (dS s % m), sJ g 367 55 (nL (dS s))) := by
  unfold q_Mo_draw
  have e : dS s % m < 2 ^ 31 := Nat.lt_of_lt_of_le (Nat.mod_lt _ hm) (by omega)
  have d := dS_lt s
  rw [h, show (1103 : Int64) = nL 1103 from rfl, nL_mul, show (12345 : Int64) = nL 12345 from rfl, nL_add, show (1000003 : Int64) = nL 1000003 from rfl, lrem_nL (by omega) (by omega), wr_e, nI_64 hm2]
  unfold gzL
  rw [if_neg (nL_0 (by omega) hm), gJ_sJ, if_pos ⟨rfl, rfl⟩]
  show some ((lrem (nL (dS s)) (nL m)).toInt32, _) = _
  rw [lrem_nL (by omega) (by omega), nL_32 e]
  rfl
/-- what a day's draws change -/
def chD (r : Nat → Int32) (l c t : Nat) : Nat → Int32 :=
  if t < 2 then (if rfF r 0 (nI l) (nI c) = 0 then nxF r 0 (nI l) (nI c) else r) else if t = 2 then (if rfF r 2 (nI l) (nI (c % 4)) = 0 then nxF r 2 (nI l) (nI (c % 4)) else r) else r
theorem chD_wf {r : Nat → Int32} (w : WFm r) (l c t : Nat) : WFm (chD r l c t) ∧ chD r l c t 0 = r 0 ∧ chD r l c t 1 = r 1 ∧ chD r l c t 2 = r 2 := by
  unfold chD
  by_cases z : t < 2
  · rw [if_pos z]
    by_cases y : rfF r 0 (nI l) (nI c) = 0
    · rw [if_pos y]
      obtain ⟨w1, -, w2, w3, w4⟩ := nx_wf w 0 (by omega) _ _ y
      exact ⟨w1, w2, w3, w4⟩
    · rw [if_neg y]; exact ⟨w, rfl, rfl, rfl⟩
  · rw [if_neg z]
    by_cases z2 : t = 2
    · rw [if_pos z2]
      by_cases y : rfF r 2 (nI l) (nI (c % 4)) = 0
      · rw [if_pos y]
        obtain ⟨w1, -, w2, w3, w4⟩ := nx_wf w 2 (by omega) _ _ y
        exact ⟨w1, w2, w3, w4⟩
      · rw [if_neg y]; exact ⟨w, rfl, rfl, rfl⟩
    · rw [if_neg z2]; exact ⟨w, rfl, rfl, rfl⟩
theorem ch19_c {g : hG} {r : Nat → Int32} (h : MomR g 230 r) (k : Nat) (hk : k < 3) (l b : Int32) : ∃ g', q_MP_changeDrawn_19 l (nI k) b g = some ((), g') ∧ MomR g' 230 (if rfF r k l b = 0 then nxF r k l b else r) ∧ Un (sH 230) g g' := by
  unfold q_MP_changeDrawn_19
  rw [ref_c h k (by omega), bnd_s]
  by_cases z : rfF r k l b = 0
  · obtain ⟨g', e1, e2, e3, e4, e5⟩ := chg_c h k hk l b z
    rw [if_pos z, if_pos z, e1, bnd_s]
    refine ⟨g', rfl, e3, fun x y q => ⟨e2 x y (fun p => ?_), by rw [e4], by rw [e5]⟩⟩
    have q' := Bool.eq_false_iff.mp q
    simp only [sH, Ne, Bool.or_eq_true, Bool.and_eq_true, Nat.ble_eq] at q'
    omega
  · rw [if_neg z, if_neg z]
    exact ⟨g, rfl, h, Un.rf⟩
theorem chD_c {g : hG} {r : Nat → Int32} (h : MomR g 230 r) {l c t : Nat} (hc : c < 25) (ht : t < 4) : ∃ g', q_MP_changeDrawn (nI t) (nI l) (nI c) g = some ((), g') ∧ MomR g' 230 (chD r l c t) ∧ Un (sH 230) g g' := by
  unfold q_MP_changeDrawn q_MP_changeDrawn_10 chD
  have ht' : t = 0 ∨ t = 1 ∨ t = 2 ∨ t = 3 := by omega
  rcases ht' with rfl | rfl | rfl | rfl
  · rw [if_pos (by decide), if_neg (by decide), if_neg (by decide), if_pos (by decide)]
    exact ch19_c h 0 (by omega) _ _
  · rw [if_pos (by decide), if_neg (by decide), if_neg (by decide), if_pos (by decide)]
    exact ch19_c h 0 (by omega) _ _
  · rw [if_pos (by decide), if_pos (by decide), if_pos (by decide), if_neg (by decide), if_pos rfl, show (4 : Int32) = nI 4 from rfl, irem_nI (by omega) (by omega)]
    exact ch19_c h 2 (by omega) _ _
  · rw [if_neg (by decide), if_neg (by decide), if_neg (by decide)]
    exact ⟨g, rfl, h, Un.rf⟩
def chM (v3 : Int32) (k28 : Int32 → hG → hO Int32) (l c t : Int32) (g26 : hG) : hO Int32 :=
  if (2 : Int32) ≤ t then (q_Mo_days_73 v3 l c t k28 g26) else (gd ((32 : Int32) + l) 5468 <| if (gI g26 369 ((32 : Int32) + l).toNatClampNeg) = (0 : Int32) then (gd ((32 : Int32) + l) 5468 <| wr (sI g26 369 ((32 : Int32) + l).toNatClampNeg (1 : Int32)) fun g44 => gd ((40 : Int32) + l) 5468 <| wr (sI g44 369 ((40 : Int32) + l).toNatClampNeg c) fun g46 => q_Mo_days_73 v3 l c t k28 g46) else (q_Mo_days_73 v3 l c t k28 g26))
theorem splitTo_e {f : hG} {r : Nat → Int32} (hm : MomM f r) (w : WFm r) {l b : Nat} (hl : l < 8) (hb : b < 4) : q_Mo_splitTo (nI l) (nI b) f = some (if r (28 + l) = 1 then bsF (r (36 + l)) (nI b) else -1, f) := by
  unfold q_Mo_splitTo
  have e32 : (32 : Int32) + nI l = nI (32 + l) := nI_add 32 l
  have e40 : (40 : Int32) + nI l = nI (40 + l) := nI_add 40 l
  rw [e32, e40, gd_nI (by omega) (by omega), gd_nI (by omega) (by omega), nI_clamp (by omega), nI_clamp (by omega), hm.st hl, hm.at hl]
  by_cases z : r (28 + l) = 1
  · rcases w.2.2 l hl with q | ⟨-, p, hp, e⟩
    · rw [q.1] at z; exact absurd z (by decide)
    · rw [if_pos z, if_pos z, e, bs_m p b hp hb, bnd_s]
  · rw [if_neg z, if_neg z]
theorem un_sp {f : hG} {k : Nat} (v : Int32) (h : 28 ≤ k ∧ k < 52) : Un sHM f (sI f 369 (4 + k) v) := Un.rf.sI (by unfold sHM; rw [show Nat.ble 32 (4 + k) = true from by rw [Nat.ble_eq]; omega, show Nat.ble (4 + k) 55 = true from by rw [Nat.ble_eq]; omega]; simp) v
theorem chD_m {f : hG} {r : Nat → Int32} (hm : MomM f r) (w : WFm r) {l c t : Nat} (hl : l < 8) (hc : c < 25) (ht : t < 4) (v3 : Int32) (k28 : Int32 → hG → hO Int32) : ∃ f', chM v3 k28 (nI l) (nI c) (nI t) f = q_Mo_days_96 v3 k28 f' ∧ MomM f' (chD r l c t) ∧ Un sHM f f' ∧ gJ f' = gJ f ∧ gP f' = gP f := by
  unfold chM q_Mo_days_73 chD
  have e32 : (32 : Int32) + nI l = nI (32 + l) := nI_add 32 l
  have e40 : (40 : Int32) + nI l = nI (40 + l) := nI_add 40 l
  have rf0 : rfF r 0 (nI l) (nI c) = if r (28 + l) = 0 then 0 else -3 := by
    rw [rfF_0, nI_clamp (by omega), if_pos ⟨⟨nI_pos' (by omega), (nI_le (show l ≤ 7 by omega) (by decide) : nI l ≤ nI 7)⟩, isC_of hc⟩]
  have nx0 : nxF r 0 (nI l) (nI c) = upR (upR r (28 + l) 1) (36 + l) (nI c) := by
    rw [nxF_0, nI_clamp (by omega)]
  have rf2 : rfF r 2 (nI l) (nI (c % 4)) = if r (28 + l) = 1 then (if bsF (r (36 + l)) (nI (c % 4)) = -1 then -3 else 0) else -3 := by
    rw [rfF_2, nI_clamp (by omega), if_pos ⟨⟨nI_pos' (by omega), (nI_le (show l ≤ 7 by omega) (by decide) : nI l ≤ nI 7)⟩, nI_pos' (by omega), (nI_le (show c % 4 ≤ 3 by omega) (by decide) : nI (c % 4) ≤ nI 3)⟩]
  have nx2 : nxF r 2 (nI l) (nI (c % 4)) = upR r (36 + l) (bsF (r (36 + l)) (nI (c % 4))) := by
    rw [nxF_2, nI_clamp (by omega)]
  have low : ∀ t : Nat, ¬ (2 : Int32) ≤ nI t → ¬ nI t = 2 → ∃ f', (if (2 : Int32) ≤ nI t then (q_Mo_days_73 v3 (nI l) (nI c) (nI t) k28 f) else (gd ((32 : Int32) + nI l) 5468 <| if (gI f 369 ((32 : Int32) + nI l).toNatClampNeg) = (0 : Int32) then (gd ((32 : Int32) + nI l) 5468 <| wr (sI f 369 ((32 : Int32) + nI l).toNatClampNeg (1 : Int32)) fun g44 => gd ((40 : Int32) + nI l) 5468 <| wr (sI g44 369 ((40 : Int32) + nI l).toNatClampNeg (nI c)) fun g46 => q_Mo_days_73 v3 (nI l) (nI c) (nI t) k28 g46) else (q_Mo_days_73 v3 (nI l) (nI c) (nI t) k28 f))) = q_Mo_days_96 v3 k28 f' ∧ MomM f' (if rfF r 0 (nI l) (nI c) = 0 then nxF r 0 (nI l) (nI c) else r) ∧ Un sHM f f' ∧ gJ f' = gJ f ∧ gP f' = gP f := fun t y1 y2 => by
    unfold q_Mo_days_73
    rw [if_neg y1, e32, e40, gd_nI (by omega) (by omega), gd_nI (by omega) (by omega), wr_e, gd_nI (by omega) (by omega), wr_e, nI_clamp (by omega), nI_clamp (by omega), hm.st hl, if_neg y2, if_neg y2, rf0, nx0]
    by_cases z : r (28 + l) = 0
    · rw [if_pos z, if_pos z, if_pos rfl, show 32 + l = 4 + (28 + l) by omega, show 40 + l = 4 + (36 + l) by omega]
      exact ⟨_, rfl, (hm.sp _ _).sp _ _, (un_sp 1 (by omega)).tr (un_sp _ (by omega)), rfl, rfl⟩
    · rw [if_neg z, if_neg z, if_neg (by decide)]
      exact ⟨f, rfl, hm, Un.rf, rfl, rfl⟩
  have ht' : t = 0 ∨ t = 1 ∨ t = 2 ∨ t = 3 := by omega
  rcases ht' with rfl | rfl | rfl | rfl
  · rw [if_pos (show 0 < 2 by decide)]
    exact low 0 (by decide) (by decide)
  · rw [if_pos (show 1 < 2 by decide)]
    exact low 1 (by decide) (by decide)
  · rw [if_pos (by decide), if_pos (by decide), if_neg (by decide), if_pos rfl, show (4 : Int32) = nI 4 from rfl, irem_nI (by omega) (by omega), splitTo_e hm w hl (Nat.mod_lt _ (by omega)), bnd_s, splitTo_e hm w hl (Nat.mod_lt _ (by omega)), bnd_s, rf2, nx2, e40, gd_nI (by omega) (by omega), wr_e, nI_clamp (by omega)]
    by_cases z : r (28 + l) = 1
    · rw [if_pos z, if_pos z]
      by_cases y : bsF (r (36 + l)) (nI (c % 4)) = -1
      · rw [if_pos y, if_pos y, if_neg (by decide)]
        exact ⟨f, rfl, hm, Un.rf, rfl, rfl⟩
      · rw [if_neg y, if_neg y, if_pos rfl, show 40 + l = 4 + (36 + l) by omega]
        exact ⟨_, rfl, hm.sp _ _, un_sp _ (by omega), rfl, rfl⟩
    · rw [if_neg z, if_neg z, if_pos rfl, if_neg (by decide)]
      exact ⟨f, rfl, hm, Un.rf, rfl, rfl⟩
  · rw [if_pos (by decide), if_neg (by decide), if_neg (by decide), if_neg (by decide)]
    exact ⟨f, rfl, hm, Un.rf, rfl, rfl⟩
