/-! look -/
def mx (Q : Nat → Nat) : Nat → Nat → Nat → Nat
  | 0, _, acc => acc
  | m + 1, i, acc => mx Q m (i + 1) (if acc < Q i then Q i else acc)
theorem mx_le {Q : Nat → Nat} {b : Nat} : ∀ (m i acc : Nat), mx Q m i acc ≤ b ↔ acc ≤ b ∧ ∀ j, i ≤ j → j < i + m → Q j ≤ b := by
  intro m
  induction m with
  | zero => intro i acc; unfold mx; exact ⟨fun h => ⟨h, fun j h1 h2 => by omega⟩, fun h => h.1⟩
  | succ m ih =>
    intro i acc
    unfold mx
    rw [ih]
    constructor
    · intro h
      obtain ⟨h1, h2⟩ := h
      have h3 : acc ≤ b ∧ Q i ≤ b := by
        by_cases z : acc < Q i
        · rw [if_pos z] at h1; omega
        · rw [if_neg z] at h1; omega
      refine ⟨h3.1, fun j j1 j2 => ?_⟩
      by_cases z : j = i
      · subst z; exact h3.2
      · exact h2 j (by omega) (by omega)
    · intro h
      obtain ⟨h1, h2⟩ := h
      have := h2 i (by omega) (by omega)
      refine ⟨?_, fun j j1 j2 => h2 j (by omega) (by omega)⟩
      by_cases z : acc < Q i
      · rw [if_pos z]; exact this
      · rw [if_neg z]; exact h1
theorem ku_le (Q : Nat → Bool) : ∀ (m i : Nat), ku Q i m ≤ m := by
  intro m
  induction m with
  | zero => intro i; exact Nat.le_refl _
  | succ m ih =>
    intro i
    have := ih (i + 1)
    unfold ku
    by_cases z : Q i = true
    · rw [if_pos z]; omega
    · rw [if_neg z]; omega
theorem ku_ex (Q : Nat → Bool) : ∀ (m i : Nat), ku Q i m ≠ 0 → ∃ j, i ≤ j ∧ j < i + m ∧ Q j = true := by
  intro m
  induction m with
  | zero => intro i h; exact absurd rfl h
  | succ m ih =>
    intro i h
    unfold ku at h
    by_cases z : Q i = true
    · exact ⟨i, by omega, by omega, z⟩
    · rw [if_neg z, Nat.zero_add] at h
      obtain ⟨j, j1, j2, j3⟩ := ih (i + 1) h
      exact ⟨j, by omega, by omega, j3⟩
/-- most letters alike, by letters and by places -/
def mC (A : Int32) (P : Nat → Nat → Int32) (v : Nat) (l : Nat) : Nat := if bt A (nI l) then ku (alQ A P v (P v l)) 0 8 else 0
def mM (A : Int32) (P : Nat → Nat → Int32) (v : Nat) (c : Nat) : Nat := ku (alQ A P v (nI c)) 0 8
theorem mC_le (A : Int32) (P : Nat → Nat → Int32) (v l : Nat) : mC A P v l ≤ 8 := by
  unfold mC
  by_cases a : bt A (nI l)
  · rw [if_pos a]; exact ku_le _ 8 0
  · rw [if_neg a]; omega
theorem most_e {A : Int32} {P : Nat → Nat → Int32} {v : Nat} (h : ∀ l, l < 8 → bt A (nI l) → ∃ c, c < 25 ∧ P v l = nI c) : mx (mC A P v) 8 0 0 = mx (mM A P v) 25 0 0 := by
  apply Nat.le_antisymm
  · rw [mx_le]
    refine ⟨Nat.zero_le _, fun j j1 j2 => ?_⟩
    unfold mC
    by_cases a : bt A (nI j)
    · obtain ⟨c, hc, e⟩ := h j (by omega) a
      rw [if_pos a, e]
      exact ((mx_le (Q := mM A P v) 25 0 0).mp (Nat.le_refl _)).2 c (by omega) (by omega)
    · rw [if_neg a]; exact Nat.zero_le _
  · rw [mx_le]
    refine ⟨Nat.zero_le _, fun c c1 c2 => ?_⟩
    by_cases z : mM A P v c = 0
    · rw [z]; exact Nat.zero_le _
    · obtain ⟨j, j1, j2, j3⟩ := ku_ex _ 8 0 z
      unfold alQ at j3
      rw [Bool.and_eq_true] at j3
      have a := of_decide_eq_true j3.1
      have e := of_decide_eq_true j3.2
      have t := ((mx_le (Q := mC A P v) 8 0 0).mp (Nat.le_refl _)).2 j (by omega) (by omega)
      unfold mC at t
      rw [if_pos a, e] at t
      exact t
theorem nI_lt_if {α : Type} {a b : Nat} (ha : a < 2 ^ 31) (hb : b < 2 ^ 31) (x y : α) : (if nI a < nI b then x else y) = if a < b then x else y := by
  by_cases z : a < b
  · rw [if_pos z, if_pos (nI_lt' z hb)]
  · rw [if_neg z, if_neg (nI_ngt (by omega) ha)]
theorem nI_le_if {α : Type} {a b : Nat} (ha : a < 2 ^ 31) (hb : b < 2 ^ 31) (x y : α) : (if nI a ≤ nI b then x else y) = if a ≤ b then x else y := by
  by_cases z : a ≤ b
  · rw [if_pos z, if_pos (nI_le z hb)]
  · rw [if_neg z, if_neg (nI_ge (by omega) ha)]
theorem nI_if (p : Prop) [Decidable p] (a b : Nat) : (if p then nI a else nI b) = nI (if p then a else b) := by
  by_cases z : p
  · rw [if_pos z, if_pos z]
  · rw [if_neg z, if_neg z]
theorem most_c {g : hG} {P : Nat → Nat → Int32} (s3 : ∀ v l, v ≤ 30 → l < 8 → gI g 261 (8 * v + l) = P v l) (A : Int32) {v : Nat} (hv : v ≤ 30) : ∀ (m i F acc : Nat), i + m = 8 → m < F → acc ≤ 8 → q_Watch_mostAtOne_4L (nI v) A (fun x16 g20 => some (x16, g20)) F (nI acc) (nI i) g = some (nI (mx (mC A P v) m i acc), g) := by
  intro m
  induction m with
  | zero =>
    intro i F acc h1 h2 h3
    obtain ⟨F, rfl⟩ : ∃ q, F = q + 1 := ⟨F - 1, by omega⟩
    obtain rfl : i = 8 := by omega
    rw [q_Watch_mostAtOne_4L_s]
    unfold q_Watch_mostAtOne_4
    rw [if_pos (by decide)]
    rfl
  | succ m ih =>
    intro i F acc h1 h2 h3
    obtain ⟨F, rfl⟩ : ∃ q, F = q + 1 := ⟨F - 1, by omega⟩
    have hi : i < 8 := by omega
    have k8 := ku_le (alQ A P v (P v i)) 8 0
    rw [q_Watch_mostAtOne_4L_s]
    unfold q_Watch_mostAtOne_4 mx
    rw [if_neg (show ¬ (8 : Int32) ≤ nI i from nI_ge (a := i) (b := 8) (by omega) (by decide))]
    refine Eq.trans (alike_c s3 A hv hi _ 8 0 FU 0 rfl (by decide)) ?_
    rw [isA_c, bnd_s, nI_1, Nat.zero_add]
    unfold mC
    by_cases a : bt A (nI i)
    · rw [bI_t a, if_neg (by decide), if_pos a]
      unfold imax
      rw [nI_lt_if (by omega) (by omega), nI_if]
      exact ih (i + 1) F _ (by omega) (by omega) (by by_cases z : acc < ku (alQ A P v (P v i)) 0 8; (rw [if_pos z]; exact k8); (rw [if_neg z]; exact h3))
    · rw [bI_f a, if_pos rfl, if_neg a, if_neg (by omega)]
      exact ih (i + 1) F _ (by omega) (by omega) h3
theorem most_m {g : hG} {P : Nat → Nat → Int32} (s3 : ∀ v l, v ≤ 30 → l < 8 → gI g 393 (8 * v + l) = P v l) (A : Int32) {v : Nat} (hv : v ≤ 30) : ∀ (m i F acc : Nat), i + m = 25 → m < F → acc ≤ 8 → q_Mo_mostAlike_4L A (nI v) (fun x13 g17 => some (x13, g17)) F (nI acc) (nI i) g = some (nI (mx (mM A P v) m i acc), g) := by
  intro m
  induction m with
  | zero =>
    intro i F acc h1 h2 h3
    obtain ⟨F, rfl⟩ : ∃ q, F = q + 1 := ⟨F - 1, by omega⟩
    obtain rfl : i = 25 := by omega
    rw [q_Mo_mostAlike_4L_s]
    unfold q_Mo_mostAlike_4
    rw [if_pos (by decide)]
    rfl
  | succ m ih =>
    intro i F acc h1 h2 h3
    obtain ⟨F, rfl⟩ : ∃ q, F = q + 1 := ⟨F - 1, by omega⟩
    have hi : i < 25 := by omega
    have k8 := ku_le (alQ A P v (nI i)) 8 0
    rw [q_Mo_mostAlike_4L_s]
    unfold q_Mo_mostAlike_4 mx
    rw [if_neg (show ¬ (25 : Int32) ≤ nI i from nI_ge (a := i) (b := 25) (by omega) (by decide))]
    refine Eq.trans (alike_m s3 A (nI i) hv _ 8 0 FU 0 rfl (by decide)) ?_
    rw [nI_1, Nat.zero_add, nI_le_if (by omega) (by omega)]
    unfold mM
    by_cases z : acc < ku (alQ A P v (nI i)) 0 8
    · rw [if_neg (by omega), if_pos z]
      exact ih (i + 1) F _ (by omega) (by omega) k8
    · rw [if_pos (by omega), if_neg z]
      exact ih (i + 1) F _ (by omega) (by omega) h3
theorem mx8 {A : Int32} {P : Nat → Nat → Int32} {v : Nat} : mx (mC A P v) 8 0 0 ≤ 8 := (mx_le 8 0 0).mpr ⟨by omega, fun j _ _ => mC_le _ _ _ _⟩
/-- the hour of the smallest, the first of them -/
def bs (b : Nat → Nat) : Nat → Nat → Nat → Nat
  | 0, _, v => v
  | m + 1, i, v => bs b m (i + 1) (if b v ≤ b i then v else i)
theorem bs_le (b : Nat → Nat) : ∀ (m i v : Nat), v ≤ i → i + m = 31 → v ≤ 30 → bs b m i v ≤ 30 := by
  intro m
  induction m with
  | zero => intro i v h1 h2 h3; exact h3
  | succ m ih =>
    intro i v h1 h2 h3
    unfold bs
    by_cases z : b v ≤ b i
    · rw [if_pos z]; exact ih (i + 1) v (by omega) (by omega) h3
    · rw [if_neg z]; exact ih (i + 1) i (by omega) (by omega) (by omega)
theorem best_c {g : hG} {A : Int32} {b : Nat → Nat} (hb : ∀ v, v ≤ 30 → q_Watch_mostAtOne (nI v) A g = some (nI (b v), g)) (b8 : ∀ v, b v ≤ 8) : ∀ (m i F v : Nat), i + m = 31 → v ≤ i → v ≤ 30 → m < F → q_Watch_bestHour_4L A (fun x9 g11 => some (x9, g11)) F (nI v) (nI i) g = some (nI (bs b m i v), g) := by
  intro m
  induction m with
  | zero =>
    intro i F v h1 h2 h3 h4
    obtain ⟨F, rfl⟩ : ∃ q, F = q + 1 := ⟨F - 1, by omega⟩
    obtain rfl : i = 31 := by omega
    rw [q_Watch_bestHour_4L_s]
    unfold q_Watch_bestHour_4
    rw [if_pos (by decide)]
    rfl
  | succ m ih =>
    intro i F v h1 h2 h3 h4
    obtain ⟨F, rfl⟩ : ∃ q, F = q + 1 := ⟨F - 1, by omega⟩
    have u1 := b8 v
    have u2 := b8 i
    rw [q_Watch_bestHour_4L_s]
    unfold q_Watch_bestHour_4 bs
    rw [if_neg (show ¬ (30 : Int32) < nI i from nI_ngt (b := 30) (by omega) (by omega)), hb i (by omega), bnd_s, hb v h3, bnd_s, nI_1, nI_le_if (by omega) (by omega)]
    by_cases z : b v ≤ b i
    · rw [if_pos z, if_pos z]; exact ih (i + 1) F v (by omega) (by omega) h3 (by omega)
    · rw [if_neg z, if_neg z]; exact ih (i + 1) F i (by omega) (by omega) (by omega) (by omega)
theorem best_m {g : hG} {A : Int32} {b : Nat → Nat} (hb : ∀ v, v ≤ 30 → q_Mo_mostAlike A (nI v) g = some (nI (b v), g)) (b8 : ∀ v, b v ≤ 8) (K : Int32 → Int32 → hG → hO Int32) : ∀ (m i F v : Nat), i + m = 31 → v ≤ i → v ≤ 30 → m < F → q_Mo_look_24L A K F (nI (b v)) (nI v) (nI i) g = K (nI (b (bs b m i v))) (nI (bs b m i v)) g := by
  intro m
  induction m with
  | zero =>
    intro i F v h1 h2 h3 h4
    obtain ⟨F, rfl⟩ : ∃ q, F = q + 1 := ⟨F - 1, by omega⟩
    obtain rfl : i = 31 := by omega
    rw [q_Mo_look_24L_s]
    unfold q_Mo_look_24
    rw [if_pos (by decide)]
    rfl
  | succ m ih =>
    intro i F v h1 h2 h3 h4
    obtain ⟨F, rfl⟩ : ∃ q, F = q + 1 := ⟨F - 1, by omega⟩
    have u1 := b8 v
    have u2 := b8 i
    rw [q_Mo_look_24L_s]
    unfold q_Mo_look_24 q_Mo_look_38 bs
    rw [if_neg (show ¬ (30 : Int32) < nI i from nI_ngt (b := 30) (by omega) (by omega)), hb i (by omega), bnd_s, nI_1, nI_le_if (by omega) (by omega), nI_le_if (by omega) (by omega)]
    by_cases z : b v ≤ b i
    · rw [if_pos z, if_pos z, if_pos z]; exact ih (i + 1) F v (by omega) (by omega) h3 (by omega)
    · rw [if_neg z, if_neg z, if_neg z]; exact ih (i + 1) F i (by omega) (by omega) (by omega) (by omega)
theorem best_m0 {g : hG} {A : Int32} {b : Nat → Nat} (hb : ∀ v, v ≤ 30 → q_Mo_mostAlike A (nI v) g = some (nI (b v), g)) (b8 : ∀ v, b v ≤ 8) (K : Int32 → Int32 → hG → hO Int32) : q_Mo_look_24L A K FU (100000000 : Int32) (-1 : Int32) (0 : Int32) g = K (nI (b (bs b 30 1 0))) (nI (bs b 30 1 0)) g := by
  have u1 := b8 0
  obtain ⟨F, hF⟩ : ∃ q, FU = q + 1 := ⟨FU - 1, by decide⟩
  have hF' : 30 < F := by
    have e : FU = 1000000 := rfl
    omega
  have n0 : ¬ (100000000 : Int32) ≤ nI (b 0) := nI_ge (a := b 0) (b := 100000000) (by omega) (by decide)
  have h0 : q_Mo_mostAlike A (0 : Int32) g = some (nI (b 0), g) := hb 0 (by omega)
  rw [hF, q_Mo_look_24L_s]
  unfold q_Mo_look_24 q_Mo_look_38
  rw [if_neg (by decide), h0, bnd_s, if_neg n0, if_neg n0]
  exact best_m hb b8 K 30 1 F 0 rfl (by omega) (by omega) hF'
theorem sp_look {g : hG} (h : Inv g) (v : Int32) : Sp (q_MP_look v) (q_Mo_look v) g := by
  obtain ⟨P, n, hN, C, gt, t1, t2, t3, t4, t5, t6, t8, t7⟩ := see_both h
  obtain ⟨gm, l1, l2, l3⟩ := t7 gt t2
  obtain ⟨gm', l1', l2', l3'⟩ := t7 g Un.rf
  have md : ∀ {f gm : hG}, q_Mo_layPlaces (sI f 367 0 0) = some ((), gm) → ∀ r, q_Mo_thatCanBe gm = some (r, gm) → q_Mo_look v f = if bI (0 ≤ v ∧ v ≤ 1) = 0 then some (-1, gm) else (if r = 0 then some (-1, gm) else q_Mo_look_24L r (fun x20 x21 g24 => if v = (0 : Int32) then (some (x21, g24)) else (some (x20, g24))) FU (100000000 : Int32) (-1 : Int32) (0 : Int32) gm) := by
    intro f gm x1 r x2
    unfold q_Mo_look
    rw [wr_e, x1, bnd_s, x2, bnd_s, in_e v 0 1 0 1 rfl rfl, bnd_s]
  obtain ⟨r, e1, e2, e3⟩ := can_l t3 l3 t4 t5 (fun l hl => by rw [t6 l hl, l2.I rfl, t2.I rfl]) 8 0 FU FU 0 (by omega) (by decide) (by decide)
  obtain ⟨r', -, e2', -⟩ := can_l t3 l3' t4 t5 (fun l hl => by rw [t6 l hl, l2'.I rfl]) 8 0 FU FU 0 (by omega) (by decide) (by decide)
  by_cases hv : 0 ≤ v ∧ v ≤ 1
  · have hA : ∀ l, l < 8 → bt r (nI l) → gI g 369 (32 + l) ≠ 0 := fun l hl a => by
      rcases e3 l hl a with q | q
      · exact absurd q (bt_0 l (by omega))
      · rw [l2.I rfl, t2.I rfl] at q; exact q
    have hme : ∀ w, w ≤ 30 → mx (mC r P w) 8 0 0 = mx (mM r P w) 25 0 0 := fun w hw => most_e (fun l hl a => t8 w l hw hl (hA l hl a))
    have cm := md l1 r e2
    rw [bI_t hv, if_neg (by decide)] at cm
    have c0 : ¬ v < 0 := Int32.not_lt.mpr hv.1
    have cc : q_MP_look v g = if r = (0 : Int32) then (some ((-1 : Int32), gt)) else (bnd (q_Watch_bestHour r gt) fun r11 g9 => if v = (0 : Int32) then (some (r11, g9)) else (bnd (q_Watch_mostAtOne r11 r g9) fun r15 g13 => some (r15, g13))) := by
      unfold q_MP_look q_Watch_lettersSeen
      rw [if_neg c0, if_pos hv.2, t1, bnd_s]
      exact congrArg (fun x => bnd x _) e1
    have hbc : ∀ w, w ≤ 30 → q_Watch_mostAtOne (nI w) r gt = some (nI (mx (mC r P w) 8 0 0), gt) := fun w hw => most_c t3.2.2 r hw 8 0 FU 0 rfl (by decide) (by omega)
    have hbm : ∀ w, w ≤ 30 → q_Mo_mostAlike r (nI w) gm = some (nI (mx (mC r P w) 8 0 0), gm) := fun w hw => by
      rw [hme w hw]
      exact most_m l3.2.2 r hw 25 0 FU 0 rfl (by decide) (by omega)
    by_cases z : r = 0
    · rw [if_pos z] at cm cc
      exact Sp.q cc cm (h.un (t2.tr l2))
    · rw [if_neg z, best_m0 hbm (fun w => mx8)] at cm
      have bc : q_Watch_bestHour r gt = _ := best_c hbc (fun w => mx8) 30 1 FU 0 rfl (by omega) (by omega) (by decide)
      have bl : bs (fun w => mx (mC r P w) 8 0 0) 30 1 0 ≤ 30 := bs_le _ 30 1 0 (by omega) (by omega) (by omega)
      rw [if_neg z, bc, bnd_s, hbc _ bl, bnd_s] at cc
      by_cases y : v = 0
      · rw [if_pos y] at cm cc
        exact Sp.q cc cm (h.un (t2.tr l2))
      · rw [if_neg y] at cm cc
        exact Sp.q cc cm (h.un (t2.tr l2))
  · have cm := md l1' r' e2'
    rw [bI_f hv, if_pos rfl] at cm
    refine Sp.q (r := -1) (g1 := g) (g2 := gm') ?_ cm (h.un l2')
    unfold q_MP_look
    by_cases c0 : v < 0
    · rw [if_pos c0]
    · rw [if_neg c0, if_neg (fun q => hv ⟨Int32.not_lt.mp c0, q⟩)]
