/-! two beads at one place: delay -/
section DL
variable {S : Nat → Int32} {nx : Nat → Nat} {g f : hG} {D : Int32}
def goneQ (D : Int32) (nx : Nat → Nat) (c m : Nat) : Bool := decide (hF nx 25 c < m ∧ bt D (nI (eF nx 25 c)))
theorem goneQ_t {c m : Nat} (h1 : hF nx 25 c < m) (h2 : bt D (nI (eF nx 25 c))) : goneQ D nx c m = true := decide_eq_true ⟨h1, h2⟩
theorem goneQ_f {c m : Nat} (h : ¬ (hF nx 25 c < m ∧ bt D (nI (eF nx 25 c)))) : ¬ goneQ D nx c m = true := fun q => h (of_decide_eq_true q)
theorem gone_c (h : Fall S nx) (hg : TrR g nx) (hd : gI g 254 5 = D) {c m : Nat} (hc : c < 25) (hm : m < 2 ^ 31) : q_Str_isGone (nI c) (nI m) g = some (bI (goneQ D nx c m = true), g) := by
  have x0 := hF_25 h hc
  unfold q_Str_isGone
  rw [gd_nI hc (by omega), nI_clamp (by omega), (hg c hc).2.2, hd, isA_c, bnd_s]
  by_cases z : bt D (nI (eF nx 25 c))
  · rw [bI_t z, if_neg (by decide), gd_nI hc (by omega), (hg c hc).2.1]
    by_cases y : m ≤ hF nx 25 c
    · rw [if_pos (nI_le y (by omega)), bI_f (goneQ_f (fun q => absurd q.1 (by omega)))]
    · rw [if_neg (nI_ge (by omega) hm), bI_t (goneQ_t (by omega) z)]
  · rw [bI_f z, if_pos rfl, bI_f (goneQ_f (fun q => z q.2))]
theorem lies_m (h : Fall S nx) (hf : M389 f nx) (hd : gI f 369 3 = D) {c m : Nat} (hc : c < 25) (hm : m < 2 ^ 31) : q_Mo_liesBehind (nI c) (nI m) f = some (if goneQ D nx c m = true then -1 else nI (eF nx m c), f) := by
  have x0 := hF_25 h hc
  unfold q_Mo_liesBehind q_Mo_liesBehind_13
  rw [hours_e h hf hc, bnd_s]
  by_cases y : m ≤ hF nx 25 c
  · rw [if_pos (nI_le y (by omega)), behind_e h hf hc hm, bnd_s, if_neg (goneQ_f (fun q => absurd q.1 (by omega)))]
  · rw [if_neg (nI_ge (by omega) hm), end_e h hf hc, bnd_s, hasDoor_m, bnd_s, hd]
    by_cases z : bt D (nI (eF nx 25 c))
    · rw [bI_t z, if_neg (by decide), if_pos (goneQ_t (by omega) z)]
    · rw [bI_f z, if_pos rfl, behind_e h hf hc hm, bnd_s, if_neg (goneQ_f (fun q => z q.2))]
/-- at that hour both lie at one place -/
def clQ (D : Int32) (nx : Nat → Nat) (c e d v : Nat) : Bool := !goneQ D nx c (v + d) && !goneQ D nx e v && decide (eF nx (v + d) c = eF nx v e)
def exB (Q : Nat → Bool) : Nat → Nat → Bool
  | _, 0 => false
  | i, m + 1 => Q i || exB Q (i + 1) m
theorem exB_iff (Q : Nat → Bool) : ∀ m i, exB Q i m = true ↔ ∃ v, i ≤ v ∧ v < i + m ∧ Q v = true
  | 0, i => by
    unfold exB
    constructor
    · intro h; cases h
    · rintro ⟨v, a, b, _⟩; omega
  | m + 1, i => by
    unfold exB
    rw [Bool.or_eq_true, exB_iff Q m (i + 1)]
    constructor
    · rintro (h | ⟨v, a, b, q⟩)
      · exact ⟨i, Nat.le_refl _, by omega, h⟩
      · exact ⟨v, by omega, by omega, q⟩
    · rintro ⟨v, a, b, q⟩
      by_cases z : v = i
      · subst z; exact Or.inl q
      · exact Or.inr ⟨v, by omega, by omega, q⟩
theorem ever_c (h : Fall S nx) (hg : TrR g nx) (hd : gI g 254 5 = D) {c e d : Nat} (hc : c < 25) (he : e < 25) (hD : d < 100) : ∀ (m i F : Nat), i + m = 26 → m < F → q_Str_everOnOne_2L (nI c) (nI e) (nI d) (fun g21 => some ((0 : Int32), g21)) F (nI i) g = some (bI (exB (clQ D nx c e d) i m = true), g) := by
  intro m
  induction m with
  | zero =>
    intro i F h1 h2
    obtain ⟨F, rfl⟩ : ∃ q, F = q + 1 := ⟨F - 1, by omega⟩
    rw [q_Str_everOnOne_2L_s]
    unfold q_Str_everOnOne_2
    rw [if_pos (show (25 : Int32) < nI i from nI_lt' (a := 25) (by omega) (by omega)), bI_f (by unfold exB; simp)]
  | succ m ih =>
    intro i F h1 h2
    obtain ⟨F, rfl⟩ : ∃ q, F = q + 1 := ⟨F - 1, by omega⟩
    have nx1 := ih (i + 1) F (by omega) (by omega)
    have k1 := eF_in h (i + d) c hc
    have k2 := eF_in h i e he
    rw [q_Str_everOnOne_2L_s]
    unfold q_Str_everOnOne_2
    rw [if_neg (show ¬ (25 : Int32) < nI i from nI_ngt (b := 25) (by omega) (by omega)), nI_add, gone_c h hg hd hc (by omega), bnd_s]
    unfold exB
    cases a : goneQ D nx c (i + d) with
    | true =>
      rw [bI_t rfl, if_neg (by decide)]
      unfold q_Str_everOnOne_19 q_Str_everOnOne_20
      rw [if_pos rfl, nI_1, nx1]
      unfold clQ
      rw [a]; simp
    | false =>
      rw [bI_f (by simp), if_pos rfl, gone_c h hg hd he (by omega), bnd_s]
      cases b : goneQ D nx e i with
      | true =>
        rw [bI_t rfl, if_neg (by decide)]
        unfold q_Str_everOnOne_20
        rw [if_pos rfl, nI_1, nx1]
        unfold clQ
        rw [b]; simp
      | false =>
        rw [bI_f (by simp), if_pos rfl]
        unfold q_Str_everOnOne_20
        rw [if_neg (by decide), nI_add, after_e h hg hc (by omega), bnd_s, after_e h hg he (by omega), bnd_s]
        by_cases z : eF nx (i + d) c = eF nx i e
        · rw [z, if_pos rfl, bI_t (by unfold clQ; simp [a, b, z])]
        · rw [if_neg (fun q => z ((nI_eq (by omega) (by omega)).mp q)), nI_1, nx1]
          have q : clQ D nx c e d i = false := by unfold clQ; simp [z]
          rw [q, Bool.false_or]
theorem clash_m (h : Fall S nx) (hf : M389 f nx) (hd : gI f 369 3 = D) {c e d : Nat} (hc : c < 25) (he : e < 25) (hD : d < 100) : ∀ (m i F : Nat) (b : Bool), i + m = 100 → m < F → q_Mo_clash_4L (nI c) (nI e) (nI d) (fun x11 g14 => gb x11 (some (x11, g14))) F (bI (b = true)) (nI i) f = some (bI ((b || exB (clQ D nx c e d) i m) = true), f) := by
  intro m
  induction m with
  | zero =>
    intro i F b h1 h2
    obtain ⟨F, rfl⟩ : ∃ q, F = q + 1 := ⟨F - 1, by omega⟩
    obtain rfl : i = 100 := by omega
    rw [q_Mo_clash_4L_s]
    unfold q_Mo_clash_4
    rw [if_pos (by decide)]
    refine (gb_bI _ _).trans ?_
    unfold exB
    rw [Bool.or_false]
  | succ m ih =>
    intro i F b h1 h2
    obtain ⟨F, rfl⟩ : ∃ q, F = q + 1 := ⟨F - 1, by omega⟩
    have k1 := eF_in h (i + d) c hc
    have k2 := eF_in h i e he
    have nt := ih (i + 1) F true (by omega) (by omega)
    have nf := ih (i + 1) F false (by omega) (by omega)
    rw [bI_t rfl] at nt
    rw [bI_f (by simp)] at nf
    rw [q_Mo_clash_4L_s]
    unfold q_Mo_clash_4
    rw [if_neg (show ¬ (100 : Int32) ≤ nI i from nI_ge (a := i) (b := 100) (by omega) (by decide)), nI_add, lies_m h hf hd hc (by omega), bnd_s, nI_1]
    cases b with
    | true =>
      rw [bI_t rfl, if_neg (by decide), nt]
      simp
    | false =>
      rw [bI_f (by simp), if_pos rfl]
      unfold exB
      rw [Bool.false_or]
      cases a : goneQ D nx c (i + d) with
      | true =>
        rw [if_pos rfl, if_pos rfl, nf]
        have q : clQ D nx c e d i = false := by unfold clQ; simp [a]
        rw [q]
      | false =>
        have p1 : ∀ n, n < 25 → ¬ nI n = -1 := fun n hn q => by
          have := nI_pos' (show n < 2 ^ 31 by omega)
          rw [q] at this
          exact absurd this (by decide)
        rw [if_neg Bool.false_ne_true, if_neg (p1 _ k1), lies_m h hf hd he (by omega), bnd_s]
        cases b2 : goneQ D nx e i with
        | true =>
          have q : clQ D nx c e d i = false := by unfold clQ; simp [b2]
          rw [if_pos rfl, if_neg (p1 _ k1), nf, q]
        | false =>
          rw [if_neg Bool.false_ne_true]
          by_cases z : eF nx (i + d) c = eF nx i e
          · have q : clQ D nx c e d i = true := by unfold clQ; simp [a, b2, z]
            rw [z, if_pos rfl, nt, q]
          · have q : clQ D nx c e d i = false := by unfold clQ; simp [z]
            rw [if_neg (fun y => z ((nI_eq (by omega) (by omega)).mp y)), nf, q]
theorem clQ_late (h : Fall S nx) {c e d : Nat} (hc : c < 25) (he : e < 25) (k : Nat) : clQ D nx c e d (25 + k) = clQ D nx c e d 25 := by
  have x0 := hF_25 h hc
  have x1 := hF_25 h he
  have e1 : eF nx (25 + k + d) c = eF nx (25 + d) c := by
    rw [show 25 + k + d = 25 + (k + d) by omega, (hF_big h hc _).2, (hF_big h hc _).2]
  have e2 : eF nx (25 + k) e = eF nx 25 e := (hF_big h he _).2
  have q : ∀ a m m', hF nx 25 a < 25 → 25 ≤ m → 25 ≤ m' → goneQ D nx a m = goneQ D nx a m' := fun a m m' y y1 y2 => by
    unfold goneQ
    exact decide_eq_decide.mpr ⟨fun q => ⟨by omega, q.2⟩, fun q => ⟨by omega, q.2⟩⟩
  unfold clQ
  rw [e1, e2, q c (25 + k + d) (25 + d) x0 (by omega) (by omega), q e (25 + k) 25 x1 (by omega) (by omega)]
theorem exB_late (h : Fall S nx) {c e d : Nat} (hc : c < 25) (he : e < 25) : exB (clQ D nx c e d) 0 100 = exB (clQ D nx c e d) 0 26 := by
  rw [Bool.eq_iff_iff, exB_iff, exB_iff]
  constructor
  · rintro ⟨v, a, b, q⟩
    by_cases z : v < 26
    · exact ⟨v, a, by omega, q⟩
    · refine ⟨25, by omega, by omega, ?_⟩
      rw [← clQ_late h hc he (v - 25), show 25 + (v - 25) = v by omega]
      exact q
  · rintro ⟨v, a, b, q⟩
    exact ⟨v, a, by omega, q⟩
theorem ever_e (h : Fall S nx) (hg : TrR g nx) (hd : gI g 254 5 = D) {c e d : Nat} (hc : c < 25) (he : e < 25) (hD : d < 100) : q_Str_everOnOne (nI c) (nI e) (nI d) g = some (bI (exB (clQ D nx c e d) 0 26 = true), g) := ever_c h hg hd hc he hD 26 0 FU (by omega) (by decide)
theorem clash_e (h : Fall S nx) (hf : M389 f nx) (hd : gI f 369 3 = D) {c e d : Nat} (hc : c < 25) (he : e < 25) (hD : d < 100) : q_Mo_clash (nI c) (nI e) (nI d) f = some (bI (exB (clQ D nx c e d) 0 26 = true), f) := by
  rw [← exB_late h hc he]
  exact clash_m h hf hd hc he hD 100 0 FU false (by omega) (by decide)
theorem delay_l (h : Fall S nx) (hg : TrR g nx) (hd : gI g 254 5 = D) (hf : M389 f nx) (hd2 : gI f 369 3 = D) {c e : Nat} (hc : c < 25) (he : e < 25) : ∀ (m i F F' : Nat), i + m = 31 → m < F → m < F' → ∃ r, q_MP_delay_12L (nI c) (nI e) (fun g17 => some ((-1 : Int32), g17)) F (nI i) g = some (r, g) ∧ q_Mo_delay_15L (nI c) (nI e) (fun x18 g19 => q_Mo_delay_26 x18 g19) F' (nI i) f = some (r, f) := by
  intro m
  induction m with
  | zero =>
    intro i F F' h1 h2 h3
    obtain ⟨F, rfl⟩ : ∃ q, F = q + 1 := ⟨F - 1, by omega⟩
    obtain ⟨F', rfl⟩ : ∃ q, F' = q + 1 := ⟨F' - 1, by omega⟩
    obtain rfl : i = 31 := by omega
    rw [q_MP_delay_12L_s, q_Mo_delay_15L_s]
    unfold q_MP_delay_12 q_Mo_delay_15 q_Mo_delay_26
    rw [if_pos (by decide), if_pos (by decide)]
    exact ⟨-1, rfl, if_neg (by decide)⟩
  | succ m ih =>
    intro i F F' h1 h2 h3
    obtain ⟨F, rfl⟩ : ∃ q, F = q + 1 := ⟨F - 1, by omega⟩
    obtain ⟨F', rfl⟩ : ∃ q, F' = q + 1 := ⟨F' - 1, by omega⟩
    have lt : ¬ (30 : Int32) < nI i := nI_ngt (b := 30) (by omega) (by omega)
    rw [q_MP_delay_12L_s, q_Mo_delay_15L_s]
    unfold q_MP_delay_12 q_Mo_delay_15
    rw [if_neg lt, if_neg lt, ever_e h hg hd hc he (by omega), clash_e h hf hd2 hc he (by omega), bnd_s, bnd_s, nI_1]
    by_cases z : exB (clQ D nx c e i) 0 26 = true
    · rw [bI_t z, if_neg (by decide), if_neg (by decide)]
      exact ih (i + 1) F F' (by omega) (by omega) (by omega)
    · rw [bI_f z, if_pos rfl, if_pos rfl]
      unfold q_Mo_delay_26
      exact ⟨_, rfl, if_pos (show nI i ≤ (30 : Int32) from nI_le (b := 30) (by omega) (by decide))⟩
end DL
theorem sp_delay {g : hG} (h : Inv g) (c e : Int32) : Sp (q_MP_delay c e) (q_Mo_delay c e) g := by
  by_cases hc : isC c
  · by_cases he : isC e
    · obtain ⟨k, hk, rfl⟩ := isC_n hc
      obtain ⟨j, hj, rfl⟩ := isC_n he
      obtain ⟨S, nx, gt, t1, t2, t3, t4, t5, t6, t7, t8⟩ := both_tr h
      obtain ⟨gm, l1, l2, l3⟩ := t8 gt t3
      obtain ⟨r, e1, e2⟩ := delay_l (D := gI g 369 3) t1 t4 t5 l3 (by rw [l2.I rfl, t3.I rfl]) hk hj 31 0 FU FU (by omega) (by decide) (by decide)
      refine Sp.q (r := r) (g1 := gt) (g2 := gm) ?_ ?_ (h.un (t3.tr l2))
      · unfold q_MP_delay
        rw [isCell_c, bnd_s, bI_t hc, if_neg (by decide), isCell_c, bnd_s, bI_t he, if_neg (by decide), t2, bnd_s]
        exact e1
      · unfold q_Mo_delay
        rw [wr_e, isCell_m, bnd_s, bI_t hc, if_neg (by decide), isCell_m, bnd_s, bI_t he, if_neg (by decide), l1, bnd_s]
        exact e2
    · refine Sp.q (r := -1) (g1 := g) (g2 := sI g 367 0 0) ?_ ?_ (inv_0 h)
      · unfold q_MP_delay
        rw [isCell_c, bnd_s, bI_t hc, if_neg (by decide), isCell_c, bnd_s, bI_f he, if_pos rfl]
      · unfold q_Mo_delay
        rw [wr_e, isCell_m, bnd_s, bI_t hc, if_neg (by decide), isCell_m, bnd_s, bI_f he, if_pos rfl]
  · refine Sp.q (r := -1) (g1 := g) (g2 := sI g 367 0 0) ?_ ?_ (inv_0 h)
    · unfold q_MP_delay
      rw [isCell_c, bnd_s, bI_f hc, if_pos rfl]
    · unfold q_Mo_delay
      rw [wr_e, isCell_m, bnd_s, bI_f hc, if_pos rfl]
