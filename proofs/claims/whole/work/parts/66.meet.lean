/-! meeting, delay -/
theorem nI_lt' {a b : Nat} (h : a < b) (hb : b < 2 ^ 31) : nI a < nI b := Int32.not_le.mp (nI_ge h hb)
theorem nI_ngt {a b : Nat} (h : a ≤ b) (hb : b < 2 ^ 31) : ¬ nI b < nI a := Int32.not_lt.mpr (nI_le h hb)
theorem cells_l {S : Nat → Int32} {nx : Nat → Nat} {g f : hG} (h : Fall S nx) (hg : TrR g nx) (hf : M389 f nx) {c : Nat} (hc : c < 25) : ∀ (m i F F' : Nat) (x : Int32), i + m = hF nx 25 c + 1 → m < F → m < F' → ∃ r, q_Str_cellsOf_4L (nI c) (fun x5 g7 => some (x5, g7)) F x (nI i) g = some (r, g) ∧ q_Mo_cellsOf_4L (nI c) (fun x8 g10 => some (x8, g10)) F' x (nI i) f = some (r, f) := by
  have x0 := hF_25 h hc
  intro m
  induction m with
  | zero =>
    intro i F F' x h1 h2 h3
    obtain ⟨F, rfl⟩ : ∃ q, F = q + 1 := ⟨F - 1, by omega⟩
    obtain ⟨F', rfl⟩ : ∃ q, F' = q + 1 := ⟨F' - 1, by omega⟩
    have lt : nI (hF nx 25 c) < nI i := nI_lt' (by omega) (by omega)
    rw [q_Str_cellsOf_4L_s, q_Mo_cellsOf_4L_s]
    unfold q_Str_cellsOf_4 q_Mo_cellsOf_4
    rw [gd_nI hc (by omega), nI_clamp (by omega), (hg c hc).2.1, hours_e h hf hc, bnd_s, if_pos lt, if_pos lt]
    exact ⟨x, rfl, rfl⟩
  | succ m ih =>
    intro i F F' x h1 h2 h3
    obtain ⟨F, rfl⟩ : ∃ q, F = q + 1 := ⟨F - 1, by omega⟩
    obtain ⟨F', rfl⟩ : ∃ q, F' = q + 1 := ⟨F' - 1, by omega⟩
    have lt : ¬ nI (hF nx 25 c) < nI i := nI_ngt (by omega) (by omega)
    rw [q_Str_cellsOf_4L_s, q_Mo_cellsOf_4L_s]
    unfold q_Str_cellsOf_4 q_Mo_cellsOf_4
    rw [gd_nI hc (by omega), nI_clamp (by omega), (hg c hc).2.1, hours_e h hf hc, bnd_s, if_neg lt, if_neg lt, after_e h hg hc (by omega), behind_e h hf hc (by omega), bnd_s, bnd_s, nI_1]
    exact ih (i + 1) F F' _ (by omega) (by omega) (by omega)
/-- the first that is so -/
def fuX (P : Nat → Bool) (p : Nat → Int32) (x : Int32) : Nat → Nat → Int32
  | _, 0 => x
  | i, m + 1 => if P i = true then p i else fuX P p x (i + 1) m
theorem fuX_snoc (P : Nat → Bool) (p : Nat → Int32) (x : Int32) : ∀ m i, fuX P p x i (m + 1) = fuX P p (if P (i + m) = true then p (i + m) else x) i m
  | 0, i => rfl
  | m + 1, i => by
    rw [fuX, fuX_snoc P p x m (i + 1), show i + 1 + m = i + (m + 1) by omega]
    conv => rhs; rw [fuX]
theorem meet_c {S : Nat → Int32} {nx : Nat → Nat} {g : hG} (h : Fall S nx) (hg : TrR g nx) {c : Nat} (hc : c < 25) (s : Int32) : ∀ (m i F : Nat), i + m = hF nx 25 c + 1 → m < F → q_Str_firstOnBoth_6L (nI c) s (fun g14 => some ((-1 : Int32), g14)) F (nI i) g = some (fuX (fun j => decide (bt s (nI (eF nx j c)))) (fun j => nI (eF nx j c)) (-1) i m, g) := by
  have x0 := hF_25 h hc
  intro m
  induction m with
  | zero =>
    intro i F h1 h2
    obtain ⟨F, rfl⟩ : ∃ q, F = q + 1 := ⟨F - 1, by omega⟩
    rw [q_Str_firstOnBoth_6L_s]
    unfold q_Str_firstOnBoth_6
    rw [gd_nI hc (by omega), nI_clamp (by omega), (hg c hc).2.1, if_pos (nI_lt' (by omega) (by omega))]
    rfl
  | succ m ih =>
    intro i F h1 h2
    obtain ⟨F, rfl⟩ : ∃ q, F = q + 1 := ⟨F - 1, by omega⟩
    rw [q_Str_firstOnBoth_6L_s]
    unfold q_Str_firstOnBoth_6
    rw [gd_nI hc (by omega), nI_clamp (by omega), (hg c hc).2.1, if_neg (nI_ngt (by omega) (by omega)), after_e h hg hc (by omega), bnd_s, isA_c, bnd_s, fuX]
    by_cases z : bt s (nI (eF nx i c))
    · rw [bI_t z, if_neg (by decide), if_pos (by simpa using z)]
    · rw [bI_f z, if_pos rfl, if_neg (by simpa using z), nI_1]
      exact ih (i + 1) F (by omega) (by omega)
theorem meet_m {S : Nat → Int32} {nx : Nat → Nat} {f : hG} (h : Fall S nx) (hf : M389 f nx) {c : Nat} (hc : c < 25) {e s : Int32} (he : q_Mo_cellsOf e f = some (s, f)) : ∀ (v F : Nat) (x : Int32), v < 2 ^ 31 → v + 1 < F → q_Mo_meeting_19L (nI c) e (fun x30 g32 => some (x30, g32)) F x (nI v) f = some (fuX (fun j => decide (bt s (nI (eF nx j c)))) (fun j => nI (eF nx j c)) x 0 (v + 1), f) := by
  intro v
  induction v with
  | zero =>
    intro F x hv h2
    obtain ⟨F, rfl⟩ : ∃ q, F = q + 1 := ⟨F - 1, by omega⟩
    obtain ⟨F, rfl⟩ : ∃ q, F = q + 1 := ⟨F - 1, by omega⟩
    rw [q_Mo_meeting_19L_s]
    unfold q_Mo_meeting_19
    rw [if_neg (show ¬ nI 0 < 0 by decide), he, bnd_s, behind_e h hf hc hv, bnd_s, is_m, bnd_s]
    rw [fuX, fuX]
    by_cases z : bt s (nI (eF nx 0 c))
    · rw [bI_t z, if_neg (by decide), if_pos (by simpa using z), behind_e h hf hc hv, bnd_s, q_Mo_meeting_19L_s]
      unfold q_Mo_meeting_19
      rw [if_pos (by decide)]
    · rw [bI_f z, if_pos rfl, if_neg (by simpa using z), q_Mo_meeting_19L_s]
      unfold q_Mo_meeting_19
      rw [if_pos (by decide)]
  | succ v ih =>
    intro F x hv h2
    obtain ⟨F, rfl⟩ : ∃ q, F = q + 1 := ⟨F - 1, by omega⟩
    rw [q_Mo_meeting_19L_s]
    unfold q_Mo_meeting_19
    rw [if_neg (show ¬ nI (v + 1) < 0 from Int32.not_lt.mpr (nI_pos' hv)), he, bnd_s, behind_e h hf hc hv, bnd_s, is_m, bnd_s, fuX_snoc, Nat.zero_add]
    by_cases z : bt s (nI (eF nx (v + 1) c))
    · rw [bI_t z, if_neg (by decide), if_pos (by simpa using z), behind_e h hf hc hv, bnd_s, nI_m1]
      exact ih F _ (by omega) (by omega)
    · rw [bI_f z, if_pos rfl, if_neg (by simpa using z), nI_m1]
      exact ih F _ (by omega) (by omega)
theorem sp_meeting {g : hG} (h : Inv g) (c e : Int32) : Sp (q_MP_meeting c e) (q_Mo_meeting c e) g := by
  by_cases hc : isC c
  · by_cases he : isC e
    · obtain ⟨k, hk, rfl⟩ := isC_n hc
      obtain ⟨j, hj, rfl⟩ := isC_n he
      obtain ⟨S, nx, gt, t1, t2, t3, t4, t5, t6, t7, t8⟩ := both_tr h
      obtain ⟨gm, l1, l2, l3⟩ := t8 gt t3
      have x0 := hF_25 t1 hk
      have x1 := hF_25 t1 hj
      have fu : ∀ n, n < 26 → n < FU := fun n hn => Nat.lt_trans hn (by decide)
      obtain ⟨s, s1, s2⟩ := cells_l t1 t4 l3 hj (hF nx 25 j + 1) 0 FU FU 0 (by omega) (fu _ (by omega)) (fu _ (by omega))
      have a := meet_c t1 t4 hk s (hF nx 25 k + 1) 0 FU (by omega) (fu _ (by omega))
      have b := meet_m t1 l3 hk (e := nI j) (s := s) s2 (hF nx 25 k) FU (-1) (by omega) (Nat.lt_trans (show hF nx 25 k + 1 < 26 by omega) (by decide))
      refine Sp.q (r := fuX (fun q => decide (bt s (nI (eF nx q k)))) (fun q => nI (eF nx q k)) (-1) 0 (hF nx 25 k + 1)) (g1 := gt) (g2 := gm) ?_ ?_ (h.un (t3.tr l2))
      · unfold q_MP_meeting
        rw [isCell_c, bnd_s, bI_t hc, if_neg (by decide), isCell_c, bnd_s, bI_t he, if_neg (by decide), t2, bnd_s]
        unfold q_Str_firstOnBoth q_Str_cellsOf
        rw [show q_Str_cellsOf_4L (nI j) (fun x5 g7 => some (x5, g7)) FU 0 0 gt = some (s, gt) from s1, bnd_s]
        exact congrArg (fun x => bnd x _) a
      · unfold q_Mo_meeting
        rw [wr_e, isCell_m, bnd_s, bI_t hc, if_neg (by decide), isCell_m, bnd_s, bI_t he, if_neg (by decide), l1, bnd_s, hours_e t1 l3 hk, bnd_s]
        exact b
    · refine Sp.q (r := -1) (g1 := g) (g2 := sI g 367 0 0) ?_ ?_ (inv_0 h)
      · unfold q_MP_meeting
        rw [isCell_c, bnd_s, bI_t hc, if_neg (by decide), isCell_c, bnd_s, bI_f he, if_pos rfl]
      · unfold q_Mo_meeting
        rw [wr_e, isCell_m, bnd_s, bI_t hc, if_neg (by decide), isCell_m, bnd_s, bI_f he, if_pos rfl]
  · refine Sp.q (r := -1) (g1 := g) (g2 := sI g 367 0 0) ?_ ?_ (inv_0 h)
    · unfold q_MP_meeting
      rw [isCell_c, bnd_s, bI_f hc, if_pos rfl]
    · unfold q_Mo_meeting
      rw [wr_e, isCell_m, bnd_s, bI_f hc, if_pos rfl]
