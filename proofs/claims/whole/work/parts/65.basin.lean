/-! basin, springs, longest -/
def M389 (g : hG) (nx : Nat → Nat) : Prop := ∀ c, c < 25 → gI g 389 c = nI (nx c)
section WE
variable {S : Nat → Int32} {nx : Nat → Nat} {g : hG}
theorem behind_e (h : Fall S nx) (hg : M389 g nx) {c m : Nat} (hc : c < 25) (hm : m < 2 ^ 31) : q_Mo_behind (nI c) (nI m) g = some (nI (eF nx m c), g) := by
  have r0 := rk_lt (S := S) c hc
  unfold q_Mo_behind
  rw [show (0 : Int32) = nI 0 from rfl, behind_m h m hm _ g hg FU c 0 hc (Nat.lt_of_lt_of_le r0 (by decide)) (by omega)]
  rfl
theorem hours_e (h : Fall S nx) (hg : M389 g nx) {c : Nat} (hc : c < 25) : q_Mo_hoursOf (nI c) g = some (nI (hF nx 25 c), g) := by
  have r0 := rk_lt (S := S) c hc
  unfold q_Mo_hoursOf
  rw [show (0 : Int32) = nI 0 from rfl, hours_m h _ g hg FU c 0 hc (Nat.lt_of_lt_of_le r0 (by decide)) (by omega), Nat.zero_add, FU_25, (hF_big h hc _).1]
theorem end_e (h : Fall S nx) (hg : M389 g nx) {c : Nat} (hc : c < 25) : q_Mo_endOf (nI c) g = some (nI (eF nx 25 c), g) := by
  unfold q_Mo_endOf
  rw [show (25 : Int32) = nI 25 from rfl, behind_e h hg hc (by decide), bnd_s]
theorem after_e (h : Fall S nx) (hg : TrR g nx) {c m : Nat} (hc : c < 25) (hm : m < 2 ^ 31) : q_Str_placeAfter (nI c) (nI m) g = some (nI (eF nx m c), g) := by
  have r0 := rk_lt (S := S) c hc
  unfold q_Str_placeAfter
  rw [show (0 : Int32) = nI 0 from rfl, after_c h m hm _ g hg hc FU c 0 hc (Nat.lt_of_lt_of_le r0 (by decide)) (by omega) (by omega)]
  rfl
theorem eF_in (h : Fall S nx) : ∀ m c, c < 25 → eF nx m c < 25
  | 0, _, hc => hc
  | m + 1, c, hc => by
    unfold eF
    split
    · exact hc
    · exact eF_in h m (nx c) (h c hc).1
theorem hF_25 (h : Fall S nx) {c : Nat} (hc : c < 25) : hF nx 25 c < 25 := Nat.lt_of_le_of_lt (hF_in h 25 c hc (rk_lt c hc)).1 (rk_lt c hc)
end WE
theorem basin_l {S : Nat → Int32} {nx : Nat → Nat} {g f : hG} (h : Fall S nx) (hg : TrR g nx) (hf : M389 f nx) {k : Nat} (hk : k < 25) : ∀ (m i F F' : Nat) (x : Int32), i + m = 25 → m < F → m < F' → ∃ r, q_Str_endingAt_4L (nI k) (fun x3 g5 => some (x3, g5)) F x (nI i) g = some (r, g) ∧ q_Mo_basin_14L (nI k) (fun x14 g16 => some (x14, g16)) F' x (nI i) f = some (r, f) := by
  intro m
  induction m with
  | zero =>
    intro i F F' x h1 h2 h3
    obtain ⟨F, rfl⟩ : ∃ q, F = q + 1 := ⟨F - 1, by omega⟩
    obtain ⟨F', rfl⟩ : ∃ q, F' = q + 1 := ⟨F' - 1, by omega⟩
    obtain rfl : i = 25 := by omega
    rw [q_Str_endingAt_4L_s, q_Mo_basin_14L_s]
    unfold q_Str_endingAt_4 q_Mo_basin_14
    rw [if_pos (by decide), if_pos (by decide)]
    exact ⟨x, rfl, rfl⟩
  | succ m ih =>
    intro i F F' x h1 h2 h3
    obtain ⟨F, rfl⟩ : ∃ q, F = q + 1 := ⟨F - 1, by omega⟩
    obtain ⟨F', rfl⟩ : ∃ q, F' = q + 1 := ⟨F' - 1, by omega⟩
    have hi : i < 25 := by omega
    have ne : ¬ (25 : Int32) ≤ nI i := nI_ge (a := i) (b := 25) (by omega) (by decide)
    rw [q_Str_endingAt_4L_s, q_Mo_basin_14L_s]
    unfold q_Str_endingAt_4 q_Mo_basin_14
    rw [if_neg ne, if_neg ne, gd_nI hi (by omega), nI_clamp (by omega), (hg i hi).2.2, end_e h hf hi, bnd_s, nI_1]
    by_cases z : nI (eF nx 25 i) = nI k
    · rw [if_pos z, if_pos z]
      exact ih (i + 1) F F' _ (by omega) (by omega) (by omega)
    · rw [if_neg z, if_neg z, show x ||| 0 = x from Int32.or_zero]
      exact ih (i + 1) F F' _ (by omega) (by omega) (by omega)
theorem sp_basin {g : hG} (h : Inv g) (c : Int32) : Sp (q_MP_basin c) (q_Mo_basin c) g := by
  by_cases hc : isC c
  · obtain ⟨k, hk, rfl⟩ := isC_n hc
    obtain ⟨S, nx, gt, t1, t2, t3, t4, t5, t6, t7, t8⟩ := both_tr h
    obtain ⟨gm, l1, l2, l3⟩ := t8 gt t3
    obtain ⟨r, e1, e2⟩ := basin_l t1 t4 l3 hk 25 0 FU FU 0 (by omega) (by decide) (by decide)
    refine Sp.q (r := r) (g1 := gt) (g2 := gm) ?_ ?_ (h.un (t3.tr l2))
    · unfold q_MP_basin
      rw [isCell_c, bnd_s, bI_t hc, if_neg (by decide), t2, bnd_s]
      unfold q_Str_endingAt
      rw [show q_Str_endingAt_4L (nI k) (fun x3 g5 => some (x3, g5)) FU 0 0 gt = some (r, gt) from e1, bnd_s]
    · unfold q_Mo_basin
      rw [wr_e, isCell_m, bnd_s, bI_t hc, if_neg (by decide), l1, bnd_s]
      exact e2
  · refine Sp.q (r := -1) (g1 := g) (g2 := sI g 367 0 0) ?_ ?_ (inv_0 h)
    · unfold q_MP_basin
      rw [isCell_c, bnd_s, bI_f hc, if_pos rfl]
    · unfold q_Mo_basin
      rw [wr_e, isCell_m, bnd_s, bI_f hc, if_pos rfl]
theorem springs_b (x s : Int32) : (33554431 &&& (x ^^^ (-1))) &&& (s ^^^ (-1)) = 33554431 &&& ((x ||| s) ^^^ (-1)) := by
  refine bvE (fun i hi => ?_)
  simp only [Int32.toBitVec_and, Int32.toBitVec_or, Int32.toBitVec_xor, BitVec.getLsbD_and, BitVec.getLsbD_or, BitVec.getLsbD_xor, show (-1 : Int32).toBitVec = BitVec.allOnes 32 from by decide, BitVec.getLsbD_allOnes, decide_eq_true hi]
  cases (33554431 : Int32).toBitVec.getLsbD i <;> cases x.toBitVec.getLsbD i <;> cases s.toBitVec.getLsbD i <;> rfl
theorem springs_l {nx : Nat → Nat} {g f : hG} (hn : ∀ c, c < 25 → nx c < 25) (hg : TrR g nx) (hf : M389 f nx) : ∀ (m i F F' : Nat) (x : Int32), i + m = 25 → m < F → m < F' → ∃ r, q_Str_unreached_4L (fun x3 g5 => some (((33554431 : Int32) &&& (x3 ^^^ (-1 : Int32))), g5)) F x (nI i) g = some (r, g) ∧ q_Mo_springs_9L (fun x7 g9 => some (x7, g9)) F' (33554431 &&& (x ^^^ (-1))) (nI i) f = some (r, f) := by
  intro m
  induction m with
  | zero =>
    intro i F F' x h1 h2 h3
    obtain ⟨F, rfl⟩ : ∃ q, F = q + 1 := ⟨F - 1, by omega⟩
    obtain ⟨F', rfl⟩ : ∃ q, F' = q + 1 := ⟨F' - 1, by omega⟩
    obtain rfl : i = 25 := by omega
    rw [q_Str_unreached_4L_s, q_Mo_springs_9L_s]
    unfold q_Str_unreached_4 q_Mo_springs_9
    rw [if_pos (by decide), if_pos (by decide)]
    exact ⟨_, rfl, rfl⟩
  | succ m ih =>
    intro i F F' x h1 h2 h3
    obtain ⟨F, rfl⟩ : ∃ q, F = q + 1 := ⟨F - 1, by omega⟩
    obtain ⟨F', rfl⟩ : ∃ q, F' = q + 1 := ⟨F' - 1, by omega⟩
    have hi : i < 25 := by omega
    have hx := hn i hi
    have ne : ¬ (25 : Int32) ≤ nI i := nI_ge (a := i) (b := 25) (by omega) (by decide)
    rw [q_Str_unreached_4L_s, q_Mo_springs_9L_s]
    unfold q_Str_unreached_4 q_Mo_springs_9
    rw [if_neg ne, if_neg ne, gd_nI hi (by omega), gd_nI hi (by omega), nI_clamp (by omega), (hg i hi).1, hf i hi, nI_1]
    by_cases z : nI (nx i) = nI i
    · rw [if_pos z, if_pos z, gd_nI hi (by omega), show (33554431 &&& (x ^^^ (-1))) &&& (-1 : Int32) = 33554431 &&& (x ^^^ (-1)) from Int32.and_neg_one]
      exact ih (i + 1) F F' _ (by omega) (by omega) (by omega)
    · rw [if_neg z, if_neg z, gd_nI hi (by omega), gd_nI hi (by omega), springs_b]
      exact ih (i + 1) F F' _ (by omega) (by omega) (by omega)
theorem sp_springs {g : hG} (h : Inv g) : Sp q_MP_springs q_Mo_springs g := by
  obtain ⟨S, nx, gt, t1, t2, t3, t4, t5, t6, t7, t8⟩ := both_tr h
  obtain ⟨gm, l1, l2, l3⟩ := t8 gt t3
  obtain ⟨r, e1, e2⟩ := springs_l t6 t4 l3 25 0 FU FU 0 (by omega) (by decide) (by decide)
  refine Sp.q (r := r) (g1 := gt) (g2 := gm) ?_ ?_ (h.un (t3.tr l2))
  · unfold q_MP_springs q_Str_unreached
    rw [t2, bnd_s]
    exact congrArg (fun x => bnd x _) e1
  · unfold q_Mo_springs
    rw [wr_e, l1, bnd_s]
    exact e2
/-- the farthest -/
theorem far_c {nx : Nat → Nat} {g : hG} (hg : TrR g nx) (hx : ∀ c, c < 25 → hF nx 25 c < 25) : ∀ (m i F b : Nat), i + m = 25 → m < F → b < 25 → q_Str_farthest_4L (fun x3 g5 => some (x3, g5)) F (nI b) (nI i) g = some (nI (it (fun j b => if hF nx 25 j ≤ hF nx 25 b then b else j) i m b), g) ∧ it (fun j b => if hF nx 25 j ≤ hF nx 25 b then b else j) i m b < 25 := by
  intro m
  induction m with
  | zero =>
    intro i F b h1 h2 hb
    obtain ⟨F, rfl⟩ : ∃ q, F = q + 1 := ⟨F - 1, by omega⟩
    obtain rfl : i = 25 := by omega
    rw [q_Str_farthest_4L_s]
    unfold q_Str_farthest_4
    rw [if_pos (by decide)]
    exact ⟨rfl, hb⟩
  | succ m ih =>
    intro i F b h1 h2 hb
    obtain ⟨F, rfl⟩ : ∃ q, F = q + 1 := ⟨F - 1, by omega⟩
    have hi : i < 25 := by omega
    have ne : ¬ (25 : Int32) ≤ nI i := nI_ge (a := i) (b := 25) (by omega) (by decide)
    have xi := hx i hi
    have xb := hx b hb
    rw [q_Str_farthest_4L_s]
    unfold q_Str_farthest_4
    rw [if_neg ne, gd_nI hi (by omega), gd_nI hb (by omega), nI_clamp (by omega), nI_clamp (by omega), (hg i hi).2.1, (hg b hb).2.1, nI_1, it]
    by_cases z : hF nx 25 i ≤ hF nx 25 b
    · rw [if_pos (nI_le z (by omega)), if_pos z]
      exact ih (i + 1) F b (by omega) (by omega) hb
    · rw [if_neg (nI_ge (by omega) (by omega)), if_neg z]
      exact ih (i + 1) F i (by omega) (by omega) hi
theorem far_m {S : Nat → Int32} {nx : Nat → Nat} {f : hG} (h : Fall S nx) (hf : M389 f nx) (K : Int32 → Int32 → hG → hO Int32) : ∀ (m i F b : Nat), i + m = 25 → m < F → b < 25 → ∃ x, x < 25 ∧ x = it (fun j b => if hF nx 25 j ≤ hF nx 25 b then b else j) i m b ∧ q_Mo_longest_19L K F (nI (hF nx 25 b)) (nI b) (nI i) f = K (nI (hF nx 25 x)) (nI x) f := by
  intro m
  induction m with
  | zero =>
    intro i F b h1 h2 hb
    obtain ⟨F, rfl⟩ : ∃ q, F = q + 1 := ⟨F - 1, by omega⟩
    obtain rfl : i = 25 := by omega
    rw [q_Mo_longest_19L_s]
    unfold q_Mo_longest_19
    rw [if_pos (by decide)]
    exact ⟨b, hb, rfl, rfl⟩
  | succ m ih =>
    intro i F b h1 h2 hb
    obtain ⟨F, rfl⟩ : ∃ q, F = q + 1 := ⟨F - 1, by omega⟩
    have hi : i < 25 := by omega
    have ne : ¬ (25 : Int32) ≤ nI i := nI_ge (a := i) (b := 25) (by omega) (by decide)
    have xi := hF_25 h hi
    have xb := hF_25 h hb
    rw [q_Mo_longest_19L_s]
    unfold q_Mo_longest_19 q_Mo_longest_32
    rw [if_neg ne, hours_e h hf hi, bnd_s, nI_1, it]
    by_cases z : hF nx 25 i ≤ hF nx 25 b
    · rw [if_pos (nI_le z (by omega)), if_pos (nI_le z (by omega)), if_pos z]
      exact ih (i + 1) F b (by omega) (by omega) hb
    · rw [if_neg (nI_ge (by omega) (by omega)), if_neg (nI_ge (by omega) (by omega)), if_neg z]
      exact ih (i + 1) F i (by omega) (by omega) hi
theorem sp_longest {g : hG} (h : Inv g) (w : Int32) : Sp (q_MP_longest w) (q_Mo_longest w) g := by
  by_cases hw : w = 0 ∨ w = 1
  · obtain ⟨S, nx, gt, t1, t2, t3, t4, t5, t6, t7, t8⟩ := both_tr h
    obtain ⟨gm, l1, l2, l3⟩ := t8 gt t3
    obtain ⟨e1, e2⟩ := far_c t4 (fun c hc => hF_25 t1 hc) 24 1 FU 0 (by omega) (by decide) (by decide)
    have x0 := hF_25 t1 (c := 0) (by decide)
    have em : ∀ K, ∃ x, x < 25 ∧ x = it (fun j b => if hF nx 25 j ≤ hF nx 25 b then b else j) 1 24 0 ∧ q_Mo_longest_19L K FU (-1) (-1) 0 gm = K (nI (hF nx 25 x)) (nI x) gm := fun K => by
      obtain ⟨x, y1, y2, y3⟩ := far_m t1 l3 K 24 1 (FU - 1) 0 (by omega) (by decide) (by decide)
      refine ⟨x, y1, y2, Eq.trans ?_ y3⟩
      rw [show FU = (FU - 1) + 1 from rfl, q_Mo_longest_19L_s]
      unfold q_Mo_longest_19 q_Mo_longest_32
      have a : ¬ nI (hF nx 25 0) ≤ -1 := by
        have p := nI_pos' (show hF nx 25 0 < 2 ^ 31 by omega)
        intro q
        exact absurd (Int32.le_trans p q) (by decide)
      rw [if_neg (by decide), show (0 : Int32) = nI 0 from rfl, hours_e t1 l3 (by decide), bnd_s, if_neg a, if_neg a, nI_1]
      rfl
    generalize it (fun j b => if hF nx 25 j ≤ hF nx 25 b then b else j) 1 24 0 = z at *
    have hi := h.un (t3.tr l2)
    refine Sp.q (r := if w = 0 then nI (hF nx 25 z) else nI z) (g1 := gt) (g2 := gm) ?_ ?_ hi
    · unfold q_MP_longest q_Str_farthest
      rw [if_neg (by rcases hw with rfl | rfl <;> decide), if_pos (by rcases hw with rfl | rfl <;> decide), t2, bnd_s]
      rw [show q_Str_farthest_4L (fun x3 g5 => some (x3, g5)) FU 0 1 gt = some (nI z, gt) from e1, bnd_s, gd_nI e2 (by omega), nI_clamp (by omega), (t4 z e2).2.1]
      split <;> rfl
    · unfold q_Mo_longest
      rw [wr_e, in_e w 0 1 0 1 rfl rfl, bnd_s, bI_t (by rcases hw with rfl | rfl <;> decide), if_neg (by decide), l1, bnd_s]
      obtain ⟨x, y1, rfl, y3⟩ := em (fun x16 x17 g20 => if w = (0 : Int32) then (some (x16, g20)) else (some (x17, g20)))
      rw [y3]
      split <;> rfl
  · have hn : w < 0 ∨ ¬ w ≤ 1 := by
      by_cases a : w < 0
      · exact Or.inl a
      · right
        intro b
        obtain ⟨m, m1, rfl⟩ := (nI_le_iff (n := 1) (by decide) w a).mp b
        exact hw (by
          rcases (show m = 0 ∨ m = 1 by omega) with rfl | rfl
          · exact Or.inl rfl
          · exact Or.inr rfl)
    refine Sp.q (r := -1) (g1 := g) (g2 := sI g 367 0 0) ?_ ?_ (inv_0 h)
    · unfold q_MP_longest
      rcases hn with a | a
      · rw [if_pos a]
      · by_cases b : w < 0
        · rw [if_pos b]
        · rw [if_neg b, if_neg a]
    · unfold q_Mo_longest
      rw [wr_e, in_e w 0 1 0 1 rfl rfl, bnd_s, bI_f (by
        rintro ⟨p, q⟩
        rcases hn with a | a
        · exact absurd p (Int32.not_le.mpr a)
        · exact a q), if_pos rfl]
