/-! how a cell stands, whether a drop is held there, by the model -/
def sT (a k : Nat) : Bool := a == 385 || a == 387 || (a == 367 && (k == 34 || k == 38 || k == 39 || k == 40))
theorem sRk_sT {g g' : hG} (u : Un sRk g g') : Un sT g g' := u.mo (fun a k z => Bool.eq_false_iff.mpr (fun y => by
  have z' := Bool.eq_false_iff.mp z
  simp only [sRk, sT, Ne, Bool.or_eq_true, Bool.and_eq_true, beq_iff_eq] at y z'
  omega))
/-- what stands while a law is asked of a cell -/
def Ask (g : hG) (base : Nat) (seg : Nat → Int32) (f : Nat → Int32) : Prop := base + 900 ≤ 5468 ∧ (∀ j, j < 900 → gI g 369 (base + j) = seg j) ∧ gI g 367 34 = nI base ∧ gI g 367 20 = 0 ∧ (∀ j, j < 7 → gJ g 385 (j + 1) = (f j).toInt64) ∧ ∀ j, j < 7 → f j ≠ BRK
def sR2 (a k : Nat) : Bool := a == 387 || (a == 367 && (k == 38 || k == 39 || k == 40))
theorem Ask.un {g g' : hG} {base : Nat} {seg f : Nat → Int32} (h : Ask g base seg f) (u : Un sR2 g g') : Ask g' base seg f :=
  ⟨h.1, fun j hj => (u.I rfl).trans (h.2.1 j hj), (u.I rfl).trans h.2.2.1, (u.I rfl).trans h.2.2.2.1, fun j hj => (u.J rfl).trans (h.2.2.2.2.1 j hj), h.2.2.2.2.2⟩
theorem sRk_sR2 {g g' : hG} (u : Un sRk g g') : Un sR2 g g' := u.mo (fun a k z => Bool.eq_false_iff.mpr (fun y => by
  have z' := Bool.eq_false_iff.mp z
  simp only [sRk, sR2, Ne, Bool.or_eq_true, Bool.and_eq_true, beq_iff_eq] at y z'
  omega))
theorem sR2_sT {g g' : hG} (u : Un sR2 g g') : Un sT g g' := u.mo (fun a k z => Bool.eq_false_iff.mpr (fun y => by
  have z' := Bool.eq_false_iff.mp z
  simp only [sR2, sT, Ne, Bool.or_eq_true, Bool.and_eq_true, beq_iff_eq] at y z'
  omega))
theorem so37 {g : hG} {base : Nat} {seg f : Nat → Int32} (A : Ask g base seg f) {L : Lw} (hL : LwM L seg) {i : Nat} (hi : i < L.1) : ∃ g', q_Mo_isSo_37 (nI (base + 2 + 8 * i)) g = some (bI (L.2.1 i = true ∨ (L.2.2.2 i f).isSome = true), g') ∧ Un sR2 g g' ∧ (L.2.1 i = false → ∀ v, L.2.2.2 i f = some v → gJ g' 367 40 = v.toInt64) := by
  obtain ⟨b1, b2, b3, b4, b5⟩ := A
  have hn := hL.1
  obtain ⟨k1, k2, k3, k4⟩ := hL.2.2 i hi
  unfold q_Mo_isSo_37
  rw [gd_nI (by omega) (by omega), nI_clamp (by omega), show base + 2 + 8 * i = base + (2 + 8 * i) by omega, b2 _ (by omega), k1]
  by_cases hh : L.2.1 i = true
  · rw [if_pos hh, if_pos rfl, bI_t (Or.inl hh)]
    exact ⟨g, rfl, Un.rf, fun q => by rw [hh] at q; cases q⟩
  · have hf : L.2.1 i = false := by simpa using hh
    rw [if_neg hh, if_neg (by decide), show nI (base + (2 + 8 * i)) + (3 : Int32) = nI (base + (2 + 8 * i + 3)) from nI_add _ 3, show nI (base + (2 + 8 * i)) + (4 : Int32) = nI (base + (2 + 8 * i + 4)) from nI_add _ 4, gd_nI (by omega) (by omega), gd_nI (by omega) (by omega), nI_clamp (by omega), nI_clamp (by omega), b2 _ (by omega), b2 _ (by omega)]
    obtain ⟨g1, r1, r2, r3⟩ := k4 hf base g f b1 b2 b3 b4 b5
    rw [r1, bnd_s, wr_e, gI_sJ]
    refine ⟨sJ g1 367 40 (gJ g1 367 39), ?_, (sRk_sR2 r2).sJ rfl _, fun _ v hv => ?_⟩
    · cases hs : L.2.2.2 i f with
      | none =>
        rw [hs] at r3
        have r3' : gI g1 367 38 = 1 := r3
        rw [r3', if_neg (by decide), bI_f (by rw [hf]; simp)]
      | some v =>
        rw [hs] at r3
        have r3' : gI g1 367 38 = 0 := r3.1
        rw [r3', if_pos rfl, bI_t (show L.2.1 i = true ∨ (some v : Option Int32).isSome = true from Or.inr rfl)]
    · rw [hv] at r3
      rw [jd_s]
      exact r3.2
theorem isSo_m {g : hG} {base : Nat} {seg f : Nat → Int32} (A : Ask g base seg f) {L : Lw} (hL : LwM L seg) {i : Nat} (hi : i < L.1) : ∃ g', q_Mo_isSo (nI (base + 2 + 8 * i)) g = some (bI (L.2.2.1 i f = some 1 ∧ (L.2.1 i = true ∨ (L.2.2.2 i f).isSome = true)), g') ∧ Un sR2 g g' ∧ (L.2.1 i = false → L.2.2.1 i f = some 1 → ∀ v, L.2.2.2 i f = some v → gJ g' 367 40 = v.toInt64) := by
  obtain ⟨b1, b2, b3, b4, b5⟩ := id A
  have hn := hL.1
  obtain ⟨k1, k2, k3, k4⟩ := hL.2.2 i hi
  unfold q_Mo_isSo
  rw [show nI (base + 2 + 8 * i) + (5 : Int32) = nI (base + (2 + 8 * i + 5)) by rw [show (5 : Int32) = nI 5 from rfl, nI_add]; congr 1; omega, show nI (base + 2 + 8 * i) + (6 : Int32) = nI (base + (2 + 8 * i + 6)) by rw [show (6 : Int32) = nI 6 from rfl, nI_add]; congr 1; omega, gd_nI (by omega) (by omega), gd_nI (by omega) (by omega), gd_nI (by omega) (by omega), gd_nI (by omega) (by omega), nI_clamp (by omega), nI_clamp (by omega), b2 _ (by omega), b2 _ (by omega)]
  rcases k2 with ⟨q1, q2⟩ | ⟨q1, q2⟩
  · rw [if_neg (show ¬ seg (2 + 8 * i + 6) ≤ seg (2 + 8 * i + 5) by grind)]
    obtain ⟨g1, r1, r2, r3⟩ := q2 base g f b1 b2 b3 b4 b5
    rw [r1, bnd_s]
    cases ht : L.2.2.1 i f with
    | none =>
      rw [ht] at r3
      have r3' : gI g1 367 38 = 1 := r3
      rw [r3', if_neg (by decide), bI_f (fun z => by cases z.1)]
      exact ⟨g1, rfl, sRk_sR2 r2, fun _ z => by cases z⟩
    | some v =>
      rw [ht] at r3
      have r3' : gI g1 367 38 = 0 := r3.1
      have r3'' : gJ g1 367 39 = v.toInt64 := r3.2
      rw [r3', if_pos rfl, r3'']
      rcases k3 f v ht with rfl | rfl
      · rw [if_pos (by decide), bI_f (fun z => by cases z.1)]
        exact ⟨g1, rfl, sRk_sR2 r2, fun _ z => by cases z⟩
      · rw [if_neg (by decide)]
        obtain ⟨g', e1, e2, e3⟩ := so37 (A.un (sRk_sR2 r2)) hL hi
        refine ⟨g', ?_, (sRk_sR2 r2).tr e2, fun z _ => e3 z⟩
        rw [e1]
        by_cases w : L.2.1 i = true ∨ (L.2.2.2 i f).isSome = true
        · rw [bI_t w, bI_t ⟨rfl, w⟩]
        · rw [bI_f w, bI_f (fun z => w z.2)]
  · rw [if_pos (show seg (2 + 8 * i + 6) ≤ seg (2 + 8 * i + 5) by grind)]
    obtain ⟨g', e1, e2, e3⟩ := so37 A hL hi
    have ht : L.2.2.1 i f = some 1 := by rw [q2]
    refine ⟨g', ?_, e2, fun z _ => e3 z⟩
    rw [e1]
    by_cases w : L.2.1 i = true ∨ (L.2.2.2 i f).isSome = true
    · rw [bI_t w, bI_t ⟨ht, w⟩]
    · rw [bI_f w, bI_f (fun z => w z.2)]
def toS (L : Lw) (f : Nat → Int32) (i : Nat) (acc : Int64) : Int64 := if L.2.1 i = false ∧ L.2.2.1 i f = some 1 then (match L.2.2.2 i f with
  | some v => v.toInt64
  | none => acc) else acc
def toH (L : Lw) (f : Nat → Int32) (i : Nat) (acc : Int64) : Int64 := if L.2.1 i = true ∧ L.2.2.1 i f = some 1 then 1 else acc
theorem tells_loop {base : Nat} {seg f : Nat → Int32} {L : Lw} (hL : LwM L seg) (h : Nat) (hh : h < 2) : ∀ (m i F : Nat) (g : hG) (acc : Int64), i + m = L.1 → m < F → Ask g base seg f →
    ∃ g', q_Mo_tells_85L (nI h) (fun x31 g34 => some (x31, g34)) F acc (nI i) g = some (it (if h = 0 then toS L f else toH L f) i m acc, g') ∧ Un sR2 g g' := by
  intro m
  induction m with
  | zero =>
    intro i F g acc h1 h2 A
    obtain ⟨F, rfl⟩ : ∃ q, F = q + 1 := ⟨F - 1, by omega⟩
    obtain ⟨b1, b2, b3, b4, b5⟩ := id A
    have hn := hL.1
    rw [q_Mo_tells_85L_s]
    unfold q_Mo_tells_85
    rw [b3, nI_1, gd_nI (by omega) (by omega), nI_clamp (by omega), b2 1 (by omega), hL.2.1, if_pos (nI_le (by omega) (by omega))]
    exact ⟨g, rfl, Un.rf⟩
  | succ m ih =>
    intro i F g acc h1 h2 A
    obtain ⟨F, rfl⟩ : ∃ q, F = q + 1 := ⟨F - 1, by omega⟩
    obtain ⟨b1, b2, b3, b4, b5⟩ := id A
    have hn := hL.1
    obtain ⟨k1, k2, k3, k4⟩ := hL.2.2 i (by omega)
    have ek : nI base + (2 : Int32) + (8 : Int32) * nI i = nI (base + 2 + 8 * i) := by rw [show (2 : Int32) = nI 2 from rfl, show (8 : Int32) = nI 8 from rfl, nI_add, pk_mul, nI_add]
    obtain ⟨g1, s1, s2, s3⟩ := isSo_m A hL (i := i) (by omega)
    rw [q_Mo_tells_85L_s]
    unfold q_Mo_tells_85
    rw [b3, ek, nI_1, nI_1, gd_nI (by omega) (by omega), gd_nI (by omega) (by omega), nI_clamp (by omega), nI_clamp (by omega), b2 1 (by omega), hL.2.1, if_neg (nI_ge (by omega) (by omega)), show base + 2 + 8 * i = base + (2 + 8 * i) by omega, b2 _ (by omega), k1, show base + (2 + 8 * i) = base + 2 + 8 * i by omega, s1, bnd_s]
    have go : ∀ acc', acc' = (if h = 0 then toS L f else toH L f) i acc → ∃ g', q_Mo_tells_85L (nI h) (fun x31 g34 => some (x31, g34)) F acc' (nI (i + 1)) g1 = some (it (if h = 0 then toS L f else toH L f) i (m + 1) acc, g') ∧ Un sR2 g g' := fun acc' e => by
      obtain ⟨g', e1, e2⟩ := ih (i + 1) F g1 acc' (by omega) (by omega) (A.un s2)
      exact ⟨g', by rw [e1, e]; rfl, s2.tr e2⟩
    have go0 : acc = (if h = 0 then toS L f else toH L f) i acc → ∃ g', q_Mo_tells_85L (nI h) (fun x31 g34 => some (x31, g34)) F acc (nI (i + 1)) g = some (it (if h = 0 then toS L f else toH L f) i (m + 1) acc, g') ∧ Un sR2 g g' := fun e => by
      obtain ⟨g', e1, e2⟩ := ih (i + 1) F g acc (by omega) (by omega) A
      exact ⟨g', by rw [e1]; rw [it, ← e], e2⟩
    have h01 : h = 0 ∨ h = 1 := by omega
    by_cases hd : L.2.1 i = true
    · rw [if_pos hd]
      rcases h01 with rfl | rfl
      · rw [if_neg (show ¬ (1 : Int32) = nI 0 by decide)]
        exact go0 (by rw [if_pos rfl, toS, if_neg (by rw [hd]; simp)])
      · rw [if_pos (show (1 : Int32) = nI 1 from rfl)]
        by_cases ht : L.2.2.1 i f = some 1
        · rw [bI_t ⟨ht, Or.inl hd⟩, if_neg (by decide), if_pos (show nI 1 = 1 from rfl)]
          exact go 1 (by rw [if_neg (by decide), toH, if_pos ⟨hd, ht⟩])
        · rw [bI_f (fun z => ht z.1), if_pos rfl]
          exact go acc (by rw [if_neg (by decide), toH, if_neg (fun z => ht z.2)])
    · have hf : L.2.1 i = false := by simpa using hd
      rw [if_neg hd]
      rcases h01 with rfl | rfl
      · rw [if_pos (show (0 : Int32) = nI 0 from rfl)]
        by_cases ht : L.2.2.1 i f = some 1
        · cases hs : L.2.2.2 i f with
          | none =>
            rw [hs] at s1
            rw [bI_f (fun z => by rcases z.2 with z | z; exact hd z; cases z), if_pos rfl]
            exact go acc (by rw [if_pos rfl, toS, if_pos ⟨hf, ht⟩, hs])
          | some v =>
            rw [bI_t ⟨ht, Or.inr rfl⟩, if_neg (by decide), if_neg (show ¬ nI 0 = 1 by decide)]
            exact go _ (by rw [if_pos rfl, toS, if_pos ⟨hf, ht⟩, hs]; exact s3 hf ht v hs)
        · rw [bI_f (fun z => ht z.1), if_pos rfl]
          exact go acc (by rw [if_pos rfl, toS, if_neg (fun z => ht z.2)])
      · rw [if_neg (show ¬ (0 : Int32) = nI 1 by decide)]
        exact go0 (by rw [if_neg (by decide), toH, if_neg (by rw [hf]; simp)])
