/-! how a cell stands, whether a drop is held there: what a law says of its facts -/
/-- a law's meaning: clauses, heads, tests, sums -/
abbrev Lw : Type := Nat × (Nat → Bool) × (Nat → Den) × (Nat → Den)
def clamp (v : Int32) : Int32 := imax 0 (imin 99 v)
def stF (L : Lw) (f : Nat → Int32) (init : Int32) : Int32 := it (fun i acc => if L.2.1 i = false ∧ L.2.2.1 i f = some 1 then (match L.2.2.2 i f with
  | some v => clamp v
  | none => acc) else acc) 0 L.1 init
def hlF (L : Lw) (f : Nat → Int32) : Bool := it (fun i acc => if L.2.1 i = true ∧ L.2.2.1 i f = some 1 then true else acc) 0 L.1 false
/-- a cell's facts at a moment -/
def fcF (r : Nat → Int32) (c hi : Int32) : Nat → Int32 := fun k => if k = 0 then irem c 5 else if k = 1 then c / 5 else if k = 2 then hi else if k = 3 then onesF (loF r c) else if k = 4 then r 0 else if k = 5 then r 1 else r 2
/-- the law at a text of the class, at a segment of the row -/
def LwC (L : Lw) (g : hG) (t : Nat) : Prop := L.1 ≤ 12 ∧ gI g t 2 = nI L.1 ∧ ∀ i, i < L.1 →
  gI g (t + 2) i = (if L.2.1 i = true then 5 else 4) ∧ WorkS 251 (gI g (t + 1)) (gI g t 1) (gI g (t + 6) i) (L.2.2.1 i) ∧ (∀ f v, L.2.2.1 i f = some v → v = 0 ∨ v = 1) ∧
  (L.2.1 i = false → WorkS 251 (gI g (t + 1)) (gI g t 1) (gI g (t + 3) i) (L.2.2.2 i) ∧ ∀ f v, L.2.2.2 i f = some v → v ≠ BRK) ∧ ∀ f f', (∀ k, k < 7 → f k = f' k) → L.2.2.1 i f = L.2.2.1 i f' ∧ L.2.2.2 i f = L.2.2.2 i f'
def LwM (L : Lw) (seg : Nat → Int32) : Prop := L.1 ≤ 12 ∧ seg 1 = nI L.1 ∧ ∀ i, i < L.1 →
  seg (2 + 8 * i) = (if L.2.1 i = true then 1 else 0) ∧ ((seg (2 + 8 * i + 5) < seg (2 + 8 * i + 6) ∧ ReckS seg (seg (2 + 8 * i + 5)) (seg (2 + 8 * i + 6)) (L.2.2.1 i)) ∨ (¬ seg (2 + 8 * i + 5) < seg (2 + 8 * i + 6) ∧ L.2.2.1 i = fun _ => some 1)) ∧
  (∀ f v, L.2.2.1 i f = some v → v = 0 ∨ v = 1) ∧ (L.2.1 i = false → ReckS seg (seg (2 + 8 * i + 3)) (seg (2 + 8 * i + 4)) (L.2.2.2 i))
theorem law_lw {g : hG} {t : Nat} {seg : Nat → Int32} (h : LawR g t seg) : ∃ L : Lw, LwC L g t ∧ LwM L seg := by
  obtain ⟨n, hd, te, su, h1, h2, h3, h4⟩ := h
  refine ⟨(n, hd, te, su), ⟨h1, h2, fun i hi => ?_⟩, ⟨h1, h3, fun i hi => ?_⟩⟩
  · obtain ⟨k1, k2, k3, k4, k5, k6, k7⟩ := h4 i hi
    exact ⟨k1, k3, k5, fun q => ⟨(k6 q).1, (k6 q).2.2⟩, k7⟩
  · obtain ⟨k1, k2, k3, k4, k5, k6, k7⟩ := h4 i hi
    exact ⟨k2, k4, k5, fun q => (k6 q).2.1⟩
/-- the cells of the slope -/
def sS (a k : Nat) : Bool := a == 248 || a == 251 || a == 252 || (a == 250 && (k == 8 || k == 9))
/-- what the class's slope is asked over: the moment at b, the law's number, kerbs -/
def Faced (g : hG) (b : Nat) (r : Nat → Int32) (hi : Nat → Int32) : Prop :=
  is_mom b = true ∧ gP g 250 5 = some b ∧ MomR g b r ∧ gI g 1 2 = r 1 ∧ gI g 1 3 = r 2 ∧ ∀ c, c < 25 → hi c = if bt (gI g 250 7) (nI c) then 9 else r (3 + c)
theorem mom_sS {b : Nat} (h : is_mom b = true) (j k : Nat) (hj : j ≤ 4) : sS (b + j) k = false := by
  have : ∀ a ∈ momL, ∀ j, j ≤ 4 → a + j ≠ 248 ∧ a + j ≠ 250 ∧ a + j ≠ 251 ∧ a + j ≠ 252 ∧ a + j ≠ 253 := by decide +kernel
  have q := this b (mom_in h) j hj
  refine Bool.eq_false_iff.mpr (fun z => ?_)
  simp only [sS, Bool.or_eq_true, Bool.and_eq_true, beq_iff_eq] at z
  omega
theorem Faced.un {g g' : hG} {b : Nat} {r hi : Nat → Int32} (h : Faced g b r hi) (u : Un sS g g') : Faced g' b r hi := by
  obtain ⟨h1, h2, h3, h4, h5, h6⟩ := h
  refine ⟨h1, (u.P rfl).trans h2, h3.ex (fun j k hj => u.I (mom_sS h1 j k hj)) (fun _ _ _ _ => rfl), (u.I rfl).trans h4, (u.I rfl).trans h5, fun c hc => ?_⟩
  rw [u.I rfl]; exact h6 c hc
theorem fill_c {g : hG} {b : Nat} {r hi : Nat → Int32} (h : Faced g b r hi) {c : Nat} (hc : c < 25) : ∃ g', q_Slope_fillFacts (nI c) g = some ((), g') ∧ (∀ a k, ¬ a = 251 → gI g' a k = gI g a k) ∧ (∀ k, k < 7 → gI g' 251 k = fcF r (nI c) (hi c) k) ∧ gJ g' = gJ g ∧ gP g' = gP g := by
  obtain ⟨h1, h2, h3, h4, h5, h6⟩ := h
  have b251 : ∀ j, j ≤ 4 → ¬ b + j = 251 := fun j hj e => by have := mom_sS h1 j 0 hj; rw [e] at this; cases this
  have b0 : ¬ b = 251 := b251 0 (by omega)
  obtain ⟨q, hq, el⟩ := loF_8 r (nI c)
  have tail : ∀ w, q_Slope_fillFacts_29 (nI c) 2 w (sI (sI g 251 0 (irem (nI c) 5)) 251 1 (nI c / 5)) = some ((), sI (sI (sI (sI (sI (sI (sI g 251 0 (irem (nI c) 5)) 251 1 (nI c / 5)) 251 2 w) 251 3 (onesF (loF r (nI c)))) 251 4 (r 0)) 251 5 (r 1)) 251 6 (r 2)) := by
    intro w
    unfold q_Slope_fillFacts_29
    have m0 : MomR (sI (sI (sI g 251 0 (irem (nI c) 5)) 251 1 (nI c / 5)) 251 2 w) b r := h3.ex (fun j k hj => by rw [rd_a (b251 j hj), rd_a (b251 j hj), rd_a (b251 j hj)]) (fun _ _ _ _ => rfl)
    rw [gd_L _ _ (by decide) (by decide), wr_e, cl_L _ (by decide), gP_sI, gP_sI, gP_sI, h2, gp_p h1, lo_c m0, bnd_s, bc_e, bnd_s, el, (bc_8 q hq).1, ← el, gd_L _ _ (by decide) (by decide), wr_e, cl_L _ (by decide), gP_sI, gP_sI, gP_sI, gP_sI, h2, gp_p h1, gd_L _ _ (by decide) (by decide), wr_e, cl_L _ (by decide), gd_L _ _ (by decide) (by decide), wr_e, cl_L _ (by decide), gd_L _ _ (by decide) (by decide), wr_e, cl_L _ (by decide)]
    rw [rd_a b0, m0.1]
    rw [show gI (sI (sI (sI (sI (sI g 251 0 (irem (nI c) 5)) 251 1 (nI c / 5)) 251 2 w) 251 3 (onesF (loF r (nI c)))) 251 4 (r 0)) 1 2 = r 1 by simp [gI_sI, h4]]
    rw [show gI (sI (sI (sI (sI (sI (sI g 251 0 (irem (nI c) 5)) 251 1 (nI c / 5)) 251 2 w) 251 3 (onesF (loF r (nI c)))) 251 4 (r 0)) 251 5 (r 1)) 1 3 = r 2 by simp [gI_sI, h5]]
  have e : q_Slope_fillFacts (nI c) g = some ((), sI (sI (sI (sI (sI (sI (sI g 251 0 (irem (nI c) 5)) 251 1 (nI c / 5)) 251 2 (hi c)) 251 3 (onesF (loF r (nI c)))) 251 4 (r 0)) 251 5 (r 1)) 251 6 (r 2)) := by
    unfold q_Slope_fillFacts
    rw [gd_L _ _ (by decide) (by decide), wr_e, cl_L _ (by decide), gd_L _ _ (by decide) (by decide), wr_e, cl_L _ (by decide), isA_c, bnd_s]
    rw [show gI (sI (sI g 251 0 (irem (nI c) 5)) 251 1 (nI c / 5)) 250 7 = gI g 250 7 by simp [gI_sI]]
    by_cases k : bt (gI g 250 7) (nI c)
    · rw [bI_t k, if_neg (by decide), tail, h6 c hc, if_pos k]
    · rw [bI_f k, if_pos rfl, gP_sI, gP_sI, h2, gp_p h1, gd_nI hc (by omega), rd_a (b251 4 (by omega)), rd_a (b251 4 (by omega)), nI_clamp (by omega), h3.2.1 c hc, tail, h6 c hc, if_neg k]
  refine ⟨_, e, fun a k ha => ?_, fun k hk => ?_, rfl, rfl⟩
  · rw [rd_a ha, rd_a ha, rd_a ha, rd_a ha, rd_a ha, rd_a ha, rd_a ha]
  · have : k = 0 ∨ k = 1 ∨ k = 2 ∨ k = 3 ∨ k = 4 ∨ k = 5 ∨ k = 6 := by omega
    rcases this with rfl | rfl | rfl | rfl | rfl | rfl | rfl <;> simp [gI_sI, fcF]
