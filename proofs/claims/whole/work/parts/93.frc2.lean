/-! texts: parts of the class's code, put together -/
/-- code from a to b brings one value more: what den says of the facts; k values' room -/
def FrC (fa : Nat) (code : Nat → Int32) (a b k : Nat) (den : Den) : Prop := a ≤ b ∧ 1 ≤ k ∧
  ∀ (t sz top : Nat) (g : hG) (K1 K2 : hG → hO Int32) (K3 : Int32 → hG → hO Int32), t ≠ 248 → t + 1 ≠ 248 → b ≤ sz → sz ≤ 402 → gI g t 1 = nI sz → (∀ j, a ≤ j → j < b → gI g (t + 1) j = code j) → top + k ≤ 50 →
    ∃ s g', s ≤ b - a ∧ Un s248 g g' ∧ (∀ i, i < top → gI g' 248 i = gI g 248 i) ∧
      match den (gI g fa) with
      | some v => gI g' 248 top = v ∧ ∀ F, q_Calc_work_4L t fa K1 K2 K3 (F + s) (tI top) (nI a) g = q_Calc_work_4L t fa K1 K2 K3 F (tI (top + 1)) (nI b) g'
      | none => ∀ F, q_Calc_work_4L t fa K1 K2 K3 (F + s) (tI top) (nI a) g = some (BRK, g')
theorem FrC.ex {fa : Nat} {code code' : Nat → Int32} {a b k : Nat} {den : Den} (h : FrC fa code a b k den) (e : ∀ j, a ≤ j → j < b → code' j = code j) : FrC fa code' a b k den :=
  ⟨h.1, h.2.1, fun t sz top g K1 K2 K3 h1 h2 h3 h4 h5 h6 h7 => h.2.2 t sz top g K1 K2 K3 h1 h2 h3 h4 h5 (fun j a b => (h6 j a b).trans (e j a b)) h7⟩
theorem un_248 {g : hG} (k : Nat) (v : Int32) : Un s248 g (sI g 248 k v) := Un.rf.sI rfl _
theorem u248 {g g' : hG} (u : Un s248 g g') {t : Nat} (h : t ≠ 248) (j : Nat) : gI g' t j = gI g t j := u.I (by unfold s248; exact beq_false_of_ne h)
theorem frc_num (fa : Nat) {code : Nat → Int32} {a m : Nat} (hm : m < 1024) (hc : code a = nI (16 * m)) : FrC fa code a (a + 1) 1 (fun _ => some (nI m)) := by
  refine ⟨by omega, by omega, fun t sz top g K1 K2 K3 h1 h2 h3 h4 h5 h6 h7 => ?_⟩
  refine ⟨1, sI g 248 top (nI m), by omega, un_248 _ _, fun i hi => rd_k (by omega), ?_⟩
  exact ⟨rd_s, fun F => wk_push h5 (by omega) h4 hm ((h6 a (by omega) (by omega)).trans hc) (by omega) F⟩
theorem frc_fact {fa : Nat} (hf : fa ≠ 248) {code : Nat → Int32} {a m : Nat} (hm : m < 1024) (hl : m < iaLen fa) (hl2 : iaLen fa < 2 ^ 31) (hc : code a = nI (16 * m + 1)) : FrC fa code a (a + 1) 1 (fun f => some (f m)) := by
  refine ⟨by omega, by omega, fun t sz top g K1 K2 K3 h1 h2 h3 h4 h5 h6 h7 => ?_⟩
  refine ⟨1, sI g 248 top (gI g fa m), by omega, un_248 _ _, fun i hi => rd_k (by omega), ?_⟩
  exact ⟨rd_s, fun F => wk_fact h5 (by omega) h4 hm hl hl2 ((h6 a (by omega) (by omega)).trans hc) (by omega) F⟩
def binD (s : Nat) (d1 d2 : Den) : Den := fun f => match d1 f with
  | none => none
  | some l => match d2 f with
    | none => none
    | some r => jnF s l r
def notD (d : Den) : Den := fun f => match d f with
  | none => none
  | some v => some (1 - v)
def jmpD (z : Int32) (d1 d2 : Den) : Den := fun f => match d1 f with
  | none => none
  | some v => if v = z then some v else d2 f
theorem frc_bin {fa : Nat} (hf : fa ≠ 248) {code : Nat → Int32} {a b c k1 k2 s : Nat} {d1 d2 : Den} (h1 : FrC fa code a b k1 d1) (h2 : FrC fa code b c k2 d2) (hs : 2 ≤ s ∧ s ≤ 9) (hc : code c = nI s) : FrC fa code a (c + 1) (k1 + k2) (binD s d1 d2) := by
  obtain ⟨a1, k1p, h1⟩ := h1
  obtain ⟨a2, k2p, h2⟩ := h2
  refine ⟨by omega, by omega, fun t sz top g K1 K2 K3 t1 t2 t3 t4 t5 t6 t7 => ?_⟩
  obtain ⟨s1, g1, s1l, u1, p1, m1⟩ := h1 t sz top g K1 K2 K3 t1 t2 (by omega) t4 t5 (fun j x y => t6 j x (by omega)) (by omega)
  obtain ⟨s2, g2, s2l, u2, p2, m2⟩ := h2 t sz (top + 1) g1 K1 K2 K3 t1 t2 (by omega) t4 (by rw [u248 u1 t1]; exact t5) (fun j x y => by rw [u248 u1 t2]; exact t6 j (by omega) (by omega)) (by omega)
  have e1 : gI g1 fa = gI g fa := funext (fun j => u248 u1 hf j)
  rw [e1] at m2
  unfold binD
  cases q1 : d1 (gI g fa) with
  | none =>
    rw [q1] at m1
    exact ⟨s1, g1, by omega, u1, p1, m1⟩
  | some l =>
    rw [q1] at m1
    cases q2 : d2 (gI g fa) with
    | none =>
      rw [q2] at m2
      refine ⟨s1 + s2, g2, by omega, u1.tr u2, fun i hi => (p2 i (by omega)).trans (p1 i hi), fun F => ?_⟩
      rw [show F + (s1 + s2) = F + s2 + s1 by omega, m1.2, m2]
    | some r =>
      rw [q2] at m2
      have op := fun F => wk_op (K1 := K1) (K2 := K2) (K3 := K3) (fa := fa) (g := g2) (t := t) (sz := sz) (a := c) (top := top) (by rw [u248 u2 t1, u248 u1 t1]; exact t5) (by omega) t4 hs (by rw [u248 u2 t2, u248 u1 t2]; exact (t6 c (by omega) (by omega)).trans hc) (by omega) F
      rw [p2 top (by omega), m1.1, m2.1] at op
      cases q3 : jnF s l r with
      | none =>
        rw [q3] at op
        refine ⟨s1 + s2 + 1, sI g2 248 top BRK, by omega, (u1.tr u2).tr (un_248 _ _), fun i hi => (rd_k (by omega)).trans ((p2 i (by omega)).trans (p1 i hi)), ?_⟩
        simp only [q3]
        intro F
        rw [show F + (s1 + s2 + 1) = F + 1 + s2 + s1 by omega, m1.2, m2.2]
        exact op F
      | some v =>
        rw [q3] at op
        refine ⟨s1 + s2 + 1, sI g2 248 top v, by omega, (u1.tr u2).tr (un_248 _ _), fun i hi => (rd_k (by omega)).trans ((p2 i (by omega)).trans (p1 i hi)), ?_⟩
        simp only [q3]
        refine ⟨rd_s, fun F => ?_⟩
        rw [show F + (s1 + s2 + 1) = F + 1 + s2 + s1 by omega, m1.2, m2.2]
        exact op F
theorem frc_not {fa : Nat} {code : Nat → Int32} {a b k : Nat} {d : Den} (h : FrC fa code a b k d) (hc : code b = nI 10) : FrC fa code a (b + 1) k (notD d) := by
  obtain ⟨a1, kp, h⟩ := h
  refine ⟨by omega, kp, fun t sz top g K1 K2 K3 t1 t2 t3 t4 t5 t6 t7 => ?_⟩
  obtain ⟨s1, g1, s1l, u1, p1, m1⟩ := h t sz top g K1 K2 K3 t1 t2 (by omega) t4 t5 (fun j x y => t6 j x (by omega)) (by omega)
  unfold notD
  cases q1 : d (gI g fa) with
  | none =>
    rw [q1] at m1
    exact ⟨s1, g1, by omega, u1, p1, m1⟩
  | some v =>
    rw [q1] at m1
    refine ⟨s1 + 1, sI g1 248 top (1 - v), by omega, u1.tr (un_248 _ _), fun i hi => (rd_k (by omega)).trans (p1 i hi), rd_s, fun F => ?_⟩
    rw [show F + (s1 + 1) = F + 1 + s1 by omega, m1.2, ← m1.1]
    exact wk_not (by rw [u248 u1 t1]; exact t5) (by omega) t4 (by rw [u248 u1 t2]; exact (t6 b (by omega) (by omega)).trans hc) (by omega) F
theorem frc_jmp {fa : Nat} (hf : fa ≠ 248) {code : Nat → Int32} {a b c k1 k2 s : Nat} {d1 d2 : Den} (h1 : FrC fa code a b k1 d1) (h2 : FrC fa code (b + 1) c k2 d2) (hs : s = 11 ∨ s = 12) (hc : code b = nI (16 * c + s)) : FrC fa code a c (k1 + k2) (jmpD (if s = 11 then 1 else 0) d1 d2) := by
  obtain ⟨a1, k1p, h1⟩ := h1
  obtain ⟨a2, k2p, h2⟩ := h2
  refine ⟨by omega, by omega, fun t sz top g K1 K2 K3 t1 t2 t3 t4 t5 t6 t7 => ?_⟩
  obtain ⟨s1, g1, s1l, u1, p1, m1⟩ := h1 t sz top g K1 K2 K3 t1 t2 (by omega) t4 t5 (fun j x y => t6 j x (by omega)) (by omega)
  have e1 : gI g1 fa = gI g fa := funext (fun j => u248 u1 hf j)
  have jm := fun F => wk_jmp (K1 := K1) (K2 := K2) (K3 := K3) (fa := fa) (g := g1) (t := t) (sz := sz) (a := b) (top := top) (m := c) (s := s) (by rw [u248 u1 t1]; exact t5) (by omega) t4 (by omega) (by omega) hs (by rw [u248 u1 t2]; exact (t6 b (by omega) (by omega)).trans hc) (by omega) F
  unfold jmpD
  cases q1 : d1 (gI g fa) with
  | none =>
    rw [q1] at m1
    exact ⟨s1, g1, by omega, u1, p1, m1⟩
  | some v =>
    rw [q1] at m1
    rw [m1.1] at jm
    by_cases z : v = (if s = 11 then 1 else 0)
    · simp only [if_pos z] at jm ⊢
      refine ⟨s1 + 1, g1, by omega, u1, p1, m1.1, fun F => ?_⟩
      rw [show F + (s1 + 1) = F + 1 + s1 by omega, m1.2]
      exact jm F
    · simp only [if_neg z] at jm ⊢
      obtain ⟨s2, g2, s2l, u2, p2, m2⟩ := h2 t sz top g1 K1 K2 K3 t1 t2 (by omega) t4 (by rw [u248 u1 t1]; exact t5) (fun j x y => by rw [u248 u1 t2]; exact t6 j (by omega) (by omega)) (by omega)
      rw [e1] at m2
      cases q2 : d2 (gI g fa) with
      | none =>
        rw [q2] at m2
        refine ⟨s1 + 1 + s2, g2, by omega, u1.tr u2, fun i hi => (p2 i hi).trans (p1 i hi), fun F => ?_⟩
        rw [show F + (s1 + 1 + s2) = F + s2 + 1 + s1 by omega, m1.2, jm, m2]
      | some r =>
        rw [q2] at m2
        refine ⟨s1 + 1 + s2, g2, by omega, u1.tr u2, fun i hi => (p2 i hi).trans (p1 i hi), m2.1, fun F => ?_⟩
        rw [show F + (s1 + 1 + s2) = F + s2 + 1 + s1 by omega, m1.2, jm, m2.2]
/-- a row of code with its STOP -/
theorem frc_work {fa : Nat} {code : Nat → Int32} {a b k : Nat} {d : Den} (h : FrC fa code a b k d) (hk : k ≤ 50) (hc : code b = nI 13) {sz : Nat} (hb : b < sz) (h4 : sz ≤ 402) : WorkS fa code (nI sz) (nI a) d := by
  intro t g t1 t2 t3 t4
  obtain ⟨a1, kp, h⟩ := h
  obtain ⟨s1, g1, s1l, u1, p1, m1⟩ := h t sz 0 g (fun g32 => some ((-2000000000 : Int32), g32)) (fun g38 => some ((-2000000000 : Int32), g38)) (fun x40 g44 => gd x40 50 <| some ((gI g44 248 x40.toNatClampNeg), g44)) t1 t2 (by omega) h4 t3 (fun j x y => t4 j (by omega)) (by omega)
  obtain ⟨F, hF⟩ : ∃ F, FU = F + 1 + s1 := ⟨1000000 - 1 - s1, by have e : FU = 1000000 := rfl; omega⟩
  unfold q_Calc_work
  rw [hF]
  cases q1 : d (gI g fa) with
  | none =>
    rw [q1] at m1
    exact ⟨g1, m1 (F + 1), u1⟩
  | some v =>
    rw [q1] at m1
    refine ⟨g1, ?_, u1⟩
    refine (m1.2 (F + 1)).trans ?_
    rw [wk_stop (by rw [u248 u1 t1]; exact t3) (by omega) h4 (by rw [u248 u1 t2]; exact (t4 b (by omega)).trans hc) F (by omega), gd_nI (by omega) (by omega), nI_clamp (by omega), m1.1]
    rfl
