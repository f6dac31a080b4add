/-! texts: parts of the model's code, put together -/
def FrM (lg : Nat) (o w : Nat → Int32) (a b : Nat) (den : Den) : Prop := a ≤ b ∧
  ∀ (base last top : Nat) (g : hG) (f : Nat → Int32) (K : Int32 → hG → hO Unit), b ≤ last → last ≤ 400 → RDM lg base o w a b g → FXM lg f g → gI g 367 38 = 0 → top + (b - a) ≤ 400 →
    ∃ s g', s ≤ b - a ∧ Un sRk g g' ∧ (∀ i, i < top → gJ g' 387 i = gJ g 387 i) ∧
      match den f with
      | some v => gI g' 367 38 = 0 ∧ gJ g' 387 top = v.toInt64 ∧ ∀ F, q_Mo_reckonAll_7L (nI last) K (F + s) (nI top) (nI a) g = q_Mo_reckonAll_7L (nI last) K F (nI (top + 1)) (nI b) g'
      | none => gI g' 367 38 = 1 ∧ ∃ x : Nat, x ≤ 400 ∧ ∀ F, q_Mo_reckonAll_7L (nI last) K (F + s + 1) (nI top) (nI a) g = K (nI x) g'
theorem FrM.ex {lg : Nat} {o w o' w' : Nat → Int32} {a b : Nat} {den : Den} (h : FrM lg o w a b den) (e : ∀ j, a ≤ j → j < b → o' j = o j ∧ w' j = w j) : FrM lg o' w' a b den := by
  refine ⟨h.1, fun base last top g f K h1 h2 h3 h4 h5 h6 => h.2 base last top g f K h1 h2 ?_ h4 h5 h6⟩
  rcases h3 with ⟨k0, k1, k2, k3, k4⟩ | ⟨k0, k1, k2⟩
  · exact Or.inl ⟨k0, k1, k2, k3, fun j x y => ⟨(k4 j x y).1.trans (e j x y).1, (k4 j x y).2.trans (e j x y).2⟩⟩
  · exact Or.inr ⟨k0, k1, fun j x y => ⟨(k2 j x y).1.trans (e j x y).1, (k2 j x y).2.trans (e j x y).2⟩⟩
theorem RDM.lg {lg base : Nat} {o w : Nat → Int32} {a b : Nat} {g : hG} (h : RDM lg base o w a b g) : gI g 367 20 = nI lg := by
  rcases h with ⟨h0, h1, -⟩ | ⟨h0, h1, -⟩
  · rw [h1, h0]; rfl
  · rw [h1, h0]; rfl
theorem un_387 {g : hG} (k : Nat) (v : Int64) : Un sRk g (sJ g 387 k v) := Un.rf.sJ rfl _
theorem s387 {g : hG} {k : Nat} {v : Int64} : gJ (sJ g 387 k v) 387 k = v := by rw [gJ_sJ, if_pos ⟨rfl, rfl⟩]
theorem n387 {g : hG} {k i : Nat} {v : Int64} (h : i ≠ k) : gJ (sJ g 387 k v) 387 i = gJ g 387 i := by rw [gJ_sJ, if_neg (fun q => h q.2)]
theorem frm_num (lg : Nat) {o w : Nat → Int32} {a : Nat} {x : Int32} (h1 : o a = 0) (h2 : w a = x) : FrM lg o w a (a + 1) (fun _ => some x) := by
  refine ⟨by omega, fun base last top g f K l1 l2 rd fx h38 ht => ?_⟩
  refine ⟨1, sJ g 387 top x.toInt64, by omega, un_387 _ _, fun i hi => n387 (by omega), h38, s387, fun F => ?_⟩
  rw [rk_rd rd (by omega) (by omega) l2 h38, h1, rk_num _ _ (by omega), h2]
theorem frm_fact {lg : Nat} {o w : Nat → Int32} {a k : Nat} (hk : (lg = 0 ∧ k < 7) ∨ (lg = 1 ∧ k < 38)) (h1 : o a = nI (fcO lg k)) (h2 : lg = 1 → 5 ≤ k → w a = nI (fcW lg k)) : FrM lg o w a (a + 1) (fun f => some (f k)) := by
  refine ⟨by omega, fun base last top g f K l1 l2 rd fx h38 ht => ?_⟩
  refine ⟨1, sJ g 387 top (f k).toInt64, by omega, un_387 _ _, fun i hi => n387 (by omega), h38, s387, fun F => ?_⟩
  rw [rk_rd rd (by omega) (by omega) l2 h38, h1, rk_fact _ hk fx rd.lg (w a) h2 (by omega)]
theorem frm_bin {lg : Nat} {o w : Nat → Int32} {a b c s : Nat} {d1 d2 : Den} (h1 : FrM lg o w a b d1) (h2 : FrM lg o w b c d2) (hab : a < b) (hs : 2 ≤ s ∧ s ≤ 9) (hc : o c = nI (18 + s)) : FrM lg o w a (c + 1) (binD s d1 d2) := by
  obtain ⟨a1, h1⟩ := h1
  obtain ⟨a2, h2⟩ := h2
  refine ⟨by omega, fun base last top g f K l1 l2 rd fx h38 ht => ?_⟩
  obtain ⟨s1, g1, s1l, u1, p1, m1⟩ := h1 base last top g f K (by omega) l2 (rd.un Un.rf (by omega) (by omega)) fx h38 (by omega)
  unfold binD
  cases q1 : d1 f with
  | none =>
    rw [q1] at m1
    exact ⟨s1, g1, by omega, u1, p1, m1⟩
  | some l =>
    rw [q1] at m1
    obtain ⟨m10, m11, m12⟩ := m1
    obtain ⟨s2, g2, s2l, u2, p2, m2⟩ := h2 base last (top + 1) g1 f K (by omega) l2 (rd.un u1 (by omega) (by omega)) (fx.un u1) m10 (by omega)
    cases q2 : d2 f with
    | none =>
      rw [q2] at m2
      obtain ⟨m20, x, m21, m22⟩ := m2
      refine ⟨s1 + s2, g2, by omega, u1.tr u2, fun i hi => (p2 i (by omega)).trans (p1 i hi), m20, x, m21, fun F => ?_⟩
      rw [show F + (s1 + s2) + 1 = F + s2 + 1 + s1 by omega, m12, m22]
    | some r =>
      rw [q2] at m2
      obtain ⟨m20, m21, m22⟩ := m2
      have rd2 : RDM lg base o w c (c + 1) g2 := rd.un (u1.tr u2) (by omega) (by omega)
      have st := fun F => rk_rd (K := K) rd2 (by omega) (show c < last by omega) l2 m20 (top + 2) F
      have tl : gJ g2 387 top = l.toInt64 := (p2 top (by omega)).trans m11
      obtain ⟨g3, op, u3, p3, m3⟩ := rk_op (show top + 1 < 400 by omega) hs tl m21 m20
      have full : ∀ F, q_Mo_reckonAll_7L (nI last) K (F + (s1 + s2 + 1)) (nI top) (nI a) g = q_Mo_reckonAll_7L (nI last) K F (nI (top + 1)) (nI (c + 1)) g3 := fun F => by
        rw [show F + (s1 + s2 + 1) = F + 1 + s2 + s1 by omega, m12, m22]
        refine (st F).trans ?_
        rw [hc]
        exact op _ _ _
      cases q3 : jnF s l r with
      | none =>
        rw [q3] at m3
        refine ⟨s1 + s2 + 1, g3, by omega, (u1.tr u2).tr u3, fun i hi => (p3 i hi).trans ((p2 i (by omega)).trans (p1 i hi)), ?_⟩
        simp only [q3]
        refine ⟨m3, top + 1, by omega, fun F => ?_⟩
        rw [show F + (s1 + s2 + 1) + 1 = F + 1 + (s1 + s2 + 1) by omega, full]
        exact rk_end m3 _ _ F
      | some v =>
        rw [q3] at m3
        refine ⟨s1 + s2 + 1, g3, by omega, (u1.tr u2).tr u3, fun i hi => (p3 i hi).trans ((p2 i (by omega)).trans (p1 i hi)), ?_⟩
        simp only [q3]
        exact ⟨m3.1, m3.2, full⟩
def t01 (d : Den) : Prop := ∀ f v, d f = some v → v = 0 ∨ v = 1
theorem frm_not {lg : Nat} {o w : Nat → Int32} {a b : Nat} {d : Den} (h : FrM lg o w a b d) (h0 : t01 d) (hc : o b = nI 28) : FrM lg o w a (b + 1) (notD d) := by
  obtain ⟨a1, h⟩ := h
  refine ⟨by omega, fun base last top g f K l1 l2 rd fx h38 ht => ?_⟩
  obtain ⟨s1, g1, s1l, u1, p1, m1⟩ := h base last top g f K (by omega) l2 (rd.un Un.rf (by omega) (by omega)) fx h38 (by omega)
  unfold notD
  cases q1 : d f with
  | none =>
    rw [q1] at m1
    exact ⟨s1, g1, by omega, u1, p1, m1⟩
  | some v =>
    rw [q1] at m1
    obtain ⟨m10, m11, m12⟩ := m1
    have e : (1 : Int64) - v.toInt64 = (1 - v).toInt64 := by rcases h0 f v q1 with rfl | rfl <;> decide
    refine ⟨s1 + 1, sJ g1 387 top (1 - gJ g1 387 top), by omega, u1.tr (un_387 _ _), fun i hi => (n387 (by omega)).trans (p1 i hi), m10, by rw [s387, m11, e], fun F => ?_⟩
    rw [show F + (s1 + 1) = F + 1 + s1 by omega, m12, rk_rd (rd.un u1 (show a ≤ b by omega) (show b + 1 ≤ b + 1 by omega)) (by omega) (by omega) l2 m10, hc, rk_not _ _ (by omega)]
theorem frm_jmp {lg : Nat} {o w : Nat → Int32} {a b c s : Nat} {d1 d2 : Den} (h1 : FrM lg o w a b d1) (h2 : FrM lg o w (b + 1) c d2) (hs : s = 29 ∨ s = 30) (hc : o b = nI s) (hw : w b = nI c) : FrM lg o w a c (jmpD (if s = 29 then 0 else 1) d1 d2) := by
  obtain ⟨a1, h1⟩ := h1
  obtain ⟨a2, h2⟩ := h2
  refine ⟨by omega, fun base last top g f K l1 l2 rd fx h38 ht => ?_⟩
  obtain ⟨s1, g1, s1l, u1, p1, m1⟩ := h1 base last top g f K (by omega) l2 (rd.un Un.rf (by omega) (by omega)) fx h38 (by omega)
  unfold jmpD
  cases q1 : d1 f with
  | none =>
    rw [q1] at m1
    exact ⟨s1, g1, by omega, u1, p1, m1⟩
  | some v =>
    rw [q1] at m1
    obtain ⟨m10, m11, m12⟩ := m1
    have st : ∀ F, q_Mo_reckonAll_7L (nI last) K (F + 1) (nI (top + 1)) (nI b) g1 = if v.toInt64 = (if s = 29 then 0 else 1) then q_Mo_reckonAll_7L (nI last) K F (nI (top + 1)) (nI c) g1 else q_Mo_reckonAll_7L (nI last) K F (nI top) (nI (b + 1)) g1 := fun F => by
      rw [rk_rd (rd.un u1 (show a ≤ b by omega) (show b + 1 ≤ c by omega)) (by omega) (by omega) l2 m10, hc, rk_jmp _ _ (by omega) hs, hw, m11]
    have e : v.toInt64 = (if s = 29 then 0 else 1) ↔ v = (if s = 29 then 0 else 1) := by
      rw [← eq64]
      rcases hs with rfl | rfl
      · exact Iff.rfl
      · exact Iff.rfl
    by_cases z : v = (if s = 29 then 0 else 1)
    · simp only [if_pos z]
      refine ⟨s1 + 1, g1, by omega, u1, p1, m10, m11, fun F => ?_⟩
      rw [show F + (s1 + 1) = F + 1 + s1 by omega, m12, st, if_pos (e.mpr z)]
    · simp only [if_neg z]
      obtain ⟨s2, g2, s2l, u2, p2, m2⟩ := h2 base last top g1 f K (by omega) l2 (rd.un u1 (by omega) (by omega)) (fx.un u1) m10 (by omega)
      cases q2 : d2 f with
      | none =>
        rw [q2] at m2
        obtain ⟨m20, x, m21, m22⟩ := m2
        refine ⟨s1 + 1 + s2, g2, by omega, u1.tr u2, fun i hi => (p2 i hi).trans (p1 i hi), m20, x, m21, fun F => ?_⟩
        rw [show F + (s1 + 1 + s2) + 1 = F + s2 + 1 + 1 + s1 by omega, m12, st, if_neg (fun q => z (e.mp q)), m22]
      | some r =>
        rw [q2] at m2
        obtain ⟨m20, m21, m22⟩ := m2
        refine ⟨s1 + 1 + s2, g2, by omega, u1.tr u2, fun i hi => (p2 i hi).trans (p1 i hi), m20, m21, fun F => ?_⟩
        rw [show F + (s1 + 1 + s2) = F + s2 + 1 + s1 by omega, m12, st, if_neg (fun q => z (e.mp q)), m22]
/-- a row of a law's code -/
theorem frm_reck {seg : Nat → Int32} {a b : Nat} {d : Den} (h : FrM 0 (fun j => seg (98 + 2 * j)) (fun j => seg (98 + 2 * j + 1)) a b d) (hb : b ≤ 400) : ReckS seg (nI a) (nI b) d := by
  intro base g f b1 b2 b3 b4 b5
  obtain ⟨a1, h⟩ := h
  obtain ⟨s1, g1, s1l, u1, p1, m1⟩ := h base b 0 (sI g 367 38 0) f (fun x34 g38 => q_Mo_reckonAll_183 x34 g38) (Nat.le_refl _) hb
    (Or.inl ⟨rfl, (rd_k (by decide)).trans b4, (rd_k (by decide)).trans b3, b1, fun j x y => ⟨by rw [rd_a (by decide), show base + 98 + 2 * j = base + (98 + 2 * j) by omega]; exact b2 _ (by omega), by rw [rd_a (by decide), show base + 98 + 2 * j + 1 = base + (98 + 2 * j + 1) by omega]; exact b2 _ (by omega)⟩⟩)
    (Or.inl ⟨rfl, b5.1⟩) rd_s (by omega)
  have u0 : Un sRk g (sI g 367 38 0) := Un.rf.sI rfl _
  have fin : ∀ x : Nat, x ≤ 400 → ∃ g', q_Mo_reckonAll_183 (nI x) g1 = some ((), g') ∧ Un sRk g g' ∧ gI g' 367 38 = gI g1 367 38 ∧ (0 < x → gJ g' 367 39 = gJ g1 387 0) := fun x hx => by
    unfold q_Mo_reckonAll_183 q_Mo_reckonAll_192
    by_cases z : x = 0
    · subst z
      rw [if_pos (by decide), wr_e]
      exact ⟨_, rfl, (u0.tr u1).sJ rfl _, rfl, fun q => absurd q (by omega)⟩
    · rw [if_neg (show ¬ nI x ≤ (0 : Int32) from nI_ge (a := 0) (by omega) (by omega)), gd_L _ _ (by decide) (by decide), wr_e]
      exact ⟨_, rfl, (u0.tr u1).sJ rfl _, rfl, fun _ => by rw [gJ_sJ, if_pos ⟨rfl, rfl⟩]; rfl⟩
  obtain ⟨F, hF⟩ : ∃ F, FU = F + s1 + 1 := ⟨1000000 - 1 - s1, by have e : FU = 1000000 := rfl; omega⟩
  unfold q_Mo_reckonAll
  rw [wr_e]
  cases q1 : d f with
  | none =>
    rw [q1] at m1
    obtain ⟨m10, x, m11, m12⟩ := m1
    obtain ⟨g', e1, e2, e3, -⟩ := fin x m11
    refine ⟨g', ?_, e2, e3.trans m10⟩
    rw [hF]
    exact (m12 F).trans e1
  | some v =>
    rw [q1] at m1
    obtain ⟨m10, m11, m12⟩ := m1
    obtain ⟨g', e1, e2, e3, e4⟩ := fin 1 (by omega)
    refine ⟨g', ?_, e2, e3.trans m10, (e4 (by omega)).trans m11⟩
    rw [hF, show F + s1 + 1 = F + 1 + s1 by omega]
    refine (m12 (F + 1)).trans (Eq.trans ?_ e1)
    rw [q_Mo_reckonAll_7L_s]
    unfold q_Mo_reckonAll_7
    rw [if_pos (nI_le (Nat.le_refl _) (by omega))]
