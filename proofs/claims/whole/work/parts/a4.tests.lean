/-! texts: tests, the model -/
section TE
variable {B : Nat → Nat} {n lg hi lo p0 pa0 p pa dp p' pa' p2 pa2 len : Nat} {L : Pi} {f : hG}
def MOkT (B : Nat → Nat) (n lg hi lo p pa dp p' pa' : Nat) (den : Den) : Prop :=
  ∀ (K : hG → hO Unit) (L : Pi) (len : Nat) (f : hG), PM B n lg p pa dp L len f → CoR f → tb L < hi → ib L ≠ 32 →
    ∃ (s : Nat) (f' : hG) (pend : Pi) (len' : Nat), (1 ≤ s ∧ s ≤ 3 * (cnt (stB B) p' - cnt (stB B) p)) ∧ (∀ F, q_Mo_readExpression_12L 1 K (F + s) 0 f = q_Mo_readExpression_12L 1 K F 2 f') ∧ PM B n lg p' pa' dp (pend ++ L) len' f' ∧ Un sPm f f' ∧ (∀ x, x ∈ pend → lo ≤ bd x.1) ∧
      len < (sfF pend (gI f' 378, gI f' 379, len')).2.2 ∧ FrM lg (sfF pend (gI f' 378, gI f' 379, len')).1 (sfF pend (gI f' 378, gI f' 379, len')).2.1 len (sfF pend (gI f' 378, gI f' 379, len')).2.2 den ∧
      ∀ j, j < len → (sfF pend (gI f' 378, gI f' 379, len')).1 j = gI f 378 j ∧ (sfF pend (gI f' 378, gI f' 379, len')).2.1 j = gI f 379 j
def MNoT (B : Nat → Nat) (n lg hi p pa dp q : Nat) : Prop :=
  ∀ (K : hG → hO Unit) (L : Pi) (len : Nat) (f : hG), PM B n lg p pa dp L len f → CoR f → tb L < hi → ib L ≠ 32 →
    ∃ (s : Nat) (f' : hG), (1 ≤ s ∧ s ≤ 3 * (cnt (stB B) q - cnt (stB B) p) + 3) ∧ (∀ F, q_Mo_readExpression_12L 1 K (F + s) 0 f = K f') ∧ PF lg q f' ∧ Un sPm f f'
theorem MOkT.mono {den : Den} {hi' lo' : Nat} (h : MOkT B n lg hi lo p pa dp p' pa' den) (h1 : hi' ≤ hi) (h2 : lo' ≤ lo) : MOkT B n lg hi' lo' p pa dp p' pa' den := by
  intro K L len f hf hc ht hb
  obtain ⟨s, f', pe, l, a1, a2, a3, a4, a5, a6⟩ := h K L len f hf hc (by omega) hb
  exact ⟨s, f', pe, l, a1, a2, a3, a4, fun x hx => Nat.le_trans h2 (a5 x hx), a6⟩
theorem MNoT.mono {hi' : Nat} (h : MNoT B n lg hi p pa dp p') (h1 : hi' ≤ hi) : MNoT B n lg hi' p pa dp p' :=
  fun K L len f hf hc ht hb => h K L len f hf hc (by omega) hb
/-- at a comparison, state 0 does as state 1 -/
theorem lp_01 (K : hG → hO Unit) (F : Nat) (h : PM B n lg p pa dp L len f) (h1 : tkF B n p ≠ 3006) (h2 : tkF B n p ≠ 2040) : q_Mo_readExpression_12L 1 K (F + 1) 0 f = q_Mo_readExpression_12L 1 K (F + 1) 1 f := by
  have a := lp_s (v1 := 1) K F h.2.2.2.1 0 (by omega)
  have b := lp_s (v1 := 1) K F h.2.2.2.1 1 (by omega)
  rw [if_pos rfl] at a
  rw [if_neg (by omega), if_pos rfl] at b
  refine a.trans (Eq.trans ?_ b.symm)
  have w : q_Mo_isWord 14836 f = some (bI (tkF B n p = 3001 + 5), f) := word_p h (i := 5) (by omega)
  unfold q_Mo_readPlain
  rw [w, bnd_s, bI_f (by omega), if_pos rfl, show q_Mo_isSign 40 f = _ from sign_p h (s := 40) (by omega), bnd_s, bI_f (by omega), if_pos rfl]
  cases q : q_Mo_readPart f with
  | none => rfl
  | some x => rfl
theorem bd_31 {x : Nat} (h : 1 ≤ bd x) : x < 31 := by
  by_cases z : x < 31
  · exact z
  · have : bd x = 0 := by unfold bd; rw [if_neg z]
    omega
theorem ib_pe (L : Pi) : ∀ pe : Pi, (∀ x, x ∈ pe → 1 ≤ bd x.1) → ib (pe ++ L) = ib L
  | [], _ => rfl
  | x :: pe, hx => by
    have b5 := bd_31 (hx x List.mem_cons_self)
    show (if 31 ≤ x.1 then x.1 else ib (pe ++ L)) = ib L
    rw [if_neg (by omega)]
    exact ib_pe L pe (fun y hy => hx y (List.mem_cons_of_mem _ hy))
theorem cm_pe (L : Pi) : ∀ pe : Pi, (∀ x, x ∈ pe → 5 ≤ bd x.1 ∧ 20 ≤ x.1) → cmF (pe ++ L) = cmF L
  | [], _ => rfl
  | x :: pe, hx => by
    obtain ⟨b5, b20⟩ := hx x List.mem_cons_self
    have : x.1 ≤ 24 := by
      by_cases z : x.1 ≤ 24
      · exact z
      · exfalso
        unfold bd at b5
        by_cases a : x.1 < 31
        · rw [if_pos a] at b5
          split at b5; omega; split at b5; omega; split at b5; omega; split at b5; omega; omega
        · rw [if_neg a] at b5; omega
    show (if 20 ≤ x.1 ∧ x.1 ≤ 24 then cmF (pe ++ L) else decide (25 ≤ x.1 ∧ x.1 ≤ 27)) = cmF L
    rw [if_pos ⟨b20, this⟩]
    exact cm_pe L pe (fun y hy => hx y (List.mem_cons_of_mem _ hy))
theorem cm_lo (h : tb L < 4) : cmF L = false := by
  cases L with
  | nil => rfl
  | cons x L =>
    have hx : bd x.1 < 4 := h
    have : 28 ≤ x.1 := by
      by_cases z : 28 ≤ x.1
      · exact z
      · exfalso
        unfold bd at hx
        rw [if_pos (by omega), if_neg (by omega), if_neg (by omega), if_neg (by omega)] at hx
        split at hx
        · split at hx <;> omega
        · omega
    show (if 20 ≤ x.1 ∧ x.1 ≤ 24 then cmF L else decide (25 ≤ x.1 ∧ x.1 ≤ 27)) = false
    rw [if_neg (by omega), decide_eq_false (by omega)]
/-- behind a sum that is no bracket's -/
theorem bs_85 (h : PM B n lg p pa dp L len f) (hq : noOp (tkF B n p)) (hb : ib L ≠ 32) : q_Mo_behindSum 1 f = q_Mo_behindSum_85 f := by
  rw [bs_no h hq]
  unfold q_Mo_behindSum_31
  rw [if_pos rfl, inner_m h.2.2.2.2.2.2.2.2.2.1 h.2.2.2.2.2.2.2.2.1 h.ln, bnd_s]
  by_cases z : ib L = 0
  · rw [if_pos z, if_neg (show ¬ (-1 : Int32) = 32 by decide), if_pos rfl, if_neg (show ¬ (1 : Int32) = 0 by decide)]
  · have i100 : ib L < 100 := by
      have pl := h.2.2.2.2.2.2.2.2.2.1
      have : ∀ L : Pi, PL L f → ib L < 100 := by
        intro L
        induction L with
        | nil => intro _; exact (by decide : 0 < 100)
        | cons x L ih =>
          intro hx
          show (if 31 ≤ x.1 then x.1 else ib L) < 100
          split
          · exact hx.2.2.1
          · exact ih hx.2.2.2.2
      exact this L pl
    rw [if_neg z, if_neg (show ¬ nI (ib L) = (32 : Int32) from nI_dif (b := 32) hb (by omega) (by omega)), if_neg (n_m1 (by omega))]
def cmS (s : Nat) : Nat := if s = 7 then 2060 else if s = 8 then 2062 else 2061
/-- a comparison's sign -/
theorem cmp_push {pend : Pi} (h : PM B n lg p pa dp (pend ++ L) len f) {s : Nat} (hs : 7 ≤ s ∧ s ≤ 9) (hq : tkF B n p = cmS s) (hb : ∀ x, x ∈ pend → 5 ≤ bd x.1 ∧ 20 ≤ x.1) (ht : tb L < 4) (hi : ib L ≠ 32) : ∃ f', q_Mo_behindSum 1 f = some (1, f') ∧ PM B n lg (nx B n p) pa dp ((18 + s, 0) :: L) (sfF pend (gI f 378, gI f 379, len)).2.2 f' ∧ gI f' 378 = (sfF pend (gI f 378, gI f 379, len)).1 ∧ gI f' 379 = (sfF pend (gI f 378, gI f 379, len)).2.1 ∧ Un sPm f f' := by
  have hh : s = 7 ∨ s = 8 ∨ s = 9 := by omega
  have hqv : tkF B n p = 2060 ∨ tkF B n p = 2062 ∨ tkF B n p = 2061 := by
    rcases hh with rfl | rfl | rfl
    · exact Or.inl hq
    · exact Or.inr (Or.inl hq)
    · exact Or.inr (Or.inr hq)
  obtain ⟨hp, hst⟩ := tk_lt h.2.2.1 (by omega)
  obtain ⟨f1, a1, a2, a3⟩ := next_p h hp hst
  obtain ⟨f2, b1, b2, b3, b4, b5⟩ := settle_p a2 (lo := 5) (by omega) (by omega) (fun x hx => (hb x hx).1) (by omega)
  have s4 : gI f1 378 = gI f 378 ∧ gI f1 379 = gI f 379 := ⟨funext (fun i => a3.I rfl), funext (fun i => a3.I rfl)⟩
  rw [s4.1, s4.2] at b2 b3 b4
  generalize hC : sfF pend (gI f 378, gI f 379, len) = C at *
  obtain ⟨j1, j2, j3, j4, j5, j6, j7, j8, j9, j10, j11, j12⟩ := id b2
  have kn := (tk_n hp hst).2.1
  have c4 := h.c4
  have hlen : L.length ≤ cnt (stB B) p := by
    have := h.2.2.2.2.2.2.2.2.2.2.1
    rw [List.length_append] at this
    omega
  have hwt : C.2.2 + wt L ≤ cnt (stB B) p := by
    have := h.2.2.2.2.2.2.2.2.2.2.2
    rw [wt_app] at this
    have e := sfF_len pend (gI f 378, gI f 379, len) (fun x hx => by have := (hb x hx).1; omega)
    rw [hC] at e
    have e : C.2.2 = len + wt pend := e
    omega
  have u : Un sPm f2 (pushH L (18 + s) 0 f2) := ((Un.rf.sI (by rfl) _).sI (by rfl) _).sI rfl _
  have r7 : ∀ k, k ≠ 29 → gI (pushH L (18 + s) 0 f2) 367 k = gI f2 367 k := fun k hk => by unfold pushH; rw [rd_k hk, rd_a (by decide), rd_a (by decide)]
  have s8 : ∀ x, x = 378 ∨ x = 379 → gI (pushH L (18 + s) 0 f2) x = gI f2 x := fun x hx => by unfold pushH; rw [gI_up0 _ _ _ (by omega), gI_up0 _ _ _ (by omega), gI_up0 _ _ _ (by omega)]
  have no : noOp (tkF B n p) := by unfold noOp; omega
  have ibp : ib (pend ++ L) ≠ 32 := by rw [ib_pe L pend (fun x hx => by have := (hb x hx).1; omega)]; exact hi
  have e115 : q_Mo_behindSum_115 (nI (18 + s)) 1 f = some (1, pushH L (18 + s) 0 f2) := by
    unfold q_Mo_behindSum_115
    rw [must_1 h, a1, bnd_s, if_pos a2.2.2.2.1, show (5 : Int32) = nI 5 from rfl, b1, bnd_s, show q_Mo_push (nI (18 + s)) (0 : Int32) f2 = _ from push_m j9 (by omega) (18 + s) 0, bnd_s]
  refine ⟨pushH L (18 + s) 0 f2, ?_, ⟨⟨j1.1, (r7 13 (by decide)).trans j1.2.1, fun j hj => ⟨(u.I rfl).trans (j1.2.2 j hj).1, (j1.2.2 j hj).2⟩⟩, j2.ex (fun k hk => r7 k (by omega)) rfl, j3, (r7 19 (by decide)).trans j4, (r7 20 (by decide)).trans j5, (r7 23 (by decide)).trans j6, (r7 26 (by decide)).trans j7, (r7 30 (by decide)).trans j8, rd_s, push_PL j10 (by omega) (by omega), by show L.length + 1 ≤ _; omega, by show C.2.2 + ((if 18 + s < 29 then 1 else 0) + wt L) ≤ _; split <;> omega⟩, (s8 378 (by omega)).trans b3, (s8 379 (by omega)).trans b4, ((sNx_sPm a3).tr (sSt_sPm b5)).tr u⟩
  rw [bs_85 h no ibp]
  unfold q_Mo_behindSum_85 q_Mo_behindSum_103
  rw [compd_m h.2.2.2.2.2.2.2.2.2.1 h.2.2.2.2.2.2.2.2.1 h.ln, bnd_s, cm_pe L pend hb, cm_lo ht, bI_f Bool.false_ne_true, if_pos rfl, show q_Mo_isSign 60 f = _ from sign_p h (s := 60) (by omega), bnd_s]
  rcases hh with rfl | rfl | rfl
  · have hq : tkF B n p = 2060 := hq
    rw [bI_t (by omega), if_neg (by decide), if_neg (by decide)]
    exact e115
  · have hq : tkF B n p = 2062 := hq
    rw [bI_f (by omega), if_pos rfl, show q_Mo_isSign 62 f = _ from sign_p h (s := 62) (by omega), bnd_s, bI_t (by omega), if_neg (by decide), if_neg (by decide)]
    exact e115
  · have hq : tkF B n p = 2061 := hq
    rw [bI_f (by omega), if_pos rfl, show q_Mo_isSign 62 f = _ from sign_p h (s := 62) (by omega), bnd_s, bI_f (by omega), if_pos rfl, if_pos rfl, show q_Mo_isSign 61 f = _ from sign_p h (s := 61) (by omega), bnd_s, bI_t (by omega), if_neg (by decide)]
    exact e115
theorem cmp_none {pend : Pi} (h : PM B n lg p pa dp (pend ++ L) len f) (hq : noOp (tkF B n p)) (hq2 : tkF B n p ≠ 2060 ∧ tkF B n p ≠ 2062 ∧ tkF B n p ≠ 2061) (hb : ∀ x, x ∈ pend → 5 ≤ bd x.1 ∧ 20 ≤ x.1) (ht : tb L < 4) (hi : ib L ≠ 32) : ∃ f', q_Mo_behindSum 1 f = some (1, f') ∧ PF lg p f' ∧ Un sPm f f' := by
  obtain ⟨f1, a1, a2, a3⟩ := must_0 h
  have ibp : ib (pend ++ L) ≠ 32 := by rw [ib_pe L pend (fun x hx => by have := (hb x hx).1; omega)]; exact hi
  refine ⟨f1, ?_, a2, a3⟩
  rw [bs_85 h hq ibp]
  unfold q_Mo_behindSum_85 q_Mo_behindSum_103 q_Mo_behindSum_115
  rw [compd_m h.2.2.2.2.2.2.2.2.2.1 h.2.2.2.2.2.2.2.2.1 h.ln, bnd_s, cm_pe L pend hb, cm_lo ht, bI_f Bool.false_ne_true, if_pos rfl, show q_Mo_isSign 60 f = _ from sign_p h (s := 60) (by omega), bnd_s, bI_f (by omega), if_pos rfl, show q_Mo_isSign 62 f = _ from sign_p h (s := 62) (by omega), bnd_s, bI_f (by omega), if_pos rfl, if_pos rfl, show q_Mo_isSign 61 f = _ from sign_p h (s := 61) (by omega), bnd_s, bI_f (by omega), if_pos rfl, a1, bnd_s, if_neg (by rw [a2.1]; decide)]
/-- a comparison -/
theorem MOkT_cmp {s : Nat} {d1 d2 : Den} (hs : 7 ≤ s ∧ s ≤ 9) (ha : tkF B n p0 ≠ 3006 ∧ tkF B n p0 ≠ 2040) (m1 : MOk B n lg 1 1 3 5 p0 pa0 dp p pa false d1) (hq : tkF B n p = cmS s) (c1 : cnt (stB B) p0 ≤ cnt (stB B) p) (hp : p < n ∧ stB B p = true) (m2 : MOk B n lg 1 1 3 5 (nx B n p) pa dp p2 pa2 false d2) (c2 : cnt (stB B) (nx B n p) ≤ cnt (stB B) p2) (hn : noOp (tkF B n p2)) : MOkT B n lg 4 4 p0 pa0 dp p2 pa2 (binD s d1 d2) := by
  intro K L len f hf hc ht hib
  obtain ⟨s1, f1, pe1, l1, b1, e1, h1, u1, g1, x1, y1, z1⟩ := m1 K L len f hf hc (by omega) (fun q => (by cases q))
  obtain ⟨f2, e2, h2, o2, w2, u2⟩ := cmp_push h1 hs hq g1 ht hib
  have kn := (tk_n hp.1 hp.2).2.1
  have b4 : bd (18 + s) = 4 := by
    have hh : s = 7 ∨ s = 8 ∨ s = 9 := by omega
    rcases hh with rfl | rfl | rfl <;> rfl
  obtain ⟨s3, f3, pe3, l3, b3, e3, h3, u3, g3, x3, y3, z3⟩ := m2 K ((18 + s, 0) :: L) _ f2 h2 ((hc.un u1).un u2) (by show bd (18 + s) < 5; omega) (fun q => (by cases q))
  generalize hC1 : sfF pe1 (gI f1 378, gI f1 379, l1) = C1 at *
  generalize hC3 : sfF pe3 (gI f3 378, gI f3 379, l3) = C3 at *
  have eC : sfF (pe3 ++ [(18 + s, 0)]) (gI f3 378, gI f3 379, l3) = (upR C3.1 C3.2.2 (nI (18 + s)), upR C3.2.1 C3.2.2 0, C3.2.2 + 1) := by
    rw [sfF_app, hC3, sf_emit ⟨by omega, hs.2⟩]
  have ib3 : ib (pe3 ++ (18 + s, 0) :: L) ≠ 32 := by
    rw [ib_pe _ pe3 (fun x hx => by have := (g3 x hx).1; omega)]
    show (if 31 ≤ 18 + s then 18 + s else ib L) ≠ 32
    rw [if_neg (by omega)]
    exact hib
  have cm3 : cmF (pe3 ++ (18 + s, 0) :: L) = true := by
    rw [cm_pe _ pe3 g3]
    show (if 20 ≤ 18 + s ∧ 18 + s ≤ 24 then cmF L else decide (25 ≤ 18 + s ∧ 18 + s ≤ 27)) = true
    rw [if_neg (by omega), decide_eq_true (by omega)]
  refine ⟨s1 + 1 + s3 + 1, f3, pe3 ++ [(18 + s, 0)], l3, by omega, fun F => ?_, ?_, (u1.tr u2).tr u3, fun x hx => ?_, ?_⟩
  · have a := e1 (F + 1 + s3 + 1)
    rw [show F + (s1 + 1 + s3 + 1) = F + 1 + s3 + s1 + 1 by omega, lp_01 K _ hf ha.1 ha.2, show F + 1 + s3 + s1 + 1 = F + 1 + s3 + 1 + s1 by omega]
    refine a.trans ?_
    have b := lp_s (v1 := 1) K (F + 1 + s3) h1.2.2.2.1 3 (by omega)
    rw [if_neg (by omega), if_neg (by omega), if_pos rfl, show q_Mo_behindSum (nI 1) f1 = _ from e2, bnd_s] at b
    refine b.trans ((e3 (F + 1)).trans ?_)
    have c := lp_s (v1 := 1) K F h3.2.2.2.1 3 (by omega)
    rw [if_neg (by omega), if_neg (by omega), if_pos rfl, show q_Mo_behindSum (nI 1) f3 = _ from bs_85 h3 hn ib3] at c
    refine c.trans ?_
    unfold q_Mo_behindSum_85
    rw [compd_m h3.2.2.2.2.2.2.2.2.2.1 h3.2.2.2.2.2.2.2.2.1 h3.ln, bnd_s, cm3, bI_t rfl, if_neg (by decide), bnd_s]
    rfl
  · rw [List.append_assoc]; exact h3
  · rcases List.mem_append.mp hx with hx | hx
    · have := (g3 x hx).1; omega
    · rw [List.mem_singleton.mp hx]; show 4 ≤ bd (18 + s); omega
  · rw [eC]
    have k1 : ∀ j, j < C1.2.2 → C3.1 j = C1.1 j ∧ C3.2.1 j = C1.2.1 j := fun j hj => by
      have := z3 j hj
      rw [o2, w2] at this
      exact this
    refine ⟨by show len < C3.2.2 + 1; omega, ?_, fun j hj => ?_⟩
    · show FrM lg (upR C3.1 C3.2.2 (nI (18 + s))) (upR C3.2.1 C3.2.2 0) len (C3.2.2 + 1) (binD s d1 d2)
      exact frm_bin (b := C1.2.2) (c := C3.2.2) (y1.ex (fun j a b => ⟨(upR_n _ _ (by omega)).trans (k1 j b).1, (upR_n _ _ (by omega)).trans (k1 j b).2⟩)) (y3.ex (fun j a b => ⟨upR_n _ _ (by omega), upR_n _ _ (by omega)⟩)) x1 ⟨by omega, hs.2⟩ (upR_s _ _ _)
    · have a := k1 j (by omega)
      have b := z1 j hj
      exact ⟨(upR_n _ _ (by omega)).trans (a.1.trans b.1), (upR_n _ _ (by omega)).trans (a.2.trans b.2)⟩
theorem MNoT_0 (ha : tkF B n p0 ≠ 3006 ∧ tkF B n p0 ≠ 2040) (m1 : MNo B n lg 1 1 5 p0 pa0 dp p false) : MNoT B n lg 4 p0 pa0 dp p := by
  intro K L len f hf hc ht hib
  obtain ⟨s1, f1, b1, e1, h1, u1⟩ := m1 K L len f hf hc (by omega) (fun q => (by cases q))
  refine ⟨s1, f1, b1, fun F => ?_, h1, u1⟩
  obtain ⟨k, hk⟩ : ∃ k, s1 = k + 1 := ⟨s1 - 1, by omega⟩
  have a := e1 F
  rw [hk] at a ⊢
  rw [← Nat.add_assoc, lp_01 K _ hf ha.1 ha.2]
  exact a
theorem MNoT_1 {d1 : Den} (ha : tkF B n p0 ≠ 3006 ∧ tkF B n p0 ≠ 2040) (m1 : MOk B n lg 1 1 3 5 p0 pa0 dp p pa false d1) (hq : noOp (tkF B n p)) (hq2 : tkF B n p ≠ 2060 ∧ tkF B n p ≠ 2062 ∧ tkF B n p ≠ 2061) : MNoT B n lg 4 p0 pa0 dp p := by
  intro K L len f hf hc ht hib
  obtain ⟨s1, f1, pe1, l1, b1, e1, h1, u1, g1, x1, y1, z1⟩ := m1 K L len f hf hc (by omega) (fun q => (by cases q))
  obtain ⟨f2, e2, h2, u2⟩ := cmp_none h1 hq hq2 g1 ht hib
  refine ⟨s1 + 2, f2, by omega, fun F => ?_, h2, u1.tr u2⟩
  have a := e1 (F + 1 + 1)
  rw [show F + (s1 + 2) = F + 1 + s1 + 1 by omega, lp_01 K _ hf ha.1 ha.2, show F + 1 + s1 + 1 = F + 1 + 1 + s1 by omega]
  refine a.trans ?_
  have b := lp_s (v1 := 1) K (F + 1) h1.2.2.2.1 3 (by omega)
  rw [if_neg (by omega), if_neg (by omega), if_pos rfl, show q_Mo_behindSum (nI 1) f1 = _ from e2, bnd_s] at b
  exact b.trans (lp_f K F h2.1 _)
theorem MNoT_2 {s : Nat} {d1 : Den} (hs : 7 ≤ s ∧ s ≤ 9) (ha : tkF B n p0 ≠ 3006 ∧ tkF B n p0 ≠ 2040) (m1 : MOk B n lg 1 1 3 5 p0 pa0 dp p pa false d1) (hq : tkF B n p = cmS s) (c1 : cnt (stB B) p0 ≤ cnt (stB B) p) (hp : p < n ∧ stB B p = true) (m2 : MNo B n lg 1 1 5 (nx B n p) pa dp p2 false) (c2 : cnt (stB B) (nx B n p) ≤ cnt (stB B) p2) : MNoT B n lg 4 p0 pa0 dp p2 := by
  intro K L len f hf hc ht hib
  obtain ⟨s1, f1, pe1, l1, b1, e1, h1, u1, g1, x1, y1, z1⟩ := m1 K L len f hf hc (by omega) (fun q => (by cases q))
  obtain ⟨f2, e2, h2, o2, w2, u2⟩ := cmp_push h1 hs hq g1 ht hib
  have kn := (tk_n hp.1 hp.2).2.1
  have b4 : bd (18 + s) = 4 := by
    have hh : s = 7 ∨ s = 8 ∨ s = 9 := by omega
    rcases hh with rfl | rfl | rfl <;> rfl
  obtain ⟨s3, f3, b3, e3, h3, u3⟩ := m2 K ((18 + s, 0) :: L) _ f2 h2 ((hc.un u1).un u2) (by show bd (18 + s) < 5; omega) (fun q => (by cases q))
  refine ⟨s1 + 1 + s3, f3, by omega, fun F => ?_, h3, (u1.tr u2).tr u3⟩
  obtain ⟨k, hk⟩ : ∃ k, s1 = k + 1 := ⟨s1 - 1, by omega⟩
  have a := e1 (F + s3 + 1)
  rw [show F + (s1 + 1 + s3) = F + s3 + 1 + k + 1 by omega, lp_01 K _ hf ha.1 ha.2, show F + s3 + 1 + k + 1 = F + s3 + 1 + s1 by omega]
  refine a.trans ?_
  have b := lp_s (v1 := 1) K (F + s3) h1.2.2.2.1 3 (by omega)
  rw [if_neg (by omega), if_neg (by omega), if_pos rfl, show q_Mo_behindSum (nI 1) f1 = _ from e2, bnd_s] at b
  exact b.trans (e3 F)
end TE
