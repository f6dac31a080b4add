/-! orders: a whole expression, the model -/
section RXo
variable {B : Nat → Nat} {n p pa dp len p' pa' q : Nat} {L : Pi} {f : hG} {den : Den}
/-- the model's reader between expressions -/
def PQo (B : Nat → Nat) (n p pa len : Nat) (f : hG) : Prop := TBM B n f ∧ MS B n p f ∧ Tk B n p ∧ gI f 367 19 = 0 ∧ gI f 367 20 = 1 ∧ gI f 367 23 = nI len ∧ gI f 367 26 = nI pa ∧ len ≤ cnt (stB B) p
theorem PM.toQo (h : PM B n 1 p pa dp L len f) : PQo B n p pa len f := by
  obtain ⟨j1, j2, j3, j4, j5, j6, j7, j8, j9, j10, j11, j12⟩ := h
  exact ⟨j1, j2, j3, j4, j5, j6, j7, by omega⟩
theorem next_qo (h : PQo B n p pa len f) (hp : p < n) (hs : stB B p = true) : ∃ f', q_Mo_next f = some ((), f') ∧ PQo B n (nx B n p) pa len f' ∧ Un sNx f f' := by
  obtain ⟨h1, h2, h3, h4, h5, h6, h7, h8⟩ := h
  obtain ⟨k1, k2, k3, k4⟩ := tk_n hp hs
  obtain ⟨e1, e2, -, -⟩ := eE_p B hp
  have h15 : gI f 367 15 = nI (eE B n p) := by rw [h2.2.2.1]; unfold enB; rw [if_pos hp]
  obtain ⟨f', a1, a2, a3⟩ := next_m h1 e2 h15 h2.1.2
  have ex : nb B n (eE B n p) = nx B n p := by unfold nx; rw [if_pos hp]
  rw [ex] at a2
  exact ⟨f', a1, ⟨h1.ex a3, a2, k1, (a3.I rfl).trans h4, (a3.I rfl).trans h5, (a3.I rfl).trans h6, (a3.I rfl).trans h7, by omega⟩, a3⟩
theorem must_qo1 (h : PQo B n p pa len f) : q_Mo_must 1 f = q_Mo_next f := by
  unfold q_Mo_must q_Mo_must_12
  rw [if_pos h.2.2.2.1, if_neg (by decide), if_pos h.2.2.2.1]
  cases q : q_Mo_next f with
  | none => rfl
  | some x => rfl
def MFo (q : Nat) (f : hG) : Prop := gI f 367 19 = 1 ∧ gI f 367 18 = nI q ∧ gI f 367 20 = 1
theorem must_qo0 (h : PQo B n p pa len f) : ∃ f', q_Mo_must 0 f = some ((), f') ∧ MFo p f' ∧ Un sPm f f' := by
  obtain ⟨h1, h2, h3, h4, h5, h6, h7, h8⟩ := h
  unfold q_Mo_must q_Mo_must_12
  rw [if_pos h4, if_pos rfl, wr_e, wr_e, rd_k (show ¬ (19 : Nat) = 18 by decide), rd_s, if_neg (by decide), rd_k (show ¬ (14 : Nat) = 19 by decide), h2.2.1]
  exact ⟨_, rfl, ⟨by rw [rd_k (by decide), rd_s], rd_s, by rw [rd_k (by decide), rd_k (by decide)]; exact h5⟩, (Un.rf.sI rfl _).sI rfl _⟩
theorem sign_qo (h : PQo B n p pa len f) {s : Nat} (hs : s < 256) : q_Mo_isSign (nI s) f = some (bI (tkF B n p = 2000 + s), f) := sign_m h.1 h.2.1 hs
theorem word_qo (h : PQo B n p pa len f) {i : Nat} (hi : i < 25) : q_Mo_isWord (hw i) f = some (bI (tkF B n p = 3001 + i), f) := word_m h.1 h.2.1 hi
theorem reset_po (h : PQo B n p pa len f) : PM B n 1 p pa 0 [] len (sI (sI f 367 29 0) 367 30 0) ∧ Un sPm f (sI (sI f 367 29 0) 367 30 0) ∧ gI (sI (sI f 367 29 0) 367 30 0) 378 = gI f 378 ∧ gI (sI (sI f 367 29 0) 367 30 0) 379 = gI f 379 := by
  obtain ⟨j1, j2, j3, j4, j5, j6, j7, j8⟩ := h
  have u : Un sPm f (sI (sI f 367 29 0) 367 30 0) := (Un.rf.sI rfl _).sI rfl _
  have r7 : ∀ k, k ≠ 29 → k ≠ 30 → gI (sI (sI f 367 29 0) 367 30 0) 367 k = gI f 367 k := fun k h1 h2 => by rw [rd_k h2, rd_k h1]
  refine ⟨⟨⟨j1.1, (r7 13 (by decide) (by decide)).trans j1.2.1, fun j hj => ⟨(u.I rfl).trans (j1.2.2 j hj).1, (j1.2.2 j hj).2⟩⟩, j2.ex (fun k hk => r7 k (by omega) (by omega)) rfl, j3, (r7 19 (by decide) (by decide)).trans j4, (r7 20 (by decide) (by decide)).trans j5, (r7 23 (by decide) (by decide)).trans j6, (r7 26 (by decide) (by decide)).trans j7, rd_s, (rd_k (by decide)).trans rd_s, trivial, Nat.zero_le _, ?_⟩, u, ?_, ?_⟩
  · show len + 0 ≤ _
    omega
  · rw [gI_up0 _ _ _ (by decide), gI_up0 _ _ _ (by decide)]
  · rw [gI_up0 _ _ _ (by decide), gI_up0 _ _ _ (by decide)]
/-- all is settled -/
theorem settle_allo {pend : Pi} (h : PM B n 1 p pa dp (pend ++ []) len f) (hb : ∀ x, x ∈ pend → 1 ≤ bd x.1) : ∃ f', q_Mo_readExpression_40 f = some ((), f') ∧ PM B n 1 p pa dp [] (sfF pend (gI f 378, gI f 379, len)).2.2 f' ∧ gI f' 378 = (sfF pend (gI f 378, gI f 379, len)).1 ∧ gI f' 379 = (sfF pend (gI f 378, gI f 379, len)).2.1 ∧ Un sPm f f' := by
  obtain ⟨f', e1, e2, e3, e4, e5⟩ := settle_p h (lo := 1) (by omega) (by omega) hb (by show 0 < 1; omega)
  refine ⟨f', ?_, e2, e3, e4, sSt_sPm e5⟩
  unfold q_Mo_readExpression_40
  rw [show q_Mo_settle (1 : Int32) f = _ from e1, bnd_s]
theorem settle_bado (h : PF 1 q f) : ∃ f', q_Mo_readExpression_40 f = some ((), f') ∧ gI f' 367 19 = 1 ∧ gI f' 367 18 = nI q ∧ gI f' 367 20 = 1 ∧ Un sPm f f' := by
  obtain ⟨f', e1, e2, e3, e4, e5⟩ := settle_f h
  refine ⟨f', ?_, e2, e3, e4, sSt_sPm e5⟩
  unfold q_Mo_readExpression_40
  rw [e1, bnd_s]
/-- a sum -/
theorem rexp_so (hm : MOk B n 1 0 1 3 5 p pa 0 p' pa' false den) (hq : noOp (tkF B n p')) (h : PQo B n p pa len f) (hc : CoR f) : ∃ len' f', q_Mo_readExpression 0 f = some ((), f') ∧ PQo B n p' pa' len' f' ∧ len < len' ∧ FrM 1 (gI f' 378) (gI f' 379) len len' den ∧ (∀ j, j < len → gI f' 378 j = gI f 378 j ∧ gI f' 379 j = gI f 379 j) ∧ Un sPm f f' := by
  obtain ⟨h0, u0, o0, w0⟩ := reset_po h
  obtain ⟨s, f1, pe, l1, b1, e1, h1, u1, g1, x1, y1, z1⟩ := hm (fun g24 => q_Mo_readExpression_40 g24) [] len _ h0 (hc.un u0) (by show 0 < 5; omega) (fun q => (by cases q))
  have c4 := h1.c4
  obtain ⟨f2, a1, a2, a3, a4, a5⟩ := settle_allo h1 (fun x hx => by have := (g1 x hx).1; omega)
  rw [o0, w0] at z1
  refine ⟨_, f2, ?_, a2.toQo, x1, ?_, ?_, (u0.tr u1).tr a5⟩
  · unfold q_Mo_readExpression q_Mo_readExpression_11
    rw [wr_e, wr_e, if_pos rfl]
    obtain ⟨F, hF⟩ := fu_s (s := s) (by omega)
    rw [hF]
    refine (e1 (F + 1 + 1)).trans ?_
    have b := lp_s (v1 := 0) (fun g24 => q_Mo_readExpression_40 g24) (F + 1) h1.2.2.2.1 3 (by omega)
    refine b.trans ?_
    rw [if_neg (by omega), if_neg (by omega), if_pos rfl, bs_no h1 hq]
    unfold q_Mo_behindSum_31
    rw [if_pos rfl, inner_m h1.2.2.2.2.2.2.2.2.2.1 h1.2.2.2.2.2.2.2.2.1 h1.ln, bnd_s, ib_0 pe (fun x hx => by have := (g1 x hx).1; omega), if_pos (show (0 : Nat) = 0 from rfl), if_neg (show ¬ (-1 : Int32) = 32 by decide), if_pos rfl, if_pos (show nI 0 = 0 from rfl), bnd_s, q_Mo_readExpression_12L_s]
    unfold q_Mo_readExpression_12
    rw [if_pos h1.2.2.2.1, if_pos rfl]
    exact a1
  · rw [a3, a4]; exact y1
  · rw [a3, a4]; exact z1
theorem rexp_sno (hm : MNo B n 1 0 1 5 p pa 0 q false) (hq : q ≤ n) (h : PQo B n p pa len f) (hc : CoR f) : ∃ f', q_Mo_readExpression 0 f = some ((), f') ∧ gI f' 367 19 = 1 ∧ gI f' 367 18 = nI q ∧ gI f' 367 20 = 1 ∧ Un sPm f f' := by
  obtain ⟨h0, u0, o0, w0⟩ := reset_po h
  obtain ⟨s, f1, b1, e1, h1, u1⟩ := hm (fun g24 => q_Mo_readExpression_40 g24) [] len _ h0 (hc.un u0) (by show 0 < 5; omega) (fun q => (by cases q))
  have c4 := cnt_400 h.1 q hq
  obtain ⟨f2, a1, a2, a3, a4, a5⟩ := settle_bado h1
  refine ⟨f2, ?_, a2, a3, a4, (u0.tr u1).tr a5⟩
  unfold q_Mo_readExpression q_Mo_readExpression_11
  rw [wr_e, wr_e, if_pos rfl]
  obtain ⟨F, hF⟩ := fu_s (s := s) (by omega)
  rw [hF]
  exact (e1 (F + 1 + 1)).trans a1
/-- a test -/
theorem rexp_to (hm : MOkT B n 1 1 1 p pa 0 p' pa' den) (hq : noAO (tkF B n p')) (h : PQo B n p pa len f) (hc : CoR f) : ∃ len' f', q_Mo_readExpression 1 f = some ((), f') ∧ PQo B n p' pa' len' f' ∧ len < len' ∧ FrM 1 (gI f' 378) (gI f' 379) len len' den ∧ (∀ j, j < len → gI f' 378 j = gI f 378 j ∧ gI f' 379 j = gI f 379 j) ∧ Un sPm f f' := by
  obtain ⟨h0, u0, o0, w0⟩ := reset_po h
  obtain ⟨s, f1, pe, l1, b1, e1, h1, u1, g1, x1, y1, z1⟩ := hm (fun g24 => q_Mo_readExpression_40 g24) [] len _ h0 (hc.un u0) (by show 0 < 1; omega) (by decide)
  have c4 := h1.c4
  obtain ⟨f2, a1, a2, a3, a4, a5⟩ := settle_allo h1 g1
  rw [o0, w0] at z1
  refine ⟨_, f2, ?_, a2.toQo, x1, ?_, ?_, (u0.tr u1).tr a5⟩
  · unfold q_Mo_readExpression q_Mo_readExpression_11
    rw [wr_e, wr_e, if_neg (by decide)]
    obtain ⟨F, hF⟩ := fu_s (s := s) (by omega)
    rw [hF]
    refine (e1 (F + 1 + 1)).trans ?_
    have b := lp_s (v1 := 1) (fun g24 => q_Mo_readExpression_40 g24) (F + 1) h1.2.2.2.1 2 (by omega)
    refine Eq.trans b ?_
    rw [if_neg (by omega), if_neg (by omega), if_neg (by omega), bt_no h1 hq, inner_m h1.2.2.2.2.2.2.2.2.2.1 h1.2.2.2.2.2.2.2.2.1 h1.ln, bnd_s, ib_0 pe g1, if_pos (show (0 : Nat) = 0 from rfl), if_pos rfl, bnd_s, q_Mo_readExpression_12L_s]
    unfold q_Mo_readExpression_12
    rw [if_pos h1.2.2.2.1, if_pos rfl]
    exact a1
  · rw [a3, a4]; exact y1
  · rw [a3, a4]; exact z1
theorem rexp_tno (hm : MNoT B n 1 1 p pa 0 q) (hq : q ≤ n) (h : PQo B n p pa len f) (hc : CoR f) : ∃ f', q_Mo_readExpression 1 f = some ((), f') ∧ gI f' 367 19 = 1 ∧ gI f' 367 18 = nI q ∧ gI f' 367 20 = 1 ∧ Un sPm f f' := by
  obtain ⟨h0, u0, o0, w0⟩ := reset_po h
  obtain ⟨s, f1, b1, e1, h1, u1⟩ := hm (fun g24 => q_Mo_readExpression_40 g24) [] len _ h0 (hc.un u0) (by show 0 < 1; omega) (by decide)
  have c4 := cnt_400 h.1 q hq
  obtain ⟨f2, a1, a2, a3, a4, a5⟩ := settle_bado h1
  refine ⟨f2, ?_, a2, a3, a4, (u0.tr u1).tr a5⟩
  unfold q_Mo_readExpression q_Mo_readExpression_11
  rw [wr_e, wr_e, if_neg (by decide)]
  obtain ⟨F, hF⟩ := fu_s (s := s) (by omega)
  rw [hF]
  exact (e1 (F + 1 + 1)).trans a1
end RXo
/-! orders: what is behind a clause's sums, both -/
section CFo
variable {B : Nat → Nat} {n t p sz pa i : Nat} {g : hG}
theorem PC.keep1 {g' : hG} (h : PC B n t 1 p sz pa g) (e : ∀ a k, (a = 235 ∨ a = 237 ∨ a = 238 ∨ a = 239 ∨ (a = t ∧ k = 1)) → gI g' a k = gI g a k) (eP : gP g' 239 1 = gP g 239 1) : PC B n t 1 p sz pa g' := by
  obtain ⟨⟨a1, a2⟩, a3, a4, a5, a6, a7, a8, a9, a10, a11, a12⟩ := h
  exact ⟨⟨(e 235 4 (by omega)).trans a1, fun p hp => ⟨(e 238 _ (by omega)).trans (a2 p hp).1, (e 237 _ (by omega)).trans (a2 p hp).2⟩⟩, a3, a4, a5, eP.trans a6, (e 239 2 (by omega)).trans a7, (e 239 3 (by omega)).trans a8, (e 239 4 (by omega)).trans a9, (e t 1 (by omega)).trans a10, a11, a12⟩
/-- a row of code with its STOP -/
def Rwo (g : hG) (t sz a : Nat) (den : Den) : Prop := ∃ b k, FrC 249 (gI g (t + 1)) a b k den ∧ k ≤ 50 ∧ gI g (t + 1) b = nI 13 ∧ b < sz
theorem Rwo.ex {g' : hG} {a sz' : Nat} {den : Den} (h : Rwo g t sz a den) (hs : sz ≤ sz') (e : ∀ j, j < sz → gI g' (t + 1) j = gI g (t + 1) j) : Rwo g' t sz' a den := by
  obtain ⟨b, k, h1, h2, h3, h4⟩ := h
  exact ⟨b, k, h1.ex (fun j x y => e j (by omega)), h2, (e b h4).trans h3, by omega⟩
def sLo (a k : Nat) : Bool := sPm a k || a == 397 || (a == 367 && k == 21)
theorem sPm_sLo {f f' : hG} (u : Un sPm f f') : Un sLo f f' := u.mo (fun a k z => by
  unfold sLo at z
  rw [Bool.or_eq_false_iff, Bool.or_eq_false_iff] at z
  exact z.1.1)
def mIfo (v2 : Int32) (g : hG) : hO Unit := bnd (q_Mo_isWord (294 : Int64) g) fun r36 g34 => if r36 = (0 : Int32) then (q_Mo_readOrder_136 v2 g34) else (bnd (q_Mo_next g34) fun _ g38 => bnd (q_Mo_readExpression (1 : Int32) g38) fun _ g40 => q_Mo_readOrder_136 v2 g40)
theorem e136 (i : Nat) (hi : i < 12) (f : hG) : q_Mo_readOrder_136 (nI (8 * i)) f = some ((), sI f 397 (8 * i + 6) (gI f 367 23)) := by
  unfold q_Mo_readOrder_136
  rw [show nI (8 * i) + (6 : Int32) = nI (8 * i + 6) from nI_add _ 6, gd_nI (by omega) (by omega), wr_e, nI_clamp (by omega)]
theorem PQo.w397 {len : Nat} {f : hG} (h : PQo B n p pa len f) (k : Nat) (v : Int32) : PQo B n p pa len (sI f 397 k v) := by
  obtain ⟨j1, j2, j3, j4, j5, j6, j7, j8⟩ := h
  have r : ∀ a x, a ≠ 397 → gI (sI f 397 k v) a x = gI f a x := fun a x ha => rd_a ha
  exact ⟨⟨j1.1, (r _ _ (by decide)).trans j1.2.1, fun j hj => ⟨(r _ _ (by decide)).trans (j1.2.2 j hj).1, (j1.2.2 j hj).2⟩⟩, j2.ex (fun x _ => r _ _ (by decide)) rfl, j3, (r _ _ (by decide)).trans j4, (r _ _ (by decide)).trans j5, (r _ _ (by decide)).trans j6, (r _ _ (by decide)).trans j7, j8⟩
/-- the test's part of a clause of the model -/
def DTo (f : hG) (len i : Nat) (te : Den) : Prop := (∃ a b, a < b ∧ b ≤ len ∧ gI f 397 (8 * i + 5) = nI a ∧ gI f 397 (8 * i + 6) = nI b ∧ FrM 1 (gI f 378) (gI f 379) a b te) ∨ ∃ a, a ≤ len ∧ gI f 397 (8 * i + 5) = nI a ∧ gI f 397 (8 * i + 6) = nI a ∧ te = fun _ => some 1
theorem if_jo (h : PC B n t 1 p sz pa g) (hi : i < 12) (h6 : gI g (t + 6) i = 0) (hB : gI g (t + 1) 0 = nI 16 ∧ gI g (t + 1) 1 = nI 13 ∧ 2 ≤ sz) : ∃ (b : Bool) (g' : hG) (p' sz' pa' : Nat), q_Rd_readIf (nI i) g = some (bI (b = true), g') ∧ Un (sTx t) g g' ∧ PC B n t 1 p' sz' pa' g' ∧ (∀ a k, t + 2 ≤ a → a ≤ t + 6 → ¬ (a = t + 6 ∧ k = i) → gI g' a k = gI g a k) ∧
    (b = true → cnt (stB B) p ≤ cnt (stB B) p' ∧ sz ≤ sz' ∧ (∀ j, j < sz → gI g' (t + 1) j = gI g (t + 1) j) ∧ ∃ te : Den, t01 te ∧ GD 1 te ∧ (∃ a, gI g' (t + 6) i = nI a ∧ Rwo g' t sz' a te) ∧ ∀ (len : Nat) (f : hG), PQo B n p pa len f → CoR f → gI f 397 (8 * i + 5) = nI len → ∃ (len' : Nat) (f' : hG), mIfo (nI (8 * i)) f = some ((), f') ∧ PQo B n p' pa' len' f' ∧ Un sLo f f' ∧ len ≤ len' ∧ (∀ j, j < len → gI f' 378 j = gI f 378 j ∧ gI f' 379 j = gI f 379 j) ∧ (∀ k, k ≠ 8 * i + 6 → gI f' 397 k = gI f 397 k) ∧ gI f' 367 21 = gI f 367 21 ∧ DTo f' len' i te) ∧
    (b = false → ∀ (len : Nat) (f : hG), PQo B n p pa len f → CoR f → ∃ f', mIfo (nI (8 * i)) f = some ((), f') ∧ MFo p' f' ∧ Un sLo f f') := by
  have tt := h.2.2.2.1.2
  have hh := ht_ne h.2.2.2.1
  have sl : sz ≤ 2 + cnt (stB B) p := h.2.2.2.2.2.2.2.2.2.2
  have wd : ∀ {len : Nat} {f : hG}, PQo B n p pa len f → q_Mo_isWord 294 f = some (bI (tkF B n p = 3001 + 2), f) := fun hf => word_qo hf (i := 2) (by omega)
  unfold q_Rd_readIf
  rw [show q_Rd_took (3003 : Int32) g = _ from took_c h (v := 3003) (by omega)]
  by_cases z : tkF B n p = 3003
  · have hp := tk_lt h.2.1 (by omega)
    have kn := (tk_n hp.1 hp.2).2.1
    have ha := h.adv hp.1 hp.2
    have hk : PC B n t 1 (nx B n p) sz pa (sI (adv B n p g) (t + 6) i (nI sz)) := ha.keep1 (fun a k hh => rd_a (by omega)) rfl
    obtain ⟨b, g2, p2, sz2, pa2, x1, x2, x3, x4, x5, x6, x7, x8⟩ := test_z1 FR 0 (by decide) (by omega) _ _ _ _ hk
    obtain ⟨a1, a2, a3⟩ := add_j x3 (by omega) (s := 13) (by omega)
    have u1 : Un (sTx t) g (sI (adv B n p g) (t + 6) i (nI sz)) := (sRd_sTx un_adv).sI (by unfold sTx; simp) _
    have uu := (u1.tr (sRd_sTx x2)).tr (sRd_sTx (un_add (t := t) (g := g2) (sz := sz2) (c := 13)))
    have rows : ∀ a k, t + 2 ≤ a → a ≤ t + 6 → ¬ (a = t + 6 ∧ k = i) → gI (addH t sz2 13 g2) a k = gI g a k := fun a k q1 q2 q3 => by
      have q : sRd t a k = false := Bool.eq_false_iff.mpr (fun y => by
        simp only [sRd, Bool.or_eq_true, Bool.and_eq_true, beq_iff_eq] at y
        omega)
      rw [un_add.I q, x2.I q, gI_sI, if_neg q3, un_adv.I q]
    rw [if_pos z, bnd_s, if_neg (by decide), ha.2.2.2.2.1, gp_p h.2.2.2.1.1, gp_p h.2.2.2.1.1, gd_nI hi (by omega), wr_e, nI_clamp (by omega), ha.2.2.2.2.2.2.2.2.1, show z_Rd_test FR (0 : Int32) (sI (adv B n p g) (t + 6) i (nI sz)) = _ from x1, bnd_s]
    have er : ∀ r, q_Rd_endRow (bI (b = true)) g2 = r → r = some (bI (b = true), addH t sz2 13 g2) := fun r q => by
      rw [← q]
      unfold q_Rd_endRow
      rw [x3.2.2.2.2.1, gp_p h.2.2.2.1.1, show q_Text_add t (13 : Int32) (0 : Int32) g2 = _ from a1, bnd_s, gb_bI2]
    rw [er _ rfl, bnd_s, gb_bI2]
    refine ⟨b, _, p2, sz2 + 1, pa2, rfl, uu, a2, rows, fun q => ?_, fun q => ?_⟩
    · obtain ⟨y1, y2, y3, te, k, y4, y5, y6, y7, y8⟩ := x7 q
      have s4 := y4.1
      have pa50 : pa2 ≤ 50 := x3.2.2.2.2.2.2.2.2.2.1
      refine ⟨by omega, by omega, fun j hj => ?_, te, y6, y7, ⟨sz, ?_, sz2, k, ?_, by omega, by rw [a3, if_pos rfl], by omega⟩, fun len f hf hc h5 => ?_⟩
      · rw [a3, if_neg (by omega), y3 j hj, rd_a (by omega)]
        exact rd_a (by omega)
      · have q : sRd t (t + 6) i = false := Bool.eq_false_iff.mpr (fun y => by
          simp only [sRd, Bool.or_eq_true, Bool.and_eq_true, beq_iff_eq] at y
          omega)
        rw [un_add.I q, x2.I q, rd_s]
      · exact y4.ex (fun j a b => by rw [a3, if_neg (by omega)])
      · obtain ⟨f1, b1, b2, b3⟩ := next_qo hf hp.1 hp.2
        obtain ⟨len', f2, c1, c2, c3, c4, c5, c6⟩ := rexp_to y8 y2 b2 (hc.un (sNx_sPm b3))
        have u2 : Un sLo f (sI f2 397 (8 * i + 6) (gI f2 367 23)) := ((sPm_sLo (sNx_sPm b3)).tr (sPm_sLo c6)).sI rfl _
        have e23 : gI f2 367 23 = nI len' := c2.2.2.2.2.2.1
        have r7 : ∀ k, gI f2 397 k = gI f 397 k := fun k => (c6.I rfl).trans (b3.I rfl)
        refine ⟨len', sI f2 397 (8 * i + 6) (gI f2 367 23), ?_, c2.w397 _ _, u2, by omega, fun j hj => ?_, fun k hk => ?_, ?_, Or.inl ⟨len, len', c3, Nat.le_refl _, ?_, ?_, ?_⟩⟩
        · unfold mIfo
          rw [wd hf, bnd_s, bI_t (by omega), if_neg (by decide), b1, bnd_s, c1, bnd_s, e136 i hi]
        · rw [rd_a (by decide), rd_a (by decide)]
          exact ⟨(c5 j hj).1.trans (b3.I rfl), (c5 j hj).2.trans (b3.I rfl)⟩
        · rw [rd_k hk, r7]
        · rw [rd_a (by decide)]; exact (c6.I rfl).trans (b3.I rfl)
        · rw [rd_k (by omega), r7]; exact h5
        · rw [rd_s, e23]
        · rw [gI_up0 _ _ _ (by decide), gI_up0 _ _ _ (by decide)]; exact c4
    · intro len f hf hc
      obtain ⟨f1, b1, b2, b3⟩ := next_qo hf hp.1 hp.2
      obtain ⟨f2, c1, c2, c3, c4, c5⟩ := rexp_tno (x8 q) x3.2.1.le b2 (hc.un (sNx_sPm b3))
      refine ⟨sI f2 397 (8 * i + 6) (gI f2 367 23), ?_, ⟨(rd_a (by decide)).trans c2, (rd_a (by decide)).trans c3, (rd_a (by decide)).trans c4⟩, ((sPm_sLo (sNx_sPm b3)).tr (sPm_sLo c5)).sI rfl _⟩
      unfold mIfo
      rw [wd hf, bnd_s, bI_t (by omega), if_neg (by decide), b1, bnd_s, c1, bnd_s, e136 i hi]
  · rw [if_neg z, bnd_s, if_pos rfl]
    refine ⟨true, g, p, sz, pa, by rw [bI_t rfl], Un.rf, h, fun _ _ _ _ _ => rfl, fun _ => ⟨Nat.le_refl _, Nat.le_refl _, fun _ _ => rfl, fun _ => some 1, fun _ v q => by injection q with q; exact Or.inr q.symm, gd_num 1 (m := 1) (by omega), ⟨0, h6, 1, 1, frc_num 249 (m := 1) (by omega) hB.1, by omega, hB.2.1, by omega⟩, fun len f hf hc h5 => ?_⟩, fun q => (by cases q)⟩
    have e23 : gI f 367 23 = nI len := hf.2.2.2.2.2.1
    refine ⟨len, sI f 397 (8 * i + 6) (gI f 367 23), ?_, hf.w397 _ _, Un.rf.sI rfl _, Nat.le_refl _, fun j hj => ⟨rd_a (by decide), rd_a (by decide)⟩, fun k hk => rd_k hk, rd_a (by decide), Or.inr ⟨len, Nat.le_refl _, (rd_k (by omega)).trans h5, by rw [rd_s, e23], rfl⟩⟩
    unfold mIfo
    rw [wd hf, bnd_s, bI_f (by omega), if_pos rfl, e136 i hi]
end CFo
