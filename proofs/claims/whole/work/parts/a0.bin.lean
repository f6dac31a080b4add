/-! texts: operators between parts, the model -/
section BI
variable {B : Nat → Nat} {n lg v1 p pa dp len : Nat} {L : Pi} {f : hG}
theorem sign_p (h : PM B n lg p pa dp L len f) {s : Nat} (hs : s < 256) : q_Mo_isSign (nI s) f = some (bI (tkF B n p = 2000 + s), f) := sign_m h.1 h.2.1 hs
/-- no operator there -/
theorem bs_no (h : PM B n lg p pa dp L len f) (hq : tkF B n p ≠ 2043 ∧ tkF B n p ≠ 2045 ∧ tkF B n p ≠ 2042 ∧ tkF B n p ≠ 2047 ∧ tkF B n p ≠ 2037) (v : Int32) : q_Mo_behindSum v f = q_Mo_behindSum_31 v (-1) f := by
  unfold q_Mo_behindSum
  rw [show q_Mo_isSign 43 f = _ from sign_p h (s := 43) (by omega), bnd_s, bI_f (by omega), if_pos rfl, show q_Mo_isSign 45 f = _ from sign_p h (s := 45) (by omega), bnd_s, bI_f (by omega), if_pos rfl, show q_Mo_isSign 42 f = _ from sign_p h (s := 42) (by omega), bnd_s, bI_f (by omega), if_pos rfl, show q_Mo_isSign 47 f = _ from sign_p h (s := 47) (by omega), bnd_s, bI_f (by omega), if_pos rfl, show q_Mo_isSign 37 f = _ from sign_p h (s := 37) (by omega), bnd_s, bI_f (by omega), if_pos rfl]
/-- signs of + - * / % -/
def opS (s : Nat) : Nat := if s = 2 then 2043 else if s = 3 then 2045 else if s = 4 then 2042 else if s = 5 then 2047 else 2037
theorem bs_op (h : PM B n lg p pa dp L len f) {s : Nat} (hs : 2 ≤ s ∧ s ≤ 6) (hq : tkF B n p = opS s) (v : Int32) : q_Mo_behindSum v f = q_Mo_behindSum_31 v (nI (18 + s)) f := by
  have hh : s = 2 ∨ s = 3 ∨ s = 4 ∨ s = 5 ∨ s = 6 := by omega
  unfold q_Mo_behindSum
  rcases hh with rfl | rfl | rfl | rfl | rfl
  · have hq : tkF B n p = 2043 := hq
    rw [show q_Mo_isSign 43 f = _ from sign_p h (s := 43) (by omega), bnd_s, bI_t (by omega), if_neg (by decide)]
    rfl
  · have hq : tkF B n p = 2045 := hq
    rw [show q_Mo_isSign 43 f = _ from sign_p h (s := 43) (by omega), bnd_s, bI_f (by omega), if_pos rfl, show q_Mo_isSign 45 f = _ from sign_p h (s := 45) (by omega), bnd_s, bI_t (by omega), if_neg (by decide)]
    rfl
  · have hq : tkF B n p = 2042 := hq
    rw [show q_Mo_isSign 43 f = _ from sign_p h (s := 43) (by omega), bnd_s, bI_f (by omega), if_pos rfl, show q_Mo_isSign 45 f = _ from sign_p h (s := 45) (by omega), bnd_s, bI_f (by omega), if_pos rfl, show q_Mo_isSign 42 f = _ from sign_p h (s := 42) (by omega), bnd_s, bI_t (by omega), if_neg (by decide)]
    rfl
  · have hq : tkF B n p = 2047 := hq
    rw [show q_Mo_isSign 43 f = _ from sign_p h (s := 43) (by omega), bnd_s, bI_f (by omega), if_pos rfl, show q_Mo_isSign 45 f = _ from sign_p h (s := 45) (by omega), bnd_s, bI_f (by omega), if_pos rfl, show q_Mo_isSign 42 f = _ from sign_p h (s := 42) (by omega), bnd_s, bI_f (by omega), if_pos rfl, show q_Mo_isSign 47 f = _ from sign_p h (s := 47) (by omega), bnd_s, bI_t (by omega), if_neg (by decide)]
    rfl
  · have hq : tkF B n p = 2037 := hq
    rw [show q_Mo_isSign 43 f = _ from sign_p h (s := 43) (by omega), bnd_s, bI_f (by omega), if_pos rfl, show q_Mo_isSign 45 f = _ from sign_p h (s := 45) (by omega), bnd_s, bI_f (by omega), if_pos rfl, show q_Mo_isSign 42 f = _ from sign_p h (s := 42) (by omega), bnd_s, bI_f (by omega), if_pos rfl, show q_Mo_isSign 47 f = _ from sign_p h (s := 47) (by omega), bnd_s, bI_f (by omega), if_pos rfl, show q_Mo_isSign 37 f = _ from sign_p h (s := 37) (by omega), bnd_s, bI_t (by omega), if_neg (by decide)]
    rfl
theorem bd_op {s : Nat} (hs : 2 ≤ s ∧ s ≤ 6) : bd (18 + s) = (if s < 4 then 5 else 6) := by
  have hh : s = 2 ∨ s = 3 ∨ s = 4 ∨ s = 5 ∨ s = 6 := by omega
  rcases hh with rfl | rfl | rfl | rfl | rfl <;> rfl
/-- an operator settles, is pushed, and the next part is read -/
theorem bs_push {pend : Pi} (h : PM B n lg p pa dp (pend ++ L) len f) {s lo : Nat} (hs : 2 ≤ s ∧ s ≤ 6) (hlo : bd (18 + s) = lo) (hq : tkF B n p = opS s) (hb : ∀ x, x ∈ pend → lo ≤ bd x.1) (ht : tb L < lo) (v : Int32) : ∃ f', q_Mo_behindSum v f = some (1, f') ∧ PM B n lg (nx B n p) pa dp ((18 + s, 0) :: L) (sfF pend (gI f 378, gI f 379, len)).2.2 f' ∧ gI f' 378 = (sfF pend (gI f 378, gI f 379, len)).1 ∧ gI f' 379 = (sfF pend (gI f 378, gI f 379, len)).2.1 ∧ Un sPm f f' := by
  have l1 : 1 ≤ lo ∧ lo < 100 := by rw [← hlo, bd_op hs]; split <;> omega
  have h4 : tkF B n p ≠ 4000 := by
    rw [hq]; unfold opS
    split; omega; split; omega; split; omega; split; omega; omega
  obtain ⟨hp, hst⟩ := tk_lt h.2.2.1 h4
  obtain ⟨f1, a1, a2, a3, a4, a5⟩ := settle_p h l1.1 l1.2 hb ht
  obtain ⟨f2, b1, b2, b3, b4, b5⟩ := push_p a2 hp hst (a := 18 + s) (b := 0) (by omega) (by omega)
  refine ⟨f2, ?_, b2, b4.trans a3, b5.trans a4, (sSt_sPm a5).tr b3⟩
  rw [bs_op h hs hq]
  unfold q_Mo_behindSum_31
  have n1 : ¬ nI (18 + s) = -1 := n_m1 (by omega)
  rw [if_neg n1, binds_m _ (by omega), bnd_s, hlo, a1, bnd_s]
  have e : (bnd (q_Mo_push (nI (18 + s)) (0 : Int32) f1) fun _ g71 => bnd (q_Mo_next g71) fun _ g73 => some ((1 : Int32), g73)) = bnd (bnd (q_Mo_push (nI (18 + s)) (nI 0) f1) fun _ g16 => q_Mo_next g16) fun _ g => some ((1 : Int32), g) := by
    show bnd (q_Mo_push (nI (18 + s)) (nI 0) f1) _ = _
    cases q : q_Mo_push (nI (18 + s)) (nI 0) f1 with
    | none => rfl
    | some x => rfl
  rw [e, b1, bnd_s]
end BI
section MB
variable {B : Nat → Nat} {n lg v1 p0 pa0 p pa dp p2 pa2 lo : Nat}
theorem sf_emit {s : Nat} (hs : 2 ≤ s ∧ s ≤ 9) (C : Cd) : sfF [(18 + s, 0)] C = (upR C.1 C.2.2 (nI (18 + s)), upR C.2.1 C.2.2 0, C.2.2 + 1) := by
  show sf1 (18 + s, 0) C = _
  unfold sf1
  rw [if_neg (show ¬ ((18 + s, 0).1 = 29 ∨ (18 + s, 0).1 = 30) by show ¬ (18 + s = 29 ∨ 18 + s = 30); omega)]
theorem MOk_bin {s : Nat} {d1 d2 : Den} (hs : 2 ≤ s ∧ s ≤ 6) (hlo : bd (18 + s) = lo) (m1 : MOk B n lg v1 1 3 lo p0 pa0 dp p pa false d1) (hq : tkF B n p = opS s) (c1 : cnt (stB B) p0 ≤ cnt (stB B) p) (hp : p < n ∧ stB B p = true) (m2 : MOk B n lg v1 1 3 (lo + 1) (nx B n p) pa dp p2 pa2 false d2) (c2 : cnt (stB B) (nx B n p) ≤ cnt (stB B) p2) : MOk B n lg v1 1 3 lo p0 pa0 dp p2 pa2 false (binD s d1 d2) := by
  intro K L len f hf hc ht _
  obtain ⟨s1, f1, pe1, l1, b1, e1, h1, u1, g1, x1, y1, z1⟩ := m1 K L len f hf hc ht (fun q => by cases q)
  obtain ⟨f2, e2, h2, o2, w2, u2⟩ := bs_push h1 hs hlo hq (fun x hx => (g1 x hx).1) ht (nI v1)
  have kn := (tk_n hp.1 hp.2).2.1
  obtain ⟨s3, f3, pe3, l3, b3, e3, h3, u3, g3, x3, y3, z3⟩ := m2 K ((18 + s, 0) :: L) _ f2 h2 ((hc.un u1).un u2) (by show bd (18 + s) < lo + 1; omega) (fun q => by cases q)
  generalize hC1 : sfF pe1 (gI f1 378, gI f1 379, l1) = C1 at *
  generalize hC3 : sfF pe3 (gI f3 378, gI f3 379, l3) = C3 at *
  have eC : sfF (pe3 ++ [(18 + s, 0)]) (gI f3 378, gI f3 379, l3) = (upR C3.1 C3.2.2 (nI (18 + s)), upR C3.2.1 C3.2.2 0, C3.2.2 + 1) := by
    rw [sfF_app, hC3, sf_emit ⟨hs.1, by omega⟩]
  refine ⟨s1 + 1 + s3, f3, pe3 ++ [(18 + s, 0)], l3, by omega, fun F => ?_, ?_, (u1.tr u2).tr u3, fun x hx => ?_, ?_⟩
  · rw [show F + (s1 + 1 + s3) = F + s3 + 1 + s1 by omega, e1, lp_s K (F + s3) h1.2.2.2.1 3 (by omega), if_neg (by omega), if_neg (by omega), if_pos rfl, e2, bnd_s]
    exact e3 F
  · rw [List.append_assoc]; exact h3
  · rcases List.mem_append.mp hx with hx | hx
    · have := g3 x hx; omega
    · rw [List.mem_singleton.mp hx]; show lo ≤ bd (18 + s) ∧ 20 ≤ 18 + s; omega
  · rw [eC]
    have k1 : ∀ j, j < C1.2.2 → C3.1 j = C1.1 j ∧ C3.2.1 j = C1.2.1 j := fun j hj => by
      have := z3 j hj
      rw [o2, w2] at this
      exact this
    refine ⟨by show len < C3.2.2 + 1; omega, ?_, fun j hj => ?_⟩
    · show FrM lg (upR C3.1 C3.2.2 (nI (18 + s))) (upR C3.2.1 C3.2.2 0) len (C3.2.2 + 1) (binD s d1 d2)
      exact frm_bin (b := C1.2.2) (c := C3.2.2) (y1.ex (fun j a b => ⟨(upR_n _ _ (by omega)).trans (k1 j b).1, (upR_n _ _ (by omega)).trans (k1 j b).2⟩)) (y3.ex (fun j a b => ⟨upR_n _ _ (by omega), upR_n _ _ (by omega)⟩)) x1 ⟨hs.1, by omega⟩ (upR_s _ _ _)
    · have a := k1 j (by omega)
      have b := z1 j hj
      exact ⟨(upR_n _ _ (by omega)).trans (a.1.trans b.1), (upR_n _ _ (by omega)).trans (a.2.trans b.2)⟩
theorem MNo_bin {s : Nat} {d1 : Den} (hs : 2 ≤ s ∧ s ≤ 6) (hlo : bd (18 + s) = lo) (m1 : MOk B n lg v1 1 3 lo p0 pa0 dp p pa false d1) (hq : tkF B n p = opS s) (c1 : cnt (stB B) p0 ≤ cnt (stB B) p) (hp : p < n ∧ stB B p = true) (m2 : MNo B n lg v1 1 (lo + 1) (nx B n p) pa dp p2 false) (c2 : cnt (stB B) (nx B n p) ≤ cnt (stB B) p2) : MNo B n lg v1 1 lo p0 pa0 dp p2 false := by
  intro K L len f hf hc ht _
  obtain ⟨s1, f1, pe1, l1, b1, e1, h1, u1, g1, x1, y1, z1⟩ := m1 K L len f hf hc ht (fun q => by cases q)
  obtain ⟨f2, e2, h2, o2, w2, u2⟩ := bs_push h1 hs hlo hq (fun x hx => (g1 x hx).1) ht (nI v1)
  have kn := (tk_n hp.1 hp.2).2.1
  obtain ⟨s3, f3, b3, e3, h3, u3⟩ := m2 K ((18 + s, 0) :: L) _ f2 h2 ((hc.un u1).un u2) (by show bd (18 + s) < lo + 1; omega) (fun q => by cases q)
  refine ⟨s1 + 1 + s3, f3, by omega, fun F => ?_, h3, (u1.tr u2).tr u3⟩
  rw [show F + (s1 + 1 + s3) = F + s3 + 1 + s1 by omega, e1, lp_s K (F + s3) h1.2.2.2.1 3 (by omega), if_neg (by omega), if_neg (by omega), if_pos rfl, e2, bnd_s]
  exact e3 F
end MB
