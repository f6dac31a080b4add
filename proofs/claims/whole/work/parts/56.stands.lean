/-! standsAt, isHeld, layRuns -/
/-- the law in force, by the model -/
def LEM (g : hG) (Lo : Option Lw) : Prop := (gI g 367 20 = 0 ∧ gI g 369 5 ≠ BRK ∧ gI g 369 6 ≠ BRK) ∧ ((Lo = none ∧ gI g 369 2 = -1) ∨ ∃ k L, gI g 369 2 = nI k ∧ k < 6 ∧ Lo = some L ∧ LwM L (fun i => gI g 369 (68 + 900 * k + i)))
def sV (a k : Nat) : Bool := sT a k || a == 388 || a == 389
theorem sT_sV {g g' : hG} (u : Un sT g g') : Un sV g g' := u.mo (fun a k z => Bool.eq_false_iff.mpr (fun y => by
  have z' := Bool.eq_false_iff.mp z
  apply z'
  unfold sV
  rw [y]; rfl))
theorem LEM.un {g g' : hG} {Lo : Option Lw} (h : LEM g Lo) (u : Un sV g g') : LEM g' Lo := by
  obtain ⟨h0, h⟩ := h
  refine ⟨⟨(u.I rfl).trans h0.1, by rw [u.I rfl]; exact h0.2.1, by rw [u.I rfl]; exact h0.2.2⟩, ?_⟩
  rcases h with ⟨h1, h2⟩ | ⟨k, L, h1, h2, h3, h4⟩
  · exact Or.inl ⟨h1, (u.I rfl).trans h2⟩
  · refine Or.inr ⟨k, L, (u.I rfl).trans h1, h2, h3, ?_⟩
    have e : (fun i => gI g' 369 (68 + 900 * k + i)) = fun i => gI g 369 (68 + 900 * k + i) := funext (fun i => u.I rfl)
    rw [e]; exact h4
theorem MomM.un {g g' : hG} {r : Nat → Int32} (h : MomM g r) (u : Un sV g g') : MomM g' r := fun i hi => (u.I rfl).trans (h i hi)
def tvF (Lo : Option Lw) (h : Nat) (f : Nat → Int32) (w : Int64) : Int64 := match Lo with
  | none => w
  | some L => it (if h = 0 then toS L f else toH L f) 0 L.1 w
/-- the facts laid out, then the clauses asked -/
theorem tells_m {g : hG} {r : Nat → Int32} {Lo : Option Lw} (w0 : WFm r) (hm : MomM g r) (hl : LEM g Lo) (h : Nat) (hh : h < 2) {c : Nat} (hc : c < 25) (w : Int64) : ∃ g', q_Mo_tells (nI h) (nI c) w g = some (tvF Lo h (fcF r (nI c) (r (3 + c))) w, g') ∧ Un sT g g' := by
  obtain ⟨⟨h20, hb5, hb6⟩, hl⟩ := hl
  unfold q_Mo_tells
  rw [gd_L _ _ (by decide) (by decide), gd_L _ _ (by decide) (by decide), cl_L _ (by decide)]
  rcases hl with ⟨rfl, h2⟩ | ⟨k, L, h1, h2, rfl, h4⟩
  · rw [h2, if_pos rfl]
    exact ⟨g, rfl, Un.rf⟩
  · obtain ⟨q, hq, el⟩ := loF_8 r (nI c)
    have mm : ∀ g' : hG, (∀ i, gI g' 369 i = gI g 369 i) → MomM g' r := fun g' e i hi => (e _).trans (hm i hi)
    rw [h1, if_neg (show ¬ nI k = -1 from fun e => by have := nI_pos' (show k < 2 ^ 31 by omega); rw [e] at this; exact absurd this (by decide)), wr_e, gd_L _ _ (by decide) (by decide), wr_e, gd_L _ _ (by decide) (by decide), wr_e, show (7 : Int32) + nI c = nI (7 + c) from nI_add 7 c, gd_nI (by omega) (by omega), gd_L _ _ (by decide) (by decide), wr_e]
    rw [lo_m (mm _ (fun i => by simp only [gI_sJ]; rw [rd_a (by decide)])), bnd_s, el, ones_m, ← el, bnd_s, gd_L _ _ (by decide) (by decide), wr_e, gd_L _ _ (by decide) (by decide), gd_L _ _ (by decide) (by decide), wr_e, gd_L _ _ (by decide) (by decide), gd_L _ _ (by decide) (by decide), wr_e, gd_L _ _ (by decide) (by decide), gd_L _ _ (by decide) (by decide), wr_e]
    rw [show (68 : Int32) + (900 : Int32) * nI k = nI (68 + 900 * k) by rw [show (68 : Int32) = nI 68 from rfl, show (900 : Int32) = nI 900 from rfl, pk_mul, nI_add]]
    simp only [gI_sJ, rd_a (show ¬ 369 = 367 by decide), cl_L 1 (by decide), cl_L 2 (by decide), cl_L 3 (by decide), cl_L 4 (by decide), cl_L 5 (by decide), cl_L 6 (by decide), cl_L 7 (by decide), nI_clamp (show 7 + c < 2 ^ 31 by omega)]
    rw [hm.hi hc, show gI g 369 4 = r 0 from hm 0 (by omega), show gI g 369 5 = r 1 from hm 1 (by omega), show gI g 369 6 = r 2 from hm 2 (by omega)]
    have hn := h4.1
    have nb : ∀ j, j < 7 → fcF r (nI c) (r (3 + c)) j ≠ BRK := fun j hj => by
      have pos : ∀ v : Int32, 0 ≤ v → v ≠ BRK := fun v hv q => by
        rw [q] at hv
        exact absurd hv (by decide)
      have sm : ∀ c, c < 25 → 0 ≤ irem (nI c) 5 ∧ 0 ≤ nI c / 5 := by decide +kernel
      have : j = 0 ∨ j = 1 ∨ j = 2 ∨ j = 3 ∨ j = 4 ∨ j = 5 ∨ j = 6 := by omega
      rcases this with rfl | rfl | rfl | rfl | rfl | rfl | rfl
      · exact pos _ (sm c hc).1
      · exact pos _ (sm c hc).2
      · obtain ⟨n, hn, e⟩ := w0.2.1 c hc
        show r (3 + c) ≠ BRK
        rw [e]; exact pos _ (nI_pos' (by omega))
      · obtain ⟨-, k, hk, e, -⟩ := bc_8 q hq
        show onesF (loF r (nI c)) ≠ BRK
        rw [el, e]; exact pos _ (nI_pos' (by omega))
      · obtain ⟨n, hn, e⟩ := w0.1
        show r 0 ≠ BRK
        rw [e]; exact pos _ (nI_pos' (by omega))
      · show r 1 ≠ BRK
        rw [← hm 1 (by omega)]; exact hb5
      · show r 2 ≠ BRK
        rw [← hm 2 (by omega)]; exact hb6
    obtain ⟨g', e1, e2⟩ := tells_loop (base := 68 + 900 * k) (seg := fun i => gI g 369 (68 + 900 * k + i)) (f := fcF r (nI c) (r (3 + c))) h4 h hh L.1 0 FU (sJ (sJ (sJ (sJ (sJ (sJ (sJ (sI g 367 34 (nI (68 + 900 * k))) 385 1 (irem (nI c) 5).toInt64) 385 2 (nI c / 5).toInt64) 385 3 (r (3 + c)).toInt64) 385 4 (onesF (loF r (nI c))).toInt64) 385 5 (r 0).toInt64) 385 6 (r 1).toInt64) 385 7 (r 2).toInt64) w (by omega) (Nat.lt_of_le_of_lt hn (by decide)) ⟨by omega, fun j _ => by simp only [gI_sJ]; rw [rd_a (by decide)], by simp only [gI_sJ]; rw [rd_s], by simp only [gI_sJ]; rw [rd_k (by decide)]; exact h20, fun j hj => by
      have : j = 0 ∨ j = 1 ∨ j = 2 ∨ j = 3 ∨ j = 4 ∨ j = 5 ∨ j = 6 := by omega
      rcases this with rfl | rfl | rfl | rfl | rfl | rfl | rfl <;> simp [gJ_sJ, fcF], nb⟩
    exact ⟨g', e1, ((((((((Un.rf.sI rfl _).sJ rfl _).sJ rfl _).sJ rfl _).sJ rfl _).sJ rfl _).sJ rfl _).sJ rfl _).tr (sR2_sT e2)⟩
theorem bd_clamp (v : Int32) : (if 0 ≤ v then (if v ≤ 99 then v else 99) else 0) = clamp v := by
  unfold clamp imax imin
  repeat' split
  all_goals grind
theorem bounded_e (v : Int32) (g : hG) : q_Mo_bounded v.toInt64 0 99 g = some (clamp v, g) := by
  rw [← bd_clamp]
  unfold q_Mo_bounded
  simp only [i64_le]
  by_cases h1 : 0 ≤ v
  · rw [if_pos h1, if_pos h1]
    by_cases h2 : v ≤ 99
    · rw [if_pos h2, if_pos h2, Int32.toInt32_toInt64]
    · rw [if_neg h2, if_neg h2]
  · rw [if_neg h1, if_neg h1]
theorem clamp_n {n : Nat} (h : n ≤ 99) : clamp (nI n) = nI n := by
  rw [← bd_clamp, if_pos (nI_pos' (by omega)), if_pos (show nI n ≤ 99 from nI_le (b := 99) h (by omega))]
theorem toS_fold (L : Lw) (f : Nat → Int32) (n : Nat) (hn : n ≤ 9) : ∃ v : Int32, it (toS L f) 0 L.1 (nI n).toInt64 = v.toInt64 ∧ clamp v = stF L f (nI n) := by
  unfold stF
  refine it_eq (toS L f) _ (fun _ a b => ∃ v : Int32, a = v.toInt64 ∧ clamp v = b) L.1 (fun i a b _ hab => ?_) L.1 0 _ _ (by omega) ⟨nI n, rfl, clamp_n (by omega)⟩
  obtain ⟨v, rfl, h2⟩ := hab
  unfold toS
  by_cases q : L.2.1 i = false ∧ L.2.2.1 i f = some 1
  · rw [if_pos q, if_pos q]
    cases L.2.2.2 i f with
    | none => exact ⟨v, rfl, h2⟩
    | some u => exact ⟨u, rfl, rfl⟩
  · rw [if_neg q, if_neg q]
    exact ⟨v, rfl, h2⟩
theorem toH_fold (L : Lw) (f : Nat → Int32) : it (toH L f) 0 L.1 0 = if hlF L f = true then 1 else 0 := by
  unfold hlF
  refine it_eq (toH L f) (fun i acc => if L.2.1 i = true ∧ L.2.2.1 i f = some 1 then true else acc) (fun _ a b => a = if b = true then 1 else 0) L.1 (fun i a b _ hab => ?_) L.1 0 _ _ (by omega) rfl
  unfold toH
  by_cases q : L.2.1 i = true ∧ L.2.2.1 i f = some 1
  · rw [if_pos q, if_pos q, if_pos rfl]
  · rw [if_neg q, if_neg q]; exact hab
abbrev hiR (r : Nat → Int32) (c : Nat) : Int32 := r (3 + c)
theorem standsAt_m {g : hG} {r : Nat → Int32} {Lo : Option Lw} (w : WFm r) (hm : MomM g r) (hl : LEM g Lo) {c : Nat} (hc : c < 25) : ∃ g', q_Mo_standsAt (nI c) g = some (SV Lo r (hiR r) c, g') ∧ Un sT g g' := by
  obtain ⟨n, hn, e⟩ := w.2.1 c hc
  obtain ⟨g', e1, e2⟩ := tells_m w hm hl 0 (by omega) hc (r (3 + c)).toInt64
  unfold q_Mo_standsAt
  rw [show (7 : Int32) + nI c = nI (7 + c) from nI_add 7 c, gd_nI (by omega) (by omega), nI_clamp (by omega), hm.hi hc]
  rw [show q_Mo_tells 0 (nI c) (r (3 + c)).toInt64 g = _ from e1, bnd_s]
  refine ⟨g', ?_, e2⟩
  unfold SV
  cases Lo with
  | none =>
    show bnd (q_Mo_bounded (r (3 + c)).toInt64 0 99 g') _ = some (r (3 + c), g')
    rw [bounded_e, bnd_s, e, clamp_n (by omega)]
  | some L =>
    obtain ⟨v, v1, v2⟩ := toS_fold L (fcF r (nI c) (r (3 + c))) n hn
    show bnd (q_Mo_bounded (it (if 0 = 0 then toS L (fcF r (nI c) (r (3 + c))) else _) 0 L.1 (r (3 + c)).toInt64) 0 99 g') _ = some (stF L (fcF r (nI c) (r (3 + c))) (r (3 + c)), g')
    rw [if_pos rfl, e]
    rw [← e] at v1 v2 ⊢
    rw [v1, bounded_e, bnd_s, v2]
theorem isHeld_m {g : hG} {r : Nat → Int32} {Lo : Option Lw} (w : WFm r) (hm : MomM g r) (hl : LEM g Lo) {c : Nat} (hc : c < 25) : ∃ g', q_Mo_isHeld (nI c) g = some (bI (HV Lo r (hiR r) c = true), g') ∧ Un sT g g' := by
  obtain ⟨g', e1, e2⟩ := tells_m w hm hl 1 (by omega) hc 0
  unfold q_Mo_isHeld
  rw [show q_Mo_tells 1 (nI c) 0 g = _ from e1, bnd_s]
  refine ⟨g', ?_, e2⟩
  unfold HV
  cases Lo with
  | none =>
    show (if (0 : Int64) = 1 then some ((1 : Int32), g') else some (0, g')) = some (bI (false = true), g')
    rw [if_neg (by decide), bI_f (by simp)]
  | some L =>
    show (if it (if 1 = 0 then _ else toH L (fcF r (nI c) (r (3 + c)))) 0 L.1 (0 : Int64) = 1 then some ((1 : Int32), g') else some (0, g')) = some (bI (hlF L (fcF r (nI c) (r (3 + c))) = true), g')
    rw [if_neg (by decide : ¬ (1 : Nat) = 0), toH_fold]
    by_cases q : hlF L (fcF r (nI c) (r (3 + c))) = true
    · rw [if_pos q, if_pos rfl, bI_t q]
    · rw [if_neg q, if_neg (by decide), bI_f q]
