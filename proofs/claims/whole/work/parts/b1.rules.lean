/-! law: all clauses, both -/
section CK
variable {B : Nat → Nat} {n t : Nat}
def sTy (t a k : Nat) : Bool := sTx t a k || (a == t && k == 2)
theorem sTx_sTy {g g' : hG} (u : Un (sTx t) g g') : Un (sTy t) g g' := u.mo (fun a k z => by unfold sTy at z; rw [Bool.or_eq_false_iff] at z; exact z.1)
def opH (t i : Nat) (g : hG) : hG := sI (sI (sI (sI (sI (sI g (t + 2) i (-1)) (t + 3) i 0) (t + 4) i 0) (t + 5) i 1) (t + 6) i 0) t 2 (nI (i + 1))
theorem open_c {g : hG} {i : Nat} (h : gI g t 2 = nI i) (hi : i < 12) : q_Text_open t g = some (1, opH t i g) := by
  unfold q_Text_open opH
  rw [h, if_pos (show nI i < (12 : Int32) from nI_lt' (b := 12) hi (by omega)), gd_nI hi (by omega), wr_e, nI_clamp (by omega), rd_a (by omega), h, gd_nI hi (by omega), wr_e, nI_clamp (by omega), rd_a (by omega), rd_a (by omega), h, gd_nI hi (by omega), wr_e, nI_clamp (by omega), rd_a (by omega), rd_a (by omega), rd_a (by omega), h, gd_nI hi (by omega), wr_e, nI_clamp (by omega), rd_a (by omega), rd_a (by omega), rd_a (by omega), rd_a (by omega), h, gd_nI hi (by omega), wr_e, wr_e, nI_clamp (by omega), rd_a (by omega), rd_a (by omega), rd_a (by omega), rd_a (by omega), rd_a (by omega), h, nI_1]
theorem opH_a {g : hG} {i a k : Nat} (h : ¬ (t + 2 ≤ a ∧ a ≤ t + 6 ∧ k = i)) (h2 : ¬ (a = t ∧ k = 2)) : gI (opH t i g) a k = gI g a k := by
  unfold opH
  rw [gI_sI, if_neg h2, gI_sI, if_neg (by omega), gI_sI, if_neg (by omega), gI_sI, if_neg (by omega), gI_sI, if_neg (by omega), gI_sI, if_neg (by omega)]
theorem opH_6 {g : hG} {i : Nat} : gI (opH t i g) (t + 6) i = 0 := by
  unfold opH
  rw [rd_a (by omega), rd_s]
theorem opH_2 {g : hG} {i : Nat} : gI (opH t i g) t 2 = nI (i + 1) := rd_s
theorem opH_u {g : hG} {i : Nat} : Un (sTy t) g (opH t i g) := by
  have m : ∀ a k, t + 2 ≤ a → a ≤ t + 6 → sTy t a k = true := fun a k h1 h2 => by
    unfold sTy sTx
    rw [show Nat.ble (t + 2) a = true from Nat.ble_eq.mpr h1, show Nat.ble a (t + 6) = true from Nat.ble_eq.mpr h2]
    simp
  exact (((((Un.rf.sI (m _ _ (by omega) (by omega)) _).sI (m _ _ (by omega) (by omega)) _).sI (m _ _ (by omega) (by omega)) _).sI (m _ _ (by omega) (by omega)) _).sI (m _ _ (by omega) (by omega)) _).sI (by unfold sTy; simp) _
theorem DC.ex {g g' : hG} {sz sz' i : Nat} {hd : Bool} {te su : Den} (h : DC g t sz i hd te su) (hs : sz ≤ sz') (e1 : ∀ a, t + 2 ≤ a → a ≤ t + 6 → gI g' a i = gI g a i) (e2 : ∀ j, j < sz → gI g' (t + 1) j = gI g (t + 1) j) : DC g' t sz' i hd te su := by
  obtain ⟨h1, h2, h3, h4, ⟨a, h5, h6⟩, h7⟩ := h
  refine ⟨(e1 _ (by omega) (by omega)).trans h1, h2, h3, h4, ⟨a, (e1 _ (by omega) (by omega)).trans h5, h6.ex hs e2⟩, fun q => ?_⟩
  obtain ⟨b, h8, h9⟩ := h7 q
  exact ⟨b, (e1 _ (by omega) (by omega)).trans h8, h9.ex hs e2⟩
theorem DM.ex {f f' : hG} {len len' i : Nat} {hd : Bool} {te su : Den} (h : DM f len i hd te su) (hl : len ≤ len') (e1 : ∀ k, k < 8 * i + 8 → gI f' 377 k = gI f 377 k) (e2 : ∀ j, j < len → gI f' 378 j = gI f 378 j ∧ gI f' 379 j = gI f 379 j) : DM f' len' i hd te su := by
  obtain ⟨h1, h2, h3⟩ := h
  refine ⟨(e1 _ (by omega)).trans h1, ?_, fun q => ?_⟩
  · rcases h2 with ⟨a, b, k1, k2, k3, k4, k5⟩ | ⟨a, k1, k2, k3, k4⟩
    · exact Or.inl ⟨a, b, k1, by omega, (e1 _ (by omega)).trans k3, (e1 _ (by omega)).trans k4, k5.ex (fun j x y => e2 j (by omega))⟩
    · exact Or.inr ⟨a, by omega, (e1 _ (by omega)).trans k2, (e1 _ (by omega)).trans k3, k4⟩
  · obtain ⟨a, b, k1, k2, k3, k4⟩ := h3 q
    exact ⟨a, b, by omega, (e1 _ (by omega)).trans k2, (e1 _ (by omega)).trans k3, k4.ex (fun j x y => e2 j (by omega))⟩
def mL (K : hG → hO Int32) (F : Nat) (f : hG) : hO Int32 := bnd (q_Mo_readLaw f) fun _ g6 => q_Mo_law_21L K F g6
theorem start_c {p sz pa : Nat} {g : hG} (h : PC B n t 0 p sz pa g) (a1 : Nat) : q_Rd_read_58 a1 g = some (nI p, g) := by
  have c := h.c4
  unfold q_Rd_read_58
  rw [h.2.2.2.2.2.2.2.1, gd_nI (by omega) (by omega), nI_clamp (by omega), (h.1.2 p h.2.1).1]
/-- model: the text ends badly, or is left at q -/
def MEnd (B : Nat → Nat) (n q : Nat) (f : hG) : Prop := MFl q f ∨ ((∃ pa len, PQ B n q pa len f) ∧ tkF B n q ≠ 4000)
theorem m21_no {K : hG → hO Int32} {F : Nat} {f : hG} (h : gI f 367 19 = 1) : q_Mo_law_21L K (F + 1) f = K f := by
  rw [q_Mo_law_21L_s]
  unfold q_Mo_law_21
  rw [if_neg (by rw [h]; decide)]
theorem m21_s {K : hG → hO Int32} {F p pa len : Nat} {f : hG} (h : PQ B n p pa len f) : q_Mo_law_21L K (F + 1) f = if tkF B n p = 2059 then bnd (q_Mo_next f) fun _ g13 => mL K F g13 else K f := by
  rw [q_Mo_law_21L_s]
  unfold q_Mo_law_21
  rw [if_pos h.2.2.2.1, show q_Mo_isSign 59 f = _ from sign_q h (s := 59) (by omega), bnd_s]
  by_cases z : tkF B n p = 2059
  · rw [bI_t (by omega), if_neg (by decide), if_pos z]
    rfl
  · rw [bI_f (by omega), if_pos rfl, if_neg z]
theorem rules_l {a1 : Nat} (KM : hG → hO Int32) : ∀ (m i F F' p sz pa : Nat) (g : hG) (hd : Nat → Bool) (te su : Nat → Den), i + m = 12 → m < F → m < F' → PC B n t 0 p sz pa g → gI g t 2 = nI i → gI g (t + 1) 0 = nI 16 ∧ gI g (t + 1) 1 = nI 13 ∧ 2 ≤ sz → (∀ j, j < i → DC g t sz j (hd j) (te j) (su j)) →
    ∃ (res : Option Nat) (g' : hG), q_Rd_read_20L a1 (fun g42 => q_Rd_read_58 a1 g42) (fun g46 => q_Rd_read_58 a1 g46) (fun g50 => q_Rd_read_58 a1 g50) F (nI i) g = some ((match res with | none => -1 | some q => nI q), g') ∧ Un (sTy t) g g' ∧
      match res with
      | none => ∃ (N sz' : Nat) (hd' : Nat → Bool) (te' su' : Nat → Den), N ≤ 12 ∧ gI g' t 2 = nI N ∧ gI g' t 1 = nI sz' ∧ sz' ≤ 402 ∧ (∀ j, j < N → DC g' t sz' j (hd' j) (te' j) (su' j)) ∧ ∀ (len : Nat) (f : hG), PQ B n p pa len f → CoR f → gI f 367 21 = nI i → (∀ j, j < i → DM f len j (hd j) (te j) (su j)) → ∃ (pa' : Nat) (len' : Nat) (f' : hG), mL KM F' f = KM f' ∧ PQ B n n pa' len' f' ∧ Un sLw f f' ∧ gI f' 367 21 = nI N ∧ ∀ j, j < N → DM f' len' j (hd' j) (te' j) (su' j)
      | some q => q ≤ n ∧ ∀ (len : Nat) (f : hG), PQ B n p pa len f → CoR f → gI f 367 21 = nI i → (∀ j, j < i → DM f len j (hd j) (te j) (su j)) → ∃ f', mL KM F' f = KM f' ∧ MEnd B n q f' ∧ Un sLw f f' := by
  intro m
  induction m with
  | zero =>
    intro i F F' p sz pa g hd te su h1 h2 h2' h h3 hB hD
    obtain ⟨F, rfl⟩ : ∃ q, F = q + 1 := ⟨F - 1, by omega⟩
    obtain ⟨F', rfl⟩ : ∃ q, F' = q + 1 := ⟨F' - 1, by omega⟩
    obtain rfl : i = 12 := by omega
    refine ⟨some p, g, ?_, Un.rf, h.2.1.le, fun len f hf hc h21 hDM => ?_⟩
    · rw [q_Rd_read_20L_s]
      unfold q_Rd_read_20
      rw [if_pos (show (12 : Int32) ≤ nI 12 by decide)]
      exact start_c h a1
    · obtain ⟨f', e1, e2, e3⟩ := head_no hf hc (Or.inr h21)
      refine ⟨f', ?_, Or.inl e2, e3⟩
      unfold mL
      rw [e1, bnd_s, m21_no e2.1]
  | succ m ih =>
    intro i F F' p sz pa g hd te su h1 h2 h2' h h3 hB hD
    obtain ⟨F, rfl⟩ : ∃ q, F = q + 1 := ⟨F - 1, by omega⟩
    obtain ⟨F', rfl⟩ : ∃ q, F' = q + 1 := ⟨F' - 1, by omega⟩
    have hi : i < 12 := by omega
    have tt := h.2.2.2.1.2
    have ho : PC B n t 0 p sz pa (opH t i g) := h.keep (fun a k hh => opH_a (by omega) (by omega)) rfl
    have oB : ∀ j, gI (opH t i g) (t + 1) j = gI g (t + 1) j := fun j => opH_a (by omega) (by omega)
    obtain ⟨b, g1, p1, sz1, pa1, x1, x2, x3, x4, x5, x6⟩ := rule_j ho hi opH_6 ⟨(oB 0).trans hB.1, (oB 1).trans hB.2.1, hB.2.2⟩
    have cl : q_Rd_read_20L a1 (fun g42 => q_Rd_read_58 a1 g42) (fun g46 => q_Rd_read_58 a1 g46) (fun g50 => q_Rd_read_58 a1 g50) (F + 1) (nI i) g = bnd (clC i (opH t i g)) fun r g => if r = (0 : Int32) then q_Rd_read_58 a1 g else (bnd (q_Rd_token g) fun r31 g29 => if r31 = (4000 : Int32) then (some ((-1 : Int32), g29)) else (bnd (q_Rd_took (2059 : Int32) g29) fun r35 g33 => if r35 = (0 : Int32) then (q_Rd_read_58 a1 g33) else (q_Rd_read_20L a1 (fun g42 => q_Rd_read_58 a1 g42) (fun g46 => q_Rd_read_58 a1 g46) (fun g50 => q_Rd_read_58 a1 g50) F (nI (i + 1)) g33))) := by
      rw [q_Rd_read_20L_s]
      unfold q_Rd_read_20 q_Rd_read_37 clC
      rw [if_neg (show ¬ (12 : Int32) ≤ nI i from nI_ge (a := i) (b := 12) hi (by decide)), h.2.2.2.2.1, gp_p h.2.2.2.1.1, open_c h3 hi, bnd_s, if_neg (by decide), if_pos (show gI (opH t i g) 239 2 = 0 from ho.2.2.2.2.2.1), nI_1]
      cases q : q_Rd_readRule (nI i) (opH t i g) with
      | none => rfl
      | some x =>
        obtain ⟨v, g3⟩ := x
        show (if v = 0 then _ else _) = bnd (if v = 0 then _ else _) _
        by_cases w : v = 0
        · rw [if_pos w, if_pos w, bnd_s, if_pos rfl]
        · rw [if_neg w, if_neg w]
    have u1 : Un (sTy t) g g1 := opH_u.tr (sTx_sTy x2)
    rw [cl, x1, bnd_s]
    cases b with
    | false =>
      rw [bI_f Bool.false_ne_true, if_pos rfl]
      refine ⟨some p1, g1, start_c x3 a1, u1, x3.2.1.le, fun len f hf hc h21 hDM => ?_⟩
      obtain ⟨f', e1, e2, e3⟩ := x6 rfl len f hf hc h21
      refine ⟨f', ?_, Or.inl e2, e3⟩
      unfold mL
      rw [e1, bnd_s, m21_no e2.1]
    | true =>
      obtain ⟨y1, y2, y3, hd1, te1, su1, y4, y5⟩ := x5 rfl
      have t5 := tk_5 x3.2.2.1 p1
      have D' : ∀ j, j < i + 1 → DC g1 t sz1 j ((fun j => if j = i then hd1 else hd j) j) ((fun j => if j = i then te1 else te j) j) ((fun j => if j = i then su1 else su j) j) := fun j hj => by
        by_cases w : j = i
        · subst w
          simp only [if_pos]
          exact y4
        · simp only [if_neg w]
          exact (hD j (by omega)).ex y2 (fun a q1 q2 => (x4 a j q1 q2 w).trans (opH_a (by omega) (by omega))) (fun k hk => (y3 k hk).trans (oB k))
      have M' : ∀ (len len' : Nat) (f f' : hG), (∀ j, j < i → DM f len j (hd j) (te j) (su j)) → len ≤ len' → (∀ j, j < len → gI f' 378 j = gI f 378 j ∧ gI f' 379 j = gI f 379 j) → (∀ k, k < 8 * i → gI f' 377 k = gI f 377 k) → DM f' len' i hd1 te1 su1 → ∀ j, j < i + 1 → DM f' len' j ((fun j => if j = i then hd1 else hd j) j) ((fun j => if j = i then te1 else te j) j) ((fun j => if j = i then su1 else su j) j) := fun len len' f f' q1 q2 q3 q4 q5 j hj => by
        by_cases w : j = i
        · subst w
          simp only [if_pos]
          exact q5
        · simp only [if_neg w]
          exact (q1 j (by omega)).ex q2 (fun k hk => q4 k (by omega)) q3
      have t2 : gI g1 t 2 = nI (i + 1) := by
        rw [x2.I (Bool.eq_false_iff.mpr (fun q => by
          simp only [sTx, sRd, Bool.or_eq_true, Bool.and_eq_true, beq_iff_eq, Nat.ble_eq] at q
          omega))]
        exact opH_2
      rw [bI_t rfl, if_neg (by decide), tok_c x3, bnd_s]
      by_cases z : tkF B n p1 = 4000
      · have pn : p1 = n := by
          rcases x3.2.1 with q | ⟨q, hs⟩
          · exact q
          · exfalso
            have := tk_5 x3.2.2.1 p1
            unfold tkF at z
            rw [if_neg (by omega)] at z
            split at z
            · rcases wR_p (isW B p1 (eE B n p1)) 25 0 with ⟨q, -⟩ | ⟨j, -, q1, -, q2⟩ <;> omega
            · split at z
              · have := cv_le (fun j => B (p1 + j) - 48) (eE B n p1 - p1)
                omega
              · have := x3.2.2.1.2 p1 q
                omega
        rw [if_pos (show nI (tkF B n p1) = (4000 : Int32) by rw [z]; rfl)]
        refine ⟨none, g1, rfl, u1, i + 1, sz1, _, _, _, by omega, t2, x3.2.2.2.2.2.2.2.2.1, by have := x3.c4; have := x3.2.2.2.2.2.2.2.2.2.2; omega, D', fun len f hf hc h21 hDM => ?_⟩
        obtain ⟨len', f', e1, e2, e3, e4, e5, e6, e7, e8⟩ := y5 len f hf hc h21
        refine ⟨pa1, len', f', ?_, by rw [pn] at e2; exact e2, e3, e7, M' len len' f f' hDM e4 e5 e6 e8⟩
        unfold mL
        rw [e1, bnd_s, m21_s e2, if_neg (by omega)]
      · rw [if_neg (show ¬ nI (tkF B n p1) = (4000 : Int32) from nI_dif (b := 4000) z (by omega) (by omega)), show q_Rd_took (2059 : Int32) g1 = _ from took_c x3 (v := 2059) (by omega)]
        by_cases y : tkF B n p1 = 2059
        · have hp := tk_lt x3.2.1 z
          have ha := x3.adv hp.1 hp.2
          rw [if_pos y, bnd_s, if_neg (by decide)]
          obtain ⟨res, g', r1, r2, r3⟩ := ih (i + 1) F F' (nx B n p1) sz1 pa1 (adv B n p1 g1) _ _ _ (by omega) (by omega) (by omega) ha ((rd_a (by omega)).trans t2) ⟨(rd_a (by omega)).trans ((y3 0 (by omega)).trans ((oB 0).trans hB.1)), (rd_a (by omega)).trans ((y3 1 (by omega)).trans ((oB 1).trans hB.2.1)), by omega⟩ (fun j hj => (D' j hj).ex (Nat.le_refl _) (fun a q1 q2 => rd_a (by omega)) (fun k hk => rd_a (by omega)))
          refine ⟨res, g', r1, (u1.tr (sTx_sTy (sRd_sTx un_adv))).tr r2, ?_⟩
          have stp : ∀ (len : Nat) (f : hG), PQ B n p pa len f → CoR f → gI f 367 21 = nI i → (∀ j, j < i → DM f len j (hd j) (te j) (su j)) → ∃ (len' : Nat) (f2 : hG), mL KM (F' + 1) f = mL KM F' f2 ∧ PQ B n (nx B n p1) pa1 len' f2 ∧ CoR f2 ∧ Un sLw f f2 ∧ gI f2 367 21 = nI (i + 1) ∧ ∀ j, j < i + 1 → DM f2 len' j ((fun j => if j = i then hd1 else hd j) j) ((fun j => if j = i then te1 else te j) j) ((fun j => if j = i then su1 else su j) j) := fun len f hf hc h21 hDM => by
            obtain ⟨len', f', e1, e2, e3, e4, e5, e6, e7, e8⟩ := y5 len f hf hc h21
            obtain ⟨f2, n1, n2, n3⟩ := next_q e2 hp.1 hp.2
            have u2 : Un sLw f f2 := e3.tr (sPm_sLw (sNx_sPm n3))
            refine ⟨len', f2, ?_, n2, hc.unL u2, u2, (n3.I rfl).trans e7, fun j hj => (M' len len' f f' hDM e4 e5 e6 e8 j hj).ex (Nat.le_refl _) (fun k _ => n3.I rfl) (fun k _ => ⟨n3.I rfl, n3.I rfl⟩)⟩
            show bnd (q_Mo_readLaw f) _ = _
            rw [e1, bnd_s, m21_s e2, if_pos y, n1, bnd_s]
          cases res with
          | none =>
            obtain ⟨N, sz', hd', te', su', v1, v2, v3, v4, v5, v6⟩ := r3
            refine ⟨N, sz', hd', te', su', v1, v2, v3, v4, v5, fun len f hf hc h21 hDM => ?_⟩
            obtain ⟨len', f2, q1, q2, q3, q4, q5, q6⟩ := stp len f hf hc h21 hDM
            obtain ⟨pa', len2, f', w1, w2, w3, w4, w5⟩ := v6 len' f2 q2 q3 q5 q6
            exact ⟨pa', len2, f', q1.trans w1, w2, q4.tr w3, w4, w5⟩
          | some q =>
            obtain ⟨v1, v2⟩ := r3
            refine ⟨v1, fun len f hf hc h21 hDM => ?_⟩
            obtain ⟨len', f2, q1, q2, q3, q4, q5, q6⟩ := stp len f hf hc h21 hDM
            obtain ⟨f', w1, w2, w3⟩ := v2 len' f2 q2 q3 q5 q6
            exact ⟨f', q1.trans w1, w2, q4.tr w3⟩
        · rw [if_neg y, bnd_s, if_pos rfl]
          refine ⟨some p1, g1, start_c x3 a1, u1, x3.2.1.le, fun len f hf hc h21 hDM => ?_⟩
          obtain ⟨len', f', e1, e2, e3, e4, e5, e6, e7, e8⟩ := y5 len f hf hc h21
          refine ⟨f', ?_, Or.inr ⟨⟨pa1, len', e2⟩, z⟩, e3⟩
          unfold mL
          rw [e1, bnd_s, m21_s e2, if_neg y]
end CK
