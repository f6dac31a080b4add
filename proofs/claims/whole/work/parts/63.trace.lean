/-! all ways at once: class trace, model lay -/
def sTr (a k : Nat) : Bool := sW a k || a == 255 || a == 256 || a == 257
theorem sS_sTr {g g' : hG} (u : Un sS g g') : Un sTr g g' := (sS_sW u).mo (fun a k z => Bool.eq_false_iff.mpr (fun y => by
  have z' := Bool.eq_false_iff.mp z
  simp only [sTr, Ne, Bool.or_eq_true] at z'
  exact z' (Or.inl (Or.inl (Or.inl y)))))
theorem sW_sTr {g g' : hG} (u : Un sW g g') : Un sTr g g' := u.mo (fun a k z => Bool.eq_false_iff.mpr (fun y => by
  have z' := Bool.eq_false_iff.mp z
  simp only [sTr, Ne, Bool.or_eq_true] at z'
  exact z' (Or.inl (Or.inl (Or.inl y)))))
theorem sTr_sX {g g' : hG} (u : Un sTr g g') : Un sX g g' := u.mo (fun a k z => Bool.eq_false_iff.mpr (fun y => by
  have z' := Bool.eq_false_iff.mp z
  simp only [sTr, sW, sX, sC, Ne, Bool.or_eq_true, Bool.and_eq_true, beq_iff_eq, Nat.ble_eq] at y z'
  omega))
theorem mom_255 {b : Nat} (h : is_mom b = true) (j : Nat) (hj : j ≤ 4) : ¬ b + j = 255 := by
  have : ∀ a ∈ momL, ∀ j, j ≤ 4 → a + j ≠ 255 := by decide +kernel
  exact this b (mom_in h) j hj
theorem mom_254 {b : Nat} (h : is_mom b = true) (j : Nat) (hj : j ≤ 4) : ¬ b + j = 254 := by
  have : ∀ a ∈ momL, ∀ j, j ≤ 4 → a + j ≠ 254 := by decide +kernel
  exact this b (mom_in h) j hj
theorem tr1 {b : Nat} {r hi : Nat → Int32} {Lo : Option Lw} {D : Int32} (K : hG → hO Unit) : ∀ (m i F : Nat) (g : hG), i + m = 25 → m < F → Faced g b r hi → LE g (gI g 250 6) Lo → SlOK g Lo r hi → gI g 1 1 = D → (∀ d, d < i → gI g 255 d = nextF D (SV Lo r hi) (HV Lo r hi) d) → ∃ g', q_Str_trace_5L K F (nI i) g = K g' ∧ Un sTr g g' ∧ ∀ d, d < 25 → gI g' 255 d = nextF D (SV Lo r hi) (HV Lo r hi) d := by
  intro m
  induction m with
  | zero =>
    intro i F g h1 h2 h3 h4 h5 h6 h7
    obtain ⟨F, rfl⟩ : ∃ q, F = q + 1 := ⟨F - 1, by omega⟩
    obtain rfl : i = 25 := by omega
    rw [q_Str_trace_5L_s]
    unfold q_Str_trace_5
    rw [if_pos (by decide)]
    exact ⟨g, rfl, Un.rf, h7⟩
  | succ m ih =>
    intro i F g h1 h2 h3 h4 h5 h6 h7
    obtain ⟨F, rfl⟩ : ∃ q, F = q + 1 := ⟨F - 1, by omega⟩
    obtain ⟨g1, a1, a2, a3⟩ := next_c h3 h4 h5 (c := i) (by omega)
    rw [h6] at a1
    have f3 := h3.un a2
    have u1 : Un sTr g (sI g1 255 i (nextF D (SV Lo r hi) (HV Lo r hi) i)) := (sS_sTr a2).sI (by simp [sTr]) _
    rw [q_Str_trace_5L_s]
    unfold q_Str_trace_5
    rw [if_neg (show ¬ (25 : Int32) ≤ nI i from nI_ge (a := i) (b := 25) (by omega) (by decide)), a1, bnd_s, gd_nI (by omega) (by omega), wr_e, nI_clamp (by omega), nI_1]
    obtain ⟨g', e1, e2, e3⟩ := ih (i + 1) F (sI g1 255 i (nextF D (SV Lo r hi) (HV Lo r hi) i)) (by omega) (by omega)
      (f3.ex (by rw [gP_sI]) (fun j k hj => rd_a (mom_255 f3.1 j hj)) (rd_a (by decide)) (rd_a (by decide)) (rd_a (by decide)))
      (by rw [rd_a (by decide), a2.I rfl]; exact (h4.un a2).ex (fun a k ha => rd_a (by omega)))
      (fun d hd q => by
        rw [rd_a (by decide)] at q
        rw [rd_a (by decide), rd_a (by decide)]
        exact a3 d hd q)
      (by rw [rd_a (by decide), a2.I rfl]; exact h6)
      (fun d hd => by
        by_cases z : d = i
        · subst z; rw [rd_s]
        · rw [rd_k z, a2.I rfl]; exact h7 d (by omega))
    exact ⟨g', e1, u1.tr e2, e3⟩
/-- one way to its end -/
theorem walk_c {S : Nat → Int32} {nx : Nat → Nat} (h : Fall S nx) (k : Int32 → Int32 → hG → hO Unit) (g : hG) (hg : ∀ c, c < 25 → gI g 255 c = nI (nx c)) : ∀ f c v, c < 25 → rk S c < f → v + rk S c < 25 → q_Str_trace_26L k f (nI c) (nI v) g = k (nI (eF nx f c)) (nI (v + hF nx f c)) g
  | 0, c, v, _, hr, _ => by omega
  | f + 1, c, v, hc, hr, hv => by
    rw [q_Str_trace_26L_s]
    unfold q_Str_trace_26
    rw [if_neg (show ¬ (25 : Int32) ≤ nI v from nI_ge (a := v) (b := 25) (by omega) (by decide)), gd_nI hc (by omega), nI_clamp (by omega), hg c hc]
    by_cases z : nx c = c
    · rw [z, if_pos rfl, eF, if_pos z, hF, if_pos z, Nat.add_zero]
    · obtain ⟨n1, n2⟩ := h c hc
      have r1 := rk_fall n1 (n2 z)
      rw [if_neg (fun q => z ((nI_eq (by omega) (by omega)).mp q)), gd_nI hc (by omega), nI_1, walk_c h k g hg f (nx c) (v + 1) n1 (by omega) (by omega), eF, if_neg z, hF, if_neg z, show v + 1 + hF nx f (nx c) = v + (hF nx f (nx c) + 1) by omega]
def TrR (g : hG) (nx : Nat → Nat) : Prop := ∀ c, c < 25 → gI g 255 c = nI (nx c) ∧ gI g 256 c = nI (hF nx 25 c) ∧ gI g 257 c = nI (eF nx 25 c)
theorem FU_25 : FU = 25 + 999975 := rfl
theorem tr2 {S : Nat → Int32} {nx : Nat → Nat} (h : Fall S nx) : ∀ (m i F : Nat) (g : hG), i + m = 25 → m < F → (∀ c, c < 25 → gI g 255 c = nI (nx c)) → (∀ c, c < i → gI g 256 c = nI (hF nx 25 c) ∧ gI g 257 c = nI (eF nx 25 c)) → ∃ g', q_Str_trace_19L (fun g26 => some ((), g26)) F (nI i) g = some ((), g') ∧ Un sTr g g' ∧ TrR g' nx := by
  intro m
  induction m with
  | zero =>
    intro i F g h1 h2 h3 h4
    obtain ⟨F, rfl⟩ : ∃ q, F = q + 1 := ⟨F - 1, by omega⟩
    obtain rfl : i = 25 := by omega
    rw [q_Str_trace_19L_s]
    unfold q_Str_trace_19
    rw [if_pos (by decide)]
    exact ⟨g, rfl, Un.rf, fun c hc => ⟨h3 c hc, h4 c hc⟩⟩
  | succ m ih =>
    intro i F g h1 h2 h3 h4
    obtain ⟨F, rfl⟩ : ∃ q, F = q + 1 := ⟨F - 1, by omega⟩
    have hi : i < 25 := by omega
    obtain ⟨b1, b2⟩ := hF_big h hi 999975
    rw [q_Str_trace_19L_s]
    unfold q_Str_trace_19
    rw [if_neg (show ¬ (25 : Int32) ≤ nI i from nI_ge (a := i) (b := 25) (by omega) (by decide)), show (0 : Int32) = nI 0 from rfl, walk_c h _ g h3 FU i 0 hi (Nat.lt_of_lt_of_le (rk_lt i hi) (by decide)) (by have := rk_lt (S := S) i hi; omega), FU_25, b1, b2, Nat.zero_add]
    unfold q_Str_trace_42
    rw [gd_nI hi (by omega), wr_e, gd_nI hi (by omega), wr_e, nI_clamp (by omega), nI_1]
    obtain ⟨g', e1, e2, e3⟩ := ih (i + 1) F (sI (sI g 256 i (nI (hF nx 25 i))) 257 i (nI (eF nx 25 i))) (by omega) (by omega)
      (fun c hc => by rw [rd_a (by decide), rd_a (by decide)]; exact h3 c hc)
      (fun c hc => by
        by_cases z : c = i
        · subst z; exact ⟨by rw [rd_a (by decide), rd_s], by rw [rd_s]⟩
        · rw [rd_a (by decide), rd_k z, rd_k z, rd_a (by decide)]; exact h4 c (by omega))
    exact ⟨g', e1, ((Un.rf.sI (by simp [sTr]) _).sI (by simp [sTr]) _).tr e2, e3⟩
