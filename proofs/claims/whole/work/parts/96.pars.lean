/-! texts: what the readers hold, and their small steps -/
section PA
variable {B : Nat → Nat} {n t lg p sz pa : Nat} {g : hG}
def sRd (t a k : Nat) : Bool := (a == 239 && (k == 3 || k == 4)) || (a == t && k == 1) || a == t + 1
def NB (B : Nat → Nat) (n : Nat) : Prop := n ≤ 400 ∧ ∀ j, j < n → B j < 256
def HT (t : Nat) : Prop := is_txt t = true ∧ ((10 ≤ t ∧ t ≤ 45) ∨ t = 240)
/-- the class's reader at p -/
def PC (B : Nat → Nat) (n t lg p sz pa : Nat) (g : hG) : Prop := Cut B n g ∧ Tk B n p ∧ NB B n ∧ HT t ∧ gP g 239 1 = some t ∧ gI g 239 2 = nI lg ∧ gI g 239 3 = nI pa ∧ gI g 239 4 = nI (cnt (stB B) p) ∧ gI g t 1 = nI sz ∧ pa ≤ 50 ∧ sz ≤ 2 + cnt (stB B) p
theorem Tk.le (h : Tk B n p) : p ≤ n := by
  rcases h with h | h
  · omega
  · omega
theorem PC.c4 (h : PC B n t lg p sz pa g) : cnt (stB B) p ≤ cnt (stB B) n ∧ cnt (stB B) n ≤ 400 ∧ cnt (stB B) p ≤ 400 := by
  have a := cnt_mono' (stB B) h.2.1.le
  have b := cnt_m (stB B) n
  have := h.2.2.1.1
  exact ⟨a, by omega, by omega⟩
theorem tk_lt (h : Tk B n p) (ht : tkF B n p ≠ 4000) : p < n ∧ stB B p = true := by
  rcases h with rfl | h
  · exact absurd tk_end ht
  · exact h
theorem tk_5 (h : NB B n) (p : Nat) : tkF B n p < 5000 := by
  unfold tkF
  by_cases z : n ≤ p
  · rw [if_pos z]; omega
  · rw [if_neg z]
    by_cases y : smB (B p) = true
    · rw [if_pos y]
      rcases wR_p (isW B p (eE B n p)) 25 0 with ⟨q, -⟩ | ⟨j, -, q1, -, q2⟩ <;> omega
    · rw [if_neg y]
      by_cases x : dgB (B p) = true
      · rw [if_pos x]
        have := cv_le (fun j => B (p + j) - 48) (eE B n p - p)
        omega
      · rw [if_neg x]
        have := h.2 p (by omega)
        omega
theorem tok_c (h : PC B n t lg p sz pa g) : q_Rd_token g = some (nI (tkF B n p), g) := by
  obtain ⟨c1, c2, c3⟩ := h.c4
  obtain ⟨⟨h1, h2⟩, h3, h4, h5, h6, h7, h8, h9, -⟩ := h
  unfold q_Rd_token
  rw [h9, gd_nI (by omega) (by omega), nI_clamp (by omega), (h2 p h3).2]
/-- one token on -/
def adv (B : Nat → Nat) (n p : Nat) (g : hG) : hG := sI g 239 4 (nI (cnt (stB B) (nx B n p)))
theorem un_adv : Un (sRd t) g (adv B n p g) := Un.rf.sI rfl _
theorem PC.ex {g' : hG} (h : PC B n t lg p sz pa g) (u : Un (sRd t) g g') {p' sz' pa' : Nat} (h1 : Tk B n p') (h2 : gI g' 239 3 = nI pa') (h3 : gI g' 239 4 = nI (cnt (stB B) p')) (h4 : gI g' t 1 = nI sz') (h5 : pa' ≤ 50) (h6 : sz' ≤ 2 + cnt (stB B) p') : PC B n t lg p' sz' pa' g' := by
  obtain ⟨⟨a1, a2⟩, a3, a4, a5, a6, a7, a8, a9, a10, a11, a12⟩ := h
  have tt := a5.2
  have q : ∀ a k, a = 235 ∨ a = 237 ∨ a = 238 ∨ (a = 239 ∧ k ≤ 2) → sRd t a k = false := fun a k hh => Bool.eq_false_iff.mpr (fun z => by
    simp only [sRd, Bool.or_eq_true, Bool.and_eq_true, beq_iff_eq] at z
    omega)
  exact ⟨⟨(u.I (q 235 4 (by omega))).trans a1, fun p hp => ⟨(u.I (q 238 _ (by omega))).trans (a2 p hp).1, (u.I (q 237 _ (by omega))).trans (a2 p hp).2⟩⟩, h1, a4, a5, (u.P (q 239 1 (by omega))).trans a6, (u.I (q 239 2 (by omega))).trans a7, h2, h3, h4, h5, h6⟩
theorem ht_ne (h : HT t) : t ≠ 239 ∧ t + 1 ≠ 239 ∧ t ≠ 248 ∧ t + 1 ≠ 248 := by have := h.2; omega
theorem PC.adv (h : PC B n t lg p sz pa g) (hp : p < n) (hs : stB B p = true) : PC B n t lg (nx B n p) sz pa (adv B n p g) := by
  obtain ⟨k1, k2, k3, k4⟩ := tk_n hp hs
  have tt := ht_ne h.2.2.2.1
  obtain ⟨⟨a1, a2⟩, a3, a4, a5, a6, a7, a8, a9, a10, a11, a12⟩ := id h
  refine h.ex un_adv k1 ((rd_k (by decide)).trans a8) rd_s ((rd_a tt.1).trans a10) a11 ?_
  show sz ≤ 2 + cnt (stB B) (nx B n p)
  rw [k2]
  have : sz ≤ 2 + cnt (stB B) p := a12
  omega
theorem took_c (h : PC B n t lg p sz pa g) {v : Nat} (hv : v < 4000) : q_Rd_took (nI v) g = if tkF B n p = v then some (1, adv B n p g) else some (0, g) := by
  obtain ⟨c1, c2, c3⟩ := h.c4
  obtain ⟨⟨h1, h2⟩, h3, h4, h5, h6, h7, h8, h9, -⟩ := h
  unfold q_Rd_took q_Rd_took_11
  rw [h9, gd_nI (by omega) (by omega), nI_clamp (by omega), (h2 p h3).2]
  have tl := tk_5 h4 p
  by_cases z : tkF B n p = v
  · obtain ⟨hp, hs⟩ := tk_lt (n := n) h3 (by omega)
    have k := cnt_in (stB B) hp hs
    have k2 := (tk_n hp hs).2.1
    have e1 : nI (cnt (stB B) n + 1) - (1 : Int32) = nI (cnt (stB B) n) := nI_sub (b := 1) (by omega)
    rw [if_pos (show nI (tkF B n p) = nI v by rw [z]), if_neg (by decide), h1, e1, if_neg (nI_ge k (by omega)), wr_e, gb_1, nI_1, if_pos z]
    unfold adv
    rw [k2]
  · rw [if_neg (nI_dif z (by omega) (by omega)), if_pos rfl, gb_0, if_neg z]
theorem goOn_c (h : PC B n t lg p sz pa g) (hp : p < n) (hs : stB B p = true) : q_Rd_goOn g = some ((), adv B n p g) := by
  obtain ⟨c1, c2, c3⟩ := h.c4
  obtain ⟨⟨h1, h2⟩, h3, h4, h5, h6, h7, h8, h9, -⟩ := h
  have k := cnt_in (stB B) hp hs
  have k2 := (tk_n hp hs).2.1
  have e1 : nI (cnt (stB B) n + 1) - (1 : Int32) = nI (cnt (stB B) n) := nI_sub (b := 1) (by omega)
  unfold q_Rd_goOn
  rw [h1, e1, h9, if_neg (nI_ge k (by omega)), wr_e, nI_1]
  unfold adv
  rw [k2]
/-- a step is written -/
def addH (t sz c : Nat) (g : hG) : hG := sI (sI g (t + 1) sz (nI c)) t 1 (nI (sz + 1))
theorem un_add {c : Nat} : Un (sRd t) g (addH t sz c g) := (Un.rf.sI (by simp [sRd]) _).sI (by simp [sRd]) _
theorem add_c (h : gI g t 1 = nI sz) (hs : sz ≤ 401) {s m : Nat} (hm : m < 1024) (h16 : s < 16) : q_Text_add t (nI s) (nI m) g = some ((), addH t sz (16 * m + s) g) := by
  unfold q_Text_add addH
  rw [h, if_neg (show ¬ (402 : Int32) ≤ nI sz from nI_ge (a := sz) (b := 402) (by omega) (by decide)), gd_nI (by omega) (by omega), (cd_15 m hm s h16).2.2, wr_e, wr_e, nI_clamp (by omega), rd_a (show ¬ t = t + 1 by omega), h, nI_1]
theorem lead_c (h : gI g t 1 = nI sz) (hs : sz ≤ 402) {j s : Nat} (hj : j < sz) (hc : gI g (t + 1) j = nI s) (h16 : s < 16) : q_Text_leadHere t (nI j) g = some ((), sI g (t + 1) j (nI (16 * sz + s))) := by
  have e := (cd_15 0 (by omega) s h16).1
  rw [show 16 * 0 + s = s by omega] at e
  unfold q_Text_leadHere
  rw [if_neg (Int32.not_lt.mpr (nI_pos' (by omega))), h, if_neg (nI_ge hj (by omega)), gd_nI (by omega) (by omega), gd_nI (by omega) (by omega), nI_clamp (by omega), hc, e, (cd_15 sz (by omega) s h16).2.2, wr_e]
end PA
