/-! texts: how the class cuts a tape -/
theorem nI_dif {a b : Nat} (h : a ≠ b) (ha : a < 2 ^ 31) (hb : b < 2 ^ 31) : ¬ nI a = nI b := fun q => h ((nI_eq ha hb).mp q)
section CU
variable {B : Nat → Nat} {n : Nat} {g : hG}
/-- the bytes on the class's tape -/
def TB (B : Nat → Nat) (n : Nat) (g : hG) : Prop := n ≤ 400 ∧ gI g 235 1 = nI n ∧ ∀ j, j < n → gI g 236 j = nI (B j) ∧ B j < 256
theorem small_c {b : Nat} (hb : b < 256) (g : hG) : q_Tape_isSmall (nI b) g = some (bI (smB b = true), g) := by
  unfold q_Tape_isSmall
  by_cases z : 97 ≤ b
  · rw [if_neg (show ¬ nI b < (97 : Int32) from nI_ngt (a := 97) z (by omega))]
    by_cases y : b ≤ 122
    · rw [if_neg (show ¬ (122 : Int32) < nI b from nI_ngt (b := 122) y (by omega)), bI_t (smB_i.mpr ⟨z, y⟩)]
    · rw [if_pos (show (122 : Int32) < nI b from nI_lt' (a := 122) (by omega) (by omega)), bI_f (fun q => y (smB_i.mp q).2)]
  · rw [if_pos (show nI b < (97 : Int32) from nI_lt' (b := 97) (by omega) (by omega)), bI_f (fun q => z (smB_i.mp q).1)]
theorem digit_c {b : Nat} (hb : b < 256) (g : hG) : q_Tape_isDigit (nI b) g = some (bI (dgB b = true), g) := by
  unfold q_Tape_isDigit
  by_cases z : 48 ≤ b
  · rw [if_neg (show ¬ nI b < (48 : Int32) from nI_ngt (a := 48) z (by omega))]
    by_cases y : b ≤ 57
    · rw [if_neg (show ¬ (57 : Int32) < nI b from nI_ngt (b := 57) y (by omega)), bI_t (dgB_i.mpr ⟨z, y⟩)]
    · rw [if_pos (show (57 : Int32) < nI b from nI_lt' (a := 57) (by omega) (by omega)), bI_f (fun q => y (dgB_i.mp q).2)]
  · rw [if_pos (show nI b < (48 : Int32) from nI_lt' (b := 48) (by omega) (by omega)), bI_f (fun q => z (dgB_i.mp q).1)]
theorem go22 {b a : Nat} (hb : b < 256) (ha : a < 256) (g : hG) : q_Tape_goesOn_22 (nI b) (nI a) g = some (bI (dgB b = true ∧ dgB a = true), g) := by
  unfold q_Tape_goesOn_22
  rw [digit_c hb, bnd_s]
  by_cases z : dgB b = true
  · rw [bI_t z, if_neg (by decide), digit_c ha, bnd_s]
    by_cases y : dgB a = true
    · rw [bI_t y, if_neg (by decide), bI_t ⟨z, y⟩]
    · rw [bI_f y, if_pos rfl, bI_f (fun q => y q.2)]
  · rw [bI_f z, if_pos rfl, bI_f (fun q => z q.1)]
theorem goes_c (h : TB B n g) {p : Nat} (hp : p < n) : q_Tape_goesOn (nI p) g = some (bI (goB B p = true), g) := by
  obtain ⟨h1, h2, h3⟩ := h
  unfold q_Tape_goesOn
  by_cases z0 : p = 0
  · subst z0
    rw [if_pos (by decide), bI_f (fun q => (goB_i.mp q).1 rfl)]
  · have e1 : nI p - (1 : Int32) = nI (p - 1) := nI_sub (b := 1) (by omega)
    rw [if_neg (show ¬ nI p = (0 : Int32) from nI_dif (b := 0) z0 (by omega) (by omega)), e1, gd_nI (by omega) (by omega), gd_nI (by omega) (by omega), nI_clamp (by omega), nI_clamp (by omega), (h3 p hp).1, (h3 (p - 1) (by omega)).1, small_c (h3 p hp).2, bnd_s]
    have g2 := go22 (h3 p hp).2 (h3 (p - 1) (by omega)).2 g
    by_cases z : smB (B p) = true
    · rw [bI_t z, if_neg (by decide), small_c (h3 (p - 1) (by omega)).2, bnd_s]
      by_cases y : smB (B (p - 1)) = true
      · rw [bI_t y, if_neg (by decide), bI_t (goB_i.mpr ⟨z0, Or.inl ⟨z, y⟩⟩)]
      · rw [bI_f y, if_pos rfl, g2, bI_congr (q := goB B p = true)]
        rw [goB_i]
        exact ⟨fun q => ⟨z0, Or.inr q⟩, fun q => by rcases q.2 with q | q; exact absurd q.2 y; exact q⟩
    · rw [bI_f z, if_pos rfl, g2, bI_congr (q := goB B p = true)]
      rw [goB_i]
      exact ⟨fun q => ⟨z0, Or.inr q⟩, fun q => by rcases q.2 with q | q; exact absurd q.1 z; exact q⟩
theorem behind_l (h : TB B n g) : ∀ (m q F : Nat), q + m = n → m < F → q_Tape_behindRow_4L (fun x6 g7 => some (x6, g7)) F (nI q) g = some (nI (eR B m q), g) := by
  intro m
  have h4 := h.1
  induction m with
  | zero =>
    intro q F h1 h2
    obtain ⟨F, rfl⟩ : ∃ q, F = q + 1 := ⟨F - 1, by omega⟩
    rw [q_Tape_behindRow_4L_s]
    unfold q_Tape_behindRow_4
    rw [h.2.1, if_pos (nI_le (by omega) (by omega))]
    rfl
  | succ m ih =>
    intro q F h1 h2
    obtain ⟨F, rfl⟩ : ∃ q, F = q + 1 := ⟨F - 1, by omega⟩
    rw [q_Tape_behindRow_4L_s]
    unfold q_Tape_behindRow_4 eR
    rw [h.2.1, if_neg (nI_ge (by omega) (by omega)), goes_c h (by omega), bnd_s, nI_1]
    by_cases z : goB B q = true
    · rw [bI_t z, if_neg (by decide), if_pos z]
      exact ih (q + 1) F (by omega) (by omega)
    · rw [bI_f z, if_pos rfl, if_neg z]
theorem behind_c (h : TB B n g) {p : Nat} (hp : p < n) : q_Tape_behindRow (nI p) g = some (nI (eE B n p), g) := by
  have h4 := h.1
  unfold q_Tape_behindRow eE
  rw [nI_1]
  exact behind_l h (n - (p + 1)) (p + 1) FU (by omega) (Nat.lt_of_le_of_lt (show n - (p + 1) ≤ 400 by omega) (by decide))
theorem len_c {i : Nat} (hi : i < 25) (g : hG) : q_Js_length (100000 + i) g = some (nI (wN i), g) := by
  unfold q_Js_length q_Js_coder
  rw [if_neg (by decide), gd_L _ _ (by decide) (by decide), bnd_s, (wd_str i hi).1]
theorem char_c {i j : Nat} (hi : i < 25) (hj : j < wN i) (g : hG) : q_Js_charAt (100000 + i) (nI j) g = some (nI (96 + wC i j), g) := by
  obtain ⟨w1, w2⟩ := wd_ok i hi
  obtain ⟨-, s1, s2⟩ := wd_str i hi
  have l := w2 j (by omega) hj
  unfold q_Js_charAt q_Js_isLatin1 q_Jl_charAt q_Js_checkIndex q_Jp_checkIndex
  rw [if_neg (by decide), if_pos rfl, bnd_s, if_neg (by decide), s1, if_neg (Int32.not_lt.mpr (nI_pos' (by omega))), if_pos (show nI j < Int32.ofNat (wN i) from nI_lt' hj (by omega)), bnd_s, bnd_s, gd_nI hj (by omega), nI_clamp (by omega), s2 j (by omega) hj, gd_nI (by omega) (by omega), gd_nI (by omega) (by omega), bnd_s, gd_nI (by omega) (by omega)]
theorem is_l (h : TB B n g) {i p e : Nat} (hi : i < 25) (he : e ≤ n) (hp : e - p = wN i) (hpe : p ≤ e) : ∀ (m j F : Nat), j + m = wN i → m < F → q_Tape_is_10L (100000 + i) (nI p) (fun g14 => some ((1 : Int32), g14)) F (nI j) g = some (bI (allB (fun j => decide (B (p + j) = 96 + wC i j)) j m = true), g) := by
  obtain ⟨h1, h2, h3⟩ := h
  obtain ⟨w1, w2⟩ := wd_ok i hi
  intro m
  induction m with
  | zero =>
    intro j F a b
    obtain ⟨F, rfl⟩ : ∃ q, F = q + 1 := ⟨F - 1, by omega⟩
    rw [q_Tape_is_10L_s]
    unfold q_Tape_is_10 allB
    rw [len_c hi, bnd_s, if_pos (nI_le (by omega) (by omega)), bI_t rfl]
  | succ m ih =>
    intro j F a b
    obtain ⟨F, rfl⟩ : ∃ q, F = q + 1 := ⟨F - 1, by omega⟩
    have l := w2 j (by omega) (by omega)
    have b3 := h3 (p + j) (by omega)
    rw [q_Tape_is_10L_s]
    unfold q_Tape_is_10 allB
    rw [len_c hi, bnd_s, if_neg (nI_ge (by omega) (by omega)), nI_add, gd_nI (by omega) (by omega), nI_clamp (by omega), char_c hi (by omega), bnd_s, b3.1, nI_1]
    by_cases z : B (p + j) = 96 + wC i j
    · rw [if_pos (by rw [z]), decide_eq_true z, Bool.true_and]
      exact ih (j + 1) F (by omega) (by omega)
    · rw [if_neg (fun q => z ((nI_eq (by omega) (by omega)).mp q)), decide_eq_false z, Bool.false_and, bI_f Bool.false_ne_true]
theorem is_c (h : TB B n g) {i p e : Nat} (hi : i < 25) (he : e ≤ n) (hpe : p ≤ e) : q_Tape_is (100000 + i) (nI p) (nI e) g = some (bI (isW B p e i = true), g) := by
  have h4 := h.1
  obtain ⟨w1, w2⟩ := wd_ok i hi
  unfold q_Tape_is
  rw [len_c hi, bnd_s, nI_sub hpe]
  by_cases z : e - p = wN i
  · rw [if_pos (by rw [z])]
    refine (is_l h hi he z hpe (wN i) 0 FU (by omega) (Nat.lt_of_le_of_lt w1 (by decide))).trans ?_
    rw [bI_congr (q := isW B p e i = true)]
    unfold isW
    rw [decide_eq_true z, Bool.true_and]
  · rw [if_neg (fun q => z ((nI_eq (by omega) (by omega)).mp q)), bI_f (fun q => z (isW_i.mp q).1)]
theorem wR_s (Q : Nat → Bool) (m i : Nat) : wR Q (m + 1) i = if Q i = true then 3001 + i else wR Q m (i + 1) := rfl
theorem wR_add (Q : Nat → Bool) (b : Nat) : ∀ a i, wR Q (a + b) i = if wR Q a i = 3000 then wR Q b (i + a) else wR Q a i
  | 0, i => by
    rw [if_pos (show wR Q 0 i = 3000 from rfl), Nat.zero_add]
    rfl
  | a + 1, i => by
    rw [show a + 1 + b = a + b + 1 by omega, wR_s, wR_s]
    by_cases z : Q i = true
    · rw [if_pos z, if_pos z, if_neg (by omega)]
    · rw [if_neg z, if_neg z, wR_add Q b a (i + 1), show i + 1 + a = i + (a + 1) by omega]
theorem join_c (h : TB B n g) {p e : Nat} (he : e ≤ n) (hpe : p ≤ e) : q_Tape_joiningWord (nI p) (nI e) g = some (nI (wR (isW B p e) 14 0), g) := by
  have ic : ∀ i, i < 25 → q_Tape_is (100000 + i) (nI p) (nI e) g = some (bI (isW B p e i = true), g) := fun i hi => is_c h hi he hpe
  unfold q_Tape_joiningWord
  rw [show q_Tape_is 100000 (nI p) (nI e) g = _ from ic 0 (by omega), bnd_s, wR_s _ 13 0]
  by_cases z0 : isW B p e 0 = true
  · rw [bI_t z0, if_neg (by decide), if_pos z0]
    rfl
  rw [bI_f z0, if_pos rfl, if_neg z0]
  rw [show q_Tape_is 100001 (nI p) (nI e) g = _ from ic 1 (by omega), bnd_s, wR_s _ 12 1]
  by_cases z1 : isW B p e 1 = true
  · rw [bI_t z1, if_neg (by decide), if_pos z1]
    rfl
  rw [bI_f z1, if_pos rfl, if_neg z1]
  rw [show q_Tape_is 100002 (nI p) (nI e) g = _ from ic 2 (by omega), bnd_s, wR_s _ 11 2]
  by_cases z2 : isW B p e 2 = true
  · rw [bI_t z2, if_neg (by decide), if_pos z2]
    rfl
  rw [bI_f z2, if_pos rfl, if_neg z2]
  rw [show q_Tape_is 100003 (nI p) (nI e) g = _ from ic 3 (by omega), bnd_s, wR_s _ 10 3]
  by_cases z3 : isW B p e 3 = true
  · rw [bI_t z3, if_neg (by decide), if_pos z3]
    rfl
  rw [bI_f z3, if_pos rfl, if_neg z3]
  rw [show q_Tape_is 100004 (nI p) (nI e) g = _ from ic 4 (by omega), bnd_s, wR_s _ 9 4]
  by_cases z4 : isW B p e 4 = true
  · rw [bI_t z4, if_neg (by decide), if_pos z4]
    rfl
  rw [bI_f z4, if_pos rfl, if_neg z4]
  rw [show q_Tape_is 100005 (nI p) (nI e) g = _ from ic 5 (by omega), bnd_s, wR_s _ 8 5]
  by_cases z5 : isW B p e 5 = true
  · rw [bI_t z5, if_neg (by decide), if_pos z5]
    rfl
  rw [bI_f z5, if_pos rfl, if_neg z5]
  rw [show q_Tape_is 100006 (nI p) (nI e) g = _ from ic 6 (by omega), bnd_s, wR_s _ 7 6]
  by_cases z6 : isW B p e 6 = true
  · rw [bI_t z6, if_neg (by decide), if_pos z6]
    rfl
  rw [bI_f z6, if_pos rfl, if_neg z6]
  rw [show q_Tape_is 100007 (nI p) (nI e) g = _ from ic 7 (by omega), bnd_s, wR_s _ 6 7]
  by_cases z7 : isW B p e 7 = true
  · rw [bI_t z7, if_neg (by decide), if_pos z7]
    rfl
  rw [bI_f z7, if_pos rfl, if_neg z7]
  rw [show q_Tape_is 100008 (nI p) (nI e) g = _ from ic 8 (by omega), bnd_s, wR_s _ 5 8]
  by_cases z8 : isW B p e 8 = true
  · rw [bI_t z8, if_neg (by decide), if_pos z8]
    rfl
  rw [bI_f z8, if_pos rfl, if_neg z8]
  rw [show q_Tape_is 100009 (nI p) (nI e) g = _ from ic 9 (by omega), bnd_s, wR_s _ 4 9]
  by_cases z9 : isW B p e 9 = true
  · rw [bI_t z9, if_neg (by decide), if_pos z9]
    rfl
  rw [bI_f z9, if_pos rfl, if_neg z9]
  rw [show q_Tape_is 100010 (nI p) (nI e) g = _ from ic 10 (by omega), bnd_s, wR_s _ 3 10]
  by_cases z10 : isW B p e 10 = true
  · rw [bI_t z10, if_neg (by decide), if_pos z10]
    rfl
  rw [bI_f z10, if_pos rfl, if_neg z10]
  rw [show q_Tape_is 100011 (nI p) (nI e) g = _ from ic 11 (by omega), bnd_s, wR_s _ 2 11]
  by_cases z11 : isW B p e 11 = true
  · rw [bI_t z11, if_neg (by decide), if_pos z11]
    rfl
  rw [bI_f z11, if_pos rfl, if_neg z11]
  rw [show q_Tape_is 100012 (nI p) (nI e) g = _ from ic 12 (by omega), bnd_s, wR_s _ 1 12]
  by_cases z12 : isW B p e 12 = true
  · rw [bI_t z12, if_neg (by decide), if_pos z12]
    rfl
  rw [bI_f z12, if_pos rfl, if_neg z12]
  rw [show q_Tape_is 100013 (nI p) (nI e) g = _ from ic 13 (by omega), bnd_s, wR_s _ 0 13]
  by_cases z13 : isW B p e 13 = true
  · rw [bI_t z13, if_neg (by decide), if_pos z13]
    rfl
  rw [bI_f z13, if_pos rfl, if_neg z13]
  rfl
theorem ask_c (h : TB B n g) {p e : Nat} (he : e ≤ n) (hpe : p ≤ e) : q_Tape_askingWord (nI p) (nI e) g = some (nI (wR (isW B p e) 11 14), g) := by
  have ic : ∀ i, i < 25 → q_Tape_is (100000 + i) (nI p) (nI e) g = some (bI (isW B p e i = true), g) := fun i hi => is_c h hi he hpe
  unfold q_Tape_askingWord
  rw [show q_Tape_is 100014 (nI p) (nI e) g = _ from ic 14 (by omega), bnd_s, wR_s _ 10 14]
  by_cases z14 : isW B p e 14 = true
  · rw [bI_t z14, if_neg (by decide), if_pos z14]
    rfl
  rw [bI_f z14, if_pos rfl, if_neg z14]
  rw [show q_Tape_is 100015 (nI p) (nI e) g = _ from ic 15 (by omega), bnd_s, wR_s _ 9 15]
  by_cases z15 : isW B p e 15 = true
  · rw [bI_t z15, if_neg (by decide), if_pos z15]
    rfl
  rw [bI_f z15, if_pos rfl, if_neg z15]
  rw [show q_Tape_is 100016 (nI p) (nI e) g = _ from ic 16 (by omega), bnd_s, wR_s _ 8 16]
  by_cases z16 : isW B p e 16 = true
  · rw [bI_t z16, if_neg (by decide), if_pos z16]
    rfl
  rw [bI_f z16, if_pos rfl, if_neg z16]
  rw [show q_Tape_is 100017 (nI p) (nI e) g = _ from ic 17 (by omega), bnd_s, wR_s _ 7 17]
  by_cases z17 : isW B p e 17 = true
  · rw [bI_t z17, if_neg (by decide), if_pos z17]
    rfl
  rw [bI_f z17, if_pos rfl, if_neg z17]
  rw [show q_Tape_is 100018 (nI p) (nI e) g = _ from ic 18 (by omega), bnd_s, wR_s _ 6 18]
  by_cases z18 : isW B p e 18 = true
  · rw [bI_t z18, if_neg (by decide), if_pos z18]
    rfl
  rw [bI_f z18, if_pos rfl, if_neg z18]
  rw [show q_Tape_is 100019 (nI p) (nI e) g = _ from ic 19 (by omega), bnd_s, wR_s _ 5 19]
  by_cases z19 : isW B p e 19 = true
  · rw [bI_t z19, if_neg (by decide), if_pos z19]
    rfl
  rw [bI_f z19, if_pos rfl, if_neg z19]
  rw [show q_Tape_is 100020 (nI p) (nI e) g = _ from ic 20 (by omega), bnd_s, wR_s _ 4 20]
  by_cases z20 : isW B p e 20 = true
  · rw [bI_t z20, if_neg (by decide), if_pos z20]
    rfl
  rw [bI_f z20, if_pos rfl, if_neg z20]
  rw [show q_Tape_is 100021 (nI p) (nI e) g = _ from ic 21 (by omega), bnd_s, wR_s _ 3 21]
  by_cases z21 : isW B p e 21 = true
  · rw [bI_t z21, if_neg (by decide), if_pos z21]
    rfl
  rw [bI_f z21, if_pos rfl, if_neg z21]
  rw [show q_Tape_is 100022 (nI p) (nI e) g = _ from ic 22 (by omega), bnd_s, wR_s _ 2 22]
  by_cases z22 : isW B p e 22 = true
  · rw [bI_t z22, if_neg (by decide), if_pos z22]
    rfl
  rw [bI_f z22, if_pos rfl, if_neg z22]
  rw [show q_Tape_is 100023 (nI p) (nI e) g = _ from ic 23 (by omega), bnd_s, wR_s _ 1 23]
  by_cases z23 : isW B p e 23 = true
  · rw [bI_t z23, if_neg (by decide), if_pos z23]
    rfl
  rw [bI_f z23, if_pos rfl, if_neg z23]
  rw [show q_Tape_is 100024 (nI p) (nI e) g = _ from ic 24 (by omega), bnd_s, wR_s _ 0 24]
  by_cases z24 : isW B p e 24 = true
  · rw [bI_t z24, if_neg (by decide), if_pos z24]
    rfl
  rw [bI_f z24, if_pos rfl, if_neg z24]
  rfl
theorem num_l (h : TB B n g) {p e : Nat} (he : e ≤ n) (hd : ∀ j, j < e - p → dgB (B (p + j)) = true) : ∀ (m j F : Nat), p + j + m = e → m < F → q_Tape_numberOf_4L (nI e) (fun x2 g4 => some (x2, g4)) F (nI (cv (fun j => B (p + j) - 48) j)) (nI (p + j)) g = some (nI (cv (fun j => B (p + j) - 48) (e - p)), g) := by
  obtain ⟨h1, h2, h3⟩ := h
  intro m
  induction m with
  | zero =>
    intro j F a b
    obtain ⟨F, rfl⟩ : ∃ q, F = q + 1 := ⟨F - 1, by omega⟩
    rw [q_Tape_numberOf_4L_s]
    unfold q_Tape_numberOf_4
    rw [if_pos (nI_le (by omega) (by omega)), show e - p = j by omega]
  | succ m ih =>
    intro j F a b
    obtain ⟨F, rfl⟩ : ∃ q, F = q + 1 := ⟨F - 1, by omega⟩
    have b3 := h3 (p + j) (by omega)
    have d := dgB_i.mp (hd j (by omega))
    have c1 : cv (fun j => B (p + j) - 48) j ≤ 1001 := by rw [cv_nv]; omega
    have e1 : (nI (cv (fun j => B (p + j) - 48) j) * (10 : Int32) + nI (B (p + j))) - (48 : Int32) = nI (cv (fun j => B (p + j) - 48) j * 10 + (B (p + j) - 48)) := by
      rw [show (10 : Int32) = nI 10 from rfl, pk_mul, nI_add, show (48 : Int32) = nI 48 from rfl, nI_sub (by omega)]
      congr 1
      omega
    have e2 : imin (nI (cv (fun j => B (p + j) - 48) j * 10 + (B (p + j) - 48))) (1001 : Int32) = nI (cv (fun j => B (p + j) - 48) (j + 1)) := by
      rw [cv]
      unfold imin
      rw [show (1001 : Int32) = nI 1001 from rfl]
      have q : min (cv (fun j => B (p + j) - 48) j * 10 + (B (p + j) - 48)) 1001 = if 1001 < cv (fun j => B (p + j) - 48) j * 10 + (B (p + j) - 48) then 1001 else cv (fun j => B (p + j) - 48) j * 10 + (B (p + j) - 48) := by split <;> omega
      rw [q, nI_lt_if (by omega) (by omega), nI_if]
    rw [q_Tape_numberOf_4L_s]
    unfold q_Tape_numberOf_4
    rw [if_neg (nI_ge (by omega) (by omega)), gd_nI (by omega) (by omega), nI_clamp (by omega), b3.1, e1, e2, nI_1]
    exact ih (j + 1) F (by omega) (by omega)
theorem token_c (h : TB B n g) {p : Nat} (hp : p < n) : q_Tape_tokenOf (nI p) (nI (eE B n p)) g = some (nI (tkF B n p), g) := by
  have h4 := h.1
  obtain ⟨e1, e2, e3, e4⟩ := eE_p B hp
  have b3 := h.2.2 p hp
  unfold q_Tape_tokenOf tkF
  rw [if_neg (show ¬ n ≤ p by omega), gd_nI (by omega) (by omega), nI_clamp (by omega), b3.1, small_c b3.2, bnd_s]
  by_cases z : smB (B p) = true
  · rw [bI_t z, if_neg (by decide), if_pos z, join_c h e2 (by omega), bnd_s, show (25 : Nat) = 14 + 11 from rfl, wR_add]
    have j4 : wR (isW B p (eE B n p)) 14 0 < 4000 := by
      rcases wR_p (isW B p (eE B n p)) 14 0 with ⟨q, -⟩ | ⟨j, -, q1, -, q2⟩
      · omega
      · omega
    by_cases y : wR (isW B p (eE B n p)) 14 0 = 3000
    · rw [if_pos y, y, if_pos (show nI 3000 = (3000 : Int32) from rfl), ask_c h e2 (by omega), bnd_s]
    · rw [if_neg y, if_neg (show ¬ nI (wR (isW B p (eE B n p)) 14 0) = (3000 : Int32) from nI_dif (b := 3000) y (by omega) (by omega))]
  · rw [bI_f z, if_pos rfl, if_neg z, gd_nI (by omega) (by omega), b3.1, digit_c b3.2, bnd_s]
    by_cases y : dgB (B p) = true
    · rw [bI_t y, if_neg (by decide), if_pos y]
      unfold q_Tape_numberOf
      have := num_l h e2 (row_dg hp y) (eE B n p - p) 0 FU (by omega) (Nat.lt_of_le_of_lt (show eE B n p - p ≤ 400 by omega) (by decide))
      rw [show q_Tape_numberOf_4L (nI (eE B n p)) (fun x2 g4 => some (x2, g4)) FU 0 (nI p) g = _ from this, bnd_s]
    · rw [bI_f y, if_pos rfl, if_neg y, gd_nI (by omega) (by omega), b3.1, show (2000 : Int32) = nI 2000 from rfl, nI_add]
/-- what the class cut -/
def sCu (a k : Nat) : Bool := a == 237 || a == 238 || (a == 235 && k == 4)
def Cut (B : Nat → Nat) (n : Nat) (g : hG) : Prop := gI g 235 4 = nI (cnt (stB B) n + 1) ∧ ∀ p, Tk B n p → gI g 238 (cnt (stB B) p) = nI p ∧ gI g 237 (cnt (stB B) p) = nI (tkF B n p)
theorem TB.ex {g g' : hG} (h : TB B n g) (u : Un sCu g g') : TB B n g' := ⟨h.1, (u.I rfl).trans h.2.1, fun j hj => ⟨(u.I rfl).trans (h.2.2 j hj).1, (h.2.2 j hj).2⟩⟩
theorem cut_l : ∀ (m i F : Nat) (g : hG), i + m = n → m < F → TB B n g → gI g 235 4 = nI (cnt (stB B) i) → (∀ p, p < i → stB B p = true → gI g 238 (cnt (stB B) p) = nI p ∧ gI g 237 (cnt (stB B) p) = nI (tkF B n p)) → ∃ g', q_Tape_cut_5L (fun g22 => gd (gI g22 235 4) 401 <| wr (sI g22 238 (gI g22 235 4).toNatClampNeg (gI g22 235 1)) fun g24 => gd (gI g24 235 4) 401 <| wr (sI g24 237 (gI g24 235 4).toNatClampNeg (4000 : Int32)) fun g26 => wr (sI g26 235 4 ((gI g26 235 4) + (1 : Int32))) fun g28 => some ((), g28)) F (nI i) g = some ((), g') ∧ Un sCu g g' ∧ Cut B n g' := by
  intro m
  induction m with
  | zero =>
    intro i F g h1 h2 h h3 h4
    have hn := h.1
    obtain ⟨F, rfl⟩ : ∃ q, F = q + 1 := ⟨F - 1, by omega⟩
    obtain rfl : i = n := by omega
    have c := cnt_m (stB B) i
    rw [q_Tape_cut_5L_s]
    unfold q_Tape_cut_5
    rw [h.2.1, if_pos (nI_le (Nat.le_refl _) (by omega))]
    dsimp only
    rw [h3, gd_nI (by omega) (by omega), wr_e, nI_clamp (by omega), rd_a (by decide), h3, gd_nI (by omega) (by omega), wr_e, wr_e, nI_clamp (by omega), rd_a (by decide), rd_a (by decide), h3, nI_1]
    refine ⟨_, rfl, ((Un.rf.sI rfl _).sI rfl _).sI rfl _, rd_s, fun p hp => ?_⟩
    rcases hp with rfl | ⟨hp, hs⟩
    · rw [rd_a (by decide), rd_a (by decide), rd_s, rd_a (by decide), rd_s]
      unfold tkF
      rw [if_pos (Nat.le_refl _), h.2.1]
      exact ⟨rfl, rfl⟩
    · have ci := cnt_in (stB B) hp hs
      rw [rd_a (by decide), rd_a (by decide), rd_k (by omega), rd_a (by decide), rd_k (by omega), rd_a (by decide)]
      exact h4 p hp hs
  | succ m ih =>
    intro i F g h1 h2 h h3 h4
    have hn := h.1
    obtain ⟨F, rfl⟩ : ∃ q, F = q + 1 := ⟨F - 1, by omega⟩
    have b3 := h.2.2 i (by omega)
    have c := cnt_m (stB B) i
    have skip : ¬ stB B i = true → ∃ g', q_Tape_cut_5L (fun g22 => gd (gI g22 235 4) 401 <| wr (sI g22 238 (gI g22 235 4).toNatClampNeg (gI g22 235 1)) fun g24 => gd (gI g24 235 4) 401 <| wr (sI g24 237 (gI g24 235 4).toNatClampNeg (4000 : Int32)) fun g26 => wr (sI g26 235 4 ((gI g26 235 4) + (1 : Int32))) fun g28 => some ((), g28)) F (nI (i + 1)) g = some ((), g') ∧ Un sCu g g' ∧ Cut B n g' := fun z =>
      ih (i + 1) F g (by omega) (by omega) h (by rw [cnt_s, if_neg z, Nat.add_zero]; exact h3) (fun p hp hs => by
        by_cases w : p = i
        · rw [w] at hs; exact absurd hs z
        · exact h4 p (by omega) hs)
    rw [q_Tape_cut_5L_s]
    unfold q_Tape_cut_5
    rw [h.2.1, if_neg (nI_ge (by omega) (by omega)), gd_nI (by omega) (by omega), nI_clamp (by omega), b3.1, nI_1]
    by_cases z : B i = 32
    · rw [if_pos (by rw [z]; rfl)]
      exact skip (st_no (Or.inl z))
    · rw [if_neg (show ¬ nI (B i) = (32 : Int32) from nI_dif (b := 32) z (by omega) (by omega)), goes_c h (by omega), bnd_s]
      by_cases y : goB B i = true
      · rw [bI_t y, if_neg (by decide)]
        exact skip (st_no (Or.inr y))
      · have hs : stB B i = true := stB_i.mpr ⟨z, y⟩
        rw [bI_f y, if_pos rfl, h3, gd_nI (by omega) (by omega), wr_e, nI_clamp (by omega)]
        have hB : TB B n (sI g 238 (cnt (stB B) i) (nI i)) := h.ex (Un.rf.sI rfl _)
        have d4 : gI (sI g 238 (cnt (stB B) i) (nI i)) 235 4 = nI (cnt (stB B) i) := (rd_a (by decide)).trans h3
        rw [behind_c hB (by omega), bnd_s, token_c hB (by omega), bnd_s, d4, gd_nI (by omega) (by omega), wr_e, wr_e, nI_clamp (by omega), rd_a (by decide), d4, nI_1]
        obtain ⟨g', e1, e2, e3⟩ := ih (i + 1) F (sI (sI (sI g 238 (cnt (stB B) i) (nI i)) 237 (cnt (stB B) i) (nI (tkF B n i))) 235 4 (nI (cnt (stB B) i + 1))) (by omega) (by omega) (h.ex (((Un.rf.sI rfl _).sI rfl _).sI rfl _)) (by rw [rd_s, cnt_s, if_pos hs]) (fun p hp hs2 => by
          by_cases w : p = i
          · subst w
            exact ⟨by rw [rd_a (by decide), rd_a (by decide), rd_s], by rw [rd_a (by decide), rd_s]⟩
          · have ci := cnt_in (stB B) (show p < i by omega) hs2
            exact ⟨by rw [rd_a (by decide), rd_a (by decide), rd_k (by omega)]; exact (h4 p (by omega) hs2).1, by rw [rd_a (by decide), rd_k (by omega), rd_a (by decide)]; exact (h4 p (by omega) hs2).2⟩)
        exact ⟨g', e1, (((Un.rf.sI rfl _).sI rfl _).sI rfl _).tr e2, e3⟩
theorem cut_c (h : TB B n g) : ∃ g', q_Tape_cut g = some ((), g') ∧ Un sCu g g' ∧ Cut B n g' := by
  have hn := h.1
  unfold q_Tape_cut
  rw [wr_e]
  obtain ⟨g', e1, e2, e3⟩ := cut_l (B := B) (n := n) n 0 FU (sI g 235 4 0) (by omega) (Nat.lt_of_le_of_lt hn (by decide)) (h.ex (Un.rf.sI rfl _)) rd_s (fun p hp => absurd hp (Nat.not_lt_zero _))
  exact ⟨g', e1, (Un.rf.sI rfl _).tr e2, e3⟩
end CU
