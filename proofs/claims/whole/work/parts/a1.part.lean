/-! texts: a part, both (laws' words) -/
section PJ
variable {B : Nat → Nat} {n t lg v1 p pa dp d sz len : Nat} {L : Pi} {f g : hG}
/-- no operator of a sum -/
def noOp (x : Nat) : Prop := x ≠ 2043 ∧ x ≠ 2045 ∧ x ≠ 2042 ∧ x ≠ 2047 ∧ x ≠ 2037
theorem word_p (h : PM B n lg p pa dp L len f) {i : Nat} (hi : i < 25) : q_Mo_isWord (hw i) f = some (bI (tkF B n p = 3001 + i), f) := word_m h.1 h.2.1 hi
theorem num_p (h : PM B n lg p pa dp L len f) : (gI f 367 16 = 2 ↔ tkF B n p ≤ 1001) ∧ (tkF B n p ≤ 1001 → ∃ v, v < 20000000 ∧ gJ f 367 17 = nL v ∧ tkF B n p = min v 1001) ∧ (gI f 367 16 = 0 ↔ tkF B n p = 4000) := num_m h.1 h.2.1
/-- a word of laws: its number, else none -/
def lawW (tk : Nat) : Int32 := if 3015 ≤ tk ∧ tk ≤ 3021 then nI (tk - 3014) else -1
theorem partAt_l (h : PM B n lg p pa dp L len f) (hc : CoR f) : ∀ (m i F : Nat), i + m = 7 → m < F → q_Mo_partAt_4L (fun x6 g8 => some (x6, g8)) F (if 3015 ≤ tkF B n p ∧ tkF B n p < 3015 + i then nI (tkF B n p - 3014) else -1) (nI i) f = some (lawW (tkF B n p), f) := by
  intro m
  induction m with
  | zero =>
    intro i F h1 h2
    obtain ⟨F, rfl⟩ : ∃ q, F = q + 1 := ⟨F - 1, by omega⟩
    obtain rfl : i = 7 := by omega
    rw [q_Mo_partAt_4L_s]
    unfold q_Mo_partAt_4 lawW
    rw [if_pos (show (7 : Int32) ≤ nI 7 by decide)]
    by_cases z : 3015 ≤ tkF B n p ∧ tkF B n p < 3015 + 7
    · rw [if_pos z, if_pos ⟨z.1, by omega⟩]
    · rw [if_neg z, if_neg (fun q => z ⟨q.1, by omega⟩)]
  | succ m ih =>
    intro i F h1 h2
    obtain ⟨F, rfl⟩ : ∃ q, F = q + 1 := ⟨F - 1, by omega⟩
    have nt := ih (i + 1) F (by omega) (by omega)
    rw [q_Mo_partAt_4L_s]
    unfold q_Mo_partAt_4
    rw [if_neg (show ¬ (7 : Int32) ≤ nI i from nI_ge (a := i) (b := 7) (by omega) (by decide)), gd_nI (by omega) (by omega), nI_clamp (by omega), hc.1 i (by omega), word_p h (by omega), bnd_s, nI_1]
    by_cases z : tkF B n p = 3001 + (14 + i)
    · rw [bI_t z, if_neg (by decide)]
      rw [if_pos ⟨by omega, by omega⟩, show tkF B n p - 3014 = i + 1 by omega] at nt
      exact nt
    · rw [bI_f z, if_pos rfl]
      have e : (if 3015 ≤ tkF B n p ∧ tkF B n p < 3015 + i then nI (tkF B n p - 3014) else (-1 : Int32)) = (if 3015 ≤ tkF B n p ∧ tkF B n p < 3015 + (i + 1) then nI (tkF B n p - 3014) else -1) := by
        by_cases y : 3015 ≤ tkF B n p ∧ tkF B n p < 3015 + i
        · rw [if_pos y, if_pos ⟨y.1, by omega⟩]
        · rw [if_neg y, if_neg (fun q => y ⟨q.1, by omega⟩)]
      rw [e]
      exact nt
theorem partAt_p (h : PM B n lg p pa dp L len f) (hc : CoR f) : q_Mo_partAt f = some (lawW (tkF B n p), f) := by
  have := partAt_l h hc 7 0 FU (by omega) (by decide)
  rw [if_neg (by omega)] at this
  exact this
/-- a leaf of a law: op and argument, or none -/
def leL (tk : Nat) : Option (Nat × Nat) := if tk ≤ 1000 then some (0, tk) else if 3015 ≤ tk ∧ tk ≤ 3021 then some (tk - 3014, 0) else none
theorem p53_ok (h : PM B n 0 p pa dp L len f) (hp : p < n) (hs : stB B p = true) (h50 : pa < 50) (v a b : Int32) : ∃ f', q_Mo_readPart_53 v 1 a b f = some (3, f') ∧ PM B n 0 (nx B n p) (pa + 1) dp L (len + 1) f' ∧ Un sPm f f' ∧ gI f' 378 = upR (gI f 378) len a ∧ gI f' 379 = upR (gI f 379) len b := by
  obtain ⟨f', e1, e2, e3, e4, e5⟩ := leaf_p h hp hs h50 a b
  refine ⟨f', ?_, e2, e3, e4, e5⟩
  unfold q_Mo_readPart_53
  rw [e1, bnd_s, if_pos (show gI f' 367 20 = 0 from e2.2.2.2.2.1)]
theorem p53_no (h : PM B n 0 p pa dp L len f) (w : Int32) (hw : w = 0 ∨ 50 ≤ pa) (h5 : pa ≤ 50) (v a b : Int32) : ∃ f', q_Mo_readPart_53 v w a b f = some (3, f') ∧ PF 0 p f' ∧ Un sPm f f' := by
  obtain ⟨f', e1, e2, e3⟩ := leaf_0 h w hw h5 a b
  refine ⟨f', ?_, e2, e3⟩
  unfold q_Mo_readPart_53
  rw [e1, bnd_s, if_pos (show gI f' 367 20 = 0 from e2.2.2.1)]
theorem part_m0 (h : PM B n 0 p pa dp L len f) (hc : CoR f) (h91 : tkF B n p ≠ 2091) : match leL (tkF B n p) with
    | some x => ∃ v, q_Mo_readPart f = q_Mo_readPart_53 v 1 (nI x.1) (nI x.2) f
    | none => ∃ v a b, q_Mo_readPart f = q_Mo_readPart_53 v 0 a b f := by
  obtain ⟨n1, n2, n3⟩ := num_p h
  have e0 : q_Mo_readPart f = q_Mo_readPart_17 (lawW (tkF B n p)) f := by
    unfold q_Mo_readPart
    rw [show q_Mo_isSign 91 f = _ from sign_p h (s := 91) (by omega), bnd_s, bI_f (by omega), if_pos rfl, if_pos (show gI f 367 20 = 0 from h.2.2.2.2.1), partAt_p h hc, bnd_s]
  rw [e0]
  unfold q_Mo_readPart_17 q_Mo_readPart_29 q_Mo_readPart_30 q_Mo_readPart_40 q_Mo_readPart_46 leL
  by_cases z : tkF B n p ≤ 1001
  · obtain ⟨v, v1, v2, v3⟩ := n2 z
    have lw : lawW (tkF B n p) = -1 := if_neg (by omega)
    have l1 : (1000 : Int64) < gJ f 367 17 ↔ 1000 < v := by
      rw [v2, Int64.lt_iff_toInt_lt, show (1000 : Int64).toInt = 1000 from rfl]
      unfold nL
      rw [Int64.toInt_ofNat_of_lt (by omega)]
      omega
    rw [if_pos (n1.mpr z), lw]
    by_cases y : tkF B n p ≤ 1000
    · rw [if_pos y]
      refine ⟨-1, ?_⟩
      rw [if_neg (show ¬ (1000 : Int64) < gJ f 367 17 from fun q => by have := l1.mp q; omega), if_pos rfl, if_neg (by decide), if_pos rfl, if_neg (by decide), v2, nL_32 (by omega), show v = tkF B n p by omega]
      rfl
    · rw [if_neg y, if_neg (show ¬ (3015 ≤ tkF B n p ∧ tkF B n p ≤ 3021) by omega)]
      rw [if_pos (l1.mpr (by omega)), if_pos rfl, if_pos rfl, if_pos rfl, if_pos rfl]
      exact ⟨_, _, _, rfl⟩
  · rw [if_neg (fun q => z (n1.mp q)), if_neg (show ¬ tkF B n p ≤ 1000 by omega), if_pos rfl]
    by_cases y : 3015 ≤ tkF B n p ∧ tkF B n p ≤ 3021
    · have lw : lawW (tkF B n p) = nI (tkF B n p - 3014) := if_pos y
      have nm : ¬ lawW (tkF B n p) = -1 := by rw [lw]; exact n_m1 (by omega)
      rw [if_pos y, if_neg nm, if_neg nm, lw]
      exact ⟨_, rfl⟩
    · have lw : lawW (tkF B n p) = -1 := if_neg y
      rw [if_neg y, lw, if_pos rfl, if_pos rfl, if_pos rfl]
      exact ⟨_, _, _, rfl⟩
/-- the class at a leaf of a law -/
theorem part_c0 (rs : Int32 → hG → hO Int32) (h : PC B n t 0 p sz pa g) (h91 : tkF B n p ≠ 2091) (dI : Int32) : q_Rd_part rs dI g = if pa < 50 then (match leL (tkF B n p) with
    | some x => some ((1 : Int32), adv B n p (addH t sz (if x.1 = 0 then 16 * x.2 else 16 * (x.1 - 1) + 1) (sI g 239 3 (nI (pa + 1)))))
    | none => some ((0 : Int32), sI g 239 3 (nI (pa + 1)))) else some ((0 : Int32), g) := by
  have h5 := tk_5 h.2.2.1 p
  have hh := ht_ne h.2.2.2.1
  have tc := tok_c h
  obtain ⟨-, h3, -, h4, h6, h7, h8, h9, h10, -, -⟩ := id h
  unfold q_Rd_part
  rw [tc, bnd_s, if_neg (show ¬ nI (tkF B n p) = (2091 : Int32) from nI_dif (b := 2091) h91 (by omega) (by omega)), h8]
  by_cases z : pa < 50
  · rw [if_pos (show nI pa < (50 : Int32) from nI_lt' (b := 50) z (by omega)), if_pos z, wr_e, nI_1]
    have hg1 : PC B n t 0 p sz (pa + 1) (sI g 239 3 (nI (pa + 1))) := h.ex (Un.rf.sI rfl _) h3 rd_s ((rd_k (by decide)).trans h9) ((rd_a hh.1).trans h10) (by omega) h.2.2.2.2.2.2.2.2.2.2
    generalize hg : sI g 239 3 (nI (pa + 1)) = g1 at *
    obtain ⟨-, -, -, -, j6, j7, j8, j9, j10, -, -⟩ := id hg1
    have wr1 : ∀ (s m : Nat), s < 16 → m < 1024 → p < n → stB B p = true → q_Rd_write (nI s) (nI m) g1 = some (1, adv B n p (addH t sz (16 * m + s) g1)) := fun s m hs hm hp hst => by
      have kk := cnt_in (stB B) hp hst
      have cc := hg1.c4
      have sl : sz ≤ 2 + cnt (stB B) p := hg1.2.2.2.2.2.2.2.2.2.2
      have ha := add_c j10 (show sz ≤ 401 by omega) hm hs
      unfold q_Rd_write
      rw [if_neg (n_m1 (by omega)), j6, gp_p h4.1, ha, bnd_s]
      have go : q_Rd_goOn (addH t sz (16 * m + s) g1) = some ((), adv B n p (addH t sz (16 * m + s) g1)) := by
        have c := hg1.c4
        have k := cnt_in (stB B) hp hst
        have k2 := (tk_n hp hst).2.1
        have e4 : gI (addH t sz (16 * m + s) g1) 235 4 = nI (cnt (stB B) n + 1) := by
          unfold addH
          rw [rd_a (show ¬ 235 = t by have := h4.2; omega), rd_a (show ¬ 235 = t + 1 by have := h4.2; omega)]
          exact hg1.1.1
        have e9 : gI (addH t sz (16 * m + s) g1) 239 4 = nI (cnt (stB B) p) := by
          unfold addH
          rw [rd_a (show ¬ 239 = t by omega), rd_a (show ¬ 239 = t + 1 by omega)]
          exact j9
        have e1 : nI (cnt (stB B) n + 1) - (1 : Int32) = nI (cnt (stB B) n) := nI_sub (b := 1) (by omega)
        unfold q_Rd_goOn
        rw [e4, e1, e9, if_neg (nI_ge k (by omega)), wr_e, nI_1]
        unfold adv
        rw [k2]
      rw [go, bnd_s]
    rw [tok_c hg1, bnd_s]
    unfold leL
    by_cases y : tkF B n p ≤ 1000
    · obtain ⟨hp, hst⟩ := tk_lt h3 (by omega)
      rw [if_neg (show ¬ (1000 : Int32) < nI (tkF B n p) from nI_ngt (b := 1000) y (by omega)), tok_c hg1, bnd_s, show (0 : Int32) = nI 0 from rfl, wr1 0 _ (by omega) (by omega) hp hst, bnd_s, gb_1, if_pos y]
      show _ = some ((1 : Int32), adv B n p (addH t sz (if (0 : Nat) = 0 then 16 * tkF B n p else 16 * (0 - 1) + 1) g1))
      rw [if_pos rfl]
      rfl
    · rw [if_pos (show (1000 : Int32) < nI (tkF B n p) from nI_lt' (a := 1000) (by omega) (by omega)), if_pos (show gI g1 239 2 = 0 from j7), if_neg y]
      have nd : ∀ m, tkF B n p ≠ m → m < 5000 → ¬ nI (tkF B n p) = nI m := fun m hm h5' => nI_dif hm (by omega) (by omega)
      unfold q_Rd_lawFact
      rw [tok_c hg1, bnd_s]
      by_cases x : 3015 ≤ tkF B n p ∧ tkF B n p ≤ 3021
      · obtain ⟨hp, hst⟩ := tk_lt h3 (by omega)
        rw [if_pos x]
        show _ = some ((1 : Int32), adv B n p (addH t sz (if tkF B n p - 3014 = 0 then 16 * 0 else 16 * (tkF B n p - 3014 - 1) + 1) g1))
        rw [if_neg (show ¬ tkF B n p - 3014 = 0 by omega)]
        have w := wr1 1 (tkF B n p - 3014 - 1) (by omega) (by omega) hp hst
        have hx : tkF B n p = 3015 ∨ tkF B n p = 3016 ∨ tkF B n p = 3017 ∨ tkF B n p = 3018 ∨ tkF B n p = 3019 ∨ tkF B n p = 3020 ∨ tkF B n p = 3021 := by omega
        rcases hx with q | q | q | q | q | q | q <;> rw [q] at w ⊢
        · rw [if_pos (by decide), bnd_s]; exact (congrArg (fun o => bnd o _) w).trans (by rw [bnd_s, gb_1])
        · rw [if_neg (by decide), if_pos (by decide), bnd_s]; exact (congrArg (fun o => bnd o _) w).trans (by rw [bnd_s, gb_1])
        · rw [if_neg (by decide), if_neg (by decide), if_pos (by decide), bnd_s]; exact (congrArg (fun o => bnd o _) w).trans (by rw [bnd_s, gb_1])
        · rw [if_neg (by decide), if_neg (by decide), if_neg (by decide), if_pos (by decide), bnd_s]; exact (congrArg (fun o => bnd o _) w).trans (by rw [bnd_s, gb_1])
        · rw [if_neg (by decide), if_neg (by decide), if_neg (by decide), if_neg (by decide), if_pos (by decide), bnd_s]; exact (congrArg (fun o => bnd o _) w).trans (by rw [bnd_s, gb_1])
        · rw [if_neg (by decide), if_neg (by decide), if_neg (by decide), if_neg (by decide), if_neg (by decide), if_pos (by decide), bnd_s]; exact (congrArg (fun o => bnd o _) w).trans (by rw [bnd_s, gb_1])
        · rw [if_neg (by decide), if_neg (by decide), if_neg (by decide), if_neg (by decide), if_neg (by decide), if_neg (by decide), if_pos (by decide), bnd_s]; exact (congrArg (fun o => bnd o _) w).trans (by rw [bnd_s, gb_1])
      · rw [if_neg x, if_neg (show ¬ nI (tkF B n p) = (3015 : Int32) from nd 3015 (by omega) (by omega)), if_neg (show ¬ nI (tkF B n p) = (3016 : Int32) from nd 3016 (by omega) (by omega)), if_neg (show ¬ nI (tkF B n p) = (3017 : Int32) from nd 3017 (by omega) (by omega)), if_neg (show ¬ nI (tkF B n p) = (3018 : Int32) from nd 3018 (by omega) (by omega)), if_neg (show ¬ nI (tkF B n p) = (3019 : Int32) from nd 3019 (by omega) (by omega)), if_neg (show ¬ nI (tkF B n p) = (3020 : Int32) from nd 3020 (by omega) (by omega)), if_neg (show ¬ nI (tkF B n p) = (3021 : Int32) from nd 3021 (by omega) (by omega)), bnd_s]
        unfold q_Rd_write
        rw [if_pos rfl, bnd_s, gb_0]
  · rw [if_neg (show ¬ nI pa < (50 : Int32) from nI_ngt (a := 50) (by omega) (by have := h.2.2.2.2.2.2.2.2.2.1; omega)), if_neg z]
end PJ
