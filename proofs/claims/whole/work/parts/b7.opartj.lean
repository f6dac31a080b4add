/-! orders: a part, both -/
section PQ1
variable {B : Nat → Nat} {n t lg v1 p pa d sz : Nat} {g : hG}
/-- a step is written, the token taken -/
theorem write_c (h : PC B n t lg p sz pa g) (hp : p < n) (hst : stB B p = true) {s m : Nat} (hs : s < 16) (hm : m < 1024) : q_Rd_write (nI s) (nI m) g = some (1, adv B n p (addH t sz (16 * m + s) g)) := by
  have hh := ht_ne h.2.2.2.1
  obtain ⟨-, h3, -, h4, j6, j7, j8, j9, j10, -, -⟩ := id h
  have kk := cnt_in (stB B) hp hst
  have cc := h.c4
  have sl : sz ≤ 2 + cnt (stB B) p := h.2.2.2.2.2.2.2.2.2.2
  have ha := add_c j10 (show sz ≤ 401 by omega) hm hs
  unfold q_Rd_write
  rw [if_neg (n_m1 (by omega)), j6, gp_p h4.1, ha, bnd_s]
  have go : q_Rd_goOn (addH t sz (16 * m + s) g) = some ((), adv B n p (addH t sz (16 * m + s) g)) := by
    have k2 := (tk_n hp hst).2.1
    have e4 : gI (addH t sz (16 * m + s) g) 235 4 = nI (cnt (stB B) n + 1) := by
      unfold addH
      rw [rd_a (show ¬ 235 = t by have := h4.2; omega), rd_a (show ¬ 235 = t + 1 by have := h4.2; omega)]
      exact h.1.1
    have e9 : gI (addH t sz (16 * m + s) g) 239 4 = nI (cnt (stB B) p) := by
      unfold addH
      rw [rd_a (show ¬ 239 = t by omega), rd_a (show ¬ 239 = t + 1 by omega)]
      exact j9
    have e1 : nI (cnt (stB B) n + 1) - (1 : Int32) = nI (cnt (stB B) n) := nI_sub (b := 1) (by omega)
    unfold q_Rd_goOn
    rw [e4, e1, e9, if_neg (nI_ge kk (by omega)), wr_e, nI_1]
    unfold adv
    rw [k2]
  rw [go, bnd_s]
theorem pc_wr (h : PC B n t lg p sz pa g) (hp : p < n) (hst : stB B p = true) (c : Nat) : PC B n t lg (nx B n p) (sz + 1) pa (adv B n p (addH t sz c g)) ∧ Un (sRd t) g (adv B n p (addH t sz c g)) ∧ ∀ j, gI (adv B n p (addH t sz c g)) (t + 1) j = if j = sz then nI c else gI g (t + 1) j := by
  have hh := ht_ne h.2.2.2.1
  have tt := h.2.2.2.1.2
  have kn := (tk_n hp hst).2.1
  have sl : sz ≤ 2 + cnt (stB B) p := h.2.2.2.2.2.2.2.2.2.2
  have ua : Un (sRd t) g (adv B n p (addH t sz c g)) := un_add.tr un_adv
  refine ⟨h.ex ua (tk_n hp hst).1 ?_ rd_s ?_ h.2.2.2.2.2.2.2.2.2.1 (by omega), ua, fun j => ?_⟩
  · unfold adv addH
    rw [rd_k (by decide), rd_a (by omega), rd_a (by omega)]
    exact h.2.2.2.2.2.2.1
  · unfold adv addH
    rw [rd_a (by omega), rd_s]
  · unfold adv addH
    rw [rd_a (by omega), rd_a (by omega), gI_sI]
    by_cases w : j = sz
    · rw [if_pos ⟨rfl, w⟩, if_pos w]
    · rw [if_neg (fun q => w q.2), if_neg w]
theorem factOf_c (h : PC B n t lg p sz pa g) {b m : Nat} (hm : m < 100) : q_Rd_factOf (nI b) (nI m) g = some (if tkF B n p < m then nI (b + tkF B n p) else -1, g) := by
  have h5 := tk_5 h.2.2.1 p
  unfold q_Rd_factOf
  rw [tok_c h, bnd_s]
  by_cases z : tkF B n p < m
  · rw [if_neg (nI_ge z (by omega)), tok_c h, bnd_s, if_pos z, nI_add]
  · rw [if_pos (nI_le (by omega) (by omega)), if_neg z]
theorem write_no (s : Int32) : q_Rd_write s (-1) g = some (0, g) := by
  unfold q_Rd_write
  rw [if_pos rfl]
def ahB (tk : Nat) : Nat := if tk = 3008 then 5 else 13
theorem ah_v {tk : Nat} (h : tk = 3008 ∨ tk = 3017) : (ahM tk = 6 ∧ ahB tk = 5 ∧ ahH tk = 7) ∨ (ahM tk = 7 ∧ ahB tk = 13 ∧ ahH tk = 24) := by
  rcases h with rfl | rfl
  · exact Or.inl ⟨rfl, rfl, rfl⟩
  · exact Or.inr ⟨rfl, rfl, rfl⟩
/-- the class at a leaf of orders -/
theorem part_c1 (rs : Int32 → hG → hO Int32) (h : PC B n t 1 p sz pa g) (h91 : tkF B n p ≠ 2091) (dI : Int32) : q_Rd_part rs dI g = if pa < 50 then (if tkF B n p = 3008 ∨ tkF B n p = 3017 then (if tkF B n (nx B n p) ≤ ahH (tkF B n p) then some ((1 : Int32), adv B n (nx B n p) (addH t sz (16 * (ahB (tkF B n p) + tkF B n (nx B n p)) + 1) (adv B n p (sI g 239 3 (nI (pa + 1)))))) else some ((0 : Int32), adv B n p (sI g 239 3 (nI (pa + 1))))) else (match leO (tkF B n p) with
    | some x => some ((1 : Int32), adv B n p (addH t sz (if x.1 = 0 then 16 * x.2 else 16 * (x.1 - 1) + 1) (sI g 239 3 (nI (pa + 1)))))
    | none => some ((0 : Int32), sI g 239 3 (nI (pa + 1))))) else some ((0 : Int32), g) := by
  have h5 := tk_5 h.2.2.1 p
  have hh := ht_ne h.2.2.2.1
  have tc := tok_c h
  obtain ⟨-, h3, -, h4, h6, h7, h8, h9, h10, -, -⟩ := id h
  unfold q_Rd_part
  rw [tc, bnd_s, if_neg (show ¬ nI (tkF B n p) = (2091 : Int32) from nI_dif (b := 2091) h91 (by omega) (by omega)), h8]
  by_cases z : pa < 50
  · rw [if_pos (show nI pa < (50 : Int32) from nI_lt' (b := 50) z (by omega)), if_pos z, wr_e, nI_1]
    have hg1 : PC B n t 1 p sz (pa + 1) (sI g 239 3 (nI (pa + 1))) := h.ex (Un.rf.sI rfl _) h3 rd_s ((rd_k (by decide)).trans h9) ((rd_a hh.1).trans h10) (by omega) h.2.2.2.2.2.2.2.2.2.2
    generalize hg : sI g 239 3 (nI (pa + 1)) = g1 at *
    obtain ⟨-, -, -, -, j6, j7, j8, j9, j10, -, -⟩ := id hg1
    rw [tok_c hg1, bnd_s]
    by_cases y : tkF B n p ≤ 1000
    · obtain ⟨hp, hst⟩ := tk_lt h3 (by omega)
      unfold leO
      rw [if_neg (show ¬ (1000 : Int32) < nI (tkF B n p) from nI_ngt (b := 1000) y (by omega)), tok_c hg1, bnd_s, show (0 : Int32) = nI 0 from rfl, write_c hg1 hp hst (by omega) (by omega), bnd_s, gb_1, if_neg (by omega), if_pos y]
      show _ = some ((1 : Int32), adv B n p (addH t sz (if (0 : Nat) = 0 then 16 * tkF B n p else 16 * (0 - 1) + 1) g1))
      rw [if_pos rfl]
      rfl
    · rw [if_pos (show (1000 : Int32) < nI (tkF B n p) from nI_lt' (a := 1000) (by omega) (by omega)), if_neg (show ¬ gI g1 239 2 = 0 by rw [j7]; decide), show q_Rd_took (3008 : Int32) g1 = _ from took_c hg1 (v := 3008) (by omega)]
      have nd : ∀ m, tkF B n p ≠ m → m < 5000 → ¬ nI (tkF B n p) = nI m := fun m hm h5' => nI_dif hm (by omega) (by omega)
      by_cases x8 : tkF B n p = 3008
      · obtain ⟨hp, hst⟩ := tk_lt h3 (by omega)
        have ha := hg1.adv hp hst
        rw [if_pos x8, bnd_s, if_neg (by decide), show q_Rd_factOf (5 : Int32) (8 : Int32) (adv B n p g1) = _ from factOf_c ha (b := 5) (m := 8) (by omega), bnd_s, if_pos (Or.inl x8), x8, show ahH 3008 = 7 from rfl, show ahB 3008 = 5 from rfl]
        by_cases w : tkF B n (nx B n p) ≤ 7
        · obtain ⟨hp2, hst2⟩ := tk_lt ha.2.1 (by omega)
          rw [if_pos (by omega), if_pos w, show (1 : Int32) = nI 1 from rfl, write_c ha hp2 hst2 (by omega) (by omega), bnd_s]
          exact gb_1 _
        · rw [if_neg (by omega), if_neg w, write_no, bnd_s, gb_0]
      · rw [if_neg x8, bnd_s, if_pos rfl, show q_Rd_took (3017 : Int32) g1 = _ from took_c hg1 (v := 3017) (by omega)]
        by_cases x17 : tkF B n p = 3017
        · obtain ⟨hp, hst⟩ := tk_lt h3 (by omega)
          have ha := hg1.adv hp hst
          rw [if_pos x17, bnd_s, if_neg (by decide), show q_Rd_factOf (13 : Int32) (25 : Int32) (adv B n p g1) = _ from factOf_c ha (b := 13) (m := 25) (by omega), bnd_s, if_pos (Or.inr x17), x17, show ahH 3017 = 24 from rfl, show ahB 3017 = 13 from rfl]
          by_cases w : tkF B n (nx B n p) ≤ 24
          · obtain ⟨hp2, hst2⟩ := tk_lt ha.2.1 (by omega)
            rw [if_pos (by omega), if_pos w, show (1 : Int32) = nI 1 from rfl, write_c ha hp2 hst2 (by omega) (by omega), bnd_s]
            exact gb_1 _
          · rw [if_neg (by omega), if_neg w, write_no, bnd_s, gb_0]
        · rw [if_neg x17, bnd_s, if_pos rfl, if_neg (by omega)]
          unfold q_Rd_orderFact leO
          rw [tok_c hg1, bnd_s, if_neg y]
          by_cases a : tkF B n p = 3019
          · obtain ⟨hp, hst⟩ := tk_lt h3 (by omega)
            have w := write_c hg1 hp hst (s := 1) (m := 0) (by omega) (by omega)
            rw [if_pos (show nI (tkF B n p) = (3019 : Int32) by rw [a]; rfl), bnd_s, if_pos a]
            exact (congrArg (fun o => bnd o _) w).trans (by rw [bnd_s]; exact gb_1 _)
          · rw [if_neg (show ¬ nI (tkF B n p) = (3019 : Int32) from nd 3019 a (by omega)), if_neg a]
            by_cases b : 3022 ≤ tkF B n p ∧ tkF B n p ≤ 3025
            · obtain ⟨hp, hst⟩ := tk_lt h3 (by omega)
              have w := write_c hg1 hp hst (s := 1) (m := tkF B n p - 3021) (by omega) (by omega)
              rw [if_pos b]
              show _ = some ((1 : Int32), adv B n p (addH t sz (if tkF B n p - 3020 = 0 then 16 * 0 else 16 * (tkF B n p - 3020 - 1) + 1) g1))
              rw [if_neg (show ¬ tkF B n p - 3020 = 0 by omega), show tkF B n p - 3020 - 1 = tkF B n p - 3021 by omega]
              have hx : tkF B n p = 3022 ∨ tkF B n p = 3023 ∨ tkF B n p = 3024 ∨ tkF B n p = 3025 := by omega
              rcases hx with q | q | q | q <;> rw [q] at w ⊢
              · rw [if_neg (by decide), if_neg (by decide), if_pos (by decide), bnd_s]; exact (congrArg (fun o => bnd o _) w).trans (by rw [bnd_s]; exact gb_1 _)
              · rw [if_neg (by decide), if_neg (by decide), if_neg (by decide), if_pos (by decide), bnd_s]; exact (congrArg (fun o => bnd o _) w).trans (by rw [bnd_s]; exact gb_1 _)
              · rw [if_neg (by decide), if_neg (by decide), if_neg (by decide), if_neg (by decide), if_pos (by decide), bnd_s]; exact (congrArg (fun o => bnd o _) w).trans (by rw [bnd_s]; exact gb_1 _)
              · rw [if_neg (by decide), if_neg (by decide), if_neg (by decide), if_neg (by decide), if_neg (by decide), if_pos (by decide), bnd_s]; exact (congrArg (fun o => bnd o _) w).trans (by rw [bnd_s]; exact gb_1 _)
            · rw [if_neg b]
              have fin : (bnd (q_Rd_write (1 : Int32) (-1) g1) fun r26 g24 => gb r26 (some (r26, g24))) = some (0, g1) := by rw [write_no, bnd_s, gb_0]
              by_cases c1 : tkF B n p = 3020
              · rw [if_pos (show nI (tkF B n p) = (3020 : Int32) by rw [c1]; rfl), bnd_s]; exact fin
              · rw [if_neg (show ¬ nI (tkF B n p) = (3020 : Int32) from nd 3020 c1 (by omega))]
                by_cases c2 : tkF B n p = 3021
                · rw [if_pos (show nI (tkF B n p) = (3021 : Int32) by rw [c2]; rfl), bnd_s]; exact fin
                · rw [if_neg (show ¬ nI (tkF B n p) = (3021 : Int32) from nd 3021 c2 (by omega)), if_neg (show ¬ nI (tkF B n p) = (3022 : Int32) from nd 3022 (by omega) (by omega)), if_neg (show ¬ nI (tkF B n p) = (3023 : Int32) from nd 3023 (by omega) (by omega)), if_neg (show ¬ nI (tkF B n p) = (3024 : Int32) from nd 3024 (by omega) (by omega)), if_neg (show ¬ nI (tkF B n p) = (3025 : Int32) from nd 3025 (by omega) (by omega)), bnd_s]
                  exact fin
  · rw [if_neg (show ¬ nI pa < (50 : Int32) from nI_ngt (a := 50) (by omega) (by have := h.2.2.2.2.2.2.2.2.2.1; omega)), if_neg z]
theorem no_here1 {lo : Nat} {tst : Bool} (h91 : tkF B n p ≠ 2091) (h5 : pa ≤ 50) (hn : 50 ≤ pa ∨ (tkF B n p ≠ 3008 ∧ tkF B n p ≠ 3017 ∧ leO (tkF B n p) = none)) : MNo B n 1 v1 1 lo p pa d p tst := by
  intro K L len f hf hc ht _
  have key : ∃ f', q_Mo_readPart f = some (3, f') ∧ PF 1 p f' ∧ Un sPm f f' := by
    by_cases h8 : tkF B n p = 3008 ∨ tkF B n p = 3017
    · rw [part_m1a hf hc h8]
      exact p53_no1 hf 1 (Or.inr (by rcases hn with z | z; exact z; omega)) h5 _ _ _
    · have e := part_m1 hf hc h91 (by omega) (by omega)
      cases q : leO (tkF B n p) with
      | none =>
        rw [q] at e
        obtain ⟨v, a, b, e⟩ := e
        rw [e]
        exact p53_no1 hf 0 (Or.inl rfl) h5 v a b
      | some x =>
        rw [q] at e
        obtain ⟨v, -, e⟩ := e
        rw [e]
        exact p53_no1 hf 1 (Or.inr (by rcases hn with z | z; exact z; rw [q] at z; exact absurd z.2.2 (by simp))) h5 v _ _
  obtain ⟨f', e1, e2, e3⟩ := key
  refine ⟨2, f', by omega, fun F => ?_, e2, e3⟩
  rw [show F + 2 = F + 1 + 1 from rfl, lp_s K (F + 1) hf.2.2.2.1 1 (by omega), if_neg (by omega), if_pos rfl, e1, bnd_s, lp_f K F e2.1]
theorem ia_249 : iaLen 249 = 38 := by decide
theorem part_j1 {rs : Int32 → hG → hO Int32} (hd : d ≤ 8) (hrs : d < 8 → ∀ (p sz pa : Nat) (g : hG), PC B n t 1 p sz pa g → JR B n t 1 v1 1 3 5 p pa (d + 1) sz false noOp g (rs (nI (d + 1)) g)) (h : PC B n t 1 p sz pa g) : JR B n t 1 v1 1 3 7 p pa d sz false (fun _ => True) g (q_Rd_part rs (nI d) g) := by
  have c4 := h.c4
  have t5 := tk_5 h.2.2.1 p
  have hh := ht_ne h.2.2.2.1
  have h5 : pa ≤ 50 := h.2.2.2.2.2.2.2.2.2.1
  have sl : sz ≤ 2 + cnt (stB B) p := h.2.2.2.2.2.2.2.2.2.2
  by_cases h91 : tkF B n p = 2091
  · obtain ⟨hp, hs⟩ := tk_lt h.2.1 (by omega)
    have kn := (tk_n hp hs).2.1
    by_cases hd8 : d < 8
    · have ha := h.adv hp hs
      obtain ⟨b, g2, p2, sz2, pa2, x1, x2, x3, x4, x5, x6, x7, x8⟩ := hrs hd8 _ _ _ _ ha
      -- the model's first step
      have open_m : ∀ (K : hG → hO Unit) (L : Pi) (len : Nat) (f : hG), PM B n 1 p pa d L len f → ∃ f1, (∀ F, q_Mo_readExpression_12L (nI v1) K (F + 1) (nI 1) f = q_Mo_readExpression_12L (nI v1) K F (nI 1) f1) ∧ PM B n 1 (nx B n p) pa (d + 1) ((32, 0) :: L) len f1 ∧ Un sPm f f1 ∧ gI f1 378 = gI f 378 ∧ gI f1 379 = gI f 379 := fun K L len f hf => by
        obtain ⟨f1, a1, a2, a3⟩ := next_p hf hp hs
        obtain ⟨j1, j2, j3, j4, j5, j6, j7, j8, j9, j10, j11, j12⟩ := id a2
        have c5 := hf.c4
        have hl : L.length < 400 := by have := hf.2.2.2.2.2.2.2.2.2.2.1; omega
        have u : Un sPm f1 (pushH L 32 0 (sI f1 367 30 (nI (d + 1)))) := (((Un.rf.sI rfl _).sI (by rfl) _).sI (by rfl) _).sI rfl _
        have r7 : ∀ k, k ≠ 29 → k ≠ 30 → gI (pushH L 32 0 (sI f1 367 30 (nI (d + 1)))) 367 k = gI f1 367 k := fun k h1 h2 => by unfold pushH; rw [rd_k h1, rd_a (by decide), rd_a (by decide), rd_k h2]
        have pl : PL ((32, 0) :: L) (pushH L 32 0 (sI f1 367 30 (nI (d + 1)))) := push_PL (j10.ex (fun i hi => ⟨rd_a (by decide), rd_a (by decide)⟩)) (by omega) (by omega)
        refine ⟨pushH L 32 0 (sI f1 367 30 (nI (d + 1))), fun F => ?_, ⟨⟨j1.1, (r7 13 (by decide) (by decide)).trans j1.2.1, fun j hj => ⟨(u.I rfl).trans (j1.2.2 j hj).1, (j1.2.2 j hj).2⟩⟩, j2.ex (fun k hk => r7 k (by omega) (by omega)) rfl, j3, (r7 19 (by decide) (by decide)).trans j4, (r7 20 (by decide) (by decide)).trans j5, (r7 23 (by decide) (by decide)).trans j6, (r7 26 (by decide) (by decide)).trans j7, by unfold pushH; rw [rd_k (by decide), rd_a (by decide), rd_a (by decide), rd_s], rd_s, pl, ?_, ?_⟩, (sNx_sPm a3).tr u, ?_, ?_⟩
        · rw [lp_s K F hf.2.2.2.1 1 (by omega), if_neg (by omega), if_pos rfl]
          have e : q_Mo_readPart f = some (1, pushH L 32 0 (sI f1 367 30 (nI (d + 1)))) := by
            unfold q_Mo_readPart q_Mo_openBracket q_Mo_openBracket_8
            rw [show q_Mo_isSign 91 f = _ from sign_p hf (s := 91) (by omega), bnd_s, bI_t (by omega), if_neg (by decide), hf.2.2.2.2.2.2.2.1, if_neg (show ¬ (8 : Int32) ≤ nI d from nI_ge (a := d) (b := 8) hd8 (by decide)), must_1 hf, a1, bnd_s, if_pos j4, wr_e, j8, nI_1, show (32 : Int32) = nI 32 from rfl, show (0 : Int32) = nI 0 from rfl, push_m (f := sI f1 367 30 (nI (d + 1))) ((rd_k (by decide)).trans j9) hl 32 0, bnd_s, bnd_s]
          rw [e, bnd_s]
          rfl
        · show L.length + 1 ≤ _
          have := hf.2.2.2.2.2.2.2.2.2.2.1
          omega
        · show len + ((if 32 < 29 then 1 else 0) + wt L) ≤ _
          rw [if_neg (by omega)]; omega
        · unfold pushH
          rw [gI_up0 _ _ _ (by decide), gI_up0 _ _ _ (by decide), gI_up0 _ _ _ (by decide), gI_up0 _ _ _ (by decide)]
          exact funext (fun i => a3.I rfl)
        · unfold pushH
          rw [gI_up0 _ _ _ (by decide), gI_up0 _ _ _ (by decide), gI_up0 _ _ _ (by decide), gI_up0 _ _ _ (by decide)]
          exact funext (fun i => a3.I rfl)
      have cl : q_Rd_part rs (nI d) g = bnd (rs (nI (d + 1)) (adv B n p g)) fun r56 g54 => if r56 = (0 : Int32) then (some ((0 : Int32), g54)) else (bnd (q_Rd_took (2093 : Int32) g54) fun r60 g58 => if r60 = (0 : Int32) then (some ((0 : Int32), g58)) else (some ((1 : Int32), g58))) := by
        unfold q_Rd_part
        rw [tok_c h, bnd_s, h91, if_pos (show nI 2091 = (2091 : Int32) from rfl), if_pos (show nI d < (8 : Int32) from nI_lt' (b := 8) hd8 (by omega)), goOn_c h hp hs, bnd_s, nI_1]
      cases b with
      | false =>
        refine ⟨false, g2, p2, sz2, pa2, ?_, un_adv.tr x2, x3, by omega, by omega, x6, fun q => (by cases q), fun _ => ?_⟩
        · rw [cl, x1, bnd_s, bI_f Bool.false_ne_true, if_pos rfl]
        · intro K L len f hf hc ht _
          obtain ⟨f1, e1, h1, u1, -, -⟩ := open_m K L len f hf
          obtain ⟨s3, f3, b3, e3, h3, u3⟩ := x8 rfl K ((32, 0) :: L) len f1 h1 (hc.un u1) (by show bd 32 < 5; decide) (fun q => (by cases q))
          refine ⟨1 + s3, f3, by omega, fun F => ?_, h3, u1.tr u3⟩
          rw [show F + (1 + s3) = F + s3 + 1 by omega, e1]
          exact e3 F
      | true =>
        obtain ⟨y1, y2, y3, den, k, y4, y5, y6, y7, y8⟩ := x7 rfl
        have tk2 := took_c x3 (v := 2093) (by omega)
        by_cases h93 : tkF B n p2 = 2093
        · obtain ⟨hp2, hs2⟩ := tk_lt x3.2.1 (by omega)
          have kn2 := (tk_n hp2 hs2).2.1
          rw [if_pos h93] at tk2
          have ha2 := x3.adv hp2 hs2
          have tt := ht_ne h.2.2.2.1
          refine ⟨true, adv B n p2 g2, nx B n p2, sz2, pa2, ?_, (un_adv.tr x2).tr un_adv, ha2, by omega, by omega, x6, fun _ => ⟨by omega, trivial, fun j hj => ?_, den, k, y4.ex (fun j a b => rd_a tt.2.1), y5, y6, y7, ?_⟩, fun q => (by cases q)⟩
          · rw [cl, x1, bnd_s, bI_t rfl, if_neg (by decide), show q_Rd_took (2093 : Int32) g2 = _ from tk2, bnd_s, if_neg (by decide)]
          · exact (rd_a tt.2.1).trans ((y3 j hj).trans (rd_a tt.2.1))
          · intro K L len f hf hc ht _
            obtain ⟨f1, e1, h1, u1, o1, w1⟩ := open_m K L len f hf
            obtain ⟨s3, f3, pe3, l3, b3, e3, h3, u3, g3, a3, f3', z3⟩ := y8 K ((32, 0) :: L) len f1 h1 (hc.un u1) (by show bd 32 < 5; decide) (fun q => (by cases q))
            obtain ⟨f4, m1, m2, m3⟩ := next_p h3 hp2 hs2
            obtain ⟨f5, q1, q2, q3, q4, q5⟩ := settle_p m2 (lo := 5) (by omega) (by omega) (fun x hx => (g3 x hx).1) (by show bd 32 < 5; decide)
            have s4 : gI f4 378 = gI f3 378 ∧ gI f4 379 = gI f3 379 := ⟨funext (fun i => m3.I rfl), funext (fun i => m3.I rfl)⟩
            rw [s4.1, s4.2] at q2 q3 q4
            rw [o1, w1] at z3
            generalize hC : sfF pe3 (gI f3 378, gI f3 379, l3) = C at *
            obtain ⟨j1, j2, j3, j4, j5, j6, j7, j8, j9, j10, j11, j12⟩ := id q2
            have u6 : Un sPm f5 (sI (sI f5 367 29 (nI L.length)) 367 30 (nI d)) := (Un.rf.sI rfl _).sI rfl _
            have r7 : ∀ k, k ≠ 29 → k ≠ 30 → gI (sI (sI f5 367 29 (nI L.length)) 367 30 (nI d)) 367 k = gI f5 367 k := fun k h1 h2 => by rw [rd_k h2, rd_k h1]
            have iz : ib (pe3 ++ (32, 0) :: L) = 32 := ib_32 L pe3 (fun x hx => (g3 x hx).1)
            refine ⟨1 + s3 + 1, sI (sI f5 367 29 (nI L.length)) 367 30 (nI d), [], C.2.2, by omega, fun F => ?_, ?_, (((u1.tr u3).tr (sNx_sPm m3)).tr (sSt_sPm q5)).tr u6, fun x hx => (by cases hx), ?_⟩
            · rw [show F + (1 + s3 + 1) = F + 1 + s3 + 1 by omega, e1, e3, lp_s K F h3.2.2.2.1 3 (by omega), if_neg (by omega), if_neg (by omega), if_pos rfl, bs_no h3 (by omega)]
              have e : q_Mo_behindSum_31 (nI v1) (-1) f3 = some (3, sI (sI f5 367 29 (nI L.length)) 367 30 (nI d)) := by
                unfold q_Mo_behindSum_31
                have e29 : nI ((32, 0) :: L : Pi).length - (1 : Int32) = nI L.length := nI_sub (a := L.length + 1) (b := 1) (by omega)
                have e30 : nI (d + 1) - (1 : Int32) = nI d := nI_sub (b := 1) (by omega)
                rw [if_pos rfl, inner_32 h3.2.2.2.2.2.2.2.2.2.1 h3.2.2.2.2.2.2.2.2.1 h3.ln iz, bnd_s, if_pos rfl, show q_Mo_isSign 93 f3 = _ from sign_p h3 (s := 93) (by omega), bnd_s, bI_t (by omega), must_1 h3, m1, bnd_s, if_pos m2.2.2.2.1, show (5 : Int32) = nI 5 from rfl, q1, bnd_s, wr_e, wr_e, j9, e29, rd_k (by decide), j8, e30]
              rw [e, bnd_s]
              rfl
            · exact ⟨⟨j1.1, (r7 13 (by decide) (by decide)).trans j1.2.1, fun j hj => ⟨(u6.I rfl).trans (j1.2.2 j hj).1, (j1.2.2 j hj).2⟩⟩, j2.ex (fun k hk => r7 k (by omega) (by omega)) rfl, j3, (r7 19 (by decide) (by decide)).trans j4, (r7 20 (by decide) (by decide)).trans j5, (r7 23 (by decide) (by decide)).trans j6, (r7 26 (by decide) (by decide)).trans j7, rd_s, (rd_k (by decide)).trans rd_s, j10.2.2.2.2.ex (fun i hi => ⟨by rw [rd_a (by decide), rd_a (by decide)], by rw [rd_a (by decide), rd_a (by decide)]⟩), by have : L.length + 1 ≤ _ := j11; show L.length ≤ _; omega, by have : C.2.2 + ((if 32 < 29 then 1 else 0) + wt L) ≤ _ := j12; rw [if_neg (by omega)] at this; show C.2.2 + wt L ≤ _; omega⟩
            · have o6 : gI (sI (sI f5 367 29 (nI L.length)) 367 30 (nI d)) 378 = C.1 := by rw [gI_up0 _ _ _ (by decide), gI_up0 _ _ _ (by decide), q3]
              have w6 : gI (sI (sI f5 367 29 (nI L.length)) 367 30 (nI d)) 379 = C.2.1 := by rw [gI_up0 _ _ _ (by decide), gI_up0 _ _ _ (by decide), q4]
              rw [o6, w6]
              exact ⟨a3, f3', z3⟩
        · rw [if_neg h93] at tk2
          refine ⟨false, g2, p2, sz2, pa2, ?_, un_adv.tr x2, x3, by omega, by omega, x6, fun q => (by cases q), fun _ => ?_⟩
          · rw [cl, x1, bnd_s, bI_t rfl, if_neg (by decide), show q_Rd_took (2093 : Int32) g2 = _ from tk2, bnd_s, if_pos rfl, bI_f Bool.false_ne_true]
          · intro K L len f hf hc ht _
            obtain ⟨f1, e1, h1, u1, o1, w1⟩ := open_m K L len f hf
            obtain ⟨s3, f3, pe3, l3, b3, e3, h3, u3, g3, a3, f3', z3⟩ := y8 K ((32, 0) :: L) len f1 h1 (hc.un u1) (by show bd 32 < 5; decide) (fun q => (by cases q))
            obtain ⟨f4, m1, m2, m3⟩ := must_0 h3
            refine ⟨1 + s3 + 2, f4, by omega, fun F => ?_, m2, (u1.tr u3).tr m3⟩
            rw [show F + (1 + s3 + 2) = F + 1 + 1 + s3 + 1 by omega, e1, e3, lp_s K (F + 1) h3.2.2.2.1 3 (by omega), if_neg (by omega), if_neg (by omega), if_pos rfl, bs_no h3 y2]
            have e : q_Mo_behindSum_31 (nI v1) (-1) f3 = some (3, f4) := by
              unfold q_Mo_behindSum_31
              rw [if_pos rfl, inner_32 h3.2.2.2.2.2.2.2.2.2.1 h3.2.2.2.2.2.2.2.2.1 h3.ln (ib_32 L pe3 (fun x hx => (g3 x hx).1)), bnd_s, if_pos rfl, show q_Mo_isSign 93 f3 = _ from sign_p h3 (s := 93) (by omega), bnd_s, bI_f (by omega), m1, bnd_s, if_neg (by rw [m2.1]; decide)]
            rw [e, bnd_s, lp_f K F m2.1]
    · have c : q_Rd_part rs (nI d) g = some (0, g) := by
        unfold q_Rd_part
        rw [tok_c h, bnd_s, h91, if_pos (show nI 2091 = (2091 : Int32) from rfl), if_neg (show ¬ nI d < (8 : Int32) from nI_ngt (a := 8) (by omega) (by omega))]
      refine ⟨false, g, p, sz, pa, c, Un.rf, h, Nat.le_refl _, by omega, Nat.le_refl _, fun q => (by cases q), fun _ => ?_⟩
      intro K L len f hf hc ht _
      obtain ⟨f4, m1, m2, m3⟩ := must_0 hf
      refine ⟨2, f4, by omega, fun F => ?_, m2, m3⟩
      rw [show F + 2 = F + 1 + 1 from rfl, lp_s K (F + 1) hf.2.2.2.1 1 (by omega), if_neg (by omega), if_pos rfl]
      have e : q_Mo_readPart f = some (1, f4) := by
        unfold q_Mo_readPart q_Mo_openBracket q_Mo_openBracket_8
        rw [show q_Mo_isSign 91 f = _ from sign_p hf (s := 91) (by omega), bnd_s, bI_t (by omega), if_neg (by decide), hf.2.2.2.2.2.2.2.1, if_pos (show (8 : Int32) ≤ nI d from nI_le (a := 8) (by omega) (by omega)), m1, bnd_s, if_neg (by rw [m2.1]; decide), bnd_s]
      rw [e, bnd_s, lp_f K F m2.1]
  · have cl := part_c1 rs h h91 (nI d)
    have hg1 : PC B n t 1 p sz (min 50 (pa + 1)) (sI g 239 3 (nI (min 50 (pa + 1)))) := h.ex (Un.rf.sI rfl _) h.2.1 rd_s ((rd_k (by decide)).trans h.2.2.2.2.2.2.2.1) ((rd_a hh.1).trans h.2.2.2.2.2.2.2.2.1) (by omega) sl
    by_cases z : pa < 50
    · rw [if_pos z] at cl
      have e50 : min 50 (pa + 1) = pa + 1 := by omega
      rw [e50] at hg1
      have u0 : Un (sRd t) g (sI g 239 3 (nI (pa + 1))) := Un.rf.sI rfl _
      have c0 : ∀ j, gI (sI g 239 3 (nI (pa + 1))) (t + 1) j = gI g (t + 1) j := fun j => rd_a hh.2.1
      generalize hgg : sI g 239 3 (nI (pa + 1)) = g1 at *
      by_cases h8 : tkF B n p = 3008 ∨ tkF B n p = 3017
      · rw [if_pos h8] at cl
        obtain ⟨hp, hs⟩ := tk_lt h.2.1 (by omega)
        have kn := (tk_n hp hs).2.1
        have ha := hg1.adv hp hs
        have h24 : ahH (tkF B n p) ≤ 24 ∧ ahB (tkF B n p) ≤ 13 := by unfold ahH ahB; split <;> omega
        by_cases w : tkF B n (nx B n p) ≤ ahH (tkF B n p)
        · rw [if_pos w] at cl
          obtain ⟨hp2, hs2⟩ := tk_lt ha.2.1 (by omega)
          have kn2 := (tk_n hp2 hs2).2.1
          obtain ⟨pc, up, rc⟩ := pc_wr ha hp2 hs2 (16 * (ahB (tkF B n p) + tkF B n (nx B n p)) + 1)
          have ca : ∀ j, gI (adv B n p g1) (t + 1) j = gI g (t + 1) j := fun j => (rd_a hh.2.1).trans (c0 j)
          have hk : ahB (tkF B n p) + tkF B n (nx B n p) < 38 := by
            rcases ah_v h8 with ⟨v1, v2, v3⟩ | ⟨v1, v2, v3⟩ <;> rw [v2] <;> rw [v3] at w <;> omega
          refine ⟨true, _, nx B n (nx B n p), sz + 1, pa + 1, by rw [cl, bI_t rfl], (u0.tr un_adv).tr up, pc, by omega, by omega, by omega, fun _ => ⟨by omega, trivial, fun j hj => by rw [rc, if_neg (by omega)]; exact ca j, fun f => some (f (ahB (tkF B n p) + tkF B n (nx B n p))), 1, frc_fact (by decide) (by omega) (show ahB (tkF B n p) + tkF B n (nx B n p) < iaLen 249 by rw [ia_249]; exact hk) (by decide) (by rw [rc, if_pos rfl]), by omega, fun q => (by cases q), gd_fact (show _ < 38 from hk), ?_⟩, fun q => (by cases q)⟩
          intro K L len f hf hcc ht _
          obtain ⟨f', e1, e2, e3, -⟩ := p53_at hf hp hs z h8
          obtain ⟨k1, k2, k3⟩ := e3 w
          refine ⟨1, f', [], len + 1, by omega, fun F => ?_, k1, e2, fun x hx => (by cases hx), ?_⟩
          · rw [lp_s K F hf.2.2.2.1 1 (by omega), if_neg (by omega), if_pos rfl, part_m1a hf hcc h8, e1, bnd_s]
            rfl
          · show len < len + 1 ∧ FrM 1 (gI f' 378) (gI f' 379) len (len + 1) _ ∧ ∀ j, j < len → gI f' 378 j = gI f 378 j ∧ gI f' 379 j = gI f 379 j
            rw [k2, k3]
            refine ⟨by omega, frm_fact (k := ahB (tkF B n p) + tkF B n (nx B n p)) (Or.inr ⟨rfl, hk⟩) ?_ (fun _ _ => ?_), fun j hj => ⟨upR_n _ _ (by omega), upR_n _ _ (by omega)⟩⟩
            · rw [upR_s]
              rcases ah_v h8 with ⟨v1, v2, v3⟩ | ⟨v1, v2, v3⟩
              · rw [v1, v2]; rw [v3] at w; unfold fcO; rw [if_neg (by omega), if_neg (by omega), if_pos (by omega)]
              · rw [v1, v2]; rw [v3] at w; unfold fcO; rw [if_neg (by omega), if_neg (by omega), if_neg (by omega)]
            · rw [upR_s]
              rcases ah_v h8 with ⟨v1, v2, v3⟩ | ⟨v1, v2, v3⟩
              · rw [v2]; rw [v3] at w; unfold fcW; rw [if_neg (by omega), if_neg (by omega), if_pos (by omega)]; congr 1; omega
              · rw [v2]; rw [v3] at w; unfold fcW; rw [if_neg (by omega), if_neg (by omega), if_neg (by omega)]; congr 1; omega
        · rw [if_neg w] at cl
          refine ⟨false, _, nx B n p, sz, pa + 1, by rw [cl, bI_f Bool.false_ne_true], u0.tr un_adv, ha, by omega, by omega, by omega, fun q => (by cases q), fun _ => ?_⟩
          intro K L len f hf hcc ht _
          obtain ⟨f', e1, e2, -, e3⟩ := p53_at hf hp hs z h8
          have e4 := e3 w
          refine ⟨2, f', by omega, fun F => ?_, e4, e2⟩
          rw [show F + 2 = F + 1 + 1 from rfl, lp_s K (F + 1) hf.2.2.2.1 1 (by omega), if_neg (by omega), if_pos rfl, part_m1a hf hcc h8, e1, bnd_s, lp_f K F e4.1]
      · rw [if_neg h8] at cl
        cases q : leO (tkF B n p) with
        | none =>
          rw [q] at cl
          exact ⟨false, _, p, sz, pa + 1, by rw [cl, bI_f Bool.false_ne_true], u0, hg1, Nat.le_refl _, by omega, by omega, fun q => (by cases q), fun _ => no_here1 h91 h5 (Or.inr ⟨by omega, by omega, q⟩)⟩
        | some x =>
          rw [q] at cl
          replace cl : q_Rd_part rs (nI d) g = some ((1 : Int32), adv B n p (addH t sz (if x.1 = 0 then 16 * x.2 else 16 * (x.1 - 1) + 1) g1)) := cl
          have hx : tkF B n p ≠ 4000 ∧ x.2 < 1024 ∧ ((x.1 = 0) ∨ (1 ≤ x.1 ∧ x.1 ≤ 5 ∧ x.2 = 0)) := by
            unfold leO at q
            by_cases a1 : tkF B n p ≤ 1000
            · rw [if_pos a1] at q; injection q with q; rw [← q]; exact ⟨by omega, by show tkF B n p < 1024; omega, Or.inl rfl⟩
            · rw [if_neg a1] at q
              by_cases a2 : tkF B n p = 3019
              · rw [if_pos a2] at q; injection q with q; rw [← q]; exact ⟨by omega, by show 0 < 1024; omega, Or.inr ⟨by show 1 ≤ 1; omega, by show 1 ≤ 5; omega, rfl⟩⟩
              · rw [if_neg a2] at q
                by_cases a3 : 3022 ≤ tkF B n p ∧ tkF B n p ≤ 3025
                · rw [if_pos a3] at q; injection q with q; rw [← q]; exact ⟨by omega, by show 0 < 1024; omega, Or.inr ⟨by show 1 ≤ tkF B n p - 3020; omega, by show tkF B n p - 3020 ≤ 5; omega, rfl⟩⟩
                · rw [if_neg a3] at q; cases q
          obtain ⟨hp, hs⟩ := tk_lt h.2.1 hx.1
          have kn := (tk_n hp hs).2.1
          generalize hc : (if x.1 = 0 then 16 * x.2 else 16 * (x.1 - 1) + 1) = c at *
          obtain ⟨pc, up, rc⟩ := pc_wr hg1 hp hs c
          have mok : ∀ den : Den, (∀ (o w : Nat → Int32) (len : Nat), o len = nI x.1 → w len = nI x.2 → FrM 1 o w len (len + 1) den) → MOk B n 1 v1 1 3 7 p pa d (nx B n p) (pa + 1) false den := fun den hden => by
            intro K L len f hf hcc ht _
            have e := part_m1 hf hcc h91 (by omega) (by omega)
            rw [q] at e
            obtain ⟨v, v6, e⟩ := e
            obtain ⟨f', e1, e2, e3, e4, e5⟩ := p53_ok1 hf hp hs z v (nI x.1) (nI x.2) v6
            refine ⟨1, f', [], len + 1, by omega, fun F => ?_, e2, e3, fun x hx => (by cases hx), ?_⟩
            · rw [lp_s K F hf.2.2.2.1 1 (by omega), if_neg (by omega), if_pos rfl, e, e1, bnd_s]
              rfl
            · show len < len + 1 ∧ FrM 1 (gI f' 378) (gI f' 379) len (len + 1) den ∧ ∀ j, j < len → gI f' 378 j = gI f 378 j ∧ gI f' 379 j = gI f 379 j
              rw [e4, e5]
              exact ⟨by omega, hden _ _ len (upR_s _ _ _) (upR_s _ _ _), fun j hj => ⟨upR_n _ _ (by omega), upR_n _ _ (by omega)⟩⟩
          rcases hx.2.2 with x0 | ⟨x1, x7, x2⟩
          · rw [if_pos x0] at hc
            refine ⟨true, _, nx B n p, sz + 1, pa + 1, by rw [cl, bI_t rfl], u0.tr up, pc, by omega, by omega, by omega, fun _ => ⟨by omega, trivial, fun j hj => by rw [rc, if_neg (by omega)]; exact c0 j, fun _ => some (nI x.2), 1, frc_num _ hx.2.1 (by rw [rc, if_pos rfl, ← hc]), by omega, fun q => (by cases q), gd_num _ (by omega), mok _ (fun o w len ho hw => frm_num 1 (by rw [ho, x0]; rfl) hw)⟩, fun q => (by cases q)⟩
          · rw [if_neg (by omega)] at hc
            refine ⟨true, _, nx B n p, sz + 1, pa + 1, by rw [cl, bI_t rfl], u0.tr up, pc, by omega, by omega, by omega, fun _ => ⟨by omega, trivial, fun j hj => by rw [rc, if_neg (by omega)]; exact c0 j, fun f => some (f (x.1 - 1)), 1, frc_fact (m := x.1 - 1) (by decide) (by omega) (show x.1 - 1 < iaLen 249 by rw [ia_249]; omega) (by decide) (by rw [rc, if_pos rfl, ← hc]), by omega, fun q => (by cases q), gd_fact (show x.1 - 1 < 38 by omega), mok _ (fun o w len ho hw => frm_fact (k := x.1 - 1) (Or.inr ⟨rfl, by omega⟩) (by rw [ho]; unfold fcO; rw [if_neg (by omega), if_pos (by omega), show x.1 - 1 + 1 = x.1 by omega]) (fun _ q => (by omega)))⟩, fun q => (by cases q)⟩
    · rw [if_neg z] at cl
      exact ⟨false, g, p, sz, pa, by rw [cl, bI_f Bool.false_ne_true], Un.rf, h, Nat.le_refl _, by omega, Nat.le_refl _, fun q => (by cases q), fun _ => no_here1 h91 h5 (Or.inl (by omega))⟩
/-- sums of orders at every depth -/
theorem sum_z1 : ∀ (m d : Nat), 9 ≤ d + m → d ≤ 8 → ∀ (p sz pa : Nat) (g : hG), PC B n t 1 p sz pa g → JR B n t 1 v1 1 3 5 p pa d sz false noOp g (z_Rd_sum m (nI d) g)
  | 0, d, h1, h2, _, _, _, _, _ => by omega
  | m + 1, d, h1, h2, p, sz, pa, g, h => sum_j (by decide) (fun p sz pa g h => part_j1 h2 (fun hd p sz pa g h => sum_z1 m (d + 1) (by omega) (by omega) p sz pa g h) h) h
theorem comp_j1 (h : PC B n t 1 p sz pa g) (hd : d ≤ 8) (ha : tkF B n p ≠ 3006 ∧ tkF B n p ≠ 2040) : JRT B n t 1 4 4 p pa d sz (fun _ => True) g (q_Rd_comparison (nI d) g) := by
  obtain ⟨b, g1, p1, sz1, pa1, x1, x2, x3, x4, x5, x6, x7, x8⟩ := sum_z1 (v1 := 1) FR d (by show 9 ≤ d + 10; omega) hd p sz pa g h
  unfold q_Rd_comparison
  rw [x1, bnd_s]
  have sl : sz ≤ 2 + cnt (stB B) p := h.2.2.2.2.2.2.2.2.2.2
  cases b with
  | false =>
    rw [bI_f Bool.false_ne_true, if_pos rfl]
    exact ⟨false, g1, p1, sz1, pa1, by rw [bI_f Bool.false_ne_true], x2, x3, x4, x5, x6, fun q => (by cases q), fun _ => MNoT_0 ha (x8 rfl)⟩
  | true =>
    rw [bI_t rfl, if_neg (by decide)]
    obtain ⟨y1, y2, y3, den, k, y4, y5, y6, y7, y8⟩ := x7 rfl
    have tk := fun (v : Nat) (hv : v < 4000) => took_c x3 hv
    have go : ∀ s : Nat, 7 ≤ s ∧ s ≤ 9 → tkF B n p1 = cmS s → JRT B n t 1 4 4 p pa d sz (fun _ => True) g (q_Rd_comparison_25 (nI d) (nI s) (adv B n p1 g1)) := fun s hs hq => by
      have h4 : tkF B n p1 ≠ 4000 := by
        rw [hq]; unfold cmS
        split; omega; split; omega; omega
      have hp := tk_lt x3.2.1 h4
      have kn := (tk_n hp.1 hp.2).2.1
      have ha1 := x3.adv hp.1 hp.2
      have tt := ht_ne h.2.2.2.1
      obtain ⟨b, g2, p2, sz2, pa2, z1, z2, z3, z4, z5, z6, z7, z8⟩ := sum_z1 (v1 := 1) FR d (by show 9 ≤ d + 10; omega) hd _ _ _ _ ha1
      unfold q_Rd_comparison_25
      rw [if_neg (n_m1 (by omega)), z1, bnd_s]
      cases b with
      | false =>
        rw [bI_f Bool.false_ne_true, if_pos rfl]
        exact ⟨false, g2, p2, sz2, pa2, by rw [bI_f Bool.false_ne_true], (x2.tr un_adv).tr z2, z3, by omega, by omega, by omega, fun q => (by cases q), fun _ => MNoT_2 hs ha y8 hq x4 hp (z8 rfl) z4⟩
      | true =>
        obtain ⟨w1, w2, w3, den2, k2, w4, w5, w6, w7, w8⟩ := z7 rfl
        have sl1 : sz1 ≤ 2 + cnt (stB B) p1 := x3.2.2.2.2.2.2.2.2.2.2
        obtain ⟨a1, a2, a3⟩ := add_j z3 (by omega) (s := s) (by omega)
        rw [bI_t rfl, if_neg (by decide), z3.2.2.2.2.1, gp_p h.2.2.2.1.1, show q_Text_add t (nI s) (0 : Int32) g2 = _ from a1, bnd_s]
        have s4 := y4.1
        have s5 := w4.1
        have e0 : ∀ j, gI (adv B n p1 g1) (t + 1) j = gI g1 (t + 1) j := fun j => rd_a tt.2.1
        refine ⟨true, addH t sz2 s g2, p2, sz2 + 1, pa2, by rw [bI_t rfl], ((x2.tr un_adv).tr z2).tr un_add, a2, by omega, by omega, by omega, fun _ => ⟨by omega, trivial, fun j hj => ?_, binD s den den2, k + k2, ?_, by omega, t01_bin hs _ _, gd_bin y7 w7, MOkT_cmp hs ha y8 hq x4 hp w8 z4 w2⟩, fun q => (by cases q)⟩
        · rw [a3, if_neg (by omega), w3 j (by omega), e0]
          exact y3 j hj
        · refine frc_bin (by decide) (b := sz1) (c := sz2) (y4.ex (fun j a b => ?_)) (w4.ex (fun j a b => ?_)) ⟨by omega, hs.2⟩ (by rw [a3, if_pos rfl])
          · rw [a3, if_neg (by omega), w3 j b, e0]
          · rw [a3, if_neg (by omega)]
    rw [show q_Rd_took (2060 : Int32) g1 = _ from tk 2060 (by omega)]
    by_cases z4 : tkF B n p1 = 2060
    · rw [if_pos z4, bnd_s, if_neg (by decide)]
      exact go 7 (by omega) z4
    · rw [if_neg z4, bnd_s, if_pos rfl, show q_Rd_took (2062 : Int32) g1 = _ from tk 2062 (by omega)]
      by_cases z5 : tkF B n p1 = 2062
      · rw [if_pos z5, bnd_s, if_neg (by decide)]
        exact go 8 (by omega) z5
      · rw [if_neg z5, bnd_s, if_pos rfl, show q_Rd_took (2061 : Int32) g1 = _ from tk 2061 (by omega)]
        by_cases z6 : tkF B n p1 = 2061
        · rw [if_pos z6, bnd_s, if_neg (by decide)]
          exact go 9 (by omega) z6
        · rw [if_neg z6, bnd_s, if_pos rfl]
          unfold q_Rd_comparison_25
          rw [if_pos rfl]
          exact ⟨false, g1, p1, sz1, pa1, by rw [bI_f Bool.false_ne_true], x2, x3, x4, x5, x6, fun q => (by cases q), fun _ => MNoT_1 ha y8 y2 ⟨z4, z5, z6⟩⟩
/-- tests of orders at every depth -/
theorem test_z1 : ∀ (m d : Nat), 9 ≤ d + m → d ≤ 8 → ∀ (p sz pa : Nat) (g : hG), PC B n t 1 p sz pa g → JRT B n t 1 1 1 p pa d sz noAO g (z_Rd_test m (nI d) g)
  | 0, d, h1, h2, _, _, _, _, _ => by omega
  | m + 1, d, h1, h2, p, sz, pa, g, h => test_j (by decide) (fun p sz pa g h => plain_j (fun p sz pa g h hnn => by
      by_cases z : tkF B n p = 2040
      · rw [if_pos z]
        exact (brack_j h2 (fun hd p sz pa g h => test_z1 m (d + 1) (by omega) (by omega) p sz pa g h) h z).mono (by omega) (by omega) (fun _ q => q)
      · rw [if_neg z]
        exact comp_j1 h h2 ⟨hnn, z⟩) h) h
end PQ1
