/-! orders: one order, once, over two heaps -/
section ON
variable {g f : hG} {i sz len d : Nat} {hd : Nat × Nat} {te : Den} {su : Den × Den} {la : Int32}
/-- what orders ask -/
def fcO2 (r : Nat → Int32) (done latest : Int32) : Nat → Int32 := fun k => if k = 0 then r 0 else if k = 1 then done else if k = 2 then latest else if k = 3 then hmF (fun l => r (28 + l)) 0 else if k = 4 then hmF (fun l => r (28 + l)) 2 else if k < 13 then r (36 + (k - 5)) else r (3 + (k - 13))
def s249 (a _k : Nat) : Bool := a == 249
theorem fill_o {r : Nat → Int32} (h : MomR g 2 r) (done latest : Int32) : ∃ g', q_MP_fillOrderFacts done latest g = some ((), g') ∧ (∀ k, k < 38 → gI g' 249 k = fcO2 r done latest k) ∧ Un s249 g g' := by
  obtain ⟨h0, h1, h2, h3, h4⟩ := id h
  have hs : ∀ (ga : hG), (∀ a k, ¬ a = 249 → gI ga a k = gI g a k) → ∀ s, q_Mom_howManyAre 2 s ga = some (hmF (fun l => r (28 + l)) s, ga) := fun ga q s => hm_c (a := 2) (fun l hl => (q _ _ (by omega)).trans (h2 l hl)) s
  let g1 := sI (sI (sI g 249 0 (gI g 2 4)) 249 1 done) 249 2 latest
  let g2 := sI g1 249 3 (hmF (fun l => r (28 + l)) 0)
  let g3 := sI g2 249 4 (hmF (fun l => r (28 + l)) 2)
  let g4 := sSeg g3 249 5 8 (gI g3 4)
  let g5 := sSeg g4 249 13 25 (gI g4 6)
  have n1 : ∀ a k, ¬ a = 249 → gI g1 a k = gI g a k := fun a k q => by
    show gI (sI (sI (sI g 249 0 (gI g 2 4)) 249 1 done) 249 2 latest) a k = _
    rw [rd_a q, rd_a q, rd_a q]
  have n2 : ∀ a k, ¬ a = 249 → gI g2 a k = gI g a k := fun a k q => (rd_a q).trans (n1 a k q)
  have n3 : ∀ a k, ¬ a = 249 → gI g3 a k = gI g a k := fun a k q => (rd_a q).trans (n2 a k q)
  have n4 : ∀ a k, ¬ a = 249 → gI g4 a k = gI g a k := fun a k q => by
    show gI (sSeg g3 249 5 8 (gI g3 4)) a k = _
    rw [gI_sSeg, if_neg (fun z => q z.1), n3 a k q]
  refine ⟨g5, ?_, fun k hk => ?_, fun a k q => ⟨?_, rfl, rfl⟩⟩
  · unfold q_MP_fillOrderFacts
    rw [gd_L _ _ (by decide) (by decide), cl_L _ (by decide), wr_e, gd_L _ _ (by decide) (by decide), cl_L _ (by decide), wr_e, gd_L _ _ (by decide) (by decide), cl_L _ (by decide), wr_e]
    show bnd (q_Mom_howManyAre 2 0 g1) _ = _
    rw [hs g1 n1, bnd_s, gd_L _ _ (by decide) (by decide), cl_L _ (by decide), wr_e]
    show bnd (q_Mom_howManyAre 2 2 g2) _ = _
    rw [hs g2 n2, bnd_s, gd_L _ _ (by decide) (by decide), cl_L _ (by decide), wr_e, gne_p (by omega)]
    show gc 0 (nI 5) (nI 8) 8 38 (wr (sRow g3 249 (va_cpy (gI g3 4) (gI g3 249) 0 5 8)) _) = _
    rw [gc_p2 5 8 8 38 (by omega) (by omega) (by omega) (by omega), cpy_seg2, wr_e, gne_p (by omega)]
    show gc 0 (nI 13) (nI 25) 25 38 (wr (sRow g4 249 (va_cpy (gI g4 6) (gI g4 249) 0 13 25)) _) = _
    rw [gc_p2 13 25 25 38 (by omega) (by omega) (by omega) (by omega), cpy_seg2, wr_e]
  · show gI (sSeg g4 249 13 25 (gI g4 6)) 249 k = _
    unfold fcO2
    rw [gI_sSeg]
    by_cases q13 : 13 ≤ k
    · rw [if_pos ⟨rfl, q13, by omega⟩, n4 _ _ (by omega), if_neg (by omega), if_neg (by omega), if_neg (by omega), if_neg (by omega), if_neg (by omega), if_neg (by omega)]
      exact h1 _ (by omega)
    · rw [if_neg (fun z => q13 z.2.1)]
      show gI (sSeg g3 249 5 8 (gI g3 4)) 249 k = _
      rw [gI_sSeg]
      by_cases q5 : 5 ≤ k
      · rw [if_pos ⟨rfl, q5, by omega⟩, n3 _ _ (by omega), if_neg (by omega), if_neg (by omega), if_neg (by omega), if_neg (by omega), if_neg (by omega), if_pos (by omega)]
        exact h3 _ (by omega)
      · rw [if_neg (fun z => q5 z.2.1)]
        show gI (sI (sI (sI (sI (sI g 249 0 (gI g 2 4)) 249 1 done) 249 2 latest) 249 3 _) 249 4 _) 249 k = _
        have hx : k = 0 ∨ k = 1 ∨ k = 2 ∨ k = 3 ∨ k = 4 := by omega
        rcases hx with rfl | rfl | rfl | rfl | rfl
        · rw [rd_k (by omega), rd_k (by omega), rd_k (by omega), rd_k (by omega), rd_s, if_pos rfl]; exact h0
        · rw [rd_k (by omega), rd_k (by omega), rd_k (by omega), rd_s, if_neg (by omega), if_pos rfl]
        · rw [rd_k (by omega), rd_k (by omega), rd_s, if_neg (by omega), if_neg (by omega), if_pos rfl]
        · rw [rd_k (by omega), rd_s, if_neg (by omega), if_neg (by omega), if_neg (by omega), if_pos rfl]
        · rw [rd_s, if_neg (by omega), if_neg (by omega), if_neg (by omega), if_neg (by omega), if_pos rfl]
  · have q' : ¬ a = 249 := fun z => by subst z; cases q
    show gI (sSeg g4 249 13 25 (gI g4 6)) a k = _
    rw [gI_sSeg, if_neg (fun z => q' z.1), n4 a k q']
theorem nI_nb {n : Nat} (h : n < 2 ^ 31) : nI n ≠ BRK := fun q => by
  have h1 := nI_pos' (n := n) h
  rw [q] at h1
  exact absurd h1 (by decide)
theorem fc_nb {r : Nat → Int32} (w : WFm r) (hd : d < 1000) (hla : la ≠ BRK) : ∀ k, k < 38 → fcO2 r (nI d) la k ≠ BRK := fun k hk => by
  obtain ⟨⟨n, hn, e⟩, w2, w3⟩ := w
  unfold fcO2
  by_cases q0 : k = 0
  · rw [if_pos q0, e]; exact nI_nb (by omega)
  · rw [if_neg q0]
    by_cases q1 : k = 1
    · rw [if_pos q1]; exact nI_nb (by omega)
    · rw [if_neg q1]
      by_cases q2 : k = 2
      · rw [if_pos q2]; exact hla
      · rw [if_neg q2]
        by_cases q3 : k = 3
        · rw [if_pos q3]
          obtain ⟨m, hm, e⟩ := hm_n (fun l => r (28 + l)) 0
          rw [e]; exact nI_nb (by omega)
        · rw [if_neg q3]
          by_cases q4 : k = 4
          · rw [if_pos q4]
            obtain ⟨m, hm, e⟩ := hm_n (fun l => r (28 + l)) 2
            rw [e]; exact nI_nb (by omega)
          · rw [if_neg q4]
            by_cases q5 : k < 13
            · rw [if_pos q5]
              rcases w3 (k - 5) (by omega) with q | ⟨-, c, hc, e⟩
              · rw [q.2]; decide
              · rw [e]; exact nI_nb (by omega)
            · rw [if_neg q5]
              obtain ⟨c, hc, e⟩ := w2 (k - 13) (by omega)
              rw [e]; exact nI_nb (by omega)
/-- a row of the orders' code, the model -/
theorem frm_recko {o w : Nat → Int32} {a b : Nat} {d : Den} (h : FrM 1 o w a b d) (hb : b ≤ 400) {g : hG} {F : Nat → Int32} (b3 : gI g 367 20 = 1) (b2 : ∀ j, a ≤ j → j < b → gI g 378 j = o j ∧ gI g 379 j = w j) (bx : FXM 1 F g) : ∃ g', q_Mo_reckonAll (nI a) (nI b) g = some ((), g') ∧ Un sRk g g' ∧ match d F with
    | some v => gI g' 367 38 = 0 ∧ gJ g' 367 39 = v.toInt64
    | none => gI g' 367 38 = 1 := by
  obtain ⟨a1, h⟩ := h
  have u0 : Un sRk g (sI g 367 38 0) := Un.rf.sI rfl _
  obtain ⟨s1, g1, s1l, u1, p1, m1⟩ := h 0 b 0 (sI g 367 38 0) F (fun x34 g38 => q_Mo_reckonAll_183 x34 g38) (Nat.le_refl _) hb
    (Or.inr ⟨rfl, (rd_k (by decide)).trans b3, fun j x y => ⟨by rw [rd_a (by decide)]; exact (b2 j x y).1, by rw [rd_a (by decide)]; exact (b2 j x y).2⟩⟩)
    (bx.un u0) rd_s (by omega)
  have fin : ∀ x : Nat, x ≤ 400 → ∃ g', q_Mo_reckonAll_183 (nI x) g1 = some ((), g') ∧ Un sRk g g' ∧ gI g' 367 38 = gI g1 367 38 ∧ (0 < x → gJ g' 367 39 = gJ g1 387 0) := fun x hx => by
    unfold q_Mo_reckonAll_183 q_Mo_reckonAll_192
    by_cases z : x = 0
    · subst z
      rw [if_pos (by decide), wr_e]
      exact ⟨_, rfl, (u0.tr u1).sJ rfl _, rfl, fun q => absurd q (by omega)⟩
    · rw [if_neg (show ¬ nI x ≤ (0 : Int32) from nI_ge (a := 0) (by omega) (by omega)), gd_L _ _ (by decide) (by decide), wr_e]
      exact ⟨_, rfl, (u0.tr u1).sJ rfl _, rfl, fun _ => by rw [gJ_sJ, if_pos ⟨rfl, rfl⟩]; rfl⟩
  obtain ⟨F', hF⟩ : ∃ F', FU = F' + s1 + 1 := ⟨1000000 - 1 - s1, by have e : FU = 1000000 := rfl; omega⟩
  unfold q_Mo_reckonAll
  rw [wr_e]
  cases q1 : d F with
  | none =>
    rw [q1] at m1
    obtain ⟨m10, x, m11, m12⟩ := m1
    obtain ⟨g', e1, e2, e3, -⟩ := fin x m11
    refine ⟨g', ?_, e2, e3.trans m10⟩
    rw [hF]
    exact (m12 F').trans e1
  | some v =>
    rw [q1] at m1
    obtain ⟨m10, m11, m12⟩ := m1
    obtain ⟨g', e1, e2, e3, e4⟩ := fin 1 (by omega)
    refine ⟨g', ?_, e2, e3.trans m10, (e4 (by omega)).trans m11⟩
    rw [hF, show F' + s1 + 1 = F' + 1 + s1 by omega]
    refine (m12 (F' + 1)).trans (Eq.trans ?_ e1)
    rw [q_Mo_reckonAll_7L_s]
    unfold q_Mo_reckonAll_7
    rw [if_pos (nI_le (Nat.le_refl _) (by omega))]
def sSo (a k : Nat) : Bool := sRk a k || (a == 367 && (k == 20 || k == 54))
theorem sRk_sSo {g g' : hG} (u : Un sRk g g') : Un sSo g g' := u.mo (fun a k z => by unfold sSo at z; rw [Bool.or_eq_false_iff] at z; exact z.1)
theorem fxm_ex {F : Nat → Int32} {g g' : hG} (h : FXM 1 F g) (e1 : ∀ k, gJ g' 386 k = gJ g 386 k) (e2 : ∀ k, 7 ≤ k → k < 48 → gI g' 369 k = gI g 369 k) : FXM 1 F g' := by
  rcases h with ⟨q, -⟩ | ⟨h0, h1, h2, h3⟩
  · omega
  · exact Or.inr ⟨h0, fun j hj => (e1 _).trans (h1 j hj), fun l hl => (e2 _ (by omega) (by omega)).trans (h2 l hl), fun c hc => (e2 _ (by omega) (by omega)).trans (h3 c hc)⟩
/-- a sum of a clause, reckoned by the model -/
theorem sumof_m {k a b : Nat} {D : Den} {F : Nat → Int32} (hi : i < 12) (hk : k < 7) (hab : a < b) (hb : b ≤ 400) (e1 : gI f 397 (8 * i + k) = nI a) (e2 : gI f 397 (8 * i + k + 1) = nI b) (hD : FrM 1 (gI f 378) (gI f 379) a b D) (h54 : gI f 367 54 = 0) (hx : FXM 1 F f) : ∃ v f', q_Mo_sumOf (nI (8 * i + k)) f = some (v, f') ∧ Un sSo f f' ∧ gI f' 367 20 = 0 ∧ match D F with
    | some x => v = x ∧ gI f' 367 54 = 0
    | none => gI f' 367 54 = 1 := by
  obtain ⟨g1, a1, a2, a3⟩ := frm_recko (g := sI f 367 20 1) (F := F) hD hb rd_s (fun j _ _ => ⟨rd_a (by decide), rd_a (by decide)⟩) (fxm_ex hx (fun k => rfl) (fun k _ _ => rd_a (by decide)))
  have u0 : Un sSo f (sI f 367 20 1) := Un.rf.sI rfl _
  have h38 : gI g1 367 38 = 0 ∨ gI g1 367 38 = 1 := by
    cases q : D F with
    | none => rw [q] at a3; exact Or.inr a3
    | some v => rw [q] at a3; exact Or.inl a3.1
  have gbx : ∀ {α : Type} (Y : hO α), gb (gI g1 367 38) Y = Y := fun Y => by
    rcases h38 with z | z <;> rw [z]
    · exact gb_0 Y
    · exact gb_1 Y
  refine ⟨(gJ g1 367 39).toInt32, sI (sI g1 367 20 0) 367 54 (gI g1 367 38), ?_, ((u0.tr (sRk_sSo a2)).sI rfl _).sI rfl _, by rw [rd_k (by decide), rd_s], ?_⟩
  · unfold q_Mo_sumOf
    have ne : ¬ nI a = nI b := nI_dif (by omega) (by omega) (by omega)
    rw [if_pos h54, nI_1, gd_nI (by omega) (by omega), gd_nI (by omega) (by omega), nI_clamp (by omega), nI_clamp (by omega), e1, e2, if_neg ne, wr_e, gd_nI (by omega) (by omega), gd_nI (by omega) (by omega), rd_a (by decide), rd_a (by decide), e1, e2, a1, bnd_s, wr_e, rd_k (by decide), gbx, wr_e]
    rfl
  · cases q : D F with
    | none => rw [q] at a3; show gI (sI (sI g1 367 20 0) 367 54 (gI g1 367 38)) 367 54 = 1; rw [rd_s]; exact a3
    | some v =>
      rw [q] at a3
      refine ⟨?_, by rw [rd_s]; exact a3.1⟩
      rw [a3.2]
      exact Int32.toInt32_toInt64 v
theorem sumof_0 {k : Nat} (hi : i < 12) (hk : k < 7) (e : gI f 397 (8 * i + k) = gI f 397 (8 * i + k + 1)) : q_Mo_sumOf (nI (8 * i + k)) f = some (-1, f) := by
  unfold q_Mo_sumOf
  by_cases z : gI f 367 54 = 0
  · rw [if_pos z, nI_1, gd_nI (by omega) (by omega), gd_nI (by omega) (by omega), nI_clamp (by omega), nI_clamp (by omega), if_pos e]
  · rw [if_neg z]
theorem sumof_off {k : Nat} (e : gI f 367 54 = 1) : q_Mo_sumOf (nI (8 * i + k)) f = some (-1, f) := by
  unfold q_Mo_sumOf
  rw [if_neg (by rw [e]; decide)]
end ON
