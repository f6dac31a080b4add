/-! row -/
def RR (g f : hG) : Prop := KeptR g 1 (gI f 369) ∧ WFr (gI f 369)
def rC (a k : Nat) : Bool := a == 6 || (a == 1 && k == 1)
def rM (a k : Nat) : Bool := (a == 369 && (k == 3 || (Nat.ble 7 k && Nat.ble k 31))) || (a == 367 && k == 11)
theorem row_rr {g f : hG} (h : RR g f) {x0 x1 x2 : Nat} (h0 : x0 < 25) (h1 : x1 ≤ 9) (_ : x2 ≤ 1) : RR (sI (sI g 6 x0 (nI x1)) 1 1 (dSet (gI g 1 1) (nI x0) (nI x2))) (sI (sI f 369 (7 + x0) (nI x1)) 369 3 (dSet (gI f 369 3) (nI x0) (nI x2))) := by
  obtain ⟨⟨k1, ⟨a1, a2, a3, a4, a5, a6⟩, k3, k4⟩, w⟩ := h
  have e1 : gI g 1 1 = gI f 369 3 := a1
  have r : ∀ i, i ≠ 3 → i ≠ 7 + x0 → gI (sI (sI f 369 (7 + x0) (nI x1)) 369 3 (dSet (gI f 369 3) (nI x0) (nI x2))) 369 i = gI f 369 i := fun i z1 z2 => by rw [rd_k z1, rd_k z2]
  have rn : gI (sI (sI f 369 (7 + x0) (nI x1)) 369 3 (dSet (gI f 369 3) (nI x0) (nI x2))) 369 (7 + x0) = nI x1 := by rw [rd_k (by omega), rd_s]
  have q : ∀ x y, ¬ x = 6 → ¬ (x = 1 ∧ y = 1) → gI (sI (sI g 6 x0 (nI x1)) 1 1 (dSet (gI g 1 1) (nI x0) (nI x2))) x y = gI g x y := fun x y z1 z2 => by rw [gI_sI, if_neg z2, rd_a z1]
  refine ⟨⟨?_, ⟨?_, ?_, ?_, ?_, ?_, ?_⟩, fun k hk => ?_, k4.ex (fun j k h9 h50 => q _ _ (by omega) (by omega)) (r _ (by omega) (by omega)) (fun i hi _ => r _ (by omega) (by omega))⟩, ?_⟩
  · have m := k1.sp 4 x0 (nI x1) (Or.inr (Or.inr (Or.inr ⟨rfl, h0⟩)))
    simp only [show ¬ (4 : Nat) = 1 by decide, show ¬ (4 : Nat) = 2 by decide, show ¬ (4 : Nat) = 3 by decide, if_false] at m
    refine m.ex (fun j k hj => by rw [gI_sI, if_neg (by omega)]) (fun i hi z1 z2 => ?_)
    by_cases z : i = 3 + x0
    · subst z; rw [upR_s, show 4 + (3 + x0) = 7 + x0 by omega, rn]
    · rw [upR_n _ _ z, r _ (by omega) (by omega)]
  · rw [rd_s, rd_s, e1]
  · rw [q _ _ (by omega) (by omega), r _ (by omega) (by omega)]; exact a2
  · rw [q _ _ (by omega) (by omega), r _ (by omega) (by omega)]; exact a3
  · rw [q _ _ (by omega) (by omega), r _ (by omega) (by omega)]; exact a4
  · rw [q _ _ (by omega) (by omega), r _ (by omega) (by omega)]; exact a5
  · rw [q _ _ (by omega) (by omega), r _ (by omega) (by omega)]; exact a6
  · rw [q _ _ (by omega) (by omega), q _ _ (by omega) (by omega), r _ (by omega) (by omega), r _ (by omega) (by omega)]; exact k3 k hk
  · obtain ⟨⟨v1, v2, v3⟩, w2, w3, w4, w5, ⟨m, w6, w7, w8⟩, w9⟩ := w
    refine ⟨⟨?_, fun c hc => ?_, fun l hl => ?_⟩, ?_, ?_, ?_, ?_, ⟨m, w6, ?_, fun k hk => ?_⟩, ?_⟩
    · dsimp only; rw [r _ (by omega) (by omega)]; exact v1
    · by_cases z : c = x0
      · subst z
        refine ⟨x1, h1, ?_⟩
        dsimp only
        rw [show 4 + (3 + c) = 7 + c by omega, rn]
      · dsimp only; rw [r _ (by omega) (by omega)]; exact v2 c hc
    · dsimp only; rw [r _ (by omega) (by omega), r _ (by omega) (by omega)]; exact v3 l hl
    · rw [r _ (by omega) (by omega)]; exact w2
    · rw [r _ (by omega) (by omega)]; exact w3
    · rw [r _ (by omega) (by omega)]; exact w4
    · rw [rd_s]; exact p25_dSet w5 h0
    · rw [r _ (by omega) (by omega)]; exact w7
    · rw [r _ (by omega) (by omega), r _ (by omega) (by omega)]; exact w8 k hk
    · rw [r 1 (by omega) (by omega), r 2 (by omega) (by omega)]; exact w9
/-- three bytes, as both take them -/
theorem tell_c {g : hG} {n a : Nat} (hn : n ≤ 400) (ha : a < n) (ht : gI g 235 1 = nI n) {x : Nat → Nat} (hx : ∀ j, j < n → x j < 256 ∧ gI g 236 j = nI (x j)) : q_MP_tellCell (nI a) g = if a + 2 < n ∧ x a < 25 ∧ x (a + 1) ≤ 9 ∧ x (a + 2) ≤ 1 then some (1, sI (sI g 6 (x a) (nI (x (a + 1)))) 1 1 (dSet (gI g 1 1) (nI (x a)) (nI (x (a + 2))))) else some (0, g) := by
  unfold q_MP_tellCell q_MP_tellCell_57
  rw [ht, show nI a + (2 : Int32) = nI (a + 2) from nI_add a 2, nI_1]
  by_cases h1 : a + 2 < n
  · have b0 := hx a ha
    have b1 := hx (a + 1) (by omega)
    have b2 := hx (a + 2) h1
    rw [if_pos (nI_lt h1 (by omega)), gd_nI (by omega) (by omega), gd_nI (by omega) (by omega), gd_nI (by omega) (by omega), nI_clamp (by omega), nI_clamp (by omega), nI_clamp (by omega), isCell_c, bnd_s, b0.2, b1.2, b2.2]
    by_cases h2 : x a < 25
    · rw [bI_t (isC_of h2), if_neg (by decide)]
      by_cases h3 : x (a + 1) ≤ 9
      · rw [if_neg (show ¬ (9 : Int32) < nI (x (a + 1)) from nI_nlt (a := 9) h3 (by omega))]
        by_cases h4 : x (a + 2) ≤ 1
        · rw [if_pos (show nI (x (a + 2)) ≤ 1 from nI_le (b := 1) h4 (by omega)), if_pos (show a + 2 < n ∧ x a < 25 ∧ x (a + 1) ≤ 9 ∧ x (a + 2) ≤ 1 from ⟨h1, h2, h3, h4⟩), gd_nI h2 (by omega), wr_e, nI_clamp (by omega), setDoor_c, bnd_s, rd_a (by decide)]
          have : (if nI (x (a + 2)) = 1 then (1 : Int32) else 0) = nI (x (a + 2)) := by
            have : x (a + 2) = 0 ∨ x (a + 2) = 1 := by omega
            rcases this with e | e <;> rw [e] <;> decide
          rw [this]
        · rw [if_neg (show ¬ nI (x (a + 2)) ≤ 1 from nI_ge (a := 1) (b := x (a + 2)) (by omega) (by omega)), if_neg (fun q => h4 q.2.2.2)]
      · rw [if_pos (show (9 : Int32) < nI (x (a + 1)) from nI_lt (a := 9) (by omega) (by omega)), if_neg (fun q => h3 q.2.2.1)]
    · rw [bI_f (fun q => h2 ?_), if_pos rfl, if_neg (fun q => h2 q.2.1)]
      have := q.2
      rw [show (24 : Int32) = nI 24 from rfl, nI_leI (by omega) (by omega)] at this
      omega
  · rw [if_neg (nI_nlt (by omega) (by omega)), if_neg (fun q => h1 q.1)]
theorem row81 (v2 v3 : Int32) (k : Int32 → Int32 → hG → hO Int32) (f : hG) : q_Mo_row_81 v2 v3 k f = k v2 (v3 + 3) (sI f 367 11 (gI f 367 11 + 1)) := rfl
theorem tell_m {f : hG} {n a : Nat} (hn : n ≤ 400) (ha : a < n) {x : Nat → Nat} (hx : ∀ j, j < n → x j < 256 ∧ gI f 376 j = nI (x j)) (K : Int32 → hG → hO Int32) (k : Int32 → Int32 → hG → hO Int32) (t : Nat) : q_Mo_row_22 (nI n) K k (nI t) (nI a) f = if a + 2 < n ∧ x a < 25 ∧ x (a + 1) ≤ 9 ∧ x (a + 2) ≤ 1 then k (nI (t + 1)) (nI (a + 3)) (sI (sI f 369 (7 + x a) (nI (x (a + 1)))) 369 3 (dSet (gI f 369 3) (nI (x a)) (nI (x (a + 2))))) else k (nI t) (nI (a + 3)) (sI f 367 11 (gI f 367 11 + 1)) := by
  unfold q_Mo_row_22
  simp only [row81]
  rw [if_neg (nI_ge ha (by omega)), show nI a + (2 : Int32) = nI (a + 2) from nI_add a 2, show nI a + (3 : Int32) = nI (a + 3) from nI_add a 3, nI_1, nI_1]
  by_cases h1 : a + 2 < n
  · have b0 := hx a ha
    have b1 := hx (a + 1) (by omega)
    have b2 := hx (a + 2) h1
    rw [if_neg (nI_ge h1 (by omega)), gd_nI (by omega) (by omega), nI_clamp (by omega), nI_clamp (by omega), nI_clamp (by omega), b0.2, isCell_m, bnd_s]
    by_cases h2 : x a < 25
    · rw [bI_t (isC_of h2), if_neg (by decide), gd_nI (by omega) (by omega), b1.2]
      by_cases h3 : x (a + 1) ≤ 9
      · rw [if_neg (show ¬ (9 : Int32) < nI (x (a + 1)) from nI_nlt (a := 9) h3 (by omega)), gd_nI (by omega) (by omega), b2.2]
        by_cases h4 : x (a + 2) ≤ 1
        · rw [if_neg (show ¬ (1 : Int32) < nI (x (a + 2)) from nI_nlt (a := 1) h4 (by omega)), if_pos (show a + 2 < n ∧ x a < 25 ∧ x (a + 1) ≤ 9 ∧ x (a + 2) ≤ 1 from ⟨h1, h2, h3, h4⟩), b0.2, show (7 : Int32) + nI (x a) = nI (7 + x a) from nI_add 7 _, gd_nI (by omega) (by omega), gd_nI (by omega) (by omega), gd_nI (by omega) (by omega), wr_e, nI_clamp (by omega), gd_nI (by omega) (by omega), gd_nI (by omega) (by omega), rd_a (by decide), rd_a (by decide), b0.2, b2.2]
          have h01 : nI (x (a + 2)) = 0 ∨ nI (x (a + 2)) = 1 := by
            have : x (a + 2) = 0 ∨ x (a + 2) = 1 := by omega
            rcases this with e | e <;> rw [e] <;> simp [nI]
          rw [setDoor_m h2 h01, bnd_s, rd_k (by omega)]
        · rw [if_pos (show (1 : Int32) < nI (x (a + 2)) from nI_lt (a := 1) (by omega) (by omega)), if_neg (fun q => h4 q.2.2.2)]
      · rw [if_pos (show (9 : Int32) < nI (x (a + 1)) from nI_lt (a := 9) (by omega) (by omega)), if_neg (fun q => h3 q.2.2.1)]
    · rw [bI_f (fun q => h2 ?_), if_pos rfl, if_neg (fun q => h2 q.2.1)]
      have := q.2
      rw [show (24 : Int32) = nI 24 from rfl, nI_leI (by omega) (by omega)] at this
      omega
  · rw [if_pos (nI_le (by omega) (by omega)), if_neg (fun q => h1 q.1)]
theorem row_loop {n : Nat} (hn : n ≤ 400) {x : Nat → Nat} (Kc : Int32 → Int32 → hG → hO Int32) (Km : Int32 → hG → hO Int32) : ∀ (m a F1 F2 : Nat) (g f : hG) (t bd : Nat), n ≤ a + m → a ≤ n + 2 → m < F1 → m < F2 → RR g f → gI g 235 1 = nI n → (∀ j, j < n → x j < 256 ∧ gI g 236 j = nI (x j)) → (∀ j, j < n → x j < 256 ∧ gI f 376 j = nI (x j)) → gI f 367 11 = nI bd → ∃ g' f' t' bd', q_MP_row_15L Kc F1 (nI t) (nI bd) (nI a) g = Kc (nI t') (nI bd') g' ∧ q_Mo_row_22L (nI n) Km F2 (nI t) (nI a) f = Km (nI t') f' ∧ gI f' 367 11 = nI bd' ∧ RR g' f' ∧ t' ≤ t + m ∧ Un rC g g' ∧ Un rM f f' := by
  intro m
  induction m with
  | zero =>
    intro a F1 F2 g f t bd h1 hz h2 h3 h4 h5 h6 h7 h8
    obtain ⟨F1, rfl⟩ : ∃ q, F1 = q + 1 := ⟨F1 - 1, by omega⟩
    obtain ⟨F2, rfl⟩ : ∃ q, F2 = q + 1 := ⟨F2 - 1, by omega⟩
    rw [q_MP_row_15L_s, q_Mo_row_22L_s]
    unfold q_MP_row_15 q_Mo_row_22
    rw [h5, if_pos (nI_le (by omega) (by omega)), if_pos (nI_le (by omega) (by omega))]
    exact ⟨g, f, t, bd, rfl, rfl, h8, h4, by omega, Un.rf, Un.rf⟩
  | succ m ih =>
    intro a F1 F2 g f t bd h1 hz h2 h3 h4 h5 h6 h7 h8
    obtain ⟨F1, rfl⟩ : ∃ q, F1 = q + 1 := ⟨F1 - 1, by omega⟩
    obtain ⟨F2, rfl⟩ : ∃ q, F2 = q + 1 := ⟨F2 - 1, by omega⟩
    by_cases ha : a < n
    · rw [q_MP_row_15L_s, q_Mo_row_22L_s, tell_m hn ha h7]
      unfold q_MP_row_15
      rw [h5, if_neg (nI_ge ha (by omega)), tell_c hn ha h5 h6, show nI a + (3 : Int32) = nI (a + 3) from nI_add a 3]
      by_cases hc : a + 2 < n ∧ x a < 25 ∧ x (a + 1) ≤ 9 ∧ x (a + 2) ≤ 1
      · rw [if_pos hc, if_pos hc, bnd_s, if_neg (by decide), nI_1]
        obtain ⟨g', f', t', bd', e1, e2, e3, e4, e5, e6, e7⟩ := ih (a + 3) F1 F2 (sI (sI g 6 (x a) (nI (x (a + 1)))) 1 1 (dSet (gI g 1 1) (nI (x a)) (nI (x (a + 2))))) (sI (sI f 369 (7 + x a) (nI (x (a + 1)))) 369 3 (dSet (gI f 369 3) (nI (x a)) (nI (x (a + 2))))) (t + 1) bd (by omega) (by omega) (by omega) (by omega) (row_rr h4 hc.2.1 hc.2.2.1 hc.2.2.2) (by rw [rd_a (by decide), rd_a (by decide), h5]) (fun j hj => by rw [rd_a (by decide), rd_a (by decide)]; exact h6 j hj) (fun j hj => by rw [rd_a (by decide), rd_a (by decide)]; exact h7 j hj) (by rw [rd_a (by decide), rd_a (by decide), h8])
        refine ⟨g', f', t', bd', e1, e2, e3, e4, by omega, ((Un.rf.sI rfl _).sI rfl _).tr e6, ((Un.rf.sI ?_ _).sI rfl _).tr e7⟩
        simp [rM]
        omega
      · rw [if_neg hc, if_neg hc, bnd_s, if_pos rfl, nI_1, h8, nI_1]
        obtain ⟨g', f', t', bd', e1, e2, e3, e4, e5, e6, e7⟩ := ih (a + 3) F1 F2 g (sI f 367 11 (nI (bd + 1))) t (bd + 1) (by omega) (by omega) (by omega) (by omega) ⟨h4.1.ex (fun _ _ _ => rfl) (fun i _ => rd_a (by decide)), h4.2.ex (fun i _ => rd_a (by decide))⟩ h5 h6 (fun j hj => by rw [rd_a (by decide)]; exact h7 j hj) rd_s
        exact ⟨g', f', t', bd', e1, e2, e3, e4, by omega, e6, (Un.rf.sI rfl _).tr e7⟩
    · rw [q_MP_row_15L_s, q_Mo_row_22L_s]
      unfold q_MP_row_15 q_Mo_row_22
      rw [h5, if_pos (nI_le (by omega) (by omega)), if_pos (nI_le (by omega) (by omega))]
      exact ⟨g, f, t, bd, rfl, rfl, h8, h4, by omega, Un.rf, Un.rf⟩
theorem un_same {S : Nat → Nat → Bool} {g g' : hG} (h : Un S g g') {a k : Nat} {v : Int32} (e : gI g' a k = v) : Un S g (sI g' a k v) := fun b j z => by
  refine ⟨?_, (h b j z).2.1, (h b j z).2.2⟩
  rw [gI_sI]
  by_cases y : b = a ∧ j = k
  · rw [if_pos y, ← e, ← y.1, ← y.2]; exact (h b j z).1
  · rw [if_neg y]; exact (h b j z).1
theorem las_p {v : Int32} (h : 0 ≤ v) (g : hG) : q_Mo_lasting v g = some (v, sI (sI g 367 8 0) 367 1 0) := by
  unfold q_Mo_lasting q_Mo_lasting_7
  rw [if_pos h, wr_e, te_p h, bnd_s]
theorem sp_row {g : hG} (h : Inv g) : Sp q_MP_row q_Mo_row g := by
  obtain ⟨h1, h2, h3, ⟨n, hn, t1, t2, t3⟩, h5, h6, h7⟩ := id h
  obtain ⟨p, hp, pl⟩ := place_n h
  by_cases z : n = 0
  · subst z
    refine Sp.q (r := -6) (g1 := nC (-6) 6 g) (g2 := nM (-6) 6 (sI (sI (nC (-6) 6 g) 367 0 0) 367 13 0)) ?_ ?_ (h.no (-6) (by omega) (un_same (Un.rf.sI rfl _) ?_))
    · unfold q_MP_row
      rw [t1, if_pos (show nI 0 = 0 from rfl), rf_6, bnd_s]
    · unfold q_Mo_row
      rw [wr_e, wr_e, show gI (sI (nC (-6) 6 g) 367 0 0) 367 13 = nI 0 by simp [nC, gI_sI, t2], if_pos (show nI 0 = 0 from rfl), te_6, bnd_s]
    · simp [nC, gI_sI, t2, nI]
  · obtain ⟨x, hx⟩ : ∃ x : Nat → Nat, ∀ j, j < n → x j < 256 ∧ gI g 236 j = nI (x j) ∧ gI g 376 j = nI (x j) := ⟨fun j => if hj : j < n then (t3 j hj).choose else 0, fun j hj => by dsimp only; rw [dif_pos hj]; exact (t3 j hj).choose_spec⟩
    have nz : ¬ nI n = 0 := by rw [show (0 : Int32) = nI 0 from rfl, nI_eq (by omega) (by omega)]; exact z
    let Kc : Int32 → Int32 → hG → hO Int32 := fun x7 x8 g10 => wr (sI g10 235 1 (0 : Int32)) fun g12 => wr (sI g12 263 4 x8) fun g14 => bnd (q_Past_clear g14) fun _ g16 => bnd (q_Notes_grant x7 g16) fun r20 g18 => some (r20, g18)
    let Km : Int32 → hG → hO Int32 := fun x22 g24 => bnd (q_Mo_lasting x22 g24) fun r28 g26 => some (r28, g26)
    have lp := fun f => row_loop hn (x := x) Kc Km n 0 FU FU g f 0 0 (by omega) (by omega) (Nat.lt_of_le_of_lt hn (by decide)) (Nat.lt_of_le_of_lt hn (by decide))
    obtain ⟨ga, fa, ta, ba, a1, -, -, -, -, u, -⟩ := lp (sI g 367 11 0) ⟨h1.1.ex (fun _ _ _ => rfl) (fun i _ => rd_a (by decide)), h1.2.ex (fun i _ => rd_a (by decide))⟩ t1 (fun j hj => ⟨(hx j hj).1, (hx j hj).2.1⟩) (fun j hj => ⟨(hx j hj).1, by rw [rd_a (by decide)]; exact (hx j hj).2.2⟩) rd_s
    have kc : ∀ t b g', Kc (nI t) (nI b) g' = some (nI t, sI (sI (sI (sI g' 235 1 0) 263 4 (nI b)) 54 2 0) 263 1 0) := fun _ _ _ => rfl
    generalize hg1 : sI (sI (sI (sI ga 235 1 0) 263 4 (nI ba)) 54 2 0) 263 1 0 = g1
    have q1 : ∀ x y, rC x y = false → ¬ (x = 235 ∧ y = 1) → ¬ (x = 263 ∧ y = 4) → ¬ (x = 54 ∧ y = 2) → ¬ (x = 263 ∧ y = 1) → gI g1 x y = gI g x y := fun x y z1 z2 z3 z4 z5 => by
      rw [← hg1, gI_sI, if_neg z5, gI_sI, if_neg z4, gI_sI, if_neg z3, gI_sI, if_neg z2, u.I z1]
    have f0m : ∀ y, gI (sI (sI (sI g1 367 0 0) 367 13 0) 367 11 0) 369 y = gI g 369 y := fun y => by
      rw [rd_a (by decide), rd_a (by decide), rd_a (by decide), q1 _ _ rfl (by omega) (by omega) (by omega) (by omega)]
    obtain ⟨gb, fb, tb, bb, b1, b2, b3, b4, b5, -, v⟩ := lp (sI (sI (sI g1 367 0 0) 367 13 0) 367 11 0) ⟨h1.1.ex (fun _ _ _ => rfl) (fun i _ => f0m i), h1.2.ex (fun i _ => f0m i)⟩ t1 (fun j hj => ⟨(hx j hj).1, (hx j hj).2.1⟩) (fun j hj => ⟨(hx j hj).1, by rw [rd_a (by decide), rd_a (by decide), rd_a (by decide), q1 _ _ rfl (by omega) (by omega) (by omega) (by omega)]; exact (hx j hj).2.2⟩) rd_s
    have e : some (nI ta, g1) = some (nI tb, sI (sI (sI (sI gb 235 1 0) 263 4 (nI bb)) 54 2 0) 263 1 0) := by
      rw [← hg1, ← kc, ← kc, ← a1, ← b1]
    have et : nI ta = nI tb := congrArg (fun o => match o with | some q => q.1 | none => 0) e
    have eg : g1 = sI (sI (sI (sI gb 235 1 0) 263 4 (nI bb)) 54 2 0) 263 1 0 := by
      have := congrArg (fun o => match o with | some q => q.2 | none => g1) e
      exact this
    have fin : ∀ x y, rC x y = false → rM x y = false → ¬ (x = 235 ∧ y = 1) → ¬ (x = 263 ∧ y = 4) → ¬ (x = 54 ∧ y = 2) → ¬ (x = 263 ∧ y = 1) → ¬ (x = 367 ∧ (y = 0 ∨ y = 13 ∨ y = 11 ∨ y = 8 ∨ y = 1)) → gI (sI (sI fb 367 8 0) 367 1 0) x y = gI g x y := fun x y z1 z2 z3 z4 z5 z6 z7 => by
      rw [gI_sI, if_neg (by omega), gI_sI, if_neg (by omega), v.I z2, gI_sI, if_neg (by omega), gI_sI, if_neg (by omega), gI_sI, if_neg (by omega), q1 x y z1 z3 z4 z5 z6]
    have cl : ∀ x y, x < 367 → gI (sI (sI fb 367 8 0) 367 1 0) x y = gI g1 x y := fun x y hx => by
      rw [rd_a (by omega), rd_a (by omega), v.I (Bool.eq_false_iff.mpr (fun q => by simp only [rM, Bool.or_eq_true, Bool.and_eq_true, beq_iff_eq, Nat.ble_eq] at q; omega)), rd_a (by omega), rd_a (by omega), rd_a (by omega)]
    have clg : ∀ x y, x < 367 → x ≠ 235 → x ≠ 263 → x ≠ 54 → gI (sI (sI fb 367 8 0) 367 1 0) x y = gI gb x y := fun x y hx z1 z2 z3 => by
      rw [cl x y hx, eg, rd_a z2, rd_a z3, rd_a z2, rd_a z1]
    refine Sp.q (r := nI tb) (g1 := g1) (g2 := sI (sI fb 367 8 0) 367 1 0) ?_ ?_ ⟨⟨b4.1.ex (fun j y hj => clg _ _ (by omega) (by omega) (by omega) (by omega)) (fun i _ => by rw [rd_a (by decide), rd_a (by decide)]), b4.2.ex (fun i _ => by rw [rd_a (by decide), rd_a (by decide)])⟩, past_0 p hp ?_ ?_ ?_, h3.ag (fun x y w => ?_), ⟨0, by omega, ?_, ?_, fun j hj => by omega⟩, ⟨?_, ?_, ?_, ?_, fun k hk => ?_⟩, h6.ag (fun x y w => ?_), h7.ag (fin _ _ rfl rfl (by omega) (by omega) (by omega) (by omega) (by omega)) (fun x y w => ?_)⟩
    · unfold q_MP_row
      rw [t1, if_neg nz]
      exact (a1.trans (kc _ _ _)).trans (by rw [hg1, et])
    · unfold q_Mo_row
      rw [wr_e, wr_e, rd_k (by decide), q1 _ _ rfl (by omega) (by omega) (by omega) (by omega), t2, if_neg nz, wr_e]
      refine b2.trans ?_
      show bnd (q_Mo_lasting (nI tb) fb) _ = _
      rw [las_p (nI_pos' (by omega)), bnd_s]
    · rw [cl _ _ (by omega), ← hg1, rd_a (by decide), rd_s]
    · rw [rd_k (by decide), rd_s]
    · rw [fin _ _ rfl rfl (by omega) (by omega) (by omega) (by omega) (by omega), pl]
    · simp only [suI, Bool.or_eq_true, Bool.and_eq_true, beq_iff_eq, Nat.ble_eq] at w
      exact fin x y (Bool.eq_false_iff.mpr (fun q => by simp only [rC, Bool.or_eq_true, Bool.and_eq_true, beq_iff_eq] at q; omega)) (Bool.eq_false_iff.mpr (fun q => by simp only [rM, Bool.or_eq_true, Bool.and_eq_true, beq_iff_eq, Nat.ble_eq] at q; omega)) (by omega) (by omega) (by omega) (by omega) (by omega)
    · rw [cl _ _ (by omega), ← hg1, rd_a (by decide), rd_a (by decide), rd_a (by decide), rd_s]; rfl
    · rw [rd_k (by decide), rd_k (by decide), v.I rfl, rd_k (by decide), rd_s]; rfl
    · rw [cl _ _ (by omega), ← hg1, rd_s, rd_s]
    · rw [fin _ _ rfl rfl (by omega) (by omega) (by omega) (by omega) (by omega), fin _ _ rfl rfl (by omega) (by omega) (by omega) (by omega) (by omega)]; exact h5.2.1
    · rw [fin _ _ rfl rfl (by omega) (by omega) (by omega) (by omega) (by omega), fin _ _ rfl rfl (by omega) (by omega) (by omega) (by omega) (by omega)]; exact h5.2.2.1
    · rw [cl _ _ (by omega), eg, rd_k (by decide), rd_a (by decide), rd_s, rd_k (by decide), rd_k (by decide), b3]
    · rw [fin 264 k rfl rfl (by omega) (by omega) (by omega) (by omega) (by omega), fin 368 k rfl rfl (by omega) (by omega) (by omega) (by omega) (by omega)]; exact h5.2.2.2.2 k hk
    · simp only [suD, Bool.or_eq_true, Bool.and_eq_true, beq_iff_eq, Nat.ble_eq] at w
      exact fin x y (Bool.eq_false_iff.mpr (fun q => by simp only [rC, Bool.or_eq_true, Bool.and_eq_true, beq_iff_eq] at q; omega)) (Bool.eq_false_iff.mpr (fun q => by simp only [rM, Bool.or_eq_true, Bool.and_eq_true, beq_iff_eq, Nat.ble_eq] at q; omega)) (by omega) (by omega) (by omega) (by omega) (by omega)
    · have wr : rM x y = false ∧ rC x y = false := by rcases w with rfl | rfl | rfl | rfl | rfl <;> exact ⟨rfl, rfl⟩
      rw [gJ_sI, gJ_sI, v.J wr.1, gJ_sI, gJ_sI, gJ_sI, ← hg1, gJ_sI, gJ_sI, gJ_sI, gJ_sI, u.J wr.2]
