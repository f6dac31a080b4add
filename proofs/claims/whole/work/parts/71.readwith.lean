/-! readWith -/
theorem read_l {R : Nat → Int32} {g f : hG} (hg : MomR g 225 R) (hf : MomM f R) {k : Nat} (hk : k < 8) (K : Int32 → hG → hO Int32) : ∀ (m i F F' : Nat) (x : Int32), i + m = 8 → m < F → m < F' → ∃ r, q_Mom_readWithIt_12L (nI k) (fun x8 g11 => some (x8, g11)) F x (nI i) g = some (r, g) ∧ q_Mo_readWith_25L (nI k) K F' x (nI i) f = K r f := by
  intro m
  induction m with
  | zero =>
    intro i F F' x h1 h2 h3
    obtain ⟨F, rfl⟩ : ∃ q, F = q + 1 := ⟨F - 1, by omega⟩
    obtain ⟨F', rfl⟩ : ∃ q, F' = q + 1 := ⟨F' - 1, by omega⟩
    obtain rfl : i = 8 := by omega
    rw [q_Mom_readWithIt_12L_s, q_Mo_readWith_25L_s]
    unfold q_Mom_readWithIt_12 q_Mo_readWith_25
    rw [if_pos (by decide), if_pos (by decide)]
    exact ⟨_, rfl, rfl⟩
  | succ m ih =>
    intro i F F' x h1 h2 h3
    obtain ⟨F, rfl⟩ : ∃ q, F = q + 1 := ⟨F - 1, by omega⟩
    obtain ⟨F', rfl⟩ : ∃ q, F' = q + 1 := ⟨F' - 1, by omega⟩
    have hi : i < 8 := by omega
    have ne : ¬ (8 : Int32) ≤ nI i := nI_ge (a := i) (b := 8) (by omega) (by decide)
    have n1 := fun x => ih (i + 1) F F' x (by omega) (by omega) (by omega)
    have r1 := hg.2.2.1 i hi
    have r2 := hg.2.2.2.1 i hi
    have r3 := hg.2.2.2.2 i hi
    have s2 := hg.2.2.2.1 k hk
    have s3 := hg.2.2.2.2 k hk
    have f1 : gI f 369 (32 + i) = R (28 + i) := by rw [show 32 + i = 4 + (28 + i) by omega]; exact hf _ (by omega)
    have f2 : ∀ j, j < 8 → gI f 369 (40 + j) = R (36 + j) := fun j hj => by rw [show 40 + j = 4 + (36 + j) by omega]; exact hf _ (by omega)
    have f3 : ∀ j, j < 8 → gI f 369 (48 + j) = R (44 + j) := fun j hj => by rw [show 48 + j = 4 + (44 + j) by omega]; exact hf _ (by omega)
    have x0 : x ||| 0 = x := Int32.or_zero
    rw [q_Mom_readWithIt_12L_s, q_Mo_readWith_25L_s]
    unfold q_Mom_readWithIt_12 q_Mo_readWith_25 q_Mo_readWith_64 q_Mom_readWithIt_35 q_Mom_readWithIt_36 q_Mo_readWith_65
    rw [if_neg ne, if_neg ne, show (32 : Int32) + nI i = nI (32 + i) from nI_add 32 i, show (40 : Int32) + nI i = nI (40 + i) from nI_add 40 i, show (48 : Int32) + nI i = nI (48 + i) from nI_add 48 i, show (40 : Int32) + nI k = nI (40 + k) from nI_add 40 k, show (48 : Int32) + nI k = nI (48 + k) from nI_add 48 k]
    simp only [gd_nI hi (show 8 < 2 ^ 31 by decide), gd_nI hk (show 8 < 2 ^ 31 by decide), gd_nI (show 32 + i < 5468 by omega) (show 5468 < 2 ^ 31 by decide), gd_nI (show 40 + i < 5468 by omega) (show 5468 < 2 ^ 31 by decide), gd_nI (show 48 + i < 5468 by omega) (show 5468 < 2 ^ 31 by decide), gd_nI (show 40 + k < 5468 by omega) (show 5468 < 2 ^ 31 by decide), gd_nI (show 48 + k < 5468 by omega) (show 5468 < 2 ^ 31 by decide), nI_clamp (show i < 2 ^ 31 by omega), nI_clamp (show k < 2 ^ 31 by omega), nI_clamp (show 32 + i < 2 ^ 31 by omega), nI_clamp (show 40 + i < 2 ^ 31 by omega), nI_clamp (show 48 + i < 2 ^ 31 by omega), nI_clamp (show 40 + k < 2 ^ 31 by omega), nI_clamp (show 48 + k < 2 ^ 31 by omega), f1, f2 i hi, f2 k hk, f3 i hi, f3 k hk, nI_1, x0]
    rw [show gI g 227 i = R (36 + i) from r2, show gI g 227 k = R (36 + k) from s2, show gI g 228 i = R (44 + i) from r3, show gI g 228 k = R (44 + k) from s3, show gI g 226 i = R (28 + i) from r1]
    by_cases z1 : R (28 + i) = 2
    · by_cases z2 : R (36 + i) = R (36 + k)
      · by_cases z3 : R (44 + i) = R (44 + k)
        · simp only [z1, z2, z3, if_true]
          exact n1 _
        · simp only [z1, z2, z3, if_true, if_false]
          exact n1 _
      · simp only [z1, z2, if_true, if_false]
        exact n1 _
    · by_cases z2 : R (36 + i) = R (36 + k)
      · simp only [z1, z2, if_true, if_false]
        exact n1 _
      · simp only [z1, z2, if_true, if_false]
        exact n1 _
theorem readP_l {Lo : Option Lw} {D : Int32} (K : hG → hO Int32) : ∀ (m i F h : Nat) (g : hG) (r : Nat → Int32), i + m = 60 → m < F → h + m < 2000 → r 0 = nI h → MomM g r → WFm r → LEM g Lo → gI g 369 3 = D → ∃ g', q_Mo_readWith_13L K F (nI i) g = K g' ∧ MomM g' (pN D Lo m r) ∧ Un sHM g g' ∧ ∀ y, gJ g' 369 y = gJ g 369 y ∧ gP g' 369 y = gP g 369 y := by
  intro m
  induction m with
  | zero =>
    intro i F h g r h1 h2 h3 h0 mr w hl hd
    obtain ⟨F, rfl⟩ : ∃ q, F = q + 1 := ⟨F - 1, by omega⟩
    rw [q_Mo_readWith_13L_s]
    unfold q_Mo_readWith_13
    rw [if_pos (show (60 : Int32) ≤ nI i from nI_le (a := 60) (by omega) (by omega))]
    exact ⟨g, rfl, mr, Un.rf, fun _ => ⟨rfl, rfl⟩⟩
  | succ m ih =>
    intro i F h g r h1 h2 h3 h0 mr w hl hd
    obtain ⟨F, rfl⟩ : ∃ q, F = q + 1 := ⟨F - 1, by omega⟩
    obtain ⟨g1, a1, a2, a3, a4⟩ := passIt_m2 mr w hl
    rw [hd] at a1 a2
    obtain ⟨w1, w2, w3, w4⟩ := stepP_wf (D := D) (Lo := Lo) w h0 (by omega)
    rw [q_Mo_readWith_13L_s]
    unfold q_Mo_readWith_13
    rw [if_neg (show ¬ (60 : Int32) ≤ nI i from nI_ge (a := i) (b := 60) (by omega) (by decide)), a1, bnd_s, nI_1]
    obtain ⟨g', e1, e2, e3, e4⟩ := ih (i + 1) F (h + 1) g1 (stepP D Lo r) (by omega) (by omega) (by omega) w2 a2 w1
      (hl.ex2 (fun j hj => a3.I (sHM_369 (by omega))) (a3.I rfl)) (by rw [a3.I (sHM_369 (by omega))]; exact hd)
    exact ⟨g', e1, e2, a3.tr e3, fun y => ⟨(e4 y).1.trans (a4 y).1, (e4 y).2.trans (a4 y).2⟩⟩
theorem sp_readWith {g : hG} (h : Inv g) (l : Int32) : Sp (q_MP_readWith l) (q_Mo_readWith l) g := by
  by_cases hl : isL8 l
  · obtain ⟨k, hk, rfl⟩ := isL_n hl
    obtain ⟨m1, m2, m3, m4, m5, m6, m7, m8⟩ := inv_m h
    obtain ⟨hh, hh9, eh⟩ := h.1.2.2.1
    obtain ⟨Lo, L1, L2⟩ := law_force h
    obtain ⟨gt, t1, t2, t3, t4⟩ := paper_c h L1 (n := 60) (by omega)
    have rs : ∀ i, gI (sI gt 367 0 0) 369 i = gI g 369 i := fun i => by rw [rd_a (by decide), (sH_sX t4).I rfl]
    have rs2 : ∀ i, gI (sSeg (sI gt 367 0 0) 372 (52 * 16) 52 (fun i => gI (sI gt 367 0 0) 369 (4 + i))) 369 i = gI g 369 i := fun i => by rw [gI_sSeg, if_neg (by omega), rs]
    obtain ⟨h2, e1, e2, e3, e4⟩ := readP_l (Lo := Lo) (D := gI g 369 3) (fun g14 => q_Mo_readWith_25L (nI k) (fun x22 g25 => gd ((32 : Int32) + nI k) 5468 <| q_Mo_readWith_89 (if (gI g25 369 ((32 : Int32) + nI k).toNatClampNeg) = (2 : Int32) then x22 else (-1 : Int32)) g25) FU (0 : Int32) (0 : Int32) g14) 60 0 FU hh (sSeg (sI gt 367 0 0) 372 (52 * 16) 52 (fun i => gI (sI gt 367 0 0) 369 (4 + i))) (fun i => gI g 369 (4 + i)) (by omega) (by decide) (by omega) eh (m3.ex rs2) m2
      (L2.ex rs2 (by rw [gI_sSeg, if_neg (by omega), rd_k (by decide), (sH_sX t4).I rfl])) (rs2 3)
    have pb := paper_back (f := sI gt 367 0 0) e3 e4
    obtain ⟨r, q1, q2⟩ := read_l t2 e2 hk (fun x22 g25 => gd ((32 : Int32) + nI k) 5468 <| q_Mo_readWith_89 (if (gI g25 369 ((32 : Int32) + nI k).toNatClampNeg) = (2 : Int32) then x22 else (-1 : Int32)) g25) 8 0 FU FU 0 (by omega) (by decide) (by decide)
    generalize hR : pN (gI g 369 3) Lo 60 (fun i => gI g 369 (4 + i)) = R at *
    refine Sp.q (r := if R (28 + k) = 2 then r else -1) (g1 := gt) (g2 := sSeg h2 369 4 52 (fun i => gI h2 372 (52 * 16 + i))) ?_ ?_ (h.un (((sH_sX t4).tr (Un.rf.sI rfl _)).tr pb))
    · unfold q_MP_readWith
      rw [isLet_c, bnd_s, bI_t hl, if_neg (by decide), show (60 : Int32) = nI 60 from rfl, t1, bnd_s]
      unfold q_Mom_readWithIt
      rw [gd_nI hk (by omega), nI_clamp (by omega), show gI gt 226 k = R (28 + k) from t2.2.2.1 k hk, show q_Mom_readWithIt_12L (nI k) (fun x8 g11 => some (x8, g11)) FU 0 0 gt = some (r, gt) from q1]
      by_cases z : R (28 + k) = 2
      · rw [if_pos z, if_pos z, bnd_s]
      · rw [if_neg z, if_neg z, bnd_s]
    · unfold q_Mo_readWith
      rw [wr_e, isLet_m, bnd_s, bI_t hl, if_neg (by decide), show (16 : Int32) = nI 16 from rfl, keepAll_e 16 (by decide), bnd_s]
      refine Eq.trans e1 (Eq.trans q2 ?_)
      have e32 : (32 : Int32) + nI k = nI (32 + k) := nI_add 32 k
      show gd ((32 : Int32) + nI k) 5468 (q_Mo_readWith_89 (if (gI h2 369 ((32 : Int32) + nI k).toNatClampNeg) = (2 : Int32) then r else (-1 : Int32)) h2) = _
      unfold q_Mo_readWith_89
      rw [e32, gd_nI (by omega) (by omega), show (16 : Int32) = nI 16 from rfl, putBack_e 16 (by decide), bnd_s, nI_clamp (by omega), show 32 + k = 4 + (28 + k) by omega, e2 (28 + k) (by omega)]
  · refine Sp.q (r := -1) (g1 := g) (g2 := sI g 367 0 0) ?_ ?_ (inv_0 h)
    · unfold q_MP_readWith
      rw [isLet_c, bnd_s, bI_f hl, if_pos rfl]
    · unfold q_Mo_readWith
      rw [wr_e, isLet_m, bnd_s, bI_f hl, if_pos rfl]
