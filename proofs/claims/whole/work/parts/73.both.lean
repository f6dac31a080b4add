/-! thirty hours ahead: layPlaces (model), both -/
def sPl (x k : Nat) : Bool := sHM x k || x == 393
theorem sPl_369 {k : Nat} (h : k < 4 ∨ 56 ≤ k ∨ k = 5 ∨ k = 6) : sPl 369 k = false := by
  unfold sPl
  rw [sHM_369 h]
  rfl
theorem places_m (v : Nat) (hv : v ≤ 30) (K : hG → hO Unit) (g : hG) : q_Mo_layPlaces_10L (nI v) K FU 0 g = K (sSeg g 393 (8 * v) 8 (fun l => gI g 369 (40 + l))) := by
  refine copy_loop (fun n g i => q_Mo_layPlaces_10L (nI v) K n (nI i) g) K 393 (8 * v) 8 _ g ?_ ?_ FU (by decide)
  · intro n i hi
    rw [q_Mo_layPlaces_10L_s]
    unfold q_Mo_layPlaces_10
    rw [if_neg (show ¬ (8 : Int32) ≤ nI i from nI_ge hi (by decide)), show (40 : Int32) + nI i = nI (40 + i) from nI_add 40 i, show (8 : Int32) * nI v + nI i = nI (8 * v + i) by rw [show (8 : Int32) = nI 8 from rfl, pk_mul, nI_add], gd_nI (by omega) (by omega), gd_nI (by omega) (by omega), wr_e, nI_clamp (by omega), nI_clamp (by omega), nI_1, gI_sSeg, if_neg (by omega)]
  · intro n
    rw [q_Mo_layPlaces_10L_s]
    unfold q_Mo_layPlaces_10
    rw [if_pos (by decide)]
theorem places_l {Lo : Option Lw} {D : Int32} (K : hG → hO Unit) : ∀ (m i F h : Nat) (g : hG) (r : Nat → Int32), i + m = 31 → m < F → h + m < 2000 → r 0 = nI h → MomM g r → WFm r → LEM g Lo → gI g 369 3 = D → ∃ g', q_Mo_layPlaces_5L K F (nI i) g = K g' ∧ Un sPl g g' ∧ (∀ y, gJ g' 369 y = gJ g 369 y ∧ gP g' 369 y = gP g 369 y) ∧ (∀ v l, v < i → l < 8 → gI g' 393 (8 * v + l) = gI g 393 (8 * v + l)) ∧ ∀ v l, v < m → l < 8 → gI g' 393 (8 * (i + v) + l) = pN D Lo v r (36 + l) := by
  intro m
  induction m with
  | zero =>
    intro i F h g r h1 h2 h3 h0 mr w hl hd
    obtain ⟨F, rfl⟩ : ∃ q, F = q + 1 := ⟨F - 1, by omega⟩
    obtain rfl : i = 31 := by omega
    rw [q_Mo_layPlaces_5L_s]
    unfold q_Mo_layPlaces_5
    rw [if_pos (by decide)]
    exact ⟨g, rfl, Un.rf, fun _ => ⟨rfl, rfl⟩, fun _ _ _ _ => rfl, fun v l hv => by omega⟩
  | succ m ih =>
    intro i F h g r h1 h2 h3 h0 mr w hl hd
    obtain ⟨F, rfl⟩ : ∃ q, F = q + 1 := ⟨F - 1, by omega⟩
    have u0 : Un sPl g (sSeg g 393 (8 * i) 8 (fun l => gI g 369 (40 + l))) := Un.rf.seg (fun j _ => by simp [sPl]) _
    have q0 : ∀ x k, ¬ x = 393 → gI (sSeg g 393 (8 * i) 8 (fun l => gI g 369 (40 + l))) x k = gI g x k := fun x k hx => by rw [gI_sSeg, if_neg (fun q => hx q.1)]
    obtain ⟨g1, a1, a2, a3, a4⟩ := passIt_m2 (Lo := Lo) (mr.ex (fun j => q0 _ _ (by omega))) w (hl.ex (fun j => q0 _ _ (by omega)) (q0 _ _ (by omega)))
    rw [q0 _ _ (by omega), hd] at a1 a2
    obtain ⟨w1, w2, w3, w4⟩ := stepP_wf (D := D) (Lo := Lo) w h0 (by omega)
    have u1 : Un sPl g g1 := u0.tr (a3.mo (fun x k z => by unfold sPl at z; rw [Bool.or_eq_false_iff] at z; exact z.1))
    rw [q_Mo_layPlaces_5L_s]
    unfold q_Mo_layPlaces_5
    rw [if_neg (show ¬ (30 : Int32) < nI i from nI_ngt (b := 30) (by omega) (by omega)), places_m i (by omega), a1, bnd_s, nI_1]
    obtain ⟨g', e1, e2, e5, e3, e4⟩ := ih (i + 1) F (h + 1) g1 (stepP D Lo r) (by omega) (by omega) (by omega) w2 a2 w1
      (hl.ex2 (fun j hj => u1.I (sPl_369 (by omega))) (u1.I rfl)) (by rw [u1.I (sPl_369 (by omega))]; exact hd)
    have mid : ∀ v l, v < i + 1 → l < 8 → gI g' 393 (8 * v + l) = if v = i then r (36 + l) else gI g 393 (8 * v + l) := fun v l hv hl8 => by
      rw [e3 v l hv hl8, a3.I (by rfl), gI_sSeg]
      by_cases z : v = i
      · subst z
        rw [if_pos ⟨rfl, by omega, by omega⟩, if_pos rfl, show 8 * v + l - 8 * v = l by omega, show 40 + l = 4 + (36 + l) by omega]
        exact mr (36 + l) (by omega)
      · rw [if_neg (by omega), if_neg z]
    refine ⟨g', e1, u1.tr e2, fun y => ⟨(e5 y).1.trans (a4 y).1, (e5 y).2.trans (a4 y).2⟩, fun v l hv hl8 => ?_, fun v l hv hl8 => ?_⟩
    · rw [mid v l (by omega) hl8, if_neg (by omega)]
    · cases v with
      | zero => rw [Nat.add_zero, mid i l (by omega) hl8, if_pos rfl]; rfl
      | succ v =>
        rw [show i + (v + 1) = i + 1 + v by omega, e4 v l (by omega) hl8]
        rfl
theorem paper_back2 {f h2 : hG} (u : Un sPl (sSeg f 372 (52 * 16) 52 (fun i => gI f 369 (4 + i))) h2) (uj : ∀ y, gJ h2 369 y = gJ f 369 y ∧ gP h2 369 y = gP f 369 y) : Un sX f (sSeg h2 369 4 52 (fun i => gI h2 372 (52 * 16 + i))) := by
  intro x y z
  have z' := Bool.eq_false_iff.mp z
  simp only [sX, sC, sM, sMf, Ne, Bool.or_eq_true, Bool.and_eq_true, beq_iff_eq, Nat.ble_eq] at z'
  refine ⟨?_, ?_, ?_⟩
  · rw [gI_sSeg]
    by_cases q : x = 369 ∧ 4 ≤ y ∧ y < 4 + 52
    · rw [if_pos q, u.I (Bool.eq_false_iff.mpr (fun p => by simp only [sPl, sHM, sV, sT, Bool.or_eq_true, Bool.and_eq_true, beq_iff_eq, Nat.ble_eq] at p; omega)), gI_sSeg, if_pos (by omega), q.1, show 4 + (52 * 16 + (y - 4) - 52 * 16) = y by omega]
    · rw [if_neg q, u.I (Bool.eq_false_iff.mpr (fun p => by simp only [sPl, sHM, sV, sT, Bool.or_eq_true, Bool.and_eq_true, beq_iff_eq, Nat.ble_eq] at p; omega)), gI_sSeg, if_neg (by omega)]
  · rw [gJ_sSeg]
    by_cases q : x = 369
    · subst q
      exact (uj y).1
    · rw [u.J (Bool.eq_false_iff.mpr (fun p => by simp only [sPl, sHM, sV, sT, Bool.or_eq_true, Bool.and_eq_true, beq_iff_eq, Nat.ble_eq] at p; omega)), gJ_sSeg]
  · rw [gP_sSeg]
    by_cases q : x = 369
    · subst q
      exact (uj y).2
    · rw [u.P (Bool.eq_false_iff.mpr (fun p => by simp only [sPl, sHM, sV, sT, Bool.or_eq_true, Bool.and_eq_true, beq_iff_eq, Nat.ble_eq] at p; omega)), gP_sSeg]
/-- who is there stays there -/
theorem psF_n0 {D : Int32} {N : Nat → Int32} {r : Nat → Int32} {l : Nat} (hl : l < 8) (h : r (28 + l) ≠ 0) : (psF D N r).2 (28 + l) ≠ 0 := by
  rw [psF_2, upR_n _ _ (by omega)]
  exact it_inv (plF D N) (fun _ p => p.2 (28 + l) ≠ 0) 8 (fun i p hi hp => by
    unfold plF
    by_cases q : p.2 (28 + i) = 1
    · rw [if_pos q]
      by_cases d : bt D (p.2 (36 + i))
      · rw [if_pos d]
        dsimp only
        rw [upR_n _ _ (by omega)]
        by_cases y : l = i
        · subst y; rw [upR_s]; decide
        · rw [upR_n _ _ (by omega)]; exact hp
      · rw [if_neg d]
        dsimp only
        rw [upR_n _ _ (by omega)]; exact hp
    · rw [if_neg q]; exact hp) 8 0 (0, r) rfl h
theorem pN_pl {D : Int32} {Lo : Option Lw} {l : Nat} (hl : l < 8) : ∀ (v h : Nat) (r : Nat → Int32), h + v < 2000 → r 0 = nI h → WFm r → r (28 + l) ≠ 0 → ∃ c, c < 25 ∧ pN D Lo v r (36 + l) = nI c := by
  intro v
  induction v with
  | zero =>
    intro h r h1 h2 w hr
    rcases w.2.2 l hl with z | ⟨-, c, hc, e⟩
    · exact absurd z.1 hr
    · exact ⟨c, hc, e⟩
  | succ v ih =>
    intro h r h1 h2 w hr
    obtain ⟨w1, w2, -, -⟩ := stepP_wf (D := D) (Lo := Lo) w h2 (by omega)
    exact ih (h + 1) (stepP D Lo r) (by omega) w2 w1 (psF_n0 hl hr)
theorem watch_both {g : hG} (h : Inv g) : ∃ (P : Nat → Nat → Int32) (gt : hG), q_MP_watchLetters g = some ((), gt) ∧ Un sX g gt ∧ (∀ v l, v ≤ 30 → l < 8 → gI gt 261 (8 * v + l) = P v l) ∧ (∀ v l, v ≤ 30 → l < 8 → gI g 369 (32 + l) ≠ 0 → ∃ c, c < 25 ∧ P v l = nI c) ∧ ∀ f, Un sX g f → ∃ gm, q_Mo_layPlaces (sI f 367 0 0) = some ((), gm) ∧ Un sX f gm ∧ ∀ v l, v ≤ 30 → l < 8 → gI gm 393 (8 * v + l) = P v l := by
  obtain ⟨m1, m2, m3, m4, m5, m6, m7, m8⟩ := inv_m h
  obtain ⟨hh, hh9, eh⟩ := h.1.2.2.1
  obtain ⟨Lo, L1, L2⟩ := law_force h
  obtain ⟨g1, a1, a2, a3, a4, a5⟩ := momcopy 225 2 g (by omega)
  have u1 : Un sWt g g1 := fun x k z => by
    refine ⟨a2 x k (fun q => ?_), by rw [a4], by rw [a5]⟩
    have z' := Bool.eq_false_iff.mp z
    simp only [sWt, sH, Ne, Bool.or_eq_true, Bool.and_eq_true, Nat.ble_eq] at z'
    omega
  obtain ⟨gt, e1, e2, -, e4⟩ := watch_l (Lo := Lo) (D := gI g 369 3) (fun g8 => some ((), g8)) 31 0 FU hh g1 (fun i => gI g 369 (4 + i)) (by omega) (by decide) (by omega) eh (a3 _ m1) m2
    (by rw [a2 _ _ (by omega)]; exact m4) (by rw [a2 _ _ (by omega)]; exact m5) (by rw [a2 _ _ (by omega)]; exact L1.ex (fun x k hx => a2 _ _ (by omega))) (by rw [a2 _ _ (by omega)]; exact m7)
  refine ⟨fun v l => pN (gI g 369 3) Lo v (fun i => gI g 369 (4 + i)) (36 + l), gt, ?_, sWt_sX (u1.tr e2), fun v l hv hl8 => ?_, fun v l hv hl8 hr => pN_pl hl8 v hh _ (by omega) eh m2 (by rw [show 4 + (28 + l) = 32 + l by omega]; exact hr), fun f uf => ?_⟩
  · unfold q_MP_watchLetters
    rw [a1, bnd_s]
    exact e1
  · have := e4 v l (by omega) hl8
    rw [Nat.zero_add] at this
    exact this
  · have rs : ∀ i, gI (sI f 367 0 0) 369 i = gI g 369 i := fun i => by rw [rd_a (by decide), uf.I rfl]
    have rs2 : ∀ i, gI (sSeg (sI f 367 0 0) 372 (52 * 16) 52 (fun i => gI (sI f 367 0 0) 369 (4 + i))) 369 i = gI g 369 i := fun i => by rw [gI_sSeg, if_neg (by omega), rs]
    obtain ⟨h2, b1, b2, b3, -, b4⟩ := places_l (Lo := Lo) (D := gI g 369 3) (fun g15 => bnd (q_Mo_putBack (16 : Int32) g15) fun _ g17 => some ((), g17)) 31 0 FU hh (sSeg (sI f 367 0 0) 372 (52 * 16) 52 (fun i => gI (sI f 367 0 0) 369 (4 + i))) (fun i => gI g 369 (4 + i)) (by omega) (by decide) (by omega) eh (m3.ex rs2) m2
      (L2.ex rs2 (by rw [gI_sSeg, if_neg (by omega), rd_k (by decide), uf.I rfl])) (rs2 3)
    have pb := paper_back2 (f := sI f 367 0 0) b2 b3
    refine ⟨sSeg h2 369 4 52 (fun i => gI h2 372 (52 * 16 + i)), ?_, (Un.rf.sI rfl _).tr pb, fun v l hv hl8 => ?_⟩
    · unfold q_Mo_layPlaces
      rw [show (16 : Int32) = nI 16 from rfl, keepAll_e 16 (by decide), bnd_s]
      refine Eq.trans b1 ?_
      show bnd (q_Mo_putBack (16 : Int32) h2) _ = _
      rw [show (16 : Int32) = nI 16 from rfl, putBack_e 16 (by decide), bnd_s]
    · have := b4 v l (by omega) hl8
      rw [Nat.zero_add] at this
      rw [gI_sSeg, if_neg (by omega)]
      exact this
