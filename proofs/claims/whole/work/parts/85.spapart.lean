/-! apart, both -/
theorem ap_64 : ∀ n, n < 9 → (nI n).toInt64 - 1 = (nI n - 1).toInt64 ∧ (nI n).toInt = n ∧ (nI n - 1).toInt = (n : Int) - 1 := by decide +kernel
theorem ap_le {n : Nat} (hn : n ≤ 8) (v : Int32) : v ≤ nI n - 1 ↔ v < nI n := by
  obtain ⟨-, h2, h3⟩ := ap_64 n (by omega)
  rw [Int32.le_iff_toInt_le, Int32.lt_iff_toInt_lt, h2, h3]
  omega
theorem ap_m1 {v : Int32} (h : -1 ≤ v) (h2 : v < 0) : v = -1 := by
  apply Int32.toInt_inj.mp
  rw [Int32.le_iff_toInt_le, show (-1 : Int32).toInt = -1 from rfl] at h
  rw [Int32.lt_iff_toInt_lt, show (0 : Int32).toInt = 0 from rfl] at h2
  rw [show (-1 : Int32).toInt = -1 from rfl]
  omega
theorem sOn_sX {b : Nat} (hb : b = 390 ∨ b = 391 ∨ b = 392) {g g' : hG} (u : Un (sOn b) g g') : Un sX g g' := u.mo (fun a k z => Bool.eq_false_iff.mpr (fun y => by
  have z' := Bool.eq_false_iff.mp z
  simp only [sOn, sX, sC, sM, sMf, Ne, Bool.or_eq_true, Bool.and_eq_true, beq_iff_eq, Nat.ble_eq] at y z'
  omega))
theorem sp_apart {g : hG} (h : Inv g) (a v : Int32) : Sp (q_MP_apart a v) (q_Mo_apart a v) g := by
  by_cases ha : 0 ≤ a ∧ a ≤ 33554431
  · have a0 : ¬ a < 0 := Int32.not_lt.mpr ha.1
    obtain ⟨A, hA, rfl⟩ := (nI_le_iff (n := 33554431) (by omega) a a0).mp ha.2
    have a1 : ¬ (33554431 : Int32) < nI A := Int32.not_lt.mpr ha.2
    have bc : ∀ g, q_Ji_bitCount (nI A) g = some (nI (cnt (btQ (nI A)) 25), g) := fun g => by rw [bc_e, bc_n (by omega)]
    have on : ∀ g, q_Mo_ones (nI A) g = some (nI (cnt (btQ (nI A)) 25), g) := fun g => by rw [ones_m, onesF_n]
    have c25 := cnt_m (btQ (nI A)) 25
    by_cases h8 : cnt (btQ (nI A)) 25 ≤ 8
    · have n8 : ¬ (8 : Int32) < nI (cnt (btQ (nI A)) 25) := nI_ngt (b := 8) (by omega) (by omega)
      obtain ⟨e64, -, -⟩ := ap_64 (cnt (btQ (nI A)) 25) (by omega)
      by_cases hv : -1 ≤ v ∧ v < nI (cnt (btQ (nI A)) 25)
      · obtain ⟨S, nx, gt, t1, t2, t3, t4, t5, t6, t7, t8⟩ := both_tr h
        obtain ⟨x, hx⟩ := memb (btQ (nI A)) 25
        have x25 : ∀ j, j < cnt (btQ (nI A)) 25 → x j < 25 := fun j hj => by
          obtain ⟨c, c1, c2, c3⟩ := cnt_sur _ 25 j hj
          rw [← c3, hx c c1 c2]; exact c1
        obtain ⟨g1, s1, s2, s3⟩ := sort_l (D := gI g 369 3) (x := x) t1 hx h8 25 0 FU gt (by omega) (by decide) t4 t5 (fun j hj => absurd hj (Nat.not_lt_zero _))
        have u1 : Un sX g g1 := t3.tr (s2.mo (fun a k z => Bool.eq_false_iff.mpr (fun y => by
          have z' := Bool.eq_false_iff.mp z
          simp only [sX, sC, sM, sMf, Ne, Bool.or_eq_true, Bool.and_eq_true, beq_iff_eq, Nat.ble_eq] at y z'
          omega)))
        obtain ⟨gm, l1, l2, l3⟩ := t8 g1 u1
        obtain ⟨f1, p1, p2, p3⟩ := list_m hx h8 (fun x27 g29 => q_Mo_apart_48L x27 (fun g46 => q_Mo_apart_88L x27 (fun x52 g53 => if v = (-1 : Int32) then (some (x52, g53)) else (gd v 9 <| some ((gI g53 391 v.toNatClampNeg), g53))) FU (0 : Int32) g46) FU (0 : Int32) g29) 25 0 FU gm (by omega) (by decide) (fun j hj => absurd hj (Nat.not_lt_zero _))
        have d1 : gI f1 369 3 = gI g 369 3 := by rw [p2.I (sOn_n (by decide)), l2.I rfl, u1.I rfl]
        obtain ⟨f2, q1, q2, q3⟩ := rows_m (D := gI g 369 3) h8 t1 x25 (fun g46 => q_Mo_apart_88L (nI (cnt (btQ (nI A)) 25)) (fun x52 g53 => if v = (-1 : Int32) then (some (x52, g53)) else (gd v 9 <| some ((gI g53 391 v.toNatClampNeg), g53))) FU (0 : Int32) g46) (cnt (btQ (nI A)) 25) 0 FU f1 (by omega) (Nat.lt_of_le_of_lt h8 (by decide)) (fun c hc => (p2.I (sOn_n (by decide))).trans (l3 c hc)) d1 p3 (fun a b ha => absurd ha (Nat.not_lt_zero _))
        have mk8 : mk (gI g 369 3) nx x (cnt (btQ (nI A)) 25) ≤ 8 := (mx_le _ _ _).mpr ⟨by omega, fun j _ hj => by have := kd_le (fun j => ky (gI g 369 3) nx (x j)) j; omega⟩
        obtain ⟨f3, r1, r2, r3⟩ := find_l (D := gI g 369 3) (nx := nx) (x := x) h8 (fun x52 g53 => if v = (-1 : Int32) then (some (x52, g53)) else (gd v 9 <| some ((gI g53 391 v.toNatClampNeg), g53))) _ 0 FU f2 (Nat.zero_add _) (Nat.lt_of_le_of_lt mk8 (by decide)) q3
        have um : Un sX g f3 := (((u1.tr l2).tr (sOn_sX (by omega) p2)).tr (sOn_sX (by omega) q2)).tr (sOn_sX (by omega) r2)
        have cc : q_MP_apart (nI A) v g = if v = (-1 : Int32) then (some (nI (mk (gI g 369 3) nx x (cnt (btQ (nI A)) 25)), g1)) else (gd v 8 <| some ((gI g1 258 v.toNatClampNeg), g1)) := by
          unfold q_MP_apart
          rw [if_neg a0, if_neg a1, if_pos hv.1, bc, bnd_s, if_neg n8, if_pos hv.2, t2, bnd_s]
          unfold q_Str_sortApart
          exact congrArg (fun x => bnd x _) s1
        have cm : q_Mo_apart (nI A) v g1 = if v = (-1 : Int32) then (some (nI (mk (gI g 369 3) nx x (cnt (btQ (nI A)) 25)), f3)) else (gd v 9 <| some ((gI f3 391 v.toNatClampNeg), f3)) := by
          unfold q_Mo_apart
          rw [wr_e, in_e (nI A) 0 33554431 0 33554431 rfl rfl, bnd_s, bI_t ha, if_neg (by decide), on, bnd_s, if_neg n8, on, bnd_s, in_e v (-1) (nI (cnt (btQ (nI A)) 25) - 1) (-1) _ rfl e64, bnd_s, bI_t ⟨hv.1, (ap_le h8 v).mpr hv.2⟩, if_neg (by decide), l1, bnd_s]
          exact p1.trans (q1.trans r1)
        by_cases z : v = -1
        · rw [if_pos z] at cc cm
          exact Sp.q cc cm (h.un um)
        · have v0 : ¬ v < 0 := fun q => z (ap_m1 hv.1 q)
          obtain ⟨k, hk, rfl⟩ := (nI_le_iff (n := cnt (btQ (nI A)) 25) (by omega) v v0).mp (Int32.le_of_lt hv.2)
          have kn : k < cnt (btQ (nI A)) 25 := by
            by_cases w : k = cnt (btQ (nI A)) 25
            · rw [w] at hv; exact (Int32.lt_irrefl hv.2).elim
            · omega
          rw [if_neg z, gd_nI (by omega) (by omega), nI_clamp (by omega), s3 k kn] at cc
          rw [if_neg z, gd_nI (by omega) (by omega), nI_clamp (by omega), r3 k kn] at cm
          exact Sp.q cc cm (h.un um)
      · refine Sp.q (r := -1) (g1 := g) (g2 := sI g 367 0 0) ?_ ?_ (inv_0 h)
        · unfold q_MP_apart
          rw [if_neg a0, if_neg a1]
          by_cases z : -1 ≤ v
          · rw [if_pos z, bc, bnd_s, if_neg n8, if_neg (fun q => hv ⟨z, q⟩)]
          · rw [if_neg z]
        · unfold q_Mo_apart
          rw [wr_e, in_e (nI A) 0 33554431 0 33554431 rfl rfl, bnd_s, bI_t ha, if_neg (by decide), on, bnd_s, if_neg n8, on, bnd_s, in_e v (-1) (nI (cnt (btQ (nI A)) 25) - 1) (-1) _ rfl e64, bnd_s, bI_f (fun q => hv ⟨q.1, (ap_le h8 v).mp q.2⟩), if_pos rfl]
    · have n8 : (8 : Int32) < nI (cnt (btQ (nI A)) 25) := nI_lt' (a := 8) (by omega) (by omega)
      refine Sp.q (r := -1) (g1 := g) (g2 := sI g 367 0 0) ?_ ?_ (inv_0 h)
      · unfold q_MP_apart
        rw [if_neg a0, if_neg a1]
        by_cases z : -1 ≤ v
        · rw [if_pos z, bc, bnd_s, if_pos n8]
        · rw [if_neg z]
      · unfold q_Mo_apart
        rw [wr_e, in_e (nI A) 0 33554431 0 33554431 rfl rfl, bnd_s, bI_t ha, if_neg (by decide), on, bnd_s, if_pos n8]
  · refine Sp.q (r := -1) (g1 := g) (g2 := sI g 367 0 0) ?_ ?_ (inv_0 h)
    · unfold q_MP_apart
      by_cases z : a < 0
      · rw [if_pos z]
      · rw [if_neg z, if_pos (Int32.not_le.mp (fun q => ha ⟨Int32.not_lt.mp z, q⟩))]
    · unfold q_Mo_apart
      rw [wr_e, in_e a 0 33554431 0 33554431 rfl rfl, bnd_s, bI_f ha, if_pos rfl]
