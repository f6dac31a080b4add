/-! pools -/
theorem pools_l {nx : Nat → Nat} {g f : hG} {D : Int32} (hn : ∀ c, c < 25 → nx c < 25) (hg : TrR g nx) (hd : gI g 254 5 = D) (hf : M389 f nx) (hd2 : gI f 369 3 = D) : ∀ (m i F F' : Nat) (x : Int32), i + m = 25 → m < F → m < F' → ∃ r, q_Str_stillWithoutDoor_4L (fun x7 g9 => some (x7, g9)) F x (nI i) g = some (r, g) ∧ q_Mo_pools_9L (fun x11 g13 => some (x11, g13)) F' x (nI i) f = some (r, f) := by
  intro m
  induction m with
  | zero =>
    intro i F F' x h1 h2 h3
    obtain ⟨F, rfl⟩ : ∃ q, F = q + 1 := ⟨F - 1, by omega⟩
    obtain ⟨F', rfl⟩ : ∃ q, F' = q + 1 := ⟨F' - 1, by omega⟩
    obtain rfl : i = 25 := by omega
    rw [q_Str_stillWithoutDoor_4L_s, q_Mo_pools_9L_s]
    unfold q_Str_stillWithoutDoor_4 q_Mo_pools_9
    rw [if_pos (by decide), if_pos (by decide)]
    exact ⟨_, rfl, rfl⟩
  | succ m ih =>
    intro i F F' x h1 h2 h3
    obtain ⟨F, rfl⟩ : ∃ q, F = q + 1 := ⟨F - 1, by omega⟩
    obtain ⟨F', rfl⟩ : ∃ q, F' = q + 1 := ⟨F' - 1, by omega⟩
    have hi : i < 25 := by omega
    have ne : ¬ (25 : Int32) ≤ nI i := nI_ge (a := i) (b := 25) (by omega) (by decide)
    have n1 := fun x => ih (i + 1) F F' x (by omega) (by omega) (by omega)
    rw [q_Str_stillWithoutDoor_4L_s, q_Mo_pools_9L_s]
    unfold q_Str_stillWithoutDoor_4 q_Mo_pools_9
    rw [if_neg ne, if_neg ne, gd_nI hi (by omega), gd_nI hi (by omega), nI_clamp (by omega), (hg i hi).1, hf i hi, nI_1]
    by_cases z : nI (nx i) = nI i
    · rw [if_pos z, if_pos z, isA_c, bnd_s, hasDoor_m, bnd_s, hd, hd2]
      by_cases y : bt D (nI i)
      · rw [bI_t y, if_neg (by decide), if_neg (by decide), show x ||| 0 = x from Int32.or_zero]
        exact n1 _
      · rw [bI_f y, if_pos rfl, if_pos rfl]
        exact n1 _
    · rw [if_neg z, if_neg z, show x ||| 0 = x from Int32.or_zero]
      exact n1 _
theorem sp_pools {g : hG} (h : Inv g) : Sp q_MP_pools q_Mo_pools g := by
  obtain ⟨S, nx, gt, t1, t2, t3, t4, t5, t6, t7, t8⟩ := both_tr h
  obtain ⟨gm, l1, l2, l3⟩ := t8 gt t3
  obtain ⟨r, e1, e2⟩ := pools_l (D := gI g 369 3) t6 t4 t5 l3 (by rw [l2.I rfl, t3.I rfl]) 25 0 FU FU 0 (by omega) (by decide) (by decide)
  refine Sp.q (r := r) (g1 := gt) (g2 := gm) ?_ ?_ (h.un (t3.tr l2))
  · unfold q_MP_pools q_Str_stillWithoutDoor
    rw [t2, bnd_s]
    exact congrArg (fun x => bnd x _) e1
  · unfold q_Mo_pools
    rw [wr_e, l1, bnd_s]
    exact e2
