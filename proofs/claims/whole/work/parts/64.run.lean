/-! run, basin, springs -/
theorem both_tr {g : hG} (h : Inv g) : ∃ (S : Nat → Int32) (nx : Nat → Nat) (gt : hG), Fall S nx ∧ q_MP_traceRuns g = some ((), gt) ∧ Un sX g gt ∧ TrR gt nx ∧ gI gt 254 5 = gI g 369 3 ∧ (∀ c, c < 25 → nx c < 25) ∧ (∀ c, c < 25 → bt (gI g 369 3) (nI c) → nx c = c) ∧ ∀ f, Un sX g f → ∃ gm, q_Mo_layRuns (sI f 367 0 0) = some ((), gm) ∧ Un sX f gm ∧ ∀ d, d < 25 → gI gm 389 d = nI (nx d) := by
  obtain ⟨m1, m2, m3, m4, m5, m6, m7, m8⟩ := inv_m h
  obtain ⟨Lo, hl, hl2⟩ := law_both h (gI g 369 2) (force_ok h)
  have hM : LEM g Lo := ⟨⟨m6, inv_bk h⟩, hl2⟩
  obtain ⟨gf, f1, f2, f3, f4, f5⟩ := face_c (b := 2) (l := gI g 1 9) rfl m1 m4 m5 (by rw [m8]; exact hl)
  have d1 : gI gf 1 1 = gI g 369 3 := (f5.I rfl).trans m7
  have F2 : Faced (sI gf 254 5 (gI g 369 3)) 2 (fun i => gI g 369 (4 + i)) (hiR (fun i => gI g 369 (4 + i))) := f2.ex (by rw [gP_sI]) (fun j k hj => rd_a (mom_254 f2.1 j hj)) (rd_a (by decide)) (rd_a (by decide)) (rd_a (by decide))
  obtain ⟨g1, a1, a2, a3⟩ := tr1 (D := gI g 369 3) (fun g10 => q_Str_trace_19L (fun g26 => some ((), g26)) FU (0 : Int32) g10) 25 0 FU (sI gf 254 5 (gI g 369 3)) (by omega) (by decide) F2
    (by rw [rd_a (by decide)]; exact f3.ex (fun a k ha => rd_a (by omega)))
    (fun d hd q => by
      rw [rd_a (by decide)] at q
      rw [rd_a (by decide), rd_a (by decide)]
      exact f4 d hd q)
    (by rw [rd_a (by decide)]; exact d1) (fun d hd => by omega)
  have a4 : ∀ c, c < 25 → gI g1 255 c = nI (nxN (gI g 369 3) (SV Lo (fun i => gI g 369 (4 + i)) (hiR (fun i => gI g 369 (4 + i)))) (HV Lo (fun i => gI g 369 (4 + i)) (hiR (fun i => gI g 369 (4 + i)))) c) := fun c hc => (a3 c hc).trans (nxN_e _ _ _ hc).1
  have fall := nxN_fall (gI g 369 3) (SV Lo (fun i => gI g 369 (4 + i)) (hiR (fun i => gI g 369 (4 + i)))) (HV Lo (fun i => gI g 369 (4 + i)) (hiR (fun i => gI g 369 (4 + i))))
  obtain ⟨g', e1, e2, e3⟩ := tr2 fall 25 0 FU g1 (by omega) (by decide) a4 (fun c hc => by omega)
  have u0 : Un sX g (sI gf 254 5 (gI g 369 3)) := (sW_sX f5).sI rfl _
  refine ⟨_, _, g', fall, ?_, u0.tr (sTr_sX (a2.tr e2)), e3, ?_, fun c hc => (nxN_e _ _ _ hc).2, fun c hc hd => ?_, fun f uf => ?_⟩
  · unfold q_MP_traceRuns q_Str_trace
    rw [f1, bnd_s, d1, wr_e]
    exact congrArg (fun x => bnd x _) (a1.trans e1)
  · rw [e2.I rfl, a2.I rfl, rd_s]
  · unfold nxN nextF
    rw [if_pos hd, nI_clamp (by omega)]
  · have rs : ∀ i, gI (sI f 367 0 0) 369 i = gI g 369 i := fun i => by rw [rd_a (by decide), uf.I rfl]
    obtain ⟨gm, t1, t2, t3⟩ := lay_m m2 (m3.ex rs) (hM.ex rs (by rw [rd_k (by decide), uf.I rfl]))
    refine ⟨gm, t1, (Un.rf.sI rfl _).tr (sV_sX t2), fun d hd => ?_⟩
    rw [t3 d hd, rs]
    exact (nxN_e _ _ _ hd).1
theorem hF_pos {S : Nat → Int32} {nx : Nat → Nat} (h : Fall S nx) {c : Nat} (hc : c < 25) : hF nx 25 c = if nx c = c then 0 else hF nx 25 (nx c) + 1 := by
  rw [← (hF_big h hc 1).1]
  rfl
theorem nn_e {v : Int32} (h : ¬ v < 0) : ∃ m, m < 2 ^ 31 ∧ v = nI m := by
  obtain ⟨m, h1, h2⟩ := (nI_le_iff (n := 2147483647) (by decide) v h).mp (by
    rw [Int32.le_iff_toInt_le, show (nI 2147483647).toInt = 2147483647 from by decide]
    have := v.toInt_lt
    omega)
  exact ⟨m, by omega, h2⟩
/-- the place behind so many hours: model -/
theorem behind_m {S : Nat → Int32} {nx : Nat → Nat} (h : Fall S nx) (m : Nat) (hm : m < 2 ^ 31) (k : Int32 → hG → hO Int32) (g : hG) (hg : ∀ c, c < 25 → gI g 389 c = nI (nx c)) : ∀ f c v, c < 25 → rk S c < f → v + rk S c < 25 → q_Mo_behind_4L (nI m) k f (nI c) (nI v) g = k (nI (eF nx (m - v) c)) g
  | 0, c, v, _, hr, _ => by omega
  | f + 1, c, v, hc, hr, hv => by
    rw [q_Mo_behind_4L_s]
    unfold q_Mo_behind_4
    by_cases y : m ≤ v
    · rw [if_pos (nI_le y (by omega)), show m - v = 0 by omega, eF]
    · obtain ⟨w, hw⟩ : ∃ w, m - v = w + 1 := ⟨m - v - 1, by omega⟩
      rw [if_neg (nI_ge (by omega) hm), gd_nI hc (by omega), nI_clamp (by omega), hg c hc, hw, eF]
      by_cases z : nx c = c
      · rw [z, if_pos rfl, if_pos rfl]
      · obtain ⟨n1, n2⟩ := h c hc
        have r1 := rk_fall n1 (n2 z)
        rw [if_neg (fun q => z ((nI_eq (by omega) (by omega)).mp q)), gd_nI hc (by omega), nI_1, behind_m h m hm k g hg f (nx c) (v + 1) n1 (by omega) (by omega), if_neg z, show m - (v + 1) = w by omega]
theorem hours_m {S : Nat → Int32} {nx : Nat → Nat} (h : Fall S nx) (k : Int32 → hG → hO Int32) (g : hG) (hg : ∀ c, c < 25 → gI g 389 c = nI (nx c)) : ∀ f c v, c < 25 → rk S c < f → v + rk S c < 25 → q_Mo_hoursOf_4L k f (nI c) (nI v) g = k (nI (v + hF nx f c)) g
  | 0, c, v, _, hr, _ => by omega
  | f + 1, c, v, hc, hr, hv => by
    rw [q_Mo_hoursOf_4L_s]
    unfold q_Mo_hoursOf_4
    rw [gd_nI hc (by omega), nI_clamp (by omega), hg c hc]
    by_cases z : nx c = c
    · rw [z, if_pos rfl, hF, if_pos z, Nat.add_zero]
    · obtain ⟨n1, n2⟩ := h c hc
      have r1 := rk_fall n1 (n2 z)
      rw [if_neg (fun q => z ((nI_eq (by omega) (by omega)).mp q)), gd_nI hc (by omega), nI_1, hours_m h k g hg f (nx c) (v + 1) n1 (by omega) (by omega), hF, if_neg z, show v + 1 + hF nx f (nx c) = v + (hF nx f (nx c) + 1) by omega]
/-- class -/
theorem after_c {S : Nat → Int32} {nx : Nat → Nat} (h : Fall S nx) (m : Nat) (hm : m < 2 ^ 31) (k : Int32 → hG → hO Int32) (g : hG) (hg : TrR g nx) {c0 : Nat} (h0 : c0 < 25) : ∀ f c v, c < 25 → rk S c < f → v + rk S c < 25 → hF nx 25 c0 = v + hF nx 25 c → q_Str_placeAfter_4L (nI c0) (nI m) k f (nI c) (nI v) g = k (nI (eF nx (m - v) c)) g
  | 0, c, v, _, hr, _, _ => by omega
  | f + 1, c, v, hc, hr, hv, he => by
    rw [q_Str_placeAfter_4L_s]
    unfold q_Str_placeAfter_4
    by_cases y : m ≤ v
    · rw [if_pos (nI_le y (by omega)), show m - v = 0 by omega, eF]
    · obtain ⟨w, hw⟩ : ∃ w, m - v = w + 1 := ⟨m - v - 1, by omega⟩
      have hp := hF_pos h hc
      rw [if_neg (nI_ge (by omega) hm), gd_nI h0 (by omega), nI_clamp (show c0 < 2 ^ 31 by omega), (hg c0 h0).2.1, hw, eF, he]
      by_cases z : nx c = c
      · rw [if_pos z] at hp
        rw [if_pos z, hp, if_pos (nI_le (by omega) (by omega))]
      · obtain ⟨n1, n2⟩ := h c hc
        have r1 := rk_fall n1 (n2 z)
        rw [if_neg z] at hp
        have b := (hF_in h 25 c hc (rk_lt c hc)).1
        rw [if_neg (nI_ge (by omega) (by omega)), gd_nI hc (by omega), nI_clamp (by omega), (hg c hc).1, nI_1, after_c h m hm k g hg h0 f (nx c) (v + 1) n1 (by omega) (by omega) (by omega), if_neg z, show m - (v + 1) = w by omega]
theorem sp_run {g : hG} (h : Inv g) (c n : Int32) : Sp (q_MP_run c n) (q_Mo_run c n) g := by
  by_cases hc : isC c
  · obtain ⟨k, hk, rfl⟩ := isC_n hc
    by_cases hn : (-1 : Int32) ≤ n
    · obtain ⟨S, nx, gt, t1, t2, t3, t4, t5, t6, t7, t8⟩ := both_tr h
      obtain ⟨gm, l1, l2, l3⟩ := t8 gt t3
      have r0 := rk_lt (S := S) k hk
      have hi : Inv gm := h.un (t3.tr l2)
      have ic : isC (nI k) := hc
      by_cases n1 : n = -1
      · subst n1
        refine Sp.q (r := nI (hF nx 25 k)) (g1 := gt) (g2 := gm) ?_ ?_ hi
        · unfold q_MP_run
          rw [isCell_c, bnd_s, bI_t hc, if_neg (by decide), if_pos hn, t2, bnd_s, if_pos rfl, gd_nI hk (by omega), nI_clamp (by omega), (t4 k hk).2.1]
        · unfold q_Mo_run
          rw [wr_e, isCell_m, bnd_s, bI_t hc, if_neg (by decide), if_pos hn]
          rw [l1, bnd_s, if_pos rfl]
          unfold q_Mo_hoursOf
          rw [show (0 : Int32) = nI 0 from rfl, hours_m t1 _ gm l3 FU k 0 hk (Nat.lt_of_lt_of_le r0 (by decide)) (by omega), bnd_s, Nat.zero_add, FU_25, (hF_big t1 hk _).1]
      · have n0 : ¬ n < 0 := by
          rw [Int32.lt_iff_toInt_lt]
          rw [Int32.le_iff_toInt_le] at hn
          rw [← Int32.toInt_inj] at n1
          have a1 : (-1 : Int32).toInt = -1 := by decide
          have a0 : (0 : Int32).toInt = 0 := by decide
          omega
        obtain ⟨m, hm, rfl⟩ := nn_e n0
        refine Sp.q (r := nI (eF nx (m - 0) k)) (g1 := gt) (g2 := gm) ?_ ?_ hi
        · unfold q_MP_run
          rw [isCell_c, bnd_s, bI_t hc, if_neg (by decide), if_pos hn, t2, bnd_s, if_neg n1]
          unfold q_Str_placeAfter
          rw [show (0 : Int32) = nI 0 from rfl, after_c t1 m hm _ gt t4 hk FU k 0 hk (Nat.lt_of_lt_of_le r0 (by decide)) (by omega) (by omega), bnd_s]
        · unfold q_Mo_run
          rw [wr_e, isCell_m, bnd_s, bI_t hc, if_neg (by decide), if_pos hn, l1, bnd_s, if_neg n1]
          unfold q_Mo_behind
          rw [show (0 : Int32) = nI 0 from rfl, behind_m t1 m hm _ gm l3 FU k 0 hk (Nat.lt_of_lt_of_le r0 (by decide)) (by omega), bnd_s]
    · refine Sp.q (r := -1) (g1 := g) (g2 := sI g 367 0 0) ?_ ?_ (inv_0 h)
      · unfold q_MP_run
        rw [isCell_c, bnd_s, bI_t hc, if_neg (by decide), if_neg hn]
      · unfold q_Mo_run
        rw [wr_e, isCell_m, bnd_s, bI_t hc, if_neg (by decide), if_neg hn]
  · refine Sp.q (r := -1) (g1 := g) (g2 := sI g 367 0 0) ?_ ?_ (inv_0 h)
    · unfold q_MP_run
      rw [isCell_c, bnd_s, bI_f hc, if_pos rfl]
    · unfold q_Mo_run
      rw [wr_e, isCell_m, bnd_s, bI_f hc, if_pos rfl]
