/-! kerbs, the calls -/
def kR (D : Int32) (Lo : Option Lw) (r : Nat → Int32) (c d : Nat) : Int32 := if kE D Lo r p0 c = d then 0 else sK (frK r c d) (T1 D Lo r c d) 25 0 (oK (frK r c d) (T2 D Lo r c d) 24 1)
theorem few_c {Lo : Option Lw} {D : Int32} {r : Nat → Int32} {g0 g : hG} {c d : Nat} (b : CB D r g0) (hc : c < 25) (hd : d < 25) (j : CJ Lo r g0 g) : ∃ g', q_MP_fewestKerbs (nI c) (nI d) g = some (kR D Lo r c d, g') ∧ CJ Lo r g0 g' := by
  obtain ⟨g1, a1, a2⟩ := ewk_c b j p0_bt hc
  have kl := kE_in D Lo r p0 hc
  unfold q_MP_fewestKerbs kR
  rw [a1, bnd_s]
  by_cases y : kE D Lo r p0 c = d
  · rw [if_pos (by rw [y]), if_pos y]
    exact ⟨g1, rfl, a2⟩
  · obtain ⟨fb, f1, f2⟩ := free_c (r := r) (cb_un b a2.1).1 hc hd 25 0 FU 0 (by omega) (by decide)
    rw [if_neg (fun q => y ((nI_eq (by omega) (by omega)).mp q)), if_neg y]
    unfold q_MP_freeForKerbs
    rw [show q_MP_freeForKerbs_4L (nI c) (nI d) (fun x5 g7 => some (x5, g7)) FU 0 0 g1 = _ from f1, bnd_s]
    have hf : ∀ j, j < 25 → (bt fb (nI j) ↔ frK r c d j = true) := fun j hj => (f2 j hj).trans ⟨fun q => by
      rcases q with q | q
      · exact absurd q (bt_0 j (by omega))
      · exact q.2, fun q => Or.inr ⟨by omega, q⟩⟩
    exact sing_c b hc hd hf (fun g j => outer_c b hc hd hf 24 1 FU g (by omega) (by decide) j) 25 0 FU g1 (by omega) (by decide) a2
theorem few_m {Lo : Option Lw} {D : Int32} {r : Nat → Int32} {f0 : hG} {c d : Nat} (hm : MomM f0 r) (w : WFm r) (hl : LEM f0 Lo) (hD : gI f0 369 3 = D) (hc : c < 25) (hd : d < 25) : ∃ f', q_Mo_kerbSet (nI c) (nI d) f0 = some (kR D Lo r c d, f') ∧ Un sX f0 f' := by
  obtain ⟨f1, a1, a2⟩ := ends_0 hm w hl hD hc hd
  unfold q_Mo_kerbSet kR
  rw [a1, bnd_s]
  by_cases y : kE D Lo r p0 c = d
  · rw [bI_t y, if_neg (by decide), if_pos y]
    exact ⟨f1, rfl, a2⟩
  · rw [bI_f y, if_pos rfl, if_neg y]
    exact sing_m hm w hl hD hc hd (fun f u => outer_m hm w hl hD hc hd 25 0 FU f (by omega) (by decide) u) 25 0 FU f1 (by omega) (by decide) a2
theorem p25_bit {i : Nat} (hi : i < 25) : P25 (shl 1 (nI i)) := by
  have : ∀ i, i < 25 → shl 1 (nI i) = nI (2 ^ i) ∧ 2 ^ i < 33554432 := by decide +kernel
  exact ⟨2 ^ i, (this i hi).2, (this i hi).1⟩
theorem sK_25 (fr T : Nat → Bool) {els : Int32} (he : els = -1 ∨ P25 els) : ∀ m i, i + m ≤ 25 → sK fr T m i els = -1 ∨ P25 (sK fr T m i els)
  | 0, _, _ => he
  | m + 1, i, h => by
    unfold sK
    by_cases z : fr i = true ∧ T i = true
    · rw [if_pos z]; exact Or.inr (p25_bit (by omega))
    · rw [if_neg z]; exact sK_25 fr T he m (i + 1) (by omega)
theorem pK_25 (fr : Nat → Bool) (T : Nat → Nat → Bool) {h : Nat} (hh : h < 25) {els : Int32} (he : els = -1 ∨ P25 els) : ∀ m i, i + m ≤ 25 → pK fr T h m i els = -1 ∨ P25 (pK fr T h m i els)
  | 0, _, _ => he
  | m + 1, i, hm => by
    unfold pK
    by_cases z : fr h = true ∧ fr i = true ∧ T h i = true
    · rw [if_pos z]; exact Or.inr (p25_or (p25_bit hh) (p25_bit (by omega)))
    · rw [if_neg z]; exact pK_25 fr T hh he m (i + 1) (by omega)
theorem oK_25 (fr : Nat → Bool) (T : Nat → Nat → Bool) : ∀ m h, h + m ≤ 25 → oK fr T m h = -1 ∨ P25 (oK fr T m h)
  | 0, _, _ => Or.inl rfl
  | m + 1, h, hm => by
    unfold oK
    exact pK_25 fr T (by omega) (oK_25 fr T m (h + 1) (by omega)) h 0 (by omega)
theorem kR_25 (D : Int32) (Lo : Option Lw) (r : Nat → Int32) (c d : Nat) : kR D Lo r c d = -1 ∨ P25 (kR D Lo r c d) := by
  unfold kR
  by_cases z : kE D Lo r p0 c = d
  · rw [if_pos z]; exact Or.inr ⟨0, by omega, rfl⟩
  · rw [if_neg z]; exact sK_25 _ _ (oK_25 _ _ 24 1 (by omega)) 25 0 (by omega)
theorem sp_kerbs {g : hG} (h : Inv g) (c d v : Int32) : Sp (q_MP_kerbs c d v) (q_Mo_kerbs c d v) g := by
  by_cases hc : isC c
  · by_cases hd : isC d
    · by_cases hv : 0 ≤ v ∧ v ≤ 1
      · have v0 : ¬ v < 0 := Int32.not_lt.mpr hv.1
        have v1 : ¬ (1 : Int32) < v := Int32.not_lt.mpr hv.2
        by_cases hdr : bt (gI g 1 1) d
        · obtain ⟨m1, m2, m3, m4, m5, m6, m7, m8⟩ := inv_m h
          obtain ⟨Lo, L1, L2⟩ := law_force h
          obtain ⟨k, hk, rfl⟩ := isC_n hc
          obtain ⟨e, he, rfl⟩ := isC_n hd
          obtain ⟨gf, f1, f2, f3, f4, f5⟩ := face_c (b := 2) (l := gI g 1 9) (Lo := Lo) rfl m1 m4 m5 L1
          have cb : CB (gI g 369 3) (fun i => gI g 369 (4 + i)) g := ⟨m1, m4, m5, m7⟩
          have cj : CJ Lo (fun i => gI g 369 (4 + i)) g gf := by
            refine ⟨sW_sX f5, f2.2.1, f3, fun c => decide (bt (gI gf 250 7) (nI c)), fun c hc => decide_eq_true_iff, fun d hd q => ?_⟩
            have e : hP (fun i => gI g 369 (4 + i)) (fun c => decide (bt (gI gf 250 7) (nI c))) d = hiR (fun i => gI g 369 (4 + i)) d := by
              rw [f2.2.2.2.2.2 d hd]
              by_cases z : bt (gI gf 250 7) (nI d)
              · rw [if_pos z, hP_t hd (decide_eq_true z)]
              · rw [if_neg z, hP_f (fun q => z (of_decide_eq_true q))]
            rw [e]
            exact f4 d hd q
          obtain ⟨g1, a1, a2⟩ := few_c cb hk he cj
          have u1 := a2.1
          have rs : ∀ i, gI (sI g1 367 0 0) 369 i = gI g 369 i := fun i => by rw [rd_a (by decide), u1.I rfl]
          obtain ⟨f', b1, b2⟩ := few_m (Lo := Lo) (m3.ex rs) m2 (L2.ex rs (by rw [rd_k (by decide), u1.I rfl])) (rs 3) hk he
          generalize hR : kR (gI g 369 3) Lo (fun i => gI g 369 (4 + i)) k e = R at *
          have r25 := kR_25 (gI g 369 3) Lo (fun i => gI g 369 (4 + i)) k e
          rw [hR] at r25
          have cc : q_MP_kerbs (nI k) (nI e) v g = if v = (1 : Int32) then (some (R, g1)) else (if R = (-1 : Int32) then (some (R, g1)) else (some (bcF R, g1))) := by
            unfold q_MP_kerbs
            rw [isCell_c, bnd_s, bI_t hc, if_neg (by decide), isCell_c, bnd_s, bI_t hd, if_neg (by decide), if_neg v0, if_neg v1, hasDoor_c, bnd_s, bI_t hdr, if_neg (by decide), f1, bnd_s, a1, bnd_s, bc_e, bnd_s]
          have dd : gI (sI g1 367 0 0) 369 3 = gI g 1 1 := by rw [rs, m7]
          have cm : q_Mo_kerbs (nI k) (nI e) v g1 = if R = (-1 : Int32) then (some (R, f')) else (if v = (1 : Int32) then (some (R, f')) else (some (onesF R, f'))) := by
            unfold q_Mo_kerbs
            rw [wr_e, isCell_m, bnd_s, bI_t hc, if_neg (by decide), isCell_m, bnd_s, bI_t hd, if_neg (by decide), in_e v 0 1 0 1 rfl rfl, bnd_s, bI_t hv, if_neg (by decide), hasDoor_m, bnd_s, dd, bI_t hdr, if_neg (by decide), b1, bnd_s, ones_m, bnd_s]
          have inv : Inv f' := h.un ((u1.sI rfl _).tr b2)
          by_cases z : R = -1
          · rw [if_pos z] at cc cm
            by_cases y : v = 1
            · rw [if_pos y] at cc; exact Sp.q cc cm inv
            · rw [if_neg y] at cc; exact Sp.q cc cm inv
          · rw [if_neg z] at cc cm
            by_cases y : v = 1
            · rw [if_pos y] at cc cm; exact Sp.q cc cm inv
            · rw [if_neg y] at cc cm
              rcases r25 with q | ⟨n, hn, q⟩
              · exact absurd q z
              · rw [q, bc_n hn] at cc
                rw [q, onesF_n] at cm
                exact Sp.q cc cm inv
        · refine Sp.q (r := -1) (g1 := g) (g2 := sI g 367 0 0) ?_ ?_ (inv_0 h)
          · unfold q_MP_kerbs
            rw [isCell_c, bnd_s, bI_t hc, if_neg (by decide), isCell_c, bnd_s, bI_t hd, if_neg (by decide), if_neg v0, if_neg v1, hasDoor_c, bnd_s, bI_f hdr, if_pos rfl]
          · unfold q_Mo_kerbs
            rw [wr_e, isCell_m, bnd_s, bI_t hc, if_neg (by decide), isCell_m, bnd_s, bI_t hd, if_neg (by decide), in_e v 0 1 0 1 rfl rfl, bnd_s, bI_t hv, if_neg (by decide), hasDoor_m, bnd_s, show gI (sI g 367 0 0) 369 3 = gI g 1 1 by rw [rd_a (by decide), (inv_m h).2.2.2.2.2.2.1], bI_f hdr, if_pos rfl]
      · refine Sp.q (r := -1) (g1 := g) (g2 := sI g 367 0 0) ?_ ?_ (inv_0 h)
        · unfold q_MP_kerbs
          rw [isCell_c, bnd_s, bI_t hc, if_neg (by decide), isCell_c, bnd_s, bI_t hd, if_neg (by decide)]
          by_cases z : v < 0
          · rw [if_pos z]
          · rw [if_neg z, if_pos (Int32.not_le.mp (fun q => hv ⟨Int32.not_lt.mp z, q⟩))]
        · unfold q_Mo_kerbs
          rw [wr_e, isCell_m, bnd_s, bI_t hc, if_neg (by decide), isCell_m, bnd_s, bI_t hd, if_neg (by decide), in_e v 0 1 0 1 rfl rfl, bnd_s, bI_f hv, if_pos rfl]
    · refine Sp.q (r := -1) (g1 := g) (g2 := sI g 367 0 0) ?_ ?_ (inv_0 h)
      · unfold q_MP_kerbs
        rw [isCell_c, bnd_s, bI_t hc, if_neg (by decide), isCell_c, bnd_s, bI_f hd, if_pos rfl]
      · unfold q_Mo_kerbs
        rw [wr_e, isCell_m, bnd_s, bI_t hc, if_neg (by decide), isCell_m, bnd_s, bI_f hd, if_pos rfl]
  · refine Sp.q (r := -1) (g1 := g) (g2 := sI g 367 0 0) ?_ ?_ (inv_0 h)
    · unfold q_MP_kerbs
      rw [isCell_c, bnd_s, bI_f hc, if_pos rfl]
    · unfold q_Mo_kerbs
      rw [wr_e, isCell_m, bnd_s, bI_f hc, if_pos rfl]
