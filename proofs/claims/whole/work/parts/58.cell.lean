/-! cell, compare -/
def sW (a _k : Nat) : Bool := a == 248 || a == 250 || a == 251 || a == 252 || a == 253
theorem sS_sW {g g' : hG} (u : Un sS g g') : Un sW g g' := u.mo (fun a k z => Bool.eq_false_iff.mpr (fun y => by
  have z' := Bool.eq_false_iff.mp z
  simp only [sS, sW, Ne, Bool.or_eq_true, Bool.and_eq_true, beq_iff_eq] at y z'
  omega))
theorem sW_sX {g g' : hG} (u : Un sW g g') : Un sX g g' := u.mo (fun a k z => Bool.eq_false_iff.mpr (fun y => by
  have z' := Bool.eq_false_iff.mp z
  simp only [sW, sX, sC, Ne, Bool.or_eq_true, Bool.and_eq_true, beq_iff_eq, Nat.ble_eq] at y z'
  omega))
theorem sV_sX {g g' : hG} (u : Un sV g g') : Un sX g g' := u.mo (fun a k z => Bool.eq_false_iff.mpr (fun y => by
  have z' := Bool.eq_false_iff.mp z
  simp only [sV, sT, sX, sM, sMf, Ne, Bool.or_eq_true, Bool.and_eq_true, beq_iff_eq, Nat.ble_eq] at y z'
  omega))
theorem LwC.ex {L : Lw} {g g' : hG} {t : Nat} (h : LwC L g t) (q : ∀ j k, j ≤ 6 → gI g' (t + j) k = gI g (t + j) k) : LwC L g' t := by
  obtain ⟨h1, h2, h3⟩ := h
  refine ⟨h1, (q 0 2 (by omega)).trans h2, fun i hi => ?_⟩
  obtain ⟨k1, k2, k3, k4, k5⟩ := h3 i hi
  rw [q 2 i (by omega), q 6 i (by omega), q 3 i (by omega), show gI g' t 1 = gI g t 1 from q 0 1 (by omega)]
  exact ⟨k1, k2.ex (fun j _ => q 1 j (by omega)), k3, fun z => ⟨(k4 z).1.ex (fun j _ => q 1 j (by omega)), (k4 z).2⟩, k5⟩
theorem LE.ex {g g' : hG} {l : Int32} {Lo : Option Lw} (h : LE g l Lo) (q : ∀ a k, a ≤ 51 → gI g' a k = gI g a k) : LE g' l Lo := by
  rcases h with ⟨h1, h2⟩ | ⟨k, n, L, h1, h2, h3, h4, h5, h6⟩
  · exact Or.inl ⟨h1, by rw [q _ _ (by omega)]; exact h2⟩
  · exact Or.inr ⟨k, n, L, h1, h2, h3, (q _ _ (by omega)).trans h4, h5, h6.ex (fun j k' hj => q _ _ (by omega))⟩
theorem mom_sW {b : Nat} (h : is_mom b = true) (j : Nat) (hj : j ≤ 4) : ¬ b + j = 250 := by
  have : ∀ a ∈ momL, ∀ j, j ≤ 4 → a + j ≠ 250 := by decide +kernel
  exact this b (mom_in h) j hj
theorem face_c {g : hG} {b : Nat} {r : Nat → Int32} {l : Int32} {Lo : Option Lw} (hb : is_mom b = true) (hm : MomR g b r) (c1 : gI g 1 2 = r 1) (c2 : gI g 1 3 = r 2) (hl : LE g l Lo) : ∃ gf, q_Slope_face b l g = some ((), gf) ∧ Faced gf b r (hiR r) ∧ LE gf (gI gf 250 6) Lo ∧ SlOK gf Lo r (hiR r) ∧ Un sW g gf := by
  refine ⟨sI (sI (sI (sP g 250 5 (some b)) 250 6 l) 250 7 0) 250 8 0, rfl, ⟨hb, ?_, hm.ex (fun j k hj => ?_) (fun _ _ _ _ => rfl), ?_, ?_, fun c hc => ?_⟩, ?_, fun d hd q => ?_, (((Un.rf.sP rfl _).sI rfl _).sI rfl _).sI rfl _⟩
  · rw [gP_sI, gP_sI, gP_sI, gP_sP, if_pos ⟨rfl, rfl⟩]
  · rw [rd_a (mom_sW hb j hj), rd_a (mom_sW hb j hj), rd_a (mom_sW hb j hj)]; rfl
  · rw [rd_a (by decide), rd_a (by decide), rd_a (by decide)]; exact c1
  · rw [rd_a (by decide), rd_a (by decide), rd_a (by decide)]; exact c2
  · rw [rd_k (by decide), rd_s, if_neg (bt_0 c (by omega))]
  · rw [rd_k (by decide), rd_k (by decide), rd_s]
    exact hl.ex (fun a k ha => by rw [rd_a (by omega), rd_a (by omega), rd_a (by omega)]; rfl)
  · rw [rd_s] at q
    exact absurd q (bt_0 d (by omega))
/-- what is asked of the state by both -/
theorem inv_m {g : hG} (h : Inv g) : MomR g 2 (fun i => gI g 369 (4 + i)) ∧ WFm (fun i => gI g 369 (4 + i)) ∧ MomM g (fun i => gI g 369 (4 + i)) ∧ gI g 1 2 = gI g 369 (4 + 1) ∧ gI g 1 3 = gI g 369 (4 + 2) ∧ gI g 367 20 = 0 ∧ gI g 1 1 = gI g 369 3 ∧ gI g 1 9 = gI g 369 2 :=
  ⟨h.1.1.1, h.1.2.1, fun _ _ => rfl, h.1.1.2.1.2.1, h.1.1.2.1.2.2.1, h.2.2.2.2.2.2.1, h.1.1.2.1.1, h.1.1.2.1.2.2.2.2.2⟩
theorem inv_bk {g : hG} (h : Inv g) : gI g 369 5 ≠ BRK ∧ gI g 369 6 ≠ BRK := by
  obtain ⟨-, -, ⟨a, ha, ea⟩, ⟨b, hb, eb⟩, -⟩ := h.1.2
  have pos : ∀ n : Nat, n ≤ 10 → nI n ≠ BRK := by decide +kernel
  exact ⟨by rw [ea]; exact pos a ha, by rw [eb]; exact pos b (by omega)⟩
theorem LEM.ex {g g' : hG} {Lo : Option Lw} (h : LEM g Lo) (q : ∀ i, gI g' 369 i = gI g 369 i) (q2 : gI g' 367 20 = gI g 367 20) : LEM g' Lo := by
  obtain ⟨h0, h⟩ := h
  refine ⟨⟨q2.trans h0.1, by rw [q]; exact h0.2.1, by rw [q]; exact h0.2.2⟩, ?_⟩
  rcases h with ⟨h1, h2⟩ | ⟨k, L, h1, h2, h3, h4⟩
  · exact Or.inl ⟨h1, (q _).trans h2⟩
  · refine Or.inr ⟨k, L, (q _).trans h1, h2, h3, ?_⟩
    have e : (fun i => gI g' 369 (68 + 900 * k + i)) = fun i => gI g 369 (68 + 900 * k + i) := funext (fun i => q _)
    rw [e]; exact h4
theorem MomM.ex {g g' : hG} {r : Nat → Int32} (h : MomM g r) (q : ∀ i, gI g' 369 i = gI g 369 i) : MomM g' r := fun i hi => (q _).trans (h i hi)
theorem HVb (b : Bool) : (if bI (b = true) = 0 then (0 : Int32) else 1) = bI (b = true) := by cases b <;> decide
theorem sp_cell {g : hG} (h : Inv g) (c what : Int32) : Sp (q_MP_cell c what) (q_Mo_cell c what) g := by
  by_cases hc : isC c
  · obtain ⟨n, hn, rfl⟩ := isC_n hc
    obtain ⟨m1, m2, m3, m4, m5, m6, m7, m8⟩ := inv_m h
    obtain ⟨Lo, hl, hl2⟩ := law_both h (gI g 369 2) (force_ok h)
    have hM : LEM g Lo := ⟨⟨m6, inv_bk h⟩, hl2⟩
    obtain ⟨gf, f1, f2, f3, f4, f5⟩ := face_c (b := 2) (l := gI g 1 9) rfl m1 m4 m5 (by rw [m8]; exact hl)
    have hf : Inv (sI gf 367 0 0) := (h.un (sW_sX f5)).un (Un.rf.sI rfl _)
    have rq : ∀ i, gI (sI gf 367 0 0) 369 i = gI g 369 i := fun i => by rw [rd_a (by decide), f5.I rfl]
    have M0 : MomM (sI gf 367 0 0) (fun i => gI g 369 (4 + i)) := m3.ex rq
    have fin : ∀ (v : Int32) (g1 g2 : hG), q_MP_cell (nI n) what g = some (v, g1) → q_Mo_cell (nI n) what g1 = some (v, g2) → Un sX g g1 → Un sX g1 g2 → Sp (q_MP_cell (nI n) what) (q_Mo_cell (nI n) what) g := fun v g1 g2 e1 e2 u1 u2 => Sp.q e1 e2 (h.un (u1.tr u2))
    have fX := sW_sX f5
    by_cases w0 : what = 0
    · subst w0
      refine fin (gI g 369 (4 + (3 + n))) gf (sI gf 367 0 0) ?_ ?_ fX (Un.rf.sI rfl _)
      · unfold q_MP_cell
        rw [isCell_c, bnd_s, bI_t hc, if_neg (by decide), f1, bnd_s, if_pos rfl, gd_nI hn (by omega), nI_clamp (by omega), f5.I rfl, m1.2.1 n hn]
      · unfold q_Mo_cell
        rw [wr_e, isCell_m, bnd_s, bI_t hc, if_neg (by decide), if_pos rfl, show (7 : Int32) + nI n = nI (7 + n) from nI_add 7 n, gd_nI (by omega) (by omega), nI_clamp (by omega), M0.hi hn]
    · by_cases w1 : what = 1
      · subst w1
        refine fin (bI (bt (gI g 369 3) (nI n))) gf (sI gf 367 0 0) ?_ ?_ fX (Un.rf.sI rfl _)
        · unfold q_MP_cell
          rw [isCell_c, bnd_s, bI_t hc, if_neg (by decide), f1, bnd_s, if_neg (by decide), if_pos rfl, hasDoor_c, bnd_s, f5.I rfl, m7]
          unfold bI; split <;> simp
        · unfold q_Mo_cell
          rw [wr_e, isCell_m, bnd_s, bI_t hc, if_neg (by decide), if_neg (by decide), if_pos rfl, hasDoor_m, bnd_s, rq]
          unfold bI; split <;> simp
      · by_cases w2 : what = 2
        · subst w2
          refine fin (loF (fun i => gI g 369 (4 + i)) (nI n)) gf (sI gf 367 0 0) ?_ ?_ fX (Un.rf.sI rfl _)
          · unfold q_MP_cell
            rw [isCell_c, bnd_s, bI_t hc, if_neg (by decide), f1, bnd_s, if_neg (by decide), if_neg (by decide), if_pos rfl, lo_c f2.2.2.1, bnd_s]
          · unfold q_Mo_cell
            rw [wr_e, isCell_m, bnd_s, bI_t hc, if_neg (by decide), if_neg (by decide), if_neg (by decide), if_pos rfl, lo_m M0, bnd_s]
        · by_cases w3 : what = 3
          · subst w3
            obtain ⟨gs, s1, s2⟩ := standOf_c f2 f3 f4 hn
            have uS : Un sX g gs := fX.tr (sW_sX (sS_sW s2))
            have rs : ∀ i, gI (sI gs 367 0 0) 369 i = gI g 369 i := fun i => by rw [rd_a (by decide), s2.I rfl, f5.I rfl]
            obtain ⟨gm, t1, t2⟩ := standsAt_m m2 (m3.ex rs) (hM.ex rs (by rw [rd_k (by decide), s2.I rfl, f5.I rfl])) hn
            refine fin (SV Lo (fun i => gI g 369 (4 + i)) (hiR (fun i => gI g 369 (4 + i))) n) gs gm ?_ ?_ uS ((Un.rf.sI rfl _).tr (sV_sX (sT_sV t2)))
            · unfold q_MP_cell
              rw [isCell_c, bnd_s, bI_t hc, if_neg (by decide), f1, bnd_s, if_neg (by decide), if_neg (by decide), if_neg (by decide), if_pos rfl, s1, bnd_s]
            · unfold q_Mo_cell
              rw [wr_e, isCell_m, bnd_s, bI_t hc, if_neg (by decide), if_neg (by decide), if_neg (by decide), if_neg (by decide), if_pos rfl, t1, bnd_s]
          · by_cases w4 : what = 4
            · subst w4
              obtain ⟨gs, s1, s2⟩ := holdsAt_c f2 f3 f4 hn
              have uS : Un sX g gs := fX.tr (sW_sX (sS_sW s2))
              have rs : ∀ i, gI (sI gs 367 0 0) 369 i = gI g 369 i := fun i => by rw [rd_a (by decide), s2.I rfl, f5.I rfl]
              obtain ⟨gm, t1, t2⟩ := isHeld_m m2 (m3.ex rs) (hM.ex rs (by rw [rd_k (by decide), s2.I rfl, f5.I rfl])) hn
              refine fin (bI (HV Lo (fun i => gI g 369 (4 + i)) (hiR (fun i => gI g 369 (4 + i))) n = true)) gs gm ?_ ?_ uS ((Un.rf.sI rfl _).tr (sV_sX (sT_sV t2)))
              · unfold q_MP_cell
                rw [isCell_c, bnd_s, bI_t hc, if_neg (by decide), f1, bnd_s, if_neg (by decide), if_neg (by decide), if_neg (by decide), if_neg (by decide), if_pos rfl, s1, bnd_s]
                unfold bI; split <;> simp
              · unfold q_Mo_cell
                rw [wr_e, isCell_m, bnd_s, bI_t hc, if_neg (by decide), if_neg (by decide), if_neg (by decide), if_neg (by decide), if_neg (by decide), if_pos rfl, t1, bnd_s]
                unfold bI; split <;> simp
            · by_cases w5 : what = 5
              · subst w5
                obtain ⟨gs, s1, s2, -⟩ := next_c f2 f3 f4 hn
                have uS : Un sX g gs := fX.tr (sW_sX (sS_sW s2))
                have rs : ∀ i, gI (sI gs 367 0 0) 369 i = gI g 369 i := fun i => by rw [rd_a (by decide), s2.I rfl, f5.I rfl]
                obtain ⟨gm, t1, t2, t3⟩ := lay_m m2 (m3.ex rs) (hM.ex rs (by rw [rd_k (by decide), s2.I rfl, f5.I rfl]))
                refine fin (nextF (gI g 369 3) (SV Lo (fun i => gI g 369 (4 + i)) (hiR (fun i => gI g 369 (4 + i)))) (HV Lo (fun i => gI g 369 (4 + i)) (hiR (fun i => gI g 369 (4 + i)))) n) gs gm ?_ ?_ uS ((Un.rf.sI rfl _).tr (sV_sX t2))
                · unfold q_MP_cell
                  rw [isCell_c, bnd_s, bI_t hc, if_neg (by decide), f1, bnd_s, if_neg (by decide), if_neg (by decide), if_neg (by decide), if_neg (by decide), if_neg (by decide), if_pos rfl, s1, bnd_s, f5.I rfl, m7]
                · unfold q_Mo_cell
                  rw [wr_e, isCell_m, bnd_s, bI_t hc, if_neg (by decide), if_neg (by decide), if_neg (by decide), if_neg (by decide), if_neg (by decide), if_neg (by decide), if_pos rfl, t1, bnd_s, gd_nI hn (by omega), nI_clamp (by omega), t3 n hn, rs]
              · refine fin (-1) gf (sI gf 367 0 0) ?_ ?_ fX (Un.rf.sI rfl _)
                · unfold q_MP_cell
                  rw [isCell_c, bnd_s, bI_t hc, if_neg (by decide), f1, bnd_s, if_neg w0, if_neg w1, if_neg w2, if_neg w3, if_neg w4, if_neg w5]
                · unfold q_Mo_cell
                  rw [wr_e, isCell_m, bnd_s, bI_t hc, if_neg (by decide), if_neg w0, if_neg w1, if_neg w2, if_neg w3, if_neg w4, if_neg w5]
  · refine Sp.q (r := -1) (g1 := g) (g2 := sI g 367 0 0) ?_ ?_ (inv_0 h)
    · unfold q_MP_cell
      rw [isCell_c, bnd_s, bI_f hc, if_pos rfl]
    · unfold q_Mo_cell
      rw [wr_e, isCell_m, bnd_s, bI_f hc, if_pos rfl]
theorem sp_compare {g : hG} (h : Inv g) (l c : Int32) : Sp (q_MP_compare l c) (q_Mo_compare l c) g := by
  obtain ⟨nl, hnl, l1, l2⟩ := laws_n h
  by_cases hv : isLw nl l
  · by_cases hc : isC c
    · obtain ⟨n, hn, rfl⟩ := isC_n hc
      obtain ⟨m1, m2, m3, m4, m5, m6, m7, m8⟩ := inv_m h
      obtain ⟨Lo, hl, hl2⟩ := law_both h l (fun n' hn' e => by
        obtain rfl : nl = n' := by rw [l2, nI_eq (by omega) (by omega)] at e; exact e
        exact (law_nI hnl l).mp hv)
      obtain ⟨gf, f1, f2, f3, f4, f5⟩ := face_c (b := 2) (l := l) rfl m1 m4 m5 hl
      obtain ⟨gs, s1, s2, -⟩ := next_c f2 f3 f4 hn
      have uS : Un sX g gs := (sW_sX f5).tr (sW_sX (sS_sW s2))
      have rs : ∀ i, i ≠ 2 → gI (sI (sI gs 367 0 0) 369 2 l) 369 i = gI g 369 i := fun i hi => by rw [rd_k hi, rd_a (by decide), uS.I rfl]
      have M1 : MomM (sI (sI gs 367 0 0) 369 2 l) (fun i => gI g 369 (4 + i)) := fun i hi => rs _ (by omega)
      have L1 : LEM (sI (sI gs 367 0 0) 369 2 l) Lo := by
        refine ⟨⟨by rw [rd_a (by decide), rd_k (by decide), uS.I rfl]; exact m6, by rw [rs 5 (by decide)]; exact (inv_bk h).1, by rw [rs 6 (by decide)]; exact (inv_bk h).2⟩, ?_⟩
        rw [rd_s]
        rcases hl2 with q | ⟨k, L, q1, q2, q3, q4⟩
        · exact Or.inl q
        · refine Or.inr ⟨k, L, q1, q2, q3, ?_⟩
          have e : (fun i => gI (sI (sI gs 367 0 0) 369 2 l) 369 (68 + 900 * k + i)) = fun i => gI g 369 (68 + 900 * k + i) := funext (fun i => rs _ (by omega))
          rw [e]; exact q4
      obtain ⟨gm, t1, t2, t3⟩ := lay_m m2 M1 L1
      have e2 : gI (sI gs 367 0 0) 369 2 = gI g 369 2 := by rw [rd_a (by decide), uS.I rfl]
      refine Sp.q (r := nextF (gI g 369 3) (SV Lo (fun i => gI g 369 (4 + i)) (hiR (fun i => gI g 369 (4 + i)))) (HV Lo (fun i => gI g 369 (4 + i)) (hiR (fun i => gI g 369 (4 + i)))) n) (g1 := gs) (g2 := sI gm 369 2 (gI g 369 2)) ?_ ?_ (h.un ?_)
      · unfold q_MP_compare
        rw [isLaw_c hnl l1, bnd_s, bI_t hv, if_neg (by decide), isCell_c, bnd_s, bI_t hc, if_neg (by decide), f1, bnd_s, s1, bnd_s, f5.I rfl, m7]
      · unfold q_Mo_compare
        rw [wr_e, isLaw_m hnl (by rw [rd_a (by decide), uS.I rfl, l2]), bnd_s, bI_t hv, if_neg (by decide), isCell_m, bnd_s, bI_t hc, if_neg (by decide), gd_L _ _ (by decide) (by decide), gd_L _ _ (by decide) (by decide), cl_L _ (by decide), wr_e, t1, bnd_s, gd_L _ _ (by decide) (by decide), wr_e, gd_nI hn (by omega), nI_clamp (by omega), e2, rd_a (by decide), t3 n hn, rs 3 (by decide)]
      · intro a k z
        refine ⟨?_, ?_, ?_⟩
        · by_cases y : a = 369 ∧ k = 2
          · rw [y.1, y.2, rd_s]
          · rw [gI_sI, if_neg y, (sV_sX t2).I z, gI_sI, if_neg y, gI_sI, if_neg (fun q => by rw [q.1, q.2] at z; cases z), uS.I z]
        · rw [gJ_sI, (sV_sX t2).J z, gJ_sI, gJ_sI, uS.J z]
        · rw [gP_sI, (sV_sX t2).P z, gP_sI, gP_sI, uS.P z]
    · refine Sp.q (r := -1) (g1 := g) (g2 := sI g 367 0 0) ?_ ?_ (inv_0 h)
      · unfold q_MP_compare
        rw [isLaw_c hnl l1, bnd_s, bI_t hv, if_neg (by decide), isCell_c, bnd_s, bI_f hc, if_pos rfl]
      · unfold q_Mo_compare
        rw [wr_e, isLaw_m hnl (by rw [rd_a (by decide), l2]), bnd_s, bI_t hv, if_neg (by decide), isCell_m, bnd_s, bI_f hc, if_pos rfl]
  · refine Sp.q (r := -1) (g1 := g) (g2 := sI g 367 0 0) ?_ ?_ (inv_0 h)
    · unfold q_MP_compare
      rw [isLaw_c hnl l1, bnd_s, bI_f hv, if_pos rfl]
    · unfold q_Mo_compare
      rw [wr_e, isLaw_m hnl (by rw [rd_a (by decide), l2]), bnd_s, bI_f hv, if_pos rfl]
