/-! the simple calls -/
abbrev Sp {α : Type} (X Y : hG → hO α) (g : hG) : Prop := ∃ r g1 g2, X g = some (r, g1) ∧ Y g1 = some (r, g2) ∧ Inv g2
theorem Sp.q {α : Type} {X Y : hG → hO α} {g g1 g2 : hG} {r : α} (h1 : X g = some (r, g1)) (h2 : Y g1 = some (r, g2)) (h3 : Inv g2) : Sp X Y g := ⟨r, g1, g2, h1, h2, h3⟩
theorem inv_0 {g : hG} (h : Inv g) : Inv (sI g 367 0 0) := h.un (Un.rf.sI rfl _)
-- the notes
def nC (c : Int32) (k : Nat) (g : hG) : hG := sI (sI g 263 1 c) 264 k (gI g 264 k + 1)
def nM (c : Int32) (k : Nat) (g : hG) : hG := sI (sI g 367 1 c) 368 k (gI g 368 k + 1)
theorem rf_1 (g : hG) : q_Notes_refuse (-1) g = some (-1, nC (-1) 1 g) := by simp [q_Notes_refuse, nC, wr, gd, inb, gI_sI]
theorem rf_2 (g : hG) : q_Notes_refuse (-2) g = some (-2, nC (-2) 2 g) := by simp [q_Notes_refuse, nC, wr, gd, inb, gI_sI]
theorem rf_3 (g : hG) : q_Notes_refuse (-3) g = some (-3, nC (-3) 3 g) := by simp [q_Notes_refuse, nC, wr, gd, inb, gI_sI]
theorem rf_5 (g : hG) : q_Notes_refuse (-5) g = some (-5, nC (-5) 5 g) := by simp [q_Notes_refuse, nC, wr, gd, inb, gI_sI]
theorem rf_6 (g : hG) : q_Notes_refuse (-6) g = some (-6, nC (-6) 6 g) := by simp [q_Notes_refuse, nC, wr, gd, inb, gI_sI]
theorem te_1 (g : hG) : q_Mo_tell (-1) g = some (-1, nM (-1) 1 g) := by simp [q_Mo_tell, q_Mo_tell_6, nM, wr, gd, inb, gI_sI]
theorem te_2 (g : hG) : q_Mo_tell (-2) g = some (-2, nM (-2) 2 g) := by simp [q_Mo_tell, q_Mo_tell_6, nM, wr, gd, inb, gI_sI]
theorem te_3 (g : hG) : q_Mo_tell (-3) g = some (-3, nM (-3) 3 g) := by simp [q_Mo_tell, q_Mo_tell_6, nM, wr, gd, inb, gI_sI]
theorem te_5 (g : hG) : q_Mo_tell (-5) g = some (-5, nM (-5) 5 g) := by simp [q_Mo_tell, q_Mo_tell_6, nM, wr, gd, inb, gI_sI]
theorem te_6 (g : hG) : q_Mo_tell (-6) g = some (-6, nM (-6) 6 g) := by simp [q_Mo_tell, q_Mo_tell_6, nM, wr, gd, inb, gI_sI]
theorem te_p {v : Int32} (h : 0 ≤ v) (g : hG) : q_Mo_tell v g = some (v, sI g 367 1 0) := by simp [q_Mo_tell, q_Mo_tell_6, wr, h]
theorem gr_e (v : Int32) (g : hG) : q_Notes_grant v g = some (v, sI g 263 1 0) := rfl
theorem lt_m1 (c : Int32) (h : 0 ≤ c) : ¬ c < 0 := by grind
theorem st_p {v : Int32} (h : 0 ≤ v) (g : hG) : q_Notes_settle v g = some (v, sI g 263 1 0) := by simp [q_Notes_settle, h, bnd, gr_e]
theorem ConR.ag {g g' : hG} (h : ConR g) (u : gI g' 367 20 = gI g 367 20) (e : ∀ a k, (a = 382 ∨ a = 383 ∨ a = 384 ∨ a = 395 ∨ a = 396) → gJ g' a k = gJ g a k) : ConR g' := by
  obtain ⟨h1, h2, h3, h4, h5, h6⟩ := h
  refine ⟨u.trans h1, fun j hj => (e _ _ (by omega)).trans (h2 j hj), fun j hj => (e _ _ (by omega)).trans (h3 j hj), fun j hj => (e _ _ (by omega)).trans (h4 j hj), fun j hj => (e _ _ (by omega)).trans (h5 j hj), fun j hj => (e _ _ (by omega)).trans (h6 j hj)⟩
theorem cJ {g g' : hG} (u : Un sX g g') : ∀ a k, (a = 382 ∨ a = 383 ∨ a = 384 ∨ a = 395 ∨ a = 396) → gJ g' a k = gJ g a k := fun a k h => u.J (by rcases h with rfl | rfl | rfl | rfl | rfl <;> rfl)
/-- a call that is refused, by both -/
theorem Inv.no {g g1 : hG} (h : Inv g) (c : Int32) {k : Nat} (hk : k < 7) (u : Un sX (nC c k g) g1) : Inv (nM c k g1) := by
  obtain ⟨h1, h2, h3, h4, h5, h6, h7⟩ := h
  have e : ∀ {sup : Nat → Nat → Bool}, (∀ a k, sup a k = true → sX a k = false) → sup 263 1 = false → sup 264 k = false → sup 367 1 = false → sup 368 k = false → Ag sup g (nM c k g1) := fun d q1 q2 q3 q4 => ((((Ag.rf.sI q1 _).sI q2 _).tr (u.ag d)).sI q3 _).sI q4 _
  refine ⟨KeptR.ag h1 (e suK_x rfl rfl rfl rfl), h2.ag (e suP_x rfl rfl rfl rfl), h3.ag (e suI_x rfl rfl rfl rfl), h4.ag (e suT_x rfl rfl rfl rfl), ?_, h6.ag (e suD_x rfl rfl rfl rfl), h7.ag ?_ (fun a k q => cJ u a k q)⟩
  · obtain ⟨n1, n2, n3, n4, n5⟩ := h5
    unfold NoteR nM
    simp only [gI_sI]
    refine ⟨?_, ?_, ?_, ?_, fun j hj => ?_⟩
    · simp; rw [u.I rfl]; simp [nC, gI_sI]
    · simp; rw [u.I rfl, u.I rfl]; simp [nC, gI_sI, n2]
    · simp; rw [u.I rfl, u.I rfl]; simp [nC, gI_sI, n3]
    · simp; rw [u.I rfl, u.I rfl]; simp [nC, gI_sI, n4]
    · simp; rw [u.I rfl, u.I rfl, u.I rfl]; simp only [nC, gI_sI]
      by_cases q : j = k
      · subst q; simp [n5 j hj]
      · simp [q, n5 j hj]
  · simp only [nM, gI_sI]
    simp
    rw [u.I rfl]
    simp [nC, gI_sI]

/-- a call that is granted, by both: what else changed is told apart -/
theorem NoteR.yes {g g1 : hG} (h : NoteR g) (e1 : gI g1 263 1 = 0) (e2 : gI g1 367 1 = 0) (e : ∀ a k, suN a k = true → ¬ (a = 263 ∧ k = 1) → ¬ (a = 367 ∧ k = 1) → gI g1 a k = gI g a k) : NoteR g1 := by
  obtain ⟨n1, n2, n3, n4, n5⟩ := h
  refine ⟨e1.trans e2.symm, ?_, ?_, ?_, fun j hj => ?_⟩
  · rw [e 263 2 rfl (by simp) (by simp), e 367 18 rfl (by simp) (by simp)]; exact n2
  · rw [e 263 3 rfl (by simp) (by simp), e 367 53 rfl (by simp) (by simp)]; exact n3
  · rw [e 263 4 rfl (by simp) (by simp), e 367 11 rfl (by simp) (by simp)]; exact n4
  · rw [e 264 j rfl (by simp) (by simp), e 368 j rfl (by simp) (by simp)]; exact n5 j hj
-- what numbers can be
theorem i64_le (a b : Int32) : a.toInt64 ≤ b.toInt64 ↔ a ≤ b := by
  rw [Int64.le_iff_toInt_le, Int32.le_iff_toInt_le, Int32.toInt_toInt64, Int32.toInt_toInt64]
theorem i64_lt (a b : Int32) : a.toInt64 < b.toInt64 ↔ a < b := by
  rw [Int64.lt_iff_toInt_lt, Int32.lt_iff_toInt_lt, Int32.toInt_toInt64, Int32.toInt_toInt64]
theorem i64_eq (a b : Int32) : a.toInt64 = b.toInt64 ↔ a = b := by
  rw [← Int64.toInt_inj, ← Int32.toInt_inj, Int32.toInt_toInt64, Int32.toInt_toInt64]
def bI (p : Prop) [Decidable p] : Int32 := if p then 1 else 0
theorem in_e (v lo hi : Int32) (l h : Int64) (hl : l = lo.toInt64) (hh : h = hi.toInt64) (g : hG) : q_Mo_in v.toInt64 l h g = some (bI (lo ≤ v ∧ v ≤ hi), g) := by
  subst hl
  subst hh
  unfold q_Mo_in bI
  simp only [i64_lt]
  by_cases h1 : v < lo
  · rw [if_pos h1, if_neg (by intro q; have := q.1; grind)]
  · rw [if_neg h1]
    by_cases h2 : hi < v
    · rw [if_pos h2, if_neg (by intro q; have := q.2; grind)]
    · rw [if_neg h2, if_pos (by constructor <;> grind)]
theorem gb_bI {α : Type} (p : Prop) [Decidable p] (Y : hO α) : gb (bI p) Y = Y := by
  unfold bI
  split
  · exact gb_1 _
  · exact gb_0 _
theorem bI_0 (p : Prop) [Decidable p] : (bI p = 0) = ¬ p := by
  unfold bI
  split <;> simp [*]
theorem bI_1 (p : Prop) [Decidable p] : (bI p = 1) = p := by
  unfold bI
  split <;> simp [*]
theorem bI_t {p : Prop} [Decidable p] (h : p) : bI p = 1 := if_pos h
theorem bI_f {p : Prop} [Decidable p] (h : ¬ p) : bI p = 0 := if_neg h
abbrev isC (v : Int32) : Prop := 0 ≤ v ∧ v ≤ 24
abbrev isL8 (v : Int32) : Prop := 0 ≤ v ∧ v ≤ 7
theorem isC_n {v : Int32} (h : isC v) : ∃ n, n < 25 ∧ v = nI n := by
  obtain ⟨n, h3, rfl⟩ := nI_of (show ¬ v < 0 by have := h.1; grind)
  exact ⟨n, by have := h.2; rw [show (24 : Int32) = nI 24 from rfl, nI_leI h3 (by omega)] at this; omega, rfl⟩
theorem isL_n {v : Int32} (h : isL8 v) : ∃ n, n < 8 ∧ v = nI n := by
  obtain ⟨n, h3, rfl⟩ := nI_of (show ¬ v < 0 by have := h.1; grind)
  exact ⟨n, by have := h.2; rw [show (7 : Int32) = nI 7 from rfl, nI_leI h3 (by omega)] at this; omega, rfl⟩
theorem isC_of {n : Nat} (h : n < 25) : isC (nI n) := ⟨nI_pos' (by omega), (nI_le (show n ≤ 24 by omega) (by decide) : nI n ≤ nI 24)⟩
theorem isL_of {n : Nat} (h : n < 8) : isL8 (nI n) := ⟨nI_pos' (by omega), (nI_le (show n ≤ 7 by omega) (by decide) : nI n ≤ nI 7)⟩
theorem isCell_c (v : Int32) (g : hG) : q_MP_isCell v g = some (bI (isC v), g) := by
  unfold q_MP_isCell bI
  by_cases h : v < 0
  · rw [if_pos h, if_neg (by intro q; have := q.1; grind)]
  · rw [if_neg h]
    by_cases h2 : 25 ≤ v
    · rw [if_pos h2, if_neg (by intro q; have := q.2; grind)]
    · rw [if_neg h2, if_pos (by constructor <;> grind)]
theorem isLet_c (v : Int32) (g : hG) : q_MP_isLetter v g = some (bI (isL8 v), g) := by
  unfold q_MP_isLetter bI
  by_cases h : v < 0
  · rw [if_pos h, if_neg (by intro q; have := q.1; grind)]
  · rw [if_neg h]
    by_cases h2 : 8 ≤ v
    · rw [if_pos h2, if_neg (by intro q; have := q.2; grind)]
    · rw [if_neg h2, if_pos (by constructor <;> grind)]
theorem isImg_c (v : Int32) (g : hG) : q_MP_isImage v g = some (bI (0 ≤ v ∧ v ≤ 1), g) := by
  unfold q_MP_isImage bI
  by_cases h : v < 0
  · rw [if_pos h, if_neg (by intro q; have := q.1; grind)]
  · rw [if_neg h]
    by_cases h2 : 2 ≤ v
    · rw [if_pos h2, if_neg (by intro q; have := q.2; grind)]
    · rw [if_neg h2, if_pos (by constructor <;> grind)]
theorem isCell_m (v : Int32) (g : hG) : q_Mo_isCell v g = some (bI (isC v), g) := by
  unfold q_Mo_isCell
  rw [in_e v 0 24 0 24 rfl rfl, bnd_s, gb_bI]
theorem isLet_m (v : Int32) (g : hG) : q_Mo_isLetter1 v g = some (bI (isL8 v), g) := by
  unfold q_Mo_isLetter1
  rw [in_e v 0 7 0 7 rfl rfl, bnd_s, gb_bI]
abbrev bt (d c : Int32) : Prop := (shr d c) &&& 1 = 1
theorem isA_c (c d : Int32) (g : hG) : q_MP_isAmong c d g = some (bI (bt d c), g) := by
  unfold q_MP_isAmong bI
  split <;> rfl
theorem is_m (d c : Int32) (g : hG) : q_Mo_is d c g = some (bI (bt d c), g) := by
  unfold q_Mo_is bI
  split <;> rfl
theorem hasDoor_c (c : Int32) (g : hG) : q_Kept_hasDoor c g = some (bI (bt (gI g 1 1) c), g) := by
  unfold q_Kept_hasDoor
  rw [isA_c, bnd_s, gb_bI]
-- the calls that ask only
theorem sp_beads {g : hG} (h : Inv g) : Sp q_MP_beads q_Mo_beads g := Sp.q rfl (by
  show some (gI (sI g 367 0 0) 367 11, _) = _
  rw [gI_sI, if_neg (by simp), ← h.2.2.2.2.1.2.2.2.1]) (inv_0 h)
theorem sp_fault {g : hG} (h : Inv g) : Sp q_MP_fault q_Mo_fault g := Sp.q rfl (by
  show some (gI (sI g 367 0 0) 367 18, _) = _
  rw [gI_sI, if_neg (by simp), ← h.2.2.2.2.1.2.1]) (inv_0 h)
theorem sp_stopped {g : hG} (h : Inv g) : Sp q_MP_stopped q_Mo_stopped g := Sp.q rfl (by
  show some (gI (sI g 367 0 0) 367 53, _) = _
  rw [gI_sI, if_neg (by simp), ← h.2.2.2.2.1.2.2.1]) (inv_0 h)
theorem sp_status {g : hG} (h : Inv g) : Sp q_MP_status q_Mo_status g := Sp.q rfl (by
  show some (gI (sI g 367 0 0) 367 1, _) = _
  rw [gI_sI, if_neg (by simp), ← h.2.2.2.2.1.1]) (inv_0 h)

theorem add_nI (k : Nat) (a : Nat) : (nI k) + nI a = nI (k + a) := nI_add k a
theorem told_e {g : hG} {a : Nat} {r : Nat → Int32} (h : MomR g a r) (v w : Int32) : q_Mom_told a v w g = some (if isL8 v then (if w = 0 then r (28 + v.toNatClampNeg) else if w = 1 then r (36 + v.toNatClampNeg) else if w = 2 then r (44 + v.toNatClampNeg) else -1) else -1, g) := by
  unfold q_Mom_told
  rw [isLet_c, bnd_s]
  by_cases hv : isL8 v
  · rw [if_neg (by rw [bI_0]; exact not_not_intro hv), if_pos hv]
    obtain ⟨n, hn, rfl⟩ := isL_n hv
    rw [gd_nI hn (by omega), gd_nI hn (by omega), gd_nI hn (by omega), nI_clamp (by omega), h.2.2.1 n hn, h.2.2.2.1 n hn, h.2.2.2.2 n hn]
    split
    · rfl
    · split
      · rfl
      · split <;> rfl
  · rw [if_pos (by rw [bI_0]; exact hv), if_neg hv]
theorem sp_letter {g : hG} (h : Inv g) (v w : Int32) : Sp (q_MP_letter v w) (q_Mo_letter v w) g := by
  have hm : MomR g 2 (fun i => gI g 369 (4 + i)) := h.1.1.1
  refine Sp.q (r := if isL8 v then (if w = 0 then gI g 369 (4 + (28 + v.toNatClampNeg)) else if w = 1 then gI g 369 (4 + (36 + v.toNatClampNeg)) else if w = 2 then gI g 369 (4 + (44 + v.toNatClampNeg)) else -1) else -1) (g1 := g) (g2 := sI g 367 0 0) ?_ ?_ (inv_0 h)
  · unfold q_MP_letter
    rw [told_e hm, bnd_s]
  · unfold q_Mo_letter
    rw [wr_e, isLet_m, bnd_s]
    by_cases hv : isL8 v
    · rw [if_neg (by rw [bI_0]; exact not_not_intro hv), if_pos hv]
      obtain ⟨n, hn, rfl⟩ := isL_n hv
      rw [show (32 : Int32) = nI 32 from rfl, show (40 : Int32) = nI 40 from rfl, show (48 : Int32) = nI 48 from rfl, nI_add, nI_add, nI_add, gd_nI (by omega) (by omega), gd_nI (by omega) (by omega), gd_nI (by omega) (by omega), nI_clamp (by omega), nI_clamp (by omega), nI_clamp (by omega), nI_clamp (by omega)]
      simp only [gI_sI]
      simp only [show ¬ (369 = 367) by omega, false_and, if_false]
      rw [show 32 + n = 4 + (28 + n) by omega, show 40 + n = 4 + (36 + n) by omega, show 48 + n = 4 + (44 + n) by omega]
      split
      · rfl
      · split
        · rfl
        · split <;> rfl
    · rw [if_pos (by rw [bI_0]; exact hv), if_neg hv]
theorem sp_drawn {g : hG} (h : Inv g) (v w : Int32) : Sp (q_MP_drawn v w) (q_Mo_drawn v w) g := by
  obtain ⟨-, -, -, -, -, ⟨d1, d2, d3⟩, -⟩ := id h
  rcases d2 with d2 | d2
  · refine Sp.q (r := -1) (g1 := g) (g2 := sI g 367 0 0) ?_ ?_ (inv_0 h)
    · unfold q_MP_drawn
      rw [d1, d2, if_pos rfl]
    · unfold q_Mo_drawn
      rw [wr_e, rd_k (by decide), d2, if_pos rfl]
  · obtain ⟨hm, -⟩ := d3 d2
    refine Sp.q (r := if isL8 v then (if w = 0 then gI g 398 (28 + v.toNatClampNeg) else if w = 1 then gI g 398 (36 + v.toNatClampNeg) else if w = 2 then gI g 398 (44 + v.toNatClampNeg) else -1) else -1) (g1 := g) (g2 := sI g 367 0 0) ?_ ?_ (inv_0 h)
    · unfold q_MP_drawn
      rw [d1, d2, if_neg (by decide), told_e hm, bnd_s]
    · unfold q_Mo_drawn
      rw [wr_e, rd_k (by decide), d2, if_neg (by decide), isLet_m, bnd_s]
      by_cases hv : isL8 v
      · rw [if_neg (by rw [bI_0]; exact not_not_intro hv), if_pos hv, in_e w 0 2 0 2 rfl rfl, bnd_s]
        obtain ⟨n, hn, rfl⟩ := isL_n hv
        by_cases hw : 0 ≤ w ∧ w ≤ 2
        · rw [if_neg (by rw [bI_0]; exact not_not_intro hw)]
          unfold q_Mo_drawn_29
          have h3 : w = 0 ∨ w = 1 ∨ w = 2 := by grind
          rw [nI_clamp (by omega)]
          rcases h3 with rfl | rfl | rfl
          · rw [if_pos rfl, if_pos rfl, show (32 : Int32) - 4 + nI n = nI (28 + n) by rw [← nI_add]; rfl, gd_nI (by omega) (by omega), nI_clamp (by omega), rd_a (by decide)]
          · rw [if_neg (by decide), if_pos rfl, if_neg (by decide), if_pos rfl, show (40 : Int32) - 4 + nI n = nI (36 + n) by rw [← nI_add]; rfl, gd_nI (by omega) (by omega), nI_clamp (by omega), rd_a (by decide)]
          · rw [if_neg (by decide), if_neg (by decide), if_neg (by decide), if_neg (by decide), if_pos rfl, show (48 : Int32) - 4 + nI n = nI (44 + n) by rw [← nI_add]; rfl, gd_nI (by omega) (by omega), nI_clamp (by omega), rd_a (by decide)]
        · rw [if_pos (by rw [bI_0]; exact hw), if_neg (by rintro rfl; exact hw (by decide)), if_neg (by rintro rfl; exact hw (by decide)), if_neg (by rintro rfl; exact hw (by decide))]
      · rw [if_pos (by rw [bI_0]; exact hv), if_neg hv]
theorem sp_end {g : hG} (h : Inv g) (v : Int32) : Sp (q_MP_end v) (q_Mo_end v) g := by
  obtain ⟨h1, h2, h3, ⟨n, t1, t2, t3, t4⟩, h5, h6, h7⟩ := id h
  unfold Sp q_MP_end q_Mo_end
  by_cases hv : v < 0
  · exact ⟨-1, g, sI g 367 0 0, by rw [if_pos hv], by rw [wr_e, if_pos hv], inv_0 h⟩
  · by_cases h8 : v ≤ nI n
    · obtain ⟨m, hm, rfl⟩ := nI_of hv
      have hmn : m ≤ n := (nI_leI hm (by omega)).mp h8
      refine ⟨nI m, sI g 235 1 (nI m), sI (sI (sI g 235 1 (nI m)) 367 0 0) 367 13 (nI m), ?_, ?_, ?_⟩
      · rw [if_neg hv, t2, if_pos h8]; rfl
      · rw [wr_e, if_neg hv, rd_k (by decide), rd_a (by decide), t3, if_pos h8]; rfl
      · refine ⟨KeptR.ag h1 (((Ag.rf.sI rfl _).sI rfl _).sI rfl _), h2.ag (((Ag.rf.sI rfl _).sI rfl _).sI rfl _), h3.ag (((Ag.rf.sI rfl _).sI rfl _).sI rfl _), ⟨m, by omega, ?_, ?_, fun j hj => ?_⟩, h5.ag (((Ag.rf.sI rfl _).sI rfl _).sI rfl _), h6.ag (((Ag.rf.sI rfl _).sI rfl _).sI rfl _), h7.ag ?_ (fun a k _ => rfl)⟩
        · simp [gI_sI]
        · simp [gI_sI]
        · simp only [gI_sI]; simp; exact t4 j (by omega)
        · simp [gI_sI]
    · exact ⟨-1, g, sI g 367 0 0, by rw [if_neg hv, t2, if_neg h8], by rw [wr_e, if_neg hv, rd_k (by decide), t3, if_neg h8], inv_0 h⟩
