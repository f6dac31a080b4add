/-! kerbs, both -/
def sK (fr T : Nat → Bool) : Nat → Nat → Int32 → Int32
  | 0, _, els => els
  | m + 1, i, els => if fr i = true ∧ T i = true then shl 1 (nI i) else sK fr T m (i + 1) els
def pK (fr : Nat → Bool) (T2 : Nat → Nat → Bool) (h : Nat) : Nat → Nat → Int32 → Int32
  | 0, _, els => els
  | m + 1, j, els => if fr h = true ∧ fr j = true ∧ T2 h j = true then shl 1 (nI h) ||| shl 1 (nI j) else pK fr T2 h m (j + 1) els
def oK (fr : Nat → Bool) (T2 : Nat → Nat → Bool) : Nat → Nat → Int32
  | 0, _ => -1
  | m + 1, h => pK fr T2 h h 0 (oK fr T2 m (h + 1))
theorem pK_no {fr : Nat → Bool} {T2 : Nat → Nat → Bool} {h : Nat} (z : ¬ fr h = true) (els : Int32) : ∀ m j, pK fr T2 h m j els = els
  | 0, _ => rfl
  | m + 1, j => by
    unfold pK
    rw [if_neg (fun q => z q.1), pK_no z els m (j + 1)]
/-- cells that may be raised -/
def frK (r : Nat → Int32) (c d i : Nat) : Bool := decide (i ≠ c ∧ i ≠ d ∧ r (3 + i) ≠ 9)
theorem frK_t {r : Nat → Int32} {c d i : Nat} : frK r c d i = true ↔ i ≠ c ∧ i ≠ d ∧ r (3 + i) ≠ 9 := decide_eq_true_iff
section KD
variable {Lo : Option Lw} {D : Int32} {r : Nat → Int32} {g0 : hG} {c d : Nat}
def T1 (D : Int32) (Lo : Option Lw) (r : Nat → Int32) (c d a : Nat) : Bool := decide (kE D Lo r (p1 a) c = d)
def T2 (D : Int32) (Lo : Option Lw) (r : Nat → Int32) (c d b a : Nat) : Bool := decide (kE D Lo r (p2 a b) c = d)
theorem free_c {g : hG} (hm : MomR g 2 r) (hc : c < 25) (hd : d < 25) : ∀ (m i F : Nat) (x : Int32), i + m = 25 → m < F → ∃ y, q_MP_freeForKerbs_4L (nI c) (nI d) (fun x5 g7 => some (x5, g7)) F x (nI i) g = some (y, g) ∧ ∀ j, j < 25 → (bt y (nI j) ↔ bt x (nI j) ∨ (i ≤ j ∧ frK r c d j = true)) := by
  intro m
  induction m with
  | zero =>
    intro i F x h1 h2
    obtain ⟨F, rfl⟩ : ∃ q, F = q + 1 := ⟨F - 1, by omega⟩
    obtain rfl : i = 25 := by omega
    rw [q_MP_freeForKerbs_4L_s]
    unfold q_MP_freeForKerbs_4
    rw [if_pos (by decide)]
    refine ⟨x, rfl, fun j hj => ⟨Or.inl, fun q => ?_⟩⟩
    rcases q with q | q
    · exact q
    · omega
  | succ m ih =>
    intro i F x h1 h2
    obtain ⟨F, rfl⟩ : ∃ q, F = q + 1 := ⟨F - 1, by omega⟩
    have skip : frK r c d i = false → ∃ y, q_MP_freeForKerbs_4L (nI c) (nI d) (fun x5 g7 => some (x5, g7)) F x (nI (i + 1)) g = some (y, g) ∧ ∀ j, j < 25 → (bt y (nI j) ↔ bt x (nI j) ∨ (i ≤ j ∧ frK r c d j = true)) := fun z => by
      obtain ⟨y, y1, y2⟩ := ih (i + 1) F x (by omega) (by omega)
      refine ⟨y, y1, fun j hj => (y2 j hj).trans ⟨fun q => ?_, fun q => ?_⟩⟩
      · rcases q with q | q
        · exact Or.inl q
        · exact Or.inr ⟨by omega, q.2⟩
      · rcases q with q | q
        · exact Or.inl q
        · by_cases w : j = i
          · subst w; rw [z] at q; cases q.2
          · exact Or.inr ⟨by omega, q.2⟩
    rw [q_MP_freeForKerbs_4L_s]
    unfold q_MP_freeForKerbs_4
    rw [if_neg (show ¬ (25 : Int32) ≤ nI i from nI_ge (a := i) (b := 25) (by omega) (by decide)), gd_nI (by omega) (by omega), nI_clamp (by omega), nI_1, show gI g 6 i = r (3 + i) from hm.2.1 i (by omega)]
    by_cases z1 : i = c
    · rw [if_pos (by rw [z1])]
      exact skip (Bool.eq_false_iff.mpr (fun q => (frK_t.mp q).1 z1))
    · rw [if_neg (fun q => z1 ((nI_eq (by omega) (by omega)).mp q))]
      by_cases z2 : i = d
      · rw [if_pos (by rw [z2])]
        exact skip (Bool.eq_false_iff.mpr (fun q => (frK_t.mp q).2.1 z2))
      · rw [if_neg (fun q => z2 ((nI_eq (by omega) (by omega)).mp q))]
        by_cases z3 : r (3 + i) = 9
        · rw [if_pos z3]
          exact skip (Bool.eq_false_iff.mpr (fun q => (frK_t.mp q).2.2 z3))
        · rw [if_neg z3]
          obtain ⟨y, y1, y2⟩ := ih (i + 1) F (x ||| shl 1 (nI i)) (by omega) (by omega)
          refine ⟨y, y1, fun j hj => (y2 j hj).trans ?_⟩
          rw [bt_set _ (by omega) (by omega)]
          constructor
          · intro q
            rcases q with (q | q) | q
            · exact Or.inl q
            · exact Or.inr ⟨by omega, by rw [q]; exact frK_t.mpr ⟨z1, z2, z3⟩⟩
            · exact Or.inr ⟨by omega, q.2⟩
          · intro q
            rcases q with q | q
            · exact Or.inl (Or.inl q)
            · by_cases w : j = i
              · exact Or.inl (Or.inr w)
              · exact Or.inr ⟨by omega, q.2⟩
theorem raise_m {f : hG} (hm : MomM f r) (w : WFm r) (hc : c < 25) (hd : d < 25) {i : Nat} (hi : i < 25) : q_Mo_canRaise (nI c) (nI d) (nI i) f = some (bI (frK r c d i = true), f) := by
  obtain ⟨n, hn, e⟩ := w.2.1 i hi
  have e7 : (7 : Int32) + nI i = nI (7 + i) := nI_add 7 i
  unfold q_Mo_canRaise
  by_cases z1 : i = c
  · rw [if_pos (by rw [z1]), bI_f (fun q => (frK_t.mp q).1 z1)]
  · rw [if_neg (fun q => z1 ((nI_eq (by omega) (by omega)).mp q))]
    by_cases z2 : i = d
    · rw [if_pos (by rw [z2]), bI_f (fun q => (frK_t.mp q).2.1 z2)]
    · rw [if_neg (fun q => z2 ((nI_eq (by omega) (by omega)).mp q)), e7, gd_nI (by omega) (by omega), nI_clamp (by omega), hm.hi hi]
      by_cases z3 : r (3 + i) = 9
      · rw [if_pos (by rw [z3]; decide), bI_f (fun q => (frK_t.mp q).2.2 z3)]
      · have : n ≠ 9 := fun q => z3 (by rw [e, q]; rfl)
        rw [if_neg (by rw [e]; exact nI_ge (a := n) (b := 9) (by omega) (by decide)), bI_t (frK_t.mpr ⟨z1, z2, z3⟩)]
theorem p0_bt : ∀ i, i < 25 → (p0 i = true ↔ bt 0 (nI i)) := fun i hi => ⟨fun q => absurd q Bool.false_ne_true, fun q => absurd q (bt_0 i (by omega))⟩
theorem p1_bt {a : Nat} (ha : a < 25) : ∀ i, i < 25 → (p1 a i = true ↔ bt (shl 1 (nI a)) (nI i)) := fun i hi => by
  rw [bt_shl a ha i (by omega)]
  exact decide_eq_true_iff
theorem p2_bt {a b : Nat} (ha : a < 25) (hb : b < 25) : ∀ i, i < 25 → (p2 a b i = true ↔ bt (shl 1 (nI b) ||| shl 1 (nI a)) (nI i)) := fun i hi => by
  rw [bt_or _ _ i (by omega), bt_shl a ha i (by omega), bt_shl b hb i (by omega)]
  exact decide_eq_true_iff.trans ⟨fun q => by rcases q with q | q; exact Or.inr q; exact Or.inl q, fun q => by rcases q with q | q; exact Or.inr q; exact Or.inl q⟩
theorem kE_in (D : Int32) (Lo : Option Lw) (r : Nat → Int32) (p : Nat → Bool) (hc : c < 25) : kE D Lo r p c < 25 := eF_in (nP_fall D Lo r p) 25 c hc
theorem sing_c (b : CB D r g0) (hc : c < 25) (hd : d < 25) {fb : Int32} (hf : ∀ j, j < 25 → (bt fb (nI j) ↔ frK r c d j = true)) {K : hG → hO Int32} {els : Int32} (hK : ∀ g, CJ Lo r g0 g → ∃ g', K g = some (els, g') ∧ CJ Lo r g0 g') : ∀ (m i F : Nat) (g : hG), i + m = 25 → m < F → CJ Lo r g0 g → ∃ g', q_MP_fewestKerbs_16L (nI c) (nI d) fb K F (nI i) g = some (sK (frK r c d) (T1 D Lo r c d) m i els, g') ∧ CJ Lo r g0 g' := by
  intro m
  induction m with
  | zero =>
    intro i F g h1 h2 j
    obtain ⟨F, rfl⟩ : ∃ q, F = q + 1 := ⟨F - 1, by omega⟩
    obtain rfl : i = 25 := by omega
    rw [q_MP_fewestKerbs_16L_s]
    unfold q_MP_fewestKerbs_16 sK
    rw [if_pos (by decide)]
    exact hK g j
  | succ m ih =>
    intro i F g h1 h2 j
    obtain ⟨F, rfl⟩ : ∃ q, F = q + 1 := ⟨F - 1, by omega⟩
    rw [q_MP_fewestKerbs_16L_s]
    unfold q_MP_fewestKerbs_16 sK
    rw [if_neg (show ¬ (25 : Int32) ≤ nI i from nI_ge (a := i) (b := 25) (by omega) (by decide)), isA_c, bnd_s, nI_1]
    by_cases z : frK r c d i = true
    · obtain ⟨g1, a1, a2⟩ := ewk_c b j (p1_bt (a := i) (by omega)) hc
      have kl := kE_in D Lo r (p1 i) hc
      rw [bI_t ((hf i (by omega)).mpr z), if_neg (by decide), a1, bnd_s]
      by_cases y : kE D Lo r (p1 i) c = d
      · rw [if_pos (by rw [y]), if_pos ⟨z, decide_eq_true y⟩]
        exact ⟨g1, rfl, a2⟩
      · rw [if_neg (fun q => y ((nI_eq (by omega) (by omega)).mp q)), if_neg (fun q => y (of_decide_eq_true q.2))]
        exact ih (i + 1) F g1 (by omega) (by omega) a2
    · rw [bI_f (fun q => z ((hf i (by omega)).mp q)), if_pos rfl, if_neg (fun q => z q.1)]
      exact ih (i + 1) F g (by omega) (by omega) j
theorem pair_c (b : CB D r g0) (hc : c < 25) (hd : d < 25) {fb : Int32} (hf : ∀ j, j < 25 → (bt fb (nI j) ↔ frK r c d j = true)) {h : Nat} (hh : h < 25) {K : hG → hO Int32} {els : Int32} (hK : ∀ g, CJ Lo r g0 g → ∃ g', K g = some (els, g') ∧ CJ Lo r g0 g') : ∀ (m i F : Nat) (g : hG), i + m = h → m < F → CJ Lo r g0 g → ∃ g', q_MP_fewestKerbs_45L (nI c) (nI d) fb (nI h) K F (nI i) g = some (pK (frK r c d) (T2 D Lo r c d) h m i els, g') ∧ CJ Lo r g0 g' := by
  intro m
  induction m with
  | zero =>
    intro i F g h1 h2 j
    obtain ⟨F, rfl⟩ : ∃ q, F = q + 1 := ⟨F - 1, by omega⟩
    obtain rfl : i = h := by omega
    rw [q_MP_fewestKerbs_45L_s]
    unfold q_MP_fewestKerbs_45 pK
    rw [if_pos (nI_le (Nat.le_refl _) (by omega))]
    exact hK g j
  | succ m ih =>
    intro i F g h1 h2 j
    obtain ⟨F, rfl⟩ : ∃ q, F = q + 1 := ⟨F - 1, by omega⟩
    rw [q_MP_fewestKerbs_45L_s]
    unfold q_MP_fewestKerbs_45
    rw [if_neg (nI_ge (by omega) (by omega)), isA_c, bnd_s, nI_1]
    by_cases zh : frK r c d h = true
    · rw [bI_t ((hf h hh).mpr zh), if_neg (by decide), isA_c, bnd_s]
      unfold pK
      by_cases z : frK r c d i = true
      · obtain ⟨g1, a1, a2⟩ := ewk_c b j (p2_bt (a := i) (b := h) (by omega) hh) hc
        have kl := kE_in D Lo r (p2 i h) hc
        rw [bI_t ((hf i (by omega)).mpr z), if_neg (by decide), a1, bnd_s]
        by_cases y : kE D Lo r (p2 i h) c = d
        · rw [if_pos (by rw [y]), if_pos ⟨zh, z, decide_eq_true y⟩]
          exact ⟨g1, rfl, a2⟩
        · rw [if_neg (fun q => y ((nI_eq (by omega) (by omega)).mp q)), if_neg (fun q => y (of_decide_eq_true q.2.2))]
          exact ih (i + 1) F g1 (by omega) (by omega) a2
      · rw [bI_f (fun q => z ((hf i (by omega)).mp q)), if_pos rfl, if_neg (fun q => z q.2.1)]
        exact ih (i + 1) F g (by omega) (by omega) j
    · rw [bI_f (fun q => zh ((hf h hh).mp q)), if_pos rfl, pK_no zh]
      exact hK g j
theorem outer_c (b : CB D r g0) (hc : c < 25) (hd : d < 25) {fb : Int32} (hf : ∀ j, j < 25 → (bt fb (nI j) ↔ frK r c d j = true)) : ∀ (m h F : Nat) (g : hG), h + m = 25 → m < F → CJ Lo r g0 g → ∃ g', q_MP_fewestKerbs_40L (nI c) (nI d) fb (fun g41 => some ((-1 : Int32), g41)) F (nI h) g = some (oK (frK r c d) (T2 D Lo r c d) m h, g') ∧ CJ Lo r g0 g' := by
  intro m
  induction m with
  | zero =>
    intro h F g h1 h2 j
    obtain ⟨F, rfl⟩ : ∃ q, F = q + 1 := ⟨F - 1, by omega⟩
    obtain rfl : h = 25 := by omega
    rw [q_MP_fewestKerbs_40L_s]
    unfold q_MP_fewestKerbs_40
    rw [if_pos (by decide)]
    exact ⟨g, rfl, j⟩
  | succ m ih =>
    intro h F g h1 h2 j
    obtain ⟨F, rfl⟩ : ∃ q, F = q + 1 := ⟨F - 1, by omega⟩
    rw [q_MP_fewestKerbs_40L_s]
    unfold q_MP_fewestKerbs_40 oK
    rw [if_neg (show ¬ (25 : Int32) ≤ nI h from nI_ge (a := h) (b := 25) (by omega) (by decide)), nI_1]
    exact pair_c b hc hd hf (by omega) (fun g j => ih (h + 1) F g (by omega) (by omega) j) h 0 FU g (by omega) (Nat.lt_of_lt_of_le (show h < 25 by omega) (by decide)) j
theorem mm_un {f0 f : hG} (hm : MomM f0 r) (u : Un sX f0 f) : MomM f r := fun i hi => (u.I (by rfl)).trans (hm i hi)
theorem ll_un {f0 f : hG} (hl : LEM f0 Lo) (u : Un sX f0 f) : LEM f Lo := hl.ex (fun i => u.I rfl) (u.I rfl)
theorem sing_m {f0 : hG} (hm : MomM f0 r) (w : WFm r) (hl : LEM f0 Lo) (hD : gI f0 369 3 = D) (hc : c < 25) (hd : d < 25) {K : hG → hO Int32} {els : Int32} (hK : ∀ f, Un sX f0 f → ∃ f', K f = some (els, f') ∧ Un sX f0 f') : ∀ (m i F : Nat) (f : hG), i + m = 25 → m < F → Un sX f0 f → ∃ f', q_Mo_kerbSet_11L (nI c) (nI d) K F (nI i) f = some (sK (frK r c d) (T1 D Lo r c d) m i els, f') ∧ Un sX f0 f' := by
  intro m
  induction m with
  | zero =>
    intro i F f h1 h2 u
    obtain ⟨F, rfl⟩ : ∃ q, F = q + 1 := ⟨F - 1, by omega⟩
    obtain rfl : i = 25 := by omega
    rw [q_Mo_kerbSet_11L_s]
    unfold q_Mo_kerbSet_11 sK
    rw [if_pos (by decide)]
    exact hK f u
  | succ m ih =>
    intro i F f h1 h2 u
    obtain ⟨F, rfl⟩ : ∃ q, F = q + 1 := ⟨F - 1, by omega⟩
    rw [q_Mo_kerbSet_11L_s]
    unfold q_Mo_kerbSet_11 sK
    rw [if_neg (show ¬ (25 : Int32) ≤ nI i from nI_ge (a := i) (b := 25) (by omega) (by decide)), raise_m (mm_un hm u) w hc hd (by omega), bnd_s, nI_1]
    by_cases z : frK r c d i = true
    · obtain ⟨f1, a1, a2⟩ := ends_1 (a := i) (mm_un hm u) w (ll_un hl u) ((u.I rfl).trans hD) hc hd (by omega)
      rw [bI_t z, if_neg (by decide), a1, bnd_s]
      by_cases y : kE D Lo r (p1 i) c = d
      · rw [bI_t y, if_neg (by decide), if_pos ⟨z, decide_eq_true y⟩]
        exact ⟨f1, rfl, u.tr a2⟩
      · rw [bI_f y, if_pos rfl, if_neg (fun q => y (of_decide_eq_true q.2))]
        exact ih (i + 1) F f1 (by omega) (by omega) (u.tr a2)
    · rw [bI_f z, if_pos rfl, if_neg (fun q => z q.1)]
      exact ih (i + 1) F f (by omega) (by omega) u
theorem pair_m {f0 : hG} (hm : MomM f0 r) (w : WFm r) (hl : LEM f0 Lo) (hD : gI f0 369 3 = D) (hc : c < 25) (hd : d < 25) {h : Nat} (hh : h < 25) {K : hG → hO Int32} {els : Int32} (hK : ∀ f, Un sX f0 f → ∃ f', K f = some (els, f') ∧ Un sX f0 f') : ∀ (m i F : Nat) (f : hG), i + m = h → m < F → Un sX f0 f → ∃ f', q_Mo_kerbSet_40L (nI c) (nI d) (nI h) K F (nI i) f = some (pK (frK r c d) (T2 D Lo r c d) h m i els, f') ∧ Un sX f0 f' := by
  intro m
  induction m with
  | zero =>
    intro i F f h1 h2 u
    obtain ⟨F, rfl⟩ : ∃ q, F = q + 1 := ⟨F - 1, by omega⟩
    obtain rfl : i = h := by omega
    rw [q_Mo_kerbSet_40L_s]
    unfold q_Mo_kerbSet_40 pK
    rw [if_pos (nI_le (Nat.le_refl _) (by omega))]
    exact hK f u
  | succ m ih =>
    intro i F f h1 h2 u
    obtain ⟨F, rfl⟩ : ∃ q, F = q + 1 := ⟨F - 1, by omega⟩
    rw [q_Mo_kerbSet_40L_s]
    unfold q_Mo_kerbSet_40 pK
    rw [if_neg (nI_ge (by omega) (by omega)), raise_m (mm_un hm u) w hc hd (by omega), bnd_s, nI_1]
    by_cases z : frK r c d i = true
    · rw [bI_t z, if_neg (by decide), raise_m (mm_un hm u) w hc hd hh, bnd_s]
      by_cases zh : frK r c d h = true
      · obtain ⟨f1, a1, a2⟩ := ends_2 (a := i) (b := h) (mm_un hm u) w (ll_un hl u) ((u.I rfl).trans hD) hc hd (by omega) hh
        rw [bI_t zh, if_neg (by decide), a1, bnd_s]
        by_cases y : kE D Lo r (p2 i h) c = d
        · rw [bI_t y, if_neg (by decide), if_pos ⟨zh, z, decide_eq_true y⟩, Int32.or_comm]
          exact ⟨f1, rfl, u.tr a2⟩
        · rw [bI_f y, if_pos rfl, if_neg (fun q => y (of_decide_eq_true q.2.2))]
          exact ih (i + 1) F f1 (by omega) (by omega) (u.tr a2)
      · rw [bI_f zh, if_pos rfl, if_neg (fun q => zh q.1)]
        exact ih (i + 1) F f (by omega) (by omega) u
    · rw [bI_f z, if_pos rfl, if_neg (fun q => z q.2.1)]
      exact ih (i + 1) F f (by omega) (by omega) u
theorem outer_m {f0 : hG} (hm : MomM f0 r) (w : WFm r) (hl : LEM f0 Lo) (hD : gI f0 369 3 = D) (hc : c < 25) (hd : d < 25) : ∀ (m h F : Nat) (f : hG), h + m = 25 → m < F → Un sX f0 f → ∃ f', q_Mo_kerbSet_35L (nI c) (nI d) (fun g36 => some ((-1 : Int32), g36)) F (nI h) f = some (oK (frK r c d) (T2 D Lo r c d) m h, f') ∧ Un sX f0 f' := by
  intro m
  induction m with
  | zero =>
    intro h F f h1 h2 u
    obtain ⟨F, rfl⟩ : ∃ q, F = q + 1 := ⟨F - 1, by omega⟩
    obtain rfl : h = 25 := by omega
    rw [q_Mo_kerbSet_35L_s]
    unfold q_Mo_kerbSet_35
    rw [if_pos (by decide)]
    exact ⟨f, rfl, u⟩
  | succ m ih =>
    intro h F f h1 h2 u
    obtain ⟨F, rfl⟩ : ∃ q, F = q + 1 := ⟨F - 1, by omega⟩
    rw [q_Mo_kerbSet_35L_s]
    unfold q_Mo_kerbSet_35 oK
    rw [if_neg (show ¬ (25 : Int32) ≤ nI h from nI_ge (a := h) (b := 25) (by omega) (by decide)), nI_1]
    exact pair_m hm w hl hD hc hd (by omega) (fun f u => ih (h + 1) F f (by omega) (by omega) u) h 0 FU f (by omega) (Nat.lt_of_lt_of_le (show h < 25 by omega) (by decide)) u
end KD
