/-! law: the model's frame -/
section LF
variable {B : Nat → Nat} {n q pa len : Nat} {f : hG}
def sBt (a k : Nat) : Bool := sLw a k || (a == 367 && (k == 20 || k == 13 || k == 0))
theorem sLw_sBt {f f' : hG} (u : Un sLw f f') : Un sBt f f' := u.mo (fun a k z => by unfold sBt at z; rw [Bool.or_eq_false_iff] at z; exact z.1)
theorem begin_m {f : hG} (h : TBM B n f) : ∃ f', q_Mo_beginText 0 f = some ((), f') ∧ PQ B n (nb B n 0) 0 0 f' ∧ gI f' 367 21 = nI 0 ∧ Un sBt f f' := by
  have e1 : TBM B n (sI (sI (sI (sI f 367 20 0) 367 15 0) 367 19 0) 367 18 (-1)) := ⟨h.1, by rw [rd_k (by decide), rd_k (by decide), rd_k (by decide), rd_k (by decide)]; exact h.2.1, fun j hj => ⟨by rw [rd_a (by decide), rd_a (by decide), rd_a (by decide), rd_a (by decide)]; exact (h.2.2 j hj).1, (h.2.2 j hj).2⟩⟩
  obtain ⟨f1, a1, a2, a3⟩ := next_m e1 (Nat.zero_le n) (by rw [rd_k (by decide), rd_k (by decide), rd_s]; rfl) rd_s
  have r : ∀ k, k ≠ 14 → k ≠ 15 → k ≠ 16 → k ≠ 17 → gI f1 367 k = gI (sI (sI (sI (sI f 367 20 0) 367 15 0) 367 19 0) 367 18 (-1)) 367 k := fun k h1 h2 h3 h4 => a3.I (by unfold sNx; simp [h1, h2, h3, h4])
  have u0 : Un sBt f (sI (sI (sI (sI f 367 20 0) 367 15 0) 367 19 0) 367 18 (-1)) := (((Un.rf.sI rfl _).sI rfl _).sI rfl _).sI rfl _
  refine ⟨sI (sI (sI f1 367 21 0) 367 23 0) 367 26 0, ?_, ⟨⟨e1.1, ?_, fun j hj => ⟨?_, (e1.2.2 j hj).2⟩⟩, a2.ex (fun k hk => ?_) rfl, (tk_0 B n).1, ?_, ?_, ?_, rd_s, Nat.zero_le _⟩, ?_, (((u0.tr (sLw_sBt (sPm_sLw (sNx_sPm a3)))).sI rfl _).sI rfl _).sI rfl _⟩
  · unfold q_Mo_beginText q_Mo_begin
    rw [gb_0, wr_e, wr_e, wr_e, wr_e, a1, bnd_s, bnd_s, wr_e, wr_e, wr_e]
  · rw [rd_k (by decide), rd_k (by decide), rd_k (by decide), r 13 (by decide) (by decide) (by decide) (by decide)]; exact e1.2.1
  · rw [rd_a (by decide), rd_a (by decide), rd_a (by decide), a3.I rfl]; exact (e1.2.2 j hj).1
  · rw [rd_k (by omega), rd_k (by omega), rd_k (by omega)]
  · rw [rd_k (by decide), rd_k (by decide), rd_k (by decide), r 19 (by decide) (by decide) (by decide) (by decide), rd_k (by decide), rd_s]
  · rw [rd_k (by decide), rd_k (by decide), rd_k (by decide), r 20 (by decide) (by decide) (by decide) (by decide), rd_k (by decide), rd_k (by decide), rd_k (by decide), rd_s]
  · rw [rd_k (by decide), rd_s]; rfl
  · rw [rd_k (by decide), rd_k (by decide), rd_s]; rfl
theorem end_ok (h : PQ B n n pa len f) : q_Mo_endText f = some ((), sI (sI f 367 20 0) 367 13 0) := by
  have k := (num_m h.1 h.2.1).2.2.mpr tk_end
  unfold q_Mo_endText q_Mo_endText_9
  rw [if_pos h.2.2.2.1, if_pos k, wr_e, wr_e]
theorem end_bad (h : MEnd B n q f) : ∃ f', q_Mo_endText f = some ((), f') ∧ MFl q f' ∧ gI f' 367 13 = 0 ∧ Un sBt f f' := by
  rcases h with h | ⟨⟨pa, len, h⟩, hq⟩
  · refine ⟨sI (sI f 367 20 0) 367 13 0, ?_, ⟨by rw [rd_k (by decide), rd_k (by decide)]; exact h.1, by rw [rd_k (by decide), rd_k (by decide)]; exact h.2.1, by rw [rd_k (by decide), rd_s]⟩, rd_s, (Un.rf.sI rfl _).sI rfl _⟩
    unfold q_Mo_endText q_Mo_endText_9
    rw [if_neg (by rw [h.1]; decide), wr_e, wr_e]
  · obtain ⟨f1, a1, a2, a3⟩ := must_q0 h
    refine ⟨sI (sI f1 367 20 0) 367 13 0, ?_, ⟨by rw [rd_k (by decide), rd_k (by decide)]; exact a2.1, by rw [rd_k (by decide), rd_k (by decide)]; exact a2.2.1, by rw [rd_k (by decide), rd_s]⟩, rd_s, ((sLw_sBt (sPm_sLw a3)).sI rfl _).sI rfl _⟩
    have k : ¬ gI f 367 16 = 0 := fun z => hq ((num_m h.1 h.2.1).2.2.mp z)
    unfold q_Mo_endText q_Mo_endText_9
    rw [if_pos h.2.2.2.1, if_neg k, a1, bnd_s, wr_e, wr_e]
theorem copy_61 {base N : Nat} (hb : base + 900 ≤ 5468) (hN : N ≤ 12) (K : hG → hO Int32) (h21 : gI f 367 21 = nI N) : q_Mo_law_61L (nI base) K FU 0 f = K (sSeg f 369 (base + 2) (8 * N) (fun j => gI f 377 j)) := by
  have e21 : ∀ j, gI (sSeg f 369 (base + 2) j (fun j => gI f 377 j)) 367 21 = nI N := fun j => by
    rw [gI_sSeg, if_neg (by omega)]; exact h21
  have e37 : ∀ j k, gI (sSeg f 369 (base + 2) j (fun j => gI f 377 j)) 377 k = gI f 377 k := fun j k => by
    rw [gI_sSeg, if_neg (by omega)]
  have e8 : (8 : Int32) * nI N = nI (8 * N) := by rw [show (8 : Int32) = nI 8 from rfl, pk_mul]
  refine copy_loop (fun n g j => q_Mo_law_61L (nI base) K n (nI j) g) K 369 (base + 2) (8 * N) _ f ?_ ?_ FU (Nat.lt_of_le_of_lt (show 8 * N ≤ 96 by omega) (by decide))
  · intro n j hj
    rw [q_Mo_law_61L_s]
    unfold q_Mo_law_61
    have e : nI base + (2 : Int32) + nI j = nI (base + 2 + j) := by rw [show (2 : Int32) = nI 2 from rfl, nI_add, nI_add]
    rw [e21, e8, if_neg (nI_ge hj (by omega)), gd_nI (by omega) (by omega), e, gd_nI (by omega) (by omega), wr_e, nI_clamp (by omega), nI_clamp (by omega), nI_1, e37]
  · intro n
    rw [q_Mo_law_61L_s]
    unfold q_Mo_law_61
    rw [e21, e8, if_pos (nI_le (Nat.le_refl _) (by omega))]
def pairF (f : hG) (j : Nat) : Int32 := if j % 2 = 0 then gI f 378 (j / 2) else gI f 379 (j / 2)
theorem copy_83 {base : Nat} (hb : base + 900 ≤ 5468) (hl : len ≤ 400) (K : hG → hO Int32) {f0 : hG} : ∀ (m i F : Nat) (f : hG), i + m = len → m < F → gI f 367 23 = nI len → ∃ f', q_Mo_law_83L (nI base) K F (nI i) f = K f' ∧ (∀ a k, ¬ (a = 369 ∧ base + 98 + 2 * i ≤ k ∧ k < base + 98 + 2 * len) → gI f' a k = gI f a k) ∧ (∀ j, i ≤ j → j < len → gI f' 369 (base + 98 + 2 * j) = gI f 378 j ∧ gI f' 369 (base + 98 + 2 * j + 1) = gI f 379 j) ∧ gJ f' = gJ f ∧ gP f' = gP f := by
  intro m
  induction m with
  | zero =>
    intro i F f h1 h2 h23
    obtain ⟨F, rfl⟩ : ∃ q, F = q + 1 := ⟨F - 1, by omega⟩
    rw [q_Mo_law_83L_s]
    unfold q_Mo_law_83
    rw [h23, if_pos (nI_le (by omega) (by omega))]
    exact ⟨f, rfl, fun _ _ _ => rfl, fun j h1 h2 => by omega, rfl, rfl⟩
  | succ m ih =>
    intro i F f h1 h2 h23
    obtain ⟨F, rfl⟩ : ∃ q, F = q + 1 := ⟨F - 1, by omega⟩
    have e : nI base + (98 : Int32) + (2 : Int32) * nI i = nI (base + 98 + 2 * i) := by rw [show (98 : Int32) = nI 98 from rfl, nI_add, show (2 : Int32) = nI 2 from rfl, pk_mul, nI_add]
    obtain ⟨f', b1, b2, b3, b4, b5⟩ := ih (i + 1) F (sI (sI f 369 (base + 98 + 2 * i) (gI f 378 i)) 369 (base + 98 + 2 * i + 1) (gI f 379 i)) (by omega) (by omega) (by rw [rd_a (by decide), rd_a (by decide)]; exact h23)
    refine ⟨f', ?_, fun a k hk => ?_, fun j j1 j2 => ?_, b4, b5⟩
    · rw [q_Mo_law_83L_s]
      unfold q_Mo_law_83
      rw [h23, if_neg (nI_ge (by omega) (by omega)), gd_nI (by omega) (by omega), e, gd_nI (by omega) (by omega), wr_e, gd_nI (by omega) (by omega), nI_1, gd_nI (by omega) (by omega), wr_e, nI_clamp (by omega), nI_clamp (by omega), nI_clamp (by omega), rd_a (by decide), nI_1]
      exact b1
    · rw [b2 a k (by omega), gI_sI, if_neg (by omega), gI_sI, if_neg (by omega)]
    · by_cases w : j = i
      · subst w
        exact ⟨by rw [b2 _ _ (by omega), rd_k (by omega), rd_s], by rw [b2 _ _ (by omega), rd_s]⟩
      · obtain ⟨c1, c2⟩ := b3 j (by omega) j2
        rw [rd_a (by decide), rd_a (by decide)] at c1 c2
        exact ⟨c1, c2⟩
end LF
/-! law: its meaning out of both readings -/
def cutD (su : Den) : Den := fun f => match su f with
  | some v => if v = BRK then none else some v
  | none => none
theorem cut_get (su : Den) (f : Nat → Int32) : (cutD su f).getD BRK = (su f).getD BRK := by
  unfold cutD
  cases q : su f with
  | none => rfl
  | some v =>
    by_cases z : v = BRK
    · simp only [if_pos z]; rw [z]; rfl
    · simp only [if_neg z]
theorem cut_nb (su : Den) (f : Nat → Int32) (v : Int32) (h : cutD su f = some v) : v ≠ BRK := by
  unfold cutD at h
  cases q : su f with
  | none => rw [q] at h; cases h
  | some x =>
    rw [q] at h
    have h : (if x = BRK then none else some x) = some v := h
    by_cases z : x = BRK
    · rw [if_pos z] at h; cases h
    · rw [if_neg z] at h; injection h with h; rw [← h]; exact z
theorem cut_work {fa : Nat} {code : Nat → Int32} {size frm : Int32} {su : Den} (h : WorkS fa code size frm su) : WorkS fa code size frm (cutD su) := fun t g h1 h2 h3 h4 => by
  obtain ⟨g', e1, e2⟩ := h t g h1 h2 h3 h4
  exact ⟨g', by rw [cut_get]; exact e1, e2⟩
theorem cut_reck {seg : Nat → Int32} {a b : Int32} {su : Den} (h : ReckS seg a b su) (hg : GD 0 su) : ReckS seg a b (cutD su) := fun base g f h1 h2 h3 h4 h5 => by
  have e : cutD su f = su f := by
    unfold cutD
    cases q : su f with
    | none => rfl
    | some v => exact if_neg (hg.2 f v (fun k hk => h5.2 k hk) q)
  rw [e]
  exact h base g f h1 h2 h3 h4 h5
theorem law_r {G : hG} {t N sz len : Nat} {hd : Nat → Bool} {te su : Nat → Den} {f : hG} {seg : Nat → Int32} (hN : N ≤ 12) (h2 : gI G t 2 = nI N) (h1 : gI G t 1 = nI sz) (hs : sz ≤ 402) (hl : len ≤ 400) (hD : ∀ j, j < N → DC G t sz j (hd j) (te j) (su j)) (hM : ∀ j, j < N → DM f len j (hd j) (te j) (su j)) (s1 : seg 1 = nI N) (s2 : ∀ j, j < 8 * N → seg (2 + j) = gI f 377 j) (s3 : ∀ j, j < len → seg (98 + 2 * j) = gI f 378 j ∧ seg (98 + 2 * j + 1) = gI f 379 j) : LawR G t seg := by
  refine ⟨N, hd, te, fun i => cutD (su i), hN, h2, s1, fun i hi => ?_⟩
  obtain ⟨d1, d2, d3, d4, ⟨a, d5, b, k, d6, d7, d8, d9⟩, d10⟩ := hD i hi
  obtain ⟨m1, m2, m3⟩ := hM i hi
  have fr : ∀ {a b : Nat} {den : Den}, FrM 0 (gI f 378) (gI f 379) a b den → b ≤ len → ReckS seg (nI a) (nI b) den := fun h hb => frm_reck (h.ex (fun j x y => ⟨(s3 j (by omega)).1, (s3 j (by omega)).2⟩)) (by omega)
  refine ⟨d1, (s2 _ (by omega)).trans m1, ?_, ?_, d2, fun q => ?_, fun f1 f2 e => ⟨d3.1 f1 f2 e, ?_⟩⟩
  · rw [h1, d5]
    exact frc_work d6 d7 d8 d9 hs
  · rw [show 2 + 8 * i + 5 = 2 + (8 * i + 5) by omega, show 2 + 8 * i + 6 = 2 + (8 * i + 6) by omega, s2 _ (by omega), s2 _ (by omega)]
    rcases m2 with ⟨a, b, k1, k2, k3, k4, k5⟩ | ⟨a, k1, k2, k3, k4⟩
    · left
      rw [k3, k4]
      exact ⟨nI_lt' k1 (by omega), fr k5 k2⟩
    · right
      rw [k2, k3]
      exact ⟨Int32.lt_irrefl, k4⟩
  · obtain ⟨a2, e1, b2, k2, e2, e3, e4, e5⟩ := d10 q
    obtain ⟨x, y, f1, f2, f3, f4⟩ := m3 q
    refine ⟨?_, ?_, fun g v => cut_nb (su i) g v⟩
    · rw [h1, e1]
      exact cut_work (frc_work e2 e3 e4 e5 hs)
    · rw [show 2 + 8 * i + 3 = 2 + (8 * i + 3) by omega, show 2 + 8 * i + 4 = 2 + (8 * i + 4) by omega, s2 _ (by omega), s2 _ (by omega), f2, f3]
      exact cut_reck (fr f4 f1) d4
  · show cutD (su i) f1 = cutD (su i) f2
    unfold cutD
    rw [d4.1 f1 f2 e]
