/-! texts: the model's next token -/
section NT
variable {B : Nat → Nat} {n : Nat} {f : hG}
def TBM (B : Nat → Nat) (n : Nat) (f : hG) : Prop := n ≤ 400 ∧ gI f 367 13 = nI n ∧ ∀ j, j < n → gI f 376 j = nI (B j) ∧ B j < 256
def sNx (a k : Nat) : Bool := a == 367 && (k == 14 || k == 15 || k == 16 || k == 17)
theorem TBM.ex {f' : hG} (h : TBM B n f) (u : Un sNx f f') : TBM B n f' := ⟨h.1, (u.I rfl).trans h.2.1, fun j hj => ⟨(u.I rfl).trans (h.2.2 j hj).1, (h.2.2 j hj).2⟩⟩
def wV (f : Nat → Nat) (k : Nat) : Int64 := if k ≤ 10 then nL (hsh f k) else -1
def enB (B : Nat → Nat) (n p : Nat) : Nat := if p < n then eE B n p else n
/-- the model's token at p -/
def MS (B : Nat → Nat) (n p : Nat) (f : hG) : Prop := (p ≤ n ∧ gI f 367 18 = -1) ∧ gI f 367 14 = nI p ∧ gI f 367 15 = nI (enB B n p) ∧
  ((p = n ∧ gI f 367 16 = 0) ∨ (p < n ∧ smB (B p) = true ∧ gI f 367 16 = 1 ∧ gJ f 367 17 = wV (fun j => B (p + j) - 96) (eE B n p - p)) ∨ (p < n ∧ dgB (B p) = true ∧ gI f 367 16 = 2 ∧ gJ f 367 17 = nL (nv (fun j => B (p + j) - 48) (eE B n p - p))) ∨ (p < n ∧ ¬ smB (B p) = true ∧ ¬ dgB (B p) = true ∧ gI f 367 16 = 3 ∧ gJ f 367 17 = nL (B p)))
theorem small_m {b : Nat} (hb : b < 256) (g : hG) : q_Mo_isSmall (nI b) g = some (bI (smB b = true), g) := small_c hb g
theorem digit_m {b : Nat} (hb : b < 256) (g : hG) : q_Mo_isDigit (nI b) g = some (bI (dgB b = true), g) := digit_c hb g
theorem skip_l (K : hG → hO Unit) : ∀ (m q F : Nat) (f : hG), q + m = n → m < F → TBM B n f → gI f 367 14 = nI q → ∃ f', q_Mo_next_4L K F f = K f' ∧ gI f' 367 14 = nI (nR B m q) ∧ Un sNx f f' := by
  intro m
  induction m with
  | zero =>
    intro q F f h1 h2 h h3
    have hn := h.1
    obtain ⟨F, rfl⟩ : ∃ q, F = q + 1 := ⟨F - 1, by omega⟩
    rw [q_Mo_next_4L_s]
    unfold q_Mo_next_4
    rw [h.2.1, h3, if_pos (nI_le (by omega) (by omega))]
    exact ⟨f, rfl, h3, Un.rf⟩
  | succ m ih =>
    intro q F f h1 h2 h h3
    have hn := h.1
    obtain ⟨F, rfl⟩ : ∃ q, F = q + 1 := ⟨F - 1, by omega⟩
    have b3 := h.2.2 q (by omega)
    rw [q_Mo_next_4L_s]
    unfold q_Mo_next_4 nR
    rw [h.2.1, h3, if_neg (nI_ge (by omega) (by omega)), gd_nI (by omega) (by omega), nI_clamp (by omega), b3.1]
    by_cases z : B q = 32
    · rw [if_pos (show nI (B q) = (32 : Int32) by rw [z]; rfl), if_pos z, wr_e, nI_1]
      obtain ⟨f', e1, e2, e3⟩ := ih (q + 1) F (sI f 367 14 (nI (q + 1))) (by omega) (by omega) (h.ex (Un.rf.sI rfl _)) rd_s
      exact ⟨f', e1, e2, (Un.rf.sI rfl _).tr e3⟩
    · rw [if_neg (show ¬ nI (B q) = (32 : Int32) from nI_dif (b := 32) z (by omega) (by omega)), if_neg z]
      exact ⟨f, rfl, h3, Un.rf⟩
theorem un_sJ {S : Nat → Nat → Bool} {g : hG} {a k : Nat} (v : Int64) (h : S a k = true) : Un S g (sJ g a k v) := fun x j q => by
  refine ⟨rfl, ?_, rfl⟩
  rw [gJ_sJ, if_neg]
  rintro ⟨rfl, rfl⟩
  rw [h] at q
  cases q
theorem word_l (K : hG → hO Unit) {p : Nat} (hp : p < n) (hs : smB (B p) = true) : ∀ (m k F : Nat) (f : hG), k + m = eE B n p - p → m < F → TBM B n f → gI f 367 14 = nI p → gI f 367 15 = nI (p + k) → gI f 367 16 = 1 → gJ f 367 17 = wV (fun j => B (p + j) - 96) k → ∃ f', q_Mo_next_76L K F f = K f' ∧ gI f' 367 14 = nI p ∧ gI f' 367 15 = nI (eE B n p) ∧ gI f' 367 16 = 1 ∧ gJ f' 367 17 = wV (fun j => B (p + j) - 96) (eE B n p - p) ∧ Un sNx f f' := by
  obtain ⟨e1, e2, e3, e4⟩ := eE_p B hp
  have rs := row_sm hp hs
  intro m
  induction m with
  | zero =>
    intro k F f h1 h2 h h14 h15 h16 h17
    have hn := h.1
    obtain ⟨F, rfl⟩ : ∃ q, F = q + 1 := ⟨F - 1, by omega⟩
    have fin : ∃ f', K f = K f' ∧ gI f' 367 14 = nI p ∧ gI f' 367 15 = nI (eE B n p) ∧ gI f' 367 16 = 1 ∧ gJ f' 367 17 = wV (fun j => B (p + j) - 96) (eE B n p - p) ∧ Un sNx f f' :=
      ⟨f, rfl, h14, by rw [h15, show p + k = eE B n p by omega], h16, by rw [h17, show k = eE B n p - p by omega], Un.rf⟩
    rw [q_Mo_next_76L_s]
    unfold q_Mo_next_76
    rw [if_pos h16, h.2.1, h15]
    by_cases z : eE B n p < n
    · have b3 := h.2.2 (p + k) (by omega)
      have ns : ¬ smB (B (p + k)) = true := fun q => e4 z (goB_i.mpr ⟨by omega, Or.inl ⟨by rw [show eE B n p = p + k by omega]; exact q, by
        have := rs (k - 1) (by omega)
        rw [show eE B n p - 1 = p + (k - 1) by omega]; exact this⟩⟩)
      rw [if_neg (nI_ge (by omega) (by omega)), gd_nI (by omega) (by omega), nI_clamp (by omega), b3.1, small_m b3.2, bnd_s, bI_f ns, if_pos rfl]
      exact fin
    · rw [if_pos (nI_le (by omega) (by omega))]
      exact fin
  | succ m ih =>
    intro k F f h1 h2 h h14 h15 h16 h17
    have hn := h.1
    obtain ⟨F, rfl⟩ : ∃ q, F = q + 1 := ⟨F - 1, by omega⟩
    have b3 := h.2.2 (p + k) (by omega)
    have sk := rs k (by omega)
    have ek : nI (p + k) - nI p = nI k := by rw [nI_sub (by omega)]; congr 1; omega
    rw [q_Mo_next_76L_s]
    unfold q_Mo_next_76 q_Mo_next_115
    rw [if_pos h16, h.2.1, h15, if_neg (nI_ge (by omega) (by omega)), gd_nI (by omega) (by omega), nI_clamp (by omega), b3.1, small_m b3.2, bnd_s, bI_t sk, if_neg (by decide), h15, h14, ek]
    have go : ∀ v : Int64, v = wV (fun j => B (p + j) - 96) (k + 1) → ∃ f', q_Mo_next_76L K F (sI (sJ f 367 17 v) 367 15 (nI (p + k + 1))) = K f' ∧ gI f' 367 14 = nI p ∧ gI f' 367 15 = nI (eE B n p) ∧ gI f' 367 16 = 1 ∧ gJ f' 367 17 = wV (fun j => B (p + j) - 96) (eE B n p - p) ∧ Un sNx f f' := fun v hv => by
      have u : Un sNx f (sI (sJ f 367 17 v) 367 15 (nI (p + k + 1))) := (un_sJ v rfl).sI rfl _
      obtain ⟨f', a1, a2, a3, a4, a5, a6⟩ := ih (k + 1) F (sI (sJ f 367 17 v) 367 15 (nI (p + k + 1))) (by omega) (by omega) (h.ex u) (by rw [rd_k (by decide)]; exact h14) rd_s (by rw [rd_k (by decide)]; exact h16) (by rw [gJ_sI, gJ_sJ, if_pos ⟨rfl, rfl⟩]; exact hv)
      exact ⟨f', a1, a2, a3, a4, a5, u.tr a6⟩
    by_cases z : 10 ≤ k
    · rw [if_pos (show (10 : Int32) ≤ nI k from nI_le (a := 10) z (by omega)), wr_e, wr_e, gI_sJ, h15, nI_1]
      exact go (-1) (by unfold wV; rw [if_neg (by omega)])
    · have lt := hsh_lt (fun j => B (p + j) - 96) k (fun j hj => by have := smB_i.mp (rs j (by omega)); omega)
      have sb := smB_i.mp sk
      have vv : ((gJ f 367 17) * (32 : Int64)) + (gI f 376 (nI (p + k)).toNatClampNeg).toInt64 - (96 : Int64) = wV (fun j => B (p + j) - 96) (k + 1) := by
        unfold wV
        rw [h17, nI_clamp (by omega), b3.1, nI_64 (by omega)]
        unfold wV
        rw [if_pos (by omega), if_pos (by omega), show (32 : Int64) = nL 32 from rfl, nL_mul, nL_add, show (96 : Int64) = nL 96 from rfl, nL_sub (by omega), hsh]
        congr 1
        omega
      rw [if_neg (show ¬ (10 : Int32) ≤ nI k from nI_ge (a := k) (b := 10) (by omega) (by decide)), gd_nI (by omega) (by omega), vv, wr_e, wr_e, gI_sJ, h15, nI_1]
      exact go _ rfl
theorem numb_l (K : hG → hO Unit) {p : Nat} (hp : p < n) (hs : dgB (B p) = true) : ∀ (m k F : Nat) (f : hG), k + m = eE B n p - p → m < F → TBM B n f → gI f 367 14 = nI p → gI f 367 15 = nI (p + k) → gI f 367 16 = 2 → gJ f 367 17 = nL (nv (fun j => B (p + j) - 48) k) → ∃ f', q_Mo_next_123L K F f = K f' ∧ gI f' 367 14 = nI p ∧ gI f' 367 15 = nI (eE B n p) ∧ gI f' 367 16 = 2 ∧ gJ f' 367 17 = nL (nv (fun j => B (p + j) - 48) (eE B n p - p)) ∧ Un sNx f f' := by
  obtain ⟨e1, e2, e3, e4⟩ := eE_p B hp
  have rs := row_dg hp hs
  intro m
  induction m with
  | zero =>
    intro k F f h1 h2 h h14 h15 h16 h17
    have hn := h.1
    obtain ⟨F, rfl⟩ : ∃ q, F = q + 1 := ⟨F - 1, by omega⟩
    have fin : ∃ f', K f = K f' ∧ gI f' 367 14 = nI p ∧ gI f' 367 15 = nI (eE B n p) ∧ gI f' 367 16 = 2 ∧ gJ f' 367 17 = nL (nv (fun j => B (p + j) - 48) (eE B n p - p)) ∧ Un sNx f f' :=
      ⟨f, rfl, h14, by rw [h15, show p + k = eE B n p by omega], h16, by rw [h17, show k = eE B n p - p by omega], Un.rf⟩
    rw [q_Mo_next_123L_s]
    unfold q_Mo_next_123
    rw [if_pos h16, h.2.1, h15]
    by_cases z : eE B n p < n
    · have b3 := h.2.2 (p + k) (by omega)
      have ns : ¬ dgB (B (p + k)) = true := fun q => e4 z (goB_i.mpr ⟨by omega, Or.inr ⟨by rw [show eE B n p = p + k by omega]; exact q, by
        have := rs (k - 1) (by omega)
        rw [show eE B n p - 1 = p + (k - 1) by omega]; exact this⟩⟩)
      rw [if_neg (nI_ge (by omega) (by omega)), gd_nI (by omega) (by omega), nI_clamp (by omega), b3.1, digit_m b3.2, bnd_s, bI_f ns, if_pos rfl]
      exact fin
    · rw [if_pos (nI_le (by omega) (by omega))]
      exact fin
  | succ m ih =>
    intro k F f h1 h2 h h14 h15 h16 h17
    have hn := h.1
    obtain ⟨F, rfl⟩ : ∃ q, F = q + 1 := ⟨F - 1, by omega⟩
    have b3 := h.2.2 (p + k) (by omega)
    have sk := rs k (by omega)
    have lt := nv_lt (fun j => B (p + j) - 48) k (fun j hj => by have := dgB_i.mp (rs j (by omega)); omega)
    have sb := dgB_i.mp sk
    have go : ∀ v : Int64, v = nL (nv (fun j => B (p + j) - 48) (k + 1)) → ∃ f', q_Mo_next_161 (q_Mo_next_123L K F) v f = K f' ∧ gI f' 367 14 = nI p ∧ gI f' 367 15 = nI (eE B n p) ∧ gI f' 367 16 = 2 ∧ gJ f' 367 17 = nL (nv (fun j => B (p + j) - 48) (eE B n p - p)) ∧ Un sNx f f' := fun v hv => by
      have u : Un sNx f (sI (sJ f 367 17 v) 367 15 (nI (p + k + 1))) := (un_sJ v rfl).sI rfl _
      obtain ⟨f', a1, a2, a3, a4, a5, a6⟩ := ih (k + 1) F (sI (sJ f 367 17 v) 367 15 (nI (p + k + 1))) (by omega) (by omega) (h.ex u) (by rw [rd_k (by decide)]; exact h14) rd_s (by rw [rd_k (by decide)]; exact h16) (by rw [gJ_sI, gJ_sJ, if_pos ⟨rfl, rfl⟩]; exact hv)
      refine ⟨f', ?_, a2, a3, a4, a5, u.tr a6⟩
      unfold q_Mo_next_161
      rw [wr_e, wr_e, gI_sJ, h15, nI_1]
      exact a1
    have le : gJ f 367 17 ≤ (1000000 : Int64) ↔ nv (fun j => B (p + j) - 48) k ≤ 1000000 := by
      rw [h17, Int64.le_iff_toInt_le, show (1000000 : Int64).toInt = 1000000 from rfl]
      unfold nL
      rw [Int64.toInt_ofNat_of_lt (by omega)]
      omega
    rw [q_Mo_next_123L_s]
    unfold q_Mo_next_123
    rw [if_pos h16, h.2.1, h15, if_neg (nI_ge (by omega) (by omega)), gd_nI (by omega) (by omega), nI_clamp (by omega), b3.1, digit_m b3.2, bnd_s, bI_t sk, if_neg (by decide)]
    by_cases z : nv (fun j => B (p + j) - 48) k ≤ 1000000
    · rw [if_pos (le.mpr z), h15, gd_nI (by omega) (by omega), nI_clamp (by omega), b3.1, h17, nI_64 (by omega)]
      refine go _ ?_
      rw [show (10 : Int64) = nL 10 from rfl, nL_mul, nL_add, show (48 : Int64) = nL 48 from rfl, nL_sub (by omega), nv, if_pos z]
      congr 1
      omega
    · rw [if_neg (fun q => z (le.mp q))]
      refine go _ ?_
      rw [h17, nv, if_neg z]
theorem n76_no (K : hG → hO Unit) {f : hG} (h : ¬ gI f 367 16 = 1) : q_Mo_next_76L K FU f = K f := by
  obtain ⟨F, hF⟩ : ∃ q, FU = q + 1 := ⟨999999, rfl⟩
  rw [hF, q_Mo_next_76L_s]
  unfold q_Mo_next_76
  rw [if_neg h]
theorem n123_no (K : hG → hO Unit) {f : hG} (h : ¬ gI f 367 16 = 2) : q_Mo_next_123L K FU f = K f := by
  obtain ⟨F, hF⟩ : ∃ q, FU = q + 1 := ⟨999999, rfl⟩
  rw [hF, q_Mo_next_123L_s]
  unfold q_Mo_next_123
  rw [if_neg h]
theorem next_m {f : hG} (h : TBM B n f) {e : Nat} (he : e ≤ n) (h15 : gI f 367 15 = nI e) (h18 : gI f 367 18 = -1) : ∃ f', q_Mo_next f = some ((), f') ∧ MS B n (nb B n e) f' ∧ Un sNx f f' := by
  have hn := h.1
  obtain ⟨q1, q2, q3, q4⟩ := nb_p B he
  have u0 : Un sNx f (sI f 367 14 (gI f 367 15)) := Un.rf.sI rfl _
  obtain ⟨f1, a1, a2, a3⟩ := skip_l (B := B) (fun g7 => q_Mo_next_23 g7) (n - e) e FU (sI f 367 14 (gI f 367 15)) (by omega) (Nat.lt_of_le_of_lt (show n - e ≤ 400 by omega) (by decide)) (h.ex u0) (by rw [rd_s, h15])
  have h1 : TBM B n f1 := h.ex (u0.tr a3)
  generalize hp : nb B n e = p at *
  have a2' : gI f1 367 14 = nI p := by rw [a2, ← hp]; rfl
  have u2 : Un sNx f1 (sJ (sI f1 367 15 (nI p)) 367 17 0) := (Un.rf.sI (by rfl) _).tr (un_sJ _ rfl)
  have w57 : ∀ w, q_Mo_next_57 w (sJ (sI f1 367 15 (nI p)) 367 17 0) = if w = 3 then (gd (nI p) 400 <| q_Mo_next_76L (fun g55 => q_Mo_next_123L (fun g57 => some ((), g57)) FU g55) FU (sI (sJ (sI (sJ (sI f1 367 15 (nI p)) 367 17 0) 367 16 w) 367 17 (gI f1 376 p).toInt64) 367 15 (nI (p + 1)))) else q_Mo_next_76L (fun g36 => q_Mo_next_123L (fun g49 => some ((), g49)) FU g36) FU (sI (sJ (sI f1 367 15 (nI p)) 367 17 0) 367 16 w) := fun w => by
    have x16 : gI (sI (sJ (sI f1 367 15 (nI p)) 367 17 0) 367 16 w) 367 16 = w := rd_s
    have x14 : gI (sI (sJ (sI f1 367 15 (nI p)) 367 17 0) 367 16 w) 367 14 = nI p := by rw [rd_k (by decide), gI_sJ, rd_k (by decide), a2']
    have x37 : gI (sI (sJ (sI f1 367 15 (nI p)) 367 17 0) 367 16 w) 376 p = gI f1 376 p := by rw [rd_a (by decide), gI_sJ, rd_a (by decide)]
    have x15 : gI (sI (sJ (sI f1 367 15 (nI p)) 367 17 0) 367 16 w) 367 15 = nI p := by rw [rd_k (by decide), gI_sJ, rd_s]
    unfold q_Mo_next_57
    rw [wr_e, x16, x14, wr_e, wr_e, nI_clamp (by omega), x37, gI_sJ, x15, nI_1]
  have m23 : q_Mo_next f = q_Mo_next_23 f1 := by
    unfold q_Mo_next
    rw [wr_e]
    exact a1
  have k23 : q_Mo_next_23 f1 = (if p = n then q_Mo_next_57 0 (sJ (sI f1 367 15 (nI p)) 367 17 0) else q_Mo_next_57 (if smB (B p) = true then 1 else if dgB (B p) = true then 2 else 3) (sJ (sI f1 367 15 (nI p)) 367 17 0)) := by
    unfold q_Mo_next_23
    rw [wr_e, wr_e, a2', gI_sJ, rd_k (by decide), a2', rd_k (by decide), h1.2.1]
    by_cases z : p = n
    · rw [if_pos (by rw [z]), if_pos z]
    · have b3 := h1.2.2 p (by omega)
      rw [if_neg (nI_dif z (by omega) (by omega)), if_neg z, gd_nI (by omega) (by omega), nI_clamp (by omega), rd_a (by decide), b3.1, small_m b3.2, bnd_s]
      by_cases y : smB (B p) = true
      · rw [bI_t y, if_neg (by decide), if_pos y]
      · rw [bI_f y, if_pos rfl, if_neg y, gI_sJ, rd_k (by decide), a2', gd_nI (by omega) (by omega), nI_clamp (by omega), rd_a (by decide), b3.1, digit_m b3.2, bnd_s]
        by_cases x : dgB (B p) = true
        · rw [bI_t x, if_neg (by decide), if_pos x]
        · rw [bI_f x, if_pos rfl, if_neg x]
  have uX : ∀ w, Un sNx f1 (sI (sJ (sI f1 367 15 (nI p)) 367 17 0) 367 16 w) := fun w => u2.sI rfl _
  have x16 : ∀ w, gI (sI (sJ (sI f1 367 15 (nI p)) 367 17 0) 367 16 w) 367 16 = w := fun w => rd_s
  have x14 : ∀ w, gI (sI (sJ (sI f1 367 15 (nI p)) 367 17 0) 367 16 w) 367 14 = nI p := fun w => by rw [rd_k (by decide), gI_sJ, rd_k (by decide), a2']
  have x15 : ∀ w, gI (sI (sJ (sI f1 367 15 (nI p)) 367 17 0) 367 16 w) 367 15 = nI p := fun w => by rw [rd_k (by decide), gI_sJ, rd_s]
  have x17 : ∀ w, gJ (sI (sJ (sI f1 367 15 (nI p)) 367 17 0) 367 16 w) 367 17 = 0 := fun w => by rw [gJ_sI, gJ_sJ, if_pos ⟨rfl, rfl⟩]
  rw [m23, k23]
  by_cases z : p = n
  · rw [if_pos z, w57, if_neg (by decide), n76_no _ (by rw [x16]; decide), n123_no _ (by rw [x16]; decide)]
    refine ⟨_, rfl, ⟨⟨q2, (((u0.tr a3).tr (uX 0)).I rfl).trans h18⟩, x14 0, ?_, Or.inl ⟨z, x16 0⟩⟩, (u0.tr a3).tr (uX 0)⟩
    unfold enB
    rw [x15, if_neg (by omega), z]
  · have hpn : p < n := by omega
    obtain ⟨e1, e2, e3, e4⟩ := eE_p B hpn
    rw [if_neg z]
    by_cases y : smB (B p) = true
    · obtain ⟨f', b1, b2, b3, b4, b5, b6⟩ := word_l (fun g36 => q_Mo_next_123L (fun g49 => some ((), g49)) FU g36) hpn y (eE B n p - p) 0 FU (sI (sJ (sI f1 367 15 (nI p)) 367 17 0) 367 16 1) (by omega) (Nat.lt_of_le_of_lt (show eE B n p - p ≤ 400 by omega) (by decide)) (h1.ex (uX 1)) (x14 1) (x15 1) (x16 1) (by rw [x17]; rfl)
      rw [if_pos y, w57, if_neg (by decide), b1, n123_no _ (by rw [b4]; decide)]
      refine ⟨f', rfl, ⟨⟨q2, ((((u0.tr a3).tr (uX 1)).tr b6).I rfl).trans h18⟩, b2, ?_, Or.inr (Or.inl ⟨hpn, y, b4, b5⟩)⟩, ((u0.tr a3).tr (uX 1)).tr b6⟩
      unfold enB
      rw [b3, if_pos hpn]
    · rw [if_neg y]
      by_cases x : dgB (B p) = true
      · obtain ⟨f', b1, b2, b3, b4, b5, b6⟩ := numb_l (fun g49 => some ((), g49)) hpn x (eE B n p - p) 0 FU (sI (sJ (sI f1 367 15 (nI p)) 367 17 0) 367 16 2) (by omega) (Nat.lt_of_le_of_lt (show eE B n p - p ≤ 400 by omega) (by decide)) (h1.ex (uX 2)) (x14 2) (x15 2) (x16 2) (by rw [x17]; rfl)
        rw [if_pos x, w57, if_neg (by decide), n76_no _ (by rw [x16]; decide), b1]
        refine ⟨f', rfl, ⟨⟨q2, ((((u0.tr a3).tr (uX 2)).tr b6).I rfl).trans h18⟩, b2, ?_, Or.inr (Or.inr (Or.inl ⟨hpn, x, b4, b5⟩))⟩, ((u0.tr a3).tr (uX 2)).tr b6⟩
        unfold enB
        rw [b3, if_pos hpn]
      · have b3 := h1.2.2 p hpn
        have ee : eE B n p = p + 1 := by
          by_cases w : p + 1 < eE B n p
          · obtain ⟨-, q | q⟩ := goB_i.mp (e3 (p + 1) (by omega) w)
            · exact absurd q.2 y
            · exact absurd q.2 x
          · omega
        have g16 : gI (sI (sJ (sI (sJ (sI f1 367 15 (nI p)) 367 17 0) 367 16 3) 367 17 (gI f1 376 p).toInt64) 367 15 (nI (p + 1))) 367 16 = 3 := by rw [rd_k (by decide), gI_sJ, rd_s]
        rw [if_neg x, w57, if_pos rfl, gd_nI (by omega) (by omega), n76_no _ (by rw [g16]; decide), n123_no _ (by rw [g16]; decide)]
        refine ⟨_, rfl, ⟨⟨q2, (((u0.tr a3).tr (((uX 3).tr (un_sJ _ rfl)).sI rfl _)).I rfl).trans h18⟩, ?_, ?_, Or.inr (Or.inr (Or.inr ⟨hpn, y, x, g16, ?_⟩))⟩, (u0.tr a3).tr (((uX 3).tr (un_sJ _ rfl)).sI rfl _)⟩
        · rw [rd_k (by decide), gI_sJ]; exact x14 3
        · unfold enB
          rw [rd_s, if_pos hpn, ee]
        · rw [gJ_sI, gJ_sJ, if_pos ⟨rfl, rfl⟩, b3.1, nI_64 (by omega)]
theorem nL_inj {a b : Nat} (ha : a < 2 ^ 63) (hb : b < 2 ^ 63) : nL a = nL b ↔ a = b := by
  refine ⟨fun q => ?_, fun q => by rw [q]⟩
  have : (nL a).toInt = (nL b).toInt := by rw [q]
  unfold nL at this
  rw [Int64.toInt_ofNat_of_lt ha, Int64.toInt_ofNat_of_lt hb] at this
  omega
theorem tk_cv {p : Nat} (hp : p < n) (hs : dgB (B p) = true) : ¬ smB (B p) = true ∧ tkF B n p = cv (fun j => B (p + j) - 48) (eE B n p - p) := by
  have d := dgB_i.mp hs
  have ns : ¬ smB (B p) = true := fun q => by have := smB_i.mp q; omega
  refine ⟨ns, ?_⟩
  unfold tkF
  rw [if_neg (by omega), if_neg ns, if_pos hs]
theorem cv_le (f : Nat → Nat) (k : Nat) : cv f k ≤ 1001 := by rw [cv_nv]; omega
theorem tk_sm {p : Nat} (hp : p < n) (hs : smB (B p) = true) : tkF B n p = wR (isW B p (eE B n p)) 25 0 ∧ 3000 ≤ tkF B n p ∧ tkF B n p < 3026 := by
  have e : tkF B n p = wR (isW B p (eE B n p)) 25 0 := by
    unfold tkF
    rw [if_neg (by omega), if_pos hs]
  refine ⟨e, ?_, ?_⟩ <;> rw [e] <;> rcases wR_p (isW B p (eE B n p)) 25 0 with ⟨q, -⟩ | ⟨j, -, q1, -, q2⟩ <;> omega
theorem tk_si {p : Nat} (hp : p < n) (h1 : ¬ smB (B p) = true) (h2 : ¬ dgB (B p) = true) : tkF B n p = 2000 + B p := by
  unfold tkF
  rw [if_neg (by omega), if_neg h1, if_neg h2]
theorem tk_end : tkF B n n = 4000 := by
  unfold tkF
  rw [if_pos (Nat.le_refl _)]
theorem sign_m {f : hG} (h : TBM B n f) {p : Nat} (m : MS B n p f) {s : Nat} (hs : s < 256) : q_Mo_isSign (nI s) f = some (bI (tkF B n p = 2000 + s), f) := by
  obtain ⟨m0, m1, m2, m3⟩ := m
  unfold q_Mo_isSign
  rcases m3 with ⟨rfl, k1⟩ | ⟨hp, k0, k1, k2⟩ | ⟨hp, k0, k1, k2⟩ | ⟨hp, ka, kb, k1, k2⟩
  · rw [if_neg (by rw [k1]; decide), bI_f (by rw [tk_end]; omega)]
  · have := tk_sm hp k0
    rw [if_neg (by rw [k1]; decide), bI_f (by omega)]
  · have := (tk_cv hp k0).2
    have := cv_le (fun j => B (p + j) - 48) (eE B n p - p)
    rw [if_neg (by rw [k1]; decide), bI_f (by omega)]
  · have b3 := (h.2.2 p hp).2
    rw [if_pos k1, k2, nI_64 (by omega), tk_si hp ka kb]
    by_cases z : B p = s
    · rw [if_pos (by rw [z]), bI_t (by omega)]
    · rw [if_neg (fun q => z ((nL_inj (by omega) (by omega)).mp q)), bI_f (by omega)]
theorem wd_lt : ∀ i, i < 25 → hsh (wC i) (wN i) < 1073741824 := by decide +kernel
theorem word_m {f : hG} (h : TBM B n f) {p : Nat} (m : MS B n p f) {i : Nat} (hi : i < 25) : q_Mo_isWord (nL (hsh (wC i) (wN i))) f = some (bI (tkF B n p = 3001 + i), f) := by
  obtain ⟨m0, m1, m2, m3⟩ := m
  have wl := wd_lt i hi
  obtain ⟨w1, w2⟩ := wd_ok i hi
  unfold q_Mo_isWord
  rcases m3 with ⟨rfl, k1⟩ | ⟨hp, k0, k1, k2⟩ | ⟨hp, k0, k1, k2⟩ | ⟨hp, ka, kb, k1, k2⟩
  · rw [if_neg (by rw [k1]; decide), bI_f (by rw [tk_end]; omega)]
  · have rs := row_sm hp k0
    have e : tkF B n p = 3001 + i ↔ isW B p (eE B n p) i = true := by
      rw [(tk_sm hp k0).1]
      rcases wR_p (isW B p (eE B n p)) 25 0 with ⟨q, q2⟩ | ⟨j, -, q1, q2, q3⟩
      · rw [q]; exact ⟨fun a => by omega, fun a => absurd a (q2 i (by omega) (by omega))⟩
      · rw [q3]
        constructor
        · intro a; rw [show i = j by omega]; exact q2
        · intro a; rw [isW_1 hi (show j < 25 by omega) rs a q2]
    rw [if_pos k1, k2]
    unfold wV
    by_cases z : eE B n p - p ≤ 10
    · have lt := hsh_lt (fun j => B (p + j) - 96) (eE B n p - p) (fun j hj => by have := smB_i.mp (rs j hj); omega)
      have lt2 : 32 ^ (eE B n p - p) ≤ 32 ^ 10 := Nat.pow_le_pow_right (by omega) z
      rw [if_pos z]
      by_cases y : hsh (fun j => B (p + j) - 96) (eE B n p - p) = hsh (wC i) (wN i)
      · rw [if_pos (by rw [y]), bI_t (e.mpr ((isW_h hi rs).mpr y))]
      · rw [if_neg (fun q => y ((nL_inj (by omega) (by omega)).mp q)), bI_f (fun q => y ((isW_h hi rs).mp (e.mp q)))]
    · have nn : ¬ (-1 : Int64) = nL (hsh (wC i) (wN i)) := fun q => by
        have : (-1 : Int64).toInt = (nL (hsh (wC i) (wN i))).toInt := by rw [q]
        unfold nL at this
        rw [Int64.toInt_ofNat_of_lt (by omega), show (-1 : Int64).toInt = -1 from rfl] at this
        omega
      rw [if_neg z, if_neg nn, bI_f (fun q => by have := (isW_i.mp (e.mp q)).1; omega)]
  · have := (tk_cv hp k0).2
    have := cv_le (fun j => B (p + j) - 48) (eE B n p - p)
    rw [if_neg (by rw [k1]; decide), bI_f (by omega)]
  · have b3 := tk_si hp ka kb
    rw [if_neg (by rw [k1]; decide), bI_f (fun q => ?_)]
    rw [b3] at q
    have := (h.2.2 p hp).2
    omega
/-- a number -/
theorem num_m {f : hG} (h : TBM B n f) {p : Nat} (m : MS B n p f) : (gI f 367 16 = 2 ↔ tkF B n p ≤ 1001) ∧ (tkF B n p ≤ 1001 → ∃ v, v < 20000000 ∧ gJ f 367 17 = nL v ∧ tkF B n p = min v 1001) ∧ (gI f 367 16 = 0 ↔ tkF B n p = 4000) := by
  obtain ⟨m0, m1, m2, m3⟩ := m
  rcases m3 with ⟨rfl, k1⟩ | ⟨hp, k0, k1, k2⟩ | ⟨hp, k0, k1, k2⟩ | ⟨hp, ka, kb, k1, k2⟩
  · rw [k1, tk_end]
    exact ⟨⟨fun q => absurd q (by decide), fun q => by omega⟩, fun q => by omega, ⟨fun _ => rfl, fun _ => rfl⟩⟩
  · have := tk_sm hp k0
    rw [k1]
    exact ⟨⟨fun q => absurd q (by decide), fun q => by omega⟩, fun q => by omega, ⟨fun q => absurd q (by decide), fun q => by omega⟩⟩
  · have a := (tk_cv hp k0).2
    have b := cv_le (fun j => B (p + j) - 48) (eE B n p - p)
    have rs := row_dg hp k0
    rw [k1]
    refine ⟨⟨fun _ => by omega, fun _ => rfl⟩, fun _ => ⟨_, nv_lt _ _ (fun j hj => by have := dgB_i.mp (rs j hj); omega), k2, by rw [a, cv_nv]⟩, ⟨fun q => absurd q (by decide), fun q => by omega⟩⟩
  · have a := tk_si hp ka kb
    have b := (h.2.2 p hp).2
    rw [k1]
    exact ⟨⟨fun q => absurd q (by decide), fun q => by omega⟩, fun q => by omega, ⟨fun q => absurd q (by decide), fun q => by omega⟩⟩
end NT
