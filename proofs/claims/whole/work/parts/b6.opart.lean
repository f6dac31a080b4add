/-! orders: a leaf, the model -/
section PO
variable {B : Nat → Nat} {n t lg p pa dp sz len : Nat} {L : Pi} {f g : hG}
/-- a number within bounds, the model -/
theorem number_b (h1 : TBM B n f) (h2 : MS B n p f) {lo hi : Nat} (hl : lo < 2 ^ 31) (hh : hi ≤ 1000) : q_Mo_number (nL lo) (nL hi) f = (bnd (q_Mo_must (bI (tkF B n p ≤ 1000 ∧ lo ≤ tkF B n p ∧ tkF B n p ≤ hi)) f) fun _ g2 => some ((gJ f 367 17).toInt32, g2)) ∧ (tkF B n p ≤ 1000 → (gJ f 367 17).toInt32 = nI (tkF B n p)) := by
  obtain ⟨n1, n2, n3⟩ := num_m h1 h2
  refine ⟨?_, fun z => ?_⟩
  · unfold q_Mo_number q_Mo_number_17 q_Mo_number_18
    by_cases z : tkF B n p ≤ 1001
    · obtain ⟨v, v1, v2, v3⟩ := n2 z
      rw [if_pos (show gI f 367 16 = (2 : Int32) from n1.mpr z), v2, ← nI_64 (n := v) (by omega), in_n v lo hi (by omega) hl (by omega), bnd_s]
      by_cases w : lo ≤ v ∧ v ≤ hi
      · rw [bI_t w, bI_t (show tkF B n p ≤ 1000 ∧ lo ≤ tkF B n p ∧ tkF B n p ≤ hi by omega), if_neg (by decide)]
      · rw [bI_f w, bI_f (show ¬ (tkF B n p ≤ 1000 ∧ lo ≤ tkF B n p ∧ tkF B n p ≤ hi) by omega), if_pos rfl]
    · rw [if_neg (fun q => z (n1.mp q)), bI_f (show ¬ (tkF B n p ≤ 1000 ∧ lo ≤ tkF B n p ∧ tkF B n p ≤ hi) by omega)]
  · obtain ⟨v, v1, v2, v3⟩ := n2 (by omega)
    rw [v2, nL_32 (by omega), show v = tkF B n p by omega]
/-- a word of orders: its number, else none -/
def ordW (tk : Nat) : Int32 := if tk = 3017 then nI 7 else if tk = 3008 then nI 6 else if tk = 3025 then nI 5 else if tk = 3024 then nI 4 else if tk = 3023 then nI 3 else if tk = 3022 then nI 2 else if tk = 3019 then nI 1 else -1
theorem oPart_s (h : PM B n lg p pa dp L len f) (hc : CoR f) (F : Nat) (v : Int32) {i w : Nat} (hi : i < 7) (hw' : [18, 21, 22, 23, 24, 7, 16].getD i 0 = w) : q_Mo_orderPartAt_4L (fun x6 g8 => some (x6, g8)) (F + 1) v (nI i) f = q_Mo_orderPartAt_4L (fun x6 g8 => some (x6, g8)) F (if tkF B n p = 3001 + w then nI (i + 1) else v) (nI (i + 1)) f := by
  have w25 : w < 25 := by
    subst hw'
    exact (show ∀ i, i < 7 → [18, 21, 22, 23, 24, 7, 16].getD i 0 < 25 by decide) i hi
  rw [q_Mo_orderPartAt_4L_s]
  unfold q_Mo_orderPartAt_4
  rw [if_neg (show ¬ (7 : Int32) ≤ nI i from nI_ge (a := i) (b := 7) (by omega) (by decide)), gd_nI (by omega) (by omega), nI_clamp (by omega), hc.2.1 i hi, hw', word_p h w25, bnd_s, nI_1]
  by_cases z : tkF B n p = 3001 + w
  · rw [bI_t z, if_neg (by decide), if_pos z]
  · rw [bI_f z, if_pos rfl, if_neg z]
theorem oPart_p (h : PM B n lg p pa dp L len f) (hc : CoR f) : q_Mo_orderPartAt f = some (ordW (tkF B n p), f) := by
  unfold q_Mo_orderPartAt
  rw [show FU = 999992 + 1 + 1 + 1 + 1 + 1 + 1 + 1 + 1 from rfl, show (0 : Int32) = nI 0 from rfl, oPart_s h hc _ _ (i := 0) (by omega) rfl, oPart_s h hc _ _ (i := 1) (by omega) rfl, oPart_s h hc _ _ (i := 2) (by omega) rfl, oPart_s h hc _ _ (i := 3) (by omega) rfl, oPart_s h hc _ _ (i := 4) (by omega) rfl, oPart_s h hc _ _ (i := 5) (by omega) rfl, oPart_s h hc _ _ (i := 6) (by omega) rfl, q_Mo_orderPartAt_4L_s]
  unfold q_Mo_orderPartAt_4
  rw [if_pos (show (7 : Int32) ≤ nI 7 by decide)]
  rfl
/-- a leaf of orders: op and argument, or none -/
def leO (tk : Nat) : Option (Nat × Nat) := if tk ≤ 1000 then some (0, tk) else if tk = 3019 then some (1, 0) else if 3022 ≤ tk ∧ tk ≤ 3025 then some (tk - 3020, 0) else none
theorem leO_w {tk : Nat} (h : 1001 < tk) (h8 : tk ≠ 3008) (h17 : tk ≠ 3017) : match leO tk with
    | some x => ordW tk = nI x.1 ∧ 1 ≤ x.1 ∧ x.1 ≤ 5 ∧ x.2 = 0
    | none => ordW tk = -1 := by
  unfold leO ordW
  rw [if_neg (by omega), if_neg h17, if_neg h8]
  by_cases a : tk = 3019
  · rw [if_pos a]
    show _ ∧ _
    rw [if_neg (by omega), if_neg (by omega), if_neg (by omega), if_neg (by omega), if_pos a]
    exact ⟨rfl, by show 1 ≤ 1; omega, by show 1 ≤ 5; omega, rfl⟩
  · rw [if_neg a]
    by_cases b : 3022 ≤ tk ∧ tk ≤ 3025
    · rw [if_pos b]
      have hx : tk = 3022 ∨ tk = 3023 ∨ tk = 3024 ∨ tk = 3025 := by omega
      rcases hx with rfl | rfl | rfl | rfl <;> exact ⟨rfl, by decide, by decide, rfl⟩
    · rw [if_neg b]
      show _ = _
      rw [if_neg (by omega), if_neg (by omega), if_neg (by omega), if_neg (by omega), if_neg a]
theorem p53_ok1 (h : PM B n 1 p pa dp L len f) (hp : p < n) (hs : stB B p = true) (h50 : pa < 50) (v a b : Int32) (hv : v < 6) : ∃ f', q_Mo_readPart_53 v 1 a b f = some (3, f') ∧ PM B n 1 (nx B n p) (pa + 1) dp L (len + 1) f' ∧ Un sPm f f' ∧ gI f' 378 = upR (gI f 378) len a ∧ gI f' 379 = upR (gI f 379) len b := by
  obtain ⟨f', e1, e2, e3, e4, e5⟩ := leaf_p h hp hs h50 a b
  refine ⟨f', ?_, e2, e3, e4, e5⟩
  unfold q_Mo_readPart_53
  rw [e1, bnd_s, if_neg (by rw [show gI f' 367 20 = 1 from e2.2.2.2.2.1]; decide), if_pos hv]
theorem p53_no1 (h : PM B n 1 p pa dp L len f) (w : Int32) (hw : w = 0 ∨ 50 ≤ pa) (h5 : pa ≤ 50) (v a b : Int32) : ∃ f', q_Mo_readPart_53 v w a b f = some (3, f') ∧ PF 1 p f' ∧ Un sPm f f' := by
  obtain ⟨f', e1, e2, e3⟩ := leaf_0 h w hw h5 a b
  refine ⟨f', ?_, e2, e3⟩
  unfold q_Mo_readPart_53
  rw [e1, bnd_s, if_neg (by rw [show gI f' 367 20 = 1 from e2.2.2.1]; decide)]
  by_cases y : v < 6
  · rw [if_pos y]
  · rw [if_neg y, if_neg (by rw [e2.1]; decide)]
/-- the model's part at a leaf -/
theorem rp17 (h : PM B n 1 p pa dp L len f) (hc : CoR f) (h91 : tkF B n p ≠ 2091) : q_Mo_readPart f = q_Mo_readPart_17 (ordW (tkF B n p)) f := by
  unfold q_Mo_readPart
  rw [show q_Mo_isSign 91 f = _ from sign_p h (s := 91) (by omega), bnd_s, bI_f (by omega), if_pos rfl, if_neg (by rw [show gI f 367 20 = 1 from h.2.2.2.2.1]; decide), oPart_p h hc, bnd_s]
theorem part_m1 (h : PM B n 1 p pa dp L len f) (hc : CoR f) (h91 : tkF B n p ≠ 2091) (h8 : tkF B n p ≠ 3008) (h17 : tkF B n p ≠ 3017) : match leO (tkF B n p) with
    | some x => ∃ v : Int32, v < 6 ∧ q_Mo_readPart f = q_Mo_readPart_53 v 1 (nI x.1) (nI x.2) f
    | none => ∃ v a b, q_Mo_readPart f = q_Mo_readPart_53 v 0 a b f := by
  obtain ⟨n1, n2, n3⟩ := num_p h
  rw [rp17 h hc h91]
  unfold q_Mo_readPart_17 q_Mo_readPart_29 q_Mo_readPart_30 q_Mo_readPart_40 q_Mo_readPart_46
  by_cases z : tkF B n p ≤ 1001
  · obtain ⟨v, v1, v2, v3⟩ := n2 z
    have lw : ordW (tkF B n p) = -1 := by
      unfold ordW
      rw [if_neg (by omega), if_neg (by omega), if_neg (by omega), if_neg (by omega), if_neg (by omega), if_neg (by omega), if_neg (by omega)]
    have l1 : (1000 : Int64) < gJ f 367 17 ↔ 1000 < v := by
      rw [v2, Int64.lt_iff_toInt_lt, show (1000 : Int64).toInt = 1000 from rfl]
      unfold nL
      rw [Int64.toInt_ofNat_of_lt (by omega)]
      omega
    rw [if_pos (n1.mpr z), lw]
    unfold leO
    by_cases y : tkF B n p ≤ 1000
    · rw [if_pos y]
      refine ⟨-1, by decide, ?_⟩
      rw [if_neg (show ¬ (1000 : Int64) < gJ f 367 17 from fun q => by have := l1.mp q; omega), if_pos rfl, if_neg (by decide), if_pos rfl, if_neg (by decide), v2, nL_32 (by omega), show v = tkF B n p by omega]
      rfl
    · rw [if_neg y, if_neg (show ¬ tkF B n p = 3019 by omega), if_neg (show ¬ (3022 ≤ tkF B n p ∧ tkF B n p ≤ 3025) by omega)]
      rw [if_pos (l1.mpr (by omega)), if_pos rfl, if_pos rfl, if_pos rfl, if_pos rfl]
      exact ⟨_, _, _, rfl⟩
  · rw [if_neg (fun q => z (n1.mp q)), if_pos rfl]
    have lw := leO_w (tk := tkF B n p) (by omega) h8 h17
    cases q : leO (tkF B n p) with
    | some x =>
      rw [q] at lw
      obtain ⟨w1, w2, w3, w4⟩ := lw
      have nm : ¬ ordW (tkF B n p) = -1 := by rw [w1]; exact n_m1 (by omega)
      rw [if_neg nm, if_neg nm, w1]
      refine ⟨nI x.1, nI_lt' (b := 6) (by omega) (by omega), ?_⟩
      rw [w4]
      rfl
    | none =>
      rw [q] at lw
      have lw : ordW (tkF B n p) = -1 := lw
      rw [lw, if_pos rfl, if_pos rfl, if_pos rfl]
      exact ⟨_, _, _, rfl⟩
/-- at 6, high 7 -/
def ahM (tk : Nat) : Nat := if tk = 3008 then 6 else 7
def ahH (tk : Nat) : Nat := if tk = 3008 then 7 else 24
theorem part_m1a (h : PM B n 1 p pa dp L len f) (hc : CoR f) (h8 : tkF B n p = 3008 ∨ tkF B n p = 3017) : q_Mo_readPart f = q_Mo_readPart_53 (nI (ahM (tkF B n p))) 1 (nI (ahM (tkF B n p))) 0 f := by
  obtain ⟨n1, n2, n3⟩ := num_p h
  rw [rp17 h hc (by omega)]
  unfold q_Mo_readPart_17 q_Mo_readPart_29 q_Mo_readPart_30 q_Mo_readPart_40 q_Mo_readPart_46
  rw [if_neg (fun q => by have := n1.mp q; omega), if_pos rfl]
  have lw : ordW (tkF B n p) = nI (ahM (tkF B n p)) := by rcases h8 with q | q <;> rw [q] <;> rfl
  have nm : ¬ ordW (tkF B n p) = -1 := by rw [lw]; exact n_m1 (by unfold ahM; split <;> omega)
  rw [if_neg nm, if_neg nm, lw]
theorem PM.w379 (h : PM B n lg p pa dp L len f) (k : Nat) (v : Int32) : PM B n lg p pa dp L len (sI f 379 k v) := by
  obtain ⟨j1, j2, j3, j4, j5, j6, j7, j8, j9, j10, j11, j12⟩ := h
  have r : ∀ a x, a ≠ 379 → gI (sI f 379 k v) a x = gI f a x := fun a x ha => rd_a ha
  exact ⟨⟨j1.1, (r _ _ (by decide)).trans j1.2.1, fun j hj => ⟨(r _ _ (by decide)).trans (j1.2.2 j hj).1, (j1.2.2 j hj).2⟩⟩, j2.ex (fun x _ => r _ _ (by decide)) rfl, j3, (r _ _ (by decide)).trans j4, (r _ _ (by decide)).trans j5, (r _ _ (by decide)).trans j6, (r _ _ (by decide)).trans j7, (r _ _ (by decide)).trans j8, (r _ _ (by decide)).trans j9, j10.ex (fun i hi => ⟨r _ _ (by decide), r _ _ (by decide)⟩), j11, j12⟩
theorem PF.w379 {q : Nat} (h : PF lg q f) (k : Nat) (v : Int32) : PF lg q (sI f 379 k v) := by
  obtain ⟨h1, h2, h3, L, len, h4, h5, h6, h7⟩ := h
  have r : ∀ a x, a ≠ 379 → gI (sI f 379 k v) a x = gI f a x := fun a x ha => rd_a ha
  exact ⟨(r _ _ (by decide)).trans h1, (r _ _ (by decide)).trans h2, (r _ _ (by decide)).trans h3, L, len, (r _ _ (by decide)).trans h4, h5.ex (fun i hi => ⟨r _ _ (by decide), r _ _ (by decide)⟩), (r _ _ (by decide)).trans h6, h7⟩
theorem upR_2 (r : Nat → Int32) (k : Nat) (v w : Int32) : upR (upR r k v) k w = upR r k w := by
  funext i
  unfold upR
  by_cases z : i = k
  · rw [if_pos z, if_pos z]
  · rw [if_neg z, if_neg z, if_neg z]
/-- at, high and their number, the model -/
theorem p53_at (h : PM B n 1 p pa dp L len f) (hp : p < n) (hs : stB B p = true) (h50 : pa < 50) (h8 : tkF B n p = 3008 ∨ tkF B n p = 3017) : ∃ f', q_Mo_readPart_53 (nI (ahM (tkF B n p))) 1 (nI (ahM (tkF B n p))) 0 f = some (3, f') ∧ Un sPm f f' ∧
    (tkF B n (nx B n p) ≤ ahH (tkF B n p) → PM B n 1 (nx B n (nx B n p)) (pa + 1) dp L (len + 1) f' ∧ gI f' 378 = upR (gI f 378) len (nI (ahM (tkF B n p))) ∧ gI f' 379 = upR (gI f 379) len (nI (tkF B n (nx B n p)))) ∧
    (¬ tkF B n (nx B n p) ≤ ahH (tkF B n p) → PF 1 (nx B n p) f') := by
  obtain ⟨f1, e1, e2, e3, e4, e5⟩ := leaf_p h hp hs h50 (nI (ahM (tkF B n p))) 0
  have l4 : len < 400 := by
    have := e2.2.2.2.2.2.2.2.2.2.2.2
    have := e2.c4.2.1
    omega
  have hM : ¬ nI (ahM (tkF B n p)) < (6 : Int32) := nI_ngt (a := 6) (by unfold ahM; split <;> omega) (by unfold ahM; split <;> omega)
  have hH : (if nI (ahM (tkF B n p)) = (6 : Int32) then (7 : Int64) else 24) = nL (ahH (tkF B n p)) := by rcases h8 with q | q <;> rw [q] <;> rfl
  have h24 : ahH (tkF B n p) ≤ 24 := by unfold ahH; split <;> omega
  obtain ⟨b1, b2⟩ := number_b e2.1 e2.2.1 (lo := 0) (hi := ahH (tkF B n p)) (by omega) (by omega)
  have st : q_Mo_readPart_53 (nI (ahM (tkF B n p))) 1 (nI (ahM (tkF B n p))) 0 f = bnd (q_Mo_must (bI (tkF B n (nx B n p) ≤ 1000 ∧ 0 ≤ tkF B n (nx B n p) ∧ tkF B n (nx B n p) ≤ ahH (tkF B n p))) f1) fun _ g2 => some (3, sI g2 379 len (gJ f1 367 17).toInt32) := by
    unfold q_Mo_readPart_53 q_Mo_readPart_79
    rw [e1, bnd_s, if_neg (by rw [show gI f1 367 20 = 1 from e2.2.2.2.2.1]; decide), if_neg hM, if_pos e2.2.2.2.1, hH, show (0 : Int64) = nL 0 from rfl, b1, e2.2.2.2.2.2.1, show nI (len + 1) - (1 : Int32) = nI len from nI_sub (a := len + 1) (b := 1) (by omega)]
    cases q_Mo_must (bI (tkF B n (nx B n p) ≤ 1000 ∧ 0 ≤ tkF B n (nx B n p) ∧ tkF B n (nx B n p) ≤ ahH (tkF B n p))) f1 with
    | none => rfl
    | some x =>
      show gd (nI len) 400 _ = _
      rw [gd_nI l4 (by omega), nI_clamp (by omega)]
      rfl
  rw [st]
  by_cases z : tkF B n (nx B n p) ≤ ahH (tkF B n p)
  · obtain ⟨hp2, hs2⟩ := tk_lt (B := B) (n := n) e2.2.2.1 (by omega)
    obtain ⟨f2, m1, m2, m3⟩ := next_p e2 hp2 hs2
    refine ⟨sI f2 379 len (nI (tkF B n (nx B n p))), ?_, (e3.tr (sNx_sPm m3)).sI rfl _, fun _ => ⟨m2.w379 _ _, ?_, ?_⟩, fun q => absurd z q⟩
    · rw [bI_t (by omega), must_1 e2, m1, bnd_s, b2 (by omega)]
    · rw [gI_up0 _ _ _ (by decide), ← e4]
      exact funext (fun i => m3.I rfl)
    · rw [gI_up, show gI f2 379 = gI f1 379 from funext (fun i => m3.I rfl), e5, upR_2]
  · obtain ⟨f2, m1, m2, m3⟩ := must_0 e2
    refine ⟨sI f2 379 len (gJ f1 367 17).toInt32, ?_, (e3.tr m3).sI rfl _, fun q => absurd q z, fun _ => m2.w379 _ _⟩
    rw [bI_f (by omega), m1, bnd_s]
end PO
