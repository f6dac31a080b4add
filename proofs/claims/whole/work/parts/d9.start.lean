/-! the start: what stands behind both constructors -/
def alL : List hCl := mpL ++ mdC :: mdR 8
theorem getD_map {α β : Type} (f : α → β) (d : α) : ∀ (L : List α) (a : Nat), (L.map f).getD a (f d) = f (L.getD a d)
  | [], _ => rfl
  | x :: L, a => by
    cases a with
    | zero => rfl
    | succ a => exact getD_map f d L a
def ckR : List (List (Option Nat)) → List (List (Option Nat)) → Nat → Bool
  | [], _, _ => true
  | x :: X, Y, a => (decide (x.length ≤ 64) && decide ((Y.headD []).length ≤ 64) && (List.range 64).all (fun k => fzM a k || decide (x.getD k none = (Y.headD []).getD k none))) && ckR X Y.tail (a + 1)
theorem getD_big {l : List (Option Nat)} {k : Nat} (h : l.length ≤ k) : l.getD k none = none := by
  rw [List.getD_eq_getElem?_getD, List.getElem?_eq_none h]
  rfl
theorem ckR_ok : ∀ (X Y : List (List (Option Nat))) (a : Nat), ckR X Y a = true → ∀ i k, i < X.length → fzM (a + i) k = false → (X.getD i []).getD k none = (Y.getD i []).getD k none
  | [], _, _, _, i, _, h, _ => absurd h (Nat.not_lt_zero _)
  | x :: X, Y, a, h, i, k, hi, hf => by
    unfold ckR at h
    rw [Bool.and_eq_true, Bool.and_eq_true, Bool.and_eq_true] at h
    obtain ⟨⟨⟨h1, h2⟩, h3⟩, h4⟩ := h
    cases i with
    | zero =>
      have e : Y.getD 0 [] = Y.headD [] := by cases Y <;> rfl
      rw [e]
      show x.getD k none = _
      by_cases z : k < 64
      · have q := List.all_eq_true.mp h3 k (List.mem_range.mpr z)
        rw [show fzM a k = false from hf, Bool.false_or] at q
        exact of_decide_eq_true q
      · have a1 := of_decide_eq_true h1
        have a2 := of_decide_eq_true h2
        rw [getD_big (by omega), getD_big (by omega)]
    | succ i =>
      have e : Y.getD (i + 1) [] = Y.tail.getD i [] := by cases Y <;> rfl
      rw [e]
      show (X.getD i []).getD k none = _
      exact ckR_ok X Y.tail (a + 1) h4 i k (by rw [List.length_cons] at hi; omega) (by rw [show a + 1 + i = a + (i + 1) by omega]; exact hf)
theorem al_len : alL.length = 399 := by decide +kernel
theorem al_k : alL.map (fun c => c.1) = K0 := by decide +kernel
theorem al_l : alL.map (fun c => c.2.1) = L0 := by decide +kernel
theorem al_p : ckR (alL.map (fun c => c.2.2.1)) P0 0 = true := by decide +kernel
theorem p0_len : P0.length = 399 := by decide +kernel
theorem al_frz {G : hG} (h : RepG G alL 34255) : Frz G := by
  obtain ⟨h1, h2, h3⟩ := h
  refine ⟨h1.trans al_len, h2, fun a => ?_, fun a => ?_, fun a k hf => ?_⟩
  · rw [(h3 a).1, ← al_k]
    exact (getD_map (fun c : hCl => c.1) clD alL a).symm
  · rw [(h3 a).2.1, ← al_l]
    exact (getD_map (fun c : hCl => c.2.1) clD alL a).symm
  · rw [(h3 a).2.2.1 k]
    have e := getD_map (fun c : hCl => c.2.2.1) clD alL a
    have e' : (alL.getD a clD).2.2.1 = (alL.map (fun c => c.2.2.1)).getD a [] := e.symm
    rw [e']
    by_cases z : a < 399
    · exact ckR_ok _ _ 0 al_p a k (by rw [List.length_map, al_len]; exact z) (by rw [Nat.zero_add]; exact hf)
    · have n1 : (alL.map (fun c : hCl => c.2.2.1)).getD a [] = [] := by
        rw [List.getD_eq_getElem?_getD, List.getElem?_eq_none (by rw [List.length_map, al_len]; omega)]
        rfl
      have n2 : P0.getD a [] = [] := by
        rw [List.getD_eq_getElem?_getD, List.getElem?_eq_none (by rw [p0_len]; omega)]
        rfl
      rw [n1, n2]
theorem mp_367 : mpL.length = 367 := by decide +kernel
section ST
variable {G : hG}
set_option maxRecDepth 100000 in
theorem al_lo (h : RepG G alL 34255) : gI G 0 = zI0 ∧ gI G 1 = upR (upR zI0 2 1) 9 (-1) ∧ gI G 2 = zI0 ∧ gI G 3 = zI0 ∧ gI G 4 = rm8 8 ∧ gI G 5 = rm8 8 ∧ gI G 6 = zI0 ∧ gI G 7 = zI0 ∧ gI G 8 = zI0 := by
  have r := h.2.2
  exact ⟨(r 0).2.2.2.1, (r 1).2.2.2.1, (r 2).2.2.2.1, (r 3).2.2.2.1, (r 4).2.2.2.1, (r 5).2.2.2.1, (r 6).2.2.2.1, (r 7).2.2.2.1, (r 8).2.2.2.1⟩
set_option maxRecDepth 100000 in
theorem al_mi (h : RepG G alL 34255) : gI G 53 = zI0 ∧ gI G 54 = zI0 ∧ gI G 235 = zI0 ∧ gI G 263 = upR (upR zI0 2 (-1)) 3 (-1) ∧ gI G 264 = zI0 := by
  have r := h.2.2
  exact ⟨(r 53).2.2.2.1, (r 54).2.2.2.1, (r 235).2.2.2.1, (r 263).2.2.2.1, (r 264).2.2.2.1⟩
theorem al_at (h : RepG G alL 34255) (A : List hCl) (y : hCl) (B : List hCl) (e : mdC :: mdR 8 = A ++ y :: B) {a : Nat} (ha : 367 + A.length = a) : gI G a = y.2.2.2.1 ∧ gJ G a = y.2.2.2.2 := by
  have h' : RepG G ((mpL ++ A) ++ y :: B) 34255 := by
    have : alL = (mpL ++ A) ++ y :: B := by unfold alL; rw [e, List.append_assoc]
    rw [← this]; exact h
  obtain ⟨-, -, -, e4, e5⟩ := rep_at (c := y.1) (l := y.2.1) (q := y.2.2.1) (f := y.2.2.2.1) (j := y.2.2.2.2) h'
  rw [List.length_append, mp_367, ha] at e4 e5
  exact ⟨e4, e5⟩
theorem mdI_z {k : Nat} (h : ¬ (40 ≤ k ∧ k < 56)) (h2 : k ≠ 2) (h5 : k ≠ 5) : mdI 8 k = 0 := by
  unfold mdI
  rw [if_neg (by omega), upR_n _ _ h5, upR_n _ _ h2]
  rfl
theorem mdI_m {k : Nat} (h : 40 ≤ k ∧ k < 56) : mdI 8 k = -1 := by
  unfold mdI
  rw [if_pos (by omega)]
theorem rm8_m {l : Nat} (h : l < 8) : rm8 8 l = -1 := if_pos h
theorem start_inv (h : RepG G alL 34255) : Inv G := by
  obtain ⟨a0, a1, a2, a3, a4, a5, a6, a7, a8⟩ := al_lo h
  obtain ⟨b53, b54, b235, b263, b264⟩ := al_mi h
  obtain ⟨c367, -⟩ := al_at h [] mdC (mdR 8) rfl (a := 367) rfl
  obtain ⟨c368, -⟩ := al_at h [mdC] (mkC 13 7) _ rfl (a := 368) rfl
  obtain ⟨c369, -⟩ := al_at h [mdC, mkC 13 7] (13, 5468, [], mdI 8, zJ0) _ rfl (a := 369) rfl
  obtain ⟨c371, -⟩ := al_at h ((mdC :: mdR 8).take 4) (mkC 15 2) ((mdC :: mdR 8).drop 5) rfl (a := 371) rfl
  have d382 := (al_at h ((mdC :: mdR 8).take 15) ((mdC :: mdR 8).getD 15 clD) ((mdC :: mdR 8).drop 16) rfl (a := 382) rfl).2
  have d383 := (al_at h ((mdC :: mdR 8).take 16) ((mdC :: mdR 8).getD 16 clD) ((mdC :: mdR 8).drop 17) rfl (a := 383) rfl).2
  have d384 := (al_at h ((mdC :: mdR 8).take 17) ((mdC :: mdR 8).getD 17 clD) ((mdC :: mdR 8).drop 18) rfl (a := 384) rfl).2
  have d395 := (al_at h ((mdC :: mdR 8).take 28) ((mdC :: mdR 8).getD 28 clD) ((mdC :: mdR 8).drop 29) rfl (a := 395) rfl).2
  have d396 := (al_at h ((mdC :: mdR 8).take 29) ((mdC :: mdR 8).getD 29 clD) ((mdC :: mdR 8).drop 30) rfl (a := 396) rfl).2
  have m367 : ∀ k, k ≠ 18 → k ≠ 53 → gI G 367 k = 0 := fun k h1 h2 => by
    rw [c367]
    show upR (upR zI0 18 (-1)) 53 (-1) k = 0
    rw [upR_n _ _ h2, upR_n _ _ h1]
    rfl
  have r5 : gI G 369 5 = 1 := by rw [c369]; show mdI 8 5 = 1; unfold mdI; rw [if_neg (by omega), upR_s]
  have r2 : gI G 369 2 = -1 := by rw [c369]; show mdI 8 2 = -1; unfold mdI; rw [if_neg (by omega), upR_n _ _ (by omega), upR_s]
  have rz : ∀ k, ¬ (40 ≤ k ∧ k < 56) → k ≠ 2 → k ≠ 5 → gI G 369 k = 0 := fun k h1 h2 h3 => by rw [c369]; exact mdI_z h1 h2 h3
  have rm : ∀ k, 40 ≤ k → k < 56 → gI G 369 k = -1 := fun k h1 h2 => by rw [c369]; exact mdI_m ⟨h1, h2⟩
  have z1 : ∀ k, k ≠ 2 → k ≠ 9 → gI G 1 k = 0 := fun k h1 h2 => by
    rw [a1, upR_n _ _ h2, upR_n _ _ h1]
    rfl
  refine ⟨⟨⟨⟨?_, fun c hc => ?_, fun l hl => ?_, fun l hl => ?_, fun l hl => ?_⟩, ⟨?_, ?_, ?_, ?_, ?_, ?_⟩, fun k hk => ⟨?_, ?_⟩, fun k n' q1 q2 q3 => ?_⟩, ⟨⟨0, by omega, ?_⟩, fun c hc => ⟨0, by omega, ?_⟩, fun l hl => Or.inl ⟨?_, ?_⟩⟩, ⟨0, by omega, ?_⟩, ⟨1, by omega, ?_⟩, ⟨0, by omega, ?_⟩, ⟨0, by omega, ?_⟩, ⟨0, by omega, ?_, fun k hk => absurd hk (Nat.not_lt_zero _)⟩, ⟨0, by omega, ?_, Or.inl r2⟩⟩, ⟨0, 0, by omega, by omega, ?_, ?_, ?_, fun j hj => absurd hj (Nat.not_lt_zero _)⟩, fun k hk => ⟨?_, ?_, fun q => ?_⟩, ⟨0, by omega, ?_, ?_, fun j hj => absurd hj (Nat.not_lt_zero _)⟩, ⟨?_, ?_, ?_, ?_, fun k hk => ?_⟩, ⟨?_, ?_, fun q => ?_⟩, ⟨?_, fun j hj => ?_, fun j hj => ?_, fun j hj => ?_, fun j hj => ?_, fun j hj => ?_⟩⟩
  · show gI G 2 4 = gI G 369 (4 + 0); rw [rz _ (by omega) (by omega) (by omega), a2]; rfl
  · show gI G 6 c = gI G 369 (4 + (3 + c)); rw [rz _ (by omega) (by omega) (by omega), a6]; rfl
  · show gI G 3 l = gI G 369 (4 + (28 + l)); rw [rz _ (by omega) (by omega) (by omega), a3]; rfl
  · show gI G 4 l = gI G 369 (4 + (36 + l)); rw [rm _ (by omega) (by omega), a4, rm8_m hl]
  · show gI G 5 l = gI G 369 (4 + (44 + l)); rw [rm _ (by omega) (by omega), a5, rm8_m hl]
  · rw [rz _ (by omega) (by omega) (by omega), z1 _ (by omega) (by omega)]
  · rw [r5, a1, upR_n _ _ (by omega), upR_s]
  · rw [rz _ (by omega) (by omega) (by omega), z1 _ (by omega) (by omega)]
  · rw [rz _ (by omega) (by omega) (by omega), z1 _ (by omega) (by omega)]
  · rw [rz _ (by omega) (by omega) (by omega), z1 _ (by omega) (by omega)]
  · rw [r2, a1, upR_s]
  · rw [rz _ (by omega) (by omega) (by omega)]; show gI G 7 k = 0; rw [a7]; rfl
  · rw [rz _ (by omega) (by omega) (by omega)]; show gI G 8 k = 0; rw [a8]; rfl
  · have e : n' = 0 := (nI_eq (by omega) (by omega)).mp (q1.symm.trans (rz 1 (by omega) (by omega) (by omega)))
    omega
  · exact rz _ (by omega) (by omega) (by omega)
  · exact rz _ (by omega) (by omega) (by omega)
  · exact rz _ (by omega) (by omega) (by omega)
  · exact rm _ (by omega) (by omega)
  · exact rz _ (by omega) (by omega) (by omega)
  · exact r5
  · exact rz _ (by omega) (by omega) (by omega)
  · exact rz _ (by omega) (by omega) (by omega)
  · exact rz _ (by omega) (by omega) (by omega)
  · exact rz _ (by omega) (by omega) (by omega)
  · rw [b54]; rfl
  · exact m367 _ (by omega) (by omega)
  · rw [b54]; rfl
  · rw [b53, c371]
  · rw [c371]; exact Or.inl rfl
  · rw [c371] at q; exact absurd (show (0 : Int32) = 1 from q) (by decide)
  · rw [b235]; rfl
  · exact m367 _ (by omega) (by omega)
  · rw [m367 _ (by omega) (by omega), b263]; rfl
  · rw [b263, c367]; rfl
  · rw [b263, c367]; rfl
  · rw [m367 _ (by omega) (by omega), b263]; rfl
  · rw [b264, c368]
  · rw [a0, m367 _ (by omega) (by omega)]; rfl
  · exact Or.inl (m367 _ (by omega) (by omega))
  · rw [m367 _ (by omega) (by omega)] at q; exact absurd q (by decide)
  · exact m367 _ (by omega) (by omega)
  · rw [d382]
    have hj' : j < 7 := hj
    have hx : j = 0 ∨ j = 1 ∨ j = 2 ∨ j = 3 ∨ j = 4 ∨ j = 5 ∨ j = 6 := by omega
    rcases hx with rfl | rfl | rfl | rfl | rfl | rfl | rfl <;> rfl
  · rw [d383]
    have hj' : j < 7 := hj
    have hx : j = 0 ∨ j = 1 ∨ j = 2 ∨ j = 3 ∨ j = 4 ∨ j = 5 ∨ j = 6 := by omega
    rcases hx with rfl | rfl | rfl | rfl | rfl | rfl | rfl <;> rfl
  · rw [d384]
    have hj' : j < 2 := hj
    have hx : j = 0 ∨ j = 1 := by omega
    rcases hx with rfl | rfl <;> rfl
  · rw [d395]
    have hj' : j < 4 := hj
    have hx : j = 0 ∨ j = 1 ∨ j = 2 ∨ j = 3 := by omega
    rcases hx with rfl | rfl | rfl | rfl <;> rfl
  · rw [d396]
    have hj' : j < 3 := hj
    have hx : j = 0 ∨ j = 1 ∨ j = 2 := by omega
    rcases hx with rfl | rfl | rfl <;> rfl
end ST
