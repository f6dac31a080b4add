/-! what holds between the class's cells and the model's -/
def BRK : Int32 := -2000000000
abbrev Den : Type := (Nat → Int32) → Option Int32
def s248 (a _k : Nat) : Bool := a == 248
/-- the calculator's answer at a place of a code -/
def WorkS (fa : Nat) (code : Nat → Int32) (size frm : Int32) (den : Den) : Prop :=
  ∀ (t : Nat) (g : hG), t ≠ 248 → t + 1 ≠ 248 → gI g t 1 = size → (∀ j, j < 402 → gI g (t + 1) j = code j) → ∃ g', q_Calc_work t frm fa g = some ((den (gI g fa)).getD BRK, g') ∧ Un s248 g g'
def sRk (a k : Nat) : Bool := a == 387 || (a == 367 && (k == 38 || k == 39))
/-- the model's answer over a part of a law's code -/
def ReckS (seg : Nat → Int32) (first last : Int32) (den : Den) : Prop :=
  ∀ (base : Nat) (g : hG) (f : Nat → Int32), base + 900 ≤ 5468 → (∀ j, j < 900 → gI g 369 (base + j) = seg j) → gI g 367 34 = nI base → gI g 367 20 = 0 → ((∀ j, j < 7 → gJ g 385 (j + 1) = (f j).toInt64) ∧ ∀ j, j < 7 → f j ≠ BRK) →
    ∃ g', q_Mo_reckonAll first last g = some ((), g') ∧ Un sRk g g' ∧ match den f with
      | some v => gI g' 367 38 = 0 ∧ gJ g' 367 39 = v.toInt64
      | none => gI g' 367 38 = 1
/-- a law: its text at t, its row's part seg -/
def LawR (g : hG) (t : Nat) (seg : Nat → Int32) : Prop :=
  ∃ (n : Nat) (hd : Nat → Bool) (te su : Nat → Den), n ≤ 12 ∧ gI g t 2 = nI n ∧ seg 1 = nI n ∧ ∀ i, i < n →
    gI g (t + 2) i = (if hd i = true then 5 else 4) ∧ seg (2 + 8 * i) = (if hd i = true then 1 else 0) ∧
    WorkS 251 (gI g (t + 1)) (gI g t 1) (gI g (t + 6) i) (te i) ∧
    ((seg (2 + 8 * i + 5) < seg (2 + 8 * i + 6) ∧ ReckS seg (seg (2 + 8 * i + 5)) (seg (2 + 8 * i + 6)) (te i)) ∨ (¬ seg (2 + 8 * i + 5) < seg (2 + 8 * i + 6) ∧ te i = fun _ => some 1)) ∧
    (∀ f v, te i f = some v → v = 0 ∨ v = 1) ∧
    (hd i = false → WorkS 251 (gI g (t + 1)) (gI g t 1) (gI g (t + 3) i) (su i) ∧ ReckS seg (seg (2 + 8 * i + 3)) (seg (2 + 8 * i + 4)) (su i) ∧ ∀ f v, su i f = some v → v ≠ BRK) ∧
    ∀ f f', (∀ k, k < 7 → f k = f' k) → te i f = te i f' ∧ su i f = su i f'
theorem WorkS.ex {fa : Nat} {code code' : Nat → Int32} {size frm : Int32} {den : Den} (h : WorkS fa code size frm den) (e : ∀ j, j < 402 → code' j = code j) : WorkS fa code' size frm den :=
  fun t g h1 h2 h3 h4 => h t g h1 h2 h3 (fun j hj => (h4 j hj).trans (e j hj))
theorem ReckS.ex {seg seg' : Nat → Int32} {a b : Int32} {den : Den} (h : ReckS seg a b den) (e : ∀ j, j < 900 → seg' j = seg j) : ReckS seg' a b den :=
  fun base g f h1 h2 h3 h4 h5 => h base g f h1 (fun j hj => (h2 j hj).trans (e j hj)) h3 h4 h5
theorem LawR.ex {g g' : hG} {t t' : Nat} {seg seg' : Nat → Int32} (h : LawR g t seg) (e1 : gI g' t' 1 = gI g t 1) (e2 : gI g' t' 2 = gI g t 2) (e3 : ∀ j, j < 402 → gI g' (t' + 1) j = gI g (t + 1) j) (e4 : ∀ i, i < 12 → gI g' (t' + 2) i = gI g (t + 2) i ∧ gI g' (t' + 3) i = gI g (t + 3) i ∧ gI g' (t' + 6) i = gI g (t + 6) i) (e5 : ∀ j, j < 900 → seg' j = seg j) : LawR g' t' seg' := by
  obtain ⟨n, hd, te, su, h1, h2, h3, h4⟩ := h
  refine ⟨n, hd, te, su, h1, e2.trans h2, (e5 1 (by omega)).trans h3, fun i hi => ?_⟩
  obtain ⟨k1, k2, k3, k4, k5, k6, k7⟩ := h4 i hi
  obtain ⟨f1, f2, f3⟩ := e4 i (by omega)
  rw [f1, f2, f3, e1, e5 _ (show 2 + 8 * i < 900 by omega), e5 _ (show 2 + 8 * i + 5 < 900 by omega), e5 _ (show 2 + 8 * i + 6 < 900 by omega), e5 _ (show 2 + 8 * i + 3 < 900 by omega), e5 _ (show 2 + 8 * i + 4 < 900 by omega)]
  refine ⟨k1, k2, k3.ex e3, ?_, k5, fun q => ⟨(k6 q).1.ex e3, (k6 q).2.1.ex e5, (k6 q).2.2⟩, k7⟩
  rcases k4 with ⟨a, b⟩ | c
  · exact Or.inl ⟨a, b.ex e5⟩
  · exact Or.inr c
/-- a moment at a: hour, cold, mood, 25 high, 8 states, 8 spots, 8 hours of reading, by a row of 52 -/
def MomR (g : hG) (a : Nat) (r : Nat → Int32) : Prop :=
  gI g a 4 = r 0 ∧ (∀ c, c < 25 → gI g (a + 4) c = r (3 + c)) ∧ (∀ l, l < 8 → gI g (a + 1) l = r (28 + l)) ∧ (∀ l, l < 8 → gI g (a + 2) l = r (36 + l)) ∧ (∀ l, l < 8 → gI g (a + 3) l = r (44 + l))
/-- a row that can be -/
def WFm (r : Nat → Int32) : Prop :=
  (∃ n, n < 2000 ∧ r 0 = nI n) ∧ (∀ c, c < 25 → ∃ n, n ≤ 9 ∧ r (3 + c) = nI n) ∧ ∀ l, l < 8 → (r (28 + l) = 0 ∧ r (36 + l) = -1) ∨ ((r (28 + l) = 1 ∨ r (28 + l) = 2) ∧ ∃ c, c < 25 ∧ r (36 + l) = nI c)
theorem MomR.ex {g g' : hG} {a : Nat} {r r' : Nat → Int32} (h : MomR g a r) (e : ∀ j k, j ≤ 4 → gI g' (a + j) k = gI g (a + j) k) (e2 : ∀ i, i < 52 → i ≠ 1 → i ≠ 2 → r' i = r i) : MomR g' a r' := by
  obtain ⟨h1, h2, h3, h4, h5⟩ := h
  refine ⟨?_, fun c hc => ?_, fun l hl => ?_, fun l hl => ?_, fun l hl => ?_⟩
  · rw [e2 0 (by omega) (by omega) (by omega)]; exact (e 0 4 (by omega)).trans h1
  · rw [e2 _ (by omega) (by omega) (by omega)]; exact (e 4 c (by omega)).trans (h2 c hc)
  · rw [e2 _ (by omega) (by omega) (by omega)]; exact (e 1 l (by omega)).trans (h3 l hl)
  · rw [e2 _ (by omega) (by omega) (by omega)]; exact (e 2 l (by omega)).trans (h4 l hl)
  · rw [e2 _ (by omega) (by omega) (by omega)]; exact (e 3 l (by omega)).trans (h5 l hl)
theorem WFm.ex {r r' : Nat → Int32} (h : WFm r) (e : ∀ i, i < 52 → i ≠ 1 → i ≠ 2 → r' i = r i) : WFm r' := by
  obtain ⟨h1, h2, h3⟩ := h
  refine ⟨?_, fun c hc => ?_, fun l hl => ?_⟩
  · rw [e 0 (by omega) (by omega) (by omega)]; exact h1
  · rw [e _ (by omega) (by omega) (by omega)]; exact h2 c hc
  · rw [e _ (by omega) (by omega) (by omega), e _ (by omega) (by omega) (by omega)]; exact h3 l hl
/-- the rest of what an image keeps, at a, by a row of 5468 -/
def KFld (g : hG) (a : Nat) (r : Nat → Int32) : Prop := gI g a 1 = r 3 ∧ gI g a 2 = r 5 ∧ gI g a 3 = r 6 ∧ gI g a 6 = r 0 ∧ gI g a 8 = r 1 ∧ gI g a 9 = r 2
def KSeen (g : hG) (a : Nat) (r : Nat → Int32) : Prop := ∀ k, k < 6 → gI g (a + 6) k = r (56 + 2 * k) ∧ gI g (a + 7) k = r (57 + 2 * k)
def KLaw (g : hG) (a : Nat) (r : Nat → Int32) : Prop := ∀ k n, r 1 = nI n → n ≤ 6 → k < n → LawR g (a + 9 + 7 * k) (fun i => r (68 + 900 * k + i))
def KeptR (g : hG) (a : Nat) (r : Nat → Int32) : Prop := MomR g (a + 1) (fun i => r (4 + i)) ∧ KFld g a r ∧ KSeen g a r ∧ KLaw g a r
def WFr (r : Nat → Int32) : Prop :=
  WFm (fun i => r (4 + i)) ∧ (∃ n, n ≤ 999 ∧ r 4 = nI n) ∧ (∃ n, n ≤ 10 ∧ r 5 = nI n) ∧ (∃ n, n ≤ 9 ∧ r 6 = nI n) ∧ (∃ n, n < 33554432 ∧ r 3 = nI n) ∧
  (∃ n, n ≤ 6 ∧ r 0 = nI n ∧ ∀ k, k < n → (∃ h, h ≤ 30 ∧ r (56 + 2 * k) = nI h) ∧ ∃ c, c < 25 ∧ r (57 + 2 * k) = nI c) ∧ ∃ n, n ≤ 6 ∧ r 1 = nI n ∧ (r 2 = -1 ∨ ∃ f, f < n ∧ r 2 = nI f)
theorem KLaw.ex {g g' : hG} {a : Nat} {r r' : Nat → Int32} (h : KLaw g a r) (e : ∀ j k, 9 ≤ j → j ≤ 50 → gI g' (a + j) k = gI g (a + j) k) (e1 : r' 1 = r 1) (e2 : ∀ i, 68 ≤ i → i < 5468 → r' i = r i) : KLaw g' a r' := fun k n h5 h6 h7 => by
  rw [e1] at h5
  have q : ∀ j k', j ≤ 6 → gI g' (a + 9 + 7 * k + j) k' = gI g (a + 9 + 7 * k + j) k' := fun j k' hj => by
    rw [show a + 9 + 7 * k + j = a + (9 + 7 * k + j) by omega]; exact e _ k' (by omega) (by omega)
  exact (h k n h5 h6 h7).ex (q 0 1 (by omega)) (q 0 2 (by omega)) (fun j _ => q 1 j (by omega)) (fun i _ => ⟨q 2 i (by omega), q 3 i (by omega), q 6 i (by omega)⟩) (fun j hj => e2 _ (by omega) (by omega))
theorem KeptR.ex {g g' : hG} {a : Nat} {r r' : Nat → Int32} (h : KeptR g a r) (e : ∀ j k, j ≤ 50 → gI g' (a + j) k = gI g (a + j) k) (e2 : ∀ i, i < 5468 → r' i = r i) : KeptR g' a r' := by
  obtain ⟨h1, h2, h3, h4⟩ := h
  refine ⟨h1.ex (fun j k hj => ?_) (fun i hi _ _ => e2 _ (by omega)), ?_, fun k hk => ?_, fun k n h5 h6 h7 => ?_⟩
  · rw [Nat.add_assoc]; exact e (1 + j) k (by omega)
  · obtain ⟨k1, k2, k3, k4, k5, k6⟩ := h2
    unfold KFld
    rw [e2 3 (by omega), e2 5 (by omega), e2 6 (by omega), e2 0 (by omega), e2 1 (by omega), e2 2 (by omega)]
    exact ⟨(e 0 1 (by omega)).trans k1, (e 0 2 (by omega)).trans k2, (e 0 3 (by omega)).trans k3, (e 0 6 (by omega)).trans k4, (e 0 8 (by omega)).trans k5, (e 0 9 (by omega)).trans k6⟩
  · rw [e2 _ (by omega), e2 _ (by omega)]
    exact ⟨(e 6 k (by omega)).trans (h3 k hk).1, (e 7 k (by omega)).trans (h3 k hk).2⟩
  · rw [e2 1 (by omega)] at h5
    have q : ∀ j k', j ≤ 6 → gI g' (a + 9 + 7 * k + j) k' = gI g (a + 9 + 7 * k + j) k' := fun j k' hj => by
      rw [show a + 9 + 7 * k + j = a + (9 + 7 * k + j) by omega]; exact e _ k' (by omega)
    exact (h4 k n h5 h6 h7).ex (q 0 1 (by omega)) (q 0 2 (by omega)) (fun j _ => q 1 j (by omega)) (fun i _ => ⟨q 2 i (by omega), q 3 i (by omega), q 6 i (by omega)⟩) (fun j hj => e2 _ (by omega))
theorem WFr.ex {r r' : Nat → Int32} (h : WFr r) (e : ∀ i, i < 5468 → r' i = r i) : WFr r' := by
  obtain ⟨h1, h2, h3, h4, h5, ⟨n, h6, h7, h8⟩, h9⟩ := h
  refine ⟨h1.ex (fun i hi _ _ => e _ (by omega)), ?_, ?_, ?_, ?_, ⟨n, h6, ?_, fun k hk => ?_⟩, ?_⟩
  · rw [e 4 (by omega)]; exact h2
  · rw [e 5 (by omega)]; exact h3
  · rw [e 6 (by omega)]; exact h4
  · rw [e 3 (by omega)]; exact h5
  · rw [e 0 (by omega)]; exact h7
  · rw [e _ (by omega), e _ (by omega)]; exact h8 k hk
  · rw [e 1 (by omega), e 2 (by omega)]; exact h9
def pIx (p n j : Nat) : Nat := (p + 16 - n + j) % 16
/-- the class's past in g, the model's in h -/
def PastRR (g f : hG) : Prop := ∃ n p : Nat, n ≤ 16 ∧ p < 16 ∧ gI g 54 2 = nI n ∧ gI f 367 8 = nI n ∧ gI g 54 3 = nI p ∧ ∀ j, j < n →
  MomR g (57 + 5 * pIx p n j) (fun i => gI f 372 (52 * j + i)) ∧ WFm (fun i => gI f 372 (52 * j + i)) ∧ (∃ h, h ≤ 999 ∧ gI f 372 (52 * j) = nI h) ∧
  (∃ s, s ≤ 3 ∧ gI g 56 (pIx p n j) = nI s ∧ gI f 373 j = nI s) ∧ gI f 372 (52 * j + 1) = gI f 369 5 ∧ gI f 372 (52 * j + 2) = gI f 369 6
abbrev PastR (g : hG) : Prop := PastRR g g
def ImgR (g : hG) : Prop := ∀ k, k < 2 → gI g 53 k = gI g 371 k ∧ (gI g 371 k = 0 ∨ gI g 371 k = 1) ∧ (gI g 371 k = 1 → KeptR g (265 + 51 * k) (fun i => gI g 370 (5468 * k + i)) ∧ WFr (fun i => gI g 370 (5468 * k + i)))
def TapeR (g : hG) : Prop := ∃ n, n ≤ 400 ∧ gI g 235 1 = nI n ∧ gI g 367 13 = nI n ∧ ∀ j, j < n → ∃ b, b < 256 ∧ gI g 236 j = nI b ∧ gI g 376 j = nI b
def NoteR (g : hG) : Prop := gI g 263 1 = gI g 367 1 ∧ gI g 263 2 = gI g 367 18 ∧ gI g 263 3 = gI g 367 53 ∧ gI g 263 4 = gI g 367 11 ∧ ∀ k, k < 7 → gI g 264 k = gI g 368 k
def DayR (g : hG) : Prop := gI g 0 9 = gI g 367 57 ∧ (gI g 367 57 = 0 ∨ gI g 367 57 = 1) ∧ (gI g 367 57 = 1 → MomR g 230 (gI g 398) ∧ WFm (gI g 398))
def lJ (l : List Int64) (f : Nat → Int64) : Prop := ∀ j, j < l.length → f j = l.getD j 0
def ConR (g : hG) : Prop := gI g 367 20 = 0 ∧ lJ [24, 25, 271592, 427481, 278194, 114052, 441828] (gJ g 382) ∧ lJ [278194, 146885, 404362868, 398548, 594980, 52, 271592] (gJ g 383) ∧ lJ [658552979, 8892563] (gJ g 384) ∧ lJ [20456844, 18916965, 20459828, 525939] (gJ g 395) ∧ lJ [52, 655, 89] (gJ g 396)
def Inv (g : hG) : Prop := (KeptR g 1 (gI g 369) ∧ WFr (gI g 369)) ∧ PastR g ∧ ImgR g ∧ TapeR g ∧ NoteR g ∧ DayR g ∧ ConR g
-- what each rests on
def suK (a _k : Nat) : Bool := (Nat.ble 1 a && Nat.ble a 51) || a == 369
def suP (a k : Nat) : Bool := (Nat.ble 54 a && Nat.ble a 136) || (a == 372 && Nat.ble k 831) || a == 373 || (a == 367 && k == 8) || (a == 369 && (k == 5 || k == 6))
def suI (a _k : Nat) : Bool := a == 53 || (Nat.ble 265 a && Nat.ble a 366) || a == 370 || a == 371
def suT (a k : Nat) : Bool := (a == 235 && k == 1) || a == 236 || a == 376 || (a == 367 && k == 13)
def suN (a k : Nat) : Bool := a == 263 || a == 264 || a == 368 || (a == 367 && (k == 1 || k == 11 || k == 18 || k == 53))
def suD (a k : Nat) : Bool := (a == 0 && k == 9) || (Nat.ble 230 a && Nat.ble a 234) || a == 398 || (a == 367 && k == 57)
theorem KeptR.ag {g g' : hG} (h : KeptR g 1 (gI g 369) ∧ WFr (gI g 369)) (u : Ag suK g g') : KeptR g' 1 (gI g' 369) ∧ WFr (gI g' 369) :=
  ⟨h.1.ex (fun j k hj => u _ _ (by simp [suK]; omega)) (fun i _ => u _ _ rfl), h.2.ex (fun i _ => u _ _ rfl)⟩
theorem PastR.ag {g g' : hG} (h : PastR g) (u : Ag suP g g') : PastR g' := by
  obtain ⟨n, p, h1, h2, h3, h4, h5, h6⟩ := h
  refine ⟨n, p, h1, h2, (u _ _ rfl).trans h3, (u _ _ rfl).trans h4, (u _ _ rfl).trans h5, fun j hj => ?_⟩
  obtain ⟨k1, k2, k3, k4, k5, k6⟩ := h6 j hj
  have hp : pIx p n j < 16 := Nat.mod_lt _ (by omega)
  have q : ∀ i, i < 52 → gI g' 372 (52 * j + i) = gI g 372 (52 * j + i) := fun i hi => u _ _ (by simp [suP]; omega)
  refine ⟨k1.ex (fun j k hj => u _ _ (by simp [suP]; omega)) (fun i hi _ _ => q i hi), k2.ex (fun i hi _ _ => q i hi), ?_, ?_, ?_, ?_⟩
  · rw [show gI g' 372 (52 * j) = gI g 372 (52 * j) from q 0 (by omega)]; exact k3
  · rw [u 56 _ rfl, u 373 _ rfl]; exact k4
  · rw [q 1 (by omega), u 369 5 rfl]; exact k5
  · rw [q 2 (by omega), u 369 6 rfl]; exact k6
theorem ImgR.ag {g g' : hG} (h : ImgR g) (u : Ag suI g g') : ImgR g' := by
  intro k hk
  rw [u 53 k rfl, u 371 k rfl]
  refine ⟨(h k hk).1, (h k hk).2.1, fun q => ?_⟩
  exact ⟨((h k hk).2.2 q).1.ex (fun j k hj => u _ _ (by simp [suI]; omega)) (fun i _ => u _ _ rfl), ((h k hk).2.2 q).2.ex (fun i _ => u _ _ rfl)⟩
theorem TapeR.ag {g g' : hG} (h : TapeR g) (u : Ag suT g g') : TapeR g' := by
  obtain ⟨n, h1, h2, h3, h4⟩ := h
  refine ⟨n, h1, (u _ _ rfl).trans h2, (u _ _ rfl).trans h3, fun j hj => ?_⟩
  rw [u 236 j rfl, u 376 j rfl]
  exact h4 j hj
theorem NoteR.ag {g g' : hG} (h : NoteR g) (u : Ag suN g g') : NoteR g' := by
  unfold NoteR
  rw [u 263 1 rfl, u 263 2 rfl, u 263 3 rfl, u 263 4 rfl, u 367 1 rfl, u 367 18 rfl, u 367 53 rfl, u 367 11 rfl]
  exact ⟨h.1, h.2.1, h.2.2.1, h.2.2.2.1, fun k hk => by rw [u 264 k rfl, u 368 k rfl]; exact h.2.2.2.2 k hk⟩
theorem DayR.ag {g g' : hG} (h : DayR g) (u : Ag suD g g') : DayR g' := by
  unfold DayR
  rw [u 0 9 rfl, u 367 57 rfl]
  exact ⟨h.1, h.2.1, fun q => ⟨(h.2.2 q).1.ex (fun j k hj => u _ _ (by simp [suD]; omega)) (fun i _ _ _ => u _ _ rfl), (h.2.2 q).2.ex (fun i _ _ _ => u _ _ rfl)⟩⟩
/-- behind a change of scratch cells alone -/
def sC (a k : Nat) : Bool := (Nat.ble 137 a && Nat.ble a 229) || a == 237 || a == 238 || (Nat.ble 239 a && Nat.ble a 262) || (a == 235 && k == 4)
def sMf (k : Nat) : Bool := k == 0 || (Nat.ble 14 k && Nat.ble k 17) || k == 19 || k == 21 || k == 23 || k == 26 || k == 29 || k == 30 || k == 34 || (Nat.ble 38 k && Nat.ble k 40) || k == 51 || k == 52 || k == 54 || k == 55
def sM (a k : Nat) : Bool := a == 374 || a == 375 || (Nat.ble 377 a && Nat.ble a 381) || (Nat.ble 385 a && Nat.ble a 394) || a == 397 || (a == 372 && Nat.ble 832 k) || (a == 367 && sMf k)
def sX (a k : Nat) : Bool := sC a k || sM a k
theorem suK_x (a k : Nat) (h : suK a k = true) : sX a k = false := by
  refine Bool.eq_false_iff.mpr (fun q => ?_)
  simp only [suK, sX, sC, sM, sMf, Bool.or_eq_true, Bool.and_eq_true, beq_iff_eq, Nat.ble_eq] at h q
  omega
theorem suP_x (a k : Nat) (h : suP a k = true) : sX a k = false := by
  refine Bool.eq_false_iff.mpr (fun q => ?_)
  simp only [suP, sX, sC, sM, sMf, Bool.or_eq_true, Bool.and_eq_true, beq_iff_eq, Nat.ble_eq] at h q
  omega
theorem suI_x (a k : Nat) (h : suI a k = true) : sX a k = false := by
  refine Bool.eq_false_iff.mpr (fun q => ?_)
  simp only [suI, sX, sC, sM, sMf, Bool.or_eq_true, Bool.and_eq_true, beq_iff_eq, Nat.ble_eq] at h q
  omega
theorem suT_x (a k : Nat) (h : suT a k = true) : sX a k = false := by
  refine Bool.eq_false_iff.mpr (fun q => ?_)
  simp only [suT, sX, sC, sM, sMf, Bool.or_eq_true, Bool.and_eq_true, beq_iff_eq, Nat.ble_eq] at h q
  omega
theorem suN_x (a k : Nat) (h : suN a k = true) : sX a k = false := by
  refine Bool.eq_false_iff.mpr (fun q => ?_)
  simp only [suN, sX, sC, sM, sMf, Bool.or_eq_true, Bool.and_eq_true, beq_iff_eq, Nat.ble_eq] at h q
  omega
theorem suD_x (a k : Nat) (h : suD a k = true) : sX a k = false := by
  refine Bool.eq_false_iff.mpr (fun q => ?_)
  simp only [suD, sX, sC, sM, sMf, Bool.or_eq_true, Bool.and_eq_true, beq_iff_eq, Nat.ble_eq] at h q
  omega
theorem ConR.un {g g' : hG} (h : ConR g) (u : Un sX g g') : ConR g' := by
  obtain ⟨h1, h2, h3, h4, h5, h6⟩ := h
  refine ⟨(u.I rfl).trans h1, fun j hj => (u.J rfl).trans (h2 j hj), fun j hj => (u.J rfl).trans (h3 j hj), fun j hj => (u.J rfl).trans (h4 j hj), fun j hj => (u.J rfl).trans (h5 j hj), fun j hj => (u.J rfl).trans (h6 j hj)⟩
theorem Inv.un {g g' : hG} (h : Inv g) (u : Un sX g g') : Inv g' := by
  obtain ⟨h1, h2, h3, h4, h5, h6, h7⟩ := h
  exact ⟨KeptR.ag h1 (u.ag suK_x), h2.ag (u.ag suP_x), h3.ag (u.ag suI_x), h4.ag (u.ag suT_x), h5.ag (u.ag suN_x), h6.ag (u.ag suD_x), h7.un u⟩
