/-! what the class learns of a cell -/
theorem LwC.un {L : Lw} {g g' : hG} {t : Nat} (h : LwC L g t) (u : Un sS g g') (ht : t + 6 < 137) : LwC L g' t := by
  have q : ∀ j k, j ≤ 6 → gI g' (t + j) k = gI g (t + j) k := fun j k hj => u.I (Bool.eq_false_iff.mpr (fun z => by
    simp only [sS, Bool.or_eq_true, Bool.and_eq_true, beq_iff_eq] at z; omega))
  obtain ⟨h1, h2, h3⟩ := h
  refine ⟨h1, (q 0 2 (by omega)).trans h2, fun i hi => ?_⟩
  obtain ⟨k1, k2, k3, k4, k5⟩ := h3 i hi
  rw [q 2 i (by omega), q 6 i (by omega), q 3 i (by omega), show gI g' t 1 = gI g t 1 from q 0 1 (by omega)]
  exact ⟨k1, k2.ex (fun j _ => q 1 j (by omega)), k3, fun z => ⟨(k4 z).1.ex (fun j _ => q 1 j (by omega)), (k4 z).2⟩, k5⟩
theorem getD_1 (o : Option Int32) : (o.getD BRK = 1) ↔ o = some 1 := by
  cases o with
  | none => simp [BRK]
  | some v => simp
theorem s248_sS {g g' : hG} (u : Un s248 g g') : Un sS g g' := u.mo (fun a k z => Bool.eq_false_iff.mpr (fun y => by
  simp only [s248, beq_iff_eq] at y
  subst y
  cases z))
/-- the law that is asked: none; or a law's meaning, at its text -/
def LE (g : hG) (l : Int32) (Lo : Option Lw) : Prop := (Lo = none ∧ (l < 0 ∨ (¬ l < 0 ∧ ¬ l < gI g 1 8))) ∨ ∃ k n L, l = nI k ∧ k < n ∧ n ≤ 6 ∧ gI g 1 8 = nI n ∧ Lo = some L ∧ LwC L g (10 + 7 * k)
def svF (Lo : Option Lw) (f : Nat → Int32) (init : Int32) : Int32 := match Lo with
  | none => init
  | some L => stF L f init
def hdF (Lo : Option Lw) (f : Nat → Int32) : Bool := match Lo with
  | none => false
  | some L => hlF L f
theorem learn_loop {L : Lw} {t c : Nat} (ht : t + 6 < 137) (hc : c < 25) (f : Nat → Int32) : ∀ (m i F : Nat) (g : hG) (aS : Int32) (aH : Bool), i + m = L.1 → m < F → LwC L g t → (∀ k, k < 7 → gI g 251 k = f k) → gI g 252 c = aS → (bt (gI g 250 9) (nI c) ↔ aH = true) →
    ∃ g', q_Slope_learn_54L (nI c) t (fun g32 => some ((), g32)) F (nI i) g = some ((), g') ∧ Un sS g g' ∧
      gI g' 252 c = it (fun i acc => if L.2.1 i = false ∧ L.2.2.1 i f = some 1 then (match L.2.2.2 i f with
        | some v => clamp v
        | none => acc) else acc) i m aS ∧ (bt (gI g' 250 9) (nI c) ↔ it (fun i acc => if L.2.1 i = true ∧ L.2.2.1 i f = some 1 then true else acc) i m aH = true) ∧
      (∀ d, d < 25 → d ≠ c → gI g' 252 d = gI g 252 d ∧ (bt (gI g' 250 9) (nI d) ↔ bt (gI g 250 9) (nI d))) ∧ gI g' 250 8 = gI g 250 8 := by
  intro m
  induction m with
  | zero =>
    intro i F g aS aH h1 h2 h3 h4 h5 h6
    obtain ⟨F, rfl⟩ : ∃ q, F = q + 1 := ⟨F - 1, by omega⟩
    rw [q_Slope_learn_54L_s]
    unfold q_Slope_learn_54
    have := h3.1
    rw [h3.2.1, if_pos (nI_le (by omega) (by omega))]
    exact ⟨g, rfl, Un.rf, h5, h6, fun d _ _ => ⟨rfl, Iff.rfl⟩, rfl⟩
  | succ m ih =>
    intro i F g aS aH h1 h2 h3 h4 h5 h6
    obtain ⟨F, rfl⟩ : ∃ q, F = q + 1 := ⟨F - 1, by omega⟩
    have hn := h3.1
    obtain ⟨k1, k2, k3, k4, k5⟩ := h3.2.2 i (by omega)
    have loc := k5 (gI g 251) f h4
    obtain ⟨g1, w1, w2⟩ := k2 t g (by omega) (by omega) rfl (fun _ _ => rfl)
    rw [loc.1] at w1
    rw [q_Slope_learn_54L_s]
    unfold q_Slope_learn_54
    rw [h3.2.1, if_neg (nI_ge (by omega) (by omega)), gd_nI (by omega) (by omega), nI_clamp (by omega), w1, bnd_s, nI_1]
    have u1 := s248_sS w2
    have L1 : LwC L g1 t := h3.un u1 ht
    have f1 : ∀ k, k < 7 → gI g1 251 k = f k := fun k hk => (w2.I rfl).trans (h4 k hk)
    by_cases hr : (L.2.2.1 i f).getD BRK = 1
    · have hr' := (getD_1 _).mp hr
      rw [if_pos hr, gd_nI (by omega) (by omega), (L1.2.2 i (by omega)).1]
      by_cases hh : L.2.1 i = true
      · rw [if_pos hh, if_pos rfl, wr_e]
        obtain ⟨g', e1, e2, e3, e4, e5, e6⟩ := ih (i + 1) F (sI g1 250 9 (gI g1 250 9 ||| shl 1 (nI c))) aS true (by omega) (by omega) (L1.un (Un.rf.sI rfl _) ht) (fun k hk => by rw [rd_a (by decide)]; exact f1 k hk) (by rw [rd_a (by decide), w2.I rfl]; exact h5) (by rw [rd_s, bt_set _ hc (by omega)]; simp)
        refine ⟨g', e1, (u1.sI rfl _).tr e2, ?_, ?_, fun d hd hdc => ?_, ?_⟩
        · rw [e3, it, if_neg (by rw [hh]; simp)]
        · rw [e4, it, if_pos ⟨hh, hr'⟩]
        · refine ⟨(e5 d hd hdc).1.trans (by rw [rd_a (by decide), w2.I rfl]), (e5 d hd hdc).2.trans ?_⟩
          rw [rd_s, bt_set _ hc (by omega), w2.I rfl]
          simp [hdc]
        · rw [e6, rd_k (by decide), w2.I rfl]
      · have hf : L.2.1 i = false := by simpa using hh
        obtain ⟨s1, s2⟩ := (L1.2.2 i (by omega)).2.2.2.1 hf
        have loc2 := (L1.2.2 i (by omega)).2.2.2.2 (gI g1 251) f f1
        obtain ⟨g2, x1, x2⟩ := s1 t g1 (by omega) (by omega) rfl (fun _ _ => rfl)
        rw [loc2.2] at x1
        have u2 := u1.tr (s248_sS x2)
        rw [if_neg hh, if_neg (by decide), gd_nI (by omega) (by omega), x1, bnd_s]
        have f2 : ∀ k, k < 7 → gI g2 251 k = f k := fun k hk => (x2.I rfl).trans (f1 k hk)
        cases hs : L.2.2.2 i f with
        | none =>
          rw [if_pos (show (none : Option Int32).getD BRK = -2000000000 from rfl)]
          obtain ⟨g', e1, e2, e3, e4, e5, e6⟩ := ih (i + 1) F g2 aS aH (by omega) (by omega) (L1.un (s248_sS x2) ht) f2 (by rw [x2.I rfl, w2.I rfl]; exact h5) (by rw [x2.I rfl, w2.I rfl]; exact h6)
          refine ⟨g', e1, u2.tr e2, ?_, ?_, fun d hd hdc => ?_, ?_⟩
          · rw [e3, it, if_pos ⟨hf, hr'⟩, hs]
          · rw [e4, it, if_neg (by rw [hf]; simp)]
          · exact ⟨(e5 d hd hdc).1.trans (by rw [x2.I rfl, w2.I rfl]), (e5 d hd hdc).2.trans (by rw [x2.I rfl, w2.I rfl])⟩
          · rw [e6, x2.I rfl, w2.I rfl]
        | some v =>
          rw [if_neg (show ¬ (some v : Option Int32).getD BRK = -2000000000 from s2 f v hs), gd_nI hc (by omega), wr_e, nI_clamp (by omega)]
          obtain ⟨g', e1, e2, e3, e4, e5, e6⟩ := ih (i + 1) F (sI g2 252 c (clamp v)) (clamp v) aH (by omega) (by omega) ((L1.un (s248_sS x2) ht).un (Un.rf.sI rfl _) ht) (fun k hk => by rw [rd_a (by decide)]; exact f2 k hk) rd_s (by rw [rd_a (by decide), x2.I rfl, w2.I rfl]; exact h6)
          refine ⟨g', e1, (u2.sI rfl _).tr e2, ?_, ?_, fun d hd hdc => ?_, ?_⟩
          · rw [e3, it, if_pos ⟨hf, hr'⟩, hs]
          · rw [e4, it, if_neg (by rw [hf]; simp)]
          · exact ⟨(e5 d hd hdc).1.trans (by rw [rd_k hdc, x2.I rfl, w2.I rfl]), (e5 d hd hdc).2.trans (by rw [rd_a (by decide), x2.I rfl, w2.I rfl])⟩
          · rw [e6, rd_a (by decide), x2.I rfl, w2.I rfl]
    · have hr' : ¬ L.2.2.1 i f = some 1 := fun z => hr ((getD_1 _).mpr z)
      rw [if_neg hr]
      obtain ⟨g', e1, e2, e3, e4, e5, e6⟩ := ih (i + 1) F g1 aS aH (by omega) (by omega) L1 f1 (by rw [w2.I rfl]; exact h5) (by rw [w2.I rfl]; exact h6)
      refine ⟨g', e1, u1.tr e2, ?_, ?_, fun d hd hdc => ?_, ?_⟩
      · rw [e3, it, if_neg (fun z => hr' z.2)]
      · rw [e4, it, if_neg (fun z => hr' z.2)]
      · exact ⟨(e5 d hd hdc).1.trans (by rw [w2.I rfl]), (e5 d hd hdc).2.trans (by rw [w2.I rfl])⟩
      · rw [e6, w2.I rfl]
/-- what is known of the cells -/
def SlOK (g : hG) (Lo : Option Lw) (r hi : Nat → Int32) : Prop := ∀ d, d < 25 → bt (gI g 250 8) (nI d) → gI g 252 d = svF Lo (fcF r (nI d) (hi d)) (hi d) ∧ (bt (gI g 250 9) (nI d) ↔ hdF Lo (fcF r (nI d) (hi d)) = true)
theorem LE.un {g g' : hG} {l : Int32} {Lo : Option Lw} (h : LE g l Lo) (u : Un sS g g') : LE g' l Lo := by
  rcases h with ⟨h1, h2⟩ | ⟨k, n, L, h1, h2, h3, h4, h5, h6⟩
  · exact Or.inl ⟨h1, by rw [u.I rfl]; exact h2⟩
  · exact Or.inr ⟨k, n, L, h1, h2, h3, (u.I rfl).trans h4, h5, h6.un u (by omega)⟩
theorem learn_c {g : hG} {b : Nat} {r hi : Nat → Int32} {Lo : Option Lw} (h : Faced g b r hi) (hl : LE g (gI g 250 6) Lo) (ok : SlOK g Lo r hi) {c : Nat} (hc : c < 25) : ∃ g', q_Slope_learn (nI c) g = some ((), g') ∧ Un sS g g' ∧ SlOK g' Lo r hi ∧ bt (gI g' 250 8) (nI c) ∧ ∀ d, d < 25 → bt (gI g 250 8) (nI d) → bt (gI g' 250 8) (nI d) := by
  unfold q_Slope_learn
  rw [isA_c, bnd_s]
  by_cases hk : bt (gI g 250 8) (nI c)
  · rw [bI_t hk, if_neg (by decide)]
    exact ⟨g, rfl, Un.rf, ok, hk, fun _ _ z => z⟩
  · rw [bI_f hk, if_pos rfl, wr_e, wr_e]
    generalize hx : sI (sI g 250 8 (gI g 250 8 ||| shl 1 (nI c))) 250 9 (gI (sI g 250 8 (gI g 250 8 ||| shl 1 (nI c))) 250 9 &&& (shl 1 (nI c) ^^^ (-1))) = gx
    have ux : Un sS g gx := by rw [← hx]; exact (Un.rf.sI rfl _).sI rfl _
    have x8 : gI gx 250 8 = gI g 250 8 ||| shl 1 (nI c) := by rw [← hx, rd_k (by decide), rd_s]
    have x9 : gI gx 250 9 = gI g 250 9 &&& (shl 1 (nI c) ^^^ (-1)) := by rw [← hx, rd_s, rd_k (by decide)]
    have x252 : ∀ d, gI gx 252 d = gI g 252 d := fun d => by rw [← hx, rd_a (by decide), rd_a (by decide)]
    obtain ⟨g1, a1, a2, a3, a4, a5⟩ := fill_c (h.un ux) hc
    have u1 : Un sS gx g1 := fun a k z => ⟨a2 a k (fun e => by subst e; cases z), by rw [a4], by rw [a5]⟩
    rw [a1, bnd_s, gd_L _ _ (by decide) (by decide), gd_nI hc (by omega), wr_e, cl_L _ (by decide), nI_clamp (by omega)]
    have f2 : gI g1 251 2 = hi c := (a3 2 (by omega)).trans rfl
    rw [f2]
    generalize hy : sI g1 252 c (hi c) = gy
    have uy : Un sS g gy := by rw [← hy]; exact (ux.tr u1).sI rfl _
    have yI : ∀ a k, ¬ a = 251 → ¬ (a = 252 ∧ k = c) → gI gy a k = gI gx a k := fun a k z1 z2 => by rw [← hy, gI_sI, if_neg z2, a2 a k z1]
    have yc : gI gy 252 c = hi c := by rw [← hy, rd_s]
    have y251 : ∀ k, k < 7 → gI gy 251 k = fcF r (nI c) (hi c) k := fun k hk' => by rw [← hy, rd_a (by decide)]; exact a3 k hk'
    have y8 : gI gy 250 8 = gI g 250 8 ||| shl 1 (nI c) := (yI _ _ (by decide) (by omega)).trans x8
    have y9 : gI gy 250 9 = gI g 250 9 &&& (shl 1 (nI c) ^^^ (-1)) := (yI _ _ (by decide) (by omega)).trans x9
    have y6 : gI gy 250 6 = gI g 250 6 := uy.I rfl
    have fin : ∀ g', Un sS gy g' → gI g' 252 c = svF Lo (fcF r (nI c) (hi c)) (hi c) → (bt (gI g' 250 9) (nI c) ↔ hdF Lo (fcF r (nI c) (hi c)) = true) → (∀ d, d < 25 → d ≠ c → gI g' 252 d = gI gy 252 d ∧ (bt (gI g' 250 9) (nI d) ↔ bt (gI gy 250 9) (nI d))) → gI g' 250 8 = gI gy 250 8 → Un sS g g' ∧ SlOK g' Lo r hi ∧ bt (gI g' 250 8) (nI c) ∧ ∀ d, d < 25 → bt (gI g 250 8) (nI d) → bt (gI g' 250 8) (nI d) := by
      intro g' z1 z2 z3 z4 z5
      refine ⟨uy.tr z1, fun d hd q => ?_, ?_, fun d hd q => ?_⟩
      · by_cases y : d = c
        · subst y; exact ⟨z2, z3⟩
        · rw [z5, y8, bt_set _ hc (by omega)] at q
          have q' := q.resolve_right y
          obtain ⟨o1, o2⟩ := ok d hd q'
          refine ⟨(z4 d hd y).1.trans ((yI _ _ (by decide) (by omega)).trans ((x252 d).trans o1)), (z4 d hd y).2.trans ?_⟩
          rw [y9, bt_clr _ hc (by omega), ← o2]
          exact ⟨fun w => w.1, fun w => ⟨w, y⟩⟩
      · rw [z5, y8, bt_set _ hc (by omega)]; exact Or.inr rfl
      · rw [z5, y8, bt_set _ hc (by omega)]; exact Or.inl q
    have n9 : ¬ bt (gI gy 250 9) (nI c) := by rw [y9, bt_clr _ hc (by omega)]; exact fun w => w.2 rfl
    rw [y6]
    rcases hl.un uy with ⟨l1, l2⟩ | ⟨k, n, L, l1, l2, l3, l4, l5, l6⟩
    · rcases l2 with l2 | ⟨l2, l3⟩
      · rw [if_pos l2]
        obtain ⟨q1, q2, q3, q4⟩ := fin gy Un.rf (by rw [yc, l1]; rfl) (by rw [l1]; exact ⟨fun w => absurd w n9, fun w => by cases w⟩) (fun _ _ _ => ⟨rfl, Iff.rfl⟩) rfl
        exact ⟨gy, rfl, q1, q2, q3, q4⟩
      · rw [if_neg l2, if_neg l3]
        obtain ⟨q1, q2, q3, q4⟩ := fin gy Un.rf (by rw [yc, l1]; rfl) (by rw [l1]; exact ⟨fun w => absurd w n9, fun w => by cases w⟩) (fun _ _ _ => ⟨rfl, Iff.rfl⟩) rfl
        exact ⟨gy, rfl, q1, q2, q3, q4⟩
    · rw [l1, if_neg (nI_pos (by omega)), l4, if_pos (nI_lt l2 (by omega)), gd_nI (by omega) (by omega), nI_clamp (by omega)]
      have hn := l6.1
      obtain ⟨g', e1, e2, e3, e4, e5, e6⟩ := learn_loop (L := L) (t := 10 + 7 * k) (c := c) (by omega) hc (fcF r (nI c) (hi c)) L.1 0 FU gy (hi c) false (by omega) (Nat.lt_of_le_of_lt hn (by decide)) l6 y251 yc ⟨fun w => absurd w n9, fun w => by cases w⟩
      obtain ⟨q1, q2, q3, q4⟩ := fin g' e2 (by rw [e3, l5]; rfl) (by rw [e4, l5]; exact Iff.rfl) e5 e6
      exact ⟨g', e1, q1, q2, q3, q4⟩
