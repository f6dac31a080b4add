/-! kerbs: a run over a yard with raised cells -/
def hP (r : Nat → Int32) (p : Nat → Bool) (c : Nat) : Int32 := if c < 25 ∧ p c = true then 9 else r (3 + c)
def rP (r : Nat → Int32) (p : Nat → Bool) (i : Nat) : Int32 := if 3 ≤ i ∧ i < 28 ∧ p (i - 3) = true then 9 else r i
def nP (D : Int32) (Lo : Option Lw) (r : Nat → Int32) (p : Nat → Bool) : Nat → Nat := nxN D (SV Lo r (hP r p)) (HV Lo r (hP r p))
def kE (D : Int32) (Lo : Option Lw) (r : Nat → Int32) (p : Nat → Bool) (c : Nat) : Nat := eF (nP D Lo r p) 25 c
theorem hP_t {r : Nat → Int32} {p : Nat → Bool} {c : Nat} (hc : c < 25) (h : p c = true) : hP r p c = 9 := if_pos ⟨hc, h⟩
theorem hP_f {r : Nat → Int32} {p : Nat → Bool} {c : Nat} (h : ¬ p c = true) : hP r p c = r (3 + c) := if_neg (fun q => h q.2)
theorem rP_hi (r : Nat → Int32) (p : Nat → Bool) : hiR (rP r p) = hP r p := by
  funext c
  unfold hiR rP hP
  rw [show 3 + c - 3 = c by omega]
  by_cases z : c < 25 ∧ p c = true
  · rw [if_pos z, if_pos ⟨by omega, by omega, z.2⟩]
  · rw [if_neg z, if_neg (fun q => z ⟨by omega, q.2.2⟩)]
theorem rP_n (r : Nat → Int32) (p : Nat → Bool) {i : Nat} (h : i < 3 ∨ 28 ≤ i) : rP r p i = r i := if_neg (by omega)
theorem rP_lo (r : Nat → Int32) (p : Nat → Bool) : loF (rP r p) = loF r := by
  funext c
  unfold loF
  congr 1
  funext i acc
  rw [rP_n r p (by omega), rP_n r p (by omega)]
theorem rP_fc (r : Nat → Int32) (p : Nat → Bool) (c hi : Int32) : fcF (rP r p) c hi = fcF r c hi := by
  unfold fcF
  rw [rP_lo, rP_n r p (by omega), rP_n r p (by omega), rP_n r p (by omega)]
theorem rP_SV (Lo : Option Lw) (r : Nat → Int32) (p : Nat → Bool) : SV Lo (rP r p) (hiR (rP r p)) = SV Lo r (hP r p) := by
  funext d
  unfold SV
  rw [rP_hi, rP_fc]
theorem rP_HV (Lo : Option Lw) (r : Nat → Int32) (p : Nat → Bool) : HV Lo (rP r p) (hiR (rP r p)) = HV Lo r (hP r p) := by
  funext d
  unfold HV
  rw [rP_hi, rP_fc]
theorem rP_wf {r : Nat → Int32} (p : Nat → Bool) (w : WFm r) : WFm (rP r p) := by
  obtain ⟨w1, w2, w3⟩ := w
  refine ⟨by rw [rP_n r p (by omega)]; exact w1, fun c hc => ?_, fun l hl => ?_⟩
  · unfold rP
    by_cases z : 3 ≤ 3 + c ∧ 3 + c < 28 ∧ p (3 + c - 3) = true
    · rw [if_pos z]; exact ⟨9, by omega, rfl⟩
    · rw [if_neg z]; exact w2 c hc
  · rw [rP_n r p (by omega), rP_n r p (by omega)]; exact w3 l hl
theorem nP_fall (D : Int32) (Lo : Option Lw) (r : Nat → Int32) (p : Nat → Bool) : Fall (SV Lo r (hP r p)) (nP D Lo r p) := nxN_fall _ _ _
section KC
variable {Lo : Option Lw} {D : Int32} {r : Nat → Int32} {g0 : hG}
def CJ (Lo : Option Lw) (r : Nat → Int32) (g0 g : hG) : Prop := Un sX g0 g ∧ gP g 250 5 = some 2 ∧ LE g (gI g 250 6) Lo ∧ ∃ p : Nat → Bool, (∀ c, c < 25 → (p c = true ↔ bt (gI g 250 7) (nI c))) ∧ SlOK g Lo r (hP r p)
/-- what the yard says ahead of all -/
def CB (D : Int32) (r : Nat → Int32) (g0 : hG) : Prop := MomR g0 2 r ∧ gI g0 1 2 = r 1 ∧ gI g0 1 3 = r 2 ∧ gI g0 1 1 = D
theorem cb_un {g : hG} (b : CB D r g0) (u : Un sX g0 g) : CB D r g := by
  obtain ⟨b1, b2, b3, b4⟩ := b
  refine ⟨b1.ex (fun j k hj => u.I (Bool.eq_false_iff.mpr (fun q => ?_))) (fun _ _ _ _ => rfl), (u.I rfl).trans b2, (u.I rfl).trans b3, (u.I rfl).trans b4⟩
  simp only [sX, sC, sM, sMf, Bool.or_eq_true, Bool.and_eq_true, beq_iff_eq, Nat.ble_eq] at q
  omega
theorem cb_face {g : hG} (b : CB D r g0) (u : Un sX g0 g) (hP5 : gP g 250 5 = some 2) {p : Nat → Bool} (hp : ∀ c, c < 25 → (p c = true ↔ bt (gI g 250 7) (nI c))) : Faced g 2 r (hP r p) := by
  obtain ⟨b1, b2, b3, b4⟩ := cb_un b u
  refine ⟨rfl, hP5, b1, b2, b3, fun c hc => ?_⟩
  by_cases z : p c = true
  · rw [hP_t hc z, if_pos ((hp c hc).mp z)]
  · rw [hP_f z, if_neg (fun q => z ((hp c hc).mpr q))]
theorem sS_sX {g g' : hG} (u : Un sS g g') : Un sX g g' := sW_sX (sS_sW u)
theorem ewk_l (b : CB D r g0) {kb : Int32} {p : Nat → Bool} (hp : ∀ c, c < 25 → (p c = true ↔ bt kb (nI c))) : ∀ (f c n : Nat) (g : hG), c < 25 → rk (SV Lo r (hP r p)) c < f → n + rk (SV Lo r (hP r p)) c < 25 → Un sX g0 g → gP g 250 5 = some 2 → LE g (gI g 250 6) Lo → SlOK g Lo r (hP r p) → gI g 250 7 = kb → ∃ g', q_Slope_endWithKerbs_22L (fun x13 g16 => some (x13, g16)) f (nI c) (nI (nP D Lo r p c)) (nI n) g = some (nI (eF (nP D Lo r p) f c), g') ∧ CJ Lo r g0 g' := by
  intro f
  induction f with
  | zero => intro c n g hc hr; omega
  | succ f ih =>
    intro c n g hc hr hn u hP5 hl ok hk
    have fall := nP_fall D Lo r p
    obtain ⟨n1, n2⟩ := fall c hc
    rw [q_Slope_endWithKerbs_22L_s]
    unfold q_Slope_endWithKerbs_22
    rw [if_neg (show ¬ (25 : Int32) ≤ nI n from nI_ge (a := n) (b := 25) (by omega) (by decide)), eF]
    by_cases z : nP D Lo r p c = c
    · rw [if_pos (by rw [z]), if_pos z]
      exact ⟨g, rfl, u, hP5, hl, p, fun c hc => by rw [hk]; exact hp c hc, ok⟩
    · have fc := cb_face b u hP5 (p := p) (fun c hc => by rw [hk]; exact hp c hc)
      obtain ⟨g1, a1, a2, a3⟩ := next_c fc hl ok n1
      rw [(cb_un b u).2.2.2, (nxN_e _ _ _ n1).1] at a1
      have r1 := rk_fall n1 (n2 z)
      rw [if_neg (fun q => z ((nI_eq (by omega) (by omega)).mp q)), if_neg z, a1, bnd_s, nI_1]
      exact ih (nP D Lo r p c) (n + 1) g1 n1 (by omega) (by omega) (u.tr (sS_sX a2)) ((a2.P rfl).trans hP5) (by rw [a2.I rfl]; exact hl.un a2) a3 ((a2.I rfl).trans hk)
theorem ewk_c (b : CB D r g0) {g : hG} (j : CJ Lo r g0 g) {kb : Int32} {p : Nat → Bool} (hp : ∀ c, c < 25 → (p c = true ↔ bt kb (nI c))) {c : Nat} (hc : c < 25) : ∃ g', q_Slope_endWithKerbs (nI c) kb g = some (nI (kE D Lo r p c), g') ∧ CJ Lo r g0 g' := by
  obtain ⟨u, j2, j3, po, j4, j5⟩ := j
  have fall := nP_fall D Lo r p
  have u2 : Un sX g (sI (sI g 250 8 (gI g 250 8 &&& ((gI g 250 7 ||| kb) ^^^ (-1)))) 250 7 kb) := (Un.rf.sI rfl _).sI rfl _
  have k7 : gI (sI (sI g 250 8 (gI g 250 8 &&& ((gI g 250 7 ||| kb) ^^^ (-1)))) 250 7 kb) 250 7 = kb := rd_s
  have p5 : gP (sI (sI g 250 8 (gI g 250 8 &&& ((gI g 250 7 ||| kb) ^^^ (-1)))) 250 7 kb) 250 5 = some 2 := j2
  have l2 : LE (sI (sI g 250 8 (gI g 250 8 &&& ((gI g 250 7 ||| kb) ^^^ (-1)))) 250 7 kb) (gI (sI (sI g 250 8 (gI g 250 8 &&& ((gI g 250 7 ||| kb) ^^^ (-1)))) 250 7 kb) 250 6) Lo := by
    rw [rd_k (by decide), rd_k (by decide)]
    exact j3.ex (fun a k ha => by rw [rd_a (by omega), rd_a (by omega)])
  have ok : SlOK (sI (sI g 250 8 (gI g 250 8 &&& ((gI g 250 7 ||| kb) ^^^ (-1)))) 250 7 kb) Lo r (hP r p) := fun d hd q => by
    rw [rd_k (by decide), rd_s, bt_and _ _ d (by omega), bt_not _ d (by omega), bt_or _ _ d (by omega)] at q
    have e : hP r p d = hP r po d := by
      rw [hP_f (fun z => q.2 (Or.inr ((hp d hd).mp z))), hP_f (fun z => q.2 (Or.inl ((j4 d hd).mp z)))]
    rw [rd_a (by decide), rd_a (by decide), rd_k (by decide), rd_k (by decide), e]
    exact j5 d hd q.1
  generalize hg2 : sI (sI g 250 8 (gI g 250 8 &&& ((gI g 250 7 ||| kb) ^^^ (-1)))) 250 7 kb = g2 at u2 k7 p5 l2 ok
  have fc := cb_face b (u.tr u2) p5 (p := p) (fun c hc => by rw [k7]; exact hp c hc)
  obtain ⟨g1, a1, a2, a3⟩ := next_c fc l2 ok hc
  rw [(cb_un b (u.tr u2)).2.2.2, (nxN_e _ _ _ hc).1] at a1
  have r0 := rk_lt (S := SV Lo r (hP r p)) c hc
  obtain ⟨g', e1, e2⟩ := ewk_l (Lo := Lo) b hp FU c 0 g1 hc (Nat.lt_of_lt_of_le r0 (by decide)) (by omega) ((u.tr u2).tr (sS_sX a2)) ((a2.P rfl).trans p5) (by rw [a2.I rfl]; exact l2.un a2) a3 ((a2.I rfl).trans k7)
  refine ⟨g', ?_, e2⟩
  unfold q_Slope_endWithKerbs
  rw [wr_e, wr_e, hg2, a1, bnd_s]
  refine e1.trans ?_
  unfold kE
  rw [FU_25, (hF_big fall hc _).2]
/-! the model raises, runs and lowers again -/
theorem rP_mo {f : hG} (hm : MomM f r) {p : Nat → Bool} {f1 : hG} (hw : ∀ c, c < 25 → p c = true → gI f1 369 (7 + c) = 9) (hk : ∀ k, ¬ (∃ c, c < 25 ∧ p c = true ∧ k = 7 + c) → gI f1 369 k = gI f 369 k) : MomM f1 (rP r p) := fun i hi => by
  unfold rP
  by_cases z : 3 ≤ i ∧ i < 28 ∧ p (i - 3) = true
  · rw [if_pos z, show 4 + i = 7 + (i - 3) by omega]
    exact hw _ (by omega) z.2.2
  · rw [if_neg z, hk _ (fun q => ?_)]
    · exact hm i hi
    · obtain ⟨c, c1, c2, c3⟩ := q
      rw [show c = i - 3 by omega] at c2
      exact z ⟨by omega, by omega, c2⟩
theorem lay_e {f : hG} (hm : MomM f r) (w : WFm r) (hl : LEM f Lo) (hd : gI f 369 3 = D) {p : Nat → Bool} {f1 : hG} (hw : ∀ c, c < 25 → p c = true → gI f1 369 (7 + c) = 9) (hk : ∀ k, ¬ (∃ c, c < 25 ∧ p c = true ∧ k = 7 + c) → gI f1 369 k = gI f 369 k) (h20 : gI f1 367 20 = gI f 367 20) {c d : Nat} (hc : c < 25) (hd2 : d < 25) (v3 v4 v5 v6 : Int32) : ∃ f2, Un sV f1 f2 ∧ q_Mo_endsSo_44 (nI c) (nI d) v3 v4 v5 v6 f1 = q_Mo_endsSo_54 v3 v4 v5 v6 (bI (kE D Lo r p c = d)) f2 := by
  obtain ⟨f2, l1, l2, l3⟩ := lay_m (rP_wf p w) (rP_mo hm hw hk) (hl.ex2 (fun i hi => hk i (fun q => by obtain ⟨c, c1, c2, c3⟩ := q; omega)) h20)
  have fall := nP_fall D Lo r p
  have e3 : gI f1 369 3 = D := (hk 3 (fun q => by obtain ⟨c, c1, c2, c3⟩ := q; omega)).trans hd
  rw [e3, rP_SV, rP_HV] at l3
  have m3 : M389 f2 (nP D Lo r p) := fun d hd => (l3 d hd).trans (nxN_e _ _ _ hd).1
  have k25 : eF (nP D Lo r p) 25 c < 25 := eF_in fall 25 c hc
  refine ⟨f2, l2, ?_⟩
  unfold q_Mo_endsSo_44 kE
  rw [l1, bnd_s, end_e fall m3 hc, bnd_s]
  by_cases z : eF (nP D Lo r p) 25 c = d
  · rw [bI_t z, z, if_pos rfl]
  · rw [bI_f z, if_neg (fun q => z ((nI_eq (by omega) (by omega)).mp q))]
def p0 (_c : Nat) : Bool := false
def p1 (a c : Nat) : Bool := decide (c = a)
def p2 (a b c : Nat) : Bool := decide (c = a ∨ c = b)
theorem n_m1 {a : Nat} (h : a < 2 ^ 31) : ¬ nI a = -1 := fun q => by
  have := nI_pos' h
  rw [q] at this
  exact absurd this (by decide)
theorem ends_0 {f : hG} (hm : MomM f r) (w : WFm r) (hl : LEM f Lo) (hd : gI f 369 3 = D) {c d : Nat} (hc : c < 25) (hd2 : d < 25) : ∃ f', q_Mo_endsSo (nI c) (nI d) (-1) (-1) f = some (bI (kE D Lo r p0 c = d), f') ∧ Un sX f f' := by
  obtain ⟨f2, l2, l1⟩ := lay_e (p := p0) (f1 := f) hm w hl hd (fun c hc z => by cases z) (fun _ _ => rfl) rfl hc hd2 (-1) (-1) 0 0
  refine ⟨f2, ?_, sV_sX l2⟩
  unfold q_Mo_endsSo q_Mo_endsSo_11 q_Mo_endsSo_23 q_Mo_endsSo_34
  rw [if_pos rfl, if_pos rfl, if_pos rfl, if_pos rfl, l1]
  unfold q_Mo_endsSo_54 q_Mo_endsSo_65
  rw [if_pos rfl, if_pos rfl, gb_bI2]
theorem back_1 {f f2 : hG} {k : Nat} (u : Un sV (sI f 369 k 9) f2) : Un sX f (sI f2 369 k (gI f 369 k)) := by
  intro a x z
  have u' := sV_sX u
  refine ⟨?_, ?_, ?_⟩
  · rw [gI_sI]
    by_cases q : a = 369 ∧ x = k
    · rw [if_pos q, q.1, q.2]
    · rw [if_neg q, u'.I z, gI_sI, if_neg q]
  · rw [gJ_sI, u'.J z, gJ_sI]
  · rw [gP_sI, u'.P z, gP_sI]
theorem back_2 {f f2 : hG} {k l : Nat} (u : Un sV (sI (sI f 369 k 9) 369 l 9) f2) : Un sX f (sI (sI f2 369 l (gI f 369 l)) 369 k (gI f 369 k)) := by
  intro a x z
  have u' := sV_sX u
  refine ⟨?_, ?_, ?_⟩
  · rw [gI_sI]
    by_cases q : a = 369 ∧ x = k
    · rw [if_pos q, q.1, q.2]
    · rw [if_neg q, gI_sI]
      by_cases q2 : a = 369 ∧ x = l
      · rw [if_pos q2, q2.1, q2.2]
      · rw [if_neg q2, u'.I z, gI_sI, if_neg q2, gI_sI, if_neg q]
  · rw [gJ_sI, gJ_sI, u'.J z, gJ_sI, gJ_sI]
  · rw [gP_sI, gP_sI, u'.P z, gP_sI, gP_sI]
theorem ends_1 {f : hG} (hm : MomM f r) (w : WFm r) (hl : LEM f Lo) (hd : gI f 369 3 = D) {c d a : Nat} (hc : c < 25) (hd2 : d < 25) (ha : a < 25) : ∃ f', q_Mo_endsSo (nI c) (nI d) (nI a) (-1) f = some (bI (kE D Lo r (p1 a) c = d), f') ∧ Un sX f f' := by
  obtain ⟨f2, l2, l1⟩ := lay_e (p := p1 a) (f1 := sI f 369 (7 + a) 9) hm w hl hd (fun c hc z => by rw [of_decide_eq_true z]; exact rd_s) (fun k hk => rd_k (fun q => hk ⟨a, ha, decide_eq_true rfl, q⟩)) (rd_a (by decide)) hc hd2 (nI a) (-1) (gI f 369 (7 + a)) 0
  refine ⟨_, ?_, back_1 l2⟩
  have e7 : (7 : Int32) + nI a = nI (7 + a) := nI_add 7 a
  have na := n_m1 (a := a) (by omega)
  unfold q_Mo_endsSo q_Mo_endsSo_11 q_Mo_endsSo_23 q_Mo_endsSo_34
  rw [if_neg na, if_pos rfl, if_neg na, e7, gd_nI (by omega) (by omega), gd_nI (by omega) (by omega), wr_e, if_pos rfl, nI_clamp (by omega), l1]
  unfold q_Mo_endsSo_54 q_Mo_endsSo_65
  rw [if_pos rfl, if_neg na, e7, gd_nI (by omega) (by omega), wr_e, nI_clamp (by omega), gb_bI2]
theorem ends_2 {f : hG} (hm : MomM f r) (w : WFm r) (hl : LEM f Lo) (hd : gI f 369 3 = D) {c d a b : Nat} (hc : c < 25) (hd2 : d < 25) (ha : a < 25) (hb : b < 25) : ∃ f', q_Mo_endsSo (nI c) (nI d) (nI a) (nI b) f = some (bI (kE D Lo r (p2 a b) c = d), f') ∧ Un sX f f' := by
  obtain ⟨f2, l2, l1⟩ := lay_e (p := p2 a b) (f1 := sI (sI f 369 (7 + a) 9) 369 (7 + b) 9) hm w hl hd (fun c hc z => by
      rw [gI_sI]
      by_cases q : c = b
      · rw [if_pos ⟨rfl, by omega⟩]
      · rcases of_decide_eq_true z with y | y
        · rw [if_neg (by omega), y, rd_s]
        · exact absurd y q) (fun k hk => by
      rw [rd_k (fun q => hk ⟨b, hb, decide_eq_true (Or.inr rfl), q⟩), rd_k (fun q => hk ⟨a, ha, decide_eq_true (Or.inl rfl), q⟩)]) (by rw [rd_a (by decide), rd_a (by decide)]) hc hd2 (nI a) (nI b) (gI f 369 (7 + a)) (gI f 369 (7 + b))
  refine ⟨_, ?_, back_2 l2⟩
  have e7 : (7 : Int32) + nI a = nI (7 + a) := nI_add 7 a
  have e8 : (7 : Int32) + nI b = nI (7 + b) := nI_add 7 b
  have na := n_m1 (a := a) (by omega)
  have nb := n_m1 (a := b) (by omega)
  unfold q_Mo_endsSo q_Mo_endsSo_11 q_Mo_endsSo_23 q_Mo_endsSo_34
  rw [if_neg na, if_neg nb, if_neg na, e7, e8, gd_nI (by omega) (by omega), gd_nI (by omega) (by omega), gd_nI (by omega) (by omega), wr_e, if_neg nb, gd_nI (by omega) (by omega), wr_e, nI_clamp (by omega), nI_clamp (by omega), l1]
  unfold q_Mo_endsSo_54 q_Mo_endsSo_65
  rw [if_neg nb, e7, e8, gd_nI (by omega) (by omega), wr_e, if_neg na, gd_nI (by omega) (by omega), wr_e, nI_clamp (by omega), nI_clamp (by omega), gb_bI2]
end KC
