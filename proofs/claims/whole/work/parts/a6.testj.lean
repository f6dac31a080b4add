/-! texts: tests, both -/
section TJ
variable {B : Nat → Nat} {n t lg hi lo p0 pa0 d sz0 p sz pa : Nat} {g0 g : hG}
def JRT (B : Nat → Nat) (n t lg hi lo p pa d sz : Nat) (Q : Nat → Prop) (g : hG) (X : hO Int32) : Prop :=
  ∃ (b : Bool) (g' : hG) (p' sz' pa' : Nat), X = some (bI (b = true), g') ∧ Un (sRd t) g g' ∧ PC B n t lg p' sz' pa' g' ∧ cnt (stB B) p ≤ cnt (stB B) p' ∧ sz' + cnt (stB B) p ≤ sz + cnt (stB B) p' ∧ pa ≤ pa' ∧
    (b = true → cnt (stB B) p < cnt (stB B) p' ∧ Q (tkF B n p') ∧ (∀ j, j < sz → gI g' (t + 1) j = gI g (t + 1) j) ∧ ∃ (den : Den) (k : Nat), FrC (faL lg) (gI g' (t + 1)) sz sz' k den ∧ k + pa ≤ pa' ∧ t01 den ∧ GD lg den ∧ MOkT B n lg hi lo p pa d p' pa' den) ∧
    (b = false → MNoT B n lg hi p pa d p')
theorem JRT.mono {hi' lo' : Nat} {Q Q' : Nat → Prop} {X : hO Int32} (h : JRT B n t lg hi lo p pa d sz Q g X) (h1 : hi' ≤ hi) (h2 : lo' ≤ lo) (hQ : ∀ x, Q x → Q' x) : JRT B n t lg hi' lo' p pa d sz Q' g X := by
  obtain ⟨b, g', p', sz', pa', a1, a2, a3, a4, a5, a6, a7, a8⟩ := h
  refine ⟨b, g', p', sz', pa', a1, a2, a3, a4, a5, a6, fun q => ?_, fun q => (a8 q).mono h1⟩
  obtain ⟨b1, b2, b3, den, k, b4, b5, b6, b7, b8⟩ := a7 q
  exact ⟨b1, hQ _ b2, b3, den, k, b4, b5, b6, b7, b8.mono h1 h2⟩
/-- a step more behind a row of code -/
theorem add_j (h : PC B n t lg p sz pa g) (hs : sz + 1 ≤ 2 + cnt (stB B) p) {s : Nat} (h16 : s < 16) : q_Text_add t (nI s) 0 g = some ((), addH t sz s g) ∧ PC B n t lg p (sz + 1) pa (addH t sz s g) ∧ ∀ j, gI (addH t sz s g) (t + 1) j = if j = sz then nI s else gI g (t + 1) j := by
  have tt := ht_ne h.2.2.2.1
  have c4 := h.c4
  have ad := add_c h.2.2.2.2.2.2.2.2.1 (show sz ≤ 401 by omega) (s := s) (m := 0) (by omega) h16
  rw [show 16 * 0 + s = s by omega] at ad
  have r9 : ∀ k, gI (addH t sz s g) 239 k = gI g 239 k := fun k => by
    unfold addH
    rw [rd_a (by omega), rd_a (by omega)]
  refine ⟨ad, h.ex un_add h.2.1 ((r9 3).trans h.2.2.2.2.2.2.1) ((r9 4).trans h.2.2.2.2.2.2.2.1) (by unfold addH; exact rd_s) h.2.2.2.2.2.2.2.2.2.1 hs, fun j => ?_⟩
  unfold addH
  rw [rd_a (by omega), gI_sI]
  by_cases w : j = sz
  · rw [if_pos ⟨rfl, w⟩, if_pos w]
  · rw [if_neg (fun q => w q.2), if_neg w]
theorem comp_j (h : PC B n t 0 p sz pa g) (hd : d ≤ 8) (ha : tkF B n p ≠ 3006 ∧ tkF B n p ≠ 2040) : JRT B n t 0 4 4 p pa d sz (fun _ => True) g (q_Rd_comparison (nI d) g) := by
  obtain ⟨b, g1, p1, sz1, pa1, x1, x2, x3, x4, x5, x6, x7, x8⟩ := sum_z (v1 := 1) FR d (by show 9 ≤ d + 10; omega) hd p sz pa g h
  unfold q_Rd_comparison
  rw [x1, bnd_s]
  have sl : sz ≤ 2 + cnt (stB B) p := h.2.2.2.2.2.2.2.2.2.2
  cases b with
  | false =>
    rw [bI_f Bool.false_ne_true, if_pos rfl]
    exact ⟨false, g1, p1, sz1, pa1, by rw [bI_f Bool.false_ne_true], x2, x3, x4, x5, x6, fun q => (by cases q), fun _ => MNoT_0 ha (x8 rfl)⟩
  | true =>
    rw [bI_t rfl, if_neg (by decide)]
    obtain ⟨y1, y2, y3, den, k, y4, y5, y6, y7, y8⟩ := x7 rfl
    have tk := fun (v : Nat) (hv : v < 4000) => took_c x3 hv
    have go : ∀ s : Nat, 7 ≤ s ∧ s ≤ 9 → tkF B n p1 = cmS s → JRT B n t 0 4 4 p pa d sz (fun _ => True) g (q_Rd_comparison_25 (nI d) (nI s) (adv B n p1 g1)) := fun s hs hq => by
      have h4 : tkF B n p1 ≠ 4000 := by
        rw [hq]; unfold cmS
        split; omega; split; omega; omega
      have hp := tk_lt x3.2.1 h4
      have kn := (tk_n hp.1 hp.2).2.1
      have ha1 := x3.adv hp.1 hp.2
      have tt := ht_ne h.2.2.2.1
      obtain ⟨b, g2, p2, sz2, pa2, z1, z2, z3, z4, z5, z6, z7, z8⟩ := sum_z (v1 := 1) FR d (by show 9 ≤ d + 10; omega) hd _ _ _ _ ha1
      unfold q_Rd_comparison_25
      rw [if_neg (n_m1 (by omega)), z1, bnd_s]
      cases b with
      | false =>
        rw [bI_f Bool.false_ne_true, if_pos rfl]
        exact ⟨false, g2, p2, sz2, pa2, by rw [bI_f Bool.false_ne_true], (x2.tr un_adv).tr z2, z3, by omega, by omega, by omega, fun q => (by cases q), fun _ => MNoT_2 hs ha y8 hq x4 hp (z8 rfl) z4⟩
      | true =>
        obtain ⟨w1, w2, w3, den2, k2, w4, w5, w6, w7, w8⟩ := z7 rfl
        have sl1 : sz1 ≤ 2 + cnt (stB B) p1 := x3.2.2.2.2.2.2.2.2.2.2
        obtain ⟨a1, a2, a3⟩ := add_j z3 (by omega) (s := s) (by omega)
        rw [bI_t rfl, if_neg (by decide), z3.2.2.2.2.1, gp_p h.2.2.2.1.1, show q_Text_add t (nI s) (0 : Int32) g2 = _ from a1, bnd_s]
        have s4 := y4.1
        have s5 := w4.1
        have e0 : ∀ j, gI (adv B n p1 g1) (t + 1) j = gI g1 (t + 1) j := fun j => rd_a tt.2.1
        refine ⟨true, addH t sz2 s g2, p2, sz2 + 1, pa2, by rw [bI_t rfl], ((x2.tr un_adv).tr z2).tr un_add, a2, by omega, by omega, by omega, fun _ => ⟨by omega, trivial, fun j hj => ?_, binD s den den2, k + k2, ?_, by omega, t01_bin hs _ _, gd_bin y7 w7, MOkT_cmp hs ha y8 hq x4 hp w8 z4 w2⟩, fun q => (by cases q)⟩
        · rw [a3, if_neg (by omega), w3 j (by omega), e0]
          exact y3 j hj
        · refine frc_bin (by decide) (b := sz1) (c := sz2) (y4.ex (fun j a b => ?_)) (w4.ex (fun j a b => ?_)) ⟨by omega, hs.2⟩ (by rw [a3, if_pos rfl])
          · rw [a3, if_neg (by omega), w3 j b, e0]
          · rw [a3, if_neg (by omega)]
    rw [show q_Rd_took (2060 : Int32) g1 = _ from tk 2060 (by omega)]
    by_cases z4 : tkF B n p1 = 2060
    · rw [if_pos z4, bnd_s, if_neg (by decide)]
      exact go 7 (by omega) z4
    · rw [if_neg z4, bnd_s, if_pos rfl, show q_Rd_took (2062 : Int32) g1 = _ from tk 2062 (by omega)]
      by_cases z5 : tkF B n p1 = 2062
      · rw [if_pos z5, bnd_s, if_neg (by decide)]
        exact go 8 (by omega) z5
      · rw [if_neg z5, bnd_s, if_pos rfl, show q_Rd_took (2061 : Int32) g1 = _ from tk 2061 (by omega)]
        by_cases z6 : tkF B n p1 = 2061
        · rw [if_pos z6, bnd_s, if_neg (by decide)]
          exact go 9 (by omega) z6
        · rw [if_neg z6, bnd_s, if_pos rfl]
          unfold q_Rd_comparison_25
          rw [if_pos rfl]
          exact ⟨false, g1, p1, sz1, pa1, by rw [bI_f Bool.false_ne_true], x2, x3, x4, x5, x6, fun q => (by cases q), fun _ => MNoT_1 ha y8 y2 ⟨z4, z5, z6⟩⟩
/-- brackets -/
theorem brack_j {rt : Int32 → hG → hO Int32} (hd : d ≤ 8) (hrt : d < 8 → ∀ (p sz pa : Nat) (g : hG), PC B n t lg p sz pa g → JRT B n t lg 1 1 p pa (d + 1) sz noAO g (rt (nI (d + 1)) g)) (h : PC B n t lg p sz pa g) (hq : tkF B n p = 2040) : JRT B n t lg 7 7 p pa d sz (fun _ => True) g (q_Rd_bracketed rt (nI d) g) := by
  have hp := tk_lt h.2.1 (by omega)
  have kn := (tk_n hp.1 hp.2).2.1
  have tt := ht_ne h.2.2.2.1
  unfold q_Rd_bracketed
  by_cases hd8 : d < 8
  · rw [if_pos (show nI d < (8 : Int32) from nI_lt' (b := 8) hd8 (by omega)), goOn_c h hp.1 hp.2, bnd_s, nI_1]
    obtain ⟨b, g2, p2, sz2, pa2, x1, x2, x3, x4, x5, x6, x7, x8⟩ := hrt hd8 _ _ _ _ (h.adv hp.1 hp.2)
    rw [x1, bnd_s]
    cases b with
    | false =>
      rw [bI_f Bool.false_ne_true, if_pos rfl]
      exact ⟨false, g2, p2, sz2, pa2, by rw [bI_f Bool.false_ne_true], un_adv.tr x2, x3, by omega, by omega, x6, fun q => (by cases q), fun _ => MNoT_br1 hq hd8 hp (x8 rfl) x4⟩
    | true =>
      obtain ⟨y1, y2, y3, den, k, y4, y5, y6, y7, y8⟩ := x7 rfl
      rw [bI_t rfl, if_neg (by decide), show q_Rd_took (2041 : Int32) g2 = _ from took_c x3 (v := 2041) (by omega)]
      by_cases z : tkF B n p2 = 2041
      · have hp2 := tk_lt x3.2.1 (by omega)
        have kn2 := (tk_n hp2.1 hp2.2).2.1
        rw [if_pos z, bnd_s, if_neg (by decide)]
        exact ⟨true, adv B n p2 g2, nx B n p2, sz2, pa2, by rw [bI_t rfl], (un_adv.tr x2).tr un_adv, x3.adv hp2.1 hp2.2, by omega, by omega, x6, fun _ => ⟨by omega, trivial, fun j hj => (rd_a tt.2.1).trans ((y3 j hj).trans (rd_a tt.2.1)), den, k, y4.ex (fun j a b => rd_a tt.2.1), y5, y6, y7, MOkT_br hq hd8 hp y8 x4 z hp2⟩, fun q => (by cases q)⟩
      · rw [if_neg z, bnd_s, if_pos rfl]
        exact ⟨false, g2, p2, sz2, pa2, by rw [bI_f Bool.false_ne_true], un_adv.tr x2, x3, by omega, by omega, x6, fun q => (by cases q), fun _ => MNoT_br2 hq hd8 hp y8 x4 z y2⟩
  · rw [if_neg (show ¬ nI d < (8 : Int32) from nI_ngt (a := 8) (by omega) (by omega))]
    exact ⟨false, g, p, sz, pa, by rw [bI_f Bool.false_ne_true], Un.rf, h, Nat.le_refl _, by omega, Nat.le_refl _, fun q => (by cases q), fun _ => MNoT_br0 hq (by omega) (by omega)⟩
/-- a row of not -/
def nD (tn : Bool) (den : Den) : Den := if tn = true then notD den else den
theorem not_not {den : Den} (h : t01 den) : notD (notD den) = den := by
  funext f
  unfold notD
  cases q : den f with
  | none => rfl
  | some v =>
    rcases h f v q with rfl | rfl
    · rfl
    · rfl
theorem plain_l {rt : Int32 → hG → hO Int32} (hinner : ∀ (p sz pa : Nat) (g : hG), PC B n t lg p sz pa g → tkF B n p ≠ 3006 → JRT B n t lg 4 4 p pa d sz (fun _ => True) g (if tkF B n p = 2040 then q_Rd_bracketed rt (nI d) g else q_Rd_comparison (nI d) g)) : ∀ (m F v : Nat) (tn : Bool) (p sz pa : Nat) (g : hG), cnt (stB B) n - cnt (stB B) p ≤ m → m < F → v ≤ cnt (stB B) p → PC B n t lg p sz pa g → (tn = true → sz + 1 ≤ 2 + cnt (stB B) p) →
    ∃ (b : Bool) (g' : hG) (p' sz' pa' : Nat), q_Rd_plain_4L rt (fun x7 g9 => q_Rd_plain_19 rt (nI d) x7 g9) F (if tn = true then 1 else 0) (nI v) g = some (bI (b = true), g') ∧ Un (sRd t) g g' ∧ PC B n t lg p' sz' pa' g' ∧ cnt (stB B) p ≤ cnt (stB B) p' ∧ sz' + cnt (stB B) p ≤ sz + cnt (stB B) p' + (if tn = true then 1 else 0) ∧ pa ≤ pa' ∧
      (b = true → cnt (stB B) p < cnt (stB B) p' ∧ (∀ j, j < sz → gI g' (t + 1) j = gI g (t + 1) j) ∧ ∃ (den : Den) (k : Nat), FrC (faL lg) (gI g' (t + 1)) sz sz' k (nD tn den) ∧ k + pa ≤ pa' ∧ t01 den ∧ GD lg den ∧ MOkT B n lg 4 3 p pa d p' pa' den) ∧ (b = false → MNoT B n lg 4 p pa d p') := by
  have base : ∀ (tn : Bool) (p sz pa : Nat) (g : hG), PC B n t lg p sz pa g → (tn = true → sz + 1 ≤ 2 + cnt (stB B) p) → tkF B n p ≠ 3006 → ∃ (b : Bool) (g' : hG) (p' sz' pa' : Nat), q_Rd_plain_19 rt (nI d) (if tn = true then 1 else 0) g = some (bI (b = true), g') ∧ Un (sRd t) g g' ∧ PC B n t lg p' sz' pa' g' ∧ cnt (stB B) p ≤ cnt (stB B) p' ∧ sz' + cnt (stB B) p ≤ sz + cnt (stB B) p' + (if tn = true then 1 else 0) ∧ pa ≤ pa' ∧
      (b = true → cnt (stB B) p < cnt (stB B) p' ∧ (∀ j, j < sz → gI g' (t + 1) j = gI g (t + 1) j) ∧ ∃ (den : Den) (k : Nat), FrC (faL lg) (gI g' (t + 1)) sz sz' k (nD tn den) ∧ k + pa ≤ pa' ∧ t01 den ∧ GD lg den ∧ MOkT B n lg 4 3 p pa d p' pa' den) ∧ (b = false → MNoT B n lg 4 p pa d p') := fun tn p sz pa g h hsz hnn => by
    obtain ⟨b, g1, p1, sz1, pa1, x1, x2, x3, x4, x5, x6, x7, x8⟩ := hinner p sz pa g h hnn
    have t5 := tk_5 h.2.2.1 p
    have e : q_Rd_plain_19 rt (nI d) (if tn = true then 1 else 0) g = q_Rd_plain_30 rt (if tn = true then 1 else 0) (bI (b = true)) g1 := by
      unfold q_Rd_plain_19
      rw [tok_c h, bnd_s]
      by_cases z : tkF B n p = 2040
      · rw [if_pos z] at x1
        rw [if_pos (show nI (tkF B n p) = (2040 : Int32) by rw [z]; rfl), x1, bnd_s]
      · rw [if_neg z] at x1
        rw [if_neg (show ¬ nI (tkF B n p) = (2040 : Int32) from nI_dif (b := 2040) z (by omega) (by omega)), x1, bnd_s]
    rw [e]
    unfold q_Rd_plain_30
    cases b with
    | false =>
      rw [bI_f Bool.false_ne_true, if_pos rfl, gb_0]
      exact ⟨false, g1, p1, sz1, pa1, by rw [bI_f Bool.false_ne_true], x2, x3, x4, by omega, x6, fun q => (by cases q), fun _ => x8 rfl⟩
    | true =>
      obtain ⟨y1, y2, y3, den, k, y4, y5, y6, y7, y8⟩ := x7 rfl
      rw [bI_t rfl, if_neg (by decide)]
      cases tn with
      | false =>
        rw [if_neg Bool.false_ne_true, if_pos rfl, gb_1]
        exact ⟨true, g1, p1, sz1, pa1, by rw [bI_t rfl], x2, x3, x4, by omega, x6, fun _ => ⟨y1, y3, den, k, y4, y5, y6, y7, y8.mono (by omega) (by omega)⟩, fun q => (by cases q)⟩
      | true =>
        have hs1 := hsz rfl
        obtain ⟨a1, a2, a3⟩ := add_j x3 (by omega) (s := 10) (by omega)
        rw [if_pos rfl, if_neg (by decide), x3.2.2.2.2.1, gp_p h.2.2.2.1.1, show q_Text_add t (10 : Int32) (0 : Int32) g1 = _ from a1, bnd_s, gb_1]
        refine ⟨true, addH t sz1 10 g1, p1, sz1 + 1, pa1, by rw [bI_t rfl], x2.tr un_add, a2, x4, by rw [if_pos rfl]; omega, x6, fun _ => ⟨y1, fun j hj => ?_, den, k, ?_, y5, y6, y7, y8.mono (by omega) (by omega)⟩, fun q => (by cases q)⟩
        · have := y4.1
          rw [a3, if_neg (by omega)]
          exact y3 j hj
        · exact frc_not (y4.ex (fun j a b => by rw [a3, if_neg (by omega)])) (by rw [a3, if_pos rfl])
  intro m
  induction m with
  | zero =>
    intro F v tn p sz pa g hm hF hv h hsz
    obtain ⟨F, rfl⟩ : ∃ q, F = q + 1 := ⟨F - 1, by omega⟩
    have c4 := h.c4
    have hnn : tkF B n p ≠ 3006 := fun z => by
      obtain ⟨hp, hs⟩ := tk_lt h.2.1 (by omega)
      have := cnt_in (stB B) hp hs
      omega
    rw [q_Rd_plain_4L_s]
    unfold q_Rd_plain_4
    have e := base tn p sz pa g h hsz hnn
    by_cases w : (400 : Int32) ≤ nI v
    · rw [if_pos w]; exact e
    · rw [if_neg w, show q_Rd_took (3006 : Int32) g = _ from took_c h (v := 3006) (by omega), if_neg hnn, bnd_s, if_pos rfl]; exact e
  | succ m ih =>
    intro F v tn p sz pa g hm hF hv h hsz
    obtain ⟨F, rfl⟩ : ∃ q, F = q + 1 := ⟨F - 1, by omega⟩
    have c4 := h.c4
    by_cases z : tkF B n p = 3006
    · have hp := tk_lt h.2.1 (by omega)
      have kn := (tk_n hp.1 hp.2).2.1
      have kk := cnt_in (stB B) hp.1 hp.2
      have ha := h.adv hp.1 hp.2
      have tt := ht_ne h.2.2.2.1
      have sl : sz ≤ 2 + cnt (stB B) p := h.2.2.2.2.2.2.2.2.2.2
      obtain ⟨b, g1, p1, sz1, pa1, x1, x2, x3, x4, x5, x6, x7, x8⟩ := ih F (v + 1) (!tn) (nx B n p) sz pa (adv B n p g) (by omega) (by omega) (by omega) ha (fun _ => by omega)
      rw [q_Rd_plain_4L_s]
      unfold q_Rd_plain_4
      rw [if_neg (show ¬ (400 : Int32) ≤ nI v from nI_ge (a := v) (b := 400) (by omega) (by decide)), show q_Rd_took (3006 : Int32) g = _ from took_c h (v := 3006) (by omega), if_pos z, bnd_s, if_neg (by decide), nI_1]
      have e : (if (if tn = true then (1 : Int32) else 0) = 0 then q_Rd_plain_4L rt (fun x7 g9 => q_Rd_plain_19 rt (nI d) x7 g9) F (1 : Int32) (nI (v + 1)) (adv B n p g) else q_Rd_plain_4L rt (fun x7 g9 => q_Rd_plain_19 rt (nI d) x7 g9) F (0 : Int32) (nI (v + 1)) (adv B n p g)) = some (bI (b = true), g1) := by
        cases tn with
        | false => exact x1
        | true => exact x1
      rw [e]
      refine ⟨b, g1, p1, sz1, pa1, rfl, un_adv.tr x2, x3, by omega, ?_, x6, fun q => ?_, fun q => MNoT_not z hp (x8 q) x4⟩
      · cases tn with
        | false => rw [if_neg Bool.false_ne_true]; have x5 : sz1 + cnt (stB B) (nx B n p) ≤ sz + cnt (stB B) p1 + 1 := x5; omega
        | true => rw [if_pos rfl]; have x5 : sz1 + cnt (stB B) (nx B n p) ≤ sz + cnt (stB B) p1 + 0 := x5; omega
      · obtain ⟨y1, y2, den, k, y3, y4, y5, y6, y7⟩ := x7 q
        refine ⟨by omega, fun j hj => (y2 j hj).trans (rd_a tt.2.1), notD den, k, ?_, y4, t01_not y5, gd_not y6 y5, MOkT_not z hp y7 x4 y5⟩
        cases tn with
        | false => exact y3
        | true =>
          show FrC (faL lg) (gI g1 (t + 1)) sz sz1 k (notD (notD den))
          rw [not_not y5]
          exact y3
    · rw [q_Rd_plain_4L_s]
      unfold q_Rd_plain_4
      have e := base tn p sz pa g h hsz z
      by_cases w : (400 : Int32) ≤ nI v
      · rw [if_pos w]; exact e
      · rw [if_neg w, show q_Rd_took (3006 : Int32) g = _ from took_c h (v := 3006) (by omega), if_neg z, bnd_s, if_pos rfl]; exact e
theorem plain_j {rt : Int32 → hG → hO Int32} (hinner : ∀ (p sz pa : Nat) (g : hG), PC B n t lg p sz pa g → tkF B n p ≠ 3006 → JRT B n t lg 4 4 p pa d sz (fun _ => True) g (if tkF B n p = 2040 then q_Rd_bracketed rt (nI d) g else q_Rd_comparison (nI d) g)) (h : PC B n t lg p sz pa g) : JRT B n t lg 4 3 p pa d sz (fun _ => True) g (q_Rd_plain rt (nI d) g) := by
  have c4 := h.c4
  obtain ⟨b, g1, p1, sz1, pa1, x1, x2, x3, x4, x5, x6, x7, x8⟩ := plain_l hinner 400 FU 0 false p sz pa g (by omega) (by decide) (by omega) h (fun q => (by cases q))
  refine ⟨b, g1, p1, sz1, pa1, x1, x2, x3, x4, x5, x6, fun q => ?_, x8⟩
  obtain ⟨y1, y2, den, k, y3, y4, y5, y6, y7⟩ := x7 q
  exact ⟨y1, trivial, y2, den, k, y3, y4, y5, y6, y7⟩
/-- so far: tests joined by one word -/
def LT (B : Nat → Nat) (n t lg lo p0 pa0 d sz0 : Nat) (g0 : hG) (p sz pa : Nat) (g : hG) : Prop := Un (sRd t) g0 g ∧ PC B n t lg p sz pa g ∧ cnt (stB B) p0 < cnt (stB B) p ∧ sz + cnt (stB B) p0 ≤ sz0 + cnt (stB B) p ∧ pa0 ≤ pa ∧ (∀ j, j < sz0 → gI g (t + 1) j = gI g0 (t + 1) j) ∧ ∃ (den : Den) (k : Nat), FrC (faL lg) (gI g (t + 1)) sz0 sz k den ∧ k + pa0 ≤ pa ∧ t01 den ∧ GD lg den ∧ MOkT B n lg lo lo p0 pa0 d p pa den
theorem LT.fin {Q : Nat → Prop} (h : LT B n t lg lo p0 pa0 d sz0 g0 p sz pa g) (hq : Q (tkF B n p)) : JRT B n t lg lo lo p0 pa0 d sz0 Q g0 (some (1, g)) := by
  obtain ⟨h1, h2, h3, h4, h5, h6, den, k, h7, h8, h9, h10, h11⟩ := h
  exact ⟨true, g, p, sz, pa, by rw [bI_t rfl], h1, h2, by omega, h4, h5, fun _ => ⟨h3, hq, h6, den, k, h7, h8, h9, h10, h11⟩, fun q => (by cases q)⟩
theorem LT.of {Q : Nat → Prop} {X : hO Int32} (h : JRT B n t lg lo lo p0 pa0 d sz0 Q g0 X) : (∃ g', X = some (0, g') ∧ ∀ Q', JRT B n t lg lo lo p0 pa0 d sz0 Q' g0 (some (0, g'))) ∨ ∃ g' p' sz' pa', X = some (1, g') ∧ LT B n t lg lo p0 pa0 d sz0 g0 p' sz' pa' g' ∧ Q (tkF B n p') := by
  obtain ⟨b, g', p', sz', pa', h1, h2, h3, h4, h5, h6, h7, h8⟩ := h
  cases b with
  | false =>
    rw [bI_f Bool.false_ne_true] at h1
    exact Or.inl ⟨g', h1, fun Q' => ⟨false, g', p', sz', pa', by rw [bI_f Bool.false_ne_true], h2, h3, h4, h5, h6, fun q => (by cases q), h8⟩⟩
  | true =>
    rw [bI_t rfl] at h1
    obtain ⟨a1, a2, a3, den, k, a4, a5, a6, a7, a8⟩ := h7 rfl
    exact Or.inr ⟨g', p', sz', pa', h1, ⟨h2, h3, a1, h5, h6, a3, den, k, a4, a5, a6, a7, a8⟩, a2⟩
/-- one more: the word, its jump, the test behind it, the jump's place -/
theorem LT.step {Q : Nat → Prop} {Y : hG → hO Int32} {s cs hi2 : Nat} (h : LT B n t lg lo p0 pa0 d sz0 g0 p sz pa g) (hf : faL lg ≠ 248) (hs : (s = 29 ∧ cs = 12) ∨ (s = 30 ∧ cs = 11)) (hlo : bd s = lo) (hh : lo < hi2) (hq : tkF B n p = jwS s) (hj : ∀ (p sz pa : Nat) (g : hG), PC B n t lg p sz pa g → JRT B n t lg hi2 (lo + 1) p pa d sz Q g (Y g)) : ∃ ga, gI (adv B n p g) t 1 = nI sz ∧ gP (adv B n p g) 239 1 = some t ∧ is_txt t = true ∧ q_Text_add t (nI cs) 0 (adv B n p g) = some ((), ga) ∧ ((∃ g', Y ga = some (0, g') ∧ ∀ Q', JRT B n t lg lo lo p0 pa0 d sz0 Q' g0 (some (0, g'))) ∨ ∃ g' g2 p' sz' pa', Y ga = some (1, g') ∧ gP g' 239 1 = some t ∧ q_Text_leadHere t (nI sz) g' = some ((), g2) ∧ LT B n t lg lo p0 pa0 d sz0 g0 p' sz' pa' g2 ∧ Q (tkF B n p') ∧ cnt (stB B) p < cnt (stB B) p') := by
  obtain ⟨h1, h2, h3, h4, h5, h6, den, k, h7, h8, h9, h10, h11⟩ := h
  have hs' : s = 29 ∨ s = 30 := by omega
  have h4000 : tkF B n p ≠ 4000 := by
    rw [hq]; unfold jwS
    split <;> omega
  have hp := tk_lt h2.2.1 h4000
  have kn := (tk_n hp.1 hp.2).2.1
  have tt := ht_ne h2.2.2.2.1
  have sl : sz ≤ 2 + cnt (stB B) p := h2.2.2.2.2.2.2.2.2.2.2
  have ha := h2.adv hp.1 hp.2
  obtain ⟨a1, a2, a3⟩ := add_j ha (by omega) (s := cs) (by omega)
  obtain ⟨b, g2, p2, sz2, pa2, x1, x2, x3, x4, x5, x6, x7, x8⟩ := hj _ _ _ _ a2
  refine ⟨_, ha.2.2.2.2.2.2.2.2.1, ha.2.2.2.2.1, h2.2.2.2.1.1, a1, ?_⟩
  have u2 : Un (sRd t) g0 g2 := ((h1.tr un_adv).tr un_add).tr x2
  cases b with
  | false =>
    rw [bI_f Bool.false_ne_true] at x1
    exact Or.inl ⟨g2, x1, fun Q' => ⟨false, g2, p2, sz2, pa2, by rw [bI_f Bool.false_ne_true], u2, x3, by omega, by omega, by omega, fun q => (by cases q), fun _ => MNoT_jmp hs' hlo h11 hq (by omega) hp (x8 rfl) hh x4⟩⟩
  | true =>
    rw [bI_t rfl] at x1
    obtain ⟨y1, y2, y3, den2, k2, y4, y5, y6, y7, y8⟩ := x7 rfl
    have s7 := h7.1
    have s4 := y4.1
    have c4 := x3.c4
    have e0 : ∀ j, gI (adv B n p g) (t + 1) j = gI g (t + 1) j := fun j => rd_a tt.2.1
    have cz : gI g2 (t + 1) sz = nI cs := by rw [y3 sz (by omega), a3, if_pos rfl]
    have ld := lead_c x3.2.2.2.2.2.2.2.2.1 (by have := x3.2.2.2.2.2.2.2.2.2.2; omega) (show sz < sz2 by omega) cz (show cs < 16 by omega)
    have cd : ∀ j, gI (sI g2 (t + 1) sz (nI (16 * sz2 + cs))) (t + 1) j = if j = sz then nI (16 * sz2 + cs) else gI g2 (t + 1) j := fun j => by
      rw [gI_sI]
      by_cases w : j = sz
      · rw [if_pos ⟨rfl, w⟩, if_pos w]
      · rw [if_neg (fun q => w q.2), if_neg w]
    have ul : Un (sRd t) g2 (sI g2 (t + 1) sz (nI (16 * sz2 + cs))) := Un.rf.sI (by simp [sRd]) _
    have eD : jmpD (if cs = 11 then 1 else 0) den den2 = jmpD (if s = 29 then 0 else 1) den den2 := by
      rcases hs with ⟨rfl, rfl⟩ | ⟨rfl, rfl⟩
      · rw [if_neg (by omega), if_pos rfl]
      · rw [if_pos rfl, if_neg (by omega)]
    refine Or.inr ⟨g2, _, p2, sz2, pa2, x1, x3.2.2.2.2.1, ld, ⟨u2.tr ul, x3.ex ul x3.2.1 ((rd_a (by omega)).trans x3.2.2.2.2.2.2.1) ((rd_a (by omega)).trans x3.2.2.2.2.2.2.2.1) ((rd_a (by omega)).trans x3.2.2.2.2.2.2.2.2.1) x3.2.2.2.2.2.2.2.2.2.1 x3.2.2.2.2.2.2.2.2.2.2, by omega, by omega, by omega, fun j hj => ?_, jmpD (if s = 29 then 0 else 1) den den2, k + k2, ?_, by omega, t01_jmp h9 y6, gd_jmp h10 y7, MOkT_jmp hs' hlo h11 hq (by omega) hp y8 hh x4⟩, y2, by omega⟩
    · rw [cd, if_neg (by omega), y3 j (by omega), a3, if_neg (by omega), e0]
      exact h6 j hj
    · rw [← eD]
      refine frc_jmp hf (b := sz) (c := sz2) (h7.ex (fun j a b => ?_)) (y4.ex (fun j a b => ?_)) (by omega) (by rw [cd, if_pos rfl])
      · rw [cd, if_neg (by omega), y3 j (by omega), a3, if_neg (by omega), e0]
      · rw [cd, if_neg (by omega)]
theorem both_l {rt : Int32 → hG → hO Int32} (hf : faL lg ≠ 248) (hplain : ∀ (p sz pa : Nat) (g : hG), PC B n t lg p sz pa g → JRT B n t lg 4 3 p pa d sz (fun _ => True) g (q_Rd_plain rt (nI d) g)) : ∀ (m F v p sz pa : Nat) (g : hG), cnt (stB B) n - cnt (stB B) p ≤ m → m < F → v < cnt (stB B) p → LT B n t lg 2 p0 pa0 d sz0 g0 p sz pa g → JRT B n t lg 2 2 p0 pa0 d sz0 (fun x => x ≠ 3005) g0 (q_Rd_both_8L rt (nI d) (fun g23 => some ((1 : Int32), g23)) F (nI v) g) := by
  intro m
  induction m with
  | zero =>
    intro F v p sz pa g hm hF hv h
    obtain ⟨F, rfl⟩ : ∃ q, F = q + 1 := ⟨F - 1, by omega⟩
    have c4 := h.2.1.c4
    have hno : tkF B n p ≠ 3005 := fun z => by
      obtain ⟨hp, hs⟩ := tk_lt h.2.1.2.1 (by omega)
      have := cnt_in (stB B) hp hs
      omega
    rw [q_Rd_both_8L_s]
    unfold q_Rd_both_8
    rw [if_neg (show ¬ (400 : Int32) ≤ nI v from nI_ge (a := v) (b := 400) (by omega) (by decide)), show q_Rd_took (3005 : Int32) g = _ from took_c h.2.1 (v := 3005) (by omega), if_neg hno, bnd_s, if_pos rfl]
    exact h.fin hno
  | succ m ih =>
    intro F v p sz pa g hm hF hv h
    obtain ⟨F, rfl⟩ : ∃ q, F = q + 1 := ⟨F - 1, by omega⟩
    have c4 := h.2.1.c4
    rw [q_Rd_both_8L_s]
    unfold q_Rd_both_8
    rw [if_neg (show ¬ (400 : Int32) ≤ nI v from nI_ge (a := v) (b := 400) (by omega) (by decide)), show q_Rd_took (3005 : Int32) g = _ from took_c h.2.1 (v := 3005) (by omega)]
    by_cases z : tkF B n p = 3005
    · obtain ⟨ga, e1, e2, e3, e4, e5⟩ := h.step (s := 29) (cs := 12) (hi2 := 4) (Y := fun g => q_Rd_plain rt (nI d) g) hf (by omega) rfl (by omega) z hplain
      rw [if_pos z, bnd_s, if_neg (by decide), e2, gp_p e3, gp_p e3, show q_Text_add t (12 : Int32) (0 : Int32) (adv B n p g) = _ from e4, bnd_s]
      rcases e5 with ⟨g', w1, w2⟩ | ⟨g', g2, p', sz', pa', w1, w2, w3, w4, w5, w6⟩
      · rw [show q_Rd_plain rt (nI d) ga = _ from w1, bnd_s, if_pos rfl]; exact w2 _
      · rw [show q_Rd_plain rt (nI d) ga = _ from w1, bnd_s, if_neg (by decide), w2, gp_p e3, e1, w3, bnd_s, nI_1]
        have := w4.2.1.c4
        exact ih F (v + 1) p' sz' pa' g2 (by omega) (by omega) (by omega) w4
    · rw [if_neg z, bnd_s, if_pos rfl]
      exact h.fin z
theorem both_j {rt : Int32 → hG → hO Int32} (hf : faL lg ≠ 248) (hplain : ∀ (p sz pa : Nat) (g : hG), PC B n t lg p sz pa g → JRT B n t lg 4 3 p pa d sz (fun _ => True) g (q_Rd_plain rt (nI d) g)) (h : PC B n t lg p sz pa g) : JRT B n t lg 2 2 p pa d sz (fun x => x ≠ 3005) g (q_Rd_both rt (nI d) g) := by
  unfold q_Rd_both
  rcases LT.of ((hplain p sz pa g h).mono (hi' := 2) (lo' := 2) (by omega) (by omega) (fun _ q => q)) with ⟨g', e1, e2⟩ | ⟨g', p', sz', pa', e1, e2, e3⟩
  · rw [e1, bnd_s, if_pos rfl]; exact e2 _
  · rw [e1, bnd_s, if_neg (by decide)]
    have c := e2.2.1.c4
    have c3 := e2.2.2.1
    exact both_l hf hplain 400 FU 0 p' sz' pa' g' (by omega) (by decide) (by omega) e2
theorem test_l {rt : Int32 → hG → hO Int32} (hf : faL lg ≠ 248) (hboth : ∀ (p sz pa : Nat) (g : hG), PC B n t lg p sz pa g → JRT B n t lg 2 2 p pa d sz (fun x => x ≠ 3005) g (q_Rd_both rt (nI d) g)) : ∀ (m F v p sz pa : Nat) (g : hG), cnt (stB B) n - cnt (stB B) p ≤ m → m < F → v < cnt (stB B) p → tkF B n p ≠ 3005 → LT B n t lg 1 p0 pa0 d sz0 g0 p sz pa g → JRT B n t lg 1 1 p0 pa0 d sz0 noAO g0 (q_Rd_test_8L rt (nI d) (fun g23 => some ((1 : Int32), g23)) F (nI v) g) := by
  intro m
  induction m with
  | zero =>
    intro F v p sz pa g hm hF hv hna h
    obtain ⟨F, rfl⟩ : ∃ q, F = q + 1 := ⟨F - 1, by omega⟩
    have c4 := h.2.1.c4
    have hno : tkF B n p ≠ 3004 := fun z => by
      obtain ⟨hp, hs⟩ := tk_lt h.2.1.2.1 (by omega)
      have := cnt_in (stB B) hp hs
      omega
    rw [q_Rd_test_8L_s]
    unfold q_Rd_test_8
    rw [if_neg (show ¬ (400 : Int32) ≤ nI v from nI_ge (a := v) (b := 400) (by omega) (by decide)), show q_Rd_took (3004 : Int32) g = _ from took_c h.2.1 (v := 3004) (by omega), if_neg hno, bnd_s, if_pos rfl]
    exact h.fin ⟨hna, hno⟩
  | succ m ih =>
    intro F v p sz pa g hm hF hv hna h
    obtain ⟨F, rfl⟩ : ∃ q, F = q + 1 := ⟨F - 1, by omega⟩
    have c4 := h.2.1.c4
    rw [q_Rd_test_8L_s]
    unfold q_Rd_test_8
    rw [if_neg (show ¬ (400 : Int32) ≤ nI v from nI_ge (a := v) (b := 400) (by omega) (by decide)), show q_Rd_took (3004 : Int32) g = _ from took_c h.2.1 (v := 3004) (by omega)]
    by_cases z : tkF B n p = 3004
    · obtain ⟨ga, e1, e2, e3, e4, e5⟩ := h.step (s := 30) (cs := 11) (hi2 := 2) (Y := fun g => q_Rd_both rt (nI d) g) hf (by omega) rfl (by omega) z hboth
      rw [if_pos z, bnd_s, if_neg (by decide), e2, gp_p e3, gp_p e3, show q_Text_add t (11 : Int32) (0 : Int32) (adv B n p g) = _ from e4, bnd_s]
      rcases e5 with ⟨g', w1, w2⟩ | ⟨g', g2, p', sz', pa', w1, w2, w3, w4, w5, w6⟩
      · rw [show q_Rd_both rt (nI d) ga = _ from w1, bnd_s, if_pos rfl]; exact w2 _
      · rw [show q_Rd_both rt (nI d) ga = _ from w1, bnd_s, if_neg (by decide), w2, gp_p e3, e1, w3, bnd_s, nI_1]
        have := w4.2.1.c4
        exact ih F (v + 1) p' sz' pa' g2 (by omega) (by omega) (by omega) w5 w4
    · rw [if_neg z, bnd_s, if_pos rfl]
      exact h.fin ⟨hna, z⟩
theorem test_j {rt : Int32 → hG → hO Int32} (hf : faL lg ≠ 248) (hplain : ∀ (p sz pa : Nat) (g : hG), PC B n t lg p sz pa g → JRT B n t lg 4 3 p pa d sz (fun _ => True) g (q_Rd_plain rt (nI d) g)) (h : PC B n t lg p sz pa g) : JRT B n t lg 1 1 p pa d sz noAO g (q_Rd_test rt (nI d) g) := by
  have hboth := fun (p sz pa : Nat) (g : hG) (h : PC B n t lg p sz pa g) => both_j hf hplain h
  unfold q_Rd_test
  rcases LT.of ((hboth p sz pa g h).mono (hi' := 1) (lo' := 1) (by omega) (by omega) (fun _ q => q)) with ⟨g', e1, e2⟩ | ⟨g', p', sz', pa', e1, e2, e3⟩
  · rw [e1, bnd_s, if_pos rfl]; exact e2 _
  · rw [e1, bnd_s, if_neg (by decide)]
    have c := e2.2.1.c4
    have c3 := e2.2.2.1
    exact test_l hf hboth 400 FU 0 p' sz' pa' g' (by omega) (by decide) (by omega) e3 e2
/-- tests of laws at every depth -/
theorem test_z : ∀ (m d : Nat), 9 ≤ d + m → d ≤ 8 → ∀ (p sz pa : Nat) (g : hG), PC B n t 0 p sz pa g → JRT B n t 0 1 1 p pa d sz noAO g (z_Rd_test m (nI d) g)
  | 0, d, h1, h2, _, _, _, _, _ => by omega
  | m + 1, d, h1, h2, p, sz, pa, g, h => test_j (by decide) (fun p sz pa g h => plain_j (fun p sz pa g h hnn => by
      by_cases z : tkF B n p = 2040
      · rw [if_pos z]
        exact (brack_j h2 (fun hd p sz pa g h => test_z m (d + 1) (by omega) (by omega) p sz pa g h) h z).mono (by omega) (by omega) (fun _ q => q)
      · rw [if_neg z]
        exact comp_j h h2 ⟨hnn, z⟩) h) h
end TJ
