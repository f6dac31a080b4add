/-! texts: terms and sums, both -/
section SU
variable {B : Nat → Nat} {n t lg v1 lo p0 pa0 d sz0 p sz pa p' pa' dp st stt : Nat} {g0 g : hG} {tst : Bool}
theorem MOk.mono {den : Den} {lo' : Nat} (h : MOk B n lg v1 st stt lo p pa dp p' pa' tst den) (hl : lo' ≤ lo) : MOk B n lg v1 st stt lo' p pa dp p' pa' tst den := by
  intro K L len f hf hc ht hb
  obtain ⟨s, f', pe, l, h1, h2, h3, h4, h5, h6⟩ := h K L len f hf hc (by omega) hb
  exact ⟨s, f', pe, l, h1, h2, h3, h4, fun x hx => ⟨Nat.le_trans hl (h5 x hx).1, (h5 x hx).2⟩, h6⟩
theorem MNo.mono {lo' : Nat} (h : MNo B n lg v1 st lo p pa dp p' tst) (hl : lo' ≤ lo) : MNo B n lg v1 st lo' p pa dp p' tst :=
  fun K L len f hf hc ht hb => h K L len f hf hc (by omega) hb
theorem JR.mono {lo' : Nat} {Q : Nat → Prop} {X : hO Int32} (h : JR B n t lg v1 st stt lo p pa dp sz tst Q g X) (hl : lo' ≤ lo) : JR B n t lg v1 st stt lo' p pa dp sz tst Q g X := by
  obtain ⟨b, g', p', sz', pa', h1, h2, h3, h4, h5, h6, h7, h8⟩ := h
  refine ⟨b, g', p', sz', pa', h1, h2, h3, h4, h5, h6, fun q => ?_, fun q => (h8 q).mono hl⟩
  obtain ⟨a1, a2, a3, den, k, a4, a5, a6, a7, a8⟩ := h7 q
  exact ⟨a1, a2, a3, den, k, a4, a5, a6, a7, a8.mono hl⟩
/-- so far: a sum or a term -/
def LI (B : Nat → Nat) (n t lg v1 lo p0 pa0 d sz0 : Nat) (g0 : hG) (p sz pa : Nat) (g : hG) : Prop := Un (sRd t) g0 g ∧ PC B n t lg p sz pa g ∧ cnt (stB B) p0 < cnt (stB B) p ∧ sz + cnt (stB B) p0 ≤ sz0 + cnt (stB B) p ∧ pa0 ≤ pa ∧ (∀ j, j < sz0 → gI g (t + 1) j = gI g0 (t + 1) j) ∧ ∃ (den : Den) (k : Nat), FrC (faL lg) (gI g (t + 1)) sz0 sz k den ∧ k + pa0 ≤ pa ∧ GD lg den ∧ MOk B n lg v1 1 3 lo p0 pa0 d p pa false den
theorem LI.fin {Q : Nat → Prop} (h : LI B n t lg v1 lo p0 pa0 d sz0 g0 p sz pa g) (hq : Q (tkF B n p)) : JR B n t lg v1 1 3 lo p0 pa0 d sz0 false Q g0 (some (1, g)) := by
  obtain ⟨h1, h2, h3, h4, h5, h6, den, k, h7, h8, h9, h10⟩ := h
  exact ⟨true, g, p, sz, pa, by rw [bI_t rfl], h1, h2, by omega, h4, h5, fun _ => ⟨h3, hq, h6, den, k, h7, h8, fun q => (by cases q), h9, h10⟩, fun q => (by cases q)⟩
theorem LI.of {Q : Nat → Prop} {X : hO Int32} (h : JR B n t lg v1 1 3 lo p0 pa0 d sz0 false Q g0 X) : (∃ g', X = some (0, g') ∧ JR B n t lg v1 1 3 lo p0 pa0 d sz0 false Q g0 (some (0, g')) ∧ ∀ Q', JR B n t lg v1 1 3 lo p0 pa0 d sz0 false Q' g0 (some (0, g'))) ∨ ∃ g' p' sz' pa', X = some (1, g') ∧ LI B n t lg v1 lo p0 pa0 d sz0 g0 p' sz' pa' g' ∧ Q (tkF B n p') := by
  obtain ⟨b, g', p', sz', pa', h1, h2, h3, h4, h5, h6, h7, h8⟩ := h
  cases b with
  | false =>
    rw [bI_f Bool.false_ne_true] at h1
    have al : ∀ Q', JR B n t lg v1 1 3 lo p0 pa0 d sz0 false Q' g0 (some (0, g')) := fun Q' => ⟨false, g', p', sz', pa', by rw [bI_f Bool.false_ne_true], h2, h3, h4, h5, h6, fun q => (by cases q), h8⟩
    exact Or.inl ⟨g', h1, al Q, al⟩
  | true =>
    rw [bI_t rfl] at h1
    obtain ⟨a1, a2, a3, den, k, a4, a5, a6, a7, a8⟩ := h7 rfl
    exact Or.inr ⟨g', p', sz', pa', h1, ⟨h2, h3, a1, h5, h6, a3, den, k, a4, a5, a7, a8⟩, a2⟩
theorem LI.step {Q : Nat → Prop} {X : hO Int32} {s : Nat} (h : LI B n t lg v1 lo p0 pa0 d sz0 g0 p sz pa g) (hf : faL lg ≠ 248) (hs : 2 ≤ s ∧ s ≤ 6) (hlo : bd (18 + s) = lo) (hq : tkF B n p = opS s) (hj : JR B n t lg v1 1 3 (lo + 1) (nx B n p) pa d sz false Q (adv B n p g) X) : (∃ g', X = some (0, g') ∧ ∀ Q', JR B n t lg v1 1 3 lo p0 pa0 d sz0 false Q' g0 (some (0, g'))) ∨ ∃ g' p' sz' pa', X = some (1, g') ∧ gP g' 239 1 = some t ∧ is_txt t = true ∧ q_Text_add t (nI s) 0 g' = some ((), addH t sz' s g') ∧ LI B n t lg v1 lo p0 pa0 d sz0 g0 p' (sz' + 1) pa' (addH t sz' s g') ∧ Q (tkF B n p') ∧ cnt (stB B) p < cnt (stB B) p' := by
  obtain ⟨h1, h2, h3, h4, h5, h6, den, k, h7, h8, h9, h10⟩ := h
  have h4000 : tkF B n p ≠ 4000 := by
    rw [hq]; unfold opS
    split; omega; split; omega; split; omega; split; omega; omega
  have hp := tk_lt h2.2.1 h4000
  have kn := (tk_n hp.1 hp.2).2.1
  obtain ⟨b, g2, p2, sz2, pa2, x1, x2, x3, x4, x5, x6, x7, x8⟩ := hj
  have tt := ht_ne h2.2.2.2.1
  have sl : sz ≤ 2 + cnt (stB B) p := h2.2.2.2.2.2.2.2.2.2.2
  cases b with
  | false =>
    rw [bI_f Bool.false_ne_true] at x1
    refine Or.inl ⟨g2, x1, fun Q' => ⟨false, g2, p2, sz2, pa2, by rw [bI_f Bool.false_ne_true], (h1.tr un_adv).tr x2, x3, by omega, by omega, by omega, fun q => (by cases q), fun _ => ?_⟩⟩
    exact MNo_bin hs hlo h10 hq (by omega) hp (x8 rfl) x4
  | true =>
    rw [bI_t rfl] at x1
    obtain ⟨y1, y2, y3, den2, k2, y4, y5, y6, y7, y8⟩ := x7 rfl
    have c4 := x3.c4
    have ad := add_c x3.2.2.2.2.2.2.2.2.1 (show sz2 ≤ 401 by omega) (s := s) (m := 0) (by omega) (by omega)
    rw [show 16 * 0 + s = s by omega] at ad
    have ua := un_add (t := t) (g := g2) (sz := sz2) (c := s)
    have cd : ∀ j, gI (addH t sz2 s g2) (t + 1) j = if j = sz2 then nI s else gI g2 (t + 1) j := fun j => by
      unfold addH
      rw [rd_a (by omega), gI_sI]
      by_cases w : j = sz2
      · rw [if_pos ⟨rfl, w⟩, if_pos w]
      · rw [if_neg (fun q => w q.2), if_neg w]
    have r9 : ∀ k, gI (addH t sz2 s g2) 239 k = gI g2 239 k := fun k => by
      unfold addH
      rw [rd_a (by omega), rd_a (by omega)]
    have s7 := h7.1
    have s4 := y4.1
    have a0 : ∀ j, gI (adv B n p g) (t + 1) j = gI g (t + 1) j := fun j => rd_a tt.2.1
    refine Or.inr ⟨g2, p2, sz2, pa2, x1, x3.2.2.2.2.1, x3.2.2.2.1.1, ad, ⟨((h1.tr un_adv).tr x2).tr ua, ?_, by omega, by omega, by omega, fun j hj => ?_, binD s den den2, k + k2, ?_, by omega, gd_bin h9 y7, ?_⟩, y2, by omega⟩
    · exact x3.ex ua x3.2.1 ((r9 3).trans x3.2.2.2.2.2.2.1) ((r9 4).trans x3.2.2.2.2.2.2.2.1) (by unfold addH; exact rd_s) x3.2.2.2.2.2.2.2.2.2.1 (by omega)
    · rw [cd, if_neg (by omega), y3 j (by omega), a0]
      exact h6 j hj
    · refine frc_bin hf (b := sz) (c := sz2) (h7.ex (fun j a b => ?_)) (y4.ex (fun j a b => ?_)) ⟨hs.1, by omega⟩ (by rw [cd, if_pos rfl])
      · rw [cd, if_neg (by omega), y3 j b, a0]
      · rw [cd, if_neg (by omega)]
    · exact MOk_bin hs hlo h10 hq (by omega) hp y8 x4
def noMul (x : Nat) : Prop := x ≠ 2042 ∧ x ≠ 2047 ∧ x ≠ 2037
theorem term_l {rs : Int32 → hG → hO Int32} (hf : faL lg ≠ 248) (hpart : ∀ (p sz pa : Nat) (g : hG), PC B n t lg p sz pa g → JR B n t lg v1 1 3 7 p pa d sz false (fun _ => True) g (q_Rd_part rs (nI d) g)) : ∀ (m F v p sz pa : Nat) (g : hG), cnt (stB B) n - cnt (stB B) p ≤ m → m < F → v < cnt (stB B) p → LI B n t lg v1 6 p0 pa0 d sz0 g0 p sz pa g → JR B n t lg v1 1 3 6 p0 pa0 d sz0 false noMul g0 (q_Rd_term_8L rs (nI d) (fun g29 => some ((1 : Int32), g29)) F (nI v) g) := by
  intro m
  induction m with
  | zero =>
    intro F v p sz pa g hm hF hv h
    obtain ⟨F, rfl⟩ : ∃ q, F = q + 1 := ⟨F - 1, by omega⟩
    have c4 := h.2.1.c4
    have hno : noMul (tkF B n p) := by
      by_cases z : tkF B n p = 4000
      · rw [z]; exact ⟨by omega, by omega, by omega⟩
      · obtain ⟨hp, hs⟩ := tk_lt h.2.1.2.1 z
        have := cnt_in (stB B) hp hs
        omega
    have tk := fun (v : Nat) (hv : v < 4000) => took_c h.2.1 hv
    rw [q_Rd_term_8L_s]
    unfold q_Rd_term_8 q_Rd_term_30
    rw [if_neg (show ¬ (400 : Int32) ≤ nI v from nI_ge (a := v) (b := 400) (by omega) (by decide)), show q_Rd_took (2042 : Int32) g = _ from tk 2042 (by omega), if_neg hno.1, bnd_s, if_pos rfl, show q_Rd_took (2047 : Int32) g = _ from tk 2047 (by omega), if_neg hno.2.1, bnd_s, if_pos rfl, show q_Rd_took (2037 : Int32) g = _ from tk 2037 (by omega), if_neg hno.2.2, bnd_s, if_pos rfl, if_pos rfl]
    exact h.fin hno
  | succ m ih =>
    intro F v p sz pa g hm hF hv h
    obtain ⟨F, rfl⟩ : ∃ q, F = q + 1 := ⟨F - 1, by omega⟩
    have c4 := h.2.1.c4
    have tk := fun (v : Nat) (hv : v < 4000) => took_c h.2.1 hv
    have go : ∀ s : Nat, 4 ≤ s ∧ s ≤ 6 → tkF B n p = opS s → JR B n t lg v1 1 3 6 p0 pa0 d sz0 false noMul g0 (q_Rd_term_30 rs (nI d) (nI v) (q_Rd_term_8L rs (nI d) (fun g29 => some ((1 : Int32), g29)) F) (nI s) (adv B n p g)) := fun s hs hq => by
      have h4000 : tkF B n p ≠ 4000 := by
        rw [hq]; unfold opS
        split; omega; split; omega; split; omega; split; omega; omega
      have hp := tk_lt h.2.1.2.1 h4000
      have ha := h.2.1.adv hp.1 hp.2
      unfold q_Rd_term_30
      rw [if_neg (n_m1 (by omega))]
      rcases h.step hf ⟨by omega, hs.2⟩ (by rw [bd_op ⟨by omega, hs.2⟩, if_neg (by omega)]) hq (hpart _ _ _ _ ha) with ⟨g', e1, e2⟩ | ⟨g', p', sz', pa', e1, e2, e3, e4, e5, e6, e7⟩
      · rw [e1, bnd_s, if_pos rfl]; exact e2 _
      · rw [e1, bnd_s, if_neg (by decide), e2, gp_p e3, show q_Text_add t (nI s) (0 : Int32) g' = _ from e4, bnd_s, nI_1]
        have := e5.2.1.c4
        exact ih F (v + 1) p' (sz' + 1) pa' _ (by omega) (by omega) (by omega) e5
    rw [q_Rd_term_8L_s]
    unfold q_Rd_term_8
    rw [if_neg (show ¬ (400 : Int32) ≤ nI v from nI_ge (a := v) (b := 400) (by omega) (by decide)), show q_Rd_took (2042 : Int32) g = _ from tk 2042 (by omega)]
    by_cases z4 : tkF B n p = 2042
    · rw [if_pos z4, bnd_s, if_neg (by decide)]
      exact go 4 (by omega) z4
    · rw [if_neg z4, bnd_s, if_pos rfl, show q_Rd_took (2047 : Int32) g = _ from tk 2047 (by omega)]
      by_cases z5 : tkF B n p = 2047
      · rw [if_pos z5, bnd_s, if_neg (by decide)]
        exact go 5 (by omega) z5
      · rw [if_neg z5, bnd_s, if_pos rfl, show q_Rd_took (2037 : Int32) g = _ from tk 2037 (by omega)]
        by_cases z6 : tkF B n p = 2037
        · rw [if_pos z6, bnd_s, if_neg (by decide)]
          exact go 6 (by omega) z6
        · rw [if_neg z6, bnd_s, if_pos rfl]
          unfold q_Rd_term_30
          rw [if_pos rfl]
          exact h.fin ⟨z4, z5, z6⟩
theorem term_j {rs : Int32 → hG → hO Int32} (hf : faL lg ≠ 248) (hpart : ∀ (p sz pa : Nat) (g : hG), PC B n t lg p sz pa g → JR B n t lg v1 1 3 7 p pa d sz false (fun _ => True) g (q_Rd_part rs (nI d) g)) (h : PC B n t lg p sz pa g) : JR B n t lg v1 1 3 6 p pa d sz false noMul g (q_Rd_term rs (nI d) g) := by
  unfold q_Rd_term
  rcases LI.of ((hpart p sz pa g h).mono (show 6 ≤ 7 by omega)) with ⟨g', e1, -, e2⟩ | ⟨g', p', sz', pa', e1, e2, -⟩
  · rw [e1, bnd_s, if_pos rfl]; exact e2 _
  · rw [e1, bnd_s, if_neg (by decide)]
    have c := e2.2.1.c4
    have c3 := e2.2.2.1
    exact term_l hf hpart 400 FU 0 p' sz' pa' g' (by omega) (by decide) (by omega) e2
theorem sum_l {rs : Int32 → hG → hO Int32} (hf : faL lg ≠ 248) (hterm : ∀ (p sz pa : Nat) (g : hG), PC B n t lg p sz pa g → JR B n t lg v1 1 3 6 p pa d sz false noMul g (q_Rd_term rs (nI d) g)) : ∀ (m F v p sz pa : Nat) (g : hG), cnt (stB B) n - cnt (stB B) p ≤ m → m < F → v < cnt (stB B) p → noMul (tkF B n p) → LI B n t lg v1 5 p0 pa0 d sz0 g0 p sz pa g → JR B n t lg v1 1 3 5 p0 pa0 d sz0 false noOp g0 (q_Rd_sum_8L rs (nI d) (fun g25 => some ((1 : Int32), g25)) F (nI v) g) := by
  intro m
  induction m with
  | zero =>
    intro F v p sz pa g hm hF hv hnm h
    obtain ⟨F, rfl⟩ : ∃ q, F = q + 1 := ⟨F - 1, by omega⟩
    have c4 := h.2.1.c4
    have hno : noOp (tkF B n p) := by
      by_cases z : tkF B n p = 4000
      · rw [z]; exact ⟨by omega, by omega, by omega, by omega, by omega⟩
      · obtain ⟨hp, hs⟩ := tk_lt h.2.1.2.1 z
        have := cnt_in (stB B) hp hs
        omega
    have tk := fun (v : Nat) (hv : v < 4000) => took_c h.2.1 hv
    rw [q_Rd_sum_8L_s]
    unfold q_Rd_sum_8 q_Rd_sum_24
    rw [if_neg (show ¬ (400 : Int32) ≤ nI v from nI_ge (a := v) (b := 400) (by omega) (by decide)), show q_Rd_took (2043 : Int32) g = _ from tk 2043 (by omega), if_neg hno.1, bnd_s, if_pos rfl, show q_Rd_took (2045 : Int32) g = _ from tk 2045 (by omega), if_neg hno.2.1, bnd_s, if_pos rfl, if_pos rfl]
    exact h.fin hno
  | succ m ih =>
    intro F v p sz pa g hm hF hv hnm h
    obtain ⟨F, rfl⟩ : ∃ q, F = q + 1 := ⟨F - 1, by omega⟩
    have c4 := h.2.1.c4
    have tk := fun (v : Nat) (hv : v < 4000) => took_c h.2.1 hv
    have go : ∀ s : Nat, 2 ≤ s ∧ s ≤ 3 → tkF B n p = opS s → JR B n t lg v1 1 3 5 p0 pa0 d sz0 false noOp g0 (q_Rd_sum_24 rs (nI d) (nI v) (q_Rd_sum_8L rs (nI d) (fun g25 => some ((1 : Int32), g25)) F) (nI s) (adv B n p g)) := fun s hs hq => by
      have h4000 : tkF B n p ≠ 4000 := by
        rw [hq]; unfold opS
        split; omega; split; omega; split; omega; split; omega; omega
      have hp := tk_lt h.2.1.2.1 h4000
      have ha := h.2.1.adv hp.1 hp.2
      unfold q_Rd_sum_24
      rw [if_neg (n_m1 (by omega))]
      rcases h.step hf ⟨hs.1, by omega⟩ (by rw [bd_op ⟨hs.1, by omega⟩, if_pos (by omega)]) hq (hterm _ _ _ _ ha) with ⟨g', e1, e2⟩ | ⟨g', p', sz', pa', e1, e2, e3, e4, e5, e6, e7⟩
      · rw [e1, bnd_s, if_pos rfl]; exact e2 _
      · rw [e1, bnd_s, if_neg (by decide), e2, gp_p e3, show q_Text_add t (nI s) (0 : Int32) g' = _ from e4, bnd_s, nI_1]
        have := e5.2.1.c4
        exact ih F (v + 1) p' (sz' + 1) pa' _ (by omega) (by omega) (by omega) e6 e5
    rw [q_Rd_sum_8L_s]
    unfold q_Rd_sum_8
    rw [if_neg (show ¬ (400 : Int32) ≤ nI v from nI_ge (a := v) (b := 400) (by omega) (by decide)), show q_Rd_took (2043 : Int32) g = _ from tk 2043 (by omega)]
    by_cases z4 : tkF B n p = 2043
    · rw [if_pos z4, bnd_s, if_neg (by decide)]
      exact go 2 (by omega) z4
    · rw [if_neg z4, bnd_s, if_pos rfl, show q_Rd_took (2045 : Int32) g = _ from tk 2045 (by omega)]
      by_cases z5 : tkF B n p = 2045
      · rw [if_pos z5, bnd_s, if_neg (by decide)]
        exact go 3 (by omega) z5
      · rw [if_neg z5, bnd_s, if_pos rfl]
        unfold q_Rd_sum_24
        rw [if_pos rfl]
        exact h.fin ⟨z4, z5, hnm⟩
theorem sum_j {rs : Int32 → hG → hO Int32} (hf : faL lg ≠ 248) (hpart : ∀ (p sz pa : Nat) (g : hG), PC B n t lg p sz pa g → JR B n t lg v1 1 3 7 p pa d sz false (fun _ => True) g (q_Rd_part rs (nI d) g)) (h : PC B n t lg p sz pa g) : JR B n t lg v1 1 3 5 p pa d sz false noOp g (q_Rd_sum rs (nI d) g) := by
  have hterm := fun (p sz pa : Nat) (g : hG) (h : PC B n t lg p sz pa g) => term_j hf hpart h
  unfold q_Rd_sum
  rcases LI.of ((hterm p sz pa g h).mono (show 5 ≤ 6 by omega)) with ⟨g', e1, -, e2⟩ | ⟨g', p', sz', pa', e1, e2, e3⟩
  · rw [e1, bnd_s, if_pos rfl]; exact e2 _
  · rw [e1, bnd_s, if_neg (by decide)]
    have c := e2.2.1.c4
    have c3 := e2.2.2.1
    exact sum_l hf hterm 400 FU 0 p' sz' pa' g' (by omega) (by decide) (by omega) e3 e2
/-- sums of laws at every depth -/
theorem sum_z : ∀ (m d : Nat), 9 ≤ d + m → d ≤ 8 → ∀ (p sz pa : Nat) (g : hG), PC B n t 0 p sz pa g → JR B n t 0 v1 1 3 5 p pa d sz false noOp g (z_Rd_sum m (nI d) g)
  | 0, d, h1, h2, _, _, _, _, _ => by omega
  | m + 1, d, h1, h2, p, sz, pa, g, h => sum_j (by decide) (fun p sz pa g h => part_j h2 (fun hd p sz pa g h => sum_z m (d + 1) (by omega) (by omega) p sz pa g h) h) h
end SU
