/-! few -/
/-- the parts behind m drops -/
def pF (cold : Int32) : Nat → Nat → Int64
  | 0, i => if i = 0 then 1000000000000 else 0
  | m + 1, i => pF cold m i * (10 - cold).toInt64 / 10 + (if i = 0 then 0 else pF cold m (i - 1) * cold.toInt64 / 10)
/-- only the longs of one row changed -/
def JJ (a : Nat) (g g' : hG) : Prop := gI g' = gI g ∧ gP g' = gP g ∧ ∀ b, ¬ b = a → gJ g' b = gJ g b
theorem JJ.rf {a : Nat} {g : hG} : JJ a g g := ⟨rfl, rfl, fun _ _ => rfl⟩
theorem JJ.tr {a : Nat} {g g' g2 : hG} (h : JJ a g g') (h2 : JJ a g' g2) : JJ a g g2 := ⟨h2.1.trans h.1, h2.2.1.trans h.2.1, fun b hb => (h2.2.2 b hb).trans (h.2.2 b hb)⟩
theorem JJ.sJ {a : Nat} {g g' : hG} (h : JJ a g g') (k : Nat) (v : Int64) : JJ a g (sJ g' a k v) := ⟨h.1, h.2.1, fun b hb => by rw [← h.2.2 b hb]; funext j; rw [gJ_sJ, if_neg (fun q => hb q.1)]⟩
theorem jd_s {g : hG} {a k : Nat} {v : Int64} : gJ (sJ g a k v) a k = v := by rw [gJ_sJ, if_pos ⟨rfl, rfl⟩]
theorem jd_k {g : hG} {a k : Nat} {v : Int64} {b j : Nat} (h : ¬ j = k) : gJ (sJ g a k v) b j = gJ g b j := by rw [gJ_sJ, if_neg (fun q => h q.2)]
theorem nI_m1 (m : Nat) : nI (m + 1) + -1 = nI m := pk_m1 m
theorem few_c15 (k : Nat) (hk : k ≤ 20) (K : hG → hO Int64) (g : hG) : ∃ g', q_MP_few_15L (nI k) K FU 0 g = K g' ∧ JJ 262 g g' ∧ ∀ j, j < k → gJ g' 262 j = pF 0 0 j := by
  have key : ∀ (m i n : Nat) (g : hG), i + m = k → m < n → (∀ j, j < i → gJ g 262 j = pF 0 0 j) → ∃ g', q_MP_few_15L (nI k) K n (nI i) g = K g' ∧ JJ 262 g g' ∧ ∀ j, j < k → gJ g' 262 j = pF 0 0 j := by
    intro m
    induction m with
    | zero =>
      intro i n g h1 h2 h3
      obtain ⟨n, rfl⟩ : ∃ q, n = q + 1 := ⟨n - 1, by omega⟩
      obtain rfl : i = k := by omega
      rw [q_MP_few_15L_s]
      unfold q_MP_few_15
      rw [if_pos (nI_le (by omega) (by omega))]
      exact ⟨g, rfl, JJ.rf, h3⟩
    | succ m ih =>
      intro i n g h1 h2 h3
      obtain ⟨n, rfl⟩ : ∃ q, n = q + 1 := ⟨n - 1, by omega⟩
      rw [q_MP_few_15L_s]
      unfold q_MP_few_15 q_MP_few_26
      rw [if_neg (nI_ge (by omega) (by omega)), gd_nI (by omega) (by omega), wr_e, nI_clamp (by omega), nI_1]
      obtain ⟨g', e1, e2, e3⟩ := ih (i + 1) n (sJ g 262 i (if nI i = 0 then 1000000000000 else 0)) (by omega) (by omega) (fun j hj => by
        by_cases z : j = i
        · subst z
          rw [jd_s]
          unfold pF
          by_cases y : j = 0
          · subst y; rfl
          · rw [if_neg y, if_neg (by rw [show (0 : Int32) = nI 0 from rfl, nI_eq (by omega) (by omega)]; exact y)]
        · rw [jd_k z]; exact h3 j (by omega))
      exact ⟨g', e1, (JJ.rf.sJ _ _).tr e2, e3⟩
  exact key k 0 FU g (by omega) (Nat.lt_of_le_of_lt hk (by decide)) (fun j hj => by omega)
theorem part_c (k : Nat) (hk0 : 0 < k) (hk : k ≤ 20) (cold : Int32) (t : Nat) (g : hG) (hc : gI g 1 2 = cold) (h : ∀ j, j < k → gJ g 262 j = pF cold t j) : ∃ g', q_MP_partBelow (nI k) g = some ((), g') ∧ JJ 262 g g' ∧ ∀ j, j < k → gJ g' 262 j = pF cold (t + 1) j := by
  have key : ∀ (m n : Nat) (g : hG), m ≤ k → m < n → gI g 1 2 = cold → (∀ j, j < k → gJ g 262 j = if m ≤ j then pF cold (t + 1) j else pF cold t j) → ∃ g', q_MP_partBelow_4L (fun g8 => some ((), g8)) n (nI m + -1) g = some ((), g') ∧ JJ 262 g g' ∧ ∀ j, j < k → gJ g' 262 j = pF cold (t + 1) j := by
    intro m
    induction m with
    | zero =>
      intro n g h1 h2 hc h3
      obtain ⟨n, rfl⟩ : ∃ q, n = q + 1 := ⟨n - 1, by omega⟩
      rw [q_MP_partBelow_4L_s]
      unfold q_MP_partBelow_4
      rw [if_pos (by decide)]
      exact ⟨g, rfl, JJ.rf, fun j hj => by rw [h3 j hj, if_pos (by omega)]⟩
    | succ m ih =>
      intro n g h1 h2 hc h3
      obtain ⟨n, rfl⟩ : ∃ q, n = q + 1 := ⟨n - 1, by omega⟩
      rw [q_MP_partBelow_4L_s]
      unfold q_MP_partBelow_4 q_MP_partBelow_23
      have hm3 : gJ g 262 m = pF cold t m := by rw [h3 m (by omega), if_neg (by omega)]
      have step : ∀ v, v = pF cold (t + 1) m → ∃ g', q_MP_partBelow_4L (fun g8 => some ((), g8)) n (nI m + -1) (sJ g 262 m v) = some ((), g') ∧ JJ 262 g g' ∧ ∀ j, j < k → gJ g' 262 j = pF cold (t + 1) j := by
        intro v hv
        obtain ⟨g', e1, e2, e3⟩ := ih n (sJ g 262 m v) (by omega) (by omega) hc (fun j hj => by
          by_cases z : j = m
          · subst z; rw [jd_s, if_pos (by omega), hv]
          · rw [jd_k z, h3 j hj]
            by_cases y : m + 1 ≤ j
            · rw [if_pos y, if_pos (by omega)]
            · rw [if_neg y, if_neg (by omega)])
        exact ⟨g', e1, (JJ.rf.sJ _ _).tr e2, e3⟩
      rw [nI_m1, if_neg (nI_pos (by omega))]
      by_cases z : m = 0
      · subst z
        rw [if_pos (show nI 0 = 0 from rfl), gd_nI (by omega) (by omega), gd_nI (by omega) (by omega), wr_e, hc, nI_clamp (by omega), hm3]
        exact step _ (by rw [pF, if_pos rfl])
      · obtain ⟨q, rfl⟩ : ∃ q, m = q + 1 := ⟨m - 1, by omega⟩
        have hq3 : gJ g 262 q = pF cold t q := by rw [h3 q (by omega), if_neg (by omega)]
        rw [if_neg (show ¬ nI (q + 1) = 0 by rw [show (0 : Int32) = nI 0 from rfl, nI_eq (by omega) (by omega)]; exact z), nI_pred, gd_nI (by omega) (by omega), gd_nI (by omega) (by omega), gd_nI (by omega) (by omega), wr_e, hc, nI_clamp (by omega), nI_clamp (by omega), hm3, hq3]
        exact step _ (by rw [pF, if_neg z, Nat.add_sub_cancel])
  unfold q_MP_partBelow
  have := key k FU g (by omega) (Nat.lt_of_le_of_lt hk (by decide)) hc (fun j hj => by rw [if_neg (by omega)]; exact h j hj)
  obtain ⟨q, rfl⟩ : ∃ q, k = q + 1 := ⟨k - 1, by omega⟩
  rw [nI_pred]
  rw [nI_m1] at this
  exact this
theorem few_c31 (k n : Nat) (hk0 : 0 < k) (hk : k ≤ 20) (hn : n ≤ 99) (cold : Int32) (K : hG → hO Int64) (g : hG) (hc : gI g 1 2 = cold) (h : ∀ j, j < k → gJ g 262 j = pF cold 0 j) : ∃ g', q_MP_few_31L (nI k) (nI n) K FU 0 g = K g' ∧ JJ 262 g g' ∧ ∀ j, j < k → gJ g' 262 j = pF cold n j := by
  have key : ∀ (m i f : Nat) (g : hG), i + m = n → m < f → gI g 1 2 = cold → (∀ j, j < k → gJ g 262 j = pF cold i j) → ∃ g', q_MP_few_31L (nI k) (nI n) K f (nI i) g = K g' ∧ JJ 262 g g' ∧ ∀ j, j < k → gJ g' 262 j = pF cold n j := by
    intro m
    induction m with
    | zero =>
      intro i f g h1 h2 hc h3
      obtain ⟨f, rfl⟩ : ∃ q, f = q + 1 := ⟨f - 1, by omega⟩
      obtain rfl : i = n := by omega
      rw [q_MP_few_31L_s]
      unfold q_MP_few_31
      rw [if_pos (nI_le (by omega) (by omega))]
      exact ⟨g, rfl, JJ.rf, h3⟩
    | succ m ih =>
      intro i f g h1 h2 hc h3
      obtain ⟨f, rfl⟩ : ∃ q, f = q + 1 := ⟨f - 1, by omega⟩
      rw [q_MP_few_31L_s]
      unfold q_MP_few_31
      obtain ⟨ga, a1, a2, a3⟩ := part_c k hk0 hk cold i g hc h3
      rw [if_neg (nI_ge (by omega) (by omega)), a1, bnd_s, nI_1]
      obtain ⟨g', e1, e2, e3⟩ := ih (i + 1) f ga (by omega) (by omega) (by rw [a2.1]; exact hc) a3
      exact ⟨g', e1, a2.tr e2, e3⟩
  exact key n 0 FU g (by omega) (Nat.lt_of_le_of_lt hn (by decide)) hc h
theorem few_c43 (k : Nat) (hk : k ≤ 20) (f : Nat → Int64) (g : hG) (h : ∀ j, j < k → gJ g 262 j = f j) : q_MP_few_43L (nI k) (fun x20 g22 => some (x20, g22)) FU 0 0 g = some (it (fun i acc => acc + f i) 0 k 0, g) := by
  refine for_loop (fun n (b : Int64) i => q_MP_few_43L (nI k) (fun x20 g22 => some (x20, g22)) n b (nI i) g) (fun b => some (b, g)) (fun i acc => acc + f i) k ?_ ?_ k 0 0 FU (by omega) (Nat.lt_of_le_of_lt hk (by decide))
  · intro n i b hi
    rw [q_MP_few_43L_s]
    unfold q_MP_few_43
    rw [if_neg (nI_ge hi (by omega)), gd_nI (by omega) (by omega), nI_clamp (by omega), h i hi, nI_1]
  · intro n b
    rw [q_MP_few_43L_s]
    unfold q_MP_few_43
    rw [if_pos (nI_le (by omega) (by omega))]
theorem few_m19 (K : hG → hO Int64) (g : hG) : ∃ g', q_Mo_few_19L K FU 0 g = K g' ∧ JJ 394 g g' ∧ ∀ j, j < 21 → gJ g' 394 j = pF 0 0 j := by
  have key : ∀ (m i n : Nat) (g : hG), i + m = 21 → m < n → (∀ j, j < i → gJ g 394 j = pF 0 0 j) → ∃ g', q_Mo_few_19L K n (nI i) g = K g' ∧ JJ 394 g g' ∧ ∀ j, j < 21 → gJ g' 394 j = pF 0 0 j := by
    intro m
    induction m with
    | zero =>
      intro i n g h1 h2 h3
      obtain ⟨n, rfl⟩ : ∃ q, n = q + 1 := ⟨n - 1, by omega⟩
      obtain rfl : i = 21 := by omega
      rw [q_Mo_few_19L_s]
      unfold q_Mo_few_19
      rw [if_pos (by decide)]
      exact ⟨g, rfl, JJ.rf, h3⟩
    | succ m ih =>
      intro i n g h1 h2 h3
      obtain ⟨n, rfl⟩ : ∃ q, n = q + 1 := ⟨n - 1, by omega⟩
      rw [q_Mo_few_19L_s]
      unfold q_Mo_few_19 q_Mo_few_30
      rw [if_neg (show ¬ (21 : Int32) ≤ nI i from nI_ge (a := i) (b := 21) (by omega) (by decide)), gd_nI (by omega) (by omega), wr_e, nI_clamp (by omega), nI_1]
      obtain ⟨g', e1, e2, e3⟩ := ih (i + 1) n (sJ g 394 i (if nI i = 0 then 1000000000000 else 0)) (by omega) (by omega) (fun j hj => by
        by_cases z : j = i
        · subst z
          rw [jd_s]
          unfold pF
          by_cases y : j = 0
          · subst y; rfl
          · rw [if_neg y, if_neg (by rw [show (0 : Int32) = nI 0 from rfl, nI_eq (by omega) (by omega)]; exact y)]
        · rw [jd_k z]; exact h3 j (by omega))
      exact ⟨g', e1, (JJ.rf.sJ _ _).tr e2, e3⟩
  exact key 21 0 FU g (by omega) (by decide) (fun j hj => by omega)
theorem few_m47 (k : Nat) (hk0 : 0 < k) (hk : k ≤ 20) (cold : Int32) (t : Nat) (K : hG → hO Int64) (g : hG) (h : ∀ j, j < k → gJ g 394 j = pF cold t j) : ∃ g', q_Mo_few_47L cold K FU (nI k - 1) g = K g' ∧ JJ 394 g g' ∧ ∀ j, j < k → gJ g' 394 j = pF cold (t + 1) j := by
  -- at m: those behind m are done, m itself has its own part alone
  have key : ∀ (m n : Nat) (g : hG), m ≤ k → m < n → (∀ j, j < k → gJ g 394 j = if m < j then pF cold (t + 1) j else if j = m then pF cold t j * (10 - cold).toInt64 / 10 else pF cold t j) → (m = 0 → 0 < k → gJ g 394 0 = pF cold t 0 * (10 - cold).toInt64 / 10) → ∃ g', q_Mo_few_47L cold K n (nI m + -1) g = K g' ∧ JJ 394 g g' ∧ ∀ j, j < k → gJ g' 394 j = pF cold (t + 1) j := by
    intro m
    induction m with
    | zero =>
      intro n g h1 h2 h3 h4
      obtain ⟨n, rfl⟩ : ∃ q, n = q + 1 := ⟨n - 1, by omega⟩
      rw [q_Mo_few_47L_s]
      unfold q_Mo_few_47
      rw [if_pos (by decide)]
      refine ⟨g, rfl, JJ.rf, fun j hj => ?_⟩
      rw [h3 j hj]
      by_cases z : 0 < j
      · rw [if_pos z]
      · obtain rfl : j = 0 := by omega
        rw [if_neg z, if_pos rfl, pF, if_pos rfl]
        grind
    | succ m ih =>
      intro n g h1 h2 h3 h4
      obtain ⟨n, rfl⟩ : ∃ q, n = q + 1 := ⟨n - 1, by omega⟩
      rw [q_Mo_few_47L_s]
      unfold q_Mo_few_47
      rw [nI_m1, if_neg (nI_pos (by omega)), gd_nI (by omega) (by omega), gd_nI (by omega) (by omega), wr_e, nI_1, gd_nI (by omega) (by omega), gd_nI (by omega) (by omega), wr_e, nI_clamp (by omega), nI_clamp (by omega), jd_k (by omega), h3 m (by omega), if_neg (by omega), if_neg (by omega)]
      obtain ⟨g', e1, e2, e3⟩ := ih n (sJ (sJ g 394 m (pF cold t m * (10 - cold).toInt64 / 10)) 394 (m + 1) (gJ g 394 (m + 1) + pF cold t m * cold.toInt64 / 10)) (by omega) (by omega) (fun j hj => by
        by_cases z : j = m + 1
        · subst z
          rw [jd_s, if_pos (by omega), h3 (m + 1) hj, if_neg (by omega), if_pos rfl, pF, if_neg (by omega), Nat.add_sub_cancel]
        · rw [jd_k z]
          by_cases y : j = m
          · subst y
            rw [jd_s, if_neg (by omega), if_pos rfl]
          · rw [jd_k y, h3 j hj]
            by_cases x : m + 1 < j
            · rw [if_pos x, if_pos (by omega)]
            · rw [if_neg x, if_neg z, if_neg (by omega), if_neg y]) (fun hm _ => by
        subst hm
        rw [jd_k (by decide), jd_s])
      exact ⟨g', e1, ((JJ.rf.sJ _ _).sJ _ _).tr e2, e3⟩
  obtain ⟨q, rfl⟩ : ∃ q, k = q + 1 := ⟨k - 1, by omega⟩
  have := key (q + 1) FU g (by omega) (Nat.lt_of_le_of_lt hk (by decide)) (fun j hj => by rw [if_neg (by omega), if_neg (by omega)]; exact h j hj) (fun z => by omega)
  rw [nI_pred]
  rw [nI_m1] at this
  exact this
theorem few_m40 (k n : Nat) (hk0 : 0 < k) (hk : k ≤ 20) (hn : n ≤ 99) (cold : Int32) (K : hG → hO Int64) (g : hG) (h : ∀ j, j < k → gJ g 394 j = pF cold 0 j) : ∃ g', q_Mo_few_40L (nI k) (nI n) cold K FU 0 g = K g' ∧ JJ 394 g g' ∧ ∀ j, j < k → gJ g' 394 j = pF cold n j := by
  have key : ∀ (m i f : Nat) (g : hG), i + m = n → m < f → (∀ j, j < k → gJ g 394 j = pF cold i j) → ∃ g', q_Mo_few_40L (nI k) (nI n) cold K f (nI i) g = K g' ∧ JJ 394 g g' ∧ ∀ j, j < k → gJ g' 394 j = pF cold n j := by
    intro m
    induction m with
    | zero =>
      intro i f g h1 h2 h3
      obtain ⟨f, rfl⟩ : ∃ q, f = q + 1 := ⟨f - 1, by omega⟩
      obtain rfl : i = n := by omega
      rw [q_Mo_few_40L_s]
      unfold q_Mo_few_40
      rw [if_pos (nI_le (by omega) (by omega))]
      exact ⟨g, rfl, JJ.rf, h3⟩
    | succ m ih =>
      intro i f g h1 h2 h3
      obtain ⟨f, rfl⟩ : ∃ q, f = q + 1 := ⟨f - 1, by omega⟩
      rw [q_Mo_few_40L_s]
      unfold q_Mo_few_40
      obtain ⟨ga, a1, a2, a3⟩ := few_m47 k hk0 hk cold i (fun g28 => q_Mo_few_40L (nI k) (nI n) cold K f (nI i + 1) g28) g h3
      rw [if_neg (nI_ge (by omega) (by omega)), a1, nI_1]
      obtain ⟨g', e1, e2, e3⟩ := ih (i + 1) f ga (by omega) (by omega) a3
      exact ⟨g', e1, a2.tr e2, e3⟩
  exact key n 0 FU g (by omega) (Nat.lt_of_le_of_lt hn (by decide)) h
theorem few_m89 (k : Nat) (hk : k ≤ 20) (f : Nat → Int64) (g : hG) (h : ∀ j, j < k → gJ g 394 j = f j) : q_Mo_few_89L (nI k) (fun x37 g39 => some (x37, g39)) FU 0 0 g = some (it (fun i acc => acc + f i) 0 k 0, g) := by
  refine for_loop (fun n (b : Int64) i => q_Mo_few_89L (nI k) (fun x37 g39 => some (x37, g39)) n b (nI i) g) (fun b => some (b, g)) (fun i acc => acc + f i) k ?_ ?_ k 0 0 FU (by omega) (Nat.lt_of_le_of_lt hk (by decide))
  · intro n i b hi
    rw [q_Mo_few_89L_s]
    unfold q_Mo_few_89
    rw [if_neg (nI_ge hi (by omega)), gd_nI (by omega) (by omega), nI_clamp (by omega), h i hi, nI_1]
  · intro n b
    rw [q_Mo_few_89L_s]
    unfold q_Mo_few_89
    rw [if_pos (nI_le (by omega) (by omega))]
theorem JJ.un {a : Nat} {g g' : hG} (h : JJ a g g') (q : ∀ k, sX a k = true) : Un sX g g' := fun b k z => by
  refine ⟨by rw [h.1], ?_, by rw [h.2.1]⟩
  by_cases y : b = a
  · subst y; rw [q k] at z; cases z
  · rw [h.2.2 b y]
theorem pF_0 (c : Int32) (j : Nat) : pF c 0 j = pF 0 0 j := rfl
theorem sp_few {g : hG} (h : Inv g) (a b : Int32) : Sp (q_MP_few a b) (q_Mo_few a b) g := by
  by_cases ha : 1 ≤ a ∧ a ≤ 20
  · by_cases hb : 0 ≤ b ∧ b ≤ 99
    · obtain ⟨k, hk', rfl⟩ := nI_of (show ¬ a < 0 by have := ha.1; grind)
      obtain ⟨n, hn', rfl⟩ := nI_of (lt_m1 b hb.1)
      have hk : k ≤ 20 := by have := ha.2; rw [show (20 : Int32) = nI 20 from rfl, nI_leI hk' (by omega)] at this; exact this
      have hk0 : 0 < k := by have := ha.1; rw [show (1 : Int32) = nI 1 from rfl, nI_leI (by omega) hk'] at this; exact this
      have hn : n ≤ 99 := by have := hb.2; rw [show (99 : Int32) = nI 99 from rfl, nI_leI hn' (by omega)] at this; exact this
      have hcold := h.1.1.2.1.2.1
      obtain ⟨g1, a1, a2, a3⟩ := few_c15 k hk (fun g11 => q_MP_few_31L (nI k) (nI n) (fun g17 => q_MP_few_43L (nI k) (fun x20 g22 => some (x20, g22)) FU (0 : Int64) (0 : Int32) g17) FU (0 : Int32) g11) g
      obtain ⟨g2, b1, b2, b3⟩ := few_c31 k n hk0 hk hn (gI g 369 5) (fun g17 => q_MP_few_43L (nI k) (fun x20 g22 => some (x20, g22)) FU (0 : Int64) (0 : Int32) g17) g1 (by rw [a2.1]; exact hcold) (fun j hj => a3 j hj)
      have c1 := few_c43 k hk _ g2 b3
      have u1 : Un sX g g2 := (a2.tr b2).un (fun _ => rfl)
      obtain ⟨g3, d1, d2, d3⟩ := few_m19 (fun g17 => gd (5 : Int32) 5468 <| q_Mo_few_40L (nI k) (nI n) (gI g17 369 (5 : Int32).toNatClampNeg) (fun g34 => q_Mo_few_89L (nI k) (fun x37 g39 => some (x37, g39)) FU (0 : Int64) (0 : Int32) g34) FU (0 : Int32) g17) (sI g2 367 0 0)
      obtain ⟨g4, e1, e2, e3⟩ := few_m40 k n hk0 hk hn (gI g 369 5) (fun g34 => q_Mo_few_89L (nI k) (fun x37 g39 => some (x37, g39)) FU (0 : Int64) (0 : Int32) g34) g3 (fun j hj => d3 j (by omega))
      have f1 := few_m89 k hk _ g4 e3
      refine Sp.q (r := it (fun i acc => acc + pF (gI g 369 5) n i) 0 k 0) (g1 := g2) (g2 := g4) ?_ ?_ (h.un ((u1.tr (Un.rf.sI rfl _)).tr ((d2.tr e2).un (fun _ => rfl))))
      · unfold q_MP_few
        rw [if_neg (show ¬ nI k < 1 by have := ha.1; grind), if_neg (show ¬ 20 < nI k by have := ha.2; grind), if_neg (lt_m1 _ hb.1), if_pos hb.2, a1, b1, c1]
      · unfold q_Mo_few
        rw [wr_e, in_e (nI k) 1 20 1 20 rfl rfl, bnd_s, bI_t ha, if_neg (by decide), in_e (nI n) 0 99 0 99 rfl rfl, bnd_s, bI_t hb, if_neg (by decide), d1, gd_L _ _ (by decide) (by decide), cl_L _ (by decide), show gI g3 369 5 = gI g 369 5 by rw [d2.1, rd_a (by decide), u1.I rfl], e1, f1]
    · refine Sp.q (r := -1) (g1 := g) (g2 := sI g 367 0 0) ?_ ?_ (inv_0 h)
      · unfold q_MP_few
        rw [if_neg (show ¬ a < 1 by have := ha.1; grind), if_neg (show ¬ 20 < a by have := ha.2; grind)]
        by_cases h1 : b < 0
        · rw [if_pos h1]
        · rw [if_neg h1, if_neg]
          intro h2; apply hb; constructor <;> grind
      · unfold q_Mo_few
        rw [wr_e, in_e a 1 20 1 20 rfl rfl, bnd_s, bI_t ha, if_neg (by decide), in_e b 0 99 0 99 rfl rfl, bnd_s, bI_f hb, if_pos rfl]
  · refine Sp.q (r := -1) (g1 := g) (g2 := sI g 367 0 0) ?_ ?_ (inv_0 h)
    · unfold q_MP_few
      by_cases h1 : a < 1
      · rw [if_pos h1]
      · rw [if_neg h1, if_pos]
        apply Classical.byContradiction
        intro h2; apply ha; constructor <;> grind
    · unfold q_Mo_few
      rw [wr_e, in_e a 1 20 1 20 rfl rfl, bnd_s, bI_f ha, if_pos rfl]
