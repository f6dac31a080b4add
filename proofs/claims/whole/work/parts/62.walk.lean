/-! runs of drops alone: they come to an end -/
def cnt (p : Nat → Bool) : Nat → Nat
  | 0 => 0
  | n + 1 => cnt p n + if p n = true then 1 else 0
theorem cnt_le {p q : Nat → Bool} : ∀ n, (∀ i, i < n → p i = true → q i = true) → cnt p n ≤ cnt q n
  | 0, _ => Nat.le_refl _
  | n + 1, h => by
    have := cnt_le n (fun i hi => h i (by omega))
    have h1 := h n (by omega)
    unfold cnt
    by_cases a : p n = true
    · rw [if_pos a, if_pos (h1 a)]; omega
    · rw [if_neg a]; split <;> omega
theorem cnt_lt {p q : Nat → Bool} : ∀ n, (∀ i, i < n → p i = true → q i = true) → ∀ x, x < n → q x = true → ¬ p x = true → cnt p n < cnt q n
  | 0, _, x, hx, _, _ => by omega
  | n + 1, h, x, hx, a, b => by
    unfold cnt
    by_cases z : x = n
    · subst z
      have := cnt_le x (fun i hi => h i (by omega))
      rw [if_neg b, if_pos a]; omega
    · have := cnt_lt n (fun i hi => h i (by omega)) x (by omega) a b
      have h1 := h n (by omega)
      by_cases c : p n = true
      · rw [if_pos c, if_pos (h1 c)]; omega
      · rw [if_neg c]; split <;> omega
theorem cnt_n : ∀ n, cnt (fun _ => true) n = n
  | 0 => rfl
  | n + 1 => by unfold cnt; rw [cnt_n n, if_pos rfl]
/-- a way that falls -/
def Fall (S : Nat → Int32) (nx : Nat → Nat) : Prop := ∀ c, c < 25 → nx c < 25 ∧ (nx c ≠ c → S (nx c) < S c)
def rk (S : Nat → Int32) (c : Nat) : Nat := cnt (fun d => decide (S d < S c)) 25
theorem rk_lt {S : Nat → Int32} (c : Nat) (hc : c < 25) : rk S c < 25 := by
  have := cnt_lt (p := fun d => decide (S d < S c)) (q := fun _ => true) 25 (fun _ _ _ => rfl) c hc rfl (by simp [Int32.lt_irrefl])
  rw [cnt_n] at this
  exact this
theorem rk_fall {S : Nat → Int32} {a b : Nat} (ha : a < 25) (h : S a < S b) : rk S a < rk S b :=
  cnt_lt 25 (fun i _ hi => by simp at hi ⊢; exact Int32.lt_trans hi h) a ha (by simpa using h) (by simp [Int32.lt_irrefl])
/-- hours to the end, the end, the place behind i hours -/
def hF (nx : Nat → Nat) : Nat → Nat → Nat
  | 0, _ => 0
  | f + 1, c => if nx c = c then 0 else hF nx f (nx c) + 1
def eF (nx : Nat → Nat) : Nat → Nat → Nat
  | 0, c => c
  | f + 1, c => if nx c = c then c else eF nx f (nx c)
theorem hF_in {S : Nat → Int32} {nx : Nat → Nat} (h : Fall S nx) : ∀ f c, c < 25 → rk S c < f → hF nx f c ≤ rk S c ∧ hF nx (f + 1) c = hF nx f c ∧ eF nx (f + 1) c = eF nx f c ∧ eF nx f c < 25 ∧ nx (eF nx f c) = eF nx f c
  | 0, c, _, hr => by omega
  | f + 1, c, hc, hr => by
    by_cases z : nx c = c
    · refine ⟨?_, ?_, ?_, ?_, ?_⟩
      · rw [hF, if_pos z]; omega
      · rw [hF, if_pos z, hF, if_pos z]
      · rw [eF, if_pos z, eF, if_pos z]
      · rw [eF, if_pos z]; exact hc
      · rw [eF, if_pos z]; exact z
    · obtain ⟨n1, n2⟩ := h c hc
      have r1 := rk_fall n1 (n2 z)
      obtain ⟨i1, i2, i3, i4, i5⟩ := hF_in h f (nx c) n1 (by omega)
      refine ⟨?_, ?_, ?_, ?_, ?_⟩
      · rw [hF, if_neg z]; omega
      · rw [hF, if_neg z, i2, hF, if_neg z]
      · rw [eF, if_neg z, i3, eF, if_neg z]
      · rw [eF, if_neg z]; exact i4
      · rw [eF, if_neg z]; exact i5
theorem hF_big {S : Nat → Int32} {nx : Nat → Nat} (h : Fall S nx) {c : Nat} (hc : c < 25) : ∀ k, hF nx (25 + k) c = hF nx 25 c ∧ eF nx (25 + k) c = eF nx 25 c
  | 0 => ⟨rfl, rfl⟩
  | k + 1 => by
    obtain ⟨i1, i2⟩ := hF_big h hc k
    obtain ⟨-, j2, j3, -, -⟩ := hF_in h (25 + k) c hc (Nat.lt_of_lt_of_le (rk_lt c hc) (by omega))
    exact ⟨by rw [← Nat.add_assoc, j2, i1], by rw [← Nat.add_assoc, j3, i2]⟩
/-- the place behind i hours: i steps, or the end -/
def plc (nx : Nat → Nat) : Nat → Nat → Nat
  | 0, c => c
  | i + 1, c => if nx c = c then c else plc nx i (nx c)
theorem plc_eF (nx : Nat → Nat) : ∀ i c, plc nx i c = eF nx i c
  | 0, _ => rfl
  | i + 1, c => by unfold plc eF; rw [plc_eF nx i]
theorem rnF_fall (S : Nat → Int32) {c : Nat} (hc : c < 25) : rnF S c = nI c ∨ ∃ d, d < 25 ∧ rnF S c = nI d ∧ S d < S c := by
  unfold rnF
  refine it_inv _ (fun _ b => b = nI c ∨ ∃ d, d < 25 ∧ b = nI d ∧ S d < S c) 4 (fun i b hi hb => ?_) 4 0 (nI c) rfl (Or.inl rfl)
  rcases bs_in c hc i hi with e | ⟨d, hd, e⟩
  · rw [if_pos e]; exact hb
  · rw [if_neg (by rw [e]; exact fun q => by have := nI_pos' (show d < 2 ^ 31 by omega); rw [q] at this; exact absurd this (by decide)), e, nI_clamp (by omega)]
    by_cases q : S b.toNatClampNeg ≤ S d
    · rw [if_pos q]; exact hb
    · rw [if_neg q]
      right
      refine ⟨d, hd, rfl, ?_⟩
      have q' : S d < S b.toNatClampNeg := Int32.not_le.mp q
      rcases hb with rfl | ⟨d', hd', rfl, hl⟩
      · rw [nI_clamp (by omega)] at q'; exact q'
      · rw [nI_clamp (by omega)] at q'; exact Int32.lt_trans q' hl
/-- the next cell as a number -/
def nxN (D : Int32) (S : Nat → Int32) (H : Nat → Bool) (c : Nat) : Nat := (nextF D S H c).toNatClampNeg
theorem nxN_e (D : Int32) (S : Nat → Int32) (H : Nat → Bool) {c : Nat} (hc : c < 25) : nextF D S H c = nI (nxN D S H c) ∧ nxN D S H c < 25 := by
  obtain ⟨d, hd, e⟩ := nextF_in D S H hc
  unfold nxN
  rw [e, nI_clamp (by omega)]
  exact ⟨rfl, hd⟩
theorem nxN_fall (D : Int32) (S : Nat → Int32) (H : Nat → Bool) : Fall S (nxN D S H) := by
  intro c hc
  refine ⟨(nxN_e D S H hc).2, fun ne => ?_⟩
  unfold nxN nextF at *
  by_cases h1 : bt D (nI c)
  · rw [if_pos h1, nI_clamp (by omega)] at ne; exact absurd rfl ne
  · rw [if_neg h1] at ne ⊢
    by_cases h2 : H c = true
    · rw [if_pos h2, nI_clamp (by omega)] at ne; exact absurd rfl ne
    · rw [if_neg h2] at ne ⊢
      rcases rnF_fall S hc with e | ⟨d, hd, e, hl⟩
      · rw [e, nI_clamp (by omega)] at ne; exact absurd rfl ne
      · rw [e, nI_clamp (by omega)]; exact hl
