/-! apart: who ever meets -/
theorem cnt_mono (p : Nat → Bool) {m : Nat} : ∀ k, cnt p m ≤ cnt p (m + k)
  | 0 => Nat.le_refl _
  | k + 1 => by
    have := cnt_mono p (m := m) k
    show _ ≤ cnt p (m + k) + _
    omega
theorem cnt_mono' (p : Nat → Bool) {m n : Nat} (h : m ≤ n) : cnt p m ≤ cnt p n := by
  have := cnt_mono p (m := m) (n - m)
  rw [show m + (n - m) = n by omega] at this
  exact this
theorem cnt_s (p : Nat → Bool) (n : Nat) : cnt p (n + 1) = cnt p n + if p n = true then 1 else 0 := rfl
theorem cnt_in (p : Nat → Bool) {m n : Nat} (h : m < n) (hp : p m = true) : cnt p m < cnt p n := by
  have := cnt_mono' p (m := m + 1) (n := n) (by omega)
  rw [cnt_s, if_pos hp] at this
  omega
theorem cnt_sur (p : Nat → Bool) : ∀ m k, k < cnt p m → ∃ c, c < m ∧ p c = true ∧ cnt p c = k
  | 0, k, h => absurd h (Nat.not_lt_zero _)
  | m + 1, k, h => by
    by_cases z : k < cnt p m
    · obtain ⟨c, h1, h2, h3⟩ := cnt_sur p m k z
      exact ⟨c, by omega, h2, h3⟩
    · rw [cnt_s] at h
      by_cases y : p m = true
      · rw [if_pos y] at h
        exact ⟨m, by omega, y, by omega⟩
      · rw [if_neg y] at h; omega
theorem cnt_1 {R : Nat → Bool} : ∀ n, (∀ i j, i < j → j < n → R i = true → R j = true → False) → cnt R n ≤ 1
  | 0, _ => Nat.zero_le _
  | n + 1, h => by
    have h1 := cnt_1 n (fun i j a b => h i j a (by omega))
    unfold cnt
    by_cases y : R n = true
    · rw [if_pos y]
      by_cases z : cnt R n = 0
      · omega
      · obtain ⟨c, c1, c2, -⟩ := cnt_sur R n 0 (by omega)
        exact absurd (h c n c1 (by omega) c2 y) id
    · rw [if_neg y]; omega
theorem cnt_split {P R Q : Nat → Bool} : ∀ n, (∀ i, i < n → P i = true → R i = true ∨ Q i = true) → cnt P n ≤ cnt R n + cnt Q n
  | 0, _ => Nat.zero_le _
  | n + 1, h => by
    have h1 := cnt_split (P := P) (R := R) (Q := Q) n (fun i a => h i (by omega))
    unfold cnt
    by_cases y : P n = true
    · rw [if_pos y]
      rcases h n (by omega) y with z | z
      · rw [if_pos z]; omega
      · rw [if_pos z]; omega
    · rw [if_neg y]; omega
/-- few kinds hold few that keep apart -/
theorem pig (q : Nat → Nat) (n : Nat) : ∀ (M : Nat) (P : Nat → Bool), (∀ i, i < n → P i = true → q i < M) → (∀ i j, i < j → j < n → P i = true → P j = true → q i ≠ q j) → cnt P n ≤ M := by
  intro M
  induction M with
  | zero =>
    intro P h1 h2
    by_cases z : cnt P n = 0
    · omega
    · obtain ⟨c, c1, c2, -⟩ := cnt_sur P n 0 (by omega)
      exact absurd (h1 c c1 c2) (Nat.not_lt_zero _)
  | succ M ih =>
    intro P h1 h2
    have a := ih (fun i => P i && decide (q i < M)) (fun i _ hp => by rw [Bool.and_eq_true] at hp; exact of_decide_eq_true hp.2) (fun i j a b hp hr => by rw [Bool.and_eq_true] at hp hr; exact h2 i j a b hp.1 hr.1)
    have b : cnt (fun i => P i && decide (q i = M)) n ≤ 1 := cnt_1 n (fun i j a b hp hr => by
      rw [Bool.and_eq_true] at hp hr
      exact h2 i j a b hp.1 hr.1 ((of_decide_eq_true hp.2).trans (of_decide_eq_true hr.2).symm))
    have c := cnt_split (P := P) (R := fun i => P i && decide (q i < M)) (Q := fun i => P i && decide (q i = M)) n (fun i hi hp => by
      have := h1 i hi hp
      by_cases z : q i = M
      · right; rw [hp, decide_eq_true z]; rfl
      · left; rw [hp, decide_eq_true (show q i < M by omega)]; rfl)
    omega
section ME
variable {S : Nat → Int32} {nx : Nat → Nat} {D : Int32}
theorem eF_fix {c : Nat} (h : nx c = c) : ∀ m, eF nx m c = c
  | 0 => rfl
  | m + 1 => by rw [eF, if_pos h]
theorem eF_add (b : Nat) : ∀ a c, eF nx (a + b) c = eF nx b (eF nx a c)
  | 0, c => by rw [Nat.zero_add]; rfl
  | a + 1, c => by
    rw [show a + 1 + b = a + b + 1 by omega, eF, eF]
    by_cases z : nx c = c
    · rw [if_pos z, if_pos z, eF_fix z]
    · rw [if_neg z, if_neg z, eF_add b a (nx c)]
theorem hF_add (h : Fall S nx) : ∀ v c, c < 25 → v ≤ hF nx 25 c → hF nx 25 c = v + hF nx 25 (eF nx v c)
  | 0, c, _, _ => by rw [Nat.zero_add]; rfl
  | v + 1, c, hc, hv => by
    have e := (hF_big h hc 1).1
    rw [show 25 + 1 = 25 + 1 from rfl, hF] at e
    by_cases z : nx c = c
    · rw [if_pos z] at e; omega
    · rw [if_neg z] at e
      have i := hF_add h v (nx c) (h c hc).1 (by omega)
      rw [eF, if_neg z]
      omega
theorem eF_end (h : Fall S nx) {c : Nat} (hc : c < 25) (v : Nat) : eF nx 25 (eF nx v c) = eF nx 25 c := by
  rw [← eF_add, Nat.add_comm, (hF_big h hc v).2]
theorem eF_hF (h : Fall S nx) {c : Nat} (hc : c < 25) : eF nx (hF nx 25 c) c = eF nx 25 c := by
  have e := hF_add h _ c hc (Nat.le_refl _)
  have z : hF nx 25 (eF nx (hF nx 25 c) c) = 0 := by omega
  have y : nx (eF nx (hF nx 25 c) c) = eF nx (hF nx 25 c) c := by
    by_cases q : nx (eF nx (hF nx 25 c) c) = eF nx (hF nx 25 c) c
    · exact q
    · rw [hF, if_neg q] at z; omega
  rw [← eF_end h hc (hF nx 25 c), eF_fix y]
/-- by its end, and at a door by its hours: who agrees in it meets -/
def ky (D : Int32) (nx : Nat → Nat) (c : Nat) : Nat := 32 * eF nx 25 c + (if bt D (nI (eF nx 25 c)) then hF nx 25 c else 0)
theorem meet_iff (h : Fall S nx) {c e : Nat} (hc : c < 25) (he : e < 25) : exB (clQ D nx c e 0) 0 26 = true ↔ ky D nx c = ky D nx e := by
  have x0 := hF_25 h hc
  have x1 := hF_25 h he
  rw [exB_iff]
  constructor
  · rintro ⟨v, -, v2, q⟩
    unfold clQ at q
    rw [Nat.add_zero, Bool.and_eq_true, Bool.and_eq_true, Bool.not_eq_true', Bool.not_eq_true'] at q
    obtain ⟨⟨q1, q2⟩, q3⟩ := q
    have q3 := of_decide_eq_true q3
    have en : eF nx 25 c = eF nx 25 e := by rw [← eF_end h hc v, q3, eF_end h he v]
    unfold ky
    rw [en]
    by_cases z : bt D (nI (eF nx 25 e))
    · have y1 : v ≤ hF nx 25 c := by
        by_cases y : v ≤ hF nx 25 c
        · exact y
        · rw [goneQ_t (by omega) (by rw [en]; exact z)] at q1; cases q1
      have y2 : v ≤ hF nx 25 e := by
        by_cases y : v ≤ hF nx 25 e
        · exact y
        · rw [goneQ_t (by omega) z] at q2; cases q2
      have a1 := hF_add h v c hc y1
      have a2 := hF_add h v e he y2
      rw [q3] at a1
      rw [if_pos z, if_pos z]
      omega
    · rw [if_neg z, if_neg z]
  · intro q
    unfold ky at q
    have en : eF nx 25 c = eF nx 25 e := by
      have a1 : (if bt D (nI (eF nx 25 c)) then hF nx 25 c else 0) < 32 := by split <;> omega
      have a2 : (if bt D (nI (eF nx 25 e)) then hF nx 25 e else 0) < 32 := by split <;> omega
      generalize (if bt D (nI (eF nx 25 c)) then hF nx 25 c else 0) = u1 at *
      generalize (if bt D (nI (eF nx 25 e)) then hF nx 25 e else 0) = u2 at *
      omega
    rw [en] at q
    by_cases z : bt D (nI (eF nx 25 e))
    · rw [if_pos z, if_pos z] at q
      refine ⟨hF nx 25 e, by omega, by omega, ?_⟩
      unfold clQ
      rw [Nat.add_zero, Bool.eq_false_iff.mpr (goneQ_f (c := c) (m := hF nx 25 e) (D := D) (nx := nx) (by omega)), Bool.eq_false_iff.mpr (goneQ_f (c := e) (m := hF nx 25 e) (D := D) (nx := nx) (by omega)), eF_hF h he, show hF nx 25 e = hF nx 25 c by omega, eF_hF h hc, en]
      simp
    · refine ⟨25, by omega, by omega, ?_⟩
      unfold clQ
      rw [Nat.add_zero, Bool.eq_false_iff.mpr (goneQ_f (c := c) (m := 25) (D := D) (nx := nx) (fun y => z (en ▸ y.2))), Bool.eq_false_iff.mpr (goneQ_f (c := e) (m := 25) (D := D) (nx := nx) (fun y => z y.2)), en]
      simp
end ME
/-! kinds: of each, how many ahead of it meet it -/
def kd (κ : Nat → Nat) (i : Nat) : Nat := cnt (fun j => decide (κ j = κ i)) i
theorem kd_lt {κ : Nat → Nat} {i j : Nat} (h : j < i) (e : κ j = κ i) : kd κ j < kd κ i := by
  unfold kd
  rw [e]
  exact cnt_in _ h (decide_eq_true e)
theorem kd_ex {κ : Nat → Nat} {i a : Nat} (h : a < kd κ i) : ∃ j, j < i ∧ κ j = κ i ∧ kd κ j = a := by
  obtain ⟨c, c1, c2, c3⟩ := cnt_sur _ i a h
  have e := of_decide_eq_true c2
  refine ⟨c, c1, e, ?_⟩
  unfold kd
  rw [e]
  exact c3
theorem cnt_m (p : Nat → Bool) : ∀ m, cnt p m ≤ m
  | 0 => Nat.le_refl _
  | m + 1 => by
    have := cnt_m p m
    unfold cnt
    split <;> omega
theorem kd_le (κ : Nat → Nat) (i : Nat) : kd κ i ≤ i := cnt_m _ i
/-- that many kinds do not do -/
theorem kd_no {κ q : Nat → Nat} {n M i : Nat} (hi : i < n) (hM : M ≤ kd κ i) (h1 : ∀ j, j < n → q j < M) (h2 : ∀ j k, j < k → k < n → κ j = κ k → q j ≠ q k) : False := by
  have a := pig q (i + 1) M (fun j => decide (κ j = κ i)) (fun j hj _ => h1 j (by omega)) (fun j k hj hk p1 p2 => h2 j k hj (by omega) ((of_decide_eq_true p1).trans (of_decide_eq_true p2).symm))
  rw [cnt_s, if_pos (decide_eq_true rfl)] at a
  unfold kd at hM
  omega
/-- a set's members in order -/
theorem memb (A : Nat → Bool) : ∀ m, ∃ x : Nat → Nat, ∀ c, c < m → A c = true → x (cnt A c) = c
  | 0 => ⟨fun _ => 0, fun c hc => absurd hc (Nat.not_lt_zero _)⟩
  | m + 1 => by
    obtain ⟨x, hx⟩ := memb A m
    by_cases z : A m = true
    · refine ⟨fun k => if k = cnt A m then m else x k, fun c hc hA => ?_⟩
      by_cases y : c = m
      · subst y; exact if_pos rfl
      · have := cnt_in A (show c < m by omega) hA
        dsimp only
        rw [if_neg (by omega)]
        exact hx c (by omega) hA
    · exact ⟨x, fun c hc hA => hx c (by
        by_cases y : c = m
        · subst y; exact absurd hA z
        · omega) hA⟩
theorem mx_snoc (Q : Nat → Nat) : ∀ (m i acc : Nat), mx Q (m + 1) i acc = if mx Q m i acc < Q (i + m) then Q (i + m) else mx Q m i acc
  | 0, i, acc => rfl
  | m + 1, i, acc => by
    rw [mx, mx_snoc Q m (i + 1), mx, show i + 1 + m = i + (m + 1) by omega]
