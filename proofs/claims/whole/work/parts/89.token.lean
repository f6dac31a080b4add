/-! texts: bytes and tokens -/
def smB (b : Nat) : Bool := decide (97 ≤ b ∧ b ≤ 122)
def dgB (b : Nat) : Bool := decide (48 ≤ b ∧ b ≤ 57)
theorem smB_i {b : Nat} : smB b = true ↔ 97 ≤ b ∧ b ≤ 122 := decide_eq_true_iff
theorem dgB_i {b : Nat} : dgB b = true ↔ 48 ≤ b ∧ b ≤ 57 := decide_eq_true_iff
/-- of one row with that ahead -/
def goB (B : Nat → Nat) (p : Nat) : Bool := decide (p ≠ 0) && ((smB (B p) && smB (B (p - 1))) || (dgB (B p) && dgB (B (p - 1))))
theorem goB_i {B : Nat → Nat} {p : Nat} : goB B p = true ↔ p ≠ 0 ∧ ((smB (B p) = true ∧ smB (B (p - 1)) = true) ∨ (dgB (B p) = true ∧ dgB (B (p - 1)) = true)) := by
  unfold goB
  rw [Bool.and_eq_true, Bool.or_eq_true, Bool.and_eq_true, Bool.and_eq_true, decide_eq_true_iff]
def stB (B : Nat → Nat) (p : Nat) : Bool := decide (B p ≠ 32) && !goB B p
theorem stB_i {B : Nat → Nat} {p : Nat} : stB B p = true ↔ B p ≠ 32 ∧ ¬ goB B p = true := by
  unfold stB
  rw [Bool.and_eq_true, decide_eq_true_iff, Bool.not_eq_true', Bool.not_eq_true]
def eR (B : Nat → Nat) : Nat → Nat → Nat
  | 0, q => q
  | m + 1, q => if goB B q = true then eR B m (q + 1) else q
theorem eR_p (B : Nat → Nat) : ∀ m q, q ≤ eR B m q ∧ eR B m q ≤ q + m ∧ (∀ x, q ≤ x → x < eR B m q → goB B x = true) ∧ (eR B m q < q + m → ¬ goB B (eR B m q) = true)
  | 0, q => by
    unfold eR
    exact ⟨Nat.le_refl _, Nat.le_refl _, fun x h1 h2 => by omega, fun h => by omega⟩
  | m + 1, q => by
    unfold eR
    by_cases z : goB B q = true
    · rw [if_pos z]
      obtain ⟨h1, h2, h3, h4⟩ := eR_p B m (q + 1)
      refine ⟨by omega, by omega, fun x x1 x2 => ?_, fun h => h4 (by omega)⟩
      by_cases y : x = q
      · rw [y]; exact z
      · exact h3 x (by omega) x2
    · rw [if_neg z]
      exact ⟨Nat.le_refl _, by omega, fun x h1 h2 => by omega, fun _ => z⟩
/-- a row's end -/
def eE (B : Nat → Nat) (n p : Nat) : Nat := eR B (n - (p + 1)) (p + 1)
theorem eE_p (B : Nat → Nat) {n p : Nat} (h : p < n) : p < eE B n p ∧ eE B n p ≤ n ∧ (∀ x, p < x → x < eE B n p → goB B x = true) ∧ (eE B n p < n → ¬ goB B (eE B n p) = true) := by
  obtain ⟨h1, h2, h3, h4⟩ := eR_p B (n - (p + 1)) (p + 1)
  unfold eE
  exact ⟨by omega, by omega, fun x a b => h3 x (by omega) b, fun a => h4 (by omega)⟩
def nR (B : Nat → Nat) : Nat → Nat → Nat
  | 0, q => q
  | m + 1, q => if B q = 32 then nR B m (q + 1) else q
theorem nR_p (B : Nat → Nat) : ∀ m q, q ≤ nR B m q ∧ nR B m q ≤ q + m ∧ (∀ x, q ≤ x → x < nR B m q → B x = 32) ∧ (nR B m q < q + m → ¬ B (nR B m q) = 32)
  | 0, q => by
    unfold nR
    exact ⟨Nat.le_refl _, Nat.le_refl _, fun x h1 h2 => by omega, fun h => by omega⟩
  | m + 1, q => by
    unfold nR
    by_cases z : B q = 32
    · rw [if_pos z]
      obtain ⟨h1, h2, h3, h4⟩ := nR_p B m (q + 1)
      refine ⟨by omega, by omega, fun x x1 x2 => ?_, fun h => h4 (by omega)⟩
      by_cases y : x = q
      · rw [y]; exact z
      · exact h3 x (by omega) x2
    · rw [if_neg z]
      exact ⟨Nat.le_refl _, by omega, fun x h1 h2 => by omega, fun _ => z⟩
/-- the first that is no blank -/
def nb (B : Nat → Nat) (n q : Nat) : Nat := nR B (n - q) q
theorem nb_p (B : Nat → Nat) {n q : Nat} (h : q ≤ n) : q ≤ nb B n q ∧ nb B n q ≤ n ∧ (∀ x, q ≤ x → x < nb B n q → B x = 32) ∧ (nb B n q < n → ¬ B (nb B n q) = 32) := by
  obtain ⟨h1, h2, h3, h4⟩ := nR_p B (n - q) q
  unfold nb
  exact ⟨h1, by omega, h3, fun a => h4 (by omega)⟩
def nx (B : Nat → Nat) (n p : Nat) : Nat := if p < n then nb B n (eE B n p) else n
/-- where a token begins, or the end -/
def Tk (B : Nat → Nat) (n p : Nat) : Prop := p = n ∨ (p < n ∧ stB B p = true)
theorem cnt_gap (P : Nat → Bool) {a : Nat} : ∀ k, (∀ x, a ≤ x → x < a + k → ¬ P x = true) → cnt P (a + k) = cnt P a
  | 0, _ => rfl
  | k + 1, h => by
    rw [← Nat.add_assoc, cnt_s, if_neg (h (a + k) (by omega) (by omega)), cnt_gap P k (fun x h1 h2 => h x h1 (by omega)), Nat.add_zero]
theorem cnt_gap' (P : Nat → Bool) {a b : Nat} (hab : a ≤ b) (h : ∀ x, a ≤ x → x < b → ¬ P x = true) : cnt P b = cnt P a := by
  have := cnt_gap P (a := a) (b - a) (fun x h1 h2 => h x h1 (by omega))
  rw [show a + (b - a) = b by omega] at this
  exact this
theorem blank_go {B : Nat → Nat} {p : Nat} (h : B (p - 1) = 32) : ¬ goB B p = true := fun q => by
  obtain ⟨-, q | q⟩ := goB_i.mp q
  · have := smB_i.mp q.2; omega
  · have := dgB_i.mp q.2; omega
theorem st_no {B : Nat → Nat} {p : Nat} (h : B p = 32 ∨ goB B p = true) : ¬ stB B p = true := fun q => by
  obtain ⟨q1, q2⟩ := stB_i.mp q
  rcases h with h | h
  · exact q1 h
  · exact q2 h
theorem tk_0 (B : Nat → Nat) (n : Nat) : Tk B n (nb B n 0) ∧ cnt (stB B) (nb B n 0) = 0 := by
  obtain ⟨h1, h2, h3, h4⟩ := nb_p B (n := n) (q := 0) (by omega)
  refine ⟨?_, ?_⟩
  · by_cases z : nb B n 0 = n
    · exact Or.inl z
    · refine Or.inr ⟨by omega, stB_i.mpr ⟨h4 (by omega), ?_⟩⟩
      by_cases y : nb B n 0 = 0
      · rw [y]; exact fun q => (goB_i.mp q).1 rfl
      · exact blank_go (h3 _ (by omega) (by omega))
  · rw [cnt_gap' (stB B) (a := 0) (by omega) (fun x a b => st_no (Or.inl (h3 x a b)))]
    rfl
theorem tk_n {B : Nat → Nat} {n p : Nat} (h : p < n) (hs : stB B p = true) : Tk B n (nx B n p) ∧ cnt (stB B) (nx B n p) = cnt (stB B) p + 1 ∧ p < nx B n p ∧ nx B n p ≤ n := by
  obtain ⟨e1, e2, e3, e4⟩ := eE_p B h
  obtain ⟨h1, h2, h3, h4⟩ := nb_p B (n := n) (q := eE B n p) e2
  unfold nx
  rw [if_pos h]
  refine ⟨?_, ?_, by omega, h2⟩
  · by_cases z : nb B n (eE B n p) = n
    · exact Or.inl z
    · refine Or.inr ⟨by omega, stB_i.mpr ⟨h4 (by omega), ?_⟩⟩
      by_cases y : nb B n (eE B n p) = eE B n p
      · rw [y]; exact e4 (by omega)
      · exact blank_go (h3 _ (by omega) (by omega))
  · rw [cnt_gap' (stB B) (a := p + 1) (by omega) (fun x a b => st_no (by
      by_cases y : x < eE B n p
      · exact Or.inr (e3 x (by omega) y)
      · exact Or.inl (h3 x (by omega) b)))]
    rw [cnt_s, if_pos hs]
/-! words and numbers -/
def hsh (f : Nat → Nat) : Nat → Nat
  | 0 => 0
  | k + 1 => hsh f k * 32 + f k
def cv (f : Nat → Nat) : Nat → Nat
  | 0 => 0
  | k + 1 => min (cv f k * 10 + f k) 1001
def nv (f : Nat → Nat) : Nat → Nat
  | 0 => 0
  | k + 1 => if nv f k ≤ 1000000 then nv f k * 10 + f k else nv f k
theorem hsh_in (f f' : Nat → Nat) : ∀ L L', (∀ j, j < L → 1 ≤ f j ∧ f j < 32) → (∀ j, j < L' → 1 ≤ f' j ∧ f' j < 32) → hsh f L = hsh f' L' → L = L' ∧ ∀ j, j < L → f j = f' j
  | 0, 0, _, _, _ => ⟨rfl, fun j hj => absurd hj (Nat.not_lt_zero _)⟩
  | 0, L' + 1, _, h2, h => by
    have := h2 L' (by omega)
    unfold hsh at h
    omega
  | L + 1, 0, h1, _, h => by
    have := h1 L (by omega)
    unfold hsh at h
    omega
  | L + 1, L' + 1, h1, h2, h => by
    have a := h1 L (by omega)
    have b := h2 L' (by omega)
    rw [hsh, hsh] at h
    have e : hsh f L = hsh f' L' := by omega
    obtain ⟨e1, e2⟩ := hsh_in f f' L L' (fun j hj => h1 j (by omega)) (fun j hj => h2 j (by omega)) e
    subst e1
    refine ⟨rfl, fun j hj => ?_⟩
    by_cases z : j = L
    · subst z; omega
    · exact e2 j (by omega)
theorem hsh_lt (f : Nat → Nat) : ∀ L, (∀ j, j < L → f j < 32) → hsh f L < 32 ^ L
  | 0, _ => by unfold hsh; omega
  | L + 1, h => by
    have a := hsh_lt f L (fun j hj => h j (by omega))
    have b := h L (by omega)
    rw [hsh, Nat.pow_succ]
    omega
theorem cv_nv (f : Nat → Nat) : ∀ k, cv f k = min (nv f k) 1001
  | 0 => rfl
  | k + 1 => by
    rw [cv, nv, cv_nv f k]
    by_cases z : nv f k ≤ 1000000
    · rw [if_pos z]; omega
    · rw [if_neg z]; omega
theorem nv_lt (f : Nat → Nat) : ∀ k, (∀ j, j < k → f j < 10) → nv f k < 20000000
  | 0, _ => by unfold nv; omega
  | k + 1, h => by
    have a := nv_lt f k (fun j hj => h j (by omega))
    have b := h k (by omega)
    rw [nv]
    by_cases z : nv f k ≤ 1000000
    · rw [if_pos z]; omega
    · rw [if_neg z]; omega
def WD : List (List Nat) := [[19, 20, 1, 14, 4, 19], [8, 15, 12, 4, 19], [9, 6], [15, 18], [1, 14, 4], [14, 15, 20], [19, 16, 9, 12, 12], [1, 20], [18, 1, 9, 19, 5], [20, 15], [19, 16, 12, 9, 20], [2, 25], [16, 1, 19, 19], [20, 9, 13, 5, 19], [24], [25], [8, 9, 7, 8], [13, 1, 14, 25], [8, 15, 21, 18], [3, 15, 12, 4], [13, 15, 15, 4], [4, 15, 14, 5], [12, 1, 20, 5, 19, 20], [12, 5, 6, 20], [18, 5, 1, 4]]
def wN (i : Nat) : Nat := (WD.getD i []).length
def wC (i j : Nat) : Nat := (WD.getD i []).getD j 0
theorem wd_ok : ∀ i, i < 25 → wN i ≤ 6 ∧ ∀ j, j < 6 → j < wN i → 1 ≤ wC i j ∧ wC i j < 27 := by decide +kernel
theorem wd_ne : ∀ i, i < 25 → ∀ k, k < 25 → hsh (wC i) (wN i) = hsh (wC k) (wN k) → i = k := by decide +kernel
theorem wd_str : ∀ i, i < 25 → shr (Int32.ofNat (strL.getD (100000 + i + 100000 - 200000) []).length) 0 = nI (wN i) ∧ (strL.getD (100000 + i + 100000 - 200000) []).length = wN i ∧ ∀ j, j < 6 → j < wN i → ((strL.getD (100000 + i + 100000 - 200000) []).getD j 0) &&& (255 : Int32) = nI (96 + wC i j) := by decide +kernel
/-- the i-th word lies there -/
def isW (B : Nat → Nat) (p e i : Nat) : Bool := decide (e - p = wN i) && allB (fun j => decide (B (p + j) = 96 + wC i j)) 0 (wN i)
theorem isW_i {B : Nat → Nat} {p e i : Nat} : isW B p e i = true ↔ e - p = wN i ∧ ∀ j, j < wN i → B (p + j) = 96 + wC i j := by
  unfold isW
  rw [Bool.and_eq_true, decide_eq_true_iff, allB_iff]
  exact ⟨fun h => ⟨h.1, fun j hj => of_decide_eq_true (h.2 j (by omega) (by omega))⟩, fun h => ⟨h.1, fun j _ hj => decide_eq_true (h.2 j (by omega))⟩⟩
theorem isW_h {B : Nat → Nat} {p e i : Nat} (hi : i < 25) (hs : ∀ j, j < e - p → smB (B (p + j)) = true) : isW B p e i = true ↔ hsh (fun j => B (p + j) - 96) (e - p) = hsh (wC i) (wN i) := by
  obtain ⟨w1, w2⟩ := wd_ok i hi
  rw [isW_i]
  constructor
  · rintro ⟨h1, h2⟩
    rw [h1]
    have : ∀ k, k ≤ wN i → hsh (fun j => B (p + j) - 96) k = hsh (wC i) k := by
      intro k
      induction k with
      | zero => intro _; rfl
      | succ k ih =>
        intro hk
        rw [hsh, hsh, ih (by omega), h2 k (by omega)]
        omega
    exact this _ (Nat.le_refl _)
  · intro h
    obtain ⟨e1, e2⟩ := hsh_in _ _ _ _ (fun j hj => by have := smB_i.mp (hs j hj); omega) (fun j hj => by have := w2 j (by omega) hj; omega) h
    refine ⟨e1, fun j hj => ?_⟩
    have a := e2 j (by omega)
    have b := smB_i.mp (hs j (by omega))
    omega
theorem isW_1 {B : Nat → Nat} {p e i k : Nat} (hi : i < 25) (hk : k < 25) (hs : ∀ j, j < e - p → smB (B (p + j)) = true) (h1 : isW B p e i = true) (h2 : isW B p e k = true) : i = k :=
  wd_ne i hi k hk (((isW_h hi hs).mp h1).symm.trans ((isW_h hk hs).mp h2))
def wR (Q : Nat → Bool) : Nat → Nat → Nat
  | 0, _ => 3000
  | m + 1, i => if Q i = true then 3001 + i else wR Q m (i + 1)
theorem wR_p (Q : Nat → Bool) : ∀ m i, (wR Q m i = 3000 ∧ ∀ j, i ≤ j → j < i + m → ¬ Q j = true) ∨ ∃ j, i ≤ j ∧ j < i + m ∧ Q j = true ∧ wR Q m i = 3001 + j
  | 0, i => Or.inl ⟨rfl, fun j h1 h2 => by omega⟩
  | m + 1, i => by
    unfold wR
    by_cases z : Q i = true
    · rw [if_pos z]; exact Or.inr ⟨i, by omega, by omega, z, rfl⟩
    · rw [if_neg z]
      rcases wR_p Q m (i + 1) with ⟨h1, h2⟩ | ⟨j, h1, h2, h3, h4⟩
      · refine Or.inl ⟨h1, fun j a b => ?_⟩
        by_cases y : j = i
        · rw [y]; exact z
        · exact h2 j (by omega) (by omega)
      · exact Or.inr ⟨j, by omega, by omega, h3, h4⟩
/-- a token as a number -/
def tkF (B : Nat → Nat) (n p : Nat) : Nat := if n ≤ p then 4000 else if smB (B p) = true then wR (isW B p (eE B n p)) 25 0 else if dgB (B p) = true then cv (fun j => B (p + j) - 48) (eE B n p - p) else 2000 + B p
theorem row_sm {B : Nat → Nat} {n p : Nat} (h : p < n) (hs : smB (B p) = true) : ∀ j, j < eE B n p - p → smB (B (p + j)) = true := by
  obtain ⟨e1, e2, e3, e4⟩ := eE_p B h
  intro j
  induction j with
  | zero => intro _; exact hs
  | succ j ih =>
    intro hj
    have a := ih (by omega)
    obtain ⟨-, q | q⟩ := goB_i.mp (e3 (p + (j + 1)) (by omega) (by omega))
    · exact q.1
    · rw [show p + (j + 1) - 1 = p + j by omega] at q
      have := smB_i.mp a
      have := dgB_i.mp q.2
      omega
theorem row_dg {B : Nat → Nat} {n p : Nat} (h : p < n) (hs : dgB (B p) = true) : ∀ j, j < eE B n p - p → dgB (B (p + j)) = true := by
  obtain ⟨e1, e2, e3, e4⟩ := eE_p B h
  intro j
  induction j with
  | zero => intro _; exact hs
  | succ j ih =>
    intro hj
    have a := ih (by omega)
    obtain ⟨-, q | q⟩ := goB_i.mp (e3 (p + (j + 1)) (by omega) (by omega))
    · rw [show p + (j + 1) - 1 = p + j by omega] at q
      have := dgB_i.mp a
      have := smB_i.mp q.2
      omega
    · exact q.1
