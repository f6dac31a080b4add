/-! the start: the constructors that make rows of objects -/
theorem setR_end : ∀ (r : List (Option Nat)) (v : Option Nat), setR r r.length v = r ++ [v]
  | [], _ => rfl
  | x :: r, v => by
    show x :: setR r r.length v = _
    rw [setR_end r v]
    rfl
def trs (b sd : Nat) : Nat → List (Option Nat)
  | 0 => []
  | i + 1 => trs b sd i ++ [some (b + sd * i)]
theorem trs_len (b sd : Nat) : ∀ i, (trs b sd i).length = i
  | 0 => rfl
  | i + 1 => by
    show (trs b sd i ++ [some (b + sd * i)]).length = _
    rw [List.length_append, trs_len b sd i]
    rfl
theorem trs_set (b sd i : Nat) : setR (trs b sd i) i (some (b + sd * i)) = trs b sd (i + 1) := by
  have := setR_end (trs b sd i) (some (b + sd * i))
  rw [trs_len] at this
  exact this
def txs (b : Nat) : Nat → List hCl
  | 0 => []
  | i + 1 => txs b i ++ txC (b + 7 * i) :: txT
def mos (b : Nat) : Nat → List hCl
  | 0 => []
  | i + 1 => mos b i ++ moC (b + 5 * i) :: moT
theorem txs_len (b : Nat) : ∀ i, (txs b i).length = 7 * i
  | 0 => rfl
  | i + 1 => by
    show (txs b i ++ txC (b + 7 * i) :: txT).length = _
    rw [List.length_append, txs_len b i]
    show 7 * i + 7 = _
    omega
theorem mos_len (b : Nat) : ∀ i, (mos b i).length = 5 * i
  | 0 => rfl
  | i + 1 => by
    show (mos b i ++ moC (b + 5 * i) :: moT).length = _
    rw [List.length_append, mos_len b i]
    show 5 * i + 5 = _
    omega
section CU2
variable {d n s : Nat} {L0 : List hCl}
theorem rg_castS {M : Nat} {os : List hOp} {lv : List (Option Value)} {st : List Value} {L L' : List hCl} {s s2 s' : Nat} (e : s = s2) (h : RG d M os lv st L s2 L' s') : RG d M os lv st L s L' s' := by
  subst e
  exact h
/-- the newest object's kind -/
theorem last_k {A : List hCl} {y : hCl} {T : List hCl} {a : Nat} (h : A.length = a) : (A ++ y :: T).getD a clD = y := by
  subst h
  exact getD_mid clD y T A
def kpP (n : Nat) : List hCl := moC (n + 1) :: (moT ++ [mkC 13 6, mkC 13 6])
def kpC (n : Nat) : hCl := (1, 0, [some (n + 1), none, none, none, some (n + 6), some (n + 7), none, some (n + 8)], upR (upR zI0 2 1) 9 (-1), zJ0)
def kpT (n : Nat) : List hCl := kpP n ++ (18, 6, trs (n + 9) 7 6, zI0, zJ0) :: txs (n + 9) 6
theorem kp_l (hn : L0.length = n) (h8 : n < 70000) : ∀ m i, i + m = 6 → RG (d + 1) 12 (opX1_init.drop 27) [some (.ref n), some (.int (nI i))] [] (L0 ++ kpC n :: (kpP n ++ (18, 6, trs (n + 9) 7 i, zI0, zJ0) :: txs (n + 9) i)) (s + 470 * i) (L0 ++ kpC n :: kpT n) (s + 470 * 6) := by
  intro m
  induction m with
  | zero =>
    intro i h1
    obtain rfl : i = 6 := by omega
    refine rg_n (fun _ _ _ _ => rfl) ?_
    refine rg_n (fun _ _ _ _ => rfl) ?_
    refine rg_ify (cGe_t 6) (os' := opX1_init.drop 39) rfl ?_
    exact rg_ret
  | succ m ih =>
    intro i h1
    have hp : (kpP n).length = 7 := rfl
    have hlen : (L0 ++ kpC n :: (kpP n ++ (18, 6, trs (n + 9) 7 i, zI0, zJ0) :: txs (n + 9) i)).length = n + 9 + 7 * i := by
      rw [List.length_append, hn, List.length_cons, List.length_append, List.length_cons, txs_len, hp]
      omega
    refine rg_n (fun _ _ _ _ => rfl) ?_
    refine rg_n (fun _ _ _ _ => rfl) ?_
    refine rg_ifn (cGe_f (m := 6) (by omega) (by omega)) ?_
    refine rg_n (fun _ _ _ _ => rfl) ?_
    refine rg_getP (y := n + 8) hn rfl ?_
    refine rg_n (fun _ _ _ _ => rfl) ?_
    refine rg_new (i := n + 9 + 7 * i) hlen (by omega) ?_
    refine rg_n (fun _ _ _ _ => rfl) ?_
    refine rg_ctor hlen rfl rfl (Nat.le_of_ble_eq_true rfl) (by decide) (by show 1 ≤ mlOf 91; decide) (tx_m hlen (by omega)) ?_
    refine rg_cast (L2 := L0 ++ kpC n :: (kpP n ++ (18, 6, trs (n + 9) 7 i, zI0, zJ0) :: (txs (n + 9) i ++ txC (n + 9 + 7 * i) :: txT))) (by rw [List.append_assoc]; rfl) ?_
    refine rg_astP2 (m := i) rfl (by omega) (by omega) (by rw [List.length_append, hn, List.length_cons, hp]) ?_ ?_
    · have e : L0 ++ kpC n :: (kpP n ++ (18, 6, trs (n + 9) 7 i, zI0, zJ0) :: (txs (n + 9) i ++ txC (n + 9 + 7 * i) :: txT)) = (L0 ++ kpC n :: (kpP n ++ (18, 6, trs (n + 9) 7 i, zI0, zJ0) :: txs (n + 9) i)) ++ txC (n + 9 + 7 * i) :: txT := by simp
      rw [e, last_k hlen]
      rfl
    rw [trs_set]
    refine rg_n (lv' := [some (.ref n), some (.int (nI (i + 1)))]) (fun _ _ _ _ => by rw [← nI_1]; rfl) ?_
    refine rg_j (fun _ _ _ _ => rfl) (os' := opX1_init.drop 27) rfl ?_
    exact rg_castS (by omega) (ih (i + 1) (by omega))
theorem kp_m (hn : L0.length = n) (h8 : n < 70000) : CM (d + 1) 12 [.ref n] (L0 ++ [mkC 1 0]) s (L0 ++ kpC n :: kpT n) (s + 5 + 49 + 6 + 6 + 6 + 470 * 6) := by
  refine CM.of rfl rfl ?_
  refine rg_n (fun _ _ _ _ => rfl) ?_
  refine rg_n (fun _ _ _ _ => rfl) ?_
  refine rg_n (fun _ _ _ _ => rfl) ?_
  refine rg_new (i := n + 1) (by rw [List.length_append, hn]; rfl) (by omega) ?_
  refine rg_n (fun _ _ _ _ => rfl) ?_
  have h1 : (L0 ++ mkC 1 0 :: ([] : List hCl)).length = n + 1 := by rw [List.length_append, hn]; rfl
  refine rg_ctor h1 rfl rfl (Nat.le_of_ble_eq_true rfl) (by decide) (by show 1 ≤ mlOf 16; decide) (mo_m h1 (by omega)) ?_
  refine rg_putP hn ?_
  refine rg_n (fun _ _ _ _ => rfl) ?_
  refine rg_n (fun _ _ _ _ => rfl) ?_
  refine rg_putI hn ?_
  refine rg_n (fun _ _ _ _ => rfl) ?_
  refine rg_n (fun _ _ _ _ => rfl) ?_
  refine rg_newA (m := 6) (i := n + 6) rfl (by omega) (by rw [List.length_append, hn]; rfl) (by omega) ?_
  refine rg_putP hn ?_
  refine rg_n (fun _ _ _ _ => rfl) ?_
  refine rg_n (fun _ _ _ _ => rfl) ?_
  refine rg_newA (m := 6) (i := n + 7) rfl (by omega) (by rw [List.length_append, hn]; rfl) (by omega) ?_
  refine rg_putP hn ?_
  refine rg_n (fun _ _ _ _ => rfl) ?_
  refine rg_n (fun _ _ _ _ => rfl) ?_
  refine rg_newA (m := 6) (i := n + 8) rfl (by omega) (by rw [List.length_append, hn]; rfl) (by omega) ?_
  refine rg_putP hn ?_
  refine rg_n (fun _ _ _ _ => rfl) ?_
  refine rg_n (fun _ _ _ _ => rfl) ?_
  refine rg_putI hn ?_
  refine rg_n (fun _ _ _ _ => rfl) ?_
  refine rg_n (fun _ _ _ _ => rfl) ?_
  exact rg_castS (by omega) (kp_l hn h8 6 0 rfl)
def paC (n : Nat) : hCl := (4, 0, [some (n + 1), some (n + 2)], zI0, zJ0)
def paT (n : Nat) : List hCl := (17, 16, trs (n + 3) 5 16, zI0, zJ0) :: (mkC 13 16 :: mos (n + 3) 16)
theorem pa_l (hn : L0.length = n) (h8 : n < 70000) : ∀ m i, i + m = 16 → RG (d + 1) 28 (opX4_init.drop 12) [some (.ref n), some (.int (nI i))] [] (L0 ++ paC n :: ((17, 16, trs (n + 3) 5 i, zI0, zJ0) :: (mkC 13 16 :: mos (n + 3) i))) (s + 54 * i) (L0 ++ paC n :: paT n) (s + 54 * 16) := by
  intro m
  induction m with
  | zero =>
    intro i h1
    obtain rfl : i = 16 := by omega
    refine rg_n (fun _ _ _ _ => rfl) ?_
    refine rg_n (fun _ _ _ _ => rfl) ?_
    refine rg_ify (cGe_t 16) (os' := opX4_init.drop 24) rfl ?_
    exact rg_ret
  | succ m ih =>
    intro i h1
    have hlen : (L0 ++ paC n :: ((17, 16, trs (n + 3) 5 i, zI0, zJ0) :: (mkC 13 16 :: mos (n + 3) i))).length = n + 3 + 5 * i := by
      rw [List.length_append, hn, List.length_cons, List.length_cons, List.length_cons, mos_len]
      omega
    refine rg_n (fun _ _ _ _ => rfl) ?_
    refine rg_n (fun _ _ _ _ => rfl) ?_
    refine rg_ifn (cGe_f (m := 16) (by omega) (by omega)) ?_
    refine rg_n (fun _ _ _ _ => rfl) ?_
    refine rg_getP (y := n + 1) hn rfl ?_
    refine rg_n (fun _ _ _ _ => rfl) ?_
    refine rg_new (i := n + 3 + 5 * i) hlen (by omega) ?_
    refine rg_n (fun _ _ _ _ => rfl) ?_
    refine rg_ctor hlen rfl rfl (Nat.le_of_ble_eq_true rfl) (by decide) (by show 1 ≤ mlOf 16; decide) (mo_m hlen (by omega)) ?_
    refine rg_cast (L2 := L0 ++ paC n :: ([] ++ (17, 16, trs (n + 3) 5 i, zI0, zJ0) :: (mkC 13 16 :: (mos (n + 3) i ++ moC (n + 3 + 5 * i) :: moT)))) rfl ?_
    refine rg_astP2 (m := i) rfl (by omega) (by omega) (by rw [List.length_append, hn]; rfl) ?_ ?_
    · have e : L0 ++ paC n :: ([] ++ (17, 16, trs (n + 3) 5 i, zI0, zJ0) :: (mkC 13 16 :: (mos (n + 3) i ++ moC (n + 3 + 5 * i) :: moT))) = (L0 ++ paC n :: ((17, 16, trs (n + 3) 5 i, zI0, zJ0) :: (mkC 13 16 :: mos (n + 3) i))) ++ moC (n + 3 + 5 * i) :: moT := by simp
      rw [e, last_k hlen]
      rfl
    rw [trs_set]
    refine rg_n (lv' := [some (.ref n), some (.int (nI (i + 1)))]) (fun _ _ _ _ => by rw [← nI_1]; rfl) ?_
    refine rg_j (fun _ _ _ _ => rfl) (os' := opX4_init.drop 12) rfl ?_
    exact rg_castS (by omega) (ih (i + 1) (by omega))
theorem pa_m (hn : L0.length = n) (h8 : n < 70000) : CM (d + 1) 28 [.ref n] (L0 ++ [mkC 4 0]) s (L0 ++ paC n :: paT n) (s + 16 + 16 + 54 * 16) := by
  refine CM.of rfl rfl ?_
  refine rg_n (fun _ _ _ _ => rfl) ?_
  refine rg_n (fun _ _ _ _ => rfl) ?_
  refine rg_n (fun _ _ _ _ => rfl) ?_
  refine rg_n (fun _ _ _ _ => rfl) ?_
  refine rg_newA (m := 16) (i := n + 1) rfl (by omega) (by rw [List.length_append, hn]; rfl) (by omega) ?_
  refine rg_putP hn ?_
  refine rg_n (fun _ _ _ _ => rfl) ?_
  refine rg_n (fun _ _ _ _ => rfl) ?_
  refine rg_newA (m := 16) (i := n + 2) rfl (by omega) (by rw [List.length_append, hn]; rfl) (by omega) ?_
  refine rg_putP hn ?_
  refine rg_n (fun _ _ _ _ => rfl) ?_
  refine rg_n (fun _ _ _ _ => rfl) ?_
  exact rg_castS (by omega) (pa_l hn h8 16 0 rfl)
end CU2
