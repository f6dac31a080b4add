/-! the start: the constructors that call none -/
section RV
variable {d M n c l k s s' : Nat} {os os' : List hOp} {lv lv' : List (Option Value)} {st : List Value} {L0 R1 R2 L L' L2 : List hCl} {x : hCl} {q : List (Option Nat)} {f : Nat → Int32} {j : Nat → Int64}
theorem rg_astI2 {v w : Int32} {i m : Nat} (hv : w = nI m) (hm : m < l) (hl : l < 2 ^ 31) (hi : (L0 ++ x :: R1).length = i) (k' : RG d M os lv st (L0 ++ x :: (R1 ++ (13, l, q, upR f m v, j) :: R2)) s L' s') : RG d M (oAStI :: os) lv (.int v :: .int w :: .ref i :: st) (L0 ++ x :: (R1 ++ (13, l, q, f, j) :: R2)) s L' s' := by
  have e : ∀ y : hCl, L0 ++ x :: (R1 ++ y :: R2) = (L0 ++ x :: R1) ++ y :: R2 := fun y => by rw [List.append_assoc]; rfl
  rw [e] at k' ⊢
  exact rg_astI hv hm hl hi k'
theorem rg_astJ2 {v : Int64} {w : Int32} {i m : Nat} (hv : w = nI m) (hm : m < l) (hl : l < 2 ^ 31) (hi : (L0 ++ x :: R1).length = i) (k' : RG d M os lv st (L0 ++ x :: (R1 ++ (14, l, q, f, upJ j m v) :: R2)) s L' s') : RG d M (oAStJ :: os) lv (.long v :: .int w :: .ref i :: st) (L0 ++ x :: (R1 ++ (14, l, q, f, j) :: R2)) s L' s' := by
  have e : ∀ y : hCl, L0 ++ x :: (R1 ++ y :: R2) = (L0 ++ x :: R1) ++ y :: R2 := fun y => by rw [List.append_assoc]; rfl
  rw [e] at k' ⊢
  exact rg_astJ hv hm hl hi k'
theorem rg_astP2 {kd y i m : Nat} {w : Int32} (hv : w = nI m) (hm : m < l) (hl : l < 2 ^ 31) (hi : (L0 ++ x :: R1).length = i) (hy : ((L0 ++ x :: (R1 ++ (kd, l, q, f, j) :: R2)).getD y clD).1 = c) (k' : RG d M os lv st (L0 ++ x :: (R1 ++ (kd, l, setR q m (some y), f, j) :: R2)) s L' s') : RG d M (oAStP kd c :: os) lv (.ref y :: .int w :: .ref i :: st) (L0 ++ x :: (R1 ++ (kd, l, q, f, j) :: R2)) s L' s' := by
  have e : ∀ y : hCl, L0 ++ x :: (R1 ++ y :: R2) = (L0 ++ x :: R1) ++ y :: R2 := fun y => by rw [List.append_assoc]; rfl
  rw [e] at k' ⊢
  rw [e] at hy
  exact rg_astP hv hm hl hi hy k'
theorem rg_getQ {y z : Nat} (hk : (L.getD y clD).1 = c) (hp : (L.getD y clD).2.2.1.getD k none = some z) (k' : RG d M os lv (.ref z :: st) L s L' s') : RG d M (oGetP c k :: os) lv (.ref y :: st) L s L' s' := by
  intro G hG
  obtain ⟨G', h1, f0, h2⟩ := k' _ hG
  refine ⟨G', h1, f0, fun f' hf => ?_⟩
  show oGetP c k (exO os _ _) _ _ lv (.ref y :: st) G = _
  unfold oGetP
  dsimp only
  rw [if_pos ((hG.2.2 y).1.trans hk), (hG.2.2 y).2.2.1 k, hp]
  exact h2 f' hf
theorem rg_ifn {cc : Int32 → Int32 → Bool} {t : Nat} {x y : Int32} (h : cc x y = false) (k' : RG d M os lv st L s L' s') : RG d M (oIf cc t :: os) lv (.int y :: .int x :: st) L s L' s' := rg_n (fun nx jp cl G => by unfold oIf; dsimp only; rw [if_neg (by rw [h]; decide)]) k'
theorem rg_ify {cc : Int32 → Int32 → Bool} {t : Nat} {x y : Int32} (h : cc x y = true) (he : (opsOf M).drop t = os') (k' : RG d M os' lv st L s L' s') : RG d M (oIf cc t :: os) lv (.int y :: .int x :: st) L s L' s' := rg_j (fun nx jp cl G => by unfold oIf; dsimp only; rw [if_pos h]) he k'
end RV
theorem cGe_f {i m : Nat} (h : i < m) (hm : m < 2 ^ 31) : cGe (nI i) (nI m) = false := Bool.eq_false_iff.mpr (fun q => nI_ge h hm ((c_ge _ _).mp q))
theorem cGe_t (m : Nat) : cGe (nI m) (nI m) = true := (c_ge _ _).mpr Int32.le_rfl
def txC (n : Nat) : hCl := (9, 0, [some (n + 1), none, none, some (n + 2), some (n + 3), some (n + 4), some (n + 5), some (n + 6)], zI0, zJ0)
def txT : List hCl := [mkC 13 402, mkC 13 12, mkC 13 12, mkC 13 12, mkC 13 12, mkC 13 12]
def moC (n : Nat) : hCl := (2, 0, [some (n + 1), some (n + 2), some (n + 3), some (n + 4)], zI0, zJ0)
def rm8 (i : Nat) : Nat → Int32 := fun k => if k < i then -1 else 0
def moT : List hCl := [mkC 13 8, (13, 8, [], rm8 8, zJ0), (13, 8, [], rm8 8, zJ0), mkC 13 25]
theorem rm8_s (i : Nat) : upR (rm8 i) i (-1) = rm8 (i + 1) := by
  funext k
  unfold upR rm8
  by_cases z : k = i
  · rw [if_pos z, if_pos (by omega)]
  · rw [if_neg z]
    by_cases y : k < i
    · rw [if_pos y, if_pos (by omega)]
    · rw [if_neg y, if_neg (by omega)]
theorem rm8_0 : rm8 0 = zI0 := by
  funext k
  unfold rm8 zI0
  rw [if_neg (by omega)]
-- GENERATED
section CT
variable {d n s : Nat} {L0 : List hCl}
theorem tx_m (hn : L0.length = n) (h8 : n < 80000) : CM d 91 [.ref n] (L0 ++ [mkC 9 0]) s (L0 ++ txC n :: txT) (s + 402 + 12 + 12 + 12 + 12 + 12) := by
  refine CM.of rfl rfl ?_
  refine rg_n (fun _ _ _ _ => rfl) ?_
  refine rg_n (fun _ _ _ _ => rfl) ?_
  refine rg_n (fun _ _ _ _ => rfl) ?_
  refine rg_n (fun _ _ _ _ => rfl) ?_
  refine rg_newA (m := 402) (i := n + 1) rfl (by omega) (by rw [List.length_append, hn]; rfl) (by omega) ?_
  refine rg_putP hn ?_
  refine rg_n (fun _ _ _ _ => rfl) ?_
  refine rg_n (fun _ _ _ _ => rfl) ?_
  refine rg_newA (m := 12) (i := n + 2) rfl (by omega) (by rw [List.length_append, hn]; rfl) (by omega) ?_
  refine rg_putP hn ?_
  refine rg_n (fun _ _ _ _ => rfl) ?_
  refine rg_n (fun _ _ _ _ => rfl) ?_
  refine rg_newA (m := 12) (i := n + 3) rfl (by omega) (by rw [List.length_append, hn]; rfl) (by omega) ?_
  refine rg_putP hn ?_
  refine rg_n (fun _ _ _ _ => rfl) ?_
  refine rg_n (fun _ _ _ _ => rfl) ?_
  refine rg_newA (m := 12) (i := n + 4) rfl (by omega) (by rw [List.length_append, hn]; rfl) (by omega) ?_
  refine rg_putP hn ?_
  refine rg_n (fun _ _ _ _ => rfl) ?_
  refine rg_n (fun _ _ _ _ => rfl) ?_
  refine rg_newA (m := 12) (i := n + 5) rfl (by omega) (by rw [List.length_append, hn]; rfl) (by omega) ?_
  refine rg_putP hn ?_
  refine rg_n (fun _ _ _ _ => rfl) ?_
  refine rg_n (fun _ _ _ _ => rfl) ?_
  refine rg_newA (m := 12) (i := n + 6) rfl (by omega) (by rw [List.length_append, hn]; rfl) (by omega) ?_
  refine rg_putP hn ?_
  exact rg_ret
theorem ca_m (hn : L0.length = n) (h8 : n < 80000) : CM d 9 [.ref n] (L0 ++ [mkC 0 0]) s (L0 ++ (0, 0, [some (n + 1)], zI0, zJ0) :: [mkC 13 50]) (s + 50) := by
  refine CM.of rfl rfl ?_
  refine rg_n (fun _ _ _ _ => rfl) ?_
  refine rg_n (fun _ _ _ _ => rfl) ?_
  refine rg_n (fun _ _ _ _ => rfl) ?_
  refine rg_n (fun _ _ _ _ => rfl) ?_
  refine rg_newA (m := 50) (i := n + 1) rfl (by omega) (by rw [List.length_append, hn]; rfl) (by omega) ?_
  refine rg_putP hn ?_
  exact rg_ret
theorem wa_m (hn : L0.length = n) (h8 : n < 80000) : CM d 97 [.ref n] (L0 ++ [mkC 10 0]) s (L0 ++ (10, 0, [some (n + 1)], zI0, zJ0) :: [mkC 13 248]) (s + 248) := by
  refine CM.of rfl rfl ?_
  refine rg_n (fun _ _ _ _ => rfl) ?_
  refine rg_n (fun _ _ _ _ => rfl) ?_
  refine rg_n (fun _ _ _ _ => rfl) ?_
  refine rg_n (fun _ _ _ _ => rfl) ?_
  refine rg_newA (m := 248) (i := n + 1) rfl (by omega) (by rw [List.length_append, hn]; rfl) (by omega) ?_
  refine rg_putP hn ?_
  exact rg_ret
theorem st_m (hn : L0.length = n) (h8 : n < 80000) : CM d 65 [.ref n] (L0 ++ [mkC 7 0]) s (L0 ++ (7, 0, [some (n + 1), some (n + 2), some (n + 3), some (n + 4), some (n + 5)], zI0, zJ0) :: [mkC 13 25, mkC 13 25, mkC 13 25, mkC 13 8, mkC 13 8]) (s + 25 + 25 + 25 + 8 + 8) := by
  refine CM.of rfl rfl ?_
  refine rg_n (fun _ _ _ _ => rfl) ?_
  refine rg_n (fun _ _ _ _ => rfl) ?_
  refine rg_n (fun _ _ _ _ => rfl) ?_
  refine rg_n (fun _ _ _ _ => rfl) ?_
  refine rg_newA (m := 25) (i := n + 1) rfl (by omega) (by rw [List.length_append, hn]; rfl) (by omega) ?_
  refine rg_putP hn ?_
  refine rg_n (fun _ _ _ _ => rfl) ?_
  refine rg_n (fun _ _ _ _ => rfl) ?_
  refine rg_newA (m := 25) (i := n + 2) rfl (by omega) (by rw [List.length_append, hn]; rfl) (by omega) ?_
  refine rg_putP hn ?_
  refine rg_n (fun _ _ _ _ => rfl) ?_
  refine rg_n (fun _ _ _ _ => rfl) ?_
  refine rg_newA (m := 25) (i := n + 3) rfl (by omega) (by rw [List.length_append, hn]; rfl) (by omega) ?_
  refine rg_putP hn ?_
  refine rg_n (fun _ _ _ _ => rfl) ?_
  refine rg_n (fun _ _ _ _ => rfl) ?_
  refine rg_newA (m := 8) (i := n + 4) rfl (by omega) (by rw [List.length_append, hn]; rfl) (by omega) ?_
  refine rg_putP hn ?_
  refine rg_n (fun _ _ _ _ => rfl) ?_
  refine rg_n (fun _ _ _ _ => rfl) ?_
  refine rg_newA (m := 8) (i := n + 5) rfl (by omega) (by rw [List.length_append, hn]; rfl) (by omega) ?_
  refine rg_putP hn ?_
  exact rg_ret
theorem tp_m (hn : L0.length = n) (h8 : n < 80000) : CM d 78 [.ref n] (L0 ++ [mkC 8 0]) s (L0 ++ (8, 0, [some (n + 1), none, some (n + 2), some (n + 3)], zI0, zJ0) :: [mkC 13 400, mkC 13 401, mkC 13 401]) (s + 400 + 401 + 401) := by
  refine CM.of rfl rfl ?_
  refine rg_n (fun _ _ _ _ => rfl) ?_
  refine rg_n (fun _ _ _ _ => rfl) ?_
  refine rg_n (fun _ _ _ _ => rfl) ?_
  refine rg_n (fun _ _ _ _ => rfl) ?_
  refine rg_newA (m := 400) (i := n + 1) rfl (by omega) (by rw [List.length_append, hn]; rfl) (by omega) ?_
  refine rg_putP hn ?_
  refine rg_n (fun _ _ _ _ => rfl) ?_
  refine rg_n (fun _ _ _ _ => rfl) ?_
  refine rg_newA (m := 401) (i := n + 2) rfl (by omega) (by rw [List.length_append, hn]; rfl) (by omega) ?_
  refine rg_putP hn ?_
  refine rg_n (fun _ _ _ _ => rfl) ?_
  refine rg_n (fun _ _ _ _ => rfl) ?_
  refine rg_newA (m := 401) (i := n + 3) rfl (by omega) (by rw [List.length_append, hn]; rfl) (by omega) ?_
  refine rg_putP hn ?_
  exact rg_ret
theorem no_m (hn : L0.length = n) (h8 : n < 80000) : CM d 24 [.ref n] (L0 ++ [mkC 3 0]) s (L0 ++ (3, 0, [some (n + 1)], upR (upR zI0 2 (-1)) 3 (-1), zJ0) :: [mkC 13 7]) (s + 7) := by
  refine CM.of rfl rfl ?_
  refine rg_n (fun _ _ _ _ => rfl) ?_
  refine rg_n (fun _ _ _ _ => rfl) ?_
  refine rg_n (fun _ _ _ _ => rfl) ?_
  refine rg_n (fun _ _ _ _ => rfl) ?_
  refine rg_newA (m := 7) (i := n + 1) rfl (by omega) (by rw [List.length_append, hn]; rfl) (by omega) ?_
  refine rg_putP hn ?_
  refine rg_n (fun _ _ _ _ => rfl) ?_
  refine rg_n (fun _ _ _ _ => rfl) ?_
  refine rg_putI hn ?_
  refine rg_n (fun _ _ _ _ => rfl) ?_
  refine rg_n (fun _ _ _ _ => rfl) ?_
  refine rg_putI hn ?_
  exact rg_ret
theorem rd_m (hn : L0.length = n) (h8 : n < 80000) (y : Nat) : CM d 33 [.ref n, .ref y] (L0 ++ [mkC 5 0]) s (L0 ++ (5, 0, [some y], zI0, zJ0) :: []) (s) := by
  refine CM.of rfl rfl ?_
  refine rg_n (fun _ _ _ _ => rfl) ?_
  refine rg_n (fun _ _ _ _ => rfl) ?_
  refine rg_n (fun _ _ _ _ => rfl) ?_
  refine rg_n (fun _ _ _ _ => rfl) ?_
  refine rg_putP hn ?_
  exact rg_ret
theorem gd_off {y : Nat} (hn : L0.length = n) (hy : y < n) (X : List hCl) : (L0 ++ X).getD y clD = L0.getD y clD := by
  rw [List.getD_eq_getElem?_getD, List.getD_eq_getElem?_getD, List.getElem?_append_left (by omega)]
theorem sl_m (hn : L0.length = n) (h8 : n < 80000) (u y z : Nat) (hy : y < n) (hk : (L0.getD y clD).1 = 1) (hp : (L0.getD y clD).2.2.1.getD 0 none = some z) : CM d 56 [.ref n, .ref u, .ref y] (L0 ++ [mkC 6 0]) s (L0 ++ (6, 0, [some u, some (n + 1), some (n + 2), some (n + 3), some y, some z], upR zI0 6 (-1), zJ0) :: [mkC 13 7, mkC 13 25, mkC 13 8]) (s + 7 + 25 + 8) := by
  refine CM.of rfl rfl ?_
  refine rg_n (fun _ _ _ _ => rfl) ?_
  refine rg_n (fun _ _ _ _ => rfl) ?_
  refine rg_n (fun _ _ _ _ => rfl) ?_
  refine rg_n (fun _ _ _ _ => rfl) ?_
  refine rg_newA (m := 7) (i := n + 1) rfl (by omega) (by rw [List.length_append, hn]; rfl) (by omega) ?_
  refine rg_putP hn ?_
  refine rg_n (fun _ _ _ _ => rfl) ?_
  refine rg_n (fun _ _ _ _ => rfl) ?_
  refine rg_newA (m := 25) (i := n + 2) rfl (by omega) (by rw [List.length_append, hn]; rfl) (by omega) ?_
  refine rg_putP hn ?_
  refine rg_n (fun _ _ _ _ => rfl) ?_
  refine rg_n (fun _ _ _ _ => rfl) ?_
  refine rg_newA (m := 8) (i := n + 3) rfl (by omega) (by rw [List.length_append, hn]; rfl) (by omega) ?_
  refine rg_putP hn ?_
  refine rg_n (fun _ _ _ _ => rfl) ?_
  refine rg_n (fun _ _ _ _ => rfl) ?_
  refine rg_putI hn ?_
  refine rg_n (fun _ _ _ _ => rfl) ?_
  refine rg_n (fun _ _ _ _ => rfl) ?_
  refine rg_putP hn ?_
  refine rg_n (fun _ _ _ _ => rfl) ?_
  refine rg_n (fun _ _ _ _ => rfl) ?_
  refine rg_putP hn ?_
  refine rg_n (fun _ _ _ _ => rfl) ?_
  refine rg_n (fun _ _ _ _ => rfl) ?_
  refine rg_getQ (z := z) (by rw [gd_off hn hy]; exact hk) (by rw [gd_off hn hy]; exact hp) ?_
  refine rg_putP hn ?_
  exact rg_ret
theorem mo_l (hn : L0.length = n) : ∀ m i, i + m = 8 → RG d 16 (opX2_init.drop 20) [some (.ref n), some (.int (nI i))] [] (L0 ++ moC n :: [mkC 13 8, (13, 8, [], rm8 i, zJ0), (13, 8, [], rm8 i, zJ0), mkC 13 25]) s (L0 ++ moC n :: moT) s := by
  intro m
  induction m with
  | zero =>
    intro i h1
    obtain rfl : i = 8 := by omega
    refine rg_n (fun _ _ _ _ => rfl) ?_
    refine rg_n (fun _ _ _ _ => rfl) ?_
    refine rg_ify (cGe_t 8) (os' := opX2_init.drop 35) rfl ?_
    exact rg_ret
  | succ m ih =>
    intro i h1
    refine rg_n (fun _ _ _ _ => rfl) ?_
    refine rg_n (fun _ _ _ _ => rfl) ?_
    refine rg_ifn (cGe_f (m := 8) (by omega) (by omega)) ?_
    refine rg_n (fun _ _ _ _ => rfl) ?_
    refine rg_getP (y := n + 2) hn rfl ?_
    refine rg_n (fun _ _ _ _ => rfl) ?_
    refine rg_n (fun _ _ _ _ => rfl) ?_
    refine rg_astI2 (R1 := [mkC 13 8]) (m := i) rfl (by omega) (by omega) (by rw [List.length_append, hn]; rfl) ?_
    rw [rm8_s]
    refine rg_n (fun _ _ _ _ => rfl) ?_
    refine rg_getP (y := n + 3) hn rfl ?_
    refine rg_n (fun _ _ _ _ => rfl) ?_
    refine rg_n (fun _ _ _ _ => rfl) ?_
    refine rg_astI2 (R1 := [mkC 13 8, (13, 8, [], rm8 (i + 1), zJ0)]) (m := i) rfl (by omega) (by omega) (by rw [List.length_append, hn]; rfl) ?_
    rw [rm8_s]
    refine rg_n (lv' := [some (.ref n), some (.int (nI (i + 1)))]) (fun _ _ _ _ => by rw [← nI_1]; rfl) ?_
    refine rg_j (fun _ _ _ _ => rfl) (os' := opX2_init.drop 20) rfl ?_
    exact ih (i + 1) (by omega)
theorem mo_m (hn : L0.length = n) (h8 : n < 80000) : CM d 16 [.ref n] (L0 ++ [mkC 2 0]) s (L0 ++ moC n :: moT) (s + 8 + 8 + 8 + 25) := by
  refine CM.of rfl rfl ?_
  refine rg_n (fun _ _ _ _ => rfl) ?_
  refine rg_n (fun _ _ _ _ => rfl) ?_
  refine rg_n (fun _ _ _ _ => rfl) ?_
  refine rg_n (fun _ _ _ _ => rfl) ?_
  refine rg_newA (m := 8) (i := n + 1) rfl (by omega) (by rw [List.length_append, hn]; rfl) (by omega) ?_
  refine rg_putP hn ?_
  refine rg_n (fun _ _ _ _ => rfl) ?_
  refine rg_n (fun _ _ _ _ => rfl) ?_
  refine rg_newA (m := 8) (i := n + 2) rfl (by omega) (by rw [List.length_append, hn]; rfl) (by omega) ?_
  refine rg_putP hn ?_
  refine rg_n (fun _ _ _ _ => rfl) ?_
  refine rg_n (fun _ _ _ _ => rfl) ?_
  refine rg_newA (m := 8) (i := n + 3) rfl (by omega) (by rw [List.length_append, hn]; rfl) (by omega) ?_
  refine rg_putP hn ?_
  refine rg_n (fun _ _ _ _ => rfl) ?_
  refine rg_n (fun _ _ _ _ => rfl) ?_
  refine rg_newA (m := 25) (i := n + 4) rfl (by omega) (by rw [List.length_append, hn]; rfl) (by omega) ?_
  refine rg_putP hn ?_
  refine rg_n (fun _ _ _ _ => rfl) ?_
  refine rg_n (fun _ _ _ _ => rfl) ?_
  exact rg_cast (by rw [rm8_0]; rfl) (mo_l hn 8 0 rfl)
end CT
