/-! the start: the model's constructor -/
def mdQ : List (Option Nat) := [none, none, some 368, some 369, some 370, some 371, some 372, some 373, none, some 374, some 375, none, some 376, none, none, none, none, none, none, none, none, none, some 377, none, some 378, some 379, none, some 380, some 381, none, none, some 382, some 383, some 384, none, some 385, some 386, some 387, none, none, none, some 388, some 389, some 390, some 391, some 392, some 393, some 394, some 395, some 396, some 397, none, none, none, none, none, some 398]
def mdC : hCl := (12, 0, mdQ, upR (upR zI0 18 (-1)) 53 (-1), zJ0)
/-- the row behind i letters -/
def mdI (i : Nat) : Nat → Int32 := fun k => if (40 ≤ k ∧ k < 40 + i) ∨ (48 ≤ k ∧ k < 48 + i) then -1 else upR (upR zI0 2 (-1)) 5 1 k
def mdW : List hCl := [mkC 13 10936, mkC 15 2, mkC 13 936, mkC 13 16, mkC 13 832, mkC 13 16, mkC 13 400, mkC 13 96, mkC 13 400, mkC 13 400, mkC 13 400, mkC 13 400, (14, 7, [], zI0, upJ (upJ (upJ (upJ (upJ (upJ (upJ zJ0 0 24) 1 25) 2 271592) 3 427481) 4 278194) 5 114052) 6 441828), (14, 7, [], zI0, upJ (upJ (upJ (upJ (upJ (upJ (upJ zJ0 0 278194) 1 146885) 2 404362868) 3 398548) 4 594980) 5 52) 6 271592), (14, 2, [], zI0, upJ (upJ zJ0 0 658552979) 1 8892563), mkC 14 13, mkC 14 13, mkC 14 400, mkC 13 25, mkC 13 25, mkC 13 8, mkC 13 9, mkC 15 64, mkC 13 248, mkC 14 21, (14, 4, [], zI0, upJ (upJ (upJ (upJ zJ0 0 20456844) 1 18916965) 2 20459828) 3 525939), (14, 3, [], zI0, upJ (upJ (upJ zJ0 0 52) 1 655) 2 89), mkC 13 96, mkC 13 52]
def mdR (i : Nat) : List hCl := [mkC 13 7] ++ (13, 5468, [], mdI i, zJ0) :: mdW
theorem mdI_0 : mdI 0 = upR (upR zI0 2 (-1)) 5 1 := by
  funext k
  unfold mdI
  rw [if_neg (by omega)]
theorem mdI_s {i : Nat} (hi : i < 8) : upR (upR (mdI i) (40 + i) (-1)) (48 + i) (-1) = mdI (i + 1) := by
  funext k
  by_cases z : k = 48 + i
  · rw [z, upR_s]
    unfold mdI
    rw [if_pos (by omega)]
  · rw [upR_n _ _ z]
    by_cases y : k = 40 + i
    · rw [y, upR_s]
      unfold mdI
      rw [if_pos (by omega)]
    · rw [upR_n _ _ y]
      unfold mdI
      by_cases w : (40 ≤ k ∧ k < 40 + i) ∨ (48 ≤ k ∧ k < 48 + i)
      · rw [if_pos w, if_pos (by omega)]
      · rw [if_neg w, if_neg (by omega)]
section CM2
variable {d s : Nat} {L0 : List hCl}
theorem md_l (hn : L0.length = 367) : ∀ m i, i + m = 8 → RG d 164 (opX12_init.drop 236) [some (.ref 367), some (.int (nI i))] [] (L0 ++ mdC :: mdR i) s (L0 ++ mdC :: mdR 8) s := by
  intro m
  induction m with
  | zero =>
    intro i h1
    obtain rfl : i = 8 := by omega
    refine rg_n (fun _ _ _ _ => rfl) ?_
    refine rg_n (fun _ _ _ _ => rfl) ?_
    refine rg_ify (cGe_t 8) (os' := opX12_init.drop 255) rfl ?_
    exact rg_ret
  | succ m ih =>
    intro i h1
    refine rg_n (fun _ _ _ _ => rfl) ?_
    refine rg_n (fun _ _ _ _ => rfl) ?_
    refine rg_ifn (cGe_f (m := 8) (by omega) (by omega)) ?_
    refine rg_n (fun _ _ _ _ => rfl) ?_
    refine rg_getP (y := 369) hn rfl ?_
    refine rg_n (fun _ _ _ _ => rfl) ?_
    refine rg_n (fun _ _ _ _ => rfl) ?_
    refine rg_n (fun _ _ _ _ => rfl) ?_
    refine rg_n (fun _ _ _ _ => rfl) ?_
    refine rg_astI2 (R1 := [mkC 13 7]) (m := 40 + i) (nI_add 40 i) (by omega) (by omega) (by rw [List.length_append, hn]; rfl) ?_
    refine rg_n (fun _ _ _ _ => rfl) ?_
    refine rg_getP (y := 369) hn rfl ?_
    refine rg_n (fun _ _ _ _ => rfl) ?_
    refine rg_n (fun _ _ _ _ => rfl) ?_
    refine rg_n (fun _ _ _ _ => rfl) ?_
    refine rg_n (fun _ _ _ _ => rfl) ?_
    refine rg_astI2 (R1 := [mkC 13 7]) (m := 48 + i) (nI_add 48 i) (by omega) (by omega) (by rw [List.length_append, hn]; rfl) ?_
    rw [mdI_s (by omega)]
    refine rg_n (lv' := [some (.ref 367), some (.int (nI (i + 1)))]) (fun _ _ _ _ => by rw [← nI_1]; rfl) ?_
    refine rg_j (fun _ _ _ _ => rfl) (os' := opX12_init.drop 236) rfl ?_
    exact ih (i + 1) (by omega)
set_option maxRecDepth 100000 in
theorem md_m (hn : L0.length = 367) : CM d 164 [.ref 367] (L0 ++ [mkC 12 0]) s (L0 ++ mdC :: mdR 8) (s + 21306) := by
  refine CM.of rfl rfl ?_
  refine rg_n (fun _ _ _ _ => rfl) ?_
  refine rg_n (fun _ _ _ _ => rfl) ?_
  refine rg_n (fun _ _ _ _ => rfl) ?_
  refine rg_n (fun _ _ _ _ => rfl) ?_
  refine rg_newA (m := 7) (i := 368) rfl (by omega) (by rw [List.length_append, hn]; rfl) (by omega) ?_
  refine rg_putP hn ?_
  refine rg_n (fun _ _ _ _ => rfl) ?_
  refine rg_n (fun _ _ _ _ => rfl) ?_
  refine rg_newA (m := 5468) (i := 369) rfl (by omega) (by rw [List.length_append, hn]; rfl) (by omega) ?_
  refine rg_putP hn ?_
  refine rg_n (fun _ _ _ _ => rfl) ?_
  refine rg_n (fun _ _ _ _ => rfl) ?_
  refine rg_newA (m := 10936) (i := 370) rfl (by omega) (by rw [List.length_append, hn]; rfl) (by omega) ?_
  refine rg_putP hn ?_
  refine rg_n (fun _ _ _ _ => rfl) ?_
  refine rg_n (fun _ _ _ _ => rfl) ?_
  refine rg_newA (m := 2) (i := 371) rfl (by omega) (by rw [List.length_append, hn]; rfl) (by omega) ?_
  refine rg_putP hn ?_
  refine rg_n (fun _ _ _ _ => rfl) ?_
  refine rg_n (fun _ _ _ _ => rfl) ?_
  refine rg_newA (m := 936) (i := 372) rfl (by omega) (by rw [List.length_append, hn]; rfl) (by omega) ?_
  refine rg_putP hn ?_
  refine rg_n (fun _ _ _ _ => rfl) ?_
  refine rg_n (fun _ _ _ _ => rfl) ?_
  refine rg_newA (m := 16) (i := 373) rfl (by omega) (by rw [List.length_append, hn]; rfl) (by omega) ?_
  refine rg_putP hn ?_
  refine rg_n (fun _ _ _ _ => rfl) ?_
  refine rg_n (fun _ _ _ _ => rfl) ?_
  refine rg_newA (m := 832) (i := 374) rfl (by omega) (by rw [List.length_append, hn]; rfl) (by omega) ?_
  refine rg_putP hn ?_
  refine rg_n (fun _ _ _ _ => rfl) ?_
  refine rg_n (fun _ _ _ _ => rfl) ?_
  refine rg_newA (m := 16) (i := 375) rfl (by omega) (by rw [List.length_append, hn]; rfl) (by omega) ?_
  refine rg_putP hn ?_
  refine rg_n (fun _ _ _ _ => rfl) ?_
  refine rg_n (fun _ _ _ _ => rfl) ?_
  refine rg_newA (m := 400) (i := 376) rfl (by omega) (by rw [List.length_append, hn]; rfl) (by omega) ?_
  refine rg_putP hn ?_
  refine rg_n (fun _ _ _ _ => rfl) ?_
  refine rg_n (fun _ _ _ _ => rfl) ?_
  refine rg_putI hn ?_
  refine rg_n (fun _ _ _ _ => rfl) ?_
  refine rg_n (fun _ _ _ _ => rfl) ?_
  refine rg_newA (m := 96) (i := 377) rfl (by omega) (by rw [List.length_append, hn]; rfl) (by omega) ?_
  refine rg_putP hn ?_
  refine rg_n (fun _ _ _ _ => rfl) ?_
  refine rg_n (fun _ _ _ _ => rfl) ?_
  refine rg_newA (m := 400) (i := 378) rfl (by omega) (by rw [List.length_append, hn]; rfl) (by omega) ?_
  refine rg_putP hn ?_
  refine rg_n (fun _ _ _ _ => rfl) ?_
  refine rg_n (fun _ _ _ _ => rfl) ?_
  refine rg_newA (m := 400) (i := 379) rfl (by omega) (by rw [List.length_append, hn]; rfl) (by omega) ?_
  refine rg_putP hn ?_
  refine rg_n (fun _ _ _ _ => rfl) ?_
  refine rg_n (fun _ _ _ _ => rfl) ?_
  refine rg_newA (m := 400) (i := 380) rfl (by omega) (by rw [List.length_append, hn]; rfl) (by omega) ?_
  refine rg_putP hn ?_
  refine rg_n (fun _ _ _ _ => rfl) ?_
  refine rg_n (fun _ _ _ _ => rfl) ?_
  refine rg_newA (m := 400) (i := 381) rfl (by omega) (by rw [List.length_append, hn]; rfl) (by omega) ?_
  refine rg_putP hn ?_
  refine rg_n (fun _ _ _ _ => rfl) ?_
  refine rg_n (fun _ _ _ _ => rfl) ?_
  refine rg_newA (m := 7) (i := 382) rfl (by omega) (by rw [List.length_append, hn]; rfl) (by omega) ?_
  refine rg_n (fun _ _ _ _ => rfl) ?_
  refine rg_n (fun _ _ _ _ => rfl) ?_
  refine rg_n (fun _ _ _ _ => rfl) ?_
  refine rg_astJ2 (m := 0) rfl (by omega) (by omega) (by rw [List.length_append, hn]; rfl) ?_
  refine rg_n (fun _ _ _ _ => rfl) ?_
  refine rg_n (fun _ _ _ _ => rfl) ?_
  refine rg_n (fun _ _ _ _ => rfl) ?_
  refine rg_astJ2 (m := 1) rfl (by omega) (by omega) (by rw [List.length_append, hn]; rfl) ?_
  refine rg_n (fun _ _ _ _ => rfl) ?_
  refine rg_n (fun _ _ _ _ => rfl) ?_
  refine rg_n (fun _ _ _ _ => rfl) ?_
  refine rg_astJ2 (m := 2) rfl (by omega) (by omega) (by rw [List.length_append, hn]; rfl) ?_
  refine rg_n (fun _ _ _ _ => rfl) ?_
  refine rg_n (fun _ _ _ _ => rfl) ?_
  refine rg_n (fun _ _ _ _ => rfl) ?_
  refine rg_astJ2 (m := 3) rfl (by omega) (by omega) (by rw [List.length_append, hn]; rfl) ?_
  refine rg_n (fun _ _ _ _ => rfl) ?_
  refine rg_n (fun _ _ _ _ => rfl) ?_
  refine rg_n (fun _ _ _ _ => rfl) ?_
  refine rg_astJ2 (m := 4) rfl (by omega) (by omega) (by rw [List.length_append, hn]; rfl) ?_
  refine rg_n (fun _ _ _ _ => rfl) ?_
  refine rg_n (fun _ _ _ _ => rfl) ?_
  refine rg_n (fun _ _ _ _ => rfl) ?_
  refine rg_astJ2 (m := 5) rfl (by omega) (by omega) (by rw [List.length_append, hn]; rfl) ?_
  refine rg_n (fun _ _ _ _ => rfl) ?_
  refine rg_n (fun _ _ _ _ => rfl) ?_
  refine rg_n (fun _ _ _ _ => rfl) ?_
  refine rg_astJ2 (m := 6) rfl (by omega) (by omega) (by rw [List.length_append, hn]; rfl) ?_
  refine rg_putP hn ?_
  refine rg_n (fun _ _ _ _ => rfl) ?_
  refine rg_n (fun _ _ _ _ => rfl) ?_
  refine rg_newA (m := 7) (i := 383) rfl (by omega) (by rw [List.length_append, hn]; rfl) (by omega) ?_
  refine rg_n (fun _ _ _ _ => rfl) ?_
  refine rg_n (fun _ _ _ _ => rfl) ?_
  refine rg_n (fun _ _ _ _ => rfl) ?_
  refine rg_astJ2 (m := 0) rfl (by omega) (by omega) (by rw [List.length_append, hn]; rfl) ?_
  refine rg_n (fun _ _ _ _ => rfl) ?_
  refine rg_n (fun _ _ _ _ => rfl) ?_
  refine rg_n (fun _ _ _ _ => rfl) ?_
  refine rg_astJ2 (m := 1) rfl (by omega) (by omega) (by rw [List.length_append, hn]; rfl) ?_
  refine rg_n (fun _ _ _ _ => rfl) ?_
  refine rg_n (fun _ _ _ _ => rfl) ?_
  refine rg_n (fun _ _ _ _ => rfl) ?_
  refine rg_astJ2 (m := 2) rfl (by omega) (by omega) (by rw [List.length_append, hn]; rfl) ?_
  refine rg_n (fun _ _ _ _ => rfl) ?_
  refine rg_n (fun _ _ _ _ => rfl) ?_
  refine rg_n (fun _ _ _ _ => rfl) ?_
  refine rg_astJ2 (m := 3) rfl (by omega) (by omega) (by rw [List.length_append, hn]; rfl) ?_
  refine rg_n (fun _ _ _ _ => rfl) ?_
  refine rg_n (fun _ _ _ _ => rfl) ?_
  refine rg_n (fun _ _ _ _ => rfl) ?_
  refine rg_astJ2 (m := 4) rfl (by omega) (by omega) (by rw [List.length_append, hn]; rfl) ?_
  refine rg_n (fun _ _ _ _ => rfl) ?_
  refine rg_n (fun _ _ _ _ => rfl) ?_
  refine rg_n (fun _ _ _ _ => rfl) ?_
  refine rg_astJ2 (m := 5) rfl (by omega) (by omega) (by rw [List.length_append, hn]; rfl) ?_
  refine rg_n (fun _ _ _ _ => rfl) ?_
  refine rg_n (fun _ _ _ _ => rfl) ?_
  refine rg_n (fun _ _ _ _ => rfl) ?_
  refine rg_astJ2 (m := 6) rfl (by omega) (by omega) (by rw [List.length_append, hn]; rfl) ?_
  refine rg_putP hn ?_
  refine rg_n (fun _ _ _ _ => rfl) ?_
  refine rg_n (fun _ _ _ _ => rfl) ?_
  refine rg_newA (m := 2) (i := 384) rfl (by omega) (by rw [List.length_append, hn]; rfl) (by omega) ?_
  refine rg_n (fun _ _ _ _ => rfl) ?_
  refine rg_n (fun _ _ _ _ => rfl) ?_
  refine rg_n (fun _ _ _ _ => rfl) ?_
  refine rg_astJ2 (m := 0) rfl (by omega) (by omega) (by rw [List.length_append, hn]; rfl) ?_
  refine rg_n (fun _ _ _ _ => rfl) ?_
  refine rg_n (fun _ _ _ _ => rfl) ?_
  refine rg_n (fun _ _ _ _ => rfl) ?_
  refine rg_astJ2 (m := 1) rfl (by omega) (by omega) (by rw [List.length_append, hn]; rfl) ?_
  refine rg_putP hn ?_
  refine rg_n (fun _ _ _ _ => rfl) ?_
  refine rg_n (fun _ _ _ _ => rfl) ?_
  refine rg_newA (m := 13) (i := 385) rfl (by omega) (by rw [List.length_append, hn]; rfl) (by omega) ?_
  refine rg_putP hn ?_
  refine rg_n (fun _ _ _ _ => rfl) ?_
  refine rg_n (fun _ _ _ _ => rfl) ?_
  refine rg_newA (m := 13) (i := 386) rfl (by omega) (by rw [List.length_append, hn]; rfl) (by omega) ?_
  refine rg_putP hn ?_
  refine rg_n (fun _ _ _ _ => rfl) ?_
  refine rg_n (fun _ _ _ _ => rfl) ?_
  refine rg_newA (m := 400) (i := 387) rfl (by omega) (by rw [List.length_append, hn]; rfl) (by omega) ?_
  refine rg_putP hn ?_
  refine rg_n (fun _ _ _ _ => rfl) ?_
  refine rg_n (fun _ _ _ _ => rfl) ?_
  refine rg_newA (m := 25) (i := 388) rfl (by omega) (by rw [List.length_append, hn]; rfl) (by omega) ?_
  refine rg_putP hn ?_
  refine rg_n (fun _ _ _ _ => rfl) ?_
  refine rg_n (fun _ _ _ _ => rfl) ?_
  refine rg_newA (m := 25) (i := 389) rfl (by omega) (by rw [List.length_append, hn]; rfl) (by omega) ?_
  refine rg_putP hn ?_
  refine rg_n (fun _ _ _ _ => rfl) ?_
  refine rg_n (fun _ _ _ _ => rfl) ?_
  refine rg_newA (m := 8) (i := 390) rfl (by omega) (by rw [List.length_append, hn]; rfl) (by omega) ?_
  refine rg_putP hn ?_
  refine rg_n (fun _ _ _ _ => rfl) ?_
  refine rg_n (fun _ _ _ _ => rfl) ?_
  refine rg_newA (m := 9) (i := 391) rfl (by omega) (by rw [List.length_append, hn]; rfl) (by omega) ?_
  refine rg_putP hn ?_
  refine rg_n (fun _ _ _ _ => rfl) ?_
  refine rg_n (fun _ _ _ _ => rfl) ?_
  refine rg_newA (m := 64) (i := 392) rfl (by omega) (by rw [List.length_append, hn]; rfl) (by omega) ?_
  refine rg_putP hn ?_
  refine rg_n (fun _ _ _ _ => rfl) ?_
  refine rg_n (fun _ _ _ _ => rfl) ?_
  refine rg_newA (m := 248) (i := 393) rfl (by omega) (by rw [List.length_append, hn]; rfl) (by omega) ?_
  refine rg_putP hn ?_
  refine rg_n (fun _ _ _ _ => rfl) ?_
  refine rg_n (fun _ _ _ _ => rfl) ?_
  refine rg_newA (m := 21) (i := 394) rfl (by omega) (by rw [List.length_append, hn]; rfl) (by omega) ?_
  refine rg_putP hn ?_
  refine rg_n (fun _ _ _ _ => rfl) ?_
  refine rg_n (fun _ _ _ _ => rfl) ?_
  refine rg_newA (m := 4) (i := 395) rfl (by omega) (by rw [List.length_append, hn]; rfl) (by omega) ?_
  refine rg_n (fun _ _ _ _ => rfl) ?_
  refine rg_n (fun _ _ _ _ => rfl) ?_
  refine rg_n (fun _ _ _ _ => rfl) ?_
  refine rg_astJ2 (m := 0) rfl (by omega) (by omega) (by rw [List.length_append, hn]; rfl) ?_
  refine rg_n (fun _ _ _ _ => rfl) ?_
  refine rg_n (fun _ _ _ _ => rfl) ?_
  refine rg_n (fun _ _ _ _ => rfl) ?_
  refine rg_astJ2 (m := 1) rfl (by omega) (by omega) (by rw [List.length_append, hn]; rfl) ?_
  refine rg_n (fun _ _ _ _ => rfl) ?_
  refine rg_n (fun _ _ _ _ => rfl) ?_
  refine rg_n (fun _ _ _ _ => rfl) ?_
  refine rg_astJ2 (m := 2) rfl (by omega) (by omega) (by rw [List.length_append, hn]; rfl) ?_
  refine rg_n (fun _ _ _ _ => rfl) ?_
  refine rg_n (fun _ _ _ _ => rfl) ?_
  refine rg_n (fun _ _ _ _ => rfl) ?_
  refine rg_astJ2 (m := 3) rfl (by omega) (by omega) (by rw [List.length_append, hn]; rfl) ?_
  refine rg_putP hn ?_
  refine rg_n (fun _ _ _ _ => rfl) ?_
  refine rg_n (fun _ _ _ _ => rfl) ?_
  refine rg_newA (m := 3) (i := 396) rfl (by omega) (by rw [List.length_append, hn]; rfl) (by omega) ?_
  refine rg_n (fun _ _ _ _ => rfl) ?_
  refine rg_n (fun _ _ _ _ => rfl) ?_
  refine rg_n (fun _ _ _ _ => rfl) ?_
  refine rg_astJ2 (m := 0) rfl (by omega) (by omega) (by rw [List.length_append, hn]; rfl) ?_
  refine rg_n (fun _ _ _ _ => rfl) ?_
  refine rg_n (fun _ _ _ _ => rfl) ?_
  refine rg_n (fun _ _ _ _ => rfl) ?_
  refine rg_astJ2 (m := 1) rfl (by omega) (by omega) (by rw [List.length_append, hn]; rfl) ?_
  refine rg_n (fun _ _ _ _ => rfl) ?_
  refine rg_n (fun _ _ _ _ => rfl) ?_
  refine rg_n (fun _ _ _ _ => rfl) ?_
  refine rg_astJ2 (m := 2) rfl (by omega) (by omega) (by rw [List.length_append, hn]; rfl) ?_
  refine rg_putP hn ?_
  refine rg_n (fun _ _ _ _ => rfl) ?_
  refine rg_n (fun _ _ _ _ => rfl) ?_
  refine rg_newA (m := 96) (i := 397) rfl (by omega) (by rw [List.length_append, hn]; rfl) (by omega) ?_
  refine rg_putP hn ?_
  refine rg_n (fun _ _ _ _ => rfl) ?_
  refine rg_n (fun _ _ _ _ => rfl) ?_
  refine rg_putI hn ?_
  refine rg_n (fun _ _ _ _ => rfl) ?_
  refine rg_n (fun _ _ _ _ => rfl) ?_
  refine rg_newA (m := 52) (i := 398) rfl (by omega) (by rw [List.length_append, hn]; rfl) (by omega) ?_
  refine rg_putP hn ?_
  refine rg_n (fun _ _ _ _ => rfl) ?_
  refine rg_getP (y := 369) hn rfl ?_
  refine rg_n (fun _ _ _ _ => rfl) ?_
  refine rg_n (fun _ _ _ _ => rfl) ?_
  refine rg_cast (L2 := L0 ++ mdC :: ([mkC 13 7] ++ mkC 13 5468 :: mdW)) rfl ?_
  refine rg_astI2 (R1 := [mkC 13 7]) (m := 2) rfl (by omega) (by omega) (by rw [List.length_append, hn]; rfl) ?_
  refine rg_n (fun _ _ _ _ => rfl) ?_
  refine rg_getP (y := 369) hn rfl ?_
  refine rg_n (fun _ _ _ _ => rfl) ?_
  refine rg_n (fun _ _ _ _ => rfl) ?_
  refine rg_astI2 (R1 := [mkC 13 7]) (m := 5) rfl (by omega) (by omega) (by rw [List.length_append, hn]; rfl) ?_
  refine rg_n (fun _ _ _ _ => rfl) ?_
  refine rg_n (fun _ _ _ _ => rfl) ?_
  refine rg_castS (s2 := s + 21306) (by omega) ?_
  exact rg_cast (by unfold mdR; rw [mdI_0]; rfl) (md_l hn 8 0 rfl)
end CM2
