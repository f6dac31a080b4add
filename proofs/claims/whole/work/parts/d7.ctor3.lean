/-! the start: the class's own constructor -/
def mpQ : List (Option Nat) := [some 1, some 2, some 52, some 53, some 54, some 137, some 220, some 225, some 230, none, some 235, some 239, some 240, some 247, some 249, some 250, some 254, some 260, some 262, some 263]
def mpC : hCl := (11, 0, mpQ, zI0, zJ0)
/-- the cells behind the row of images -/
def mpS : List hCl := mkC 15 2 :: ((paC 54 :: paT 54) ++ ((paC 137 :: paT 137) ++ ((moC 220 :: moT) ++ ((moC 225 :: moT) ++ ((moC 230 :: moT) ++ ((8, 0, [some 236, none, some 237, some 238], zI0, zJ0) :: mkC 13 400 :: mkC 13 401 :: mkC 13 401 :: (5, 0, [some 235], zI0, zJ0) :: ((txC 240 :: txT) ++ ((0, 0, [some 248], zI0, zJ0) :: mkC 13 50 :: mkC 13 38 :: (6, 0, [some 247, some 251, some 252, some 253, some 1, some 2], upR zI0 6 (-1), zJ0) :: mkC 13 7 :: mkC 13 25 :: mkC 13 8 :: (7, 0, [some 255, some 256, some 257, some 258, some 259], zI0, zJ0) :: mkC 13 25 :: mkC 13 25 :: mkC 13 25 :: mkC 13 8 :: mkC 13 8 :: (10, 0, [some 261], zI0, zJ0) :: mkC 13 248 :: mkC 14 20 :: (3, 0, [some 264], upR (upR zI0 2 (-1)) 3 (-1), zJ0) :: mkC 13 7 :: []))))))))
/-- all cells of the class -/
def mpL : List hCl := mpC :: ((kpC 1 :: kpT 1) ++ (16, 2, [some 265, some 316], zI0, zJ0) :: (mpS ++ ((kpC 265 :: kpT 265) ++ (kpC 316 :: kpT 316))))
section CP
variable {d : Nat}
theorem mp_len : ([] ++ mpC :: ((kpC 1 :: kpT 1) ++ (16, 2, [], zI0, zJ0) :: mpS)).length = 265 := by decide +kernel
theorem mp_len2 : ([] ++ mpC :: ((kpC 1 :: kpT 1) ++ (16, 2, [some 265], zI0, zJ0) :: (mpS ++ kpC 265 :: kpT 265))).length = 316 := by decide +kernel
set_option maxRecDepth 100000 in
/-- both images are made -/
theorem mp_l : RG (d + 2) 103 (opX11_init.drop 101) [some (.ref 0), some (.int (nI 0))] [] ([] ++ mpC :: ((kpC 1 :: kpT 1) ++ (16, 2, [], zI0, zJ0) :: mpS)) 7087 mpL 12891 := by
  have hp : (kpC 1 :: kpT 1).length = 51 := by decide +kernel
  refine rg_n (fun _ _ _ _ => rfl) ?_
  refine rg_n (fun _ _ _ _ => rfl) ?_
  refine rg_ifn (cGe_f (i := 0) (m := 2) (by omega) (by omega)) ?_
  refine rg_n (fun _ _ _ _ => rfl) ?_
  refine rg_getP (y := 52) (n := 0) rfl rfl ?_
  refine rg_n (fun _ _ _ _ => rfl) ?_
  refine rg_new (i := 265) mp_len (by omega) ?_
  refine rg_n (fun _ _ _ _ => rfl) ?_
  refine rg_ctor (i := 265) mp_len rfl rfl (Nat.le_of_ble_eq_true rfl) (by decide) (by show 1 ≤ mlOf 12; decide) (kp_m (n := 265) mp_len (by omega)) ?_
  refine rg_cast (L2 := [] ++ mpC :: ((kpC 1 :: kpT 1) ++ (16, 2, [], zI0, zJ0) :: (mpS ++ kpC 265 :: kpT 265))) (by simp only [List.append_assoc, List.cons_append]; rfl) ?_
  refine rg_astP2 (m := 0) rfl (by omega) (by omega) (by rw [List.nil_append, List.length_cons, hp]) ?_ ?_
  · have e : [] ++ mpC :: ((kpC 1 :: kpT 1) ++ (16, 2, [], zI0, zJ0) :: (mpS ++ kpC 265 :: kpT 265)) = ([] ++ mpC :: ((kpC 1 :: kpT 1) ++ (16, 2, [], zI0, zJ0) :: mpS)) ++ kpC 265 :: kpT 265 := by simp only [List.append_assoc, List.cons_append, List.nil_append]
    rw [e, last_k mp_len]
    rfl
  refine rg_n (lv' := [some (.ref 0), some (.int (nI 1))]) (fun _ _ _ _ => rfl) ?_
  refine rg_j (fun _ _ _ _ => rfl) (os' := opX11_init.drop 101) rfl ?_
  refine rg_n (fun _ _ _ _ => rfl) ?_
  refine rg_n (fun _ _ _ _ => rfl) ?_
  refine rg_ifn (cGe_f (i := 1) (m := 2) (by omega) (by omega)) ?_
  refine rg_n (fun _ _ _ _ => rfl) ?_
  refine rg_getP (y := 52) (n := 0) rfl rfl ?_
  refine rg_n (fun _ _ _ _ => rfl) ?_
  refine rg_new (i := 316) mp_len2 (by omega) ?_
  refine rg_n (fun _ _ _ _ => rfl) ?_
  refine rg_ctor (i := 316) mp_len2 rfl rfl (Nat.le_of_ble_eq_true rfl) (by decide) (by show 1 ≤ mlOf 12; decide) (kp_m (n := 316) mp_len2 (by omega)) ?_
  refine rg_cast (L2 := [] ++ mpC :: ((kpC 1 :: kpT 1) ++ (16, 2, [some 265], zI0, zJ0) :: ((mpS ++ kpC 265 :: kpT 265) ++ kpC 316 :: kpT 316))) (by simp only [List.append_assoc, List.cons_append]; rfl) ?_
  refine rg_astP2 (m := 1) rfl (by omega) (by omega) (by rw [List.nil_append, List.length_cons, hp]) ?_ ?_
  · have e : [] ++ mpC :: ((kpC 1 :: kpT 1) ++ (16, 2, [some 265], zI0, zJ0) :: ((mpS ++ kpC 265 :: kpT 265) ++ kpC 316 :: kpT 316)) = ([] ++ mpC :: ((kpC 1 :: kpT 1) ++ (16, 2, [some 265], zI0, zJ0) :: (mpS ++ kpC 265 :: kpT 265))) ++ kpC 316 :: kpT 316 := by simp only [List.append_assoc, List.cons_append, List.nil_append]
    rw [e, last_k mp_len2]
    rfl
  refine rg_n (lv' := [some (.ref 0), some (.int (nI 2))]) (fun _ _ _ _ => rfl) ?_
  refine rg_j (fun _ _ _ _ => rfl) (os' := opX11_init.drop 101) rfl ?_
  refine rg_n (fun _ _ _ _ => rfl) ?_
  refine rg_n (fun _ _ _ _ => rfl) ?_
  refine rg_ify (cGe_t 2) (os' := opX11_init.drop 113) rfl ?_
  refine rg_cast (L2 := mpL) ?_ (rg_castS rfl rg_ret)
  unfold mpL
  simp only [List.append_assoc, List.cons_append, List.nil_append]
  rfl
set_option maxRecDepth 100000 in
theorem mp_m : CM (d + 2) 103 [.ref 0] ([] ++ [mkC 11 0]) 20 mpL 12891 := by
  refine CM.of rfl rfl ?_
  refine rg_n (fun _ _ _ _ => rfl) ?_
  refine rg_n (fun _ _ _ _ => rfl) ?_
  refine rg_n (fun _ _ _ _ => rfl) ?_
  refine rg_new (i := 1) (by decide +kernel) (by omega) ?_
  refine rg_n (fun _ _ _ _ => rfl) ?_
  refine rg_ctor (i := 1) (by decide +kernel) rfl rfl (Nat.le_of_ble_eq_true rfl) (by decide) (by show 1 ≤ mlOf 12; decide) (kp_m (n := 1) (by decide +kernel) (by omega)) ?_
  refine rg_putP (n := 0) rfl ?_
  refine rg_n (fun _ _ _ _ => rfl) ?_
  refine rg_n (fun _ _ _ _ => rfl) ?_
  refine rg_getP (n := 0) rfl rfl ?_
  refine rg_getQ (z := 2) rfl rfl ?_
  refine rg_putP (n := 0) rfl ?_
  refine rg_n (fun _ _ _ _ => rfl) ?_
  refine rg_n (fun _ _ _ _ => rfl) ?_
  refine rg_newA (m := 2) (i := 52) rfl (by omega) (by decide +kernel) (by omega) ?_
  refine rg_putP (n := 0) rfl ?_
  refine rg_n (fun _ _ _ _ => rfl) ?_
  refine rg_n (fun _ _ _ _ => rfl) ?_
  refine rg_newA (m := 2) (i := 53) rfl (by omega) (by decide +kernel) (by omega) ?_
  refine rg_putP (n := 0) rfl ?_
  refine rg_n (fun _ _ _ _ => rfl) ?_
  refine rg_new (i := 54) (by decide +kernel) (by omega) ?_
  refine rg_n (fun _ _ _ _ => rfl) ?_
  refine rg_ctor (i := 54) (by decide +kernel) rfl rfl (Nat.le_of_ble_eq_true rfl) (by decide) (by show 1 ≤ mlOf 28; decide) (pa_m (n := 54) (by decide +kernel) (by omega)) ?_
  refine rg_putP (n := 0) rfl ?_
  refine rg_n (fun _ _ _ _ => rfl) ?_
  refine rg_new (i := 137) (by decide +kernel) (by omega) ?_
  refine rg_n (fun _ _ _ _ => rfl) ?_
  refine rg_ctor (i := 137) (by decide +kernel) rfl rfl (Nat.le_of_ble_eq_true rfl) (by decide) (by show 1 ≤ mlOf 28; decide) (pa_m (n := 137) (by decide +kernel) (by omega)) ?_
  refine rg_putP (n := 0) rfl ?_
  refine rg_n (fun _ _ _ _ => rfl) ?_
  refine rg_new (i := 220) (by decide +kernel) (by omega) ?_
  refine rg_n (fun _ _ _ _ => rfl) ?_
  refine rg_ctor (i := 220) (by decide +kernel) rfl rfl (Nat.le_of_ble_eq_true rfl) (by decide) (by show 1 ≤ mlOf 16; decide) (mo_m (n := 220) (by decide +kernel) (by omega)) ?_
  refine rg_putP (n := 0) rfl ?_
  refine rg_n (fun _ _ _ _ => rfl) ?_
  refine rg_new (i := 225) (by decide +kernel) (by omega) ?_
  refine rg_n (fun _ _ _ _ => rfl) ?_
  refine rg_ctor (i := 225) (by decide +kernel) rfl rfl (Nat.le_of_ble_eq_true rfl) (by decide) (by show 1 ≤ mlOf 16; decide) (mo_m (n := 225) (by decide +kernel) (by omega)) ?_
  refine rg_putP (n := 0) rfl ?_
  refine rg_n (fun _ _ _ _ => rfl) ?_
  refine rg_new (i := 230) (by decide +kernel) (by omega) ?_
  refine rg_n (fun _ _ _ _ => rfl) ?_
  refine rg_ctor (i := 230) (by decide +kernel) rfl rfl (Nat.le_of_ble_eq_true rfl) (by decide) (by show 1 ≤ mlOf 16; decide) (mo_m (n := 230) (by decide +kernel) (by omega)) ?_
  refine rg_putP (n := 0) rfl ?_
  refine rg_n (fun _ _ _ _ => rfl) ?_
  refine rg_new (i := 235) (by decide +kernel) (by omega) ?_
  refine rg_n (fun _ _ _ _ => rfl) ?_
  refine rg_ctor (i := 235) (by decide +kernel) rfl rfl (Nat.le_of_ble_eq_true rfl) (by decide) (by show 1 ≤ mlOf 78; decide) (tp_m (n := 235) (by decide +kernel) (by omega)) ?_
  refine rg_putP (n := 0) rfl ?_
  refine rg_n (fun _ _ _ _ => rfl) ?_
  refine rg_new (i := 239) (by decide +kernel) (by omega) ?_
  refine rg_n (fun _ _ _ _ => rfl) ?_
  refine rg_n (fun _ _ _ _ => rfl) ?_
  refine rg_getP (n := 0) rfl rfl ?_
  refine rg_ctor (i := 239) (by decide +kernel) rfl rfl (Nat.le_of_ble_eq_true rfl) (by decide) (by show 2 ≤ mlOf 33; decide) (rd_m (n := 239) (by decide +kernel) (by omega) 235) ?_
  refine rg_putP (n := 0) rfl ?_
  refine rg_n (fun _ _ _ _ => rfl) ?_
  refine rg_new (i := 240) (by decide +kernel) (by omega) ?_
  refine rg_n (fun _ _ _ _ => rfl) ?_
  refine rg_ctor (i := 240) (by decide +kernel) rfl rfl (Nat.le_of_ble_eq_true rfl) (by decide) (by show 1 ≤ mlOf 91; decide) (tx_m (n := 240) (by decide +kernel) (by omega)) ?_
  refine rg_putP (n := 0) rfl ?_
  refine rg_n (fun _ _ _ _ => rfl) ?_
  refine rg_new (i := 247) (by decide +kernel) (by omega) ?_
  refine rg_n (fun _ _ _ _ => rfl) ?_
  refine rg_ctor (i := 247) (by decide +kernel) rfl rfl (Nat.le_of_ble_eq_true rfl) (by decide) (by show 1 ≤ mlOf 9; decide) (ca_m (n := 247) (by decide +kernel) (by omega)) ?_
  refine rg_putP (n := 0) rfl ?_
  refine rg_n (fun _ _ _ _ => rfl) ?_
  refine rg_n (fun _ _ _ _ => rfl) ?_
  refine rg_newA (m := 38) (i := 249) rfl (by omega) (by decide +kernel) (by omega) ?_
  refine rg_putP (n := 0) rfl ?_
  refine rg_n (fun _ _ _ _ => rfl) ?_
  refine rg_new (i := 250) (by decide +kernel) (by omega) ?_
  refine rg_n (fun _ _ _ _ => rfl) ?_
  refine rg_n (fun _ _ _ _ => rfl) ?_
  refine rg_getP (n := 0) rfl rfl ?_
  refine rg_n (fun _ _ _ _ => rfl) ?_
  refine rg_getP (n := 0) rfl rfl ?_
  refine rg_ctor (i := 250) (by decide +kernel) rfl rfl (Nat.le_of_ble_eq_true rfl) (by decide) (by show 3 ≤ mlOf 56; decide) (sl_m (n := 250) (by decide +kernel) (by omega) 247 1 2 (by omega) rfl rfl) ?_
  refine rg_putP (n := 0) rfl ?_
  refine rg_n (fun _ _ _ _ => rfl) ?_
  refine rg_new (i := 254) (by decide +kernel) (by omega) ?_
  refine rg_n (fun _ _ _ _ => rfl) ?_
  refine rg_ctor (i := 254) (by decide +kernel) rfl rfl (Nat.le_of_ble_eq_true rfl) (by decide) (by show 1 ≤ mlOf 65; decide) (st_m (n := 254) (by decide +kernel) (by omega)) ?_
  refine rg_putP (n := 0) rfl ?_
  refine rg_n (fun _ _ _ _ => rfl) ?_
  refine rg_new (i := 260) (by decide +kernel) (by omega) ?_
  refine rg_n (fun _ _ _ _ => rfl) ?_
  refine rg_ctor (i := 260) (by decide +kernel) rfl rfl (Nat.le_of_ble_eq_true rfl) (by decide) (by show 1 ≤ mlOf 97; decide) (wa_m (n := 260) (by decide +kernel) (by omega)) ?_
  refine rg_putP (n := 0) rfl ?_
  refine rg_n (fun _ _ _ _ => rfl) ?_
  refine rg_n (fun _ _ _ _ => rfl) ?_
  refine rg_newA (m := 20) (i := 262) rfl (by omega) (by decide +kernel) (by omega) ?_
  refine rg_putP (n := 0) rfl ?_
  refine rg_n (fun _ _ _ _ => rfl) ?_
  refine rg_new (i := 263) (by decide +kernel) (by omega) ?_
  refine rg_n (fun _ _ _ _ => rfl) ?_
  refine rg_ctor (i := 263) (by decide +kernel) rfl rfl (Nat.le_of_ble_eq_true rfl) (by decide) (by show 1 ≤ mlOf 24; decide) (no_m (n := 263) (by decide +kernel) (by omega)) ?_
  refine rg_putP (n := 0) rfl ?_
  refine rg_n (fun _ _ _ _ => rfl) ?_
  refine rg_n (fun _ _ _ _ => rfl) ?_
  refine rg_castS (s2 := 7087) rfl ?_
  refine rg_cast ?_ mp_l
  unfold mpS
  simp only [List.append_assoc, List.cons_append, List.nil_append]
  rfl
end CP
