-- Mo_thatCanBe
abbrev t268_72 : List hOp := oLdI 1 :: oRetI :: []
abbrev t268_68 : List hOp := oBin (fun x y => x ||| y) :: oStI 1 :: oInc 2 1 :: oGoto 4 :: t268_72
abbrev t268_67 : List hOp := oPushI 0 :: t268_68
abbrev t268_60 : List hOp := oLdI 1 :: oLdI 3 :: oIf0 cEq 67 :: oPushI 1 :: oLdI 2 :: oBin (fun x y => x <<< (y &&& 31)) :: oGoto 68 :: t268_67
abbrev t268_57 : List hOp := oStI 3 :: oInc 4 1 :: oGoto 20 :: t268_60
abbrev t268_56 : List hOp := oPushI 0 :: t268_57
abbrev t268_20 : List hOp := oLdI 4 :: oLdA 0 :: oGetP 12 3 :: oPushI 0 :: oALdI 13 :: oIf cGe 60 :: oLdI 3 :: oIf0 cEq 56 :: oLdA 0 :: oGetP 12 46 :: oPushI 8 :: oLdA 0 :: oGetP 12 3 :: oPushI 56 :: oPushI 2 :: oLdI 4 :: oBin (fun x y => x * y) :: oBin (fun x y => x + y) :: oALdI 13 :: oBin (fun x y => x * y) :: oLdI 2 :: oBin (fun x y => x + y) :: oALdI 13 :: oLdA 0 :: oGetP 12 3 :: oPushI 56 :: oPushI 2 :: oLdI 4 :: oBin (fun x y => x * y) :: oBin (fun x y => x + y) :: oPushI 1 :: oBin (fun x y => x + y) :: oALdI 13 :: oIf cNe 56 :: oPushI 1 :: oGoto 57 :: t268_56
abbrev t268_17 : List hOp := oStI 3 :: oPushI 0 :: oStI 4 :: t268_20
abbrev t268_16 : List hOp := oPushI 0 :: t268_17
abbrev t268_4 : List hOp := oLdI 2 :: oPushI 8 :: oIf cGe 72 :: oLdA 0 :: oGetP 12 3 :: oPushI 32 :: oLdI 2 :: oBin (fun x y => x + y) :: oALdI 13 :: oIf0 cEq 16 :: oPushI 1 :: oGoto 17 :: t268_16
abbrev t268_0 : List hOp := oPushI 0 :: oStI 1 :: oPushI 0 :: oStI 2 :: t268_4
theorem e268_0 : (opsOf 268).drop 0 = t268_0 := rfl
theorem e268_4 : (opsOf 268).drop 4 = t268_4 := rfl
theorem e268_16 : (opsOf 268).drop 16 = t268_16 := rfl
theorem e268_17 : (opsOf 268).drop 17 = t268_17 := rfl
theorem e268_20 : (opsOf 268).drop 20 = t268_20 := rfl
theorem e268_56 : (opsOf 268).drop 56 = t268_56 := rfl
theorem e268_57 : (opsOf 268).drop 57 = t268_57 := rfl
theorem e268_60 : (opsOf 268).drop 60 = t268_60 := rfl
theorem e268_67 : (opsOf 268).drop 67 = t268_67 := rfl
theorem e268_68 : (opsOf 268).drop 68 = t268_68 := rfl
theorem e268_72 : (opsOf 268).drop 72 = t268_72 := rfl
def q_Mo_thatCanBe_20 (v2 : Int32) (k60 : Int32 → hG → hO Int32) (k20 : Int32 → Int32 → hG → hO Int32) (v3 : Int32) (v4 : Int32) (g : hG) : hO Int32 :=
  gd (0 : Int32) 5468 <| if (gI g 369 (0 : Int32).toNatClampNeg) ≤ v4 then (k60 v3 g) else (if v3 = (0 : Int32) then (k20 (0 : Int32) (v4 + (1 : Int32)) g) else (gd ((56 : Int32) + ((2 : Int32) * v4)) 5468 <| gd (((8 : Int32) * (gI g 369 ((56 : Int32) + ((2 : Int32) * v4)).toNatClampNeg)) + v2) 248 <| gd (((56 : Int32) + ((2 : Int32) * v4)) + (1 : Int32)) 5468 <| if (gI g 393 (((8 : Int32) * (gI g 369 ((56 : Int32) + ((2 : Int32) * v4)).toNatClampNeg)) + v2).toNatClampNeg) = (gI g 369 (((56 : Int32) + ((2 : Int32) * v4)) + (1 : Int32)).toNatClampNeg) then (k20 (1 : Int32) (v4 + (1 : Int32)) g) else (k20 (0 : Int32) (v4 + (1 : Int32)) g)))
def q_Mo_thatCanBe_20L (v2 : Int32) (k60 : Int32 → hG → hO Int32) : Nat → Int32 → Int32 → hG → hO Int32
  | 0 => fun _ _ _ => none
  | n + 1 => fun v3 v4 g => q_Mo_thatCanBe_20 v2 k60 (q_Mo_thatCanBe_20L v2 k60 n) v3 v4 g
theorem q_Mo_thatCanBe_20L_s (v2 : Int32) (k60 : Int32 → hG → hO Int32) (n : Nat) (v3 : Int32) (v4 : Int32) (g : hG) : q_Mo_thatCanBe_20L v2 k60 (n + 1) v3 v4 g = q_Mo_thatCanBe_20 v2 k60 (q_Mo_thatCanBe_20L v2 k60 n) v3 v4 g := rfl
theorem th268_20 {d : Nat} {v2 : Int32} {k60 : Int32 → hG → hO Int32} {k20 : Int32 → Int32 → hG → hO Int32} {v3 : Int32} {v4 : Int32} {u1 : Option Value} (hk60 : ∀ (x3 : Int32) (y4 : Option Value) (g : hG), Frz g → Tri wI d 268 t268_60 [some (.ref 367), u1, some (.int v2), some (.int x3), y4] [] g (k60 x3 g)) (hk20 : ∀ (x3 : Int32) (x4 : Int32) (g : hG), Frz g → Tri wI d 268 t268_20 [some (.ref 367), u1, some (.int v2), some (.int x3), some (.int x4)] [] g (k20 x3 x4 g)) (hu1 : isL (some u1) = false) {g : hG} (hF : Frz g) : Tri wI d 268 t268_20 [some (.ref 367), u1, some (.int v2), some (.int v3), some (.int v4)] [] g (q_Mo_thatCanBe_20 v2 k60 k20 v3 v4 g) := by
  unfold q_Mo_thatCanBe_20
  refine tr_ldI rfl (tr_ldA rfl (tr_getP (b := 369) (fk_367 hF) (fp_367_3 hF) (tr_pushI (tr_aldI (fk_369 hF) (fl_369 hF) (fun _ => ?_)))))
  refine tr_ifj e268_60 (c_ge _ _) (fun hc3 => ?_) (fun hc3 => ?_)
  · exact hk60 _ _ _ hF
  · refine tr_ldI rfl (?_)
    refine tr_if0j e268_56 (c_eq _ _) (fun hc4 => ?_) (fun hc4 => ?_)
    · refine tr_pushI (tr_stI (Nat.le_of_ble_eq_true rfl) rfl rfl (tr_inc rfl rfl rfl (?_)))
      refine tr_gotoE e268_20 (?_)
      exact hk20 _ _ _ hF
    · refine tr_ldA rfl (tr_getP (b := 393) (fk_367 hF) (fp_367_46 hF) (tr_pushI (tr_ldA rfl (tr_getP (b := 369) (fk_367 hF) (fp_367_3 hF) (tr_pushI (?_))))))
      refine tr_pushI (tr_ldI rfl (tr_bin (v := ((2 : Int32) * v4)) rfl (tr_bin (v := ((56 : Int32) + ((2 : Int32) * v4))) rfl (tr_aldI (fk_369 hF) (fl_369 hF) (fun _ => tr_bin (v := ((8 : Int32) * (gI g 369 ((56 : Int32) + ((2 : Int32) * v4)).toNatClampNeg))) rfl (?_))))))
      refine tr_ldI rfl (tr_bin (v := (((8 : Int32) * (gI g 369 ((56 : Int32) + ((2 : Int32) * v4)).toNatClampNeg)) + v2)) rfl (tr_aldI (fk_393 hF) (fl_393 hF) (fun _ => tr_ldA rfl (tr_getP (b := 369) (fk_367 hF) (fp_367_3 hF) (tr_pushI (?_))))))
      refine tr_pushI (tr_ldI rfl (tr_bin (v := ((2 : Int32) * v4)) rfl (tr_bin (v := ((56 : Int32) + ((2 : Int32) * v4))) rfl (tr_pushI (tr_bin (v := (((56 : Int32) + ((2 : Int32) * v4)) + (1 : Int32))) rfl (?_))))))
      refine tr_aldI (fk_369 hF) (fl_369 hF) (fun _ => ?_)
      refine tr_ifn e268_56 (c_ne _ _) (fun hc5 => ?_) (fun hc5 => ?_)
      · refine tr_pushI (tr_stI (Nat.le_of_ble_eq_true rfl) rfl rfl (tr_inc rfl rfl rfl (?_)))
        refine tr_gotoE e268_20 (?_)
        exact hk20 _ _ _ hF
      · refine tr_pushI (?_)
        refine tr_gotoE e268_57 (?_)
        refine tr_stI (Nat.le_of_ble_eq_true rfl) rfl rfl (tr_inc rfl rfl rfl (?_))
        refine tr_gotoE e268_20 (?_)
        exact hk20 _ _ _ hF
theorem th268_20L {d : Nat} {v2 : Int32} {k60 : Int32 → hG → hO Int32} {u1 : Option Value} (hk60 : ∀ (x3 : Int32) (y4 : Option Value) (g : hG), Frz g → Tri wI d 268 t268_60 [some (.ref 367), u1, some (.int v2), some (.int x3), y4] [] g (k60 x3 g)) (hu1 : isL (some u1) = false) : ∀ (n : Nat) (v3 : Int32) (v4 : Int32) (g : hG), Frz g → Tri wI d 268 t268_20 [some (.ref 367), u1, some (.int v2), some (.int v3), some (.int v4)] [] g (q_Mo_thatCanBe_20L v2 k60 n v3 v4 g)
  | 0 => fun _ _ _ _ => Tri.none_
  | n + 1 => fun _ _ g hF => th268_20 hk60 (th268_20L hk60 hu1 n) hu1 hF
def q_Mo_thatCanBe_17 (v1 : Int32) (v2 : Int32) (k4 : Int32 → Int32 → hG → hO Int32) (w0 : Int32) (g : hG) : hO Int32 :=
  q_Mo_thatCanBe_20L v2 (fun x6 g8 => if x6 = (0 : Int32) then (k4 (v1 ||| (0 : Int32)) (v2 + (1 : Int32)) g8) else (k4 (v1 ||| (shl (1 : Int32) v2)) (v2 + (1 : Int32)) g8)) FU w0 (0 : Int32) g
theorem th268_17 {d : Nat} {v1 : Int32} {v2 : Int32} {k4 : Int32 → Int32 → hG → hO Int32} {w0 : Int32} {u3 : Option Value} {u4 : Option Value} (hk4 : ∀ (x1 : Int32) (x2 : Int32) (y3 : Option Value) (y4 : Option Value) (_ : isL (some y3) = false) (g : hG), Frz g → Tri wI d 268 t268_4 [some (.ref 367), some (.int x1), some (.int x2), y3, y4] [] g (k4 x1 x2 g)) (hu3 : isL (some u3) = false) {g : hG} (hF : Frz g) : Tri wI d 268 t268_17 [some (.ref 367), some (.int v1), some (.int v2), u3, u4] [.int w0] g (q_Mo_thatCanBe_17 v1 v2 k4 w0 g) := by
  unfold q_Mo_thatCanBe_17
  refine tr_stI (Nat.le_of_ble_eq_true rfl) rfl rfl (tr_pushI (tr_stI (Nat.le_of_ble_eq_true rfl) rfl rfl (?_)))
  refine th268_20L (fun x6 y7 g8 hF9 => ?_) rfl FU _ _ _ hF
  · refine tr_ldI rfl (tr_ldI rfl (?_))
    refine tr_if0j e268_67 (c_eq _ _) (fun hc10 => ?_) (fun hc10 => ?_)
    · refine tr_pushI (tr_bin (v := (v1 ||| (0 : Int32))) rfl (tr_stI (Nat.le_of_ble_eq_true rfl) rfl rfl (tr_inc rfl rfl rfl (?_))))
      refine tr_gotoE e268_4 (?_)
      exact hk4 _ _ _ _ rfl _ hF9
    · refine tr_pushI (tr_ldI rfl (tr_bin (v := (shl (1 : Int32) v2)) rfl (?_)))
      refine tr_gotoE e268_68 (?_)
      refine tr_bin (v := (v1 ||| (shl (1 : Int32) v2))) rfl (tr_stI (Nat.le_of_ble_eq_true rfl) rfl rfl (tr_inc rfl rfl rfl (?_)))
      refine tr_gotoE e268_4 (?_)
      exact hk4 _ _ _ _ rfl _ hF9
def q_Mo_thatCanBe_4 (k72 : Int32 → hG → hO Int32) (k4 : Int32 → Int32 → hG → hO Int32) (v1 : Int32) (v2 : Int32) (g : hG) : hO Int32 :=
  if (8 : Int32) ≤ v2 then (k72 v1 g) else (gd ((32 : Int32) + v2) 5468 <| q_Mo_thatCanBe_17 v1 v2 k4 (if (gI g 369 ((32 : Int32) + v2).toNatClampNeg) = (0 : Int32) then (0 : Int32) else (1 : Int32)) g)
def q_Mo_thatCanBe_4L (k72 : Int32 → hG → hO Int32) : Nat → Int32 → Int32 → hG → hO Int32
  | 0 => fun _ _ _ => none
  | n + 1 => fun v1 v2 g => q_Mo_thatCanBe_4 k72 (q_Mo_thatCanBe_4L k72 n) v1 v2 g
theorem q_Mo_thatCanBe_4L_s (k72 : Int32 → hG → hO Int32) (n : Nat) (v1 : Int32) (v2 : Int32) (g : hG) : q_Mo_thatCanBe_4L k72 (n + 1) v1 v2 g = q_Mo_thatCanBe_4 k72 (q_Mo_thatCanBe_4L k72 n) v1 v2 g := rfl
theorem th268_4 {d : Nat} {k72 : Int32 → hG → hO Int32} {k4 : Int32 → Int32 → hG → hO Int32} {v1 : Int32} {v2 : Int32} {u3 : Option Value} {u4 : Option Value} (hk72 : ∀ (x1 : Int32) (y2 : Option Value) (y3 : Option Value) (y4 : Option Value) (_ : isL (some y2) = false) (_ : isL (some y3) = false) (g : hG), Frz g → Tri wI d 268 t268_72 [some (.ref 367), some (.int x1), y2, y3, y4] [] g (k72 x1 g)) (hk4 : ∀ (x1 : Int32) (x2 : Int32) (y3 : Option Value) (y4 : Option Value) (_ : isL (some y3) = false) (g : hG), Frz g → Tri wI d 268 t268_4 [some (.ref 367), some (.int x1), some (.int x2), y3, y4] [] g (k4 x1 x2 g)) (hu3 : isL (some u3) = false) {g : hG} (hF : Frz g) : Tri wI d 268 t268_4 [some (.ref 367), some (.int v1), some (.int v2), u3, u4] [] g (q_Mo_thatCanBe_4 k72 k4 v1 v2 g) := by
  unfold q_Mo_thatCanBe_4
  refine tr_ldI rfl (tr_pushI (?_))
  refine tr_ifj e268_72 (c_ge _ _) (fun hc1 => ?_) (fun hc1 => ?_)
  · exact hk72 _ _ _ _ rfl hu3 _ hF
  · refine tr_ldA rfl (tr_getP (b := 369) (fk_367 hF) (fp_367_3 hF) (tr_pushI (tr_ldI rfl (tr_bin (v := ((32 : Int32) + v2)) rfl (tr_aldI (fk_369 hF) (fl_369 hF) (fun _ => ?_))))))
    refine tr_if0cE e268_16 (c_eq _ _) (fun hc11 => ?_) (fun hc11 => ?_)
    · rw [if_pos hc11]
      refine tr_pushI (?_)
      exact th268_17 hk4 hu3 hF
    · rw [if_neg hc11]
      refine tr_pushI (?_)
      refine tr_gotoE e268_17 (?_)
      exact th268_17 hk4 hu3 hF
theorem th268_4L {d : Nat} {k72 : Int32 → hG → hO Int32} (hk72 : ∀ (x1 : Int32) (y2 : Option Value) (y3 : Option Value) (y4 : Option Value) (_ : isL (some y2) = false) (_ : isL (some y3) = false) (g : hG), Frz g → Tri wI d 268 t268_72 [some (.ref 367), some (.int x1), y2, y3, y4] [] g (k72 x1 g)) : ∀ (n : Nat) (v1 : Int32) (v2 : Int32) (u3 : Option Value) (u4 : Option Value) (_ : isL (some u3) = false) (g : hG), Frz g → Tri wI d 268 t268_4 [some (.ref 367), some (.int v1), some (.int v2), u3, u4] [] g (q_Mo_thatCanBe_4L k72 n v1 v2 g)
  | 0 => fun _ _ _ _ _ _ _ => Tri.none_
  | n + 1 => fun _ _ _ _ z3 g hF => th268_4 hk72 (th268_4L hk72 n) z3 hF
def q_Mo_thatCanBe (g : hG) : hO Int32 :=
  q_Mo_thatCanBe_4L (fun x12 g16 => some (x12, g16)) FU (0 : Int32) (0 : Int32) g
theorem tm268 {d : Nat} {g : hG} (hF : Frz g) : TM wI d 268 [.ref 367] g (q_Mo_thatCanBe g) := by
  refine TM.ofE e268_0 (lv := [some (.ref 367), none, none, none, none]) rfl ?_
  unfold q_Mo_thatCanBe
  refine tr_pushI (tr_stI (Nat.le_of_ble_eq_true rfl) rfl rfl (tr_pushI (tr_stI (Nat.le_of_ble_eq_true rfl) rfl rfl (?_))))
  refine th268_4L (fun x12 y13 y14 y15 zy13 zy14 g16 hF17 => ?_) FU _ _ _ _ rfl _ hF
  · refine tr_ldI rfl (?_)
    exact tr_retI hF17
-- Mo_canBe
abbrev t269_0 : List hOp := oLdA 0 :: oPushI 0 :: oPutI 12 0 :: oLdA 0 :: oInvV 267 12 0 :: oLdA 0 :: oInvV 268 12 0 :: oRetI :: []
theorem e269_0 : (opsOf 269).drop 0 = t269_0 := rfl
def q_Mo_canBe (g : hG) : hO Int32 :=
  wr (sI g 367 0 (0 : Int32)) fun g1 => bnd (q_Mo_layPlaces g1) fun _ g3 => bnd (q_Mo_thatCanBe g3) fun r7 g5 => some (r7, g5)
theorem tm269 {d : Nat} (hd : 8 ≤ d) {g : hG} (hF : Frz g) : TM wI d 269 [.ref 367] g (q_Mo_canBe g) := by
  obtain ⟨e, rfl⟩ : ∃ e, d = e + 1 := ⟨d - 1, by omega⟩
  have he := hd
  refine TM.ofE e269_0 (lv := [some (.ref 367)]) rfl ?_
  unfold q_Mo_canBe
  refine tr_ldA rfl (tr_pushI (tr_putI hF (fk_367 hF) (fun g1 _ hF2 => tr_ldA rfl (?_))))
  refine tr_invVU rfl rfl (fk_367 hF2) (Nat.le_of_ble_eq_true rfl) (by decide) (Nat.le_of_ble_eq_true rfl) (tm267 (by omega) hF2) (fun _ g3 _ hF4 => ?_)
  refine tr_ldA rfl (?_)
  refine tr_invVI rfl rfl (fk_367 hF4) (Nat.le_of_ble_eq_true rfl) (by decide) (Nat.le_of_ble_eq_true rfl) (tm268 hF4) (fun r7 g5 _ hF6 => ?_)
  exact tr_retI hF6
-- Mo_mostAlike
abbrev t270_45 : List hOp := oLdI 3 :: oRetI :: []
abbrev t270_42 : List hOp := oStI 3 :: oInc 4 1 :: oGoto 4 :: t270_45
abbrev t270_41 : List hOp := oLdI 3 :: t270_42
abbrev t270_36 : List hOp := oLdI 5 :: oLdI 3 :: oIf cLe 41 :: oLdI 5 :: oGoto 42 :: t270_41
abbrev t270_32 : List hOp := oBin (fun x y => x + y) :: oStI 5 :: oInc 6 1 :: oGoto 11 :: t270_36
abbrev t270_31 : List hOp := oPushI 0 :: t270_32
abbrev t270_11 : List hOp := oLdI 6 :: oPushI 8 :: oIf cGe 36 :: oLdI 5 :: oLdI 1 :: oLdI 6 :: oInvS 166 2 :: oIf0 cEq 31 :: oLdA 0 :: oGetP 12 46 :: oPushI 8 :: oLdI 2 :: oBin (fun x y => x * y) :: oLdI 6 :: oBin (fun x y => x + y) :: oALdI 13 :: oLdI 4 :: oIf cNe 31 :: oPushI 1 :: oGoto 32 :: t270_31
abbrev t270_4 : List hOp := oLdI 4 :: oPushI 25 :: oIf cGe 45 :: oPushI 0 :: oStI 5 :: oPushI 0 :: oStI 6 :: t270_11
abbrev t270_0 : List hOp := oPushI 0 :: oStI 3 :: oPushI 0 :: oStI 4 :: t270_4
theorem e270_0 : (opsOf 270).drop 0 = t270_0 := rfl
theorem e270_4 : (opsOf 270).drop 4 = t270_4 := rfl
theorem e270_11 : (opsOf 270).drop 11 = t270_11 := rfl
theorem e270_31 : (opsOf 270).drop 31 = t270_31 := rfl
theorem e270_32 : (opsOf 270).drop 32 = t270_32 := rfl
theorem e270_36 : (opsOf 270).drop 36 = t270_36 := rfl
theorem e270_41 : (opsOf 270).drop 41 = t270_41 := rfl
theorem e270_42 : (opsOf 270).drop 42 = t270_42 := rfl
theorem e270_45 : (opsOf 270).drop 45 = t270_45 := rfl
def q_Mo_mostAlike_11 (v1 : Int32) (v2 : Int32) (v4 : Int32) (k36 : Int32 → hG → hO Int32) (k11 : Int32 → Int32 → hG → hO Int32) (v5 : Int32) (v6 : Int32) (g : hG) : hO Int32 :=
  if (8 : Int32) ≤ v6 then (k36 v5 g) else (bnd (q_Mo_is v1 v6 g) fun r5 g3 => if r5 = (0 : Int32) then (k11 (v5 + (0 : Int32)) (v6 + (1 : Int32)) g3) else (gd (((8 : Int32) * v2) + v6) 248 <| if (gI g3 393 (((8 : Int32) * v2) + v6).toNatClampNeg) = v4 then (k11 (v5 + (1 : Int32)) (v6 + (1 : Int32)) g3) else (k11 (v5 + (0 : Int32)) (v6 + (1 : Int32)) g3)))
def q_Mo_mostAlike_11L (v1 : Int32) (v2 : Int32) (v4 : Int32) (k36 : Int32 → hG → hO Int32) : Nat → Int32 → Int32 → hG → hO Int32
  | 0 => fun _ _ _ => none
  | n + 1 => fun v5 v6 g => q_Mo_mostAlike_11 v1 v2 v4 k36 (q_Mo_mostAlike_11L v1 v2 v4 k36 n) v5 v6 g
theorem q_Mo_mostAlike_11L_s (v1 : Int32) (v2 : Int32) (v4 : Int32) (k36 : Int32 → hG → hO Int32) (n : Nat) (v5 : Int32) (v6 : Int32) (g : hG) : q_Mo_mostAlike_11L v1 v2 v4 k36 (n + 1) v5 v6 g = q_Mo_mostAlike_11 v1 v2 v4 k36 (q_Mo_mostAlike_11L v1 v2 v4 k36 n) v5 v6 g := rfl
theorem th270_11 {e : Nat} (he : 1 ≤ e + 1) {v1 : Int32} {v2 : Int32} {v4 : Int32} {k36 : Int32 → hG → hO Int32} {k11 : Int32 → Int32 → hG → hO Int32} {v5 : Int32} {v6 : Int32} {u3 : Option Value} (hk36 : ∀ (x5 : Int32) (y6 : Option Value) (g : hG), Frz g → Tri wI (e + 1) 270 t270_36 [some (.ref 367), some (.int v1), some (.int v2), u3, some (.int v4), some (.int x5), y6] [] g (k36 x5 g)) (hk11 : ∀ (x5 : Int32) (x6 : Int32) (g : hG), Frz g → Tri wI (e + 1) 270 t270_11 [some (.ref 367), some (.int v1), some (.int v2), u3, some (.int v4), some (.int x5), some (.int x6)] [] g (k11 x5 x6 g)) (hu3 : isL (some u3) = false) {g : hG} (hF : Frz g) : Tri wI (e + 1) 270 t270_11 [some (.ref 367), some (.int v1), some (.int v2), u3, some (.int v4), some (.int v5), some (.int v6)] [] g (q_Mo_mostAlike_11 v1 v2 v4 k36 k11 v5 v6 g) := by
  unfold q_Mo_mostAlike_11
  refine tr_ldI rfl (tr_pushI (?_))
  refine tr_ifj e270_36 (c_ge _ _) (fun hc2 => ?_) (fun hc2 => ?_)
  · exact hk36 _ _ _ hF
  · refine tr_ldI rfl (tr_ldI rfl (tr_ldI rfl (?_)))
    refine tr_invSI rfl rfl (Nat.le_of_ble_eq_true rfl) (Nat.le_of_ble_eq_true rfl) (by decide) (Nat.le_of_ble_eq_true rfl) (tm166 hF) (fun r5 g3 _ hF4 => ?_)
    refine tr_if0j e270_31 (c_eq _ _) (fun hc6 => ?_) (fun hc6 => ?_)
    · refine tr_pushI (tr_bin (v := (v5 + (0 : Int32))) rfl (tr_stI (Nat.le_of_ble_eq_true rfl) rfl rfl (tr_inc rfl rfl rfl (?_))))
      refine tr_gotoE e270_11 (?_)
      exact hk11 _ _ _ hF4
    · refine tr_ldA rfl (tr_getP (b := 393) (fk_367 hF4) (fp_367_46 hF4) (tr_pushI (tr_ldI rfl (tr_bin (v := ((8 : Int32) * v2)) rfl (tr_ldI rfl (?_))))))
      refine tr_bin (v := (((8 : Int32) * v2) + v6)) rfl (tr_aldI (fk_393 hF4) (fl_393 hF4) (fun _ => tr_ldI rfl (?_)))
      refine tr_ifn e270_31 (c_ne _ _) (fun hc7 => ?_) (fun hc7 => ?_)
      · refine tr_pushI (tr_bin (v := (v5 + (0 : Int32))) rfl (tr_stI (Nat.le_of_ble_eq_true rfl) rfl rfl (tr_inc rfl rfl rfl (?_))))
        refine tr_gotoE e270_11 (?_)
        exact hk11 _ _ _ hF4
      · refine tr_pushI (?_)
        refine tr_gotoE e270_32 (?_)
        refine tr_bin (v := (v5 + (1 : Int32))) rfl (tr_stI (Nat.le_of_ble_eq_true rfl) rfl rfl (tr_inc rfl rfl rfl (?_)))
        refine tr_gotoE e270_11 (?_)
        exact hk11 _ _ _ hF4
theorem th270_11L {e : Nat} (he : 1 ≤ e + 1) {v1 : Int32} {v2 : Int32} {v4 : Int32} {k36 : Int32 → hG → hO Int32} {u3 : Option Value} (hk36 : ∀ (x5 : Int32) (y6 : Option Value) (g : hG), Frz g → Tri wI (e + 1) 270 t270_36 [some (.ref 367), some (.int v1), some (.int v2), u3, some (.int v4), some (.int x5), y6] [] g (k36 x5 g)) (hu3 : isL (some u3) = false) : ∀ (n : Nat) (v5 : Int32) (v6 : Int32) (g : hG), Frz g → Tri wI (e + 1) 270 t270_11 [some (.ref 367), some (.int v1), some (.int v2), u3, some (.int v4), some (.int v5), some (.int v6)] [] g (q_Mo_mostAlike_11L v1 v2 v4 k36 n v5 v6 g)
  | 0 => fun _ _ _ _ => Tri.none_
  | n + 1 => fun _ _ g hF => th270_11 he hk36 (th270_11L he hk36 hu3 n) hu3 hF
def q_Mo_mostAlike_4 (v1 : Int32) (v2 : Int32) (k45 : Int32 → hG → hO Int32) (k4 : Int32 → Int32 → hG → hO Int32) (v3 : Int32) (v4 : Int32) (g : hG) : hO Int32 :=
  if (25 : Int32) ≤ v4 then (k45 v3 g) else (q_Mo_mostAlike_11L v1 v2 v4 (fun x8 g10 => if x8 ≤ v3 then (k4 v3 (v4 + (1 : Int32)) g10) else (k4 x8 (v4 + (1 : Int32)) g10)) FU (0 : Int32) (0 : Int32) g)
def q_Mo_mostAlike_4L (v1 : Int32) (v2 : Int32) (k45 : Int32 → hG → hO Int32) : Nat → Int32 → Int32 → hG → hO Int32
  | 0 => fun _ _ _ => none
  | n + 1 => fun v3 v4 g => q_Mo_mostAlike_4 v1 v2 k45 (q_Mo_mostAlike_4L v1 v2 k45 n) v3 v4 g
theorem q_Mo_mostAlike_4L_s (v1 : Int32) (v2 : Int32) (k45 : Int32 → hG → hO Int32) (n : Nat) (v3 : Int32) (v4 : Int32) (g : hG) : q_Mo_mostAlike_4L v1 v2 k45 (n + 1) v3 v4 g = q_Mo_mostAlike_4 v1 v2 k45 (q_Mo_mostAlike_4L v1 v2 k45 n) v3 v4 g := rfl
theorem th270_4 {e : Nat} (he : 1 ≤ e + 1) {v1 : Int32} {v2 : Int32} {k45 : Int32 → hG → hO Int32} {k4 : Int32 → Int32 → hG → hO Int32} {v3 : Int32} {v4 : Int32} {u5 : Option Value} {u6 : Option Value} (hk45 : ∀ (x3 : Int32) (y4 : Option Value) (y5 : Option Value) (y6 : Option Value) (_ : isL (some y4) = false) (_ : isL (some y5) = false) (g : hG), Frz g → Tri wI (e + 1) 270 t270_45 [some (.ref 367), some (.int v1), some (.int v2), some (.int x3), y4, y5, y6] [] g (k45 x3 g)) (hk4 : ∀ (x3 : Int32) (x4 : Int32) (y5 : Option Value) (y6 : Option Value) (_ : isL (some y5) = false) (g : hG), Frz g → Tri wI (e + 1) 270 t270_4 [some (.ref 367), some (.int v1), some (.int v2), some (.int x3), some (.int x4), y5, y6] [] g (k4 x3 x4 g)) (hu5 : isL (some u5) = false) {g : hG} (hF : Frz g) : Tri wI (e + 1) 270 t270_4 [some (.ref 367), some (.int v1), some (.int v2), some (.int v3), some (.int v4), u5, u6] [] g (q_Mo_mostAlike_4 v1 v2 k45 k4 v3 v4 g) := by
  unfold q_Mo_mostAlike_4
  refine tr_ldI rfl (tr_pushI (?_))
  refine tr_ifj e270_45 (c_ge _ _) (fun hc1 => ?_) (fun hc1 => ?_)
  · exact hk45 _ _ _ _ rfl hu5 _ hF
  · refine tr_pushI (tr_stI (Nat.le_of_ble_eq_true rfl) rfl rfl (tr_pushI (tr_stI (Nat.le_of_ble_eq_true rfl) rfl rfl (?_))))
    refine th270_11L he (fun x8 y9 g10 hF11 => ?_) rfl FU _ _ _ hF
    · refine tr_ldI rfl (tr_ldI rfl (?_))
      refine tr_ifj e270_41 (c_le _ _) (fun hc12 => ?_) (fun hc12 => ?_)
      · refine tr_ldI rfl (tr_stI (Nat.le_of_ble_eq_true rfl) rfl rfl (tr_inc rfl rfl rfl (?_)))
        refine tr_gotoE e270_4 (?_)
        exact hk4 _ _ _ _ rfl _ hF11
      · refine tr_ldI rfl (?_)
        refine tr_gotoE e270_42 (?_)
        refine tr_stI (Nat.le_of_ble_eq_true rfl) rfl rfl (tr_inc rfl rfl rfl (?_))
        refine tr_gotoE e270_4 (?_)
        exact hk4 _ _ _ _ rfl _ hF11
theorem th270_4L {e : Nat} (he : 1 ≤ e + 1) {v1 : Int32} {v2 : Int32} {k45 : Int32 → hG → hO Int32} (hk45 : ∀ (x3 : Int32) (y4 : Option Value) (y5 : Option Value) (y6 : Option Value) (_ : isL (some y4) = false) (_ : isL (some y5) = false) (g : hG), Frz g → Tri wI (e + 1) 270 t270_45 [some (.ref 367), some (.int v1), some (.int v2), some (.int x3), y4, y5, y6] [] g (k45 x3 g)) : ∀ (n : Nat) (v3 : Int32) (v4 : Int32) (u5 : Option Value) (u6 : Option Value) (_ : isL (some u5) = false) (g : hG), Frz g → Tri wI (e + 1) 270 t270_4 [some (.ref 367), some (.int v1), some (.int v2), some (.int v3), some (.int v4), u5, u6] [] g (q_Mo_mostAlike_4L v1 v2 k45 n v3 v4 g)
  | 0 => fun _ _ _ _ _ _ _ => Tri.none_
  | n + 1 => fun _ _ _ _ z5 g hF => th270_4 he hk45 (th270_4L he hk45 n) z5 hF
def q_Mo_mostAlike (v1 : Int32) (v2 : Int32) (g : hG) : hO Int32 :=
  q_Mo_mostAlike_4L v1 v2 (fun x13 g17 => some (x13, g17)) FU (0 : Int32) (0 : Int32) g
theorem tm270 {d : Nat} {v1 : Int32} {v2 : Int32} (hd : 1 ≤ d) {g : hG} (hF : Frz g) : TM wI d 270 [.ref 367, .int v1, .int v2] g (q_Mo_mostAlike v1 v2 g) := by
  obtain ⟨e, rfl⟩ : ∃ e, d = e + 1 := ⟨d - 1, by omega⟩
  have he := hd
  refine TM.ofE e270_0 (lv := [some (.ref 367), some (.int v1), some (.int v2), none, none, none, none]) rfl ?_
  unfold q_Mo_mostAlike
  refine tr_pushI (tr_stI (Nat.le_of_ble_eq_true rfl) rfl rfl (tr_pushI (tr_stI (Nat.le_of_ble_eq_true rfl) rfl rfl (?_))))
  refine th270_4L he (fun x13 y14 y15 y16 zy14 zy15 g17 hF18 => ?_) FU _ _ _ _ rfl _ hF
  · refine tr_ldI rfl (?_)
    exact tr_retI hF18
-- Mo_look
abbrev t271_53 : List hOp := oRetI :: []
abbrev t271_52 : List hOp := oLdI 3 :: t271_53
abbrev t271_48 : List hOp := oLdI 1 :: oIf0 cNe 52 :: oLdI 4 :: oGoto 53 :: t271_52
abbrev t271_45 : List hOp := oStI 3 :: oInc 5 1 :: oGoto 24 :: t271_48
abbrev t271_44 : List hOp := oLdI 3 :: t271_45
abbrev t271_38 : List hOp := oStI 4 :: oLdI 6 :: oLdI 3 :: oIf cGe 44 :: oLdI 6 :: oGoto 45 :: t271_44
abbrev t271_37 : List hOp := oLdI 4 :: t271_38
abbrev t271_24 : List hOp := oLdI 5 :: oPushI 30 :: oIf cGt 48 :: oLdA 0 :: oLdI 2 :: oLdI 5 :: oInvV 270 12 2 :: oStI 6 :: oLdI 6 :: oLdI 3 :: oIf cGe 37 :: oLdI 5 :: oGoto 38 :: t271_37
abbrev t271_18 : List hOp := oPushI 100000000 :: oStI 3 :: oPushI (-1) :: oStI 4 :: oPushI 0 :: oStI 5 :: t271_24
abbrev t271_16 : List hOp := oPushI (-1) :: oRetI :: t271_18
abbrev t271_0 : List hOp := oLdA 0 :: oPushI 0 :: oPutI 12 0 :: oLdA 0 :: oInvV 267 12 0 :: oLdA 0 :: oInvV 268 12 0 :: oStI 2 :: oLdI 1 :: oI2L :: oPushL 0 :: oPushL 1 :: oInvS 165 3 :: oIf0 cEq 16 :: oLdI 2 :: oIf0 cNe 18 :: t271_16
theorem e271_0 : (opsOf 271).drop 0 = t271_0 := rfl
theorem e271_16 : (opsOf 271).drop 16 = t271_16 := rfl
theorem e271_18 : (opsOf 271).drop 18 = t271_18 := rfl
theorem e271_24 : (opsOf 271).drop 24 = t271_24 := rfl
theorem e271_37 : (opsOf 271).drop 37 = t271_37 := rfl
theorem e271_38 : (opsOf 271).drop 38 = t271_38 := rfl
theorem e271_44 : (opsOf 271).drop 44 = t271_44 := rfl
theorem e271_45 : (opsOf 271).drop 45 = t271_45 := rfl
theorem e271_48 : (opsOf 271).drop 48 = t271_48 := rfl
theorem e271_52 : (opsOf 271).drop 52 = t271_52 := rfl
theorem e271_53 : (opsOf 271).drop 53 = t271_53 := rfl
def q_Mo_look_38 (v3 : Int32) (v5 : Int32) (v6 : Int32) (k24 : Int32 → Int32 → Int32 → hG → hO Int32) (w0 : Int32) (g : hG) : hO Int32 :=
  if v3 ≤ v6 then (k24 v3 w0 (v5 + (1 : Int32)) g) else (k24 v6 w0 (v5 + (1 : Int32)) g)
theorem th271_38 {e : Nat} (he : 8 ≤ e + 1) {v3 : Int32} {v5 : Int32} {v6 : Int32} {k24 : Int32 → Int32 → Int32 → hG → hO Int32} {w0 : Int32} {u1 : Option Value} {u2 : Option Value} {u4 : Option Value} (hk24 : ∀ (x3 : Int32) (x4 : Int32) (x5 : Int32) (y6 : Option Value) (g : hG), Frz g → Tri wI (e + 1) 271 t271_24 [some (.ref 367), u1, u2, some (.int x3), some (.int x4), some (.int x5), y6] [] g (k24 x3 x4 x5 g)) (hu1 : isL (some u1) = false) (hu2 : isL (some u2) = false) (hu4 : isL (some u4) = false) {g : hG} (hF : Frz g) : Tri wI (e + 1) 271 t271_38 [some (.ref 367), u1, u2, some (.int v3), u4, some (.int v5), some (.int v6)] [.int w0] g (q_Mo_look_38 v3 v5 v6 k24 w0 g) := by
  unfold q_Mo_look_38
  refine tr_stI (Nat.le_of_ble_eq_true rfl) rfl rfl (tr_ldI rfl (tr_ldI rfl (?_)))
  refine tr_ifj e271_44 (c_ge _ _) (fun hc18 => ?_) (fun hc18 => ?_)
  · refine tr_ldI rfl (tr_stI (Nat.le_of_ble_eq_true rfl) (lKill_id hu2) rfl (tr_inc rfl rfl rfl (?_)))
    refine tr_gotoE e271_24 (?_)
    exact hk24 _ _ _ _ _ hF
  · refine tr_ldI rfl (?_)
    refine tr_gotoE e271_45 (?_)
    refine tr_stI (Nat.le_of_ble_eq_true rfl) (lKill_id hu2) rfl (tr_inc rfl rfl rfl (?_))
    refine tr_gotoE e271_24 (?_)
    exact hk24 _ _ _ _ _ hF
def q_Mo_look_24 (v2 : Int32) (k48 : Int32 → Int32 → hG → hO Int32) (k24 : Int32 → Int32 → Int32 → hG → hO Int32) (v3 : Int32) (v4 : Int32) (v5 : Int32) (g : hG) : hO Int32 :=
  if (30 : Int32) < v5 then (k48 v3 v4 g) else (bnd (q_Mo_mostAlike v2 v5 g) fun r16 g14 => q_Mo_look_38 v3 v5 r16 k24 (if v3 ≤ r16 then v4 else v5) g14)
def q_Mo_look_24L (v2 : Int32) (k48 : Int32 → Int32 → hG → hO Int32) : Nat → Int32 → Int32 → Int32 → hG → hO Int32
  | 0 => fun _ _ _ _ => none
  | n + 1 => fun v3 v4 v5 g => q_Mo_look_24 v2 k48 (q_Mo_look_24L v2 k48 n) v3 v4 v5 g
theorem q_Mo_look_24L_s (v2 : Int32) (k48 : Int32 → Int32 → hG → hO Int32) (n : Nat) (v3 : Int32) (v4 : Int32) (v5 : Int32) (g : hG) : q_Mo_look_24L v2 k48 (n + 1) v3 v4 v5 g = q_Mo_look_24 v2 k48 (q_Mo_look_24L v2 k48 n) v3 v4 v5 g := rfl
theorem th271_24 {e : Nat} (he : 8 ≤ e + 1) {v2 : Int32} {k48 : Int32 → Int32 → hG → hO Int32} {k24 : Int32 → Int32 → Int32 → hG → hO Int32} {v3 : Int32} {v4 : Int32} {v5 : Int32} {u1 : Option Value} {u6 : Option Value} (hk48 : ∀ (x3 : Int32) (x4 : Int32) (y5 : Option Value) (y6 : Option Value) (_ : isL (some y5) = false) (g : hG), Frz g → Tri wI (e + 1) 271 t271_48 [some (.ref 367), u1, some (.int v2), some (.int x3), some (.int x4), y5, y6] [] g (k48 x3 x4 g)) (hk24 : ∀ (x3 : Int32) (x4 : Int32) (x5 : Int32) (y6 : Option Value) (g : hG), Frz g → Tri wI (e + 1) 271 t271_24 [some (.ref 367), u1, some (.int v2), some (.int x3), some (.int x4), some (.int x5), y6] [] g (k24 x3 x4 x5 g)) (hu1 : isL (some u1) = false) {g : hG} (hF : Frz g) : Tri wI (e + 1) 271 t271_24 [some (.ref 367), u1, some (.int v2), some (.int v3), some (.int v4), some (.int v5), u6] [] g (q_Mo_look_24 v2 k48 k24 v3 v4 v5 g) := by
  unfold q_Mo_look_24
  refine tr_ldI rfl (tr_pushI (?_))
  refine tr_ifj e271_48 (c_gt _ _) (fun hc13 => ?_) (fun hc13 => ?_)
  · exact hk48 _ _ _ _ rfl _ hF
  · refine tr_ldA rfl (tr_ldI rfl (tr_ldI rfl (?_)))
    refine tr_invVI rfl rfl (fk_367 hF) (Nat.le_of_ble_eq_true rfl) (by decide) (Nat.le_of_ble_eq_true rfl) (tm270 (by omega) hF) (fun r16 g14 _ hF15 => ?_)
    refine tr_stI (Nat.le_of_ble_eq_true rfl) rfl rfl (tr_ldI rfl (tr_ldI rfl (?_)))
    refine tr_ifcE e271_37 (c_ge _ _) (fun hc19 => ?_) (fun hc19 => ?_)
    · rw [if_pos hc19]
      refine tr_ldI rfl (?_)
      exact th271_38 he hk24 hu1 rfl rfl hF15
    · rw [if_neg hc19]
      refine tr_ldI rfl (?_)
      refine tr_gotoE e271_38 (?_)
      exact th271_38 he hk24 hu1 rfl rfl hF15
theorem th271_24L {e : Nat} (he : 8 ≤ e + 1) {v2 : Int32} {k48 : Int32 → Int32 → hG → hO Int32} {u1 : Option Value} (hk48 : ∀ (x3 : Int32) (x4 : Int32) (y5 : Option Value) (y6 : Option Value) (_ : isL (some y5) = false) (g : hG), Frz g → Tri wI (e + 1) 271 t271_48 [some (.ref 367), u1, some (.int v2), some (.int x3), some (.int x4), y5, y6] [] g (k48 x3 x4 g)) (hu1 : isL (some u1) = false) : ∀ (n : Nat) (v3 : Int32) (v4 : Int32) (v5 : Int32) (u6 : Option Value) (g : hG), Frz g → Tri wI (e + 1) 271 t271_24 [some (.ref 367), u1, some (.int v2), some (.int v3), some (.int v4), some (.int v5), u6] [] g (q_Mo_look_24L v2 k48 n v3 v4 v5 g)
  | 0 => fun _ _ _ _ _ _ => Tri.none_
  | n + 1 => fun _ _ _ _ g hF => th271_24 he hk48 (th271_24L he hk48 hu1 n) hu1 hF
def q_Mo_look (v1 : Int32) (g : hG) : hO Int32 :=
  wr (sI g 367 0 (0 : Int32)) fun g1 => bnd (q_Mo_layPlaces g1) fun _ g3 => bnd (q_Mo_thatCanBe g3) fun r7 g5 => bnd (q_Mo_in v1.toInt64 (0 : Int64) (1 : Int64) g5) fun r10 g8 => if r10 = (0 : Int32) then (some ((-1 : Int32), g8)) else (if r7 = (0 : Int32) then (some ((-1 : Int32), g8)) else (q_Mo_look_24L r7 (fun x20 x21 g24 => if v1 = (0 : Int32) then (some (x21, g24)) else (some (x20, g24))) FU (100000000 : Int32) (-1 : Int32) (0 : Int32) g8))
theorem tm271 {d : Nat} {v1 : Int32} (hd : 8 ≤ d) {g : hG} (hF : Frz g) : TM wI d 271 [.ref 367, .int v1] g (q_Mo_look v1 g) := by
  obtain ⟨e, rfl⟩ : ∃ e, d = e + 1 := ⟨d - 1, by omega⟩
  have he := hd
  refine TM.ofE e271_0 (lv := [some (.ref 367), some (.int v1), none, none, none, none, none]) rfl ?_
  unfold q_Mo_look
  refine tr_ldA rfl (tr_pushI (tr_putI hF (fk_367 hF) (fun g1 _ hF2 => tr_ldA rfl (?_))))
  refine tr_invVU rfl rfl (fk_367 hF2) (Nat.le_of_ble_eq_true rfl) (by decide) (Nat.le_of_ble_eq_true rfl) (tm267 (by omega) hF2) (fun _ g3 _ hF4 => ?_)
  refine tr_ldA rfl (?_)
  refine tr_invVI rfl rfl (fk_367 hF4) (Nat.le_of_ble_eq_true rfl) (by decide) (Nat.le_of_ble_eq_true rfl) (tm268 hF4) (fun r7 g5 _ hF6 => ?_)
  refine tr_stI (Nat.le_of_ble_eq_true rfl) rfl rfl (tr_ldI rfl (tr_i2l (tr_pushL (tr_pushL (?_)))))
  refine tr_invSI rfl rfl (Nat.le_of_ble_eq_true rfl) (Nat.le_of_ble_eq_true rfl) (by decide) (Nat.le_of_ble_eq_true rfl) (tm165 hF6) (fun r10 g8 _ hF9 => ?_)
  refine tr_if0j e271_16 (c_eq _ _) (fun hc11 => ?_) (fun hc11 => ?_)
  · refine tr_pushI (?_)
    exact tr_retI hF9
  · refine tr_ldI rfl (?_)
    refine tr_if0n e271_18 (c_ne _ _) (fun hc12 => ?_) (fun hc12 => ?_)
    · refine tr_pushI (tr_stI (Nat.le_of_ble_eq_true rfl) rfl rfl (tr_pushI (tr_stI (Nat.le_of_ble_eq_true rfl) rfl rfl (tr_pushI (tr_stI (Nat.le_of_ble_eq_true rfl) rfl rfl (?_))))))
      refine th271_24L he (fun x20 x21 y22 y23 zy22 g24 hF25 => ?_) rfl FU _ _ _ _ _ hF9
      · refine tr_ldI rfl (?_)
        refine tr_if0n e271_52 (c_ne _ _) (fun hc26 => ?_) (fun hc26 => ?_)
        · refine tr_ldI rfl (?_)
          exact tr_retI hF25
        · refine tr_ldI rfl (?_)
          refine tr_gotoE e271_53 (?_)
          exact tr_retI hF25
    · refine tr_pushI (?_)
      exact tr_retI hF9
-- Mo_few
abbrev t272_101 : List hOp := oLdL 4 :: oRetL :: []
abbrev t272_89 : List hOp := oLdI 6 :: oLdI 1 :: oIf cGe 101 :: oLdL 4 :: oLdA 0 :: oGetP 12 47 :: oLdI 6 :: oALdJ :: oLBin (fun x y => x + y) :: oStL 4 :: oInc 6 1 :: oGoto 89 :: t272_101
abbrev t272_85 : List hOp := oPushL 0 :: oStL 4 :: oPushI 0 :: oStI 6 :: t272_89
abbrev t272_83 : List hOp := oInc 4 1 :: oGoto 40 :: t272_85
abbrev t272_47 : List hOp := oLdI 5 :: oIf0 cLt 83 :: oLdA 0 :: oGetP 12 47 :: oLdI 5 :: oALdJ :: oStL 6 :: oLdA 0 :: oGetP 12 47 :: oLdI 5 :: oLdL 6 :: oPushI 10 :: oLdI 3 :: oBin (fun x y => x - y) :: oI2L :: oLBin (fun x y => x * y) :: oPushL 10 :: oLDvd (fun x y => x / y) :: oAStJ :: oLdA 0 :: oGetP 12 47 :: oLdI 5 :: oPushI 1 :: oBin (fun x y => x + y) :: oDup2 :: oALdJ :: oLdL 6 :: oLdI 3 :: oI2L :: oLBin (fun x y => x * y) :: oPushL 10 :: oLDvd (fun x y => x / y) :: oLBin (fun x y => x + y) :: oAStJ :: oInc 5 (-1) :: oGoto 47 :: t272_83
abbrev t272_40 : List hOp := oLdI 4 :: oLdI 2 :: oIf cGe 85 :: oLdI 1 :: oPushI 1 :: oBin (fun x y => x - y) :: oStI 5 :: t272_47
abbrev t272_33 : List hOp := oLdA 0 :: oGetP 12 3 :: oPushI 5 :: oALdI 13 :: oStI 3 :: oPushI 0 :: oStI 4 :: t272_40
abbrev t272_30 : List hOp := oAStJ :: oInc 3 1 :: oGoto 19 :: t272_33
abbrev t272_29 : List hOp := oPushL 0 :: t272_30
abbrev t272_19 : List hOp := oLdI 3 :: oPushI 21 :: oIf cGe 33 :: oLdA 0 :: oGetP 12 47 :: oLdI 3 :: oLdI 3 :: oIf0 cNe 29 :: oPushL 1000000000000 :: oGoto 30 :: t272_29
abbrev t272_17 : List hOp := oPushI 0 :: oStI 3 :: t272_19
abbrev t272_15 : List hOp := oPushL (-1) :: oRetL :: t272_17
abbrev t272_0 : List hOp := oLdA 0 :: oPushI 0 :: oPutI 12 0 :: oLdI 1 :: oI2L :: oPushL 1 :: oPushL 20 :: oInvS 165 3 :: oIf0 cEq 15 :: oLdI 2 :: oI2L :: oPushL 0 :: oPushL 99 :: oInvS 165 3 :: oIf0 cNe 17 :: t272_15
theorem e272_0 : (opsOf 272).drop 0 = t272_0 := rfl
theorem e272_15 : (opsOf 272).drop 15 = t272_15 := rfl
theorem e272_17 : (opsOf 272).drop 17 = t272_17 := rfl
theorem e272_19 : (opsOf 272).drop 19 = t272_19 := rfl
theorem e272_29 : (opsOf 272).drop 29 = t272_29 := rfl
theorem e272_30 : (opsOf 272).drop 30 = t272_30 := rfl
theorem e272_33 : (opsOf 272).drop 33 = t272_33 := rfl
theorem e272_40 : (opsOf 272).drop 40 = t272_40 := rfl
theorem e272_47 : (opsOf 272).drop 47 = t272_47 := rfl
theorem e272_83 : (opsOf 272).drop 83 = t272_83 := rfl
theorem e272_85 : (opsOf 272).drop 85 = t272_85 := rfl
theorem e272_89 : (opsOf 272).drop 89 = t272_89 := rfl
theorem e272_101 : (opsOf 272).drop 101 = t272_101 := rfl
def q_Mo_few_30 (v3 : Int32) (k19 : Int32 → hG → hO Int64) (w1 : Int32) (w2 : Int64) (g : hG) : hO Int64 :=
  gd w1 21 <| wr (sJ g 394 w1.toNatClampNeg w2) fun g13 => k19 (v3 + (1 : Int32)) g13
theorem th272_30 {e : Nat} (he : 1 ≤ e + 1) {v3 : Int32} {k19 : Int32 → hG → hO Int64} {w1 : Int32} {w2 : Int64} {u1 : Option Value} {u2 : Option Value} {u4 : Option Value} {u5 : Option Value} {u6 : Option Value} {u7 : Option Value} (hk19 : ∀ (x3 : Int32) (g : hG), Frz g → Tri wJ (e + 1) 272 t272_19 [some (.ref 367), u1, u2, some (.int x3), u4, u5, u6, u7] [] g (k19 x3 g)) (hu2 : isL (some u2) = false) (hu4 : isL (some u4) = false) (hu5 : isL (some u5) = false) {g : hG} (hF : Frz g) : Tri wJ (e + 1) 272 t272_30 [some (.ref 367), u1, u2, some (.int v3), u4, u5, u6, u7] [.long w2, .int w1, .ref 394] g (q_Mo_few_30 v3 k19 w1 w2 g) := by
  unfold q_Mo_few_30
  refine tr_astJ hF (fk_394 hF) (fl_394 hF) (fun _ g13 _ hF14 => tr_inc rfl (lKill_id hu2) rfl (?_))
  refine tr_gotoE e272_19 (?_)
  exact hk19 _ _ hF14
def q_Mo_few_19 (k33 : hG → hO Int64) (k19 : Int32 → hG → hO Int64) (v3 : Int32) (g : hG) : hO Int64 :=
  if (21 : Int32) ≤ v3 then (k33 g) else (q_Mo_few_30 v3 k19 v3 (if v3 = (0 : Int32) then (1000000000000 : Int64) else (0 : Int64)) g)
def q_Mo_few_19L (k33 : hG → hO Int64) : Nat → Int32 → hG → hO Int64
  | 0 => fun _ _ => none
  | n + 1 => fun v3 g => q_Mo_few_19 k33 (q_Mo_few_19L k33 n) v3 g
theorem q_Mo_few_19L_s (k33 : hG → hO Int64) (n : Nat) (v3 : Int32) (g : hG) : q_Mo_few_19L k33 (n + 1) v3 g = q_Mo_few_19 k33 (q_Mo_few_19L k33 n) v3 g := rfl
theorem th272_19 {e : Nat} (he : 1 ≤ e + 1) {k33 : hG → hO Int64} {k19 : Int32 → hG → hO Int64} {v3 : Int32} {u1 : Option Value} {u2 : Option Value} {u4 : Option Value} {u5 : Option Value} {u6 : Option Value} {u7 : Option Value} (hk33 : ∀ (y3 : Option Value) (_ : isL (some y3) = false) (g : hG), Frz g → Tri wJ (e + 1) 272 t272_33 [some (.ref 367), u1, u2, y3, u4, u5, u6, u7] [] g (k33 g)) (hk19 : ∀ (x3 : Int32) (g : hG), Frz g → Tri wJ (e + 1) 272 t272_19 [some (.ref 367), u1, u2, some (.int x3), u4, u5, u6, u7] [] g (k19 x3 g)) (hu2 : isL (some u2) = false) (hu4 : isL (some u4) = false) (hu5 : isL (some u5) = false) {g : hG} (hF : Frz g) : Tri wJ (e + 1) 272 t272_19 [some (.ref 367), u1, u2, some (.int v3), u4, u5, u6, u7] [] g (q_Mo_few_19 k33 k19 v3 g) := by
  unfold q_Mo_few_19
  refine tr_ldI rfl (tr_pushI (?_))
  refine tr_ifj e272_33 (c_ge _ _) (fun hc11 => ?_) (fun hc11 => ?_)
  · exact hk33 _ rfl _ hF
  · refine tr_ldA rfl (tr_getP (b := 394) (fk_367 hF) (fp_367_47 hF) (tr_ldI rfl (tr_ldI rfl (?_))))
    refine tr_if0cE e272_29 (c_ne _ _) (fun hc15 => ?_) (fun hc15 => ?_)
    · rw [if_neg hc15]
      refine tr_pushL (?_)
      exact th272_30 he hk19 hu2 hu4 hu5 hF
    · rw [if_pos (Decidable.not_not.mp hc15)]
      refine tr_pushL (?_)
      refine tr_gotoE e272_30 (?_)
      exact th272_30 he hk19 hu2 hu4 hu5 hF
theorem th272_19L {e : Nat} (he : 1 ≤ e + 1) {k33 : hG → hO Int64} {u1 : Option Value} {u2 : Option Value} {u4 : Option Value} {u5 : Option Value} {u6 : Option Value} {u7 : Option Value} (hk33 : ∀ (y3 : Option Value) (_ : isL (some y3) = false) (g : hG), Frz g → Tri wJ (e + 1) 272 t272_33 [some (.ref 367), u1, u2, y3, u4, u5, u6, u7] [] g (k33 g)) (hu2 : isL (some u2) = false) (hu4 : isL (some u4) = false) (hu5 : isL (some u5) = false) : ∀ (n : Nat) (v3 : Int32) (g : hG), Frz g → Tri wJ (e + 1) 272 t272_19 [some (.ref 367), u1, u2, some (.int v3), u4, u5, u6, u7] [] g (q_Mo_few_19L k33 n v3 g)
  | 0 => fun _ _ _ => Tri.none_
  | n + 1 => fun _ g hF => th272_19 he hk33 (th272_19L he hk33 hu2 hu4 hu5 n) hu2 hu4 hu5 hF
def q_Mo_few_47 (v3 : Int32) (k83 : hG → hO Int64) (k47 : Int32 → hG → hO Int64) (v5 : Int32) (g : hG) : hO Int64 :=
  if v5 < (0 : Int32) then (k83 g) else (gd v5 21 <| gd v5 21 <| wr (sJ g 394 v5.toNatClampNeg (((gJ g 394 v5.toNatClampNeg) * (((10 : Int32) - v3)).toInt64) / (10 : Int64))) fun g21 => gd (v5 + (1 : Int32)) 21 <| gd (v5 + (1 : Int32)) 21 <| wr (sJ g21 394 (v5 + (1 : Int32)).toNatClampNeg ((gJ g21 394 (v5 + (1 : Int32)).toNatClampNeg) + (((gJ g 394 v5.toNatClampNeg) * v3.toInt64) / (10 : Int64)))) fun g23 => k47 (v5 + (-1 : Int32)) g23)
def q_Mo_few_47L (v3 : Int32) (k83 : hG → hO Int64) : Nat → Int32 → hG → hO Int64
  | 0 => fun _ _ => none
  | n + 1 => fun v5 g => q_Mo_few_47 v3 k83 (q_Mo_few_47L v3 k83 n) v5 g
theorem q_Mo_few_47L_s (v3 : Int32) (k83 : hG → hO Int64) (n : Nat) (v5 : Int32) (g : hG) : q_Mo_few_47L v3 k83 (n + 1) v5 g = q_Mo_few_47 v3 k83 (q_Mo_few_47L v3 k83 n) v5 g := rfl
theorem th272_47 {e : Nat} (he : 1 ≤ e + 1) {v3 : Int32} {k83 : hG → hO Int64} {k47 : Int32 → hG → hO Int64} {v5 : Int32} {u1 : Option Value} {u2 : Option Value} {u4 : Option Value} {u6 : Option Value} {u7 : Option Value} (hk83 : ∀ (y5 : Option Value) (y6 : Option Value) (y7 : Option Value) (_ : isL (some y5) = false) (g : hG), Frz g → Tri wJ (e + 1) 272 t272_83 [some (.ref 367), u1, u2, some (.int v3), u4, y5, y6, y7] [] g (k83 g)) (hk47 : ∀ (x5 : Int32) (y6 : Option Value) (y7 : Option Value) (g : hG), Frz g → Tri wJ (e + 1) 272 t272_47 [some (.ref 367), u1, u2, some (.int v3), u4, some (.int x5), y6, y7] [] g (k47 x5 g)) (hu2 : isL (some u2) = false) (hu4 : isL (some u4) = false) {g : hG} (hF : Frz g) : Tri wJ (e + 1) 272 t272_47 [some (.ref 367), u1, u2, some (.int v3), u4, some (.int v5), u6, u7] [] g (q_Mo_few_47 v3 k83 k47 v5 g) := by
  unfold q_Mo_few_47
  refine tr_ldI rfl (?_)
  refine tr_if0j e272_83 (c_lt _ _) (fun hc20 => ?_) (fun hc20 => ?_)
  · exact hk83 _ _ _ rfl _ hF
  · refine tr_ldA rfl (tr_getP (b := 394) (fk_367 hF) (fp_367_47 hF) (tr_ldI rfl (tr_aldJ (fk_394 hF) (fl_394 hF) (fun _ => tr_stL (Nat.le_of_ble_eq_true rfl) rfl rfl (tr_ldA rfl (?_))))))
    refine tr_getP (b := 394) (fk_367 hF) (fp_367_47 hF) (tr_ldI rfl (tr_ldL rfl (tr_pushI (tr_ldI rfl (tr_bin (v := ((10 : Int32) - v3)) rfl (?_))))))
    refine tr_i2l (tr_lbin (v := ((gJ g 394 v5.toNatClampNeg) * (((10 : Int32) - v3)).toInt64)) rfl (tr_pushL (tr_ldvdl (v := (((gJ g 394 v5.toNatClampNeg) * (((10 : Int32) - v3)).toInt64) / (10 : Int64))) (by decide) rfl (tr_astJ hF (fk_394 hF) (fl_394 hF) (fun _ g21 _ hF22 => tr_ldA rfl (?_))))))
    refine tr_getP (b := 394) (fk_367 hF22) (fp_367_47 hF22) (tr_ldI rfl (tr_pushI (tr_bin (v := (v5 + (1 : Int32))) rfl (tr_dup2 (tr_aldJ (fk_394 hF22) (fl_394 hF22) (fun _ => ?_))))))
    refine tr_ldL rfl (tr_ldI rfl (tr_i2l (tr_lbin (v := ((gJ g 394 v5.toNatClampNeg) * v3.toInt64)) rfl (tr_pushL (tr_ldvdl (v := (((gJ g 394 v5.toNatClampNeg) * v3.toInt64) / (10 : Int64))) (by decide) rfl (?_))))))
    refine tr_lbin (v := ((gJ g21 394 (v5 + (1 : Int32)).toNatClampNeg) + (((gJ g 394 v5.toNatClampNeg) * v3.toInt64) / (10 : Int64)))) rfl (tr_astJ hF22 (fk_394 hF22) (fl_394 hF22) (fun _ g23 _ hF24 => tr_inc rfl (lKill_id hu4) rfl (?_)))
    refine tr_gotoE e272_47 (?_)
    exact hk47 _ _ _ _ hF24
theorem th272_47L {e : Nat} (he : 1 ≤ e + 1) {v3 : Int32} {k83 : hG → hO Int64} {u1 : Option Value} {u2 : Option Value} {u4 : Option Value} (hk83 : ∀ (y5 : Option Value) (y6 : Option Value) (y7 : Option Value) (_ : isL (some y5) = false) (g : hG), Frz g → Tri wJ (e + 1) 272 t272_83 [some (.ref 367), u1, u2, some (.int v3), u4, y5, y6, y7] [] g (k83 g)) (hu2 : isL (some u2) = false) (hu4 : isL (some u4) = false) : ∀ (n : Nat) (v5 : Int32) (u6 : Option Value) (u7 : Option Value) (g : hG), Frz g → Tri wJ (e + 1) 272 t272_47 [some (.ref 367), u1, u2, some (.int v3), u4, some (.int v5), u6, u7] [] g (q_Mo_few_47L v3 k83 n v5 g)
  | 0 => fun _ _ _ _ _ => Tri.none_
  | n + 1 => fun _ _ _ g hF => th272_47 he hk83 (th272_47L he hk83 hu2 hu4 n) hu2 hu4 hF
def q_Mo_few_40 (v1 : Int32) (v2 : Int32) (v3 : Int32) (k85 : hG → hO Int64) (k40 : Int32 → hG → hO Int64) (v4 : Int32) (g : hG) : hO Int64 :=
  if v2 ≤ v4 then (k85 g) else (q_Mo_few_47L v3 (fun g28 => k40 (v4 + (1 : Int32)) g28) FU (v1 - (1 : Int32)) g)
def q_Mo_few_40L (v1 : Int32) (v2 : Int32) (v3 : Int32) (k85 : hG → hO Int64) : Nat → Int32 → hG → hO Int64
  | 0 => fun _ _ => none
  | n + 1 => fun v4 g => q_Mo_few_40 v1 v2 v3 k85 (q_Mo_few_40L v1 v2 v3 k85 n) v4 g
theorem q_Mo_few_40L_s (v1 : Int32) (v2 : Int32) (v3 : Int32) (k85 : hG → hO Int64) (n : Nat) (v4 : Int32) (g : hG) : q_Mo_few_40L v1 v2 v3 k85 (n + 1) v4 g = q_Mo_few_40 v1 v2 v3 k85 (q_Mo_few_40L v1 v2 v3 k85 n) v4 g := rfl
theorem th272_40 {e : Nat} (he : 1 ≤ e + 1) {v1 : Int32} {v2 : Int32} {v3 : Int32} {k85 : hG → hO Int64} {k40 : Int32 → hG → hO Int64} {v4 : Int32} {u5 : Option Value} {u6 : Option Value} {u7 : Option Value} (hk85 : ∀ (y4 : Option Value) (y5 : Option Value) (y6 : Option Value) (y7 : Option Value) (_ : isL (some y4) = false) (_ : isL (some y5) = false) (g : hG), Frz g → Tri wJ (e + 1) 272 t272_85 [some (.ref 367), some (.int v1), some (.int v2), some (.int v3), y4, y5, y6, y7] [] g (k85 g)) (hk40 : ∀ (x4 : Int32) (y5 : Option Value) (y6 : Option Value) (y7 : Option Value) (_ : isL (some y5) = false) (g : hG), Frz g → Tri wJ (e + 1) 272 t272_40 [some (.ref 367), some (.int v1), some (.int v2), some (.int v3), some (.int x4), y5, y6, y7] [] g (k40 x4 g)) (hu5 : isL (some u5) = false) {g : hG} (hF : Frz g) : Tri wJ (e + 1) 272 t272_40 [some (.ref 367), some (.int v1), some (.int v2), some (.int v3), some (.int v4), u5, u6, u7] [] g (q_Mo_few_40 v1 v2 v3 k85 k40 v4 g) := by
  unfold q_Mo_few_40
  refine tr_ldI rfl (tr_ldI rfl (?_))
  refine tr_ifj e272_85 (c_ge _ _) (fun hc19 => ?_) (fun hc19 => ?_)
  · exact hk85 _ _ _ _ rfl hu5 _ hF
  · refine tr_ldI rfl (tr_pushI (tr_bin (v := (v1 - (1 : Int32))) rfl (tr_stI (Nat.le_of_ble_eq_true rfl) rfl rfl (?_))))
    refine th272_47L he (fun y25 y26 y27 zy25 g28 hF29 => ?_) rfl rfl FU _ _ _ _ hF
    · refine tr_inc rfl rfl rfl (?_)
      refine tr_gotoE e272_40 (?_)
      exact hk40 _ _ _ _ zy25 _ hF29
theorem th272_40L {e : Nat} (he : 1 ≤ e + 1) {v1 : Int32} {v2 : Int32} {v3 : Int32} {k85 : hG → hO Int64} (hk85 : ∀ (y4 : Option Value) (y5 : Option Value) (y6 : Option Value) (y7 : Option Value) (_ : isL (some y4) = false) (_ : isL (some y5) = false) (g : hG), Frz g → Tri wJ (e + 1) 272 t272_85 [some (.ref 367), some (.int v1), some (.int v2), some (.int v3), y4, y5, y6, y7] [] g (k85 g)) : ∀ (n : Nat) (v4 : Int32) (u5 : Option Value) (u6 : Option Value) (u7 : Option Value) (_ : isL (some u5) = false) (g : hG), Frz g → Tri wJ (e + 1) 272 t272_40 [some (.ref 367), some (.int v1), some (.int v2), some (.int v3), some (.int v4), u5, u6, u7] [] g (q_Mo_few_40L v1 v2 v3 k85 n v4 g)
  | 0 => fun _ _ _ _ _ _ _ => Tri.none_
  | n + 1 => fun _ _ _ _ z5 g hF => th272_40 he hk85 (th272_40L he hk85 n) z5 hF
def q_Mo_few_89 (v1 : Int32) (k101 : Int64 → hG → hO Int64) (k89 : Int64 → Int32 → hG → hO Int64) (v4 : Int64) (v6 : Int32) (g : hG) : hO Int64 :=
  if v1 ≤ v6 then (k101 v4 g) else (gd v6 21 <| k89 (v4 + (gJ g 394 v6.toNatClampNeg)) (v6 + (1 : Int32)) g)
def q_Mo_few_89L (v1 : Int32) (k101 : Int64 → hG → hO Int64) : Nat → Int64 → Int32 → hG → hO Int64
  | 0 => fun _ _ _ => none
  | n + 1 => fun v4 v6 g => q_Mo_few_89 v1 k101 (q_Mo_few_89L v1 k101 n) v4 v6 g
theorem q_Mo_few_89L_s (v1 : Int32) (k101 : Int64 → hG → hO Int64) (n : Nat) (v4 : Int64) (v6 : Int32) (g : hG) : q_Mo_few_89L v1 k101 (n + 1) v4 v6 g = q_Mo_few_89 v1 k101 (q_Mo_few_89L v1 k101 n) v4 v6 g := rfl
theorem th272_89 {e : Nat} (he : 1 ≤ e + 1) {v1 : Int32} {k101 : Int64 → hG → hO Int64} {k89 : Int64 → Int32 → hG → hO Int64} {v4 : Int64} {v6 : Int32} {u2 : Option Value} {u3 : Option Value} {u7 : Option Value} (hk101 : ∀ (x4 : Int64) (y6 : Option Value) (g : hG), Frz g → Tri wJ (e + 1) 272 t272_101 [some (.ref 367), some (.int v1), u2, u3, some (.long x4), none, y6, u7] [] g (k101 x4 g)) (hk89 : ∀ (x4 : Int64) (x6 : Int32) (g : hG), Frz g → Tri wJ (e + 1) 272 t272_89 [some (.ref 367), some (.int v1), u2, u3, some (.long x4), none, some (.int x6), u7] [] g (k89 x4 x6 g)) (hu2 : isL (some u2) = false) (hu3 : isL (some u3) = false) {g : hG} (hF : Frz g) : Tri wJ (e + 1) 272 t272_89 [some (.ref 367), some (.int v1), u2, u3, some (.long v4), none, some (.int v6), u7] [] g (q_Mo_few_89 v1 k101 k89 v4 v6 g) := by
  unfold q_Mo_few_89
  refine tr_ldI rfl (tr_ldI rfl (?_))
  refine tr_ifj e272_101 (c_ge _ _) (fun hc36 => ?_) (fun hc36 => ?_)
  · exact hk101 _ _ _ hF
  · refine tr_ldL rfl (tr_ldA rfl (tr_getP (b := 394) (fk_367 hF) (fp_367_47 hF) (tr_ldI rfl (tr_aldJ (fk_394 hF) (fl_394 hF) (fun _ => tr_lbin (v := (v4 + (gJ g 394 v6.toNatClampNeg))) rfl (?_))))))
    refine tr_stL (Nat.le_of_ble_eq_true rfl) (lKill_id hu3) rfl (tr_inc rfl rfl rfl (?_))
    refine tr_gotoE e272_89 (?_)
    exact hk89 _ _ _ hF
theorem th272_89L {e : Nat} (he : 1 ≤ e + 1) {v1 : Int32} {k101 : Int64 → hG → hO Int64} {u2 : Option Value} {u3 : Option Value} {u7 : Option Value} (hk101 : ∀ (x4 : Int64) (y6 : Option Value) (g : hG), Frz g → Tri wJ (e + 1) 272 t272_101 [some (.ref 367), some (.int v1), u2, u3, some (.long x4), none, y6, u7] [] g (k101 x4 g)) (hu2 : isL (some u2) = false) (hu3 : isL (some u3) = false) : ∀ (n : Nat) (v4 : Int64) (v6 : Int32) (g : hG), Frz g → Tri wJ (e + 1) 272 t272_89 [some (.ref 367), some (.int v1), u2, u3, some (.long v4), none, some (.int v6), u7] [] g (q_Mo_few_89L v1 k101 n v4 v6 g)
  | 0 => fun _ _ _ _ => Tri.none_
  | n + 1 => fun _ _ g hF => th272_89 he hk101 (th272_89L he hk101 hu2 hu3 n) hu2 hu3 hF
def q_Mo_few (v1 : Int32) (v2 : Int32) (g : hG) : hO Int64 :=
  wr (sI g 367 0 (0 : Int32)) fun g1 => bnd (q_Mo_in v1.toInt64 (1 : Int64) (20 : Int64) g1) fun r5 g3 => if r5 = (0 : Int32) then (some ((-1 : Int64), g3)) else (bnd (q_Mo_in v2.toInt64 (0 : Int64) (99 : Int64) g3) fun r9 g7 => if r9 = (0 : Int32) then (some ((-1 : Int64), g7)) else (q_Mo_few_19L (fun g17 => gd (5 : Int32) 5468 <| q_Mo_few_40L v1 v2 (gI g17 369 (5 : Int32).toNatClampNeg) (fun g34 => q_Mo_few_89L v1 (fun x37 g39 => some (x37, g39)) FU (0 : Int64) (0 : Int32) g34) FU (0 : Int32) g17) FU (0 : Int32) g7))
theorem tm272 {d : Nat} {v1 : Int32} {v2 : Int32} (hd : 1 ≤ d) {g : hG} (hF : Frz g) : TM wJ d 272 [.ref 367, .int v1, .int v2] g (q_Mo_few v1 v2 g) := by
  obtain ⟨e, rfl⟩ : ∃ e, d = e + 1 := ⟨d - 1, by omega⟩
  have he := hd
  refine TM.ofE e272_0 (lv := [some (.ref 367), some (.int v1), some (.int v2), none, none, none, none, none]) rfl ?_
  unfold q_Mo_few
  refine tr_ldA rfl (tr_pushI (tr_putI hF (fk_367 hF) (fun g1 _ hF2 => tr_ldI rfl (tr_i2l (tr_pushL (?_))))))
  refine tr_pushL (?_)
  refine tr_invSI rfl rfl (Nat.le_of_ble_eq_true rfl) (Nat.le_of_ble_eq_true rfl) (by decide) (Nat.le_of_ble_eq_true rfl) (tm165 hF2) (fun r5 g3 _ hF4 => ?_)
  refine tr_if0j e272_15 (c_eq _ _) (fun hc6 => ?_) (fun hc6 => ?_)
  · refine tr_pushL (?_)
    exact tr_retL hF4
  · refine tr_ldI rfl (tr_i2l (tr_pushL (tr_pushL (?_))))
    refine tr_invSI rfl rfl (Nat.le_of_ble_eq_true rfl) (Nat.le_of_ble_eq_true rfl) (by decide) (Nat.le_of_ble_eq_true rfl) (tm165 hF4) (fun r9 g7 _ hF8 => ?_)
    refine tr_if0n e272_17 (c_ne _ _) (fun hc10 => ?_) (fun hc10 => ?_)
    · refine tr_pushI (tr_stI (Nat.le_of_ble_eq_true rfl) rfl rfl (?_))
      refine th272_19L he (fun y16 zy16 g17 hF18 => ?_) rfl rfl rfl FU _ _ hF8
      · refine tr_ldA rfl (tr_getP (b := 369) (fk_367 hF18) (fp_367_3 hF18) (tr_pushI (tr_aldI (fk_369 hF18) (fl_369 hF18) (fun _ => tr_stI (Nat.le_of_ble_eq_true rfl) rfl rfl (tr_pushI (?_))))))
        refine tr_stI (Nat.le_of_ble_eq_true rfl) rfl rfl (?_)
        refine th272_40L he (fun y30 y31 y32 y33 zy30 zy31 g34 hF35 => ?_) FU _ _ _ _ rfl _ hF18
        · refine tr_pushL (tr_stL (Nat.le_of_ble_eq_true rfl) rfl rfl (tr_pushI (tr_stI (Nat.le_of_ble_eq_true rfl) rfl rfl (?_))))
          refine th272_89L he (fun x37 y38 g39 hF40 => ?_) rfl rfl FU _ _ _ hF35
          · refine tr_ldL rfl (?_)
            exact tr_retL hF40
    · refine tr_pushL (?_)
      exact tr_retL hF8
-- Mo_compare
abbrev t264_12 : List hOp := oLdA 0 :: oGetP 12 3 :: oPushI 2 :: oALdI 13 :: oStI 3 :: oLdA 0 :: oGetP 12 3 :: oPushI 2 :: oLdI 1 :: oAStI :: oLdA 0 :: oInvV 230 12 0 :: oLdA 0 :: oGetP 12 3 :: oPushI 2 :: oLdI 3 :: oAStI :: oLdA 0 :: oGetP 12 42 :: oLdI 2 :: oALdI 13 :: oRetI :: []
abbrev t264_10 : List hOp := oPushI (-1) :: oRetI :: t264_12
abbrev t264_0 : List hOp := oLdA 0 :: oPushI 0 :: oPutI 12 0 :: oLdA 0 :: oLdI 1 :: oInvV 222 12 1 :: oIf0 cEq 10 :: oLdI 2 :: oInvS 178 1 :: oIf0 cNe 12 :: t264_10
theorem e264_0 : (opsOf 264).drop 0 = t264_0 := rfl
theorem e264_10 : (opsOf 264).drop 10 = t264_10 := rfl
theorem e264_12 : (opsOf 264).drop 12 = t264_12 := rfl
def q_Mo_compare (v1 : Int32) (v2 : Int32) (g : hG) : hO Int32 :=
  wr (sI g 367 0 (0 : Int32)) fun g1 => bnd (q_Mo_isLaw v1 g1) fun r5 g3 => if r5 = (0 : Int32) then (some ((-1 : Int32), g3)) else (bnd (q_Mo_isCell v2 g3) fun r9 g7 => if r9 = (0 : Int32) then (some ((-1 : Int32), g7)) else (gd (2 : Int32) 5468 <| gd (2 : Int32) 5468 <| wr (sI g7 369 (2 : Int32).toNatClampNeg v1) fun g11 => bnd (q_Mo_layRuns g11) fun _ g13 => gd (2 : Int32) 5468 <| wr (sI g13 369 (2 : Int32).toNatClampNeg (gI g7 369 (2 : Int32).toNatClampNeg)) fun g15 => gd v2 25 <| some ((gI g15 389 v2.toNatClampNeg), g15)))
theorem tm264 {d : Nat} {v1 : Int32} {v2 : Int32} (hd : 6 ≤ d) {g : hG} (hF : Frz g) : TM wI d 264 [.ref 367, .int v1, .int v2] g (q_Mo_compare v1 v2 g) := by
  obtain ⟨e, rfl⟩ : ∃ e, d = e + 1 := ⟨d - 1, by omega⟩
  have he := hd
  refine TM.ofE e264_0 (lv := [some (.ref 367), some (.int v1), some (.int v2), none]) rfl ?_
  unfold q_Mo_compare
  refine tr_ldA rfl (tr_pushI (tr_putI hF (fk_367 hF) (fun g1 _ hF2 => tr_ldA rfl (tr_ldI rfl (?_)))))
  refine tr_invVI rfl rfl (fk_367 hF2) (Nat.le_of_ble_eq_true rfl) (by decide) (Nat.le_of_ble_eq_true rfl) (tm222 (by omega) hF2) (fun r5 g3 _ hF4 => ?_)
  refine tr_if0j e264_10 (c_eq _ _) (fun hc6 => ?_) (fun hc6 => ?_)
  · refine tr_pushI (?_)
    exact tr_retI hF4
  · refine tr_ldI rfl (?_)
    refine tr_invSI rfl rfl (Nat.le_of_ble_eq_true rfl) (Nat.le_of_ble_eq_true rfl) (by decide) (Nat.le_of_ble_eq_true rfl) (tm178 (by omega) hF4) (fun r9 g7 _ hF8 => ?_)
    refine tr_if0n e264_12 (c_ne _ _) (fun hc10 => ?_) (fun hc10 => ?_)
    · refine tr_ldA rfl (tr_getP (b := 369) (fk_367 hF8) (fp_367_3 hF8) (tr_pushI (tr_aldI (fk_369 hF8) (fl_369 hF8) (fun _ => tr_stI (Nat.le_of_ble_eq_true rfl) rfl rfl (tr_ldA rfl (?_))))))
      refine tr_getP (b := 369) (fk_367 hF8) (fp_367_3 hF8) (tr_pushI (tr_ldI rfl (tr_astI hF8 (fk_369 hF8) (fl_369 hF8) (fun _ g11 _ hF12 => tr_ldA rfl (?_)))))
      refine tr_invVU rfl rfl (fk_367 hF12) (Nat.le_of_ble_eq_true rfl) (by decide) (Nat.le_of_ble_eq_true rfl) (tm230 (by omega) hF12) (fun _ g13 _ hF14 => ?_)
      refine tr_ldA rfl (tr_getP (b := 369) (fk_367 hF14) (fp_367_3 hF14) (tr_pushI (tr_ldI rfl (tr_astI hF14 (fk_369 hF14) (fl_369 hF14) (fun _ g15 _ hF16 => tr_ldA rfl (?_))))))
      refine tr_getP (b := 389) (fk_367 hF16) (fp_367_42 hF16) (tr_ldI rfl (tr_aldI (fk_389 hF16) (fl_389 hF16) (fun _ => ?_)))
      exact tr_retI hF16
    · refine tr_pushI (?_)
      exact tr_retI hF8
-- Mo_draw
abbrev t281_0 : List hOp := oLdA 0 :: oLdA 0 :: oGetJ 12 55 :: oPushL 1103 :: oLBin (fun x y => x * y) :: oPushL 12345 :: oLBin (fun x y => x + y) :: oPushL 1000003 :: oLDvd (fun x y => x - x / y * y) :: oPutJ 12 55 :: oLdA 0 :: oGetJ 12 55 :: oLdI 1 :: oI2L :: oLDvd (fun x y => x - x / y * y) :: oL2I :: oRetI :: []
theorem e281_0 : (opsOf 281).drop 0 = t281_0 := rfl
def q_Mo_draw (v1 : Int32) (g : hG) : hO Int32 :=
  wr (sJ g 367 55 (lrem (((gJ g 367 55) * (1103 : Int64)) + (12345 : Int64)) (1000003 : Int64))) fun g1 => gzL v1.toInt64 <| some (((lrem (gJ g1 367 55) v1.toInt64)).toInt32, g1)
theorem tm281 {d : Nat} {v1 : Int32} {g : hG} (hF : Frz g) : TM wI d 281 [.ref 367, .int v1] g (q_Mo_draw v1 g) := by
  refine TM.ofE e281_0 (lv := [some (.ref 367), some (.int v1)]) rfl ?_
  unfold q_Mo_draw
  refine tr_ldA rfl (tr_ldA rfl (tr_getJ (fk_367 hF) (tr_pushL (tr_lbin (v := ((gJ g 367 55) * (1103 : Int64))) rfl (tr_pushL (?_))))))
  refine tr_lbin (v := (((gJ g 367 55) * (1103 : Int64)) + (12345 : Int64))) rfl (tr_pushL (tr_ldvdl (v := (lrem (((gJ g 367 55) * (1103 : Int64)) + (12345 : Int64)) (1000003 : Int64))) (by decide) rfl (tr_putJ hF (fk_367 hF) (fun g1 _ hF2 => tr_ldA rfl (tr_getJ (fk_367 hF2) (?_))))))
  refine tr_ldI rfl (tr_i2l (tr_ldvd (v := (lrem (gJ g1 367 55) v1.toInt64)) rfl (fun _ => tr_l2i (?_))))
  exact tr_retI hF2
-- Mo_days
abbrev t282_118 : List hOp := oLdA 0 :: oPushI 1 :: oPutZ 12 57 :: oLdA 0 :: oPushI 2 :: oInvV 182 12 1 :: oStI 3 :: oLdA 0 :: oPushI 16 :: oInvV 173 12 1 :: oLdA 0 :: oLdI 3 :: oInvV 169 12 1 :: oRetI :: []
abbrev t282_103 : List hOp := oLdI 3 :: oPushI 52 :: oIf cGe 118 :: oLdA 0 :: oGetP 12 56 :: oLdI 3 :: oLdA 0 :: oGetP 12 3 :: oPushI 4 :: oLdI 3 :: oBin (fun x y => x + y) :: oALdI 13 :: oAStI :: oInc 3 1 :: oGoto 103 :: t282_118
abbrev t282_101 : List hOp := oPushI 0 :: oStI 3 :: t282_103
abbrev t282_96 : List hOp := oLdA 0 :: oInvV 238 12 0 :: oPop :: oInc 3 1 :: oGoto 28 :: t282_101
abbrev t282_73 : List hOp := oLdI 6 :: oPushI 2 :: oIf cNe 96 :: oLdA 0 :: oLdI 4 :: oLdI 5 :: oPushI 4 :: oDvd (fun x y => x - x / y * y) :: oInvV 235 12 2 :: oPushI (-1) :: oIf cEq 96 :: oLdA 0 :: oGetP 12 3 :: oPushI 40 :: oLdI 4 :: oBin (fun x y => x + y) :: oLdA 0 :: oLdI 4 :: oLdI 5 :: oPushI 4 :: oDvd (fun x y => x - x / y * y) :: oInvV 235 12 2 :: oAStI :: t282_96
abbrev t282_28 : List hOp := oLdI 3 :: oLdI 2 :: oIf cGe 101 :: oLdA 0 :: oGetP 12 3 :: oPushI 4 :: oALdI 13 :: oPushI 999 :: oIf cGe 101 :: oLdA 0 :: oPushI 8 :: oInvV 281 12 1 :: oStI 4 :: oLdA 0 :: oPushI 25 :: oInvV 281 12 1 :: oStI 5 :: oLdA 0 :: oPushI 4 :: oInvV 281 12 1 :: oStI 6 :: oLdI 6 :: oPushI 2 :: oIf cGe 73 :: oLdA 0 :: oGetP 12 3 :: oPushI 32 :: oLdI 4 :: oBin (fun x y => x + y) :: oALdI 13 :: oIf0 cNe 73 :: oLdA 0 :: oGetP 12 3 :: oPushI 32 :: oLdI 4 :: oBin (fun x y => x + y) :: oPushI 1 :: oAStI :: oLdA 0 :: oGetP 12 3 :: oPushI 40 :: oLdI 4 :: oBin (fun x y => x + y) :: oLdI 5 :: oAStI :: t282_73
abbrev t282_19 : List hOp := oLdA 0 :: oPushI 16 :: oInvV 172 12 1 :: oLdA 0 :: oLdI 1 :: oI2L :: oPutJ 12 55 :: oPushI 0 :: oStI 3 :: t282_28
abbrev t282_15 : List hOp := oLdA 0 :: oPushI (-1) :: oInvV 169 12 1 :: oRetI :: t282_19
abbrev t282_0 : List hOp := oLdA 0 :: oPushI 0 :: oPutI 12 0 :: oLdI 1 :: oI2L :: oPushL 0 :: oPushL 1000000 :: oInvS 165 3 :: oIf0 cEq 15 :: oLdI 2 :: oI2L :: oPushL 1 :: oPushL 60 :: oInvS 165 3 :: oIf0 cNe 19 :: t282_15
theorem e282_0 : (opsOf 282).drop 0 = t282_0 := rfl
theorem e282_15 : (opsOf 282).drop 15 = t282_15 := rfl
theorem e282_19 : (opsOf 282).drop 19 = t282_19 := rfl
theorem e282_28 : (opsOf 282).drop 28 = t282_28 := rfl
theorem e282_73 : (opsOf 282).drop 73 = t282_73 := rfl
theorem e282_96 : (opsOf 282).drop 96 = t282_96 := rfl
theorem e282_101 : (opsOf 282).drop 101 = t282_101 := rfl
theorem e282_103 : (opsOf 282).drop 103 = t282_103 := rfl
theorem e282_118 : (opsOf 282).drop 118 = t282_118 := rfl
def q_Mo_days_15 (g : hG) : hO Int32 :=
  bnd (q_Mo_tell (-1 : Int32) g) fun r9 g7 => some (r9, g7)
theorem th282_15 {e : Nat} (he : 7 ≤ e + 1) {u1 : Option Value} {u2 : Option Value} {u3 : Option Value} {u4 : Option Value} {u5 : Option Value} {u6 : Option Value} (hu2 : isL (some u2) = false) (hu3 : isL (some u3) = false) (hu4 : isL (some u4) = false) (hu5 : isL (some u5) = false) {g : hG} (hF : Frz g) : Tri wI (e + 1) 282 t282_15 [some (.ref 367), u1, u2, u3, u4, u5, u6] [] g (q_Mo_days_15 g) := by
  unfold q_Mo_days_15
  refine tr_ldA rfl (tr_pushI (?_))
  refine tr_invVI rfl rfl (fk_367 hF) (Nat.le_of_ble_eq_true rfl) (by decide) (Nat.le_of_ble_eq_true rfl) (tm169 hF) (fun r9 g7 _ hF8 => ?_)
  exact tr_retI hF8
def q_Mo_days_96 (v3 : Int32) (k28 : Int32 → hG → hO Int32) (g : hG) : hO Int32 :=
  bnd (q_Mo_passIt g) fun r33 g31 => k28 (v3 + (1 : Int32)) g31
theorem th282_96 {e : Nat} (he : 7 ≤ e + 1) {v3 : Int32} {k28 : Int32 → hG → hO Int32} {u1 : Option Value} {u2 : Option Value} {u4 : Option Value} {u5 : Option Value} {u6 : Option Value} (hk28 : ∀ (x3 : Int32) (y4 : Option Value) (y5 : Option Value) (y6 : Option Value) (_ : isL (some y4) = false) (_ : isL (some y5) = false) (g : hG), Frz g → Tri wI (e + 1) 282 t282_28 [some (.ref 367), u1, u2, some (.int x3), y4, y5, y6] [] g (k28 x3 g)) (hu2 : isL (some u2) = false) (hu4 : isL (some u4) = false) (hu5 : isL (some u5) = false) {g : hG} (hF : Frz g) : Tri wI (e + 1) 282 t282_96 [some (.ref 367), u1, u2, some (.int v3), u4, u5, u6] [] g (q_Mo_days_96 v3 k28 g) := by
  unfold q_Mo_days_96
  refine tr_ldA rfl (?_)
  refine tr_invVI rfl rfl (fk_367 hF) (Nat.le_of_ble_eq_true rfl) (by decide) (Nat.le_of_ble_eq_true rfl) (tm238 (by omega) hF) (fun r33 g31 _ hF32 => ?_)
  refine tr_pop (tr_inc rfl (lKill_id hu2) rfl (?_))
  refine tr_gotoE e282_28 (?_)
  exact hk28 _ _ _ _ hu4 hu5 _ hF32
def q_Mo_days_73 (v3 : Int32) (v4 : Int32) (v5 : Int32) (v6 : Int32) (k28 : Int32 → hG → hO Int32) (g : hG) : hO Int32 :=
  if v6 = (2 : Int32) then (bnd (q_Mo_splitTo v4 (irem v5 (4 : Int32)) g) fun r36 g34 => if r36 = (-1 : Int32) then (q_Mo_days_96 v3 k28 g34) else (bnd (q_Mo_splitTo v4 (irem v5 (4 : Int32)) g34) fun r40 g38 => gd ((40 : Int32) + v4) 5468 <| wr (sI g38 369 ((40 : Int32) + v4).toNatClampNeg r40) fun g41 => q_Mo_days_96 v3 k28 g41)) else (q_Mo_days_96 v3 k28 g)
theorem th282_73 {e : Nat} (he : 7 ≤ e + 1) {v3 : Int32} {v4 : Int32} {v5 : Int32} {v6 : Int32} {k28 : Int32 → hG → hO Int32} {u1 : Option Value} {u2 : Option Value} (hk28 : ∀ (x3 : Int32) (y4 : Option Value) (y5 : Option Value) (y6 : Option Value) (_ : isL (some y4) = false) (_ : isL (some y5) = false) (g : hG), Frz g → Tri wI (e + 1) 282 t282_28 [some (.ref 367), u1, u2, some (.int x3), y4, y5, y6] [] g (k28 x3 g)) (hu2 : isL (some u2) = false) {g : hG} (hF : Frz g) : Tri wI (e + 1) 282 t282_73 [some (.ref 367), u1, u2, some (.int v3), some (.int v4), some (.int v5), some (.int v6)] [] g (q_Mo_days_73 v3 v4 v5 v6 k28 g) := by
  unfold q_Mo_days_73
  refine tr_ldI rfl (tr_pushI (?_))
  refine tr_ifn e282_96 (c_ne _ _) (fun hc30 => ?_) (fun hc30 => ?_)
  · exact th282_96 he hk28 hu2 rfl rfl hF
  · refine tr_ldA rfl (tr_ldI rfl (tr_ldI rfl (tr_pushI (tr_dvdl (v := (irem v5 (4 : Int32))) (by decide) rfl (?_)))))
    refine tr_invVI rfl rfl (fk_367 hF) (Nat.le_of_ble_eq_true rfl) (by decide) (Nat.le_of_ble_eq_true rfl) (tm235 (by omega) hF) (fun r36 g34 _ hF35 => ?_)
    refine tr_pushI (?_)
    refine tr_ifj e282_96 (c_eq _ _) (fun hc37 => ?_) (fun hc37 => ?_)
    · exact th282_96 he hk28 hu2 rfl rfl hF35
    · refine tr_ldA rfl (tr_getP (b := 369) (fk_367 hF35) (fp_367_3 hF35) (tr_pushI (tr_ldI rfl (tr_bin (v := ((40 : Int32) + v4)) rfl (tr_ldA rfl (?_))))))
      refine tr_ldI rfl (tr_ldI rfl (tr_pushI (tr_dvdl (v := (irem v5 (4 : Int32))) (by decide) rfl (?_))))
      refine tr_invVI rfl rfl (fk_367 hF35) (Nat.le_of_ble_eq_true rfl) (by decide) (Nat.le_of_ble_eq_true rfl) (tm235 (by omega) hF35) (fun r40 g38 _ hF39 => ?_)
      refine tr_astI hF39 (fk_369 hF39) (fl_369 hF39) (fun _ g41 _ hF42 => ?_)
      exact th282_96 he hk28 hu2 rfl rfl hF42
def q_Mo_days_28 (v2 : Int32) (k101 : hG → hO Int32) (k28 : Int32 → hG → hO Int32) (v3 : Int32) (g : hG) : hO Int32 :=
  if v2 ≤ v3 then (k101 g) else (gd (4 : Int32) 5468 <| if (999 : Int32) ≤ (gI g 369 (4 : Int32).toNatClampNeg) then (k101 g) else (bnd (q_Mo_draw (8 : Int32) g) fun r22 g20 => bnd (q_Mo_draw (25 : Int32) g20) fun r25 g23 => bnd (q_Mo_draw (4 : Int32) g23) fun r28 g26 => if (2 : Int32) ≤ r28 then (q_Mo_days_73 v3 r22 r25 r28 k28 g26) else (gd ((32 : Int32) + r22) 5468 <| if (gI g26 369 ((32 : Int32) + r22).toNatClampNeg) = (0 : Int32) then (gd ((32 : Int32) + r22) 5468 <| wr (sI g26 369 ((32 : Int32) + r22).toNatClampNeg (1 : Int32)) fun g44 => gd ((40 : Int32) + r22) 5468 <| wr (sI g44 369 ((40 : Int32) + r22).toNatClampNeg r25) fun g46 => q_Mo_days_73 v3 r22 r25 r28 k28 g46) else (q_Mo_days_73 v3 r22 r25 r28 k28 g26))))
def q_Mo_days_28L (v2 : Int32) (k101 : hG → hO Int32) : Nat → Int32 → hG → hO Int32
  | 0 => fun _ _ => none
  | n + 1 => fun v3 g => q_Mo_days_28 v2 k101 (q_Mo_days_28L v2 k101 n) v3 g
theorem q_Mo_days_28L_s (v2 : Int32) (k101 : hG → hO Int32) (n : Nat) (v3 : Int32) (g : hG) : q_Mo_days_28L v2 k101 (n + 1) v3 g = q_Mo_days_28 v2 k101 (q_Mo_days_28L v2 k101 n) v3 g := rfl
theorem th282_28 {e : Nat} (he : 7 ≤ e + 1) {v2 : Int32} {k101 : hG → hO Int32} {k28 : Int32 → hG → hO Int32} {v3 : Int32} {u1 : Option Value} {u4 : Option Value} {u5 : Option Value} {u6 : Option Value} (hk101 : ∀ (y3 : Option Value) (y4 : Option Value) (y5 : Option Value) (y6 : Option Value) (_ : isL (some y3) = false) (_ : isL (some y4) = false) (_ : isL (some y5) = false) (g : hG), Frz g → Tri wI (e + 1) 282 t282_101 [some (.ref 367), u1, some (.int v2), y3, y4, y5, y6] [] g (k101 g)) (hk28 : ∀ (x3 : Int32) (y4 : Option Value) (y5 : Option Value) (y6 : Option Value) (_ : isL (some y4) = false) (_ : isL (some y5) = false) (g : hG), Frz g → Tri wI (e + 1) 282 t282_28 [some (.ref 367), u1, some (.int v2), some (.int x3), y4, y5, y6] [] g (k28 x3 g)) (hu4 : isL (some u4) = false) (hu5 : isL (some u5) = false) {g : hG} (hF : Frz g) : Tri wI (e + 1) 282 t282_28 [some (.ref 367), u1, some (.int v2), some (.int v3), u4, u5, u6] [] g (q_Mo_days_28 v2 k101 k28 v3 g) := by
  unfold q_Mo_days_28
  refine tr_ldI rfl (tr_ldI rfl (?_))
  refine tr_ifj e282_101 (c_ge _ _) (fun hc18 => ?_) (fun hc18 => ?_)
  · exact hk101 _ _ _ _ rfl hu4 hu5 _ hF
  · refine tr_ldA rfl (tr_getP (b := 369) (fk_367 hF) (fp_367_3 hF) (tr_pushI (tr_aldI (fk_369 hF) (fl_369 hF) (fun _ => tr_pushI (?_)))))
    refine tr_ifj e282_101 (c_ge _ _) (fun hc19 => ?_) (fun hc19 => ?_)
    · exact hk101 _ _ _ _ rfl hu4 hu5 _ hF
    · refine tr_ldA rfl (tr_pushI (?_))
      refine tr_invVI rfl rfl (fk_367 hF) (Nat.le_of_ble_eq_true rfl) (by decide) (Nat.le_of_ble_eq_true rfl) (tm281 hF) (fun r22 g20 _ hF21 => ?_)
      refine tr_stI (Nat.le_of_ble_eq_true rfl) rfl rfl (tr_ldA rfl (tr_pushI (?_)))
      refine tr_invVI rfl rfl (fk_367 hF21) (Nat.le_of_ble_eq_true rfl) (by decide) (Nat.le_of_ble_eq_true rfl) (tm281 hF21) (fun r25 g23 _ hF24 => ?_)
      refine tr_stI (Nat.le_of_ble_eq_true rfl) rfl rfl (tr_ldA rfl (tr_pushI (?_)))
      refine tr_invVI rfl rfl (fk_367 hF24) (Nat.le_of_ble_eq_true rfl) (by decide) (Nat.le_of_ble_eq_true rfl) (tm281 hF24) (fun r28 g26 _ hF27 => ?_)
      refine tr_stI (Nat.le_of_ble_eq_true rfl) rfl rfl (tr_ldI rfl (tr_pushI (?_)))
      refine tr_ifj e282_73 (c_ge _ _) (fun hc29 => ?_) (fun hc29 => ?_)
      · exact th282_73 he hk28 rfl hF27
      · refine tr_ldA rfl (tr_getP (b := 369) (fk_367 hF27) (fp_367_3 hF27) (tr_pushI (tr_ldI rfl (tr_bin (v := ((32 : Int32) + r22)) rfl (tr_aldI (fk_369 hF27) (fl_369 hF27) (fun _ => ?_))))))
        refine tr_if0n e282_73 (c_ne _ _) (fun hc43 => ?_) (fun hc43 => ?_)
        · exact th282_73 he hk28 rfl hF27
        · refine tr_ldA rfl (tr_getP (b := 369) (fk_367 hF27) (fp_367_3 hF27) (tr_pushI (tr_ldI rfl (tr_bin (v := ((32 : Int32) + r22)) rfl (tr_pushI (?_))))))
          refine tr_astI hF27 (fk_369 hF27) (fl_369 hF27) (fun _ g44 _ hF45 => tr_ldA rfl (tr_getP (b := 369) (fk_367 hF45) (fp_367_3 hF45) (tr_pushI (tr_ldI rfl (tr_bin (v := ((40 : Int32) + r22)) rfl (?_))))))
          refine tr_ldI rfl (tr_astI hF45 (fk_369 hF45) (fl_369 hF45) (fun _ g46 _ hF47 => ?_))
          exact th282_73 he hk28 rfl hF47
theorem th282_28L {e : Nat} (he : 7 ≤ e + 1) {v2 : Int32} {k101 : hG → hO Int32} {u1 : Option Value} (hk101 : ∀ (y3 : Option Value) (y4 : Option Value) (y5 : Option Value) (y6 : Option Value) (_ : isL (some y3) = false) (_ : isL (some y4) = false) (_ : isL (some y5) = false) (g : hG), Frz g → Tri wI (e + 1) 282 t282_101 [some (.ref 367), u1, some (.int v2), y3, y4, y5, y6] [] g (k101 g)) : ∀ (n : Nat) (v3 : Int32) (u4 : Option Value) (u5 : Option Value) (u6 : Option Value) (_ : isL (some u4) = false) (_ : isL (some u5) = false) (g : hG), Frz g → Tri wI (e + 1) 282 t282_28 [some (.ref 367), u1, some (.int v2), some (.int v3), u4, u5, u6] [] g (q_Mo_days_28L v2 k101 n v3 g)
  | 0 => fun _ _ _ _ _ _ _ _ => Tri.none_
  | n + 1 => fun _ _ _ _ z4 z5 g hF => th282_28 he hk101 (th282_28L he hk101 n) z4 z5 hF
def q_Mo_days_103 (k118 : hG → hO Int32) (k103 : Int32 → hG → hO Int32) (v3 : Int32) (g : hG) : hO Int32 :=
  if (52 : Int32) ≤ v3 then (k118 g) else (gd ((4 : Int32) + v3) 5468 <| gd v3 52 <| wr (sI g 398 v3.toNatClampNeg (gI g 369 ((4 : Int32) + v3).toNatClampNeg)) fun g55 => k103 (v3 + (1 : Int32)) g55)
def q_Mo_days_103L (k118 : hG → hO Int32) : Nat → Int32 → hG → hO Int32
  | 0 => fun _ _ => none
  | n + 1 => fun v3 g => q_Mo_days_103 k118 (q_Mo_days_103L k118 n) v3 g
theorem q_Mo_days_103L_s (k118 : hG → hO Int32) (n : Nat) (v3 : Int32) (g : hG) : q_Mo_days_103L k118 (n + 1) v3 g = q_Mo_days_103 k118 (q_Mo_days_103L k118 n) v3 g := rfl
theorem th282_103 {e : Nat} (he : 7 ≤ e + 1) {k118 : hG → hO Int32} {k103 : Int32 → hG → hO Int32} {v3 : Int32} {u1 : Option Value} {u2 : Option Value} {u4 : Option Value} {u5 : Option Value} {u6 : Option Value} (hk118 : ∀ (y3 : Option Value) (_ : isL (some y3) = false) (g : hG), Frz g → Tri wI (e + 1) 282 t282_118 [some (.ref 367), u1, u2, y3, u4, u5, u6] [] g (k118 g)) (hk103 : ∀ (x3 : Int32) (g : hG), Frz g → Tri wI (e + 1) 282 t282_103 [some (.ref 367), u1, u2, some (.int x3), u4, u5, u6] [] g (k103 x3 g)) (hu2 : isL (some u2) = false) (hu4 : isL (some u4) = false) (hu5 : isL (some u5) = false) {g : hG} (hF : Frz g) : Tri wI (e + 1) 282 t282_103 [some (.ref 367), u1, u2, some (.int v3), u4, u5, u6] [] g (q_Mo_days_103 k118 k103 v3 g) := by
  unfold q_Mo_days_103
  refine tr_ldI rfl (tr_pushI (?_))
  refine tr_ifj e282_118 (c_ge _ _) (fun hc54 => ?_) (fun hc54 => ?_)
  · exact hk118 _ rfl _ hF
  · refine tr_ldA rfl (tr_getP (b := 398) (fk_367 hF) (fp_367_56 hF) (tr_ldI rfl (tr_ldA rfl (tr_getP (b := 369) (fk_367 hF) (fp_367_3 hF) (tr_pushI (?_))))))
    refine tr_ldI rfl (tr_bin (v := ((4 : Int32) + v3)) rfl (tr_aldI (fk_369 hF) (fl_369 hF) (fun _ => tr_astI hF (fk_398 hF) (fl_398 hF) (fun _ g55 _ hF56 => tr_inc rfl (lKill_id hu2) rfl (?_)))))
    refine tr_gotoE e282_103 (?_)
    exact hk103 _ _ hF56
theorem th282_103L {e : Nat} (he : 7 ≤ e + 1) {k118 : hG → hO Int32} {u1 : Option Value} {u2 : Option Value} {u4 : Option Value} {u5 : Option Value} {u6 : Option Value} (hk118 : ∀ (y3 : Option Value) (_ : isL (some y3) = false) (g : hG), Frz g → Tri wI (e + 1) 282 t282_118 [some (.ref 367), u1, u2, y3, u4, u5, u6] [] g (k118 g)) (hu2 : isL (some u2) = false) (hu4 : isL (some u4) = false) (hu5 : isL (some u5) = false) : ∀ (n : Nat) (v3 : Int32) (g : hG), Frz g → Tri wI (e + 1) 282 t282_103 [some (.ref 367), u1, u2, some (.int v3), u4, u5, u6] [] g (q_Mo_days_103L k118 n v3 g)
  | 0 => fun _ _ _ => Tri.none_
  | n + 1 => fun _ g hF => th282_103 he hk118 (th282_103L he hk118 hu2 hu4 hu5 n) hu2 hu4 hu5 hF
def q_Mo_days_101 (g : hG) : hO Int32 :=
  q_Mo_days_103L (fun g58 => wr (sI g58 367 57 (1 : Int32)) fun g60 => bnd (q_Mo_howMany (2 : Int32) g60) fun r64 g62 => bnd (q_Mo_putBack (16 : Int32) g62) fun _ g65 => bnd (q_Mo_tell r64 g65) fun r69 g67 => some (r69, g67)) FU (0 : Int32) g
theorem th282_101 {e : Nat} (he : 7 ≤ e + 1) {u1 : Option Value} {u2 : Option Value} {u3 : Option Value} {u4 : Option Value} {u5 : Option Value} {u6 : Option Value} (hu2 : isL (some u2) = false) (hu3 : isL (some u3) = false) (hu4 : isL (some u4) = false) (hu5 : isL (some u5) = false) {g : hG} (hF : Frz g) : Tri wI (e + 1) 282 t282_101 [some (.ref 367), u1, u2, u3, u4, u5, u6] [] g (q_Mo_days_101 g) := by
  unfold q_Mo_days_101
  refine tr_pushI (tr_stI (Nat.le_of_ble_eq_true rfl) (lKill_id hu2) rfl (?_))
  refine th282_103L he (fun y57 zy57 g58 hF59 => ?_) hu2 hu4 hu5 FU _ _ hF
  · refine tr_ldA rfl (tr_pushI (tr_putZl (Or.inr rfl) hF59 (fk_367 hF59) (fun g60 _ hF61 => tr_ldA rfl (tr_pushI (?_)))))
    refine tr_invVI rfl rfl (fk_367 hF61) (Nat.le_of_ble_eq_true rfl) (by decide) (Nat.le_of_ble_eq_true rfl) (tm182 hF61) (fun r64 g62 _ hF63 => ?_)
    refine tr_stI (Nat.le_of_ble_eq_true rfl) (lKill_id hu2) rfl (tr_ldA rfl (tr_pushI (?_)))
    refine tr_invVU rfl rfl (fk_367 hF63) (Nat.le_of_ble_eq_true rfl) (by decide) (Nat.le_of_ble_eq_true rfl) (tm173 hF63) (fun _ g65 _ hF66 => ?_)
    refine tr_ldA rfl (tr_ldI rfl (?_))
    refine tr_invVI rfl rfl (fk_367 hF66) (Nat.le_of_ble_eq_true rfl) (by decide) (Nat.le_of_ble_eq_true rfl) (tm169 hF66) (fun r69 g67 _ hF68 => ?_)
    exact tr_retI hF68
def q_Mo_days (v1 : Int32) (v2 : Int32) (g : hG) : hO Int32 :=
  wr (sI g 367 0 (0 : Int32)) fun g1 => bnd (q_Mo_in v1.toInt64 (0 : Int64) (1000000 : Int64) g1) fun r5 g3 => if r5 = (0 : Int32) then (q_Mo_days_15 g3) else (bnd (q_Mo_in v2.toInt64 (1 : Int64) (60 : Int64) g3) fun r12 g10 => if r12 = (0 : Int32) then (q_Mo_days_15 g10) else (bnd (q_Mo_keepAll (16 : Int32) g10) fun _ g14 => wr (sJ g14 367 55 v1.toInt64) fun g16 => q_Mo_days_28L v2 (fun g52 => q_Mo_days_101 g52) FU (0 : Int32) g16))
theorem tm282 {d : Nat} {v1 : Int32} {v2 : Int32} (hd : 7 ≤ d) {g : hG} (hF : Frz g) : TM wI d 282 [.ref 367, .int v1, .int v2] g (q_Mo_days v1 v2 g) := by
  obtain ⟨e, rfl⟩ : ∃ e, d = e + 1 := ⟨d - 1, by omega⟩
  have he := hd
  refine TM.ofE e282_0 (lv := [some (.ref 367), some (.int v1), some (.int v2), none, none, none, none]) rfl ?_
  unfold q_Mo_days
  refine tr_ldA rfl (tr_pushI (tr_putI hF (fk_367 hF) (fun g1 _ hF2 => tr_ldI rfl (tr_i2l (tr_pushL (?_))))))
  refine tr_pushL (?_)
  refine tr_invSI rfl rfl (Nat.le_of_ble_eq_true rfl) (Nat.le_of_ble_eq_true rfl) (by decide) (Nat.le_of_ble_eq_true rfl) (tm165 hF2) (fun r5 g3 _ hF4 => ?_)
  refine tr_if0j e282_15 (c_eq _ _) (fun hc6 => ?_) (fun hc6 => ?_)
  · exact th282_15 he rfl rfl rfl rfl hF4
  · refine tr_ldI rfl (tr_i2l (tr_pushL (tr_pushL (?_))))
    refine tr_invSI rfl rfl (Nat.le_of_ble_eq_true rfl) (Nat.le_of_ble_eq_true rfl) (by decide) (Nat.le_of_ble_eq_true rfl) (tm165 hF4) (fun r12 g10 _ hF11 => ?_)
    refine tr_if0n e282_19 (c_ne _ _) (fun hc13 => ?_) (fun hc13 => ?_)
    · refine tr_ldA rfl (tr_pushI (?_))
      refine tr_invVU rfl rfl (fk_367 hF11) (Nat.le_of_ble_eq_true rfl) (by decide) (Nat.le_of_ble_eq_true rfl) (tm172 hF11) (fun _ g14 _ hF15 => ?_)
      refine tr_ldA rfl (tr_ldI rfl (tr_i2l (tr_putJ hF15 (fk_367 hF15) (fun g16 _ hF17 => tr_pushI (tr_stI (Nat.le_of_ble_eq_true rfl) rfl rfl (?_))))))
      refine th282_28L he (fun y48 y49 y50 y51 zy48 zy49 zy50 g52 hF53 => ?_) FU _ _ _ _ rfl rfl _ hF17
      · exact th282_101 he rfl zy48 zy49 zy50 hF53
    · exact th282_15 he rfl rfl rfl rfl hF11
-- Mo_drawn
abbrev t283_29 : List hOp := oPushI 4 :: oBin (fun x y => x - y) :: oLdI 1 :: oBin (fun x y => x + y) :: oALdI 13 :: oRetI :: []
abbrev t283_28 : List hOp := oPushI 48 :: t283_29
abbrev t283_23 : List hOp := oLdI 2 :: oPushI 1 :: oIf cNe 28 :: oPushI 40 :: oGoto 29 :: t283_28
abbrev t283_17 : List hOp := oLdA 0 :: oGetP 12 56 :: oLdI 2 :: oIf0 cNe 23 :: oPushI 32 :: oGoto 29 :: t283_23
abbrev t283_15 : List hOp := oPushI (-1) :: oRetI :: t283_17
abbrev t283_0 : List hOp := oLdA 0 :: oPushI 0 :: oPutI 12 0 :: oLdA 0 :: oGetI 12 57 :: oIf0 cEq 15 :: oLdI 1 :: oInvS 179 1 :: oIf0 cEq 15 :: oLdI 2 :: oI2L :: oPushL 0 :: oPushL 2 :: oInvS 165 3 :: oIf0 cNe 17 :: t283_15
theorem e283_0 : (opsOf 283).drop 0 = t283_0 := rfl
theorem e283_15 : (opsOf 283).drop 15 = t283_15 := rfl
theorem e283_17 : (opsOf 283).drop 17 = t283_17 := rfl
theorem e283_23 : (opsOf 283).drop 23 = t283_23 := rfl
theorem e283_28 : (opsOf 283).drop 28 = t283_28 := rfl
theorem e283_29 : (opsOf 283).drop 29 = t283_29 := rfl
def q_Mo_drawn_29 (v1 : Int32) (w1 : Int32) (g : hG) : hO Int32 :=
  gd ((w1 - (4 : Int32)) + v1) 52 <| some ((gI g 398 ((w1 - (4 : Int32)) + v1).toNatClampNeg), g)
theorem th283_29 {e : Nat} (he : 2 ≤ e + 1) {v1 : Int32} {w1 : Int32} {u2 : Option Value} {g : hG} (hF : Frz g) : Tri wI (e + 1) 283 t283_29 [some (.ref 367), some (.int v1), u2] [.int w1, .ref 398] g (q_Mo_drawn_29 v1 w1 g) := by
  unfold q_Mo_drawn_29
  refine tr_pushI (tr_bin (v := (w1 - (4 : Int32))) rfl (tr_ldI rfl (tr_bin (v := ((w1 - (4 : Int32)) + v1)) rfl (tr_aldI (fk_398 hF) (fl_398 hF) (fun _ => ?_)))))
  exact tr_retI hF
def q_Mo_drawn (v1 : Int32) (v2 : Int32) (g : hG) : hO Int32 :=
  wr (sI g 367 0 (0 : Int32)) fun g1 => if (gI g1 367 57) = (0 : Int32) then (some ((-1 : Int32), g1)) else (bnd (q_Mo_isLetter1 v1 g1) fun r6 g4 => if r6 = (0 : Int32) then (some ((-1 : Int32), g4)) else (bnd (q_Mo_in v2.toInt64 (0 : Int64) (2 : Int64) g4) fun r10 g8 => if r10 = (0 : Int32) then (some ((-1 : Int32), g8)) else (q_Mo_drawn_29 v1 (if v2 = (0 : Int32) then (32 : Int32) else (if v2 = (1 : Int32) then (40 : Int32) else (48 : Int32))) g8)))
theorem tm283 {d : Nat} {v1 : Int32} {v2 : Int32} (hd : 2 ≤ d) {g : hG} (hF : Frz g) : TM wI d 283 [.ref 367, .int v1, .int v2] g (q_Mo_drawn v1 v2 g) := by
  obtain ⟨e, rfl⟩ : ∃ e, d = e + 1 := ⟨d - 1, by omega⟩
  have he := hd
  refine TM.ofE e283_0 (lv := [some (.ref 367), some (.int v1), some (.int v2)]) rfl ?_
  unfold q_Mo_drawn
  refine tr_ldA rfl (tr_pushI (tr_putI hF (fk_367 hF) (fun g1 _ hF2 => tr_ldA rfl (tr_getI (fk_367 hF2) (?_)))))
  refine tr_if0j e283_15 (c_eq _ _) (fun hc3 => ?_) (fun hc3 => ?_)
  · refine tr_pushI (?_)
    exact tr_retI hF2
  · refine tr_ldI rfl (?_)
    refine tr_invSI rfl rfl (Nat.le_of_ble_eq_true rfl) (Nat.le_of_ble_eq_true rfl) (by decide) (Nat.le_of_ble_eq_true rfl) (tm179 (by omega) hF2) (fun r6 g4 _ hF5 => ?_)
    refine tr_if0j e283_15 (c_eq _ _) (fun hc7 => ?_) (fun hc7 => ?_)
    · refine tr_pushI (?_)
      exact tr_retI hF5
    · refine tr_ldI rfl (tr_i2l (tr_pushL (tr_pushL (?_))))
      refine tr_invSI rfl rfl (Nat.le_of_ble_eq_true rfl) (Nat.le_of_ble_eq_true rfl) (by decide) (Nat.le_of_ble_eq_true rfl) (tm165 hF5) (fun r10 g8 _ hF9 => ?_)
      refine tr_if0n e283_17 (c_ne _ _) (fun hc11 => ?_) (fun hc11 => ?_)
      · refine tr_ldA rfl (tr_getP (b := 398) (fk_367 hF9) (fp_367_56 hF9) (tr_ldI rfl (?_)))
        refine tr_if0cE e283_23 (c_ne _ _) (fun hc13 => ?_) (fun hc13 => ?_)
        · rw [if_neg hc13]
          refine tr_ldI rfl (?_)
          refine tr_pushI (?_)
          refine tr_ifcE e283_28 (c_ne _ _) (fun hc14 => ?_) (fun hc14 => ?_)
          · rw [if_neg hc14]
            refine tr_pushI (?_)
            exact th283_29 he hF9
          · rw [if_pos (Decidable.not_not.mp hc14)]
            refine tr_pushI (?_)
            refine tr_gotoE e283_29 (?_)
            exact th283_29 he hF9
        · rw [if_pos (Decidable.not_not.mp hc13)]
          refine tr_pushI (?_)
          refine tr_gotoE e283_29 (?_)
          exact th283_29 he hF9
      · refine tr_pushI (?_)
        exact tr_retI hF9
-- Mo_image
abbrev t176_32 : List hOp := oLdA 0 :: oGetP 12 5 :: oLdI 1 :: oPushI 1 :: oAStZ :: oLdA 0 :: oPushI 0 :: oInvV 169 12 1 :: oRetI :: []
abbrev t176_15 : List hOp := oLdI 2 :: oPushI 5468 :: oIf cGe 32 :: oLdA 0 :: oGetP 12 4 :: oPushI 5468 :: oLdI 1 :: oBin (fun x y => x * y) :: oLdI 2 :: oBin (fun x y => x + y) :: oLdA 0 :: oGetP 12 3 :: oLdI 2 :: oALdI 13 :: oAStI :: oInc 2 1 :: oGoto 15 :: t176_32
abbrev t176_13 : List hOp := oPushI 0 :: oStI 2 :: t176_15
abbrev t176_0 : List hOp := oLdA 0 :: oPushI 0 :: oPutI 12 0 :: oLdI 1 :: oI2L :: oPushL 0 :: oPushL 1 :: oInvS 165 3 :: oIf0 cNe 13 :: oLdA 0 :: oPushI (-1) :: oInvV 169 12 1 :: oRetI :: t176_13
theorem e176_0 : (opsOf 176).drop 0 = t176_0 := rfl
theorem e176_13 : (opsOf 176).drop 13 = t176_13 := rfl
theorem e176_15 : (opsOf 176).drop 15 = t176_15 := rfl
theorem e176_32 : (opsOf 176).drop 32 = t176_32 := rfl
def q_Mo_image_15 (v1 : Int32) (k32 : hG → hO Int32) (k15 : Int32 → hG → hO Int32) (v2 : Int32) (g : hG) : hO Int32 :=
  if (5468 : Int32) ≤ v2 then (k32 g) else (gd v2 5468 <| gd (((5468 : Int32) * v1) + v2) 10936 <| wr (sI g 370 (((5468 : Int32) * v1) + v2).toNatClampNeg (gI g 369 v2.toNatClampNeg)) fun g8 => k15 (v2 + (1 : Int32)) g8)
def q_Mo_image_15L (v1 : Int32) (k32 : hG → hO Int32) : Nat → Int32 → hG → hO Int32
  | 0 => fun _ _ => none
  | n + 1 => fun v2 g => q_Mo_image_15 v1 k32 (q_Mo_image_15L v1 k32 n) v2 g
theorem q_Mo_image_15L_s (v1 : Int32) (k32 : hG → hO Int32) (n : Nat) (v2 : Int32) (g : hG) : q_Mo_image_15L v1 k32 (n + 1) v2 g = q_Mo_image_15 v1 k32 (q_Mo_image_15L v1 k32 n) v2 g := rfl
theorem th176_15 {e : Nat} (he : 1 ≤ e + 1) {v1 : Int32} {k32 : hG → hO Int32} {k15 : Int32 → hG → hO Int32} {v2 : Int32} (hk32 : ∀ (y2 : Option Value) (g : hG), Frz g → Tri wI (e + 1) 176 t176_32 [some (.ref 367), some (.int v1), y2] [] g (k32 g)) (hk15 : ∀ (x2 : Int32) (g : hG), Frz g → Tri wI (e + 1) 176 t176_15 [some (.ref 367), some (.int v1), some (.int x2)] [] g (k15 x2 g)) {g : hG} (hF : Frz g) : Tri wI (e + 1) 176 t176_15 [some (.ref 367), some (.int v1), some (.int v2)] [] g (q_Mo_image_15 v1 k32 k15 v2 g) := by
  unfold q_Mo_image_15
  refine tr_ldI rfl (tr_pushI (?_))
  refine tr_ifj e176_32 (c_ge _ _) (fun hc7 => ?_) (fun hc7 => ?_)
  · exact hk32 _ _ hF
  · refine tr_ldA rfl (tr_getP (b := 370) (fk_367 hF) (fp_367_4 hF) (tr_pushI (tr_ldI rfl (tr_bin (v := ((5468 : Int32) * v1)) rfl (tr_ldI rfl (?_))))))
    refine tr_bin (v := (((5468 : Int32) * v1) + v2)) rfl (tr_ldA rfl (tr_getP (b := 369) (fk_367 hF) (fp_367_3 hF) (tr_ldI rfl (tr_aldI (fk_369 hF) (fl_369 hF) (fun _ => tr_astI hF (fk_370 hF) (fl_370 hF) (fun _ g8 _ hF9 => ?_))))))
    refine tr_inc rfl rfl rfl (?_)
    refine tr_gotoE e176_15 (?_)
    exact hk15 _ _ hF9
theorem th176_15L {e : Nat} (he : 1 ≤ e + 1) {v1 : Int32} {k32 : hG → hO Int32} (hk32 : ∀ (y2 : Option Value) (g : hG), Frz g → Tri wI (e + 1) 176 t176_32 [some (.ref 367), some (.int v1), y2] [] g (k32 g)) : ∀ (n : Nat) (v2 : Int32) (g : hG), Frz g → Tri wI (e + 1) 176 t176_15 [some (.ref 367), some (.int v1), some (.int v2)] [] g (q_Mo_image_15L v1 k32 n v2 g)
  | 0 => fun _ _ _ => Tri.none_
  | n + 1 => fun _ g hF => th176_15 he hk32 (th176_15L he hk32 n) hF
def q_Mo_image (v1 : Int32) (g : hG) : hO Int32 :=
  wr (sI g 367 0 (0 : Int32)) fun g1 => bnd (q_Mo_in v1.toInt64 (0 : Int64) (1 : Int64) g1) fun r5 g3 => if r5 = (0 : Int32) then (bnd (q_Mo_tell (-1 : Int32) g3) fun r20 g18 => some (r20, g18)) else (q_Mo_image_15L v1 (fun g11 => gd v1 2 <| wr (sI g11 371 v1.toNatClampNeg (1 : Int32)) fun g13 => bnd (q_Mo_tell (0 : Int32) g13) fun r17 g15 => some (r17, g15)) FU (0 : Int32) g3)
theorem tm176 {d : Nat} {v1 : Int32} (hd : 1 ≤ d) {g : hG} (hF : Frz g) : TM wI d 176 [.ref 367, .int v1] g (q_Mo_image v1 g) := by
  obtain ⟨e, rfl⟩ : ∃ e, d = e + 1 := ⟨d - 1, by omega⟩
  have he := hd
  refine TM.ofE e176_0 (lv := [some (.ref 367), some (.int v1), none]) rfl ?_
  unfold q_Mo_image
  refine tr_ldA rfl (tr_pushI (tr_putI hF (fk_367 hF) (fun g1 _ hF2 => tr_ldI rfl (tr_i2l (tr_pushL (?_))))))
  refine tr_pushL (?_)
  refine tr_invSI rfl rfl (Nat.le_of_ble_eq_true rfl) (Nat.le_of_ble_eq_true rfl) (by decide) (Nat.le_of_ble_eq_true rfl) (tm165 hF2) (fun r5 g3 _ hF4 => ?_)
  refine tr_if0n e176_13 (c_ne _ _) (fun hc6 => ?_) (fun hc6 => ?_)
  · refine tr_pushI (tr_stI (Nat.le_of_ble_eq_true rfl) rfl rfl (?_))
    refine th176_15L he (fun y10 g11 hF12 => ?_) FU _ _ hF4
    · refine tr_ldA rfl (tr_getP (b := 371) (fk_367 hF12) (fp_367_5 hF12) (tr_ldI rfl (tr_pushI (tr_astZl (Or.inr rfl) hF12 (fk_371 hF12) (fl_371 hF12) (fun _ g13 _ hF14 => tr_ldA rfl (?_))))))
      refine tr_pushI (?_)
      refine tr_invVI rfl rfl (fk_367 hF14) (Nat.le_of_ble_eq_true rfl) (by decide) (Nat.le_of_ble_eq_true rfl) (tm169 hF14) (fun r17 g15 _ hF16 => ?_)
      exact tr_retI hF16
  · refine tr_ldA rfl (tr_pushI (?_))
    refine tr_invVI rfl rfl (fk_367 hF4) (Nat.le_of_ble_eq_true rfl) (by decide) (Nat.le_of_ble_eq_true rfl) (tm169 hF4) (fun r20 g18 _ hF19 => ?_)
    exact tr_retI hF19
-- Mo_back
abbrev t177_41 : List hOp := oLdA 0 :: oPushI 0 :: oInvV 171 12 1 :: oRetI :: []
abbrev t177_24 : List hOp := oLdI 2 :: oPushI 5468 :: oIf cGe 41 :: oLdA 0 :: oGetP 12 3 :: oLdI 2 :: oLdA 0 :: oGetP 12 4 :: oPushI 5468 :: oLdI 1 :: oBin (fun x y => x * y) :: oLdI 2 :: oBin (fun x y => x + y) :: oALdI 13 :: oAStI :: oInc 2 1 :: oGoto 24 :: t177_41
abbrev t177_22 : List hOp := oPushI 0 :: oStI 2 :: t177_24
abbrev t177_13 : List hOp := oLdA 0 :: oGetP 12 5 :: oLdI 1 :: oALdI 15 :: oIf0 cNe 22 :: oLdA 0 :: oPushI (-2) :: oInvV 169 12 1 :: oRetI :: t177_22
abbrev t177_0 : List hOp := oLdA 0 :: oPushI 0 :: oPutI 12 0 :: oLdI 1 :: oI2L :: oPushL 0 :: oPushL 1 :: oInvS 165 3 :: oIf0 cNe 13 :: oLdA 0 :: oPushI (-1) :: oInvV 169 12 1 :: oRetI :: t177_13
theorem e177_0 : (opsOf 177).drop 0 = t177_0 := rfl
theorem e177_13 : (opsOf 177).drop 13 = t177_13 := rfl
theorem e177_22 : (opsOf 177).drop 22 = t177_22 := rfl
theorem e177_24 : (opsOf 177).drop 24 = t177_24 := rfl
theorem e177_41 : (opsOf 177).drop 41 = t177_41 := rfl
def q_Mo_back_24 (v1 : Int32) (k41 : hG → hO Int32) (k24 : Int32 → hG → hO Int32) (v2 : Int32) (g : hG) : hO Int32 :=
  if (5468 : Int32) ≤ v2 then (k41 g) else (gd (((5468 : Int32) * v1) + v2) 10936 <| gd v2 5468 <| wr (sI g 369 v2.toNatClampNeg (gI g 370 (((5468 : Int32) * v1) + v2).toNatClampNeg)) fun g9 => k24 (v2 + (1 : Int32)) g9)
def q_Mo_back_24L (v1 : Int32) (k41 : hG → hO Int32) : Nat → Int32 → hG → hO Int32
  | 0 => fun _ _ => none
  | n + 1 => fun v2 g => q_Mo_back_24 v1 k41 (q_Mo_back_24L v1 k41 n) v2 g
theorem q_Mo_back_24L_s (v1 : Int32) (k41 : hG → hO Int32) (n : Nat) (v2 : Int32) (g : hG) : q_Mo_back_24L v1 k41 (n + 1) v2 g = q_Mo_back_24 v1 k41 (q_Mo_back_24L v1 k41 n) v2 g := rfl
theorem th177_24 {e : Nat} (he : 2 ≤ e + 1) {v1 : Int32} {k41 : hG → hO Int32} {k24 : Int32 → hG → hO Int32} {v2 : Int32} (hk41 : ∀ (y2 : Option Value) (g : hG), Frz g → Tri wI (e + 1) 177 t177_41 [some (.ref 367), some (.int v1), y2] [] g (k41 g)) (hk24 : ∀ (x2 : Int32) (g : hG), Frz g → Tri wI (e + 1) 177 t177_24 [some (.ref 367), some (.int v1), some (.int x2)] [] g (k24 x2 g)) {g : hG} (hF : Frz g) : Tri wI (e + 1) 177 t177_24 [some (.ref 367), some (.int v1), some (.int v2)] [] g (q_Mo_back_24 v1 k41 k24 v2 g) := by
  unfold q_Mo_back_24
  refine tr_ldI rfl (tr_pushI (?_))
  refine tr_ifj e177_41 (c_ge _ _) (fun hc8 => ?_) (fun hc8 => ?_)
  · exact hk41 _ _ hF
  · refine tr_ldA rfl (tr_getP (b := 369) (fk_367 hF) (fp_367_3 hF) (tr_ldI rfl (tr_ldA rfl (tr_getP (b := 370) (fk_367 hF) (fp_367_4 hF) (tr_pushI (?_))))))
    refine tr_ldI rfl (tr_bin (v := ((5468 : Int32) * v1)) rfl (tr_ldI rfl (tr_bin (v := (((5468 : Int32) * v1) + v2)) rfl (tr_aldI (fk_370 hF) (fl_370 hF) (fun _ => tr_astI hF (fk_369 hF) (fl_369 hF) (fun _ g9 _ hF10 => ?_))))))
    refine tr_inc rfl rfl rfl (?_)
    refine tr_gotoE e177_24 (?_)
    exact hk24 _ _ hF10
theorem th177_24L {e : Nat} (he : 2 ≤ e + 1) {v1 : Int32} {k41 : hG → hO Int32} (hk41 : ∀ (y2 : Option Value) (g : hG), Frz g → Tri wI (e + 1) 177 t177_41 [some (.ref 367), some (.int v1), y2] [] g (k41 g)) : ∀ (n : Nat) (v2 : Int32) (g : hG), Frz g → Tri wI (e + 1) 177 t177_24 [some (.ref 367), some (.int v1), some (.int v2)] [] g (q_Mo_back_24L v1 k41 n v2 g)
  | 0 => fun _ _ _ => Tri.none_
  | n + 1 => fun _ g hF => th177_24 he hk41 (th177_24L he hk41 n) hF
def q_Mo_back (v1 : Int32) (g : hG) : hO Int32 :=
  wr (sI g 367 0 (0 : Int32)) fun g1 => bnd (q_Mo_in v1.toInt64 (0 : Int64) (1 : Int64) g1) fun r5 g3 => if r5 = (0 : Int32) then (bnd (q_Mo_tell (-1 : Int32) g3) fun r22 g20 => some (r22, g20)) else (gd v1 2 <| if (gI g3 371 v1.toNatClampNeg) = (0 : Int32) then (bnd (q_Mo_tell (-2 : Int32) g3) fun r19 g17 => some (r19, g17)) else (q_Mo_back_24L v1 (fun g12 => bnd (q_Mo_lasting (0 : Int32) g12) fun r16 g14 => some (r16, g14)) FU (0 : Int32) g3))
theorem tm177 {d : Nat} {v1 : Int32} (hd : 2 ≤ d) {g : hG} (hF : Frz g) : TM wI d 177 [.ref 367, .int v1] g (q_Mo_back v1 g) := by
  obtain ⟨e, rfl⟩ : ∃ e, d = e + 1 := ⟨d - 1, by omega⟩
  have he := hd
  refine TM.ofE e177_0 (lv := [some (.ref 367), some (.int v1), none]) rfl ?_
  unfold q_Mo_back
  refine tr_ldA rfl (tr_pushI (tr_putI hF (fk_367 hF) (fun g1 _ hF2 => tr_ldI rfl (tr_i2l (tr_pushL (?_))))))
  refine tr_pushL (?_)
  refine tr_invSI rfl rfl (Nat.le_of_ble_eq_true rfl) (Nat.le_of_ble_eq_true rfl) (by decide) (Nat.le_of_ble_eq_true rfl) (tm165 hF2) (fun r5 g3 _ hF4 => ?_)
  refine tr_if0n e177_13 (c_ne _ _) (fun hc6 => ?_) (fun hc6 => ?_)
  · refine tr_ldA rfl (tr_getP (b := 371) (fk_367 hF4) (fp_367_5 hF4) (tr_ldI rfl (tr_aldI (fk_371 hF4) (fl_371 hF4) (fun _ => ?_))))
    refine tr_if0n e177_22 (c_ne _ _) (fun hc7 => ?_) (fun hc7 => ?_)
    · refine tr_pushI (tr_stI (Nat.le_of_ble_eq_true rfl) rfl rfl (?_))
      refine th177_24L he (fun y11 g12 hF13 => ?_) FU _ _ hF4
      · refine tr_ldA rfl (tr_pushI (?_))
        refine tr_invVI rfl rfl (fk_367 hF13) (Nat.le_of_ble_eq_true rfl) (by decide) (Nat.le_of_ble_eq_true rfl) (tm171 (by omega) hF13) (fun r16 g14 _ hF15 => ?_)
        exact tr_retI hF15
    · refine tr_ldA rfl (tr_pushI (?_))
      refine tr_invVI rfl rfl (fk_367 hF4) (Nat.le_of_ble_eq_true rfl) (by decide) (Nat.le_of_ble_eq_true rfl) (tm169 hF4) (fun r19 g17 _ hF18 => ?_)
      exact tr_retI hF18
  · refine tr_ldA rfl (tr_pushI (?_))
    refine tr_invVI rfl rfl (fk_367 hF4) (Nat.le_of_ble_eq_true rfl) (by decide) (Nat.le_of_ble_eq_true rfl) (tm169 hF4) (fun r22 g20 _ hF21 => ?_)
    exact tr_retI hF21
-- Mo_count
abbrev t284_80 : List hOp := oRetI :: []
abbrev t284_79 : List hOp := oPushI (-1) :: t284_80
abbrev t284_64 : List hOp := oLdI 1 :: oI2L :: oPushL 13 :: oPushL 15 :: oInvS 165 3 :: oIf0 cEq 79 :: oLdA 0 :: oGetP 12 3 :: oPushI 4 :: oLdI 1 :: oBin (fun x y => x + y) :: oPushI 13 :: oBin (fun x y => x - y) :: oALdI 13 :: oGoto 80 :: t284_79
abbrev t284_59 : List hOp := oLdA 0 :: oGetP 12 3 :: oPushI 2 :: oALdI 13 :: oRetI :: t284_64
abbrev t284_54 : List hOp := oLdA 0 :: oGetP 12 2 :: oPushI 6 :: oALdI 13 :: oRetI :: t284_59
abbrev t284_49 : List hOp := oLdA 0 :: oGetP 12 2 :: oPushI 5 :: oALdI 13 :: oRetI :: t284_54
abbrev t284_44 : List hOp := oLdA 0 :: oGetP 12 2 :: oPushI 3 :: oALdI 13 :: oRetI :: t284_49
abbrev t284_39 : List hOp := oLdA 0 :: oGetP 12 2 :: oPushI 2 :: oALdI 13 :: oRetI :: t284_44
abbrev t284_34 : List hOp := oLdA 0 :: oGetP 12 2 :: oPushI 1 :: oALdI 13 :: oRetI :: t284_39
abbrev t284_31 : List hOp := oLdA 0 :: oGetI 12 13 :: oRetI :: t284_34
abbrev t284_28 : List hOp := oLdA 0 :: oGetI 12 8 :: oRetI :: t284_31
abbrev t284_23 : List hOp := oLdA 0 :: oGetP 12 3 :: oPushI 1 :: oALdI 13 :: oRetI :: t284_28
abbrev t284_18 : List hOp := oLdA 0 :: oGetP 12 3 :: oPushI 0 :: oALdI 13 :: oRetI :: t284_23
abbrev t284_14 : List hOp := oLdA 0 :: oPushI 2 :: oInvV 182 12 1 :: oRetI :: t284_18
abbrev t284_10 : List hOp := oLdA 0 :: oPushI 0 :: oInvV 182 12 1 :: oRetI :: t284_14
abbrev t284_5 : List hOp := oLdA 0 :: oGetP 12 3 :: oPushI 3 :: oALdI 13 :: oRetI :: t284_10
abbrev t284_0 : List hOp := oLdA 0 :: oPushI 0 :: oPutI 12 0 :: oLdI 1 :: oSw 0 [5, 10, 14, 18, 23, 28, 31, 34, 39, 44, 49, 54, 59] 64 :: t284_5
theorem e284_0 : (opsOf 284).drop 0 = t284_0 := rfl
theorem e284_5 : (opsOf 284).drop 5 = t284_5 := rfl
theorem e284_10 : (opsOf 284).drop 10 = t284_10 := rfl
theorem e284_14 : (opsOf 284).drop 14 = t284_14 := rfl
theorem e284_18 : (opsOf 284).drop 18 = t284_18 := rfl
theorem e284_23 : (opsOf 284).drop 23 = t284_23 := rfl
theorem e284_28 : (opsOf 284).drop 28 = t284_28 := rfl
theorem e284_31 : (opsOf 284).drop 31 = t284_31 := rfl
theorem e284_34 : (opsOf 284).drop 34 = t284_34 := rfl
theorem e284_39 : (opsOf 284).drop 39 = t284_39 := rfl
theorem e284_44 : (opsOf 284).drop 44 = t284_44 := rfl
theorem e284_49 : (opsOf 284).drop 49 = t284_49 := rfl
theorem e284_54 : (opsOf 284).drop 54 = t284_54 := rfl
theorem e284_59 : (opsOf 284).drop 59 = t284_59 := rfl
theorem e284_64 : (opsOf 284).drop 64 = t284_64 := rfl
theorem e284_79 : (opsOf 284).drop 79 = t284_79 := rfl
theorem e284_80 : (opsOf 284).drop 80 = t284_80 := rfl
def q_Mo_count (v1 : Int32) (g : hG) : hO Int32 :=
  wr (sI g 367 0 (0 : Int32)) fun g1 => if v1 = (0 : Int32) then (gd (3 : Int32) 5468 <| some ((gI g1 369 (3 : Int32).toNatClampNeg), g1)) else if v1 = (1 : Int32) then (bnd (q_Mo_howMany (0 : Int32) g1) fun r5 g3 => some (r5, g3)) else if v1 = (2 : Int32) then (bnd (q_Mo_howMany (2 : Int32) g1) fun r8 g6 => some (r8, g6)) else if v1 = (3 : Int32) then (gd (0 : Int32) 5468 <| some ((gI g1 369 (0 : Int32).toNatClampNeg), g1)) else if v1 = (4 : Int32) then (gd (1 : Int32) 5468 <| some ((gI g1 369 (1 : Int32).toNatClampNeg), g1)) else if v1 = (5 : Int32) then (some ((gI g1 367 8), g1)) else if v1 = (6 : Int32) then (some ((gI g1 367 13), g1)) else if v1 = (7 : Int32) then (gd (1 : Int32) 7 <| some ((gI g1 368 (1 : Int32).toNatClampNeg), g1)) else if v1 = (8 : Int32) then (gd (2 : Int32) 7 <| some ((gI g1 368 (2 : Int32).toNatClampNeg), g1)) else if v1 = (9 : Int32) then (gd (3 : Int32) 7 <| some ((gI g1 368 (3 : Int32).toNatClampNeg), g1)) else if v1 = (10 : Int32) then (gd (5 : Int32) 7 <| some ((gI g1 368 (5 : Int32).toNatClampNeg), g1)) else if v1 = (11 : Int32) then (gd (6 : Int32) 7 <| some ((gI g1 368 (6 : Int32).toNatClampNeg), g1)) else if v1 = (12 : Int32) then (gd (2 : Int32) 5468 <| some ((gI g1 369 (2 : Int32).toNatClampNeg), g1)) else (bnd (q_Mo_in v1.toInt64 (13 : Int64) (15 : Int64) g1) fun r11 g9 => if r11 = (0 : Int32) then (some ((-1 : Int32), g9)) else (gd (((4 : Int32) + v1) - (13 : Int32)) 5468 <| some ((gI g9 369 (((4 : Int32) + v1) - (13 : Int32)).toNatClampNeg), g9)))
theorem tm284 {d : Nat} {v1 : Int32} (hd : 1 ≤ d) {g : hG} (hF : Frz g) : TM wI d 284 [.ref 367, .int v1] g (q_Mo_count v1 g) := by
  obtain ⟨e, rfl⟩ : ∃ e, d = e + 1 := ⟨d - 1, by omega⟩
  have he := hd
  refine TM.ofE e284_0 (lv := [some (.ref 367), some (.int v1)]) rfl ?_
  unfold q_Mo_count
  refine tr_ldA rfl (tr_pushI (tr_putI hF (fk_367 hF) (fun g1 _ hF2 => tr_ldI rfl (?_))))
  refine tr_sw1E (c := (0 : Int32)) e284_5 rfl (fun _ => ?_) (fun _ => ?_)
  · refine tr_ldA rfl (tr_getP (b := 369) (fk_367 hF2) (fp_367_3 hF2) (tr_pushI (tr_aldI (fk_369 hF2) (fl_369 hF2) (fun _ => ?_))))
    exact tr_retI hF2
  refine tr_sw1E (c := (1 : Int32)) e284_10 rfl (fun _ => ?_) (fun _ => ?_)
  · refine tr_ldA rfl (tr_pushI (?_))
    refine tr_invVI rfl rfl (fk_367 hF2) (Nat.le_of_ble_eq_true rfl) (by decide) (Nat.le_of_ble_eq_true rfl) (tm182 hF2) (fun r5 g3 _ hF4 => ?_)
    exact tr_retI hF4
  refine tr_sw1E (c := (2 : Int32)) e284_14 rfl (fun _ => ?_) (fun _ => ?_)
  · refine tr_ldA rfl (tr_pushI (?_))
    refine tr_invVI rfl rfl (fk_367 hF2) (Nat.le_of_ble_eq_true rfl) (by decide) (Nat.le_of_ble_eq_true rfl) (tm182 hF2) (fun r8 g6 _ hF7 => ?_)
    exact tr_retI hF7
  refine tr_sw1E (c := (3 : Int32)) e284_18 rfl (fun _ => ?_) (fun _ => ?_)
  · refine tr_ldA rfl (tr_getP (b := 369) (fk_367 hF2) (fp_367_3 hF2) (tr_pushI (tr_aldI (fk_369 hF2) (fl_369 hF2) (fun _ => ?_))))
    exact tr_retI hF2
  refine tr_sw1E (c := (4 : Int32)) e284_23 rfl (fun _ => ?_) (fun _ => ?_)
  · refine tr_ldA rfl (tr_getP (b := 369) (fk_367 hF2) (fp_367_3 hF2) (tr_pushI (tr_aldI (fk_369 hF2) (fl_369 hF2) (fun _ => ?_))))
    exact tr_retI hF2
  refine tr_sw1E (c := (5 : Int32)) e284_28 rfl (fun _ => ?_) (fun _ => ?_)
  · refine tr_ldA rfl (tr_getI (fk_367 hF2) (?_))
    exact tr_retI hF2
  refine tr_sw1E (c := (6 : Int32)) e284_31 rfl (fun _ => ?_) (fun _ => ?_)
  · refine tr_ldA rfl (tr_getI (fk_367 hF2) (?_))
    exact tr_retI hF2
  refine tr_sw1E (c := (7 : Int32)) e284_34 rfl (fun _ => ?_) (fun _ => ?_)
  · refine tr_ldA rfl (tr_getP (b := 368) (fk_367 hF2) (fp_367_2 hF2) (tr_pushI (tr_aldI (fk_368 hF2) (fl_368 hF2) (fun _ => ?_))))
    exact tr_retI hF2
  refine tr_sw1E (c := (8 : Int32)) e284_39 rfl (fun _ => ?_) (fun _ => ?_)
  · refine tr_ldA rfl (tr_getP (b := 368) (fk_367 hF2) (fp_367_2 hF2) (tr_pushI (tr_aldI (fk_368 hF2) (fl_368 hF2) (fun _ => ?_))))
    exact tr_retI hF2
  refine tr_sw1E (c := (9 : Int32)) e284_44 rfl (fun _ => ?_) (fun _ => ?_)
  · refine tr_ldA rfl (tr_getP (b := 368) (fk_367 hF2) (fp_367_2 hF2) (tr_pushI (tr_aldI (fk_368 hF2) (fl_368 hF2) (fun _ => ?_))))
    exact tr_retI hF2
  refine tr_sw1E (c := (10 : Int32)) e284_49 rfl (fun _ => ?_) (fun _ => ?_)
  · refine tr_ldA rfl (tr_getP (b := 368) (fk_367 hF2) (fp_367_2 hF2) (tr_pushI (tr_aldI (fk_368 hF2) (fl_368 hF2) (fun _ => ?_))))
    exact tr_retI hF2
  refine tr_sw1E (c := (11 : Int32)) e284_54 rfl (fun _ => ?_) (fun _ => ?_)
  · refine tr_ldA rfl (tr_getP (b := 368) (fk_367 hF2) (fp_367_2 hF2) (tr_pushI (tr_aldI (fk_368 hF2) (fl_368 hF2) (fun _ => ?_))))
    exact tr_retI hF2
  refine tr_sw1E (c := (12 : Int32)) e284_59 rfl (fun _ => ?_) (fun _ => ?_)
  · refine tr_ldA rfl (tr_getP (b := 369) (fk_367 hF2) (fp_367_3 hF2) (tr_pushI (tr_aldI (fk_369 hF2) (fl_369 hF2) (fun _ => ?_))))
    exact tr_retI hF2
  refine tr_sw0E e284_64 ?_
  refine tr_ldI rfl (tr_i2l (tr_pushL (tr_pushL (?_))))
  refine tr_invSI rfl rfl (Nat.le_of_ble_eq_true rfl) (Nat.le_of_ble_eq_true rfl) (by decide) (Nat.le_of_ble_eq_true rfl) (tm165 hF2) (fun r11 g9 _ hF10 => ?_)
  refine tr_if0j e284_79 (c_eq _ _) (fun hc12 => ?_) (fun hc12 => ?_)
  · refine tr_pushI (?_)
    exact tr_retI hF10
  · refine tr_ldA rfl (tr_getP (b := 369) (fk_367 hF10) (fp_367_3 hF10) (tr_pushI (tr_ldI rfl (tr_bin (v := ((4 : Int32) + v1)) rfl (tr_pushI (?_))))))
    refine tr_bin (v := (((4 : Int32) + v1) - (13 : Int32))) rfl (tr_aldI (fk_369 hF10) (fl_369 hF10) (fun _ => ?_))
    refine tr_gotoE e284_80 (?_)
    exact tr_retI hF10
-- Mo_status
abbrev t285_0 : List hOp := oLdA 0 :: oPushI 0 :: oPutI 12 0 :: oLdA 0 :: oGetI 12 1 :: oRetI :: []
theorem e285_0 : (opsOf 285).drop 0 = t285_0 := rfl
def q_Mo_status (g : hG) : hO Int32 :=
  wr (sI g 367 0 (0 : Int32)) fun g1 => some ((gI g1 367 1), g1)
theorem tm285 {d : Nat} {g : hG} (hF : Frz g) : TM wI d 285 [.ref 367] g (q_Mo_status g) := by
  refine TM.ofE e285_0 (lv := [some (.ref 367)]) rfl ?_
  unfold q_Mo_status
  refine tr_ldA rfl (tr_pushI (tr_putI hF (fk_367 hF) (fun g1 _ hF2 => tr_ldA rfl (tr_getI (fk_367 hF2) (?_)))))
  exact tr_retI hF2
