-- Mo_spillNow
abbrev t231_17 : List hOp := oLdA 0 :: oPushI 0 :: oInvV 174 12 1 :: oLdA 0 :: oGetP 12 3 :: oPushI 32 :: oLdI 1 :: oBin (fun x y => x + y) :: oPushI 1 :: oAStI :: oLdA 0 :: oGetP 12 3 :: oPushI 40 :: oLdI 1 :: oBin (fun x y => x + y) :: oLdI 2 :: oAStI :: oLdA 0 :: oLdI 2 :: oInvV 181 12 1 :: oInvS 167 1 :: oRetI :: []
abbrev t231_8 : List hOp := oLdA 0 :: oGetP 12 3 :: oPushI 32 :: oLdI 1 :: oBin (fun x y => x + y) :: oALdI 13 :: oIf0 cEq 17 :: oPushI (-3) :: oRetI :: t231_17
abbrev t231_6 : List hOp := oPushI (-1) :: oRetI :: t231_8
abbrev t231_0 : List hOp := oLdI 1 :: oInvS 179 1 :: oIf0 cEq 6 :: oLdI 2 :: oInvS 178 1 :: oIf0 cNe 8 :: t231_6
theorem e231_0 : (opsOf 231).drop 0 = t231_0 := rfl
theorem e231_6 : (opsOf 231).drop 6 = t231_6 := rfl
theorem e231_8 : (opsOf 231).drop 8 = t231_8 := rfl
theorem e231_17 : (opsOf 231).drop 17 = t231_17 := rfl
def q_Mo_spillNow (v1 : Int32) (v2 : Int32) (g : hG) : hO Int32 :=
  bnd (q_Mo_isLetter1 v1 g) fun r3 g1 => if r3 = (0 : Int32) then (some ((-1 : Int32), g1)) else (bnd (q_Mo_isCell v2 g1) fun r7 g5 => if r7 = (0 : Int32) then (some ((-1 : Int32), g5)) else (gd ((32 : Int32) + v1) 5468 <| if (gI g5 369 ((32 : Int32) + v1).toNatClampNeg) = (0 : Int32) then (bnd (q_Mo_remember (0 : Int32) g5) fun _ g10 => gd ((32 : Int32) + v1) 5468 <| wr (sI g10 369 ((32 : Int32) + v1).toNatClampNeg (1 : Int32)) fun g12 => gd ((40 : Int32) + v1) 5468 <| wr (sI g12 369 ((40 : Int32) + v1).toNatClampNeg v2) fun g14 => bnd (q_Mo_lettersOn v2 g14) fun r18 g16 => bnd (q_Mo_ones r18 g16) fun r21 g19 => some (r21, g19)) else (some ((-3 : Int32), g5))))
theorem tm231 {d : Nat} {v1 : Int32} {v2 : Int32} (hd : 2 ≤ d) {g : hG} (hF : Frz g) : TM wI d 231 [.ref 367, .int v1, .int v2] g (q_Mo_spillNow v1 v2 g) := by
  obtain ⟨e, rfl⟩ : ∃ e, d = e + 1 := ⟨d - 1, by omega⟩
  have he := hd
  refine TM.ofE e231_0 (lv := [some (.ref 367), some (.int v1), some (.int v2)]) rfl ?_
  unfold q_Mo_spillNow
  refine tr_ldI rfl (?_)
  refine tr_invSI rfl rfl (Nat.le_of_ble_eq_true rfl) (Nat.le_of_ble_eq_true rfl) (by decide) (Nat.le_of_ble_eq_true rfl) (tm179 (by omega) hF) (fun r3 g1 _ hF2 => ?_)
  refine tr_if0j e231_6 (c_eq _ _) (fun hc4 => ?_) (fun hc4 => ?_)
  · refine tr_pushI (?_)
    exact tr_retI hF2
  · refine tr_ldI rfl (?_)
    refine tr_invSI rfl rfl (Nat.le_of_ble_eq_true rfl) (Nat.le_of_ble_eq_true rfl) (by decide) (Nat.le_of_ble_eq_true rfl) (tm178 (by omega) hF2) (fun r7 g5 _ hF6 => ?_)
    refine tr_if0n e231_8 (c_ne _ _) (fun hc8 => ?_) (fun hc8 => ?_)
    · refine tr_ldA rfl (tr_getP (b := 369) (fk_367 hF6) (fp_367_3 hF6) (tr_pushI (tr_ldI rfl (tr_bin (v := ((32 : Int32) + v1)) rfl (tr_aldI (fk_369 hF6) (fl_369 hF6) (fun _ => ?_))))))
      refine tr_if0j e231_17 (c_eq _ _) (fun hc9 => ?_) (fun hc9 => ?_)
      · refine tr_ldA rfl (tr_pushI (?_))
        refine tr_invVU rfl rfl (fk_367 hF6) (Nat.le_of_ble_eq_true rfl) (by decide) (Nat.le_of_ble_eq_true rfl) (tm174 (by omega) hF6) (fun _ g10 _ hF11 => ?_)
        refine tr_ldA rfl (tr_getP (b := 369) (fk_367 hF11) (fp_367_3 hF11) (tr_pushI (tr_ldI rfl (tr_bin (v := ((32 : Int32) + v1)) rfl (tr_pushI (?_))))))
        refine tr_astI hF11 (fk_369 hF11) (fl_369 hF11) (fun _ g12 _ hF13 => tr_ldA rfl (tr_getP (b := 369) (fk_367 hF13) (fp_367_3 hF13) (tr_pushI (tr_ldI rfl (tr_bin (v := ((40 : Int32) + v1)) rfl (?_))))))
        refine tr_ldI rfl (tr_astI hF13 (fk_369 hF13) (fl_369 hF13) (fun _ g14 _ hF15 => tr_ldA rfl (tr_ldI rfl (?_))))
        refine tr_invVI rfl rfl (fk_367 hF15) (Nat.le_of_ble_eq_true rfl) (by decide) (Nat.le_of_ble_eq_true rfl) (tm181 hF15) (fun r18 g16 _ hF17 => ?_)
        refine tr_invSI rfl rfl (Nat.le_of_ble_eq_true rfl) (Nat.le_of_ble_eq_true rfl) (by decide) (Nat.le_of_ble_eq_true rfl) (tm167 hF17) (fun r21 g19 _ hF20 => ?_)
        exact tr_retI hF20
      · refine tr_pushI (?_)
        exact tr_retI hF6
    · refine tr_pushI (?_)
      exact tr_retI hF6
-- Mo_raiseNow
abbrev t233_23 : List hOp := oLdA 0 :: oPushI 1 :: oInvV 174 12 1 :: oLdA 0 :: oGetP 12 3 :: oPushI 7 :: oLdI 1 :: oBin (fun x y => x + y) :: oLdI 2 :: oAStI :: oLdI 3 :: oRetI :: []
abbrev t233_11 : List hOp := oLdA 0 :: oGetP 12 3 :: oPushI 7 :: oLdI 1 :: oBin (fun x y => x + y) :: oALdI 13 :: oStI 3 :: oLdI 3 :: oLdI 2 :: oIf cNe 23 :: oPushI (-3) :: oRetI :: t233_23
abbrev t233_9 : List hOp := oPushI (-1) :: oRetI :: t233_11
abbrev t233_0 : List hOp := oLdI 1 :: oInvS 178 1 :: oIf0 cEq 9 :: oLdI 2 :: oI2L :: oPushL 0 :: oPushL 9 :: oInvS 165 3 :: oIf0 cNe 11 :: t233_9
theorem e233_0 : (opsOf 233).drop 0 = t233_0 := rfl
theorem e233_9 : (opsOf 233).drop 9 = t233_9 := rfl
theorem e233_11 : (opsOf 233).drop 11 = t233_11 := rfl
theorem e233_23 : (opsOf 233).drop 23 = t233_23 := rfl
def q_Mo_raiseNow (v1 : Int32) (v2 : Int32) (g : hG) : hO Int32 :=
  bnd (q_Mo_isCell v1 g) fun r3 g1 => if r3 = (0 : Int32) then (some ((-1 : Int32), g1)) else (bnd (q_Mo_in v2.toInt64 (0 : Int64) (9 : Int64) g1) fun r7 g5 => if r7 = (0 : Int32) then (some ((-1 : Int32), g5)) else (gd ((7 : Int32) + v1) 5468 <| if (gI g5 369 ((7 : Int32) + v1).toNatClampNeg) = v2 then (some ((-3 : Int32), g5)) else (bnd (q_Mo_remember (1 : Int32) g5) fun _ g10 => gd ((7 : Int32) + v1) 5468 <| wr (sI g10 369 ((7 : Int32) + v1).toNatClampNeg v2) fun g12 => some ((gI g5 369 ((7 : Int32) + v1).toNatClampNeg), g12))))
theorem tm233 {d : Nat} {v1 : Int32} {v2 : Int32} (hd : 2 ≤ d) {g : hG} (hF : Frz g) : TM wI d 233 [.ref 367, .int v1, .int v2] g (q_Mo_raiseNow v1 v2 g) := by
  obtain ⟨e, rfl⟩ : ∃ e, d = e + 1 := ⟨d - 1, by omega⟩
  have he := hd
  refine TM.ofE e233_0 (lv := [some (.ref 367), some (.int v1), some (.int v2), none]) rfl ?_
  unfold q_Mo_raiseNow
  refine tr_ldI rfl (?_)
  refine tr_invSI rfl rfl (Nat.le_of_ble_eq_true rfl) (Nat.le_of_ble_eq_true rfl) (by decide) (Nat.le_of_ble_eq_true rfl) (tm178 (by omega) hF) (fun r3 g1 _ hF2 => ?_)
  refine tr_if0j e233_9 (c_eq _ _) (fun hc4 => ?_) (fun hc4 => ?_)
  · refine tr_pushI (?_)
    exact tr_retI hF2
  · refine tr_ldI rfl (tr_i2l (tr_pushL (tr_pushL (?_))))
    refine tr_invSI rfl rfl (Nat.le_of_ble_eq_true rfl) (Nat.le_of_ble_eq_true rfl) (by decide) (Nat.le_of_ble_eq_true rfl) (tm165 hF2) (fun r7 g5 _ hF6 => ?_)
    refine tr_if0n e233_11 (c_ne _ _) (fun hc8 => ?_) (fun hc8 => ?_)
    · refine tr_ldA rfl (tr_getP (b := 369) (fk_367 hF6) (fp_367_3 hF6) (tr_pushI (tr_ldI rfl (tr_bin (v := ((7 : Int32) + v1)) rfl (tr_aldI (fk_369 hF6) (fl_369 hF6) (fun _ => ?_))))))
      refine tr_stI (Nat.le_of_ble_eq_true rfl) rfl rfl (tr_ldI rfl (tr_ldI rfl (?_)))
      refine tr_ifn e233_23 (c_ne _ _) (fun hc9 => ?_) (fun hc9 => ?_)
      · refine tr_ldA rfl (tr_pushI (?_))
        refine tr_invVU rfl rfl (fk_367 hF6) (Nat.le_of_ble_eq_true rfl) (by decide) (Nat.le_of_ble_eq_true rfl) (tm174 (by omega) hF6) (fun _ g10 _ hF11 => ?_)
        refine tr_ldA rfl (tr_getP (b := 369) (fk_367 hF11) (fp_367_3 hF11) (tr_pushI (tr_ldI rfl (tr_bin (v := ((7 : Int32) + v1)) rfl (tr_ldI rfl (?_))))))
        refine tr_astI hF11 (fk_369 hF11) (fl_369 hF11) (fun _ g12 _ hF13 => tr_ldI rfl (?_))
        exact tr_retI hF13
      · refine tr_pushI (?_)
        exact tr_retI hF6
    · refine tr_pushI (?_)
      exact tr_retI hF6
-- Mo_splitTo
abbrev t235_18 : List hOp := oRetI :: []
abbrev t235_10 : List hOp := oLdA 0 :: oGetP 12 3 :: oPushI 40 :: oLdI 1 :: oBin (fun x y => x + y) :: oALdI 13 :: oLdI 2 :: oInvS 183 2 :: t235_18
abbrev t235_0 : List hOp := oLdA 0 :: oGetP 12 3 :: oPushI 32 :: oLdI 1 :: oBin (fun x y => x + y) :: oALdI 13 :: oPushI 1 :: oIf cEq 10 :: oPushI (-1) :: oGoto 18 :: t235_10
theorem e235_0 : (opsOf 235).drop 0 = t235_0 := rfl
theorem e235_10 : (opsOf 235).drop 10 = t235_10 := rfl
theorem e235_18 : (opsOf 235).drop 18 = t235_18 := rfl
def q_Mo_splitTo (v1 : Int32) (v2 : Int32) (g : hG) : hO Int32 :=
  gd ((32 : Int32) + v1) 5468 <| if (gI g 369 ((32 : Int32) + v1).toNatClampNeg) = (1 : Int32) then (gd ((40 : Int32) + v1) 5468 <| bnd (q_Mo_beside (gI g 369 ((40 : Int32) + v1).toNatClampNeg) v2 g) fun r4 g2 => some (r4, g2)) else (some ((-1 : Int32), g))
theorem tm235 {d : Nat} {v1 : Int32} {v2 : Int32} (hd : 2 ≤ d) {g : hG} (hF : Frz g) : TM wI d 235 [.ref 367, .int v1, .int v2] g (q_Mo_splitTo v1 v2 g) := by
  obtain ⟨e, rfl⟩ : ∃ e, d = e + 1 := ⟨d - 1, by omega⟩
  have he := hd
  refine TM.ofE e235_0 (lv := [some (.ref 367), some (.int v1), some (.int v2)]) rfl ?_
  unfold q_Mo_splitTo
  refine tr_ldA rfl (tr_getP (b := 369) (fk_367 hF) (fp_367_3 hF) (tr_pushI (tr_ldI rfl (tr_bin (v := ((32 : Int32) + v1)) rfl (tr_aldI (fk_369 hF) (fl_369 hF) (fun _ => ?_))))))
  refine tr_pushI (?_)
  refine tr_ifj e235_10 (c_eq _ _) (fun hc1 => ?_) (fun hc1 => ?_)
  · refine tr_ldA rfl (tr_getP (b := 369) (fk_367 hF) (fp_367_3 hF) (tr_pushI (tr_ldI rfl (tr_bin (v := ((40 : Int32) + v1)) rfl (tr_aldI (fk_369 hF) (fl_369 hF) (fun _ => ?_))))))
    refine tr_ldI rfl (?_)
    refine tr_invSI rfl rfl (Nat.le_of_ble_eq_true rfl) (Nat.le_of_ble_eq_true rfl) (by decide) (Nat.le_of_ble_eq_true rfl) (tm183 (by omega) hF) (fun r4 g2 _ hF3 => ?_)
    exact tr_retI hF3
  · refine tr_pushI (?_)
    refine tr_gotoE e235_18 (?_)
    exact tr_retI hF
-- Mo_splitNow
abbrev t236_21 : List hOp := oLdA 0 :: oPushI 2 :: oInvV 174 12 1 :: oLdA 0 :: oGetP 12 3 :: oPushI 40 :: oLdI 1 :: oBin (fun x y => x + y) :: oLdI 3 :: oAStI :: oLdI 3 :: oRetI :: []
abbrev t236_11 : List hOp := oLdA 0 :: oLdI 1 :: oLdI 2 :: oInvV 235 12 2 :: oStI 3 :: oLdI 3 :: oPushI (-1) :: oIf cNe 21 :: oPushI (-3) :: oRetI :: t236_21
abbrev t236_9 : List hOp := oPushI (-1) :: oRetI :: t236_11
abbrev t236_0 : List hOp := oLdI 1 :: oInvS 179 1 :: oIf0 cEq 9 :: oLdI 2 :: oI2L :: oPushL 0 :: oPushL 3 :: oInvS 165 3 :: oIf0 cNe 11 :: t236_9
theorem e236_0 : (opsOf 236).drop 0 = t236_0 := rfl
theorem e236_9 : (opsOf 236).drop 9 = t236_9 := rfl
theorem e236_11 : (opsOf 236).drop 11 = t236_11 := rfl
theorem e236_21 : (opsOf 236).drop 21 = t236_21 := rfl
def q_Mo_splitNow (v1 : Int32) (v2 : Int32) (g : hG) : hO Int32 :=
  bnd (q_Mo_isLetter1 v1 g) fun r3 g1 => if r3 = (0 : Int32) then (some ((-1 : Int32), g1)) else (bnd (q_Mo_in v2.toInt64 (0 : Int64) (3 : Int64) g1) fun r7 g5 => if r7 = (0 : Int32) then (some ((-1 : Int32), g5)) else (bnd (q_Mo_splitTo v1 v2 g5) fun r11 g9 => if r11 = (-1 : Int32) then (some ((-3 : Int32), g9)) else (bnd (q_Mo_remember (2 : Int32) g9) fun _ g13 => gd ((40 : Int32) + v1) 5468 <| wr (sI g13 369 ((40 : Int32) + v1).toNatClampNeg r11) fun g15 => some (r11, g15))))
theorem tm236 {d : Nat} {v1 : Int32} {v2 : Int32} (hd : 3 ≤ d) {g : hG} (hF : Frz g) : TM wI d 236 [.ref 367, .int v1, .int v2] g (q_Mo_splitNow v1 v2 g) := by
  obtain ⟨e, rfl⟩ : ∃ e, d = e + 1 := ⟨d - 1, by omega⟩
  have he := hd
  refine TM.ofE e236_0 (lv := [some (.ref 367), some (.int v1), some (.int v2), none]) rfl ?_
  unfold q_Mo_splitNow
  refine tr_ldI rfl (?_)
  refine tr_invSI rfl rfl (Nat.le_of_ble_eq_true rfl) (Nat.le_of_ble_eq_true rfl) (by decide) (Nat.le_of_ble_eq_true rfl) (tm179 (by omega) hF) (fun r3 g1 _ hF2 => ?_)
  refine tr_if0j e236_9 (c_eq _ _) (fun hc4 => ?_) (fun hc4 => ?_)
  · refine tr_pushI (?_)
    exact tr_retI hF2
  · refine tr_ldI rfl (tr_i2l (tr_pushL (tr_pushL (?_))))
    refine tr_invSI rfl rfl (Nat.le_of_ble_eq_true rfl) (Nat.le_of_ble_eq_true rfl) (by decide) (Nat.le_of_ble_eq_true rfl) (tm165 hF2) (fun r7 g5 _ hF6 => ?_)
    refine tr_if0n e236_11 (c_ne _ _) (fun hc8 => ?_) (fun hc8 => ?_)
    · refine tr_ldA rfl (tr_ldI rfl (tr_ldI rfl (?_)))
      refine tr_invVI rfl rfl (fk_367 hF6) (Nat.le_of_ble_eq_true rfl) (by decide) (Nat.le_of_ble_eq_true rfl) (tm235 (by omega) hF6) (fun r11 g9 _ hF10 => ?_)
      refine tr_stI (Nat.le_of_ble_eq_true rfl) rfl rfl (tr_ldI rfl (tr_pushI (?_)))
      refine tr_ifn e236_21 (c_ne _ _) (fun hc12 => ?_) (fun hc12 => ?_)
      · refine tr_ldA rfl (tr_pushI (?_))
        refine tr_invVU rfl rfl (fk_367 hF10) (Nat.le_of_ble_eq_true rfl) (by decide) (Nat.le_of_ble_eq_true rfl) (tm174 (by omega) hF10) (fun _ g13 _ hF14 => ?_)
        refine tr_ldA rfl (tr_getP (b := 369) (fk_367 hF14) (fp_367_3 hF14) (tr_pushI (tr_ldI rfl (tr_bin (v := ((40 : Int32) + v1)) rfl (tr_ldI rfl (?_))))))
        refine tr_astI hF14 (fk_369 hF14) (fl_369 hF14) (fun _ g15 _ hF16 => tr_ldI rfl (?_))
        exact tr_retI hF16
      · refine tr_pushI (?_)
        exact tr_retI hF10
    · refine tr_pushI (?_)
      exact tr_retI hF6
-- Mo_passIt
abbrev t238_58 : List hOp := oLdA 0 :: oGetP 12 3 :: oPushI 4 :: oDup2 :: oALdI 13 :: oPushI 1 :: oBin (fun x y => x + y) :: oAStI :: oLdI 1 :: oRetI :: []
abbrev t238_56 : List hOp := oInc 2 1 :: oGoto 6 :: t238_58
abbrev t238_46 : List hOp := oLdA 0 :: oGetP 12 3 :: oPushI 40 :: oLdI 2 :: oBin (fun x y => x + y) :: oLdA 0 :: oGetP 12 42 :: oLdI 3 :: oALdI 13 :: oAStI :: t238_56
abbrev t238_6 : List hOp := oLdI 2 :: oPushI 8 :: oIf cGe 58 :: oLdA 0 :: oGetP 12 3 :: oPushI 32 :: oLdI 2 :: oBin (fun x y => x + y) :: oALdI 13 :: oPushI 1 :: oIf cNe 56 :: oLdA 0 :: oGetP 12 3 :: oPushI 40 :: oLdI 2 :: oBin (fun x y => x + y) :: oALdI 13 :: oStI 3 :: oLdA 0 :: oLdI 3 :: oInvV 180 12 1 :: oIf0 cEq 46 :: oLdA 0 :: oGetP 12 3 :: oPushI 32 :: oLdI 2 :: oBin (fun x y => x + y) :: oPushI 2 :: oAStI :: oLdA 0 :: oGetP 12 3 :: oPushI 48 :: oLdI 2 :: oBin (fun x y => x + y) :: oLdA 0 :: oGetP 12 3 :: oPushI 4 :: oALdI 13 :: oAStI :: oInc 1 1 :: t238_46
abbrev t238_0 : List hOp := oLdA 0 :: oInvV 230 12 0 :: oPushI 0 :: oStI 1 :: oPushI 0 :: oStI 2 :: t238_6
theorem e238_0 : (opsOf 238).drop 0 = t238_0 := rfl
theorem e238_6 : (opsOf 238).drop 6 = t238_6 := rfl
theorem e238_46 : (opsOf 238).drop 46 = t238_46 := rfl
theorem e238_56 : (opsOf 238).drop 56 = t238_56 := rfl
theorem e238_58 : (opsOf 238).drop 58 = t238_58 := rfl
def q_Mo_passIt_46 (v1 : Int32) (v2 : Int32) (v3 : Int32) (k6 : Int32 → Int32 → hG → hO Int32) (g : hG) : hO Int32 :=
  gd v3 25 <| gd ((40 : Int32) + v2) 5468 <| wr (sI g 369 ((40 : Int32) + v2).toNatClampNeg (gI g 389 v3.toNatClampNeg)) fun g9 => k6 v1 (v2 + (1 : Int32)) g9
theorem th238_46 {e : Nat} (he : 6 ≤ e + 1) {v1 : Int32} {v2 : Int32} {v3 : Int32} {k6 : Int32 → Int32 → hG → hO Int32} (hk6 : ∀ (x1 : Int32) (x2 : Int32) (y3 : Option Value) (g : hG), Frz g → Tri wI (e + 1) 238 t238_6 [some (.ref 367), some (.int x1), some (.int x2), y3] [] g (k6 x1 x2 g)) {g : hG} (hF : Frz g) : Tri wI (e + 1) 238 t238_46 [some (.ref 367), some (.int v1), some (.int v2), some (.int v3)] [] g (q_Mo_passIt_46 v1 v2 v3 k6 g) := by
  unfold q_Mo_passIt_46
  refine tr_ldA rfl (tr_getP (b := 369) (fk_367 hF) (fp_367_3 hF) (tr_pushI (tr_ldI rfl (tr_bin (v := ((40 : Int32) + v2)) rfl (tr_ldA rfl (?_))))))
  refine tr_getP (b := 389) (fk_367 hF) (fp_367_42 hF) (tr_ldI rfl (tr_aldI (fk_389 hF) (fl_389 hF) (fun _ => tr_astI hF (fk_369 hF) (fl_369 hF) (fun _ g9 _ hF10 => tr_inc rfl rfl rfl (?_)))))
  refine tr_gotoE e238_6 (?_)
  exact hk6 _ _ _ _ hF10
def q_Mo_passIt_6 (k58 : Int32 → hG → hO Int32) (k6 : Int32 → Int32 → hG → hO Int32) (v1 : Int32) (v2 : Int32) (g : hG) : hO Int32 :=
  if (8 : Int32) ≤ v2 then (k58 v1 g) else (gd ((32 : Int32) + v2) 5468 <| if (gI g 369 ((32 : Int32) + v2).toNatClampNeg) = (1 : Int32) then (gd ((40 : Int32) + v2) 5468 <| bnd (q_Mo_hasDoor (gI g 369 ((40 : Int32) + v2).toNatClampNeg) g) fun r7 g5 => if r7 = (0 : Int32) then (q_Mo_passIt_46 v1 v2 (gI g 369 ((40 : Int32) + v2).toNatClampNeg) k6 g5) else (gd ((32 : Int32) + v2) 5468 <| wr (sI g5 369 ((32 : Int32) + v2).toNatClampNeg (2 : Int32)) fun g11 => gd (4 : Int32) 5468 <| gd ((48 : Int32) + v2) 5468 <| wr (sI g11 369 ((48 : Int32) + v2).toNatClampNeg (gI g11 369 (4 : Int32).toNatClampNeg)) fun g13 => q_Mo_passIt_46 (v1 + (1 : Int32)) v2 (gI g 369 ((40 : Int32) + v2).toNatClampNeg) k6 g13)) else (k6 v1 (v2 + (1 : Int32)) g))
def q_Mo_passIt_6L (k58 : Int32 → hG → hO Int32) : Nat → Int32 → Int32 → hG → hO Int32
  | 0 => fun _ _ _ => none
  | n + 1 => fun v1 v2 g => q_Mo_passIt_6 k58 (q_Mo_passIt_6L k58 n) v1 v2 g
theorem q_Mo_passIt_6L_s (k58 : Int32 → hG → hO Int32) (n : Nat) (v1 : Int32) (v2 : Int32) (g : hG) : q_Mo_passIt_6L k58 (n + 1) v1 v2 g = q_Mo_passIt_6 k58 (q_Mo_passIt_6L k58 n) v1 v2 g := rfl
theorem th238_6 {e : Nat} (he : 6 ≤ e + 1) {k58 : Int32 → hG → hO Int32} {k6 : Int32 → Int32 → hG → hO Int32} {v1 : Int32} {v2 : Int32} {u3 : Option Value} (hk58 : ∀ (x1 : Int32) (y2 : Option Value) (y3 : Option Value) (_ : isL (some y2) = false) (g : hG), Frz g → Tri wI (e + 1) 238 t238_58 [some (.ref 367), some (.int x1), y2, y3] [] g (k58 x1 g)) (hk6 : ∀ (x1 : Int32) (x2 : Int32) (y3 : Option Value) (g : hG), Frz g → Tri wI (e + 1) 238 t238_6 [some (.ref 367), some (.int x1), some (.int x2), y3] [] g (k6 x1 x2 g)) {g : hG} (hF : Frz g) : Tri wI (e + 1) 238 t238_6 [some (.ref 367), some (.int v1), some (.int v2), u3] [] g (q_Mo_passIt_6 k58 k6 v1 v2 g) := by
  unfold q_Mo_passIt_6
  refine tr_ldI rfl (tr_pushI (?_))
  refine tr_ifj e238_58 (c_ge _ _) (fun hc3 => ?_) (fun hc3 => ?_)
  · exact hk58 _ _ _ rfl _ hF
  · refine tr_ldA rfl (tr_getP (b := 369) (fk_367 hF) (fp_367_3 hF) (tr_pushI (tr_ldI rfl (tr_bin (v := ((32 : Int32) + v2)) rfl (tr_aldI (fk_369 hF) (fl_369 hF) (fun _ => ?_))))))
    refine tr_pushI (?_)
    refine tr_ifn e238_56 (c_ne _ _) (fun hc4 => ?_) (fun hc4 => ?_)
    · refine tr_inc rfl rfl rfl (?_)
      refine tr_gotoE e238_6 (?_)
      exact hk6 _ _ _ _ hF
    · refine tr_ldA rfl (tr_getP (b := 369) (fk_367 hF) (fp_367_3 hF) (tr_pushI (tr_ldI rfl (tr_bin (v := ((40 : Int32) + v2)) rfl (tr_aldI (fk_369 hF) (fl_369 hF) (fun _ => ?_))))))
      refine tr_stI (Nat.le_of_ble_eq_true rfl) rfl rfl (tr_ldA rfl (tr_ldI rfl (?_)))
      refine tr_invVI rfl rfl (fk_367 hF) (Nat.le_of_ble_eq_true rfl) (by decide) (Nat.le_of_ble_eq_true rfl) (tm180 (by omega) hF) (fun r7 g5 _ hF6 => ?_)
      refine tr_if0j e238_46 (c_eq _ _) (fun hc8 => ?_) (fun hc8 => ?_)
      · exact th238_46 he hk6 hF6
      · refine tr_ldA rfl (tr_getP (b := 369) (fk_367 hF6) (fp_367_3 hF6) (tr_pushI (tr_ldI rfl (tr_bin (v := ((32 : Int32) + v2)) rfl (tr_pushI (?_))))))
        refine tr_astI hF6 (fk_369 hF6) (fl_369 hF6) (fun _ g11 _ hF12 => tr_ldA rfl (tr_getP (b := 369) (fk_367 hF12) (fp_367_3 hF12) (tr_pushI (tr_ldI rfl (tr_bin (v := ((48 : Int32) + v2)) rfl (?_))))))
        refine tr_ldA rfl (tr_getP (b := 369) (fk_367 hF12) (fp_367_3 hF12) (tr_pushI (tr_aldI (fk_369 hF12) (fl_369 hF12) (fun _ => tr_astI hF12 (fk_369 hF12) (fl_369 hF12) (fun _ g13 _ hF14 => tr_inc rfl rfl rfl (?_))))))
        exact th238_46 he hk6 hF14
theorem th238_6L {e : Nat} (he : 6 ≤ e + 1) {k58 : Int32 → hG → hO Int32} (hk58 : ∀ (x1 : Int32) (y2 : Option Value) (y3 : Option Value) (_ : isL (some y2) = false) (g : hG), Frz g → Tri wI (e + 1) 238 t238_58 [some (.ref 367), some (.int x1), y2, y3] [] g (k58 x1 g)) : ∀ (n : Nat) (v1 : Int32) (v2 : Int32) (u3 : Option Value) (g : hG), Frz g → Tri wI (e + 1) 238 t238_6 [some (.ref 367), some (.int v1), some (.int v2), u3] [] g (q_Mo_passIt_6L k58 n v1 v2 g)
  | 0 => fun _ _ _ _ _ => Tri.none_
  | n + 1 => fun _ _ _ g hF => th238_6 he hk58 (th238_6L he hk58 n) hF
def q_Mo_passIt (g : hG) : hO Int32 :=
  bnd (q_Mo_layRuns g) fun _ g1 => q_Mo_passIt_6L (fun x15 g18 => gd (4 : Int32) 5468 <| gd (4 : Int32) 5468 <| wr (sI g18 369 (4 : Int32).toNatClampNeg ((gI g18 369 (4 : Int32).toNatClampNeg) + (1 : Int32))) fun g20 => some (x15, g20)) FU (0 : Int32) (0 : Int32) g1
theorem tm238 {d : Nat} (hd : 6 ≤ d) {g : hG} (hF : Frz g) : TM wI d 238 [.ref 367] g (q_Mo_passIt g) := by
  obtain ⟨e, rfl⟩ : ∃ e, d = e + 1 := ⟨d - 1, by omega⟩
  have he := hd
  refine TM.ofE e238_0 (lv := [some (.ref 367), none, none, none]) rfl ?_
  unfold q_Mo_passIt
  refine tr_ldA rfl (?_)
  refine tr_invVU rfl rfl (fk_367 hF) (Nat.le_of_ble_eq_true rfl) (by decide) (Nat.le_of_ble_eq_true rfl) (tm230 (by omega) hF) (fun _ g1 _ hF2 => ?_)
  refine tr_pushI (tr_stI (Nat.le_of_ble_eq_true rfl) rfl rfl (tr_pushI (tr_stI (Nat.le_of_ble_eq_true rfl) rfl rfl (?_))))
  refine th238_6L he (fun x15 y16 y17 zy16 g18 hF19 => ?_) FU _ _ _ _ hF2
  · refine tr_ldA rfl (tr_getP (b := 369) (fk_367 hF19) (fp_367_3 hF19) (tr_pushI (tr_dup2 (tr_aldI (fk_369 hF19) (fl_369 hF19) (fun _ => tr_pushI (?_))))))
    refine tr_bin (v := ((gI g18 369 (4 : Int32).toNatClampNeg) + (1 : Int32))) rfl (tr_astI hF19 (fk_369 hF19) (fl_369 hF19) (fun _ g20 _ hF21 => tr_ldI rfl (?_)))
    exact tr_retI hF21
-- Mo_passNow
abbrev t239_8 : List hOp := oLdA 0 :: oPushI 3 :: oInvV 174 12 1 :: oLdA 0 :: oInvV 238 12 0 :: oRetI :: []
abbrev t239_0 : List hOp := oLdA 0 :: oGetP 12 3 :: oPushI 4 :: oALdI 13 :: oPushI 999 :: oIf cNe 8 :: oPushI (-3) :: oRetI :: t239_8
theorem e239_0 : (opsOf 239).drop 0 = t239_0 := rfl
theorem e239_8 : (opsOf 239).drop 8 = t239_8 := rfl
def q_Mo_passNow (g : hG) : hO Int32 :=
  gd (4 : Int32) 5468 <| if (gI g 369 (4 : Int32).toNatClampNeg) = (999 : Int32) then (some ((-3 : Int32), g)) else (bnd (q_Mo_remember (3 : Int32) g) fun _ g2 => bnd (q_Mo_passIt g2) fun r6 g4 => some (r6, g4))
theorem tm239 {d : Nat} (hd : 7 ≤ d) {g : hG} (hF : Frz g) : TM wI d 239 [.ref 367] g (q_Mo_passNow g) := by
  obtain ⟨e, rfl⟩ : ∃ e, d = e + 1 := ⟨d - 1, by omega⟩
  have he := hd
  refine TM.ofE e239_0 (lv := [some (.ref 367)]) rfl ?_
  unfold q_Mo_passNow
  refine tr_ldA rfl (tr_getP (b := 369) (fk_367 hF) (fp_367_3 hF) (tr_pushI (tr_aldI (fk_369 hF) (fl_369 hF) (fun _ => tr_pushI (?_)))))
  refine tr_ifn e239_8 (c_ne _ _) (fun hc1 => ?_) (fun hc1 => ?_)
  · refine tr_ldA rfl (tr_pushI (?_))
    refine tr_invVU rfl rfl (fk_367 hF) (Nat.le_of_ble_eq_true rfl) (by decide) (Nat.le_of_ble_eq_true rfl) (tm174 (by omega) hF) (fun _ g2 _ hF3 => ?_)
    refine tr_ldA rfl (?_)
    refine tr_invVI rfl rfl (fk_367 hF3) (Nat.le_of_ble_eq_true rfl) (by decide) (Nat.le_of_ble_eq_true rfl) (tm238 (by omega) hF3) (fun r6 g4 _ hF5 => ?_)
    exact tr_retI hF5
  · refine tr_pushI (?_)
    exact tr_retI hF
-- Mo_act
abbrev t276_17 : List hOp := oLdA 0 :: oInvV 239 12 0 :: oRetI :: []
abbrev t276_12 : List hOp := oLdA 0 :: oLdI 2 :: oLdI 3 :: oInvV 236 12 2 :: oRetI :: t276_17
abbrev t276_7 : List hOp := oLdA 0 :: oLdI 2 :: oLdI 3 :: oInvV 233 12 2 :: oRetI :: t276_12
abbrev t276_2 : List hOp := oLdA 0 :: oLdI 2 :: oLdI 3 :: oInvV 231 12 2 :: oRetI :: t276_7
abbrev t276_0 : List hOp := oLdI 1 :: oSw 0 [2, 7, 12] 17 :: t276_2
theorem e276_0 : (opsOf 276).drop 0 = t276_0 := rfl
theorem e276_2 : (opsOf 276).drop 2 = t276_2 := rfl
theorem e276_7 : (opsOf 276).drop 7 = t276_7 := rfl
theorem e276_12 : (opsOf 276).drop 12 = t276_12 := rfl
theorem e276_17 : (opsOf 276).drop 17 = t276_17 := rfl
def q_Mo_act (v1 : Int32) (v2 : Int32) (v3 : Int32) (g : hG) : hO Int32 :=
  if v1 = (0 : Int32) then (bnd (q_Mo_spillNow v2 v3 g) fun r3 g1 => some (r3, g1)) else if v1 = (1 : Int32) then (bnd (q_Mo_raiseNow v2 v3 g) fun r6 g4 => some (r6, g4)) else if v1 = (2 : Int32) then (bnd (q_Mo_splitNow v2 v3 g) fun r9 g7 => some (r9, g7)) else (bnd (q_Mo_passNow g) fun r12 g10 => some (r12, g10))
theorem tm276 {d : Nat} {v1 : Int32} {v2 : Int32} {v3 : Int32} (hd : 8 ≤ d) {g : hG} (hF : Frz g) : TM wI d 276 [.ref 367, .int v1, .int v2, .int v3] g (q_Mo_act v1 v2 v3 g) := by
  obtain ⟨e, rfl⟩ : ∃ e, d = e + 1 := ⟨d - 1, by omega⟩
  have he := hd
  refine TM.ofE e276_0 (lv := [some (.ref 367), some (.int v1), some (.int v2), some (.int v3)]) rfl ?_
  unfold q_Mo_act
  refine tr_ldI rfl (?_)
  refine tr_sw1E (c := (0 : Int32)) e276_2 rfl (fun _ => ?_) (fun _ => ?_)
  · refine tr_ldA rfl (tr_ldI rfl (tr_ldI rfl (?_)))
    refine tr_invVI rfl rfl (fk_367 hF) (Nat.le_of_ble_eq_true rfl) (by decide) (Nat.le_of_ble_eq_true rfl) (tm231 (by omega) hF) (fun r3 g1 _ hF2 => ?_)
    exact tr_retI hF2
  refine tr_sw1E (c := (1 : Int32)) e276_7 rfl (fun _ => ?_) (fun _ => ?_)
  · refine tr_ldA rfl (tr_ldI rfl (tr_ldI rfl (?_)))
    refine tr_invVI rfl rfl (fk_367 hF) (Nat.le_of_ble_eq_true rfl) (by decide) (Nat.le_of_ble_eq_true rfl) (tm233 (by omega) hF) (fun r6 g4 _ hF5 => ?_)
    exact tr_retI hF5
  refine tr_sw1E (c := (2 : Int32)) e276_12 rfl (fun _ => ?_) (fun _ => ?_)
  · refine tr_ldA rfl (tr_ldI rfl (tr_ldI rfl (?_)))
    refine tr_invVI rfl rfl (fk_367 hF) (Nat.le_of_ble_eq_true rfl) (by decide) (Nat.le_of_ble_eq_true rfl) (tm236 (by omega) hF) (fun r9 g7 _ hF8 => ?_)
    exact tr_retI hF8
  refine tr_sw0E e276_17 ?_
  refine tr_ldA rfl (?_)
  refine tr_invVI rfl rfl (fk_367 hF) (Nat.le_of_ble_eq_true rfl) (by decide) (Nat.le_of_ble_eq_true rfl) (tm239 (by omega) hF) (fun r12 g10 _ hF11 => ?_)
  exact tr_retI hF11
-- Mo_runOnce
abbrev t277_109 : List hOp := oPutI 12 52 :: oLdA 0 :: oDup :: oGetI 12 51 :: oPushI 1 :: oBin (fun x y => x + y) :: oPutI 12 51 :: oPushI 0 :: oRetI :: []
abbrev t277_107 : List hOp := oLdA 0 :: oGetI 12 52 :: t277_109
abbrev t277_98 : List hOp := oLdA 0 :: oLdA 0 :: oGetP 12 50 :: oLdI 1 :: oALdI 13 :: oPushI 3 :: oIf cNe 107 :: oLdI 4 :: oGoto 109 :: t277_107
abbrev t277_85 : List hOp := oLdA 0 :: oLdA 0 :: oGetP 12 50 :: oLdI 1 :: oALdI 13 :: oLdI 2 :: oLdI 3 :: oInvV 276 12 3 :: oStI 4 :: oLdI 4 :: oIf0 cGe 98 :: oPushI (-3) :: oRetI :: t277_98
abbrev t277_68 : List hOp := oLdA 0 :: oLdI 1 :: oPushI 1 :: oBin (fun x y => x + y) :: oInvV 275 12 1 :: oStI 2 :: oLdA 0 :: oLdI 1 :: oPushI 3 :: oBin (fun x y => x + y) :: oInvV 275 12 1 :: oStI 3 :: oLdA 0 :: oGetI 12 54 :: oIf0 cEq 85 :: oPushI (-3) :: oRetI :: t277_85
abbrev t277_66 : List hOp := oPushI 0 :: oRetI :: t277_68
abbrev t277_0 : List hOp := oLdA 0 :: oGetP 12 36 :: oPushI 1 :: oLdA 0 :: oGetP 12 3 :: oPushI 4 :: oALdI 13 :: oI2L :: oAStJ :: oLdA 0 :: oGetP 12 36 :: oPushI 2 :: oLdA 0 :: oGetI 12 51 :: oI2L :: oAStJ :: oLdA 0 :: oGetP 12 36 :: oPushI 3 :: oLdA 0 :: oGetI 12 52 :: oI2L :: oAStJ :: oLdA 0 :: oGetP 12 36 :: oPushI 4 :: oLdA 0 :: oPushI 0 :: oInvV 182 12 1 :: oI2L :: oAStJ :: oLdA 0 :: oGetP 12 36 :: oPushI 5 :: oLdA 0 :: oPushI 2 :: oInvV 182 12 1 :: oI2L :: oAStJ :: oLdA 0 :: oPushI 0 :: oPutZ 12 54 :: oLdA 0 :: oGetP 12 50 :: oLdI 1 :: oPushI 5 :: oBin (fun x y => x + y) :: oALdI 13 :: oLdA 0 :: oGetP 12 50 :: oLdI 1 :: oPushI 6 :: oBin (fun x y => x + y) :: oALdI 13 :: oIf cGe 68 :: oLdA 0 :: oLdI 1 :: oPushI 5 :: oBin (fun x y => x + y) :: oInvV 275 12 1 :: oStI 2 :: oLdA 0 :: oGetI 12 54 :: oIf0 cNe 66 :: oLdI 2 :: oIf0 cNe 68 :: t277_66
theorem e277_0 : (opsOf 277).drop 0 = t277_0 := rfl
theorem e277_66 : (opsOf 277).drop 66 = t277_66 := rfl
theorem e277_68 : (opsOf 277).drop 68 = t277_68 := rfl
theorem e277_85 : (opsOf 277).drop 85 = t277_85 := rfl
theorem e277_98 : (opsOf 277).drop 98 = t277_98 := rfl
theorem e277_107 : (opsOf 277).drop 107 = t277_107 := rfl
theorem e277_109 : (opsOf 277).drop 109 = t277_109 := rfl
def q_Mo_runOnce_109 (w1 : Int32) (g : hG) : hO Int32 :=
  wr (sI g 367 52 w1) fun g32 => wr (sI g32 367 51 ((gI g32 367 51) + (1 : Int32))) fun g34 => some ((0 : Int32), g34)
theorem th277_109 {e : Nat} (he : 9 ≤ e + 1) {w1 : Int32} {u1 : Option Value} {u2 : Option Value} {u3 : Option Value} {u4 : Option Value} (hu1 : isL (some u1) = false) (hu2 : isL (some u2) = false) (hu3 : isL (some u3) = false) {g : hG} (hF : Frz g) : Tri wI (e + 1) 277 t277_109 [some (.ref 367), u1, u2, u3, u4] [.int w1, .ref 367] g (q_Mo_runOnce_109 w1 g) := by
  unfold q_Mo_runOnce_109
  refine tr_putI hF (fk_367 hF) (fun g32 _ hF33 => tr_ldA rfl (tr_dupA (tr_getI (fk_367 hF33) (tr_pushI (tr_bin (v := ((gI g32 367 51) + (1 : Int32))) rfl (?_))))))
  refine tr_putI hF33 (fk_367 hF33) (fun g34 _ hF35 => tr_pushI (?_))
  exact tr_retI hF35
def q_Mo_runOnce_68 (v1 : Int32) (g : hG) : hO Int32 :=
  bnd (q_Mo_sumOf (v1 + (1 : Int32)) g) fun r22 g20 => bnd (q_Mo_sumOf (v1 + (3 : Int32)) g20) fun r25 g23 => if (gI g23 367 54) = (0 : Int32) then (gd v1 96 <| bnd (q_Mo_act (gI g23 397 v1.toNatClampNeg) r22 r25 g23) fun r29 g27 => if (0 : Int32) ≤ r29 then (gd v1 96 <| q_Mo_runOnce_109 (if (gI g27 397 v1.toNatClampNeg) = (3 : Int32) then r29 else (gI g27 367 52)) g27) else (some ((-3 : Int32), g27))) else (some ((-3 : Int32), g23))
theorem th277_68 {e : Nat} (he : 9 ≤ e + 1) {v1 : Int32} {u2 : Option Value} {u3 : Option Value} {u4 : Option Value} (hu2 : isL (some u2) = false) (hu3 : isL (some u3) = false) {g : hG} (hF : Frz g) : Tri wI (e + 1) 277 t277_68 [some (.ref 367), some (.int v1), u2, u3, u4] [] g (q_Mo_runOnce_68 v1 g) := by
  unfold q_Mo_runOnce_68
  refine tr_ldA rfl (tr_ldI rfl (tr_pushI (tr_bin (v := (v1 + (1 : Int32))) rfl (?_))))
  refine tr_invVI rfl rfl (fk_367 hF) (Nat.le_of_ble_eq_true rfl) (by decide) (Nat.le_of_ble_eq_true rfl) (tm275 (by omega) hF) (fun r22 g20 _ hF21 => ?_)
  refine tr_stI (Nat.le_of_ble_eq_true rfl) rfl rfl (tr_ldA rfl (tr_ldI rfl (tr_pushI (tr_bin (v := (v1 + (3 : Int32))) rfl (?_)))))
  refine tr_invVI rfl rfl (fk_367 hF21) (Nat.le_of_ble_eq_true rfl) (by decide) (Nat.le_of_ble_eq_true rfl) (tm275 (by omega) hF21) (fun r25 g23 _ hF24 => ?_)
  refine tr_stI (Nat.le_of_ble_eq_true rfl) rfl rfl (tr_ldA rfl (tr_getI (fk_367 hF24) (?_)))
  refine tr_if0j e277_85 (c_eq _ _) (fun hc26 => ?_) (fun hc26 => ?_)
  · refine tr_ldA rfl (tr_ldA rfl (tr_getP (b := 397) (fk_367 hF24) (fp_367_50 hF24) (tr_ldI rfl (tr_aldI (fk_397 hF24) (fl_397 hF24) (fun _ => tr_ldI rfl (?_))))))
    refine tr_ldI rfl (?_)
    refine tr_invVI rfl rfl (fk_367 hF24) (Nat.le_of_ble_eq_true rfl) (by decide) (Nat.le_of_ble_eq_true rfl) (tm276 (by omega) hF24) (fun r29 g27 _ hF28 => ?_)
    refine tr_stI (Nat.le_of_ble_eq_true rfl) rfl rfl (tr_ldI rfl (?_))
    refine tr_if0j e277_98 (c_ge _ _) (fun hc30 => ?_) (fun hc30 => ?_)
    · refine tr_ldA rfl (tr_ldA rfl (tr_getP (b := 397) (fk_367 hF28) (fp_367_50 hF28) (tr_ldI rfl (tr_aldI (fk_397 hF28) (fl_397 hF28) (fun _ => tr_pushI (?_))))))
      refine tr_ifcE e277_107 (c_ne _ _) (fun hc36 => ?_) (fun hc36 => ?_)
      · rw [if_neg hc36]
        refine tr_ldA rfl (?_)
        refine tr_getI (fk_367 hF28) (?_)
        exact th277_109 he rfl rfl rfl hF28
      · rw [if_pos (Decidable.not_not.mp hc36)]
        refine tr_ldI rfl (?_)
        refine tr_gotoE e277_109 (?_)
        exact th277_109 he rfl rfl rfl hF28
    · refine tr_pushI (?_)
      exact tr_retI hF28
  · refine tr_pushI (?_)
    exact tr_retI hF24
def q_Mo_runOnce (v1 : Int32) (g : hG) : hO Int32 :=
  gd (4 : Int32) 5468 <| gd (1 : Int32) 13 <| wr (sJ g 386 (1 : Int32).toNatClampNeg ((gI g 369 (4 : Int32).toNatClampNeg)).toInt64) fun g1 => gd (2 : Int32) 13 <| wr (sJ g1 386 (2 : Int32).toNatClampNeg ((gI g1 367 51)).toInt64) fun g3 => gd (3 : Int32) 13 <| wr (sJ g3 386 (3 : Int32).toNatClampNeg ((gI g3 367 52)).toInt64) fun g5 => bnd (q_Mo_howMany (0 : Int32) g5) fun r9 g7 => gd (4 : Int32) 13 <| wr (sJ g7 386 (4 : Int32).toNatClampNeg r9.toInt64) fun g10 => bnd (q_Mo_howMany (2 : Int32) g10) fun r14 g12 => gd (5 : Int32) 13 <| wr (sJ g12 386 (5 : Int32).toNatClampNeg r14.toInt64) fun g15 => wr (sI g15 367 54 (0 : Int32)) fun g17 => gd (v1 + (5 : Int32)) 96 <| gd (v1 + (6 : Int32)) 96 <| if (gI g17 397 (v1 + (6 : Int32)).toNatClampNeg) ≤ (gI g17 397 (v1 + (5 : Int32)).toNatClampNeg) then (q_Mo_runOnce_68 v1 g17) else (bnd (q_Mo_sumOf (v1 + (5 : Int32)) g17) fun r39 g37 => if (gI g37 367 54) = (0 : Int32) then (if r39 = (0 : Int32) then (some ((0 : Int32), g37)) else (q_Mo_runOnce_68 v1 g37)) else (some ((0 : Int32), g37)))
theorem tm277 {d : Nat} {v1 : Int32} (hd : 9 ≤ d) {g : hG} (hF : Frz g) : TM wI d 277 [.ref 367, .int v1] g (q_Mo_runOnce v1 g) := by
  obtain ⟨e, rfl⟩ : ∃ e, d = e + 1 := ⟨d - 1, by omega⟩
  have he := hd
  refine TM.ofE e277_0 (lv := [some (.ref 367), some (.int v1), none, none, none]) rfl ?_
  unfold q_Mo_runOnce
  refine tr_ldA rfl (tr_getP (b := 386) (fk_367 hF) (fp_367_36 hF) (tr_pushI (tr_ldA rfl (tr_getP (b := 369) (fk_367 hF) (fp_367_3 hF) (tr_pushI (?_))))))
  refine tr_aldI (fk_369 hF) (fl_369 hF) (fun _ => tr_i2l (tr_astJ hF (fk_386 hF) (fl_386 hF) (fun _ g1 _ hF2 => tr_ldA rfl (tr_getP (b := 386) (fk_367 hF2) (fp_367_36 hF2) (tr_pushI (?_))))))
  refine tr_ldA rfl (tr_getI (fk_367 hF2) (tr_i2l (tr_astJ hF2 (fk_386 hF2) (fl_386 hF2) (fun _ g3 _ hF4 => tr_ldA rfl (tr_getP (b := 386) (fk_367 hF4) (fp_367_36 hF4) (?_))))))
  refine tr_pushI (tr_ldA rfl (tr_getI (fk_367 hF4) (tr_i2l (tr_astJ hF4 (fk_386 hF4) (fl_386 hF4) (fun _ g5 _ hF6 => tr_ldA rfl (?_))))))
  refine tr_getP (b := 386) (fk_367 hF6) (fp_367_36 hF6) (tr_pushI (tr_ldA rfl (tr_pushI (?_))))
  refine tr_invVI rfl rfl (fk_367 hF6) (Nat.le_of_ble_eq_true rfl) (by decide) (Nat.le_of_ble_eq_true rfl) (tm182 hF6) (fun r9 g7 _ hF8 => ?_)
  refine tr_i2l (tr_astJ hF8 (fk_386 hF8) (fl_386 hF8) (fun _ g10 _ hF11 => tr_ldA rfl (tr_getP (b := 386) (fk_367 hF11) (fp_367_36 hF11) (tr_pushI (tr_ldA rfl (?_))))))
  refine tr_pushI (?_)
  refine tr_invVI rfl rfl (fk_367 hF11) (Nat.le_of_ble_eq_true rfl) (by decide) (Nat.le_of_ble_eq_true rfl) (tm182 hF11) (fun r14 g12 _ hF13 => ?_)
  refine tr_i2l (tr_astJ hF13 (fk_386 hF13) (fl_386 hF13) (fun _ g15 _ hF16 => tr_ldA rfl (tr_pushI (tr_putZl (Or.inl rfl) hF16 (fk_367 hF16) (fun g17 _ hF18 => tr_ldA rfl (?_))))))
  refine tr_getP (b := 397) (fk_367 hF18) (fp_367_50 hF18) (tr_ldI rfl (tr_pushI (tr_bin (v := (v1 + (5 : Int32))) rfl (tr_aldI (fk_397 hF18) (fl_397 hF18) (fun _ => tr_ldA rfl (?_))))))
  refine tr_getP (b := 397) (fk_367 hF18) (fp_367_50 hF18) (tr_ldI rfl (tr_pushI (tr_bin (v := (v1 + (6 : Int32))) rfl (tr_aldI (fk_397 hF18) (fl_397 hF18) (fun _ => ?_)))))
  refine tr_ifj e277_68 (c_ge _ _) (fun hc19 => ?_) (fun hc19 => ?_)
  · exact th277_68 he rfl rfl hF18
  · refine tr_ldA rfl (tr_ldI rfl (tr_pushI (tr_bin (v := (v1 + (5 : Int32))) rfl (?_))))
    refine tr_invVI rfl rfl (fk_367 hF18) (Nat.le_of_ble_eq_true rfl) (by decide) (Nat.le_of_ble_eq_true rfl) (tm275 (by omega) hF18) (fun r39 g37 _ hF38 => ?_)
    refine tr_stI (Nat.le_of_ble_eq_true rfl) rfl rfl (tr_ldA rfl (tr_getI (fk_367 hF38) (?_)))
    refine tr_if0n e277_66 (c_ne _ _) (fun hc40 => ?_) (fun hc40 => ?_)
    · refine tr_pushI (?_)
      exact tr_retI hF38
    · refine tr_ldI rfl (?_)
      refine tr_if0n e277_68 (c_ne _ _) (fun hc41 => ?_) (fun hc41 => ?_)
      · exact th277_68 he rfl rfl hF38
      · refine tr_pushI (?_)
        exact tr_retI hF38
-- Mo_putBack
abbrev t173_21 : List hOp := oRetV :: []
abbrev t173_2 : List hOp := oLdI 2 :: oPushI 52 :: oIf cGe 21 :: oLdA 0 :: oGetP 12 3 :: oPushI 4 :: oLdI 2 :: oBin (fun x y => x + y) :: oLdA 0 :: oGetP 12 6 :: oPushI 52 :: oLdI 1 :: oBin (fun x y => x * y) :: oLdI 2 :: oBin (fun x y => x + y) :: oALdI 13 :: oAStI :: oInc 2 1 :: oGoto 2 :: t173_21
abbrev t173_0 : List hOp := oPushI 0 :: oStI 2 :: t173_2
theorem e173_0 : (opsOf 173).drop 0 = t173_0 := rfl
theorem e173_2 : (opsOf 173).drop 2 = t173_2 := rfl
theorem e173_21 : (opsOf 173).drop 21 = t173_21 := rfl
def q_Mo_putBack_2 (v1 : Int32) (k21 : hG → hO Unit) (k2 : Int32 → hG → hO Unit) (v2 : Int32) (g : hG) : hO Unit :=
  if (52 : Int32) ≤ v2 then (k21 g) else (gd (((52 : Int32) * v1) + v2) 936 <| gd ((4 : Int32) + v2) 5468 <| wr (sI g 369 ((4 : Int32) + v2).toNatClampNeg (gI g 372 (((52 : Int32) * v1) + v2).toNatClampNeg)) fun g2 => k2 (v2 + (1 : Int32)) g2)
def q_Mo_putBack_2L (v1 : Int32) (k21 : hG → hO Unit) : Nat → Int32 → hG → hO Unit
  | 0 => fun _ _ => none
  | n + 1 => fun v2 g => q_Mo_putBack_2 v1 k21 (q_Mo_putBack_2L v1 k21 n) v2 g
theorem q_Mo_putBack_2L_s (v1 : Int32) (k21 : hG → hO Unit) (n : Nat) (v2 : Int32) (g : hG) : q_Mo_putBack_2L v1 k21 (n + 1) v2 g = q_Mo_putBack_2 v1 k21 (q_Mo_putBack_2L v1 k21 n) v2 g := rfl
theorem th173_2 {d : Nat} {v1 : Int32} {k21 : hG → hO Unit} {k2 : Int32 → hG → hO Unit} {v2 : Int32} (hk21 : ∀ (y2 : Option Value) (g : hG), Frz g → Tri wU d 173 t173_21 [some (.ref 367), some (.int v1), y2] [] g (k21 g)) (hk2 : ∀ (x2 : Int32) (g : hG), Frz g → Tri wU d 173 t173_2 [some (.ref 367), some (.int v1), some (.int x2)] [] g (k2 x2 g)) {g : hG} (hF : Frz g) : Tri wU d 173 t173_2 [some (.ref 367), some (.int v1), some (.int v2)] [] g (q_Mo_putBack_2 v1 k21 k2 v2 g) := by
  unfold q_Mo_putBack_2
  refine tr_ldI rfl (tr_pushI (?_))
  refine tr_ifj e173_21 (c_ge _ _) (fun hc1 => ?_) (fun hc1 => ?_)
  · exact hk21 _ _ hF
  · refine tr_ldA rfl (tr_getP (b := 369) (fk_367 hF) (fp_367_3 hF) (tr_pushI (tr_ldI rfl (tr_bin (v := ((4 : Int32) + v2)) rfl (tr_ldA rfl (?_))))))
    refine tr_getP (b := 372) (fk_367 hF) (fp_367_6 hF) (tr_pushI (tr_ldI rfl (tr_bin (v := ((52 : Int32) * v1)) rfl (tr_ldI rfl (tr_bin (v := (((52 : Int32) * v1) + v2)) rfl (?_))))))
    refine tr_aldI (fk_372 hF) (fl_372 hF) (fun _ => tr_astI hF (fk_369 hF) (fl_369 hF) (fun _ g2 _ hF3 => tr_inc rfl rfl rfl (?_)))
    refine tr_gotoE e173_2 (?_)
    exact hk2 _ _ hF3
theorem th173_2L {d : Nat} {v1 : Int32} {k21 : hG → hO Unit} (hk21 : ∀ (y2 : Option Value) (g : hG), Frz g → Tri wU d 173 t173_21 [some (.ref 367), some (.int v1), y2] [] g (k21 g)) : ∀ (n : Nat) (v2 : Int32) (g : hG), Frz g → Tri wU d 173 t173_2 [some (.ref 367), some (.int v1), some (.int v2)] [] g (q_Mo_putBack_2L v1 k21 n v2 g)
  | 0 => fun _ _ _ => Tri.none_
  | n + 1 => fun _ g hF => th173_2 hk21 (th173_2L hk21 n) hF
def q_Mo_putBack (v1 : Int32) (g : hG) : hO Unit :=
  q_Mo_putBack_2L v1 (fun g5 => some ((), g5)) FU (0 : Int32) g
theorem tm173 {d : Nat} {v1 : Int32} {g : hG} (hF : Frz g) : TM wU d 173 [.ref 367, .int v1] g (q_Mo_putBack v1 g) := by
  refine TM.ofE e173_0 (lv := [some (.ref 367), some (.int v1), none]) rfl ?_
  unfold q_Mo_putBack
  refine tr_pushI (tr_stI (Nat.le_of_ble_eq_true rfl) rfl rfl (?_))
  refine th173_2L (fun y4 g5 hF6 => ?_) FU _ _ hF
  · exact tr_retV hF6
-- Mo_giveBack
abbrev t279_33 : List hOp := oLdA 0 :: oLdI 1 :: oPutI 12 8 :: oRetV :: []
abbrev t279_20 : List hOp := oLdI 2 :: oPushI 16 :: oIf cGe 33 :: oLdA 0 :: oGetP 12 7 :: oLdI 2 :: oLdA 0 :: oGetP 12 10 :: oLdI 2 :: oALdI 13 :: oAStI :: oInc 2 1 :: oGoto 20 :: t279_33
abbrev t279_18 : List hOp := oPushI 0 :: oStI 2 :: t279_20
abbrev t279_5 : List hOp := oLdI 2 :: oPushI 832 :: oIf cGe 18 :: oLdA 0 :: oGetP 12 6 :: oLdI 2 :: oLdA 0 :: oGetP 12 9 :: oLdI 2 :: oALdI 13 :: oAStI :: oInc 2 1 :: oGoto 5 :: t279_18
abbrev t279_0 : List hOp := oLdA 0 :: oPushI 17 :: oInvV 173 12 1 :: oPushI 0 :: oStI 2 :: t279_5
theorem e279_0 : (opsOf 279).drop 0 = t279_0 := rfl
theorem e279_5 : (opsOf 279).drop 5 = t279_5 := rfl
theorem e279_18 : (opsOf 279).drop 18 = t279_18 := rfl
theorem e279_20 : (opsOf 279).drop 20 = t279_20 := rfl
theorem e279_33 : (opsOf 279).drop 33 = t279_33 := rfl
def q_Mo_giveBack_5 (k18 : hG → hO Unit) (k5 : Int32 → hG → hO Unit) (v2 : Int32) (g : hG) : hO Unit :=
  if (832 : Int32) ≤ v2 then (k18 g) else (gd v2 832 <| gd v2 936 <| wr (sI g 372 v2.toNatClampNeg (gI g 374 v2.toNatClampNeg)) fun g4 => k5 (v2 + (1 : Int32)) g4)
def q_Mo_giveBack_5L (k18 : hG → hO Unit) : Nat → Int32 → hG → hO Unit
  | 0 => fun _ _ => none
  | n + 1 => fun v2 g => q_Mo_giveBack_5 k18 (q_Mo_giveBack_5L k18 n) v2 g
theorem q_Mo_giveBack_5L_s (k18 : hG → hO Unit) (n : Nat) (v2 : Int32) (g : hG) : q_Mo_giveBack_5L k18 (n + 1) v2 g = q_Mo_giveBack_5 k18 (q_Mo_giveBack_5L k18 n) v2 g := rfl
theorem th279_5 {e : Nat} (he : 1 ≤ e + 1) {k18 : hG → hO Unit} {k5 : Int32 → hG → hO Unit} {v2 : Int32} {u1 : Option Value} (hk18 : ∀ (y2 : Option Value) (g : hG), Frz g → Tri wU (e + 1) 279 t279_18 [some (.ref 367), u1, y2] [] g (k18 g)) (hk5 : ∀ (x2 : Int32) (g : hG), Frz g → Tri wU (e + 1) 279 t279_5 [some (.ref 367), u1, some (.int x2)] [] g (k5 x2 g)) (hu1 : isL (some u1) = false) {g : hG} (hF : Frz g) : Tri wU (e + 1) 279 t279_5 [some (.ref 367), u1, some (.int v2)] [] g (q_Mo_giveBack_5 k18 k5 v2 g) := by
  unfold q_Mo_giveBack_5
  refine tr_ldI rfl (tr_pushI (?_))
  refine tr_ifj e279_18 (c_ge _ _) (fun hc3 => ?_) (fun hc3 => ?_)
  · exact hk18 _ _ hF
  · refine tr_ldA rfl (tr_getP (b := 372) (fk_367 hF) (fp_367_6 hF) (tr_ldI rfl (tr_ldA rfl (tr_getP (b := 374) (fk_367 hF) (fp_367_9 hF) (tr_ldI rfl (?_))))))
    refine tr_aldI (fk_374 hF) (fl_374 hF) (fun _ => tr_astI hF (fk_372 hF) (fl_372 hF) (fun _ g4 _ hF5 => tr_inc rfl (lKill_id hu1) rfl (?_)))
    refine tr_gotoE e279_5 (?_)
    exact hk5 _ _ hF5
theorem th279_5L {e : Nat} (he : 1 ≤ e + 1) {k18 : hG → hO Unit} {u1 : Option Value} (hk18 : ∀ (y2 : Option Value) (g : hG), Frz g → Tri wU (e + 1) 279 t279_18 [some (.ref 367), u1, y2] [] g (k18 g)) (hu1 : isL (some u1) = false) : ∀ (n : Nat) (v2 : Int32) (g : hG), Frz g → Tri wU (e + 1) 279 t279_5 [some (.ref 367), u1, some (.int v2)] [] g (q_Mo_giveBack_5L k18 n v2 g)
  | 0 => fun _ _ _ => Tri.none_
  | n + 1 => fun _ g hF => th279_5 he hk18 (th279_5L he hk18 hu1 n) hu1 hF
def q_Mo_giveBack_20 (k33 : hG → hO Unit) (k20 : Int32 → hG → hO Unit) (v2 : Int32) (g : hG) : hO Unit :=
  if (16 : Int32) ≤ v2 then (k33 g) else (gd v2 16 <| gd v2 16 <| wr (sI g 373 v2.toNatClampNeg (gI g 375 v2.toNatClampNeg)) fun g10 => k20 (v2 + (1 : Int32)) g10)
def q_Mo_giveBack_20L (k33 : hG → hO Unit) : Nat → Int32 → hG → hO Unit
  | 0 => fun _ _ => none
  | n + 1 => fun v2 g => q_Mo_giveBack_20 k33 (q_Mo_giveBack_20L k33 n) v2 g
theorem q_Mo_giveBack_20L_s (k33 : hG → hO Unit) (n : Nat) (v2 : Int32) (g : hG) : q_Mo_giveBack_20L k33 (n + 1) v2 g = q_Mo_giveBack_20 k33 (q_Mo_giveBack_20L k33 n) v2 g := rfl
theorem th279_20 {e : Nat} (he : 1 ≤ e + 1) {k33 : hG → hO Unit} {k20 : Int32 → hG → hO Unit} {v2 : Int32} {u1 : Option Value} (hk33 : ∀ (y2 : Option Value) (g : hG), Frz g → Tri wU (e + 1) 279 t279_33 [some (.ref 367), u1, y2] [] g (k33 g)) (hk20 : ∀ (x2 : Int32) (g : hG), Frz g → Tri wU (e + 1) 279 t279_20 [some (.ref 367), u1, some (.int x2)] [] g (k20 x2 g)) (hu1 : isL (some u1) = false) {g : hG} (hF : Frz g) : Tri wU (e + 1) 279 t279_20 [some (.ref 367), u1, some (.int v2)] [] g (q_Mo_giveBack_20 k33 k20 v2 g) := by
  unfold q_Mo_giveBack_20
  refine tr_ldI rfl (tr_pushI (?_))
  refine tr_ifj e279_33 (c_ge _ _) (fun hc9 => ?_) (fun hc9 => ?_)
  · exact hk33 _ _ hF
  · refine tr_ldA rfl (tr_getP (b := 373) (fk_367 hF) (fp_367_7 hF) (tr_ldI rfl (tr_ldA rfl (tr_getP (b := 375) (fk_367 hF) (fp_367_10 hF) (tr_ldI rfl (?_))))))
    refine tr_aldI (fk_375 hF) (fl_375 hF) (fun _ => tr_astI hF (fk_373 hF) (fl_373 hF) (fun _ g10 _ hF11 => tr_inc rfl (lKill_id hu1) rfl (?_)))
    refine tr_gotoE e279_20 (?_)
    exact hk20 _ _ hF11
theorem th279_20L {e : Nat} (he : 1 ≤ e + 1) {k33 : hG → hO Unit} {u1 : Option Value} (hk33 : ∀ (y2 : Option Value) (g : hG), Frz g → Tri wU (e + 1) 279 t279_33 [some (.ref 367), u1, y2] [] g (k33 g)) (hu1 : isL (some u1) = false) : ∀ (n : Nat) (v2 : Int32) (g : hG), Frz g → Tri wU (e + 1) 279 t279_20 [some (.ref 367), u1, some (.int v2)] [] g (q_Mo_giveBack_20L k33 n v2 g)
  | 0 => fun _ _ _ => Tri.none_
  | n + 1 => fun _ g hF => th279_20 he hk33 (th279_20L he hk33 hu1 n) hu1 hF
def q_Mo_giveBack (v1 : Int32) (g : hG) : hO Unit :=
  bnd (q_Mo_putBack (17 : Int32) g) fun _ g1 => q_Mo_giveBack_5L (fun g7 => q_Mo_giveBack_20L (fun g13 => wr (sI g13 367 8 v1) fun g15 => some ((), g15)) FU (0 : Int32) g7) FU (0 : Int32) g1
theorem tm279 {d : Nat} {v1 : Int32} (hd : 1 ≤ d) {g : hG} (hF : Frz g) : TM wU d 279 [.ref 367, .int v1] g (q_Mo_giveBack v1 g) := by
  obtain ⟨e, rfl⟩ : ∃ e, d = e + 1 := ⟨d - 1, by omega⟩
  have he := hd
  refine TM.ofE e279_0 (lv := [some (.ref 367), some (.int v1), none]) rfl ?_
  unfold q_Mo_giveBack
  refine tr_ldA rfl (tr_pushI (?_))
  refine tr_invVU rfl rfl (fk_367 hF) (Nat.le_of_ble_eq_true rfl) (by decide) (Nat.le_of_ble_eq_true rfl) (tm173 hF) (fun _ g1 _ hF2 => ?_)
  refine tr_pushI (tr_stI (Nat.le_of_ble_eq_true rfl) rfl rfl (?_))
  refine th279_5L he (fun y6 g7 hF8 => ?_) rfl FU _ _ hF2
  · refine tr_pushI (tr_stI (Nat.le_of_ble_eq_true rfl) rfl rfl (?_))
    refine th279_20L he (fun y12 g13 hF14 => ?_) rfl FU _ _ hF8
    · refine tr_ldA rfl (tr_ldI rfl (tr_putI hF14 (fk_367 hF14) (fun g15 _ hF16 => ?_)))
      exact tr_retV hF16
-- Mo_orders
abbrev t278_112 : List hOp := oLdA 0 :: oLdA 0 :: oGetI 12 51 :: oInvV 169 12 1 :: oRetI :: []
abbrev t278_110 : List hOp := oInc 2 1 :: oGoto 76 :: t278_112
abbrev t278_108 : List hOp := oInc 3 1 :: oGoto 82 :: t278_110
abbrev t278_98 : List hOp := oLdA 0 :: oLdI 1 :: oInvV 279 12 1 :: oLdA 0 :: oLdI 2 :: oPutI 12 53 :: oLdA 0 :: oPushI (-3) :: oInvV 169 12 1 :: oRetI :: t278_108
abbrev t278_82 : List hOp := oLdI 3 :: oLdA 0 :: oGetP 12 50 :: oPushI 8 :: oLdI 2 :: oBin (fun x y => x * y) :: oPushI 7 :: oBin (fun x y => x + y) :: oALdI 13 :: oIf cGe 110 :: oLdA 0 :: oPushI 8 :: oLdI 2 :: oBin (fun x y => x * y) :: oInvV 277 12 1 :: oIf0 cGe 108 :: t278_98
abbrev t278_76 : List hOp := oLdI 2 :: oLdA 0 :: oGetI 12 21 :: oIf cGe 112 :: oPushI 0 :: oStI 3 :: t278_82
abbrev t278_68 : List hOp := oLdA 0 :: oPushI 0 :: oPutI 12 51 :: oLdA 0 :: oPushI (-1) :: oPutI 12 52 :: oPushI 0 :: oStI 2 :: t278_76
abbrev t278_55 : List hOp := oLdI 2 :: oPushI 16 :: oIf cGe 68 :: oLdA 0 :: oGetP 12 10 :: oLdI 2 :: oLdA 0 :: oGetP 12 7 :: oLdI 2 :: oALdI 13 :: oAStI :: oInc 2 1 :: oGoto 55 :: t278_68
abbrev t278_53 : List hOp := oPushI 0 :: oStI 2 :: t278_55
abbrev t278_40 : List hOp := oLdI 2 :: oPushI 832 :: oIf cGe 53 :: oLdA 0 :: oGetP 12 9 :: oLdI 2 :: oLdA 0 :: oGetP 12 6 :: oLdI 2 :: oALdI 13 :: oAStI :: oInc 2 1 :: oGoto 40 :: t278_53
abbrev t278_32 : List hOp := oLdA 0 :: oPushI 17 :: oInvV 172 12 1 :: oLdA 0 :: oGetI 12 8 :: oStI 1 :: oPushI 0 :: oStI 2 :: t278_40
abbrev t278_23 : List hOp := oLdA 0 :: oInvV 219 12 0 :: oLdA 0 :: oGetI 12 19 :: oIf0 cEq 32 :: oLdA 0 :: oPushI (-6) :: oInvV 169 12 1 :: oRetI :: t278_32
abbrev t278_11 : List hOp := oLdA 0 :: oGetI 12 19 :: oIf0 cNe 23 :: oLdA 0 :: oPushI 59 :: oInvV 199 12 1 :: oIf0 cEq 23 :: oLdA 0 :: oInvV 197 12 0 :: oLdA 0 :: oInvV 274 12 0 :: oGoto 11 :: t278_23
abbrev t278_0 : List hOp := oLdA 0 :: oPushI 0 :: oPutI 12 0 :: oLdA 0 :: oPushI (-1) :: oPutI 12 53 :: oLdA 0 :: oPushI 1 :: oInvV 218 12 1 :: oLdA 0 :: oInvV 274 12 0 :: t278_11
theorem e278_0 : (opsOf 278).drop 0 = t278_0 := rfl
theorem e278_11 : (opsOf 278).drop 11 = t278_11 := rfl
theorem e278_23 : (opsOf 278).drop 23 = t278_23 := rfl
theorem e278_32 : (opsOf 278).drop 32 = t278_32 := rfl
theorem e278_40 : (opsOf 278).drop 40 = t278_40 := rfl
theorem e278_53 : (opsOf 278).drop 53 = t278_53 := rfl
theorem e278_55 : (opsOf 278).drop 55 = t278_55 := rfl
theorem e278_68 : (opsOf 278).drop 68 = t278_68 := rfl
theorem e278_76 : (opsOf 278).drop 76 = t278_76 := rfl
theorem e278_82 : (opsOf 278).drop 82 = t278_82 := rfl
theorem e278_108 : (opsOf 278).drop 108 = t278_108 := rfl
theorem e278_110 : (opsOf 278).drop 110 = t278_110 := rfl
theorem e278_112 : (opsOf 278).drop 112 = t278_112 := rfl
def q_Mo_orders_11 (k23 : hG → hO Int32) (k11 : hG → hO Int32) (g : hG) : hO Int32 :=
  if (gI g 367 19) = (0 : Int32) then (bnd (q_Mo_isSign (59 : Int32) g) fun r12 g10 => if r12 = (0 : Int32) then (k23 g10) else (bnd (q_Mo_next g10) fun _ g14 => bnd (q_Mo_readOrder g14) fun _ g16 => k11 g16)) else (k23 g)
def q_Mo_orders_11L (k23 : hG → hO Int32) : Nat → hG → hO Int32
  | 0 => fun _ => none
  | n + 1 => fun g => q_Mo_orders_11 k23 (q_Mo_orders_11L k23 n) g
theorem q_Mo_orders_11L_s (k23 : hG → hO Int32) (n : Nat) (g : hG) : q_Mo_orders_11L k23 (n + 1) g = q_Mo_orders_11 k23 (q_Mo_orders_11L k23 n) g := rfl
theorem th278_11 {e : Nat} (he : 10 ≤ e + 1) {k23 : hG → hO Int32} {k11 : hG → hO Int32} {u1 : Option Value} {u2 : Option Value} {u3 : Option Value} (hk23 : ∀ (g : hG), Frz g → Tri wI (e + 1) 278 t278_23 [some (.ref 367), u1, u2, u3] [] g (k23 g)) (hk11 : ∀ (g : hG), Frz g → Tri wI (e + 1) 278 t278_11 [some (.ref 367), u1, u2, u3] [] g (k11 g)) (hu1 : isL (some u1) = false) (hu2 : isL (some u2) = false) {g : hG} (hF : Frz g) : Tri wI (e + 1) 278 t278_11 [some (.ref 367), u1, u2, u3] [] g (q_Mo_orders_11 k23 k11 g) := by
  unfold q_Mo_orders_11
  refine tr_ldA rfl (tr_getI (fk_367 hF) (?_))
  refine tr_if0n e278_23 (c_ne _ _) (fun hc9 => ?_) (fun hc9 => ?_)
  · exact hk23 _ hF
  · refine tr_ldA rfl (tr_pushI (?_))
    refine tr_invVI rfl rfl (fk_367 hF) (Nat.le_of_ble_eq_true rfl) (by decide) (Nat.le_of_ble_eq_true rfl) (tm199 hF) (fun r12 g10 _ hF11 => ?_)
    refine tr_if0j e278_23 (c_eq _ _) (fun hc13 => ?_) (fun hc13 => ?_)
    · exact hk23 _ hF11
    · refine tr_ldA rfl (?_)
      refine tr_invVU rfl rfl (fk_367 hF11) (Nat.le_of_ble_eq_true rfl) (by decide) (Nat.le_of_ble_eq_true rfl) (tm197 (by omega) hF11) (fun _ g14 _ hF15 => ?_)
      refine tr_ldA rfl (?_)
      refine tr_invVU rfl rfl (fk_367 hF15) (Nat.le_of_ble_eq_true rfl) (by decide) (Nat.le_of_ble_eq_true rfl) (tm274 (by omega) hF15) (fun _ g16 _ hF17 => ?_)
      refine tr_gotoE e278_11 (?_)
      exact hk11 _ hF17
theorem th278_11L {e : Nat} (he : 10 ≤ e + 1) {k23 : hG → hO Int32} {u1 : Option Value} {u2 : Option Value} {u3 : Option Value} (hk23 : ∀ (g : hG), Frz g → Tri wI (e + 1) 278 t278_23 [some (.ref 367), u1, u2, u3] [] g (k23 g)) (hu1 : isL (some u1) = false) (hu2 : isL (some u2) = false) : ∀ (n : Nat) (g : hG), Frz g → Tri wI (e + 1) 278 t278_11 [some (.ref 367), u1, u2, u3] [] g (q_Mo_orders_11L k23 n g)
  | 0 => fun _ _ => Tri.none_
  | n + 1 => fun g hF => th278_11 he hk23 (th278_11L he hk23 hu1 hu2 n) hu1 hu2 hF
def q_Mo_orders_40 (k53 : hG → hO Int32) (k40 : Int32 → hG → hO Int32) (v2 : Int32) (g : hG) : hO Int32 :=
  if (832 : Int32) ≤ v2 then (k53 g) else (gd v2 936 <| gd v2 832 <| wr (sI g 374 v2.toNatClampNeg (gI g 372 v2.toNatClampNeg)) fun g26 => k40 (v2 + (1 : Int32)) g26)
def q_Mo_orders_40L (k53 : hG → hO Int32) : Nat → Int32 → hG → hO Int32
  | 0 => fun _ _ => none
  | n + 1 => fun v2 g => q_Mo_orders_40 k53 (q_Mo_orders_40L k53 n) v2 g
theorem q_Mo_orders_40L_s (k53 : hG → hO Int32) (n : Nat) (v2 : Int32) (g : hG) : q_Mo_orders_40L k53 (n + 1) v2 g = q_Mo_orders_40 k53 (q_Mo_orders_40L k53 n) v2 g := rfl
theorem th278_40 {e : Nat} (he : 10 ≤ e + 1) {k53 : hG → hO Int32} {k40 : Int32 → hG → hO Int32} {v2 : Int32} {u1 : Option Value} {u3 : Option Value} (hk53 : ∀ (y2 : Option Value) (_ : isL (some y2) = false) (g : hG), Frz g → Tri wI (e + 1) 278 t278_53 [some (.ref 367), u1, y2, u3] [] g (k53 g)) (hk40 : ∀ (x2 : Int32) (g : hG), Frz g → Tri wI (e + 1) 278 t278_40 [some (.ref 367), u1, some (.int x2), u3] [] g (k40 x2 g)) (hu1 : isL (some u1) = false) {g : hG} (hF : Frz g) : Tri wI (e + 1) 278 t278_40 [some (.ref 367), u1, some (.int v2), u3] [] g (q_Mo_orders_40 k53 k40 v2 g) := by
  unfold q_Mo_orders_40
  refine tr_ldI rfl (tr_pushI (?_))
  refine tr_ifj e278_53 (c_ge _ _) (fun hc25 => ?_) (fun hc25 => ?_)
  · exact hk53 _ rfl _ hF
  · refine tr_ldA rfl (tr_getP (b := 374) (fk_367 hF) (fp_367_9 hF) (tr_ldI rfl (tr_ldA rfl (tr_getP (b := 372) (fk_367 hF) (fp_367_6 hF) (tr_ldI rfl (?_))))))
    refine tr_aldI (fk_372 hF) (fl_372 hF) (fun _ => tr_astI hF (fk_374 hF) (fl_374 hF) (fun _ g26 _ hF27 => tr_inc rfl (lKill_id hu1) rfl (?_)))
    refine tr_gotoE e278_40 (?_)
    exact hk40 _ _ hF27
theorem th278_40L {e : Nat} (he : 10 ≤ e + 1) {k53 : hG → hO Int32} {u1 : Option Value} {u3 : Option Value} (hk53 : ∀ (y2 : Option Value) (_ : isL (some y2) = false) (g : hG), Frz g → Tri wI (e + 1) 278 t278_53 [some (.ref 367), u1, y2, u3] [] g (k53 g)) (hu1 : isL (some u1) = false) : ∀ (n : Nat) (v2 : Int32) (g : hG), Frz g → Tri wI (e + 1) 278 t278_40 [some (.ref 367), u1, some (.int v2), u3] [] g (q_Mo_orders_40L k53 n v2 g)
  | 0 => fun _ _ _ => Tri.none_
  | n + 1 => fun _ g hF => th278_40 he hk53 (th278_40L he hk53 hu1 n) hu1 hF
def q_Mo_orders_55 (k68 : hG → hO Int32) (k55 : Int32 → hG → hO Int32) (v2 : Int32) (g : hG) : hO Int32 :=
  if (16 : Int32) ≤ v2 then (k68 g) else (gd v2 16 <| gd v2 16 <| wr (sI g 375 v2.toNatClampNeg (gI g 373 v2.toNatClampNeg)) fun g32 => k55 (v2 + (1 : Int32)) g32)
def q_Mo_orders_55L (k68 : hG → hO Int32) : Nat → Int32 → hG → hO Int32
  | 0 => fun _ _ => none
  | n + 1 => fun v2 g => q_Mo_orders_55 k68 (q_Mo_orders_55L k68 n) v2 g
theorem q_Mo_orders_55L_s (k68 : hG → hO Int32) (n : Nat) (v2 : Int32) (g : hG) : q_Mo_orders_55L k68 (n + 1) v2 g = q_Mo_orders_55 k68 (q_Mo_orders_55L k68 n) v2 g := rfl
theorem th278_55 {e : Nat} (he : 10 ≤ e + 1) {k68 : hG → hO Int32} {k55 : Int32 → hG → hO Int32} {v2 : Int32} {u1 : Option Value} {u3 : Option Value} (hk68 : ∀ (y2 : Option Value) (_ : isL (some y2) = false) (g : hG), Frz g → Tri wI (e + 1) 278 t278_68 [some (.ref 367), u1, y2, u3] [] g (k68 g)) (hk55 : ∀ (x2 : Int32) (g : hG), Frz g → Tri wI (e + 1) 278 t278_55 [some (.ref 367), u1, some (.int x2), u3] [] g (k55 x2 g)) (hu1 : isL (some u1) = false) {g : hG} (hF : Frz g) : Tri wI (e + 1) 278 t278_55 [some (.ref 367), u1, some (.int v2), u3] [] g (q_Mo_orders_55 k68 k55 v2 g) := by
  unfold q_Mo_orders_55
  refine tr_ldI rfl (tr_pushI (?_))
  refine tr_ifj e278_68 (c_ge _ _) (fun hc31 => ?_) (fun hc31 => ?_)
  · exact hk68 _ rfl _ hF
  · refine tr_ldA rfl (tr_getP (b := 375) (fk_367 hF) (fp_367_10 hF) (tr_ldI rfl (tr_ldA rfl (tr_getP (b := 373) (fk_367 hF) (fp_367_7 hF) (tr_ldI rfl (?_))))))
    refine tr_aldI (fk_373 hF) (fl_373 hF) (fun _ => tr_astI hF (fk_375 hF) (fl_375 hF) (fun _ g32 _ hF33 => tr_inc rfl (lKill_id hu1) rfl (?_)))
    refine tr_gotoE e278_55 (?_)
    exact hk55 _ _ hF33
theorem th278_55L {e : Nat} (he : 10 ≤ e + 1) {k68 : hG → hO Int32} {u1 : Option Value} {u3 : Option Value} (hk68 : ∀ (y2 : Option Value) (_ : isL (some y2) = false) (g : hG), Frz g → Tri wI (e + 1) 278 t278_68 [some (.ref 367), u1, y2, u3] [] g (k68 g)) (hu1 : isL (some u1) = false) : ∀ (n : Nat) (v2 : Int32) (g : hG), Frz g → Tri wI (e + 1) 278 t278_55 [some (.ref 367), u1, some (.int v2), u3] [] g (q_Mo_orders_55L k68 n v2 g)
  | 0 => fun _ _ _ => Tri.none_
  | n + 1 => fun _ g hF => th278_55 he hk68 (th278_55L he hk68 hu1 n) hu1 hF
def q_Mo_orders_82 (v2 : Int32) (k110 : hG → hO Int32) (k82 : Int32 → hG → hO Int32) (k98 : hG → hO Int32) (v3 : Int32) (g : hG) : hO Int32 :=
  gd (((8 : Int32) * v2) + (7 : Int32)) 96 <| if (gI g 397 (((8 : Int32) * v2) + (7 : Int32)).toNatClampNeg) ≤ v3 then (k110 g) else (bnd (q_Mo_runOnce ((8 : Int32) * v2) g) fun r45 g43 => if (0 : Int32) ≤ r45 then (k82 (v3 + (1 : Int32)) g43) else (k98 g43))
def q_Mo_orders_82L (v2 : Int32) (k110 : hG → hO Int32) (k98 : hG → hO Int32) : Nat → Int32 → hG → hO Int32
  | 0 => fun _ _ => none
  | n + 1 => fun v3 g => q_Mo_orders_82 v2 k110 (q_Mo_orders_82L v2 k110 k98 n) k98 v3 g
theorem q_Mo_orders_82L_s (v2 : Int32) (k110 : hG → hO Int32) (k98 : hG → hO Int32) (n : Nat) (v3 : Int32) (g : hG) : q_Mo_orders_82L v2 k110 k98 (n + 1) v3 g = q_Mo_orders_82 v2 k110 (q_Mo_orders_82L v2 k110 k98 n) k98 v3 g := rfl
theorem th278_82 {e : Nat} (he : 10 ≤ e + 1) {v2 : Int32} {k110 : hG → hO Int32} {k82 : Int32 → hG → hO Int32} {k98 : hG → hO Int32} {v3 : Int32} {u1 : Option Value} (hk110 : ∀ (y3 : Option Value) (g : hG), Frz g → Tri wI (e + 1) 278 t278_110 [some (.ref 367), u1, some (.int v2), y3] [] g (k110 g)) (hk82 : ∀ (x3 : Int32) (g : hG), Frz g → Tri wI (e + 1) 278 t278_82 [some (.ref 367), u1, some (.int v2), some (.int x3)] [] g (k82 x3 g)) (hk98 : ∀ (y3 : Option Value) (g : hG), Frz g → Tri wI (e + 1) 278 t278_98 [some (.ref 367), u1, some (.int v2), y3] [] g (k98 g)) (hu1 : isL (some u1) = false) {g : hG} (hF : Frz g) : Tri wI (e + 1) 278 t278_82 [some (.ref 367), u1, some (.int v2), some (.int v3)] [] g (q_Mo_orders_82 v2 k110 k82 k98 v3 g) := by
  unfold q_Mo_orders_82
  refine tr_ldI rfl (tr_ldA rfl (tr_getP (b := 397) (fk_367 hF) (fp_367_50 hF) (tr_pushI (tr_ldI rfl (tr_bin (v := ((8 : Int32) * v2)) rfl (?_))))))
  refine tr_pushI (tr_bin (v := (((8 : Int32) * v2) + (7 : Int32))) rfl (tr_aldI (fk_397 hF) (fl_397 hF) (fun _ => ?_)))
  refine tr_ifj e278_110 (c_ge _ _) (fun hc42 => ?_) (fun hc42 => ?_)
  · exact hk110 _ _ hF
  · refine tr_ldA rfl (tr_pushI (tr_ldI rfl (tr_bin (v := ((8 : Int32) * v2)) rfl (?_))))
    refine tr_invVI rfl rfl (fk_367 hF) (Nat.le_of_ble_eq_true rfl) (by decide) (Nat.le_of_ble_eq_true rfl) (tm277 (by omega) hF) (fun r45 g43 _ hF44 => ?_)
    refine tr_if0j e278_108 (c_ge _ _) (fun hc46 => ?_) (fun hc46 => ?_)
    · refine tr_inc rfl rfl rfl (?_)
      refine tr_gotoE e278_82 (?_)
      exact hk82 _ _ hF44
    · exact hk98 _ _ hF44
theorem th278_82L {e : Nat} (he : 10 ≤ e + 1) {v2 : Int32} {k110 : hG → hO Int32} {k98 : hG → hO Int32} {u1 : Option Value} (hk110 : ∀ (y3 : Option Value) (g : hG), Frz g → Tri wI (e + 1) 278 t278_110 [some (.ref 367), u1, some (.int v2), y3] [] g (k110 g)) (hk98 : ∀ (y3 : Option Value) (g : hG), Frz g → Tri wI (e + 1) 278 t278_98 [some (.ref 367), u1, some (.int v2), y3] [] g (k98 g)) (hu1 : isL (some u1) = false) : ∀ (n : Nat) (v3 : Int32) (g : hG), Frz g → Tri wI (e + 1) 278 t278_82 [some (.ref 367), u1, some (.int v2), some (.int v3)] [] g (q_Mo_orders_82L v2 k110 k98 n v3 g)
  | 0 => fun _ _ _ => Tri.none_
  | n + 1 => fun _ g hF => th278_82 he hk110 (th278_82L he hk110 hk98 hu1 n) hk98 hu1 hF
def q_Mo_orders_76 (k112 : hG → hO Int32) (k76 : Int32 → hG → hO Int32) (k98 : Int32 → hG → hO Int32) (v2 : Int32) (g : hG) : hO Int32 :=
  if (gI g 367 21) ≤ v2 then (k112 g) else (q_Mo_orders_82L v2 (fun g48 => k76 (v2 + (1 : Int32)) g48)
    (fun g51 => k98 v2 g51) FU (0 : Int32) g)
def q_Mo_orders_76L (k112 : hG → hO Int32) (k98 : Int32 → hG → hO Int32) : Nat → Int32 → hG → hO Int32
  | 0 => fun _ _ => none
  | n + 1 => fun v2 g => q_Mo_orders_76 k112 (q_Mo_orders_76L k112 k98 n) k98 v2 g
theorem q_Mo_orders_76L_s (k112 : hG → hO Int32) (k98 : Int32 → hG → hO Int32) (n : Nat) (v2 : Int32) (g : hG) : q_Mo_orders_76L k112 k98 (n + 1) v2 g = q_Mo_orders_76 k112 (q_Mo_orders_76L k112 k98 n) k98 v2 g := rfl
theorem th278_76 {e : Nat} (he : 10 ≤ e + 1) {k112 : hG → hO Int32} {k76 : Int32 → hG → hO Int32} {k98 : Int32 → hG → hO Int32} {v2 : Int32} {u1 : Option Value} {u3 : Option Value} (hk112 : ∀ (y2 : Option Value) (y3 : Option Value) (_ : isL (some y2) = false) (g : hG), Frz g → Tri wI (e + 1) 278 t278_112 [some (.ref 367), u1, y2, y3] [] g (k112 g)) (hk76 : ∀ (x2 : Int32) (y3 : Option Value) (g : hG), Frz g → Tri wI (e + 1) 278 t278_76 [some (.ref 367), u1, some (.int x2), y3] [] g (k76 x2 g)) (hk98 : ∀ (x2 : Int32) (y3 : Option Value) (g : hG), Frz g → Tri wI (e + 1) 278 t278_98 [some (.ref 367), u1, some (.int x2), y3] [] g (k98 x2 g)) (hu1 : isL (some u1) = false) {g : hG} (hF : Frz g) : Tri wI (e + 1) 278 t278_76 [some (.ref 367), u1, some (.int v2), u3] [] g (q_Mo_orders_76 k112 k76 k98 v2 g) := by
  unfold q_Mo_orders_76
  refine tr_ldI rfl (tr_ldA rfl (tr_getI (fk_367 hF) (?_)))
  refine tr_ifj e278_112 (c_ge _ _) (fun hc41 => ?_) (fun hc41 => ?_)
  · exact hk112 _ _ rfl _ hF
  · refine tr_pushI (tr_stI (Nat.le_of_ble_eq_true rfl) rfl rfl (?_))
    refine th278_82L he (fun y47 g48 hF49 => ?_) (fun y50 g51 hF52 => ?_) hu1 FU _ _ hF
    · refine tr_inc rfl (lKill_id hu1) rfl (?_)
      refine tr_gotoE e278_76 (?_)
      exact hk76 _ _ _ hF49
    · exact hk98 _ _ _ hF52
theorem th278_76L {e : Nat} (he : 10 ≤ e + 1) {k112 : hG → hO Int32} {k98 : Int32 → hG → hO Int32} {u1 : Option Value} (hk112 : ∀ (y2 : Option Value) (y3 : Option Value) (_ : isL (some y2) = false) (g : hG), Frz g → Tri wI (e + 1) 278 t278_112 [some (.ref 367), u1, y2, y3] [] g (k112 g)) (hk98 : ∀ (x2 : Int32) (y3 : Option Value) (g : hG), Frz g → Tri wI (e + 1) 278 t278_98 [some (.ref 367), u1, some (.int x2), y3] [] g (k98 x2 g)) (hu1 : isL (some u1) = false) : ∀ (n : Nat) (v2 : Int32) (u3 : Option Value) (g : hG), Frz g → Tri wI (e + 1) 278 t278_76 [some (.ref 367), u1, some (.int v2), u3] [] g (q_Mo_orders_76L k112 k98 n v2 g)
  | 0 => fun _ _ _ _ => Tri.none_
  | n + 1 => fun _ _ g hF => th278_76 he hk112 (th278_76L he hk112 hk98 hu1 n) hk98 hu1 hF
def q_Mo_orders_23 (g : hG) : hO Int32 :=
  bnd (q_Mo_endText g) fun _ g20 => if (gI g20 367 19) = (0 : Int32) then (bnd (q_Mo_keepAll (17 : Int32) g20) fun _ g23 => q_Mo_orders_40L (fun g29 => q_Mo_orders_55L (fun g35 => wr (sI g35 367 51 (0 : Int32)) fun g37 => wr (sI g37 367 52 (-1 : Int32)) fun g39 => q_Mo_orders_76L (fun g55 => bnd (q_Mo_tell (gI g55 367 51) g55) fun r59 g57 => some (r59, g57))
    (fun x60 g62 => bnd (q_Mo_giveBack (gI g23 367 8) g62) fun _ g64 => wr (sI g64 367 53 x60) fun g66 => bnd (q_Mo_tell (-3 : Int32) g66) fun r70 g68 => some (r70, g68)) FU (0 : Int32) g39) FU (0 : Int32) g29) FU (0 : Int32) g23) else (bnd (q_Mo_tell (-6 : Int32) g20) fun r73 g71 => some (r73, g71))
theorem th278_23 {e : Nat} (he : 10 ≤ e + 1) {u1 : Option Value} {u2 : Option Value} {u3 : Option Value} (hu1 : isL (some u1) = false) (hu2 : isL (some u2) = false) {g : hG} (hF : Frz g) : Tri wI (e + 1) 278 t278_23 [some (.ref 367), u1, u2, u3] [] g (q_Mo_orders_23 g) := by
  unfold q_Mo_orders_23
  refine tr_ldA rfl (?_)
  refine tr_invVU rfl rfl (fk_367 hF) (Nat.le_of_ble_eq_true rfl) (by decide) (Nat.le_of_ble_eq_true rfl) (tm219 (by omega) hF) (fun _ g20 _ hF21 => ?_)
  refine tr_ldA rfl (tr_getI (fk_367 hF21) (?_))
  refine tr_if0j e278_32 (c_eq _ _) (fun hc22 => ?_) (fun hc22 => ?_)
  · refine tr_ldA rfl (tr_pushI (?_))
    refine tr_invVU rfl rfl (fk_367 hF21) (Nat.le_of_ble_eq_true rfl) (by decide) (Nat.le_of_ble_eq_true rfl) (tm172 hF21) (fun _ g23 _ hF24 => ?_)
    refine tr_ldA rfl (tr_getI (fk_367 hF24) (tr_stI (Nat.le_of_ble_eq_true rfl) rfl rfl (tr_pushI (tr_stI (Nat.le_of_ble_eq_true rfl) rfl rfl (?_)))))
    refine th278_40L he (fun y28 zy28 g29 hF30 => ?_) rfl FU _ _ hF24
    · refine tr_pushI (tr_stI (Nat.le_of_ble_eq_true rfl) rfl rfl (?_))
      refine th278_55L he (fun y34 zy34 g35 hF36 => ?_) rfl FU _ _ hF30
      · refine tr_ldA rfl (tr_pushI (tr_putI hF36 (fk_367 hF36) (fun g37 _ hF38 => tr_ldA rfl (tr_pushI (tr_putI hF38 (fk_367 hF38) (fun g39 _ hF40 => ?_))))))
        refine tr_pushI (tr_stI (Nat.le_of_ble_eq_true rfl) rfl rfl (?_))
        refine th278_76L he (fun y53 y54 zy53 g55 hF56 => ?_) (fun x60 y61 g62 hF63 => ?_) rfl FU _ _ _ hF40
        · refine tr_ldA rfl (tr_ldA rfl (tr_getI (fk_367 hF56) (?_)))
          refine tr_invVI rfl rfl (fk_367 hF56) (Nat.le_of_ble_eq_true rfl) (by decide) (Nat.le_of_ble_eq_true rfl) (tm169 hF56) (fun r59 g57 _ hF58 => ?_)
          exact tr_retI hF58
        · refine tr_ldA rfl (tr_ldI rfl (?_))
          refine tr_invVU rfl rfl (fk_367 hF63) (Nat.le_of_ble_eq_true rfl) (by decide) (Nat.le_of_ble_eq_true rfl) (tm279 (by omega) hF63) (fun _ g64 _ hF65 => ?_)
          refine tr_ldA rfl (tr_ldI rfl (tr_putI hF65 (fk_367 hF65) (fun g66 _ hF67 => tr_ldA rfl (tr_pushI (?_)))))
          refine tr_invVI rfl rfl (fk_367 hF67) (Nat.le_of_ble_eq_true rfl) (by decide) (Nat.le_of_ble_eq_true rfl) (tm169 hF67) (fun r70 g68 _ hF69 => ?_)
          exact tr_retI hF69
  · refine tr_ldA rfl (tr_pushI (?_))
    refine tr_invVI rfl rfl (fk_367 hF21) (Nat.le_of_ble_eq_true rfl) (by decide) (Nat.le_of_ble_eq_true rfl) (tm169 hF21) (fun r73 g71 _ hF72 => ?_)
    exact tr_retI hF72
def q_Mo_orders (g : hG) : hO Int32 :=
  wr (sI g 367 0 (0 : Int32)) fun g1 => wr (sI g1 367 53 (-1 : Int32)) fun g3 => bnd (q_Mo_beginText (1 : Int32) g3) fun _ g5 => bnd (q_Mo_readOrder g5) fun _ g7 => q_Mo_orders_11L (fun g18 => q_Mo_orders_23 g18) FU g7
theorem tm278 {d : Nat} (hd : 10 ≤ d) {g : hG} (hF : Frz g) : TM wI d 278 [.ref 367] g (q_Mo_orders g) := by
  obtain ⟨e, rfl⟩ : ∃ e, d = e + 1 := ⟨d - 1, by omega⟩
  have he := hd
  refine TM.ofE e278_0 (lv := [some (.ref 367), none, none, none]) rfl ?_
  unfold q_Mo_orders
  refine tr_ldA rfl (tr_pushI (tr_putI hF (fk_367 hF) (fun g1 _ hF2 => tr_ldA rfl (tr_pushI (tr_putI hF2 (fk_367 hF2) (fun g3 _ hF4 => ?_))))))
  refine tr_ldA rfl (tr_pushI (?_))
  refine tr_invVU rfl rfl (fk_367 hF4) (Nat.le_of_ble_eq_true rfl) (by decide) (Nat.le_of_ble_eq_true rfl) (tm218 (by omega) hF4) (fun _ g5 _ hF6 => ?_)
  refine tr_ldA rfl (?_)
  refine tr_invVU rfl rfl (fk_367 hF6) (Nat.le_of_ble_eq_true rfl) (by decide) (Nat.le_of_ble_eq_true rfl) (tm274 (by omega) hF6) (fun _ g7 _ hF8 => ?_)
  refine th278_11L he (fun g18 hF19 => ?_) rfl rfl FU _ hF8
  · exact th278_23 he rfl rfl hF19
-- Mo_fault
abbrev t202_0 : List hOp := oLdA 0 :: oPushI 0 :: oPutI 12 0 :: oLdA 0 :: oGetI 12 18 :: oRetI :: []
theorem e202_0 : (opsOf 202).drop 0 = t202_0 := rfl
def q_Mo_fault (g : hG) : hO Int32 :=
  wr (sI g 367 0 (0 : Int32)) fun g1 => some ((gI g1 367 18), g1)
theorem tm202 {d : Nat} {g : hG} (hF : Frz g) : TM wI d 202 [.ref 367] g (q_Mo_fault g) := by
  refine TM.ofE e202_0 (lv := [some (.ref 367)]) rfl ?_
  unfold q_Mo_fault
  refine tr_ldA rfl (tr_pushI (tr_putI hF (fk_367 hF) (fun g1 _ hF2 => tr_ldA rfl (tr_getI (fk_367 hF2) (?_)))))
  exact tr_retI hF2
-- Mo_stopped
abbrev t280_0 : List hOp := oLdA 0 :: oPushI 0 :: oPutI 12 0 :: oLdA 0 :: oGetI 12 53 :: oRetI :: []
theorem e280_0 : (opsOf 280).drop 0 = t280_0 := rfl
def q_Mo_stopped (g : hG) : hO Int32 :=
  wr (sI g 367 0 (0 : Int32)) fun g1 => some ((gI g1 367 53), g1)
theorem tm280 {d : Nat} {g : hG} (hF : Frz g) : TM wI d 280 [.ref 367] g (q_Mo_stopped g) := by
  refine TM.ofE e280_0 (lv := [some (.ref 367)]) rfl ?_
  unfold q_Mo_stopped
  refine tr_ldA rfl (tr_pushI (tr_putI hF (fk_367 hF) (fun g1 _ hF2 => tr_ldA rfl (tr_getI (fk_367 hF2) (?_)))))
  exact tr_retI hF2
-- Mo_isLaw
abbrev t222_18 : List hOp := oRetZ :: []
abbrev t222_17 : List hOp := oPushI 0 :: t222_18
abbrev t222_15 : List hOp := oPushI 1 :: oGoto 18 :: t222_17
abbrev t222_0 : List hOp := oLdI 1 :: oPushI (-1) :: oIf cEq 15 :: oLdI 1 :: oI2L :: oPushL 0 :: oLdA 0 :: oGetP 12 3 :: oPushI 1 :: oALdI 13 :: oI2L :: oPushL 1 :: oLBin (fun x y => x - y) :: oInvS 165 3 :: oIf0 cEq 17 :: t222_15
theorem e222_0 : (opsOf 222).drop 0 = t222_0 := rfl
theorem e222_15 : (opsOf 222).drop 15 = t222_15 := rfl
theorem e222_17 : (opsOf 222).drop 17 = t222_17 := rfl
theorem e222_18 : (opsOf 222).drop 18 = t222_18 := rfl
def q_Mo_isLaw (v1 : Int32) (g : hG) : hO Int32 :=
  if v1 = (-1 : Int32) then (some ((1 : Int32), g)) else (gd (1 : Int32) 5468 <| bnd (q_Mo_in v1.toInt64 (0 : Int64) (((gI g 369 (1 : Int32).toNatClampNeg)).toInt64 - (1 : Int64)) g) fun r4 g2 => if r4 = (0 : Int32) then (some ((0 : Int32), g2)) else (some ((1 : Int32), g2)))
theorem tm222 {d : Nat} {v1 : Int32} (hd : 1 ≤ d) {g : hG} (hF : Frz g) : TM wI d 222 [.ref 367, .int v1] g (q_Mo_isLaw v1 g) := by
  obtain ⟨e, rfl⟩ : ∃ e, d = e + 1 := ⟨d - 1, by omega⟩
  have he := hd
  refine TM.ofE e222_0 (lv := [some (.ref 367), some (.int v1)]) rfl ?_
  unfold q_Mo_isLaw
  refine tr_ldI rfl (tr_pushI (?_))
  refine tr_ifj e222_15 (c_eq _ _) (fun hc1 => ?_) (fun hc1 => ?_)
  · refine tr_pushI (?_)
    refine tr_gotoE e222_18 (?_)
    exact tr_retZl (Or.inr rfl) hF
  · refine tr_ldI rfl (tr_i2l (tr_pushL (tr_ldA rfl (tr_getP (b := 369) (fk_367 hF) (fp_367_3 hF) (tr_pushI (?_))))))
    refine tr_aldI (fk_369 hF) (fl_369 hF) (fun _ => tr_i2l (tr_pushL (tr_lbin (v := (((gI g 369 (1 : Int32).toNatClampNeg)).toInt64 - (1 : Int64))) rfl (?_))))
    refine tr_invSI rfl rfl (Nat.le_of_ble_eq_true rfl) (Nat.le_of_ble_eq_true rfl) (by decide) (Nat.le_of_ble_eq_true rfl) (tm165 hF) (fun r4 g2 _ hF3 => ?_)
    refine tr_if0j e222_17 (c_eq _ _) (fun hc5 => ?_) (fun hc5 => ?_)
    · refine tr_pushI (?_)
      exact tr_retZl (Or.inl rfl) hF3
    · refine tr_pushI (?_)
      refine tr_gotoE e222_18 (?_)
      exact tr_retZl (Or.inr rfl) hF3
-- Mo_force
abbrev t223_15 : List hOp := oRetI :: []
abbrev t223_12 : List hOp := oLdA 0 :: oPushI (-2) :: oInvV 169 12 1 :: t223_15
abbrev t223_0 : List hOp := oLdA 0 :: oPushI 0 :: oPutI 12 0 :: oLdA 0 :: oLdI 1 :: oInvV 222 12 1 :: oIf0 cEq 12 :: oLdA 0 :: oPushI 2 :: oLdI 1 :: oInvV 170 12 2 :: oGoto 15 :: t223_12
theorem e223_0 : (opsOf 223).drop 0 = t223_0 := rfl
theorem e223_12 : (opsOf 223).drop 12 = t223_12 := rfl
theorem e223_15 : (opsOf 223).drop 15 = t223_15 := rfl
def q_Mo_force (v1 : Int32) (g : hG) : hO Int32 :=
  wr (sI g 367 0 (0 : Int32)) fun g1 => bnd (q_Mo_isLaw v1 g1) fun r5 g3 => if r5 = (0 : Int32) then (bnd (q_Mo_tell (-2 : Int32) g3) fun r9 g7 => some (r9, g7)) else (bnd (q_Mo_change (2 : Int32) v1 g3) fun r12 g10 => some (r12, g10))
theorem tm223 {d : Nat} {v1 : Int32} (hd : 2 ≤ d) {g : hG} (hF : Frz g) : TM wI d 223 [.ref 367, .int v1] g (q_Mo_force v1 g) := by
  obtain ⟨e, rfl⟩ : ∃ e, d = e + 1 := ⟨d - 1, by omega⟩
  have he := hd
  refine TM.ofE e223_0 (lv := [some (.ref 367), some (.int v1)]) rfl ?_
  unfold q_Mo_force
  refine tr_ldA rfl (tr_pushI (tr_putI hF (fk_367 hF) (fun g1 _ hF2 => tr_ldA rfl (tr_ldI rfl (?_)))))
  refine tr_invVI rfl rfl (fk_367 hF2) (Nat.le_of_ble_eq_true rfl) (by decide) (Nat.le_of_ble_eq_true rfl) (tm222 (by omega) hF2) (fun r5 g3 _ hF4 => ?_)
  refine tr_if0j e223_12 (c_eq _ _) (fun hc6 => ?_) (fun hc6 => ?_)
  · refine tr_ldA rfl (tr_pushI (?_))
    refine tr_invVI rfl rfl (fk_367 hF4) (Nat.le_of_ble_eq_true rfl) (by decide) (Nat.le_of_ble_eq_true rfl) (tm169 hF4) (fun r9 g7 _ hF8 => ?_)
    exact tr_retI hF8
  · refine tr_ldA rfl (tr_pushI (tr_ldI rfl (?_)))
    refine tr_invVI rfl rfl (fk_367 hF4) (Nat.le_of_ble_eq_true rfl) (by decide) (Nat.le_of_ble_eq_true rfl) (tm170 hF4) (fun r12 g10 _ hF11 => ?_)
    refine tr_gotoE e223_15 (?_)
    exact tr_retI hF11
-- Mo_spill
abbrev t232_0 : List hOp := oLdA 0 :: oPushI 0 :: oPutI 12 0 :: oLdA 0 :: oLdA 0 :: oLdI 1 :: oLdI 2 :: oInvV 231 12 2 :: oInvV 169 12 1 :: oRetI :: []
theorem e232_0 : (opsOf 232).drop 0 = t232_0 := rfl
def q_Mo_spill (v1 : Int32) (v2 : Int32) (g : hG) : hO Int32 :=
  wr (sI g 367 0 (0 : Int32)) fun g1 => bnd (q_Mo_spillNow v1 v2 g1) fun r5 g3 => bnd (q_Mo_tell r5 g3) fun r8 g6 => some (r8, g6)
theorem tm232 {d : Nat} {v1 : Int32} {v2 : Int32} (hd : 3 ≤ d) {g : hG} (hF : Frz g) : TM wI d 232 [.ref 367, .int v1, .int v2] g (q_Mo_spill v1 v2 g) := by
  obtain ⟨e, rfl⟩ : ∃ e, d = e + 1 := ⟨d - 1, by omega⟩
  have he := hd
  refine TM.ofE e232_0 (lv := [some (.ref 367), some (.int v1), some (.int v2)]) rfl ?_
  unfold q_Mo_spill
  refine tr_ldA rfl (tr_pushI (tr_putI hF (fk_367 hF) (fun g1 _ hF2 => tr_ldA rfl (tr_ldA rfl (tr_ldI rfl (?_))))))
  refine tr_ldI rfl (?_)
  refine tr_invVI rfl rfl (fk_367 hF2) (Nat.le_of_ble_eq_true rfl) (by decide) (Nat.le_of_ble_eq_true rfl) (tm231 (by omega) hF2) (fun r5 g3 _ hF4 => ?_)
  refine tr_invVI rfl rfl (fk_367 hF4) (Nat.le_of_ble_eq_true rfl) (by decide) (Nat.le_of_ble_eq_true rfl) (tm169 hF4) (fun r8 g6 _ hF7 => ?_)
  exact tr_retI hF7
-- Mo_raise
abbrev t234_0 : List hOp := oLdA 0 :: oPushI 0 :: oPutI 12 0 :: oLdA 0 :: oLdA 0 :: oLdI 1 :: oLdI 2 :: oInvV 233 12 2 :: oInvV 169 12 1 :: oRetI :: []
theorem e234_0 : (opsOf 234).drop 0 = t234_0 := rfl
def q_Mo_raise (v1 : Int32) (v2 : Int32) (g : hG) : hO Int32 :=
  wr (sI g 367 0 (0 : Int32)) fun g1 => bnd (q_Mo_raiseNow v1 v2 g1) fun r5 g3 => bnd (q_Mo_tell r5 g3) fun r8 g6 => some (r8, g6)
theorem tm234 {d : Nat} {v1 : Int32} {v2 : Int32} (hd : 3 ≤ d) {g : hG} (hF : Frz g) : TM wI d 234 [.ref 367, .int v1, .int v2] g (q_Mo_raise v1 v2 g) := by
  obtain ⟨e, rfl⟩ : ∃ e, d = e + 1 := ⟨d - 1, by omega⟩
  have he := hd
  refine TM.ofE e234_0 (lv := [some (.ref 367), some (.int v1), some (.int v2)]) rfl ?_
  unfold q_Mo_raise
  refine tr_ldA rfl (tr_pushI (tr_putI hF (fk_367 hF) (fun g1 _ hF2 => tr_ldA rfl (tr_ldA rfl (tr_ldI rfl (?_))))))
  refine tr_ldI rfl (?_)
  refine tr_invVI rfl rfl (fk_367 hF2) (Nat.le_of_ble_eq_true rfl) (by decide) (Nat.le_of_ble_eq_true rfl) (tm233 (by omega) hF2) (fun r5 g3 _ hF4 => ?_)
  refine tr_invVI rfl rfl (fk_367 hF4) (Nat.le_of_ble_eq_true rfl) (by decide) (Nat.le_of_ble_eq_true rfl) (tm169 hF4) (fun r8 g6 _ hF7 => ?_)
  exact tr_retI hF7
-- Mo_split
abbrev t237_0 : List hOp := oLdA 0 :: oPushI 0 :: oPutI 12 0 :: oLdA 0 :: oLdA 0 :: oLdI 1 :: oLdI 2 :: oInvV 236 12 2 :: oInvV 169 12 1 :: oRetI :: []
theorem e237_0 : (opsOf 237).drop 0 = t237_0 := rfl
def q_Mo_split (v1 : Int32) (v2 : Int32) (g : hG) : hO Int32 :=
  wr (sI g 367 0 (0 : Int32)) fun g1 => bnd (q_Mo_splitNow v1 v2 g1) fun r5 g3 => bnd (q_Mo_tell r5 g3) fun r8 g6 => some (r8, g6)
theorem tm237 {d : Nat} {v1 : Int32} {v2 : Int32} (hd : 4 ≤ d) {g : hG} (hF : Frz g) : TM wI d 237 [.ref 367, .int v1, .int v2] g (q_Mo_split v1 v2 g) := by
  obtain ⟨e, rfl⟩ : ∃ e, d = e + 1 := ⟨d - 1, by omega⟩
  have he := hd
  refine TM.ofE e237_0 (lv := [some (.ref 367), some (.int v1), some (.int v2)]) rfl ?_
  unfold q_Mo_split
  refine tr_ldA rfl (tr_pushI (tr_putI hF (fk_367 hF) (fun g1 _ hF2 => tr_ldA rfl (tr_ldA rfl (tr_ldI rfl (?_))))))
  refine tr_ldI rfl (?_)
  refine tr_invVI rfl rfl (fk_367 hF2) (Nat.le_of_ble_eq_true rfl) (by decide) (Nat.le_of_ble_eq_true rfl) (tm236 (by omega) hF2) (fun r5 g3 _ hF4 => ?_)
  refine tr_invVI rfl rfl (fk_367 hF4) (Nat.le_of_ble_eq_true rfl) (by decide) (Nat.le_of_ble_eq_true rfl) (tm169 hF4) (fun r8 g6 _ hF7 => ?_)
  exact tr_retI hF7
-- Mo_pass
abbrev t240_0 : List hOp := oLdA 0 :: oPushI 0 :: oPutI 12 0 :: oLdA 0 :: oLdA 0 :: oInvV 239 12 0 :: oInvV 169 12 1 :: oRetI :: []
theorem e240_0 : (opsOf 240).drop 0 = t240_0 := rfl
def q_Mo_pass (g : hG) : hO Int32 :=
  wr (sI g 367 0 (0 : Int32)) fun g1 => bnd (q_Mo_passNow g1) fun r5 g3 => bnd (q_Mo_tell r5 g3) fun r8 g6 => some (r8, g6)
theorem tm240 {d : Nat} (hd : 8 ≤ d) {g : hG} (hF : Frz g) : TM wI d 240 [.ref 367] g (q_Mo_pass g) := by
  obtain ⟨e, rfl⟩ : ∃ e, d = e + 1 := ⟨d - 1, by omega⟩
  have he := hd
  refine TM.ofE e240_0 (lv := [some (.ref 367)]) rfl ?_
  unfold q_Mo_pass
  refine tr_ldA rfl (tr_pushI (tr_putI hF (fk_367 hF) (fun g1 _ hF2 => tr_ldA rfl (tr_ldA rfl (?_)))))
  refine tr_invVI rfl rfl (fk_367 hF2) (Nat.le_of_ble_eq_true rfl) (by decide) (Nat.le_of_ble_eq_true rfl) (tm239 (by omega) hF2) (fun r5 g3 _ hF4 => ?_)
  refine tr_invVI rfl rfl (fk_367 hF4) (Nat.le_of_ble_eq_true rfl) (by decide) (Nat.le_of_ble_eq_true rfl) (tm169 hF4) (fun r8 g6 _ hF7 => ?_)
  exact tr_retI hF7
-- Mo_undo
abbrev t175_10 : List hOp := oLdA 0 :: oDup :: oGetI 12 8 :: oPushI 1 :: oBin (fun x y => x - y) :: oPutI 12 8 :: oLdA 0 :: oLdA 0 :: oGetI 12 8 :: oInvV 173 12 1 :: oLdA 0 :: oLdA 0 :: oGetP 12 7 :: oLdA 0 :: oGetI 12 8 :: oALdI 13 :: oInvV 169 12 1 :: oRetI :: []
abbrev t175_0 : List hOp := oLdA 0 :: oPushI 0 :: oPutI 12 0 :: oLdA 0 :: oGetI 12 8 :: oIf0 cNe 10 :: oLdA 0 :: oPushI (-3) :: oInvV 169 12 1 :: oRetI :: t175_10
theorem e175_0 : (opsOf 175).drop 0 = t175_0 := rfl
theorem e175_10 : (opsOf 175).drop 10 = t175_10 := rfl
def q_Mo_undo (g : hG) : hO Int32 :=
  wr (sI g 367 0 (0 : Int32)) fun g1 => if (gI g1 367 8) = (0 : Int32) then (bnd (q_Mo_tell (-3 : Int32) g1) fun r13 g11 => some (r13, g11)) else (wr (sI g1 367 8 ((gI g1 367 8) - (1 : Int32))) fun g4 => bnd (q_Mo_putBack (gI g4 367 8) g4) fun _ g6 => gd (gI g6 367 8) 16 <| bnd (q_Mo_tell (gI g6 373 (gI g6 367 8).toNatClampNeg) g6) fun r10 g8 => some (r10, g8))
theorem tm175 {d : Nat} (hd : 1 ≤ d) {g : hG} (hF : Frz g) : TM wI d 175 [.ref 367] g (q_Mo_undo g) := by
  obtain ⟨e, rfl⟩ : ∃ e, d = e + 1 := ⟨d - 1, by omega⟩
  have he := hd
  refine TM.ofE e175_0 (lv := [some (.ref 367)]) rfl ?_
  unfold q_Mo_undo
  refine tr_ldA rfl (tr_pushI (tr_putI hF (fk_367 hF) (fun g1 _ hF2 => tr_ldA rfl (tr_getI (fk_367 hF2) (?_)))))
  refine tr_if0n e175_10 (c_ne _ _) (fun hc3 => ?_) (fun hc3 => ?_)
  · refine tr_ldA rfl (tr_dupA (tr_getI (fk_367 hF2) (tr_pushI (tr_bin (v := ((gI g1 367 8) - (1 : Int32))) rfl (tr_putI hF2 (fk_367 hF2) (fun g4 _ hF5 => ?_))))))
    refine tr_ldA rfl (tr_ldA rfl (tr_getI (fk_367 hF5) (?_)))
    refine tr_invVU rfl rfl (fk_367 hF5) (Nat.le_of_ble_eq_true rfl) (by decide) (Nat.le_of_ble_eq_true rfl) (tm173 hF5) (fun _ g6 _ hF7 => ?_)
    refine tr_ldA rfl (tr_ldA rfl (tr_getP (b := 373) (fk_367 hF7) (fp_367_7 hF7) (tr_ldA rfl (tr_getI (fk_367 hF7) (tr_aldI (fk_373 hF7) (fl_373 hF7) (fun _ => ?_))))))
    refine tr_invVI rfl rfl (fk_367 hF7) (Nat.le_of_ble_eq_true rfl) (by decide) (Nat.le_of_ble_eq_true rfl) (tm169 hF7) (fun r10 g8 _ hF9 => ?_)
    exact tr_retI hF9
  · refine tr_ldA rfl (tr_pushI (?_))
    refine tr_invVI rfl rfl (fk_367 hF2) (Nat.le_of_ble_eq_true rfl) (by decide) (Nat.le_of_ble_eq_true rfl) (tm169 hF2) (fun r13 g11 _ hF12 => ?_)
    exact tr_retI hF12
-- Mo_later
abbrev t241_27 : List hOp := oLdA 0 :: oGetP 12 3 :: oPushI 40 :: oLdI 1 :: oBin (fun x y => x + y) :: oALdI 13 :: oStI 3 :: oLdA 0 :: oPushI 16 :: oInvV 173 12 1 :: oLdI 3 :: oRetI :: []
abbrev t241_19 : List hOp := oLdI 3 :: oLdI 2 :: oIf cGe 27 :: oLdA 0 :: oInvV 238 12 0 :: oPop :: oInc 3 1 :: oGoto 19 :: t241_27
abbrev t241_14 : List hOp := oLdA 0 :: oPushI 16 :: oInvV 172 12 1 :: oPushI 0 :: oStI 3 :: t241_19
abbrev t241_12 : List hOp := oPushI (-1) :: oRetI :: t241_14
abbrev t241_0 : List hOp := oLdA 0 :: oPushI 0 :: oPutI 12 0 :: oLdI 1 :: oInvS 179 1 :: oIf0 cEq 12 :: oLdI 2 :: oI2L :: oPushL 0 :: oPushL 60 :: oInvS 165 3 :: oIf0 cNe 14 :: t241_12
theorem e241_0 : (opsOf 241).drop 0 = t241_0 := rfl
theorem e241_12 : (opsOf 241).drop 12 = t241_12 := rfl
theorem e241_14 : (opsOf 241).drop 14 = t241_14 := rfl
theorem e241_19 : (opsOf 241).drop 19 = t241_19 := rfl
theorem e241_27 : (opsOf 241).drop 27 = t241_27 := rfl
def q_Mo_later_19 (v2 : Int32) (k27 : hG → hO Int32) (k19 : Int32 → hG → hO Int32) (v3 : Int32) (g : hG) : hO Int32 :=
  if v2 ≤ v3 then (k27 g) else (bnd (q_Mo_passIt g) fun r16 g14 => k19 (v3 + (1 : Int32)) g14)
def q_Mo_later_19L (v2 : Int32) (k27 : hG → hO Int32) : Nat → Int32 → hG → hO Int32
  | 0 => fun _ _ => none
  | n + 1 => fun v3 g => q_Mo_later_19 v2 k27 (q_Mo_later_19L v2 k27 n) v3 g
theorem q_Mo_later_19L_s (v2 : Int32) (k27 : hG → hO Int32) (n : Nat) (v3 : Int32) (g : hG) : q_Mo_later_19L v2 k27 (n + 1) v3 g = q_Mo_later_19 v2 k27 (q_Mo_later_19L v2 k27 n) v3 g := rfl
theorem th241_19 {e : Nat} (he : 7 ≤ e + 1) {v2 : Int32} {k27 : hG → hO Int32} {k19 : Int32 → hG → hO Int32} {v3 : Int32} {u1 : Option Value} (hk27 : ∀ (y3 : Option Value) (g : hG), Frz g → Tri wI (e + 1) 241 t241_27 [some (.ref 367), u1, some (.int v2), y3] [] g (k27 g)) (hk19 : ∀ (x3 : Int32) (g : hG), Frz g → Tri wI (e + 1) 241 t241_19 [some (.ref 367), u1, some (.int v2), some (.int x3)] [] g (k19 x3 g)) {g : hG} (hF : Frz g) : Tri wI (e + 1) 241 t241_19 [some (.ref 367), u1, some (.int v2), some (.int v3)] [] g (q_Mo_later_19 v2 k27 k19 v3 g) := by
  unfold q_Mo_later_19
  refine tr_ldI rfl (tr_ldI rfl (?_))
  refine tr_ifj e241_27 (c_ge _ _) (fun hc13 => ?_) (fun hc13 => ?_)
  · exact hk27 _ _ hF
  · refine tr_ldA rfl (?_)
    refine tr_invVI rfl rfl (fk_367 hF) (Nat.le_of_ble_eq_true rfl) (by decide) (Nat.le_of_ble_eq_true rfl) (tm238 (by omega) hF) (fun r16 g14 _ hF15 => ?_)
    refine tr_pop (tr_inc rfl rfl rfl (?_))
    refine tr_gotoE e241_19 (?_)
    exact hk19 _ _ hF15
theorem th241_19L {e : Nat} (he : 7 ≤ e + 1) {v2 : Int32} {k27 : hG → hO Int32} {u1 : Option Value} (hk27 : ∀ (y3 : Option Value) (g : hG), Frz g → Tri wI (e + 1) 241 t241_27 [some (.ref 367), u1, some (.int v2), y3] [] g (k27 g)) : ∀ (n : Nat) (v3 : Int32) (g : hG), Frz g → Tri wI (e + 1) 241 t241_19 [some (.ref 367), u1, some (.int v2), some (.int v3)] [] g (q_Mo_later_19L v2 k27 n v3 g)
  | 0 => fun _ _ _ => Tri.none_
  | n + 1 => fun _ g hF => th241_19 he hk27 (th241_19L he hk27 n) hF
def q_Mo_later (v1 : Int32) (v2 : Int32) (g : hG) : hO Int32 :=
  wr (sI g 367 0 (0 : Int32)) fun g1 => bnd (q_Mo_isLetter1 v1 g1) fun r5 g3 => if r5 = (0 : Int32) then (some ((-1 : Int32), g3)) else (bnd (q_Mo_in v2.toInt64 (0 : Int64) (60 : Int64) g3) fun r9 g7 => if r9 = (0 : Int32) then (some ((-1 : Int32), g7)) else (bnd (q_Mo_keepAll (16 : Int32) g7) fun _ g11 => q_Mo_later_19L v2 (fun g18 => gd ((40 : Int32) + v1) 5468 <| bnd (q_Mo_putBack (16 : Int32) g18) fun _ g20 => some ((gI g18 369 ((40 : Int32) + v1).toNatClampNeg), g20)) FU (0 : Int32) g11))
theorem tm241 {d : Nat} {v1 : Int32} {v2 : Int32} (hd : 7 ≤ d) {g : hG} (hF : Frz g) : TM wI d 241 [.ref 367, .int v1, .int v2] g (q_Mo_later v1 v2 g) := by
  obtain ⟨e, rfl⟩ : ∃ e, d = e + 1 := ⟨d - 1, by omega⟩
  have he := hd
  refine TM.ofE e241_0 (lv := [some (.ref 367), some (.int v1), some (.int v2), none]) rfl ?_
  unfold q_Mo_later
  refine tr_ldA rfl (tr_pushI (tr_putI hF (fk_367 hF) (fun g1 _ hF2 => tr_ldI rfl (?_))))
  refine tr_invSI rfl rfl (Nat.le_of_ble_eq_true rfl) (Nat.le_of_ble_eq_true rfl) (by decide) (Nat.le_of_ble_eq_true rfl) (tm179 (by omega) hF2) (fun r5 g3 _ hF4 => ?_)
  refine tr_if0j e241_12 (c_eq _ _) (fun hc6 => ?_) (fun hc6 => ?_)
  · refine tr_pushI (?_)
    exact tr_retI hF4
  · refine tr_ldI rfl (tr_i2l (tr_pushL (tr_pushL (?_))))
    refine tr_invSI rfl rfl (Nat.le_of_ble_eq_true rfl) (Nat.le_of_ble_eq_true rfl) (by decide) (Nat.le_of_ble_eq_true rfl) (tm165 hF4) (fun r9 g7 _ hF8 => ?_)
    refine tr_if0n e241_14 (c_ne _ _) (fun hc10 => ?_) (fun hc10 => ?_)
    · refine tr_ldA rfl (tr_pushI (?_))
      refine tr_invVU rfl rfl (fk_367 hF8) (Nat.le_of_ble_eq_true rfl) (by decide) (Nat.le_of_ble_eq_true rfl) (tm172 hF8) (fun _ g11 _ hF12 => ?_)
      refine tr_pushI (tr_stI (Nat.le_of_ble_eq_true rfl) rfl rfl (?_))
      refine th241_19L he (fun y17 g18 hF19 => ?_) FU _ _ hF12
      · refine tr_ldA rfl (tr_getP (b := 369) (fk_367 hF19) (fp_367_3 hF19) (tr_pushI (tr_ldI rfl (tr_bin (v := ((40 : Int32) + v1)) rfl (tr_aldI (fk_369 hF19) (fl_369 hF19) (fun _ => ?_))))))
        refine tr_stI (Nat.le_of_ble_eq_true rfl) rfl rfl (tr_ldA rfl (tr_pushI (?_)))
        refine tr_invVU rfl rfl (fk_367 hF19) (Nat.le_of_ble_eq_true rfl) (by decide) (Nat.le_of_ble_eq_true rfl) (tm173 hF19) (fun _ g20 _ hF21 => ?_)
        refine tr_ldI rfl (?_)
        exact tr_retI hF21
    · refine tr_pushI (?_)
      exact tr_retI hF8
-- Mo_readWith
abbrev t242_89 : List hOp := oStI 2 :: oLdA 0 :: oPushI 16 :: oInvV 173 12 1 :: oLdI 2 :: oRetI :: []
abbrev t242_88 : List hOp := oPushI (-1) :: t242_89
abbrev t242_78 : List hOp := oLdA 0 :: oGetP 12 3 :: oPushI 32 :: oLdI 1 :: oBin (fun x y => x + y) :: oALdI 13 :: oPushI 2 :: oIf cNe 88 :: oLdI 2 :: oGoto 89 :: t242_88
abbrev t242_74 : List hOp := oBin (fun x y => x ||| y) :: oStI 2 :: oInc 3 1 :: oGoto 25 :: t242_78
abbrev t242_73 : List hOp := oPushI 0 :: t242_74
abbrev t242_65 : List hOp := oStI 4 :: oLdI 2 :: oLdI 4 :: oIf0 cEq 73 :: oPushI 1 :: oLdI 3 :: oBin (fun x y => x <<< (y &&& 31)) :: oGoto 74 :: t242_73
abbrev t242_64 : List hOp := oPushI 0 :: t242_65
abbrev t242_25 : List hOp := oLdI 3 :: oPushI 8 :: oIf cGe 78 :: oLdA 0 :: oGetP 12 3 :: oPushI 32 :: oLdI 3 :: oBin (fun x y => x + y) :: oALdI 13 :: oPushI 2 :: oIf cNe 64 :: oLdA 0 :: oGetP 12 3 :: oPushI 40 :: oLdI 3 :: oBin (fun x y => x + y) :: oALdI 13 :: oLdA 0 :: oGetP 12 3 :: oPushI 40 :: oLdI 1 :: oBin (fun x y => x + y) :: oALdI 13 :: oIf cNe 64 :: oLdA 0 :: oGetP 12 3 :: oPushI 48 :: oLdI 3 :: oBin (fun x y => x + y) :: oALdI 13 :: oLdA 0 :: oGetP 12 3 :: oPushI 48 :: oLdI 1 :: oBin (fun x y => x + y) :: oALdI 13 :: oIf cNe 64 :: oPushI 1 :: oGoto 65 :: t242_64
abbrev t242_21 : List hOp := oPushI 0 :: oStI 2 :: oPushI 0 :: oStI 3 :: t242_25
abbrev t242_13 : List hOp := oLdI 2 :: oPushI 60 :: oIf cGe 21 :: oLdA 0 :: oInvV 238 12 0 :: oPop :: oInc 2 1 :: oGoto 13 :: t242_21
abbrev t242_8 : List hOp := oLdA 0 :: oPushI 16 :: oInvV 172 12 1 :: oPushI 0 :: oStI 2 :: t242_13
abbrev t242_0 : List hOp := oLdA 0 :: oPushI 0 :: oPutI 12 0 :: oLdI 1 :: oInvS 179 1 :: oIf0 cNe 8 :: oPushI (-1) :: oRetI :: t242_8
theorem e242_0 : (opsOf 242).drop 0 = t242_0 := rfl
theorem e242_8 : (opsOf 242).drop 8 = t242_8 := rfl
theorem e242_13 : (opsOf 242).drop 13 = t242_13 := rfl
theorem e242_21 : (opsOf 242).drop 21 = t242_21 := rfl
theorem e242_25 : (opsOf 242).drop 25 = t242_25 := rfl
theorem e242_64 : (opsOf 242).drop 64 = t242_64 := rfl
theorem e242_65 : (opsOf 242).drop 65 = t242_65 := rfl
theorem e242_73 : (opsOf 242).drop 73 = t242_73 := rfl
theorem e242_74 : (opsOf 242).drop 74 = t242_74 := rfl
theorem e242_78 : (opsOf 242).drop 78 = t242_78 := rfl
theorem e242_88 : (opsOf 242).drop 88 = t242_88 := rfl
theorem e242_89 : (opsOf 242).drop 89 = t242_89 := rfl
def q_Mo_readWith_13 (k21 : hG → hO Int32) (k13 : Int32 → hG → hO Int32) (v2 : Int32) (g : hG) : hO Int32 :=
  if (60 : Int32) ≤ v2 then (k21 g) else (bnd (q_Mo_passIt g) fun r12 g10 => k13 (v2 + (1 : Int32)) g10)
def q_Mo_readWith_13L (k21 : hG → hO Int32) : Nat → Int32 → hG → hO Int32
  | 0 => fun _ _ => none
  | n + 1 => fun v2 g => q_Mo_readWith_13 k21 (q_Mo_readWith_13L k21 n) v2 g
theorem q_Mo_readWith_13L_s (k21 : hG → hO Int32) (n : Nat) (v2 : Int32) (g : hG) : q_Mo_readWith_13L k21 (n + 1) v2 g = q_Mo_readWith_13 k21 (q_Mo_readWith_13L k21 n) v2 g := rfl
theorem th242_13 {e : Nat} (he : 7 ≤ e + 1) {k21 : hG → hO Int32} {k13 : Int32 → hG → hO Int32} {v2 : Int32} {u1 : Option Value} {u3 : Option Value} {u4 : Option Value} (hk21 : ∀ (y2 : Option Value) (_ : isL (some y2) = false) (g : hG), Frz g → Tri wI (e + 1) 242 t242_21 [some (.ref 367), u1, y2, u3, u4] [] g (k21 g)) (hk13 : ∀ (x2 : Int32) (g : hG), Frz g → Tri wI (e + 1) 242 t242_13 [some (.ref 367), u1, some (.int x2), u3, u4] [] g (k13 x2 g)) (hu1 : isL (some u1) = false) (hu3 : isL (some u3) = false) {g : hG} (hF : Frz g) : Tri wI (e + 1) 242 t242_13 [some (.ref 367), u1, some (.int v2), u3, u4] [] g (q_Mo_readWith_13 k21 k13 v2 g) := by
  unfold q_Mo_readWith_13
  refine tr_ldI rfl (tr_pushI (?_))
  refine tr_ifj e242_21 (c_ge _ _) (fun hc9 => ?_) (fun hc9 => ?_)
  · exact hk21 _ rfl _ hF
  · refine tr_ldA rfl (?_)
    refine tr_invVI rfl rfl (fk_367 hF) (Nat.le_of_ble_eq_true rfl) (by decide) (Nat.le_of_ble_eq_true rfl) (tm238 (by omega) hF) (fun r12 g10 _ hF11 => ?_)
    refine tr_pop (tr_inc rfl (lKill_id hu1) rfl (?_))
    refine tr_gotoE e242_13 (?_)
    exact hk13 _ _ hF11
theorem th242_13L {e : Nat} (he : 7 ≤ e + 1) {k21 : hG → hO Int32} {u1 : Option Value} {u3 : Option Value} {u4 : Option Value} (hk21 : ∀ (y2 : Option Value) (_ : isL (some y2) = false) (g : hG), Frz g → Tri wI (e + 1) 242 t242_21 [some (.ref 367), u1, y2, u3, u4] [] g (k21 g)) (hu1 : isL (some u1) = false) (hu3 : isL (some u3) = false) : ∀ (n : Nat) (v2 : Int32) (g : hG), Frz g → Tri wI (e + 1) 242 t242_13 [some (.ref 367), u1, some (.int v2), u3, u4] [] g (q_Mo_readWith_13L k21 n v2 g)
  | 0 => fun _ _ _ => Tri.none_
  | n + 1 => fun _ g hF => th242_13 he hk21 (th242_13L he hk21 hu1 hu3 n) hu1 hu3 hF
def q_Mo_readWith_65 (v2 : Int32) (v3 : Int32) (k25 : Int32 → Int32 → hG → hO Int32) (w0 : Int32) (g : hG) : hO Int32 :=
  if w0 = (0 : Int32) then (k25 (v2 ||| (0 : Int32)) (v3 + (1 : Int32)) g) else (k25 (v2 ||| (shl (1 : Int32) v3)) (v3 + (1 : Int32)) g)
theorem th242_65 {e : Nat} (he : 7 ≤ e + 1) {v2 : Int32} {v3 : Int32} {k25 : Int32 → Int32 → hG → hO Int32} {w0 : Int32} {u1 : Option Value} {u4 : Option Value} (hk25 : ∀ (x2 : Int32) (x3 : Int32) (y4 : Option Value) (g : hG), Frz g → Tri wI (e + 1) 242 t242_25 [some (.ref 367), u1, some (.int x2), some (.int x3), y4] [] g (k25 x2 x3 g)) (hu1 : isL (some u1) = false) {g : hG} (hF : Frz g) : Tri wI (e + 1) 242 t242_65 [some (.ref 367), u1, some (.int v2), some (.int v3), u4] [.int w0] g (q_Mo_readWith_65 v2 v3 k25 w0 g) := by
  unfold q_Mo_readWith_65
  refine tr_stI (Nat.le_of_ble_eq_true rfl) rfl rfl (tr_ldI rfl (tr_ldI rfl (?_)))
  refine tr_if0j e242_73 (c_eq _ _) (fun hc18 => ?_) (fun hc18 => ?_)
  · refine tr_pushI (tr_bin (v := (v2 ||| (0 : Int32))) rfl (tr_stI (Nat.le_of_ble_eq_true rfl) (lKill_id hu1) rfl (tr_inc rfl rfl rfl (?_))))
    refine tr_gotoE e242_25 (?_)
    exact hk25 _ _ _ _ hF
  · refine tr_pushI (tr_ldI rfl (tr_bin (v := (shl (1 : Int32) v3)) rfl (?_)))
    refine tr_gotoE e242_74 (?_)
    refine tr_bin (v := (v2 ||| (shl (1 : Int32) v3))) rfl (tr_stI (Nat.le_of_ble_eq_true rfl) (lKill_id hu1) rfl (tr_inc rfl rfl rfl (?_)))
    refine tr_gotoE e242_25 (?_)
    exact hk25 _ _ _ _ hF
def q_Mo_readWith_64 (v2 : Int32) (v3 : Int32) (k25 : Int32 → Int32 → hG → hO Int32) (g : hG) : hO Int32 :=
  q_Mo_readWith_65 v2 v3 k25 (0 : Int32) g
theorem th242_64 {e : Nat} (he : 7 ≤ e + 1) {v2 : Int32} {v3 : Int32} {k25 : Int32 → Int32 → hG → hO Int32} {u1 : Option Value} {u4 : Option Value} (hk25 : ∀ (x2 : Int32) (x3 : Int32) (y4 : Option Value) (g : hG), Frz g → Tri wI (e + 1) 242 t242_25 [some (.ref 367), u1, some (.int x2), some (.int x3), y4] [] g (k25 x2 x3 g)) (hu1 : isL (some u1) = false) {g : hG} (hF : Frz g) : Tri wI (e + 1) 242 t242_64 [some (.ref 367), u1, some (.int v2), some (.int v3), u4] [] g (q_Mo_readWith_64 v2 v3 k25 g) := by
  unfold q_Mo_readWith_64
  refine tr_pushI (?_)
  exact th242_65 he hk25 hu1 hF
def q_Mo_readWith_25 (v1 : Int32) (k78 : Int32 → hG → hO Int32) (k25 : Int32 → Int32 → hG → hO Int32) (v2 : Int32) (v3 : Int32) (g : hG) : hO Int32 :=
  if (8 : Int32) ≤ v3 then (k78 v2 g) else (gd ((32 : Int32) + v3) 5468 <| if (gI g 369 ((32 : Int32) + v3).toNatClampNeg) = (2 : Int32) then (gd ((40 : Int32) + v3) 5468 <| gd ((40 : Int32) + v1) 5468 <| if (gI g 369 ((40 : Int32) + v3).toNatClampNeg) = (gI g 369 ((40 : Int32) + v1).toNatClampNeg) then (gd ((48 : Int32) + v3) 5468 <| gd ((48 : Int32) + v1) 5468 <| q_Mo_readWith_65 v2 v3 k25 (if (gI g 369 ((48 : Int32) + v3).toNatClampNeg) = (gI g 369 ((48 : Int32) + v1).toNatClampNeg) then (1 : Int32) else (0 : Int32)) g) else (q_Mo_readWith_64 v2 v3 k25 g)) else (q_Mo_readWith_64 v2 v3 k25 g))
def q_Mo_readWith_25L (v1 : Int32) (k78 : Int32 → hG → hO Int32) : Nat → Int32 → Int32 → hG → hO Int32
  | 0 => fun _ _ _ => none
  | n + 1 => fun v2 v3 g => q_Mo_readWith_25 v1 k78 (q_Mo_readWith_25L v1 k78 n) v2 v3 g
theorem q_Mo_readWith_25L_s (v1 : Int32) (k78 : Int32 → hG → hO Int32) (n : Nat) (v2 : Int32) (v3 : Int32) (g : hG) : q_Mo_readWith_25L v1 k78 (n + 1) v2 v3 g = q_Mo_readWith_25 v1 k78 (q_Mo_readWith_25L v1 k78 n) v2 v3 g := rfl
theorem th242_25 {e : Nat} (he : 7 ≤ e + 1) {v1 : Int32} {k78 : Int32 → hG → hO Int32} {k25 : Int32 → Int32 → hG → hO Int32} {v2 : Int32} {v3 : Int32} {u4 : Option Value} (hk78 : ∀ (x2 : Int32) (y3 : Option Value) (y4 : Option Value) (_ : isL (some y3) = false) (g : hG), Frz g → Tri wI (e + 1) 242 t242_78 [some (.ref 367), some (.int v1), some (.int x2), y3, y4] [] g (k78 x2 g)) (hk25 : ∀ (x2 : Int32) (x3 : Int32) (y4 : Option Value) (g : hG), Frz g → Tri wI (e + 1) 242 t242_25 [some (.ref 367), some (.int v1), some (.int x2), some (.int x3), y4] [] g (k25 x2 x3 g)) {g : hG} (hF : Frz g) : Tri wI (e + 1) 242 t242_25 [some (.ref 367), some (.int v1), some (.int v2), some (.int v3), u4] [] g (q_Mo_readWith_25 v1 k78 k25 v2 v3 g) := by
  unfold q_Mo_readWith_25
  refine tr_ldI rfl (tr_pushI (?_))
  refine tr_ifj e242_78 (c_ge _ _) (fun hc16 => ?_) (fun hc16 => ?_)
  · exact hk78 _ _ _ rfl _ hF
  · refine tr_ldA rfl (tr_getP (b := 369) (fk_367 hF) (fp_367_3 hF) (tr_pushI (tr_ldI rfl (tr_bin (v := ((32 : Int32) + v3)) rfl (tr_aldI (fk_369 hF) (fl_369 hF) (fun _ => ?_))))))
    refine tr_pushI (?_)
    refine tr_ifn e242_64 (c_ne _ _) (fun hc17 => ?_) (fun hc17 => ?_)
    · exact th242_64 he hk25 rfl hF
    · refine tr_ldA rfl (tr_getP (b := 369) (fk_367 hF) (fp_367_3 hF) (tr_pushI (tr_ldI rfl (tr_bin (v := ((40 : Int32) + v3)) rfl (tr_aldI (fk_369 hF) (fl_369 hF) (fun _ => ?_))))))
      refine tr_ldA rfl (tr_getP (b := 369) (fk_367 hF) (fp_367_3 hF) (tr_pushI (tr_ldI rfl (tr_bin (v := ((40 : Int32) + v1)) rfl (tr_aldI (fk_369 hF) (fl_369 hF) (fun _ => ?_))))))
      refine tr_ifn e242_64 (c_ne _ _) (fun hc19 => ?_) (fun hc19 => ?_)
      · exact th242_64 he hk25 rfl hF
      · refine tr_ldA rfl (tr_getP (b := 369) (fk_367 hF) (fp_367_3 hF) (tr_pushI (tr_ldI rfl (tr_bin (v := ((48 : Int32) + v3)) rfl (tr_aldI (fk_369 hF) (fl_369 hF) (fun _ => ?_))))))
        refine tr_ldA rfl (tr_getP (b := 369) (fk_367 hF) (fp_367_3 hF) (tr_pushI (tr_ldI rfl (tr_bin (v := ((48 : Int32) + v1)) rfl (tr_aldI (fk_369 hF) (fl_369 hF) (fun _ => ?_))))))
        refine tr_ifcE e242_64 (c_ne _ _) (fun hc21 => ?_) (fun hc21 => ?_)
        · rw [if_neg hc21]
          refine tr_pushI (?_)
          exact th242_65 he hk25 rfl hF
        · rw [if_pos (Decidable.not_not.mp hc21)]
          refine tr_pushI (?_)
          refine tr_gotoE e242_65 (?_)
          exact th242_65 he hk25 rfl hF
theorem th242_25L {e : Nat} (he : 7 ≤ e + 1) {v1 : Int32} {k78 : Int32 → hG → hO Int32} (hk78 : ∀ (x2 : Int32) (y3 : Option Value) (y4 : Option Value) (_ : isL (some y3) = false) (g : hG), Frz g → Tri wI (e + 1) 242 t242_78 [some (.ref 367), some (.int v1), some (.int x2), y3, y4] [] g (k78 x2 g)) : ∀ (n : Nat) (v2 : Int32) (v3 : Int32) (u4 : Option Value) (g : hG), Frz g → Tri wI (e + 1) 242 t242_25 [some (.ref 367), some (.int v1), some (.int v2), some (.int v3), u4] [] g (q_Mo_readWith_25L v1 k78 n v2 v3 g)
  | 0 => fun _ _ _ _ _ => Tri.none_
  | n + 1 => fun _ _ _ g hF => th242_25 he hk78 (th242_25L he hk78 n) hF
def q_Mo_readWith_89 (w0 : Int32) (g : hG) : hO Int32 :=
  bnd (q_Mo_putBack (16 : Int32) g) fun _ g28 => some (w0, g28)
theorem th242_89 {e : Nat} (he : 7 ≤ e + 1) {w0 : Int32} {u1 : Option Value} {u2 : Option Value} {u3 : Option Value} {u4 : Option Value} (hu1 : isL (some u1) = false) (hu2 : isL (some u2) = false) (hu3 : isL (some u3) = false) {g : hG} (hF : Frz g) : Tri wI (e + 1) 242 t242_89 [some (.ref 367), u1, u2, u3, u4] [.int w0] g (q_Mo_readWith_89 w0 g) := by
  unfold q_Mo_readWith_89
  refine tr_stI (Nat.le_of_ble_eq_true rfl) (lKill_id hu1) rfl (tr_ldA rfl (tr_pushI (?_)))
  refine tr_invVU rfl rfl (fk_367 hF) (Nat.le_of_ble_eq_true rfl) (by decide) (Nat.le_of_ble_eq_true rfl) (tm173 hF) (fun _ g28 _ hF29 => ?_)
  refine tr_ldI rfl (?_)
  exact tr_retI hF29
def q_Mo_readWith (v1 : Int32) (g : hG) : hO Int32 :=
  wr (sI g 367 0 (0 : Int32)) fun g1 => bnd (q_Mo_isLetter1 v1 g1) fun r5 g3 => if r5 = (0 : Int32) then (some ((-1 : Int32), g3)) else (bnd (q_Mo_keepAll (16 : Int32) g3) fun _ g7 => q_Mo_readWith_13L (fun g14 => q_Mo_readWith_25L v1 (fun x22 g25 => gd ((32 : Int32) + v1) 5468 <| q_Mo_readWith_89 (if (gI g25 369 ((32 : Int32) + v1).toNatClampNeg) = (2 : Int32) then x22 else (-1 : Int32)) g25) FU (0 : Int32) (0 : Int32) g14) FU (0 : Int32) g7)
theorem tm242 {d : Nat} {v1 : Int32} (hd : 7 ≤ d) {g : hG} (hF : Frz g) : TM wI d 242 [.ref 367, .int v1] g (q_Mo_readWith v1 g) := by
  obtain ⟨e, rfl⟩ : ∃ e, d = e + 1 := ⟨d - 1, by omega⟩
  have he := hd
  refine TM.ofE e242_0 (lv := [some (.ref 367), some (.int v1), none, none, none]) rfl ?_
  unfold q_Mo_readWith
  refine tr_ldA rfl (tr_pushI (tr_putI hF (fk_367 hF) (fun g1 _ hF2 => tr_ldI rfl (?_))))
  refine tr_invSI rfl rfl (Nat.le_of_ble_eq_true rfl) (Nat.le_of_ble_eq_true rfl) (by decide) (Nat.le_of_ble_eq_true rfl) (tm179 (by omega) hF2) (fun r5 g3 _ hF4 => ?_)
  refine tr_if0n e242_8 (c_ne _ _) (fun hc6 => ?_) (fun hc6 => ?_)
  · refine tr_ldA rfl (tr_pushI (?_))
    refine tr_invVU rfl rfl (fk_367 hF4) (Nat.le_of_ble_eq_true rfl) (by decide) (Nat.le_of_ble_eq_true rfl) (tm172 hF4) (fun _ g7 _ hF8 => ?_)
    refine tr_pushI (tr_stI (Nat.le_of_ble_eq_true rfl) rfl rfl (?_))
    refine th242_13L he (fun y13 zy13 g14 hF15 => ?_) rfl rfl FU _ _ hF8
    · refine tr_pushI (tr_stI (Nat.le_of_ble_eq_true rfl) rfl rfl (tr_pushI (tr_stI (Nat.le_of_ble_eq_true rfl) rfl rfl (?_))))
      refine th242_25L he (fun x22 y23 y24 zy23 g25 hF26 => ?_) FU _ _ _ _ hF15
      · refine tr_ldA rfl (tr_getP (b := 369) (fk_367 hF26) (fp_367_3 hF26) (tr_pushI (tr_ldI rfl (tr_bin (v := ((32 : Int32) + v1)) rfl (tr_aldI (fk_369 hF26) (fl_369 hF26) (fun _ => ?_))))))
        refine tr_pushI (?_)
        refine tr_ifcE e242_88 (c_ne _ _) (fun hc30 => ?_) (fun hc30 => ?_)
        · rw [if_neg hc30]
          refine tr_pushI (?_)
          exact th242_89 he rfl rfl zy23 hF26
        · rw [if_pos (Decidable.not_not.mp hc30)]
          refine tr_ldI rfl (?_)
          refine tr_gotoE e242_89 (?_)
          exact th242_89 he rfl rfl zy23 hF26
  · refine tr_pushI (?_)
    exact tr_retI hF4
-- Mo_hoursOf
abbrev t243_17 : List hOp := oLdI 3 :: oRetI :: []
abbrev t243_4 : List hOp := oLdA 0 :: oGetP 12 42 :: oLdI 2 :: oALdI 13 :: oLdI 2 :: oIf cEq 17 :: oLdA 0 :: oGetP 12 42 :: oLdI 2 :: oALdI 13 :: oStI 2 :: oInc 3 1 :: oGoto 4 :: t243_17
abbrev t243_0 : List hOp := oLdI 1 :: oStI 2 :: oPushI 0 :: oStI 3 :: t243_4
theorem e243_0 : (opsOf 243).drop 0 = t243_0 := rfl
theorem e243_4 : (opsOf 243).drop 4 = t243_4 := rfl
theorem e243_17 : (opsOf 243).drop 17 = t243_17 := rfl
def q_Mo_hoursOf_4 (k17 : Int32 → hG → hO Int32) (k4 : Int32 → Int32 → hG → hO Int32) (v2 : Int32) (v3 : Int32) (g : hG) : hO Int32 :=
  gd v2 25 <| if (gI g 389 v2.toNatClampNeg) = v2 then (k17 v3 g) else (gd v2 25 <| k4 (gI g 389 v2.toNatClampNeg) (v3 + (1 : Int32)) g)
def q_Mo_hoursOf_4L (k17 : Int32 → hG → hO Int32) : Nat → Int32 → Int32 → hG → hO Int32
  | 0 => fun _ _ _ => none
  | n + 1 => fun v2 v3 g => q_Mo_hoursOf_4 k17 (q_Mo_hoursOf_4L k17 n) v2 v3 g
theorem q_Mo_hoursOf_4L_s (k17 : Int32 → hG → hO Int32) (n : Nat) (v2 : Int32) (v3 : Int32) (g : hG) : q_Mo_hoursOf_4L k17 (n + 1) v2 v3 g = q_Mo_hoursOf_4 k17 (q_Mo_hoursOf_4L k17 n) v2 v3 g := rfl
theorem th243_4 {d : Nat} {k17 : Int32 → hG → hO Int32} {k4 : Int32 → Int32 → hG → hO Int32} {v2 : Int32} {v3 : Int32} {u1 : Option Value} (hk17 : ∀ (x3 : Int32) (y2 : Option Value) (_ : isL (some y2) = false) (g : hG), Frz g → Tri wI d 243 t243_17 [some (.ref 367), u1, y2, some (.int x3)] [] g (k17 x3 g)) (hk4 : ∀ (x2 : Int32) (x3 : Int32) (g : hG), Frz g → Tri wI d 243 t243_4 [some (.ref 367), u1, some (.int x2), some (.int x3)] [] g (k4 x2 x3 g)) (hu1 : isL (some u1) = false) {g : hG} (hF : Frz g) : Tri wI d 243 t243_4 [some (.ref 367), u1, some (.int v2), some (.int v3)] [] g (q_Mo_hoursOf_4 k17 k4 v2 v3 g) := by
  unfold q_Mo_hoursOf_4
  refine tr_ldA rfl (tr_getP (b := 389) (fk_367 hF) (fp_367_42 hF) (tr_ldI rfl (tr_aldI (fk_389 hF) (fl_389 hF) (fun _ => tr_ldI rfl (?_)))))
  refine tr_ifj e243_17 (c_eq _ _) (fun hc1 => ?_) (fun hc1 => ?_)
  · exact hk17 _ _ rfl _ hF
  · refine tr_ldA rfl (tr_getP (b := 389) (fk_367 hF) (fp_367_42 hF) (tr_ldI rfl (tr_aldI (fk_389 hF) (fl_389 hF) (fun _ => tr_stI (Nat.le_of_ble_eq_true rfl) (lKill_id hu1) rfl (tr_inc rfl rfl rfl (?_))))))
    refine tr_gotoE e243_4 (?_)
    exact hk4 _ _ _ hF
theorem th243_4L {d : Nat} {k17 : Int32 → hG → hO Int32} {u1 : Option Value} (hk17 : ∀ (x3 : Int32) (y2 : Option Value) (_ : isL (some y2) = false) (g : hG), Frz g → Tri wI d 243 t243_17 [some (.ref 367), u1, y2, some (.int x3)] [] g (k17 x3 g)) (hu1 : isL (some u1) = false) : ∀ (n : Nat) (v2 : Int32) (v3 : Int32) (g : hG), Frz g → Tri wI d 243 t243_4 [some (.ref 367), u1, some (.int v2), some (.int v3)] [] g (q_Mo_hoursOf_4L k17 n v2 v3 g)
  | 0 => fun _ _ _ _ => Tri.none_
  | n + 1 => fun _ _ g hF => th243_4 hk17 (th243_4L hk17 hu1 n) hu1 hF
def q_Mo_hoursOf (v1 : Int32) (g : hG) : hO Int32 :=
  q_Mo_hoursOf_4L (fun x2 g4 => some (x2, g4)) FU v1 (0 : Int32) g
theorem tm243 {d : Nat} {v1 : Int32} {g : hG} (hF : Frz g) : TM wI d 243 [.ref 367, .int v1] g (q_Mo_hoursOf v1 g) := by
  refine TM.ofE e243_0 (lv := [some (.ref 367), some (.int v1), none, none]) rfl ?_
  unfold q_Mo_hoursOf
  refine tr_ldI rfl (tr_stI (Nat.le_of_ble_eq_true rfl) rfl rfl (tr_pushI (tr_stI (Nat.le_of_ble_eq_true rfl) rfl rfl (?_))))
  refine th243_4L (fun x2 y3 zy3 g4 hF5 => ?_) rfl FU _ _ _ hF
  · refine tr_ldI rfl (?_)
    exact tr_retI hF5
-- Mo_behind
abbrev t244_20 : List hOp := oLdI 3 :: oRetI :: []
abbrev t244_4 : List hOp := oLdI 4 :: oLdI 2 :: oIf cGe 20 :: oLdA 0 :: oGetP 12 42 :: oLdI 3 :: oALdI 13 :: oLdI 3 :: oIf cEq 20 :: oLdA 0 :: oGetP 12 42 :: oLdI 3 :: oALdI 13 :: oStI 3 :: oInc 4 1 :: oGoto 4 :: t244_20
abbrev t244_0 : List hOp := oLdI 1 :: oStI 3 :: oPushI 0 :: oStI 4 :: t244_4
theorem e244_0 : (opsOf 244).drop 0 = t244_0 := rfl
theorem e244_4 : (opsOf 244).drop 4 = t244_4 := rfl
theorem e244_20 : (opsOf 244).drop 20 = t244_20 := rfl
def q_Mo_behind_4 (v2 : Int32) (k20 : Int32 → hG → hO Int32) (k4 : Int32 → Int32 → hG → hO Int32) (v3 : Int32) (v4 : Int32) (g : hG) : hO Int32 :=
  if v2 ≤ v4 then (k20 v3 g) else (gd v3 25 <| if (gI g 389 v3.toNatClampNeg) = v3 then (k20 v3 g) else (gd v3 25 <| k4 (gI g 389 v3.toNatClampNeg) (v4 + (1 : Int32)) g))
def q_Mo_behind_4L (v2 : Int32) (k20 : Int32 → hG → hO Int32) : Nat → Int32 → Int32 → hG → hO Int32
  | 0 => fun _ _ _ => none
  | n + 1 => fun v3 v4 g => q_Mo_behind_4 v2 k20 (q_Mo_behind_4L v2 k20 n) v3 v4 g
theorem q_Mo_behind_4L_s (v2 : Int32) (k20 : Int32 → hG → hO Int32) (n : Nat) (v3 : Int32) (v4 : Int32) (g : hG) : q_Mo_behind_4L v2 k20 (n + 1) v3 v4 g = q_Mo_behind_4 v2 k20 (q_Mo_behind_4L v2 k20 n) v3 v4 g := rfl
theorem th244_4 {d : Nat} {v2 : Int32} {k20 : Int32 → hG → hO Int32} {k4 : Int32 → Int32 → hG → hO Int32} {v3 : Int32} {v4 : Int32} {u1 : Option Value} (hk20 : ∀ (x3 : Int32) (y4 : Option Value) (g : hG), Frz g → Tri wI d 244 t244_20 [some (.ref 367), u1, some (.int v2), some (.int x3), y4] [] g (k20 x3 g)) (hk4 : ∀ (x3 : Int32) (x4 : Int32) (g : hG), Frz g → Tri wI d 244 t244_4 [some (.ref 367), u1, some (.int v2), some (.int x3), some (.int x4)] [] g (k4 x3 x4 g)) {g : hG} (hF : Frz g) : Tri wI d 244 t244_4 [some (.ref 367), u1, some (.int v2), some (.int v3), some (.int v4)] [] g (q_Mo_behind_4 v2 k20 k4 v3 v4 g) := by
  unfold q_Mo_behind_4
  refine tr_ldI rfl (tr_ldI rfl (?_))
  refine tr_ifj e244_20 (c_ge _ _) (fun hc1 => ?_) (fun hc1 => ?_)
  · exact hk20 _ _ _ hF
  · refine tr_ldA rfl (tr_getP (b := 389) (fk_367 hF) (fp_367_42 hF) (tr_ldI rfl (tr_aldI (fk_389 hF) (fl_389 hF) (fun _ => tr_ldI rfl (?_)))))
    refine tr_ifj e244_20 (c_eq _ _) (fun hc2 => ?_) (fun hc2 => ?_)
    · exact hk20 _ _ _ hF
    · refine tr_ldA rfl (tr_getP (b := 389) (fk_367 hF) (fp_367_42 hF) (tr_ldI rfl (tr_aldI (fk_389 hF) (fl_389 hF) (fun _ => tr_stI (Nat.le_of_ble_eq_true rfl) rfl rfl (tr_inc rfl rfl rfl (?_))))))
      refine tr_gotoE e244_4 (?_)
      exact hk4 _ _ _ hF
theorem th244_4L {d : Nat} {v2 : Int32} {k20 : Int32 → hG → hO Int32} {u1 : Option Value} (hk20 : ∀ (x3 : Int32) (y4 : Option Value) (g : hG), Frz g → Tri wI d 244 t244_20 [some (.ref 367), u1, some (.int v2), some (.int x3), y4] [] g (k20 x3 g)) : ∀ (n : Nat) (v3 : Int32) (v4 : Int32) (g : hG), Frz g → Tri wI d 244 t244_4 [some (.ref 367), u1, some (.int v2), some (.int v3), some (.int v4)] [] g (q_Mo_behind_4L v2 k20 n v3 v4 g)
  | 0 => fun _ _ _ _ => Tri.none_
  | n + 1 => fun _ _ g hF => th244_4 hk20 (th244_4L hk20 n) hF
def q_Mo_behind (v1 : Int32) (v2 : Int32) (g : hG) : hO Int32 :=
  q_Mo_behind_4L v2 (fun x3 g5 => some (x3, g5)) FU v1 (0 : Int32) g
theorem tm244 {d : Nat} {v1 : Int32} {v2 : Int32} {g : hG} (hF : Frz g) : TM wI d 244 [.ref 367, .int v1, .int v2] g (q_Mo_behind v1 v2 g) := by
  refine TM.ofE e244_0 (lv := [some (.ref 367), some (.int v1), some (.int v2), none, none]) rfl ?_
  unfold q_Mo_behind
  refine tr_ldI rfl (tr_stI (Nat.le_of_ble_eq_true rfl) rfl rfl (tr_pushI (tr_stI (Nat.le_of_ble_eq_true rfl) rfl rfl (?_))))
  refine th244_4L (fun x3 y4 g5 hF6 => ?_) FU _ _ _ hF
  · refine tr_ldI rfl (?_)
    exact tr_retI hF6
-- Mo_run
abbrev t246_24 : List hOp := oRetI :: []
abbrev t246_20 : List hOp := oLdA 0 :: oLdI 1 :: oLdI 2 :: oInvV 244 12 2 :: t246_24
abbrev t246_11 : List hOp := oLdA 0 :: oInvV 230 12 0 :: oLdI 2 :: oPushI (-1) :: oIf cNe 20 :: oLdA 0 :: oLdI 1 :: oInvV 243 12 1 :: oGoto 24 :: t246_20
abbrev t246_9 : List hOp := oPushI (-1) :: oRetI :: t246_11
abbrev t246_0 : List hOp := oLdA 0 :: oPushI 0 :: oPutI 12 0 :: oLdI 1 :: oInvS 178 1 :: oIf0 cEq 9 :: oLdI 2 :: oPushI (-1) :: oIf cGe 11 :: t246_9
theorem e246_0 : (opsOf 246).drop 0 = t246_0 := rfl
theorem e246_9 : (opsOf 246).drop 9 = t246_9 := rfl
theorem e246_11 : (opsOf 246).drop 11 = t246_11 := rfl
theorem e246_20 : (opsOf 246).drop 20 = t246_20 := rfl
theorem e246_24 : (opsOf 246).drop 24 = t246_24 := rfl
def q_Mo_run (v1 : Int32) (v2 : Int32) (g : hG) : hO Int32 :=
  wr (sI g 367 0 (0 : Int32)) fun g1 => bnd (q_Mo_isCell v1 g1) fun r5 g3 => if r5 = (0 : Int32) then (some ((-1 : Int32), g3)) else (if (-1 : Int32) ≤ v2 then (bnd (q_Mo_layRuns g3) fun _ g8 => if v2 = (-1 : Int32) then (bnd (q_Mo_hoursOf v1 g8) fun r16 g14 => some (r16, g14)) else (bnd (q_Mo_behind v1 v2 g8) fun r13 g11 => some (r13, g11))) else (some ((-1 : Int32), g3)))
theorem tm246 {d : Nat} {v1 : Int32} {v2 : Int32} (hd : 6 ≤ d) {g : hG} (hF : Frz g) : TM wI d 246 [.ref 367, .int v1, .int v2] g (q_Mo_run v1 v2 g) := by
  obtain ⟨e, rfl⟩ : ∃ e, d = e + 1 := ⟨d - 1, by omega⟩
  have he := hd
  refine TM.ofE e246_0 (lv := [some (.ref 367), some (.int v1), some (.int v2)]) rfl ?_
  unfold q_Mo_run
  refine tr_ldA rfl (tr_pushI (tr_putI hF (fk_367 hF) (fun g1 _ hF2 => tr_ldI rfl (?_))))
  refine tr_invSI rfl rfl (Nat.le_of_ble_eq_true rfl) (Nat.le_of_ble_eq_true rfl) (by decide) (Nat.le_of_ble_eq_true rfl) (tm178 (by omega) hF2) (fun r5 g3 _ hF4 => ?_)
  refine tr_if0j e246_9 (c_eq _ _) (fun hc6 => ?_) (fun hc6 => ?_)
  · refine tr_pushI (?_)
    exact tr_retI hF4
  · refine tr_ldI rfl (tr_pushI (?_))
    refine tr_ifj e246_11 (c_ge _ _) (fun hc7 => ?_) (fun hc7 => ?_)
    · refine tr_ldA rfl (?_)
      refine tr_invVU rfl rfl (fk_367 hF4) (Nat.le_of_ble_eq_true rfl) (by decide) (Nat.le_of_ble_eq_true rfl) (tm230 (by omega) hF4) (fun _ g8 _ hF9 => ?_)
      refine tr_ldI rfl (tr_pushI (?_))
      refine tr_ifn e246_20 (c_ne _ _) (fun hc10 => ?_) (fun hc10 => ?_)
      · refine tr_ldA rfl (tr_ldI rfl (tr_ldI rfl (?_)))
        refine tr_invVI rfl rfl (fk_367 hF9) (Nat.le_of_ble_eq_true rfl) (by decide) (Nat.le_of_ble_eq_true rfl) (tm244 hF9) (fun r13 g11 _ hF12 => ?_)
        exact tr_retI hF12
      · refine tr_ldA rfl (tr_ldI rfl (?_))
        refine tr_invVI rfl rfl (fk_367 hF9) (Nat.le_of_ble_eq_true rfl) (by decide) (Nat.le_of_ble_eq_true rfl) (tm243 hF9) (fun r16 g14 _ hF15 => ?_)
        refine tr_gotoE e246_24 (?_)
        exact tr_retI hF15
    · refine tr_pushI (?_)
      exact tr_retI hF4
-- Mo_endOf
abbrev t245_0 : List hOp := oLdA 0 :: oLdI 1 :: oPushI 25 :: oInvV 244 12 2 :: oRetI :: []
theorem e245_0 : (opsOf 245).drop 0 = t245_0 := rfl
def q_Mo_endOf (v1 : Int32) (g : hG) : hO Int32 :=
  bnd (q_Mo_behind v1 (25 : Int32) g) fun r3 g1 => some (r3, g1)
theorem tm245 {d : Nat} {v1 : Int32} (hd : 1 ≤ d) {g : hG} (hF : Frz g) : TM wI d 245 [.ref 367, .int v1] g (q_Mo_endOf v1 g) := by
  obtain ⟨e, rfl⟩ : ∃ e, d = e + 1 := ⟨d - 1, by omega⟩
  have he := hd
  refine TM.ofE e245_0 (lv := [some (.ref 367), some (.int v1)]) rfl ?_
  unfold q_Mo_endOf
  refine tr_ldA rfl (tr_ldI rfl (tr_pushI (?_)))
  refine tr_invVI rfl rfl (fk_367 hF) (Nat.le_of_ble_eq_true rfl) (by decide) (Nat.le_of_ble_eq_true rfl) (tm244 hF) (fun r3 g1 _ hF2 => ?_)
  exact tr_retI hF2
-- Mo_basin
abbrev t247_32 : List hOp := oLdI 2 :: oRetI :: []
abbrev t247_28 : List hOp := oBin (fun x y => x ||| y) :: oStI 2 :: oInc 3 1 :: oGoto 14 :: t247_32
abbrev t247_27 : List hOp := oPushI 0 :: t247_28
abbrev t247_14 : List hOp := oLdI 3 :: oPushI 25 :: oIf cGe 32 :: oLdI 2 :: oLdA 0 :: oLdI 3 :: oInvV 245 12 1 :: oLdI 1 :: oIf cNe 27 :: oPushI 1 :: oLdI 3 :: oBin (fun x y => x <<< (y &&& 31)) :: oGoto 28 :: t247_27
abbrev t247_8 : List hOp := oLdA 0 :: oInvV 230 12 0 :: oPushI 0 :: oStI 2 :: oPushI 0 :: oStI 3 :: t247_14
abbrev t247_0 : List hOp := oLdA 0 :: oPushI 0 :: oPutI 12 0 :: oLdI 1 :: oInvS 178 1 :: oIf0 cNe 8 :: oPushI (-1) :: oRetI :: t247_8
theorem e247_0 : (opsOf 247).drop 0 = t247_0 := rfl
theorem e247_8 : (opsOf 247).drop 8 = t247_8 := rfl
theorem e247_14 : (opsOf 247).drop 14 = t247_14 := rfl
theorem e247_27 : (opsOf 247).drop 27 = t247_27 := rfl
theorem e247_28 : (opsOf 247).drop 28 = t247_28 := rfl
theorem e247_32 : (opsOf 247).drop 32 = t247_32 := rfl
def q_Mo_basin_14 (v1 : Int32) (k32 : Int32 → hG → hO Int32) (k14 : Int32 → Int32 → hG → hO Int32) (v2 : Int32) (v3 : Int32) (g : hG) : hO Int32 :=
  if (25 : Int32) ≤ v3 then (k32 v2 g) else (bnd (q_Mo_endOf v3 g) fun r12 g10 => if r12 = v1 then (k14 (v2 ||| (shl (1 : Int32) v3)) (v3 + (1 : Int32)) g10) else (k14 (v2 ||| (0 : Int32)) (v3 + (1 : Int32)) g10))
def q_Mo_basin_14L (v1 : Int32) (k32 : Int32 → hG → hO Int32) : Nat → Int32 → Int32 → hG → hO Int32
  | 0 => fun _ _ _ => none
  | n + 1 => fun v2 v3 g => q_Mo_basin_14 v1 k32 (q_Mo_basin_14L v1 k32 n) v2 v3 g
theorem q_Mo_basin_14L_s (v1 : Int32) (k32 : Int32 → hG → hO Int32) (n : Nat) (v2 : Int32) (v3 : Int32) (g : hG) : q_Mo_basin_14L v1 k32 (n + 1) v2 v3 g = q_Mo_basin_14 v1 k32 (q_Mo_basin_14L v1 k32 n) v2 v3 g := rfl
theorem th247_14 {e : Nat} (he : 6 ≤ e + 1) {v1 : Int32} {k32 : Int32 → hG → hO Int32} {k14 : Int32 → Int32 → hG → hO Int32} {v2 : Int32} {v3 : Int32} (hk32 : ∀ (x2 : Int32) (y3 : Option Value) (g : hG), Frz g → Tri wI (e + 1) 247 t247_32 [some (.ref 367), some (.int v1), some (.int x2), y3] [] g (k32 x2 g)) (hk14 : ∀ (x2 : Int32) (x3 : Int32) (g : hG), Frz g → Tri wI (e + 1) 247 t247_14 [some (.ref 367), some (.int v1), some (.int x2), some (.int x3)] [] g (k14 x2 x3 g)) {g : hG} (hF : Frz g) : Tri wI (e + 1) 247 t247_14 [some (.ref 367), some (.int v1), some (.int v2), some (.int v3)] [] g (q_Mo_basin_14 v1 k32 k14 v2 v3 g) := by
  unfold q_Mo_basin_14
  refine tr_ldI rfl (tr_pushI (?_))
  refine tr_ifj e247_32 (c_ge _ _) (fun hc9 => ?_) (fun hc9 => ?_)
  · exact hk32 _ _ _ hF
  · refine tr_ldI rfl (tr_ldA rfl (tr_ldI rfl (?_)))
    refine tr_invVI rfl rfl (fk_367 hF) (Nat.le_of_ble_eq_true rfl) (by decide) (Nat.le_of_ble_eq_true rfl) (tm245 (by omega) hF) (fun r12 g10 _ hF11 => ?_)
    refine tr_ldI rfl (?_)
    refine tr_ifn e247_27 (c_ne _ _) (fun hc13 => ?_) (fun hc13 => ?_)
    · refine tr_pushI (tr_bin (v := (v2 ||| (0 : Int32))) rfl (tr_stI (Nat.le_of_ble_eq_true rfl) rfl rfl (tr_inc rfl rfl rfl (?_))))
      refine tr_gotoE e247_14 (?_)
      exact hk14 _ _ _ hF11
    · refine tr_pushI (tr_ldI rfl (tr_bin (v := (shl (1 : Int32) v3)) rfl (?_)))
      refine tr_gotoE e247_28 (?_)
      refine tr_bin (v := (v2 ||| (shl (1 : Int32) v3))) rfl (tr_stI (Nat.le_of_ble_eq_true rfl) rfl rfl (tr_inc rfl rfl rfl (?_)))
      refine tr_gotoE e247_14 (?_)
      exact hk14 _ _ _ hF11
theorem th247_14L {e : Nat} (he : 6 ≤ e + 1) {v1 : Int32} {k32 : Int32 → hG → hO Int32} (hk32 : ∀ (x2 : Int32) (y3 : Option Value) (g : hG), Frz g → Tri wI (e + 1) 247 t247_32 [some (.ref 367), some (.int v1), some (.int x2), y3] [] g (k32 x2 g)) : ∀ (n : Nat) (v2 : Int32) (v3 : Int32) (g : hG), Frz g → Tri wI (e + 1) 247 t247_14 [some (.ref 367), some (.int v1), some (.int v2), some (.int v3)] [] g (q_Mo_basin_14L v1 k32 n v2 v3 g)
  | 0 => fun _ _ _ _ => Tri.none_
  | n + 1 => fun _ _ g hF => th247_14 he hk32 (th247_14L he hk32 n) hF
def q_Mo_basin (v1 : Int32) (g : hG) : hO Int32 :=
  wr (sI g 367 0 (0 : Int32)) fun g1 => bnd (q_Mo_isCell v1 g1) fun r5 g3 => if r5 = (0 : Int32) then (some ((-1 : Int32), g3)) else (bnd (q_Mo_layRuns g3) fun _ g7 => q_Mo_basin_14L v1 (fun x14 g16 => some (x14, g16)) FU (0 : Int32) (0 : Int32) g7)
theorem tm247 {d : Nat} {v1 : Int32} (hd : 6 ≤ d) {g : hG} (hF : Frz g) : TM wI d 247 [.ref 367, .int v1] g (q_Mo_basin v1 g) := by
  obtain ⟨e, rfl⟩ : ∃ e, d = e + 1 := ⟨d - 1, by omega⟩
  have he := hd
  refine TM.ofE e247_0 (lv := [some (.ref 367), some (.int v1), none, none]) rfl ?_
  unfold q_Mo_basin
  refine tr_ldA rfl (tr_pushI (tr_putI hF (fk_367 hF) (fun g1 _ hF2 => tr_ldI rfl (?_))))
  refine tr_invSI rfl rfl (Nat.le_of_ble_eq_true rfl) (Nat.le_of_ble_eq_true rfl) (by decide) (Nat.le_of_ble_eq_true rfl) (tm178 (by omega) hF2) (fun r5 g3 _ hF4 => ?_)
  refine tr_if0n e247_8 (c_ne _ _) (fun hc6 => ?_) (fun hc6 => ?_)
  · refine tr_ldA rfl (?_)
    refine tr_invVU rfl rfl (fk_367 hF4) (Nat.le_of_ble_eq_true rfl) (by decide) (Nat.le_of_ble_eq_true rfl) (tm230 (by omega) hF4) (fun _ g7 _ hF8 => ?_)
    refine tr_pushI (tr_stI (Nat.le_of_ble_eq_true rfl) rfl rfl (tr_pushI (tr_stI (Nat.le_of_ble_eq_true rfl) rfl rfl (?_))))
    refine th247_14L he (fun x14 y15 g16 hF17 => ?_) FU _ _ _ hF8
    · refine tr_ldI rfl (?_)
      exact tr_retI hF17
  · refine tr_pushI (?_)
    exact tr_retI hF4
-- Mo_cellsOf
abbrev t248_20 : List hOp := oLdI 2 :: oRetI :: []
abbrev t248_4 : List hOp := oLdI 3 :: oLdA 0 :: oLdI 1 :: oInvV 243 12 1 :: oIf cGt 20 :: oLdI 2 :: oPushI 1 :: oLdA 0 :: oLdI 1 :: oLdI 3 :: oInvV 244 12 2 :: oBin (fun x y => x <<< (y &&& 31)) :: oBin (fun x y => x ||| y) :: oStI 2 :: oInc 3 1 :: oGoto 4 :: t248_20
abbrev t248_0 : List hOp := oPushI 0 :: oStI 2 :: oPushI 0 :: oStI 3 :: t248_4
theorem e248_0 : (opsOf 248).drop 0 = t248_0 := rfl
theorem e248_4 : (opsOf 248).drop 4 = t248_4 := rfl
theorem e248_20 : (opsOf 248).drop 20 = t248_20 := rfl
def q_Mo_cellsOf_4 (v1 : Int32) (k20 : Int32 → hG → hO Int32) (k4 : Int32 → Int32 → hG → hO Int32) (v2 : Int32) (v3 : Int32) (g : hG) : hO Int32 :=
  bnd (q_Mo_hoursOf v1 g) fun r3 g1 => if r3 < v3 then (k20 v2 g1) else (bnd (q_Mo_behind v1 v3 g1) fun r7 g5 => k4 (v2 ||| (shl (1 : Int32) r7)) (v3 + (1 : Int32)) g5)
def q_Mo_cellsOf_4L (v1 : Int32) (k20 : Int32 → hG → hO Int32) : Nat → Int32 → Int32 → hG → hO Int32
  | 0 => fun _ _ _ => none
  | n + 1 => fun v2 v3 g => q_Mo_cellsOf_4 v1 k20 (q_Mo_cellsOf_4L v1 k20 n) v2 v3 g
theorem q_Mo_cellsOf_4L_s (v1 : Int32) (k20 : Int32 → hG → hO Int32) (n : Nat) (v2 : Int32) (v3 : Int32) (g : hG) : q_Mo_cellsOf_4L v1 k20 (n + 1) v2 v3 g = q_Mo_cellsOf_4 v1 k20 (q_Mo_cellsOf_4L v1 k20 n) v2 v3 g := rfl
theorem th248_4 {e : Nat} (he : 1 ≤ e + 1) {v1 : Int32} {k20 : Int32 → hG → hO Int32} {k4 : Int32 → Int32 → hG → hO Int32} {v2 : Int32} {v3 : Int32} (hk20 : ∀ (x2 : Int32) (y3 : Option Value) (g : hG), Frz g → Tri wI (e + 1) 248 t248_20 [some (.ref 367), some (.int v1), some (.int x2), y3] [] g (k20 x2 g)) (hk4 : ∀ (x2 : Int32) (x3 : Int32) (g : hG), Frz g → Tri wI (e + 1) 248 t248_4 [some (.ref 367), some (.int v1), some (.int x2), some (.int x3)] [] g (k4 x2 x3 g)) {g : hG} (hF : Frz g) : Tri wI (e + 1) 248 t248_4 [some (.ref 367), some (.int v1), some (.int v2), some (.int v3)] [] g (q_Mo_cellsOf_4 v1 k20 k4 v2 v3 g) := by
  unfold q_Mo_cellsOf_4
  refine tr_ldI rfl (tr_ldA rfl (tr_ldI rfl (?_)))
  refine tr_invVI rfl rfl (fk_367 hF) (Nat.le_of_ble_eq_true rfl) (by decide) (Nat.le_of_ble_eq_true rfl) (tm243 hF) (fun r3 g1 _ hF2 => ?_)
  refine tr_ifj e248_20 (c_gt _ _) (fun hc4 => ?_) (fun hc4 => ?_)
  · exact hk20 _ _ _ hF2
  · refine tr_ldI rfl (tr_pushI (tr_ldA rfl (tr_ldI rfl (tr_ldI rfl (?_)))))
    refine tr_invVI rfl rfl (fk_367 hF2) (Nat.le_of_ble_eq_true rfl) (by decide) (Nat.le_of_ble_eq_true rfl) (tm244 hF2) (fun r7 g5 _ hF6 => ?_)
    refine tr_bin (v := (shl (1 : Int32) r7)) rfl (tr_bin (v := (v2 ||| (shl (1 : Int32) r7))) rfl (tr_stI (Nat.le_of_ble_eq_true rfl) rfl rfl (tr_inc rfl rfl rfl (?_))))
    refine tr_gotoE e248_4 (?_)
    exact hk4 _ _ _ hF6
theorem th248_4L {e : Nat} (he : 1 ≤ e + 1) {v1 : Int32} {k20 : Int32 → hG → hO Int32} (hk20 : ∀ (x2 : Int32) (y3 : Option Value) (g : hG), Frz g → Tri wI (e + 1) 248 t248_20 [some (.ref 367), some (.int v1), some (.int x2), y3] [] g (k20 x2 g)) : ∀ (n : Nat) (v2 : Int32) (v3 : Int32) (g : hG), Frz g → Tri wI (e + 1) 248 t248_4 [some (.ref 367), some (.int v1), some (.int v2), some (.int v3)] [] g (q_Mo_cellsOf_4L v1 k20 n v2 v3 g)
  | 0 => fun _ _ _ _ => Tri.none_
  | n + 1 => fun _ _ g hF => th248_4 he hk20 (th248_4L he hk20 n) hF
def q_Mo_cellsOf (v1 : Int32) (g : hG) : hO Int32 :=
  q_Mo_cellsOf_4L v1 (fun x8 g10 => some (x8, g10)) FU (0 : Int32) (0 : Int32) g
theorem tm248 {d : Nat} {v1 : Int32} (hd : 1 ≤ d) {g : hG} (hF : Frz g) : TM wI d 248 [.ref 367, .int v1] g (q_Mo_cellsOf v1 g) := by
  obtain ⟨e, rfl⟩ : ∃ e, d = e + 1 := ⟨d - 1, by omega⟩
  have he := hd
  refine TM.ofE e248_0 (lv := [some (.ref 367), some (.int v1), none, none]) rfl ?_
  unfold q_Mo_cellsOf
  refine tr_pushI (tr_stI (Nat.le_of_ble_eq_true rfl) rfl rfl (tr_pushI (tr_stI (Nat.le_of_ble_eq_true rfl) rfl rfl (?_))))
  refine th248_4L he (fun x8 y9 g10 hF11 => ?_) FU _ _ _ hF
  · refine tr_ldI rfl (?_)
    exact tr_retI hF11
