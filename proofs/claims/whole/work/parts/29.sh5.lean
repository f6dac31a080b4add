-- MP_days
abbrev t151_68 : List hOp := oLdA 0 :: oGetP 11 19 :: oLdA 0 :: oGetP 11 8 :: oPushI 2 :: oInvV 20 2 1 :: oInvV 26 3 1 :: oRetI :: []
abbrev t151_28 : List hOp := oLdI 4 :: oLdI 2 :: oIf cGe 68 :: oLdA 0 :: oGetP 11 8 :: oGetI 2 4 :: oPushI 999 :: oIf cGe 68 :: oLdI 3 :: oInvS 152 1 :: oStI 3 :: oLdI 3 :: oPushI 8 :: oDvd (fun x y => x - x / y * y) :: oStI 5 :: oLdI 3 :: oInvS 152 1 :: oStI 3 :: oLdI 3 :: oPushI 25 :: oDvd (fun x y => x - x / y * y) :: oStI 6 :: oLdI 3 :: oInvS 152 1 :: oStI 3 :: oLdA 0 :: oLdI 3 :: oPushI 4 :: oDvd (fun x y => x - x / y * y) :: oLdI 5 :: oLdI 6 :: oInvV 153 11 3 :: oLdA 0 :: oGetP 11 15 :: oLdA 0 :: oGetP 11 8 :: oInvV 64 6 1 :: oPop :: oInc 4 1 :: oGoto 28 :: t151_68
abbrev t151_16 : List hOp := oLdA 0 :: oGetP 11 8 :: oLdA 0 :: oGetP 11 1 :: oInvV 17 2 1 :: oLdA 0 :: oPushI 1 :: oPutZ 11 9 :: oLdI 1 :: oStI 3 :: oPushI 0 :: oStI 4 :: t151_28
abbrev t151_11 : List hOp := oLdA 0 :: oGetP 11 19 :: oPushI (-1) :: oInvV 25 3 1 :: oRetI :: t151_16
abbrev t151_0 : List hOp := oLdI 1 :: oIf0 cLt 11 :: oLdI 1 :: oPushI 1000000 :: oIf cGt 11 :: oLdI 2 :: oPushI 1 :: oIf cLt 11 :: oLdI 2 :: oPushI 60 :: oIf cLe 16 :: t151_11
theorem e151_0 : (opsOf 151).drop 0 = t151_0 := rfl
theorem e151_11 : (opsOf 151).drop 11 = t151_11 := rfl
theorem e151_16 : (opsOf 151).drop 16 = t151_16 := rfl
theorem e151_28 : (opsOf 151).drop 28 = t151_28 := rfl
theorem e151_68 : (opsOf 151).drop 68 = t151_68 := rfl
def q_MP_days_11 (g : hG) : hO Int32 :=
  bnd (q_Notes_refuse (-1 : Int32) g) fun r4 g2 => some (r4, g2)
theorem th151_11 {e : Nat} (he : 5 ≤ e + 1) {u1 : Option Value} {u2 : Option Value} {u3 : Option Value} {u4 : Option Value} {u5 : Option Value} {u6 : Option Value} (hu2 : isL (some u2) = false) (hu3 : isL (some u3) = false) (hu4 : isL (some u4) = false) (hu5 : isL (some u5) = false) {g : hG} (hF : Frz g) : Tri wI (e + 1) 151 t151_11 [some (.ref 0), u1, u2, u3, u4, u5, u6] [] g (q_MP_days_11 g) := by
  unfold q_MP_days_11
  refine tr_ldA rfl (tr_getP (b := 263) (fk_0 hF) (fp_0_19 hF) (tr_pushI (?_)))
  refine tr_invVI rfl rfl (fk_263 hF) (Nat.le_of_ble_eq_true rfl) (by decide) (Nat.le_of_ble_eq_true rfl) (tm25 hF) (fun r4 g2 _ hF3 => ?_)
  exact tr_retI hF3
def q_MP_days_28 (v2 : Int32) (k68 : hG → hO Int32) (k28 : Int32 → Int32 → hG → hO Int32) (v3 : Int32) (v4 : Int32) (g : hG) : hO Int32 :=
  if v2 ≤ v4 then (k68 g) else (if (999 : Int32) ≤ (gI g 230 4) then (k68 g) else (bnd (q_MP_draw v3 g) fun r16 g14 => bnd (q_MP_draw r16 g14) fun r19 g17 => bnd (q_MP_draw r19 g17) fun r22 g20 => bnd (q_MP_changeDrawn (irem r22 (4 : Int32)) (irem r16 (8 : Int32)) (irem r19 (25 : Int32)) g20) fun _ g23 => bnd (q_Slope_passHour 230 g23) fun r27 g25 => k28 r22 (v4 + (1 : Int32)) g25))
def q_MP_days_28L (v2 : Int32) (k68 : hG → hO Int32) : Nat → Int32 → Int32 → hG → hO Int32
  | 0 => fun _ _ _ => none
  | n + 1 => fun v3 v4 g => q_MP_days_28 v2 k68 (q_MP_days_28L v2 k68 n) v3 v4 g
theorem q_MP_days_28L_s (v2 : Int32) (k68 : hG → hO Int32) (n : Nat) (v3 : Int32) (v4 : Int32) (g : hG) : q_MP_days_28L v2 k68 (n + 1) v3 v4 g = q_MP_days_28 v2 k68 (q_MP_days_28L v2 k68 n) v3 v4 g := rfl
theorem th151_28 {e : Nat} (he : 5 ≤ e + 1) {v2 : Int32} {k68 : hG → hO Int32} {k28 : Int32 → Int32 → hG → hO Int32} {v3 : Int32} {v4 : Int32} {u1 : Option Value} {u5 : Option Value} {u6 : Option Value} (hk68 : ∀ (y3 : Option Value) (y4 : Option Value) (y5 : Option Value) (y6 : Option Value) (_ : isL (some y3) = false) (_ : isL (some y4) = false) (_ : isL (some y5) = false) (g : hG), Frz g → Tri wI (e + 1) 151 t151_68 [some (.ref 0), u1, some (.int v2), y3, y4, y5, y6] [] g (k68 g)) (hk28 : ∀ (x3 : Int32) (x4 : Int32) (y5 : Option Value) (y6 : Option Value) (_ : isL (some y5) = false) (g : hG), Frz g → Tri wI (e + 1) 151 t151_28 [some (.ref 0), u1, some (.int v2), some (.int x3), some (.int x4), y5, y6] [] g (k28 x3 x4 g)) (hu5 : isL (some u5) = false) {g : hG} (hF : Frz g) : Tri wI (e + 1) 151 t151_28 [some (.ref 0), u1, some (.int v2), some (.int v3), some (.int v4), u5, u6] [] g (q_MP_days_28 v2 k68 k28 v3 v4 g) := by
  unfold q_MP_days_28
  refine tr_ldI rfl (tr_ldI rfl (?_))
  refine tr_ifj e151_68 (c_ge _ _) (fun hc12 => ?_) (fun hc12 => ?_)
  · exact hk68 _ _ _ _ rfl rfl hu5 _ hF
  · refine tr_ldA rfl (tr_getP (b := 230) (fk_0 hF) (fp_0_8 hF) (tr_getI (fk_230 hF) (tr_pushI (?_))))
    refine tr_ifj e151_68 (c_ge _ _) (fun hc13 => ?_) (fun hc13 => ?_)
    · exact hk68 _ _ _ _ rfl rfl hu5 _ hF
    · refine tr_ldI rfl (?_)
      refine tr_invSI rfl rfl (Nat.le_of_ble_eq_true rfl) (Nat.le_of_ble_eq_true rfl) (by decide) (Nat.le_of_ble_eq_true rfl) (tm152 hF) (fun r16 g14 _ hF15 => ?_)
      refine tr_stI (Nat.le_of_ble_eq_true rfl) rfl rfl (tr_ldI rfl (tr_pushI (tr_dvdl (v := (irem r16 (8 : Int32))) (by decide) rfl (tr_stI (Nat.le_of_ble_eq_true rfl) rfl rfl (tr_ldI rfl (?_))))))
      refine tr_invSI rfl rfl (Nat.le_of_ble_eq_true rfl) (Nat.le_of_ble_eq_true rfl) (by decide) (Nat.le_of_ble_eq_true rfl) (tm152 hF15) (fun r19 g17 _ hF18 => ?_)
      refine tr_stI (Nat.le_of_ble_eq_true rfl) rfl rfl (tr_ldI rfl (tr_pushI (tr_dvdl (v := (irem r19 (25 : Int32))) (by decide) rfl (tr_stI (Nat.le_of_ble_eq_true rfl) rfl rfl (tr_ldI rfl (?_))))))
      refine tr_invSI rfl rfl (Nat.le_of_ble_eq_true rfl) (Nat.le_of_ble_eq_true rfl) (by decide) (Nat.le_of_ble_eq_true rfl) (tm152 hF18) (fun r22 g20 _ hF21 => ?_)
      refine tr_stI (Nat.le_of_ble_eq_true rfl) rfl rfl (tr_ldA rfl (tr_ldI rfl (tr_pushI (tr_dvdl (v := (irem r22 (4 : Int32))) (by decide) rfl (tr_ldI rfl (?_))))))
      refine tr_ldI rfl (?_)
      refine tr_invVU rfl rfl (fk_0 hF21) (Nat.le_of_ble_eq_true rfl) (by decide) (Nat.le_of_ble_eq_true rfl) (tm153 (by omega) hF21) (fun _ g23 _ hF24 => ?_)
      refine tr_ldA rfl (tr_getP (b := 250) (fk_0 hF24) (fp_0_15 hF24) (tr_ldA rfl (tr_getP (b := 230) (fk_0 hF24) (fp_0_8 hF24) (?_))))
      refine tr_invVI rfl rfl (fk_250 hF24) (Nat.le_of_ble_eq_true rfl) (by decide) (Nat.le_of_ble_eq_true rfl) (tm64 (by omega) rfl hF24) (fun r27 g25 _ hF26 => ?_)
      refine tr_pop (tr_inc rfl rfl rfl (?_))
      refine tr_gotoE e151_28 (?_)
      exact hk28 _ _ _ _ rfl _ hF26
theorem th151_28L {e : Nat} (he : 5 ≤ e + 1) {v2 : Int32} {k68 : hG → hO Int32} {u1 : Option Value} (hk68 : ∀ (y3 : Option Value) (y4 : Option Value) (y5 : Option Value) (y6 : Option Value) (_ : isL (some y3) = false) (_ : isL (some y4) = false) (_ : isL (some y5) = false) (g : hG), Frz g → Tri wI (e + 1) 151 t151_68 [some (.ref 0), u1, some (.int v2), y3, y4, y5, y6] [] g (k68 g)) : ∀ (n : Nat) (v3 : Int32) (v4 : Int32) (u5 : Option Value) (u6 : Option Value) (_ : isL (some u5) = false) (g : hG), Frz g → Tri wI (e + 1) 151 t151_28 [some (.ref 0), u1, some (.int v2), some (.int v3), some (.int v4), u5, u6] [] g (q_MP_days_28L v2 k68 n v3 v4 g)
  | 0 => fun _ _ _ _ _ _ _ => Tri.none_
  | n + 1 => fun _ _ _ _ z5 g hF => th151_28 he hk68 (th151_28L he hk68 n) z5 hF
def q_MP_days_68 (g : hG) : hO Int32 :=
  bnd (q_Mom_howManyAre 230 (2 : Int32) g) fun r36 g34 => bnd (q_Notes_grant r36 g34) fun r39 g37 => some (r39, g37)
theorem th151_68 {e : Nat} (he : 5 ≤ e + 1) {u1 : Option Value} {u2 : Option Value} {u3 : Option Value} {u4 : Option Value} {u5 : Option Value} {u6 : Option Value} (hu2 : isL (some u2) = false) (hu3 : isL (some u3) = false) (hu4 : isL (some u4) = false) (hu5 : isL (some u5) = false) {g : hG} (hF : Frz g) : Tri wI (e + 1) 151 t151_68 [some (.ref 0), u1, u2, u3, u4, u5, u6] [] g (q_MP_days_68 g) := by
  unfold q_MP_days_68
  refine tr_ldA rfl (tr_getP (b := 263) (fk_0 hF) (fp_0_19 hF) (tr_ldA rfl (tr_getP (b := 230) (fk_0 hF) (fp_0_8 hF) (tr_pushI (?_)))))
  refine tr_invVI rfl rfl (fk_230 hF) (Nat.le_of_ble_eq_true rfl) (by decide) (Nat.le_of_ble_eq_true rfl) (tm20 rfl hF) (fun r36 g34 _ hF35 => ?_)
  refine tr_invVI rfl rfl (fk_263 hF35) (Nat.le_of_ble_eq_true rfl) (by decide) (Nat.le_of_ble_eq_true rfl) (tm26 hF35) (fun r39 g37 _ hF38 => ?_)
  exact tr_retI hF38
def q_MP_days (v1 : Int32) (v2 : Int32) (g : hG) : hO Int32 :=
  if v1 < (0 : Int32) then (q_MP_days_11 g) else (if (1000000 : Int32) < v1 then (q_MP_days_11 g) else (if v2 < (1 : Int32) then (q_MP_days_11 g) else (if v2 ≤ (60 : Int32) then (bnd (q_Mom_copy 230 2 g) fun _ g8 => wr (sI g8 0 9 (1 : Int32)) fun g10 => q_MP_days_28L v2 (fun g32 => q_MP_days_68 g32) FU v1 (0 : Int32) g10) else (q_MP_days_11 g))))
theorem tm151 {d : Nat} {v1 : Int32} {v2 : Int32} (hd : 5 ≤ d) {g : hG} (hF : Frz g) : TM wI d 151 [.ref 0, .int v1, .int v2] g (q_MP_days v1 v2 g) := by
  obtain ⟨e, rfl⟩ : ∃ e, d = e + 1 := ⟨d - 1, by omega⟩
  have he := hd
  refine TM.ofE e151_0 (lv := [some (.ref 0), some (.int v1), some (.int v2), none, none, none, none]) rfl ?_
  unfold q_MP_days
  refine tr_ldI rfl (?_)
  refine tr_if0j e151_11 (c_lt _ _) (fun hc1 => ?_) (fun hc1 => ?_)
  · exact th151_11 he rfl rfl rfl rfl hF
  · refine tr_ldI rfl (tr_pushI (?_))
    refine tr_ifj e151_11 (c_gt _ _) (fun hc5 => ?_) (fun hc5 => ?_)
    · exact th151_11 he rfl rfl rfl rfl hF
    · refine tr_ldI rfl (tr_pushI (?_))
      refine tr_ifj e151_11 (c_lt _ _) (fun hc6 => ?_) (fun hc6 => ?_)
      · exact th151_11 he rfl rfl rfl rfl hF
      · refine tr_ldI rfl (tr_pushI (?_))
        refine tr_ifj e151_16 (c_le _ _) (fun hc7 => ?_) (fun hc7 => ?_)
        · refine tr_ldA rfl (tr_getP (b := 230) (fk_0 hF) (fp_0_8 hF) (tr_ldA rfl (tr_getP (b := 2) (fk_0 hF) (fp_0_1 hF) (?_))))
          refine tr_invVU rfl rfl (fk_230 hF) (Nat.le_of_ble_eq_true rfl) (by decide) (Nat.le_of_ble_eq_true rfl) (tm17 rfl rfl hF) (fun _ g8 _ hF9 => ?_)
          refine tr_ldA rfl (tr_pushI (tr_putZl (Or.inr rfl) hF9 (fk_0 hF9) (fun g10 _ hF11 => tr_ldI rfl (tr_stI (Nat.le_of_ble_eq_true rfl) rfl rfl (tr_pushI (?_))))))
          refine tr_stI (Nat.le_of_ble_eq_true rfl) rfl rfl (?_)
          refine th151_28L he (fun y28 y29 y30 y31 zy28 zy29 zy30 g32 hF33 => ?_) FU _ _ _ _ rfl _ hF11
          · exact th151_68 he rfl zy28 zy29 zy30 hF33
        · exact th151_11 he rfl rfl rfl rfl hF
-- MP_drawn
abbrev t154_10 : List hOp := oRetI :: []
abbrev t154_9 : List hOp := oPushI (-1) :: t154_10
abbrev t154_0 : List hOp := oLdA 0 :: oGetI 11 9 :: oIf0 cEq 9 :: oLdA 0 :: oGetP 11 8 :: oLdI 1 :: oLdI 2 :: oInvV 18 2 2 :: oGoto 10 :: t154_9
theorem e154_0 : (opsOf 154).drop 0 = t154_0 := rfl
theorem e154_9 : (opsOf 154).drop 9 = t154_9 := rfl
theorem e154_10 : (opsOf 154).drop 10 = t154_10 := rfl
def q_MP_drawn (v1 : Int32) (v2 : Int32) (g : hG) : hO Int32 :=
  if (gI g 0 9) = (0 : Int32) then (some ((-1 : Int32), g)) else (bnd (q_Mom_told 230 v1 v2 g) fun r4 g2 => some (r4, g2))
theorem tm154 {d : Nat} {v1 : Int32} {v2 : Int32} (hd : 2 ≤ d) {g : hG} (hF : Frz g) : TM wI d 154 [.ref 0, .int v1, .int v2] g (q_MP_drawn v1 v2 g) := by
  obtain ⟨e, rfl⟩ : ∃ e, d = e + 1 := ⟨d - 1, by omega⟩
  have he := hd
  refine TM.ofE e154_0 (lv := [some (.ref 0), some (.int v1), some (.int v2)]) rfl ?_
  unfold q_MP_drawn
  refine tr_ldA rfl (tr_getI (fk_0 hF) (?_))
  refine tr_if0j e154_9 (c_eq _ _) (fun hc1 => ?_) (fun hc1 => ?_)
  · refine tr_pushI (?_)
    exact tr_retI hF
  · refine tr_ldA rfl (tr_getP (b := 230) (fk_0 hF) (fp_0_8 hF) (tr_ldI rfl (tr_ldI rfl (?_))))
    refine tr_invVI rfl rfl (fk_230 hF) (Nat.le_of_ble_eq_true rfl) (by decide) (Nat.le_of_ble_eq_true rfl) (tm18 (by omega) rfl hF) (fun r4 g2 _ hF3 => ?_)
    refine tr_gotoE e154_10 (?_)
    exact tr_retI hF3
-- MP_isImage
abbrev t161_8 : List hOp := oRetZ :: []
abbrev t161_7 : List hOp := oPushI 0 :: t161_8
abbrev t161_0 : List hOp := oLdI 0 :: oIf0 cLt 7 :: oLdI 0 :: oPushI 2 :: oIf cGe 7 :: oPushI 1 :: oGoto 8 :: t161_7
theorem e161_0 : (opsOf 161).drop 0 = t161_0 := rfl
theorem e161_7 : (opsOf 161).drop 7 = t161_7 := rfl
theorem e161_8 : (opsOf 161).drop 8 = t161_8 := rfl
def q_MP_isImage (v0 : Int32) (g : hG) : hO Int32 :=
  if v0 < (0 : Int32) then (some ((0 : Int32), g)) else (if (2 : Int32) ≤ v0 then (some ((0 : Int32), g)) else (some ((1 : Int32), g)))
theorem tm161 {d : Nat} {v0 : Int32} {g : hG} (hF : Frz g) : TM wI d 161 [.int v0] g (q_MP_isImage v0 g) := by
  refine TM.ofE e161_0 (lv := [some (.int v0)]) rfl ?_
  unfold q_MP_isImage
  refine tr_ldI rfl (?_)
  refine tr_if0j e161_7 (c_lt _ _) (fun hc1 => ?_) (fun hc1 => ?_)
  · refine tr_pushI (?_)
    exact tr_retZl (Or.inl rfl) hF
  · refine tr_ldI rfl (tr_pushI (?_))
    refine tr_ifj e161_7 (c_ge _ _) (fun hc2 => ?_) (fun hc2 => ?_)
    · refine tr_pushI (?_)
      exact tr_retZl (Or.inl rfl) hF
    · refine tr_pushI (?_)
      refine tr_gotoE e161_8 (?_)
      exact tr_retZl (Or.inr rfl) hF
-- Text_copy
abbrev t92_0 : List hOp := oLdA 1 :: oGetP 9 0 :: oPushI 0 :: oLdA 0 :: oGetP 9 0 :: oPushI 0 :: oLdA 0 :: oGetP 9 0 :: oALen :: oCpy :: oLdA 0 :: oLdA 1 :: oGetI 9 1 :: oPutI 9 1 :: oLdA 0 :: oLdA 1 :: oGetI 9 2 :: oPutI 9 2 :: oLdA 1 :: oGetP 9 3 :: oPushI 0 :: oLdA 0 :: oGetP 9 3 :: oPushI 0 :: oPushI 12 :: oCpy :: oLdA 1 :: oGetP 9 4 :: oPushI 0 :: oLdA 0 :: oGetP 9 4 :: oPushI 0 :: oPushI 12 :: oCpy :: oLdA 1 :: oGetP 9 5 :: oPushI 0 :: oLdA 0 :: oGetP 9 5 :: oPushI 0 :: oPushI 12 :: oCpy :: oLdA 1 :: oGetP 9 6 :: oPushI 0 :: oLdA 0 :: oGetP 9 6 :: oPushI 0 :: oPushI 12 :: oCpy :: oLdA 1 :: oGetP 9 7 :: oPushI 0 :: oLdA 0 :: oGetP 9 7 :: oPushI 0 :: oPushI 12 :: oCpy :: oRetV :: []
theorem e92_0 : (opsOf 92).drop 0 = t92_0 := rfl
def q_Text_copy (a0 : Nat) (a1 : Nat) (g : hG) : hO Unit :=
  gne (a1 + 1) (a0 + 1) <| gc (0 : Int32) (0 : Int32) (402 : Int32) 402 402 <| wr (sRow g (a0 + 1) (va_cpy (gI g (a1 + 1)) (gI g (a0 + 1)) (0 : Int32).toNatClampNeg (0 : Int32).toNatClampNeg (402 : Int32).toNatClampNeg)) fun g1 => wr (sI g1 a0 1 (gI g1 a1 1)) fun g3 => wr (sI g3 a0 2 (gI g3 a1 2)) fun g5 => gne (a1 + 2) (a0 + 2) <| gc (0 : Int32) (0 : Int32) (12 : Int32) 12 12 <| wr (sRow g5 (a0 + 2) (va_cpy (gI g5 (a1 + 2)) (gI g5 (a0 + 2)) (0 : Int32).toNatClampNeg (0 : Int32).toNatClampNeg (12 : Int32).toNatClampNeg)) fun g7 => gne (a1 + 3) (a0 + 3) <| gc (0 : Int32) (0 : Int32) (12 : Int32) 12 12 <| wr (sRow g7 (a0 + 3) (va_cpy (gI g7 (a1 + 3)) (gI g7 (a0 + 3)) (0 : Int32).toNatClampNeg (0 : Int32).toNatClampNeg (12 : Int32).toNatClampNeg)) fun g9 => gne (a1 + 4) (a0 + 4) <| gc (0 : Int32) (0 : Int32) (12 : Int32) 12 12 <| wr (sRow g9 (a0 + 4) (va_cpy (gI g9 (a1 + 4)) (gI g9 (a0 + 4)) (0 : Int32).toNatClampNeg (0 : Int32).toNatClampNeg (12 : Int32).toNatClampNeg)) fun g11 => gne (a1 + 5) (a0 + 5) <| gc (0 : Int32) (0 : Int32) (12 : Int32) 12 12 <| wr (sRow g11 (a0 + 5) (va_cpy (gI g11 (a1 + 5)) (gI g11 (a0 + 5)) (0 : Int32).toNatClampNeg (0 : Int32).toNatClampNeg (12 : Int32).toNatClampNeg)) fun g13 => gne (a1 + 6) (a0 + 6) <| gc (0 : Int32) (0 : Int32) (12 : Int32) 12 12 <| wr (sRow g13 (a0 + 6) (va_cpy (gI g13 (a1 + 6)) (gI g13 (a0 + 6)) (0 : Int32).toNatClampNeg (0 : Int32).toNatClampNeg (12 : Int32).toNatClampNeg)) fun g15 => some ((), g15)
theorem tm92 {d : Nat} {a0 : Nat} {a1 : Nat} (h0 : is_txt a0 = true) (h1 : is_txt a1 = true) {g : hG} (hF : Frz g) : TM wU d 92 [.ref a0, .ref a1] g (q_Text_copy a0 a1 g) := by
  refine TM.ofE e92_0 (lv := [some (.ref a0), some (.ref a1)]) rfl ?_
  unfold q_Text_copy
  refine tr_ldA rfl (tr_getP (b := (a1 + 1)) (txt_k hF h1) (txt_p0 hF h1) (tr_pushI (tr_ldA rfl (tr_getP (b := (a0 + 1)) (txt_k hF h0) (txt_p0 hF h0) (tr_pushI (?_))))))
  refine tr_ldA rfl (tr_getP (b := (a0 + 1)) (txt_k hF h0) (txt_p0 hF h0) (tr_alen (txt_ak1 hF h0) (by rw [(txt_al1 hF h0)] <;> rfl) (tr_cpy hF (txt_ak1 hF h1) (txt_ak1 hF h0) (txt_al1 hF h1) (txt_al1 hF h0) (Nat.le_of_ble_eq_true rfl) (fun g1 _ hF2 => tr_ldA rfl (tr_ldA rfl (?_))))))
  refine tr_getI (txt_k hF2 h1) (tr_putI hF2 (txt_k hF2 h0) (fun g3 _ hF4 => tr_ldA rfl (tr_ldA rfl (tr_getI (txt_k hF4 h1) (tr_putI hF4 (txt_k hF4 h0) (fun g5 _ hF6 => ?_))))))
  refine tr_ldA rfl (tr_getP (b := (a1 + 2)) (txt_k hF6 h1) (txt_p3 hF6 h1) (tr_pushI (tr_ldA rfl (tr_getP (b := (a0 + 2)) (txt_k hF6 h0) (txt_p3 hF6 h0) (tr_pushI (?_))))))
  refine tr_pushI (tr_cpy hF6 (txt_ak2 hF6 h1) (txt_ak2 hF6 h0) (txt_al2 hF6 h1) (txt_al2 hF6 h0) (Nat.le_of_ble_eq_true rfl) (fun g7 _ hF8 => tr_ldA rfl (tr_getP (b := (a1 + 3)) (txt_k hF8 h1) (txt_p4 hF8 h1) (tr_pushI (tr_ldA rfl (?_))))))
  refine tr_getP (b := (a0 + 3)) (txt_k hF8 h0) (txt_p4 hF8 h0) (tr_pushI (tr_pushI (tr_cpy hF8 (txt_ak3 hF8 h1) (txt_ak3 hF8 h0) (txt_al3 hF8 h1) (txt_al3 hF8 h0) (Nat.le_of_ble_eq_true rfl) (fun g9 _ hF10 => tr_ldA rfl (tr_getP (b := (a1 + 4)) (txt_k hF10 h1) (txt_p5 hF10 h1) (?_))))))
  refine tr_pushI (tr_ldA rfl (tr_getP (b := (a0 + 4)) (txt_k hF10 h0) (txt_p5 hF10 h0) (tr_pushI (tr_pushI (tr_cpy hF10 (txt_ak4 hF10 h1) (txt_ak4 hF10 h0) (txt_al4 hF10 h1) (txt_al4 hF10 h0) (Nat.le_of_ble_eq_true rfl) (fun g11 _ hF12 => ?_))))))
  refine tr_ldA rfl (tr_getP (b := (a1 + 5)) (txt_k hF12 h1) (txt_p6 hF12 h1) (tr_pushI (tr_ldA rfl (tr_getP (b := (a0 + 5)) (txt_k hF12 h0) (txt_p6 hF12 h0) (tr_pushI (?_))))))
  refine tr_pushI (tr_cpy hF12 (txt_ak5 hF12 h1) (txt_ak5 hF12 h0) (txt_al5 hF12 h1) (txt_al5 hF12 h0) (Nat.le_of_ble_eq_true rfl) (fun g13 _ hF14 => tr_ldA rfl (tr_getP (b := (a1 + 6)) (txt_k hF14 h1) (txt_p7 hF14 h1) (tr_pushI (tr_ldA rfl (?_))))))
  refine tr_getP (b := (a0 + 6)) (txt_k hF14 h0) (txt_p7 hF14 h0) (tr_pushI (tr_pushI (tr_cpy hF14 (txt_ak6 hF14 h1) (txt_ak6 hF14 h0) (txt_al6 hF14 h1) (txt_al6 hF14 h0) (Nat.le_of_ble_eq_true rfl) (fun g15 _ hF16 => ?_))))
  exact tr_retV hF16
-- Kept_copy
abbrev t13_54 : List hOp := oLdA 0 :: oLdA 1 :: oGetI 1 8 :: oPutI 1 8 :: oLdA 0 :: oLdA 1 :: oGetI 1 9 :: oPutI 1 9 :: oRetV :: []
abbrev t13_39 : List hOp := oLdI 2 :: oLdA 1 :: oGetI 1 8 :: oIf cGe 54 :: oLdA 0 :: oGetP 1 7 :: oLdI 2 :: oALdP 18 :: oLdA 1 :: oGetP 1 7 :: oLdI 2 :: oALdP 18 :: oInvV 92 9 1 :: oInc 2 1 :: oGoto 39 :: t13_54
abbrev t13_0 : List hOp := oLdA 0 :: oGetP 1 0 :: oLdA 1 :: oGetP 1 0 :: oInvV 17 2 1 :: oLdA 0 :: oLdA 1 :: oGetI 1 1 :: oPutI 1 1 :: oLdA 0 :: oLdA 1 :: oGetI 1 2 :: oPutI 1 2 :: oLdA 0 :: oLdA 1 :: oGetI 1 3 :: oPutI 1 3 :: oLdA 1 :: oGetP 1 4 :: oPushI 0 :: oLdA 0 :: oGetP 1 4 :: oPushI 0 :: oPushI 6 :: oCpy :: oLdA 1 :: oGetP 1 5 :: oPushI 0 :: oLdA 0 :: oGetP 1 5 :: oPushI 0 :: oPushI 6 :: oCpy :: oLdA 0 :: oLdA 1 :: oGetI 1 6 :: oPutI 1 6 :: oPushI 0 :: oStI 2 :: t13_39
theorem e13_0 : (opsOf 13).drop 0 = t13_0 := rfl
theorem e13_39 : (opsOf 13).drop 39 = t13_39 := rfl
theorem e13_54 : (opsOf 13).drop 54 = t13_54 := rfl
def q_Kept_copy_39 (a0 : Nat) (a1 : Nat) (k54 : hG → hO Unit) (k39 : Int32 → hG → hO Unit) (v2 : Int32) (g : hG) : hO Unit :=
  if (gI g a1 8) ≤ v2 then (k54 g) else (gd v2 6 <| gd v2 6 <| bnd (q_Text_copy (a0 + 9 + 7 * v2.toNatClampNeg) (a1 + 9 + 7 * v2.toNatClampNeg) g) fun _ g18 => k39 (v2 + (1 : Int32)) g18)
def q_Kept_copy_39L (a0 : Nat) (a1 : Nat) (k54 : hG → hO Unit) : Nat → Int32 → hG → hO Unit
  | 0 => fun _ _ => none
  | n + 1 => fun v2 g => q_Kept_copy_39 a0 a1 k54 (q_Kept_copy_39L a0 a1 k54 n) v2 g
theorem q_Kept_copy_39L_s (a0 : Nat) (a1 : Nat) (k54 : hG → hO Unit) (n : Nat) (v2 : Int32) (g : hG) : q_Kept_copy_39L a0 a1 k54 (n + 1) v2 g = q_Kept_copy_39 a0 a1 k54 (q_Kept_copy_39L a0 a1 k54 n) v2 g := rfl
theorem th13_39 {e : Nat} (he : 1 ≤ e + 1) {a0 : Nat} {a1 : Nat} {k54 : hG → hO Unit} {k39 : Int32 → hG → hO Unit} {v2 : Int32} (h0 : is_kpt a0 = true) (h1 : is_kpt a1 = true) (hk54 : ∀ (y2 : Option Value) (g : hG), Frz g → Tri wU (e + 1) 13 t13_54 [some (.ref a0), some (.ref a1), y2] [] g (k54 g)) (hk39 : ∀ (x2 : Int32) (g : hG), Frz g → Tri wU (e + 1) 13 t13_39 [some (.ref a0), some (.ref a1), some (.int x2)] [] g (k39 x2 g)) {g : hG} (hF : Frz g) : Tri wU (e + 1) 13 t13_39 [some (.ref a0), some (.ref a1), some (.int v2)] [] g (q_Kept_copy_39 a0 a1 k54 k39 v2 g) := by
  unfold q_Kept_copy_39
  refine tr_ldI rfl (tr_ldA rfl (tr_getI (kpt_k hF h1) (?_)))
  refine tr_ifj e13_54 (c_ge _ _) (fun hc15 => ?_) (fun hc15 => ?_)
  · exact hk54 _ _ hF
  · refine tr_ldA rfl (tr_getP (b := (a0 + 8)) (kpt_k hF h0) (kpt_p7 hF h0) (tr_ldI rfl (tr_aldP (b := (a0 + 9 + 7 * v2.toNatClampNeg)) (kpt_ak8 hF h0) (kpt_al8 hF h0) (fun hq => kpt_e (a := a0) hF h0 hq) (fun hi16 => tr_ldA rfl (tr_getP (b := (a1 + 8)) (kpt_k hF h1) (kpt_p7 hF h1) (?_))))))
    refine tr_ldI rfl (tr_aldP (b := (a1 + 9 + 7 * v2.toNatClampNeg)) (kpt_ak8 hF h1) (kpt_al8 hF h1) (fun hq => kpt_e (a := a1) hF h1 hq) (fun hi17 => ?_))
    refine tr_invVU rfl rfl (txt_k hF (kpt_txt (a := a0) h0 hi16)) (Nat.le_of_ble_eq_true rfl) (by decide) (Nat.le_of_ble_eq_true rfl) (tm92 (kpt_txt (a := a0) h0 hi16) (kpt_txt (a := a1) h1 hi17) hF) (fun _ g18 _ hF19 => ?_)
    refine tr_inc rfl rfl rfl (?_)
    refine tr_gotoE e13_39 (?_)
    exact hk39 _ _ hF19
theorem th13_39L {e : Nat} (he : 1 ≤ e + 1) {a0 : Nat} {a1 : Nat} {k54 : hG → hO Unit} (h0 : is_kpt a0 = true) (h1 : is_kpt a1 = true) (hk54 : ∀ (y2 : Option Value) (g : hG), Frz g → Tri wU (e + 1) 13 t13_54 [some (.ref a0), some (.ref a1), y2] [] g (k54 g)) : ∀ (n : Nat) (v2 : Int32) (g : hG), Frz g → Tri wU (e + 1) 13 t13_39 [some (.ref a0), some (.ref a1), some (.int v2)] [] g (q_Kept_copy_39L a0 a1 k54 n v2 g)
  | 0 => fun _ _ _ => Tri.none_
  | n + 1 => fun _ g hF => th13_39 he h0 h1 hk54 (th13_39L he h0 h1 hk54 n) hF
def q_Kept_copy (a0 : Nat) (a1 : Nat) (g : hG) : hO Unit :=
  bnd (q_Mom_copy (a0 + 1) (a1 + 1) g) fun _ g1 => wr (sI g1 a0 1 (gI g1 a1 1)) fun g3 => wr (sI g3 a0 2 (gI g3 a1 2)) fun g5 => wr (sI g5 a0 3 (gI g5 a1 3)) fun g7 => gne (a1 + 6) (a0 + 6) <| gc (0 : Int32) (0 : Int32) (6 : Int32) 6 6 <| wr (sRow g7 (a0 + 6) (va_cpy (gI g7 (a1 + 6)) (gI g7 (a0 + 6)) (0 : Int32).toNatClampNeg (0 : Int32).toNatClampNeg (6 : Int32).toNatClampNeg)) fun g9 => gne (a1 + 7) (a0 + 7) <| gc (0 : Int32) (0 : Int32) (6 : Int32) 6 6 <| wr (sRow g9 (a0 + 7) (va_cpy (gI g9 (a1 + 7)) (gI g9 (a0 + 7)) (0 : Int32).toNatClampNeg (0 : Int32).toNatClampNeg (6 : Int32).toNatClampNeg)) fun g11 => wr (sI g11 a0 6 (gI g11 a1 6)) fun g13 => q_Kept_copy_39L a0 a1 (fun g21 => wr (sI g21 a0 8 (gI g21 a1 8)) fun g23 => wr (sI g23 a0 9 (gI g23 a1 9)) fun g25 => some ((), g25)) FU (0 : Int32) g13
theorem tm13 {d : Nat} {a0 : Nat} {a1 : Nat} (hd : 1 ≤ d) (h0 : is_kpt a0 = true) (h1 : is_kpt a1 = true) {g : hG} (hF : Frz g) : TM wU d 13 [.ref a0, .ref a1] g (q_Kept_copy a0 a1 g) := by
  obtain ⟨e, rfl⟩ : ∃ e, d = e + 1 := ⟨d - 1, by omega⟩
  have he := hd
  refine TM.ofE e13_0 (lv := [some (.ref a0), some (.ref a1), none]) rfl ?_
  unfold q_Kept_copy
  refine tr_ldA rfl (tr_getP (b := (a0 + 1)) (kpt_k hF h0) (kpt_p0 hF h0) (tr_ldA rfl (tr_getP (b := (a1 + 1)) (kpt_k hF h1) (kpt_p0 hF h1) (?_))))
  refine tr_invVU rfl rfl (mom_k hF (kpt_mom h0)) (Nat.le_of_ble_eq_true rfl) (by decide) (Nat.le_of_ble_eq_true rfl) (tm17 (kpt_mom h0) (kpt_mom h1) hF) (fun _ g1 _ hF2 => ?_)
  refine tr_ldA rfl (tr_ldA rfl (tr_getI (kpt_k hF2 h1) (tr_putI hF2 (kpt_k hF2 h0) (fun g3 _ hF4 => tr_ldA rfl (tr_ldA rfl (?_))))))
  refine tr_getI (kpt_k hF4 h1) (tr_putI hF4 (kpt_k hF4 h0) (fun g5 _ hF6 => tr_ldA rfl (tr_ldA rfl (tr_getI (kpt_k hF6 h1) (tr_putI hF6 (kpt_k hF6 h0) (fun g7 _ hF8 => ?_))))))
  refine tr_ldA rfl (tr_getP (b := (a1 + 6)) (kpt_k hF8 h1) (kpt_p4 hF8 h1) (tr_pushI (tr_ldA rfl (tr_getP (b := (a0 + 6)) (kpt_k hF8 h0) (kpt_p4 hF8 h0) (tr_pushI (?_))))))
  refine tr_pushI (tr_cpy hF8 (kpt_ak6 hF8 h1) (kpt_ak6 hF8 h0) (kpt_al6 hF8 h1) (kpt_al6 hF8 h0) (Nat.le_of_ble_eq_true rfl) (fun g9 _ hF10 => tr_ldA rfl (tr_getP (b := (a1 + 7)) (kpt_k hF10 h1) (kpt_p5 hF10 h1) (tr_pushI (tr_ldA rfl (?_))))))
  refine tr_getP (b := (a0 + 7)) (kpt_k hF10 h0) (kpt_p5 hF10 h0) (tr_pushI (tr_pushI (tr_cpy hF10 (kpt_ak7 hF10 h1) (kpt_ak7 hF10 h0) (kpt_al7 hF10 h1) (kpt_al7 hF10 h0) (Nat.le_of_ble_eq_true rfl) (fun g11 _ hF12 => tr_ldA rfl (tr_ldA rfl (?_))))))
  refine tr_getI (kpt_k hF12 h1) (tr_putI hF12 (kpt_k hF12 h0) (fun g13 _ hF14 => tr_pushI (tr_stI (Nat.le_of_ble_eq_true rfl) rfl rfl (?_))))
  refine th13_39L he h0 h1 (fun y20 g21 hF22 => ?_) FU _ _ hF14
  · refine tr_ldA rfl (tr_ldA rfl (tr_getI (kpt_k hF22 h1) (tr_putI hF22 (kpt_k hF22 h0) (fun g23 _ hF24 => tr_ldA rfl (tr_ldA rfl (?_))))))
    refine tr_getI (kpt_k hF24 h1) (tr_putI hF24 (kpt_k hF24 h0) (fun g25 _ hF26 => ?_))
    exact tr_retV hF26
-- MP_image
abbrev t155_8 : List hOp := oLdA 0 :: oGetP 11 2 :: oLdI 1 :: oALdP 16 :: oLdA 0 :: oGetP 11 0 :: oInvV 13 1 1 :: oLdA 0 :: oGetP 11 3 :: oLdI 1 :: oPushI 1 :: oAStZ :: oLdA 0 :: oGetP 11 19 :: oPushI 0 :: oInvV 26 3 1 :: oRetI :: []
abbrev t155_0 : List hOp := oLdI 1 :: oInvS 161 1 :: oIf0 cNe 8 :: oLdA 0 :: oGetP 11 19 :: oPushI (-1) :: oInvV 25 3 1 :: oRetI :: t155_8
theorem e155_0 : (opsOf 155).drop 0 = t155_0 := rfl
theorem e155_8 : (opsOf 155).drop 8 = t155_8 := rfl
def q_MP_image (v1 : Int32) (g : hG) : hO Int32 :=
  bnd (q_MP_isImage v1 g) fun r3 g1 => if r3 = (0 : Int32) then (bnd (q_Notes_refuse (-1 : Int32) g1) fun r15 g13 => some (r15, g13)) else (gd v1 2 <| bnd (q_Kept_copy (265 + 51 * v1.toNatClampNeg) 1 g1) fun _ g6 => gd v1 2 <| wr (sI g6 53 v1.toNatClampNeg (1 : Int32)) fun g8 => bnd (q_Notes_grant (0 : Int32) g8) fun r12 g10 => some (r12, g10))
theorem tm155 {d : Nat} {v1 : Int32} (hd : 2 ≤ d) {g : hG} (hF : Frz g) : TM wI d 155 [.ref 0, .int v1] g (q_MP_image v1 g) := by
  obtain ⟨e, rfl⟩ : ∃ e, d = e + 1 := ⟨d - 1, by omega⟩
  have he := hd
  refine TM.ofE e155_0 (lv := [some (.ref 0), some (.int v1)]) rfl ?_
  unfold q_MP_image
  refine tr_ldI rfl (?_)
  refine tr_invSI rfl rfl (Nat.le_of_ble_eq_true rfl) (Nat.le_of_ble_eq_true rfl) (by decide) (Nat.le_of_ble_eq_true rfl) (tm161 hF) (fun r3 g1 _ hF2 => ?_)
  refine tr_if0n e155_8 (c_ne _ _) (fun hc4 => ?_) (fun hc4 => ?_)
  · refine tr_ldA rfl (tr_getP (b := 52) (fk_0 hF2) (fp_0_2 hF2) (tr_ldI rfl (tr_aldP (b := (265 + 51 * v1.toNatClampNeg)) (fk_52 hF2) (fl_52 hF2) (fun hq => img_e hF2 hq) (fun hi5 => tr_ldA rfl (tr_getP (b := 1) (fk_0 hF2) (fp_0_0 hF2) (?_))))))
    refine tr_invVU rfl rfl (kpt_k hF2 (img_kpt hi5)) (Nat.le_of_ble_eq_true rfl) (by decide) (Nat.le_of_ble_eq_true rfl) (tm13 (by omega) (img_kpt hi5) rfl hF2) (fun _ g6 _ hF7 => ?_)
    refine tr_ldA rfl (tr_getP (b := 53) (fk_0 hF7) (fp_0_3 hF7) (tr_ldI rfl (tr_pushI (tr_astZl (Or.inr rfl) hF7 (fk_53 hF7) (fl_53 hF7) (fun _ g8 _ hF9 => tr_ldA rfl (?_))))))
    refine tr_getP (b := 263) (fk_0 hF9) (fp_0_19 hF9) (tr_pushI (?_))
    refine tr_invVI rfl rfl (fk_263 hF9) (Nat.le_of_ble_eq_true rfl) (by decide) (Nat.le_of_ble_eq_true rfl) (tm26 hF9) (fun r12 g10 _ hF11 => ?_)
    exact tr_retI hF11
  · refine tr_ldA rfl (tr_getP (b := 263) (fk_0 hF2) (fp_0_19 hF2) (tr_pushI (?_)))
    refine tr_invVI rfl rfl (fk_263 hF2) (Nat.le_of_ble_eq_true rfl) (by decide) (Nat.le_of_ble_eq_true rfl) (tm25 hF2) (fun r15 g13 _ hF14 => ?_)
    exact tr_retI hF14
-- MP_back
abbrev t156_18 : List hOp := oLdA 0 :: oGetP 11 0 :: oLdA 0 :: oGetP 11 2 :: oLdI 1 :: oALdP 16 :: oInvV 13 1 1 :: oLdA 0 :: oGetP 11 4 :: oInvV 30 4 0 :: oLdA 0 :: oGetP 11 19 :: oPushI 0 :: oInvV 26 3 1 :: oRetI :: []
abbrev t156_8 : List hOp := oLdA 0 :: oGetP 11 3 :: oLdI 1 :: oALdI 15 :: oIf0 cNe 18 :: oLdA 0 :: oGetP 11 19 :: oPushI (-2) :: oInvV 25 3 1 :: oRetI :: t156_18
abbrev t156_0 : List hOp := oLdI 1 :: oInvS 161 1 :: oIf0 cNe 8 :: oLdA 0 :: oGetP 11 19 :: oPushI (-1) :: oInvV 25 3 1 :: oRetI :: t156_8
theorem e156_0 : (opsOf 156).drop 0 = t156_0 := rfl
theorem e156_8 : (opsOf 156).drop 8 = t156_8 := rfl
theorem e156_18 : (opsOf 156).drop 18 = t156_18 := rfl
def q_MP_back (v1 : Int32) (g : hG) : hO Int32 :=
  bnd (q_MP_isImage v1 g) fun r3 g1 => if r3 = (0 : Int32) then (bnd (q_Notes_refuse (-1 : Int32) g1) fun r19 g17 => some (r19, g17)) else (gd v1 2 <| if (gI g1 53 v1.toNatClampNeg) = (0 : Int32) then (bnd (q_Notes_refuse (-2 : Int32) g1) fun r16 g14 => some (r16, g14)) else (gd v1 2 <| bnd (q_Kept_copy 1 (265 + 51 * v1.toNatClampNeg) g1) fun _ g7 => bnd (q_Past_clear g7) fun _ g9 => bnd (q_Notes_grant (0 : Int32) g9) fun r13 g11 => some (r13, g11)))
theorem tm156 {d : Nat} {v1 : Int32} (hd : 2 ≤ d) {g : hG} (hF : Frz g) : TM wI d 156 [.ref 0, .int v1] g (q_MP_back v1 g) := by
  obtain ⟨e, rfl⟩ : ∃ e, d = e + 1 := ⟨d - 1, by omega⟩
  have he := hd
  refine TM.ofE e156_0 (lv := [some (.ref 0), some (.int v1)]) rfl ?_
  unfold q_MP_back
  refine tr_ldI rfl (?_)
  refine tr_invSI rfl rfl (Nat.le_of_ble_eq_true rfl) (Nat.le_of_ble_eq_true rfl) (by decide) (Nat.le_of_ble_eq_true rfl) (tm161 hF) (fun r3 g1 _ hF2 => ?_)
  refine tr_if0n e156_8 (c_ne _ _) (fun hc4 => ?_) (fun hc4 => ?_)
  · refine tr_ldA rfl (tr_getP (b := 53) (fk_0 hF2) (fp_0_3 hF2) (tr_ldI rfl (tr_aldI (fk_53 hF2) (fl_53 hF2) (fun _ => ?_))))
    refine tr_if0n e156_18 (c_ne _ _) (fun hc5 => ?_) (fun hc5 => ?_)
    · refine tr_ldA rfl (tr_getP (b := 1) (fk_0 hF2) (fp_0_0 hF2) (tr_ldA rfl (tr_getP (b := 52) (fk_0 hF2) (fp_0_2 hF2) (tr_ldI rfl (tr_aldP (b := (265 + 51 * v1.toNatClampNeg)) (fk_52 hF2) (fl_52 hF2) (fun hq => img_e hF2 hq) (fun hi6 => ?_))))))
      refine tr_invVU rfl rfl (fk_1 hF2) (Nat.le_of_ble_eq_true rfl) (by decide) (Nat.le_of_ble_eq_true rfl) (tm13 (by omega) rfl (img_kpt hi6) hF2) (fun _ g7 _ hF8 => ?_)
      refine tr_ldA rfl (tr_getP (b := 54) (fk_0 hF8) (fp_0_4 hF8) (?_))
      refine tr_invVU rfl rfl (fk_54 hF8) (Nat.le_of_ble_eq_true rfl) (by decide) (Nat.le_of_ble_eq_true rfl) (tm30 hF8) (fun _ g9 _ hF10 => ?_)
      refine tr_ldA rfl (tr_getP (b := 263) (fk_0 hF10) (fp_0_19 hF10) (tr_pushI (?_)))
      refine tr_invVI rfl rfl (fk_263 hF10) (Nat.le_of_ble_eq_true rfl) (by decide) (Nat.le_of_ble_eq_true rfl) (tm26 hF10) (fun r13 g11 _ hF12 => ?_)
      exact tr_retI hF12
    · refine tr_ldA rfl (tr_getP (b := 263) (fk_0 hF2) (fp_0_19 hF2) (tr_pushI (?_)))
      refine tr_invVI rfl rfl (fk_263 hF2) (Nat.le_of_ble_eq_true rfl) (by decide) (Nat.le_of_ble_eq_true rfl) (tm25 hF2) (fun r16 g14 _ hF15 => ?_)
      exact tr_retI hF15
  · refine tr_ldA rfl (tr_getP (b := 263) (fk_0 hF2) (fp_0_19 hF2) (tr_pushI (?_)))
    refine tr_invVI rfl rfl (fk_263 hF2) (Nat.le_of_ble_eq_true rfl) (by decide) (Nat.le_of_ble_eq_true rfl) (tm25 hF2) (fun r19 g17 _ hF18 => ?_)
    exact tr_retI hF18
-- MP_count
abbrev t157_58 : List hOp := oPushI (-1) :: oRetI :: []
abbrev t157_52 : List hOp := oLdA 0 :: oLdI 1 :: oPushI 13 :: oBin (fun x y => x - y) :: oInvV 108 11 1 :: oRetI :: t157_58
abbrev t157_48 : List hOp := oLdA 0 :: oGetP 11 0 :: oGetI 1 9 :: oRetI :: t157_52
abbrev t157_40 : List hOp := oLdA 0 :: oGetP 11 19 :: oGetP 3 0 :: oLdI 1 :: oPushI 5 :: oBin (fun x y => x - y) :: oALdI 13 :: oRetI :: t157_48
abbrev t157_32 : List hOp := oLdA 0 :: oGetP 11 19 :: oGetP 3 0 :: oLdI 1 :: oPushI 6 :: oBin (fun x y => x - y) :: oALdI 13 :: oRetI :: t157_40
abbrev t157_28 : List hOp := oLdA 0 :: oGetP 11 10 :: oGetI 8 1 :: oRetI :: t157_32
abbrev t157_24 : List hOp := oLdA 0 :: oGetP 11 4 :: oGetI 4 2 :: oRetI :: t157_28
abbrev t157_20 : List hOp := oLdA 0 :: oGetP 11 0 :: oGetI 1 8 :: oRetI :: t157_24
abbrev t157_16 : List hOp := oLdA 0 :: oGetP 11 0 :: oGetI 1 6 :: oRetI :: t157_20
abbrev t157_11 : List hOp := oLdA 0 :: oGetP 11 1 :: oPushI 2 :: oInvV 20 2 1 :: oRetI :: t157_16
abbrev t157_6 : List hOp := oLdA 0 :: oGetP 11 1 :: oPushI 0 :: oInvV 20 2 1 :: oRetI :: t157_11
abbrev t157_2 : List hOp := oLdA 0 :: oGetP 11 0 :: oGetI 1 1 :: oRetI :: t157_6
abbrev t157_0 : List hOp := oLdI 1 :: oSw 0 [2, 6, 11, 16, 20, 24, 28, 32, 32, 32, 40, 40, 48, 52, 52, 52] 58 :: t157_2
theorem e157_0 : (opsOf 157).drop 0 = t157_0 := rfl
theorem e157_2 : (opsOf 157).drop 2 = t157_2 := rfl
theorem e157_6 : (opsOf 157).drop 6 = t157_6 := rfl
theorem e157_11 : (opsOf 157).drop 11 = t157_11 := rfl
theorem e157_16 : (opsOf 157).drop 16 = t157_16 := rfl
theorem e157_20 : (opsOf 157).drop 20 = t157_20 := rfl
theorem e157_24 : (opsOf 157).drop 24 = t157_24 := rfl
theorem e157_28 : (opsOf 157).drop 28 = t157_28 := rfl
theorem e157_32 : (opsOf 157).drop 32 = t157_32 := rfl
theorem e157_40 : (opsOf 157).drop 40 = t157_40 := rfl
theorem e157_48 : (opsOf 157).drop 48 = t157_48 := rfl
theorem e157_52 : (opsOf 157).drop 52 = t157_52 := rfl
theorem e157_58 : (opsOf 157).drop 58 = t157_58 := rfl
def q_MP_count (v1 : Int32) (g : hG) : hO Int32 :=
  if v1 = (0 : Int32) then (some ((gI g 1 1), g)) else if v1 = (1 : Int32) then (bnd (q_Mom_howManyAre 2 (0 : Int32) g) fun r3 g1 => some (r3, g1)) else if v1 = (2 : Int32) then (bnd (q_Mom_howManyAre 2 (2 : Int32) g) fun r6 g4 => some (r6, g4)) else if v1 = (3 : Int32) then (some ((gI g 1 6), g)) else if v1 = (4 : Int32) then (some ((gI g 1 8), g)) else if v1 = (5 : Int32) then (some ((gI g 54 2), g)) else if v1 = (6 : Int32) then (some ((gI g 235 1), g)) else if v1 = (7 : Int32) then (gd (v1 - (6 : Int32)) 7 <| some ((gI g 264 (v1 - (6 : Int32)).toNatClampNeg), g)) else if v1 = (8 : Int32) then (gd (v1 - (6 : Int32)) 7 <| some ((gI g 264 (v1 - (6 : Int32)).toNatClampNeg), g)) else if v1 = (9 : Int32) then (gd (v1 - (6 : Int32)) 7 <| some ((gI g 264 (v1 - (6 : Int32)).toNatClampNeg), g)) else if v1 = (10 : Int32) then (gd (v1 - (5 : Int32)) 7 <| some ((gI g 264 (v1 - (5 : Int32)).toNatClampNeg), g)) else if v1 = (11 : Int32) then (gd (v1 - (5 : Int32)) 7 <| some ((gI g 264 (v1 - (5 : Int32)).toNatClampNeg), g)) else if v1 = (12 : Int32) then (some ((gI g 1 9), g)) else if v1 = (13 : Int32) then (bnd (q_MP_termNow (v1 - (13 : Int32)) g) fun r9 g7 => some (r9, g7)) else if v1 = (14 : Int32) then (bnd (q_MP_termNow (v1 - (13 : Int32)) g) fun r12 g10 => some (r12, g10)) else if v1 = (15 : Int32) then (bnd (q_MP_termNow (v1 - (13 : Int32)) g) fun r15 g13 => some (r15, g13)) else (some ((-1 : Int32), g))
theorem tm157 {d : Nat} {v1 : Int32} (hd : 1 ≤ d) {g : hG} (hF : Frz g) : TM wI d 157 [.ref 0, .int v1] g (q_MP_count v1 g) := by
  obtain ⟨e, rfl⟩ : ∃ e, d = e + 1 := ⟨d - 1, by omega⟩
  have he := hd
  refine TM.ofE e157_0 (lv := [some (.ref 0), some (.int v1)]) rfl ?_
  unfold q_MP_count
  refine tr_ldI rfl (?_)
  refine tr_sw1E (c := (0 : Int32)) e157_2 rfl (fun _ => ?_) (fun _ => ?_)
  · refine tr_ldA rfl (tr_getP (b := 1) (fk_0 hF) (fp_0_0 hF) (tr_getI (fk_1 hF) (?_)))
    exact tr_retI hF
  refine tr_sw1E (c := (1 : Int32)) e157_6 rfl (fun _ => ?_) (fun _ => ?_)
  · refine tr_ldA rfl (tr_getP (b := 2) (fk_0 hF) (fp_0_1 hF) (tr_pushI (?_)))
    refine tr_invVI rfl rfl (fk_2 hF) (Nat.le_of_ble_eq_true rfl) (by decide) (Nat.le_of_ble_eq_true rfl) (tm20 rfl hF) (fun r3 g1 _ hF2 => ?_)
    exact tr_retI hF2
  refine tr_sw1E (c := (2 : Int32)) e157_11 rfl (fun _ => ?_) (fun _ => ?_)
  · refine tr_ldA rfl (tr_getP (b := 2) (fk_0 hF) (fp_0_1 hF) (tr_pushI (?_)))
    refine tr_invVI rfl rfl (fk_2 hF) (Nat.le_of_ble_eq_true rfl) (by decide) (Nat.le_of_ble_eq_true rfl) (tm20 rfl hF) (fun r6 g4 _ hF5 => ?_)
    exact tr_retI hF5
  refine tr_sw1E (c := (3 : Int32)) e157_16 rfl (fun _ => ?_) (fun _ => ?_)
  · refine tr_ldA rfl (tr_getP (b := 1) (fk_0 hF) (fp_0_0 hF) (tr_getI (fk_1 hF) (?_)))
    exact tr_retI hF
  refine tr_sw1E (c := (4 : Int32)) e157_20 rfl (fun _ => ?_) (fun _ => ?_)
  · refine tr_ldA rfl (tr_getP (b := 1) (fk_0 hF) (fp_0_0 hF) (tr_getI (fk_1 hF) (?_)))
    exact tr_retI hF
  refine tr_sw1E (c := (5 : Int32)) e157_24 rfl (fun _ => ?_) (fun _ => ?_)
  · refine tr_ldA rfl (tr_getP (b := 54) (fk_0 hF) (fp_0_4 hF) (tr_getI (fk_54 hF) (?_)))
    exact tr_retI hF
  refine tr_sw1E (c := (6 : Int32)) e157_28 rfl (fun _ => ?_) (fun _ => ?_)
  · refine tr_ldA rfl (tr_getP (b := 235) (fk_0 hF) (fp_0_10 hF) (tr_getI (fk_235 hF) (?_)))
    exact tr_retI hF
  refine tr_sw1E (c := (7 : Int32)) e157_32 rfl (fun _ => ?_) (fun _ => ?_)
  · refine tr_ldA rfl (tr_getP (b := 263) (fk_0 hF) (fp_0_19 hF) (tr_getP (b := 264) (fk_263 hF) (fp_263_0 hF) (tr_ldI rfl (tr_pushI (tr_bin (v := (v1 - (6 : Int32))) rfl (?_))))))
    refine tr_aldI (fk_264 hF) (fl_264 hF) (fun _ => ?_)
    exact tr_retI hF
  refine tr_sw1E (c := (8 : Int32)) e157_32 rfl (fun _ => ?_) (fun _ => ?_)
  · refine tr_ldA rfl (tr_getP (b := 263) (fk_0 hF) (fp_0_19 hF) (tr_getP (b := 264) (fk_263 hF) (fp_263_0 hF) (tr_ldI rfl (tr_pushI (tr_bin (v := (v1 - (6 : Int32))) rfl (?_))))))
    refine tr_aldI (fk_264 hF) (fl_264 hF) (fun _ => ?_)
    exact tr_retI hF
  refine tr_sw1E (c := (9 : Int32)) e157_32 rfl (fun _ => ?_) (fun _ => ?_)
  · refine tr_ldA rfl (tr_getP (b := 263) (fk_0 hF) (fp_0_19 hF) (tr_getP (b := 264) (fk_263 hF) (fp_263_0 hF) (tr_ldI rfl (tr_pushI (tr_bin (v := (v1 - (6 : Int32))) rfl (?_))))))
    refine tr_aldI (fk_264 hF) (fl_264 hF) (fun _ => ?_)
    exact tr_retI hF
  refine tr_sw1E (c := (10 : Int32)) e157_40 rfl (fun _ => ?_) (fun _ => ?_)
  · refine tr_ldA rfl (tr_getP (b := 263) (fk_0 hF) (fp_0_19 hF) (tr_getP (b := 264) (fk_263 hF) (fp_263_0 hF) (tr_ldI rfl (tr_pushI (tr_bin (v := (v1 - (5 : Int32))) rfl (?_))))))
    refine tr_aldI (fk_264 hF) (fl_264 hF) (fun _ => ?_)
    exact tr_retI hF
  refine tr_sw1E (c := (11 : Int32)) e157_40 rfl (fun _ => ?_) (fun _ => ?_)
  · refine tr_ldA rfl (tr_getP (b := 263) (fk_0 hF) (fp_0_19 hF) (tr_getP (b := 264) (fk_263 hF) (fp_263_0 hF) (tr_ldI rfl (tr_pushI (tr_bin (v := (v1 - (5 : Int32))) rfl (?_))))))
    refine tr_aldI (fk_264 hF) (fl_264 hF) (fun _ => ?_)
    exact tr_retI hF
  refine tr_sw1E (c := (12 : Int32)) e157_48 rfl (fun _ => ?_) (fun _ => ?_)
  · refine tr_ldA rfl (tr_getP (b := 1) (fk_0 hF) (fp_0_0 hF) (tr_getI (fk_1 hF) (?_)))
    exact tr_retI hF
  refine tr_sw1E (c := (13 : Int32)) e157_52 rfl (fun _ => ?_) (fun _ => ?_)
  · refine tr_ldA rfl (tr_ldI rfl (tr_pushI (tr_bin (v := (v1 - (13 : Int32))) rfl (?_))))
    refine tr_invVI rfl rfl (fk_0 hF) (Nat.le_of_ble_eq_true rfl) (by decide) (Nat.le_of_ble_eq_true rfl) (tm108 hF) (fun r9 g7 _ hF8 => ?_)
    exact tr_retI hF8
  refine tr_sw1E (c := (14 : Int32)) e157_52 rfl (fun _ => ?_) (fun _ => ?_)
  · refine tr_ldA rfl (tr_ldI rfl (tr_pushI (tr_bin (v := (v1 - (13 : Int32))) rfl (?_))))
    refine tr_invVI rfl rfl (fk_0 hF) (Nat.le_of_ble_eq_true rfl) (by decide) (Nat.le_of_ble_eq_true rfl) (tm108 hF) (fun r12 g10 _ hF11 => ?_)
    exact tr_retI hF11
  refine tr_sw1E (c := (15 : Int32)) e157_52 rfl (fun _ => ?_) (fun _ => ?_)
  · refine tr_ldA rfl (tr_ldI rfl (tr_pushI (tr_bin (v := (v1 - (13 : Int32))) rfl (?_))))
    refine tr_invVI rfl rfl (fk_0 hF) (Nat.le_of_ble_eq_true rfl) (by decide) (Nat.le_of_ble_eq_true rfl) (tm108 hF) (fun r15 g13 _ hF14 => ?_)
    exact tr_retI hF14
  refine tr_sw0E e157_58 ?_
  refine tr_pushI (?_)
  exact tr_retI hF
-- MP_status
abbrev t158_0 : List hOp := oLdA 0 :: oGetP 11 19 :: oGetI 3 1 :: oRetI :: []
theorem e158_0 : (opsOf 158).drop 0 = t158_0 := rfl
def q_MP_status (g : hG) : hO Int32 :=
  some ((gI g 263 1), g)
theorem tm158 {d : Nat} {g : hG} (hF : Frz g) : TM wI d 158 [.ref 0] g (q_MP_status g) := by
  refine TM.ofE e158_0 (lv := [some (.ref 0)]) rfl ?_
  unfold q_MP_status
  refine tr_ldA rfl (tr_getP (b := 263) (fk_0 hF) (fp_0_19 hF) (tr_getI (fk_263 hF) (?_)))
  exact tr_retI hF
-- Mo_in
abbrev t165_11 : List hOp := oRetZ :: []
abbrev t165_10 : List hOp := oPushI 0 :: t165_11
abbrev t165_0 : List hOp := oLdL 0 :: oLdL 2 :: oLCmp :: oIf0 cLt 10 :: oLdL 0 :: oLdL 4 :: oLCmp :: oIf0 cGt 10 :: oPushI 1 :: oGoto 11 :: t165_10
theorem e165_0 : (opsOf 165).drop 0 = t165_0 := rfl
theorem e165_10 : (opsOf 165).drop 10 = t165_10 := rfl
theorem e165_11 : (opsOf 165).drop 11 = t165_11 := rfl
def q_Mo_in (v0 : Int64) (v2 : Int64) (v4 : Int64) (g : hG) : hO Int32 :=
  if v0 < v2 then (some ((0 : Int32), g)) else (if v4 < v0 then (some ((0 : Int32), g)) else (some ((1 : Int32), g)))
theorem tm165 {d : Nat} {v0 : Int64} {v2 : Int64} {v4 : Int64} {g : hG} (hF : Frz g) : TM wI d 165 [.long v0, .long v2, .long v4] g (q_Mo_in v0 v2 v4 g) := by
  refine TM.ofE e165_0 (lv := [some (.long v0), none, some (.long v2), none, some (.long v4), none]) rfl ?_
  unfold q_Mo_in
  refine tr_ldL rfl (tr_ldL rfl (tr_lcmp (?_)))
  refine tr_if0j e165_10 (l_lt _ _) (fun hc1 => ?_) (fun hc1 => ?_)
  · refine tr_pushI (?_)
    exact tr_retZl (Or.inl rfl) hF
  · refine tr_ldL rfl (tr_ldL rfl (tr_lcmp (?_)))
    refine tr_if0j e165_10 (l_gt _ _) (fun hc2 => ?_) (fun hc2 => ?_)
    · refine tr_pushI (?_)
      exact tr_retZl (Or.inl rfl) hF
    · refine tr_pushI (?_)
      refine tr_gotoE e165_11 (?_)
      exact tr_retZl (Or.inr rfl) hF
-- Mo_isCell
abbrev t178_0 : List hOp := oLdI 0 :: oI2L :: oPushL 0 :: oPushL 24 :: oInvS 165 3 :: oRetZ :: []
theorem e178_0 : (opsOf 178).drop 0 = t178_0 := rfl
def q_Mo_isCell (v0 : Int32) (g : hG) : hO Int32 :=
  bnd (q_Mo_in v0.toInt64 (0 : Int64) (24 : Int64) g) fun r3 g1 => gb r3 (some (r3, g1))
theorem tm178 {d : Nat} {v0 : Int32} (hd : 1 ≤ d) {g : hG} (hF : Frz g) : TM wI d 178 [.int v0] g (q_Mo_isCell v0 g) := by
  obtain ⟨e, rfl⟩ : ∃ e, d = e + 1 := ⟨d - 1, by omega⟩
  have he := hd
  refine TM.ofE e178_0 (lv := [some (.int v0)]) rfl ?_
  unfold q_Mo_isCell
  refine tr_ldI rfl (tr_i2l (tr_pushL (tr_pushL (?_))))
  refine tr_invSI rfl rfl (Nat.le_of_ble_eq_true rfl) (Nat.le_of_ble_eq_true rfl) (by decide) (Nat.le_of_ble_eq_true rfl) (tm165 hF) (fun r3 g1 _ hF2 => ?_)
  exact tr_retZ hF2
-- Mo_is
abbrev t166_10 : List hOp := oRetZ :: []
abbrev t166_9 : List hOp := oPushI 0 :: t166_10
abbrev t166_0 : List hOp := oLdI 0 :: oLdI 1 :: oBin (fun x y => x >>> (y &&& 31)) :: oPushI 1 :: oBin (fun x y => x &&& y) :: oPushI 1 :: oIf cNe 9 :: oPushI 1 :: oGoto 10 :: t166_9
theorem e166_0 : (opsOf 166).drop 0 = t166_0 := rfl
theorem e166_9 : (opsOf 166).drop 9 = t166_9 := rfl
theorem e166_10 : (opsOf 166).drop 10 = t166_10 := rfl
def q_Mo_is (v0 : Int32) (v1 : Int32) (g : hG) : hO Int32 :=
  if ((shr v0 v1) &&& (1 : Int32)) = (1 : Int32) then (some ((1 : Int32), g)) else (some ((0 : Int32), g))
theorem tm166 {d : Nat} {v0 : Int32} {v1 : Int32} {g : hG} (hF : Frz g) : TM wI d 166 [.int v0, .int v1] g (q_Mo_is v0 v1 g) := by
  refine TM.ofE e166_0 (lv := [some (.int v0), some (.int v1)]) rfl ?_
  unfold q_Mo_is
  refine tr_ldI rfl (tr_ldI rfl (tr_bin (v := (shr v0 v1)) rfl (tr_pushI (tr_bin (v := ((shr v0 v1) &&& (1 : Int32))) rfl (tr_pushI (?_))))))
  refine tr_ifn e166_9 (c_ne _ _) (fun hc1 => ?_) (fun hc1 => ?_)
  · refine tr_pushI (?_)
    exact tr_retZl (Or.inl rfl) hF
  · refine tr_pushI (?_)
    refine tr_gotoE e166_10 (?_)
    exact tr_retZl (Or.inr rfl) hF
-- Mo_hasDoor
abbrev t180_0 : List hOp := oLdA 0 :: oGetP 12 3 :: oPushI 3 :: oALdI 13 :: oLdI 1 :: oInvS 166 2 :: oRetZ :: []
theorem e180_0 : (opsOf 180).drop 0 = t180_0 := rfl
def q_Mo_hasDoor (v1 : Int32) (g : hG) : hO Int32 :=
  gd (3 : Int32) 5468 <| bnd (q_Mo_is (gI g 369 (3 : Int32).toNatClampNeg) v1 g) fun r3 g1 => gb r3 (some (r3, g1))
theorem tm180 {d : Nat} {v1 : Int32} (hd : 1 ≤ d) {g : hG} (hF : Frz g) : TM wI d 180 [.ref 367, .int v1] g (q_Mo_hasDoor v1 g) := by
  obtain ⟨e, rfl⟩ : ∃ e, d = e + 1 := ⟨d - 1, by omega⟩
  have he := hd
  refine TM.ofE e180_0 (lv := [some (.ref 367), some (.int v1)]) rfl ?_
  unfold q_Mo_hasDoor
  refine tr_ldA rfl (tr_getP (b := 369) (fk_367 hF) (fp_367_3 hF) (tr_pushI (tr_aldI (fk_369 hF) (fl_369 hF) (fun _ => tr_ldI rfl (?_)))))
  refine tr_invSI rfl rfl (Nat.le_of_ble_eq_true rfl) (Nat.le_of_ble_eq_true rfl) (by decide) (Nat.le_of_ble_eq_true rfl) (tm166 hF) (fun r3 g1 _ hF2 => ?_)
  exact tr_retZ hF2
-- Mo_lettersOn
abbrev t181_33 : List hOp := oLdI 2 :: oRetI :: []
abbrev t181_29 : List hOp := oBin (fun x y => x ||| y) :: oStI 2 :: oInc 3 1 :: oGoto 4 :: t181_33
abbrev t181_28 : List hOp := oPushI 0 :: t181_29
abbrev t181_4 : List hOp := oLdI 3 :: oPushI 8 :: oIf cGe 33 :: oLdI 2 :: oLdA 0 :: oGetP 12 3 :: oPushI 32 :: oLdI 3 :: oBin (fun x y => x + y) :: oALdI 13 :: oPushI 1 :: oIf cNe 28 :: oLdA 0 :: oGetP 12 3 :: oPushI 40 :: oLdI 3 :: oBin (fun x y => x + y) :: oALdI 13 :: oLdI 1 :: oIf cNe 28 :: oPushI 1 :: oLdI 3 :: oBin (fun x y => x <<< (y &&& 31)) :: oGoto 29 :: t181_28
abbrev t181_0 : List hOp := oPushI 0 :: oStI 2 :: oPushI 0 :: oStI 3 :: t181_4
theorem e181_0 : (opsOf 181).drop 0 = t181_0 := rfl
theorem e181_4 : (opsOf 181).drop 4 = t181_4 := rfl
theorem e181_28 : (opsOf 181).drop 28 = t181_28 := rfl
theorem e181_29 : (opsOf 181).drop 29 = t181_29 := rfl
theorem e181_33 : (opsOf 181).drop 33 = t181_33 := rfl
def q_Mo_lettersOn_4 (v1 : Int32) (k33 : Int32 → hG → hO Int32) (k4 : Int32 → Int32 → hG → hO Int32) (v2 : Int32) (v3 : Int32) (g : hG) : hO Int32 :=
  if (8 : Int32) ≤ v3 then (k33 v2 g) else (gd ((32 : Int32) + v3) 5468 <| if (gI g 369 ((32 : Int32) + v3).toNatClampNeg) = (1 : Int32) then (gd ((40 : Int32) + v3) 5468 <| if (gI g 369 ((40 : Int32) + v3).toNatClampNeg) = v1 then (k4 (v2 ||| (shl (1 : Int32) v3)) (v3 + (1 : Int32)) g) else (k4 (v2 ||| (0 : Int32)) (v3 + (1 : Int32)) g)) else (k4 (v2 ||| (0 : Int32)) (v3 + (1 : Int32)) g))
def q_Mo_lettersOn_4L (v1 : Int32) (k33 : Int32 → hG → hO Int32) : Nat → Int32 → Int32 → hG → hO Int32
  | 0 => fun _ _ _ => none
  | n + 1 => fun v2 v3 g => q_Mo_lettersOn_4 v1 k33 (q_Mo_lettersOn_4L v1 k33 n) v2 v3 g
theorem q_Mo_lettersOn_4L_s (v1 : Int32) (k33 : Int32 → hG → hO Int32) (n : Nat) (v2 : Int32) (v3 : Int32) (g : hG) : q_Mo_lettersOn_4L v1 k33 (n + 1) v2 v3 g = q_Mo_lettersOn_4 v1 k33 (q_Mo_lettersOn_4L v1 k33 n) v2 v3 g := rfl
theorem th181_4 {d : Nat} {v1 : Int32} {k33 : Int32 → hG → hO Int32} {k4 : Int32 → Int32 → hG → hO Int32} {v2 : Int32} {v3 : Int32} (hk33 : ∀ (x2 : Int32) (y3 : Option Value) (g : hG), Frz g → Tri wI d 181 t181_33 [some (.ref 367), some (.int v1), some (.int x2), y3] [] g (k33 x2 g)) (hk4 : ∀ (x2 : Int32) (x3 : Int32) (g : hG), Frz g → Tri wI d 181 t181_4 [some (.ref 367), some (.int v1), some (.int x2), some (.int x3)] [] g (k4 x2 x3 g)) {g : hG} (hF : Frz g) : Tri wI d 181 t181_4 [some (.ref 367), some (.int v1), some (.int v2), some (.int v3)] [] g (q_Mo_lettersOn_4 v1 k33 k4 v2 v3 g) := by
  unfold q_Mo_lettersOn_4
  refine tr_ldI rfl (tr_pushI (?_))
  refine tr_ifj e181_33 (c_ge _ _) (fun hc1 => ?_) (fun hc1 => ?_)
  · exact hk33 _ _ _ hF
  · refine tr_ldI rfl (tr_ldA rfl (tr_getP (b := 369) (fk_367 hF) (fp_367_3 hF) (tr_pushI (tr_ldI rfl (tr_bin (v := ((32 : Int32) + v3)) rfl (?_))))))
    refine tr_aldI (fk_369 hF) (fl_369 hF) (fun _ => tr_pushI (?_))
    refine tr_ifn e181_28 (c_ne _ _) (fun hc2 => ?_) (fun hc2 => ?_)
    · refine tr_pushI (tr_bin (v := (v2 ||| (0 : Int32))) rfl (tr_stI (Nat.le_of_ble_eq_true rfl) rfl rfl (tr_inc rfl rfl rfl (?_))))
      refine tr_gotoE e181_4 (?_)
      exact hk4 _ _ _ hF
    · refine tr_ldA rfl (tr_getP (b := 369) (fk_367 hF) (fp_367_3 hF) (tr_pushI (tr_ldI rfl (tr_bin (v := ((40 : Int32) + v3)) rfl (tr_aldI (fk_369 hF) (fl_369 hF) (fun _ => ?_))))))
      refine tr_ldI rfl (?_)
      refine tr_ifn e181_28 (c_ne _ _) (fun hc3 => ?_) (fun hc3 => ?_)
      · refine tr_pushI (tr_bin (v := (v2 ||| (0 : Int32))) rfl (tr_stI (Nat.le_of_ble_eq_true rfl) rfl rfl (tr_inc rfl rfl rfl (?_))))
        refine tr_gotoE e181_4 (?_)
        exact hk4 _ _ _ hF
      · refine tr_pushI (tr_ldI rfl (tr_bin (v := (shl (1 : Int32) v3)) rfl (?_)))
        refine tr_gotoE e181_29 (?_)
        refine tr_bin (v := (v2 ||| (shl (1 : Int32) v3))) rfl (tr_stI (Nat.le_of_ble_eq_true rfl) rfl rfl (tr_inc rfl rfl rfl (?_)))
        refine tr_gotoE e181_4 (?_)
        exact hk4 _ _ _ hF
theorem th181_4L {d : Nat} {v1 : Int32} {k33 : Int32 → hG → hO Int32} (hk33 : ∀ (x2 : Int32) (y3 : Option Value) (g : hG), Frz g → Tri wI d 181 t181_33 [some (.ref 367), some (.int v1), some (.int x2), y3] [] g (k33 x2 g)) : ∀ (n : Nat) (v2 : Int32) (v3 : Int32) (g : hG), Frz g → Tri wI d 181 t181_4 [some (.ref 367), some (.int v1), some (.int v2), some (.int v3)] [] g (q_Mo_lettersOn_4L v1 k33 n v2 v3 g)
  | 0 => fun _ _ _ _ => Tri.none_
  | n + 1 => fun _ _ g hF => th181_4 hk33 (th181_4L hk33 n) hF
def q_Mo_lettersOn (v1 : Int32) (g : hG) : hO Int32 :=
  q_Mo_lettersOn_4L v1 (fun x4 g6 => some (x4, g6)) FU (0 : Int32) (0 : Int32) g
theorem tm181 {d : Nat} {v1 : Int32} {g : hG} (hF : Frz g) : TM wI d 181 [.ref 367, .int v1] g (q_Mo_lettersOn v1 g) := by
  refine TM.ofE e181_0 (lv := [some (.ref 367), some (.int v1), none, none]) rfl ?_
  unfold q_Mo_lettersOn
  refine tr_pushI (tr_stI (Nat.le_of_ble_eq_true rfl) rfl rfl (tr_pushI (tr_stI (Nat.le_of_ble_eq_true rfl) rfl rfl (?_))))
  refine th181_4L (fun x4 y5 g6 hF7 => ?_) FU _ _ _ hF
  · refine tr_ldI rfl (?_)
    exact tr_retI hF7
-- Mo_ones
abbrev t167_17 : List hOp := oLdI 1 :: oRetI :: []
abbrev t167_4 : List hOp := oLdI 2 :: oPushI 25 :: oIf cGe 17 :: oLdI 1 :: oLdI 0 :: oLdI 2 :: oBin (fun x y => x >>> (y &&& 31)) :: oPushI 1 :: oBin (fun x y => x &&& y) :: oBin (fun x y => x + y) :: oStI 1 :: oInc 2 1 :: oGoto 4 :: t167_17
abbrev t167_0 : List hOp := oPushI 0 :: oStI 1 :: oPushI 0 :: oStI 2 :: t167_4
theorem e167_0 : (opsOf 167).drop 0 = t167_0 := rfl
theorem e167_4 : (opsOf 167).drop 4 = t167_4 := rfl
theorem e167_17 : (opsOf 167).drop 17 = t167_17 := rfl
def q_Mo_ones_4 (v0 : Int32) (k17 : Int32 → hG → hO Int32) (k4 : Int32 → Int32 → hG → hO Int32) (v1 : Int32) (v2 : Int32) (g : hG) : hO Int32 :=
  if (25 : Int32) ≤ v2 then (k17 v1 g) else (k4 (v1 + ((shr v0 v2) &&& (1 : Int32))) (v2 + (1 : Int32)) g)
def q_Mo_ones_4L (v0 : Int32) (k17 : Int32 → hG → hO Int32) : Nat → Int32 → Int32 → hG → hO Int32
  | 0 => fun _ _ _ => none
  | n + 1 => fun v1 v2 g => q_Mo_ones_4 v0 k17 (q_Mo_ones_4L v0 k17 n) v1 v2 g
theorem q_Mo_ones_4L_s (v0 : Int32) (k17 : Int32 → hG → hO Int32) (n : Nat) (v1 : Int32) (v2 : Int32) (g : hG) : q_Mo_ones_4L v0 k17 (n + 1) v1 v2 g = q_Mo_ones_4 v0 k17 (q_Mo_ones_4L v0 k17 n) v1 v2 g := rfl
theorem th167_4 {d : Nat} {v0 : Int32} {k17 : Int32 → hG → hO Int32} {k4 : Int32 → Int32 → hG → hO Int32} {v1 : Int32} {v2 : Int32} (hk17 : ∀ (x1 : Int32) (y2 : Option Value) (g : hG), Frz g → Tri wI d 167 t167_17 [some (.int v0), some (.int x1), y2] [] g (k17 x1 g)) (hk4 : ∀ (x1 : Int32) (x2 : Int32) (g : hG), Frz g → Tri wI d 167 t167_4 [some (.int v0), some (.int x1), some (.int x2)] [] g (k4 x1 x2 g)) {g : hG} (hF : Frz g) : Tri wI d 167 t167_4 [some (.int v0), some (.int v1), some (.int v2)] [] g (q_Mo_ones_4 v0 k17 k4 v1 v2 g) := by
  unfold q_Mo_ones_4
  refine tr_ldI rfl (tr_pushI (?_))
  refine tr_ifj e167_17 (c_ge _ _) (fun hc1 => ?_) (fun hc1 => ?_)
  · exact hk17 _ _ _ hF
  · refine tr_ldI rfl (tr_ldI rfl (tr_ldI rfl (tr_bin (v := (shr v0 v2)) rfl (tr_pushI (tr_bin (v := ((shr v0 v2) &&& (1 : Int32))) rfl (?_))))))
    refine tr_bin (v := (v1 + ((shr v0 v2) &&& (1 : Int32)))) rfl (tr_stI (Nat.le_of_ble_eq_true rfl) rfl rfl (tr_inc rfl rfl rfl (?_)))
    refine tr_gotoE e167_4 (?_)
    exact hk4 _ _ _ hF
theorem th167_4L {d : Nat} {v0 : Int32} {k17 : Int32 → hG → hO Int32} (hk17 : ∀ (x1 : Int32) (y2 : Option Value) (g : hG), Frz g → Tri wI d 167 t167_17 [some (.int v0), some (.int x1), y2] [] g (k17 x1 g)) : ∀ (n : Nat) (v1 : Int32) (v2 : Int32) (g : hG), Frz g → Tri wI d 167 t167_4 [some (.int v0), some (.int v1), some (.int v2)] [] g (q_Mo_ones_4L v0 k17 n v1 v2 g)
  | 0 => fun _ _ _ _ => Tri.none_
  | n + 1 => fun _ _ g hF => th167_4 hk17 (th167_4L hk17 n) hF
def q_Mo_ones (v0 : Int32) (g : hG) : hO Int32 :=
  q_Mo_ones_4L v0 (fun x2 g4 => some (x2, g4)) FU (0 : Int32) (0 : Int32) g
theorem tm167 {d : Nat} {v0 : Int32} {g : hG} (hF : Frz g) : TM wI d 167 [.int v0] g (q_Mo_ones v0 g) := by
  refine TM.ofE e167_0 (lv := [some (.int v0), none, none]) rfl ?_
  unfold q_Mo_ones
  refine tr_pushI (tr_stI (Nat.le_of_ble_eq_true rfl) rfl rfl (tr_pushI (tr_stI (Nat.le_of_ble_eq_true rfl) rfl rfl (?_))))
  refine th167_4L (fun x2 y3 g4 hF5 => ?_) FU _ _ _ hF
  · refine tr_ldI rfl (?_)
    exact tr_retI hF5
-- Mo_reckon
abbrev t224_73 : List hOp := oRetL :: []
abbrev t224_72 : List hOp := oPushL 0 :: t224_73
abbrev t224_66 : List hOp := oLdL 2 :: oLdL 4 :: oLCmp :: oIf0 cNe 72 :: oPushL 1 :: oGoto 73 :: t224_72
abbrev t224_65 : List hOp := oRetL :: t224_66
abbrev t224_64 : List hOp := oPushL 0 :: t224_65
abbrev t224_58 : List hOp := oLdL 2 :: oLdL 4 :: oLCmp :: oIf0 cLe 64 :: oPushL 1 :: oGoto 65 :: t224_64
abbrev t224_57 : List hOp := oRetL :: t224_58
abbrev t224_56 : List hOp := oPushL 0 :: t224_57
abbrev t224_50 : List hOp := oLdL 2 :: oLdL 4 :: oLCmp :: oIf0 cGe 56 :: oPushL 1 :: oGoto 57 :: t224_56
abbrev t224_49 : List hOp := oRetL :: t224_50
abbrev t224_46 : List hOp := oLdL 2 :: oLdL 4 :: oLDvd (fun x y => x - x / y * y) :: t224_49
abbrev t224_40 : List hOp := oPutZ 12 38 :: oLdA 0 :: oGetI 12 38 :: oIf0 cEq 46 :: oPushL 0 :: oGoto 49 :: t224_46
abbrev t224_39 : List hOp := oPushI 0 :: t224_40
abbrev t224_32 : List hOp := oLdA 0 :: oLdL 4 :: oPushL 0 :: oLCmp :: oIf0 cNe 39 :: oPushI 1 :: oGoto 40 :: t224_39
abbrev t224_31 : List hOp := oRetL :: t224_32
abbrev t224_28 : List hOp := oLdL 2 :: oLdL 4 :: oLDvd (fun x y => x / y) :: t224_31
abbrev t224_22 : List hOp := oPutZ 12 38 :: oLdA 0 :: oGetI 12 38 :: oIf0 cEq 28 :: oPushL 0 :: oGoto 31 :: t224_28
abbrev t224_21 : List hOp := oPushI 0 :: t224_22
abbrev t224_14 : List hOp := oLdA 0 :: oLdL 4 :: oPushL 0 :: oLCmp :: oIf0 cNe 21 :: oPushI 1 :: oGoto 22 :: t224_21
abbrev t224_10 : List hOp := oLdL 2 :: oLdL 4 :: oLBin (fun x y => x * y) :: oRetL :: t224_14
abbrev t224_6 : List hOp := oLdL 2 :: oLdL 4 :: oLBin (fun x y => x - y) :: oRetL :: t224_10
abbrev t224_2 : List hOp := oLdL 2 :: oLdL 4 :: oLBin (fun x y => x + y) :: oRetL :: t224_6
abbrev t224_0 : List hOp := oLdI 1 :: oSw 20 [2, 6, 10, 14, 32, 50, 58] 66 :: t224_2
theorem e224_0 : (opsOf 224).drop 0 = t224_0 := rfl
theorem e224_2 : (opsOf 224).drop 2 = t224_2 := rfl
theorem e224_6 : (opsOf 224).drop 6 = t224_6 := rfl
theorem e224_10 : (opsOf 224).drop 10 = t224_10 := rfl
theorem e224_14 : (opsOf 224).drop 14 = t224_14 := rfl
theorem e224_21 : (opsOf 224).drop 21 = t224_21 := rfl
theorem e224_22 : (opsOf 224).drop 22 = t224_22 := rfl
theorem e224_28 : (opsOf 224).drop 28 = t224_28 := rfl
theorem e224_31 : (opsOf 224).drop 31 = t224_31 := rfl
theorem e224_32 : (opsOf 224).drop 32 = t224_32 := rfl
theorem e224_39 : (opsOf 224).drop 39 = t224_39 := rfl
theorem e224_40 : (opsOf 224).drop 40 = t224_40 := rfl
theorem e224_46 : (opsOf 224).drop 46 = t224_46 := rfl
theorem e224_49 : (opsOf 224).drop 49 = t224_49 := rfl
theorem e224_50 : (opsOf 224).drop 50 = t224_50 := rfl
theorem e224_56 : (opsOf 224).drop 56 = t224_56 := rfl
theorem e224_57 : (opsOf 224).drop 57 = t224_57 := rfl
theorem e224_58 : (opsOf 224).drop 58 = t224_58 := rfl
theorem e224_64 : (opsOf 224).drop 64 = t224_64 := rfl
theorem e224_65 : (opsOf 224).drop 65 = t224_65 := rfl
theorem e224_66 : (opsOf 224).drop 66 = t224_66 := rfl
theorem e224_72 : (opsOf 224).drop 72 = t224_72 := rfl
theorem e224_73 : (opsOf 224).drop 73 = t224_73 := rfl
def q_Mo_reckon_22 (v2 : Int64) (v4 : Int64) (w1 : Int32) (g : hG) : hO Int64 :=
  gb w1 <| wr (sI g 367 38 w1) fun g2 => if (gI g2 367 38) = (0 : Int32) then (gzL v4 <| some ((v2 / v4), g2)) else (some ((0 : Int64), g2))
theorem th224_22 {d : Nat} {v2 : Int64} {v4 : Int64} {w1 : Int32} {u1 : Option Value} {g : hG} (hF : Frz g) : Tri wJ d 224 t224_22 [some (.ref 367), u1, some (.long v2), none, some (.long v4), none] [.int w1, .ref 367] g (q_Mo_reckon_22 v2 v4 w1 g) := by
  unfold q_Mo_reckon_22
  refine tr_putZ hF (fk_367 hF) (fun g2 _ hF3 => tr_ldA rfl (tr_getI (fk_367 hF3) (?_)))
  refine tr_if0j e224_28 (c_eq _ _) (fun hc4 => ?_) (fun hc4 => ?_)
  · refine tr_ldL rfl (tr_ldL rfl (tr_ldvd (v := (v2 / v4)) rfl (fun _ => ?_)))
    exact tr_retL hF3
  · refine tr_pushL (?_)
    refine tr_gotoE e224_31 (?_)
    exact tr_retL hF3
def q_Mo_reckon_40 (v2 : Int64) (v4 : Int64) (w1 : Int32) (g : hG) : hO Int64 :=
  gb w1 <| wr (sI g 367 38 w1) fun g7 => if (gI g7 367 38) = (0 : Int32) then (gzL v4 <| some ((lrem v2 v4), g7)) else (some ((0 : Int64), g7))
theorem th224_40 {d : Nat} {v2 : Int64} {v4 : Int64} {w1 : Int32} {u1 : Option Value} {g : hG} (hF : Frz g) : Tri wJ d 224 t224_40 [some (.ref 367), u1, some (.long v2), none, some (.long v4), none] [.int w1, .ref 367] g (q_Mo_reckon_40 v2 v4 w1 g) := by
  unfold q_Mo_reckon_40
  refine tr_putZ hF (fk_367 hF) (fun g7 _ hF8 => tr_ldA rfl (tr_getI (fk_367 hF8) (?_)))
  refine tr_if0j e224_46 (c_eq _ _) (fun hc9 => ?_) (fun hc9 => ?_)
  · refine tr_ldL rfl (tr_ldL rfl (tr_ldvd (v := (lrem v2 v4)) rfl (fun _ => ?_)))
    exact tr_retL hF8
  · refine tr_pushL (?_)
    refine tr_gotoE e224_49 (?_)
    exact tr_retL hF8
def q_Mo_reckon (v1 : Int32) (v2 : Int64) (v4 : Int64) (g : hG) : hO Int64 :=
  if v1 = (20 : Int32) then (some ((v2 + v4), g)) else if v1 = (21 : Int32) then (some ((v2 - v4), g)) else if v1 = (22 : Int32) then (some ((v2 * v4), g)) else if v1 = (23 : Int32) then (q_Mo_reckon_22 v2 v4 (if v4 = (0 : Int64) then (1 : Int32) else (0 : Int32)) g) else if v1 = (24 : Int32) then (q_Mo_reckon_40 v2 v4 (if v4 = (0 : Int64) then (1 : Int32) else (0 : Int32)) g) else if v1 = (25 : Int32) then (if v4 ≤ v2 then (some ((0 : Int64), g)) else (some ((1 : Int64), g))) else if v1 = (26 : Int32) then (if v2 ≤ v4 then (some ((0 : Int64), g)) else (some ((1 : Int64), g))) else (if v2 = v4 then (some ((1 : Int64), g)) else (some ((0 : Int64), g)))
theorem tm224 {d : Nat} {v1 : Int32} {v2 : Int64} {v4 : Int64} {g : hG} (hF : Frz g) : TM wJ d 224 [.ref 367, .int v1, .long v2, .long v4] g (q_Mo_reckon v1 v2 v4 g) := by
  refine TM.ofE e224_0 (lv := [some (.ref 367), some (.int v1), some (.long v2), none, some (.long v4), none]) rfl ?_
  unfold q_Mo_reckon
  refine tr_ldI rfl (?_)
  refine tr_sw1E (c := (20 : Int32)) e224_2 rfl (fun _ => ?_) (fun _ => ?_)
  · refine tr_ldL rfl (tr_ldL rfl (tr_lbin (v := (v2 + v4)) rfl (?_)))
    exact tr_retL hF
  refine tr_sw1E (c := (21 : Int32)) e224_6 rfl (fun _ => ?_) (fun _ => ?_)
  · refine tr_ldL rfl (tr_ldL rfl (tr_lbin (v := (v2 - v4)) rfl (?_)))
    exact tr_retL hF
  refine tr_sw1E (c := (22 : Int32)) e224_10 rfl (fun _ => ?_) (fun _ => ?_)
  · refine tr_ldL rfl (tr_ldL rfl (tr_lbin (v := (v2 * v4)) rfl (?_)))
    exact tr_retL hF
  refine tr_sw1E (c := (23 : Int32)) e224_14 rfl (fun _ => ?_) (fun _ => ?_)
  · refine tr_ldA rfl (tr_ldL rfl (tr_pushL (tr_lcmp (?_))))
    refine tr_if0cE e224_21 (l_ne _ _) (fun hc5 => ?_) (fun hc5 => ?_)
    · rw [if_neg hc5]
      refine tr_pushI (?_)
      exact th224_22 hF
    · rw [if_pos (Decidable.not_not.mp hc5)]
      refine tr_pushI (?_)
      refine tr_gotoE e224_22 (?_)
      exact th224_22 hF
  refine tr_sw1E (c := (24 : Int32)) e224_32 rfl (fun _ => ?_) (fun _ => ?_)
  · refine tr_ldA rfl (tr_ldL rfl (tr_pushL (tr_lcmp (?_))))
    refine tr_if0cE e224_39 (l_ne _ _) (fun hc10 => ?_) (fun hc10 => ?_)
    · rw [if_neg hc10]
      refine tr_pushI (?_)
      exact th224_40 hF
    · rw [if_pos (Decidable.not_not.mp hc10)]
      refine tr_pushI (?_)
      refine tr_gotoE e224_40 (?_)
      exact th224_40 hF
  refine tr_sw1E (c := (25 : Int32)) e224_50 rfl (fun _ => ?_) (fun _ => ?_)
  · refine tr_ldL rfl (tr_ldL rfl (tr_lcmp (?_)))
    refine tr_if0j e224_56 (l_ge _ _) (fun hc11 => ?_) (fun hc11 => ?_)
    · refine tr_pushL (?_)
      exact tr_retL hF
    · refine tr_pushL (?_)
      refine tr_gotoE e224_57 (?_)
      exact tr_retL hF
  refine tr_sw1E (c := (26 : Int32)) e224_58 rfl (fun _ => ?_) (fun _ => ?_)
  · refine tr_ldL rfl (tr_ldL rfl (tr_lcmp (?_)))
    refine tr_if0j e224_64 (l_le _ _) (fun hc12 => ?_) (fun hc12 => ?_)
    · refine tr_pushL (?_)
      exact tr_retL hF
    · refine tr_pushL (?_)
      refine tr_gotoE e224_65 (?_)
      exact tr_retL hF
  refine tr_sw0E e224_66 ?_
  refine tr_ldL rfl (tr_ldL rfl (tr_lcmp (?_)))
  refine tr_if0n e224_72 (l_ne _ _) (fun hc13 => ?_) (fun hc13 => ?_)
  · refine tr_pushL (?_)
    exact tr_retL hF
  · refine tr_pushL (?_)
    refine tr_gotoE e224_73 (?_)
    exact tr_retL hF
-- Mo_reckonAll
abbrev t225_192 : List hOp := oPutJ 12 39 :: oRetV :: []
abbrev t225_191 : List hOp := oPushL 0 :: t225_192
abbrev t225_183 : List hOp := oLdA 0 :: oLdI 3 :: oIf0 cLe 191 :: oLdA 0 :: oGetP 12 37 :: oPushI 0 :: oALdJ :: oGoto 192 :: t225_191
abbrev t225_182 : List hOp := oGoto 7 :: t225_183
abbrev t225_181 : List hOp := oInc 3 (-1) :: t225_182
abbrev t225_176 : List hOp := oLCmp :: oIf0 cNe 181 :: oLdI 6 :: oStI 4 :: oGoto 182 :: t225_181
abbrev t225_175 : List hOp := oPushL 1 :: t225_176
abbrev t225_164 : List hOp := oLdA 0 :: oGetP 12 37 :: oLdI 3 :: oPushI 1 :: oBin (fun x y => x - y) :: oALdJ :: oLdI 5 :: oPushI 29 :: oIf cNe 175 :: oPushL 0 :: oGoto 176 :: t225_175
abbrev t225_146 : List hOp := oLdI 5 :: oPushI 28 :: oIf cNe 164 :: oLdA 0 :: oGetP 12 37 :: oLdI 3 :: oPushI 1 :: oBin (fun x y => x - y) :: oPushL 1 :: oLdA 0 :: oGetP 12 37 :: oLdI 3 :: oPushI 1 :: oBin (fun x y => x - y) :: oALdJ :: oLBin (fun x y => x - y) :: oAStJ :: oGoto 182 :: t225_164
abbrev t225_144 : List hOp := oPutZ 12 38 :: oGoto 182 :: t225_146
abbrev t225_143 : List hOp := oPushI 0 :: t225_144
abbrev t225_141 : List hOp := oPushI 1 :: oGoto 144 :: t225_143
abbrev t225_104 : List hOp := oLdI 5 :: oPushI 28 :: oIf cGe 146 :: oInc 3 (-1) :: oLdA 0 :: oGetP 12 37 :: oLdI 3 :: oPushI 1 :: oBin (fun x y => x - y) :: oLdA 0 :: oLdI 5 :: oLdA 0 :: oGetP 12 37 :: oLdI 3 :: oPushI 1 :: oBin (fun x y => x - y) :: oALdJ :: oLdA 0 :: oGetP 12 37 :: oLdI 3 :: oALdJ :: oInvV 224 12 3 :: oAStJ :: oLdA 0 :: oLdA 0 :: oGetI 12 38 :: oIf0 cNe 141 :: oLdA 0 :: oGetP 12 37 :: oLdI 3 :: oPushI 1 :: oBin (fun x y => x - y) :: oALdJ :: oPushL (-1000000000) :: oPushL 1000000000 :: oInvS 165 3 :: oIf0 cNe 143 :: t225_141
abbrev t225_101 : List hOp := oAStJ :: oInc 3 1 :: oGoto 182 :: t225_104
abbrev t225_94 : List hOp := oLdA 0 :: oGetP 12 3 :: oPushI 7 :: oLdI 6 :: oBin (fun x y => x + y) :: oALdI 13 :: oI2L :: t225_101
abbrev t225_83 : List hOp := oLdI 5 :: oPushI 6 :: oIf cNe 94 :: oLdA 0 :: oGetP 12 3 :: oPushI 40 :: oLdI 6 :: oBin (fun x y => x + y) :: oALdI 13 :: oI2L :: oGoto 101 :: t225_94
abbrev t225_75 : List hOp := oLdI 5 :: oPushI 6 :: oIf cGe 83 :: oLdA 0 :: oGetP 12 36 :: oLdI 5 :: oALdJ :: oGoto 101 :: t225_83
abbrev t225_67 : List hOp := oLdA 0 :: oGetI 12 20 :: oIf0 cNe 75 :: oLdA 0 :: oGetP 12 35 :: oLdI 5 :: oALdJ :: oGoto 101 :: t225_75
abbrev t225_54 : List hOp := oStI 6 :: oInc 4 1 :: oLdI 5 :: oPushI 20 :: oIf cGe 104 :: oLdA 0 :: oGetP 12 37 :: oLdI 3 :: oLdI 5 :: oIf0 cNe 67 :: oLdI 6 :: oI2L :: oGoto 101 :: t225_67
abbrev t225_41 : List hOp := oLdA 0 :: oGetP 12 3 :: oLdA 0 :: oGetI 12 34 :: oPushI 98 :: oBin (fun x y => x + y) :: oPushI 2 :: oLdI 4 :: oBin (fun x y => x * y) :: oBin (fun x y => x + y) :: oPushI 1 :: oBin (fun x y => x + y) :: oALdI 13 :: t225_54
abbrev t225_32 : List hOp := oStI 5 :: oLdA 0 :: oGetI 12 20 :: oIf0 cEq 41 :: oLdA 0 :: oGetP 12 25 :: oLdI 4 :: oALdI 13 :: oGoto 54 :: t225_41
abbrev t225_21 : List hOp := oLdA 0 :: oGetP 12 3 :: oLdA 0 :: oGetI 12 34 :: oPushI 98 :: oBin (fun x y => x + y) :: oPushI 2 :: oLdI 4 :: oBin (fun x y => x * y) :: oBin (fun x y => x + y) :: oALdI 13 :: t225_32
abbrev t225_7 : List hOp := oLdI 4 :: oLdI 2 :: oIf cGe 183 :: oLdA 0 :: oGetI 12 38 :: oIf0 cNe 183 :: oLdA 0 :: oGetI 12 20 :: oIf0 cEq 21 :: oLdA 0 :: oGetP 12 24 :: oLdI 4 :: oALdI 13 :: oGoto 32 :: t225_21
abbrev t225_0 : List hOp := oLdA 0 :: oPushI 0 :: oPutZ 12 38 :: oPushI 0 :: oStI 3 :: oLdI 1 :: oStI 4 :: t225_7
theorem e225_0 : (opsOf 225).drop 0 = t225_0 := rfl
theorem e225_7 : (opsOf 225).drop 7 = t225_7 := rfl
theorem e225_21 : (opsOf 225).drop 21 = t225_21 := rfl
theorem e225_32 : (opsOf 225).drop 32 = t225_32 := rfl
theorem e225_41 : (opsOf 225).drop 41 = t225_41 := rfl
theorem e225_54 : (opsOf 225).drop 54 = t225_54 := rfl
theorem e225_67 : (opsOf 225).drop 67 = t225_67 := rfl
theorem e225_75 : (opsOf 225).drop 75 = t225_75 := rfl
theorem e225_83 : (opsOf 225).drop 83 = t225_83 := rfl
theorem e225_94 : (opsOf 225).drop 94 = t225_94 := rfl
theorem e225_101 : (opsOf 225).drop 101 = t225_101 := rfl
theorem e225_104 : (opsOf 225).drop 104 = t225_104 := rfl
theorem e225_141 : (opsOf 225).drop 141 = t225_141 := rfl
theorem e225_143 : (opsOf 225).drop 143 = t225_143 := rfl
theorem e225_144 : (opsOf 225).drop 144 = t225_144 := rfl
theorem e225_146 : (opsOf 225).drop 146 = t225_146 := rfl
theorem e225_164 : (opsOf 225).drop 164 = t225_164 := rfl
theorem e225_175 : (opsOf 225).drop 175 = t225_175 := rfl
theorem e225_176 : (opsOf 225).drop 176 = t225_176 := rfl
theorem e225_181 : (opsOf 225).drop 181 = t225_181 := rfl
theorem e225_182 : (opsOf 225).drop 182 = t225_182 := rfl
theorem e225_183 : (opsOf 225).drop 183 = t225_183 := rfl
theorem e225_191 : (opsOf 225).drop 191 = t225_191 := rfl
theorem e225_192 : (opsOf 225).drop 192 = t225_192 := rfl
def q_Mo_reckonAll_176 (v3 : Int32) (v4 : Int32) (v6 : Int32) (k7 : Int32 → Int32 → hG → hO Unit) (w0 : Int64) (w1 : Int64) (g : hG) : hO Unit :=
  if w0 = w1 then (k7 v3 v6 g) else (k7 (v3 + (-1 : Int32)) v4 g)
theorem th225_176 {e : Nat} (he : 1 ≤ e + 1) {v3 : Int32} {v4 : Int32} {v6 : Int32} {k7 : Int32 → Int32 → hG → hO Unit} {w0 : Int64} {w1 : Int64} {u1 : Option Value} {u2 : Option Value} {u5 : Option Value} (hk7 : ∀ (x3 : Int32) (x4 : Int32) (y5 : Option Value) (y6 : Option Value) (_ : isL (some y5) = false) (g : hG), Frz g → Tri wU (e + 1) 225 t225_7 [some (.ref 367), u1, u2, some (.int x3), some (.int x4), y5, y6] [] g (k7 x3 x4 g)) (hu2 : isL (some u2) = false) (hu5 : isL (some u5) = false) {g : hG} (hF : Frz g) : Tri wU (e + 1) 225 t225_176 [some (.ref 367), u1, u2, some (.int v3), some (.int v4), u5, some (.int v6)] [.long w1, .long w0] g (q_Mo_reckonAll_176 v3 v4 v6 k7 w0 w1 g) := by
  unfold q_Mo_reckonAll_176
  refine tr_lcmp (?_)
  refine tr_if0n e225_181 (l_ne _ _) (fun hc11 => ?_) (fun hc11 => ?_)
  · refine tr_inc rfl (lKill_id hu2) rfl (?_)
    refine tr_gotoE e225_7 (?_)
    exact hk7 _ _ _ _ hu5 _ hF
  · refine tr_ldI rfl (tr_stI (Nat.le_of_ble_eq_true rfl) rfl rfl (?_))
    refine tr_gotoE e225_182 (?_)
    refine tr_gotoE e225_7 (?_)
    exact hk7 _ _ _ _ hu5 _ hF
def q_Mo_reckonAll_144 (v3 : Int32) (v4 : Int32) (k7 : Int32 → Int32 → hG → hO Unit) (w1 : Int32) (g : hG) : hO Unit :=
  gb w1 <| wr (sI g 367 38 w1) fun g21 => k7 v3 v4 g21
theorem th225_144 {e : Nat} (he : 1 ≤ e + 1) {v3 : Int32} {v4 : Int32} {k7 : Int32 → Int32 → hG → hO Unit} {w1 : Int32} {u1 : Option Value} {u2 : Option Value} {u5 : Option Value} {u6 : Option Value} (hk7 : ∀ (x3 : Int32) (x4 : Int32) (y5 : Option Value) (y6 : Option Value) (_ : isL (some y5) = false) (g : hG), Frz g → Tri wU (e + 1) 225 t225_7 [some (.ref 367), u1, u2, some (.int x3), some (.int x4), y5, y6] [] g (k7 x3 x4 g)) (hu2 : isL (some u2) = false) (hu5 : isL (some u5) = false) {g : hG} (hF : Frz g) : Tri wU (e + 1) 225 t225_144 [some (.ref 367), u1, u2, some (.int v3), some (.int v4), u5, u6] [.int w1, .ref 367] g (q_Mo_reckonAll_144 v3 v4 k7 w1 g) := by
  unfold q_Mo_reckonAll_144
  refine tr_putZ hF (fk_367 hF) (fun g21 _ hF22 => ?_)
  refine tr_gotoE e225_182 (?_)
  refine tr_gotoE e225_7 (?_)
  exact hk7 _ _ _ _ hu5 _ hF22
def q_Mo_reckonAll_101 (v3 : Int32) (v4 : Int32) (k7 : Int32 → Int32 → hG → hO Unit) (w1 : Int32) (w2 : Int64) (g : hG) : hO Unit :=
  gd w1 400 <| wr (sJ g 387 w1.toNatClampNeg w2) fun g32 => k7 (v3 + (1 : Int32)) v4 g32
theorem th225_101 {e : Nat} (he : 1 ≤ e + 1) {v3 : Int32} {v4 : Int32} {k7 : Int32 → Int32 → hG → hO Unit} {w1 : Int32} {w2 : Int64} {u1 : Option Value} {u2 : Option Value} {u5 : Option Value} {u6 : Option Value} (hk7 : ∀ (x3 : Int32) (x4 : Int32) (y5 : Option Value) (y6 : Option Value) (_ : isL (some y5) = false) (g : hG), Frz g → Tri wU (e + 1) 225 t225_7 [some (.ref 367), u1, u2, some (.int x3), some (.int x4), y5, y6] [] g (k7 x3 x4 g)) (hu2 : isL (some u2) = false) (hu5 : isL (some u5) = false) {g : hG} (hF : Frz g) : Tri wU (e + 1) 225 t225_101 [some (.ref 367), u1, u2, some (.int v3), some (.int v4), u5, u6] [.long w2, .int w1, .ref 387] g (q_Mo_reckonAll_101 v3 v4 k7 w1 w2 g) := by
  unfold q_Mo_reckonAll_101
  refine tr_astJ hF (fk_387 hF) (fl_387 hF) (fun _ g32 _ hF33 => tr_inc rfl (lKill_id hu2) rfl (?_))
  refine tr_gotoE e225_182 (?_)
  refine tr_gotoE e225_7 (?_)
  exact hk7 _ _ _ _ hu5 _ hF33
def q_Mo_reckonAll_54 (v3 : Int32) (v4 : Int32) (v5 : Int32) (k7 : Int32 → Int32 → hG → hO Unit) (w0 : Int32) (g : hG) : hO Unit :=
  if (20 : Int32) ≤ v5 then (if (28 : Int32) ≤ v5 then (if v5 = (28 : Int32) then (gd (v3 - (1 : Int32)) 400 <| gd (v3 - (1 : Int32)) 400 <| wr (sJ g 387 (v3 - (1 : Int32)).toNatClampNeg ((1 : Int64) - (gJ g 387 (v3 - (1 : Int32)).toNatClampNeg))) fun g13 => k7 v3 (v4 + (1 : Int32)) g13) else (gd (v3 - (1 : Int32)) 400 <| q_Mo_reckonAll_176 v3 (v4 + (1 : Int32)) w0 k7 (gJ g 387 (v3 - (1 : Int32)).toNatClampNeg) (if v5 = (29 : Int32) then (0 : Int64) else (1 : Int64)) g)) else (gd ((v3 + (-1 : Int32)) - (1 : Int32)) 400 <| gd (v3 + (-1 : Int32)) 400 <| bnd (q_Mo_reckon v5 (gJ g 387 ((v3 + (-1 : Int32)) - (1 : Int32)).toNatClampNeg) (gJ g 387 (v3 + (-1 : Int32)).toNatClampNeg) g) fun r17 g15 => gd ((v3 + (-1 : Int32)) - (1 : Int32)) 400 <| wr (sJ g15 387 ((v3 + (-1 : Int32)) - (1 : Int32)).toNatClampNeg r17) fun g18 => if (gI g18 367 38) = (0 : Int32) then (gd ((v3 + (-1 : Int32)) - (1 : Int32)) 400 <| bnd (q_Mo_in (gJ g18 387 ((v3 + (-1 : Int32)) - (1 : Int32)).toNatClampNeg) (-1000000000 : Int64) (1000000000 : Int64) g18) fun r25 g23 => q_Mo_reckonAll_144 (v3 + (-1 : Int32)) (v4 + (1 : Int32)) k7 (if r25 = (0 : Int32) then (1 : Int32) else (0 : Int32)) g23) else (q_Mo_reckonAll_144 (v3 + (-1 : Int32)) (v4 + (1 : Int32)) k7 (1 : Int32) g18))) else (if v5 = (0 : Int32) then (q_Mo_reckonAll_101 v3 (v4 + (1 : Int32)) k7 v3 w0.toInt64 g) else (if (gI g 367 20) = (0 : Int32) then (gd v5 13 <| q_Mo_reckonAll_101 v3 (v4 + (1 : Int32)) k7 v3 (gJ g 385 v5.toNatClampNeg) g) else (if (6 : Int32) ≤ v5 then (if v5 = (6 : Int32) then (gd ((40 : Int32) + w0) 5468 <| q_Mo_reckonAll_101 v3 (v4 + (1 : Int32)) k7 v3 ((gI g 369 ((40 : Int32) + w0).toNatClampNeg)).toInt64 g) else (gd ((7 : Int32) + w0) 5468 <| q_Mo_reckonAll_101 v3 (v4 + (1 : Int32)) k7 v3 ((gI g 369 ((7 : Int32) + w0).toNatClampNeg)).toInt64 g)) else (gd v5 13 <| q_Mo_reckonAll_101 v3 (v4 + (1 : Int32)) k7 v3 (gJ g 386 v5.toNatClampNeg) g))))
theorem th225_54 {e : Nat} (he : 1 ≤ e + 1) {v3 : Int32} {v4 : Int32} {v5 : Int32} {k7 : Int32 → Int32 → hG → hO Unit} {w0 : Int32} {u1 : Option Value} {u2 : Option Value} {u6 : Option Value} (hk7 : ∀ (x3 : Int32) (x4 : Int32) (y5 : Option Value) (y6 : Option Value) (_ : isL (some y5) = false) (g : hG), Frz g → Tri wU (e + 1) 225 t225_7 [some (.ref 367), u1, u2, some (.int x3), some (.int x4), y5, y6] [] g (k7 x3 x4 g)) (hu2 : isL (some u2) = false) {g : hG} (hF : Frz g) : Tri wU (e + 1) 225 t225_54 [some (.ref 367), u1, u2, some (.int v3), some (.int v4), some (.int v5), u6] [.int w0] g (q_Mo_reckonAll_54 v3 v4 v5 k7 w0 g) := by
  unfold q_Mo_reckonAll_54
  refine tr_stI (Nat.le_of_ble_eq_true rfl) rfl rfl (tr_inc rfl rfl rfl (tr_ldI rfl (tr_pushI (?_))))
  refine tr_ifj e225_104 (c_ge _ _) (fun hc7 => ?_) (fun hc7 => ?_)
  · refine tr_ldI rfl (tr_pushI (?_))
    refine tr_ifj e225_146 (c_ge _ _) (fun hc8 => ?_) (fun hc8 => ?_)
    · refine tr_ldI rfl (tr_pushI (?_))
      refine tr_ifn e225_164 (c_ne _ _) (fun hc9 => ?_) (fun hc9 => ?_)
      · refine tr_ldA rfl (tr_getP (b := 387) (fk_367 hF) (fp_367_37 hF) (tr_ldI rfl (tr_pushI (tr_bin (v := (v3 - (1 : Int32))) rfl (tr_aldJ (fk_387 hF) (fl_387 hF) (fun _ => ?_))))))
        refine tr_ldI rfl (tr_pushI (?_))
        refine tr_ifcE e225_175 (c_ne _ _) (fun hc12 => ?_) (fun hc12 => ?_)
        · rw [if_neg hc12]
          refine tr_pushL (?_)
          exact th225_176 he hk7 hu2 rfl hF
        · rw [if_pos (Decidable.not_not.mp hc12)]
          refine tr_pushL (?_)
          refine tr_gotoE e225_176 (?_)
          exact th225_176 he hk7 hu2 rfl hF
      · refine tr_ldA rfl (tr_getP (b := 387) (fk_367 hF) (fp_367_37 hF) (tr_ldI rfl (tr_pushI (tr_bin (v := (v3 - (1 : Int32))) rfl (tr_pushL (?_))))))
        refine tr_ldA rfl (tr_getP (b := 387) (fk_367 hF) (fp_367_37 hF) (tr_ldI rfl (tr_pushI (tr_bin (v := (v3 - (1 : Int32))) rfl (tr_aldJ (fk_387 hF) (fl_387 hF) (fun _ => ?_))))))
        refine tr_lbin (v := ((1 : Int64) - (gJ g 387 (v3 - (1 : Int32)).toNatClampNeg))) rfl (tr_astJ hF (fk_387 hF) (fl_387 hF) (fun _ g13 _ hF14 => ?_))
        refine tr_gotoE e225_182 (?_)
        refine tr_gotoE e225_7 (?_)
        exact hk7 _ _ _ _ rfl _ hF14
    · refine tr_inc rfl (lKill_id hu2) rfl (tr_ldA rfl (tr_getP (b := 387) (fk_367 hF) (fp_367_37 hF) (tr_ldI rfl (tr_pushI (tr_bin (v := ((v3 + (-1 : Int32)) - (1 : Int32))) rfl (?_))))))
      refine tr_ldA rfl (tr_ldI rfl (tr_ldA rfl (tr_getP (b := 387) (fk_367 hF) (fp_367_37 hF) (tr_ldI rfl (tr_pushI (?_))))))
      refine tr_bin (v := ((v3 + (-1 : Int32)) - (1 : Int32))) rfl (tr_aldJ (fk_387 hF) (fl_387 hF) (fun _ => tr_ldA rfl (tr_getP (b := 387) (fk_367 hF) (fp_367_37 hF) (tr_ldI rfl (tr_aldJ (fk_387 hF) (fl_387 hF) (fun _ => ?_))))))
      refine tr_invVJ rfl rfl (fk_367 hF) (Nat.le_of_ble_eq_true rfl) (by decide) (Nat.le_of_ble_eq_true rfl) (tm224 hF) (fun r17 g15 _ hF16 => ?_)
      refine tr_astJ hF16 (fk_387 hF16) (fl_387 hF16) (fun _ g18 _ hF19 => tr_ldA rfl (tr_ldA rfl (tr_getI (fk_367 hF19) (?_))))
      refine tr_if0n e225_141 (c_ne _ _) (fun hc20 => ?_) (fun hc20 => ?_)
      · refine tr_pushI (?_)
        refine tr_gotoE e225_144 (?_)
        exact th225_144 he hk7 hu2 rfl hF19
      · refine tr_ldA rfl (tr_getP (b := 387) (fk_367 hF19) (fp_367_37 hF19) (tr_ldI rfl (tr_pushI (tr_bin (v := ((v3 + (-1 : Int32)) - (1 : Int32))) rfl (tr_aldJ (fk_387 hF19) (fl_387 hF19) (fun _ => ?_))))))
        refine tr_pushL (tr_pushL (?_))
        refine tr_invSI rfl rfl (Nat.le_of_ble_eq_true rfl) (Nat.le_of_ble_eq_true rfl) (by decide) (Nat.le_of_ble_eq_true rfl) (tm165 hF19) (fun r25 g23 _ hF24 => ?_)
        refine tr_if0cE e225_143 (c_ne _ _) (fun hc27 => ?_) (fun hc27 => ?_)
        · rw [if_neg hc27]
          refine tr_pushI (?_)
          exact th225_144 he hk7 hu2 rfl hF24
        · rw [if_pos (Decidable.not_not.mp hc27)]
          refine tr_pushI (?_)
          refine tr_gotoE e225_144 (?_)
          exact th225_144 he hk7 hu2 rfl hF24
  · refine tr_ldA rfl (tr_getP (b := 387) (fk_367 hF) (fp_367_37 hF) (tr_ldI rfl (tr_ldI rfl (?_))))
    refine tr_if0n e225_67 (c_ne _ _) (fun hc28 => ?_) (fun hc28 => ?_)
    · refine tr_ldA rfl (tr_getI (fk_367 hF) (?_))
      refine tr_if0n e225_75 (c_ne _ _) (fun hc29 => ?_) (fun hc29 => ?_)
      · refine tr_ldI rfl (tr_pushI (?_))
        refine tr_ifj e225_83 (c_ge _ _) (fun hc30 => ?_) (fun hc30 => ?_)
        · refine tr_ldI rfl (tr_pushI (?_))
          refine tr_ifn e225_94 (c_ne _ _) (fun hc31 => ?_) (fun hc31 => ?_)
          · refine tr_ldA rfl (tr_getP (b := 369) (fk_367 hF) (fp_367_3 hF) (tr_pushI (tr_ldI rfl (tr_bin (v := ((7 : Int32) + w0)) rfl (tr_aldI (fk_369 hF) (fl_369 hF) (fun _ => ?_))))))
            refine tr_i2l (?_)
            exact th225_101 he hk7 hu2 rfl hF
          · refine tr_ldA rfl (tr_getP (b := 369) (fk_367 hF) (fp_367_3 hF) (tr_pushI (tr_ldI rfl (tr_bin (v := ((40 : Int32) + w0)) rfl (tr_aldI (fk_369 hF) (fl_369 hF) (fun _ => ?_))))))
            refine tr_i2l (?_)
            refine tr_gotoE e225_101 (?_)
            exact th225_101 he hk7 hu2 rfl hF
        · refine tr_ldA rfl (tr_getP (b := 386) (fk_367 hF) (fp_367_36 hF) (tr_ldI rfl (tr_aldJ (fk_386 hF) (fl_386 hF) (fun _ => ?_))))
          refine tr_gotoE e225_101 (?_)
          exact th225_101 he hk7 hu2 rfl hF
      · refine tr_ldA rfl (tr_getP (b := 385) (fk_367 hF) (fp_367_35 hF) (tr_ldI rfl (tr_aldJ (fk_385 hF) (fl_385 hF) (fun _ => ?_))))
        refine tr_gotoE e225_101 (?_)
        exact th225_101 he hk7 hu2 rfl hF
    · refine tr_ldI rfl (tr_i2l (?_))
      refine tr_gotoE e225_101 (?_)
      exact th225_101 he hk7 hu2 rfl hF
def q_Mo_reckonAll_32 (v3 : Int32) (v4 : Int32) (k7 : Int32 → Int32 → hG → hO Unit) (w0 : Int32) (g : hG) : hO Unit :=
  if (gI g 367 20) = (0 : Int32) then (gd ((((gI g 367 34) + (98 : Int32)) + ((2 : Int32) * v4)) + (1 : Int32)) 5468 <| q_Mo_reckonAll_54 v3 v4 w0 k7 (gI g 369 ((((gI g 367 34) + (98 : Int32)) + ((2 : Int32) * v4)) + (1 : Int32)).toNatClampNeg) g) else (gd v4 400 <| q_Mo_reckonAll_54 v3 v4 w0 k7 (gI g 379 v4.toNatClampNeg) g)
theorem th225_32 {e : Nat} (he : 1 ≤ e + 1) {v3 : Int32} {v4 : Int32} {k7 : Int32 → Int32 → hG → hO Unit} {w0 : Int32} {u1 : Option Value} {u2 : Option Value} {u5 : Option Value} {u6 : Option Value} (hk7 : ∀ (x3 : Int32) (x4 : Int32) (y5 : Option Value) (y6 : Option Value) (_ : isL (some y5) = false) (g : hG), Frz g → Tri wU (e + 1) 225 t225_7 [some (.ref 367), u1, u2, some (.int x3), some (.int x4), y5, y6] [] g (k7 x3 x4 g)) (hu2 : isL (some u2) = false) (hu5 : isL (some u5) = false) {g : hG} (hF : Frz g) : Tri wU (e + 1) 225 t225_32 [some (.ref 367), u1, u2, some (.int v3), some (.int v4), u5, u6] [.int w0] g (q_Mo_reckonAll_32 v3 v4 k7 w0 g) := by
  unfold q_Mo_reckonAll_32
  refine tr_stI (Nat.le_of_ble_eq_true rfl) rfl rfl (tr_ldA rfl (tr_getI (fk_367 hF) (?_)))
  refine tr_if0j e225_41 (c_eq _ _) (fun hc6 => ?_) (fun hc6 => ?_)
  · refine tr_ldA rfl (tr_getP (b := 369) (fk_367 hF) (fp_367_3 hF) (tr_ldA rfl (tr_getI (fk_367 hF) (tr_pushI (tr_bin (v := ((gI g 367 34) + (98 : Int32))) rfl (?_))))))
    refine tr_pushI (tr_ldI rfl (tr_bin (v := ((2 : Int32) * v4)) rfl (tr_bin (v := (((gI g 367 34) + (98 : Int32)) + ((2 : Int32) * v4))) rfl (tr_pushI (tr_bin (v := ((((gI g 367 34) + (98 : Int32)) + ((2 : Int32) * v4)) + (1 : Int32))) rfl (?_))))))
    refine tr_aldI (fk_369 hF) (fl_369 hF) (fun _ => ?_)
    exact th225_54 he hk7 hu2 hF
  · refine tr_ldA rfl (tr_getP (b := 379) (fk_367 hF) (fp_367_25 hF) (tr_ldI rfl (tr_aldI (fk_379 hF) (fl_379 hF) (fun _ => ?_))))
    refine tr_gotoE e225_54 (?_)
    exact th225_54 he hk7 hu2 hF
def q_Mo_reckonAll_7 (v2 : Int32) (k183 : Int32 → hG → hO Unit) (k7 : Int32 → Int32 → hG → hO Unit) (v3 : Int32) (v4 : Int32) (g : hG) : hO Unit :=
  if v2 ≤ v4 then (k183 v3 g) else (if (gI g 367 38) = (0 : Int32) then (if (gI g 367 20) = (0 : Int32) then (gd (((gI g 367 34) + (98 : Int32)) + ((2 : Int32) * v4)) 5468 <| q_Mo_reckonAll_32 v3 v4 k7 (gI g 369 (((gI g 367 34) + (98 : Int32)) + ((2 : Int32) * v4)).toNatClampNeg) g) else (gd v4 400 <| q_Mo_reckonAll_32 v3 v4 k7 (gI g 378 v4.toNatClampNeg) g)) else (k183 v3 g))
def q_Mo_reckonAll_7L (v2 : Int32) (k183 : Int32 → hG → hO Unit) : Nat → Int32 → Int32 → hG → hO Unit
  | 0 => fun _ _ _ => none
  | n + 1 => fun v3 v4 g => q_Mo_reckonAll_7 v2 k183 (q_Mo_reckonAll_7L v2 k183 n) v3 v4 g
theorem q_Mo_reckonAll_7L_s (v2 : Int32) (k183 : Int32 → hG → hO Unit) (n : Nat) (v3 : Int32) (v4 : Int32) (g : hG) : q_Mo_reckonAll_7L v2 k183 (n + 1) v3 v4 g = q_Mo_reckonAll_7 v2 k183 (q_Mo_reckonAll_7L v2 k183 n) v3 v4 g := rfl
theorem th225_7 {e : Nat} (he : 1 ≤ e + 1) {v2 : Int32} {k183 : Int32 → hG → hO Unit} {k7 : Int32 → Int32 → hG → hO Unit} {v3 : Int32} {v4 : Int32} {u1 : Option Value} {u5 : Option Value} {u6 : Option Value} (hk183 : ∀ (x3 : Int32) (y4 : Option Value) (y5 : Option Value) (y6 : Option Value) (_ : isL (some y4) = false) (_ : isL (some y5) = false) (g : hG), Frz g → Tri wU (e + 1) 225 t225_183 [some (.ref 367), u1, some (.int v2), some (.int x3), y4, y5, y6] [] g (k183 x3 g)) (hk7 : ∀ (x3 : Int32) (x4 : Int32) (y5 : Option Value) (y6 : Option Value) (_ : isL (some y5) = false) (g : hG), Frz g → Tri wU (e + 1) 225 t225_7 [some (.ref 367), u1, some (.int v2), some (.int x3), some (.int x4), y5, y6] [] g (k7 x3 x4 g)) (hu5 : isL (some u5) = false) {g : hG} (hF : Frz g) : Tri wU (e + 1) 225 t225_7 [some (.ref 367), u1, some (.int v2), some (.int v3), some (.int v4), u5, u6] [] g (q_Mo_reckonAll_7 v2 k183 k7 v3 v4 g) := by
  unfold q_Mo_reckonAll_7
  refine tr_ldI rfl (tr_ldI rfl (?_))
  refine tr_ifj e225_183 (c_ge _ _) (fun hc3 => ?_) (fun hc3 => ?_)
  · exact hk183 _ _ _ _ rfl hu5 _ hF
  · refine tr_ldA rfl (tr_getI (fk_367 hF) (?_))
    refine tr_if0n e225_183 (c_ne _ _) (fun hc4 => ?_) (fun hc4 => ?_)
    · exact hk183 _ _ _ _ rfl hu5 _ hF
    · refine tr_ldA rfl (tr_getI (fk_367 hF) (?_))
      refine tr_if0j e225_21 (c_eq _ _) (fun hc5 => ?_) (fun hc5 => ?_)
      · refine tr_ldA rfl (tr_getP (b := 369) (fk_367 hF) (fp_367_3 hF) (tr_ldA rfl (tr_getI (fk_367 hF) (tr_pushI (tr_bin (v := ((gI g 367 34) + (98 : Int32))) rfl (?_))))))
        refine tr_pushI (tr_ldI rfl (tr_bin (v := ((2 : Int32) * v4)) rfl (tr_bin (v := (((gI g 367 34) + (98 : Int32)) + ((2 : Int32) * v4))) rfl (tr_aldI (fk_369 hF) (fl_369 hF) (fun _ => ?_)))))
        exact th225_32 he hk7 rfl hu5 hF
      · refine tr_ldA rfl (tr_getP (b := 378) (fk_367 hF) (fp_367_24 hF) (tr_ldI rfl (tr_aldI (fk_378 hF) (fl_378 hF) (fun _ => ?_))))
        refine tr_gotoE e225_32 (?_)
        exact th225_32 he hk7 rfl hu5 hF
theorem th225_7L {e : Nat} (he : 1 ≤ e + 1) {v2 : Int32} {k183 : Int32 → hG → hO Unit} {u1 : Option Value} (hk183 : ∀ (x3 : Int32) (y4 : Option Value) (y5 : Option Value) (y6 : Option Value) (_ : isL (some y4) = false) (_ : isL (some y5) = false) (g : hG), Frz g → Tri wU (e + 1) 225 t225_183 [some (.ref 367), u1, some (.int v2), some (.int x3), y4, y5, y6] [] g (k183 x3 g)) : ∀ (n : Nat) (v3 : Int32) (v4 : Int32) (u5 : Option Value) (u6 : Option Value) (_ : isL (some u5) = false) (g : hG), Frz g → Tri wU (e + 1) 225 t225_7 [some (.ref 367), u1, some (.int v2), some (.int v3), some (.int v4), u5, u6] [] g (q_Mo_reckonAll_7L v2 k183 n v3 v4 g)
  | 0 => fun _ _ _ _ _ _ _ => Tri.none_
  | n + 1 => fun _ _ _ _ z5 g hF => th225_7 he hk183 (th225_7L he hk183 n) z5 hF
def q_Mo_reckonAll_192 (w1 : Int64) (g : hG) : hO Unit :=
  wr (sJ g 367 39 w1) fun g41 => some ((), g41)
theorem th225_192 {e : Nat} (he : 1 ≤ e + 1) {w1 : Int64} {u1 : Option Value} {u2 : Option Value} {u3 : Option Value} {u4 : Option Value} {u5 : Option Value} {u6 : Option Value} (hu2 : isL (some u2) = false) (hu3 : isL (some u3) = false) (hu4 : isL (some u4) = false) (hu5 : isL (some u5) = false) {g : hG} (hF : Frz g) : Tri wU (e + 1) 225 t225_192 [some (.ref 367), u1, u2, u3, u4, u5, u6] [.long w1, .ref 367] g (q_Mo_reckonAll_192 w1 g) := by
  unfold q_Mo_reckonAll_192
  refine tr_putJ hF (fk_367 hF) (fun g41 _ hF42 => ?_)
  exact tr_retV hF42
def q_Mo_reckonAll_183 (v3 : Int32) (g : hG) : hO Unit :=
  if v3 ≤ (0 : Int32) then (q_Mo_reckonAll_192 (0 : Int64) g) else (gd (0 : Int32) 400 <| q_Mo_reckonAll_192 (gJ g 387 (0 : Int32).toNatClampNeg) g)
theorem th225_183 {e : Nat} (he : 1 ≤ e + 1) {v3 : Int32} {u1 : Option Value} {u2 : Option Value} {u4 : Option Value} {u5 : Option Value} {u6 : Option Value} (hu2 : isL (some u2) = false) (hu4 : isL (some u4) = false) (hu5 : isL (some u5) = false) {g : hG} (hF : Frz g) : Tri wU (e + 1) 225 t225_183 [some (.ref 367), u1, u2, some (.int v3), u4, u5, u6] [] g (q_Mo_reckonAll_183 v3 g) := by
  unfold q_Mo_reckonAll_183
  refine tr_ldA rfl (tr_ldI rfl (?_))
  refine tr_if0j e225_191 (c_le _ _) (fun hc40 => ?_) (fun hc40 => ?_)
  · refine tr_pushL (?_)
    exact th225_192 he hu2 rfl hu4 hu5 hF
  · refine tr_ldA rfl (tr_getP (b := 387) (fk_367 hF) (fp_367_37 hF) (tr_pushI (tr_aldJ (fk_387 hF) (fl_387 hF) (fun _ => ?_))))
    refine tr_gotoE e225_192 (?_)
    exact th225_192 he hu2 rfl hu4 hu5 hF
def q_Mo_reckonAll (v1 : Int32) (v2 : Int32) (g : hG) : hO Unit :=
  wr (sI g 367 38 (0 : Int32)) fun g1 => q_Mo_reckonAll_7L v2 (fun x34 g38 => q_Mo_reckonAll_183 x34 g38) FU (0 : Int32) v1 g1
theorem tm225 {d : Nat} {v1 : Int32} {v2 : Int32} (hd : 1 ≤ d) {g : hG} (hF : Frz g) : TM wU d 225 [.ref 367, .int v1, .int v2] g (q_Mo_reckonAll v1 v2 g) := by
  obtain ⟨e, rfl⟩ : ∃ e, d = e + 1 := ⟨d - 1, by omega⟩
  have he := hd
  refine TM.ofE e225_0 (lv := [some (.ref 367), some (.int v1), some (.int v2), none, none, none, none]) rfl ?_
  unfold q_Mo_reckonAll
  refine tr_ldA rfl (tr_pushI (tr_putZl (Or.inl rfl) hF (fk_367 hF) (fun g1 _ hF2 => tr_pushI (tr_stI (Nat.le_of_ble_eq_true rfl) rfl rfl (tr_ldI rfl (?_))))))
  refine tr_stI (Nat.le_of_ble_eq_true rfl) rfl rfl (?_)
  refine th225_7L he (fun x34 y35 y36 y37 zy35 zy36 g38 hF39 => ?_) FU _ _ _ _ rfl _ hF2
  · exact th225_183 he rfl zy35 zy36 hF39
-- Mo_isSo
abbrev t226_68 : List hOp := oPushI 1 :: oRetZ :: []
abbrev t226_67 : List hOp := oRetZ :: t226_68
abbrev t226_66 : List hOp := oPushI 0 :: t226_67
abbrev t226_37 : List hOp := oLdA 0 :: oGetP 12 3 :: oLdI 1 :: oALdI 13 :: oPushI 1 :: oIf cEq 68 :: oLdA 0 :: oLdA 0 :: oGetP 12 3 :: oLdI 1 :: oPushI 3 :: oBin (fun x y => x + y) :: oALdI 13 :: oLdA 0 :: oGetP 12 3 :: oLdI 1 :: oPushI 4 :: oBin (fun x y => x + y) :: oALdI 13 :: oInvV 225 12 2 :: oLdA 0 :: oLdA 0 :: oGetJ 12 39 :: oPutJ 12 40 :: oLdA 0 :: oGetI 12 38 :: oIf0 cNe 66 :: oPushI 1 :: oGoto 67 :: t226_66
abbrev t226_35 : List hOp := oPushI 0 :: oRetZ :: t226_37
abbrev t226_0 : List hOp := oLdA 0 :: oGetP 12 3 :: oLdI 1 :: oPushI 5 :: oBin (fun x y => x + y) :: oALdI 13 :: oLdA 0 :: oGetP 12 3 :: oLdI 1 :: oPushI 6 :: oBin (fun x y => x + y) :: oALdI 13 :: oIf cGe 37 :: oLdA 0 :: oLdA 0 :: oGetP 12 3 :: oLdI 1 :: oPushI 5 :: oBin (fun x y => x + y) :: oALdI 13 :: oLdA 0 :: oGetP 12 3 :: oLdI 1 :: oPushI 6 :: oBin (fun x y => x + y) :: oALdI 13 :: oInvV 225 12 2 :: oLdA 0 :: oGetI 12 38 :: oIf0 cNe 35 :: oLdA 0 :: oGetJ 12 39 :: oPushL 0 :: oLCmp :: oIf0 cNe 37 :: t226_35
theorem e226_0 : (opsOf 226).drop 0 = t226_0 := rfl
theorem e226_35 : (opsOf 226).drop 35 = t226_35 := rfl
theorem e226_37 : (opsOf 226).drop 37 = t226_37 := rfl
theorem e226_66 : (opsOf 226).drop 66 = t226_66 := rfl
theorem e226_67 : (opsOf 226).drop 67 = t226_67 := rfl
theorem e226_68 : (opsOf 226).drop 68 = t226_68 := rfl
def q_Mo_isSo_37 (v1 : Int32) (g : hG) : hO Int32 :=
  gd v1 5468 <| if (gI g 369 v1.toNatClampNeg) = (1 : Int32) then (some ((1 : Int32), g)) else (gd (v1 + (3 : Int32)) 5468 <| gd (v1 + (4 : Int32)) 5468 <| bnd (q_Mo_reckonAll (gI g 369 (v1 + (3 : Int32)).toNatClampNeg) (gI g 369 (v1 + (4 : Int32)).toNatClampNeg) g) fun _ g3 => wr (sJ g3 367 40 (gJ g3 367 39)) fun g5 => if (gI g5 367 38) = (0 : Int32) then (some ((1 : Int32), g5)) else (some ((0 : Int32), g5)))
theorem th226_37 {e : Nat} (he : 2 ≤ e + 1) {v1 : Int32} {g : hG} (hF : Frz g) : Tri wI (e + 1) 226 t226_37 [some (.ref 367), some (.int v1)] [] g (q_Mo_isSo_37 v1 g) := by
  unfold q_Mo_isSo_37
  refine tr_ldA rfl (tr_getP (b := 369) (fk_367 hF) (fp_367_3 hF) (tr_ldI rfl (tr_aldI (fk_369 hF) (fl_369 hF) (fun _ => tr_pushI (?_)))))
  refine tr_ifj e226_68 (c_eq _ _) (fun hc2 => ?_) (fun hc2 => ?_)
  · refine tr_pushI (?_)
    exact tr_retZl (Or.inr rfl) hF
  · refine tr_ldA rfl (tr_ldA rfl (tr_getP (b := 369) (fk_367 hF) (fp_367_3 hF) (tr_ldI rfl (tr_pushI (tr_bin (v := (v1 + (3 : Int32))) rfl (?_))))))
    refine tr_aldI (fk_369 hF) (fl_369 hF) (fun _ => tr_ldA rfl (tr_getP (b := 369) (fk_367 hF) (fp_367_3 hF) (tr_ldI rfl (tr_pushI (tr_bin (v := (v1 + (4 : Int32))) rfl (?_))))))
    refine tr_aldI (fk_369 hF) (fl_369 hF) (fun _ => ?_)
    refine tr_invVU rfl rfl (fk_367 hF) (Nat.le_of_ble_eq_true rfl) (by decide) (Nat.le_of_ble_eq_true rfl) (tm225 (by omega) hF) (fun _ g3 _ hF4 => ?_)
    refine tr_ldA rfl (tr_ldA rfl (tr_getJ (fk_367 hF4) (tr_putJ hF4 (fk_367 hF4) (fun g5 _ hF6 => tr_ldA rfl (tr_getI (fk_367 hF6) (?_))))))
    refine tr_if0n e226_66 (c_ne _ _) (fun hc7 => ?_) (fun hc7 => ?_)
    · refine tr_pushI (?_)
      exact tr_retZl (Or.inl rfl) hF6
    · refine tr_pushI (?_)
      refine tr_gotoE e226_67 (?_)
      exact tr_retZl (Or.inr rfl) hF6
def q_Mo_isSo (v1 : Int32) (g : hG) : hO Int32 :=
  gd (v1 + (5 : Int32)) 5468 <| gd (v1 + (6 : Int32)) 5468 <| if (gI g 369 (v1 + (6 : Int32)).toNatClampNeg) ≤ (gI g 369 (v1 + (5 : Int32)).toNatClampNeg) then (q_Mo_isSo_37 v1 g) else (gd (v1 + (5 : Int32)) 5468 <| gd (v1 + (6 : Int32)) 5468 <| bnd (q_Mo_reckonAll (gI g 369 (v1 + (5 : Int32)).toNatClampNeg) (gI g 369 (v1 + (6 : Int32)).toNatClampNeg) g) fun _ g8 => if (gI g8 367 38) = (0 : Int32) then (if (gJ g8 367 39) = (0 : Int64) then (some ((0 : Int32), g8)) else (q_Mo_isSo_37 v1 g8)) else (some ((0 : Int32), g8)))
theorem tm226 {d : Nat} {v1 : Int32} (hd : 2 ≤ d) {g : hG} (hF : Frz g) : TM wI d 226 [.ref 367, .int v1] g (q_Mo_isSo v1 g) := by
  obtain ⟨e, rfl⟩ : ∃ e, d = e + 1 := ⟨d - 1, by omega⟩
  have he := hd
  refine TM.ofE e226_0 (lv := [some (.ref 367), some (.int v1)]) rfl ?_
  unfold q_Mo_isSo
  refine tr_ldA rfl (tr_getP (b := 369) (fk_367 hF) (fp_367_3 hF) (tr_ldI rfl (tr_pushI (tr_bin (v := (v1 + (5 : Int32))) rfl (tr_aldI (fk_369 hF) (fl_369 hF) (fun _ => ?_))))))
  refine tr_ldA rfl (tr_getP (b := 369) (fk_367 hF) (fp_367_3 hF) (tr_ldI rfl (tr_pushI (tr_bin (v := (v1 + (6 : Int32))) rfl (tr_aldI (fk_369 hF) (fl_369 hF) (fun _ => ?_))))))
  refine tr_ifj e226_37 (c_ge _ _) (fun hc1 => ?_) (fun hc1 => ?_)
  · exact th226_37 he hF
  · refine tr_ldA rfl (tr_ldA rfl (tr_getP (b := 369) (fk_367 hF) (fp_367_3 hF) (tr_ldI rfl (tr_pushI (tr_bin (v := (v1 + (5 : Int32))) rfl (?_))))))
    refine tr_aldI (fk_369 hF) (fl_369 hF) (fun _ => tr_ldA rfl (tr_getP (b := 369) (fk_367 hF) (fp_367_3 hF) (tr_ldI rfl (tr_pushI (tr_bin (v := (v1 + (6 : Int32))) rfl (?_))))))
    refine tr_aldI (fk_369 hF) (fl_369 hF) (fun _ => ?_)
    refine tr_invVU rfl rfl (fk_367 hF) (Nat.le_of_ble_eq_true rfl) (by decide) (Nat.le_of_ble_eq_true rfl) (tm225 (by omega) hF) (fun _ g8 _ hF9 => ?_)
    refine tr_ldA rfl (tr_getI (fk_367 hF9) (?_))
    refine tr_if0n e226_35 (c_ne _ _) (fun hc10 => ?_) (fun hc10 => ?_)
    · refine tr_pushI (?_)
      exact tr_retZl (Or.inl rfl) hF9
    · refine tr_ldA rfl (tr_getJ (fk_367 hF9) (tr_pushL (tr_lcmp (?_))))
      refine tr_if0n e226_37 (l_ne _ _) (fun hc11 => ?_) (fun hc11 => ?_)
      · exact th226_37 he hF9
      · refine tr_pushI (?_)
        exact tr_retZl (Or.inl rfl) hF9
-- Mo_tells
abbrev t227_123 : List hOp := oLdL 5 :: oRetL :: []
abbrev t227_121 : List hOp := oInc 7 1 :: oGoto 85 :: t227_123
abbrev t227_120 : List hOp := oStL 5 :: t227_121
abbrev t227_118 : List hOp := oLdA 0 :: oGetJ 12 40 :: t227_120
abbrev t227_85 : List hOp := oLdI 7 :: oLdA 0 :: oGetP 12 3 :: oLdA 0 :: oGetI 12 34 :: oPushI 1 :: oBin (fun x y => x + y) :: oALdI 13 :: oIf cGe 123 :: oLdA 0 :: oGetI 12 34 :: oPushI 2 :: oBin (fun x y => x + y) :: oPushI 8 :: oLdI 7 :: oBin (fun x y => x * y) :: oBin (fun x y => x + y) :: oStI 8 :: oLdA 0 :: oGetP 12 3 :: oLdI 8 :: oALdI 13 :: oLdI 1 :: oIf cNe 121 :: oLdA 0 :: oLdI 8 :: oInvV 226 12 1 :: oIf0 cEq 121 :: oLdI 1 :: oPushI 1 :: oIf cNe 118 :: oPushL 1 :: oGoto 120 :: t227_118
abbrev t227_8 : List hOp := oLdA 0 :: oPushI 68 :: oPushI 900 :: oLdA 0 :: oGetP 12 3 :: oPushI 2 :: oALdI 13 :: oBin (fun x y => x * y) :: oBin (fun x y => x + y) :: oPutI 12 34 :: oLdA 0 :: oGetP 12 35 :: oPushI 1 :: oLdI 2 :: oPushI 5 :: oDvd (fun x y => x - x / y * y) :: oI2L :: oAStJ :: oLdA 0 :: oGetP 12 35 :: oPushI 2 :: oLdI 2 :: oPushI 5 :: oDvd (fun x y => x / y) :: oI2L :: oAStJ :: oLdA 0 :: oGetP 12 35 :: oPushI 3 :: oLdA 0 :: oGetP 12 3 :: oPushI 7 :: oLdI 2 :: oBin (fun x y => x + y) :: oALdI 13 :: oI2L :: oAStJ :: oLdA 0 :: oGetP 12 35 :: oPushI 4 :: oLdA 0 :: oLdI 2 :: oInvV 181 12 1 :: oInvS 167 1 :: oI2L :: oAStJ :: oLdA 0 :: oGetP 12 35 :: oPushI 5 :: oLdA 0 :: oGetP 12 3 :: oPushI 4 :: oALdI 13 :: oI2L :: oAStJ :: oLdA 0 :: oGetP 12 35 :: oPushI 6 :: oLdA 0 :: oGetP 12 3 :: oPushI 5 :: oALdI 13 :: oI2L :: oAStJ :: oLdA 0 :: oGetP 12 35 :: oPushI 7 :: oLdA 0 :: oGetP 12 3 :: oPushI 6 :: oALdI 13 :: oI2L :: oAStJ :: oLdL 3 :: oStL 5 :: oPushI 0 :: oStI 7 :: t227_85
abbrev t227_0 : List hOp := oLdA 0 :: oGetP 12 3 :: oPushI 2 :: oALdI 13 :: oPushI (-1) :: oIf cNe 8 :: oLdL 3 :: oRetL :: t227_8
theorem e227_0 : (opsOf 227).drop 0 = t227_0 := rfl
theorem e227_8 : (opsOf 227).drop 8 = t227_8 := rfl
theorem e227_85 : (opsOf 227).drop 85 = t227_85 := rfl
theorem e227_118 : (opsOf 227).drop 118 = t227_118 := rfl
theorem e227_120 : (opsOf 227).drop 120 = t227_120 := rfl
theorem e227_121 : (opsOf 227).drop 121 = t227_121 := rfl
theorem e227_123 : (opsOf 227).drop 123 = t227_123 := rfl
def q_Mo_tells_85 (v1 : Int32) (k123 : Int64 → hG → hO Int64) (k85 : Int64 → Int32 → hG → hO Int64) (v5 : Int64) (v7 : Int32) (g : hG) : hO Int64 :=
  gd ((gI g 367 34) + (1 : Int32)) 5468 <| if (gI g 369 ((gI g 367 34) + (1 : Int32)).toNatClampNeg) ≤ v7 then (k123 v5 g) else (gd (((gI g 367 34) + (2 : Int32)) + ((8 : Int32) * v7)) 5468 <| if (gI g 369 (((gI g 367 34) + (2 : Int32)) + ((8 : Int32) * v7)).toNatClampNeg) = v1 then (bnd (q_Mo_isSo (((gI g 367 34) + (2 : Int32)) + ((8 : Int32) * v7)) g) fun r28 g26 => if r28 = (0 : Int32) then (k85 v5 (v7 + (1 : Int32)) g26) else (if v1 = (1 : Int32) then (k85 (1 : Int64) (v7 + (1 : Int32)) g26) else (k85 (gJ g26 367 40) (v7 + (1 : Int32)) g26))) else (k85 v5 (v7 + (1 : Int32)) g))
def q_Mo_tells_85L (v1 : Int32) (k123 : Int64 → hG → hO Int64) : Nat → Int64 → Int32 → hG → hO Int64
  | 0 => fun _ _ _ => none
  | n + 1 => fun v5 v7 g => q_Mo_tells_85 v1 k123 (q_Mo_tells_85L v1 k123 n) v5 v7 g
theorem q_Mo_tells_85L_s (v1 : Int32) (k123 : Int64 → hG → hO Int64) (n : Nat) (v5 : Int64) (v7 : Int32) (g : hG) : q_Mo_tells_85L v1 k123 (n + 1) v5 v7 g = q_Mo_tells_85 v1 k123 (q_Mo_tells_85L v1 k123 n) v5 v7 g := rfl
theorem th227_85 {e : Nat} (he : 3 ≤ e + 1) {v1 : Int32} {k123 : Int64 → hG → hO Int64} {k85 : Int64 → Int32 → hG → hO Int64} {v5 : Int64} {v7 : Int32} {u2 : Option Value} {u3 : Option Value} {u4 : Option Value} {u8 : Option Value} (hk123 : ∀ (x5 : Int64) (y7 : Option Value) (y8 : Option Value) (_ : isL (some y7) = false) (g : hG), Frz g → Tri wJ (e + 1) 227 t227_123 [some (.ref 367), some (.int v1), u2, u3, u4, some (.long x5), none, y7, y8] [] g (k123 x5 g)) (hk85 : ∀ (x5 : Int64) (x7 : Int32) (y8 : Option Value) (g : hG), Frz g → Tri wJ (e + 1) 227 t227_85 [some (.ref 367), some (.int v1), u2, u3, u4, some (.long x5), none, some (.int x7), y8] [] g (k85 x5 x7 g)) (hu4 : isL (some u4) = false) {g : hG} (hF : Frz g) : Tri wJ (e + 1) 227 t227_85 [some (.ref 367), some (.int v1), u2, u3, u4, some (.long v5), none, some (.int v7), u8] [] g (q_Mo_tells_85 v1 k123 k85 v5 v7 g) := by
  unfold q_Mo_tells_85
  refine tr_ldI rfl (tr_ldA rfl (tr_getP (b := 369) (fk_367 hF) (fp_367_3 hF) (tr_ldA rfl (tr_getI (fk_367 hF) (tr_pushI (?_))))))
  refine tr_bin (v := ((gI g 367 34) + (1 : Int32))) rfl (tr_aldI (fk_369 hF) (fl_369 hF) (fun _ => ?_))
  refine tr_ifj e227_123 (c_ge _ _) (fun hc24 => ?_) (fun hc24 => ?_)
  · exact hk123 _ _ _ rfl _ hF
  · refine tr_ldA rfl (tr_getI (fk_367 hF) (tr_pushI (tr_bin (v := ((gI g 367 34) + (2 : Int32))) rfl (tr_pushI (tr_ldI rfl (?_))))))
    refine tr_bin (v := ((8 : Int32) * v7)) rfl (tr_bin (v := (((gI g 367 34) + (2 : Int32)) + ((8 : Int32) * v7))) rfl (tr_stI (Nat.le_of_ble_eq_true rfl) rfl rfl (tr_ldA rfl (tr_getP (b := 369) (fk_367 hF) (fp_367_3 hF) (tr_ldI rfl (?_))))))
    refine tr_aldI (fk_369 hF) (fl_369 hF) (fun _ => tr_ldI rfl (?_))
    refine tr_ifn e227_121 (c_ne _ _) (fun hc25 => ?_) (fun hc25 => ?_)
    · refine tr_inc rfl rfl rfl (?_)
      refine tr_gotoE e227_85 (?_)
      exact hk85 _ _ _ _ hF
    · refine tr_ldA rfl (tr_ldI rfl (?_))
      refine tr_invVI rfl rfl (fk_367 hF) (Nat.le_of_ble_eq_true rfl) (by decide) (Nat.le_of_ble_eq_true rfl) (tm226 (by omega) hF) (fun r28 g26 _ hF27 => ?_)
      refine tr_if0j e227_121 (c_eq _ _) (fun hc29 => ?_) (fun hc29 => ?_)
      · refine tr_inc rfl rfl rfl (?_)
        refine tr_gotoE e227_85 (?_)
        exact hk85 _ _ _ _ hF27
      · refine tr_ldI rfl (tr_pushI (?_))
        refine tr_ifn e227_118 (c_ne _ _) (fun hc30 => ?_) (fun hc30 => ?_)
        · refine tr_ldA rfl (tr_getJ (fk_367 hF27) (tr_stL (Nat.le_of_ble_eq_true rfl) (lKill_id hu4) rfl (tr_inc rfl rfl rfl (?_))))
          refine tr_gotoE e227_85 (?_)
          exact hk85 _ _ _ _ hF27
        · refine tr_pushL (?_)
          refine tr_gotoE e227_120 (?_)
          refine tr_stL (Nat.le_of_ble_eq_true rfl) (lKill_id hu4) rfl (tr_inc rfl rfl rfl (?_))
          refine tr_gotoE e227_85 (?_)
          exact hk85 _ _ _ _ hF27
theorem th227_85L {e : Nat} (he : 3 ≤ e + 1) {v1 : Int32} {k123 : Int64 → hG → hO Int64} {u2 : Option Value} {u3 : Option Value} {u4 : Option Value} (hk123 : ∀ (x5 : Int64) (y7 : Option Value) (y8 : Option Value) (_ : isL (some y7) = false) (g : hG), Frz g → Tri wJ (e + 1) 227 t227_123 [some (.ref 367), some (.int v1), u2, u3, u4, some (.long x5), none, y7, y8] [] g (k123 x5 g)) (hu4 : isL (some u4) = false) : ∀ (n : Nat) (v5 : Int64) (v7 : Int32) (u8 : Option Value) (g : hG), Frz g → Tri wJ (e + 1) 227 t227_85 [some (.ref 367), some (.int v1), u2, u3, u4, some (.long v5), none, some (.int v7), u8] [] g (q_Mo_tells_85L v1 k123 n v5 v7 g)
  | 0 => fun _ _ _ _ _ => Tri.none_
  | n + 1 => fun _ _ _ g hF => th227_85 he hk123 (th227_85L he hk123 hu4 n) hu4 hF
def q_Mo_tells (v1 : Int32) (v2 : Int32) (v3 : Int64) (g : hG) : hO Int64 :=
  gd (2 : Int32) 5468 <| if (gI g 369 (2 : Int32).toNatClampNeg) = (-1 : Int32) then (some (v3, g)) else (gd (2 : Int32) 5468 <| wr (sI g 367 34 ((68 : Int32) + ((900 : Int32) * (gI g 369 (2 : Int32).toNatClampNeg)))) fun g2 => gd (1 : Int32) 13 <| wr (sJ g2 385 (1 : Int32).toNatClampNeg ((irem v2 (5 : Int32))).toInt64) fun g4 => gd (2 : Int32) 13 <| wr (sJ g4 385 (2 : Int32).toNatClampNeg ((v2 / (5 : Int32))).toInt64) fun g6 => gd ((7 : Int32) + v2) 5468 <| gd (3 : Int32) 13 <| wr (sJ g6 385 (3 : Int32).toNatClampNeg ((gI g6 369 ((7 : Int32) + v2).toNatClampNeg)).toInt64) fun g8 => bnd (q_Mo_lettersOn v2 g8) fun r12 g10 => bnd (q_Mo_ones r12 g10) fun r15 g13 => gd (4 : Int32) 13 <| wr (sJ g13 385 (4 : Int32).toNatClampNeg r15.toInt64) fun g16 => gd (4 : Int32) 5468 <| gd (5 : Int32) 13 <| wr (sJ g16 385 (5 : Int32).toNatClampNeg ((gI g16 369 (4 : Int32).toNatClampNeg)).toInt64) fun g18 => gd (5 : Int32) 5468 <| gd (6 : Int32) 13 <| wr (sJ g18 385 (6 : Int32).toNatClampNeg ((gI g18 369 (5 : Int32).toNatClampNeg)).toInt64) fun g20 => gd (6 : Int32) 5468 <| gd (7 : Int32) 13 <| wr (sJ g20 385 (7 : Int32).toNatClampNeg ((gI g20 369 (6 : Int32).toNatClampNeg)).toInt64) fun g22 => q_Mo_tells_85L v1 (fun x31 g34 => some (x31, g34)) FU v3 (0 : Int32) g22)
theorem tm227 {d : Nat} {v1 : Int32} {v2 : Int32} {v3 : Int64} (hd : 3 ≤ d) {g : hG} (hF : Frz g) : TM wJ d 227 [.ref 367, .int v1, .int v2, .long v3] g (q_Mo_tells v1 v2 v3 g) := by
  obtain ⟨e, rfl⟩ : ∃ e, d = e + 1 := ⟨d - 1, by omega⟩
  have he := hd
  refine TM.ofE e227_0 (lv := [some (.ref 367), some (.int v1), some (.int v2), some (.long v3), none, none, none, none, none]) rfl ?_
  unfold q_Mo_tells
  refine tr_ldA rfl (tr_getP (b := 369) (fk_367 hF) (fp_367_3 hF) (tr_pushI (tr_aldI (fk_369 hF) (fl_369 hF) (fun _ => tr_pushI (?_)))))
  refine tr_ifn e227_8 (c_ne _ _) (fun hc1 => ?_) (fun hc1 => ?_)
  · refine tr_ldA rfl (tr_pushI (tr_pushI (tr_ldA rfl (tr_getP (b := 369) (fk_367 hF) (fp_367_3 hF) (tr_pushI (?_))))))
    refine tr_aldI (fk_369 hF) (fl_369 hF) (fun _ => tr_bin (v := ((900 : Int32) * (gI g 369 (2 : Int32).toNatClampNeg))) rfl (tr_bin (v := ((68 : Int32) + ((900 : Int32) * (gI g 369 (2 : Int32).toNatClampNeg)))) rfl (tr_putI hF (fk_367 hF) (fun g2 _ hF3 => tr_ldA rfl (tr_getP (b := 385) (fk_367 hF3) (fp_367_35 hF3) (?_))))))
    refine tr_pushI (tr_ldI rfl (tr_pushI (tr_dvdl (v := (irem v2 (5 : Int32))) (by decide) rfl (tr_i2l (tr_astJ hF3 (fk_385 hF3) (fl_385 hF3) (fun _ g4 _ hF5 => ?_))))))
    refine tr_ldA rfl (tr_getP (b := 385) (fk_367 hF5) (fp_367_35 hF5) (tr_pushI (tr_ldI rfl (tr_pushI (tr_dvdl (v := (v2 / (5 : Int32))) (by decide) rfl (?_))))))
    refine tr_i2l (tr_astJ hF5 (fk_385 hF5) (fl_385 hF5) (fun _ g6 _ hF7 => tr_ldA rfl (tr_getP (b := 385) (fk_367 hF7) (fp_367_35 hF7) (tr_pushI (tr_ldA rfl (?_))))))
    refine tr_getP (b := 369) (fk_367 hF7) (fp_367_3 hF7) (tr_pushI (tr_ldI rfl (tr_bin (v := ((7 : Int32) + v2)) rfl (tr_aldI (fk_369 hF7) (fl_369 hF7) (fun _ => tr_i2l (?_))))))
    refine tr_astJ hF7 (fk_385 hF7) (fl_385 hF7) (fun _ g8 _ hF9 => tr_ldA rfl (tr_getP (b := 385) (fk_367 hF9) (fp_367_35 hF9) (tr_pushI (tr_ldA rfl (tr_ldI rfl (?_))))))
    refine tr_invVI rfl rfl (fk_367 hF9) (Nat.le_of_ble_eq_true rfl) (by decide) (Nat.le_of_ble_eq_true rfl) (tm181 hF9) (fun r12 g10 _ hF11 => ?_)
    refine tr_invSI rfl rfl (Nat.le_of_ble_eq_true rfl) (Nat.le_of_ble_eq_true rfl) (by decide) (Nat.le_of_ble_eq_true rfl) (tm167 hF11) (fun r15 g13 _ hF14 => ?_)
    refine tr_i2l (tr_astJ hF14 (fk_385 hF14) (fl_385 hF14) (fun _ g16 _ hF17 => tr_ldA rfl (tr_getP (b := 385) (fk_367 hF17) (fp_367_35 hF17) (tr_pushI (tr_ldA rfl (?_))))))
    refine tr_getP (b := 369) (fk_367 hF17) (fp_367_3 hF17) (tr_pushI (tr_aldI (fk_369 hF17) (fl_369 hF17) (fun _ => tr_i2l (tr_astJ hF17 (fk_385 hF17) (fl_385 hF17) (fun _ g18 _ hF19 => tr_ldA rfl (?_))))))
    refine tr_getP (b := 385) (fk_367 hF19) (fp_367_35 hF19) (tr_pushI (tr_ldA rfl (tr_getP (b := 369) (fk_367 hF19) (fp_367_3 hF19) (tr_pushI (tr_aldI (fk_369 hF19) (fl_369 hF19) (fun _ => ?_))))))
    refine tr_i2l (tr_astJ hF19 (fk_385 hF19) (fl_385 hF19) (fun _ g20 _ hF21 => tr_ldA rfl (tr_getP (b := 385) (fk_367 hF21) (fp_367_35 hF21) (tr_pushI (tr_ldA rfl (?_))))))
    refine tr_getP (b := 369) (fk_367 hF21) (fp_367_3 hF21) (tr_pushI (tr_aldI (fk_369 hF21) (fl_369 hF21) (fun _ => tr_i2l (tr_astJ hF21 (fk_385 hF21) (fl_385 hF21) (fun _ g22 _ hF23 => tr_ldL rfl (?_))))))
    refine tr_stL (Nat.le_of_ble_eq_true rfl) rfl rfl (tr_pushI (tr_stI (Nat.le_of_ble_eq_true rfl) rfl rfl (?_)))
    refine th227_85L he (fun x31 y32 y33 zy32 g34 hF35 => ?_) rfl FU _ _ _ _ hF23
    · refine tr_ldL rfl (?_)
      exact tr_retL hF35
  · refine tr_ldL rfl (?_)
    exact tr_retL hF
-- Mo_bounded
abbrev t168_16 : List hOp := oRetI :: []
abbrev t168_14 : List hOp := oLdL 0 :: oL2I :: t168_16
abbrev t168_7 : List hOp := oLdL 0 :: oLdI 3 :: oI2L :: oLCmp :: oIf0 cLe 14 :: oLdI 3 :: oGoto 16 :: t168_14
abbrev t168_0 : List hOp := oLdL 0 :: oLdI 2 :: oI2L :: oLCmp :: oIf0 cGe 7 :: oLdI 2 :: oGoto 16 :: t168_7
theorem e168_0 : (opsOf 168).drop 0 = t168_0 := rfl
theorem e168_7 : (opsOf 168).drop 7 = t168_7 := rfl
theorem e168_14 : (opsOf 168).drop 14 = t168_14 := rfl
theorem e168_16 : (opsOf 168).drop 16 = t168_16 := rfl
def q_Mo_bounded (v0 : Int64) (v2 : Int32) (v3 : Int32) (g : hG) : hO Int32 :=
  if v2.toInt64 ≤ v0 then (if v0 ≤ v3.toInt64 then (some (v0.toInt32, g)) else (some (v3, g))) else (some (v2, g))
theorem tm168 {d : Nat} {v0 : Int64} {v2 : Int32} {v3 : Int32} {g : hG} (hF : Frz g) : TM wI d 168 [.long v0, .int v2, .int v3] g (q_Mo_bounded v0 v2 v3 g) := by
  refine TM.ofE e168_0 (lv := [some (.long v0), none, some (.int v2), some (.int v3)]) rfl ?_
  unfold q_Mo_bounded
  refine tr_ldL rfl (tr_ldI rfl (tr_i2l (tr_lcmp (?_))))
  refine tr_if0j e168_7 (l_ge _ _) (fun hc1 => ?_) (fun hc1 => ?_)
  · refine tr_ldL rfl (tr_ldI rfl (tr_i2l (tr_lcmp (?_))))
    refine tr_if0j e168_14 (l_le _ _) (fun hc2 => ?_) (fun hc2 => ?_)
    · refine tr_ldL rfl (tr_l2i (?_))
      exact tr_retI hF
    · refine tr_ldI rfl (?_)
      refine tr_gotoE e168_16 (?_)
      exact tr_retI hF
  · refine tr_ldI rfl (?_)
    refine tr_gotoE e168_16 (?_)
    exact tr_retI hF
-- Mo_standsAt
abbrev t228_0 : List hOp := oLdA 0 :: oPushI 0 :: oLdI 1 :: oLdA 0 :: oGetP 12 3 :: oPushI 7 :: oLdI 1 :: oBin (fun x y => x + y) :: oALdI 13 :: oI2L :: oInvV 227 12 3 :: oPushI 0 :: oPushI 99 :: oInvS 168 3 :: oRetI :: []
theorem e228_0 : (opsOf 228).drop 0 = t228_0 := rfl
def q_Mo_standsAt (v1 : Int32) (g : hG) : hO Int32 :=
  gd ((7 : Int32) + v1) 5468 <| bnd (q_Mo_tells (0 : Int32) v1 ((gI g 369 ((7 : Int32) + v1).toNatClampNeg)).toInt64 g) fun r3 g1 => bnd (q_Mo_bounded r3 (0 : Int32) (99 : Int32) g1) fun r6 g4 => some (r6, g4)
theorem tm228 {d : Nat} {v1 : Int32} (hd : 4 ≤ d) {g : hG} (hF : Frz g) : TM wI d 228 [.ref 367, .int v1] g (q_Mo_standsAt v1 g) := by
  obtain ⟨e, rfl⟩ : ∃ e, d = e + 1 := ⟨d - 1, by omega⟩
  have he := hd
  refine TM.ofE e228_0 (lv := [some (.ref 367), some (.int v1)]) rfl ?_
  unfold q_Mo_standsAt
  refine tr_ldA rfl (tr_pushI (tr_ldI rfl (tr_ldA rfl (tr_getP (b := 369) (fk_367 hF) (fp_367_3 hF) (tr_pushI (?_))))))
  refine tr_ldI rfl (tr_bin (v := ((7 : Int32) + v1)) rfl (tr_aldI (fk_369 hF) (fl_369 hF) (fun _ => tr_i2l (?_))))
  refine tr_invVJ rfl rfl (fk_367 hF) (Nat.le_of_ble_eq_true rfl) (by decide) (Nat.le_of_ble_eq_true rfl) (tm227 (by omega) hF) (fun r3 g1 _ hF2 => ?_)
  refine tr_pushI (tr_pushI (?_))
  refine tr_invSI rfl rfl (Nat.le_of_ble_eq_true rfl) (Nat.le_of_ble_eq_true rfl) (by decide) (Nat.le_of_ble_eq_true rfl) (tm168 hF2) (fun r6 g4 _ hF5 => ?_)
  exact tr_retI hF5
-- Mo_isHeld
abbrev t229_11 : List hOp := oRetZ :: []
abbrev t229_10 : List hOp := oPushI 0 :: t229_11
abbrev t229_0 : List hOp := oLdA 0 :: oPushI 1 :: oLdI 1 :: oPushL 0 :: oInvV 227 12 3 :: oPushL 1 :: oLCmp :: oIf0 cNe 10 :: oPushI 1 :: oGoto 11 :: t229_10
theorem e229_0 : (opsOf 229).drop 0 = t229_0 := rfl
theorem e229_10 : (opsOf 229).drop 10 = t229_10 := rfl
theorem e229_11 : (opsOf 229).drop 11 = t229_11 := rfl
def q_Mo_isHeld (v1 : Int32) (g : hG) : hO Int32 :=
  bnd (q_Mo_tells (1 : Int32) v1 (0 : Int64) g) fun r3 g1 => if r3 = (1 : Int64) then (some ((1 : Int32), g1)) else (some ((0 : Int32), g1))
theorem tm229 {d : Nat} {v1 : Int32} (hd : 4 ≤ d) {g : hG} (hF : Frz g) : TM wI d 229 [.ref 367, .int v1] g (q_Mo_isHeld v1 g) := by
  obtain ⟨e, rfl⟩ : ∃ e, d = e + 1 := ⟨d - 1, by omega⟩
  have he := hd
  refine TM.ofE e229_0 (lv := [some (.ref 367), some (.int v1)]) rfl ?_
  unfold q_Mo_isHeld
  refine tr_ldA rfl (tr_pushI (tr_ldI rfl (tr_pushL (?_))))
  refine tr_invVJ rfl rfl (fk_367 hF) (Nat.le_of_ble_eq_true rfl) (by decide) (Nat.le_of_ble_eq_true rfl) (tm227 (by omega) hF) (fun r3 g1 _ hF2 => ?_)
  refine tr_pushL (tr_lcmp (?_))
  refine tr_if0n e229_10 (l_ne _ _) (fun hc4 => ?_) (fun hc4 => ?_)
  · refine tr_pushI (?_)
    exact tr_retZl (Or.inl rfl) hF2
  · refine tr_pushI (?_)
    refine tr_gotoE e229_11 (?_)
    exact tr_retZl (Or.inr rfl) hF2
-- Mo_beside
abbrev t183_50 : List hOp := oRetI :: []
abbrev t183_49 : List hOp := oPushI (-1) :: t183_50
abbrev t183_29 : List hOp := oBin (fun x y => x + y) :: oStI 3 :: oLdI 2 :: oI2L :: oPushL 0 :: oPushL 4 :: oInvS 165 3 :: oIf0 cEq 49 :: oLdI 3 :: oI2L :: oPushL 0 :: oPushL 4 :: oInvS 165 3 :: oIf0 cEq 49 :: oPushI 5 :: oLdI 3 :: oBin (fun x y => x * y) :: oLdI 2 :: oBin (fun x y => x + y) :: oGoto 50 :: t183_49
abbrev t183_28 : List hOp := oPushI 0 :: t183_29
abbrev t183_23 : List hOp := oLdI 1 :: oPushI 2 :: oIf cNe 28 :: oPushI (-1) :: oGoto 29 :: t183_28
abbrev t183_14 : List hOp := oBin (fun x y => x + y) :: oStI 2 :: oLdI 0 :: oPushI 5 :: oDvd (fun x y => x / y) :: oLdI 1 :: oIf0 cNe 23 :: oPushI 1 :: oGoto 29 :: t183_23
abbrev t183_13 : List hOp := oPushI 0 :: t183_14
abbrev t183_8 : List hOp := oLdI 1 :: oPushI 3 :: oIf cNe 13 :: oPushI (-1) :: oGoto 14 :: t183_13
abbrev t183_0 : List hOp := oLdI 0 :: oPushI 5 :: oDvd (fun x y => x - x / y * y) :: oLdI 1 :: oPushI 1 :: oIf cNe 8 :: oPushI 1 :: oGoto 14 :: t183_8
theorem e183_0 : (opsOf 183).drop 0 = t183_0 := rfl
theorem e183_8 : (opsOf 183).drop 8 = t183_8 := rfl
theorem e183_13 : (opsOf 183).drop 13 = t183_13 := rfl
theorem e183_14 : (opsOf 183).drop 14 = t183_14 := rfl
theorem e183_23 : (opsOf 183).drop 23 = t183_23 := rfl
theorem e183_28 : (opsOf 183).drop 28 = t183_28 := rfl
theorem e183_29 : (opsOf 183).drop 29 = t183_29 := rfl
theorem e183_49 : (opsOf 183).drop 49 = t183_49 := rfl
theorem e183_50 : (opsOf 183).drop 50 = t183_50 := rfl
def q_Mo_beside_29 (v2 : Int32) (w0 : Int32) (w1 : Int32) (g : hG) : hO Int32 :=
  bnd (q_Mo_in v2.toInt64 (0 : Int64) (4 : Int64) g) fun r5 g3 => if r5 = (0 : Int32) then (some ((-1 : Int32), g3)) else (bnd (q_Mo_in ((w0 + w1)).toInt64 (0 : Int64) (4 : Int64) g3) fun r9 g7 => if r9 = (0 : Int32) then (some ((-1 : Int32), g7)) else (some ((((5 : Int32) * (w0 + w1)) + v2), g7)))
theorem th183_29 {e : Nat} (he : 1 ≤ e + 1) {v2 : Int32} {w0 : Int32} {w1 : Int32} {u0 : Option Value} {u1 : Option Value} {u3 : Option Value} (hu1 : isL (some u1) = false) {g : hG} (hF : Frz g) : Tri wI (e + 1) 183 t183_29 [u0, u1, some (.int v2), u3] [.int w1, .int w0] g (q_Mo_beside_29 v2 w0 w1 g) := by
  unfold q_Mo_beside_29
  refine tr_bin (v := (w0 + w1)) rfl (tr_stI (Nat.le_of_ble_eq_true rfl) rfl rfl (tr_ldI rfl (tr_i2l (tr_pushL (tr_pushL (?_))))))
  refine tr_invSI rfl rfl (Nat.le_of_ble_eq_true rfl) (Nat.le_of_ble_eq_true rfl) (by decide) (Nat.le_of_ble_eq_true rfl) (tm165 hF) (fun r5 g3 _ hF4 => ?_)
  refine tr_if0j e183_49 (c_eq _ _) (fun hc6 => ?_) (fun hc6 => ?_)
  · refine tr_pushI (?_)
    exact tr_retI hF4
  · refine tr_ldI rfl (tr_i2l (tr_pushL (tr_pushL (?_))))
    refine tr_invSI rfl rfl (Nat.le_of_ble_eq_true rfl) (Nat.le_of_ble_eq_true rfl) (by decide) (Nat.le_of_ble_eq_true rfl) (tm165 hF4) (fun r9 g7 _ hF8 => ?_)
    refine tr_if0j e183_49 (c_eq _ _) (fun hc10 => ?_) (fun hc10 => ?_)
    · refine tr_pushI (?_)
      exact tr_retI hF8
    · refine tr_pushI (tr_ldI rfl (tr_bin (v := ((5 : Int32) * (w0 + w1))) rfl (tr_ldI rfl (tr_bin (v := (((5 : Int32) * (w0 + w1)) + v2)) rfl (?_)))))
      refine tr_gotoE e183_50 (?_)
      exact tr_retI hF8
def q_Mo_beside_14 (v0 : Int32) (v1 : Int32) (w0 : Int32) (w1 : Int32) (g : hG) : hO Int32 :=
  q_Mo_beside_29 (w0 + w1) (v0 / (5 : Int32)) (if v1 = (0 : Int32) then (1 : Int32) else (if v1 = (2 : Int32) then (-1 : Int32) else (0 : Int32))) g
theorem th183_14 {e : Nat} (he : 1 ≤ e + 1) {v0 : Int32} {v1 : Int32} {w0 : Int32} {w1 : Int32} {u2 : Option Value} {u3 : Option Value} (hu2 : isL (some u2) = false) {g : hG} (hF : Frz g) : Tri wI (e + 1) 183 t183_14 [some (.int v0), some (.int v1), u2, u3] [.int w1, .int w0] g (q_Mo_beside_14 v0 v1 w0 w1 g) := by
  unfold q_Mo_beside_14
  refine tr_bin (v := (w0 + w1)) rfl (tr_stI (Nat.le_of_ble_eq_true rfl) rfl rfl (tr_ldI rfl (tr_pushI (tr_dvdl (v := (v0 / (5 : Int32))) (by decide) rfl (tr_ldI rfl (?_))))))
  refine tr_if0cE e183_23 (c_ne _ _) (fun hc11 => ?_) (fun hc11 => ?_)
  · rw [if_neg hc11]
    refine tr_ldI rfl (?_)
    refine tr_pushI (?_)
    refine tr_ifcE e183_28 (c_ne _ _) (fun hc12 => ?_) (fun hc12 => ?_)
    · rw [if_neg hc12]
      refine tr_pushI (?_)
      exact th183_29 he rfl hF
    · rw [if_pos (Decidable.not_not.mp hc12)]
      refine tr_pushI (?_)
      refine tr_gotoE e183_29 (?_)
      exact th183_29 he rfl hF
  · rw [if_pos (Decidable.not_not.mp hc11)]
    refine tr_pushI (?_)
    refine tr_gotoE e183_29 (?_)
    exact th183_29 he rfl hF
def q_Mo_beside (v0 : Int32) (v1 : Int32) (g : hG) : hO Int32 :=
  q_Mo_beside_14 v0 v1 (irem v0 (5 : Int32)) (if v1 = (1 : Int32) then (1 : Int32) else (if v1 = (3 : Int32) then (-1 : Int32) else (0 : Int32))) g
theorem tm183 {d : Nat} {v0 : Int32} {v1 : Int32} (hd : 1 ≤ d) {g : hG} (hF : Frz g) : TM wI d 183 [.int v0, .int v1] g (q_Mo_beside v0 v1 g) := by
  obtain ⟨e, rfl⟩ : ∃ e, d = e + 1 := ⟨d - 1, by omega⟩
  have he := hd
  refine TM.ofE e183_0 (lv := [some (.int v0), some (.int v1), none, none]) rfl ?_
  unfold q_Mo_beside
  refine tr_ldI rfl (tr_pushI (tr_dvdl (v := (irem v0 (5 : Int32))) (by decide) rfl (tr_ldI rfl (tr_pushI (?_)))))
  refine tr_ifcE e183_8 (c_ne _ _) (fun hc13 => ?_) (fun hc13 => ?_)
  · rw [if_neg hc13]
    refine tr_ldI rfl (?_)
    refine tr_pushI (?_)
    refine tr_ifcE e183_13 (c_ne _ _) (fun hc14 => ?_) (fun hc14 => ?_)
    · rw [if_neg hc14]
      refine tr_pushI (?_)
      exact th183_14 he rfl hF
    · rw [if_pos (Decidable.not_not.mp hc14)]
      refine tr_pushI (?_)
      refine tr_gotoE e183_14 (?_)
      exact th183_14 he rfl hF
  · rw [if_pos (Decidable.not_not.mp hc13)]
    refine tr_pushI (?_)
    refine tr_gotoE e183_14 (?_)
    exact th183_14 he rfl hF
