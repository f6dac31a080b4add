-- Str_sortApart
abbrev t73_40 : List hOp := oLdI 3 :: oRetI :: []
abbrev t73_38 : List hOp := oInc 4 1 :: oGoto 6 :: t73_40
abbrev t73_6 : List hOp := oLdI 4 :: oPushI 25 :: oIf cGe 40 :: oLdI 2 :: oPushI 8 :: oIf cGe 40 :: oLdI 4 :: oLdI 1 :: oInvS 162 2 :: oIf0 cEq 38 :: oLdA 0 :: oGetP 7 4 :: oLdI 2 :: oLdI 4 :: oAStI :: oLdA 0 :: oGetP 7 3 :: oLdI 2 :: oLdA 0 :: oLdI 2 :: oInvV 74 7 1 :: oAStI :: oLdI 3 :: oLdA 0 :: oGetP 7 3 :: oLdI 2 :: oALdI 13 :: oPushI 1 :: oBin (fun x y => x + y) :: oMax :: oStI 3 :: oInc 2 1 :: t73_38
abbrev t73_0 : List hOp := oPushI 0 :: oStI 2 :: oPushI 0 :: oStI 3 :: oPushI 0 :: oStI 4 :: t73_6
theorem e73_0 : (opsOf 73).drop 0 = t73_0 := rfl
theorem e73_6 : (opsOf 73).drop 6 = t73_6 := rfl
theorem e73_38 : (opsOf 73).drop 38 = t73_38 := rfl
theorem e73_40 : (opsOf 73).drop 40 = t73_40 := rfl
def q_Str_sortApart_6 (v1 : Int32) (k40 : Int32 → hG → hO Int32) (k6 : Int32 → Int32 → Int32 → hG → hO Int32) (v2 : Int32) (v3 : Int32) (v4 : Int32) (g : hG) : hO Int32 :=
  if (25 : Int32) ≤ v4 then (k40 v3 g) else (if (8 : Int32) ≤ v2 then (k40 v3 g) else (bnd (q_MP_isAmong v4 v1 g) fun r5 g3 => if r5 = (0 : Int32) then (k6 v2 v3 (v4 + (1 : Int32)) g3) else (gd v2 8 <| wr (sI g3 259 v2.toNatClampNeg v4) fun g7 => bnd (q_Str_firstFreeKind v2 g7) fun r11 g9 => gd v2 8 <| wr (sI g9 258 v2.toNatClampNeg r11) fun g12 => gd v2 8 <| k6 (v2 + (1 : Int32)) (imax v3 ((gI g12 258 v2.toNatClampNeg) + (1 : Int32))) (v4 + (1 : Int32)) g12)))
def q_Str_sortApart_6L (v1 : Int32) (k40 : Int32 → hG → hO Int32) : Nat → Int32 → Int32 → Int32 → hG → hO Int32
  | 0 => fun _ _ _ _ => none
  | n + 1 => fun v2 v3 v4 g => q_Str_sortApart_6 v1 k40 (q_Str_sortApart_6L v1 k40 n) v2 v3 v4 g
theorem q_Str_sortApart_6L_s (v1 : Int32) (k40 : Int32 → hG → hO Int32) (n : Nat) (v2 : Int32) (v3 : Int32) (v4 : Int32) (g : hG) : q_Str_sortApart_6L v1 k40 (n + 1) v2 v3 v4 g = q_Str_sortApart_6 v1 k40 (q_Str_sortApart_6L v1 k40 n) v2 v3 v4 g := rfl
theorem th73_6 {e : Nat} (he : 4 ≤ e + 1) {v1 : Int32} {k40 : Int32 → hG → hO Int32} {k6 : Int32 → Int32 → Int32 → hG → hO Int32} {v2 : Int32} {v3 : Int32} {v4 : Int32} (hk40 : ∀ (x3 : Int32) (y2 : Option Value) (y4 : Option Value) (_ : isL (some y2) = false) (g : hG), Frz g → Tri wI (e + 1) 73 t73_40 [some (.ref 254), some (.int v1), y2, some (.int x3), y4] [] g (k40 x3 g)) (hk6 : ∀ (x2 : Int32) (x3 : Int32) (x4 : Int32) (g : hG), Frz g → Tri wI (e + 1) 73 t73_6 [some (.ref 254), some (.int v1), some (.int x2), some (.int x3), some (.int x4)] [] g (k6 x2 x3 x4 g)) {g : hG} (hF : Frz g) : Tri wI (e + 1) 73 t73_6 [some (.ref 254), some (.int v1), some (.int v2), some (.int v3), some (.int v4)] [] g (q_Str_sortApart_6 v1 k40 k6 v2 v3 v4 g) := by
  unfold q_Str_sortApart_6
  refine tr_ldI rfl (tr_pushI (?_))
  refine tr_ifj e73_40 (c_ge _ _) (fun hc1 => ?_) (fun hc1 => ?_)
  · exact hk40 _ _ _ rfl _ hF
  · refine tr_ldI rfl (tr_pushI (?_))
    refine tr_ifj e73_40 (c_ge _ _) (fun hc2 => ?_) (fun hc2 => ?_)
    · exact hk40 _ _ _ rfl _ hF
    · refine tr_ldI rfl (tr_ldI rfl (?_))
      refine tr_invSI rfl rfl (Nat.le_of_ble_eq_true rfl) (Nat.le_of_ble_eq_true rfl) (by decide) (Nat.le_of_ble_eq_true rfl) (tm162 hF) (fun r5 g3 _ hF4 => ?_)
      refine tr_if0j e73_38 (c_eq _ _) (fun hc6 => ?_) (fun hc6 => ?_)
      · refine tr_inc rfl rfl rfl (?_)
        refine tr_gotoE e73_6 (?_)
        exact hk6 _ _ _ _ hF4
      · refine tr_ldA rfl (tr_getP (b := 259) (fk_254 hF4) (fp_254_4 hF4) (tr_ldI rfl (tr_ldI rfl (tr_astI hF4 (fk_259 hF4) (fl_259 hF4) (fun _ g7 _ hF8 => tr_ldA rfl (?_))))))
        refine tr_getP (b := 258) (fk_254 hF8) (fp_254_3 hF8) (tr_ldI rfl (tr_ldA rfl (tr_ldI rfl (?_))))
        refine tr_invVI rfl rfl (fk_254 hF8) (Nat.le_of_ble_eq_true rfl) (by decide) (Nat.le_of_ble_eq_true rfl) (tm74 (by omega) hF8) (fun r11 g9 _ hF10 => ?_)
        refine tr_astI hF10 (fk_258 hF10) (fl_258 hF10) (fun _ g12 _ hF13 => tr_ldI rfl (tr_ldA rfl (tr_getP (b := 258) (fk_254 hF13) (fp_254_3 hF13) (tr_ldI rfl (tr_aldI (fk_258 hF13) (fl_258 hF13) (fun _ => ?_))))))
        refine tr_pushI (tr_bin (v := ((gI g12 258 v2.toNatClampNeg) + (1 : Int32))) rfl (tr_max (Nat.le_of_ble_eq_true rfl) (tr_stI (Nat.le_of_ble_eq_true rfl) rfl rfl (tr_inc rfl rfl rfl (tr_inc rfl rfl rfl (?_))))))
        refine tr_gotoE e73_6 (?_)
        exact hk6 _ _ _ _ hF13
theorem th73_6L {e : Nat} (he : 4 ≤ e + 1) {v1 : Int32} {k40 : Int32 → hG → hO Int32} (hk40 : ∀ (x3 : Int32) (y2 : Option Value) (y4 : Option Value) (_ : isL (some y2) = false) (g : hG), Frz g → Tri wI (e + 1) 73 t73_40 [some (.ref 254), some (.int v1), y2, some (.int x3), y4] [] g (k40 x3 g)) : ∀ (n : Nat) (v2 : Int32) (v3 : Int32) (v4 : Int32) (g : hG), Frz g → Tri wI (e + 1) 73 t73_6 [some (.ref 254), some (.int v1), some (.int v2), some (.int v3), some (.int v4)] [] g (q_Str_sortApart_6L v1 k40 n v2 v3 v4 g)
  | 0 => fun _ _ _ _ _ => Tri.none_
  | n + 1 => fun _ _ _ g hF => th73_6 he hk40 (th73_6L he hk40 n) hF
def q_Str_sortApart (v1 : Int32) (g : hG) : hO Int32 :=
  q_Str_sortApart_6L v1 (fun x14 g17 => some (x14, g17)) FU (0 : Int32) (0 : Int32) (0 : Int32) g
theorem tm73 {d : Nat} {v1 : Int32} (hd : 4 ≤ d) {g : hG} (hF : Frz g) : TM wI d 73 [.ref 254, .int v1] g (q_Str_sortApart v1 g) := by
  obtain ⟨e, rfl⟩ : ∃ e, d = e + 1 := ⟨d - 1, by omega⟩
  have he := hd
  refine TM.ofE e73_0 (lv := [some (.ref 254), some (.int v1), none, none, none]) rfl ?_
  unfold q_Str_sortApart
  refine tr_pushI (tr_stI (Nat.le_of_ble_eq_true rfl) rfl rfl (tr_pushI (tr_stI (Nat.le_of_ble_eq_true rfl) rfl rfl (tr_pushI (tr_stI (Nat.le_of_ble_eq_true rfl) rfl rfl (?_))))))
  refine th73_6L he (fun x14 y15 y16 zy15 g17 hF18 => ?_) FU _ _ _ _ hF
  · refine tr_ldI rfl (?_)
    exact tr_retI hF18
-- MP_apart
abbrev t136_38 : List hOp := oRetI :: []
abbrev t136_33 : List hOp := oLdA 0 :: oGetP 11 16 :: oGetP 7 3 :: oLdI 2 :: oALdI 13 :: t136_38
abbrev t136_21 : List hOp := oLdA 0 :: oInvV 131 11 0 :: oLdA 0 :: oGetP 11 16 :: oLdI 1 :: oInvV 73 7 1 :: oStI 4 :: oLdI 2 :: oPushI (-1) :: oIf cNe 33 :: oLdI 4 :: oGoto 38 :: t136_33
abbrev t136_19 : List hOp := oPushI (-1) :: oRetI :: t136_21
abbrev t136_10 : List hOp := oLdI 1 :: oInvS 8 1 :: oStI 3 :: oLdI 3 :: oPushI 8 :: oIf cGt 19 :: oLdI 2 :: oLdI 3 :: oIf cLt 21 :: t136_19
abbrev t136_8 : List hOp := oPushI (-1) :: oRetI :: t136_10
abbrev t136_0 : List hOp := oLdI 1 :: oIf0 cLt 8 :: oLdI 1 :: oPushI 33554431 :: oIf cGt 8 :: oLdI 2 :: oPushI (-1) :: oIf cGe 10 :: t136_8
theorem e136_0 : (opsOf 136).drop 0 = t136_0 := rfl
theorem e136_8 : (opsOf 136).drop 8 = t136_8 := rfl
theorem e136_10 : (opsOf 136).drop 10 = t136_10 := rfl
theorem e136_19 : (opsOf 136).drop 19 = t136_19 := rfl
theorem e136_21 : (opsOf 136).drop 21 = t136_21 := rfl
theorem e136_33 : (opsOf 136).drop 33 = t136_33 := rfl
theorem e136_38 : (opsOf 136).drop 38 = t136_38 := rfl
def q_MP_apart (v1 : Int32) (v2 : Int32) (g : hG) : hO Int32 :=
  if v1 < (0 : Int32) then (some ((-1 : Int32), g)) else (if (33554431 : Int32) < v1 then (some ((-1 : Int32), g)) else (if (-1 : Int32) ≤ v2 then (bnd (q_Ji_bitCount v1 g) fun r6 g4 => if (8 : Int32) < r6 then (some ((-1 : Int32), g4)) else (if v2 < r6 then (bnd (q_MP_traceRuns g4) fun _ g9 => bnd (q_Str_sortApart v1 g9) fun r13 g11 => if v2 = (-1 : Int32) then (some (r13, g11)) else (gd v2 8 <| some ((gI g11 258 v2.toNatClampNeg), g11))) else (some ((-1 : Int32), g4)))) else (some ((-1 : Int32), g))))
theorem tm136 {d : Nat} {v1 : Int32} {v2 : Int32} (hd : 6 ≤ d) {g : hG} (hF : Frz g) : TM wI d 136 [.ref 0, .int v1, .int v2] g (q_MP_apart v1 v2 g) := by
  obtain ⟨e, rfl⟩ : ∃ e, d = e + 1 := ⟨d - 1, by omega⟩
  have he := hd
  refine TM.ofE e136_0 (lv := [some (.ref 0), some (.int v1), some (.int v2), none, none]) rfl ?_
  unfold q_MP_apart
  refine tr_ldI rfl (?_)
  refine tr_if0j e136_8 (c_lt _ _) (fun hc1 => ?_) (fun hc1 => ?_)
  · refine tr_pushI (?_)
    exact tr_retI hF
  · refine tr_ldI rfl (tr_pushI (?_))
    refine tr_ifj e136_8 (c_gt _ _) (fun hc2 => ?_) (fun hc2 => ?_)
    · refine tr_pushI (?_)
      exact tr_retI hF
    · refine tr_ldI rfl (tr_pushI (?_))
      refine tr_ifj e136_10 (c_ge _ _) (fun hc3 => ?_) (fun hc3 => ?_)
      · refine tr_ldI rfl (?_)
        refine tr_invSI rfl rfl (Nat.le_of_ble_eq_true rfl) (Nat.le_of_ble_eq_true rfl) (by decide) (Nat.le_of_ble_eq_true rfl) (tm8 hF) (fun r6 g4 _ hF5 => ?_)
        refine tr_stI (Nat.le_of_ble_eq_true rfl) rfl rfl (tr_ldI rfl (tr_pushI (?_)))
        refine tr_ifj e136_19 (c_gt _ _) (fun hc7 => ?_) (fun hc7 => ?_)
        · refine tr_pushI (?_)
          exact tr_retI hF5
        · refine tr_ldI rfl (tr_ldI rfl (?_))
          refine tr_ifj e136_21 (c_lt _ _) (fun hc8 => ?_) (fun hc8 => ?_)
          · refine tr_ldA rfl (?_)
            refine tr_invVU rfl rfl (fk_0 hF5) (Nat.le_of_ble_eq_true rfl) (by decide) (Nat.le_of_ble_eq_true rfl) (tm131 (by omega) hF5) (fun _ g9 _ hF10 => ?_)
            refine tr_ldA rfl (tr_getP (b := 254) (fk_0 hF10) (fp_0_16 hF10) (tr_ldI rfl (?_)))
            refine tr_invVI rfl rfl (fk_254 hF10) (Nat.le_of_ble_eq_true rfl) (by decide) (Nat.le_of_ble_eq_true rfl) (tm73 (by omega) hF10) (fun r13 g11 _ hF12 => ?_)
            refine tr_stI (Nat.le_of_ble_eq_true rfl) rfl rfl (tr_ldI rfl (tr_pushI (?_)))
            refine tr_ifn e136_33 (c_ne _ _) (fun hc14 => ?_) (fun hc14 => ?_)
            · refine tr_ldA rfl (tr_getP (b := 254) (fk_0 hF12) (fp_0_16 hF12) (tr_getP (b := 258) (fk_254 hF12) (fp_254_3 hF12) (tr_ldI rfl (tr_aldI (fk_258 hF12) (fl_258 hF12) (fun _ => ?_)))))
              exact tr_retI hF12
            · refine tr_ldI rfl (?_)
              refine tr_gotoE e136_38 (?_)
              exact tr_retI hF12
          · refine tr_pushI (?_)
            exact tr_retI hF5
      · refine tr_pushI (?_)
        exact tr_retI hF
-- Slope_endWithKerbs
abbrev t63_36 : List hOp := oLdI 3 :: oRetI :: []
abbrev t63_22 : List hOp := oLdI 5 :: oPushI 25 :: oIf cGe 36 :: oLdI 4 :: oLdI 3 :: oIf cEq 36 :: oLdI 4 :: oStI 3 :: oLdA 0 :: oLdI 3 :: oInvV 60 6 1 :: oStI 4 :: oInc 5 1 :: oGoto 22 :: t63_36
abbrev t63_0 : List hOp := oLdA 0 :: oDup :: oGetI 6 8 :: oLdA 0 :: oGetI 6 7 :: oLdI 2 :: oBin (fun x y => x ||| y) :: oPushI (-1) :: oBin (fun x y => x ^^^ y) :: oBin (fun x y => x &&& y) :: oPutI 6 8 :: oLdA 0 :: oLdI 2 :: oPutI 6 7 :: oLdI 1 :: oStI 3 :: oLdA 0 :: oLdI 3 :: oInvV 60 6 1 :: oStI 4 :: oPushI 0 :: oStI 5 :: t63_22
theorem e63_0 : (opsOf 63).drop 0 = t63_0 := rfl
theorem e63_22 : (opsOf 63).drop 22 = t63_22 := rfl
theorem e63_36 : (opsOf 63).drop 36 = t63_36 := rfl
def q_Slope_endWithKerbs_22 (k36 : Int32 → hG → hO Int32) (k22 : Int32 → Int32 → Int32 → hG → hO Int32) (v3 : Int32) (v4 : Int32) (v5 : Int32) (g : hG) : hO Int32 :=
  if (25 : Int32) ≤ v5 then (k36 v3 g) else (if v4 = v3 then (k36 v3 g) else (bnd (q_Slope_next v4 g) fun r12 g10 => k22 v4 r12 (v5 + (1 : Int32)) g10))
def q_Slope_endWithKerbs_22L (k36 : Int32 → hG → hO Int32) : Nat → Int32 → Int32 → Int32 → hG → hO Int32
  | 0 => fun _ _ _ _ => none
  | n + 1 => fun v3 v4 v5 g => q_Slope_endWithKerbs_22 k36 (q_Slope_endWithKerbs_22L k36 n) v3 v4 v5 g
theorem q_Slope_endWithKerbs_22L_s (k36 : Int32 → hG → hO Int32) (n : Nat) (v3 : Int32) (v4 : Int32) (v5 : Int32) (g : hG) : q_Slope_endWithKerbs_22L k36 (n + 1) v3 v4 v5 g = q_Slope_endWithKerbs_22 k36 (q_Slope_endWithKerbs_22L k36 n) v3 v4 v5 g := rfl
theorem th63_22 {e : Nat} (he : 4 ≤ e + 1) {k36 : Int32 → hG → hO Int32} {k22 : Int32 → Int32 → Int32 → hG → hO Int32} {v3 : Int32} {v4 : Int32} {v5 : Int32} {u1 : Option Value} {u2 : Option Value} (hk36 : ∀ (x3 : Int32) (y4 : Option Value) (y5 : Option Value) (_ : isL (some y4) = false) (g : hG), Frz g → Tri wI (e + 1) 63 t63_36 [some (.ref 250), u1, u2, some (.int x3), y4, y5] [] g (k36 x3 g)) (hk22 : ∀ (x3 : Int32) (x4 : Int32) (x5 : Int32) (g : hG), Frz g → Tri wI (e + 1) 63 t63_22 [some (.ref 250), u1, u2, some (.int x3), some (.int x4), some (.int x5)] [] g (k22 x3 x4 x5 g)) (hu2 : isL (some u2) = false) {g : hG} (hF : Frz g) : Tri wI (e + 1) 63 t63_22 [some (.ref 250), u1, u2, some (.int v3), some (.int v4), some (.int v5)] [] g (q_Slope_endWithKerbs_22 k36 k22 v3 v4 v5 g) := by
  unfold q_Slope_endWithKerbs_22
  refine tr_ldI rfl (tr_pushI (?_))
  refine tr_ifj e63_36 (c_ge _ _) (fun hc8 => ?_) (fun hc8 => ?_)
  · exact hk36 _ _ _ rfl _ hF
  · refine tr_ldI rfl (tr_ldI rfl (?_))
    refine tr_ifj e63_36 (c_eq _ _) (fun hc9 => ?_) (fun hc9 => ?_)
    · exact hk36 _ _ _ rfl _ hF
    · refine tr_ldI rfl (tr_stI (Nat.le_of_ble_eq_true rfl) (lKill_id hu2) rfl (tr_ldA rfl (tr_ldI rfl (?_))))
      refine tr_invVI rfl rfl (fk_250 hF) (Nat.le_of_ble_eq_true rfl) (by decide) (Nat.le_of_ble_eq_true rfl) (tm60 (by omega) hF) (fun r12 g10 _ hF11 => ?_)
      refine tr_stI (Nat.le_of_ble_eq_true rfl) rfl rfl (tr_inc rfl rfl rfl (?_))
      refine tr_gotoE e63_22 (?_)
      exact hk22 _ _ _ _ hF11
theorem th63_22L {e : Nat} (he : 4 ≤ e + 1) {k36 : Int32 → hG → hO Int32} {u1 : Option Value} {u2 : Option Value} (hk36 : ∀ (x3 : Int32) (y4 : Option Value) (y5 : Option Value) (_ : isL (some y4) = false) (g : hG), Frz g → Tri wI (e + 1) 63 t63_36 [some (.ref 250), u1, u2, some (.int x3), y4, y5] [] g (k36 x3 g)) (hu2 : isL (some u2) = false) : ∀ (n : Nat) (v3 : Int32) (v4 : Int32) (v5 : Int32) (g : hG), Frz g → Tri wI (e + 1) 63 t63_22 [some (.ref 250), u1, u2, some (.int v3), some (.int v4), some (.int v5)] [] g (q_Slope_endWithKerbs_22L k36 n v3 v4 v5 g)
  | 0 => fun _ _ _ _ _ => Tri.none_
  | n + 1 => fun _ _ _ g hF => th63_22 he hk36 (th63_22L he hk36 hu2 n) hu2 hF
def q_Slope_endWithKerbs (v1 : Int32) (v2 : Int32) (g : hG) : hO Int32 :=
  wr (sI g 250 8 ((gI g 250 8) &&& (((gI g 250 7) ||| v2) ^^^ (-1 : Int32)))) fun g1 => wr (sI g1 250 7 v2) fun g3 => bnd (q_Slope_next v1 g3) fun r7 g5 => q_Slope_endWithKerbs_22L (fun x13 g16 => some (x13, g16)) FU v1 r7 (0 : Int32) g5
theorem tm63 {d : Nat} {v1 : Int32} {v2 : Int32} (hd : 4 ≤ d) {g : hG} (hF : Frz g) : TM wI d 63 [.ref 250, .int v1, .int v2] g (q_Slope_endWithKerbs v1 v2 g) := by
  obtain ⟨e, rfl⟩ : ∃ e, d = e + 1 := ⟨d - 1, by omega⟩
  have he := hd
  refine TM.ofE e63_0 (lv := [some (.ref 250), some (.int v1), some (.int v2), none, none, none]) rfl ?_
  unfold q_Slope_endWithKerbs
  refine tr_ldA rfl (tr_dupA (tr_getI (fk_250 hF) (tr_ldA rfl (tr_getI (fk_250 hF) (tr_ldI rfl (?_))))))
  refine tr_bin (v := ((gI g 250 7) ||| v2)) rfl (tr_pushI (tr_bin (v := (((gI g 250 7) ||| v2) ^^^ (-1 : Int32))) rfl (tr_bin (v := ((gI g 250 8) &&& (((gI g 250 7) ||| v2) ^^^ (-1 : Int32)))) rfl (tr_putI hF (fk_250 hF) (fun g1 _ hF2 => tr_ldA rfl (?_))))))
  refine tr_ldI rfl (tr_putI hF2 (fk_250 hF2) (fun g3 _ hF4 => tr_ldI rfl (tr_stI (Nat.le_of_ble_eq_true rfl) rfl rfl (tr_ldA rfl (tr_ldI rfl (?_))))))
  refine tr_invVI rfl rfl (fk_250 hF4) (Nat.le_of_ble_eq_true rfl) (by decide) (Nat.le_of_ble_eq_true rfl) (tm60 (by omega) hF4) (fun r7 g5 _ hF6 => ?_)
  refine tr_stI (Nat.le_of_ble_eq_true rfl) rfl rfl (tr_pushI (tr_stI (Nat.le_of_ble_eq_true rfl) rfl rfl (?_)))
  refine th63_22L he (fun x13 y14 y15 zy14 g16 hF17 => ?_) rfl FU _ _ _ _ hF6
  · refine tr_ldI rfl (?_)
    exact tr_retI hF17
-- MP_freeForKerbs
abbrev t139_28 : List hOp := oLdI 3 :: oRetI :: []
abbrev t139_26 : List hOp := oInc 4 1 :: oGoto 4 :: t139_28
abbrev t139_4 : List hOp := oLdI 4 :: oPushI 25 :: oIf cGe 28 :: oLdI 4 :: oLdI 1 :: oIf cEq 26 :: oLdI 4 :: oLdI 2 :: oIf cEq 26 :: oLdA 0 :: oGetP 11 1 :: oGetP 2 3 :: oLdI 4 :: oALdI 13 :: oPushI 9 :: oIf cEq 26 :: oLdI 3 :: oPushI 1 :: oLdI 4 :: oBin (fun x y => x <<< (y &&& 31)) :: oBin (fun x y => x ||| y) :: oStI 3 :: t139_26
abbrev t139_0 : List hOp := oPushI 0 :: oStI 3 :: oPushI 0 :: oStI 4 :: t139_4
theorem e139_0 : (opsOf 139).drop 0 = t139_0 := rfl
theorem e139_4 : (opsOf 139).drop 4 = t139_4 := rfl
theorem e139_26 : (opsOf 139).drop 26 = t139_26 := rfl
theorem e139_28 : (opsOf 139).drop 28 = t139_28 := rfl
def q_MP_freeForKerbs_4 (v1 : Int32) (v2 : Int32) (k28 : Int32 → hG → hO Int32) (k4 : Int32 → Int32 → hG → hO Int32) (v3 : Int32) (v4 : Int32) (g : hG) : hO Int32 :=
  if (25 : Int32) ≤ v4 then (k28 v3 g) else (if v4 = v1 then (k4 v3 (v4 + (1 : Int32)) g) else (if v4 = v2 then (k4 v3 (v4 + (1 : Int32)) g) else (gd v4 25 <| if (gI g 6 v4.toNatClampNeg) = (9 : Int32) then (k4 v3 (v4 + (1 : Int32)) g) else (k4 (v3 ||| (shl (1 : Int32) v4)) (v4 + (1 : Int32)) g))))
def q_MP_freeForKerbs_4L (v1 : Int32) (v2 : Int32) (k28 : Int32 → hG → hO Int32) : Nat → Int32 → Int32 → hG → hO Int32
  | 0 => fun _ _ _ => none
  | n + 1 => fun v3 v4 g => q_MP_freeForKerbs_4 v1 v2 k28 (q_MP_freeForKerbs_4L v1 v2 k28 n) v3 v4 g
theorem q_MP_freeForKerbs_4L_s (v1 : Int32) (v2 : Int32) (k28 : Int32 → hG → hO Int32) (n : Nat) (v3 : Int32) (v4 : Int32) (g : hG) : q_MP_freeForKerbs_4L v1 v2 k28 (n + 1) v3 v4 g = q_MP_freeForKerbs_4 v1 v2 k28 (q_MP_freeForKerbs_4L v1 v2 k28 n) v3 v4 g := rfl
theorem th139_4 {d : Nat} {v1 : Int32} {v2 : Int32} {k28 : Int32 → hG → hO Int32} {k4 : Int32 → Int32 → hG → hO Int32} {v3 : Int32} {v4 : Int32} (hk28 : ∀ (x3 : Int32) (y4 : Option Value) (g : hG), Frz g → Tri wI d 139 t139_28 [some (.ref 0), some (.int v1), some (.int v2), some (.int x3), y4] [] g (k28 x3 g)) (hk4 : ∀ (x3 : Int32) (x4 : Int32) (g : hG), Frz g → Tri wI d 139 t139_4 [some (.ref 0), some (.int v1), some (.int v2), some (.int x3), some (.int x4)] [] g (k4 x3 x4 g)) {g : hG} (hF : Frz g) : Tri wI d 139 t139_4 [some (.ref 0), some (.int v1), some (.int v2), some (.int v3), some (.int v4)] [] g (q_MP_freeForKerbs_4 v1 v2 k28 k4 v3 v4 g) := by
  unfold q_MP_freeForKerbs_4
  refine tr_ldI rfl (tr_pushI (?_))
  refine tr_ifj e139_28 (c_ge _ _) (fun hc1 => ?_) (fun hc1 => ?_)
  · exact hk28 _ _ _ hF
  · refine tr_ldI rfl (tr_ldI rfl (?_))
    refine tr_ifj e139_26 (c_eq _ _) (fun hc2 => ?_) (fun hc2 => ?_)
    · refine tr_inc rfl rfl rfl (?_)
      refine tr_gotoE e139_4 (?_)
      exact hk4 _ _ _ hF
    · refine tr_ldI rfl (tr_ldI rfl (?_))
      refine tr_ifj e139_26 (c_eq _ _) (fun hc3 => ?_) (fun hc3 => ?_)
      · refine tr_inc rfl rfl rfl (?_)
        refine tr_gotoE e139_4 (?_)
        exact hk4 _ _ _ hF
      · refine tr_ldA rfl (tr_getP (b := 2) (fk_0 hF) (fp_0_1 hF) (tr_getP (b := 6) (fk_2 hF) (fp_2_3 hF) (tr_ldI rfl (tr_aldI (fk_6 hF) (fl_6 hF) (fun _ => tr_pushI (?_))))))
        refine tr_ifj e139_26 (c_eq _ _) (fun hc4 => ?_) (fun hc4 => ?_)
        · refine tr_inc rfl rfl rfl (?_)
          refine tr_gotoE e139_4 (?_)
          exact hk4 _ _ _ hF
        · refine tr_ldI rfl (tr_pushI (tr_ldI rfl (tr_bin (v := (shl (1 : Int32) v4)) rfl (tr_bin (v := (v3 ||| (shl (1 : Int32) v4))) rfl (tr_stI (Nat.le_of_ble_eq_true rfl) rfl rfl (?_))))))
          refine tr_inc rfl rfl rfl (?_)
          refine tr_gotoE e139_4 (?_)
          exact hk4 _ _ _ hF
theorem th139_4L {d : Nat} {v1 : Int32} {v2 : Int32} {k28 : Int32 → hG → hO Int32} (hk28 : ∀ (x3 : Int32) (y4 : Option Value) (g : hG), Frz g → Tri wI d 139 t139_28 [some (.ref 0), some (.int v1), some (.int v2), some (.int x3), y4] [] g (k28 x3 g)) : ∀ (n : Nat) (v3 : Int32) (v4 : Int32) (g : hG), Frz g → Tri wI d 139 t139_4 [some (.ref 0), some (.int v1), some (.int v2), some (.int v3), some (.int v4)] [] g (q_MP_freeForKerbs_4L v1 v2 k28 n v3 v4 g)
  | 0 => fun _ _ _ _ => Tri.none_
  | n + 1 => fun _ _ g hF => th139_4 hk28 (th139_4L hk28 n) hF
def q_MP_freeForKerbs (v1 : Int32) (v2 : Int32) (g : hG) : hO Int32 :=
  q_MP_freeForKerbs_4L v1 v2 (fun x5 g7 => some (x5, g7)) FU (0 : Int32) (0 : Int32) g
theorem tm139 {d : Nat} {v1 : Int32} {v2 : Int32} {g : hG} (hF : Frz g) : TM wI d 139 [.ref 0, .int v1, .int v2] g (q_MP_freeForKerbs v1 v2 g) := by
  refine TM.ofE e139_0 (lv := [some (.ref 0), some (.int v1), some (.int v2), none, none]) rfl ?_
  unfold q_MP_freeForKerbs
  refine tr_pushI (tr_stI (Nat.le_of_ble_eq_true rfl) rfl rfl (tr_pushI (tr_stI (Nat.le_of_ble_eq_true rfl) rfl rfl (?_))))
  refine th139_4L (fun x5 y6 g7 hF8 => ?_) FU _ _ _ hF
  · refine tr_ldI rfl (?_)
    exact tr_retI hF8
-- MP_fewestKerbs
abbrev t138_77 : List hOp := oPushI (-1) :: oRetI :: []
abbrev t138_75 : List hOp := oInc 4 1 :: oGoto 40 :: t138_77
abbrev t138_73 : List hOp := oInc 5 1 :: oGoto 45 :: t138_75
abbrev t138_71 : List hOp := oLdI 6 :: oRetI :: t138_73
abbrev t138_45 : List hOp := oLdI 5 :: oLdI 4 :: oIf cGe 75 :: oLdI 4 :: oLdI 3 :: oInvS 162 2 :: oIf0 cEq 75 :: oPushI 1 :: oLdI 4 :: oBin (fun x y => x <<< (y &&& 31)) :: oPushI 1 :: oLdI 5 :: oBin (fun x y => x <<< (y &&& 31)) :: oBin (fun x y => x ||| y) :: oStI 6 :: oLdI 5 :: oLdI 3 :: oInvS 162 2 :: oIf0 cEq 73 :: oLdA 0 :: oGetP 11 15 :: oLdI 1 :: oLdI 6 :: oInvV 63 6 2 :: oLdI 2 :: oIf cNe 73 :: t138_71
abbrev t138_40 : List hOp := oLdI 4 :: oPushI 25 :: oIf cGe 77 :: oPushI 0 :: oStI 5 :: t138_45
abbrev t138_38 : List hOp := oPushI 1 :: oStI 4 :: t138_40
abbrev t138_36 : List hOp := oInc 4 1 :: oGoto 16 :: t138_38
abbrev t138_32 : List hOp := oPushI 1 :: oLdI 4 :: oBin (fun x y => x <<< (y &&& 31)) :: oRetI :: t138_36
abbrev t138_16 : List hOp := oLdI 4 :: oPushI 25 :: oIf cGe 38 :: oLdI 4 :: oLdI 3 :: oInvS 162 2 :: oIf0 cEq 36 :: oLdA 0 :: oGetP 11 15 :: oLdI 1 :: oPushI 1 :: oLdI 4 :: oBin (fun x y => x <<< (y &&& 31)) :: oInvV 63 6 2 :: oLdI 2 :: oIf cNe 36 :: t138_32
abbrev t138_9 : List hOp := oLdA 0 :: oLdI 1 :: oLdI 2 :: oInvV 139 11 2 :: oStI 3 :: oPushI 0 :: oStI 4 :: t138_16
abbrev t138_0 : List hOp := oLdA 0 :: oGetP 11 15 :: oLdI 1 :: oPushI 0 :: oInvV 63 6 2 :: oLdI 2 :: oIf cNe 9 :: oPushI 0 :: oRetI :: t138_9
theorem e138_0 : (opsOf 138).drop 0 = t138_0 := rfl
theorem e138_9 : (opsOf 138).drop 9 = t138_9 := rfl
theorem e138_16 : (opsOf 138).drop 16 = t138_16 := rfl
theorem e138_36 : (opsOf 138).drop 36 = t138_36 := rfl
theorem e138_38 : (opsOf 138).drop 38 = t138_38 := rfl
theorem e138_40 : (opsOf 138).drop 40 = t138_40 := rfl
theorem e138_45 : (opsOf 138).drop 45 = t138_45 := rfl
theorem e138_73 : (opsOf 138).drop 73 = t138_73 := rfl
theorem e138_75 : (opsOf 138).drop 75 = t138_75 := rfl
theorem e138_77 : (opsOf 138).drop 77 = t138_77 := rfl
def q_MP_fewestKerbs_16 (v1 : Int32) (v2 : Int32) (v3 : Int32) (k38 : hG → hO Int32) (k16 : Int32 → hG → hO Int32) (v4 : Int32) (g : hG) : hO Int32 :=
  if (25 : Int32) ≤ v4 then (k38 g) else (bnd (q_MP_isAmong v4 v3 g) fun r11 g9 => if r11 = (0 : Int32) then (k16 (v4 + (1 : Int32)) g9) else (bnd (q_Slope_endWithKerbs v1 (shl (1 : Int32) v4) g9) fun r15 g13 => if r15 = v2 then (some ((shl (1 : Int32) v4), g13)) else (k16 (v4 + (1 : Int32)) g13)))
def q_MP_fewestKerbs_16L (v1 : Int32) (v2 : Int32) (v3 : Int32) (k38 : hG → hO Int32) : Nat → Int32 → hG → hO Int32
  | 0 => fun _ _ => none
  | n + 1 => fun v4 g => q_MP_fewestKerbs_16 v1 v2 v3 k38 (q_MP_fewestKerbs_16L v1 v2 v3 k38 n) v4 g
theorem q_MP_fewestKerbs_16L_s (v1 : Int32) (v2 : Int32) (v3 : Int32) (k38 : hG → hO Int32) (n : Nat) (v4 : Int32) (g : hG) : q_MP_fewestKerbs_16L v1 v2 v3 k38 (n + 1) v4 g = q_MP_fewestKerbs_16 v1 v2 v3 k38 (q_MP_fewestKerbs_16L v1 v2 v3 k38 n) v4 g := rfl
theorem th138_16 {e : Nat} (he : 5 ≤ e + 1) {v1 : Int32} {v2 : Int32} {v3 : Int32} {k38 : hG → hO Int32} {k16 : Int32 → hG → hO Int32} {v4 : Int32} {u5 : Option Value} {u6 : Option Value} (hk38 : ∀ (y4 : Option Value) (_ : isL (some y4) = false) (g : hG), Frz g → Tri wI (e + 1) 138 t138_38 [some (.ref 0), some (.int v1), some (.int v2), some (.int v3), y4, u5, u6] [] g (k38 g)) (hk16 : ∀ (x4 : Int32) (g : hG), Frz g → Tri wI (e + 1) 138 t138_16 [some (.ref 0), some (.int v1), some (.int v2), some (.int v3), some (.int x4), u5, u6] [] g (k16 x4 g)) (hu5 : isL (some u5) = false) {g : hG} (hF : Frz g) : Tri wI (e + 1) 138 t138_16 [some (.ref 0), some (.int v1), some (.int v2), some (.int v3), some (.int v4), u5, u6] [] g (q_MP_fewestKerbs_16 v1 v2 v3 k38 k16 v4 g) := by
  unfold q_MP_fewestKerbs_16
  refine tr_ldI rfl (tr_pushI (?_))
  refine tr_ifj e138_38 (c_ge _ _) (fun hc8 => ?_) (fun hc8 => ?_)
  · exact hk38 _ rfl _ hF
  · refine tr_ldI rfl (tr_ldI rfl (?_))
    refine tr_invSI rfl rfl (Nat.le_of_ble_eq_true rfl) (Nat.le_of_ble_eq_true rfl) (by decide) (Nat.le_of_ble_eq_true rfl) (tm162 hF) (fun r11 g9 _ hF10 => ?_)
    refine tr_if0j e138_36 (c_eq _ _) (fun hc12 => ?_) (fun hc12 => ?_)
    · refine tr_inc rfl rfl rfl (?_)
      refine tr_gotoE e138_16 (?_)
      exact hk16 _ _ hF10
    · refine tr_ldA rfl (tr_getP (b := 250) (fk_0 hF10) (fp_0_15 hF10) (tr_ldI rfl (tr_pushI (tr_ldI rfl (tr_bin (v := (shl (1 : Int32) v4)) rfl (?_))))))
      refine tr_invVI rfl rfl (fk_250 hF10) (Nat.le_of_ble_eq_true rfl) (by decide) (Nat.le_of_ble_eq_true rfl) (tm63 (by omega) hF10) (fun r15 g13 _ hF14 => ?_)
      refine tr_ldI rfl (?_)
      refine tr_ifn e138_36 (c_ne _ _) (fun hc16 => ?_) (fun hc16 => ?_)
      · refine tr_inc rfl rfl rfl (?_)
        refine tr_gotoE e138_16 (?_)
        exact hk16 _ _ hF14
      · refine tr_pushI (tr_ldI rfl (tr_bin (v := (shl (1 : Int32) v4)) rfl (?_)))
        exact tr_retI hF14
theorem th138_16L {e : Nat} (he : 5 ≤ e + 1) {v1 : Int32} {v2 : Int32} {v3 : Int32} {k38 : hG → hO Int32} {u5 : Option Value} {u6 : Option Value} (hk38 : ∀ (y4 : Option Value) (_ : isL (some y4) = false) (g : hG), Frz g → Tri wI (e + 1) 138 t138_38 [some (.ref 0), some (.int v1), some (.int v2), some (.int v3), y4, u5, u6] [] g (k38 g)) (hu5 : isL (some u5) = false) : ∀ (n : Nat) (v4 : Int32) (g : hG), Frz g → Tri wI (e + 1) 138 t138_16 [some (.ref 0), some (.int v1), some (.int v2), some (.int v3), some (.int v4), u5, u6] [] g (q_MP_fewestKerbs_16L v1 v2 v3 k38 n v4 g)
  | 0 => fun _ _ _ => Tri.none_
  | n + 1 => fun _ g hF => th138_16 he hk38 (th138_16L he hk38 hu5 n) hu5 hF
def q_MP_fewestKerbs_45 (v1 : Int32) (v2 : Int32) (v3 : Int32) (v4 : Int32) (k75 : hG → hO Int32) (k45 : Int32 → hG → hO Int32) (v5 : Int32) (g : hG) : hO Int32 :=
  if v4 ≤ v5 then (k75 g) else (bnd (q_MP_isAmong v4 v3 g) fun r24 g22 => if r24 = (0 : Int32) then (k75 g22) else (bnd (q_MP_isAmong v5 v3 g22) fun r28 g26 => if r28 = (0 : Int32) then (k45 (v5 + (1 : Int32)) g26) else (bnd (q_Slope_endWithKerbs v1 ((shl (1 : Int32) v4) ||| (shl (1 : Int32) v5)) g26) fun r32 g30 => if r32 = v2 then (some (((shl (1 : Int32) v4) ||| (shl (1 : Int32) v5)), g30)) else (k45 (v5 + (1 : Int32)) g30))))
def q_MP_fewestKerbs_45L (v1 : Int32) (v2 : Int32) (v3 : Int32) (v4 : Int32) (k75 : hG → hO Int32) : Nat → Int32 → hG → hO Int32
  | 0 => fun _ _ => none
  | n + 1 => fun v5 g => q_MP_fewestKerbs_45 v1 v2 v3 v4 k75 (q_MP_fewestKerbs_45L v1 v2 v3 v4 k75 n) v5 g
theorem q_MP_fewestKerbs_45L_s (v1 : Int32) (v2 : Int32) (v3 : Int32) (v4 : Int32) (k75 : hG → hO Int32) (n : Nat) (v5 : Int32) (g : hG) : q_MP_fewestKerbs_45L v1 v2 v3 v4 k75 (n + 1) v5 g = q_MP_fewestKerbs_45 v1 v2 v3 v4 k75 (q_MP_fewestKerbs_45L v1 v2 v3 v4 k75 n) v5 g := rfl
theorem th138_45 {e : Nat} (he : 5 ≤ e + 1) {v1 : Int32} {v2 : Int32} {v3 : Int32} {v4 : Int32} {k75 : hG → hO Int32} {k45 : Int32 → hG → hO Int32} {v5 : Int32} {u6 : Option Value} (hk75 : ∀ (y5 : Option Value) (y6 : Option Value) (_ : isL (some y5) = false) (g : hG), Frz g → Tri wI (e + 1) 138 t138_75 [some (.ref 0), some (.int v1), some (.int v2), some (.int v3), some (.int v4), y5, y6] [] g (k75 g)) (hk45 : ∀ (x5 : Int32) (y6 : Option Value) (g : hG), Frz g → Tri wI (e + 1) 138 t138_45 [some (.ref 0), some (.int v1), some (.int v2), some (.int v3), some (.int v4), some (.int x5), y6] [] g (k45 x5 g)) {g : hG} (hF : Frz g) : Tri wI (e + 1) 138 t138_45 [some (.ref 0), some (.int v1), some (.int v2), some (.int v3), some (.int v4), some (.int v5), u6] [] g (q_MP_fewestKerbs_45 v1 v2 v3 v4 k75 k45 v5 g) := by
  unfold q_MP_fewestKerbs_45
  refine tr_ldI rfl (tr_ldI rfl (?_))
  refine tr_ifj e138_75 (c_ge _ _) (fun hc21 => ?_) (fun hc21 => ?_)
  · exact hk75 _ _ rfl _ hF
  · refine tr_ldI rfl (tr_ldI rfl (?_))
    refine tr_invSI rfl rfl (Nat.le_of_ble_eq_true rfl) (Nat.le_of_ble_eq_true rfl) (by decide) (Nat.le_of_ble_eq_true rfl) (tm162 hF) (fun r24 g22 _ hF23 => ?_)
    refine tr_if0j e138_75 (c_eq _ _) (fun hc25 => ?_) (fun hc25 => ?_)
    · exact hk75 _ _ rfl _ hF23
    · refine tr_pushI (tr_ldI rfl (tr_bin (v := (shl (1 : Int32) v4)) rfl (tr_pushI (tr_ldI rfl (tr_bin (v := (shl (1 : Int32) v5)) rfl (?_))))))
      refine tr_bin (v := ((shl (1 : Int32) v4) ||| (shl (1 : Int32) v5))) rfl (tr_stI (Nat.le_of_ble_eq_true rfl) rfl rfl (tr_ldI rfl (tr_ldI rfl (?_))))
      refine tr_invSI rfl rfl (Nat.le_of_ble_eq_true rfl) (Nat.le_of_ble_eq_true rfl) (by decide) (Nat.le_of_ble_eq_true rfl) (tm162 hF23) (fun r28 g26 _ hF27 => ?_)
      refine tr_if0j e138_73 (c_eq _ _) (fun hc29 => ?_) (fun hc29 => ?_)
      · refine tr_inc rfl rfl rfl (?_)
        refine tr_gotoE e138_45 (?_)
        exact hk45 _ _ _ hF27
      · refine tr_ldA rfl (tr_getP (b := 250) (fk_0 hF27) (fp_0_15 hF27) (tr_ldI rfl (tr_ldI rfl (?_))))
        refine tr_invVI rfl rfl (fk_250 hF27) (Nat.le_of_ble_eq_true rfl) (by decide) (Nat.le_of_ble_eq_true rfl) (tm63 (by omega) hF27) (fun r32 g30 _ hF31 => ?_)
        refine tr_ldI rfl (?_)
        refine tr_ifn e138_73 (c_ne _ _) (fun hc33 => ?_) (fun hc33 => ?_)
        · refine tr_inc rfl rfl rfl (?_)
          refine tr_gotoE e138_45 (?_)
          exact hk45 _ _ _ hF31
        · refine tr_ldI rfl (?_)
          exact tr_retI hF31
theorem th138_45L {e : Nat} (he : 5 ≤ e + 1) {v1 : Int32} {v2 : Int32} {v3 : Int32} {v4 : Int32} {k75 : hG → hO Int32} (hk75 : ∀ (y5 : Option Value) (y6 : Option Value) (_ : isL (some y5) = false) (g : hG), Frz g → Tri wI (e + 1) 138 t138_75 [some (.ref 0), some (.int v1), some (.int v2), some (.int v3), some (.int v4), y5, y6] [] g (k75 g)) : ∀ (n : Nat) (v5 : Int32) (u6 : Option Value) (g : hG), Frz g → Tri wI (e + 1) 138 t138_45 [some (.ref 0), some (.int v1), some (.int v2), some (.int v3), some (.int v4), some (.int v5), u6] [] g (q_MP_fewestKerbs_45L v1 v2 v3 v4 k75 n v5 g)
  | 0 => fun _ _ _ _ => Tri.none_
  | n + 1 => fun _ _ g hF => th138_45 he hk75 (th138_45L he hk75 n) hF
def q_MP_fewestKerbs_40 (v1 : Int32) (v2 : Int32) (v3 : Int32) (k77 : hG → hO Int32) (k40 : Int32 → hG → hO Int32) (v4 : Int32) (g : hG) : hO Int32 :=
  if (25 : Int32) ≤ v4 then (k77 g) else (q_MP_fewestKerbs_45L v1 v2 v3 v4 (fun g36 => k40 (v4 + (1 : Int32)) g36) FU (0 : Int32) g)
def q_MP_fewestKerbs_40L (v1 : Int32) (v2 : Int32) (v3 : Int32) (k77 : hG → hO Int32) : Nat → Int32 → hG → hO Int32
  | 0 => fun _ _ => none
  | n + 1 => fun v4 g => q_MP_fewestKerbs_40 v1 v2 v3 k77 (q_MP_fewestKerbs_40L v1 v2 v3 k77 n) v4 g
theorem q_MP_fewestKerbs_40L_s (v1 : Int32) (v2 : Int32) (v3 : Int32) (k77 : hG → hO Int32) (n : Nat) (v4 : Int32) (g : hG) : q_MP_fewestKerbs_40L v1 v2 v3 k77 (n + 1) v4 g = q_MP_fewestKerbs_40 v1 v2 v3 k77 (q_MP_fewestKerbs_40L v1 v2 v3 k77 n) v4 g := rfl
theorem th138_40 {e : Nat} (he : 5 ≤ e + 1) {v1 : Int32} {v2 : Int32} {v3 : Int32} {k77 : hG → hO Int32} {k40 : Int32 → hG → hO Int32} {v4 : Int32} {u5 : Option Value} {u6 : Option Value} (hk77 : ∀ (y4 : Option Value) (y5 : Option Value) (y6 : Option Value) (_ : isL (some y4) = false) (_ : isL (some y5) = false) (g : hG), Frz g → Tri wI (e + 1) 138 t138_77 [some (.ref 0), some (.int v1), some (.int v2), some (.int v3), y4, y5, y6] [] g (k77 g)) (hk40 : ∀ (x4 : Int32) (y5 : Option Value) (y6 : Option Value) (_ : isL (some y5) = false) (g : hG), Frz g → Tri wI (e + 1) 138 t138_40 [some (.ref 0), some (.int v1), some (.int v2), some (.int v3), some (.int x4), y5, y6] [] g (k40 x4 g)) (hu5 : isL (some u5) = false) {g : hG} (hF : Frz g) : Tri wI (e + 1) 138 t138_40 [some (.ref 0), some (.int v1), some (.int v2), some (.int v3), some (.int v4), u5, u6] [] g (q_MP_fewestKerbs_40 v1 v2 v3 k77 k40 v4 g) := by
  unfold q_MP_fewestKerbs_40
  refine tr_ldI rfl (tr_pushI (?_))
  refine tr_ifj e138_77 (c_ge _ _) (fun hc20 => ?_) (fun hc20 => ?_)
  · exact hk77 _ _ _ rfl hu5 _ hF
  · refine tr_pushI (tr_stI (Nat.le_of_ble_eq_true rfl) rfl rfl (?_))
    refine th138_45L he (fun y34 y35 zy34 g36 hF37 => ?_) FU _ _ _ hF
    · refine tr_inc rfl rfl rfl (?_)
      refine tr_gotoE e138_40 (?_)
      exact hk40 _ _ _ zy34 _ hF37
theorem th138_40L {e : Nat} (he : 5 ≤ e + 1) {v1 : Int32} {v2 : Int32} {v3 : Int32} {k77 : hG → hO Int32} (hk77 : ∀ (y4 : Option Value) (y5 : Option Value) (y6 : Option Value) (_ : isL (some y4) = false) (_ : isL (some y5) = false) (g : hG), Frz g → Tri wI (e + 1) 138 t138_77 [some (.ref 0), some (.int v1), some (.int v2), some (.int v3), y4, y5, y6] [] g (k77 g)) : ∀ (n : Nat) (v4 : Int32) (u5 : Option Value) (u6 : Option Value) (_ : isL (some u5) = false) (g : hG), Frz g → Tri wI (e + 1) 138 t138_40 [some (.ref 0), some (.int v1), some (.int v2), some (.int v3), some (.int v4), u5, u6] [] g (q_MP_fewestKerbs_40L v1 v2 v3 k77 n v4 g)
  | 0 => fun _ _ _ _ _ _ => Tri.none_
  | n + 1 => fun _ _ _ z5 g hF => th138_40 he hk77 (th138_40L he hk77 n) z5 hF
def q_MP_fewestKerbs (v1 : Int32) (v2 : Int32) (g : hG) : hO Int32 :=
  bnd (q_Slope_endWithKerbs v1 (0 : Int32) g) fun r3 g1 => if r3 = v2 then (some ((0 : Int32), g1)) else (bnd (q_MP_freeForKerbs v1 v2 g1) fun r7 g5 => q_MP_fewestKerbs_16L v1 v2 r7 (fun g18 => q_MP_fewestKerbs_40L v1 v2 r7 (fun g41 => some ((-1 : Int32), g41)) FU (1 : Int32) g18) FU (0 : Int32) g5)
theorem tm138 {d : Nat} {v1 : Int32} {v2 : Int32} (hd : 5 ≤ d) {g : hG} (hF : Frz g) : TM wI d 138 [.ref 0, .int v1, .int v2] g (q_MP_fewestKerbs v1 v2 g) := by
  obtain ⟨e, rfl⟩ : ∃ e, d = e + 1 := ⟨d - 1, by omega⟩
  have he := hd
  refine TM.ofE e138_0 (lv := [some (.ref 0), some (.int v1), some (.int v2), none, none, none, none]) rfl ?_
  unfold q_MP_fewestKerbs
  refine tr_ldA rfl (tr_getP (b := 250) (fk_0 hF) (fp_0_15 hF) (tr_ldI rfl (tr_pushI (?_))))
  refine tr_invVI rfl rfl (fk_250 hF) (Nat.le_of_ble_eq_true rfl) (by decide) (Nat.le_of_ble_eq_true rfl) (tm63 (by omega) hF) (fun r3 g1 _ hF2 => ?_)
  refine tr_ldI rfl (?_)
  refine tr_ifn e138_9 (c_ne _ _) (fun hc4 => ?_) (fun hc4 => ?_)
  · refine tr_ldA rfl (tr_ldI rfl (tr_ldI rfl (?_)))
    refine tr_invVI rfl rfl (fk_0 hF2) (Nat.le_of_ble_eq_true rfl) (by decide) (Nat.le_of_ble_eq_true rfl) (tm139 hF2) (fun r7 g5 _ hF6 => ?_)
    refine tr_stI (Nat.le_of_ble_eq_true rfl) rfl rfl (tr_pushI (tr_stI (Nat.le_of_ble_eq_true rfl) rfl rfl (?_)))
    refine th138_16L he (fun y17 zy17 g18 hF19 => ?_) rfl FU _ _ hF6
    · refine tr_pushI (tr_stI (Nat.le_of_ble_eq_true rfl) rfl rfl (?_))
      refine th138_40L he (fun y38 y39 y40 zy38 zy39 g41 hF42 => ?_) FU _ _ _ rfl _ hF19
      · refine tr_pushI (?_)
        exact tr_retI hF42
  · refine tr_pushI (?_)
    exact tr_retI hF2
-- MP_kerbs
abbrev t137_41 : List hOp := oRetI :: []
abbrev t137_39 : List hOp := oLdI 4 :: oInvS 8 1 :: t137_41
abbrev t137_37 : List hOp := oLdI 4 :: oGoto 41 :: t137_39
abbrev t137_18 : List hOp := oLdA 0 :: oGetP 11 15 :: oLdA 0 :: oGetP 11 1 :: oLdA 0 :: oGetP 11 0 :: oGetI 1 9 :: oInvV 57 6 2 :: oLdA 0 :: oLdI 1 :: oLdI 2 :: oInvV 138 11 2 :: oStI 4 :: oLdI 3 :: oPushI 1 :: oIf cEq 37 :: oLdI 4 :: oPushI (-1) :: oIf cNe 39 :: t137_37
abbrev t137_16 : List hOp := oPushI (-1) :: oRetI :: t137_18
abbrev t137_0 : List hOp := oLdI 1 :: oInvS 159 1 :: oIf0 cEq 16 :: oLdI 2 :: oInvS 159 1 :: oIf0 cEq 16 :: oLdI 3 :: oIf0 cLt 16 :: oLdI 3 :: oPushI 1 :: oIf cGt 16 :: oLdA 0 :: oGetP 11 0 :: oLdI 2 :: oInvV 14 1 1 :: oIf0 cNe 18 :: t137_16
theorem e137_0 : (opsOf 137).drop 0 = t137_0 := rfl
theorem e137_16 : (opsOf 137).drop 16 = t137_16 := rfl
theorem e137_18 : (opsOf 137).drop 18 = t137_18 := rfl
theorem e137_37 : (opsOf 137).drop 37 = t137_37 := rfl
theorem e137_39 : (opsOf 137).drop 39 = t137_39 := rfl
theorem e137_41 : (opsOf 137).drop 41 = t137_41 := rfl
def q_MP_kerbs (v1 : Int32) (v2 : Int32) (v3 : Int32) (g : hG) : hO Int32 :=
  bnd (q_MP_isCell v1 g) fun r3 g1 => if r3 = (0 : Int32) then (some ((-1 : Int32), g1)) else (bnd (q_MP_isCell v2 g1) fun r7 g5 => if r7 = (0 : Int32) then (some ((-1 : Int32), g5)) else (if v3 < (0 : Int32) then (some ((-1 : Int32), g5)) else (if (1 : Int32) < v3 then (some ((-1 : Int32), g5)) else (bnd (q_Kept_hasDoor v2 g5) fun r13 g11 => if r13 = (0 : Int32) then (some ((-1 : Int32), g11)) else (bnd (q_Slope_face 2 (gI g11 1 9) g11) fun _ g15 => bnd (q_MP_fewestKerbs v1 v2 g15) fun r19 g17 => if v3 = (1 : Int32) then (some (r19, g17)) else (if r19 = (-1 : Int32) then (some (r19, g17)) else (bnd (q_Ji_bitCount r19 g17) fun r24 g22 => some (r24, g22))))))))
theorem tm137 {d : Nat} {v1 : Int32} {v2 : Int32} {v3 : Int32} (hd : 6 ≤ d) {g : hG} (hF : Frz g) : TM wI d 137 [.ref 0, .int v1, .int v2, .int v3] g (q_MP_kerbs v1 v2 v3 g) := by
  obtain ⟨e, rfl⟩ : ∃ e, d = e + 1 := ⟨d - 1, by omega⟩
  have he := hd
  refine TM.ofE e137_0 (lv := [some (.ref 0), some (.int v1), some (.int v2), some (.int v3), none]) rfl ?_
  unfold q_MP_kerbs
  refine tr_ldI rfl (?_)
  refine tr_invSI rfl rfl (Nat.le_of_ble_eq_true rfl) (Nat.le_of_ble_eq_true rfl) (by decide) (Nat.le_of_ble_eq_true rfl) (tm159 hF) (fun r3 g1 _ hF2 => ?_)
  refine tr_if0j e137_16 (c_eq _ _) (fun hc4 => ?_) (fun hc4 => ?_)
  · refine tr_pushI (?_)
    exact tr_retI hF2
  · refine tr_ldI rfl (?_)
    refine tr_invSI rfl rfl (Nat.le_of_ble_eq_true rfl) (Nat.le_of_ble_eq_true rfl) (by decide) (Nat.le_of_ble_eq_true rfl) (tm159 hF2) (fun r7 g5 _ hF6 => ?_)
    refine tr_if0j e137_16 (c_eq _ _) (fun hc8 => ?_) (fun hc8 => ?_)
    · refine tr_pushI (?_)
      exact tr_retI hF6
    · refine tr_ldI rfl (?_)
      refine tr_if0j e137_16 (c_lt _ _) (fun hc9 => ?_) (fun hc9 => ?_)
      · refine tr_pushI (?_)
        exact tr_retI hF6
      · refine tr_ldI rfl (tr_pushI (?_))
        refine tr_ifj e137_16 (c_gt _ _) (fun hc10 => ?_) (fun hc10 => ?_)
        · refine tr_pushI (?_)
          exact tr_retI hF6
        · refine tr_ldA rfl (tr_getP (b := 1) (fk_0 hF6) (fp_0_0 hF6) (tr_ldI rfl (?_)))
          refine tr_invVI rfl rfl (fk_1 hF6) (Nat.le_of_ble_eq_true rfl) (by decide) (Nat.le_of_ble_eq_true rfl) (tm14 (by omega) hF6) (fun r13 g11 _ hF12 => ?_)
          refine tr_if0n e137_18 (c_ne _ _) (fun hc14 => ?_) (fun hc14 => ?_)
          · refine tr_ldA rfl (tr_getP (b := 250) (fk_0 hF12) (fp_0_15 hF12) (tr_ldA rfl (tr_getP (b := 2) (fk_0 hF12) (fp_0_1 hF12) (tr_ldA rfl (tr_getP (b := 1) (fk_0 hF12) (fp_0_0 hF12) (?_))))))
            refine tr_getI (fk_1 hF12) (?_)
            refine tr_invVU rfl rfl (fk_250 hF12) (Nat.le_of_ble_eq_true rfl) (by decide) (Nat.le_of_ble_eq_true rfl) (tm57 rfl hF12) (fun _ g15 _ hF16 => ?_)
            refine tr_ldA rfl (tr_ldI rfl (tr_ldI rfl (?_)))
            refine tr_invVI rfl rfl (fk_0 hF16) (Nat.le_of_ble_eq_true rfl) (by decide) (Nat.le_of_ble_eq_true rfl) (tm138 (by omega) hF16) (fun r19 g17 _ hF18 => ?_)
            refine tr_stI (Nat.le_of_ble_eq_true rfl) rfl rfl (tr_ldI rfl (tr_pushI (?_)))
            refine tr_ifj e137_37 (c_eq _ _) (fun hc20 => ?_) (fun hc20 => ?_)
            · refine tr_ldI rfl (?_)
              refine tr_gotoE e137_41 (?_)
              exact tr_retI hF18
            · refine tr_ldI rfl (tr_pushI (?_))
              refine tr_ifn e137_39 (c_ne _ _) (fun hc21 => ?_) (fun hc21 => ?_)
              · refine tr_ldI rfl (?_)
                refine tr_invSI rfl rfl (Nat.le_of_ble_eq_true rfl) (Nat.le_of_ble_eq_true rfl) (by decide) (Nat.le_of_ble_eq_true rfl) (tm8 hF18) (fun r24 g22 _ hF23 => ?_)
                exact tr_retI hF23
              · refine tr_ldI rfl (?_)
                refine tr_gotoE e137_41 (?_)
                exact tr_retI hF18
          · refine tr_pushI (?_)
            exact tr_retI hF12
-- Str_unreached
abbrev t75_24 : List hOp := oPushI 33554431 :: oLdI 1 :: oPushI (-1) :: oBin (fun x y => x ^^^ y) :: oBin (fun x y => x &&& y) :: oRetI :: []
abbrev t75_22 : List hOp := oInc 2 1 :: oGoto 4 :: t75_24
abbrev t75_4 : List hOp := oLdI 2 :: oPushI 25 :: oIf cGe 24 :: oLdA 0 :: oGetP 7 0 :: oLdI 2 :: oALdI 13 :: oLdI 2 :: oIf cEq 22 :: oLdI 1 :: oPushI 1 :: oLdA 0 :: oGetP 7 0 :: oLdI 2 :: oALdI 13 :: oBin (fun x y => x <<< (y &&& 31)) :: oBin (fun x y => x ||| y) :: oStI 1 :: t75_22
abbrev t75_0 : List hOp := oPushI 0 :: oStI 1 :: oPushI 0 :: oStI 2 :: t75_4
theorem e75_0 : (opsOf 75).drop 0 = t75_0 := rfl
theorem e75_4 : (opsOf 75).drop 4 = t75_4 := rfl
theorem e75_22 : (opsOf 75).drop 22 = t75_22 := rfl
theorem e75_24 : (opsOf 75).drop 24 = t75_24 := rfl
def q_Str_unreached_4 (k24 : Int32 → hG → hO Int32) (k4 : Int32 → Int32 → hG → hO Int32) (v1 : Int32) (v2 : Int32) (g : hG) : hO Int32 :=
  if (25 : Int32) ≤ v2 then (k24 v1 g) else (gd v2 25 <| if (gI g 255 v2.toNatClampNeg) = v2 then (k4 v1 (v2 + (1 : Int32)) g) else (gd v2 25 <| k4 (v1 ||| (shl (1 : Int32) (gI g 255 v2.toNatClampNeg))) (v2 + (1 : Int32)) g))
def q_Str_unreached_4L (k24 : Int32 → hG → hO Int32) : Nat → Int32 → Int32 → hG → hO Int32
  | 0 => fun _ _ _ => none
  | n + 1 => fun v1 v2 g => q_Str_unreached_4 k24 (q_Str_unreached_4L k24 n) v1 v2 g
theorem q_Str_unreached_4L_s (k24 : Int32 → hG → hO Int32) (n : Nat) (v1 : Int32) (v2 : Int32) (g : hG) : q_Str_unreached_4L k24 (n + 1) v1 v2 g = q_Str_unreached_4 k24 (q_Str_unreached_4L k24 n) v1 v2 g := rfl
theorem th75_4 {d : Nat} {k24 : Int32 → hG → hO Int32} {k4 : Int32 → Int32 → hG → hO Int32} {v1 : Int32} {v2 : Int32} (hk24 : ∀ (x1 : Int32) (y2 : Option Value) (g : hG), Frz g → Tri wI d 75 t75_24 [some (.ref 254), some (.int x1), y2] [] g (k24 x1 g)) (hk4 : ∀ (x1 : Int32) (x2 : Int32) (g : hG), Frz g → Tri wI d 75 t75_4 [some (.ref 254), some (.int x1), some (.int x2)] [] g (k4 x1 x2 g)) {g : hG} (hF : Frz g) : Tri wI d 75 t75_4 [some (.ref 254), some (.int v1), some (.int v2)] [] g (q_Str_unreached_4 k24 k4 v1 v2 g) := by
  unfold q_Str_unreached_4
  refine tr_ldI rfl (tr_pushI (?_))
  refine tr_ifj e75_24 (c_ge _ _) (fun hc1 => ?_) (fun hc1 => ?_)
  · exact hk24 _ _ _ hF
  · refine tr_ldA rfl (tr_getP (b := 255) (fk_254 hF) (fp_254_0 hF) (tr_ldI rfl (tr_aldI (fk_255 hF) (fl_255 hF) (fun _ => tr_ldI rfl (?_)))))
    refine tr_ifj e75_22 (c_eq _ _) (fun hc2 => ?_) (fun hc2 => ?_)
    · refine tr_inc rfl rfl rfl (?_)
      refine tr_gotoE e75_4 (?_)
      exact hk4 _ _ _ hF
    · refine tr_ldI rfl (tr_pushI (tr_ldA rfl (tr_getP (b := 255) (fk_254 hF) (fp_254_0 hF) (tr_ldI rfl (tr_aldI (fk_255 hF) (fl_255 hF) (fun _ => ?_))))))
      refine tr_bin (v := (shl (1 : Int32) (gI g 255 v2.toNatClampNeg))) rfl (tr_bin (v := (v1 ||| (shl (1 : Int32) (gI g 255 v2.toNatClampNeg)))) rfl (tr_stI (Nat.le_of_ble_eq_true rfl) rfl rfl (tr_inc rfl rfl rfl (?_))))
      refine tr_gotoE e75_4 (?_)
      exact hk4 _ _ _ hF
theorem th75_4L {d : Nat} {k24 : Int32 → hG → hO Int32} (hk24 : ∀ (x1 : Int32) (y2 : Option Value) (g : hG), Frz g → Tri wI d 75 t75_24 [some (.ref 254), some (.int x1), y2] [] g (k24 x1 g)) : ∀ (n : Nat) (v1 : Int32) (v2 : Int32) (g : hG), Frz g → Tri wI d 75 t75_4 [some (.ref 254), some (.int v1), some (.int v2)] [] g (q_Str_unreached_4L k24 n v1 v2 g)
  | 0 => fun _ _ _ _ => Tri.none_
  | n + 1 => fun _ _ g hF => th75_4 hk24 (th75_4L hk24 n) hF
def q_Str_unreached (g : hG) : hO Int32 :=
  q_Str_unreached_4L (fun x3 g5 => some (((33554431 : Int32) &&& (x3 ^^^ (-1 : Int32))), g5)) FU (0 : Int32) (0 : Int32) g
theorem tm75 {d : Nat} {g : hG} (hF : Frz g) : TM wI d 75 [.ref 254] g (q_Str_unreached g) := by
  refine TM.ofE e75_0 (lv := [some (.ref 254), none, none]) rfl ?_
  unfold q_Str_unreached
  refine tr_pushI (tr_stI (Nat.le_of_ble_eq_true rfl) rfl rfl (tr_pushI (tr_stI (Nat.le_of_ble_eq_true rfl) rfl rfl (?_))))
  refine th75_4L (fun x3 y4 g5 hF6 => ?_) FU _ _ _ hF
  · refine tr_pushI (tr_ldI rfl (tr_pushI (tr_bin (v := (x3 ^^^ (-1 : Int32))) rfl (tr_bin (v := ((33554431 : Int32) &&& (x3 ^^^ (-1 : Int32)))) rfl (?_)))))
    exact tr_retI hF6
-- MP_springs
abbrev t140_0 : List hOp := oLdA 0 :: oInvV 131 11 0 :: oLdA 0 :: oGetP 11 16 :: oInvV 75 7 0 :: oRetI :: []
theorem e140_0 : (opsOf 140).drop 0 = t140_0 := rfl
def q_MP_springs (g : hG) : hO Int32 :=
  bnd (q_MP_traceRuns g) fun _ g1 => bnd (q_Str_unreached g1) fun r5 g3 => some (r5, g3)
theorem tm140 {d : Nat} (hd : 6 ≤ d) {g : hG} (hF : Frz g) : TM wI d 140 [.ref 0] g (q_MP_springs g) := by
  obtain ⟨e, rfl⟩ : ∃ e, d = e + 1 := ⟨d - 1, by omega⟩
  have he := hd
  refine TM.ofE e140_0 (lv := [some (.ref 0)]) rfl ?_
  unfold q_MP_springs
  refine tr_ldA rfl (?_)
  refine tr_invVU rfl rfl (fk_0 hF) (Nat.le_of_ble_eq_true rfl) (by decide) (Nat.le_of_ble_eq_true rfl) (tm131 (by omega) hF) (fun _ g1 _ hF2 => ?_)
  refine tr_ldA rfl (tr_getP (b := 254) (fk_0 hF2) (fp_0_16 hF2) (?_))
  refine tr_invVI rfl rfl (fk_254 hF2) (Nat.le_of_ble_eq_true rfl) (by decide) (Nat.le_of_ble_eq_true rfl) (tm75 hF2) (fun r5 g3 _ hF4 => ?_)
  exact tr_retI hF4
-- Str_stillWithoutDoor
abbrev t76_26 : List hOp := oLdI 1 :: oRetI :: []
abbrev t76_24 : List hOp := oInc 2 1 :: oGoto 4 :: t76_26
abbrev t76_4 : List hOp := oLdI 2 :: oPushI 25 :: oIf cGe 26 :: oLdA 0 :: oGetP 7 0 :: oLdI 2 :: oALdI 13 :: oLdI 2 :: oIf cNe 24 :: oLdI 2 :: oLdA 0 :: oGetI 7 5 :: oInvS 162 2 :: oIf0 cNe 24 :: oLdI 1 :: oPushI 1 :: oLdI 2 :: oBin (fun x y => x <<< (y &&& 31)) :: oBin (fun x y => x ||| y) :: oStI 1 :: t76_24
abbrev t76_0 : List hOp := oPushI 0 :: oStI 1 :: oPushI 0 :: oStI 2 :: t76_4
theorem e76_0 : (opsOf 76).drop 0 = t76_0 := rfl
theorem e76_4 : (opsOf 76).drop 4 = t76_4 := rfl
theorem e76_24 : (opsOf 76).drop 24 = t76_24 := rfl
theorem e76_26 : (opsOf 76).drop 26 = t76_26 := rfl
def q_Str_stillWithoutDoor_4 (k26 : Int32 → hG → hO Int32) (k4 : Int32 → Int32 → hG → hO Int32) (v1 : Int32) (v2 : Int32) (g : hG) : hO Int32 :=
  if (25 : Int32) ≤ v2 then (k26 v1 g) else (gd v2 25 <| if (gI g 255 v2.toNatClampNeg) = v2 then (bnd (q_MP_isAmong v2 (gI g 254 5) g) fun r5 g3 => if r5 = (0 : Int32) then (k4 (v1 ||| (shl (1 : Int32) v2)) (v2 + (1 : Int32)) g3) else (k4 v1 (v2 + (1 : Int32)) g3)) else (k4 v1 (v2 + (1 : Int32)) g))
def q_Str_stillWithoutDoor_4L (k26 : Int32 → hG → hO Int32) : Nat → Int32 → Int32 → hG → hO Int32
  | 0 => fun _ _ _ => none
  | n + 1 => fun v1 v2 g => q_Str_stillWithoutDoor_4 k26 (q_Str_stillWithoutDoor_4L k26 n) v1 v2 g
theorem q_Str_stillWithoutDoor_4L_s (k26 : Int32 → hG → hO Int32) (n : Nat) (v1 : Int32) (v2 : Int32) (g : hG) : q_Str_stillWithoutDoor_4L k26 (n + 1) v1 v2 g = q_Str_stillWithoutDoor_4 k26 (q_Str_stillWithoutDoor_4L k26 n) v1 v2 g := rfl
theorem th76_4 {e : Nat} (he : 1 ≤ e + 1) {k26 : Int32 → hG → hO Int32} {k4 : Int32 → Int32 → hG → hO Int32} {v1 : Int32} {v2 : Int32} (hk26 : ∀ (x1 : Int32) (y2 : Option Value) (g : hG), Frz g → Tri wI (e + 1) 76 t76_26 [some (.ref 254), some (.int x1), y2] [] g (k26 x1 g)) (hk4 : ∀ (x1 : Int32) (x2 : Int32) (g : hG), Frz g → Tri wI (e + 1) 76 t76_4 [some (.ref 254), some (.int x1), some (.int x2)] [] g (k4 x1 x2 g)) {g : hG} (hF : Frz g) : Tri wI (e + 1) 76 t76_4 [some (.ref 254), some (.int v1), some (.int v2)] [] g (q_Str_stillWithoutDoor_4 k26 k4 v1 v2 g) := by
  unfold q_Str_stillWithoutDoor_4
  refine tr_ldI rfl (tr_pushI (?_))
  refine tr_ifj e76_26 (c_ge _ _) (fun hc1 => ?_) (fun hc1 => ?_)
  · exact hk26 _ _ _ hF
  · refine tr_ldA rfl (tr_getP (b := 255) (fk_254 hF) (fp_254_0 hF) (tr_ldI rfl (tr_aldI (fk_255 hF) (fl_255 hF) (fun _ => tr_ldI rfl (?_)))))
    refine tr_ifn e76_24 (c_ne _ _) (fun hc2 => ?_) (fun hc2 => ?_)
    · refine tr_inc rfl rfl rfl (?_)
      refine tr_gotoE e76_4 (?_)
      exact hk4 _ _ _ hF
    · refine tr_ldI rfl (tr_ldA rfl (tr_getI (fk_254 hF) (?_)))
      refine tr_invSI rfl rfl (Nat.le_of_ble_eq_true rfl) (Nat.le_of_ble_eq_true rfl) (by decide) (Nat.le_of_ble_eq_true rfl) (tm162 hF) (fun r5 g3 _ hF4 => ?_)
      refine tr_if0n e76_24 (c_ne _ _) (fun hc6 => ?_) (fun hc6 => ?_)
      · refine tr_inc rfl rfl rfl (?_)
        refine tr_gotoE e76_4 (?_)
        exact hk4 _ _ _ hF4
      · refine tr_ldI rfl (tr_pushI (tr_ldI rfl (tr_bin (v := (shl (1 : Int32) v2)) rfl (tr_bin (v := (v1 ||| (shl (1 : Int32) v2))) rfl (tr_stI (Nat.le_of_ble_eq_true rfl) rfl rfl (?_))))))
        refine tr_inc rfl rfl rfl (?_)
        refine tr_gotoE e76_4 (?_)
        exact hk4 _ _ _ hF4
theorem th76_4L {e : Nat} (he : 1 ≤ e + 1) {k26 : Int32 → hG → hO Int32} (hk26 : ∀ (x1 : Int32) (y2 : Option Value) (g : hG), Frz g → Tri wI (e + 1) 76 t76_26 [some (.ref 254), some (.int x1), y2] [] g (k26 x1 g)) : ∀ (n : Nat) (v1 : Int32) (v2 : Int32) (g : hG), Frz g → Tri wI (e + 1) 76 t76_4 [some (.ref 254), some (.int v1), some (.int v2)] [] g (q_Str_stillWithoutDoor_4L k26 n v1 v2 g)
  | 0 => fun _ _ _ _ => Tri.none_
  | n + 1 => fun _ _ g hF => th76_4 he hk26 (th76_4L he hk26 n) hF
def q_Str_stillWithoutDoor (g : hG) : hO Int32 :=
  q_Str_stillWithoutDoor_4L (fun x7 g9 => some (x7, g9)) FU (0 : Int32) (0 : Int32) g
theorem tm76 {d : Nat} (hd : 1 ≤ d) {g : hG} (hF : Frz g) : TM wI d 76 [.ref 254] g (q_Str_stillWithoutDoor g) := by
  obtain ⟨e, rfl⟩ : ∃ e, d = e + 1 := ⟨d - 1, by omega⟩
  have he := hd
  refine TM.ofE e76_0 (lv := [some (.ref 254), none, none]) rfl ?_
  unfold q_Str_stillWithoutDoor
  refine tr_pushI (tr_stI (Nat.le_of_ble_eq_true rfl) rfl rfl (tr_pushI (tr_stI (Nat.le_of_ble_eq_true rfl) rfl rfl (?_))))
  refine th76_4L he (fun x7 y8 g9 hF10 => ?_) FU _ _ _ hF
  · refine tr_ldI rfl (?_)
    exact tr_retI hF10
-- MP_pools
abbrev t141_0 : List hOp := oLdA 0 :: oInvV 131 11 0 :: oLdA 0 :: oGetP 11 16 :: oInvV 76 7 0 :: oRetI :: []
theorem e141_0 : (opsOf 141).drop 0 = t141_0 := rfl
def q_MP_pools (g : hG) : hO Int32 :=
  bnd (q_MP_traceRuns g) fun _ g1 => bnd (q_Str_stillWithoutDoor g1) fun r5 g3 => some (r5, g3)
theorem tm141 {d : Nat} (hd : 6 ≤ d) {g : hG} (hF : Frz g) : TM wI d 141 [.ref 0] g (q_MP_pools g) := by
  obtain ⟨e, rfl⟩ : ∃ e, d = e + 1 := ⟨d - 1, by omega⟩
  have he := hd
  refine TM.ofE e141_0 (lv := [some (.ref 0)]) rfl ?_
  unfold q_MP_pools
  refine tr_ldA rfl (?_)
  refine tr_invVU rfl rfl (fk_0 hF) (Nat.le_of_ble_eq_true rfl) (by decide) (Nat.le_of_ble_eq_true rfl) (tm131 (by omega) hF) (fun _ g1 _ hF2 => ?_)
  refine tr_ldA rfl (tr_getP (b := 254) (fk_0 hF2) (fp_0_16 hF2) (?_))
  refine tr_invVI rfl rfl (fk_254 hF2) (Nat.le_of_ble_eq_true rfl) (by decide) (Nat.le_of_ble_eq_true rfl) (tm76 (by omega) hF2) (fun r5 g3 _ hF4 => ?_)
  exact tr_retI hF4
-- Str_farthest
abbrev t77_20 : List hOp := oLdI 1 :: oRetI :: []
abbrev t77_18 : List hOp := oInc 2 1 :: oGoto 4 :: t77_20
abbrev t77_4 : List hOp := oLdI 2 :: oPushI 25 :: oIf cGe 20 :: oLdA 0 :: oGetP 7 1 :: oLdI 2 :: oALdI 13 :: oLdA 0 :: oGetP 7 1 :: oLdI 1 :: oALdI 13 :: oIf cLe 18 :: oLdI 2 :: oStI 1 :: t77_18
abbrev t77_0 : List hOp := oPushI 0 :: oStI 1 :: oPushI 1 :: oStI 2 :: t77_4
theorem e77_0 : (opsOf 77).drop 0 = t77_0 := rfl
theorem e77_4 : (opsOf 77).drop 4 = t77_4 := rfl
theorem e77_18 : (opsOf 77).drop 18 = t77_18 := rfl
theorem e77_20 : (opsOf 77).drop 20 = t77_20 := rfl
def q_Str_farthest_4 (k20 : Int32 → hG → hO Int32) (k4 : Int32 → Int32 → hG → hO Int32) (v1 : Int32) (v2 : Int32) (g : hG) : hO Int32 :=
  if (25 : Int32) ≤ v2 then (k20 v1 g) else (gd v2 25 <| gd v1 25 <| if (gI g 256 v2.toNatClampNeg) ≤ (gI g 256 v1.toNatClampNeg) then (k4 v1 (v2 + (1 : Int32)) g) else (k4 v2 (v2 + (1 : Int32)) g))
def q_Str_farthest_4L (k20 : Int32 → hG → hO Int32) : Nat → Int32 → Int32 → hG → hO Int32
  | 0 => fun _ _ _ => none
  | n + 1 => fun v1 v2 g => q_Str_farthest_4 k20 (q_Str_farthest_4L k20 n) v1 v2 g
theorem q_Str_farthest_4L_s (k20 : Int32 → hG → hO Int32) (n : Nat) (v1 : Int32) (v2 : Int32) (g : hG) : q_Str_farthest_4L k20 (n + 1) v1 v2 g = q_Str_farthest_4 k20 (q_Str_farthest_4L k20 n) v1 v2 g := rfl
theorem th77_4 {d : Nat} {k20 : Int32 → hG → hO Int32} {k4 : Int32 → Int32 → hG → hO Int32} {v1 : Int32} {v2 : Int32} (hk20 : ∀ (x1 : Int32) (y2 : Option Value) (g : hG), Frz g → Tri wI d 77 t77_20 [some (.ref 254), some (.int x1), y2] [] g (k20 x1 g)) (hk4 : ∀ (x1 : Int32) (x2 : Int32) (g : hG), Frz g → Tri wI d 77 t77_4 [some (.ref 254), some (.int x1), some (.int x2)] [] g (k4 x1 x2 g)) {g : hG} (hF : Frz g) : Tri wI d 77 t77_4 [some (.ref 254), some (.int v1), some (.int v2)] [] g (q_Str_farthest_4 k20 k4 v1 v2 g) := by
  unfold q_Str_farthest_4
  refine tr_ldI rfl (tr_pushI (?_))
  refine tr_ifj e77_20 (c_ge _ _) (fun hc1 => ?_) (fun hc1 => ?_)
  · exact hk20 _ _ _ hF
  · refine tr_ldA rfl (tr_getP (b := 256) (fk_254 hF) (fp_254_1 hF) (tr_ldI rfl (tr_aldI (fk_256 hF) (fl_256 hF) (fun _ => tr_ldA rfl (tr_getP (b := 256) (fk_254 hF) (fp_254_1 hF) (?_))))))
    refine tr_ldI rfl (tr_aldI (fk_256 hF) (fl_256 hF) (fun _ => ?_))
    refine tr_ifj e77_18 (c_le _ _) (fun hc2 => ?_) (fun hc2 => ?_)
    · refine tr_inc rfl rfl rfl (?_)
      refine tr_gotoE e77_4 (?_)
      exact hk4 _ _ _ hF
    · refine tr_ldI rfl (tr_stI (Nat.le_of_ble_eq_true rfl) rfl rfl (tr_inc rfl rfl rfl (?_)))
      refine tr_gotoE e77_4 (?_)
      exact hk4 _ _ _ hF
theorem th77_4L {d : Nat} {k20 : Int32 → hG → hO Int32} (hk20 : ∀ (x1 : Int32) (y2 : Option Value) (g : hG), Frz g → Tri wI d 77 t77_20 [some (.ref 254), some (.int x1), y2] [] g (k20 x1 g)) : ∀ (n : Nat) (v1 : Int32) (v2 : Int32) (g : hG), Frz g → Tri wI d 77 t77_4 [some (.ref 254), some (.int v1), some (.int v2)] [] g (q_Str_farthest_4L k20 n v1 v2 g)
  | 0 => fun _ _ _ _ => Tri.none_
  | n + 1 => fun _ _ g hF => th77_4 hk20 (th77_4L hk20 n) hF
def q_Str_farthest (g : hG) : hO Int32 :=
  q_Str_farthest_4L (fun x3 g5 => some (x3, g5)) FU (0 : Int32) (1 : Int32) g
theorem tm77 {d : Nat} {g : hG} (hF : Frz g) : TM wI d 77 [.ref 254] g (q_Str_farthest g) := by
  refine TM.ofE e77_0 (lv := [some (.ref 254), none, none]) rfl ?_
  unfold q_Str_farthest
  refine tr_pushI (tr_stI (Nat.le_of_ble_eq_true rfl) rfl rfl (tr_pushI (tr_stI (Nat.le_of_ble_eq_true rfl) rfl rfl (?_))))
  refine th77_4L (fun x3 y4 g5 hF6 => ?_) FU _ _ _ hF
  · refine tr_ldI rfl (?_)
    exact tr_retI hF6
-- MP_longest
abbrev t142_22 : List hOp := oRetI :: []
abbrev t142_21 : List hOp := oLdI 2 :: t142_22
abbrev t142_7 : List hOp := oLdA 0 :: oInvV 131 11 0 :: oLdA 0 :: oGetP 11 16 :: oInvV 77 7 0 :: oStI 2 :: oLdI 1 :: oIf0 cNe 21 :: oLdA 0 :: oGetP 11 16 :: oGetP 7 1 :: oLdI 2 :: oALdI 13 :: oGoto 22 :: t142_21
abbrev t142_5 : List hOp := oPushI (-1) :: oRetI :: t142_7
abbrev t142_0 : List hOp := oLdI 1 :: oIf0 cLt 5 :: oLdI 1 :: oPushI 1 :: oIf cLe 7 :: t142_5
theorem e142_0 : (opsOf 142).drop 0 = t142_0 := rfl
theorem e142_5 : (opsOf 142).drop 5 = t142_5 := rfl
theorem e142_7 : (opsOf 142).drop 7 = t142_7 := rfl
theorem e142_21 : (opsOf 142).drop 21 = t142_21 := rfl
theorem e142_22 : (opsOf 142).drop 22 = t142_22 := rfl
def q_MP_longest (v1 : Int32) (g : hG) : hO Int32 :=
  if v1 < (0 : Int32) then (some ((-1 : Int32), g)) else (if v1 ≤ (1 : Int32) then (bnd (q_MP_traceRuns g) fun _ g3 => bnd (q_Str_farthest g3) fun r7 g5 => if v1 = (0 : Int32) then (gd r7 25 <| some ((gI g5 256 r7.toNatClampNeg), g5)) else (some (r7, g5))) else (some ((-1 : Int32), g)))
theorem tm142 {d : Nat} {v1 : Int32} (hd : 6 ≤ d) {g : hG} (hF : Frz g) : TM wI d 142 [.ref 0, .int v1] g (q_MP_longest v1 g) := by
  obtain ⟨e, rfl⟩ : ∃ e, d = e + 1 := ⟨d - 1, by omega⟩
  have he := hd
  refine TM.ofE e142_0 (lv := [some (.ref 0), some (.int v1), none]) rfl ?_
  unfold q_MP_longest
  refine tr_ldI rfl (?_)
  refine tr_if0j e142_5 (c_lt _ _) (fun hc1 => ?_) (fun hc1 => ?_)
  · refine tr_pushI (?_)
    exact tr_retI hF
  · refine tr_ldI rfl (tr_pushI (?_))
    refine tr_ifj e142_7 (c_le _ _) (fun hc2 => ?_) (fun hc2 => ?_)
    · refine tr_ldA rfl (?_)
      refine tr_invVU rfl rfl (fk_0 hF) (Nat.le_of_ble_eq_true rfl) (by decide) (Nat.le_of_ble_eq_true rfl) (tm131 (by omega) hF) (fun _ g3 _ hF4 => ?_)
      refine tr_ldA rfl (tr_getP (b := 254) (fk_0 hF4) (fp_0_16 hF4) (?_))
      refine tr_invVI rfl rfl (fk_254 hF4) (Nat.le_of_ble_eq_true rfl) (by decide) (Nat.le_of_ble_eq_true rfl) (tm77 hF4) (fun r7 g5 _ hF6 => ?_)
      refine tr_stI (Nat.le_of_ble_eq_true rfl) rfl rfl (tr_ldI rfl (?_))
      refine tr_if0n e142_21 (c_ne _ _) (fun hc8 => ?_) (fun hc8 => ?_)
      · refine tr_ldI rfl (?_)
        exact tr_retI hF6
      · refine tr_ldA rfl (tr_getP (b := 254) (fk_0 hF6) (fp_0_16 hF6) (tr_getP (b := 256) (fk_254 hF6) (fp_254_1 hF6) (tr_ldI rfl (tr_aldI (fk_256 hF6) (fl_256 hF6) (fun _ => ?_)))))
        refine tr_gotoE e142_22 (?_)
        exact tr_retI hF6
    · refine tr_pushI (?_)
      exact tr_retI hF
-- MP_seen
abbrev t143_23 : List hOp := oLdA 0 :: oGetP 11 0 :: oGetP 1 4 :: oLdA 0 :: oGetP 11 0 :: oGetI 1 6 :: oLdI 1 :: oAStI :: oLdA 0 :: oGetP 11 0 :: oGetP 1 5 :: oLdA 0 :: oGetP 11 0 :: oGetI 1 6 :: oLdI 2 :: oAStI :: oLdA 0 :: oGetP 11 0 :: oDup :: oGetI 1 6 :: oPushI 1 :: oBin (fun x y => x + y) :: oPutI 1 6 :: oLdA 0 :: oGetP 11 19 :: oLdA 0 :: oGetP 11 0 :: oGetI 1 6 :: oInvV 26 3 1 :: oRetI :: []
abbrev t143_13 : List hOp := oLdA 0 :: oGetP 11 0 :: oGetI 1 6 :: oPushI 6 :: oIf cLt 23 :: oLdA 0 :: oGetP 11 19 :: oPushI (-5) :: oInvV 25 3 1 :: oRetI :: t143_23
abbrev t143_8 : List hOp := oLdA 0 :: oGetP 11 19 :: oPushI (-1) :: oInvV 25 3 1 :: oRetI :: t143_13
abbrev t143_0 : List hOp := oLdI 1 :: oIf0 cLt 8 :: oLdI 1 :: oPushI 30 :: oIf cGt 8 :: oLdI 2 :: oInvS 159 1 :: oIf0 cNe 13 :: t143_8
theorem e143_0 : (opsOf 143).drop 0 = t143_0 := rfl
theorem e143_8 : (opsOf 143).drop 8 = t143_8 := rfl
theorem e143_13 : (opsOf 143).drop 13 = t143_13 := rfl
theorem e143_23 : (opsOf 143).drop 23 = t143_23 := rfl
def q_MP_seen_8 (g : hG) : hO Int32 :=
  bnd (q_Notes_refuse (-1 : Int32) g) fun r4 g2 => some (r4, g2)
theorem th143_8 {e : Nat} (he : 1 ≤ e + 1) {u1 : Option Value} {u2 : Option Value} {g : hG} (hF : Frz g) : Tri wI (e + 1) 143 t143_8 [some (.ref 0), u1, u2] [] g (q_MP_seen_8 g) := by
  unfold q_MP_seen_8
  refine tr_ldA rfl (tr_getP (b := 263) (fk_0 hF) (fp_0_19 hF) (tr_pushI (?_)))
  refine tr_invVI rfl rfl (fk_263 hF) (Nat.le_of_ble_eq_true rfl) (by decide) (Nat.le_of_ble_eq_true rfl) (tm25 hF) (fun r4 g2 _ hF3 => ?_)
  exact tr_retI hF3
def q_MP_seen (v1 : Int32) (v2 : Int32) (g : hG) : hO Int32 :=
  if v1 < (0 : Int32) then (q_MP_seen_8 g) else (if (30 : Int32) < v1 then (q_MP_seen_8 g) else (bnd (q_MP_isCell v2 g) fun r8 g6 => if r8 = (0 : Int32) then (q_MP_seen_8 g6) else (if (gI g6 1 6) < (6 : Int32) then (gd (gI g6 1 6) 6 <| wr (sI g6 7 (gI g6 1 6).toNatClampNeg v1) fun g11 => gd (gI g11 1 6) 6 <| wr (sI g11 8 (gI g11 1 6).toNatClampNeg v2) fun g13 => wr (sI g13 1 6 ((gI g13 1 6) + (1 : Int32))) fun g15 => bnd (q_Notes_grant (gI g15 1 6) g15) fun r19 g17 => some (r19, g17)) else (bnd (q_Notes_refuse (-5 : Int32) g6) fun r22 g20 => some (r22, g20)))))
theorem tm143 {d : Nat} {v1 : Int32} {v2 : Int32} (hd : 1 ≤ d) {g : hG} (hF : Frz g) : TM wI d 143 [.ref 0, .int v1, .int v2] g (q_MP_seen v1 v2 g) := by
  obtain ⟨e, rfl⟩ : ∃ e, d = e + 1 := ⟨d - 1, by omega⟩
  have he := hd
  refine TM.ofE e143_0 (lv := [some (.ref 0), some (.int v1), some (.int v2)]) rfl ?_
  unfold q_MP_seen
  refine tr_ldI rfl (?_)
  refine tr_if0j e143_8 (c_lt _ _) (fun hc1 => ?_) (fun hc1 => ?_)
  · exact th143_8 he hF
  · refine tr_ldI rfl (tr_pushI (?_))
    refine tr_ifj e143_8 (c_gt _ _) (fun hc5 => ?_) (fun hc5 => ?_)
    · exact th143_8 he hF
    · refine tr_ldI rfl (?_)
      refine tr_invSI rfl rfl (Nat.le_of_ble_eq_true rfl) (Nat.le_of_ble_eq_true rfl) (by decide) (Nat.le_of_ble_eq_true rfl) (tm159 hF) (fun r8 g6 _ hF7 => ?_)
      refine tr_if0n e143_13 (c_ne _ _) (fun hc9 => ?_) (fun hc9 => ?_)
      · refine tr_ldA rfl (tr_getP (b := 1) (fk_0 hF7) (fp_0_0 hF7) (tr_getI (fk_1 hF7) (tr_pushI (?_))))
        refine tr_ifj e143_23 (c_lt _ _) (fun hc10 => ?_) (fun hc10 => ?_)
        · refine tr_ldA rfl (tr_getP (b := 1) (fk_0 hF7) (fp_0_0 hF7) (tr_getP (b := 7) (fk_1 hF7) (fp_1_4 hF7) (tr_ldA rfl (tr_getP (b := 1) (fk_0 hF7) (fp_0_0 hF7) (tr_getI (fk_1 hF7) (?_))))))
          refine tr_ldI rfl (tr_astI hF7 (fk_7 hF7) (fl_7 hF7) (fun _ g11 _ hF12 => tr_ldA rfl (tr_getP (b := 1) (fk_0 hF12) (fp_0_0 hF12) (tr_getP (b := 8) (fk_1 hF12) (fp_1_5 hF12) (tr_ldA rfl (?_))))))
          refine tr_getP (b := 1) (fk_0 hF12) (fp_0_0 hF12) (tr_getI (fk_1 hF12) (tr_ldI rfl (tr_astI hF12 (fk_8 hF12) (fl_8 hF12) (fun _ g13 _ hF14 => tr_ldA rfl (tr_getP (b := 1) (fk_0 hF14) (fp_0_0 hF14) (?_))))))
          refine tr_dupA (tr_getI (fk_1 hF14) (tr_pushI (tr_bin (v := ((gI g13 1 6) + (1 : Int32))) rfl (tr_putI hF14 (fk_1 hF14) (fun g15 _ hF16 => tr_ldA rfl (?_))))))
          refine tr_getP (b := 263) (fk_0 hF16) (fp_0_19 hF16) (tr_ldA rfl (tr_getP (b := 1) (fk_0 hF16) (fp_0_0 hF16) (tr_getI (fk_1 hF16) (?_))))
          refine tr_invVI rfl rfl (fk_263 hF16) (Nat.le_of_ble_eq_true rfl) (by decide) (Nat.le_of_ble_eq_true rfl) (tm26 hF16) (fun r19 g17 _ hF18 => ?_)
          exact tr_retI hF18
        · refine tr_ldA rfl (tr_getP (b := 263) (fk_0 hF7) (fp_0_19 hF7) (tr_pushI (?_)))
          refine tr_invVI rfl rfl (fk_263 hF7) (Nat.le_of_ble_eq_true rfl) (by decide) (Nat.le_of_ble_eq_true rfl) (tm25 hF7) (fun r22 g20 _ hF21 => ?_)
          exact tr_retI hF21
      · exact th143_8 he hF7
-- MP_forget
abbrev t144_0 : List hOp := oLdA 0 :: oGetP 11 0 :: oGetI 1 6 :: oStI 1 :: oLdA 0 :: oGetP 11 0 :: oPushI 0 :: oPutI 1 6 :: oLdI 1 :: oRetI :: []
theorem e144_0 : (opsOf 144).drop 0 = t144_0 := rfl
def q_MP_forget (g : hG) : hO Int32 :=
  wr (sI g 1 6 (0 : Int32)) fun g1 => some ((gI g 1 6), g1)
theorem tm144 {d : Nat} {g : hG} (hF : Frz g) : TM wI d 144 [.ref 0] g (q_MP_forget g) := by
  refine TM.ofE e144_0 (lv := [some (.ref 0), none]) rfl ?_
  unfold q_MP_forget
  refine tr_ldA rfl (tr_getP (b := 1) (fk_0 hF) (fp_0_0 hF) (tr_getI (fk_1 hF) (tr_stI (Nat.le_of_ble_eq_true rfl) rfl rfl (tr_ldA rfl (tr_getP (b := 1) (fk_0 hF) (fp_0_0 hF) (?_))))))
  refine tr_pushI (tr_putI hF (fk_1 hF) (fun g1 _ hF2 => tr_ldI rfl (?_)))
  exact tr_retI hF2
-- Watch_note
abbrev t98_0 : List hOp := oLdA 2 :: oGetP 2 1 :: oPushI 0 :: oLdA 0 :: oGetP 10 0 :: oLdI 1 :: oPushI 8 :: oBin (fun x y => x * y) :: oPushI 8 :: oCpy :: oRetV :: []
theorem e98_0 : (opsOf 98).drop 0 = t98_0 := rfl
def q_Watch_note (v1 : Int32) (g : hG) : hO Unit :=
  gne 227 261 <| gc (0 : Int32) (v1 * (8 : Int32)) (8 : Int32) 8 248 <| wr (sRow g 261 (va_cpy (gI g 227) (gI g 261) (0 : Int32).toNatClampNeg (v1 * (8 : Int32)).toNatClampNeg (8 : Int32).toNatClampNeg)) fun g1 => some ((), g1)
theorem tm98 {d : Nat} {v1 : Int32} {g : hG} (hF : Frz g) : TM wU d 98 [.ref 260, .int v1, .ref 225] g (q_Watch_note v1 g) := by
  refine TM.ofE e98_0 (lv := [some (.ref 260), some (.int v1), some (.ref 225)]) rfl ?_
  unfold q_Watch_note
  refine tr_ldA rfl (tr_getP (b := 227) (fk_225 hF) (fp_225_1 hF) (tr_pushI (tr_ldA rfl (tr_getP (b := 261) (fk_260 hF) (fp_260_0 hF) (tr_ldI rfl (?_))))))
  refine tr_pushI (tr_bin (v := (v1 * (8 : Int32))) rfl (tr_pushI (tr_cpy hF (fk_227 hF) (fk_261 hF) (fl_227 hF) (fl_261 hF) (Nat.le_of_ble_eq_true rfl) (fun g1 _ hF2 => ?_))))
  exact tr_retV hF2
-- MP_watchLetters
abbrev t147_24 : List hOp := oRetV :: []
abbrev t147_7 : List hOp := oLdI 1 :: oPushI 30 :: oIf cGt 24 :: oLdA 0 :: oGetP 11 17 :: oLdI 1 :: oLdA 0 :: oGetP 11 7 :: oInvV 98 10 2 :: oLdA 0 :: oGetP 11 15 :: oLdA 0 :: oGetP 11 7 :: oInvV 64 6 1 :: oPop :: oInc 1 1 :: oGoto 7 :: t147_24
abbrev t147_0 : List hOp := oLdA 0 :: oGetP 11 7 :: oLdA 0 :: oGetP 11 1 :: oInvV 17 2 1 :: oPushI 0 :: oStI 1 :: t147_7
theorem e147_0 : (opsOf 147).drop 0 = t147_0 := rfl
theorem e147_7 : (opsOf 147).drop 7 = t147_7 := rfl
theorem e147_24 : (opsOf 147).drop 24 = t147_24 := rfl
def q_MP_watchLetters_7 (k24 : hG → hO Unit) (k7 : Int32 → hG → hO Unit) (v1 : Int32) (g : hG) : hO Unit :=
  if (30 : Int32) < v1 then (k24 g) else (bnd (q_Watch_note v1 g) fun _ g4 => bnd (q_Slope_passHour 225 g4) fun r8 g6 => k7 (v1 + (1 : Int32)) g6)
def q_MP_watchLetters_7L (k24 : hG → hO Unit) : Nat → Int32 → hG → hO Unit
  | 0 => fun _ _ => none
  | n + 1 => fun v1 g => q_MP_watchLetters_7 k24 (q_MP_watchLetters_7L k24 n) v1 g
theorem q_MP_watchLetters_7L_s (k24 : hG → hO Unit) (n : Nat) (v1 : Int32) (g : hG) : q_MP_watchLetters_7L k24 (n + 1) v1 g = q_MP_watchLetters_7 k24 (q_MP_watchLetters_7L k24 n) v1 g := rfl
theorem th147_7 {e : Nat} (he : 5 ≤ e + 1) {k24 : hG → hO Unit} {k7 : Int32 → hG → hO Unit} {v1 : Int32} (hk24 : ∀ (y1 : Option Value) (g : hG), Frz g → Tri wU (e + 1) 147 t147_24 [some (.ref 0), y1] [] g (k24 g)) (hk7 : ∀ (x1 : Int32) (g : hG), Frz g → Tri wU (e + 1) 147 t147_7 [some (.ref 0), some (.int x1)] [] g (k7 x1 g)) {g : hG} (hF : Frz g) : Tri wU (e + 1) 147 t147_7 [some (.ref 0), some (.int v1)] [] g (q_MP_watchLetters_7 k24 k7 v1 g) := by
  unfold q_MP_watchLetters_7
  refine tr_ldI rfl (tr_pushI (?_))
  refine tr_ifj e147_24 (c_gt _ _) (fun hc3 => ?_) (fun hc3 => ?_)
  · exact hk24 _ _ hF
  · refine tr_ldA rfl (tr_getP (b := 260) (fk_0 hF) (fp_0_17 hF) (tr_ldI rfl (tr_ldA rfl (tr_getP (b := 225) (fk_0 hF) (fp_0_7 hF) (?_)))))
    refine tr_invVU rfl rfl (fk_260 hF) (Nat.le_of_ble_eq_true rfl) (by decide) (Nat.le_of_ble_eq_true rfl) (tm98 hF) (fun _ g4 _ hF5 => ?_)
    refine tr_ldA rfl (tr_getP (b := 250) (fk_0 hF5) (fp_0_15 hF5) (tr_ldA rfl (tr_getP (b := 225) (fk_0 hF5) (fp_0_7 hF5) (?_))))
    refine tr_invVI rfl rfl (fk_250 hF5) (Nat.le_of_ble_eq_true rfl) (by decide) (Nat.le_of_ble_eq_true rfl) (tm64 (by omega) rfl hF5) (fun r8 g6 _ hF7 => ?_)
    refine tr_pop (tr_inc rfl rfl rfl (?_))
    refine tr_gotoE e147_7 (?_)
    exact hk7 _ _ hF7
theorem th147_7L {e : Nat} (he : 5 ≤ e + 1) {k24 : hG → hO Unit} (hk24 : ∀ (y1 : Option Value) (g : hG), Frz g → Tri wU (e + 1) 147 t147_24 [some (.ref 0), y1] [] g (k24 g)) : ∀ (n : Nat) (v1 : Int32) (g : hG), Frz g → Tri wU (e + 1) 147 t147_7 [some (.ref 0), some (.int v1)] [] g (q_MP_watchLetters_7L k24 n v1 g)
  | 0 => fun _ _ _ => Tri.none_
  | n + 1 => fun _ g hF => th147_7 he hk24 (th147_7L he hk24 n) hF
def q_MP_watchLetters (g : hG) : hO Unit :=
  bnd (q_Mom_copy 225 2 g) fun _ g1 => q_MP_watchLetters_7L (fun g10 => some ((), g10)) FU (0 : Int32) g1
theorem tm147 {d : Nat} (hd : 5 ≤ d) {g : hG} (hF : Frz g) : TM wU d 147 [.ref 0] g (q_MP_watchLetters g) := by
  obtain ⟨e, rfl⟩ : ∃ e, d = e + 1 := ⟨d - 1, by omega⟩
  have he := hd
  refine TM.ofE e147_0 (lv := [some (.ref 0), none]) rfl ?_
  unfold q_MP_watchLetters
  refine tr_ldA rfl (tr_getP (b := 225) (fk_0 hF) (fp_0_7 hF) (tr_ldA rfl (tr_getP (b := 2) (fk_0 hF) (fp_0_1 hF) (?_))))
  refine tr_invVU rfl rfl (fk_225 hF) (Nat.le_of_ble_eq_true rfl) (by decide) (Nat.le_of_ble_eq_true rfl) (tm17 rfl rfl hF) (fun _ g1 _ hF2 => ?_)
  refine tr_pushI (tr_stI (Nat.le_of_ble_eq_true rfl) rfl rfl (?_))
  refine th147_7L he (fun y9 g10 hF11 => ?_) FU _ _ hF2
  · exact tr_retV hF11
-- Watch_isAtAllSeen
abbrev t100_26 : List hOp := oPushI 1 :: oRetZ :: []
abbrev t100_24 : List hOp := oInc 3 1 :: oGoto 2 :: t100_26
abbrev t100_22 : List hOp := oPushI 0 :: oRetZ :: t100_24
abbrev t100_2 : List hOp := oLdI 3 :: oLdA 1 :: oGetI 1 6 :: oIf cGe 26 :: oLdA 0 :: oGetP 10 0 :: oLdA 1 :: oGetP 1 4 :: oLdI 3 :: oALdI 13 :: oPushI 8 :: oBin (fun x y => x * y) :: oLdI 2 :: oBin (fun x y => x + y) :: oALdI 13 :: oLdA 1 :: oGetP 1 5 :: oLdI 3 :: oALdI 13 :: oIf cEq 24 :: t100_22
abbrev t100_0 : List hOp := oPushI 0 :: oStI 3 :: t100_2
theorem e100_0 : (opsOf 100).drop 0 = t100_0 := rfl
theorem e100_2 : (opsOf 100).drop 2 = t100_2 := rfl
theorem e100_24 : (opsOf 100).drop 24 = t100_24 := rfl
theorem e100_26 : (opsOf 100).drop 26 = t100_26 := rfl
def q_Watch_isAtAllSeen_2 (v2 : Int32) (k26 : hG → hO Int32) (k2 : Int32 → hG → hO Int32) (v3 : Int32) (g : hG) : hO Int32 :=
  if (gI g 1 6) ≤ v3 then (k26 g) else (gd v3 6 <| gd (((gI g 7 v3.toNatClampNeg) * (8 : Int32)) + v2) 248 <| gd v3 6 <| if (gI g 261 (((gI g 7 v3.toNatClampNeg) * (8 : Int32)) + v2).toNatClampNeg) = (gI g 8 v3.toNatClampNeg) then (k2 (v3 + (1 : Int32)) g) else (some ((0 : Int32), g)))
def q_Watch_isAtAllSeen_2L (v2 : Int32) (k26 : hG → hO Int32) : Nat → Int32 → hG → hO Int32
  | 0 => fun _ _ => none
  | n + 1 => fun v3 g => q_Watch_isAtAllSeen_2 v2 k26 (q_Watch_isAtAllSeen_2L v2 k26 n) v3 g
theorem q_Watch_isAtAllSeen_2L_s (v2 : Int32) (k26 : hG → hO Int32) (n : Nat) (v3 : Int32) (g : hG) : q_Watch_isAtAllSeen_2L v2 k26 (n + 1) v3 g = q_Watch_isAtAllSeen_2 v2 k26 (q_Watch_isAtAllSeen_2L v2 k26 n) v3 g := rfl
theorem th100_2 {d : Nat} {v2 : Int32} {k26 : hG → hO Int32} {k2 : Int32 → hG → hO Int32} {v3 : Int32} (hk26 : ∀ (y3 : Option Value) (g : hG), Frz g → Tri wI d 100 t100_26 [some (.ref 260), some (.ref 1), some (.int v2), y3] [] g (k26 g)) (hk2 : ∀ (x3 : Int32) (g : hG), Frz g → Tri wI d 100 t100_2 [some (.ref 260), some (.ref 1), some (.int v2), some (.int x3)] [] g (k2 x3 g)) {g : hG} (hF : Frz g) : Tri wI d 100 t100_2 [some (.ref 260), some (.ref 1), some (.int v2), some (.int v3)] [] g (q_Watch_isAtAllSeen_2 v2 k26 k2 v3 g) := by
  unfold q_Watch_isAtAllSeen_2
  refine tr_ldI rfl (tr_ldA rfl (tr_getI (fk_1 hF) (?_)))
  refine tr_ifj e100_26 (c_ge _ _) (fun hc1 => ?_) (fun hc1 => ?_)
  · exact hk26 _ _ hF
  · refine tr_ldA rfl (tr_getP (b := 261) (fk_260 hF) (fp_260_0 hF) (tr_ldA rfl (tr_getP (b := 7) (fk_1 hF) (fp_1_4 hF) (tr_ldI rfl (tr_aldI (fk_7 hF) (fl_7 hF) (fun _ => ?_))))))
    refine tr_pushI (tr_bin (v := ((gI g 7 v3.toNatClampNeg) * (8 : Int32))) rfl (tr_ldI rfl (tr_bin (v := (((gI g 7 v3.toNatClampNeg) * (8 : Int32)) + v2)) rfl (tr_aldI (fk_261 hF) (fl_261 hF) (fun _ => tr_ldA rfl (?_))))))
    refine tr_getP (b := 8) (fk_1 hF) (fp_1_5 hF) (tr_ldI rfl (tr_aldI (fk_8 hF) (fl_8 hF) (fun _ => ?_)))
    refine tr_ifj e100_24 (c_eq _ _) (fun hc2 => ?_) (fun hc2 => ?_)
    · refine tr_inc rfl rfl rfl (?_)
      refine tr_gotoE e100_2 (?_)
      exact hk2 _ _ hF
    · refine tr_pushI (?_)
      exact tr_retZl (Or.inl rfl) hF
theorem th100_2L {d : Nat} {v2 : Int32} {k26 : hG → hO Int32} (hk26 : ∀ (y3 : Option Value) (g : hG), Frz g → Tri wI d 100 t100_26 [some (.ref 260), some (.ref 1), some (.int v2), y3] [] g (k26 g)) : ∀ (n : Nat) (v3 : Int32) (g : hG), Frz g → Tri wI d 100 t100_2 [some (.ref 260), some (.ref 1), some (.int v2), some (.int v3)] [] g (q_Watch_isAtAllSeen_2L v2 k26 n v3 g)
  | 0 => fun _ _ _ => Tri.none_
  | n + 1 => fun _ g hF => th100_2 hk26 (th100_2L hk26 n) hF
def q_Watch_isAtAllSeen (v2 : Int32) (g : hG) : hO Int32 :=
  q_Watch_isAtAllSeen_2L v2 (fun g4 => some ((1 : Int32), g4)) FU (0 : Int32) g
theorem tm100 {d : Nat} {v2 : Int32} {g : hG} (hF : Frz g) : TM wI d 100 [.ref 260, .ref 1, .int v2] g (q_Watch_isAtAllSeen v2 g) := by
  refine TM.ofE e100_0 (lv := [some (.ref 260), some (.ref 1), some (.int v2), none]) rfl ?_
  unfold q_Watch_isAtAllSeen
  refine tr_pushI (tr_stI (Nat.le_of_ble_eq_true rfl) rfl rfl (?_))
  refine th100_2L (fun y3 g4 hF5 => ?_) FU _ _ hF
  · refine tr_pushI (?_)
    exact tr_retZl (Or.inr rfl) hF5
-- Watch_lettersSeen
abbrev t99_25 : List hOp := oLdI 3 :: oRetI :: []
abbrev t99_23 : List hOp := oInc 4 1 :: oGoto 4 :: t99_25
abbrev t99_4 : List hOp := oLdI 4 :: oPushI 8 :: oIf cGe 25 :: oLdA 2 :: oGetP 2 0 :: oLdI 4 :: oALdI 13 :: oIf0 cEq 23 :: oLdA 0 :: oLdA 1 :: oLdI 4 :: oInvV 100 10 2 :: oIf0 cEq 23 :: oLdI 3 :: oPushI 1 :: oLdI 4 :: oBin (fun x y => x <<< (y &&& 31)) :: oBin (fun x y => x ||| y) :: oStI 3 :: t99_23
abbrev t99_0 : List hOp := oPushI 0 :: oStI 3 :: oPushI 0 :: oStI 4 :: t99_4
theorem e99_0 : (opsOf 99).drop 0 = t99_0 := rfl
theorem e99_4 : (opsOf 99).drop 4 = t99_4 := rfl
theorem e99_23 : (opsOf 99).drop 23 = t99_23 := rfl
theorem e99_25 : (opsOf 99).drop 25 = t99_25 := rfl
def q_Watch_lettersSeen_4 (k25 : Int32 → hG → hO Int32) (k4 : Int32 → Int32 → hG → hO Int32) (v3 : Int32) (v4 : Int32) (g : hG) : hO Int32 :=
  if (8 : Int32) ≤ v4 then (k25 v3 g) else (gd v4 8 <| if (gI g 3 v4.toNatClampNeg) = (0 : Int32) then (k4 v3 (v4 + (1 : Int32)) g) else (bnd (q_Watch_isAtAllSeen v4 g) fun r5 g3 => if r5 = (0 : Int32) then (k4 v3 (v4 + (1 : Int32)) g3) else (k4 (v3 ||| (shl (1 : Int32) v4)) (v4 + (1 : Int32)) g3)))
def q_Watch_lettersSeen_4L (k25 : Int32 → hG → hO Int32) : Nat → Int32 → Int32 → hG → hO Int32
  | 0 => fun _ _ _ => none
  | n + 1 => fun v3 v4 g => q_Watch_lettersSeen_4 k25 (q_Watch_lettersSeen_4L k25 n) v3 v4 g
theorem q_Watch_lettersSeen_4L_s (k25 : Int32 → hG → hO Int32) (n : Nat) (v3 : Int32) (v4 : Int32) (g : hG) : q_Watch_lettersSeen_4L k25 (n + 1) v3 v4 g = q_Watch_lettersSeen_4 k25 (q_Watch_lettersSeen_4L k25 n) v3 v4 g := rfl
theorem th99_4 {e : Nat} (he : 1 ≤ e + 1) {k25 : Int32 → hG → hO Int32} {k4 : Int32 → Int32 → hG → hO Int32} {v3 : Int32} {v4 : Int32} (hk25 : ∀ (x3 : Int32) (y4 : Option Value) (g : hG), Frz g → Tri wI (e + 1) 99 t99_25 [some (.ref 260), some (.ref 1), some (.ref 2), some (.int x3), y4] [] g (k25 x3 g)) (hk4 : ∀ (x3 : Int32) (x4 : Int32) (g : hG), Frz g → Tri wI (e + 1) 99 t99_4 [some (.ref 260), some (.ref 1), some (.ref 2), some (.int x3), some (.int x4)] [] g (k4 x3 x4 g)) {g : hG} (hF : Frz g) : Tri wI (e + 1) 99 t99_4 [some (.ref 260), some (.ref 1), some (.ref 2), some (.int v3), some (.int v4)] [] g (q_Watch_lettersSeen_4 k25 k4 v3 v4 g) := by
  unfold q_Watch_lettersSeen_4
  refine tr_ldI rfl (tr_pushI (?_))
  refine tr_ifj e99_25 (c_ge _ _) (fun hc1 => ?_) (fun hc1 => ?_)
  · exact hk25 _ _ _ hF
  · refine tr_ldA rfl (tr_getP (b := 3) (fk_2 hF) (fp_2_0 hF) (tr_ldI rfl (tr_aldI (fk_3 hF) (fl_3 hF) (fun _ => ?_))))
    refine tr_if0j e99_23 (c_eq _ _) (fun hc2 => ?_) (fun hc2 => ?_)
    · refine tr_inc rfl rfl rfl (?_)
      refine tr_gotoE e99_4 (?_)
      exact hk4 _ _ _ hF
    · refine tr_ldA rfl (tr_ldA rfl (tr_ldI rfl (?_)))
      refine tr_invVI rfl rfl (fk_260 hF) (Nat.le_of_ble_eq_true rfl) (by decide) (Nat.le_of_ble_eq_true rfl) (tm100 hF) (fun r5 g3 _ hF4 => ?_)
      refine tr_if0j e99_23 (c_eq _ _) (fun hc6 => ?_) (fun hc6 => ?_)
      · refine tr_inc rfl rfl rfl (?_)
        refine tr_gotoE e99_4 (?_)
        exact hk4 _ _ _ hF4
      · refine tr_ldI rfl (tr_pushI (tr_ldI rfl (tr_bin (v := (shl (1 : Int32) v4)) rfl (tr_bin (v := (v3 ||| (shl (1 : Int32) v4))) rfl (tr_stI (Nat.le_of_ble_eq_true rfl) rfl rfl (?_))))))
        refine tr_inc rfl rfl rfl (?_)
        refine tr_gotoE e99_4 (?_)
        exact hk4 _ _ _ hF4
theorem th99_4L {e : Nat} (he : 1 ≤ e + 1) {k25 : Int32 → hG → hO Int32} (hk25 : ∀ (x3 : Int32) (y4 : Option Value) (g : hG), Frz g → Tri wI (e + 1) 99 t99_25 [some (.ref 260), some (.ref 1), some (.ref 2), some (.int x3), y4] [] g (k25 x3 g)) : ∀ (n : Nat) (v3 : Int32) (v4 : Int32) (g : hG), Frz g → Tri wI (e + 1) 99 t99_4 [some (.ref 260), some (.ref 1), some (.ref 2), some (.int v3), some (.int v4)] [] g (q_Watch_lettersSeen_4L k25 n v3 v4 g)
  | 0 => fun _ _ _ _ => Tri.none_
  | n + 1 => fun _ _ g hF => th99_4 he hk25 (th99_4L he hk25 n) hF
def q_Watch_lettersSeen (g : hG) : hO Int32 :=
  q_Watch_lettersSeen_4L (fun x7 g9 => some (x7, g9)) FU (0 : Int32) (0 : Int32) g
theorem tm99 {d : Nat} (hd : 1 ≤ d) {g : hG} (hF : Frz g) : TM wI d 99 [.ref 260, .ref 1, .ref 2] g (q_Watch_lettersSeen g) := by
  obtain ⟨e, rfl⟩ : ∃ e, d = e + 1 := ⟨d - 1, by omega⟩
  have he := hd
  refine TM.ofE e99_0 (lv := [some (.ref 260), some (.ref 1), some (.ref 2), none, none]) rfl ?_
  unfold q_Watch_lettersSeen
  refine tr_pushI (tr_stI (Nat.le_of_ble_eq_true rfl) rfl rfl (tr_pushI (tr_stI (Nat.le_of_ble_eq_true rfl) rfl rfl (?_))))
  refine th99_4L he (fun x7 y8 g9 hF10 => ?_) FU _ _ _ hF
  · refine tr_ldI rfl (?_)
    exact tr_retI hF10
-- MP_canBe
abbrev t145_0 : List hOp := oLdA 0 :: oInvV 147 11 0 :: oLdA 0 :: oGetP 11 17 :: oLdA 0 :: oGetP 11 0 :: oLdA 0 :: oGetP 11 1 :: oInvV 99 10 2 :: oRetI :: []
theorem e145_0 : (opsOf 145).drop 0 = t145_0 := rfl
def q_MP_canBe (g : hG) : hO Int32 :=
  bnd (q_MP_watchLetters g) fun _ g1 => bnd (q_Watch_lettersSeen g1) fun r5 g3 => some (r5, g3)
theorem tm145 {d : Nat} (hd : 6 ≤ d) {g : hG} (hF : Frz g) : TM wI d 145 [.ref 0] g (q_MP_canBe g) := by
  obtain ⟨e, rfl⟩ : ∃ e, d = e + 1 := ⟨d - 1, by omega⟩
  have he := hd
  refine TM.ofE e145_0 (lv := [some (.ref 0)]) rfl ?_
  unfold q_MP_canBe
  refine tr_ldA rfl (?_)
  refine tr_invVU rfl rfl (fk_0 hF) (Nat.le_of_ble_eq_true rfl) (by decide) (Nat.le_of_ble_eq_true rfl) (tm147 (by omega) hF) (fun _ g1 _ hF2 => ?_)
  refine tr_ldA rfl (tr_getP (b := 260) (fk_0 hF2) (fp_0_17 hF2) (tr_ldA rfl (tr_getP (b := 1) (fk_0 hF2) (fp_0_0 hF2) (tr_ldA rfl (tr_getP (b := 2) (fk_0 hF2) (fp_0_1 hF2) (?_))))))
  refine tr_invVI rfl rfl (fk_260 hF2) (Nat.le_of_ble_eq_true rfl) (by decide) (Nat.le_of_ble_eq_true rfl) (tm99 (by omega) hF2) (fun r5 g3 _ hF4 => ?_)
  exact tr_retI hF4
-- Watch_mostAtOne
abbrev t101_48 : List hOp := oLdI 3 :: oRetI :: []
abbrev t101_46 : List hOp := oInc 4 1 :: oGoto 4 :: t101_48
abbrev t101_38 : List hOp := oLdI 4 :: oLdI 2 :: oInvS 162 2 :: oIf0 cEq 46 :: oLdI 3 :: oLdI 5 :: oMax :: oStI 3 :: t101_46
abbrev t101_36 : List hOp := oInc 6 1 :: oGoto 11 :: t101_38
abbrev t101_11 : List hOp := oLdI 6 :: oPushI 8 :: oIf cGe 38 :: oLdI 6 :: oLdI 2 :: oInvS 162 2 :: oIf0 cEq 36 :: oLdA 0 :: oGetP 10 0 :: oLdI 1 :: oPushI 8 :: oBin (fun x y => x * y) :: oLdI 6 :: oBin (fun x y => x + y) :: oALdI 13 :: oLdA 0 :: oGetP 10 0 :: oLdI 1 :: oPushI 8 :: oBin (fun x y => x * y) :: oLdI 4 :: oBin (fun x y => x + y) :: oALdI 13 :: oIf cNe 36 :: oInc 5 1 :: t101_36
abbrev t101_4 : List hOp := oLdI 4 :: oPushI 8 :: oIf cGe 48 :: oPushI 0 :: oStI 5 :: oPushI 0 :: oStI 6 :: t101_11
abbrev t101_0 : List hOp := oPushI 0 :: oStI 3 :: oPushI 0 :: oStI 4 :: t101_4
theorem e101_0 : (opsOf 101).drop 0 = t101_0 := rfl
theorem e101_4 : (opsOf 101).drop 4 = t101_4 := rfl
theorem e101_11 : (opsOf 101).drop 11 = t101_11 := rfl
theorem e101_36 : (opsOf 101).drop 36 = t101_36 := rfl
theorem e101_38 : (opsOf 101).drop 38 = t101_38 := rfl
theorem e101_46 : (opsOf 101).drop 46 = t101_46 := rfl
theorem e101_48 : (opsOf 101).drop 48 = t101_48 := rfl
def q_Watch_mostAtOne_11 (v1 : Int32) (v2 : Int32) (v4 : Int32) (k38 : Int32 → hG → hO Int32) (k11 : Int32 → Int32 → hG → hO Int32) (v5 : Int32) (v6 : Int32) (g : hG) : hO Int32 :=
  if (8 : Int32) ≤ v6 then (k38 v5 g) else (bnd (q_MP_isAmong v6 v2 g) fun r5 g3 => if r5 = (0 : Int32) then (k11 v5 (v6 + (1 : Int32)) g3) else (gd ((v1 * (8 : Int32)) + v6) 248 <| gd ((v1 * (8 : Int32)) + v4) 248 <| if (gI g3 261 ((v1 * (8 : Int32)) + v6).toNatClampNeg) = (gI g3 261 ((v1 * (8 : Int32)) + v4).toNatClampNeg) then (k11 (v5 + (1 : Int32)) (v6 + (1 : Int32)) g3) else (k11 v5 (v6 + (1 : Int32)) g3)))
def q_Watch_mostAtOne_11L (v1 : Int32) (v2 : Int32) (v4 : Int32) (k38 : Int32 → hG → hO Int32) : Nat → Int32 → Int32 → hG → hO Int32
  | 0 => fun _ _ _ => none
  | n + 1 => fun v5 v6 g => q_Watch_mostAtOne_11 v1 v2 v4 k38 (q_Watch_mostAtOne_11L v1 v2 v4 k38 n) v5 v6 g
theorem q_Watch_mostAtOne_11L_s (v1 : Int32) (v2 : Int32) (v4 : Int32) (k38 : Int32 → hG → hO Int32) (n : Nat) (v5 : Int32) (v6 : Int32) (g : hG) : q_Watch_mostAtOne_11L v1 v2 v4 k38 (n + 1) v5 v6 g = q_Watch_mostAtOne_11 v1 v2 v4 k38 (q_Watch_mostAtOne_11L v1 v2 v4 k38 n) v5 v6 g := rfl
theorem th101_11 {e : Nat} (he : 1 ≤ e + 1) {v1 : Int32} {v2 : Int32} {v4 : Int32} {k38 : Int32 → hG → hO Int32} {k11 : Int32 → Int32 → hG → hO Int32} {v5 : Int32} {v6 : Int32} {u3 : Option Value} (hk38 : ∀ (x5 : Int32) (y6 : Option Value) (g : hG), Frz g → Tri wI (e + 1) 101 t101_38 [some (.ref 260), some (.int v1), some (.int v2), u3, some (.int v4), some (.int x5), y6] [] g (k38 x5 g)) (hk11 : ∀ (x5 : Int32) (x6 : Int32) (g : hG), Frz g → Tri wI (e + 1) 101 t101_11 [some (.ref 260), some (.int v1), some (.int v2), u3, some (.int v4), some (.int x5), some (.int x6)] [] g (k11 x5 x6 g)) (hu3 : isL (some u3) = false) {g : hG} (hF : Frz g) : Tri wI (e + 1) 101 t101_11 [some (.ref 260), some (.int v1), some (.int v2), u3, some (.int v4), some (.int v5), some (.int v6)] [] g (q_Watch_mostAtOne_11 v1 v2 v4 k38 k11 v5 v6 g) := by
  unfold q_Watch_mostAtOne_11
  refine tr_ldI rfl (tr_pushI (?_))
  refine tr_ifj e101_38 (c_ge _ _) (fun hc2 => ?_) (fun hc2 => ?_)
  · exact hk38 _ _ _ hF
  · refine tr_ldI rfl (tr_ldI rfl (?_))
    refine tr_invSI rfl rfl (Nat.le_of_ble_eq_true rfl) (Nat.le_of_ble_eq_true rfl) (by decide) (Nat.le_of_ble_eq_true rfl) (tm162 hF) (fun r5 g3 _ hF4 => ?_)
    refine tr_if0j e101_36 (c_eq _ _) (fun hc6 => ?_) (fun hc6 => ?_)
    · refine tr_inc rfl rfl rfl (?_)
      refine tr_gotoE e101_11 (?_)
      exact hk11 _ _ _ hF4
    · refine tr_ldA rfl (tr_getP (b := 261) (fk_260 hF4) (fp_260_0 hF4) (tr_ldI rfl (tr_pushI (tr_bin (v := (v1 * (8 : Int32))) rfl (tr_ldI rfl (?_))))))
      refine tr_bin (v := ((v1 * (8 : Int32)) + v6)) rfl (tr_aldI (fk_261 hF4) (fl_261 hF4) (fun _ => tr_ldA rfl (tr_getP (b := 261) (fk_260 hF4) (fp_260_0 hF4) (tr_ldI rfl (tr_pushI (?_))))))
      refine tr_bin (v := (v1 * (8 : Int32))) rfl (tr_ldI rfl (tr_bin (v := ((v1 * (8 : Int32)) + v4)) rfl (tr_aldI (fk_261 hF4) (fl_261 hF4) (fun _ => ?_))))
      refine tr_ifn e101_36 (c_ne _ _) (fun hc7 => ?_) (fun hc7 => ?_)
      · refine tr_inc rfl rfl rfl (?_)
        refine tr_gotoE e101_11 (?_)
        exact hk11 _ _ _ hF4
      · refine tr_inc rfl rfl rfl (tr_inc rfl rfl rfl (?_))
        refine tr_gotoE e101_11 (?_)
        exact hk11 _ _ _ hF4
theorem th101_11L {e : Nat} (he : 1 ≤ e + 1) {v1 : Int32} {v2 : Int32} {v4 : Int32} {k38 : Int32 → hG → hO Int32} {u3 : Option Value} (hk38 : ∀ (x5 : Int32) (y6 : Option Value) (g : hG), Frz g → Tri wI (e + 1) 101 t101_38 [some (.ref 260), some (.int v1), some (.int v2), u3, some (.int v4), some (.int x5), y6] [] g (k38 x5 g)) (hu3 : isL (some u3) = false) : ∀ (n : Nat) (v5 : Int32) (v6 : Int32) (g : hG), Frz g → Tri wI (e + 1) 101 t101_11 [some (.ref 260), some (.int v1), some (.int v2), u3, some (.int v4), some (.int v5), some (.int v6)] [] g (q_Watch_mostAtOne_11L v1 v2 v4 k38 n v5 v6 g)
  | 0 => fun _ _ _ _ => Tri.none_
  | n + 1 => fun _ _ g hF => th101_11 he hk38 (th101_11L he hk38 hu3 n) hu3 hF
def q_Watch_mostAtOne_4 (v1 : Int32) (v2 : Int32) (k48 : Int32 → hG → hO Int32) (k4 : Int32 → Int32 → hG → hO Int32) (v3 : Int32) (v4 : Int32) (g : hG) : hO Int32 :=
  if (8 : Int32) ≤ v4 then (k48 v3 g) else (q_Watch_mostAtOne_11L v1 v2 v4 (fun x8 g10 => bnd (q_MP_isAmong v4 v2 g10) fun r14 g12 => if r14 = (0 : Int32) then (k4 v3 (v4 + (1 : Int32)) g12) else (k4 (imax v3 x8) (v4 + (1 : Int32)) g12)) FU (0 : Int32) (0 : Int32) g)
def q_Watch_mostAtOne_4L (v1 : Int32) (v2 : Int32) (k48 : Int32 → hG → hO Int32) : Nat → Int32 → Int32 → hG → hO Int32
  | 0 => fun _ _ _ => none
  | n + 1 => fun v3 v4 g => q_Watch_mostAtOne_4 v1 v2 k48 (q_Watch_mostAtOne_4L v1 v2 k48 n) v3 v4 g
theorem q_Watch_mostAtOne_4L_s (v1 : Int32) (v2 : Int32) (k48 : Int32 → hG → hO Int32) (n : Nat) (v3 : Int32) (v4 : Int32) (g : hG) : q_Watch_mostAtOne_4L v1 v2 k48 (n + 1) v3 v4 g = q_Watch_mostAtOne_4 v1 v2 k48 (q_Watch_mostAtOne_4L v1 v2 k48 n) v3 v4 g := rfl
theorem th101_4 {e : Nat} (he : 1 ≤ e + 1) {v1 : Int32} {v2 : Int32} {k48 : Int32 → hG → hO Int32} {k4 : Int32 → Int32 → hG → hO Int32} {v3 : Int32} {v4 : Int32} {u5 : Option Value} {u6 : Option Value} (hk48 : ∀ (x3 : Int32) (y4 : Option Value) (y5 : Option Value) (y6 : Option Value) (_ : isL (some y4) = false) (_ : isL (some y5) = false) (g : hG), Frz g → Tri wI (e + 1) 101 t101_48 [some (.ref 260), some (.int v1), some (.int v2), some (.int x3), y4, y5, y6] [] g (k48 x3 g)) (hk4 : ∀ (x3 : Int32) (x4 : Int32) (y5 : Option Value) (y6 : Option Value) (_ : isL (some y5) = false) (g : hG), Frz g → Tri wI (e + 1) 101 t101_4 [some (.ref 260), some (.int v1), some (.int v2), some (.int x3), some (.int x4), y5, y6] [] g (k4 x3 x4 g)) (hu5 : isL (some u5) = false) {g : hG} (hF : Frz g) : Tri wI (e + 1) 101 t101_4 [some (.ref 260), some (.int v1), some (.int v2), some (.int v3), some (.int v4), u5, u6] [] g (q_Watch_mostAtOne_4 v1 v2 k48 k4 v3 v4 g) := by
  unfold q_Watch_mostAtOne_4
  refine tr_ldI rfl (tr_pushI (?_))
  refine tr_ifj e101_48 (c_ge _ _) (fun hc1 => ?_) (fun hc1 => ?_)
  · exact hk48 _ _ _ _ rfl hu5 _ hF
  · refine tr_pushI (tr_stI (Nat.le_of_ble_eq_true rfl) rfl rfl (tr_pushI (tr_stI (Nat.le_of_ble_eq_true rfl) rfl rfl (?_))))
    refine th101_11L he (fun x8 y9 g10 hF11 => ?_) rfl FU _ _ _ hF
    · refine tr_ldI rfl (tr_ldI rfl (?_))
      refine tr_invSI rfl rfl (Nat.le_of_ble_eq_true rfl) (Nat.le_of_ble_eq_true rfl) (by decide) (Nat.le_of_ble_eq_true rfl) (tm162 hF11) (fun r14 g12 _ hF13 => ?_)
      refine tr_if0j e101_46 (c_eq _ _) (fun hc15 => ?_) (fun hc15 => ?_)
      · refine tr_inc rfl rfl rfl (?_)
        refine tr_gotoE e101_4 (?_)
        exact hk4 _ _ _ _ rfl _ hF13
      · refine tr_ldI rfl (tr_ldI rfl (tr_max (Nat.le_of_ble_eq_true rfl) (tr_stI (Nat.le_of_ble_eq_true rfl) rfl rfl (tr_inc rfl rfl rfl (?_)))))
        refine tr_gotoE e101_4 (?_)
        exact hk4 _ _ _ _ rfl _ hF13
theorem th101_4L {e : Nat} (he : 1 ≤ e + 1) {v1 : Int32} {v2 : Int32} {k48 : Int32 → hG → hO Int32} (hk48 : ∀ (x3 : Int32) (y4 : Option Value) (y5 : Option Value) (y6 : Option Value) (_ : isL (some y4) = false) (_ : isL (some y5) = false) (g : hG), Frz g → Tri wI (e + 1) 101 t101_48 [some (.ref 260), some (.int v1), some (.int v2), some (.int x3), y4, y5, y6] [] g (k48 x3 g)) : ∀ (n : Nat) (v3 : Int32) (v4 : Int32) (u5 : Option Value) (u6 : Option Value) (_ : isL (some u5) = false) (g : hG), Frz g → Tri wI (e + 1) 101 t101_4 [some (.ref 260), some (.int v1), some (.int v2), some (.int v3), some (.int v4), u5, u6] [] g (q_Watch_mostAtOne_4L v1 v2 k48 n v3 v4 g)
  | 0 => fun _ _ _ _ _ _ _ => Tri.none_
  | n + 1 => fun _ _ _ _ z5 g hF => th101_4 he hk48 (th101_4L he hk48 n) z5 hF
def q_Watch_mostAtOne (v1 : Int32) (v2 : Int32) (g : hG) : hO Int32 :=
  q_Watch_mostAtOne_4L v1 v2 (fun x16 g20 => some (x16, g20)) FU (0 : Int32) (0 : Int32) g
theorem tm101 {d : Nat} {v1 : Int32} {v2 : Int32} (hd : 1 ≤ d) {g : hG} (hF : Frz g) : TM wI d 101 [.ref 260, .int v1, .int v2] g (q_Watch_mostAtOne v1 v2 g) := by
  obtain ⟨e, rfl⟩ : ∃ e, d = e + 1 := ⟨d - 1, by omega⟩
  have he := hd
  refine TM.ofE e101_0 (lv := [some (.ref 260), some (.int v1), some (.int v2), none, none, none, none]) rfl ?_
  unfold q_Watch_mostAtOne
  refine tr_pushI (tr_stI (Nat.le_of_ble_eq_true rfl) rfl rfl (tr_pushI (tr_stI (Nat.le_of_ble_eq_true rfl) rfl rfl (?_))))
  refine th101_4L he (fun x16 y17 y18 y19 zy17 zy18 g20 hF21 => ?_) FU _ _ _ _ rfl _ hF
  · refine tr_ldI rfl (?_)
    exact tr_retI hF21
-- Watch_bestHour
abbrev t102_20 : List hOp := oLdI 2 :: oRetI :: []
abbrev t102_18 : List hOp := oInc 3 1 :: oGoto 4 :: t102_20
abbrev t102_4 : List hOp := oLdI 3 :: oPushI 30 :: oIf cGt 20 :: oLdA 0 :: oLdI 3 :: oLdI 1 :: oInvV 101 10 2 :: oLdA 0 :: oLdI 2 :: oLdI 1 :: oInvV 101 10 2 :: oIf cGe 18 :: oLdI 3 :: oStI 2 :: t102_18
abbrev t102_0 : List hOp := oPushI 0 :: oStI 2 :: oPushI 1 :: oStI 3 :: t102_4
theorem e102_0 : (opsOf 102).drop 0 = t102_0 := rfl
theorem e102_4 : (opsOf 102).drop 4 = t102_4 := rfl
theorem e102_18 : (opsOf 102).drop 18 = t102_18 := rfl
theorem e102_20 : (opsOf 102).drop 20 = t102_20 := rfl
def q_Watch_bestHour_4 (v1 : Int32) (k20 : Int32 → hG → hO Int32) (k4 : Int32 → Int32 → hG → hO Int32) (v2 : Int32) (v3 : Int32) (g : hG) : hO Int32 :=
  if (30 : Int32) < v3 then (k20 v2 g) else (bnd (q_Watch_mostAtOne v3 v1 g) fun r4 g2 => bnd (q_Watch_mostAtOne v2 v1 g2) fun r7 g5 => if r7 ≤ r4 then (k4 v2 (v3 + (1 : Int32)) g5) else (k4 v3 (v3 + (1 : Int32)) g5))
def q_Watch_bestHour_4L (v1 : Int32) (k20 : Int32 → hG → hO Int32) : Nat → Int32 → Int32 → hG → hO Int32
  | 0 => fun _ _ _ => none
  | n + 1 => fun v2 v3 g => q_Watch_bestHour_4 v1 k20 (q_Watch_bestHour_4L v1 k20 n) v2 v3 g
theorem q_Watch_bestHour_4L_s (v1 : Int32) (k20 : Int32 → hG → hO Int32) (n : Nat) (v2 : Int32) (v3 : Int32) (g : hG) : q_Watch_bestHour_4L v1 k20 (n + 1) v2 v3 g = q_Watch_bestHour_4 v1 k20 (q_Watch_bestHour_4L v1 k20 n) v2 v3 g := rfl
theorem th102_4 {e : Nat} (he : 2 ≤ e + 1) {v1 : Int32} {k20 : Int32 → hG → hO Int32} {k4 : Int32 → Int32 → hG → hO Int32} {v2 : Int32} {v3 : Int32} (hk20 : ∀ (x2 : Int32) (y3 : Option Value) (g : hG), Frz g → Tri wI (e + 1) 102 t102_20 [some (.ref 260), some (.int v1), some (.int x2), y3] [] g (k20 x2 g)) (hk4 : ∀ (x2 : Int32) (x3 : Int32) (g : hG), Frz g → Tri wI (e + 1) 102 t102_4 [some (.ref 260), some (.int v1), some (.int x2), some (.int x3)] [] g (k4 x2 x3 g)) {g : hG} (hF : Frz g) : Tri wI (e + 1) 102 t102_4 [some (.ref 260), some (.int v1), some (.int v2), some (.int v3)] [] g (q_Watch_bestHour_4 v1 k20 k4 v2 v3 g) := by
  unfold q_Watch_bestHour_4
  refine tr_ldI rfl (tr_pushI (?_))
  refine tr_ifj e102_20 (c_gt _ _) (fun hc1 => ?_) (fun hc1 => ?_)
  · exact hk20 _ _ _ hF
  · refine tr_ldA rfl (tr_ldI rfl (tr_ldI rfl (?_)))
    refine tr_invVI rfl rfl (fk_260 hF) (Nat.le_of_ble_eq_true rfl) (by decide) (Nat.le_of_ble_eq_true rfl) (tm101 (by omega) hF) (fun r4 g2 _ hF3 => ?_)
    refine tr_ldA rfl (tr_ldI rfl (tr_ldI rfl (?_)))
    refine tr_invVI rfl rfl (fk_260 hF3) (Nat.le_of_ble_eq_true rfl) (by decide) (Nat.le_of_ble_eq_true rfl) (tm101 (by omega) hF3) (fun r7 g5 _ hF6 => ?_)
    refine tr_ifj e102_18 (c_ge _ _) (fun hc8 => ?_) (fun hc8 => ?_)
    · refine tr_inc rfl rfl rfl (?_)
      refine tr_gotoE e102_4 (?_)
      exact hk4 _ _ _ hF6
    · refine tr_ldI rfl (tr_stI (Nat.le_of_ble_eq_true rfl) rfl rfl (tr_inc rfl rfl rfl (?_)))
      refine tr_gotoE e102_4 (?_)
      exact hk4 _ _ _ hF6
theorem th102_4L {e : Nat} (he : 2 ≤ e + 1) {v1 : Int32} {k20 : Int32 → hG → hO Int32} (hk20 : ∀ (x2 : Int32) (y3 : Option Value) (g : hG), Frz g → Tri wI (e + 1) 102 t102_20 [some (.ref 260), some (.int v1), some (.int x2), y3] [] g (k20 x2 g)) : ∀ (n : Nat) (v2 : Int32) (v3 : Int32) (g : hG), Frz g → Tri wI (e + 1) 102 t102_4 [some (.ref 260), some (.int v1), some (.int v2), some (.int v3)] [] g (q_Watch_bestHour_4L v1 k20 n v2 v3 g)
  | 0 => fun _ _ _ _ => Tri.none_
  | n + 1 => fun _ _ g hF => th102_4 he hk20 (th102_4L he hk20 n) hF
def q_Watch_bestHour (v1 : Int32) (g : hG) : hO Int32 :=
  q_Watch_bestHour_4L v1 (fun x9 g11 => some (x9, g11)) FU (0 : Int32) (1 : Int32) g
theorem tm102 {d : Nat} {v1 : Int32} (hd : 2 ≤ d) {g : hG} (hF : Frz g) : TM wI d 102 [.ref 260, .int v1] g (q_Watch_bestHour v1 g) := by
  obtain ⟨e, rfl⟩ : ∃ e, d = e + 1 := ⟨d - 1, by omega⟩
  have he := hd
  refine TM.ofE e102_0 (lv := [some (.ref 260), some (.int v1), none, none]) rfl ?_
  unfold q_Watch_bestHour
  refine tr_pushI (tr_stI (Nat.le_of_ble_eq_true rfl) rfl rfl (tr_pushI (tr_stI (Nat.le_of_ble_eq_true rfl) rfl rfl (?_))))
  refine th102_4L he (fun x9 y10 g11 hF12 => ?_) FU _ _ _ hF
  · refine tr_ldI rfl (?_)
    exact tr_retI hF12
-- MP_look
abbrev t146_35 : List hOp := oRetI :: []
abbrev t146_30 : List hOp := oLdA 0 :: oGetP 11 17 :: oLdI 3 :: oLdI 2 :: oInvV 101 10 2 :: t146_35
abbrev t146_21 : List hOp := oLdA 0 :: oGetP 11 17 :: oLdI 2 :: oInvV 102 10 1 :: oStI 3 :: oLdI 1 :: oIf0 cNe 30 :: oLdI 3 :: oGoto 35 :: t146_30
abbrev t146_7 : List hOp := oLdA 0 :: oInvV 147 11 0 :: oLdA 0 :: oGetP 11 17 :: oLdA 0 :: oGetP 11 0 :: oLdA 0 :: oGetP 11 1 :: oInvV 99 10 2 :: oStI 2 :: oLdI 2 :: oIf0 cNe 21 :: oPushI (-1) :: oRetI :: t146_21
abbrev t146_5 : List hOp := oPushI (-1) :: oRetI :: t146_7
abbrev t146_0 : List hOp := oLdI 1 :: oIf0 cLt 5 :: oLdI 1 :: oPushI 1 :: oIf cLe 7 :: t146_5
theorem e146_0 : (opsOf 146).drop 0 = t146_0 := rfl
theorem e146_5 : (opsOf 146).drop 5 = t146_5 := rfl
theorem e146_7 : (opsOf 146).drop 7 = t146_7 := rfl
theorem e146_21 : (opsOf 146).drop 21 = t146_21 := rfl
theorem e146_30 : (opsOf 146).drop 30 = t146_30 := rfl
theorem e146_35 : (opsOf 146).drop 35 = t146_35 := rfl
def q_MP_look (v1 : Int32) (g : hG) : hO Int32 :=
  if v1 < (0 : Int32) then (some ((-1 : Int32), g)) else (if v1 ≤ (1 : Int32) then (bnd (q_MP_watchLetters g) fun _ g3 => bnd (q_Watch_lettersSeen g3) fun r7 g5 => if r7 = (0 : Int32) then (some ((-1 : Int32), g5)) else (bnd (q_Watch_bestHour r7 g5) fun r11 g9 => if v1 = (0 : Int32) then (some (r11, g9)) else (bnd (q_Watch_mostAtOne r11 r7 g9) fun r15 g13 => some (r15, g13)))) else (some ((-1 : Int32), g)))
theorem tm146 {d : Nat} {v1 : Int32} (hd : 6 ≤ d) {g : hG} (hF : Frz g) : TM wI d 146 [.ref 0, .int v1] g (q_MP_look v1 g) := by
  obtain ⟨e, rfl⟩ : ∃ e, d = e + 1 := ⟨d - 1, by omega⟩
  have he := hd
  refine TM.ofE e146_0 (lv := [some (.ref 0), some (.int v1), none, none]) rfl ?_
  unfold q_MP_look
  refine tr_ldI rfl (?_)
  refine tr_if0j e146_5 (c_lt _ _) (fun hc1 => ?_) (fun hc1 => ?_)
  · refine tr_pushI (?_)
    exact tr_retI hF
  · refine tr_ldI rfl (tr_pushI (?_))
    refine tr_ifj e146_7 (c_le _ _) (fun hc2 => ?_) (fun hc2 => ?_)
    · refine tr_ldA rfl (?_)
      refine tr_invVU rfl rfl (fk_0 hF) (Nat.le_of_ble_eq_true rfl) (by decide) (Nat.le_of_ble_eq_true rfl) (tm147 (by omega) hF) (fun _ g3 _ hF4 => ?_)
      refine tr_ldA rfl (tr_getP (b := 260) (fk_0 hF4) (fp_0_17 hF4) (tr_ldA rfl (tr_getP (b := 1) (fk_0 hF4) (fp_0_0 hF4) (tr_ldA rfl (tr_getP (b := 2) (fk_0 hF4) (fp_0_1 hF4) (?_))))))
      refine tr_invVI rfl rfl (fk_260 hF4) (Nat.le_of_ble_eq_true rfl) (by decide) (Nat.le_of_ble_eq_true rfl) (tm99 (by omega) hF4) (fun r7 g5 _ hF6 => ?_)
      refine tr_stI (Nat.le_of_ble_eq_true rfl) rfl rfl (tr_ldI rfl (?_))
      refine tr_if0n e146_21 (c_ne _ _) (fun hc8 => ?_) (fun hc8 => ?_)
      · refine tr_ldA rfl (tr_getP (b := 260) (fk_0 hF6) (fp_0_17 hF6) (tr_ldI rfl (?_)))
        refine tr_invVI rfl rfl (fk_260 hF6) (Nat.le_of_ble_eq_true rfl) (by decide) (Nat.le_of_ble_eq_true rfl) (tm102 (by omega) hF6) (fun r11 g9 _ hF10 => ?_)
        refine tr_stI (Nat.le_of_ble_eq_true rfl) rfl rfl (tr_ldI rfl (?_))
        refine tr_if0n e146_30 (c_ne _ _) (fun hc12 => ?_) (fun hc12 => ?_)
        · refine tr_ldA rfl (tr_getP (b := 260) (fk_0 hF10) (fp_0_17 hF10) (tr_ldI rfl (tr_ldI rfl (?_))))
          refine tr_invVI rfl rfl (fk_260 hF10) (Nat.le_of_ble_eq_true rfl) (by decide) (Nat.le_of_ble_eq_true rfl) (tm101 (by omega) hF10) (fun r15 g13 _ hF14 => ?_)
          exact tr_retI hF14
        · refine tr_ldI rfl (?_)
          refine tr_gotoE e146_35 (?_)
          exact tr_retI hF10
      · refine tr_pushI (?_)
        exact tr_retI hF6
    · refine tr_pushI (?_)
      exact tr_retI hF
-- MP_partBelow
abbrev t149_45 : List hOp := oRetV :: []
abbrev t149_23 : List hOp := oStL 3 :: oLdA 0 :: oGetP 11 18 :: oLdI 2 :: oLdA 0 :: oGetP 11 18 :: oLdI 2 :: oALdJ :: oPushI 10 :: oLdA 0 :: oGetP 11 0 :: oGetI 1 2 :: oBin (fun x y => x - y) :: oI2L :: oLBin (fun x y => x * y) :: oPushL 10 :: oLDvd (fun x y => x / y) :: oLdL 3 :: oLBin (fun x y => x + y) :: oAStJ :: oInc 2 (-1) :: oGoto 4 :: t149_45
abbrev t149_10 : List hOp := oLdA 0 :: oGetP 11 18 :: oLdI 2 :: oPushI 1 :: oBin (fun x y => x - y) :: oALdJ :: oLdA 0 :: oGetP 11 0 :: oGetI 1 2 :: oI2L :: oLBin (fun x y => x * y) :: oPushL 10 :: oLDvd (fun x y => x / y) :: t149_23
abbrev t149_4 : List hOp := oLdI 2 :: oIf0 cLt 45 :: oLdI 2 :: oIf0 cNe 10 :: oPushL 0 :: oGoto 23 :: t149_10
abbrev t149_0 : List hOp := oLdI 1 :: oPushI 1 :: oBin (fun x y => x - y) :: oStI 2 :: t149_4
theorem e149_0 : (opsOf 149).drop 0 = t149_0 := rfl
theorem e149_4 : (opsOf 149).drop 4 = t149_4 := rfl
theorem e149_10 : (opsOf 149).drop 10 = t149_10 := rfl
theorem e149_23 : (opsOf 149).drop 23 = t149_23 := rfl
theorem e149_45 : (opsOf 149).drop 45 = t149_45 := rfl
def q_MP_partBelow_23 (v2 : Int32) (k4 : Int32 → hG → hO Unit) (w0 : Int64) (g : hG) : hO Unit :=
  gd v2 20 <| gd v2 20 <| wr (sJ g 262 v2.toNatClampNeg ((((gJ g 262 v2.toNatClampNeg) * (((10 : Int32) - (gI g 1 2))).toInt64) / (10 : Int64)) + w0)) fun g3 => k4 (v2 + (-1 : Int32)) g3
theorem th149_23 {d : Nat} {v2 : Int32} {k4 : Int32 → hG → hO Unit} {w0 : Int64} {u1 : Option Value} {u3 : Option Value} {u4 : Option Value} (hk4 : ∀ (x2 : Int32) (y3 : Option Value) (y4 : Option Value) (g : hG), Frz g → Tri wU d 149 t149_4 [some (.ref 0), u1, some (.int x2), y3, y4] [] g (k4 x2 g)) (hu1 : isL (some u1) = false) {g : hG} (hF : Frz g) : Tri wU d 149 t149_23 [some (.ref 0), u1, some (.int v2), u3, u4] [.long w0] g (q_MP_partBelow_23 v2 k4 w0 g) := by
  unfold q_MP_partBelow_23
  refine tr_stL (Nat.le_of_ble_eq_true rfl) rfl rfl (tr_ldA rfl (tr_getP (b := 262) (fk_0 hF) (fp_0_18 hF) (tr_ldI rfl (tr_ldA rfl (tr_getP (b := 262) (fk_0 hF) (fp_0_18 hF) (?_))))))
  refine tr_ldI rfl (tr_aldJ (fk_262 hF) (fl_262 hF) (fun _ => tr_pushI (tr_ldA rfl (tr_getP (b := 1) (fk_0 hF) (fp_0_0 hF) (tr_getI (fk_1 hF) (?_))))))
  refine tr_bin (v := ((10 : Int32) - (gI g 1 2))) rfl (tr_i2l (tr_lbin (v := ((gJ g 262 v2.toNatClampNeg) * (((10 : Int32) - (gI g 1 2))).toInt64)) rfl (tr_pushL (tr_ldvdl (v := (((gJ g 262 v2.toNatClampNeg) * (((10 : Int32) - (gI g 1 2))).toInt64) / (10 : Int64))) (by decide) rfl (tr_ldL rfl (?_))))))
  refine tr_lbin (v := ((((gJ g 262 v2.toNatClampNeg) * (((10 : Int32) - (gI g 1 2))).toInt64) / (10 : Int64)) + w0)) rfl (tr_astJ hF (fk_262 hF) (fl_262 hF) (fun _ g3 _ hF4 => tr_inc rfl (lKill_id hu1) rfl (?_)))
  refine tr_gotoE e149_4 (?_)
  exact hk4 _ _ _ _ hF4
def q_MP_partBelow_4 (k45 : hG → hO Unit) (k4 : Int32 → hG → hO Unit) (v2 : Int32) (g : hG) : hO Unit :=
  if v2 < (0 : Int32) then (k45 g) else (if v2 = (0 : Int32) then (q_MP_partBelow_23 v2 k4 (0 : Int64) g) else (gd (v2 - (1 : Int32)) 20 <| q_MP_partBelow_23 v2 k4 (((gJ g 262 (v2 - (1 : Int32)).toNatClampNeg) * ((gI g 1 2)).toInt64) / (10 : Int64)) g))
def q_MP_partBelow_4L (k45 : hG → hO Unit) : Nat → Int32 → hG → hO Unit
  | 0 => fun _ _ => none
  | n + 1 => fun v2 g => q_MP_partBelow_4 k45 (q_MP_partBelow_4L k45 n) v2 g
theorem q_MP_partBelow_4L_s (k45 : hG → hO Unit) (n : Nat) (v2 : Int32) (g : hG) : q_MP_partBelow_4L k45 (n + 1) v2 g = q_MP_partBelow_4 k45 (q_MP_partBelow_4L k45 n) v2 g := rfl
theorem th149_4 {d : Nat} {k45 : hG → hO Unit} {k4 : Int32 → hG → hO Unit} {v2 : Int32} {u1 : Option Value} {u3 : Option Value} {u4 : Option Value} (hk45 : ∀ (y2 : Option Value) (y3 : Option Value) (y4 : Option Value) (_ : isL (some y2) = false) (g : hG), Frz g → Tri wU d 149 t149_45 [some (.ref 0), u1, y2, y3, y4] [] g (k45 g)) (hk4 : ∀ (x2 : Int32) (y3 : Option Value) (y4 : Option Value) (g : hG), Frz g → Tri wU d 149 t149_4 [some (.ref 0), u1, some (.int x2), y3, y4] [] g (k4 x2 g)) (hu1 : isL (some u1) = false) {g : hG} (hF : Frz g) : Tri wU d 149 t149_4 [some (.ref 0), u1, some (.int v2), u3, u4] [] g (q_MP_partBelow_4 k45 k4 v2 g) := by
  unfold q_MP_partBelow_4
  refine tr_ldI rfl (?_)
  refine tr_if0j e149_45 (c_lt _ _) (fun hc1 => ?_) (fun hc1 => ?_)
  · exact hk45 _ _ _ rfl _ hF
  · refine tr_ldI rfl (?_)
    refine tr_if0n e149_10 (c_ne _ _) (fun hc2 => ?_) (fun hc2 => ?_)
    · refine tr_ldA rfl (tr_getP (b := 262) (fk_0 hF) (fp_0_18 hF) (tr_ldI rfl (tr_pushI (tr_bin (v := (v2 - (1 : Int32))) rfl (tr_aldJ (fk_262 hF) (fl_262 hF) (fun _ => ?_))))))
      refine tr_ldA rfl (tr_getP (b := 1) (fk_0 hF) (fp_0_0 hF) (tr_getI (fk_1 hF) (tr_i2l (tr_lbin (v := ((gJ g 262 (v2 - (1 : Int32)).toNatClampNeg) * ((gI g 1 2)).toInt64)) rfl (tr_pushL (?_))))))
      refine tr_ldvdl (v := (((gJ g 262 (v2 - (1 : Int32)).toNatClampNeg) * ((gI g 1 2)).toInt64) / (10 : Int64))) (by decide) rfl (?_)
      exact th149_23 hk4 hu1 hF
    · refine tr_pushL (?_)
      refine tr_gotoE e149_23 (?_)
      exact th149_23 hk4 hu1 hF
theorem th149_4L {d : Nat} {k45 : hG → hO Unit} {u1 : Option Value} (hk45 : ∀ (y2 : Option Value) (y3 : Option Value) (y4 : Option Value) (_ : isL (some y2) = false) (g : hG), Frz g → Tri wU d 149 t149_45 [some (.ref 0), u1, y2, y3, y4] [] g (k45 g)) (hu1 : isL (some u1) = false) : ∀ (n : Nat) (v2 : Int32) (u3 : Option Value) (u4 : Option Value) (g : hG), Frz g → Tri wU d 149 t149_4 [some (.ref 0), u1, some (.int v2), u3, u4] [] g (q_MP_partBelow_4L k45 n v2 g)
  | 0 => fun _ _ _ _ _ => Tri.none_
  | n + 1 => fun _ _ _ g hF => th149_4 hk45 (th149_4L hk45 hu1 n) hu1 hF
def q_MP_partBelow (v1 : Int32) (g : hG) : hO Unit :=
  q_MP_partBelow_4L (fun g8 => some ((), g8)) FU (v1 - (1 : Int32)) g
theorem tm149 {d : Nat} {v1 : Int32} {g : hG} (hF : Frz g) : TM wU d 149 [.ref 0, .int v1] g (q_MP_partBelow v1 g) := by
  refine TM.ofE e149_0 (lv := [some (.ref 0), some (.int v1), none, none, none]) rfl ?_
  unfold q_MP_partBelow
  refine tr_ldI rfl (tr_pushI (tr_bin (v := (v1 - (1 : Int32))) rfl (tr_stI (Nat.le_of_ble_eq_true rfl) rfl rfl (?_))))
  refine th149_4L (fun y5 y6 y7 zy5 g8 hF9 => ?_) rfl FU _ _ _ _ hF
  · exact tr_retV hF9
-- MP_few
abbrev t148_55 : List hOp := oLdL 3 :: oRetL :: []
abbrev t148_43 : List hOp := oLdI 5 :: oLdI 1 :: oIf cGe 55 :: oLdL 3 :: oLdA 0 :: oGetP 11 18 :: oLdI 5 :: oALdJ :: oLBin (fun x y => x + y) :: oStL 3 :: oInc 5 1 :: oGoto 43 :: t148_55
abbrev t148_39 : List hOp := oPushL 0 :: oStL 3 :: oPushI 0 :: oStI 5 :: t148_43
abbrev t148_31 : List hOp := oLdI 3 :: oLdI 2 :: oIf cGe 39 :: oLdA 0 :: oLdI 1 :: oInvV 149 11 1 :: oInc 3 1 :: oGoto 31 :: t148_39
abbrev t148_29 : List hOp := oPushI 0 :: oStI 3 :: t148_31
abbrev t148_26 : List hOp := oAStJ :: oInc 3 1 :: oGoto 15 :: t148_29
abbrev t148_25 : List hOp := oPushL 0 :: t148_26
abbrev t148_15 : List hOp := oLdI 3 :: oLdI 1 :: oIf cGe 29 :: oLdA 0 :: oGetP 11 18 :: oLdI 3 :: oLdI 3 :: oIf0 cNe 25 :: oPushL 1000000000000 :: oGoto 26 :: t148_25
abbrev t148_13 : List hOp := oPushI 0 :: oStI 3 :: t148_15
abbrev t148_11 : List hOp := oPushL (-1) :: oRetL :: t148_13
abbrev t148_0 : List hOp := oLdI 1 :: oPushI 1 :: oIf cLt 11 :: oLdI 1 :: oPushI 20 :: oIf cGt 11 :: oLdI 2 :: oIf0 cLt 11 :: oLdI 2 :: oPushI 99 :: oIf cLe 13 :: t148_11
theorem e148_0 : (opsOf 148).drop 0 = t148_0 := rfl
theorem e148_11 : (opsOf 148).drop 11 = t148_11 := rfl
theorem e148_13 : (opsOf 148).drop 13 = t148_13 := rfl
theorem e148_15 : (opsOf 148).drop 15 = t148_15 := rfl
theorem e148_25 : (opsOf 148).drop 25 = t148_25 := rfl
theorem e148_26 : (opsOf 148).drop 26 = t148_26 := rfl
theorem e148_29 : (opsOf 148).drop 29 = t148_29 := rfl
theorem e148_31 : (opsOf 148).drop 31 = t148_31 := rfl
theorem e148_39 : (opsOf 148).drop 39 = t148_39 := rfl
theorem e148_43 : (opsOf 148).drop 43 = t148_43 := rfl
theorem e148_55 : (opsOf 148).drop 55 = t148_55 := rfl
def q_MP_few_26 (v3 : Int32) (k15 : Int32 → hG → hO Int64) (w1 : Int32) (w2 : Int64) (g : hG) : hO Int64 :=
  gd w1 20 <| wr (sJ g 262 w1.toNatClampNeg w2) fun g7 => k15 (v3 + (1 : Int32)) g7
theorem th148_26 {e : Nat} (he : 1 ≤ e + 1) {v3 : Int32} {k15 : Int32 → hG → hO Int64} {w1 : Int32} {w2 : Int64} {u1 : Option Value} {u2 : Option Value} {u4 : Option Value} {u5 : Option Value} (hk15 : ∀ (x3 : Int32) (g : hG), Frz g → Tri wJ (e + 1) 148 t148_15 [some (.ref 0), u1, u2, some (.int x3), u4, u5] [] g (k15 x3 g)) (hu2 : isL (some u2) = false) (hu4 : isL (some u4) = false) {g : hG} (hF : Frz g) : Tri wJ (e + 1) 148 t148_26 [some (.ref 0), u1, u2, some (.int v3), u4, u5] [.long w2, .int w1, .ref 262] g (q_MP_few_26 v3 k15 w1 w2 g) := by
  unfold q_MP_few_26
  refine tr_astJ hF (fk_262 hF) (fl_262 hF) (fun _ g7 _ hF8 => tr_inc rfl (lKill_id hu2) rfl (?_))
  refine tr_gotoE e148_15 (?_)
  exact hk15 _ _ hF8
def q_MP_few_15 (v1 : Int32) (k29 : hG → hO Int64) (k15 : Int32 → hG → hO Int64) (v3 : Int32) (g : hG) : hO Int64 :=
  if v1 ≤ v3 then (k29 g) else (q_MP_few_26 v3 k15 v3 (if v3 = (0 : Int32) then (1000000000000 : Int64) else (0 : Int64)) g)
def q_MP_few_15L (v1 : Int32) (k29 : hG → hO Int64) : Nat → Int32 → hG → hO Int64
  | 0 => fun _ _ => none
  | n + 1 => fun v3 g => q_MP_few_15 v1 k29 (q_MP_few_15L v1 k29 n) v3 g
theorem q_MP_few_15L_s (v1 : Int32) (k29 : hG → hO Int64) (n : Nat) (v3 : Int32) (g : hG) : q_MP_few_15L v1 k29 (n + 1) v3 g = q_MP_few_15 v1 k29 (q_MP_few_15L v1 k29 n) v3 g := rfl
theorem th148_15 {e : Nat} (he : 1 ≤ e + 1) {v1 : Int32} {k29 : hG → hO Int64} {k15 : Int32 → hG → hO Int64} {v3 : Int32} {u2 : Option Value} {u4 : Option Value} {u5 : Option Value} (hk29 : ∀ (y3 : Option Value) (g : hG), Frz g → Tri wJ (e + 1) 148 t148_29 [some (.ref 0), some (.int v1), u2, y3, u4, u5] [] g (k29 g)) (hk15 : ∀ (x3 : Int32) (g : hG), Frz g → Tri wJ (e + 1) 148 t148_15 [some (.ref 0), some (.int v1), u2, some (.int x3), u4, u5] [] g (k15 x3 g)) (hu2 : isL (some u2) = false) (hu4 : isL (some u4) = false) {g : hG} (hF : Frz g) : Tri wJ (e + 1) 148 t148_15 [some (.ref 0), some (.int v1), u2, some (.int v3), u4, u5] [] g (q_MP_few_15 v1 k29 k15 v3 g) := by
  unfold q_MP_few_15
  refine tr_ldI rfl (tr_ldI rfl (?_))
  refine tr_ifj e148_29 (c_ge _ _) (fun hc5 => ?_) (fun hc5 => ?_)
  · exact hk29 _ _ hF
  · refine tr_ldA rfl (tr_getP (b := 262) (fk_0 hF) (fp_0_18 hF) (tr_ldI rfl (tr_ldI rfl (?_))))
    refine tr_if0cE e148_25 (c_ne _ _) (fun hc9 => ?_) (fun hc9 => ?_)
    · rw [if_neg hc9]
      refine tr_pushL (?_)
      exact th148_26 he hk15 hu2 hu4 hF
    · rw [if_pos (Decidable.not_not.mp hc9)]
      refine tr_pushL (?_)
      refine tr_gotoE e148_26 (?_)
      exact th148_26 he hk15 hu2 hu4 hF
theorem th148_15L {e : Nat} (he : 1 ≤ e + 1) {v1 : Int32} {k29 : hG → hO Int64} {u2 : Option Value} {u4 : Option Value} {u5 : Option Value} (hk29 : ∀ (y3 : Option Value) (g : hG), Frz g → Tri wJ (e + 1) 148 t148_29 [some (.ref 0), some (.int v1), u2, y3, u4, u5] [] g (k29 g)) (hu2 : isL (some u2) = false) (hu4 : isL (some u4) = false) : ∀ (n : Nat) (v3 : Int32) (g : hG), Frz g → Tri wJ (e + 1) 148 t148_15 [some (.ref 0), some (.int v1), u2, some (.int v3), u4, u5] [] g (q_MP_few_15L v1 k29 n v3 g)
  | 0 => fun _ _ _ => Tri.none_
  | n + 1 => fun _ g hF => th148_15 he hk29 (th148_15L he hk29 hu2 hu4 n) hu2 hu4 hF
def q_MP_few_31 (v1 : Int32) (v2 : Int32) (k39 : hG → hO Int64) (k31 : Int32 → hG → hO Int64) (v3 : Int32) (g : hG) : hO Int64 :=
  if v2 ≤ v3 then (k39 g) else (bnd (q_MP_partBelow v1 g) fun _ g14 => k31 (v3 + (1 : Int32)) g14)
def q_MP_few_31L (v1 : Int32) (v2 : Int32) (k39 : hG → hO Int64) : Nat → Int32 → hG → hO Int64
  | 0 => fun _ _ => none
  | n + 1 => fun v3 g => q_MP_few_31 v1 v2 k39 (q_MP_few_31L v1 v2 k39 n) v3 g
theorem q_MP_few_31L_s (v1 : Int32) (v2 : Int32) (k39 : hG → hO Int64) (n : Nat) (v3 : Int32) (g : hG) : q_MP_few_31L v1 v2 k39 (n + 1) v3 g = q_MP_few_31 v1 v2 k39 (q_MP_few_31L v1 v2 k39 n) v3 g := rfl
theorem th148_31 {e : Nat} (he : 1 ≤ e + 1) {v1 : Int32} {v2 : Int32} {k39 : hG → hO Int64} {k31 : Int32 → hG → hO Int64} {v3 : Int32} {u4 : Option Value} {u5 : Option Value} (hk39 : ∀ (y3 : Option Value) (g : hG), Frz g → Tri wJ (e + 1) 148 t148_39 [some (.ref 0), some (.int v1), some (.int v2), y3, u4, u5] [] g (k39 g)) (hk31 : ∀ (x3 : Int32) (g : hG), Frz g → Tri wJ (e + 1) 148 t148_31 [some (.ref 0), some (.int v1), some (.int v2), some (.int x3), u4, u5] [] g (k31 x3 g)) (hu4 : isL (some u4) = false) {g : hG} (hF : Frz g) : Tri wJ (e + 1) 148 t148_31 [some (.ref 0), some (.int v1), some (.int v2), some (.int v3), u4, u5] [] g (q_MP_few_31 v1 v2 k39 k31 v3 g) := by
  unfold q_MP_few_31
  refine tr_ldI rfl (tr_ldI rfl (?_))
  refine tr_ifj e148_39 (c_ge _ _) (fun hc13 => ?_) (fun hc13 => ?_)
  · exact hk39 _ _ hF
  · refine tr_ldA rfl (tr_ldI rfl (?_))
    refine tr_invVU rfl rfl (fk_0 hF) (Nat.le_of_ble_eq_true rfl) (by decide) (Nat.le_of_ble_eq_true rfl) (tm149 hF) (fun _ g14 _ hF15 => ?_)
    refine tr_inc rfl rfl rfl (?_)
    refine tr_gotoE e148_31 (?_)
    exact hk31 _ _ hF15
theorem th148_31L {e : Nat} (he : 1 ≤ e + 1) {v1 : Int32} {v2 : Int32} {k39 : hG → hO Int64} {u4 : Option Value} {u5 : Option Value} (hk39 : ∀ (y3 : Option Value) (g : hG), Frz g → Tri wJ (e + 1) 148 t148_39 [some (.ref 0), some (.int v1), some (.int v2), y3, u4, u5] [] g (k39 g)) (hu4 : isL (some u4) = false) : ∀ (n : Nat) (v3 : Int32) (g : hG), Frz g → Tri wJ (e + 1) 148 t148_31 [some (.ref 0), some (.int v1), some (.int v2), some (.int v3), u4, u5] [] g (q_MP_few_31L v1 v2 k39 n v3 g)
  | 0 => fun _ _ _ => Tri.none_
  | n + 1 => fun _ g hF => th148_31 he hk39 (th148_31L he hk39 hu4 n) hu4 hF
def q_MP_few_43 (v1 : Int32) (k55 : Int64 → hG → hO Int64) (k43 : Int64 → Int32 → hG → hO Int64) (v3 : Int64) (v5 : Int32) (g : hG) : hO Int64 :=
  if v1 ≤ v5 then (k55 v3 g) else (gd v5 20 <| k43 (v3 + (gJ g 262 v5.toNatClampNeg)) (v5 + (1 : Int32)) g)
def q_MP_few_43L (v1 : Int32) (k55 : Int64 → hG → hO Int64) : Nat → Int64 → Int32 → hG → hO Int64
  | 0 => fun _ _ _ => none
  | n + 1 => fun v3 v5 g => q_MP_few_43 v1 k55 (q_MP_few_43L v1 k55 n) v3 v5 g
theorem q_MP_few_43L_s (v1 : Int32) (k55 : Int64 → hG → hO Int64) (n : Nat) (v3 : Int64) (v5 : Int32) (g : hG) : q_MP_few_43L v1 k55 (n + 1) v3 v5 g = q_MP_few_43 v1 k55 (q_MP_few_43L v1 k55 n) v3 v5 g := rfl
theorem th148_43 {e : Nat} (he : 1 ≤ e + 1) {v1 : Int32} {k55 : Int64 → hG → hO Int64} {k43 : Int64 → Int32 → hG → hO Int64} {v3 : Int64} {v5 : Int32} {u2 : Option Value} (hk55 : ∀ (x3 : Int64) (y5 : Option Value) (g : hG), Frz g → Tri wJ (e + 1) 148 t148_55 [some (.ref 0), some (.int v1), u2, some (.long x3), none, y5] [] g (k55 x3 g)) (hk43 : ∀ (x3 : Int64) (x5 : Int32) (g : hG), Frz g → Tri wJ (e + 1) 148 t148_43 [some (.ref 0), some (.int v1), u2, some (.long x3), none, some (.int x5)] [] g (k43 x3 x5 g)) (hu2 : isL (some u2) = false) {g : hG} (hF : Frz g) : Tri wJ (e + 1) 148 t148_43 [some (.ref 0), some (.int v1), u2, some (.long v3), none, some (.int v5)] [] g (q_MP_few_43 v1 k55 k43 v3 v5 g) := by
  unfold q_MP_few_43
  refine tr_ldI rfl (tr_ldI rfl (?_))
  refine tr_ifj e148_55 (c_ge _ _) (fun hc19 => ?_) (fun hc19 => ?_)
  · exact hk55 _ _ _ hF
  · refine tr_ldL rfl (tr_ldA rfl (tr_getP (b := 262) (fk_0 hF) (fp_0_18 hF) (tr_ldI rfl (tr_aldJ (fk_262 hF) (fl_262 hF) (fun _ => tr_lbin (v := (v3 + (gJ g 262 v5.toNatClampNeg))) rfl (?_))))))
    refine tr_stL (Nat.le_of_ble_eq_true rfl) (lKill_id hu2) rfl (tr_inc rfl rfl rfl (?_))
    refine tr_gotoE e148_43 (?_)
    exact hk43 _ _ _ hF
theorem th148_43L {e : Nat} (he : 1 ≤ e + 1) {v1 : Int32} {k55 : Int64 → hG → hO Int64} {u2 : Option Value} (hk55 : ∀ (x3 : Int64) (y5 : Option Value) (g : hG), Frz g → Tri wJ (e + 1) 148 t148_55 [some (.ref 0), some (.int v1), u2, some (.long x3), none, y5] [] g (k55 x3 g)) (hu2 : isL (some u2) = false) : ∀ (n : Nat) (v3 : Int64) (v5 : Int32) (g : hG), Frz g → Tri wJ (e + 1) 148 t148_43 [some (.ref 0), some (.int v1), u2, some (.long v3), none, some (.int v5)] [] g (q_MP_few_43L v1 k55 n v3 v5 g)
  | 0 => fun _ _ _ _ => Tri.none_
  | n + 1 => fun _ _ g hF => th148_43 he hk55 (th148_43L he hk55 hu2 n) hu2 hF
def q_MP_few (v1 : Int32) (v2 : Int32) (g : hG) : hO Int64 :=
  if v1 < (1 : Int32) then (some ((-1 : Int64), g)) else (if (20 : Int32) < v1 then (some ((-1 : Int64), g)) else (if v2 < (0 : Int32) then (some ((-1 : Int64), g)) else (if v2 ≤ (99 : Int32) then (q_MP_few_15L v1 (fun g11 => q_MP_few_31L v1 v2 (fun g17 => q_MP_few_43L v1 (fun x20 g22 => some (x20, g22)) FU (0 : Int64) (0 : Int32) g17) FU (0 : Int32) g11) FU (0 : Int32) g) else (some ((-1 : Int64), g)))))
theorem tm148 {d : Nat} {v1 : Int32} {v2 : Int32} (hd : 1 ≤ d) {g : hG} (hF : Frz g) : TM wJ d 148 [.ref 0, .int v1, .int v2] g (q_MP_few v1 v2 g) := by
  obtain ⟨e, rfl⟩ : ∃ e, d = e + 1 := ⟨d - 1, by omega⟩
  have he := hd
  refine TM.ofE e148_0 (lv := [some (.ref 0), some (.int v1), some (.int v2), none, none, none]) rfl ?_
  unfold q_MP_few
  refine tr_ldI rfl (tr_pushI (?_))
  refine tr_ifj e148_11 (c_lt _ _) (fun hc1 => ?_) (fun hc1 => ?_)
  · refine tr_pushL (?_)
    exact tr_retL hF
  · refine tr_ldI rfl (tr_pushI (?_))
    refine tr_ifj e148_11 (c_gt _ _) (fun hc2 => ?_) (fun hc2 => ?_)
    · refine tr_pushL (?_)
      exact tr_retL hF
    · refine tr_ldI rfl (?_)
      refine tr_if0j e148_11 (c_lt _ _) (fun hc3 => ?_) (fun hc3 => ?_)
      · refine tr_pushL (?_)
        exact tr_retL hF
      · refine tr_ldI rfl (tr_pushI (?_))
        refine tr_ifj e148_13 (c_le _ _) (fun hc4 => ?_) (fun hc4 => ?_)
        · refine tr_pushI (tr_stI (Nat.le_of_ble_eq_true rfl) rfl rfl (?_))
          refine th148_15L he (fun y10 g11 hF12 => ?_) rfl rfl FU _ _ hF
          · refine tr_pushI (tr_stI (Nat.le_of_ble_eq_true rfl) rfl rfl (?_))
            refine th148_31L he (fun y16 g17 hF18 => ?_) rfl FU _ _ hF12
            · refine tr_pushL (tr_stL (Nat.le_of_ble_eq_true rfl) rfl rfl (tr_pushI (tr_stI (Nat.le_of_ble_eq_true rfl) rfl rfl (?_))))
              refine th148_43L he (fun x20 y21 g22 hF23 => ?_) rfl FU _ _ _ hF18
              · refine tr_ldL rfl (?_)
                exact tr_retL hF23
        · refine tr_pushL (?_)
          exact tr_retL hF
-- MP_compare
abbrev t150_9 : List hOp := oLdA 0 :: oGetP 11 15 :: oLdA 0 :: oGetP 11 1 :: oLdI 1 :: oInvV 57 6 2 :: oLdA 0 :: oGetP 11 15 :: oLdI 2 :: oInvV 60 6 1 :: oRetI :: []
abbrev t150_7 : List hOp := oPushI (-1) :: oRetI :: t150_9
abbrev t150_0 : List hOp := oLdA 0 :: oLdI 1 :: oInvV 121 11 1 :: oIf0 cEq 7 :: oLdI 2 :: oInvS 159 1 :: oIf0 cNe 9 :: t150_7
theorem e150_0 : (opsOf 150).drop 0 = t150_0 := rfl
theorem e150_7 : (opsOf 150).drop 7 = t150_7 := rfl
theorem e150_9 : (opsOf 150).drop 9 = t150_9 := rfl
def q_MP_compare (v1 : Int32) (v2 : Int32) (g : hG) : hO Int32 :=
  bnd (q_MP_isLawOrNone v1 g) fun r3 g1 => if r3 = (0 : Int32) then (some ((-1 : Int32), g1)) else (bnd (q_MP_isCell v2 g1) fun r7 g5 => if r7 = (0 : Int32) then (some ((-1 : Int32), g5)) else (bnd (q_Slope_face 2 v1 g5) fun _ g9 => bnd (q_Slope_next v2 g9) fun r13 g11 => some (r13, g11)))
theorem tm150 {d : Nat} {v1 : Int32} {v2 : Int32} (hd : 4 ≤ d) {g : hG} (hF : Frz g) : TM wI d 150 [.ref 0, .int v1, .int v2] g (q_MP_compare v1 v2 g) := by
  obtain ⟨e, rfl⟩ : ∃ e, d = e + 1 := ⟨d - 1, by omega⟩
  have he := hd
  refine TM.ofE e150_0 (lv := [some (.ref 0), some (.int v1), some (.int v2)]) rfl ?_
  unfold q_MP_compare
  refine tr_ldA rfl (tr_ldI rfl (?_))
  refine tr_invVI rfl rfl (fk_0 hF) (Nat.le_of_ble_eq_true rfl) (by decide) (Nat.le_of_ble_eq_true rfl) (tm121 hF) (fun r3 g1 _ hF2 => ?_)
  refine tr_if0j e150_7 (c_eq _ _) (fun hc4 => ?_) (fun hc4 => ?_)
  · refine tr_pushI (?_)
    exact tr_retI hF2
  · refine tr_ldI rfl (?_)
    refine tr_invSI rfl rfl (Nat.le_of_ble_eq_true rfl) (Nat.le_of_ble_eq_true rfl) (by decide) (Nat.le_of_ble_eq_true rfl) (tm159 hF2) (fun r7 g5 _ hF6 => ?_)
    refine tr_if0n e150_9 (c_ne _ _) (fun hc8 => ?_) (fun hc8 => ?_)
    · refine tr_ldA rfl (tr_getP (b := 250) (fk_0 hF6) (fp_0_15 hF6) (tr_ldA rfl (tr_getP (b := 2) (fk_0 hF6) (fp_0_1 hF6) (tr_ldI rfl (?_)))))
      refine tr_invVU rfl rfl (fk_250 hF6) (Nat.le_of_ble_eq_true rfl) (by decide) (Nat.le_of_ble_eq_true rfl) (tm57 rfl hF6) (fun _ g9 _ hF10 => ?_)
      refine tr_ldA rfl (tr_getP (b := 250) (fk_0 hF10) (fp_0_15 hF10) (tr_ldI rfl (?_)))
      refine tr_invVI rfl rfl (fk_250 hF10) (Nat.le_of_ble_eq_true rfl) (by decide) (Nat.le_of_ble_eq_true rfl) (tm60 (by omega) hF10) (fun r13 g11 _ hF12 => ?_)
      exact tr_retI hF12
    · refine tr_pushI (?_)
      exact tr_retI hF6
-- MP_draw
abbrev t152_0 : List hOp := oLdI 0 :: oPushI 1103 :: oBin (fun x y => x * y) :: oPushI 12345 :: oBin (fun x y => x + y) :: oPushI 1000003 :: oDvd (fun x y => x - x / y * y) :: oRetI :: []
theorem e152_0 : (opsOf 152).drop 0 = t152_0 := rfl
def q_MP_draw (v0 : Int32) (g : hG) : hO Int32 :=
  some ((irem ((v0 * (1103 : Int32)) + (12345 : Int32)) (1000003 : Int32)), g)
theorem tm152 {d : Nat} {v0 : Int32} {g : hG} (hF : Frz g) : TM wI d 152 [.int v0] g (q_MP_draw v0 g) := by
  refine TM.ofE e152_0 (lv := [some (.int v0)]) rfl ?_
  unfold q_MP_draw
  refine tr_ldI rfl (tr_pushI (tr_bin (v := (v0 * (1103 : Int32))) rfl (tr_pushI (tr_bin (v := ((v0 * (1103 : Int32)) + (12345 : Int32))) rfl (tr_pushI (?_))))))
  refine tr_dvdl (v := (irem ((v0 * (1103 : Int32)) + (12345 : Int32)) (1000003 : Int32))) (by decide) rfl (?_)
  exact tr_retI hF
-- MP_changeDrawn
abbrev t153_34 : List hOp := oRetV :: []
abbrev t153_19 : List hOp := oStI 5 :: oLdA 0 :: oGetP 11 8 :: oLdI 4 :: oLdI 2 :: oLdI 5 :: oInvV 22 2 3 :: oIf0 cNe 34 :: oLdA 0 :: oGetP 11 8 :: oLdI 4 :: oLdI 2 :: oLdI 5 :: oInvV 23 2 3 :: oPop :: t153_34
abbrev t153_18 : List hOp := oLdI 3 :: t153_19
abbrev t153_10 : List hOp := oStI 4 :: oLdI 1 :: oPushI 2 :: oIf cNe 18 :: oLdI 3 :: oPushI 4 :: oDvd (fun x y => x - x / y * y) :: oGoto 19 :: t153_18
abbrev t153_9 : List hOp := oPushI 0 :: t153_10
abbrev t153_4 : List hOp := oLdI 1 :: oPushI 2 :: oIf cNe 9 :: oPushI 2 :: oGoto 10 :: t153_9
abbrev t153_0 : List hOp := oLdI 1 :: oPushI 2 :: oIf cLe 4 :: oRetV :: t153_4
theorem e153_0 : (opsOf 153).drop 0 = t153_0 := rfl
theorem e153_4 : (opsOf 153).drop 4 = t153_4 := rfl
theorem e153_9 : (opsOf 153).drop 9 = t153_9 := rfl
theorem e153_10 : (opsOf 153).drop 10 = t153_10 := rfl
theorem e153_18 : (opsOf 153).drop 18 = t153_18 := rfl
theorem e153_19 : (opsOf 153).drop 19 = t153_19 := rfl
theorem e153_34 : (opsOf 153).drop 34 = t153_34 := rfl
def q_MP_changeDrawn_19 (v2 : Int32) (v4 : Int32) (w0 : Int32) (g : hG) : hO Unit :=
  bnd (q_Mom_refusalOf 230 v4 v2 w0 g) fun r6 g4 => if r6 = (0 : Int32) then (bnd (q_Mom_change 230 v4 v2 w0 g4) fun r10 g8 => some ((), g8)) else (some ((), g4))
theorem th153_19 {e : Nat} (he : 2 ≤ e + 1) {v2 : Int32} {v4 : Int32} {w0 : Int32} {u1 : Option Value} {u3 : Option Value} {u5 : Option Value} (hu3 : isL (some u3) = false) {g : hG} (hF : Frz g) : Tri wU (e + 1) 153 t153_19 [some (.ref 0), u1, some (.int v2), u3, some (.int v4), u5] [.int w0] g (q_MP_changeDrawn_19 v2 v4 w0 g) := by
  unfold q_MP_changeDrawn_19
  refine tr_stI (Nat.le_of_ble_eq_true rfl) rfl rfl (tr_ldA rfl (tr_getP (b := 230) (fk_0 hF) (fp_0_8 hF) (tr_ldI rfl (tr_ldI rfl (tr_ldI rfl (?_))))))
  refine tr_invVI rfl rfl (fk_230 hF) (Nat.le_of_ble_eq_true rfl) (by decide) (Nat.le_of_ble_eq_true rfl) (tm22 (by omega) rfl hF) (fun r6 g4 _ hF5 => ?_)
  refine tr_if0n e153_34 (c_ne _ _) (fun hc7 => ?_) (fun hc7 => ?_)
  · exact tr_retV hF5
  · refine tr_ldA rfl (tr_getP (b := 230) (fk_0 hF5) (fp_0_8 hF5) (tr_ldI rfl (tr_ldI rfl (tr_ldI rfl (?_)))))
    refine tr_invVI rfl rfl (fk_230 hF5) (Nat.le_of_ble_eq_true rfl) (by decide) (Nat.le_of_ble_eq_true rfl) (tm23 (by omega) rfl hF5) (fun r10 g8 _ hF9 => ?_)
    refine tr_pop (?_)
    exact tr_retV hF9
def q_MP_changeDrawn_10 (v1 : Int32) (v2 : Int32) (v3 : Int32) (w0 : Int32) (g : hG) : hO Unit :=
  if v1 = (2 : Int32) then (q_MP_changeDrawn_19 v2 w0 (irem v3 (4 : Int32)) g) else (q_MP_changeDrawn_19 v2 w0 v3 g)
theorem th153_10 {e : Nat} (he : 2 ≤ e + 1) {v1 : Int32} {v2 : Int32} {v3 : Int32} {w0 : Int32} {u4 : Option Value} {u5 : Option Value} (hu4 : isL (some u4) = false) {g : hG} (hF : Frz g) : Tri wU (e + 1) 153 t153_10 [some (.ref 0), some (.int v1), some (.int v2), some (.int v3), u4, u5] [.int w0] g (q_MP_changeDrawn_10 v1 v2 v3 w0 g) := by
  unfold q_MP_changeDrawn_10
  refine tr_stI (Nat.le_of_ble_eq_true rfl) rfl rfl (tr_ldI rfl (tr_pushI (?_)))
  refine tr_ifn e153_18 (c_ne _ _) (fun hc3 => ?_) (fun hc3 => ?_)
  · refine tr_ldI rfl (?_)
    exact th153_19 he rfl hF
  · refine tr_ldI rfl (tr_pushI (tr_dvdl (v := (irem v3 (4 : Int32))) (by decide) rfl (?_)))
    refine tr_gotoE e153_19 (?_)
    exact th153_19 he rfl hF
def q_MP_changeDrawn (v1 : Int32) (v2 : Int32) (v3 : Int32) (g : hG) : hO Unit :=
  if v1 ≤ (2 : Int32) then (q_MP_changeDrawn_10 v1 v2 v3 (if v1 = (2 : Int32) then (2 : Int32) else (0 : Int32)) g) else (some ((), g))
theorem tm153 {d : Nat} {v1 : Int32} {v2 : Int32} {v3 : Int32} (hd : 2 ≤ d) {g : hG} (hF : Frz g) : TM wU d 153 [.ref 0, .int v1, .int v2, .int v3] g (q_MP_changeDrawn v1 v2 v3 g) := by
  obtain ⟨e, rfl⟩ : ∃ e, d = e + 1 := ⟨d - 1, by omega⟩
  have he := hd
  refine TM.ofE e153_0 (lv := [some (.ref 0), some (.int v1), some (.int v2), some (.int v3), none, none]) rfl ?_
  unfold q_MP_changeDrawn
  refine tr_ldI rfl (tr_pushI (?_))
  refine tr_ifj e153_4 (c_le _ _) (fun hc1 => ?_) (fun hc1 => ?_)
  · refine tr_ldI rfl (tr_pushI (?_))
    refine tr_ifcE e153_9 (c_ne _ _) (fun hc11 => ?_) (fun hc11 => ?_)
    · rw [if_neg hc11]
      refine tr_pushI (?_)
      exact th153_10 he rfl hF
    · rw [if_pos (Decidable.not_not.mp hc11)]
      refine tr_pushI (?_)
      refine tr_gotoE e153_10 (?_)
      exact th153_10 he rfl hF
  · exact tr_retV hF
