-- MP_carryOut
abbrev t116_111 : List hOp := oLdI 1 :: oRetI :: []
abbrev t116_109 : List hOp := oInc 3 1 :: oGoto 6 :: t116_111
abbrev t116_107 : List hOp := oInc 4 1 :: oGoto 13 :: t116_109
abbrev t116_97 : List hOp := oInc 1 1 :: oLdA 0 :: oGetP 11 12 :: oGetP 9 3 :: oLdI 3 :: oALdI 13 :: oPushI 3 :: oIf cNe 107 :: oLdI 8 :: oStI 2 :: t116_107
abbrev t116_91 : List hOp := oLdA 0 :: oGetP 11 19 :: oLdI 3 :: oPutI 3 3 :: oPushI (-1) :: oRetI :: t116_97
abbrev t116_88 : List hOp := oStI 8 :: oLdI 8 :: oIf0 cGe 97 :: t116_91
abbrev t116_79 : List hOp := oLdA 0 :: oLdA 0 :: oGetP 11 12 :: oGetP 9 3 :: oLdI 3 :: oALdI 13 :: oLdI 5 :: oLdI 6 :: oInvV 126 11 3 :: t116_88
abbrev t116_74 : List hOp := oStI 7 :: oLdI 7 :: oIf0 cEq 79 :: oPushI (-3) :: oGoto 88 :: t116_79
abbrev t116_73 : List hOp := oPushI 0 :: t116_74
abbrev t116_71 : List hOp := oPushI 1 :: oGoto 74 :: t116_73
abbrev t116_39 : List hOp := oLdA 0 :: oGetP 11 13 :: oLdA 0 :: oGetP 11 12 :: oLdA 0 :: oGetP 11 12 :: oGetP 9 4 :: oLdI 3 :: oALdI 13 :: oLdA 0 :: oGetP 11 14 :: oInvV 10 0 3 :: oStI 5 :: oLdA 0 :: oGetP 11 13 :: oLdA 0 :: oGetP 11 12 :: oLdA 0 :: oGetP 11 12 :: oGetP 9 5 :: oLdI 3 :: oALdI 13 :: oLdA 0 :: oGetP 11 14 :: oInvV 10 0 3 :: oStI 6 :: oLdI 5 :: oPushI (-2000000000) :: oIf cEq 71 :: oLdI 6 :: oPushI (-2000000000) :: oIf cNe 73 :: t116_71
abbrev t116_13 : List hOp := oLdI 4 :: oLdA 0 :: oGetP 11 12 :: oGetP 9 6 :: oLdI 3 :: oALdI 13 :: oIf cGe 109 :: oLdA 0 :: oLdI 1 :: oLdI 2 :: oInvV 117 11 2 :: oLdA 0 :: oGetP 11 13 :: oLdA 0 :: oGetP 11 12 :: oLdA 0 :: oGetP 11 12 :: oGetP 9 7 :: oLdI 3 :: oALdI 13 :: oLdA 0 :: oGetP 11 14 :: oInvV 10 0 3 :: oPushI 1 :: oIf cEq 39 :: oGoto 107 :: t116_39
abbrev t116_6 : List hOp := oLdI 3 :: oLdA 0 :: oGetP 11 12 :: oGetI 9 2 :: oIf cGe 111 :: oPushI 0 :: oStI 4 :: t116_13
abbrev t116_0 : List hOp := oPushI 0 :: oStI 1 :: oPushI (-1) :: oStI 2 :: oPushI 0 :: oStI 3 :: t116_6
theorem e116_0 : (opsOf 116).drop 0 = t116_0 := rfl
theorem e116_6 : (opsOf 116).drop 6 = t116_6 := rfl
theorem e116_13 : (opsOf 116).drop 13 = t116_13 := rfl
theorem e116_39 : (opsOf 116).drop 39 = t116_39 := rfl
theorem e116_71 : (opsOf 116).drop 71 = t116_71 := rfl
theorem e116_73 : (opsOf 116).drop 73 = t116_73 := rfl
theorem e116_74 : (opsOf 116).drop 74 = t116_74 := rfl
theorem e116_79 : (opsOf 116).drop 79 = t116_79 := rfl
theorem e116_88 : (opsOf 116).drop 88 = t116_88 := rfl
theorem e116_97 : (opsOf 116).drop 97 = t116_97 := rfl
theorem e116_107 : (opsOf 116).drop 107 = t116_107 := rfl
theorem e116_109 : (opsOf 116).drop 109 = t116_109 := rfl
theorem e116_111 : (opsOf 116).drop 111 = t116_111 := rfl
def q_MP_carryOut_88 (v1 : Int32) (v2 : Int32) (v3 : Int32) (v4 : Int32) (k13 : Int32 → Int32 → Int32 → hG → hO Int32) (k91 : hG → hO Int32) (w0 : Int32) (g : hG) : hO Int32 :=
  if (0 : Int32) ≤ w0 then (gd v3 12 <| if (gI g 242 v3.toNatClampNeg) = (3 : Int32) then (k13 (v1 + (1 : Int32)) w0 (v4 + (1 : Int32)) g) else (k13 (v1 + (1 : Int32)) v2 (v4 + (1 : Int32)) g)) else (k91 g)
theorem th116_88 {e : Nat} (he : 6 ≤ e + 1) {v1 : Int32} {v2 : Int32} {v3 : Int32} {v4 : Int32} {k13 : Int32 → Int32 → Int32 → hG → hO Int32} {k91 : hG → hO Int32} {w0 : Int32} {u5 : Option Value} {u6 : Option Value} {u7 : Option Value} {u8 : Option Value} (hk13 : ∀ (x1 : Int32) (x2 : Int32) (x4 : Int32) (y5 : Option Value) (y6 : Option Value) (y7 : Option Value) (y8 : Option Value) (_ : isL (some y5) = false) (_ : isL (some y6) = false) (_ : isL (some y7) = false) (g : hG), Frz g → Tri wI (e + 1) 116 t116_13 [some (.ref 0), some (.int x1), some (.int x2), some (.int v3), some (.int x4), y5, y6, y7, y8] [] g (k13 x1 x2 x4 g)) (hk91 : ∀ (y1 : Option Value) (y2 : Option Value) (y4 : Option Value) (y5 : Option Value) (y6 : Option Value) (y7 : Option Value) (y8 : Option Value) (_ : isL (some y1) = false) (_ : isL (some y2) = false) (_ : isL (some y4) = false) (_ : isL (some y5) = false) (_ : isL (some y6) = false) (_ : isL (some y7) = false) (g : hG), Frz g → Tri wI (e + 1) 116 t116_91 [some (.ref 0), y1, y2, some (.int v3), y4, y5, y6, y7, y8] [] g (k91 g)) (hu5 : isL (some u5) = false) (hu6 : isL (some u6) = false) (hu7 : isL (some u7) = false) {g : hG} (hF : Frz g) : Tri wI (e + 1) 116 t116_88 [some (.ref 0), some (.int v1), some (.int v2), some (.int v3), some (.int v4), u5, u6, u7, u8] [.int w0] g (q_MP_carryOut_88 v1 v2 v3 v4 k13 k91 w0 g) := by
  unfold q_MP_carryOut_88
  refine tr_stI (Nat.le_of_ble_eq_true rfl) (lKill_id hu7) rfl (tr_ldI rfl (?_))
  refine tr_if0j e116_97 (c_ge _ _) (fun hc20 => ?_) (fun hc20 => ?_)
  · refine tr_inc rfl rfl rfl (tr_ldA rfl (tr_getP (b := 240) (fk_0 hF) (fp_0_12 hF) (tr_getP (b := 242) (fk_240 hF) (fp_240_3 hF) (tr_ldI rfl (tr_aldI (fk_242 hF) (fl_242 hF) (fun _ => ?_))))))
    refine tr_pushI (?_)
    refine tr_ifn e116_107 (c_ne _ _) (fun hc21 => ?_) (fun hc21 => ?_)
    · refine tr_inc rfl rfl rfl (?_)
      refine tr_gotoE e116_13 (?_)
      exact hk13 _ _ _ _ _ _ _ hu5 hu6 hu7 _ hF
    · refine tr_ldI rfl (tr_stI (Nat.le_of_ble_eq_true rfl) rfl rfl (tr_inc rfl rfl rfl (?_)))
      refine tr_gotoE e116_13 (?_)
      exact hk13 _ _ _ _ _ _ _ hu5 hu6 hu7 _ hF
  · exact hk91 _ _ _ _ _ _ _ rfl rfl rfl hu5 hu6 hu7 _ hF
def q_MP_carryOut_74 (v1 : Int32) (v2 : Int32) (v3 : Int32) (v4 : Int32) (v5 : Int32) (v6 : Int32) (k13 : Int32 → Int32 → Int32 → hG → hO Int32) (k91 : hG → hO Int32) (w0 : Int32) (g : hG) : hO Int32 :=
  if w0 = (0 : Int32) then (gd v3 12 <| bnd (q_MP_attempt (gI g 242 v3.toNatClampNeg) v5 v6 g) fun r19 g17 => q_MP_carryOut_88 v1 v2 v3 v4 k13 k91 r19 g17) else (q_MP_carryOut_88 v1 v2 v3 v4 k13 k91 (-3 : Int32) g)
theorem th116_74 {e : Nat} (he : 6 ≤ e + 1) {v1 : Int32} {v2 : Int32} {v3 : Int32} {v4 : Int32} {v5 : Int32} {v6 : Int32} {k13 : Int32 → Int32 → Int32 → hG → hO Int32} {k91 : hG → hO Int32} {w0 : Int32} {u7 : Option Value} {u8 : Option Value} (hk13 : ∀ (x1 : Int32) (x2 : Int32) (x4 : Int32) (y5 : Option Value) (y6 : Option Value) (y7 : Option Value) (y8 : Option Value) (_ : isL (some y5) = false) (_ : isL (some y6) = false) (_ : isL (some y7) = false) (g : hG), Frz g → Tri wI (e + 1) 116 t116_13 [some (.ref 0), some (.int x1), some (.int x2), some (.int v3), some (.int x4), y5, y6, y7, y8] [] g (k13 x1 x2 x4 g)) (hk91 : ∀ (y1 : Option Value) (y2 : Option Value) (y4 : Option Value) (y5 : Option Value) (y6 : Option Value) (y7 : Option Value) (y8 : Option Value) (_ : isL (some y1) = false) (_ : isL (some y2) = false) (_ : isL (some y4) = false) (_ : isL (some y5) = false) (_ : isL (some y6) = false) (_ : isL (some y7) = false) (g : hG), Frz g → Tri wI (e + 1) 116 t116_91 [some (.ref 0), y1, y2, some (.int v3), y4, y5, y6, y7, y8] [] g (k91 g)) (hu7 : isL (some u7) = false) {g : hG} (hF : Frz g) : Tri wI (e + 1) 116 t116_74 [some (.ref 0), some (.int v1), some (.int v2), some (.int v3), some (.int v4), some (.int v5), some (.int v6), u7, u8] [.int w0] g (q_MP_carryOut_74 v1 v2 v3 v4 v5 v6 k13 k91 w0 g) := by
  unfold q_MP_carryOut_74
  refine tr_stI (Nat.le_of_ble_eq_true rfl) rfl rfl (tr_ldI rfl (?_))
  refine tr_if0j e116_79 (c_eq _ _) (fun hc16 => ?_) (fun hc16 => ?_)
  · refine tr_ldA rfl (tr_ldA rfl (tr_getP (b := 240) (fk_0 hF) (fp_0_12 hF) (tr_getP (b := 242) (fk_240 hF) (fp_240_3 hF) (tr_ldI rfl (tr_aldI (fk_242 hF) (fl_242 hF) (fun _ => ?_))))))
    refine tr_ldI rfl (tr_ldI rfl (?_))
    refine tr_invVI rfl rfl (fk_0 hF) (Nat.le_of_ble_eq_true rfl) (by decide) (Nat.le_of_ble_eq_true rfl) (tm126 (by omega) hF) (fun r19 g17 _ hF18 => ?_)
    exact th116_88 he hk13 hk91 rfl rfl rfl hF18
  · refine tr_pushI (?_)
    refine tr_gotoE e116_88 (?_)
    exact th116_88 he hk13 hk91 rfl rfl rfl hF
def q_MP_carryOut_13 (v3 : Int32) (k109 : Int32 → Int32 → hG → hO Int32) (k13 : Int32 → Int32 → Int32 → hG → hO Int32) (k91 : hG → hO Int32) (v1 : Int32) (v2 : Int32) (v4 : Int32) (g : hG) : hO Int32 :=
  gd v3 12 <| if (gI g 245 v3.toNatClampNeg) ≤ v4 then (k109 v1 v2 g) else (bnd (q_MP_fillOrderFacts v1 v2 g) fun _ g3 => gd v3 12 <| bnd (q_Calc_work 240 (gI g3 246 v3.toNatClampNeg) 249 g3) fun r7 g5 => if r7 = (1 : Int32) then (gd v3 12 <| bnd (q_Calc_work 240 (gI g5 243 v3.toNatClampNeg) 249 g5) fun r11 g9 => gd v3 12 <| bnd (q_Calc_work 240 (gI g9 244 v3.toNatClampNeg) 249 g9) fun r14 g12 => q_MP_carryOut_74 v1 v2 v3 v4 r11 r14 k13 k91 (if r11 = (-2000000000 : Int32) then (1 : Int32) else (if r14 = (-2000000000 : Int32) then (1 : Int32) else (0 : Int32))) g12) else (k13 v1 v2 (v4 + (1 : Int32)) g5))
def q_MP_carryOut_13L (v3 : Int32) (k109 : Int32 → Int32 → hG → hO Int32) (k91 : hG → hO Int32) : Nat → Int32 → Int32 → Int32 → hG → hO Int32
  | 0 => fun _ _ _ _ => none
  | n + 1 => fun v1 v2 v4 g => q_MP_carryOut_13 v3 k109 (q_MP_carryOut_13L v3 k109 k91 n) k91 v1 v2 v4 g
theorem q_MP_carryOut_13L_s (v3 : Int32) (k109 : Int32 → Int32 → hG → hO Int32) (k91 : hG → hO Int32) (n : Nat) (v1 : Int32) (v2 : Int32) (v4 : Int32) (g : hG) : q_MP_carryOut_13L v3 k109 k91 (n + 1) v1 v2 v4 g = q_MP_carryOut_13 v3 k109 (q_MP_carryOut_13L v3 k109 k91 n) k91 v1 v2 v4 g := rfl
theorem th116_13 {e : Nat} (he : 6 ≤ e + 1) {v3 : Int32} {k109 : Int32 → Int32 → hG → hO Int32} {k13 : Int32 → Int32 → Int32 → hG → hO Int32} {k91 : hG → hO Int32} {v1 : Int32} {v2 : Int32} {v4 : Int32} {u5 : Option Value} {u6 : Option Value} {u7 : Option Value} {u8 : Option Value} (hk109 : ∀ (x1 : Int32) (x2 : Int32) (y4 : Option Value) (y5 : Option Value) (y6 : Option Value) (y7 : Option Value) (y8 : Option Value) (_ : isL (some y4) = false) (_ : isL (some y5) = false) (_ : isL (some y6) = false) (_ : isL (some y7) = false) (g : hG), Frz g → Tri wI (e + 1) 116 t116_109 [some (.ref 0), some (.int x1), some (.int x2), some (.int v3), y4, y5, y6, y7, y8] [] g (k109 x1 x2 g)) (hk13 : ∀ (x1 : Int32) (x2 : Int32) (x4 : Int32) (y5 : Option Value) (y6 : Option Value) (y7 : Option Value) (y8 : Option Value) (_ : isL (some y5) = false) (_ : isL (some y6) = false) (_ : isL (some y7) = false) (g : hG), Frz g → Tri wI (e + 1) 116 t116_13 [some (.ref 0), some (.int x1), some (.int x2), some (.int v3), some (.int x4), y5, y6, y7, y8] [] g (k13 x1 x2 x4 g)) (hk91 : ∀ (y1 : Option Value) (y2 : Option Value) (y4 : Option Value) (y5 : Option Value) (y6 : Option Value) (y7 : Option Value) (y8 : Option Value) (_ : isL (some y1) = false) (_ : isL (some y2) = false) (_ : isL (some y4) = false) (_ : isL (some y5) = false) (_ : isL (some y6) = false) (_ : isL (some y7) = false) (g : hG), Frz g → Tri wI (e + 1) 116 t116_91 [some (.ref 0), y1, y2, some (.int v3), y4, y5, y6, y7, y8] [] g (k91 g)) (hu5 : isL (some u5) = false) (hu6 : isL (some u6) = false) (hu7 : isL (some u7) = false) {g : hG} (hF : Frz g) : Tri wI (e + 1) 116 t116_13 [some (.ref 0), some (.int v1), some (.int v2), some (.int v3), some (.int v4), u5, u6, u7, u8] [] g (q_MP_carryOut_13 v3 k109 k13 k91 v1 v2 v4 g) := by
  unfold q_MP_carryOut_13
  refine tr_ldI rfl (tr_ldA rfl (tr_getP (b := 240) (fk_0 hF) (fp_0_12 hF) (tr_getP (b := 245) (fk_240 hF) (fp_240_6 hF) (tr_ldI rfl (tr_aldI (fk_245 hF) (fl_245 hF) (fun _ => ?_))))))
  refine tr_ifj e116_109 (c_ge _ _) (fun hc2 => ?_) (fun hc2 => ?_)
  · exact hk109 _ _ _ _ _ _ _ rfl hu5 hu6 hu7 _ hF
  · refine tr_ldA rfl (tr_ldI rfl (tr_ldI rfl (?_)))
    refine tr_invVU rfl rfl (fk_0 hF) (Nat.le_of_ble_eq_true rfl) (by decide) (Nat.le_of_ble_eq_true rfl) (tm117 (by omega) hF) (fun _ g3 _ hF4 => ?_)
    refine tr_ldA rfl (tr_getP (b := 247) (fk_0 hF4) (fp_0_13 hF4) (tr_ldA rfl (tr_getP (b := 240) (fk_0 hF4) (fp_0_12 hF4) (tr_ldA rfl (tr_getP (b := 240) (fk_0 hF4) (fp_0_12 hF4) (?_))))))
    refine tr_getP (b := 246) (fk_240 hF4) (fp_240_7 hF4) (tr_ldI rfl (tr_aldI (fk_246 hF4) (fl_246 hF4) (fun _ => tr_ldA rfl (tr_getP (b := 249) (fk_0 hF4) (fp_0_14 hF4) (?_)))))
    refine tr_invVI rfl rfl (fk_247 hF4) (Nat.le_of_ble_eq_true rfl) (by decide) (Nat.le_of_ble_eq_true rfl) (tm10 (by omega) rfl rfl hF4) (fun r7 g5 _ hF6 => ?_)
    refine tr_pushI (?_)
    refine tr_ifj e116_39 (c_eq _ _) (fun hc8 => ?_) (fun hc8 => ?_)
    · refine tr_ldA rfl (tr_getP (b := 247) (fk_0 hF6) (fp_0_13 hF6) (tr_ldA rfl (tr_getP (b := 240) (fk_0 hF6) (fp_0_12 hF6) (tr_ldA rfl (tr_getP (b := 240) (fk_0 hF6) (fp_0_12 hF6) (?_))))))
      refine tr_getP (b := 243) (fk_240 hF6) (fp_240_4 hF6) (tr_ldI rfl (tr_aldI (fk_243 hF6) (fl_243 hF6) (fun _ => tr_ldA rfl (tr_getP (b := 249) (fk_0 hF6) (fp_0_14 hF6) (?_)))))
      refine tr_invVI rfl rfl (fk_247 hF6) (Nat.le_of_ble_eq_true rfl) (by decide) (Nat.le_of_ble_eq_true rfl) (tm10 (by omega) rfl rfl hF6) (fun r11 g9 _ hF10 => ?_)
      refine tr_stI (Nat.le_of_ble_eq_true rfl) rfl rfl (tr_ldA rfl (tr_getP (b := 247) (fk_0 hF10) (fp_0_13 hF10) (tr_ldA rfl (tr_getP (b := 240) (fk_0 hF10) (fp_0_12 hF10) (tr_ldA rfl (?_))))))
      refine tr_getP (b := 240) (fk_0 hF10) (fp_0_12 hF10) (tr_getP (b := 244) (fk_240 hF10) (fp_240_5 hF10) (tr_ldI rfl (tr_aldI (fk_244 hF10) (fl_244 hF10) (fun _ => tr_ldA rfl (tr_getP (b := 249) (fk_0 hF10) (fp_0_14 hF10) (?_))))))
      refine tr_invVI rfl rfl (fk_247 hF10) (Nat.le_of_ble_eq_true rfl) (by decide) (Nat.le_of_ble_eq_true rfl) (tm10 (by omega) rfl rfl hF10) (fun r14 g12 _ hF13 => ?_)
      refine tr_stI (Nat.le_of_ble_eq_true rfl) rfl rfl (tr_ldI rfl (tr_pushI (?_)))
      refine tr_ifcE e116_71 (c_eq _ _) (fun hc22 => ?_) (fun hc22 => ?_)
      · rw [if_pos hc22]
        refine tr_pushI (?_)
        refine tr_gotoE e116_74 (?_)
        exact th116_74 he hk13 hk91 hu7 hF13
      · rw [if_neg hc22]
        refine tr_ldI rfl (?_)
        refine tr_pushI (?_)
        refine tr_ifcE e116_73 (c_ne _ _) (fun hc23 => ?_) (fun hc23 => ?_)
        · rw [if_neg hc23]
          refine tr_pushI (?_)
          exact th116_74 he hk13 hk91 hu7 hF13
        · rw [if_pos (Decidable.not_not.mp hc23)]
          refine tr_pushI (?_)
          refine tr_gotoE e116_74 (?_)
          exact th116_74 he hk13 hk91 hu7 hF13
    · refine tr_gotoE e116_107 (?_)
      refine tr_inc rfl rfl rfl (?_)
      refine tr_gotoE e116_13 (?_)
      exact hk13 _ _ _ _ _ _ _ hu5 hu6 hu7 _ hF6
theorem th116_13L {e : Nat} (he : 6 ≤ e + 1) {v3 : Int32} {k109 : Int32 → Int32 → hG → hO Int32} {k91 : hG → hO Int32} (hk109 : ∀ (x1 : Int32) (x2 : Int32) (y4 : Option Value) (y5 : Option Value) (y6 : Option Value) (y7 : Option Value) (y8 : Option Value) (_ : isL (some y4) = false) (_ : isL (some y5) = false) (_ : isL (some y6) = false) (_ : isL (some y7) = false) (g : hG), Frz g → Tri wI (e + 1) 116 t116_109 [some (.ref 0), some (.int x1), some (.int x2), some (.int v3), y4, y5, y6, y7, y8] [] g (k109 x1 x2 g)) (hk91 : ∀ (y1 : Option Value) (y2 : Option Value) (y4 : Option Value) (y5 : Option Value) (y6 : Option Value) (y7 : Option Value) (y8 : Option Value) (_ : isL (some y1) = false) (_ : isL (some y2) = false) (_ : isL (some y4) = false) (_ : isL (some y5) = false) (_ : isL (some y6) = false) (_ : isL (some y7) = false) (g : hG), Frz g → Tri wI (e + 1) 116 t116_91 [some (.ref 0), y1, y2, some (.int v3), y4, y5, y6, y7, y8] [] g (k91 g)) : ∀ (n : Nat) (v1 : Int32) (v2 : Int32) (v4 : Int32) (u5 : Option Value) (u6 : Option Value) (u7 : Option Value) (u8 : Option Value) (_ : isL (some u5) = false) (_ : isL (some u6) = false) (_ : isL (some u7) = false) (g : hG), Frz g → Tri wI (e + 1) 116 t116_13 [some (.ref 0), some (.int v1), some (.int v2), some (.int v3), some (.int v4), u5, u6, u7, u8] [] g (q_MP_carryOut_13L v3 k109 k91 n v1 v2 v4 g)
  | 0 => fun _ _ _ _ _ _ _ _ _ _ _ _ => Tri.none_
  | n + 1 => fun _ _ _ _ _ _ _ z5 z6 z7 g hF => th116_13 he hk109 (th116_13L he hk109 hk91 n) hk91 z5 z6 z7 hF
def q_MP_carryOut_6 (k111 : Int32 → hG → hO Int32) (k6 : Int32 → Int32 → Int32 → hG → hO Int32) (k91 : Int32 → hG → hO Int32) (v1 : Int32) (v2 : Int32) (v3 : Int32) (g : hG) : hO Int32 :=
  if (gI g 240 2) ≤ v3 then (k111 v1 g) else (q_MP_carryOut_13L v3 (fun x24 x25 g31 => k6 x24 x25 (v3 + (1 : Int32)) g31)
    (fun g40 => k91 v3 g40) FU v1 v2 (0 : Int32) g)
def q_MP_carryOut_6L (k111 : Int32 → hG → hO Int32) (k91 : Int32 → hG → hO Int32) : Nat → Int32 → Int32 → Int32 → hG → hO Int32
  | 0 => fun _ _ _ _ => none
  | n + 1 => fun v1 v2 v3 g => q_MP_carryOut_6 k111 (q_MP_carryOut_6L k111 k91 n) k91 v1 v2 v3 g
theorem q_MP_carryOut_6L_s (k111 : Int32 → hG → hO Int32) (k91 : Int32 → hG → hO Int32) (n : Nat) (v1 : Int32) (v2 : Int32) (v3 : Int32) (g : hG) : q_MP_carryOut_6L k111 k91 (n + 1) v1 v2 v3 g = q_MP_carryOut_6 k111 (q_MP_carryOut_6L k111 k91 n) k91 v1 v2 v3 g := rfl
theorem th116_6 {e : Nat} (he : 6 ≤ e + 1) {k111 : Int32 → hG → hO Int32} {k6 : Int32 → Int32 → Int32 → hG → hO Int32} {k91 : Int32 → hG → hO Int32} {v1 : Int32} {v2 : Int32} {v3 : Int32} {u4 : Option Value} {u5 : Option Value} {u6 : Option Value} {u7 : Option Value} {u8 : Option Value} (hk111 : ∀ (x1 : Int32) (y2 : Option Value) (y3 : Option Value) (y4 : Option Value) (y5 : Option Value) (y6 : Option Value) (y7 : Option Value) (y8 : Option Value) (_ : isL (some y2) = false) (_ : isL (some y3) = false) (_ : isL (some y4) = false) (_ : isL (some y5) = false) (_ : isL (some y6) = false) (_ : isL (some y7) = false) (g : hG), Frz g → Tri wI (e + 1) 116 t116_111 [some (.ref 0), some (.int x1), y2, y3, y4, y5, y6, y7, y8] [] g (k111 x1 g)) (hk6 : ∀ (x1 : Int32) (x2 : Int32) (x3 : Int32) (y4 : Option Value) (y5 : Option Value) (y6 : Option Value) (y7 : Option Value) (y8 : Option Value) (_ : isL (some y4) = false) (_ : isL (some y5) = false) (_ : isL (some y6) = false) (_ : isL (some y7) = false) (g : hG), Frz g → Tri wI (e + 1) 116 t116_6 [some (.ref 0), some (.int x1), some (.int x2), some (.int x3), y4, y5, y6, y7, y8] [] g (k6 x1 x2 x3 g)) (hk91 : ∀ (x3 : Int32) (y1 : Option Value) (y2 : Option Value) (y4 : Option Value) (y5 : Option Value) (y6 : Option Value) (y7 : Option Value) (y8 : Option Value) (_ : isL (some y1) = false) (_ : isL (some y2) = false) (_ : isL (some y4) = false) (_ : isL (some y5) = false) (_ : isL (some y6) = false) (_ : isL (some y7) = false) (g : hG), Frz g → Tri wI (e + 1) 116 t116_91 [some (.ref 0), y1, y2, some (.int x3), y4, y5, y6, y7, y8] [] g (k91 x3 g)) (hu4 : isL (some u4) = false) (hu5 : isL (some u5) = false) (hu6 : isL (some u6) = false) (hu7 : isL (some u7) = false) {g : hG} (hF : Frz g) : Tri wI (e + 1) 116 t116_6 [some (.ref 0), some (.int v1), some (.int v2), some (.int v3), u4, u5, u6, u7, u8] [] g (q_MP_carryOut_6 k111 k6 k91 v1 v2 v3 g) := by
  unfold q_MP_carryOut_6
  refine tr_ldI rfl (tr_ldA rfl (tr_getP (b := 240) (fk_0 hF) (fp_0_12 hF) (tr_getI (fk_240 hF) (?_))))
  refine tr_ifj e116_111 (c_ge _ _) (fun hc1 => ?_) (fun hc1 => ?_)
  · exact hk111 _ _ _ _ _ _ _ _ rfl rfl hu4 hu5 hu6 hu7 _ hF
  · refine tr_pushI (tr_stI (Nat.le_of_ble_eq_true rfl) rfl rfl (?_))
    refine th116_13L he (fun x24 x25 y26 y27 y28 y29 y30 zy26 zy27 zy28 zy29 g31 hF32 => ?_) (fun y33 y34 y35 y36 y37 y38 y39 zy33 zy34 zy35 zy36 zy37 zy38 g40 hF41 => ?_) FU _ _ _ _ _ _ _ hu5 hu6 hu7 _ hF
    · refine tr_inc rfl rfl rfl (?_)
      refine tr_gotoE e116_6 (?_)
      exact hk6 _ _ _ _ _ _ _ _ zy26 zy27 zy28 zy29 _ hF32
    · exact hk91 _ _ _ _ _ _ _ _ zy33 zy34 zy35 zy36 zy37 zy38 _ hF41
theorem th116_6L {e : Nat} (he : 6 ≤ e + 1) {k111 : Int32 → hG → hO Int32} {k91 : Int32 → hG → hO Int32} (hk111 : ∀ (x1 : Int32) (y2 : Option Value) (y3 : Option Value) (y4 : Option Value) (y5 : Option Value) (y6 : Option Value) (y7 : Option Value) (y8 : Option Value) (_ : isL (some y2) = false) (_ : isL (some y3) = false) (_ : isL (some y4) = false) (_ : isL (some y5) = false) (_ : isL (some y6) = false) (_ : isL (some y7) = false) (g : hG), Frz g → Tri wI (e + 1) 116 t116_111 [some (.ref 0), some (.int x1), y2, y3, y4, y5, y6, y7, y8] [] g (k111 x1 g)) (hk91 : ∀ (x3 : Int32) (y1 : Option Value) (y2 : Option Value) (y4 : Option Value) (y5 : Option Value) (y6 : Option Value) (y7 : Option Value) (y8 : Option Value) (_ : isL (some y1) = false) (_ : isL (some y2) = false) (_ : isL (some y4) = false) (_ : isL (some y5) = false) (_ : isL (some y6) = false) (_ : isL (some y7) = false) (g : hG), Frz g → Tri wI (e + 1) 116 t116_91 [some (.ref 0), y1, y2, some (.int x3), y4, y5, y6, y7, y8] [] g (k91 x3 g)) : ∀ (n : Nat) (v1 : Int32) (v2 : Int32) (v3 : Int32) (u4 : Option Value) (u5 : Option Value) (u6 : Option Value) (u7 : Option Value) (u8 : Option Value) (_ : isL (some u4) = false) (_ : isL (some u5) = false) (_ : isL (some u6) = false) (_ : isL (some u7) = false) (g : hG), Frz g → Tri wI (e + 1) 116 t116_6 [some (.ref 0), some (.int v1), some (.int v2), some (.int v3), u4, u5, u6, u7, u8] [] g (q_MP_carryOut_6L k111 k91 n v1 v2 v3 g)
  | 0 => fun _ _ _ _ _ _ _ _ _ _ _ _ _ _ => Tri.none_
  | n + 1 => fun _ _ _ _ _ _ _ _ z4 z5 z6 z7 g hF => th116_6 he hk111 (th116_6L he hk111 hk91 n) hk91 z4 z5 z6 z7 hF
def q_MP_carryOut (g : hG) : hO Int32 :=
  q_MP_carryOut_6L (fun x42 g50 => some (x42, g50))
    (fun x52 g60 => wr (sI g60 263 3 x52) fun g62 => some ((-1 : Int32), g62)) FU (0 : Int32) (-1 : Int32) (0 : Int32) g
theorem tm116 {d : Nat} (hd : 6 ≤ d) {g : hG} (hF : Frz g) : TM wI d 116 [.ref 0] g (q_MP_carryOut g) := by
  obtain ⟨e, rfl⟩ : ∃ e, d = e + 1 := ⟨d - 1, by omega⟩
  have he := hd
  refine TM.ofE e116_0 (lv := [some (.ref 0), none, none, none, none, none, none, none, none]) rfl ?_
  unfold q_MP_carryOut
  refine tr_pushI (tr_stI (Nat.le_of_ble_eq_true rfl) rfl rfl (tr_pushI (tr_stI (Nat.le_of_ble_eq_true rfl) rfl rfl (tr_pushI (tr_stI (Nat.le_of_ble_eq_true rfl) rfl rfl (?_))))))
  refine th116_6L he (fun x42 y43 y44 y45 y46 y47 y48 y49 zy43 zy44 zy45 zy46 zy47 zy48 g50 hF51 => ?_) (fun x52 y53 y54 y55 y56 y57 y58 y59 zy53 zy54 zy55 zy56 zy57 zy58 g60 hF61 => ?_) FU _ _ _ _ _ _ _ _ rfl rfl rfl rfl _ hF
  · refine tr_ldI rfl (?_)
    exact tr_retI hF51
  · refine tr_ldA rfl (tr_getP (b := 263) (fk_0 hF61) (fp_0_19 hF61) (tr_ldI rfl (tr_putI hF61 (fk_263 hF61) (fun g62 _ hF63 => tr_pushI (?_)))))
    exact tr_retI hF63
-- MP_orders
abbrev t115_58 : List hOp := oLdA 0 :: oGetP 11 19 :: oLdI 1 :: oInvV 26 3 1 :: oRetI :: []
abbrev t115_27 : List hOp := oLdA 0 :: oGetP 11 6 :: oLdA 0 :: oGetP 11 1 :: oInvV 17 2 1 :: oLdA 0 :: oGetP 11 5 :: oLdA 0 :: oGetP 11 4 :: oInvV 29 4 1 :: oLdA 0 :: oInvV 116 11 0 :: oStI 1 :: oLdI 1 :: oPushI (-1) :: oIf cNe 58 :: oLdA 0 :: oGetP 11 1 :: oLdA 0 :: oGetP 11 6 :: oInvV 17 2 1 :: oLdA 0 :: oGetP 11 4 :: oLdA 0 :: oGetP 11 5 :: oInvV 29 4 1 :: oLdA 0 :: oGetP 11 19 :: oPushI (-3) :: oInvV 25 3 1 :: oRetI :: t115_58
abbrev t115_0 : List hOp := oLdA 0 :: oGetP 11 19 :: oLdA 0 :: oGetP 11 11 :: oLdA 0 :: oGetP 11 12 :: oPushI 1 :: oInvV 34 5 2 :: oPutI 3 2 :: oLdA 0 :: oGetP 11 19 :: oPushI (-1) :: oPutI 3 3 :: oLdA 0 :: oGetP 11 10 :: oPushI 0 :: oPutI 8 1 :: oLdA 0 :: oGetP 11 19 :: oGetI 3 2 :: oPushI (-1) :: oIf cEq 27 :: oLdA 0 :: oGetP 11 19 :: oPushI (-6) :: oInvV 25 3 1 :: oRetI :: t115_27
theorem e115_0 : (opsOf 115).drop 0 = t115_0 := rfl
theorem e115_27 : (opsOf 115).drop 27 = t115_27 := rfl
theorem e115_58 : (opsOf 115).drop 58 = t115_58 := rfl
def q_MP_orders (g : hG) : hO Int32 :=
  bnd (q_Rd_read 240 (1 : Int32) g) fun r3 g1 => wr (sI g1 263 2 r3) fun g4 => wr (sI g4 263 3 (-1 : Int32)) fun g6 => wr (sI g6 235 1 (0 : Int32)) fun g8 => if (gI g8 263 2) = (-1 : Int32) then (bnd (q_Mom_copy 220 2 g8) fun _ g11 => bnd (q_Past_copy 137 54 g11) fun _ g13 => bnd (q_MP_carryOut g13) fun r17 g15 => if r17 = (-1 : Int32) then (bnd (q_Mom_copy 2 220 g15) fun _ g22 => bnd (q_Past_copy 54 137 g22) fun _ g24 => bnd (q_Notes_refuse (-3 : Int32) g24) fun r28 g26 => some (r28, g26)) else (bnd (q_Notes_grant r17 g15) fun r21 g19 => some (r21, g19))) else (bnd (q_Notes_refuse (-6 : Int32) g8) fun r31 g29 => some (r31, g29))
theorem tm115 {d : Nat} (hd : 113 ≤ d) {g : hG} (hF : Frz g) : TM wI d 115 [.ref 0] g (q_MP_orders g) := by
  obtain ⟨e, rfl⟩ : ∃ e, d = e + 1 := ⟨d - 1, by omega⟩
  have he := hd
  refine TM.ofE e115_0 (lv := [some (.ref 0), none]) rfl ?_
  unfold q_MP_orders
  refine tr_ldA rfl (tr_getP (b := 263) (fk_0 hF) (fp_0_19 hF) (tr_ldA rfl (tr_getP (b := 239) (fk_0 hF) (fp_0_11 hF) (tr_ldA rfl (tr_getP (b := 240) (fk_0 hF) (fp_0_12 hF) (?_))))))
  refine tr_pushI (?_)
  refine tr_invVI rfl rfl (fk_239 hF) (Nat.le_of_ble_eq_true rfl) (by decide) (Nat.le_of_ble_eq_true rfl) (tm34 (by omega) rfl hF) (fun r3 g1 _ hF2 => ?_)
  refine tr_putI hF2 (fk_263 hF2) (fun g4 _ hF5 => tr_ldA rfl (tr_getP (b := 263) (fk_0 hF5) (fp_0_19 hF5) (tr_pushI (tr_putI hF5 (fk_263 hF5) (fun g6 _ hF7 => tr_ldA rfl (?_))))))
  refine tr_getP (b := 235) (fk_0 hF7) (fp_0_10 hF7) (tr_pushI (tr_putI hF7 (fk_235 hF7) (fun g8 _ hF9 => tr_ldA rfl (tr_getP (b := 263) (fk_0 hF9) (fp_0_19 hF9) (tr_getI (fk_263 hF9) (?_))))))
  refine tr_pushI (?_)
  refine tr_ifj e115_27 (c_eq _ _) (fun hc10 => ?_) (fun hc10 => ?_)
  · refine tr_ldA rfl (tr_getP (b := 220) (fk_0 hF9) (fp_0_6 hF9) (tr_ldA rfl (tr_getP (b := 2) (fk_0 hF9) (fp_0_1 hF9) (?_))))
    refine tr_invVU rfl rfl (fk_220 hF9) (Nat.le_of_ble_eq_true rfl) (by decide) (Nat.le_of_ble_eq_true rfl) (tm17 rfl rfl hF9) (fun _ g11 _ hF12 => ?_)
    refine tr_ldA rfl (tr_getP (b := 137) (fk_0 hF12) (fp_0_5 hF12) (tr_ldA rfl (tr_getP (b := 54) (fk_0 hF12) (fp_0_4 hF12) (?_))))
    refine tr_invVU rfl rfl (fk_137 hF12) (Nat.le_of_ble_eq_true rfl) (by decide) (Nat.le_of_ble_eq_true rfl) (tm29 (by omega) rfl rfl hF12) (fun _ g13 _ hF14 => ?_)
    refine tr_ldA rfl (?_)
    refine tr_invVI rfl rfl (fk_0 hF14) (Nat.le_of_ble_eq_true rfl) (by decide) (Nat.le_of_ble_eq_true rfl) (tm116 (by omega) hF14) (fun r17 g15 _ hF16 => ?_)
    refine tr_stI (Nat.le_of_ble_eq_true rfl) rfl rfl (tr_ldI rfl (tr_pushI (?_)))
    refine tr_ifn e115_58 (c_ne _ _) (fun hc18 => ?_) (fun hc18 => ?_)
    · refine tr_ldA rfl (tr_getP (b := 263) (fk_0 hF16) (fp_0_19 hF16) (tr_ldI rfl (?_)))
      refine tr_invVI rfl rfl (fk_263 hF16) (Nat.le_of_ble_eq_true rfl) (by decide) (Nat.le_of_ble_eq_true rfl) (tm26 hF16) (fun r21 g19 _ hF20 => ?_)
      exact tr_retI hF20
    · refine tr_ldA rfl (tr_getP (b := 2) (fk_0 hF16) (fp_0_1 hF16) (tr_ldA rfl (tr_getP (b := 220) (fk_0 hF16) (fp_0_6 hF16) (?_))))
      refine tr_invVU rfl rfl (fk_2 hF16) (Nat.le_of_ble_eq_true rfl) (by decide) (Nat.le_of_ble_eq_true rfl) (tm17 rfl rfl hF16) (fun _ g22 _ hF23 => ?_)
      refine tr_ldA rfl (tr_getP (b := 54) (fk_0 hF23) (fp_0_4 hF23) (tr_ldA rfl (tr_getP (b := 137) (fk_0 hF23) (fp_0_5 hF23) (?_))))
      refine tr_invVU rfl rfl (fk_54 hF23) (Nat.le_of_ble_eq_true rfl) (by decide) (Nat.le_of_ble_eq_true rfl) (tm29 (by omega) rfl rfl hF23) (fun _ g24 _ hF25 => ?_)
      refine tr_ldA rfl (tr_getP (b := 263) (fk_0 hF25) (fp_0_19 hF25) (tr_pushI (?_)))
      refine tr_invVI rfl rfl (fk_263 hF25) (Nat.le_of_ble_eq_true rfl) (by decide) (Nat.le_of_ble_eq_true rfl) (tm25 hF25) (fun r28 g26 _ hF27 => ?_)
      exact tr_retI hF27
  · refine tr_ldA rfl (tr_getP (b := 263) (fk_0 hF9) (fp_0_19 hF9) (tr_pushI (?_)))
    refine tr_invVI rfl rfl (fk_263 hF9) (Nat.le_of_ble_eq_true rfl) (by decide) (Nat.le_of_ble_eq_true rfl) (tm25 hF9) (fun r31 g29 _ hF30 => ?_)
    exact tr_retI hF30
-- MP_fault
abbrev t118_0 : List hOp := oLdA 0 :: oGetP 11 19 :: oGetI 3 2 :: oRetI :: []
theorem e118_0 : (opsOf 118).drop 0 = t118_0 := rfl
def q_MP_fault (g : hG) : hO Int32 :=
  some ((gI g 263 2), g)
theorem tm118 {d : Nat} {g : hG} (hF : Frz g) : TM wI d 118 [.ref 0] g (q_MP_fault g) := by
  refine TM.ofE e118_0 (lv := [some (.ref 0)]) rfl ?_
  unfold q_MP_fault
  refine tr_ldA rfl (tr_getP (b := 263) (fk_0 hF) (fp_0_19 hF) (tr_getI (fk_263 hF) (?_)))
  exact tr_retI hF
-- MP_stopped
abbrev t119_0 : List hOp := oLdA 0 :: oGetP 11 19 :: oGetI 3 3 :: oRetI :: []
theorem e119_0 : (opsOf 119).drop 0 = t119_0 := rfl
def q_MP_stopped (g : hG) : hO Int32 :=
  some ((gI g 263 3), g)
theorem tm119 {d : Nat} {g : hG} (hF : Frz g) : TM wI d 119 [.ref 0] g (q_MP_stopped g) := by
  refine TM.ofE e119_0 (lv := [some (.ref 0)]) rfl ?_
  unfold q_MP_stopped
  refine tr_ldA rfl (tr_getP (b := 263) (fk_0 hF) (fp_0_19 hF) (tr_getI (fk_263 hF) (?_)))
  exact tr_retI hF
-- MP_isLawOrNone
abbrev t121_11 : List hOp := oRetZ :: []
abbrev t121_10 : List hOp := oPushI 0 :: t121_11
abbrev t121_0 : List hOp := oLdI 1 :: oPushI (-1) :: oIf cLt 10 :: oLdI 1 :: oLdA 0 :: oGetP 11 0 :: oGetI 1 8 :: oIf cGe 10 :: oPushI 1 :: oGoto 11 :: t121_10
theorem e121_0 : (opsOf 121).drop 0 = t121_0 := rfl
theorem e121_10 : (opsOf 121).drop 10 = t121_10 := rfl
theorem e121_11 : (opsOf 121).drop 11 = t121_11 := rfl
def q_MP_isLawOrNone (v1 : Int32) (g : hG) : hO Int32 :=
  if v1 < (-1 : Int32) then (some ((0 : Int32), g)) else (if (gI g 1 8) ≤ v1 then (some ((0 : Int32), g)) else (some ((1 : Int32), g)))
theorem tm121 {d : Nat} {v1 : Int32} {g : hG} (hF : Frz g) : TM wI d 121 [.ref 0, .int v1] g (q_MP_isLawOrNone v1 g) := by
  refine TM.ofE e121_0 (lv := [some (.ref 0), some (.int v1)]) rfl ?_
  unfold q_MP_isLawOrNone
  refine tr_ldI rfl (tr_pushI (?_))
  refine tr_ifj e121_10 (c_lt _ _) (fun hc1 => ?_) (fun hc1 => ?_)
  · refine tr_pushI (?_)
    exact tr_retZl (Or.inl rfl) hF
  · refine tr_ldI rfl (tr_ldA rfl (tr_getP (b := 1) (fk_0 hF) (fp_0_0 hF) (tr_getI (fk_1 hF) (?_))))
    refine tr_ifj e121_10 (c_ge _ _) (fun hc2 => ?_) (fun hc2 => ?_)
    · refine tr_pushI (?_)
      exact tr_retZl (Or.inl rfl) hF
    · refine tr_pushI (?_)
      refine tr_gotoE e121_11 (?_)
      exact tr_retZl (Or.inr rfl) hF
-- MP_force
abbrev t120_9 : List hOp := oLdA 0 :: oGetP 11 0 :: oGetI 1 9 :: oStI 2 :: oLdA 0 :: oGetP 11 0 :: oLdI 1 :: oPutI 1 9 :: oLdA 0 :: oGetP 11 19 :: oLdI 2 :: oInvV 26 3 1 :: oRetI :: []
abbrev t120_0 : List hOp := oLdA 0 :: oLdI 1 :: oInvV 121 11 1 :: oIf0 cNe 9 :: oLdA 0 :: oGetP 11 19 :: oPushI (-2) :: oInvV 25 3 1 :: oRetI :: t120_9
theorem e120_0 : (opsOf 120).drop 0 = t120_0 := rfl
theorem e120_9 : (opsOf 120).drop 9 = t120_9 := rfl
def q_MP_force (v1 : Int32) (g : hG) : hO Int32 :=
  bnd (q_MP_isLawOrNone v1 g) fun r3 g1 => if r3 = (0 : Int32) then (bnd (q_Notes_refuse (-2 : Int32) g1) fun r12 g10 => some (r12, g10)) else (wr (sI g1 1 9 v1) fun g5 => bnd (q_Notes_grant (gI g1 1 9) g5) fun r9 g7 => some (r9, g7))
theorem tm120 {d : Nat} {v1 : Int32} (hd : 1 ≤ d) {g : hG} (hF : Frz g) : TM wI d 120 [.ref 0, .int v1] g (q_MP_force v1 g) := by
  obtain ⟨e, rfl⟩ : ∃ e, d = e + 1 := ⟨d - 1, by omega⟩
  have he := hd
  refine TM.ofE e120_0 (lv := [some (.ref 0), some (.int v1), none]) rfl ?_
  unfold q_MP_force
  refine tr_ldA rfl (tr_ldI rfl (?_))
  refine tr_invVI rfl rfl (fk_0 hF) (Nat.le_of_ble_eq_true rfl) (by decide) (Nat.le_of_ble_eq_true rfl) (tm121 hF) (fun r3 g1 _ hF2 => ?_)
  refine tr_if0n e120_9 (c_ne _ _) (fun hc4 => ?_) (fun hc4 => ?_)
  · refine tr_ldA rfl (tr_getP (b := 1) (fk_0 hF2) (fp_0_0 hF2) (tr_getI (fk_1 hF2) (tr_stI (Nat.le_of_ble_eq_true rfl) rfl rfl (tr_ldA rfl (tr_getP (b := 1) (fk_0 hF2) (fp_0_0 hF2) (?_))))))
    refine tr_ldI rfl (tr_putI hF2 (fk_1 hF2) (fun g5 _ hF6 => tr_ldA rfl (tr_getP (b := 263) (fk_0 hF6) (fp_0_19 hF6) (tr_ldI rfl (?_)))))
    refine tr_invVI rfl rfl (fk_263 hF6) (Nat.le_of_ble_eq_true rfl) (by decide) (Nat.le_of_ble_eq_true rfl) (tm26 hF6) (fun r9 g7 _ hF8 => ?_)
    exact tr_retI hF8
  · refine tr_ldA rfl (tr_getP (b := 263) (fk_0 hF2) (fp_0_19 hF2) (tr_pushI (?_)))
    refine tr_invVI rfl rfl (fk_263 hF2) (Nat.le_of_ble_eq_true rfl) (by decide) (Nat.le_of_ble_eq_true rfl) (tm25 hF2) (fun r12 g10 _ hF11 => ?_)
    exact tr_retI hF11
-- Notes_settle
abbrev t27_9 : List hOp := oRetI :: []
abbrev t27_6 : List hOp := oLdA 0 :: oLdI 1 :: oInvV 26 3 1 :: t27_9
abbrev t27_0 : List hOp := oLdI 1 :: oIf0 cGe 6 :: oLdA 0 :: oLdI 1 :: oInvV 25 3 1 :: oGoto 9 :: t27_6
theorem e27_0 : (opsOf 27).drop 0 = t27_0 := rfl
theorem e27_6 : (opsOf 27).drop 6 = t27_6 := rfl
theorem e27_9 : (opsOf 27).drop 9 = t27_9 := rfl
def q_Notes_settle (v1 : Int32) (g : hG) : hO Int32 :=
  if (0 : Int32) ≤ v1 then (bnd (q_Notes_grant v1 g) fun r4 g2 => some (r4, g2)) else (bnd (q_Notes_refuse v1 g) fun r7 g5 => some (r7, g5))
theorem tm27 {d : Nat} {v1 : Int32} (hd : 1 ≤ d) {g : hG} (hF : Frz g) : TM wI d 27 [.ref 263, .int v1] g (q_Notes_settle v1 g) := by
  obtain ⟨e, rfl⟩ : ∃ e, d = e + 1 := ⟨d - 1, by omega⟩
  have he := hd
  refine TM.ofE e27_0 (lv := [some (.ref 263), some (.int v1)]) rfl ?_
  unfold q_Notes_settle
  refine tr_ldI rfl (?_)
  refine tr_if0j e27_6 (c_ge _ _) (fun hc1 => ?_) (fun hc1 => ?_)
  · refine tr_ldA rfl (tr_ldI rfl (?_))
    refine tr_invVI rfl rfl (fk_263 hF) (Nat.le_of_ble_eq_true rfl) (by decide) (Nat.le_of_ble_eq_true rfl) (tm26 hF) (fun r4 g2 _ hF3 => ?_)
    exact tr_retI hF3
  · refine tr_ldA rfl (tr_ldI rfl (?_))
    refine tr_invVI rfl rfl (fk_263 hF) (Nat.le_of_ble_eq_true rfl) (by decide) (Nat.le_of_ble_eq_true rfl) (tm25 hF) (fun r7 g5 _ hF6 => ?_)
    refine tr_gotoE e27_9 (?_)
    exact tr_retI hF6
-- MP_spill
abbrev t122_0 : List hOp := oLdA 0 :: oGetP 11 19 :: oLdA 0 :: oPushI 0 :: oLdI 1 :: oLdI 2 :: oInvV 126 11 3 :: oInvV 27 3 1 :: oRetI :: []
theorem e122_0 : (opsOf 122).drop 0 = t122_0 := rfl
def q_MP_spill (v1 : Int32) (v2 : Int32) (g : hG) : hO Int32 :=
  bnd (q_MP_attempt (0 : Int32) v1 v2 g) fun r3 g1 => bnd (q_Notes_settle r3 g1) fun r6 g4 => some (r6, g4)
theorem tm122 {d : Nat} {v1 : Int32} {v2 : Int32} (hd : 6 ≤ d) {g : hG} (hF : Frz g) : TM wI d 122 [.ref 0, .int v1, .int v2] g (q_MP_spill v1 v2 g) := by
  obtain ⟨e, rfl⟩ : ∃ e, d = e + 1 := ⟨d - 1, by omega⟩
  have he := hd
  refine TM.ofE e122_0 (lv := [some (.ref 0), some (.int v1), some (.int v2)]) rfl ?_
  unfold q_MP_spill
  refine tr_ldA rfl (tr_getP (b := 263) (fk_0 hF) (fp_0_19 hF) (tr_ldA rfl (tr_pushI (tr_ldI rfl (tr_ldI rfl (?_))))))
  refine tr_invVI rfl rfl (fk_0 hF) (Nat.le_of_ble_eq_true rfl) (by decide) (Nat.le_of_ble_eq_true rfl) (tm126 (by omega) hF) (fun r3 g1 _ hF2 => ?_)
  refine tr_invVI rfl rfl (fk_263 hF2) (Nat.le_of_ble_eq_true rfl) (by decide) (Nat.le_of_ble_eq_true rfl) (tm27 (by omega) hF2) (fun r6 g4 _ hF5 => ?_)
  exact tr_retI hF5
-- MP_raise
abbrev t123_0 : List hOp := oLdA 0 :: oGetP 11 19 :: oLdA 0 :: oPushI 1 :: oLdI 1 :: oLdI 2 :: oInvV 126 11 3 :: oInvV 27 3 1 :: oRetI :: []
theorem e123_0 : (opsOf 123).drop 0 = t123_0 := rfl
def q_MP_raise (v1 : Int32) (v2 : Int32) (g : hG) : hO Int32 :=
  bnd (q_MP_attempt (1 : Int32) v1 v2 g) fun r3 g1 => bnd (q_Notes_settle r3 g1) fun r6 g4 => some (r6, g4)
theorem tm123 {d : Nat} {v1 : Int32} {v2 : Int32} (hd : 6 ≤ d) {g : hG} (hF : Frz g) : TM wI d 123 [.ref 0, .int v1, .int v2] g (q_MP_raise v1 v2 g) := by
  obtain ⟨e, rfl⟩ : ∃ e, d = e + 1 := ⟨d - 1, by omega⟩
  have he := hd
  refine TM.ofE e123_0 (lv := [some (.ref 0), some (.int v1), some (.int v2)]) rfl ?_
  unfold q_MP_raise
  refine tr_ldA rfl (tr_getP (b := 263) (fk_0 hF) (fp_0_19 hF) (tr_ldA rfl (tr_pushI (tr_ldI rfl (tr_ldI rfl (?_))))))
  refine tr_invVI rfl rfl (fk_0 hF) (Nat.le_of_ble_eq_true rfl) (by decide) (Nat.le_of_ble_eq_true rfl) (tm126 (by omega) hF) (fun r3 g1 _ hF2 => ?_)
  refine tr_invVI rfl rfl (fk_263 hF2) (Nat.le_of_ble_eq_true rfl) (by decide) (Nat.le_of_ble_eq_true rfl) (tm27 (by omega) hF2) (fun r6 g4 _ hF5 => ?_)
  exact tr_retI hF5
-- MP_split
abbrev t124_0 : List hOp := oLdA 0 :: oGetP 11 19 :: oLdA 0 :: oPushI 2 :: oLdI 1 :: oLdI 2 :: oInvV 126 11 3 :: oInvV 27 3 1 :: oRetI :: []
theorem e124_0 : (opsOf 124).drop 0 = t124_0 := rfl
def q_MP_split (v1 : Int32) (v2 : Int32) (g : hG) : hO Int32 :=
  bnd (q_MP_attempt (2 : Int32) v1 v2 g) fun r3 g1 => bnd (q_Notes_settle r3 g1) fun r6 g4 => some (r6, g4)
theorem tm124 {d : Nat} {v1 : Int32} {v2 : Int32} (hd : 6 ≤ d) {g : hG} (hF : Frz g) : TM wI d 124 [.ref 0, .int v1, .int v2] g (q_MP_split v1 v2 g) := by
  obtain ⟨e, rfl⟩ : ∃ e, d = e + 1 := ⟨d - 1, by omega⟩
  have he := hd
  refine TM.ofE e124_0 (lv := [some (.ref 0), some (.int v1), some (.int v2)]) rfl ?_
  unfold q_MP_split
  refine tr_ldA rfl (tr_getP (b := 263) (fk_0 hF) (fp_0_19 hF) (tr_ldA rfl (tr_pushI (tr_ldI rfl (tr_ldI rfl (?_))))))
  refine tr_invVI rfl rfl (fk_0 hF) (Nat.le_of_ble_eq_true rfl) (by decide) (Nat.le_of_ble_eq_true rfl) (tm126 (by omega) hF) (fun r3 g1 _ hF2 => ?_)
  refine tr_invVI rfl rfl (fk_263 hF2) (Nat.le_of_ble_eq_true rfl) (by decide) (Nat.le_of_ble_eq_true rfl) (tm27 (by omega) hF2) (fun r6 g4 _ hF5 => ?_)
  exact tr_retI hF5
-- MP_pass
abbrev t125_0 : List hOp := oLdA 0 :: oGetP 11 19 :: oLdA 0 :: oPushI 3 :: oPushI 0 :: oPushI 0 :: oInvV 126 11 3 :: oInvV 27 3 1 :: oRetI :: []
theorem e125_0 : (opsOf 125).drop 0 = t125_0 := rfl
def q_MP_pass (g : hG) : hO Int32 :=
  bnd (q_MP_attempt (3 : Int32) (0 : Int32) (0 : Int32) g) fun r3 g1 => bnd (q_Notes_settle r3 g1) fun r6 g4 => some (r6, g4)
theorem tm125 {d : Nat} (hd : 6 ≤ d) {g : hG} (hF : Frz g) : TM wI d 125 [.ref 0] g (q_MP_pass g) := by
  obtain ⟨e, rfl⟩ : ∃ e, d = e + 1 := ⟨d - 1, by omega⟩
  have he := hd
  refine TM.ofE e125_0 (lv := [some (.ref 0)]) rfl ?_
  unfold q_MP_pass
  refine tr_ldA rfl (tr_getP (b := 263) (fk_0 hF) (fp_0_19 hF) (tr_ldA rfl (tr_pushI (tr_pushI (tr_pushI (?_))))))
  refine tr_invVI rfl rfl (fk_0 hF) (Nat.le_of_ble_eq_true rfl) (by decide) (Nat.le_of_ble_eq_true rfl) (tm126 (by omega) hF) (fun r3 g1 _ hF2 => ?_)
  refine tr_invVI rfl rfl (fk_263 hF2) (Nat.le_of_ble_eq_true rfl) (by decide) (Nat.le_of_ble_eq_true rfl) (tm27 (by omega) hF2) (fun r6 g4 _ hF5 => ?_)
  exact tr_retI hF5
-- Past_restore
abbrev t32_10 : List hOp := oPutI 4 3 :: oLdA 0 :: oDup :: oGetI 4 2 :: oPushI 1 :: oBin (fun x y => x - y) :: oPutI 4 2 :: oLdA 1 :: oLdA 0 :: oGetP 4 0 :: oLdA 0 :: oGetI 4 3 :: oALdP 17 :: oInvV 17 2 1 :: oLdA 0 :: oGetP 4 1 :: oLdA 0 :: oGetI 4 3 :: oALdI 13 :: oRetI :: []
abbrev t32_6 : List hOp := oLdA 0 :: oGetI 4 3 :: oPushI 1 :: oBin (fun x y => x - y) :: t32_10
abbrev t32_0 : List hOp := oLdA 0 :: oLdA 0 :: oGetI 4 3 :: oIf0 cNe 6 :: oPushI 15 :: oGoto 10 :: t32_6
theorem e32_0 : (opsOf 32).drop 0 = t32_0 := rfl
theorem e32_6 : (opsOf 32).drop 6 = t32_6 := rfl
theorem e32_10 : (opsOf 32).drop 10 = t32_10 := rfl
def q_Past_restore_10 (w1 : Int32) (g : hG) : hO Int32 :=
  wr (sI g 54 3 w1) fun g2 => wr (sI g2 54 2 ((gI g2 54 2) - (1 : Int32))) fun g4 => gd (gI g4 54 3) 16 <| bnd (q_Mom_copy 2 (57 + 5 * (gI g4 54 3).toNatClampNeg) g4) fun _ g7 => gd (gI g7 54 3) 16 <| some ((gI g7 56 (gI g7 54 3).toNatClampNeg), g7)
theorem th32_10 {e : Nat} (he : 1 ≤ e + 1) {w1 : Int32} {g : hG} (hF : Frz g) : Tri wI (e + 1) 32 t32_10 [some (.ref 54), some (.ref 2)] [.int w1, .ref 54] g (q_Past_restore_10 w1 g) := by
  unfold q_Past_restore_10
  refine tr_putI hF (fk_54 hF) (fun g2 _ hF3 => tr_ldA rfl (tr_dupA (tr_getI (fk_54 hF3) (tr_pushI (tr_bin (v := ((gI g2 54 2) - (1 : Int32))) rfl (?_))))))
  refine tr_putI hF3 (fk_54 hF3) (fun g4 _ hF5 => tr_ldA rfl (tr_ldA rfl (tr_getP (b := 55) (fk_54 hF5) (fp_54_0 hF5) (tr_ldA rfl (tr_getI (fk_54 hF5) (?_))))))
  refine tr_aldP (b := (57 + 5 * (gI g4 54 3).toNatClampNeg)) (fk_55 hF5) (fl_55 hF5) (fun hq => pst_e (a := 54) hF5 rfl hq) (fun hi6 => ?_)
  refine tr_invVU rfl rfl (fk_2 hF5) (Nat.le_of_ble_eq_true rfl) (by decide) (Nat.le_of_ble_eq_true rfl) (tm17 rfl (pst_mom (a := 54) rfl hi6) hF5) (fun _ g7 _ hF8 => ?_)
  refine tr_ldA rfl (tr_getP (b := 56) (fk_54 hF8) (fp_54_1 hF8) (tr_ldA rfl (tr_getI (fk_54 hF8) (tr_aldI (fk_56 hF8) (fl_56 hF8) (fun _ => ?_)))))
  exact tr_retI hF8
def q_Past_restore (g : hG) : hO Int32 :=
  q_Past_restore_10 (if (gI g 54 3) = (0 : Int32) then (15 : Int32) else ((gI g 54 3) - (1 : Int32))) g
theorem tm32 {d : Nat} (hd : 1 ≤ d) {g : hG} (hF : Frz g) : TM wI d 32 [.ref 54, .ref 2] g (q_Past_restore g) := by
  obtain ⟨e, rfl⟩ : ∃ e, d = e + 1 := ⟨d - 1, by omega⟩
  have he := hd
  refine TM.ofE e32_0 (lv := [some (.ref 54), some (.ref 2)]) rfl ?_
  unfold q_Past_restore
  refine tr_ldA rfl (tr_ldA rfl (tr_getI (fk_54 hF) (?_)))
  refine tr_if0cE e32_6 (c_ne _ _) (fun hc9 => ?_) (fun hc9 => ?_)
  · rw [if_neg hc9]
    refine tr_ldA rfl (?_)
    refine tr_getI (fk_54 hF) (?_)
    refine tr_pushI (?_)
    refine tr_bin (v := ((gI g 54 3) - (1 : Int32))) rfl (?_)
    exact th32_10 he hF
  · rw [if_pos (Decidable.not_not.mp hc9)]
    refine tr_pushI (?_)
    refine tr_gotoE e32_10 (?_)
    exact th32_10 he hF
-- MP_undo
abbrev t127_9 : List hOp := oLdA 0 :: oGetP 11 19 :: oLdA 0 :: oGetP 11 4 :: oLdA 0 :: oGetP 11 1 :: oInvV 32 4 1 :: oInvV 26 3 1 :: oRetI :: []
abbrev t127_0 : List hOp := oLdA 0 :: oGetP 11 4 :: oGetI 4 2 :: oIf0 cNe 9 :: oLdA 0 :: oGetP 11 19 :: oPushI (-3) :: oInvV 25 3 1 :: oRetI :: t127_9
theorem e127_0 : (opsOf 127).drop 0 = t127_0 := rfl
theorem e127_9 : (opsOf 127).drop 9 = t127_9 := rfl
def q_MP_undo (g : hG) : hO Int32 :=
  if (gI g 54 2) = (0 : Int32) then (bnd (q_Notes_refuse (-3 : Int32) g) fun r10 g8 => some (r10, g8)) else (bnd (q_Past_restore g) fun r4 g2 => bnd (q_Notes_grant r4 g2) fun r7 g5 => some (r7, g5))
theorem tm127 {d : Nat} (hd : 2 ≤ d) {g : hG} (hF : Frz g) : TM wI d 127 [.ref 0] g (q_MP_undo g) := by
  obtain ⟨e, rfl⟩ : ∃ e, d = e + 1 := ⟨d - 1, by omega⟩
  have he := hd
  refine TM.ofE e127_0 (lv := [some (.ref 0)]) rfl ?_
  unfold q_MP_undo
  refine tr_ldA rfl (tr_getP (b := 54) (fk_0 hF) (fp_0_4 hF) (tr_getI (fk_54 hF) (?_)))
  refine tr_if0n e127_9 (c_ne _ _) (fun hc1 => ?_) (fun hc1 => ?_)
  · refine tr_ldA rfl (tr_getP (b := 263) (fk_0 hF) (fp_0_19 hF) (tr_ldA rfl (tr_getP (b := 54) (fk_0 hF) (fp_0_4 hF) (tr_ldA rfl (tr_getP (b := 2) (fk_0 hF) (fp_0_1 hF) (?_))))))
    refine tr_invVI rfl rfl (fk_54 hF) (Nat.le_of_ble_eq_true rfl) (by decide) (Nat.le_of_ble_eq_true rfl) (tm32 (by omega) hF) (fun r4 g2 _ hF3 => ?_)
    refine tr_invVI rfl rfl (fk_263 hF3) (Nat.le_of_ble_eq_true rfl) (by decide) (Nat.le_of_ble_eq_true rfl) (tm26 hF3) (fun r7 g5 _ hF6 => ?_)
    exact tr_retI hF6
  · refine tr_ldA rfl (tr_getP (b := 263) (fk_0 hF) (fp_0_19 hF) (tr_pushI (?_)))
    refine tr_invVI rfl rfl (fk_263 hF) (Nat.le_of_ble_eq_true rfl) (by decide) (Nat.le_of_ble_eq_true rfl) (tm25 hF) (fun r10 g8 _ hF9 => ?_)
    exact tr_retI hF9
-- MP_passOnPaper
abbrev t130_18 : List hOp := oRetV :: []
abbrev t130_7 : List hOp := oLdI 2 :: oLdI 1 :: oIf cGe 18 :: oLdA 0 :: oGetP 11 15 :: oLdA 0 :: oGetP 11 7 :: oInvV 64 6 1 :: oPop :: oInc 2 1 :: oGoto 7 :: t130_18
abbrev t130_0 : List hOp := oLdA 0 :: oGetP 11 7 :: oLdA 0 :: oGetP 11 1 :: oInvV 17 2 1 :: oPushI 0 :: oStI 2 :: t130_7
theorem e130_0 : (opsOf 130).drop 0 = t130_0 := rfl
theorem e130_7 : (opsOf 130).drop 7 = t130_7 := rfl
theorem e130_18 : (opsOf 130).drop 18 = t130_18 := rfl
def q_MP_passOnPaper_7 (v1 : Int32) (k18 : hG → hO Unit) (k7 : Int32 → hG → hO Unit) (v2 : Int32) (g : hG) : hO Unit :=
  if v1 ≤ v2 then (k18 g) else (bnd (q_Slope_passHour 225 g) fun r6 g4 => k7 (v2 + (1 : Int32)) g4)
def q_MP_passOnPaper_7L (v1 : Int32) (k18 : hG → hO Unit) : Nat → Int32 → hG → hO Unit
  | 0 => fun _ _ => none
  | n + 1 => fun v2 g => q_MP_passOnPaper_7 v1 k18 (q_MP_passOnPaper_7L v1 k18 n) v2 g
theorem q_MP_passOnPaper_7L_s (v1 : Int32) (k18 : hG → hO Unit) (n : Nat) (v2 : Int32) (g : hG) : q_MP_passOnPaper_7L v1 k18 (n + 1) v2 g = q_MP_passOnPaper_7 v1 k18 (q_MP_passOnPaper_7L v1 k18 n) v2 g := rfl
theorem th130_7 {e : Nat} (he : 5 ≤ e + 1) {v1 : Int32} {k18 : hG → hO Unit} {k7 : Int32 → hG → hO Unit} {v2 : Int32} (hk18 : ∀ (y2 : Option Value) (g : hG), Frz g → Tri wU (e + 1) 130 t130_18 [some (.ref 0), some (.int v1), y2] [] g (k18 g)) (hk7 : ∀ (x2 : Int32) (g : hG), Frz g → Tri wU (e + 1) 130 t130_7 [some (.ref 0), some (.int v1), some (.int x2)] [] g (k7 x2 g)) {g : hG} (hF : Frz g) : Tri wU (e + 1) 130 t130_7 [some (.ref 0), some (.int v1), some (.int v2)] [] g (q_MP_passOnPaper_7 v1 k18 k7 v2 g) := by
  unfold q_MP_passOnPaper_7
  refine tr_ldI rfl (tr_ldI rfl (?_))
  refine tr_ifj e130_18 (c_ge _ _) (fun hc3 => ?_) (fun hc3 => ?_)
  · exact hk18 _ _ hF
  · refine tr_ldA rfl (tr_getP (b := 250) (fk_0 hF) (fp_0_15 hF) (tr_ldA rfl (tr_getP (b := 225) (fk_0 hF) (fp_0_7 hF) (?_))))
    refine tr_invVI rfl rfl (fk_250 hF) (Nat.le_of_ble_eq_true rfl) (by decide) (Nat.le_of_ble_eq_true rfl) (tm64 (by omega) rfl hF) (fun r6 g4 _ hF5 => ?_)
    refine tr_pop (tr_inc rfl rfl rfl (?_))
    refine tr_gotoE e130_7 (?_)
    exact hk7 _ _ hF5
theorem th130_7L {e : Nat} (he : 5 ≤ e + 1) {v1 : Int32} {k18 : hG → hO Unit} (hk18 : ∀ (y2 : Option Value) (g : hG), Frz g → Tri wU (e + 1) 130 t130_18 [some (.ref 0), some (.int v1), y2] [] g (k18 g)) : ∀ (n : Nat) (v2 : Int32) (g : hG), Frz g → Tri wU (e + 1) 130 t130_7 [some (.ref 0), some (.int v1), some (.int v2)] [] g (q_MP_passOnPaper_7L v1 k18 n v2 g)
  | 0 => fun _ _ _ => Tri.none_
  | n + 1 => fun _ g hF => th130_7 he hk18 (th130_7L he hk18 n) hF
def q_MP_passOnPaper (v1 : Int32) (g : hG) : hO Unit :=
  bnd (q_Mom_copy 225 2 g) fun _ g1 => q_MP_passOnPaper_7L v1 (fun g8 => some ((), g8)) FU (0 : Int32) g1
theorem tm130 {d : Nat} {v1 : Int32} (hd : 5 ≤ d) {g : hG} (hF : Frz g) : TM wU d 130 [.ref 0, .int v1] g (q_MP_passOnPaper v1 g) := by
  obtain ⟨e, rfl⟩ : ∃ e, d = e + 1 := ⟨d - 1, by omega⟩
  have he := hd
  refine TM.ofE e130_0 (lv := [some (.ref 0), some (.int v1), none]) rfl ?_
  unfold q_MP_passOnPaper
  refine tr_ldA rfl (tr_getP (b := 225) (fk_0 hF) (fp_0_7 hF) (tr_ldA rfl (tr_getP (b := 2) (fk_0 hF) (fp_0_1 hF) (?_))))
  refine tr_invVU rfl rfl (fk_225 hF) (Nat.le_of_ble_eq_true rfl) (by decide) (Nat.le_of_ble_eq_true rfl) (tm17 rfl rfl hF) (fun _ g1 _ hF2 => ?_)
  refine tr_pushI (tr_stI (Nat.le_of_ble_eq_true rfl) rfl rfl (?_))
  refine th130_7L he (fun y7 g8 hF9 => ?_) FU _ _ hF2
  · exact tr_retV hF9
-- MP_later
abbrev t128_10 : List hOp := oLdA 0 :: oLdI 2 :: oInvV 130 11 1 :: oLdA 0 :: oGetP 11 7 :: oGetP 2 1 :: oLdI 1 :: oALdI 13 :: oRetI :: []
abbrev t128_8 : List hOp := oPushI (-1) :: oRetI :: t128_10
abbrev t128_0 : List hOp := oLdI 1 :: oInvS 160 1 :: oIf0 cEq 8 :: oLdI 2 :: oIf0 cLt 8 :: oLdI 2 :: oPushI 60 :: oIf cLe 10 :: t128_8
theorem e128_0 : (opsOf 128).drop 0 = t128_0 := rfl
theorem e128_8 : (opsOf 128).drop 8 = t128_8 := rfl
theorem e128_10 : (opsOf 128).drop 10 = t128_10 := rfl
def q_MP_later (v1 : Int32) (v2 : Int32) (g : hG) : hO Int32 :=
  bnd (q_MP_isLetter v1 g) fun r3 g1 => if r3 = (0 : Int32) then (some ((-1 : Int32), g1)) else (if v2 < (0 : Int32) then (some ((-1 : Int32), g1)) else (if v2 ≤ (60 : Int32) then (bnd (q_MP_passOnPaper v2 g1) fun _ g7 => gd v1 8 <| some ((gI g7 227 v1.toNatClampNeg), g7)) else (some ((-1 : Int32), g1))))
theorem tm128 {d : Nat} {v1 : Int32} {v2 : Int32} (hd : 6 ≤ d) {g : hG} (hF : Frz g) : TM wI d 128 [.ref 0, .int v1, .int v2] g (q_MP_later v1 v2 g) := by
  obtain ⟨e, rfl⟩ : ∃ e, d = e + 1 := ⟨d - 1, by omega⟩
  have he := hd
  refine TM.ofE e128_0 (lv := [some (.ref 0), some (.int v1), some (.int v2)]) rfl ?_
  unfold q_MP_later
  refine tr_ldI rfl (?_)
  refine tr_invSI rfl rfl (Nat.le_of_ble_eq_true rfl) (Nat.le_of_ble_eq_true rfl) (by decide) (Nat.le_of_ble_eq_true rfl) (tm160 hF) (fun r3 g1 _ hF2 => ?_)
  refine tr_if0j e128_8 (c_eq _ _) (fun hc4 => ?_) (fun hc4 => ?_)
  · refine tr_pushI (?_)
    exact tr_retI hF2
  · refine tr_ldI rfl (?_)
    refine tr_if0j e128_8 (c_lt _ _) (fun hc5 => ?_) (fun hc5 => ?_)
    · refine tr_pushI (?_)
      exact tr_retI hF2
    · refine tr_ldI rfl (tr_pushI (?_))
      refine tr_ifj e128_10 (c_le _ _) (fun hc6 => ?_) (fun hc6 => ?_)
      · refine tr_ldA rfl (tr_ldI rfl (?_))
        refine tr_invVU rfl rfl (fk_0 hF2) (Nat.le_of_ble_eq_true rfl) (by decide) (Nat.le_of_ble_eq_true rfl) (tm130 (by omega) hF2) (fun _ g7 _ hF8 => ?_)
        refine tr_ldA rfl (tr_getP (b := 225) (fk_0 hF8) (fp_0_7 hF8) (tr_getP (b := 227) (fk_225 hF8) (fp_225_1 hF8) (tr_ldI rfl (tr_aldI (fk_227 hF8) (fl_227 hF8) (fun _ => ?_)))))
        exact tr_retI hF8
      · refine tr_pushI (?_)
        exact tr_retI hF2
-- Mom_readWithIt
abbrev t21_53 : List hOp := oLdI 2 :: oRetI :: []
abbrev t21_51 : List hOp := oInc 3 1 :: oGoto 12 :: t21_53
abbrev t21_36 : List hOp := oStI 4 :: oLdA 0 :: oGetP 2 0 :: oLdI 3 :: oALdI 13 :: oPushI 2 :: oIf cNe 51 :: oLdI 4 :: oIf0 cEq 51 :: oLdI 2 :: oPushI 1 :: oLdI 3 :: oBin (fun x y => x <<< (y &&& 31)) :: oBin (fun x y => x ||| y) :: oStI 2 :: t21_51
abbrev t21_35 : List hOp := oPushI 0 :: t21_36
abbrev t21_12 : List hOp := oLdI 3 :: oPushI 8 :: oIf cGe 53 :: oLdA 0 :: oGetP 2 1 :: oLdI 3 :: oALdI 13 :: oLdA 0 :: oGetP 2 1 :: oLdI 1 :: oALdI 13 :: oIf cNe 35 :: oLdA 0 :: oGetP 2 2 :: oLdI 3 :: oALdI 13 :: oLdA 0 :: oGetP 2 2 :: oLdI 1 :: oALdI 13 :: oIf cNe 35 :: oPushI 1 :: oGoto 36 :: t21_35
abbrev t21_8 : List hOp := oPushI 0 :: oStI 2 :: oPushI 0 :: oStI 3 :: t21_12
abbrev t21_0 : List hOp := oLdA 0 :: oGetP 2 0 :: oLdI 1 :: oALdI 13 :: oPushI 2 :: oIf cEq 8 :: oPushI (-1) :: oRetI :: t21_8
theorem e21_0 : (opsOf 21).drop 0 = t21_0 := rfl
theorem e21_8 : (opsOf 21).drop 8 = t21_8 := rfl
theorem e21_12 : (opsOf 21).drop 12 = t21_12 := rfl
theorem e21_35 : (opsOf 21).drop 35 = t21_35 := rfl
theorem e21_36 : (opsOf 21).drop 36 = t21_36 := rfl
theorem e21_51 : (opsOf 21).drop 51 = t21_51 := rfl
theorem e21_53 : (opsOf 21).drop 53 = t21_53 := rfl
def q_Mom_readWithIt_36 (v2 : Int32) (v3 : Int32) (k12 : Int32 → Int32 → hG → hO Int32) (w0 : Int32) (g : hG) : hO Int32 :=
  gd v3 8 <| if (gI g 226 v3.toNatClampNeg) = (2 : Int32) then (if w0 = (0 : Int32) then (k12 v2 (v3 + (1 : Int32)) g) else (k12 (v2 ||| (shl (1 : Int32) v3)) (v3 + (1 : Int32)) g)) else (k12 v2 (v3 + (1 : Int32)) g)
theorem th21_36 {d : Nat} {v2 : Int32} {v3 : Int32} {k12 : Int32 → Int32 → hG → hO Int32} {w0 : Int32} {u1 : Option Value} {u4 : Option Value} (hk12 : ∀ (x2 : Int32) (x3 : Int32) (y4 : Option Value) (g : hG), Frz g → Tri wI d 21 t21_12 [some (.ref 225), u1, some (.int x2), some (.int x3), y4] [] g (k12 x2 x3 g)) (hu1 : isL (some u1) = false) {g : hG} (hF : Frz g) : Tri wI d 21 t21_36 [some (.ref 225), u1, some (.int v2), some (.int v3), u4] [.int w0] g (q_Mom_readWithIt_36 v2 v3 k12 w0 g) := by
  unfold q_Mom_readWithIt_36
  refine tr_stI (Nat.le_of_ble_eq_true rfl) rfl rfl (tr_ldA rfl (tr_getP (b := 226) (fk_225 hF) (fp_225_0 hF) (tr_ldI rfl (tr_aldI (fk_226 hF) (fl_226 hF) (fun _ => tr_pushI (?_))))))
  refine tr_ifn e21_51 (c_ne _ _) (fun hc4 => ?_) (fun hc4 => ?_)
  · refine tr_inc rfl rfl rfl (?_)
    refine tr_gotoE e21_12 (?_)
    exact hk12 _ _ _ _ hF
  · refine tr_ldI rfl (?_)
    refine tr_if0j e21_51 (c_eq _ _) (fun hc5 => ?_) (fun hc5 => ?_)
    · refine tr_inc rfl rfl rfl (?_)
      refine tr_gotoE e21_12 (?_)
      exact hk12 _ _ _ _ hF
    · refine tr_ldI rfl (tr_pushI (tr_ldI rfl (tr_bin (v := (shl (1 : Int32) v3)) rfl (tr_bin (v := (v2 ||| (shl (1 : Int32) v3))) rfl (tr_stI (Nat.le_of_ble_eq_true rfl) (lKill_id hu1) rfl (?_))))))
      refine tr_inc rfl rfl rfl (?_)
      refine tr_gotoE e21_12 (?_)
      exact hk12 _ _ _ _ hF
def q_Mom_readWithIt_35 (v2 : Int32) (v3 : Int32) (k12 : Int32 → Int32 → hG → hO Int32) (g : hG) : hO Int32 :=
  q_Mom_readWithIt_36 v2 v3 k12 (0 : Int32) g
theorem th21_35 {d : Nat} {v2 : Int32} {v3 : Int32} {k12 : Int32 → Int32 → hG → hO Int32} {u1 : Option Value} {u4 : Option Value} (hk12 : ∀ (x2 : Int32) (x3 : Int32) (y4 : Option Value) (g : hG), Frz g → Tri wI d 21 t21_12 [some (.ref 225), u1, some (.int x2), some (.int x3), y4] [] g (k12 x2 x3 g)) (hu1 : isL (some u1) = false) {g : hG} (hF : Frz g) : Tri wI d 21 t21_35 [some (.ref 225), u1, some (.int v2), some (.int v3), u4] [] g (q_Mom_readWithIt_35 v2 v3 k12 g) := by
  unfold q_Mom_readWithIt_35
  refine tr_pushI (?_)
  exact th21_36 hk12 hu1 hF
def q_Mom_readWithIt_12 (v1 : Int32) (k53 : Int32 → hG → hO Int32) (k12 : Int32 → Int32 → hG → hO Int32) (v2 : Int32) (v3 : Int32) (g : hG) : hO Int32 :=
  if (8 : Int32) ≤ v3 then (k53 v2 g) else (gd v3 8 <| gd v1 8 <| if (gI g 227 v3.toNatClampNeg) = (gI g 227 v1.toNatClampNeg) then (gd v3 8 <| gd v1 8 <| q_Mom_readWithIt_36 v2 v3 k12 (if (gI g 228 v3.toNatClampNeg) = (gI g 228 v1.toNatClampNeg) then (1 : Int32) else (0 : Int32)) g) else (q_Mom_readWithIt_35 v2 v3 k12 g))
def q_Mom_readWithIt_12L (v1 : Int32) (k53 : Int32 → hG → hO Int32) : Nat → Int32 → Int32 → hG → hO Int32
  | 0 => fun _ _ _ => none
  | n + 1 => fun v2 v3 g => q_Mom_readWithIt_12 v1 k53 (q_Mom_readWithIt_12L v1 k53 n) v2 v3 g
theorem q_Mom_readWithIt_12L_s (v1 : Int32) (k53 : Int32 → hG → hO Int32) (n : Nat) (v2 : Int32) (v3 : Int32) (g : hG) : q_Mom_readWithIt_12L v1 k53 (n + 1) v2 v3 g = q_Mom_readWithIt_12 v1 k53 (q_Mom_readWithIt_12L v1 k53 n) v2 v3 g := rfl
theorem th21_12 {d : Nat} {v1 : Int32} {k53 : Int32 → hG → hO Int32} {k12 : Int32 → Int32 → hG → hO Int32} {v2 : Int32} {v3 : Int32} {u4 : Option Value} (hk53 : ∀ (x2 : Int32) (y3 : Option Value) (y4 : Option Value) (_ : isL (some y3) = false) (g : hG), Frz g → Tri wI d 21 t21_53 [some (.ref 225), some (.int v1), some (.int x2), y3, y4] [] g (k53 x2 g)) (hk12 : ∀ (x2 : Int32) (x3 : Int32) (y4 : Option Value) (g : hG), Frz g → Tri wI d 21 t21_12 [some (.ref 225), some (.int v1), some (.int x2), some (.int x3), y4] [] g (k12 x2 x3 g)) {g : hG} (hF : Frz g) : Tri wI d 21 t21_12 [some (.ref 225), some (.int v1), some (.int v2), some (.int v3), u4] [] g (q_Mom_readWithIt_12 v1 k53 k12 v2 v3 g) := by
  unfold q_Mom_readWithIt_12
  refine tr_ldI rfl (tr_pushI (?_))
  refine tr_ifj e21_53 (c_ge _ _) (fun hc2 => ?_) (fun hc2 => ?_)
  · exact hk53 _ _ _ rfl _ hF
  · refine tr_ldA rfl (tr_getP (b := 227) (fk_225 hF) (fp_225_1 hF) (tr_ldI rfl (tr_aldI (fk_227 hF) (fl_227 hF) (fun _ => tr_ldA rfl (tr_getP (b := 227) (fk_225 hF) (fp_225_1 hF) (?_))))))
    refine tr_ldI rfl (tr_aldI (fk_227 hF) (fl_227 hF) (fun _ => ?_))
    refine tr_ifn e21_35 (c_ne _ _) (fun hc3 => ?_) (fun hc3 => ?_)
    · exact th21_35 hk12 rfl hF
    · refine tr_ldA rfl (tr_getP (b := 228) (fk_225 hF) (fp_225_2 hF) (tr_ldI rfl (tr_aldI (fk_228 hF) (fl_228 hF) (fun _ => tr_ldA rfl (tr_getP (b := 228) (fk_225 hF) (fp_225_2 hF) (?_))))))
      refine tr_ldI rfl (tr_aldI (fk_228 hF) (fl_228 hF) (fun _ => ?_))
      refine tr_ifcE e21_35 (c_ne _ _) (fun hc7 => ?_) (fun hc7 => ?_)
      · rw [if_neg hc7]
        refine tr_pushI (?_)
        exact th21_36 hk12 rfl hF
      · rw [if_pos (Decidable.not_not.mp hc7)]
        refine tr_pushI (?_)
        refine tr_gotoE e21_36 (?_)
        exact th21_36 hk12 rfl hF
theorem th21_12L {d : Nat} {v1 : Int32} {k53 : Int32 → hG → hO Int32} (hk53 : ∀ (x2 : Int32) (y3 : Option Value) (y4 : Option Value) (_ : isL (some y3) = false) (g : hG), Frz g → Tri wI d 21 t21_53 [some (.ref 225), some (.int v1), some (.int x2), y3, y4] [] g (k53 x2 g)) : ∀ (n : Nat) (v2 : Int32) (v3 : Int32) (u4 : Option Value) (g : hG), Frz g → Tri wI d 21 t21_12 [some (.ref 225), some (.int v1), some (.int v2), some (.int v3), u4] [] g (q_Mom_readWithIt_12L v1 k53 n v2 v3 g)
  | 0 => fun _ _ _ _ _ => Tri.none_
  | n + 1 => fun _ _ _ g hF => th21_12 hk53 (th21_12L hk53 n) hF
def q_Mom_readWithIt (v1 : Int32) (g : hG) : hO Int32 :=
  gd v1 8 <| if (gI g 226 v1.toNatClampNeg) = (2 : Int32) then (q_Mom_readWithIt_12L v1 (fun x8 g11 => some (x8, g11)) FU (0 : Int32) (0 : Int32) g) else (some ((-1 : Int32), g))
theorem tm21 {d : Nat} {v1 : Int32} {g : hG} (hF : Frz g) : TM wI d 21 [.ref 225, .int v1] g (q_Mom_readWithIt v1 g) := by
  refine TM.ofE e21_0 (lv := [some (.ref 225), some (.int v1), none, none, none]) rfl ?_
  unfold q_Mom_readWithIt
  refine tr_ldA rfl (tr_getP (b := 226) (fk_225 hF) (fp_225_0 hF) (tr_ldI rfl (tr_aldI (fk_226 hF) (fl_226 hF) (fun _ => tr_pushI (?_)))))
  refine tr_ifj e21_8 (c_eq _ _) (fun hc1 => ?_) (fun hc1 => ?_)
  · refine tr_pushI (tr_stI (Nat.le_of_ble_eq_true rfl) rfl rfl (tr_pushI (tr_stI (Nat.le_of_ble_eq_true rfl) rfl rfl (?_))))
    refine th21_12L (fun x8 y9 y10 zy9 g11 hF12 => ?_) FU _ _ _ _ hF
    · refine tr_ldI rfl (?_)
      exact tr_retI hF12
  · refine tr_pushI (?_)
    exact tr_retI hF
-- MP_readWith
abbrev t129_5 : List hOp := oLdA 0 :: oPushI 60 :: oInvV 130 11 1 :: oLdA 0 :: oGetP 11 7 :: oLdI 1 :: oInvV 21 2 1 :: oRetI :: []
abbrev t129_0 : List hOp := oLdI 1 :: oInvS 160 1 :: oIf0 cNe 5 :: oPushI (-1) :: oRetI :: t129_5
theorem e129_0 : (opsOf 129).drop 0 = t129_0 := rfl
theorem e129_5 : (opsOf 129).drop 5 = t129_5 := rfl
def q_MP_readWith (v1 : Int32) (g : hG) : hO Int32 :=
  bnd (q_MP_isLetter v1 g) fun r3 g1 => if r3 = (0 : Int32) then (some ((-1 : Int32), g1)) else (bnd (q_MP_passOnPaper (60 : Int32) g1) fun _ g5 => bnd (q_Mom_readWithIt v1 g5) fun r9 g7 => some (r9, g7))
theorem tm129 {d : Nat} {v1 : Int32} (hd : 6 ≤ d) {g : hG} (hF : Frz g) : TM wI d 129 [.ref 0, .int v1] g (q_MP_readWith v1 g) := by
  obtain ⟨e, rfl⟩ : ∃ e, d = e + 1 := ⟨d - 1, by omega⟩
  have he := hd
  refine TM.ofE e129_0 (lv := [some (.ref 0), some (.int v1)]) rfl ?_
  unfold q_MP_readWith
  refine tr_ldI rfl (?_)
  refine tr_invSI rfl rfl (Nat.le_of_ble_eq_true rfl) (Nat.le_of_ble_eq_true rfl) (by decide) (Nat.le_of_ble_eq_true rfl) (tm160 hF) (fun r3 g1 _ hF2 => ?_)
  refine tr_if0n e129_5 (c_ne _ _) (fun hc4 => ?_) (fun hc4 => ?_)
  · refine tr_ldA rfl (tr_pushI (?_))
    refine tr_invVU rfl rfl (fk_0 hF2) (Nat.le_of_ble_eq_true rfl) (by decide) (Nat.le_of_ble_eq_true rfl) (tm130 (by omega) hF2) (fun _ g5 _ hF6 => ?_)
    refine tr_ldA rfl (tr_getP (b := 225) (fk_0 hF6) (fp_0_7 hF6) (tr_ldI rfl (?_)))
    refine tr_invVI rfl rfl (fk_225 hF6) (Nat.le_of_ble_eq_true rfl) (by decide) (Nat.le_of_ble_eq_true rfl) (tm21 hF6) (fun r9 g7 _ hF8 => ?_)
    exact tr_retI hF8
  · refine tr_pushI (?_)
    exact tr_retI hF2
-- Str_trace
abbrev t66_54 : List hOp := oRetV :: []
abbrev t66_42 : List hOp := oLdA 0 :: oGetP 7 1 :: oLdI 3 :: oLdI 5 :: oAStI :: oLdA 0 :: oGetP 7 2 :: oLdI 3 :: oLdI 4 :: oAStI :: oInc 3 1 :: oGoto 19 :: t66_54
abbrev t66_26 : List hOp := oLdI 5 :: oPushI 25 :: oIf cGe 42 :: oLdA 0 :: oGetP 7 0 :: oLdI 4 :: oALdI 13 :: oLdI 4 :: oIf cEq 42 :: oLdA 0 :: oGetP 7 0 :: oLdI 4 :: oALdI 13 :: oStI 4 :: oInc 5 1 :: oGoto 26 :: t66_42
abbrev t66_19 : List hOp := oLdI 3 :: oPushI 25 :: oIf cGe 54 :: oLdI 3 :: oStI 4 :: oPushI 0 :: oStI 5 :: t66_26
abbrev t66_17 : List hOp := oPushI 0 :: oStI 3 :: t66_19
abbrev t66_5 : List hOp := oLdI 3 :: oPushI 25 :: oIf cGe 17 :: oLdA 0 :: oGetP 7 0 :: oLdI 3 :: oLdA 1 :: oLdI 3 :: oInvV 60 6 1 :: oAStI :: oInc 3 1 :: oGoto 5 :: t66_17
abbrev t66_0 : List hOp := oLdA 0 :: oLdI 2 :: oPutI 7 5 :: oPushI 0 :: oStI 3 :: t66_5
theorem e66_0 : (opsOf 66).drop 0 = t66_0 := rfl
theorem e66_5 : (opsOf 66).drop 5 = t66_5 := rfl
theorem e66_17 : (opsOf 66).drop 17 = t66_17 := rfl
theorem e66_19 : (opsOf 66).drop 19 = t66_19 := rfl
theorem e66_26 : (opsOf 66).drop 26 = t66_26 := rfl
theorem e66_42 : (opsOf 66).drop 42 = t66_42 := rfl
theorem e66_54 : (opsOf 66).drop 54 = t66_54 := rfl
def q_Str_trace_5 (k17 : hG → hO Unit) (k5 : Int32 → hG → hO Unit) (v3 : Int32) (g : hG) : hO Unit :=
  if (25 : Int32) ≤ v3 then (k17 g) else (bnd (q_Slope_next v3 g) fun r6 g4 => gd v3 25 <| wr (sI g4 255 v3.toNatClampNeg r6) fun g7 => k5 (v3 + (1 : Int32)) g7)
def q_Str_trace_5L (k17 : hG → hO Unit) : Nat → Int32 → hG → hO Unit
  | 0 => fun _ _ => none
  | n + 1 => fun v3 g => q_Str_trace_5 k17 (q_Str_trace_5L k17 n) v3 g
theorem q_Str_trace_5L_s (k17 : hG → hO Unit) (n : Nat) (v3 : Int32) (g : hG) : q_Str_trace_5L k17 (n + 1) v3 g = q_Str_trace_5 k17 (q_Str_trace_5L k17 n) v3 g := rfl
theorem th66_5 {e : Nat} (he : 4 ≤ e + 1) {k17 : hG → hO Unit} {k5 : Int32 → hG → hO Unit} {v3 : Int32} {u2 : Option Value} {u4 : Option Value} {u5 : Option Value} (hk17 : ∀ (y3 : Option Value) (_ : isL (some y3) = false) (g : hG), Frz g → Tri wU (e + 1) 66 t66_17 [some (.ref 254), some (.ref 250), u2, y3, u4, u5] [] g (k17 g)) (hk5 : ∀ (x3 : Int32) (g : hG), Frz g → Tri wU (e + 1) 66 t66_5 [some (.ref 254), some (.ref 250), u2, some (.int x3), u4, u5] [] g (k5 x3 g)) (hu2 : isL (some u2) = false) (hu4 : isL (some u4) = false) {g : hG} (hF : Frz g) : Tri wU (e + 1) 66 t66_5 [some (.ref 254), some (.ref 250), u2, some (.int v3), u4, u5] [] g (q_Str_trace_5 k17 k5 v3 g) := by
  unfold q_Str_trace_5
  refine tr_ldI rfl (tr_pushI (?_))
  refine tr_ifj e66_17 (c_ge _ _) (fun hc3 => ?_) (fun hc3 => ?_)
  · exact hk17 _ rfl _ hF
  · refine tr_ldA rfl (tr_getP (b := 255) (fk_254 hF) (fp_254_0 hF) (tr_ldI rfl (tr_ldA rfl (tr_ldI rfl (?_)))))
    refine tr_invVI rfl rfl (fk_250 hF) (Nat.le_of_ble_eq_true rfl) (by decide) (Nat.le_of_ble_eq_true rfl) (tm60 (by omega) hF) (fun r6 g4 _ hF5 => ?_)
    refine tr_astI hF5 (fk_255 hF5) (fl_255 hF5) (fun _ g7 _ hF8 => tr_inc rfl (lKill_id hu2) rfl (?_))
    refine tr_gotoE e66_5 (?_)
    exact hk5 _ _ hF8
theorem th66_5L {e : Nat} (he : 4 ≤ e + 1) {k17 : hG → hO Unit} {u2 : Option Value} {u4 : Option Value} {u5 : Option Value} (hk17 : ∀ (y3 : Option Value) (_ : isL (some y3) = false) (g : hG), Frz g → Tri wU (e + 1) 66 t66_17 [some (.ref 254), some (.ref 250), u2, y3, u4, u5] [] g (k17 g)) (hu2 : isL (some u2) = false) (hu4 : isL (some u4) = false) : ∀ (n : Nat) (v3 : Int32) (g : hG), Frz g → Tri wU (e + 1) 66 t66_5 [some (.ref 254), some (.ref 250), u2, some (.int v3), u4, u5] [] g (q_Str_trace_5L k17 n v3 g)
  | 0 => fun _ _ _ => Tri.none_
  | n + 1 => fun _ g hF => th66_5 he hk17 (th66_5L he hk17 hu2 hu4 n) hu2 hu4 hF
def q_Str_trace_26 (k42 : Int32 → Int32 → hG → hO Unit) (k26 : Int32 → Int32 → hG → hO Unit) (v4 : Int32) (v5 : Int32) (g : hG) : hO Unit :=
  if (25 : Int32) ≤ v5 then (k42 v4 v5 g) else (gd v4 25 <| if (gI g 255 v4.toNatClampNeg) = v4 then (k42 v4 v5 g) else (gd v4 25 <| k26 (gI g 255 v4.toNatClampNeg) (v5 + (1 : Int32)) g))
def q_Str_trace_26L (k42 : Int32 → Int32 → hG → hO Unit) : Nat → Int32 → Int32 → hG → hO Unit
  | 0 => fun _ _ _ => none
  | n + 1 => fun v4 v5 g => q_Str_trace_26 k42 (q_Str_trace_26L k42 n) v4 v5 g
theorem q_Str_trace_26L_s (k42 : Int32 → Int32 → hG → hO Unit) (n : Nat) (v4 : Int32) (v5 : Int32) (g : hG) : q_Str_trace_26L k42 (n + 1) v4 v5 g = q_Str_trace_26 k42 (q_Str_trace_26L k42 n) v4 v5 g := rfl
theorem th66_26 {e : Nat} (he : 4 ≤ e + 1) {k42 : Int32 → Int32 → hG → hO Unit} {k26 : Int32 → Int32 → hG → hO Unit} {v4 : Int32} {v5 : Int32} {u2 : Option Value} {u3 : Option Value} (hk42 : ∀ (x4 : Int32) (x5 : Int32) (g : hG), Frz g → Tri wU (e + 1) 66 t66_42 [some (.ref 254), some (.ref 250), u2, u3, some (.int x4), some (.int x5)] [] g (k42 x4 x5 g)) (hk26 : ∀ (x4 : Int32) (x5 : Int32) (g : hG), Frz g → Tri wU (e + 1) 66 t66_26 [some (.ref 254), some (.ref 250), u2, u3, some (.int x4), some (.int x5)] [] g (k26 x4 x5 g)) (hu2 : isL (some u2) = false) (hu3 : isL (some u3) = false) {g : hG} (hF : Frz g) : Tri wU (e + 1) 66 t66_26 [some (.ref 254), some (.ref 250), u2, u3, some (.int v4), some (.int v5)] [] g (q_Str_trace_26 k42 k26 v4 v5 g) := by
  unfold q_Str_trace_26
  refine tr_ldI rfl (tr_pushI (?_))
  refine tr_ifj e66_42 (c_ge _ _) (fun hc13 => ?_) (fun hc13 => ?_)
  · exact hk42 _ _ _ hF
  · refine tr_ldA rfl (tr_getP (b := 255) (fk_254 hF) (fp_254_0 hF) (tr_ldI rfl (tr_aldI (fk_255 hF) (fl_255 hF) (fun _ => tr_ldI rfl (?_)))))
    refine tr_ifj e66_42 (c_eq _ _) (fun hc14 => ?_) (fun hc14 => ?_)
    · exact hk42 _ _ _ hF
    · refine tr_ldA rfl (tr_getP (b := 255) (fk_254 hF) (fp_254_0 hF) (tr_ldI rfl (tr_aldI (fk_255 hF) (fl_255 hF) (fun _ => tr_stI (Nat.le_of_ble_eq_true rfl) (lKill_id hu3) rfl (tr_inc rfl rfl rfl (?_))))))
      refine tr_gotoE e66_26 (?_)
      exact hk26 _ _ _ hF
theorem th66_26L {e : Nat} (he : 4 ≤ e + 1) {k42 : Int32 → Int32 → hG → hO Unit} {u2 : Option Value} {u3 : Option Value} (hk42 : ∀ (x4 : Int32) (x5 : Int32) (g : hG), Frz g → Tri wU (e + 1) 66 t66_42 [some (.ref 254), some (.ref 250), u2, u3, some (.int x4), some (.int x5)] [] g (k42 x4 x5 g)) (hu2 : isL (some u2) = false) (hu3 : isL (some u3) = false) : ∀ (n : Nat) (v4 : Int32) (v5 : Int32) (g : hG), Frz g → Tri wU (e + 1) 66 t66_26 [some (.ref 254), some (.ref 250), u2, u3, some (.int v4), some (.int v5)] [] g (q_Str_trace_26L k42 n v4 v5 g)
  | 0 => fun _ _ _ _ => Tri.none_
  | n + 1 => fun _ _ g hF => th66_26 he hk42 (th66_26L he hk42 hu2 hu3 n) hu2 hu3 hF
def q_Str_trace_42 (v3 : Int32) (v4 : Int32) (v5 : Int32) (k19 : Int32 → hG → hO Unit) (g : hG) : hO Unit :=
  gd v3 25 <| wr (sI g 256 v3.toNatClampNeg v5) fun g19 => gd v3 25 <| wr (sI g19 257 v3.toNatClampNeg v4) fun g21 => k19 (v3 + (1 : Int32)) g21
theorem th66_42 {e : Nat} (he : 4 ≤ e + 1) {v3 : Int32} {v4 : Int32} {v5 : Int32} {k19 : Int32 → hG → hO Unit} {u2 : Option Value} (hk19 : ∀ (x3 : Int32) (y4 : Option Value) (y5 : Option Value) (_ : isL (some y4) = false) (g : hG), Frz g → Tri wU (e + 1) 66 t66_19 [some (.ref 254), some (.ref 250), u2, some (.int x3), y4, y5] [] g (k19 x3 g)) (hu2 : isL (some u2) = false) {g : hG} (hF : Frz g) : Tri wU (e + 1) 66 t66_42 [some (.ref 254), some (.ref 250), u2, some (.int v3), some (.int v4), some (.int v5)] [] g (q_Str_trace_42 v3 v4 v5 k19 g) := by
  unfold q_Str_trace_42
  refine tr_ldA rfl (tr_getP (b := 256) (fk_254 hF) (fp_254_1 hF) (tr_ldI rfl (tr_ldI rfl (tr_astI hF (fk_256 hF) (fl_256 hF) (fun _ g19 _ hF20 => tr_ldA rfl (?_))))))
  refine tr_getP (b := 257) (fk_254 hF20) (fp_254_2 hF20) (tr_ldI rfl (tr_ldI rfl (tr_astI hF20 (fk_257 hF20) (fl_257 hF20) (fun _ g21 _ hF22 => tr_inc rfl (lKill_id hu2) rfl (?_)))))
  refine tr_gotoE e66_19 (?_)
  exact hk19 _ _ _ rfl _ hF22
def q_Str_trace_19 (k54 : hG → hO Unit) (k19 : Int32 → hG → hO Unit) (v3 : Int32) (g : hG) : hO Unit :=
  if (25 : Int32) ≤ v3 then (k54 g) else (q_Str_trace_26L (fun x15 x16 g17 => q_Str_trace_42 v3 x15 x16 k19 g17) FU v3 (0 : Int32) g)
def q_Str_trace_19L (k54 : hG → hO Unit) : Nat → Int32 → hG → hO Unit
  | 0 => fun _ _ => none
  | n + 1 => fun v3 g => q_Str_trace_19 k54 (q_Str_trace_19L k54 n) v3 g
theorem q_Str_trace_19L_s (k54 : hG → hO Unit) (n : Nat) (v3 : Int32) (g : hG) : q_Str_trace_19L k54 (n + 1) v3 g = q_Str_trace_19 k54 (q_Str_trace_19L k54 n) v3 g := rfl
theorem th66_19 {e : Nat} (he : 4 ≤ e + 1) {k54 : hG → hO Unit} {k19 : Int32 → hG → hO Unit} {v3 : Int32} {u2 : Option Value} {u4 : Option Value} {u5 : Option Value} (hk54 : ∀ (y3 : Option Value) (y4 : Option Value) (y5 : Option Value) (_ : isL (some y3) = false) (_ : isL (some y4) = false) (g : hG), Frz g → Tri wU (e + 1) 66 t66_54 [some (.ref 254), some (.ref 250), u2, y3, y4, y5] [] g (k54 g)) (hk19 : ∀ (x3 : Int32) (y4 : Option Value) (y5 : Option Value) (_ : isL (some y4) = false) (g : hG), Frz g → Tri wU (e + 1) 66 t66_19 [some (.ref 254), some (.ref 250), u2, some (.int x3), y4, y5] [] g (k19 x3 g)) (hu2 : isL (some u2) = false) (hu4 : isL (some u4) = false) {g : hG} (hF : Frz g) : Tri wU (e + 1) 66 t66_19 [some (.ref 254), some (.ref 250), u2, some (.int v3), u4, u5] [] g (q_Str_trace_19 k54 k19 v3 g) := by
  unfold q_Str_trace_19
  refine tr_ldI rfl (tr_pushI (?_))
  refine tr_ifj e66_54 (c_ge _ _) (fun hc12 => ?_) (fun hc12 => ?_)
  · exact hk54 _ _ _ rfl hu4 _ hF
  · refine tr_ldI rfl (tr_stI (Nat.le_of_ble_eq_true rfl) rfl rfl (tr_pushI (tr_stI (Nat.le_of_ble_eq_true rfl) rfl rfl (?_))))
    refine th66_26L he (fun x15 x16 g17 hF18 => ?_) hu2 rfl FU _ _ _ hF
    · exact th66_42 he hk19 hu2 hF18
theorem th66_19L {e : Nat} (he : 4 ≤ e + 1) {k54 : hG → hO Unit} {u2 : Option Value} (hk54 : ∀ (y3 : Option Value) (y4 : Option Value) (y5 : Option Value) (_ : isL (some y3) = false) (_ : isL (some y4) = false) (g : hG), Frz g → Tri wU (e + 1) 66 t66_54 [some (.ref 254), some (.ref 250), u2, y3, y4, y5] [] g (k54 g)) (hu2 : isL (some u2) = false) : ∀ (n : Nat) (v3 : Int32) (u4 : Option Value) (u5 : Option Value) (_ : isL (some u4) = false) (g : hG), Frz g → Tri wU (e + 1) 66 t66_19 [some (.ref 254), some (.ref 250), u2, some (.int v3), u4, u5] [] g (q_Str_trace_19L k54 n v3 g)
  | 0 => fun _ _ _ _ _ _ => Tri.none_
  | n + 1 => fun _ _ _ z4 g hF => th66_19 he hk54 (th66_19L he hk54 hu2 n) hu2 z4 hF
def q_Str_trace (v2 : Int32) (g : hG) : hO Unit :=
  wr (sI g 254 5 v2) fun g1 => q_Str_trace_5L (fun g10 => q_Str_trace_19L (fun g26 => some ((), g26)) FU (0 : Int32) g10) FU (0 : Int32) g1
theorem tm66 {d : Nat} {v2 : Int32} (hd : 4 ≤ d) {g : hG} (hF : Frz g) : TM wU d 66 [.ref 254, .ref 250, .int v2] g (q_Str_trace v2 g) := by
  obtain ⟨e, rfl⟩ : ∃ e, d = e + 1 := ⟨d - 1, by omega⟩
  have he := hd
  refine TM.ofE e66_0 (lv := [some (.ref 254), some (.ref 250), some (.int v2), none, none, none]) rfl ?_
  unfold q_Str_trace
  refine tr_ldA rfl (tr_ldI rfl (tr_putI hF (fk_254 hF) (fun g1 _ hF2 => tr_pushI (tr_stI (Nat.le_of_ble_eq_true rfl) rfl rfl (?_)))))
  refine th66_5L he (fun y9 zy9 g10 hF11 => ?_) rfl rfl FU _ _ hF2
  · refine tr_pushI (tr_stI (Nat.le_of_ble_eq_true rfl) rfl rfl (?_))
    refine th66_19L he (fun y23 y24 y25 zy23 zy24 g26 hF27 => ?_) rfl FU _ _ _ rfl _ hF11
    · exact tr_retV hF27
-- MP_traceRuns
abbrev t131_0 : List hOp := oLdA 0 :: oGetP 11 15 :: oLdA 0 :: oGetP 11 1 :: oLdA 0 :: oGetP 11 0 :: oGetI 1 9 :: oInvV 57 6 2 :: oLdA 0 :: oGetP 11 16 :: oLdA 0 :: oGetP 11 15 :: oLdA 0 :: oGetP 11 0 :: oGetI 1 1 :: oInvV 66 7 2 :: oRetV :: []
theorem e131_0 : (opsOf 131).drop 0 = t131_0 := rfl
def q_MP_traceRuns (g : hG) : hO Unit :=
  bnd (q_Slope_face 2 (gI g 1 9) g) fun _ g1 => bnd (q_Str_trace (gI g1 1 1) g1) fun _ g3 => some ((), g3)
theorem tm131 {d : Nat} (hd : 5 ≤ d) {g : hG} (hF : Frz g) : TM wU d 131 [.ref 0] g (q_MP_traceRuns g) := by
  obtain ⟨e, rfl⟩ : ∃ e, d = e + 1 := ⟨d - 1, by omega⟩
  have he := hd
  refine TM.ofE e131_0 (lv := [some (.ref 0)]) rfl ?_
  unfold q_MP_traceRuns
  refine tr_ldA rfl (tr_getP (b := 250) (fk_0 hF) (fp_0_15 hF) (tr_ldA rfl (tr_getP (b := 2) (fk_0 hF) (fp_0_1 hF) (tr_ldA rfl (tr_getP (b := 1) (fk_0 hF) (fp_0_0 hF) (?_))))))
  refine tr_getI (fk_1 hF) (?_)
  refine tr_invVU rfl rfl (fk_250 hF) (Nat.le_of_ble_eq_true rfl) (by decide) (Nat.le_of_ble_eq_true rfl) (tm57 rfl hF) (fun _ g1 _ hF2 => ?_)
  refine tr_ldA rfl (tr_getP (b := 254) (fk_0 hF2) (fp_0_16 hF2) (tr_ldA rfl (tr_getP (b := 250) (fk_0 hF2) (fp_0_15 hF2) (tr_ldA rfl (tr_getP (b := 1) (fk_0 hF2) (fp_0_0 hF2) (?_))))))
  refine tr_getI (fk_1 hF2) (?_)
  refine tr_invVU rfl rfl (fk_254 hF2) (Nat.le_of_ble_eq_true rfl) (by decide) (Nat.le_of_ble_eq_true rfl) (tm66 (by omega) hF2) (fun _ g3 _ hF4 => ?_)
  exact tr_retV hF4
-- Str_placeAfter
abbrev t67_20 : List hOp := oLdI 3 :: oRetI :: []
abbrev t67_4 : List hOp := oLdI 4 :: oLdI 2 :: oIf cGe 20 :: oLdI 4 :: oLdA 0 :: oGetP 7 1 :: oLdI 1 :: oALdI 13 :: oIf cGe 20 :: oLdA 0 :: oGetP 7 0 :: oLdI 3 :: oALdI 13 :: oStI 3 :: oInc 4 1 :: oGoto 4 :: t67_20
abbrev t67_0 : List hOp := oLdI 1 :: oStI 3 :: oPushI 0 :: oStI 4 :: t67_4
theorem e67_0 : (opsOf 67).drop 0 = t67_0 := rfl
theorem e67_4 : (opsOf 67).drop 4 = t67_4 := rfl
theorem e67_20 : (opsOf 67).drop 20 = t67_20 := rfl
def q_Str_placeAfter_4 (v1 : Int32) (v2 : Int32) (k20 : Int32 → hG → hO Int32) (k4 : Int32 → Int32 → hG → hO Int32) (v3 : Int32) (v4 : Int32) (g : hG) : hO Int32 :=
  if v2 ≤ v4 then (k20 v3 g) else (gd v1 25 <| if (gI g 256 v1.toNatClampNeg) ≤ v4 then (k20 v3 g) else (gd v3 25 <| k4 (gI g 255 v3.toNatClampNeg) (v4 + (1 : Int32)) g))
def q_Str_placeAfter_4L (v1 : Int32) (v2 : Int32) (k20 : Int32 → hG → hO Int32) : Nat → Int32 → Int32 → hG → hO Int32
  | 0 => fun _ _ _ => none
  | n + 1 => fun v3 v4 g => q_Str_placeAfter_4 v1 v2 k20 (q_Str_placeAfter_4L v1 v2 k20 n) v3 v4 g
theorem q_Str_placeAfter_4L_s (v1 : Int32) (v2 : Int32) (k20 : Int32 → hG → hO Int32) (n : Nat) (v3 : Int32) (v4 : Int32) (g : hG) : q_Str_placeAfter_4L v1 v2 k20 (n + 1) v3 v4 g = q_Str_placeAfter_4 v1 v2 k20 (q_Str_placeAfter_4L v1 v2 k20 n) v3 v4 g := rfl
theorem th67_4 {d : Nat} {v1 : Int32} {v2 : Int32} {k20 : Int32 → hG → hO Int32} {k4 : Int32 → Int32 → hG → hO Int32} {v3 : Int32} {v4 : Int32} (hk20 : ∀ (x3 : Int32) (y4 : Option Value) (g : hG), Frz g → Tri wI d 67 t67_20 [some (.ref 254), some (.int v1), some (.int v2), some (.int x3), y4] [] g (k20 x3 g)) (hk4 : ∀ (x3 : Int32) (x4 : Int32) (g : hG), Frz g → Tri wI d 67 t67_4 [some (.ref 254), some (.int v1), some (.int v2), some (.int x3), some (.int x4)] [] g (k4 x3 x4 g)) {g : hG} (hF : Frz g) : Tri wI d 67 t67_4 [some (.ref 254), some (.int v1), some (.int v2), some (.int v3), some (.int v4)] [] g (q_Str_placeAfter_4 v1 v2 k20 k4 v3 v4 g) := by
  unfold q_Str_placeAfter_4
  refine tr_ldI rfl (tr_ldI rfl (?_))
  refine tr_ifj e67_20 (c_ge _ _) (fun hc1 => ?_) (fun hc1 => ?_)
  · exact hk20 _ _ _ hF
  · refine tr_ldI rfl (tr_ldA rfl (tr_getP (b := 256) (fk_254 hF) (fp_254_1 hF) (tr_ldI rfl (tr_aldI (fk_256 hF) (fl_256 hF) (fun _ => ?_)))))
    refine tr_ifj e67_20 (c_ge _ _) (fun hc2 => ?_) (fun hc2 => ?_)
    · exact hk20 _ _ _ hF
    · refine tr_ldA rfl (tr_getP (b := 255) (fk_254 hF) (fp_254_0 hF) (tr_ldI rfl (tr_aldI (fk_255 hF) (fl_255 hF) (fun _ => tr_stI (Nat.le_of_ble_eq_true rfl) rfl rfl (tr_inc rfl rfl rfl (?_))))))
      refine tr_gotoE e67_4 (?_)
      exact hk4 _ _ _ hF
theorem th67_4L {d : Nat} {v1 : Int32} {v2 : Int32} {k20 : Int32 → hG → hO Int32} (hk20 : ∀ (x3 : Int32) (y4 : Option Value) (g : hG), Frz g → Tri wI d 67 t67_20 [some (.ref 254), some (.int v1), some (.int v2), some (.int x3), y4] [] g (k20 x3 g)) : ∀ (n : Nat) (v3 : Int32) (v4 : Int32) (g : hG), Frz g → Tri wI d 67 t67_4 [some (.ref 254), some (.int v1), some (.int v2), some (.int v3), some (.int v4)] [] g (q_Str_placeAfter_4L v1 v2 k20 n v3 v4 g)
  | 0 => fun _ _ _ _ => Tri.none_
  | n + 1 => fun _ _ g hF => th67_4 hk20 (th67_4L hk20 n) hF
def q_Str_placeAfter (v1 : Int32) (v2 : Int32) (g : hG) : hO Int32 :=
  q_Str_placeAfter_4L v1 v2 (fun x3 g5 => some (x3, g5)) FU v1 (0 : Int32) g
theorem tm67 {d : Nat} {v1 : Int32} {v2 : Int32} {g : hG} (hF : Frz g) : TM wI d 67 [.ref 254, .int v1, .int v2] g (q_Str_placeAfter v1 v2 g) := by
  refine TM.ofE e67_0 (lv := [some (.ref 254), some (.int v1), some (.int v2), none, none]) rfl ?_
  unfold q_Str_placeAfter
  refine tr_ldI rfl (tr_stI (Nat.le_of_ble_eq_true rfl) rfl rfl (tr_pushI (tr_stI (Nat.le_of_ble_eq_true rfl) rfl rfl (?_))))
  refine th67_4L (fun x3 y4 g5 hF6 => ?_) FU _ _ _ hF
  · refine tr_ldI rfl (?_)
    exact tr_retI hF6
-- MP_run
abbrev t132_24 : List hOp := oRetI :: []
abbrev t132_19 : List hOp := oLdA 0 :: oGetP 11 16 :: oLdI 1 :: oLdI 2 :: oInvV 67 7 2 :: t132_24
abbrev t132_8 : List hOp := oLdA 0 :: oInvV 131 11 0 :: oLdI 2 :: oPushI (-1) :: oIf cNe 19 :: oLdA 0 :: oGetP 11 16 :: oGetP 7 1 :: oLdI 1 :: oALdI 13 :: oGoto 24 :: t132_19
abbrev t132_6 : List hOp := oPushI (-1) :: oRetI :: t132_8
abbrev t132_0 : List hOp := oLdI 1 :: oInvS 159 1 :: oIf0 cEq 6 :: oLdI 2 :: oPushI (-1) :: oIf cGe 8 :: t132_6
theorem e132_0 : (opsOf 132).drop 0 = t132_0 := rfl
theorem e132_6 : (opsOf 132).drop 6 = t132_6 := rfl
theorem e132_8 : (opsOf 132).drop 8 = t132_8 := rfl
theorem e132_19 : (opsOf 132).drop 19 = t132_19 := rfl
theorem e132_24 : (opsOf 132).drop 24 = t132_24 := rfl
def q_MP_run (v1 : Int32) (v2 : Int32) (g : hG) : hO Int32 :=
  bnd (q_MP_isCell v1 g) fun r3 g1 => if r3 = (0 : Int32) then (some ((-1 : Int32), g1)) else (if (-1 : Int32) ≤ v2 then (bnd (q_MP_traceRuns g1) fun _ g6 => if v2 = (-1 : Int32) then (gd v1 25 <| some ((gI g6 256 v1.toNatClampNeg), g6)) else (bnd (q_Str_placeAfter v1 v2 g6) fun r11 g9 => some (r11, g9))) else (some ((-1 : Int32), g1)))
theorem tm132 {d : Nat} {v1 : Int32} {v2 : Int32} (hd : 6 ≤ d) {g : hG} (hF : Frz g) : TM wI d 132 [.ref 0, .int v1, .int v2] g (q_MP_run v1 v2 g) := by
  obtain ⟨e, rfl⟩ : ∃ e, d = e + 1 := ⟨d - 1, by omega⟩
  have he := hd
  refine TM.ofE e132_0 (lv := [some (.ref 0), some (.int v1), some (.int v2)]) rfl ?_
  unfold q_MP_run
  refine tr_ldI rfl (?_)
  refine tr_invSI rfl rfl (Nat.le_of_ble_eq_true rfl) (Nat.le_of_ble_eq_true rfl) (by decide) (Nat.le_of_ble_eq_true rfl) (tm159 hF) (fun r3 g1 _ hF2 => ?_)
  refine tr_if0j e132_6 (c_eq _ _) (fun hc4 => ?_) (fun hc4 => ?_)
  · refine tr_pushI (?_)
    exact tr_retI hF2
  · refine tr_ldI rfl (tr_pushI (?_))
    refine tr_ifj e132_8 (c_ge _ _) (fun hc5 => ?_) (fun hc5 => ?_)
    · refine tr_ldA rfl (?_)
      refine tr_invVU rfl rfl (fk_0 hF2) (Nat.le_of_ble_eq_true rfl) (by decide) (Nat.le_of_ble_eq_true rfl) (tm131 (by omega) hF2) (fun _ g6 _ hF7 => ?_)
      refine tr_ldI rfl (tr_pushI (?_))
      refine tr_ifn e132_19 (c_ne _ _) (fun hc8 => ?_) (fun hc8 => ?_)
      · refine tr_ldA rfl (tr_getP (b := 254) (fk_0 hF7) (fp_0_16 hF7) (tr_ldI rfl (tr_ldI rfl (?_))))
        refine tr_invVI rfl rfl (fk_254 hF7) (Nat.le_of_ble_eq_true rfl) (by decide) (Nat.le_of_ble_eq_true rfl) (tm67 hF7) (fun r11 g9 _ hF10 => ?_)
        exact tr_retI hF10
      · refine tr_ldA rfl (tr_getP (b := 254) (fk_0 hF7) (fp_0_16 hF7) (tr_getP (b := 256) (fk_254 hF7) (fp_254_1 hF7) (tr_ldI rfl (tr_aldI (fk_256 hF7) (fl_256 hF7) (fun _ => ?_)))))
        refine tr_gotoE e132_24 (?_)
        exact tr_retI hF7
    · refine tr_pushI (?_)
      exact tr_retI hF2
-- Str_endingAt
abbrev t69_21 : List hOp := oLdI 2 :: oRetI :: []
abbrev t69_19 : List hOp := oInc 3 1 :: oGoto 4 :: t69_21
abbrev t69_4 : List hOp := oLdI 3 :: oPushI 25 :: oIf cGe 21 :: oLdA 0 :: oGetP 7 2 :: oLdI 3 :: oALdI 13 :: oLdI 1 :: oIf cNe 19 :: oLdI 2 :: oPushI 1 :: oLdI 3 :: oBin (fun x y => x <<< (y &&& 31)) :: oBin (fun x y => x ||| y) :: oStI 2 :: t69_19
abbrev t69_0 : List hOp := oPushI 0 :: oStI 2 :: oPushI 0 :: oStI 3 :: t69_4
theorem e69_0 : (opsOf 69).drop 0 = t69_0 := rfl
theorem e69_4 : (opsOf 69).drop 4 = t69_4 := rfl
theorem e69_19 : (opsOf 69).drop 19 = t69_19 := rfl
theorem e69_21 : (opsOf 69).drop 21 = t69_21 := rfl
def q_Str_endingAt_4 (v1 : Int32) (k21 : Int32 → hG → hO Int32) (k4 : Int32 → Int32 → hG → hO Int32) (v2 : Int32) (v3 : Int32) (g : hG) : hO Int32 :=
  if (25 : Int32) ≤ v3 then (k21 v2 g) else (gd v3 25 <| if (gI g 257 v3.toNatClampNeg) = v1 then (k4 (v2 ||| (shl (1 : Int32) v3)) (v3 + (1 : Int32)) g) else (k4 v2 (v3 + (1 : Int32)) g))
def q_Str_endingAt_4L (v1 : Int32) (k21 : Int32 → hG → hO Int32) : Nat → Int32 → Int32 → hG → hO Int32
  | 0 => fun _ _ _ => none
  | n + 1 => fun v2 v3 g => q_Str_endingAt_4 v1 k21 (q_Str_endingAt_4L v1 k21 n) v2 v3 g
theorem q_Str_endingAt_4L_s (v1 : Int32) (k21 : Int32 → hG → hO Int32) (n : Nat) (v2 : Int32) (v3 : Int32) (g : hG) : q_Str_endingAt_4L v1 k21 (n + 1) v2 v3 g = q_Str_endingAt_4 v1 k21 (q_Str_endingAt_4L v1 k21 n) v2 v3 g := rfl
theorem th69_4 {d : Nat} {v1 : Int32} {k21 : Int32 → hG → hO Int32} {k4 : Int32 → Int32 → hG → hO Int32} {v2 : Int32} {v3 : Int32} (hk21 : ∀ (x2 : Int32) (y3 : Option Value) (g : hG), Frz g → Tri wI d 69 t69_21 [some (.ref 254), some (.int v1), some (.int x2), y3] [] g (k21 x2 g)) (hk4 : ∀ (x2 : Int32) (x3 : Int32) (g : hG), Frz g → Tri wI d 69 t69_4 [some (.ref 254), some (.int v1), some (.int x2), some (.int x3)] [] g (k4 x2 x3 g)) {g : hG} (hF : Frz g) : Tri wI d 69 t69_4 [some (.ref 254), some (.int v1), some (.int v2), some (.int v3)] [] g (q_Str_endingAt_4 v1 k21 k4 v2 v3 g) := by
  unfold q_Str_endingAt_4
  refine tr_ldI rfl (tr_pushI (?_))
  refine tr_ifj e69_21 (c_ge _ _) (fun hc1 => ?_) (fun hc1 => ?_)
  · exact hk21 _ _ _ hF
  · refine tr_ldA rfl (tr_getP (b := 257) (fk_254 hF) (fp_254_2 hF) (tr_ldI rfl (tr_aldI (fk_257 hF) (fl_257 hF) (fun _ => tr_ldI rfl (?_)))))
    refine tr_ifn e69_19 (c_ne _ _) (fun hc2 => ?_) (fun hc2 => ?_)
    · refine tr_inc rfl rfl rfl (?_)
      refine tr_gotoE e69_4 (?_)
      exact hk4 _ _ _ hF
    · refine tr_ldI rfl (tr_pushI (tr_ldI rfl (tr_bin (v := (shl (1 : Int32) v3)) rfl (tr_bin (v := (v2 ||| (shl (1 : Int32) v3))) rfl (tr_stI (Nat.le_of_ble_eq_true rfl) rfl rfl (?_))))))
      refine tr_inc rfl rfl rfl (?_)
      refine tr_gotoE e69_4 (?_)
      exact hk4 _ _ _ hF
theorem th69_4L {d : Nat} {v1 : Int32} {k21 : Int32 → hG → hO Int32} (hk21 : ∀ (x2 : Int32) (y3 : Option Value) (g : hG), Frz g → Tri wI d 69 t69_21 [some (.ref 254), some (.int v1), some (.int x2), y3] [] g (k21 x2 g)) : ∀ (n : Nat) (v2 : Int32) (v3 : Int32) (g : hG), Frz g → Tri wI d 69 t69_4 [some (.ref 254), some (.int v1), some (.int v2), some (.int v3)] [] g (q_Str_endingAt_4L v1 k21 n v2 v3 g)
  | 0 => fun _ _ _ _ => Tri.none_
  | n + 1 => fun _ _ g hF => th69_4 hk21 (th69_4L hk21 n) hF
def q_Str_endingAt (v1 : Int32) (g : hG) : hO Int32 :=
  q_Str_endingAt_4L v1 (fun x3 g5 => some (x3, g5)) FU (0 : Int32) (0 : Int32) g
theorem tm69 {d : Nat} {v1 : Int32} {g : hG} (hF : Frz g) : TM wI d 69 [.ref 254, .int v1] g (q_Str_endingAt v1 g) := by
  refine TM.ofE e69_0 (lv := [some (.ref 254), some (.int v1), none, none]) rfl ?_
  unfold q_Str_endingAt
  refine tr_pushI (tr_stI (Nat.le_of_ble_eq_true rfl) rfl rfl (tr_pushI (tr_stI (Nat.le_of_ble_eq_true rfl) rfl rfl (?_))))
  refine th69_4L (fun x3 y4 g5 hF6 => ?_) FU _ _ _ hF
  · refine tr_ldI rfl (?_)
    exact tr_retI hF6
-- MP_basin
abbrev t133_5 : List hOp := oLdA 0 :: oInvV 131 11 0 :: oLdA 0 :: oGetP 11 16 :: oLdI 1 :: oInvV 69 7 1 :: oRetI :: []
abbrev t133_0 : List hOp := oLdI 1 :: oInvS 159 1 :: oIf0 cNe 5 :: oPushI (-1) :: oRetI :: t133_5
theorem e133_0 : (opsOf 133).drop 0 = t133_0 := rfl
theorem e133_5 : (opsOf 133).drop 5 = t133_5 := rfl
def q_MP_basin (v1 : Int32) (g : hG) : hO Int32 :=
  bnd (q_MP_isCell v1 g) fun r3 g1 => if r3 = (0 : Int32) then (some ((-1 : Int32), g1)) else (bnd (q_MP_traceRuns g1) fun _ g5 => bnd (q_Str_endingAt v1 g5) fun r9 g7 => some (r9, g7))
theorem tm133 {d : Nat} {v1 : Int32} (hd : 6 ≤ d) {g : hG} (hF : Frz g) : TM wI d 133 [.ref 0, .int v1] g (q_MP_basin v1 g) := by
  obtain ⟨e, rfl⟩ : ∃ e, d = e + 1 := ⟨d - 1, by omega⟩
  have he := hd
  refine TM.ofE e133_0 (lv := [some (.ref 0), some (.int v1)]) rfl ?_
  unfold q_MP_basin
  refine tr_ldI rfl (?_)
  refine tr_invSI rfl rfl (Nat.le_of_ble_eq_true rfl) (Nat.le_of_ble_eq_true rfl) (by decide) (Nat.le_of_ble_eq_true rfl) (tm159 hF) (fun r3 g1 _ hF2 => ?_)
  refine tr_if0n e133_5 (c_ne _ _) (fun hc4 => ?_) (fun hc4 => ?_)
  · refine tr_ldA rfl (?_)
    refine tr_invVU rfl rfl (fk_0 hF2) (Nat.le_of_ble_eq_true rfl) (by decide) (Nat.le_of_ble_eq_true rfl) (tm131 (by omega) hF2) (fun _ g5 _ hF6 => ?_)
    refine tr_ldA rfl (tr_getP (b := 254) (fk_0 hF6) (fp_0_16 hF6) (tr_ldI rfl (?_)))
    refine tr_invVI rfl rfl (fk_254 hF6) (Nat.le_of_ble_eq_true rfl) (by decide) (Nat.le_of_ble_eq_true rfl) (tm69 hF6) (fun r9 g7 _ hF8 => ?_)
    exact tr_retI hF8
  · refine tr_pushI (?_)
    exact tr_retI hF2
-- Str_cellsOf
abbrev t70_21 : List hOp := oLdI 2 :: oRetI :: []
abbrev t70_4 : List hOp := oLdI 3 :: oLdA 0 :: oGetP 7 1 :: oLdI 1 :: oALdI 13 :: oIf cGt 21 :: oLdI 2 :: oPushI 1 :: oLdA 0 :: oLdI 1 :: oLdI 3 :: oInvV 67 7 2 :: oBin (fun x y => x <<< (y &&& 31)) :: oBin (fun x y => x ||| y) :: oStI 2 :: oInc 3 1 :: oGoto 4 :: t70_21
abbrev t70_0 : List hOp := oPushI 0 :: oStI 2 :: oPushI 0 :: oStI 3 :: t70_4
theorem e70_0 : (opsOf 70).drop 0 = t70_0 := rfl
theorem e70_4 : (opsOf 70).drop 4 = t70_4 := rfl
theorem e70_21 : (opsOf 70).drop 21 = t70_21 := rfl
def q_Str_cellsOf_4 (v1 : Int32) (k21 : Int32 → hG → hO Int32) (k4 : Int32 → Int32 → hG → hO Int32) (v2 : Int32) (v3 : Int32) (g : hG) : hO Int32 :=
  gd v1 25 <| if (gI g 256 v1.toNatClampNeg) < v3 then (k21 v2 g) else (bnd (q_Str_placeAfter v1 v3 g) fun r4 g2 => k4 (v2 ||| (shl (1 : Int32) r4)) (v3 + (1 : Int32)) g2)
def q_Str_cellsOf_4L (v1 : Int32) (k21 : Int32 → hG → hO Int32) : Nat → Int32 → Int32 → hG → hO Int32
  | 0 => fun _ _ _ => none
  | n + 1 => fun v2 v3 g => q_Str_cellsOf_4 v1 k21 (q_Str_cellsOf_4L v1 k21 n) v2 v3 g
theorem q_Str_cellsOf_4L_s (v1 : Int32) (k21 : Int32 → hG → hO Int32) (n : Nat) (v2 : Int32) (v3 : Int32) (g : hG) : q_Str_cellsOf_4L v1 k21 (n + 1) v2 v3 g = q_Str_cellsOf_4 v1 k21 (q_Str_cellsOf_4L v1 k21 n) v2 v3 g := rfl
theorem th70_4 {e : Nat} (he : 1 ≤ e + 1) {v1 : Int32} {k21 : Int32 → hG → hO Int32} {k4 : Int32 → Int32 → hG → hO Int32} {v2 : Int32} {v3 : Int32} (hk21 : ∀ (x2 : Int32) (y3 : Option Value) (g : hG), Frz g → Tri wI (e + 1) 70 t70_21 [some (.ref 254), some (.int v1), some (.int x2), y3] [] g (k21 x2 g)) (hk4 : ∀ (x2 : Int32) (x3 : Int32) (g : hG), Frz g → Tri wI (e + 1) 70 t70_4 [some (.ref 254), some (.int v1), some (.int x2), some (.int x3)] [] g (k4 x2 x3 g)) {g : hG} (hF : Frz g) : Tri wI (e + 1) 70 t70_4 [some (.ref 254), some (.int v1), some (.int v2), some (.int v3)] [] g (q_Str_cellsOf_4 v1 k21 k4 v2 v3 g) := by
  unfold q_Str_cellsOf_4
  refine tr_ldI rfl (tr_ldA rfl (tr_getP (b := 256) (fk_254 hF) (fp_254_1 hF) (tr_ldI rfl (tr_aldI (fk_256 hF) (fl_256 hF) (fun _ => ?_)))))
  refine tr_ifj e70_21 (c_gt _ _) (fun hc1 => ?_) (fun hc1 => ?_)
  · exact hk21 _ _ _ hF
  · refine tr_ldI rfl (tr_pushI (tr_ldA rfl (tr_ldI rfl (tr_ldI rfl (?_)))))
    refine tr_invVI rfl rfl (fk_254 hF) (Nat.le_of_ble_eq_true rfl) (by decide) (Nat.le_of_ble_eq_true rfl) (tm67 hF) (fun r4 g2 _ hF3 => ?_)
    refine tr_bin (v := (shl (1 : Int32) r4)) rfl (tr_bin (v := (v2 ||| (shl (1 : Int32) r4))) rfl (tr_stI (Nat.le_of_ble_eq_true rfl) rfl rfl (tr_inc rfl rfl rfl (?_))))
    refine tr_gotoE e70_4 (?_)
    exact hk4 _ _ _ hF3
theorem th70_4L {e : Nat} (he : 1 ≤ e + 1) {v1 : Int32} {k21 : Int32 → hG → hO Int32} (hk21 : ∀ (x2 : Int32) (y3 : Option Value) (g : hG), Frz g → Tri wI (e + 1) 70 t70_21 [some (.ref 254), some (.int v1), some (.int x2), y3] [] g (k21 x2 g)) : ∀ (n : Nat) (v2 : Int32) (v3 : Int32) (g : hG), Frz g → Tri wI (e + 1) 70 t70_4 [some (.ref 254), some (.int v1), some (.int v2), some (.int v3)] [] g (q_Str_cellsOf_4L v1 k21 n v2 v3 g)
  | 0 => fun _ _ _ _ => Tri.none_
  | n + 1 => fun _ _ g hF => th70_4 he hk21 (th70_4L he hk21 n) hF
def q_Str_cellsOf (v1 : Int32) (g : hG) : hO Int32 :=
  q_Str_cellsOf_4L v1 (fun x5 g7 => some (x5, g7)) FU (0 : Int32) (0 : Int32) g
theorem tm70 {d : Nat} {v1 : Int32} (hd : 1 ≤ d) {g : hG} (hF : Frz g) : TM wI d 70 [.ref 254, .int v1] g (q_Str_cellsOf v1 g) := by
  obtain ⟨e, rfl⟩ : ∃ e, d = e + 1 := ⟨d - 1, by omega⟩
  have he := hd
  refine TM.ofE e70_0 (lv := [some (.ref 254), some (.int v1), none, none]) rfl ?_
  unfold q_Str_cellsOf
  refine tr_pushI (tr_stI (Nat.le_of_ble_eq_true rfl) rfl rfl (tr_pushI (tr_stI (Nat.le_of_ble_eq_true rfl) rfl rfl (?_))))
  refine th70_4L he (fun x5 y6 g7 hF8 => ?_) FU _ _ _ hF
  · refine tr_ldI rfl (?_)
    exact tr_retI hF8
-- Str_firstOnBoth
abbrev t71_25 : List hOp := oPushI (-1) :: oRetI :: []
abbrev t71_23 : List hOp := oInc 4 1 :: oGoto 6 :: t71_25
abbrev t71_21 : List hOp := oLdI 5 :: oRetI :: t71_23
abbrev t71_6 : List hOp := oLdI 4 :: oLdA 0 :: oGetP 7 1 :: oLdI 1 :: oALdI 13 :: oIf cGt 25 :: oLdA 0 :: oLdI 1 :: oLdI 4 :: oInvV 67 7 2 :: oStI 5 :: oLdI 5 :: oLdI 3 :: oInvS 162 2 :: oIf0 cEq 23 :: t71_21
abbrev t71_0 : List hOp := oLdA 0 :: oLdI 2 :: oInvV 70 7 1 :: oStI 3 :: oPushI 0 :: oStI 4 :: t71_6
theorem e71_0 : (opsOf 71).drop 0 = t71_0 := rfl
theorem e71_6 : (opsOf 71).drop 6 = t71_6 := rfl
theorem e71_23 : (opsOf 71).drop 23 = t71_23 := rfl
theorem e71_25 : (opsOf 71).drop 25 = t71_25 := rfl
def q_Str_firstOnBoth_6 (v1 : Int32) (v3 : Int32) (k25 : hG → hO Int32) (k6 : Int32 → hG → hO Int32) (v4 : Int32) (g : hG) : hO Int32 :=
  gd v1 25 <| if (gI g 256 v1.toNatClampNeg) < v4 then (k25 g) else (bnd (q_Str_placeAfter v1 v4 g) fun r7 g5 => bnd (q_MP_isAmong r7 v3 g5) fun r10 g8 => if r10 = (0 : Int32) then (k6 (v4 + (1 : Int32)) g8) else (some (r7, g8)))
def q_Str_firstOnBoth_6L (v1 : Int32) (v3 : Int32) (k25 : hG → hO Int32) : Nat → Int32 → hG → hO Int32
  | 0 => fun _ _ => none
  | n + 1 => fun v4 g => q_Str_firstOnBoth_6 v1 v3 k25 (q_Str_firstOnBoth_6L v1 v3 k25 n) v4 g
theorem q_Str_firstOnBoth_6L_s (v1 : Int32) (v3 : Int32) (k25 : hG → hO Int32) (n : Nat) (v4 : Int32) (g : hG) : q_Str_firstOnBoth_6L v1 v3 k25 (n + 1) v4 g = q_Str_firstOnBoth_6 v1 v3 k25 (q_Str_firstOnBoth_6L v1 v3 k25 n) v4 g := rfl
theorem th71_6 {e : Nat} (he : 2 ≤ e + 1) {v1 : Int32} {v3 : Int32} {k25 : hG → hO Int32} {k6 : Int32 → hG → hO Int32} {v4 : Int32} {u2 : Option Value} {u5 : Option Value} (hk25 : ∀ (y4 : Option Value) (y5 : Option Value) (_ : isL (some y4) = false) (g : hG), Frz g → Tri wI (e + 1) 71 t71_25 [some (.ref 254), some (.int v1), u2, some (.int v3), y4, y5] [] g (k25 g)) (hk6 : ∀ (x4 : Int32) (y5 : Option Value) (g : hG), Frz g → Tri wI (e + 1) 71 t71_6 [some (.ref 254), some (.int v1), u2, some (.int v3), some (.int x4), y5] [] g (k6 x4 g)) (hu2 : isL (some u2) = false) {g : hG} (hF : Frz g) : Tri wI (e + 1) 71 t71_6 [some (.ref 254), some (.int v1), u2, some (.int v3), some (.int v4), u5] [] g (q_Str_firstOnBoth_6 v1 v3 k25 k6 v4 g) := by
  unfold q_Str_firstOnBoth_6
  refine tr_ldI rfl (tr_ldA rfl (tr_getP (b := 256) (fk_254 hF) (fp_254_1 hF) (tr_ldI rfl (tr_aldI (fk_256 hF) (fl_256 hF) (fun _ => ?_)))))
  refine tr_ifj e71_25 (c_gt _ _) (fun hc4 => ?_) (fun hc4 => ?_)
  · exact hk25 _ _ rfl _ hF
  · refine tr_ldA rfl (tr_ldI rfl (tr_ldI rfl (?_)))
    refine tr_invVI rfl rfl (fk_254 hF) (Nat.le_of_ble_eq_true rfl) (by decide) (Nat.le_of_ble_eq_true rfl) (tm67 hF) (fun r7 g5 _ hF6 => ?_)
    refine tr_stI (Nat.le_of_ble_eq_true rfl) rfl rfl (tr_ldI rfl (tr_ldI rfl (?_)))
    refine tr_invSI rfl rfl (Nat.le_of_ble_eq_true rfl) (Nat.le_of_ble_eq_true rfl) (by decide) (Nat.le_of_ble_eq_true rfl) (tm162 hF6) (fun r10 g8 _ hF9 => ?_)
    refine tr_if0j e71_23 (c_eq _ _) (fun hc11 => ?_) (fun hc11 => ?_)
    · refine tr_inc rfl rfl rfl (?_)
      refine tr_gotoE e71_6 (?_)
      exact hk6 _ _ _ hF9
    · refine tr_ldI rfl (?_)
      exact tr_retI hF9
theorem th71_6L {e : Nat} (he : 2 ≤ e + 1) {v1 : Int32} {v3 : Int32} {k25 : hG → hO Int32} {u2 : Option Value} (hk25 : ∀ (y4 : Option Value) (y5 : Option Value) (_ : isL (some y4) = false) (g : hG), Frz g → Tri wI (e + 1) 71 t71_25 [some (.ref 254), some (.int v1), u2, some (.int v3), y4, y5] [] g (k25 g)) (hu2 : isL (some u2) = false) : ∀ (n : Nat) (v4 : Int32) (u5 : Option Value) (g : hG), Frz g → Tri wI (e + 1) 71 t71_6 [some (.ref 254), some (.int v1), u2, some (.int v3), some (.int v4), u5] [] g (q_Str_firstOnBoth_6L v1 v3 k25 n v4 g)
  | 0 => fun _ _ _ _ => Tri.none_
  | n + 1 => fun _ _ g hF => th71_6 he hk25 (th71_6L he hk25 hu2 n) hu2 hF
def q_Str_firstOnBoth (v1 : Int32) (v2 : Int32) (g : hG) : hO Int32 :=
  bnd (q_Str_cellsOf v2 g) fun r3 g1 => q_Str_firstOnBoth_6L v1 r3 (fun g14 => some ((-1 : Int32), g14)) FU (0 : Int32) g1
theorem tm71 {d : Nat} {v1 : Int32} {v2 : Int32} (hd : 2 ≤ d) {g : hG} (hF : Frz g) : TM wI d 71 [.ref 254, .int v1, .int v2] g (q_Str_firstOnBoth v1 v2 g) := by
  obtain ⟨e, rfl⟩ : ∃ e, d = e + 1 := ⟨d - 1, by omega⟩
  have he := hd
  refine TM.ofE e71_0 (lv := [some (.ref 254), some (.int v1), some (.int v2), none, none, none]) rfl ?_
  unfold q_Str_firstOnBoth
  refine tr_ldA rfl (tr_ldI rfl (?_))
  refine tr_invVI rfl rfl (fk_254 hF) (Nat.le_of_ble_eq_true rfl) (by decide) (Nat.le_of_ble_eq_true rfl) (tm70 (by omega) hF) (fun r3 g1 _ hF2 => ?_)
  refine tr_stI (Nat.le_of_ble_eq_true rfl) rfl rfl (tr_pushI (tr_stI (Nat.le_of_ble_eq_true rfl) rfl rfl (?_)))
  refine th71_6L he (fun y12 y13 zy12 g14 hF15 => ?_) rfl FU _ _ _ hF2
  · refine tr_pushI (?_)
    exact tr_retI hF15
-- MP_meeting
abbrev t134_8 : List hOp := oLdA 0 :: oInvV 131 11 0 :: oLdA 0 :: oGetP 11 16 :: oLdI 1 :: oLdI 2 :: oInvV 71 7 2 :: oRetI :: []
abbrev t134_6 : List hOp := oPushI (-1) :: oRetI :: t134_8
abbrev t134_0 : List hOp := oLdI 1 :: oInvS 159 1 :: oIf0 cEq 6 :: oLdI 2 :: oInvS 159 1 :: oIf0 cNe 8 :: t134_6
theorem e134_0 : (opsOf 134).drop 0 = t134_0 := rfl
theorem e134_6 : (opsOf 134).drop 6 = t134_6 := rfl
theorem e134_8 : (opsOf 134).drop 8 = t134_8 := rfl
def q_MP_meeting (v1 : Int32) (v2 : Int32) (g : hG) : hO Int32 :=
  bnd (q_MP_isCell v1 g) fun r3 g1 => if r3 = (0 : Int32) then (some ((-1 : Int32), g1)) else (bnd (q_MP_isCell v2 g1) fun r7 g5 => if r7 = (0 : Int32) then (some ((-1 : Int32), g5)) else (bnd (q_MP_traceRuns g5) fun _ g9 => bnd (q_Str_firstOnBoth v1 v2 g9) fun r13 g11 => some (r13, g11)))
theorem tm134 {d : Nat} {v1 : Int32} {v2 : Int32} (hd : 6 ≤ d) {g : hG} (hF : Frz g) : TM wI d 134 [.ref 0, .int v1, .int v2] g (q_MP_meeting v1 v2 g) := by
  obtain ⟨e, rfl⟩ : ∃ e, d = e + 1 := ⟨d - 1, by omega⟩
  have he := hd
  refine TM.ofE e134_0 (lv := [some (.ref 0), some (.int v1), some (.int v2)]) rfl ?_
  unfold q_MP_meeting
  refine tr_ldI rfl (?_)
  refine tr_invSI rfl rfl (Nat.le_of_ble_eq_true rfl) (Nat.le_of_ble_eq_true rfl) (by decide) (Nat.le_of_ble_eq_true rfl) (tm159 hF) (fun r3 g1 _ hF2 => ?_)
  refine tr_if0j e134_6 (c_eq _ _) (fun hc4 => ?_) (fun hc4 => ?_)
  · refine tr_pushI (?_)
    exact tr_retI hF2
  · refine tr_ldI rfl (?_)
    refine tr_invSI rfl rfl (Nat.le_of_ble_eq_true rfl) (Nat.le_of_ble_eq_true rfl) (by decide) (Nat.le_of_ble_eq_true rfl) (tm159 hF2) (fun r7 g5 _ hF6 => ?_)
    refine tr_if0n e134_8 (c_ne _ _) (fun hc8 => ?_) (fun hc8 => ?_)
    · refine tr_ldA rfl (?_)
      refine tr_invVU rfl rfl (fk_0 hF6) (Nat.le_of_ble_eq_true rfl) (by decide) (Nat.le_of_ble_eq_true rfl) (tm131 (by omega) hF6) (fun _ g9 _ hF10 => ?_)
      refine tr_ldA rfl (tr_getP (b := 254) (fk_0 hF10) (fp_0_16 hF10) (tr_ldI rfl (tr_ldI rfl (?_))))
      refine tr_invVI rfl rfl (fk_254 hF10) (Nat.le_of_ble_eq_true rfl) (by decide) (Nat.le_of_ble_eq_true rfl) (tm71 (by omega) hF10) (fun r13 g11 _ hF12 => ?_)
      exact tr_retI hF12
    · refine tr_pushI (?_)
      exact tr_retI hF6
-- Str_isGone
abbrev t68_17 : List hOp := oRetZ :: []
abbrev t68_16 : List hOp := oPushI 0 :: t68_17
abbrev t68_0 : List hOp := oLdA 0 :: oGetP 7 2 :: oLdI 1 :: oALdI 13 :: oLdA 0 :: oGetI 7 5 :: oInvS 162 2 :: oIf0 cEq 16 :: oLdI 2 :: oLdA 0 :: oGetP 7 1 :: oLdI 1 :: oALdI 13 :: oIf cLe 16 :: oPushI 1 :: oGoto 17 :: t68_16
theorem e68_0 : (opsOf 68).drop 0 = t68_0 := rfl
theorem e68_16 : (opsOf 68).drop 16 = t68_16 := rfl
theorem e68_17 : (opsOf 68).drop 17 = t68_17 := rfl
def q_Str_isGone (v1 : Int32) (v2 : Int32) (g : hG) : hO Int32 :=
  gd v1 25 <| bnd (q_MP_isAmong (gI g 257 v1.toNatClampNeg) (gI g 254 5) g) fun r3 g1 => if r3 = (0 : Int32) then (some ((0 : Int32), g1)) else (gd v1 25 <| if v2 ≤ (gI g1 256 v1.toNatClampNeg) then (some ((0 : Int32), g1)) else (some ((1 : Int32), g1)))
theorem tm68 {d : Nat} {v1 : Int32} {v2 : Int32} (hd : 1 ≤ d) {g : hG} (hF : Frz g) : TM wI d 68 [.ref 254, .int v1, .int v2] g (q_Str_isGone v1 v2 g) := by
  obtain ⟨e, rfl⟩ : ∃ e, d = e + 1 := ⟨d - 1, by omega⟩
  have he := hd
  refine TM.ofE e68_0 (lv := [some (.ref 254), some (.int v1), some (.int v2)]) rfl ?_
  unfold q_Str_isGone
  refine tr_ldA rfl (tr_getP (b := 257) (fk_254 hF) (fp_254_2 hF) (tr_ldI rfl (tr_aldI (fk_257 hF) (fl_257 hF) (fun _ => tr_ldA rfl (tr_getI (fk_254 hF) (?_))))))
  refine tr_invSI rfl rfl (Nat.le_of_ble_eq_true rfl) (Nat.le_of_ble_eq_true rfl) (by decide) (Nat.le_of_ble_eq_true rfl) (tm162 hF) (fun r3 g1 _ hF2 => ?_)
  refine tr_if0j e68_16 (c_eq _ _) (fun hc4 => ?_) (fun hc4 => ?_)
  · refine tr_pushI (?_)
    exact tr_retZl (Or.inl rfl) hF2
  · refine tr_ldI rfl (tr_ldA rfl (tr_getP (b := 256) (fk_254 hF2) (fp_254_1 hF2) (tr_ldI rfl (tr_aldI (fk_256 hF2) (fl_256 hF2) (fun _ => ?_)))))
    refine tr_ifj e68_16 (c_le _ _) (fun hc5 => ?_) (fun hc5 => ?_)
    · refine tr_pushI (?_)
      exact tr_retZl (Or.inl rfl) hF2
    · refine tr_pushI (?_)
      refine tr_gotoE e68_17 (?_)
      exact tr_retZl (Or.inr rfl) hF2
-- Str_everOnOne
abbrev t72_38 : List hOp := oPushI 0 :: oRetZ :: []
abbrev t72_36 : List hOp := oInc 4 1 :: oGoto 2 :: t72_38
abbrev t72_34 : List hOp := oPushI 1 :: oRetZ :: t72_36
abbrev t72_20 : List hOp := oStI 5 :: oLdI 5 :: oIf0 cEq 36 :: oLdA 0 :: oLdI 1 :: oLdI 4 :: oLdI 3 :: oBin (fun x y => x + y) :: oInvV 67 7 2 :: oLdA 0 :: oLdI 2 :: oLdI 4 :: oInvV 67 7 2 :: oIf cNe 36 :: t72_34
abbrev t72_19 : List hOp := oPushI 0 :: t72_20
abbrev t72_2 : List hOp := oLdI 4 :: oPushI 25 :: oIf cGt 38 :: oLdA 0 :: oLdI 1 :: oLdI 4 :: oLdI 3 :: oBin (fun x y => x + y) :: oInvV 68 7 2 :: oIf0 cNe 19 :: oLdA 0 :: oLdI 2 :: oLdI 4 :: oInvV 68 7 2 :: oIf0 cNe 19 :: oPushI 1 :: oGoto 20 :: t72_19
abbrev t72_0 : List hOp := oPushI 0 :: oStI 4 :: t72_2
theorem e72_0 : (opsOf 72).drop 0 = t72_0 := rfl
theorem e72_2 : (opsOf 72).drop 2 = t72_2 := rfl
theorem e72_19 : (opsOf 72).drop 19 = t72_19 := rfl
theorem e72_20 : (opsOf 72).drop 20 = t72_20 := rfl
theorem e72_36 : (opsOf 72).drop 36 = t72_36 := rfl
theorem e72_38 : (opsOf 72).drop 38 = t72_38 := rfl
def q_Str_everOnOne_20 (v1 : Int32) (v2 : Int32) (v3 : Int32) (v4 : Int32) (k2 : Int32 → hG → hO Int32) (w0 : Int32) (g : hG) : hO Int32 :=
  if w0 = (0 : Int32) then (k2 (v4 + (1 : Int32)) g) else (bnd (q_Str_placeAfter v1 (v4 + v3) g) fun r9 g7 => bnd (q_Str_placeAfter v2 v4 g7) fun r12 g10 => if r9 = r12 then (some ((1 : Int32), g10)) else (k2 (v4 + (1 : Int32)) g10))
theorem th72_20 {e : Nat} (he : 2 ≤ e + 1) {v1 : Int32} {v2 : Int32} {v3 : Int32} {v4 : Int32} {k2 : Int32 → hG → hO Int32} {w0 : Int32} {u5 : Option Value} (hk2 : ∀ (x4 : Int32) (y5 : Option Value) (g : hG), Frz g → Tri wI (e + 1) 72 t72_2 [some (.ref 254), some (.int v1), some (.int v2), some (.int v3), some (.int x4), y5] [] g (k2 x4 g)) {g : hG} (hF : Frz g) : Tri wI (e + 1) 72 t72_20 [some (.ref 254), some (.int v1), some (.int v2), some (.int v3), some (.int v4), u5] [.int w0] g (q_Str_everOnOne_20 v1 v2 v3 v4 k2 w0 g) := by
  unfold q_Str_everOnOne_20
  refine tr_stI (Nat.le_of_ble_eq_true rfl) rfl rfl (tr_ldI rfl (?_))
  refine tr_if0j e72_36 (c_eq _ _) (fun hc6 => ?_) (fun hc6 => ?_)
  · refine tr_inc rfl rfl rfl (?_)
    refine tr_gotoE e72_2 (?_)
    exact hk2 _ _ _ hF
  · refine tr_ldA rfl (tr_ldI rfl (tr_ldI rfl (tr_ldI rfl (tr_bin (v := (v4 + v3)) rfl (?_)))))
    refine tr_invVI rfl rfl (fk_254 hF) (Nat.le_of_ble_eq_true rfl) (by decide) (Nat.le_of_ble_eq_true rfl) (tm67 hF) (fun r9 g7 _ hF8 => ?_)
    refine tr_ldA rfl (tr_ldI rfl (tr_ldI rfl (?_)))
    refine tr_invVI rfl rfl (fk_254 hF8) (Nat.le_of_ble_eq_true rfl) (by decide) (Nat.le_of_ble_eq_true rfl) (tm67 hF8) (fun r12 g10 _ hF11 => ?_)
    refine tr_ifn e72_36 (c_ne _ _) (fun hc13 => ?_) (fun hc13 => ?_)
    · refine tr_inc rfl rfl rfl (?_)
      refine tr_gotoE e72_2 (?_)
      exact hk2 _ _ _ hF11
    · refine tr_pushI (?_)
      exact tr_retZl (Or.inr rfl) hF11
def q_Str_everOnOne_19 (v1 : Int32) (v2 : Int32) (v3 : Int32) (v4 : Int32) (k2 : Int32 → hG → hO Int32) (g : hG) : hO Int32 :=
  q_Str_everOnOne_20 v1 v2 v3 v4 k2 (0 : Int32) g
theorem th72_19 {e : Nat} (he : 2 ≤ e + 1) {v1 : Int32} {v2 : Int32} {v3 : Int32} {v4 : Int32} {k2 : Int32 → hG → hO Int32} {u5 : Option Value} (hk2 : ∀ (x4 : Int32) (y5 : Option Value) (g : hG), Frz g → Tri wI (e + 1) 72 t72_2 [some (.ref 254), some (.int v1), some (.int v2), some (.int v3), some (.int x4), y5] [] g (k2 x4 g)) {g : hG} (hF : Frz g) : Tri wI (e + 1) 72 t72_19 [some (.ref 254), some (.int v1), some (.int v2), some (.int v3), some (.int v4), u5] [] g (q_Str_everOnOne_19 v1 v2 v3 v4 k2 g) := by
  unfold q_Str_everOnOne_19
  refine tr_pushI (?_)
  exact th72_20 he hk2 hF
def q_Str_everOnOne_2 (v1 : Int32) (v2 : Int32) (v3 : Int32) (k38 : hG → hO Int32) (k2 : Int32 → hG → hO Int32) (v4 : Int32) (g : hG) : hO Int32 :=
  if (25 : Int32) < v4 then (k38 g) else (bnd (q_Str_isGone v1 (v4 + v3) g) fun r4 g2 => if r4 = (0 : Int32) then (bnd (q_Str_isGone v2 v4 g2) fun r16 g14 => q_Str_everOnOne_20 v1 v2 v3 v4 k2 (if r16 = (0 : Int32) then (1 : Int32) else (0 : Int32)) g14) else (q_Str_everOnOne_19 v1 v2 v3 v4 k2 g2))
def q_Str_everOnOne_2L (v1 : Int32) (v2 : Int32) (v3 : Int32) (k38 : hG → hO Int32) : Nat → Int32 → hG → hO Int32
  | 0 => fun _ _ => none
  | n + 1 => fun v4 g => q_Str_everOnOne_2 v1 v2 v3 k38 (q_Str_everOnOne_2L v1 v2 v3 k38 n) v4 g
theorem q_Str_everOnOne_2L_s (v1 : Int32) (v2 : Int32) (v3 : Int32) (k38 : hG → hO Int32) (n : Nat) (v4 : Int32) (g : hG) : q_Str_everOnOne_2L v1 v2 v3 k38 (n + 1) v4 g = q_Str_everOnOne_2 v1 v2 v3 k38 (q_Str_everOnOne_2L v1 v2 v3 k38 n) v4 g := rfl
theorem th72_2 {e : Nat} (he : 2 ≤ e + 1) {v1 : Int32} {v2 : Int32} {v3 : Int32} {k38 : hG → hO Int32} {k2 : Int32 → hG → hO Int32} {v4 : Int32} {u5 : Option Value} (hk38 : ∀ (y4 : Option Value) (y5 : Option Value) (_ : isL (some y4) = false) (g : hG), Frz g → Tri wI (e + 1) 72 t72_38 [some (.ref 254), some (.int v1), some (.int v2), some (.int v3), y4, y5] [] g (k38 g)) (hk2 : ∀ (x4 : Int32) (y5 : Option Value) (g : hG), Frz g → Tri wI (e + 1) 72 t72_2 [some (.ref 254), some (.int v1), some (.int v2), some (.int v3), some (.int x4), y5] [] g (k2 x4 g)) {g : hG} (hF : Frz g) : Tri wI (e + 1) 72 t72_2 [some (.ref 254), some (.int v1), some (.int v2), some (.int v3), some (.int v4), u5] [] g (q_Str_everOnOne_2 v1 v2 v3 k38 k2 v4 g) := by
  unfold q_Str_everOnOne_2
  refine tr_ldI rfl (tr_pushI (?_))
  refine tr_ifj e72_38 (c_gt _ _) (fun hc1 => ?_) (fun hc1 => ?_)
  · exact hk38 _ _ rfl _ hF
  · refine tr_ldA rfl (tr_ldI rfl (tr_ldI rfl (tr_ldI rfl (tr_bin (v := (v4 + v3)) rfl (?_)))))
    refine tr_invVI rfl rfl (fk_254 hF) (Nat.le_of_ble_eq_true rfl) (by decide) (Nat.le_of_ble_eq_true rfl) (tm68 (by omega) hF) (fun r4 g2 _ hF3 => ?_)
    refine tr_if0n e72_19 (c_ne _ _) (fun hc5 => ?_) (fun hc5 => ?_)
    · exact th72_19 he hk2 hF3
    · refine tr_ldA rfl (tr_ldI rfl (tr_ldI rfl (?_)))
      refine tr_invVI rfl rfl (fk_254 hF3) (Nat.le_of_ble_eq_true rfl) (by decide) (Nat.le_of_ble_eq_true rfl) (tm68 (by omega) hF3) (fun r16 g14 _ hF15 => ?_)
      refine tr_if0cE e72_19 (c_ne _ _) (fun hc18 => ?_) (fun hc18 => ?_)
      · rw [if_neg hc18]
        refine tr_pushI (?_)
        exact th72_20 he hk2 hF15
      · rw [if_pos (Decidable.not_not.mp hc18)]
        refine tr_pushI (?_)
        refine tr_gotoE e72_20 (?_)
        exact th72_20 he hk2 hF15
theorem th72_2L {e : Nat} (he : 2 ≤ e + 1) {v1 : Int32} {v2 : Int32} {v3 : Int32} {k38 : hG → hO Int32} (hk38 : ∀ (y4 : Option Value) (y5 : Option Value) (_ : isL (some y4) = false) (g : hG), Frz g → Tri wI (e + 1) 72 t72_38 [some (.ref 254), some (.int v1), some (.int v2), some (.int v3), y4, y5] [] g (k38 g)) : ∀ (n : Nat) (v4 : Int32) (u5 : Option Value) (g : hG), Frz g → Tri wI (e + 1) 72 t72_2 [some (.ref 254), some (.int v1), some (.int v2), some (.int v3), some (.int v4), u5] [] g (q_Str_everOnOne_2L v1 v2 v3 k38 n v4 g)
  | 0 => fun _ _ _ _ => Tri.none_
  | n + 1 => fun _ _ g hF => th72_2 he hk38 (th72_2L he hk38 n) hF
def q_Str_everOnOne (v1 : Int32) (v2 : Int32) (v3 : Int32) (g : hG) : hO Int32 :=
  q_Str_everOnOne_2L v1 v2 v3 (fun g21 => some ((0 : Int32), g21)) FU (0 : Int32) g
theorem tm72 {d : Nat} {v1 : Int32} {v2 : Int32} {v3 : Int32} (hd : 2 ≤ d) {g : hG} (hF : Frz g) : TM wI d 72 [.ref 254, .int v1, .int v2, .int v3] g (q_Str_everOnOne v1 v2 v3 g) := by
  obtain ⟨e, rfl⟩ : ∃ e, d = e + 1 := ⟨d - 1, by omega⟩
  have he := hd
  refine TM.ofE e72_0 (lv := [some (.ref 254), some (.int v1), some (.int v2), some (.int v3), none, none]) rfl ?_
  unfold q_Str_everOnOne
  refine tr_pushI (tr_stI (Nat.le_of_ble_eq_true rfl) rfl rfl (?_))
  refine th72_2L he (fun y19 y20 zy19 g21 hF22 => ?_) FU _ _ _ hF
  · refine tr_pushI (?_)
    exact tr_retZl (Or.inl rfl) hF22
-- MP_delay
abbrev t135_26 : List hOp := oPushI (-1) :: oRetI :: []
abbrev t135_24 : List hOp := oInc 3 1 :: oGoto 12 :: t135_26
abbrev t135_22 : List hOp := oLdI 3 :: oRetI :: t135_24
abbrev t135_12 : List hOp := oLdI 3 :: oPushI 30 :: oIf cGt 26 :: oLdA 0 :: oGetP 11 16 :: oLdI 1 :: oLdI 2 :: oLdI 3 :: oInvV 72 7 3 :: oIf0 cNe 24 :: t135_22
abbrev t135_8 : List hOp := oLdA 0 :: oInvV 131 11 0 :: oPushI 0 :: oStI 3 :: t135_12
abbrev t135_6 : List hOp := oPushI (-1) :: oRetI :: t135_8
abbrev t135_0 : List hOp := oLdI 1 :: oInvS 159 1 :: oIf0 cEq 6 :: oLdI 2 :: oInvS 159 1 :: oIf0 cNe 8 :: t135_6
theorem e135_0 : (opsOf 135).drop 0 = t135_0 := rfl
theorem e135_6 : (opsOf 135).drop 6 = t135_6 := rfl
theorem e135_8 : (opsOf 135).drop 8 = t135_8 := rfl
theorem e135_12 : (opsOf 135).drop 12 = t135_12 := rfl
theorem e135_24 : (opsOf 135).drop 24 = t135_24 := rfl
theorem e135_26 : (opsOf 135).drop 26 = t135_26 := rfl
def q_MP_delay_12 (v1 : Int32) (v2 : Int32) (k26 : hG → hO Int32) (k12 : Int32 → hG → hO Int32) (v3 : Int32) (g : hG) : hO Int32 :=
  if (30 : Int32) < v3 then (k26 g) else (bnd (q_Str_everOnOne v1 v2 v3 g) fun r14 g12 => if r14 = (0 : Int32) then (some (v3, g12)) else (k12 (v3 + (1 : Int32)) g12))
def q_MP_delay_12L (v1 : Int32) (v2 : Int32) (k26 : hG → hO Int32) : Nat → Int32 → hG → hO Int32
  | 0 => fun _ _ => none
  | n + 1 => fun v3 g => q_MP_delay_12 v1 v2 k26 (q_MP_delay_12L v1 v2 k26 n) v3 g
theorem q_MP_delay_12L_s (v1 : Int32) (v2 : Int32) (k26 : hG → hO Int32) (n : Nat) (v3 : Int32) (g : hG) : q_MP_delay_12L v1 v2 k26 (n + 1) v3 g = q_MP_delay_12 v1 v2 k26 (q_MP_delay_12L v1 v2 k26 n) v3 g := rfl
theorem th135_12 {e : Nat} (he : 6 ≤ e + 1) {v1 : Int32} {v2 : Int32} {k26 : hG → hO Int32} {k12 : Int32 → hG → hO Int32} {v3 : Int32} (hk26 : ∀ (y3 : Option Value) (g : hG), Frz g → Tri wI (e + 1) 135 t135_26 [some (.ref 0), some (.int v1), some (.int v2), y3] [] g (k26 g)) (hk12 : ∀ (x3 : Int32) (g : hG), Frz g → Tri wI (e + 1) 135 t135_12 [some (.ref 0), some (.int v1), some (.int v2), some (.int x3)] [] g (k12 x3 g)) {g : hG} (hF : Frz g) : Tri wI (e + 1) 135 t135_12 [some (.ref 0), some (.int v1), some (.int v2), some (.int v3)] [] g (q_MP_delay_12 v1 v2 k26 k12 v3 g) := by
  unfold q_MP_delay_12
  refine tr_ldI rfl (tr_pushI (?_))
  refine tr_ifj e135_26 (c_gt _ _) (fun hc11 => ?_) (fun hc11 => ?_)
  · exact hk26 _ _ hF
  · refine tr_ldA rfl (tr_getP (b := 254) (fk_0 hF) (fp_0_16 hF) (tr_ldI rfl (tr_ldI rfl (tr_ldI rfl (?_)))))
    refine tr_invVI rfl rfl (fk_254 hF) (Nat.le_of_ble_eq_true rfl) (by decide) (Nat.le_of_ble_eq_true rfl) (tm72 (by omega) hF) (fun r14 g12 _ hF13 => ?_)
    refine tr_if0n e135_24 (c_ne _ _) (fun hc15 => ?_) (fun hc15 => ?_)
    · refine tr_inc rfl rfl rfl (?_)
      refine tr_gotoE e135_12 (?_)
      exact hk12 _ _ hF13
    · refine tr_ldI rfl (?_)
      exact tr_retI hF13
theorem th135_12L {e : Nat} (he : 6 ≤ e + 1) {v1 : Int32} {v2 : Int32} {k26 : hG → hO Int32} (hk26 : ∀ (y3 : Option Value) (g : hG), Frz g → Tri wI (e + 1) 135 t135_26 [some (.ref 0), some (.int v1), some (.int v2), y3] [] g (k26 g)) : ∀ (n : Nat) (v3 : Int32) (g : hG), Frz g → Tri wI (e + 1) 135 t135_12 [some (.ref 0), some (.int v1), some (.int v2), some (.int v3)] [] g (q_MP_delay_12L v1 v2 k26 n v3 g)
  | 0 => fun _ _ _ => Tri.none_
  | n + 1 => fun _ g hF => th135_12 he hk26 (th135_12L he hk26 n) hF
def q_MP_delay (v1 : Int32) (v2 : Int32) (g : hG) : hO Int32 :=
  bnd (q_MP_isCell v1 g) fun r3 g1 => if r3 = (0 : Int32) then (some ((-1 : Int32), g1)) else (bnd (q_MP_isCell v2 g1) fun r7 g5 => if r7 = (0 : Int32) then (some ((-1 : Int32), g5)) else (bnd (q_MP_traceRuns g5) fun _ g9 => q_MP_delay_12L v1 v2 (fun g17 => some ((-1 : Int32), g17)) FU (0 : Int32) g9))
theorem tm135 {d : Nat} {v1 : Int32} {v2 : Int32} (hd : 6 ≤ d) {g : hG} (hF : Frz g) : TM wI d 135 [.ref 0, .int v1, .int v2] g (q_MP_delay v1 v2 g) := by
  obtain ⟨e, rfl⟩ : ∃ e, d = e + 1 := ⟨d - 1, by omega⟩
  have he := hd
  refine TM.ofE e135_0 (lv := [some (.ref 0), some (.int v1), some (.int v2), none]) rfl ?_
  unfold q_MP_delay
  refine tr_ldI rfl (?_)
  refine tr_invSI rfl rfl (Nat.le_of_ble_eq_true rfl) (Nat.le_of_ble_eq_true rfl) (by decide) (Nat.le_of_ble_eq_true rfl) (tm159 hF) (fun r3 g1 _ hF2 => ?_)
  refine tr_if0j e135_6 (c_eq _ _) (fun hc4 => ?_) (fun hc4 => ?_)
  · refine tr_pushI (?_)
    exact tr_retI hF2
  · refine tr_ldI rfl (?_)
    refine tr_invSI rfl rfl (Nat.le_of_ble_eq_true rfl) (Nat.le_of_ble_eq_true rfl) (by decide) (Nat.le_of_ble_eq_true rfl) (tm159 hF2) (fun r7 g5 _ hF6 => ?_)
    refine tr_if0n e135_8 (c_ne _ _) (fun hc8 => ?_) (fun hc8 => ?_)
    · refine tr_ldA rfl (?_)
      refine tr_invVU rfl rfl (fk_0 hF6) (Nat.le_of_ble_eq_true rfl) (by decide) (Nat.le_of_ble_eq_true rfl) (tm131 (by omega) hF6) (fun _ g9 _ hF10 => ?_)
      refine tr_pushI (tr_stI (Nat.le_of_ble_eq_true rfl) rfl rfl (?_))
      refine th135_12L he (fun y16 g17 hF18 => ?_) FU _ _ hF10
      · refine tr_pushI (?_)
        exact tr_retI hF18
    · refine tr_pushI (?_)
      exact tr_retI hF6
-- Ji_numberOfTrailingZeros
abbrev t7_48 : List hOp := oLdI 1 :: oLdI 0 :: oPushI 1 :: oBin (fun x y => (x.toUInt32 >>> (y.toUInt32 &&& Int32.toUInt32 31)).toInt32) :: oBin (fun x y => x + y) :: oRetI :: []
abbrev t7_40 : List hOp := oLdI 0 :: oPushI 4 :: oIf cLe 48 :: oInc 1 2 :: oLdI 0 :: oPushI 2 :: oBin (fun x y => (x.toUInt32 >>> (y.toUInt32 &&& Int32.toUInt32 31)).toInt32) :: oStI 0 :: t7_48
abbrev t7_32 : List hOp := oLdI 0 :: oPushI 16 :: oIf cLe 40 :: oInc 1 4 :: oLdI 0 :: oPushI 4 :: oBin (fun x y => (x.toUInt32 >>> (y.toUInt32 &&& Int32.toUInt32 31)).toInt32) :: oStI 0 :: t7_40
abbrev t7_24 : List hOp := oLdI 0 :: oPushI 256 :: oIf cLe 32 :: oInc 1 8 :: oLdI 0 :: oPushI 8 :: oBin (fun x y => (x.toUInt32 >>> (y.toUInt32 &&& Int32.toUInt32 31)).toInt32) :: oStI 0 :: t7_32
abbrev t7_14 : List hOp := oPushI 1 :: oStI 1 :: oLdI 0 :: oPushI 65536 :: oIf cLe 24 :: oInc 1 16 :: oLdI 0 :: oPushI 16 :: oBin (fun x y => (x.toUInt32 >>> (y.toUInt32 &&& Int32.toUInt32 31)).toInt32) :: oStI 0 :: t7_24
abbrev t7_0 : List hOp := oLdI 0 :: oPushI (-1) :: oBin (fun x y => x ^^^ y) :: oLdI 0 :: oPushI 1 :: oBin (fun x y => x - y) :: oBin (fun x y => x &&& y) :: oStI 0 :: oLdI 0 :: oIf0 cGt 14 :: oLdI 0 :: oPushI 32 :: oBin (fun x y => x &&& y) :: oRetI :: t7_14
theorem e7_0 : (opsOf 7).drop 0 = t7_0 := rfl
theorem e7_14 : (opsOf 7).drop 14 = t7_14 := rfl
theorem e7_24 : (opsOf 7).drop 24 = t7_24 := rfl
theorem e7_32 : (opsOf 7).drop 32 = t7_32 := rfl
theorem e7_40 : (opsOf 7).drop 40 = t7_40 := rfl
theorem e7_48 : (opsOf 7).drop 48 = t7_48 := rfl
def q_Ji_numberOfTrailingZeros_40 (v0 : Int32) (v1 : Int32) (g : hG) : hO Int32 :=
  if v0 ≤ (4 : Int32) then (some ((v1 + (ushr v0 (1 : Int32))), g)) else (some (((v1 + (2 : Int32)) + (ushr (ushr v0 (2 : Int32)) (1 : Int32))), g))
theorem th7_40 {d : Nat} {v0 : Int32} {v1 : Int32} {g : hG} (hF : Frz g) : Tri wI d 7 t7_40 [some (.int v0), some (.int v1)] [] g (q_Ji_numberOfTrailingZeros_40 v0 v1 g) := by
  unfold q_Ji_numberOfTrailingZeros_40
  refine tr_ldI rfl (tr_pushI (?_))
  refine tr_ifj e7_48 (c_le _ _) (fun hc5 => ?_) (fun hc5 => ?_)
  · refine tr_ldI rfl (tr_ldI rfl (tr_pushI (tr_bin (v := (ushr v0 (1 : Int32))) rfl (tr_bin (v := (v1 + (ushr v0 (1 : Int32)))) rfl (?_)))))
    exact tr_retI hF
  · refine tr_inc rfl rfl rfl (tr_ldI rfl (tr_pushI (tr_bin (v := (ushr v0 (2 : Int32))) rfl (tr_stI (Nat.le_of_ble_eq_true rfl) rfl rfl (tr_ldI rfl (?_))))))
    refine tr_ldI rfl (tr_pushI (tr_bin (v := (ushr (ushr v0 (2 : Int32)) (1 : Int32))) rfl (tr_bin (v := ((v1 + (2 : Int32)) + (ushr (ushr v0 (2 : Int32)) (1 : Int32)))) rfl (?_))))
    exact tr_retI hF
def q_Ji_numberOfTrailingZeros_32 (v0 : Int32) (v1 : Int32) (g : hG) : hO Int32 :=
  if v0 ≤ (16 : Int32) then (q_Ji_numberOfTrailingZeros_40 v0 v1 g) else (q_Ji_numberOfTrailingZeros_40 (ushr v0 (4 : Int32)) (v1 + (4 : Int32)) g)
theorem th7_32 {d : Nat} {v0 : Int32} {v1 : Int32} {g : hG} (hF : Frz g) : Tri wI d 7 t7_32 [some (.int v0), some (.int v1)] [] g (q_Ji_numberOfTrailingZeros_32 v0 v1 g) := by
  unfold q_Ji_numberOfTrailingZeros_32
  refine tr_ldI rfl (tr_pushI (?_))
  refine tr_ifj e7_40 (c_le _ _) (fun hc4 => ?_) (fun hc4 => ?_)
  · exact th7_40 hF
  · refine tr_inc rfl rfl rfl (tr_ldI rfl (tr_pushI (tr_bin (v := (ushr v0 (4 : Int32))) rfl (tr_stI (Nat.le_of_ble_eq_true rfl) rfl rfl (?_)))))
    exact th7_40 hF
def q_Ji_numberOfTrailingZeros_24 (v0 : Int32) (v1 : Int32) (g : hG) : hO Int32 :=
  if v0 ≤ (256 : Int32) then (q_Ji_numberOfTrailingZeros_32 v0 v1 g) else (q_Ji_numberOfTrailingZeros_32 (ushr v0 (8 : Int32)) (v1 + (8 : Int32)) g)
theorem th7_24 {d : Nat} {v0 : Int32} {v1 : Int32} {g : hG} (hF : Frz g) : Tri wI d 7 t7_24 [some (.int v0), some (.int v1)] [] g (q_Ji_numberOfTrailingZeros_24 v0 v1 g) := by
  unfold q_Ji_numberOfTrailingZeros_24
  refine tr_ldI rfl (tr_pushI (?_))
  refine tr_ifj e7_32 (c_le _ _) (fun hc3 => ?_) (fun hc3 => ?_)
  · exact th7_32 hF
  · refine tr_inc rfl rfl rfl (tr_ldI rfl (tr_pushI (tr_bin (v := (ushr v0 (8 : Int32))) rfl (tr_stI (Nat.le_of_ble_eq_true rfl) rfl rfl (?_)))))
    exact th7_32 hF
def q_Ji_numberOfTrailingZeros (v0 : Int32) (g : hG) : hO Int32 :=
  if (0 : Int32) < ((v0 ^^^ (-1 : Int32)) &&& (v0 - (1 : Int32))) then (if ((v0 ^^^ (-1 : Int32)) &&& (v0 - (1 : Int32))) ≤ (65536 : Int32) then (q_Ji_numberOfTrailingZeros_24 ((v0 ^^^ (-1 : Int32)) &&& (v0 - (1 : Int32))) (1 : Int32) g) else (q_Ji_numberOfTrailingZeros_24 (ushr ((v0 ^^^ (-1 : Int32)) &&& (v0 - (1 : Int32))) (16 : Int32)) ((1 : Int32) + (16 : Int32)) g)) else (some ((((v0 ^^^ (-1 : Int32)) &&& (v0 - (1 : Int32))) &&& (32 : Int32)), g))
theorem tm7 {d : Nat} {v0 : Int32} {g : hG} (hF : Frz g) : TM wI d 7 [.int v0] g (q_Ji_numberOfTrailingZeros v0 g) := by
  refine TM.ofE e7_0 (lv := [some (.int v0), none]) rfl ?_
  unfold q_Ji_numberOfTrailingZeros
  refine tr_ldI rfl (tr_pushI (tr_bin (v := (v0 ^^^ (-1 : Int32))) rfl (tr_ldI rfl (tr_pushI (tr_bin (v := (v0 - (1 : Int32))) rfl (?_))))))
  refine tr_bin (v := ((v0 ^^^ (-1 : Int32)) &&& (v0 - (1 : Int32)))) rfl (tr_stI (Nat.le_of_ble_eq_true rfl) rfl rfl (tr_ldI rfl (?_)))
  refine tr_if0j e7_14 (c_gt _ _) (fun hc1 => ?_) (fun hc1 => ?_)
  · refine tr_pushI (tr_stI (Nat.le_of_ble_eq_true rfl) rfl rfl (tr_ldI rfl (tr_pushI (?_))))
    refine tr_ifj e7_24 (c_le _ _) (fun hc2 => ?_) (fun hc2 => ?_)
    · exact th7_24 hF
    · refine tr_inc rfl rfl rfl (tr_ldI rfl (tr_pushI (tr_bin (v := (ushr ((v0 ^^^ (-1 : Int32)) &&& (v0 - (1 : Int32))) (16 : Int32))) rfl (tr_stI (Nat.le_of_ble_eq_true rfl) rfl rfl (?_)))))
      exact th7_24 hF
  · refine tr_ldI rfl (tr_pushI (tr_bin (v := (((v0 ^^^ (-1 : Int32)) &&& (v0 - (1 : Int32))) &&& (32 : Int32))) rfl (?_)))
    exact tr_retI hF
-- Str_firstFreeKind
abbrev t74_30 : List hOp := oLdI 2 :: oPushI (-1) :: oBin (fun x y => x ^^^ y) :: oInvS 7 1 :: oRetI :: []
abbrev t74_28 : List hOp := oInc 3 1 :: oGoto 4 :: t74_30
abbrev t74_4 : List hOp := oLdI 3 :: oLdI 1 :: oIf cGe 30 :: oLdA 0 :: oLdA 0 :: oGetP 7 4 :: oLdI 3 :: oALdI 13 :: oLdA 0 :: oGetP 7 4 :: oLdI 1 :: oALdI 13 :: oPushI 0 :: oInvV 72 7 3 :: oIf0 cEq 28 :: oLdI 2 :: oPushI 1 :: oLdA 0 :: oGetP 7 3 :: oLdI 3 :: oALdI 13 :: oBin (fun x y => x <<< (y &&& 31)) :: oBin (fun x y => x ||| y) :: oStI 2 :: t74_28
abbrev t74_0 : List hOp := oPushI 0 :: oStI 2 :: oPushI 0 :: oStI 3 :: t74_4
theorem e74_0 : (opsOf 74).drop 0 = t74_0 := rfl
theorem e74_4 : (opsOf 74).drop 4 = t74_4 := rfl
theorem e74_28 : (opsOf 74).drop 28 = t74_28 := rfl
theorem e74_30 : (opsOf 74).drop 30 = t74_30 := rfl
def q_Str_firstFreeKind_4 (v1 : Int32) (k30 : Int32 → hG → hO Int32) (k4 : Int32 → Int32 → hG → hO Int32) (v2 : Int32) (v3 : Int32) (g : hG) : hO Int32 :=
  if v1 ≤ v3 then (k30 v2 g) else (gd v3 8 <| gd v1 8 <| bnd (q_Str_everOnOne (gI g 259 v3.toNatClampNeg) (gI g 259 v1.toNatClampNeg) (0 : Int32) g) fun r4 g2 => if r4 = (0 : Int32) then (k4 v2 (v3 + (1 : Int32)) g2) else (gd v3 8 <| k4 (v2 ||| (shl (1 : Int32) (gI g2 258 v3.toNatClampNeg))) (v3 + (1 : Int32)) g2))
def q_Str_firstFreeKind_4L (v1 : Int32) (k30 : Int32 → hG → hO Int32) : Nat → Int32 → Int32 → hG → hO Int32
  | 0 => fun _ _ _ => none
  | n + 1 => fun v2 v3 g => q_Str_firstFreeKind_4 v1 k30 (q_Str_firstFreeKind_4L v1 k30 n) v2 v3 g
theorem q_Str_firstFreeKind_4L_s (v1 : Int32) (k30 : Int32 → hG → hO Int32) (n : Nat) (v2 : Int32) (v3 : Int32) (g : hG) : q_Str_firstFreeKind_4L v1 k30 (n + 1) v2 v3 g = q_Str_firstFreeKind_4 v1 k30 (q_Str_firstFreeKind_4L v1 k30 n) v2 v3 g := rfl
theorem th74_4 {e : Nat} (he : 3 ≤ e + 1) {v1 : Int32} {k30 : Int32 → hG → hO Int32} {k4 : Int32 → Int32 → hG → hO Int32} {v2 : Int32} {v3 : Int32} (hk30 : ∀ (x2 : Int32) (y3 : Option Value) (g : hG), Frz g → Tri wI (e + 1) 74 t74_30 [some (.ref 254), some (.int v1), some (.int x2), y3] [] g (k30 x2 g)) (hk4 : ∀ (x2 : Int32) (x3 : Int32) (g : hG), Frz g → Tri wI (e + 1) 74 t74_4 [some (.ref 254), some (.int v1), some (.int x2), some (.int x3)] [] g (k4 x2 x3 g)) {g : hG} (hF : Frz g) : Tri wI (e + 1) 74 t74_4 [some (.ref 254), some (.int v1), some (.int v2), some (.int v3)] [] g (q_Str_firstFreeKind_4 v1 k30 k4 v2 v3 g) := by
  unfold q_Str_firstFreeKind_4
  refine tr_ldI rfl (tr_ldI rfl (?_))
  refine tr_ifj e74_30 (c_ge _ _) (fun hc1 => ?_) (fun hc1 => ?_)
  · exact hk30 _ _ _ hF
  · refine tr_ldA rfl (tr_ldA rfl (tr_getP (b := 259) (fk_254 hF) (fp_254_4 hF) (tr_ldI rfl (tr_aldI (fk_259 hF) (fl_259 hF) (fun _ => tr_ldA rfl (?_))))))
    refine tr_getP (b := 259) (fk_254 hF) (fp_254_4 hF) (tr_ldI rfl (tr_aldI (fk_259 hF) (fl_259 hF) (fun _ => tr_pushI (?_))))
    refine tr_invVI rfl rfl (fk_254 hF) (Nat.le_of_ble_eq_true rfl) (by decide) (Nat.le_of_ble_eq_true rfl) (tm72 (by omega) hF) (fun r4 g2 _ hF3 => ?_)
    refine tr_if0j e74_28 (c_eq _ _) (fun hc5 => ?_) (fun hc5 => ?_)
    · refine tr_inc rfl rfl rfl (?_)
      refine tr_gotoE e74_4 (?_)
      exact hk4 _ _ _ hF3
    · refine tr_ldI rfl (tr_pushI (tr_ldA rfl (tr_getP (b := 258) (fk_254 hF3) (fp_254_3 hF3) (tr_ldI rfl (tr_aldI (fk_258 hF3) (fl_258 hF3) (fun _ => ?_))))))
      refine tr_bin (v := (shl (1 : Int32) (gI g2 258 v3.toNatClampNeg))) rfl (tr_bin (v := (v2 ||| (shl (1 : Int32) (gI g2 258 v3.toNatClampNeg)))) rfl (tr_stI (Nat.le_of_ble_eq_true rfl) rfl rfl (tr_inc rfl rfl rfl (?_))))
      refine tr_gotoE e74_4 (?_)
      exact hk4 _ _ _ hF3
theorem th74_4L {e : Nat} (he : 3 ≤ e + 1) {v1 : Int32} {k30 : Int32 → hG → hO Int32} (hk30 : ∀ (x2 : Int32) (y3 : Option Value) (g : hG), Frz g → Tri wI (e + 1) 74 t74_30 [some (.ref 254), some (.int v1), some (.int x2), y3] [] g (k30 x2 g)) : ∀ (n : Nat) (v2 : Int32) (v3 : Int32) (g : hG), Frz g → Tri wI (e + 1) 74 t74_4 [some (.ref 254), some (.int v1), some (.int v2), some (.int v3)] [] g (q_Str_firstFreeKind_4L v1 k30 n v2 v3 g)
  | 0 => fun _ _ _ _ => Tri.none_
  | n + 1 => fun _ _ g hF => th74_4 he hk30 (th74_4L he hk30 n) hF
def q_Str_firstFreeKind (v1 : Int32) (g : hG) : hO Int32 :=
  q_Str_firstFreeKind_4L v1 (fun x6 g8 => bnd (q_Ji_numberOfTrailingZeros (x6 ^^^ (-1 : Int32)) g8) fun r12 g10 => some (r12, g10)) FU (0 : Int32) (0 : Int32) g
theorem tm74 {d : Nat} {v1 : Int32} (hd : 3 ≤ d) {g : hG} (hF : Frz g) : TM wI d 74 [.ref 254, .int v1] g (q_Str_firstFreeKind v1 g) := by
  obtain ⟨e, rfl⟩ : ∃ e, d = e + 1 := ⟨d - 1, by omega⟩
  have he := hd
  refine TM.ofE e74_0 (lv := [some (.ref 254), some (.int v1), none, none]) rfl ?_
  unfold q_Str_firstFreeKind
  refine tr_pushI (tr_stI (Nat.le_of_ble_eq_true rfl) rfl rfl (tr_pushI (tr_stI (Nat.le_of_ble_eq_true rfl) rfl rfl (?_))))
  refine th74_4L he (fun x6 y7 g8 hF9 => ?_) FU _ _ _ hF
  · refine tr_ldI rfl (tr_pushI (tr_bin (v := (x6 ^^^ (-1 : Int32))) rfl (?_)))
    refine tr_invSI rfl rfl (Nat.le_of_ble_eq_true rfl) (Nat.le_of_ble_eq_true rfl) (by decide) (Nat.le_of_ble_eq_true rfl) (tm7 hF9) (fun r12 g10 _ hF11 => ?_)
    exact tr_retI hF11
