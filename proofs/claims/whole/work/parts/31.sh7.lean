-- Mo_binds
abbrev t205_31 : List hOp := oRetI :: []
abbrev t205_30 : List hOp := oPushI 5 :: t205_31
abbrev t205_25 : List hOp := oLdI 0 :: oPushI 22 :: oIf cLt 30 :: oPushI 6 :: oGoto 31 :: t205_30
abbrev t205_20 : List hOp := oLdI 0 :: oPushI 25 :: oIf cLt 25 :: oPushI 4 :: oGoto 31 :: t205_25
abbrev t205_15 : List hOp := oLdI 0 :: oPushI 28 :: oIf cNe 20 :: oPushI 3 :: oGoto 31 :: t205_20
abbrev t205_10 : List hOp := oLdI 0 :: oPushI 29 :: oIf cNe 15 :: oPushI 2 :: oGoto 31 :: t205_15
abbrev t205_5 : List hOp := oLdI 0 :: oPushI 30 :: oIf cNe 10 :: oPushI 1 :: oGoto 31 :: t205_10
abbrev t205_0 : List hOp := oLdI 0 :: oPushI 31 :: oIf cLt 5 :: oPushI 0 :: oGoto 31 :: t205_5
theorem e205_0 : (opsOf 205).drop 0 = t205_0 := rfl
theorem e205_5 : (opsOf 205).drop 5 = t205_5 := rfl
theorem e205_10 : (opsOf 205).drop 10 = t205_10 := rfl
theorem e205_15 : (opsOf 205).drop 15 = t205_15 := rfl
theorem e205_20 : (opsOf 205).drop 20 = t205_20 := rfl
theorem e205_25 : (opsOf 205).drop 25 = t205_25 := rfl
theorem e205_30 : (opsOf 205).drop 30 = t205_30 := rfl
theorem e205_31 : (opsOf 205).drop 31 = t205_31 := rfl
def q_Mo_binds (v0 : Int32) (g : hG) : hO Int32 :=
  if v0 < (31 : Int32) then (if v0 = (30 : Int32) then (some ((1 : Int32), g)) else (if v0 = (29 : Int32) then (some ((2 : Int32), g)) else (if v0 = (28 : Int32) then (some ((3 : Int32), g)) else (if v0 < (25 : Int32) then (if v0 < (22 : Int32) then (some ((5 : Int32), g)) else (some ((6 : Int32), g))) else (some ((4 : Int32), g)))))) else (some ((0 : Int32), g))
theorem tm205 {d : Nat} {v0 : Int32} {g : hG} (hF : Frz g) : TM wI d 205 [.int v0] g (q_Mo_binds v0 g) := by
  refine TM.ofE e205_0 (lv := [some (.int v0)]) rfl ?_
  unfold q_Mo_binds
  refine tr_ldI rfl (tr_pushI (?_))
  refine tr_ifj e205_5 (c_lt _ _) (fun hc1 => ?_) (fun hc1 => ?_)
  · refine tr_ldI rfl (tr_pushI (?_))
    refine tr_ifn e205_10 (c_ne _ _) (fun hc2 => ?_) (fun hc2 => ?_)
    · refine tr_ldI rfl (tr_pushI (?_))
      refine tr_ifn e205_15 (c_ne _ _) (fun hc3 => ?_) (fun hc3 => ?_)
      · refine tr_ldI rfl (tr_pushI (?_))
        refine tr_ifn e205_20 (c_ne _ _) (fun hc4 => ?_) (fun hc4 => ?_)
        · refine tr_ldI rfl (tr_pushI (?_))
          refine tr_ifj e205_25 (c_lt _ _) (fun hc5 => ?_) (fun hc5 => ?_)
          · refine tr_ldI rfl (tr_pushI (?_))
            refine tr_ifj e205_30 (c_lt _ _) (fun hc6 => ?_) (fun hc6 => ?_)
            · refine tr_pushI (?_)
              exact tr_retI hF
            · refine tr_pushI (?_)
              refine tr_gotoE e205_31 (?_)
              exact tr_retI hF
          · refine tr_pushI (?_)
            refine tr_gotoE e205_31 (?_)
            exact tr_retI hF
        · refine tr_pushI (?_)
          refine tr_gotoE e205_31 (?_)
          exact tr_retI hF
      · refine tr_pushI (?_)
        refine tr_gotoE e205_31 (?_)
        exact tr_retI hF
    · refine tr_pushI (?_)
      refine tr_gotoE e205_31 (?_)
      exact tr_retI hF
  · refine tr_pushI (?_)
    refine tr_gotoE e205_31 (?_)
    exact tr_retI hF
-- Mo_settle
abbrev t206_53 : List hOp := oRetV :: []
abbrev t206_44 : List hOp := oLdA 0 :: oLdA 0 :: oGetP 12 27 :: oLdA 0 :: oGetI 12 29 :: oALdI 13 :: oPushI 0 :: oInvV 203 12 2 :: oGoto 0 :: t206_53
abbrev t206_33 : List hOp := oLdA 0 :: oGetP 12 25 :: oLdA 0 :: oGetP 12 28 :: oLdA 0 :: oGetI 12 29 :: oALdI 13 :: oLdA 0 :: oGetI 12 23 :: oAStI :: oGoto 0 :: t206_44
abbrev t206_0 : List hOp := oLdA 0 :: oGetI 12 29 :: oIf0 cLe 53 :: oLdA 0 :: oGetP 12 27 :: oLdA 0 :: oGetI 12 29 :: oPushI 1 :: oBin (fun x y => x - y) :: oALdI 13 :: oInvS 205 1 :: oLdI 1 :: oIf cLt 53 :: oLdA 0 :: oDup :: oGetI 12 29 :: oPushI 1 :: oBin (fun x y => x - y) :: oPutI 12 29 :: oLdA 0 :: oGetP 12 27 :: oLdA 0 :: oGetI 12 29 :: oALdI 13 :: oPushI 29 :: oIf cEq 33 :: oLdA 0 :: oGetP 12 27 :: oLdA 0 :: oGetI 12 29 :: oALdI 13 :: oPushI 30 :: oIf cNe 44 :: t206_33
theorem e206_0 : (opsOf 206).drop 0 = t206_0 := rfl
theorem e206_33 : (opsOf 206).drop 33 = t206_33 := rfl
theorem e206_44 : (opsOf 206).drop 44 = t206_44 := rfl
theorem e206_53 : (opsOf 206).drop 53 = t206_53 := rfl
def q_Mo_settle_33 (k0 : hG → hO Unit) (g : hG) : hO Unit :=
  gd (gI g 367 29) 400 <| gd (gI g 381 (gI g 367 29).toNatClampNeg) 400 <| wr (sI g 379 (gI g 381 (gI g 367 29).toNatClampNeg).toNatClampNeg (gI g 367 23)) fun g9 => k0 g9
theorem th206_33 {e : Nat} (he : 1 ≤ e + 1) {k0 : hG → hO Unit} {u1 : Option Value} (hk0 : ∀ (g : hG), Frz g → Tri wU (e + 1) 206 t206_0 [some (.ref 367), u1] [] g (k0 g)) {g : hG} (hF : Frz g) : Tri wU (e + 1) 206 t206_33 [some (.ref 367), u1] [] g (q_Mo_settle_33 k0 g) := by
  unfold q_Mo_settle_33
  refine tr_ldA rfl (tr_getP (b := 379) (fk_367 hF) (fp_367_25 hF) (tr_ldA rfl (tr_getP (b := 381) (fk_367 hF) (fp_367_28 hF) (tr_ldA rfl (tr_getI (fk_367 hF) (?_))))))
  refine tr_aldI (fk_381 hF) (fl_381 hF) (fun _ => tr_ldA rfl (tr_getI (fk_367 hF) (tr_astI hF (fk_379 hF) (fl_379 hF) (fun _ g9 _ hF10 => ?_))))
  refine tr_gotoE e206_0 (?_)
  exact hk0 _ hF10
def q_Mo_settle_0 (v1 : Int32) (k53 : hG → hO Unit) (k0 : hG → hO Unit) (g : hG) : hO Unit :=
  if (gI g 367 29) ≤ (0 : Int32) then (k53 g) else (gd ((gI g 367 29) - (1 : Int32)) 400 <| bnd (q_Mo_binds (gI g 380 ((gI g 367 29) - (1 : Int32)).toNatClampNeg) g) fun r4 g2 => if r4 < v1 then (k53 g2) else (wr (sI g2 367 29 ((gI g2 367 29) - (1 : Int32))) fun g6 => gd (gI g6 367 29) 400 <| if (gI g6 380 (gI g6 367 29).toNatClampNeg) = (29 : Int32) then (q_Mo_settle_33 k0 g6) else (gd (gI g6 367 29) 400 <| if (gI g6 380 (gI g6 367 29).toNatClampNeg) = (30 : Int32) then (q_Mo_settle_33 k0 g6) else (gd (gI g6 367 29) 400 <| bnd (q_Mo_emit (gI g6 380 (gI g6 367 29).toNatClampNeg) (0 : Int32) g6) fun _ g12 => k0 g12))))
def q_Mo_settle_0L (v1 : Int32) (k53 : hG → hO Unit) : Nat → hG → hO Unit
  | 0 => fun _ => none
  | n + 1 => fun g => q_Mo_settle_0 v1 k53 (q_Mo_settle_0L v1 k53 n) g
theorem q_Mo_settle_0L_s (v1 : Int32) (k53 : hG → hO Unit) (n : Nat) (g : hG) : q_Mo_settle_0L v1 k53 (n + 1) g = q_Mo_settle_0 v1 k53 (q_Mo_settle_0L v1 k53 n) g := rfl
theorem th206_0 {e : Nat} (he : 1 ≤ e + 1) {v1 : Int32} {k53 : hG → hO Unit} {k0 : hG → hO Unit} (hk53 : ∀ (g : hG), Frz g → Tri wU (e + 1) 206 t206_53 [some (.ref 367), some (.int v1)] [] g (k53 g)) (hk0 : ∀ (g : hG), Frz g → Tri wU (e + 1) 206 t206_0 [some (.ref 367), some (.int v1)] [] g (k0 g)) {g : hG} (hF : Frz g) : Tri wU (e + 1) 206 t206_0 [some (.ref 367), some (.int v1)] [] g (q_Mo_settle_0 v1 k53 k0 g) := by
  unfold q_Mo_settle_0
  refine tr_ldA rfl (tr_getI (fk_367 hF) (?_))
  refine tr_if0j e206_53 (c_le _ _) (fun hc1 => ?_) (fun hc1 => ?_)
  · exact hk53 _ hF
  · refine tr_ldA rfl (tr_getP (b := 380) (fk_367 hF) (fp_367_27 hF) (tr_ldA rfl (tr_getI (fk_367 hF) (tr_pushI (tr_bin (v := ((gI g 367 29) - (1 : Int32))) rfl (?_))))))
    refine tr_aldI (fk_380 hF) (fl_380 hF) (fun _ => ?_)
    refine tr_invSI rfl rfl (Nat.le_of_ble_eq_true rfl) (Nat.le_of_ble_eq_true rfl) (by decide) (Nat.le_of_ble_eq_true rfl) (tm205 hF) (fun r4 g2 _ hF3 => ?_)
    refine tr_ldI rfl (?_)
    refine tr_ifj e206_53 (c_lt _ _) (fun hc5 => ?_) (fun hc5 => ?_)
    · exact hk53 _ hF3
    · refine tr_ldA rfl (tr_dupA (tr_getI (fk_367 hF3) (tr_pushI (tr_bin (v := ((gI g2 367 29) - (1 : Int32))) rfl (tr_putI hF3 (fk_367 hF3) (fun g6 _ hF7 => ?_))))))
      refine tr_ldA rfl (tr_getP (b := 380) (fk_367 hF7) (fp_367_27 hF7) (tr_ldA rfl (tr_getI (fk_367 hF7) (tr_aldI (fk_380 hF7) (fl_380 hF7) (fun _ => tr_pushI (?_))))))
      refine tr_ifj e206_33 (c_eq _ _) (fun hc8 => ?_) (fun hc8 => ?_)
      · exact th206_33 he hk0 hF7
      · refine tr_ldA rfl (tr_getP (b := 380) (fk_367 hF7) (fp_367_27 hF7) (tr_ldA rfl (tr_getI (fk_367 hF7) (tr_aldI (fk_380 hF7) (fl_380 hF7) (fun _ => tr_pushI (?_))))))
        refine tr_ifn e206_44 (c_ne _ _) (fun hc11 => ?_) (fun hc11 => ?_)
        · refine tr_ldA rfl (tr_ldA rfl (tr_getP (b := 380) (fk_367 hF7) (fp_367_27 hF7) (tr_ldA rfl (tr_getI (fk_367 hF7) (tr_aldI (fk_380 hF7) (fl_380 hF7) (fun _ => ?_))))))
          refine tr_pushI (?_)
          refine tr_invVU rfl rfl (fk_367 hF7) (Nat.le_of_ble_eq_true rfl) (by decide) (Nat.le_of_ble_eq_true rfl) (tm203 hF7) (fun _ g12 _ hF13 => ?_)
          refine tr_gotoE e206_0 (?_)
          exact hk0 _ hF13
        · exact th206_33 he hk0 hF7
theorem th206_0L {e : Nat} (he : 1 ≤ e + 1) {v1 : Int32} {k53 : hG → hO Unit} (hk53 : ∀ (g : hG), Frz g → Tri wU (e + 1) 206 t206_53 [some (.ref 367), some (.int v1)] [] g (k53 g)) : ∀ (n : Nat) (g : hG), Frz g → Tri wU (e + 1) 206 t206_0 [some (.ref 367), some (.int v1)] [] g (q_Mo_settle_0L v1 k53 n g)
  | 0 => fun _ _ => Tri.none_
  | n + 1 => fun g hF => th206_0 he hk53 (th206_0L he hk53 n) hF
def q_Mo_settle (v1 : Int32) (g : hG) : hO Unit :=
  q_Mo_settle_0L v1 (fun g14 => some ((), g14)) FU g
theorem tm206 {d : Nat} {v1 : Int32} (hd : 1 ≤ d) {g : hG} (hF : Frz g) : TM wU d 206 [.ref 367, .int v1] g (q_Mo_settle v1 g) := by
  obtain ⟨e, rfl⟩ : ∃ e, d = e + 1 := ⟨d - 1, by omega⟩
  have he := hd
  refine TM.ofE e206_0 (lv := [some (.ref 367), some (.int v1)]) rfl ?_
  unfold q_Mo_settle
  refine th206_0L he (fun g14 hF15 => ?_) FU _ hF
  · exact tr_retV hF15
-- Mo_inner
abbrev t207_23 : List hOp := oLdI 1 :: oRetI :: []
abbrev t207_20 : List hOp := oStI 1 :: oInc 2 1 :: oGoto 4 :: t207_23
abbrev t207_19 : List hOp := oLdI 1 :: t207_20
abbrev t207_4 : List hOp := oLdI 2 :: oLdA 0 :: oGetI 12 29 :: oIf cGe 23 :: oLdA 0 :: oGetP 12 27 :: oLdI 2 :: oALdI 13 :: oPushI 31 :: oIf cLt 19 :: oLdA 0 :: oGetP 12 27 :: oLdI 2 :: oALdI 13 :: oGoto 20 :: t207_19
abbrev t207_0 : List hOp := oPushI (-1) :: oStI 1 :: oPushI 0 :: oStI 2 :: t207_4
theorem e207_0 : (opsOf 207).drop 0 = t207_0 := rfl
theorem e207_4 : (opsOf 207).drop 4 = t207_4 := rfl
theorem e207_19 : (opsOf 207).drop 19 = t207_19 := rfl
theorem e207_20 : (opsOf 207).drop 20 = t207_20 := rfl
theorem e207_23 : (opsOf 207).drop 23 = t207_23 := rfl
def q_Mo_inner_4 (k23 : Int32 → hG → hO Int32) (k4 : Int32 → Int32 → hG → hO Int32) (v1 : Int32) (v2 : Int32) (g : hG) : hO Int32 :=
  if (gI g 367 29) ≤ v2 then (k23 v1 g) else (gd v2 400 <| if (gI g 380 v2.toNatClampNeg) < (31 : Int32) then (k4 v1 (v2 + (1 : Int32)) g) else (gd v2 400 <| k4 (gI g 380 v2.toNatClampNeg) (v2 + (1 : Int32)) g))
def q_Mo_inner_4L (k23 : Int32 → hG → hO Int32) : Nat → Int32 → Int32 → hG → hO Int32
  | 0 => fun _ _ _ => none
  | n + 1 => fun v1 v2 g => q_Mo_inner_4 k23 (q_Mo_inner_4L k23 n) v1 v2 g
theorem q_Mo_inner_4L_s (k23 : Int32 → hG → hO Int32) (n : Nat) (v1 : Int32) (v2 : Int32) (g : hG) : q_Mo_inner_4L k23 (n + 1) v1 v2 g = q_Mo_inner_4 k23 (q_Mo_inner_4L k23 n) v1 v2 g := rfl
theorem th207_4 {d : Nat} {k23 : Int32 → hG → hO Int32} {k4 : Int32 → Int32 → hG → hO Int32} {v1 : Int32} {v2 : Int32} (hk23 : ∀ (x1 : Int32) (y2 : Option Value) (g : hG), Frz g → Tri wI d 207 t207_23 [some (.ref 367), some (.int x1), y2] [] g (k23 x1 g)) (hk4 : ∀ (x1 : Int32) (x2 : Int32) (g : hG), Frz g → Tri wI d 207 t207_4 [some (.ref 367), some (.int x1), some (.int x2)] [] g (k4 x1 x2 g)) {g : hG} (hF : Frz g) : Tri wI d 207 t207_4 [some (.ref 367), some (.int v1), some (.int v2)] [] g (q_Mo_inner_4 k23 k4 v1 v2 g) := by
  unfold q_Mo_inner_4
  refine tr_ldI rfl (tr_ldA rfl (tr_getI (fk_367 hF) (?_)))
  refine tr_ifj e207_23 (c_ge _ _) (fun hc1 => ?_) (fun hc1 => ?_)
  · exact hk23 _ _ _ hF
  · refine tr_ldA rfl (tr_getP (b := 380) (fk_367 hF) (fp_367_27 hF) (tr_ldI rfl (tr_aldI (fk_380 hF) (fl_380 hF) (fun _ => tr_pushI (?_)))))
    refine tr_ifj e207_19 (c_lt _ _) (fun hc2 => ?_) (fun hc2 => ?_)
    · refine tr_ldI rfl (tr_stI (Nat.le_of_ble_eq_true rfl) rfl rfl (tr_inc rfl rfl rfl (?_)))
      refine tr_gotoE e207_4 (?_)
      exact hk4 _ _ _ hF
    · refine tr_ldA rfl (tr_getP (b := 380) (fk_367 hF) (fp_367_27 hF) (tr_ldI rfl (tr_aldI (fk_380 hF) (fl_380 hF) (fun _ => ?_))))
      refine tr_gotoE e207_20 (?_)
      refine tr_stI (Nat.le_of_ble_eq_true rfl) rfl rfl (tr_inc rfl rfl rfl (?_))
      refine tr_gotoE e207_4 (?_)
      exact hk4 _ _ _ hF
theorem th207_4L {d : Nat} {k23 : Int32 → hG → hO Int32} (hk23 : ∀ (x1 : Int32) (y2 : Option Value) (g : hG), Frz g → Tri wI d 207 t207_23 [some (.ref 367), some (.int x1), y2] [] g (k23 x1 g)) : ∀ (n : Nat) (v1 : Int32) (v2 : Int32) (g : hG), Frz g → Tri wI d 207 t207_4 [some (.ref 367), some (.int v1), some (.int v2)] [] g (q_Mo_inner_4L k23 n v1 v2 g)
  | 0 => fun _ _ _ _ => Tri.none_
  | n + 1 => fun _ _ g hF => th207_4 hk23 (th207_4L hk23 n) hF
def q_Mo_inner (g : hG) : hO Int32 :=
  q_Mo_inner_4L (fun x3 g5 => some (x3, g5)) FU (-1 : Int32) (0 : Int32) g
theorem tm207 {d : Nat} {g : hG} (hF : Frz g) : TM wI d 207 [.ref 367] g (q_Mo_inner g) := by
  refine TM.ofE e207_0 (lv := [some (.ref 367), none, none]) rfl ?_
  unfold q_Mo_inner
  refine tr_pushI (tr_stI (Nat.le_of_ble_eq_true rfl) rfl rfl (tr_pushI (tr_stI (Nat.le_of_ble_eq_true rfl) rfl rfl (?_))))
  refine th207_4L (fun x3 y4 g5 hF6 => ?_) FU _ _ _ hF
  · refine tr_ldI rfl (?_)
    exact tr_retI hF6
-- Mo_isCompared
abbrev t208_32 : List hOp := oRetZ :: []
abbrev t208_31 : List hOp := oPushI 0 :: t208_32
abbrev t208_18 : List hOp := oLdI 1 :: oIf0 cLt 31 :: oLdA 0 :: oGetP 12 27 :: oLdI 1 :: oALdI 13 :: oI2L :: oPushL 25 :: oPushL 27 :: oInvS 165 3 :: oIf0 cEq 31 :: oPushI 1 :: oGoto 32 :: t208_31
abbrev t208_5 : List hOp := oLdI 1 :: oIf0 cLt 18 :: oLdA 0 :: oGetP 12 27 :: oLdI 1 :: oALdI 13 :: oI2L :: oPushL 20 :: oPushL 24 :: oInvS 165 3 :: oIf0 cEq 18 :: oInc 1 (-1) :: oGoto 5 :: t208_18
abbrev t208_0 : List hOp := oLdA 0 :: oGetI 12 29 :: oPushI 1 :: oBin (fun x y => x - y) :: oStI 1 :: t208_5
theorem e208_0 : (opsOf 208).drop 0 = t208_0 := rfl
theorem e208_5 : (opsOf 208).drop 5 = t208_5 := rfl
theorem e208_18 : (opsOf 208).drop 18 = t208_18 := rfl
theorem e208_31 : (opsOf 208).drop 31 = t208_31 := rfl
theorem e208_32 : (opsOf 208).drop 32 = t208_32 := rfl
def q_Mo_isCompared_5 (k18 : Int32 → hG → hO Int32) (k5 : Int32 → hG → hO Int32) (v1 : Int32) (g : hG) : hO Int32 :=
  if v1 < (0 : Int32) then (k18 v1 g) else (gd v1 400 <| bnd (q_Mo_in ((gI g 380 v1.toNatClampNeg)).toInt64 (20 : Int64) (24 : Int64) g) fun r4 g2 => if r4 = (0 : Int32) then (k18 v1 g2) else (k5 (v1 + (-1 : Int32)) g2))
def q_Mo_isCompared_5L (k18 : Int32 → hG → hO Int32) : Nat → Int32 → hG → hO Int32
  | 0 => fun _ _ => none
  | n + 1 => fun v1 g => q_Mo_isCompared_5 k18 (q_Mo_isCompared_5L k18 n) v1 g
theorem q_Mo_isCompared_5L_s (k18 : Int32 → hG → hO Int32) (n : Nat) (v1 : Int32) (g : hG) : q_Mo_isCompared_5L k18 (n + 1) v1 g = q_Mo_isCompared_5 k18 (q_Mo_isCompared_5L k18 n) v1 g := rfl
theorem th208_5 {e : Nat} (he : 1 ≤ e + 1) {k18 : Int32 → hG → hO Int32} {k5 : Int32 → hG → hO Int32} {v1 : Int32} (hk18 : ∀ (x1 : Int32) (g : hG), Frz g → Tri wI (e + 1) 208 t208_18 [some (.ref 367), some (.int x1)] [] g (k18 x1 g)) (hk5 : ∀ (x1 : Int32) (g : hG), Frz g → Tri wI (e + 1) 208 t208_5 [some (.ref 367), some (.int x1)] [] g (k5 x1 g)) {g : hG} (hF : Frz g) : Tri wI (e + 1) 208 t208_5 [some (.ref 367), some (.int v1)] [] g (q_Mo_isCompared_5 k18 k5 v1 g) := by
  unfold q_Mo_isCompared_5
  refine tr_ldI rfl (?_)
  refine tr_if0j e208_18 (c_lt _ _) (fun hc1 => ?_) (fun hc1 => ?_)
  · exact hk18 _ _ hF
  · refine tr_ldA rfl (tr_getP (b := 380) (fk_367 hF) (fp_367_27 hF) (tr_ldI rfl (tr_aldI (fk_380 hF) (fl_380 hF) (fun _ => tr_i2l (tr_pushL (?_))))))
    refine tr_pushL (?_)
    refine tr_invSI rfl rfl (Nat.le_of_ble_eq_true rfl) (Nat.le_of_ble_eq_true rfl) (by decide) (Nat.le_of_ble_eq_true rfl) (tm165 hF) (fun r4 g2 _ hF3 => ?_)
    refine tr_if0j e208_18 (c_eq _ _) (fun hc5 => ?_) (fun hc5 => ?_)
    · exact hk18 _ _ hF3
    · refine tr_inc rfl rfl rfl (?_)
      refine tr_gotoE e208_5 (?_)
      exact hk5 _ _ hF3
theorem th208_5L {e : Nat} (he : 1 ≤ e + 1) {k18 : Int32 → hG → hO Int32} (hk18 : ∀ (x1 : Int32) (g : hG), Frz g → Tri wI (e + 1) 208 t208_18 [some (.ref 367), some (.int x1)] [] g (k18 x1 g)) : ∀ (n : Nat) (v1 : Int32) (g : hG), Frz g → Tri wI (e + 1) 208 t208_5 [some (.ref 367), some (.int v1)] [] g (q_Mo_isCompared_5L k18 n v1 g)
  | 0 => fun _ _ _ => Tri.none_
  | n + 1 => fun _ g hF => th208_5 he hk18 (th208_5L he hk18 n) hF
def q_Mo_isCompared_18 (v1 : Int32) (g : hG) : hO Int32 :=
  if v1 < (0 : Int32) then (some ((0 : Int32), g)) else (gd v1 400 <| bnd (q_Mo_in ((gI g 380 v1.toNatClampNeg)).toInt64 (25 : Int64) (27 : Int64) g) fun r12 g10 => if r12 = (0 : Int32) then (some ((0 : Int32), g10)) else (some ((1 : Int32), g10)))
theorem th208_18 {e : Nat} (he : 1 ≤ e + 1) {v1 : Int32} {g : hG} (hF : Frz g) : Tri wI (e + 1) 208 t208_18 [some (.ref 367), some (.int v1)] [] g (q_Mo_isCompared_18 v1 g) := by
  unfold q_Mo_isCompared_18
  refine tr_ldI rfl (?_)
  refine tr_if0j e208_31 (c_lt _ _) (fun hc9 => ?_) (fun hc9 => ?_)
  · refine tr_pushI (?_)
    exact tr_retZl (Or.inl rfl) hF
  · refine tr_ldA rfl (tr_getP (b := 380) (fk_367 hF) (fp_367_27 hF) (tr_ldI rfl (tr_aldI (fk_380 hF) (fl_380 hF) (fun _ => tr_i2l (tr_pushL (?_))))))
    refine tr_pushL (?_)
    refine tr_invSI rfl rfl (Nat.le_of_ble_eq_true rfl) (Nat.le_of_ble_eq_true rfl) (by decide) (Nat.le_of_ble_eq_true rfl) (tm165 hF) (fun r12 g10 _ hF11 => ?_)
    refine tr_if0j e208_31 (c_eq _ _) (fun hc13 => ?_) (fun hc13 => ?_)
    · refine tr_pushI (?_)
      exact tr_retZl (Or.inl rfl) hF11
    · refine tr_pushI (?_)
      refine tr_gotoE e208_32 (?_)
      exact tr_retZl (Or.inr rfl) hF11
def q_Mo_isCompared (g : hG) : hO Int32 :=
  q_Mo_isCompared_5L (fun x6 g7 => q_Mo_isCompared_18 x6 g7) FU ((gI g 367 29) - (1 : Int32)) g
theorem tm208 {d : Nat} (hd : 1 ≤ d) {g : hG} (hF : Frz g) : TM wI d 208 [.ref 367] g (q_Mo_isCompared g) := by
  obtain ⟨e, rfl⟩ : ∃ e, d = e + 1 := ⟨d - 1, by omega⟩
  have he := hd
  refine TM.ofE e208_0 (lv := [some (.ref 367), none]) rfl ?_
  unfold q_Mo_isCompared
  refine tr_ldA rfl (tr_getI (fk_367 hF) (tr_pushI (tr_bin (v := ((gI g 367 29) - (1 : Int32))) rfl (tr_stI (Nat.le_of_ble_eq_true rfl) rfl rfl (?_)))))
  refine th208_5L he (fun x6 g7 hF8 => ?_) FU _ _ hF
  · exact th208_18 he hF8
-- Mo_behindSum
abbrev t215_126 : List hOp := oPushI 1 :: oRetI :: []
abbrev t215_115 : List hOp := oInvV 200 12 1 :: oLdA 0 :: oGetI 12 19 :: oIf0 cNe 126 :: oLdA 0 :: oPushI 5 :: oInvV 206 12 1 :: oLdA 0 :: oLdI 2 :: oPushI 0 :: oInvV 204 12 2 :: t215_126
abbrev t215_114 : List hOp := oPushI 0 :: t215_115
abbrev t215_112 : List hOp := oPushI 1 :: oGoto 115 :: t215_114
abbrev t215_103 : List hOp := oStI 2 :: oLdA 0 :: oLdI 2 :: oPushI 27 :: oIf cNe 112 :: oLdA 0 :: oPushI 61 :: oInvV 199 12 1 :: oIf0 cEq 114 :: t215_112
abbrev t215_102 : List hOp := oPushI 27 :: t215_103
abbrev t215_96 : List hOp := oLdA 0 :: oPushI 62 :: oInvV 199 12 1 :: oIf0 cEq 102 :: oPushI 26 :: oGoto 103 :: t215_102
abbrev t215_90 : List hOp := oLdA 0 :: oPushI 60 :: oInvV 199 12 1 :: oIf0 cEq 96 :: oPushI 25 :: oGoto 103 :: t215_96
abbrev t215_85 : List hOp := oLdA 0 :: oInvV 208 12 0 :: oIf0 cEq 90 :: oPushI 2 :: oRetI :: t215_90
abbrev t215_78 : List hOp := oLdI 3 :: oPushI (-1) :: oIf cNe 85 :: oLdI 1 :: oIf0 cNe 85 :: oPushI 4 :: oRetI :: t215_85
abbrev t215_76 : List hOp := oPushI 3 :: oRetI :: t215_78
abbrev t215_47 : List hOp := oLdA 0 :: oInvV 207 12 0 :: oStI 3 :: oLdI 3 :: oPushI 32 :: oIf cNe 78 :: oLdA 0 :: oLdA 0 :: oPushI 93 :: oInvV 199 12 1 :: oInvV 200 12 1 :: oLdA 0 :: oGetI 12 19 :: oIf0 cNe 76 :: oLdA 0 :: oPushI 5 :: oInvV 206 12 1 :: oLdA 0 :: oDup :: oGetI 12 29 :: oPushI 1 :: oBin (fun x y => x - y) :: oPutI 12 29 :: oLdA 0 :: oDup :: oGetI 12 30 :: oPushI 1 :: oBin (fun x y => x - y) :: oPutI 12 30 :: t215_76
abbrev t215_31 : List hOp := oStI 2 :: oLdI 2 :: oPushI (-1) :: oIf cEq 47 :: oLdA 0 :: oLdI 2 :: oInvS 205 1 :: oInvV 206 12 1 :: oLdA 0 :: oLdI 2 :: oPushI 0 :: oInvV 204 12 2 :: oLdA 0 :: oInvV 197 12 0 :: oPushI 1 :: oRetI :: t215_47
abbrev t215_30 : List hOp := oPushI (-1) :: t215_31
abbrev t215_24 : List hOp := oLdA 0 :: oPushI 37 :: oInvV 199 12 1 :: oIf0 cEq 30 :: oPushI 24 :: oGoto 31 :: t215_30
abbrev t215_18 : List hOp := oLdA 0 :: oPushI 47 :: oInvV 199 12 1 :: oIf0 cEq 24 :: oPushI 23 :: oGoto 31 :: t215_24
abbrev t215_12 : List hOp := oLdA 0 :: oPushI 42 :: oInvV 199 12 1 :: oIf0 cEq 18 :: oPushI 22 :: oGoto 31 :: t215_18
abbrev t215_6 : List hOp := oLdA 0 :: oPushI 45 :: oInvV 199 12 1 :: oIf0 cEq 12 :: oPushI 21 :: oGoto 31 :: t215_12
abbrev t215_0 : List hOp := oLdA 0 :: oPushI 43 :: oInvV 199 12 1 :: oIf0 cEq 6 :: oPushI 20 :: oGoto 31 :: t215_6
theorem e215_0 : (opsOf 215).drop 0 = t215_0 := rfl
theorem e215_6 : (opsOf 215).drop 6 = t215_6 := rfl
theorem e215_12 : (opsOf 215).drop 12 = t215_12 := rfl
theorem e215_18 : (opsOf 215).drop 18 = t215_18 := rfl
theorem e215_24 : (opsOf 215).drop 24 = t215_24 := rfl
theorem e215_30 : (opsOf 215).drop 30 = t215_30 := rfl
theorem e215_31 : (opsOf 215).drop 31 = t215_31 := rfl
theorem e215_47 : (opsOf 215).drop 47 = t215_47 := rfl
theorem e215_76 : (opsOf 215).drop 76 = t215_76 := rfl
theorem e215_78 : (opsOf 215).drop 78 = t215_78 := rfl
theorem e215_85 : (opsOf 215).drop 85 = t215_85 := rfl
theorem e215_90 : (opsOf 215).drop 90 = t215_90 := rfl
theorem e215_96 : (opsOf 215).drop 96 = t215_96 := rfl
theorem e215_102 : (opsOf 215).drop 102 = t215_102 := rfl
theorem e215_103 : (opsOf 215).drop 103 = t215_103 := rfl
theorem e215_112 : (opsOf 215).drop 112 = t215_112 := rfl
theorem e215_114 : (opsOf 215).drop 114 = t215_114 := rfl
theorem e215_115 : (opsOf 215).drop 115 = t215_115 := rfl
theorem e215_126 : (opsOf 215).drop 126 = t215_126 := rfl
def q_Mo_behindSum_115 (v2 : Int32) (w1 : Int32) (g : hG) : hO Int32 :=
  bnd (q_Mo_must w1 g) fun _ g40 => if (gI g40 367 19) = (0 : Int32) then (bnd (q_Mo_settle (5 : Int32) g40) fun _ g43 => bnd (q_Mo_push v2 (0 : Int32) g43) fun _ g45 => some ((1 : Int32), g45)) else (some ((1 : Int32), g40))
theorem th215_115 {e : Nat} (he : 3 ≤ e + 1) {v2 : Int32} {w1 : Int32} {u1 : Option Value} {u3 : Option Value} (hu1 : isL (some u1) = false) {g : hG} (hF : Frz g) : Tri wI (e + 1) 215 t215_115 [some (.ref 367), u1, some (.int v2), u3] [.int w1, .ref 367] g (q_Mo_behindSum_115 v2 w1 g) := by
  unfold q_Mo_behindSum_115
  refine tr_invVU rfl rfl (fk_367 hF) (Nat.le_of_ble_eq_true rfl) (by decide) (Nat.le_of_ble_eq_true rfl) (tm200 (by omega) hF) (fun _ g40 _ hF41 => ?_)
  refine tr_ldA rfl (tr_getI (fk_367 hF41) (?_))
  refine tr_if0n e215_126 (c_ne _ _) (fun hc42 => ?_) (fun hc42 => ?_)
  · refine tr_pushI (?_)
    exact tr_retI hF41
  · refine tr_ldA rfl (tr_pushI (?_))
    refine tr_invVU rfl rfl (fk_367 hF41) (Nat.le_of_ble_eq_true rfl) (by decide) (Nat.le_of_ble_eq_true rfl) (tm206 (by omega) hF41) (fun _ g43 _ hF44 => ?_)
    refine tr_ldA rfl (tr_ldI rfl (tr_pushI (?_)))
    refine tr_invVU rfl rfl (fk_367 hF44) (Nat.le_of_ble_eq_true rfl) (by decide) (Nat.le_of_ble_eq_true rfl) (tm204 hF44) (fun _ g45 _ hF46 => ?_)
    refine tr_pushI (?_)
    exact tr_retI hF46
def q_Mo_behindSum_103 (w0 : Int32) (g : hG) : hO Int32 :=
  if w0 = (27 : Int32) then (bnd (q_Mo_isSign (61 : Int32) g) fun r49 g47 => q_Mo_behindSum_115 w0 (if r49 = (0 : Int32) then (0 : Int32) else (1 : Int32)) g47) else (q_Mo_behindSum_115 w0 (1 : Int32) g)
theorem th215_103 {e : Nat} (he : 3 ≤ e + 1) {w0 : Int32} {u1 : Option Value} {u2 : Option Value} {u3 : Option Value} (hu1 : isL (some u1) = false) (hu2 : isL (some u2) = false) {g : hG} (hF : Frz g) : Tri wI (e + 1) 215 t215_103 [some (.ref 367), u1, u2, u3] [.int w0] g (q_Mo_behindSum_103 w0 g) := by
  unfold q_Mo_behindSum_103
  refine tr_stI (Nat.le_of_ble_eq_true rfl) (lKill_id hu1) rfl (tr_ldA rfl (tr_ldI rfl (tr_pushI (?_))))
  refine tr_ifn e215_112 (c_ne _ _) (fun hc39 => ?_) (fun hc39 => ?_)
  · refine tr_pushI (?_)
    refine tr_gotoE e215_115 (?_)
    exact th215_115 he hu1 hF
  · refine tr_ldA rfl (tr_pushI (?_))
    refine tr_invVI rfl rfl (fk_367 hF) (Nat.le_of_ble_eq_true rfl) (by decide) (Nat.le_of_ble_eq_true rfl) (tm199 hF) (fun r49 g47 _ hF48 => ?_)
    refine tr_if0cE e215_114 (c_eq _ _) (fun hc51 => ?_) (fun hc51 => ?_)
    · rw [if_pos hc51]
      refine tr_pushI (?_)
      exact th215_115 he hu1 hF48
    · rw [if_neg hc51]
      refine tr_pushI (?_)
      refine tr_gotoE e215_115 (?_)
      exact th215_115 he hu1 hF48
def q_Mo_behindSum_85 (g : hG) : hO Int32 :=
  bnd (q_Mo_isCompared g) fun r29 g27 => if r29 = (0 : Int32) then (bnd (q_Mo_isSign (60 : Int32) g27) fun r33 g31 => if r33 = (0 : Int32) then (bnd (q_Mo_isSign (62 : Int32) g31) fun r37 g35 => q_Mo_behindSum_103 (if r37 = (0 : Int32) then (27 : Int32) else (26 : Int32)) g35) else (q_Mo_behindSum_103 (25 : Int32) g31)) else (some ((2 : Int32), g27))
theorem th215_85 {e : Nat} (he : 3 ≤ e + 1) {u1 : Option Value} {u2 : Option Value} {u3 : Option Value} (hu1 : isL (some u1) = false) (hu2 : isL (some u2) = false) {g : hG} (hF : Frz g) : Tri wI (e + 1) 215 t215_85 [some (.ref 367), u1, u2, u3] [] g (q_Mo_behindSum_85 g) := by
  unfold q_Mo_behindSum_85
  refine tr_ldA rfl (?_)
  refine tr_invVI rfl rfl (fk_367 hF) (Nat.le_of_ble_eq_true rfl) (by decide) (Nat.le_of_ble_eq_true rfl) (tm208 (by omega) hF) (fun r29 g27 _ hF28 => ?_)
  refine tr_if0j e215_90 (c_eq _ _) (fun hc30 => ?_) (fun hc30 => ?_)
  · refine tr_ldA rfl (tr_pushI (?_))
    refine tr_invVI rfl rfl (fk_367 hF28) (Nat.le_of_ble_eq_true rfl) (by decide) (Nat.le_of_ble_eq_true rfl) (tm199 hF28) (fun r33 g31 _ hF32 => ?_)
    refine tr_if0j e215_96 (c_eq _ _) (fun hc34 => ?_) (fun hc34 => ?_)
    · refine tr_ldA rfl (tr_pushI (?_))
      refine tr_invVI rfl rfl (fk_367 hF32) (Nat.le_of_ble_eq_true rfl) (by decide) (Nat.le_of_ble_eq_true rfl) (tm199 hF32) (fun r37 g35 _ hF36 => ?_)
      refine tr_if0cE e215_102 (c_eq _ _) (fun hc52 => ?_) (fun hc52 => ?_)
      · rw [if_pos hc52]
        refine tr_pushI (?_)
        exact th215_103 he hu1 hu2 hF36
      · rw [if_neg hc52]
        refine tr_pushI (?_)
        refine tr_gotoE e215_103 (?_)
        exact th215_103 he hu1 hu2 hF36
    · refine tr_pushI (?_)
      refine tr_gotoE e215_103 (?_)
      exact th215_103 he hu1 hu2 hF32
  · refine tr_pushI (?_)
    exact tr_retI hF28
def q_Mo_behindSum_31 (v1 : Int32) (w0 : Int32) (g : hG) : hO Int32 :=
  if w0 = (-1 : Int32) then (bnd (q_Mo_inner g) fun r24 g22 => if r24 = (32 : Int32) then (bnd (q_Mo_isSign (93 : Int32) g22) fun r56 g54 => bnd (q_Mo_must r56 g54) fun _ g57 => if (gI g57 367 19) = (0 : Int32) then (bnd (q_Mo_settle (5 : Int32) g57) fun _ g60 => wr (sI g60 367 29 ((gI g60 367 29) - (1 : Int32))) fun g62 => wr (sI g62 367 30 ((gI g62 367 30) - (1 : Int32))) fun g64 => some ((3 : Int32), g64)) else (some ((3 : Int32), g57))) else (if r24 = (-1 : Int32) then (if v1 = (0 : Int32) then (some ((4 : Int32), g22)) else (q_Mo_behindSum_85 g22)) else (q_Mo_behindSum_85 g22))) else (bnd (q_Mo_binds w0 g) fun r68 g66 => bnd (q_Mo_settle r68 g66) fun _ g69 => bnd (q_Mo_push w0 (0 : Int32) g69) fun _ g71 => bnd (q_Mo_next g71) fun _ g73 => some ((1 : Int32), g73))
theorem th215_31 {e : Nat} (he : 3 ≤ e + 1) {v1 : Int32} {w0 : Int32} {u2 : Option Value} {u3 : Option Value} (hu2 : isL (some u2) = false) {g : hG} (hF : Frz g) : Tri wI (e + 1) 215 t215_31 [some (.ref 367), some (.int v1), u2, u3] [.int w0] g (q_Mo_behindSum_31 v1 w0 g) := by
  unfold q_Mo_behindSum_31
  refine tr_stI (Nat.le_of_ble_eq_true rfl) rfl rfl (tr_ldI rfl (tr_pushI (?_)))
  refine tr_ifj e215_47 (c_eq _ _) (fun hc21 => ?_) (fun hc21 => ?_)
  · refine tr_ldA rfl (?_)
    refine tr_invVI rfl rfl (fk_367 hF) (Nat.le_of_ble_eq_true rfl) (by decide) (Nat.le_of_ble_eq_true rfl) (tm207 hF) (fun r24 g22 _ hF23 => ?_)
    refine tr_stI (Nat.le_of_ble_eq_true rfl) rfl rfl (tr_ldI rfl (tr_pushI (?_)))
    refine tr_ifn e215_78 (c_ne _ _) (fun hc25 => ?_) (fun hc25 => ?_)
    · refine tr_ldI rfl (tr_pushI (?_))
      refine tr_ifn e215_85 (c_ne _ _) (fun hc26 => ?_) (fun hc26 => ?_)
      · exact th215_85 he rfl rfl hF23
      · refine tr_ldI rfl (?_)
        refine tr_if0n e215_85 (c_ne _ _) (fun hc53 => ?_) (fun hc53 => ?_)
        · exact th215_85 he rfl rfl hF23
        · refine tr_pushI (?_)
          exact tr_retI hF23
    · refine tr_ldA rfl (tr_ldA rfl (tr_pushI (?_)))
      refine tr_invVI rfl rfl (fk_367 hF23) (Nat.le_of_ble_eq_true rfl) (by decide) (Nat.le_of_ble_eq_true rfl) (tm199 hF23) (fun r56 g54 _ hF55 => ?_)
      refine tr_invVU rfl rfl (fk_367 hF55) (Nat.le_of_ble_eq_true rfl) (by decide) (Nat.le_of_ble_eq_true rfl) (tm200 (by omega) hF55) (fun _ g57 _ hF58 => ?_)
      refine tr_ldA rfl (tr_getI (fk_367 hF58) (?_))
      refine tr_if0n e215_76 (c_ne _ _) (fun hc59 => ?_) (fun hc59 => ?_)
      · refine tr_pushI (?_)
        exact tr_retI hF58
      · refine tr_ldA rfl (tr_pushI (?_))
        refine tr_invVU rfl rfl (fk_367 hF58) (Nat.le_of_ble_eq_true rfl) (by decide) (Nat.le_of_ble_eq_true rfl) (tm206 (by omega) hF58) (fun _ g60 _ hF61 => ?_)
        refine tr_ldA rfl (tr_dupA (tr_getI (fk_367 hF61) (tr_pushI (tr_bin (v := ((gI g60 367 29) - (1 : Int32))) rfl (tr_putI hF61 (fk_367 hF61) (fun g62 _ hF63 => ?_))))))
        refine tr_ldA rfl (tr_dupA (tr_getI (fk_367 hF63) (tr_pushI (tr_bin (v := ((gI g62 367 30) - (1 : Int32))) rfl (tr_putI hF63 (fk_367 hF63) (fun g64 _ hF65 => ?_))))))
        refine tr_pushI (?_)
        exact tr_retI hF65
  · refine tr_ldA rfl (tr_ldI rfl (?_))
    refine tr_invSI rfl rfl (Nat.le_of_ble_eq_true rfl) (Nat.le_of_ble_eq_true rfl) (by decide) (Nat.le_of_ble_eq_true rfl) (tm205 hF) (fun r68 g66 _ hF67 => ?_)
    refine tr_invVU rfl rfl (fk_367 hF67) (Nat.le_of_ble_eq_true rfl) (by decide) (Nat.le_of_ble_eq_true rfl) (tm206 (by omega) hF67) (fun _ g69 _ hF70 => ?_)
    refine tr_ldA rfl (tr_ldI rfl (tr_pushI (?_)))
    refine tr_invVU rfl rfl (fk_367 hF70) (Nat.le_of_ble_eq_true rfl) (by decide) (Nat.le_of_ble_eq_true rfl) (tm204 hF70) (fun _ g71 _ hF72 => ?_)
    refine tr_ldA rfl (?_)
    refine tr_invVU rfl rfl (fk_367 hF72) (Nat.le_of_ble_eq_true rfl) (by decide) (Nat.le_of_ble_eq_true rfl) (tm197 (by omega) hF72) (fun _ g73 _ hF74 => ?_)
    refine tr_pushI (?_)
    exact tr_retI hF74
def q_Mo_behindSum (v1 : Int32) (g : hG) : hO Int32 :=
  bnd (q_Mo_isSign (43 : Int32) g) fun r3 g1 => if r3 = (0 : Int32) then (bnd (q_Mo_isSign (45 : Int32) g1) fun r7 g5 => if r7 = (0 : Int32) then (bnd (q_Mo_isSign (42 : Int32) g5) fun r11 g9 => if r11 = (0 : Int32) then (bnd (q_Mo_isSign (47 : Int32) g9) fun r15 g13 => if r15 = (0 : Int32) then (bnd (q_Mo_isSign (37 : Int32) g13) fun r19 g17 => q_Mo_behindSum_31 v1 (if r19 = (0 : Int32) then (-1 : Int32) else (24 : Int32)) g17) else (q_Mo_behindSum_31 v1 (23 : Int32) g13)) else (q_Mo_behindSum_31 v1 (22 : Int32) g9)) else (q_Mo_behindSum_31 v1 (21 : Int32) g5)) else (q_Mo_behindSum_31 v1 (20 : Int32) g1)
theorem tm215 {d : Nat} {v1 : Int32} (hd : 3 ≤ d) {g : hG} (hF : Frz g) : TM wI d 215 [.ref 367, .int v1] g (q_Mo_behindSum v1 g) := by
  obtain ⟨e, rfl⟩ : ∃ e, d = e + 1 := ⟨d - 1, by omega⟩
  have he := hd
  refine TM.ofE e215_0 (lv := [some (.ref 367), some (.int v1), none, none]) rfl ?_
  unfold q_Mo_behindSum
  refine tr_ldA rfl (tr_pushI (?_))
  refine tr_invVI rfl rfl (fk_367 hF) (Nat.le_of_ble_eq_true rfl) (by decide) (Nat.le_of_ble_eq_true rfl) (tm199 hF) (fun r3 g1 _ hF2 => ?_)
  refine tr_if0j e215_6 (c_eq _ _) (fun hc4 => ?_) (fun hc4 => ?_)
  · refine tr_ldA rfl (tr_pushI (?_))
    refine tr_invVI rfl rfl (fk_367 hF2) (Nat.le_of_ble_eq_true rfl) (by decide) (Nat.le_of_ble_eq_true rfl) (tm199 hF2) (fun r7 g5 _ hF6 => ?_)
    refine tr_if0j e215_12 (c_eq _ _) (fun hc8 => ?_) (fun hc8 => ?_)
    · refine tr_ldA rfl (tr_pushI (?_))
      refine tr_invVI rfl rfl (fk_367 hF6) (Nat.le_of_ble_eq_true rfl) (by decide) (Nat.le_of_ble_eq_true rfl) (tm199 hF6) (fun r11 g9 _ hF10 => ?_)
      refine tr_if0j e215_18 (c_eq _ _) (fun hc12 => ?_) (fun hc12 => ?_)
      · refine tr_ldA rfl (tr_pushI (?_))
        refine tr_invVI rfl rfl (fk_367 hF10) (Nat.le_of_ble_eq_true rfl) (by decide) (Nat.le_of_ble_eq_true rfl) (tm199 hF10) (fun r15 g13 _ hF14 => ?_)
        refine tr_if0j e215_24 (c_eq _ _) (fun hc16 => ?_) (fun hc16 => ?_)
        · refine tr_ldA rfl (tr_pushI (?_))
          refine tr_invVI rfl rfl (fk_367 hF14) (Nat.le_of_ble_eq_true rfl) (by decide) (Nat.le_of_ble_eq_true rfl) (tm199 hF14) (fun r19 g17 _ hF18 => ?_)
          refine tr_if0cE e215_30 (c_eq _ _) (fun hc75 => ?_) (fun hc75 => ?_)
          · rw [if_pos hc75]
            refine tr_pushI (?_)
            exact th215_31 he rfl hF18
          · rw [if_neg hc75]
            refine tr_pushI (?_)
            refine tr_gotoE e215_31 (?_)
            exact th215_31 he rfl hF18
        · refine tr_pushI (?_)
          refine tr_gotoE e215_31 (?_)
          exact th215_31 he rfl hF14
      · refine tr_pushI (?_)
        refine tr_gotoE e215_31 (?_)
        exact th215_31 he rfl hF10
    · refine tr_pushI (?_)
      refine tr_gotoE e215_31 (?_)
      exact th215_31 he rfl hF6
  · refine tr_pushI (?_)
    refine tr_gotoE e215_31 (?_)
    exact th215_31 he rfl hF2
-- Mo_behindTest
abbrev t216_67 : List hOp := oPushI 2 :: oRetI :: []
abbrev t216_44 : List hOp := oLdA 0 :: oLdA 0 :: oPushI 41 :: oInvV 199 12 1 :: oInvV 200 12 1 :: oLdA 0 :: oGetI 12 19 :: oIf0 cNe 67 :: oLdA 0 :: oPushI 1 :: oInvV 206 12 1 :: oLdA 0 :: oDup :: oGetI 12 29 :: oPushI 1 :: oBin (fun x y => x - y) :: oPutI 12 29 :: oLdA 0 :: oDup :: oGetI 12 30 :: oPushI 1 :: oBin (fun x y => x - y) :: oPutI 12 30 :: t216_67
abbrev t216_38 : List hOp := oLdA 0 :: oInvV 207 12 0 :: oPushI (-1) :: oIf cNe 44 :: oPushI 4 :: oRetI :: t216_44
abbrev t216_32 : List hOp := oPushI 0 :: oInvV 203 12 2 :: oLdA 0 :: oInvV 197 12 0 :: oPushI 0 :: oRetI :: t216_38
abbrev t216_31 : List hOp := oPushI 30 :: t216_32
abbrev t216_23 : List hOp := oLdA 0 :: oGetI 12 23 :: oInvV 204 12 2 :: oLdA 0 :: oLdI 1 :: oIf0 cEq 31 :: oPushI 29 :: oGoto 32 :: t216_31
abbrev t216_22 : List hOp := oPushI 30 :: t216_23
abbrev t216_16 : List hOp := oInvV 206 12 1 :: oLdA 0 :: oLdI 1 :: oIf0 cEq 22 :: oPushI 29 :: oGoto 23 :: t216_22
abbrev t216_15 : List hOp := oPushI 1 :: t216_16
abbrev t216_10 : List hOp := oLdA 0 :: oLdI 1 :: oIf0 cEq 15 :: oPushI 2 :: oGoto 16 :: t216_15
abbrev t216_0 : List hOp := oLdA 0 :: oPushL 1476 :: oInvV 198 12 1 :: oStI 1 :: oLdI 1 :: oIf0 cNe 10 :: oLdA 0 :: oPushL 498 :: oInvV 198 12 1 :: oIf0 cEq 38 :: t216_10
theorem e216_0 : (opsOf 216).drop 0 = t216_0 := rfl
theorem e216_10 : (opsOf 216).drop 10 = t216_10 := rfl
theorem e216_15 : (opsOf 216).drop 15 = t216_15 := rfl
theorem e216_16 : (opsOf 216).drop 16 = t216_16 := rfl
theorem e216_22 : (opsOf 216).drop 22 = t216_22 := rfl
theorem e216_23 : (opsOf 216).drop 23 = t216_23 := rfl
theorem e216_31 : (opsOf 216).drop 31 = t216_31 := rfl
theorem e216_32 : (opsOf 216).drop 32 = t216_32 := rfl
theorem e216_38 : (opsOf 216).drop 38 = t216_38 := rfl
theorem e216_44 : (opsOf 216).drop 44 = t216_44 := rfl
theorem e216_67 : (opsOf 216).drop 67 = t216_67 := rfl
def q_Mo_behindTest_32 (w1 : Int32) (g : hG) : hO Int32 :=
  bnd (q_Mo_emit w1 (0 : Int32) g) fun _ g12 => bnd (q_Mo_next g12) fun _ g14 => some ((0 : Int32), g14)
theorem th216_32 {e : Nat} (he : 3 ≤ e + 1) {w1 : Int32} {u1 : Option Value} {g : hG} (hF : Frz g) : Tri wI (e + 1) 216 t216_32 [some (.ref 367), u1] [.int w1, .ref 367] g (q_Mo_behindTest_32 w1 g) := by
  unfold q_Mo_behindTest_32
  refine tr_pushI (?_)
  refine tr_invVU rfl rfl (fk_367 hF) (Nat.le_of_ble_eq_true rfl) (by decide) (Nat.le_of_ble_eq_true rfl) (tm203 hF) (fun _ g12 _ hF13 => ?_)
  refine tr_ldA rfl (?_)
  refine tr_invVU rfl rfl (fk_367 hF13) (Nat.le_of_ble_eq_true rfl) (by decide) (Nat.le_of_ble_eq_true rfl) (tm197 (by omega) hF13) (fun _ g14 _ hF15 => ?_)
  refine tr_pushI (?_)
  exact tr_retI hF15
def q_Mo_behindTest_23 (v1 : Int32) (w1 : Int32) (g : hG) : hO Int32 :=
  bnd (q_Mo_push w1 (gI g 367 23) g) fun _ g9 => q_Mo_behindTest_32 (if v1 = (0 : Int32) then (30 : Int32) else (29 : Int32)) g9
theorem th216_23 {e : Nat} (he : 3 ≤ e + 1) {v1 : Int32} {w1 : Int32} {g : hG} (hF : Frz g) : Tri wI (e + 1) 216 t216_23 [some (.ref 367), some (.int v1)] [.int w1, .ref 367] g (q_Mo_behindTest_23 v1 w1 g) := by
  unfold q_Mo_behindTest_23
  refine tr_ldA rfl (tr_getI (fk_367 hF) (?_))
  refine tr_invVU rfl rfl (fk_367 hF) (Nat.le_of_ble_eq_true rfl) (by decide) (Nat.le_of_ble_eq_true rfl) (tm204 hF) (fun _ g9 _ hF10 => ?_)
  refine tr_ldA rfl (tr_ldI rfl (?_))
  refine tr_if0cE e216_31 (c_eq _ _) (fun hc16 => ?_) (fun hc16 => ?_)
  · rw [if_pos hc16]
    refine tr_pushI (?_)
    exact th216_32 he hF10
  · rw [if_neg hc16]
    refine tr_pushI (?_)
    refine tr_gotoE e216_32 (?_)
    exact th216_32 he hF10
def q_Mo_behindTest_16 (v1 : Int32) (w1 : Int32) (g : hG) : hO Int32 :=
  bnd (q_Mo_settle w1 g) fun _ g6 => q_Mo_behindTest_23 v1 (if v1 = (0 : Int32) then (30 : Int32) else (29 : Int32)) g6
theorem th216_16 {e : Nat} (he : 3 ≤ e + 1) {v1 : Int32} {w1 : Int32} {g : hG} (hF : Frz g) : Tri wI (e + 1) 216 t216_16 [some (.ref 367), some (.int v1)] [.int w1, .ref 367] g (q_Mo_behindTest_16 v1 w1 g) := by
  unfold q_Mo_behindTest_16
  refine tr_invVU rfl rfl (fk_367 hF) (Nat.le_of_ble_eq_true rfl) (by decide) (Nat.le_of_ble_eq_true rfl) (tm206 (by omega) hF) (fun _ g6 _ hF7 => ?_)
  refine tr_ldA rfl (tr_ldI rfl (?_))
  refine tr_if0cE e216_22 (c_eq _ _) (fun hc17 => ?_) (fun hc17 => ?_)
  · rw [if_pos hc17]
    refine tr_pushI (?_)
    exact th216_23 he hF7
  · rw [if_neg hc17]
    refine tr_pushI (?_)
    refine tr_gotoE e216_23 (?_)
    exact th216_23 he hF7
def q_Mo_behindTest_10 (v1 : Int32) (g : hG) : hO Int32 :=
  q_Mo_behindTest_16 v1 (if v1 = (0 : Int32) then (1 : Int32) else (2 : Int32)) g
theorem th216_10 {e : Nat} (he : 3 ≤ e + 1) {v1 : Int32} {g : hG} (hF : Frz g) : Tri wI (e + 1) 216 t216_10 [some (.ref 367), some (.int v1)] [] g (q_Mo_behindTest_10 v1 g) := by
  unfold q_Mo_behindTest_10
  refine tr_ldA rfl (tr_ldI rfl (?_))
  refine tr_if0cE e216_15 (c_eq _ _) (fun hc18 => ?_) (fun hc18 => ?_)
  · rw [if_pos hc18]
    refine tr_pushI (?_)
    exact th216_16 he hF
  · rw [if_neg hc18]
    refine tr_pushI (?_)
    refine tr_gotoE e216_16 (?_)
    exact th216_16 he hF
def q_Mo_behindTest (g : hG) : hO Int32 :=
  bnd (q_Mo_isWord (1476 : Int64) g) fun r3 g1 => if r3 = (0 : Int32) then (bnd (q_Mo_isWord (498 : Int64) g1) fun r21 g19 => if r21 = (0 : Int32) then (bnd (q_Mo_inner g19) fun r25 g23 => if r25 = (-1 : Int32) then (some ((4 : Int32), g23)) else (bnd (q_Mo_isSign (41 : Int32) g23) fun r29 g27 => bnd (q_Mo_must r29 g27) fun _ g30 => if (gI g30 367 19) = (0 : Int32) then (bnd (q_Mo_settle (1 : Int32) g30) fun _ g33 => wr (sI g33 367 29 ((gI g33 367 29) - (1 : Int32))) fun g35 => wr (sI g35 367 30 ((gI g35 367 30) - (1 : Int32))) fun g37 => some ((2 : Int32), g37)) else (some ((2 : Int32), g30)))) else (q_Mo_behindTest_10 r3 g19)) else (q_Mo_behindTest_10 r3 g1)
theorem tm216 {d : Nat} (hd : 3 ≤ d) {g : hG} (hF : Frz g) : TM wI d 216 [.ref 367] g (q_Mo_behindTest g) := by
  obtain ⟨e, rfl⟩ : ∃ e, d = e + 1 := ⟨d - 1, by omega⟩
  have he := hd
  refine TM.ofE e216_0 (lv := [some (.ref 367), none]) rfl ?_
  unfold q_Mo_behindTest
  refine tr_ldA rfl (tr_pushL (?_))
  refine tr_invVI rfl rfl (fk_367 hF) (Nat.le_of_ble_eq_true rfl) (by decide) (Nat.le_of_ble_eq_true rfl) (tm198 hF) (fun r3 g1 _ hF2 => ?_)
  refine tr_stI (Nat.le_of_ble_eq_true rfl) rfl rfl (tr_ldI rfl (?_))
  refine tr_if0n e216_10 (c_ne _ _) (fun hc4 => ?_) (fun hc4 => ?_)
  · exact th216_10 he hF2
  · refine tr_ldA rfl (tr_pushL (?_))
    refine tr_invVI rfl rfl (fk_367 hF2) (Nat.le_of_ble_eq_true rfl) (by decide) (Nat.le_of_ble_eq_true rfl) (tm198 hF2) (fun r21 g19 _ hF20 => ?_)
    refine tr_if0j e216_38 (c_eq _ _) (fun hc22 => ?_) (fun hc22 => ?_)
    · refine tr_ldA rfl (?_)
      refine tr_invVI rfl rfl (fk_367 hF20) (Nat.le_of_ble_eq_true rfl) (by decide) (Nat.le_of_ble_eq_true rfl) (tm207 hF20) (fun r25 g23 _ hF24 => ?_)
      refine tr_pushI (?_)
      refine tr_ifn e216_44 (c_ne _ _) (fun hc26 => ?_) (fun hc26 => ?_)
      · refine tr_ldA rfl (tr_ldA rfl (tr_pushI (?_)))
        refine tr_invVI rfl rfl (fk_367 hF24) (Nat.le_of_ble_eq_true rfl) (by decide) (Nat.le_of_ble_eq_true rfl) (tm199 hF24) (fun r29 g27 _ hF28 => ?_)
        refine tr_invVU rfl rfl (fk_367 hF28) (Nat.le_of_ble_eq_true rfl) (by decide) (Nat.le_of_ble_eq_true rfl) (tm200 (by omega) hF28) (fun _ g30 _ hF31 => ?_)
        refine tr_ldA rfl (tr_getI (fk_367 hF31) (?_))
        refine tr_if0n e216_67 (c_ne _ _) (fun hc32 => ?_) (fun hc32 => ?_)
        · refine tr_pushI (?_)
          exact tr_retI hF31
        · refine tr_ldA rfl (tr_pushI (?_))
          refine tr_invVU rfl rfl (fk_367 hF31) (Nat.le_of_ble_eq_true rfl) (by decide) (Nat.le_of_ble_eq_true rfl) (tm206 (by omega) hF31) (fun _ g33 _ hF34 => ?_)
          refine tr_ldA rfl (tr_dupA (tr_getI (fk_367 hF34) (tr_pushI (tr_bin (v := ((gI g33 367 29) - (1 : Int32))) rfl (tr_putI hF34 (fk_367 hF34) (fun g35 _ hF36 => ?_))))))
          refine tr_ldA rfl (tr_dupA (tr_getI (fk_367 hF36) (tr_pushI (tr_bin (v := ((gI g35 367 30) - (1 : Int32))) rfl (tr_putI hF36 (fk_367 hF36) (fun g37 _ hF38 => ?_))))))
          refine tr_pushI (?_)
          exact tr_retI hF38
      · refine tr_pushI (?_)
        exact tr_retI hF24
    · exact th216_10 he hF20
-- Mo_readExpression
abbrev t217_40 : List hOp := oLdA 0 :: oPushI 1 :: oInvV 206 12 1 :: oRetV :: []
abbrev t217_38 : List hOp := oStI 2 :: oGoto 12 :: t217_40
abbrev t217_36 : List hOp := oLdA 0 :: oInvV 216 12 0 :: t217_38
abbrev t217_29 : List hOp := oLdI 2 :: oPushI 3 :: oIf cNe 36 :: oLdA 0 :: oLdI 1 :: oInvV 215 12 1 :: oGoto 38 :: t217_36
abbrev t217_23 : List hOp := oLdI 2 :: oPushI 1 :: oIf cNe 29 :: oLdA 0 :: oInvV 213 12 0 :: oGoto 38 :: t217_29
abbrev t217_12 : List hOp := oLdA 0 :: oGetI 12 19 :: oIf0 cNe 40 :: oLdI 2 :: oPushI 4 :: oIf cEq 40 :: oLdI 2 :: oIf0 cNe 23 :: oLdA 0 :: oInvV 214 12 0 :: oGoto 38 :: t217_23
abbrev t217_11 : List hOp := oStI 2 :: t217_12
abbrev t217_10 : List hOp := oPushI 1 :: t217_11
abbrev t217_0 : List hOp := oLdA 0 :: oPushI 0 :: oPutI 12 29 :: oLdA 0 :: oPushI 0 :: oPutI 12 30 :: oLdI 1 :: oIf0 cEq 10 :: oPushI 0 :: oGoto 11 :: t217_10
theorem e217_0 : (opsOf 217).drop 0 = t217_0 := rfl
theorem e217_10 : (opsOf 217).drop 10 = t217_10 := rfl
theorem e217_11 : (opsOf 217).drop 11 = t217_11 := rfl
theorem e217_12 : (opsOf 217).drop 12 = t217_12 := rfl
theorem e217_23 : (opsOf 217).drop 23 = t217_23 := rfl
theorem e217_29 : (opsOf 217).drop 29 = t217_29 := rfl
theorem e217_36 : (opsOf 217).drop 36 = t217_36 := rfl
theorem e217_38 : (opsOf 217).drop 38 = t217_38 := rfl
theorem e217_40 : (opsOf 217).drop 40 = t217_40 := rfl
def q_Mo_readExpression_12 (v1 : Int32) (k40 : hG → hO Unit) (k12 : Int32 → hG → hO Unit) (v2 : Int32) (g : hG) : hO Unit :=
  if (gI g 367 19) = (0 : Int32) then (if v2 = (4 : Int32) then (k40 g) else (if v2 = (0 : Int32) then (bnd (q_Mo_readPlain g) fun r22 g20 => k12 r22 g20) else (if v2 = (1 : Int32) then (bnd (q_Mo_readPart g) fun r19 g17 => k12 r19 g17) else (if v2 = (3 : Int32) then (bnd (q_Mo_behindSum v1 g) fun r16 g14 => k12 r16 g14) else (bnd (q_Mo_behindTest g) fun r13 g11 => k12 r13 g11))))) else (k40 g)
def q_Mo_readExpression_12L (v1 : Int32) (k40 : hG → hO Unit) : Nat → Int32 → hG → hO Unit
  | 0 => fun _ _ => none
  | n + 1 => fun v2 g => q_Mo_readExpression_12 v1 k40 (q_Mo_readExpression_12L v1 k40 n) v2 g
theorem q_Mo_readExpression_12L_s (v1 : Int32) (k40 : hG → hO Unit) (n : Nat) (v2 : Int32) (g : hG) : q_Mo_readExpression_12L v1 k40 (n + 1) v2 g = q_Mo_readExpression_12 v1 k40 (q_Mo_readExpression_12L v1 k40 n) v2 g := rfl
theorem th217_12 {e : Nat} (he : 6 ≤ e + 1) {v1 : Int32} {k40 : hG → hO Unit} {k12 : Int32 → hG → hO Unit} {v2 : Int32} (hk40 : ∀ (y2 : Option Value) (g : hG), Frz g → Tri wU (e + 1) 217 t217_40 [some (.ref 367), some (.int v1), y2] [] g (k40 g)) (hk12 : ∀ (x2 : Int32) (g : hG), Frz g → Tri wU (e + 1) 217 t217_12 [some (.ref 367), some (.int v1), some (.int x2)] [] g (k12 x2 g)) {g : hG} (hF : Frz g) : Tri wU (e + 1) 217 t217_12 [some (.ref 367), some (.int v1), some (.int v2)] [] g (q_Mo_readExpression_12 v1 k40 k12 v2 g) := by
  unfold q_Mo_readExpression_12
  refine tr_ldA rfl (tr_getI (fk_367 hF) (?_))
  refine tr_if0n e217_40 (c_ne _ _) (fun hc6 => ?_) (fun hc6 => ?_)
  · exact hk40 _ _ hF
  · refine tr_ldI rfl (tr_pushI (?_))
    refine tr_ifj e217_40 (c_eq _ _) (fun hc7 => ?_) (fun hc7 => ?_)
    · exact hk40 _ _ hF
    · refine tr_ldI rfl (?_)
      refine tr_if0n e217_23 (c_ne _ _) (fun hc8 => ?_) (fun hc8 => ?_)
      · refine tr_ldI rfl (tr_pushI (?_))
        refine tr_ifn e217_29 (c_ne _ _) (fun hc9 => ?_) (fun hc9 => ?_)
        · refine tr_ldI rfl (tr_pushI (?_))
          refine tr_ifn e217_36 (c_ne _ _) (fun hc10 => ?_) (fun hc10 => ?_)
          · refine tr_ldA rfl (?_)
            refine tr_invVI rfl rfl (fk_367 hF) (Nat.le_of_ble_eq_true rfl) (by decide) (Nat.le_of_ble_eq_true rfl) (tm216 (by omega) hF) (fun r13 g11 _ hF12 => ?_)
            refine tr_stI (Nat.le_of_ble_eq_true rfl) rfl rfl (?_)
            refine tr_gotoE e217_12 (?_)
            exact hk12 _ _ hF12
          · refine tr_ldA rfl (tr_ldI rfl (?_))
            refine tr_invVI rfl rfl (fk_367 hF) (Nat.le_of_ble_eq_true rfl) (by decide) (Nat.le_of_ble_eq_true rfl) (tm215 (by omega) hF) (fun r16 g14 _ hF15 => ?_)
            refine tr_gotoE e217_38 (?_)
            refine tr_stI (Nat.le_of_ble_eq_true rfl) rfl rfl (?_)
            refine tr_gotoE e217_12 (?_)
            exact hk12 _ _ hF15
        · refine tr_ldA rfl (?_)
          refine tr_invVI rfl rfl (fk_367 hF) (Nat.le_of_ble_eq_true rfl) (by decide) (Nat.le_of_ble_eq_true rfl) (tm213 (by omega) hF) (fun r19 g17 _ hF18 => ?_)
          refine tr_gotoE e217_38 (?_)
          refine tr_stI (Nat.le_of_ble_eq_true rfl) rfl rfl (?_)
          refine tr_gotoE e217_12 (?_)
          exact hk12 _ _ hF18
      · refine tr_ldA rfl (?_)
        refine tr_invVI rfl rfl (fk_367 hF) (Nat.le_of_ble_eq_true rfl) (by decide) (Nat.le_of_ble_eq_true rfl) (tm214 (by omega) hF) (fun r22 g20 _ hF21 => ?_)
        refine tr_gotoE e217_38 (?_)
        refine tr_stI (Nat.le_of_ble_eq_true rfl) rfl rfl (?_)
        refine tr_gotoE e217_12 (?_)
        exact hk12 _ _ hF21
theorem th217_12L {e : Nat} (he : 6 ≤ e + 1) {v1 : Int32} {k40 : hG → hO Unit} (hk40 : ∀ (y2 : Option Value) (g : hG), Frz g → Tri wU (e + 1) 217 t217_40 [some (.ref 367), some (.int v1), y2] [] g (k40 g)) : ∀ (n : Nat) (v2 : Int32) (g : hG), Frz g → Tri wU (e + 1) 217 t217_12 [some (.ref 367), some (.int v1), some (.int v2)] [] g (q_Mo_readExpression_12L v1 k40 n v2 g)
  | 0 => fun _ _ _ => Tri.none_
  | n + 1 => fun _ g hF => th217_12 he hk40 (th217_12L he hk40 n) hF
def q_Mo_readExpression_40 (g : hG) : hO Unit :=
  bnd (q_Mo_settle (1 : Int32) g) fun _ g26 => some ((), g26)
theorem th217_40 {e : Nat} (he : 6 ≤ e + 1) {u1 : Option Value} {u2 : Option Value} (hu1 : isL (some u1) = false) {g : hG} (hF : Frz g) : Tri wU (e + 1) 217 t217_40 [some (.ref 367), u1, u2] [] g (q_Mo_readExpression_40 g) := by
  unfold q_Mo_readExpression_40
  refine tr_ldA rfl (tr_pushI (?_))
  refine tr_invVU rfl rfl (fk_367 hF) (Nat.le_of_ble_eq_true rfl) (by decide) (Nat.le_of_ble_eq_true rfl) (tm206 (by omega) hF) (fun _ g26 _ hF27 => ?_)
  exact tr_retV hF27
def q_Mo_readExpression_11 (v1 : Int32) (w0 : Int32) (g : hG) : hO Unit :=
  q_Mo_readExpression_12L v1 (fun g24 => q_Mo_readExpression_40 g24) FU w0 g
theorem th217_11 {e : Nat} (he : 6 ≤ e + 1) {v1 : Int32} {w0 : Int32} {u2 : Option Value} {g : hG} (hF : Frz g) : Tri wU (e + 1) 217 t217_11 [some (.ref 367), some (.int v1), u2] [.int w0] g (q_Mo_readExpression_11 v1 w0 g) := by
  unfold q_Mo_readExpression_11
  refine tr_stI (Nat.le_of_ble_eq_true rfl) rfl rfl (?_)
  refine th217_12L he (fun y23 g24 hF25 => ?_) FU _ _ hF
  · exact th217_40 he rfl hF25
def q_Mo_readExpression (v1 : Int32) (g : hG) : hO Unit :=
  wr (sI g 367 29 (0 : Int32)) fun g1 => wr (sI g1 367 30 (0 : Int32)) fun g3 => q_Mo_readExpression_11 v1 (if v1 = (0 : Int32) then (1 : Int32) else (0 : Int32)) g3
theorem tm217 {d : Nat} {v1 : Int32} (hd : 6 ≤ d) {g : hG} (hF : Frz g) : TM wU d 217 [.ref 367, .int v1] g (q_Mo_readExpression v1 g) := by
  obtain ⟨e, rfl⟩ : ∃ e, d = e + 1 := ⟨d - 1, by omega⟩
  have he := hd
  refine TM.ofE e217_0 (lv := [some (.ref 367), some (.int v1), none]) rfl ?_
  unfold q_Mo_readExpression
  refine tr_ldA rfl (tr_pushI (tr_putI hF (fk_367 hF) (fun g1 _ hF2 => tr_ldA rfl (tr_pushI (tr_putI hF2 (fk_367 hF2) (fun g3 _ hF4 => ?_))))))
  refine tr_ldI rfl (?_)
  refine tr_if0cE e217_10 (c_eq _ _) (fun hc28 => ?_) (fun hc28 => ?_)
  · rw [if_pos hc28]
    refine tr_pushI (?_)
    exact th217_11 he hF4
  · rw [if_neg hc28]
    refine tr_pushI (?_)
    refine tr_gotoE e217_11 (?_)
    exact th217_11 he hF4
-- Mo_readLaw
abbrev t220_108 : List hOp := oLdA 0 :: oGetP 12 22 :: oLdI 2 :: oPushI 6 :: oBin (fun x y => x + y) :: oLdA 0 :: oGetI 12 23 :: oAStI :: oRetV :: []
abbrev t220_80 : List hOp := oLdA 0 :: oGetP 12 22 :: oLdI 2 :: oPushI 4 :: oBin (fun x y => x + y) :: oLdA 0 :: oGetI 12 23 :: oAStI :: oLdA 0 :: oGetP 12 22 :: oLdI 2 :: oPushI 5 :: oBin (fun x y => x + y) :: oLdA 0 :: oGetI 12 23 :: oAStI :: oLdA 0 :: oGetI 12 19 :: oIf0 cNe 108 :: oLdA 0 :: oPushL 294 :: oInvV 198 12 1 :: oIf0 cEq 108 :: oLdA 0 :: oInvV 197 12 0 :: oLdA 0 :: oPushI 1 :: oInvV 217 12 1 :: t220_108
abbrev t220_55 : List hOp := oLdA 0 :: oGetP 12 22 :: oLdI 2 :: oLdI 1 :: oAStI :: oLdA 0 :: oDup :: oGetI 12 21 :: oPushI 1 :: oBin (fun x y => x + y) :: oPutI 12 21 :: oLdA 0 :: oGetP 12 22 :: oLdI 2 :: oPushI 3 :: oBin (fun x y => x + y) :: oLdA 0 :: oGetI 12 23 :: oAStI :: oLdI 1 :: oPushI 1 :: oIf cEq 80 :: oLdA 0 :: oPushI 0 :: oInvV 217 12 1 :: t220_80
abbrev t220_43 : List hOp := oLdI 3 :: oPushI 8 :: oIf cGe 55 :: oLdA 0 :: oGetP 12 22 :: oLdI 2 :: oLdI 3 :: oBin (fun x y => x + y) :: oPushI 0 :: oAStI :: oInc 3 1 :: oGoto 43 :: t220_55
abbrev t220_36 : List hOp := oPushI 8 :: oLdA 0 :: oGetI 12 21 :: oBin (fun x y => x * y) :: oStI 2 :: oPushI 0 :: oStI 3 :: t220_43
abbrev t220_31 : List hOp := oInvV 200 12 1 :: oLdA 0 :: oGetI 12 19 :: oIf0 cEq 36 :: oRetV :: t220_36
abbrev t220_30 : List hOp := oPushI 0 :: t220_31
abbrev t220_20 : List hOp := oLdA 0 :: oLdI 1 :: oPushI (-1) :: oIf cEq 30 :: oLdA 0 :: oGetI 12 21 :: oPushI 12 :: oIf cGe 30 :: oPushI 1 :: oGoto 31 :: t220_30
abbrev t220_17 : List hOp := oStI 1 :: oInc 2 1 :: oGoto 4 :: t220_20
abbrev t220_16 : List hOp := oLdI 1 :: t220_17
abbrev t220_4 : List hOp := oLdI 2 :: oPushI 2 :: oIf cGe 20 :: oLdA 0 :: oLdA 0 :: oGetP 12 33 :: oLdI 2 :: oALdJ :: oInvV 198 12 1 :: oIf0 cEq 16 :: oLdI 2 :: oGoto 17 :: t220_16
abbrev t220_0 : List hOp := oPushI (-1) :: oStI 1 :: oPushI 0 :: oStI 2 :: t220_4
theorem e220_0 : (opsOf 220).drop 0 = t220_0 := rfl
theorem e220_4 : (opsOf 220).drop 4 = t220_4 := rfl
theorem e220_16 : (opsOf 220).drop 16 = t220_16 := rfl
theorem e220_17 : (opsOf 220).drop 17 = t220_17 := rfl
theorem e220_20 : (opsOf 220).drop 20 = t220_20 := rfl
theorem e220_30 : (opsOf 220).drop 30 = t220_30 := rfl
theorem e220_31 : (opsOf 220).drop 31 = t220_31 := rfl
theorem e220_36 : (opsOf 220).drop 36 = t220_36 := rfl
theorem e220_43 : (opsOf 220).drop 43 = t220_43 := rfl
theorem e220_55 : (opsOf 220).drop 55 = t220_55 := rfl
theorem e220_80 : (opsOf 220).drop 80 = t220_80 := rfl
theorem e220_108 : (opsOf 220).drop 108 = t220_108 := rfl
def q_Mo_readLaw_4 (k20 : Int32 → hG → hO Unit) (k4 : Int32 → Int32 → hG → hO Unit) (v1 : Int32) (v2 : Int32) (g : hG) : hO Unit :=
  if (2 : Int32) ≤ v2 then (k20 v1 g) else (gd v2 2 <| bnd (q_Mo_isWord (gJ g 384 v2.toNatClampNeg) g) fun r4 g2 => if r4 = (0 : Int32) then (k4 v1 (v2 + (1 : Int32)) g2) else (k4 v2 (v2 + (1 : Int32)) g2))
def q_Mo_readLaw_4L (k20 : Int32 → hG → hO Unit) : Nat → Int32 → Int32 → hG → hO Unit
  | 0 => fun _ _ _ => none
  | n + 1 => fun v1 v2 g => q_Mo_readLaw_4 k20 (q_Mo_readLaw_4L k20 n) v1 v2 g
theorem q_Mo_readLaw_4L_s (k20 : Int32 → hG → hO Unit) (n : Nat) (v1 : Int32) (v2 : Int32) (g : hG) : q_Mo_readLaw_4L k20 (n + 1) v1 v2 g = q_Mo_readLaw_4 k20 (q_Mo_readLaw_4L k20 n) v1 v2 g := rfl
theorem th220_4 {e : Nat} (he : 7 ≤ e + 1) {k20 : Int32 → hG → hO Unit} {k4 : Int32 → Int32 → hG → hO Unit} {v1 : Int32} {v2 : Int32} {u3 : Option Value} (hk20 : ∀ (x1 : Int32) (y2 : Option Value) (_ : isL (some y2) = false) (g : hG), Frz g → Tri wU (e + 1) 220 t220_20 [some (.ref 367), some (.int x1), y2, u3] [] g (k20 x1 g)) (hk4 : ∀ (x1 : Int32) (x2 : Int32) (g : hG), Frz g → Tri wU (e + 1) 220 t220_4 [some (.ref 367), some (.int x1), some (.int x2), u3] [] g (k4 x1 x2 g)) {g : hG} (hF : Frz g) : Tri wU (e + 1) 220 t220_4 [some (.ref 367), some (.int v1), some (.int v2), u3] [] g (q_Mo_readLaw_4 k20 k4 v1 v2 g) := by
  unfold q_Mo_readLaw_4
  refine tr_ldI rfl (tr_pushI (?_))
  refine tr_ifj e220_20 (c_ge _ _) (fun hc1 => ?_) (fun hc1 => ?_)
  · exact hk20 _ _ rfl _ hF
  · refine tr_ldA rfl (tr_ldA rfl (tr_getP (b := 384) (fk_367 hF) (fp_367_33 hF) (tr_ldI rfl (tr_aldJ (fk_384 hF) (fl_384 hF) (fun _ => ?_)))))
    refine tr_invVI rfl rfl (fk_367 hF) (Nat.le_of_ble_eq_true rfl) (by decide) (Nat.le_of_ble_eq_true rfl) (tm198 hF) (fun r4 g2 _ hF3 => ?_)
    refine tr_if0j e220_16 (c_eq _ _) (fun hc5 => ?_) (fun hc5 => ?_)
    · refine tr_ldI rfl (tr_stI (Nat.le_of_ble_eq_true rfl) rfl rfl (tr_inc rfl rfl rfl (?_)))
      refine tr_gotoE e220_4 (?_)
      exact hk4 _ _ _ hF3
    · refine tr_ldI rfl (?_)
      refine tr_gotoE e220_17 (?_)
      refine tr_stI (Nat.le_of_ble_eq_true rfl) rfl rfl (tr_inc rfl rfl rfl (?_))
      refine tr_gotoE e220_4 (?_)
      exact hk4 _ _ _ hF3
theorem th220_4L {e : Nat} (he : 7 ≤ e + 1) {k20 : Int32 → hG → hO Unit} {u3 : Option Value} (hk20 : ∀ (x1 : Int32) (y2 : Option Value) (_ : isL (some y2) = false) (g : hG), Frz g → Tri wU (e + 1) 220 t220_20 [some (.ref 367), some (.int x1), y2, u3] [] g (k20 x1 g)) : ∀ (n : Nat) (v1 : Int32) (v2 : Int32) (g : hG), Frz g → Tri wU (e + 1) 220 t220_4 [some (.ref 367), some (.int v1), some (.int v2), u3] [] g (q_Mo_readLaw_4L k20 n v1 v2 g)
  | 0 => fun _ _ _ _ => Tri.none_
  | n + 1 => fun _ _ g hF => th220_4 he hk20 (th220_4L he hk20 n) hF
def q_Mo_readLaw_43 (v2 : Int32) (k55 : hG → hO Unit) (k43 : Int32 → hG → hO Unit) (v3 : Int32) (g : hG) : hO Unit :=
  if (8 : Int32) ≤ v3 then (k55 g) else (gd (v2 + v3) 96 <| wr (sI g 377 (v2 + v3).toNatClampNeg (0 : Int32)) fun g15 => k43 (v3 + (1 : Int32)) g15)
def q_Mo_readLaw_43L (v2 : Int32) (k55 : hG → hO Unit) : Nat → Int32 → hG → hO Unit
  | 0 => fun _ _ => none
  | n + 1 => fun v3 g => q_Mo_readLaw_43 v2 k55 (q_Mo_readLaw_43L v2 k55 n) v3 g
theorem q_Mo_readLaw_43L_s (v2 : Int32) (k55 : hG → hO Unit) (n : Nat) (v3 : Int32) (g : hG) : q_Mo_readLaw_43L v2 k55 (n + 1) v3 g = q_Mo_readLaw_43 v2 k55 (q_Mo_readLaw_43L v2 k55 n) v3 g := rfl
theorem th220_43 {e : Nat} (he : 7 ≤ e + 1) {v2 : Int32} {k55 : hG → hO Unit} {k43 : Int32 → hG → hO Unit} {v3 : Int32} {u1 : Option Value} (hk55 : ∀ (y3 : Option Value) (g : hG), Frz g → Tri wU (e + 1) 220 t220_55 [some (.ref 367), u1, some (.int v2), y3] [] g (k55 g)) (hk43 : ∀ (x3 : Int32) (g : hG), Frz g → Tri wU (e + 1) 220 t220_43 [some (.ref 367), u1, some (.int v2), some (.int x3)] [] g (k43 x3 g)) (hu1 : isL (some u1) = false) {g : hG} (hF : Frz g) : Tri wU (e + 1) 220 t220_43 [some (.ref 367), u1, some (.int v2), some (.int v3)] [] g (q_Mo_readLaw_43 v2 k55 k43 v3 g) := by
  unfold q_Mo_readLaw_43
  refine tr_ldI rfl (tr_pushI (?_))
  refine tr_ifj e220_55 (c_ge _ _) (fun hc14 => ?_) (fun hc14 => ?_)
  · exact hk55 _ _ hF
  · refine tr_ldA rfl (tr_getP (b := 377) (fk_367 hF) (fp_367_22 hF) (tr_ldI rfl (tr_ldI rfl (tr_bin (v := (v2 + v3)) rfl (tr_pushI (?_))))))
    refine tr_astI hF (fk_377 hF) (fl_377 hF) (fun _ g15 _ hF16 => tr_inc rfl rfl rfl (?_))
    refine tr_gotoE e220_43 (?_)
    exact hk43 _ _ hF16
theorem th220_43L {e : Nat} (he : 7 ≤ e + 1) {v2 : Int32} {k55 : hG → hO Unit} {u1 : Option Value} (hk55 : ∀ (y3 : Option Value) (g : hG), Frz g → Tri wU (e + 1) 220 t220_55 [some (.ref 367), u1, some (.int v2), y3] [] g (k55 g)) (hu1 : isL (some u1) = false) : ∀ (n : Nat) (v3 : Int32) (g : hG), Frz g → Tri wU (e + 1) 220 t220_43 [some (.ref 367), u1, some (.int v2), some (.int v3)] [] g (q_Mo_readLaw_43L v2 k55 n v3 g)
  | 0 => fun _ _ _ => Tri.none_
  | n + 1 => fun _ g hF => th220_43 he hk55 (th220_43L he hk55 hu1 n) hu1 hF
def q_Mo_readLaw_108 (v2 : Int32) (g : hG) : hO Unit :=
  gd (v2 + (6 : Int32)) 96 <| wr (sI g 377 (v2 + (6 : Int32)).toNatClampNeg (gI g 367 23)) fun g32 => some ((), g32)
theorem th220_108 {e : Nat} (he : 7 ≤ e + 1) {v2 : Int32} {u1 : Option Value} {u3 : Option Value} (hu1 : isL (some u1) = false) {g : hG} (hF : Frz g) : Tri wU (e + 1) 220 t220_108 [some (.ref 367), u1, some (.int v2), u3] [] g (q_Mo_readLaw_108 v2 g) := by
  unfold q_Mo_readLaw_108
  refine tr_ldA rfl (tr_getP (b := 377) (fk_367 hF) (fp_367_22 hF) (tr_ldI rfl (tr_pushI (tr_bin (v := (v2 + (6 : Int32))) rfl (tr_ldA rfl (?_))))))
  refine tr_getI (fk_367 hF) (tr_astI hF (fk_377 hF) (fl_377 hF) (fun _ g32 _ hF33 => ?_))
  exact tr_retV hF33
def q_Mo_readLaw_80 (v2 : Int32) (g : hG) : hO Unit :=
  gd (v2 + (4 : Int32)) 96 <| wr (sI g 377 (v2 + (4 : Int32)).toNatClampNeg (gI g 367 23)) fun g27 => gd (v2 + (5 : Int32)) 96 <| wr (sI g27 377 (v2 + (5 : Int32)).toNatClampNeg (gI g27 367 23)) fun g29 => if (gI g29 367 19) = (0 : Int32) then (bnd (q_Mo_isWord (294 : Int64) g29) fun r36 g34 => if r36 = (0 : Int32) then (q_Mo_readLaw_108 v2 g34) else (bnd (q_Mo_next g34) fun _ g38 => bnd (q_Mo_readExpression (1 : Int32) g38) fun _ g40 => q_Mo_readLaw_108 v2 g40)) else (q_Mo_readLaw_108 v2 g29)
theorem th220_80 {e : Nat} (he : 7 ≤ e + 1) {v2 : Int32} {u1 : Option Value} {u3 : Option Value} (hu1 : isL (some u1) = false) {g : hG} (hF : Frz g) : Tri wU (e + 1) 220 t220_80 [some (.ref 367), u1, some (.int v2), u3] [] g (q_Mo_readLaw_80 v2 g) := by
  unfold q_Mo_readLaw_80
  refine tr_ldA rfl (tr_getP (b := 377) (fk_367 hF) (fp_367_22 hF) (tr_ldI rfl (tr_pushI (tr_bin (v := (v2 + (4 : Int32))) rfl (tr_ldA rfl (?_))))))
  refine tr_getI (fk_367 hF) (tr_astI hF (fk_377 hF) (fl_377 hF) (fun _ g27 _ hF28 => tr_ldA rfl (tr_getP (b := 377) (fk_367 hF28) (fp_367_22 hF28) (tr_ldI rfl (tr_pushI (?_))))))
  refine tr_bin (v := (v2 + (5 : Int32))) rfl (tr_ldA rfl (tr_getI (fk_367 hF28) (tr_astI hF28 (fk_377 hF28) (fl_377 hF28) (fun _ g29 _ hF30 => tr_ldA rfl (tr_getI (fk_367 hF30) (?_))))))
  refine tr_if0n e220_108 (c_ne _ _) (fun hc31 => ?_) (fun hc31 => ?_)
  · exact th220_108 he hu1 hF30
  · refine tr_ldA rfl (tr_pushL (?_))
    refine tr_invVI rfl rfl (fk_367 hF30) (Nat.le_of_ble_eq_true rfl) (by decide) (Nat.le_of_ble_eq_true rfl) (tm198 hF30) (fun r36 g34 _ hF35 => ?_)
    refine tr_if0j e220_108 (c_eq _ _) (fun hc37 => ?_) (fun hc37 => ?_)
    · exact th220_108 he hu1 hF35
    · refine tr_ldA rfl (?_)
      refine tr_invVU rfl rfl (fk_367 hF35) (Nat.le_of_ble_eq_true rfl) (by decide) (Nat.le_of_ble_eq_true rfl) (tm197 (by omega) hF35) (fun _ g38 _ hF39 => ?_)
      refine tr_ldA rfl (tr_pushI (?_))
      refine tr_invVU rfl rfl (fk_367 hF39) (Nat.le_of_ble_eq_true rfl) (by decide) (Nat.le_of_ble_eq_true rfl) (tm217 (by omega) hF39) (fun _ g40 _ hF41 => ?_)
      exact th220_108 he hu1 hF41
def q_Mo_readLaw_31 (v1 : Int32) (w1 : Int32) (g : hG) : hO Unit :=
  bnd (q_Mo_must w1 g) fun _ g11 => if (gI g11 367 19) = (0 : Int32) then (q_Mo_readLaw_43L ((8 : Int32) * (gI g11 367 21)) (fun g18 => gd ((8 : Int32) * (gI g11 367 21)) 96 <| wr (sI g18 377 ((8 : Int32) * (gI g11 367 21)).toNatClampNeg v1) fun g20 => wr (sI g20 367 21 ((gI g20 367 21) + (1 : Int32))) fun g22 => gd (((8 : Int32) * (gI g11 367 21)) + (3 : Int32)) 96 <| wr (sI g22 377 (((8 : Int32) * (gI g11 367 21)) + (3 : Int32)).toNatClampNeg (gI g22 367 23)) fun g24 => if v1 = (1 : Int32) then (q_Mo_readLaw_80 ((8 : Int32) * (gI g11 367 21)) g24) else (bnd (q_Mo_readExpression (0 : Int32) g24) fun _ g42 => q_Mo_readLaw_80 ((8 : Int32) * (gI g11 367 21)) g42)) FU (0 : Int32) g11) else (some ((), g11))
theorem th220_31 {e : Nat} (he : 7 ≤ e + 1) {v1 : Int32} {w1 : Int32} {u2 : Option Value} {u3 : Option Value} (hu2 : isL (some u2) = false) {g : hG} (hF : Frz g) : Tri wU (e + 1) 220 t220_31 [some (.ref 367), some (.int v1), u2, u3] [.int w1, .ref 367] g (q_Mo_readLaw_31 v1 w1 g) := by
  unfold q_Mo_readLaw_31
  refine tr_invVU rfl rfl (fk_367 hF) (Nat.le_of_ble_eq_true rfl) (by decide) (Nat.le_of_ble_eq_true rfl) (tm200 (by omega) hF) (fun _ g11 _ hF12 => ?_)
  refine tr_ldA rfl (tr_getI (fk_367 hF12) (?_))
  refine tr_if0j e220_36 (c_eq _ _) (fun hc13 => ?_) (fun hc13 => ?_)
  · refine tr_pushI (tr_ldA rfl (tr_getI (fk_367 hF12) (tr_bin (v := ((8 : Int32) * (gI g11 367 21))) rfl (tr_stI (Nat.le_of_ble_eq_true rfl) rfl rfl (tr_pushI (?_))))))
    refine tr_stI (Nat.le_of_ble_eq_true rfl) rfl rfl (?_)
    refine th220_43L he (fun y17 g18 hF19 => ?_) rfl FU _ _ hF12
    · refine tr_ldA rfl (tr_getP (b := 377) (fk_367 hF19) (fp_367_22 hF19) (tr_ldI rfl (tr_ldI rfl (tr_astI hF19 (fk_377 hF19) (fl_377 hF19) (fun _ g20 _ hF21 => tr_ldA rfl (?_))))))
      refine tr_dupA (tr_getI (fk_367 hF21) (tr_pushI (tr_bin (v := ((gI g20 367 21) + (1 : Int32))) rfl (tr_putI hF21 (fk_367 hF21) (fun g22 _ hF23 => tr_ldA rfl (?_))))))
      refine tr_getP (b := 377) (fk_367 hF23) (fp_367_22 hF23) (tr_ldI rfl (tr_pushI (tr_bin (v := (((8 : Int32) * (gI g11 367 21)) + (3 : Int32))) rfl (tr_ldA rfl (tr_getI (fk_367 hF23) (?_))))))
      refine tr_astI hF23 (fk_377 hF23) (fl_377 hF23) (fun _ g24 _ hF25 => tr_ldI rfl (tr_pushI (?_)))
      refine tr_ifj e220_80 (c_eq _ _) (fun hc26 => ?_) (fun hc26 => ?_)
      · exact th220_80 he rfl hF25
      · refine tr_ldA rfl (tr_pushI (?_))
        refine tr_invVU rfl rfl (fk_367 hF25) (Nat.le_of_ble_eq_true rfl) (by decide) (Nat.le_of_ble_eq_true rfl) (tm217 (by omega) hF25) (fun _ g42 _ hF43 => ?_)
        exact th220_80 he rfl hF43
  · exact tr_retV hF12
def q_Mo_readLaw (g : hG) : hO Unit :=
  q_Mo_readLaw_4L (fun x6 g8 => q_Mo_readLaw_31 x6 (if x6 = (-1 : Int32) then (0 : Int32) else (if (12 : Int32) ≤ (gI g8 367 21) then (0 : Int32) else (1 : Int32))) g8) FU (-1 : Int32) (0 : Int32) g
theorem tm220 {d : Nat} (hd : 7 ≤ d) {g : hG} (hF : Frz g) : TM wU d 220 [.ref 367] g (q_Mo_readLaw g) := by
  obtain ⟨e, rfl⟩ : ∃ e, d = e + 1 := ⟨d - 1, by omega⟩
  have he := hd
  refine TM.ofE e220_0 (lv := [some (.ref 367), none, none, none]) rfl ?_
  unfold q_Mo_readLaw
  refine tr_pushI (tr_stI (Nat.le_of_ble_eq_true rfl) rfl rfl (tr_pushI (tr_stI (Nat.le_of_ble_eq_true rfl) rfl rfl (?_))))
  refine th220_4L he (fun x6 y7 zy7 g8 hF9 => ?_) FU _ _ _ hF
  · refine tr_ldA rfl (tr_ldI rfl (tr_pushI (?_)))
    refine tr_ifcE e220_30 (c_eq _ _) (fun hc44 => ?_) (fun hc44 => ?_)
    · rw [if_pos hc44]
      refine tr_pushI (?_)
      exact th220_31 he zy7 hF9
    · rw [if_neg hc44]
      refine tr_ldA rfl (?_)
      refine tr_getI (fk_367 hF9) (?_)
      refine tr_pushI (?_)
      refine tr_ifcE e220_30 (c_ge _ _) (fun hc45 => ?_) (fun hc45 => ?_)
      · rw [if_pos hc45]
        refine tr_pushI (?_)
        exact th220_31 he zy7 hF9
      · rw [if_neg hc45]
        refine tr_pushI (?_)
        refine tr_gotoE e220_31 (?_)
        exact th220_31 he zy7 hF9
-- Mo_endText
abbrev t219_9 : List hOp := oLdA 0 :: oPushI 0 :: oPutZ 12 20 :: oLdA 0 :: oPushI 0 :: oPutI 12 13 :: oRetV :: []
abbrev t219_0 : List hOp := oLdA 0 :: oGetI 12 19 :: oIf0 cNe 9 :: oLdA 0 :: oGetI 12 16 :: oIf0 cEq 9 :: oLdA 0 :: oPushI 0 :: oInvV 200 12 1 :: t219_9
theorem e219_0 : (opsOf 219).drop 0 = t219_0 := rfl
theorem e219_9 : (opsOf 219).drop 9 = t219_9 := rfl
def q_Mo_endText_9 (g : hG) : hO Unit :=
  wr (sI g 367 20 (0 : Int32)) fun g2 => wr (sI g2 367 13 (0 : Int32)) fun g4 => some ((), g4)
theorem th219_9 {e : Nat} (he : 3 ≤ e + 1) {g : hG} (hF : Frz g) : Tri wU (e + 1) 219 t219_9 [some (.ref 367)] [] g (q_Mo_endText_9 g) := by
  unfold q_Mo_endText_9
  refine tr_ldA rfl (tr_pushI (tr_putZl (Or.inl rfl) hF (fk_367 hF) (fun g2 _ hF3 => tr_ldA rfl (tr_pushI (tr_putI hF3 (fk_367 hF3) (fun g4 _ hF5 => ?_))))))
  exact tr_retV hF5
def q_Mo_endText (g : hG) : hO Unit :=
  if (gI g 367 19) = (0 : Int32) then (if (gI g 367 16) = (0 : Int32) then (q_Mo_endText_9 g) else (bnd (q_Mo_must (0 : Int32) g) fun _ g7 => q_Mo_endText_9 g7)) else (q_Mo_endText_9 g)
theorem tm219 {d : Nat} (hd : 3 ≤ d) {g : hG} (hF : Frz g) : TM wU d 219 [.ref 367] g (q_Mo_endText g) := by
  obtain ⟨e, rfl⟩ : ∃ e, d = e + 1 := ⟨d - 1, by omega⟩
  have he := hd
  refine TM.ofE e219_0 (lv := [some (.ref 367)]) rfl ?_
  unfold q_Mo_endText
  refine tr_ldA rfl (tr_getI (fk_367 hF) (?_))
  refine tr_if0n e219_9 (c_ne _ _) (fun hc1 => ?_) (fun hc1 => ?_)
  · exact th219_9 he hF
  · refine tr_ldA rfl (tr_getI (fk_367 hF) (?_))
    refine tr_if0j e219_9 (c_eq _ _) (fun hc6 => ?_) (fun hc6 => ?_)
    · exact th219_9 he hF
    · refine tr_ldA rfl (tr_pushI (?_))
      refine tr_invVU rfl rfl (fk_367 hF) (Nat.le_of_ble_eq_true rfl) (by decide) (Nat.le_of_ble_eq_true rfl) (tm200 (by omega) hF) (fun _ g7 _ hF8 => ?_)
      exact th219_9 he hF8
-- Mo_law
abbrev t221_119 : List hOp := oLdA 0 :: oGetP 12 3 :: oPushI 1 :: oDup2 :: oALdI 13 :: oPushI 1 :: oBin (fun x y => x + y) :: oAStI :: oLdA 0 :: oLdA 0 :: oGetP 12 3 :: oPushI 1 :: oALdI 13 :: oPushI 1 :: oBin (fun x y => x - y) :: oInvV 169 12 1 :: oRetI :: []
abbrev t221_83 : List hOp := oLdI 2 :: oLdA 0 :: oGetI 12 23 :: oIf cGe 119 :: oLdA 0 :: oGetP 12 3 :: oLdI 1 :: oPushI 98 :: oBin (fun x y => x + y) :: oPushI 2 :: oLdI 2 :: oBin (fun x y => x * y) :: oBin (fun x y => x + y) :: oLdA 0 :: oGetP 12 24 :: oLdI 2 :: oALdI 13 :: oAStI :: oLdA 0 :: oGetP 12 3 :: oLdI 1 :: oPushI 98 :: oBin (fun x y => x + y) :: oPushI 2 :: oLdI 2 :: oBin (fun x y => x * y) :: oBin (fun x y => x + y) :: oPushI 1 :: oBin (fun x y => x + y) :: oLdA 0 :: oGetP 12 25 :: oLdI 2 :: oALdI 13 :: oAStI :: oInc 2 1 :: oGoto 83 :: t221_119
abbrev t221_81 : List hOp := oPushI 0 :: oStI 2 :: t221_83
abbrev t221_61 : List hOp := oLdI 2 :: oPushI 8 :: oLdA 0 :: oGetI 12 21 :: oBin (fun x y => x * y) :: oIf cGe 81 :: oLdA 0 :: oGetP 12 3 :: oLdI 1 :: oPushI 2 :: oBin (fun x y => x + y) :: oLdI 2 :: oBin (fun x y => x + y) :: oLdA 0 :: oGetP 12 22 :: oLdI 2 :: oALdI 13 :: oAStI :: oInc 2 1 :: oGoto 61 :: t221_81
abbrev t221_42 : List hOp := oPushI 68 :: oPushI 900 :: oLdA 0 :: oGetP 12 3 :: oPushI 1 :: oALdI 13 :: oBin (fun x y => x * y) :: oBin (fun x y => x + y) :: oStI 1 :: oLdA 0 :: oGetP 12 3 :: oLdI 1 :: oPushI 1 :: oBin (fun x y => x + y) :: oLdA 0 :: oGetI 12 21 :: oAStI :: oPushI 0 :: oStI 2 :: t221_61
abbrev t221_33 : List hOp := oLdA 0 :: oInvV 219 12 0 :: oLdA 0 :: oGetI 12 19 :: oIf0 cEq 42 :: oLdA 0 :: oPushI (-6) :: oInvV 169 12 1 :: oRetI :: t221_42
abbrev t221_21 : List hOp := oLdA 0 :: oGetI 12 19 :: oIf0 cNe 33 :: oLdA 0 :: oPushI 59 :: oInvV 199 12 1 :: oIf0 cEq 33 :: oLdA 0 :: oInvV 197 12 0 :: oLdA 0 :: oInvV 220 12 0 :: oGoto 21 :: t221_33
abbrev t221_16 : List hOp := oLdA 0 :: oPushI 0 :: oInvV 218 12 1 :: oLdA 0 :: oInvV 220 12 0 :: t221_21
abbrev t221_0 : List hOp := oLdA 0 :: oPushI 0 :: oPutI 12 0 :: oLdA 0 :: oGetP 12 3 :: oPushI 1 :: oALdI 13 :: oPushI 6 :: oIf cNe 16 :: oLdA 0 :: oPushI 0 :: oPutI 12 13 :: oLdA 0 :: oPushI (-5) :: oInvV 169 12 1 :: oRetI :: t221_16
theorem e221_0 : (opsOf 221).drop 0 = t221_0 := rfl
theorem e221_16 : (opsOf 221).drop 16 = t221_16 := rfl
theorem e221_21 : (opsOf 221).drop 21 = t221_21 := rfl
theorem e221_33 : (opsOf 221).drop 33 = t221_33 := rfl
theorem e221_42 : (opsOf 221).drop 42 = t221_42 := rfl
theorem e221_61 : (opsOf 221).drop 61 = t221_61 := rfl
theorem e221_81 : (opsOf 221).drop 81 = t221_81 := rfl
theorem e221_83 : (opsOf 221).drop 83 = t221_83 := rfl
theorem e221_119 : (opsOf 221).drop 119 = t221_119 := rfl
def q_Mo_law_21 (k33 : hG → hO Int32) (k21 : hG → hO Int32) (g : hG) : hO Int32 :=
  if (gI g 367 19) = (0 : Int32) then (bnd (q_Mo_isSign (59 : Int32) g) fun r11 g9 => if r11 = (0 : Int32) then (k33 g9) else (bnd (q_Mo_next g9) fun _ g13 => bnd (q_Mo_readLaw g13) fun _ g15 => k21 g15)) else (k33 g)
def q_Mo_law_21L (k33 : hG → hO Int32) : Nat → hG → hO Int32
  | 0 => fun _ => none
  | n + 1 => fun g => q_Mo_law_21 k33 (q_Mo_law_21L k33 n) g
theorem q_Mo_law_21L_s (k33 : hG → hO Int32) (n : Nat) (g : hG) : q_Mo_law_21L k33 (n + 1) g = q_Mo_law_21 k33 (q_Mo_law_21L k33 n) g := rfl
theorem th221_21 {e : Nat} (he : 8 ≤ e + 1) {k33 : hG → hO Int32} {k21 : hG → hO Int32} {u1 : Option Value} {u2 : Option Value} (hk33 : ∀ (g : hG), Frz g → Tri wI (e + 1) 221 t221_33 [some (.ref 367), u1, u2] [] g (k33 g)) (hk21 : ∀ (g : hG), Frz g → Tri wI (e + 1) 221 t221_21 [some (.ref 367), u1, u2] [] g (k21 g)) (hu1 : isL (some u1) = false) {g : hG} (hF : Frz g) : Tri wI (e + 1) 221 t221_21 [some (.ref 367), u1, u2] [] g (q_Mo_law_21 k33 k21 g) := by
  unfold q_Mo_law_21
  refine tr_ldA rfl (tr_getI (fk_367 hF) (?_))
  refine tr_if0n e221_33 (c_ne _ _) (fun hc8 => ?_) (fun hc8 => ?_)
  · exact hk33 _ hF
  · refine tr_ldA rfl (tr_pushI (?_))
    refine tr_invVI rfl rfl (fk_367 hF) (Nat.le_of_ble_eq_true rfl) (by decide) (Nat.le_of_ble_eq_true rfl) (tm199 hF) (fun r11 g9 _ hF10 => ?_)
    refine tr_if0j e221_33 (c_eq _ _) (fun hc12 => ?_) (fun hc12 => ?_)
    · exact hk33 _ hF10
    · refine tr_ldA rfl (?_)
      refine tr_invVU rfl rfl (fk_367 hF10) (Nat.le_of_ble_eq_true rfl) (by decide) (Nat.le_of_ble_eq_true rfl) (tm197 (by omega) hF10) (fun _ g13 _ hF14 => ?_)
      refine tr_ldA rfl (?_)
      refine tr_invVU rfl rfl (fk_367 hF14) (Nat.le_of_ble_eq_true rfl) (by decide) (Nat.le_of_ble_eq_true rfl) (tm220 (by omega) hF14) (fun _ g15 _ hF16 => ?_)
      refine tr_gotoE e221_21 (?_)
      exact hk21 _ hF16
theorem th221_21L {e : Nat} (he : 8 ≤ e + 1) {k33 : hG → hO Int32} {u1 : Option Value} {u2 : Option Value} (hk33 : ∀ (g : hG), Frz g → Tri wI (e + 1) 221 t221_33 [some (.ref 367), u1, u2] [] g (k33 g)) (hu1 : isL (some u1) = false) : ∀ (n : Nat) (g : hG), Frz g → Tri wI (e + 1) 221 t221_21 [some (.ref 367), u1, u2] [] g (q_Mo_law_21L k33 n g)
  | 0 => fun _ _ => Tri.none_
  | n + 1 => fun g hF => th221_21 he hk33 (th221_21L he hk33 hu1 n) hu1 hF
def q_Mo_law_61 (v1 : Int32) (k81 : hG → hO Int32) (k61 : Int32 → hG → hO Int32) (v2 : Int32) (g : hG) : hO Int32 :=
  if ((8 : Int32) * (gI g 367 21)) ≤ v2 then (k81 g) else (gd v2 96 <| gd ((v1 + (2 : Int32)) + v2) 5468 <| wr (sI g 369 ((v1 + (2 : Int32)) + v2).toNatClampNeg (gI g 377 v2.toNatClampNeg)) fun g25 => k61 (v2 + (1 : Int32)) g25)
def q_Mo_law_61L (v1 : Int32) (k81 : hG → hO Int32) : Nat → Int32 → hG → hO Int32
  | 0 => fun _ _ => none
  | n + 1 => fun v2 g => q_Mo_law_61 v1 k81 (q_Mo_law_61L v1 k81 n) v2 g
theorem q_Mo_law_61L_s (v1 : Int32) (k81 : hG → hO Int32) (n : Nat) (v2 : Int32) (g : hG) : q_Mo_law_61L v1 k81 (n + 1) v2 g = q_Mo_law_61 v1 k81 (q_Mo_law_61L v1 k81 n) v2 g := rfl
theorem th221_61 {e : Nat} (he : 8 ≤ e + 1) {v1 : Int32} {k81 : hG → hO Int32} {k61 : Int32 → hG → hO Int32} {v2 : Int32} (hk81 : ∀ (y2 : Option Value) (g : hG), Frz g → Tri wI (e + 1) 221 t221_81 [some (.ref 367), some (.int v1), y2] [] g (k81 g)) (hk61 : ∀ (x2 : Int32) (g : hG), Frz g → Tri wI (e + 1) 221 t221_61 [some (.ref 367), some (.int v1), some (.int x2)] [] g (k61 x2 g)) {g : hG} (hF : Frz g) : Tri wI (e + 1) 221 t221_61 [some (.ref 367), some (.int v1), some (.int v2)] [] g (q_Mo_law_61 v1 k81 k61 v2 g) := by
  unfold q_Mo_law_61
  refine tr_ldI rfl (tr_pushI (tr_ldA rfl (tr_getI (fk_367 hF) (tr_bin (v := ((8 : Int32) * (gI g 367 21))) rfl (?_)))))
  refine tr_ifj e221_81 (c_ge _ _) (fun hc24 => ?_) (fun hc24 => ?_)
  · exact hk81 _ _ hF
  · refine tr_ldA rfl (tr_getP (b := 369) (fk_367 hF) (fp_367_3 hF) (tr_ldI rfl (tr_pushI (tr_bin (v := (v1 + (2 : Int32))) rfl (tr_ldI rfl (?_))))))
    refine tr_bin (v := ((v1 + (2 : Int32)) + v2)) rfl (tr_ldA rfl (tr_getP (b := 377) (fk_367 hF) (fp_367_22 hF) (tr_ldI rfl (tr_aldI (fk_377 hF) (fl_377 hF) (fun _ => tr_astI hF (fk_369 hF) (fl_369 hF) (fun _ g25 _ hF26 => ?_))))))
    refine tr_inc rfl rfl rfl (?_)
    refine tr_gotoE e221_61 (?_)
    exact hk61 _ _ hF26
theorem th221_61L {e : Nat} (he : 8 ≤ e + 1) {v1 : Int32} {k81 : hG → hO Int32} (hk81 : ∀ (y2 : Option Value) (g : hG), Frz g → Tri wI (e + 1) 221 t221_81 [some (.ref 367), some (.int v1), y2] [] g (k81 g)) : ∀ (n : Nat) (v2 : Int32) (g : hG), Frz g → Tri wI (e + 1) 221 t221_61 [some (.ref 367), some (.int v1), some (.int v2)] [] g (q_Mo_law_61L v1 k81 n v2 g)
  | 0 => fun _ _ _ => Tri.none_
  | n + 1 => fun _ g hF => th221_61 he hk81 (th221_61L he hk81 n) hF
def q_Mo_law_83 (v1 : Int32) (k119 : hG → hO Int32) (k83 : Int32 → hG → hO Int32) (v2 : Int32) (g : hG) : hO Int32 :=
  if (gI g 367 23) ≤ v2 then (k119 g) else (gd v2 400 <| gd ((v1 + (98 : Int32)) + ((2 : Int32) * v2)) 5468 <| wr (sI g 369 ((v1 + (98 : Int32)) + ((2 : Int32) * v2)).toNatClampNeg (gI g 378 v2.toNatClampNeg)) fun g31 => gd v2 400 <| gd (((v1 + (98 : Int32)) + ((2 : Int32) * v2)) + (1 : Int32)) 5468 <| wr (sI g31 369 (((v1 + (98 : Int32)) + ((2 : Int32) * v2)) + (1 : Int32)).toNatClampNeg (gI g31 379 v2.toNatClampNeg)) fun g33 => k83 (v2 + (1 : Int32)) g33)
def q_Mo_law_83L (v1 : Int32) (k119 : hG → hO Int32) : Nat → Int32 → hG → hO Int32
  | 0 => fun _ _ => none
  | n + 1 => fun v2 g => q_Mo_law_83 v1 k119 (q_Mo_law_83L v1 k119 n) v2 g
theorem q_Mo_law_83L_s (v1 : Int32) (k119 : hG → hO Int32) (n : Nat) (v2 : Int32) (g : hG) : q_Mo_law_83L v1 k119 (n + 1) v2 g = q_Mo_law_83 v1 k119 (q_Mo_law_83L v1 k119 n) v2 g := rfl
theorem th221_83 {e : Nat} (he : 8 ≤ e + 1) {v1 : Int32} {k119 : hG → hO Int32} {k83 : Int32 → hG → hO Int32} {v2 : Int32} (hk119 : ∀ (y2 : Option Value) (g : hG), Frz g → Tri wI (e + 1) 221 t221_119 [some (.ref 367), some (.int v1), y2] [] g (k119 g)) (hk83 : ∀ (x2 : Int32) (g : hG), Frz g → Tri wI (e + 1) 221 t221_83 [some (.ref 367), some (.int v1), some (.int x2)] [] g (k83 x2 g)) {g : hG} (hF : Frz g) : Tri wI (e + 1) 221 t221_83 [some (.ref 367), some (.int v1), some (.int v2)] [] g (q_Mo_law_83 v1 k119 k83 v2 g) := by
  unfold q_Mo_law_83
  refine tr_ldI rfl (tr_ldA rfl (tr_getI (fk_367 hF) (?_)))
  refine tr_ifj e221_119 (c_ge _ _) (fun hc30 => ?_) (fun hc30 => ?_)
  · exact hk119 _ _ hF
  · refine tr_ldA rfl (tr_getP (b := 369) (fk_367 hF) (fp_367_3 hF) (tr_ldI rfl (tr_pushI (tr_bin (v := (v1 + (98 : Int32))) rfl (tr_pushI (?_))))))
    refine tr_ldI rfl (tr_bin (v := ((2 : Int32) * v2)) rfl (tr_bin (v := ((v1 + (98 : Int32)) + ((2 : Int32) * v2))) rfl (tr_ldA rfl (tr_getP (b := 378) (fk_367 hF) (fp_367_24 hF) (tr_ldI rfl (?_))))))
    refine tr_aldI (fk_378 hF) (fl_378 hF) (fun _ => tr_astI hF (fk_369 hF) (fl_369 hF) (fun _ g31 _ hF32 => tr_ldA rfl (tr_getP (b := 369) (fk_367 hF32) (fp_367_3 hF32) (tr_ldI rfl (tr_pushI (?_))))))
    refine tr_bin (v := (v1 + (98 : Int32))) rfl (tr_pushI (tr_ldI rfl (tr_bin (v := ((2 : Int32) * v2)) rfl (tr_bin (v := ((v1 + (98 : Int32)) + ((2 : Int32) * v2))) rfl (tr_pushI (?_))))))
    refine tr_bin (v := (((v1 + (98 : Int32)) + ((2 : Int32) * v2)) + (1 : Int32))) rfl (tr_ldA rfl (tr_getP (b := 379) (fk_367 hF32) (fp_367_25 hF32) (tr_ldI rfl (tr_aldI (fk_379 hF32) (fl_379 hF32) (fun _ => tr_astI hF32 (fk_369 hF32) (fl_369 hF32) (fun _ g33 _ hF34 => ?_))))))
    refine tr_inc rfl rfl rfl (?_)
    refine tr_gotoE e221_83 (?_)
    exact hk83 _ _ hF34
theorem th221_83L {e : Nat} (he : 8 ≤ e + 1) {v1 : Int32} {k119 : hG → hO Int32} (hk119 : ∀ (y2 : Option Value) (g : hG), Frz g → Tri wI (e + 1) 221 t221_119 [some (.ref 367), some (.int v1), y2] [] g (k119 g)) : ∀ (n : Nat) (v2 : Int32) (g : hG), Frz g → Tri wI (e + 1) 221 t221_83 [some (.ref 367), some (.int v1), some (.int v2)] [] g (q_Mo_law_83L v1 k119 n v2 g)
  | 0 => fun _ _ _ => Tri.none_
  | n + 1 => fun _ g hF => th221_83 he hk119 (th221_83L he hk119 n) hF
def q_Mo_law_33 (g : hG) : hO Int32 :=
  bnd (q_Mo_endText g) fun _ g19 => if (gI g19 367 19) = (0 : Int32) then (gd (1 : Int32) 5468 <| gd (((68 : Int32) + ((900 : Int32) * (gI g19 369 (1 : Int32).toNatClampNeg))) + (1 : Int32)) 5468 <| wr (sI g19 369 (((68 : Int32) + ((900 : Int32) * (gI g19 369 (1 : Int32).toNatClampNeg))) + (1 : Int32)).toNatClampNeg (gI g19 367 21)) fun g22 => q_Mo_law_61L ((68 : Int32) + ((900 : Int32) * (gI g19 369 (1 : Int32).toNatClampNeg))) (fun g28 => q_Mo_law_83L ((68 : Int32) + ((900 : Int32) * (gI g19 369 (1 : Int32).toNatClampNeg))) (fun g36 => gd (1 : Int32) 5468 <| gd (1 : Int32) 5468 <| wr (sI g36 369 (1 : Int32).toNatClampNeg ((gI g36 369 (1 : Int32).toNatClampNeg) + (1 : Int32))) fun g38 => gd (1 : Int32) 5468 <| bnd (q_Mo_tell ((gI g38 369 (1 : Int32).toNatClampNeg) - (1 : Int32)) g38) fun r42 g40 => some (r42, g40)) FU (0 : Int32) g28) FU (0 : Int32) g22) else (bnd (q_Mo_tell (-6 : Int32) g19) fun r45 g43 => some (r45, g43))
theorem th221_33 {e : Nat} (he : 8 ≤ e + 1) {u1 : Option Value} {u2 : Option Value} (hu1 : isL (some u1) = false) {g : hG} (hF : Frz g) : Tri wI (e + 1) 221 t221_33 [some (.ref 367), u1, u2] [] g (q_Mo_law_33 g) := by
  unfold q_Mo_law_33
  refine tr_ldA rfl (?_)
  refine tr_invVU rfl rfl (fk_367 hF) (Nat.le_of_ble_eq_true rfl) (by decide) (Nat.le_of_ble_eq_true rfl) (tm219 (by omega) hF) (fun _ g19 _ hF20 => ?_)
  refine tr_ldA rfl (tr_getI (fk_367 hF20) (?_))
  refine tr_if0j e221_42 (c_eq _ _) (fun hc21 => ?_) (fun hc21 => ?_)
  · refine tr_pushI (tr_pushI (tr_ldA rfl (tr_getP (b := 369) (fk_367 hF20) (fp_367_3 hF20) (tr_pushI (tr_aldI (fk_369 hF20) (fl_369 hF20) (fun _ => ?_))))))
    refine tr_bin (v := ((900 : Int32) * (gI g19 369 (1 : Int32).toNatClampNeg))) rfl (tr_bin (v := ((68 : Int32) + ((900 : Int32) * (gI g19 369 (1 : Int32).toNatClampNeg)))) rfl (tr_stI (Nat.le_of_ble_eq_true rfl) rfl rfl (tr_ldA rfl (tr_getP (b := 369) (fk_367 hF20) (fp_367_3 hF20) (tr_ldI rfl (?_))))))
    refine tr_pushI (tr_bin (v := (((68 : Int32) + ((900 : Int32) * (gI g19 369 (1 : Int32).toNatClampNeg))) + (1 : Int32))) rfl (tr_ldA rfl (tr_getI (fk_367 hF20) (tr_astI hF20 (fk_369 hF20) (fl_369 hF20) (fun _ g22 _ hF23 => tr_pushI (?_))))))
    refine tr_stI (Nat.le_of_ble_eq_true rfl) rfl rfl (?_)
    refine th221_61L he (fun y27 g28 hF29 => ?_) FU _ _ hF23
    · refine tr_pushI (tr_stI (Nat.le_of_ble_eq_true rfl) rfl rfl (?_))
      refine th221_83L he (fun y35 g36 hF37 => ?_) FU _ _ hF29
      · refine tr_ldA rfl (tr_getP (b := 369) (fk_367 hF37) (fp_367_3 hF37) (tr_pushI (tr_dup2 (tr_aldI (fk_369 hF37) (fl_369 hF37) (fun _ => tr_pushI (?_))))))
        refine tr_bin (v := ((gI g36 369 (1 : Int32).toNatClampNeg) + (1 : Int32))) rfl (tr_astI hF37 (fk_369 hF37) (fl_369 hF37) (fun _ g38 _ hF39 => tr_ldA rfl (tr_ldA rfl (tr_getP (b := 369) (fk_367 hF39) (fp_367_3 hF39) (tr_pushI (?_))))))
        refine tr_aldI (fk_369 hF39) (fl_369 hF39) (fun _ => tr_pushI (tr_bin (v := ((gI g38 369 (1 : Int32).toNatClampNeg) - (1 : Int32))) rfl (?_)))
        refine tr_invVI rfl rfl (fk_367 hF39) (Nat.le_of_ble_eq_true rfl) (by decide) (Nat.le_of_ble_eq_true rfl) (tm169 hF39) (fun r42 g40 _ hF41 => ?_)
        exact tr_retI hF41
  · refine tr_ldA rfl (tr_pushI (?_))
    refine tr_invVI rfl rfl (fk_367 hF20) (Nat.le_of_ble_eq_true rfl) (by decide) (Nat.le_of_ble_eq_true rfl) (tm169 hF20) (fun r45 g43 _ hF44 => ?_)
    exact tr_retI hF44
def q_Mo_law (g : hG) : hO Int32 :=
  wr (sI g 367 0 (0 : Int32)) fun g1 => gd (1 : Int32) 5468 <| if (gI g1 369 (1 : Int32).toNatClampNeg) = (6 : Int32) then (wr (sI g1 367 13 (0 : Int32)) fun g46 => bnd (q_Mo_tell (-5 : Int32) g46) fun r50 g48 => some (r50, g48)) else (bnd (q_Mo_beginText (0 : Int32) g1) fun _ g4 => bnd (q_Mo_readLaw g4) fun _ g6 => q_Mo_law_21L (fun g17 => q_Mo_law_33 g17) FU g6)
theorem tm221 {d : Nat} (hd : 8 ≤ d) {g : hG} (hF : Frz g) : TM wI d 221 [.ref 367] g (q_Mo_law g) := by
  obtain ⟨e, rfl⟩ : ∃ e, d = e + 1 := ⟨d - 1, by omega⟩
  have he := hd
  refine TM.ofE e221_0 (lv := [some (.ref 367), none, none]) rfl ?_
  unfold q_Mo_law
  refine tr_ldA rfl (tr_pushI (tr_putI hF (fk_367 hF) (fun g1 _ hF2 => tr_ldA rfl (tr_getP (b := 369) (fk_367 hF2) (fp_367_3 hF2) (tr_pushI (?_))))))
  refine tr_aldI (fk_369 hF2) (fl_369 hF2) (fun _ => tr_pushI (?_))
  refine tr_ifn e221_16 (c_ne _ _) (fun hc3 => ?_) (fun hc3 => ?_)
  · refine tr_ldA rfl (tr_pushI (?_))
    refine tr_invVU rfl rfl (fk_367 hF2) (Nat.le_of_ble_eq_true rfl) (by decide) (Nat.le_of_ble_eq_true rfl) (tm218 (by omega) hF2) (fun _ g4 _ hF5 => ?_)
    refine tr_ldA rfl (?_)
    refine tr_invVU rfl rfl (fk_367 hF5) (Nat.le_of_ble_eq_true rfl) (by decide) (Nat.le_of_ble_eq_true rfl) (tm220 (by omega) hF5) (fun _ g6 _ hF7 => ?_)
    refine th221_21L he (fun g17 hF18 => ?_) rfl FU _ hF7
    · exact th221_33 he rfl hF18
  · refine tr_ldA rfl (tr_pushI (tr_putI hF2 (fk_367 hF2) (fun g46 _ hF47 => tr_ldA rfl (tr_pushI (?_)))))
    refine tr_invVI rfl rfl (fk_367 hF47) (Nat.le_of_ble_eq_true rfl) (by decide) (Nat.le_of_ble_eq_true rfl) (tm169 hF47) (fun r50 g48 _ hF49 => ?_)
    exact tr_retI hF49
-- Mo_readSum
abbrev t273_12 : List hOp := oLdA 0 :: oGetP 12 50 :: oLdI 1 :: oPushI 1 :: oBin (fun x y => x + y) :: oLdA 0 :: oGetI 12 23 :: oAStI :: oRetV :: []
abbrev t273_0 : List hOp := oLdA 0 :: oGetP 12 50 :: oLdI 1 :: oLdA 0 :: oGetI 12 23 :: oAStI :: oLdA 0 :: oGetI 12 19 :: oIf0 cNe 12 :: oLdA 0 :: oPushI 0 :: oInvV 217 12 1 :: t273_12
theorem e273_0 : (opsOf 273).drop 0 = t273_0 := rfl
theorem e273_12 : (opsOf 273).drop 12 = t273_12 := rfl
def q_Mo_readSum_12 (v1 : Int32) (g : hG) : hO Unit :=
  gd (v1 + (1 : Int32)) 96 <| wr (sI g 397 (v1 + (1 : Int32)).toNatClampNeg (gI g 367 23)) fun g4 => some ((), g4)
theorem th273_12 {e : Nat} (he : 7 ≤ e + 1) {v1 : Int32} {g : hG} (hF : Frz g) : Tri wU (e + 1) 273 t273_12 [some (.ref 367), some (.int v1)] [] g (q_Mo_readSum_12 v1 g) := by
  unfold q_Mo_readSum_12
  refine tr_ldA rfl (tr_getP (b := 397) (fk_367 hF) (fp_367_50 hF) (tr_ldI rfl (tr_pushI (tr_bin (v := (v1 + (1 : Int32))) rfl (tr_ldA rfl (?_))))))
  refine tr_getI (fk_367 hF) (tr_astI hF (fk_397 hF) (fl_397 hF) (fun _ g4 _ hF5 => ?_))
  exact tr_retV hF5
def q_Mo_readSum (v1 : Int32) (g : hG) : hO Unit :=
  gd v1 96 <| wr (sI g 397 v1.toNatClampNeg (gI g 367 23)) fun g1 => if (gI g1 367 19) = (0 : Int32) then (bnd (q_Mo_readExpression (0 : Int32) g1) fun _ g6 => q_Mo_readSum_12 v1 g6) else (q_Mo_readSum_12 v1 g1)
theorem tm273 {d : Nat} {v1 : Int32} (hd : 7 ≤ d) {g : hG} (hF : Frz g) : TM wU d 273 [.ref 367, .int v1] g (q_Mo_readSum v1 g) := by
  obtain ⟨e, rfl⟩ : ∃ e, d = e + 1 := ⟨d - 1, by omega⟩
  have he := hd
  refine TM.ofE e273_0 (lv := [some (.ref 367), some (.int v1)]) rfl ?_
  unfold q_Mo_readSum
  refine tr_ldA rfl (tr_getP (b := 397) (fk_367 hF) (fp_367_50 hF) (tr_ldI rfl (tr_ldA rfl (tr_getI (fk_367 hF) (tr_astI hF (fk_397 hF) (fl_397 hF) (fun _ g1 _ hF2 => ?_))))))
  refine tr_ldA rfl (tr_getI (fk_367 hF2) (?_))
  refine tr_if0n e273_12 (c_ne _ _) (fun hc3 => ?_) (fun hc3 => ?_)
  · exact th273_12 he hF2
  · refine tr_ldA rfl (tr_pushI (?_))
    refine tr_invVU rfl rfl (fk_367 hF2) (Nat.le_of_ble_eq_true rfl) (by decide) (Nat.le_of_ble_eq_true rfl) (tm217 (by omega) hF2) (fun _ g6 _ hF7 => ?_)
    exact th273_12 he hF7
-- Mo_readOrder
abbrev t274_136 : List hOp := oLdA 0 :: oGetP 12 50 :: oLdI 2 :: oPushI 6 :: oBin (fun x y => x + y) :: oLdA 0 :: oGetI 12 23 :: oAStI :: oRetV :: []
abbrev t274_116 : List hOp := oLdA 0 :: oGetP 12 50 :: oLdI 2 :: oPushI 5 :: oBin (fun x y => x + y) :: oLdA 0 :: oGetI 12 23 :: oAStI :: oLdA 0 :: oGetI 12 19 :: oIf0 cNe 136 :: oLdA 0 :: oPushL 294 :: oInvV 198 12 1 :: oIf0 cEq 136 :: oLdA 0 :: oInvV 197 12 0 :: oLdA 0 :: oPushI 1 :: oInvV 217 12 1 :: t274_136
abbrev t274_90 : List hOp := oLdA 0 :: oGetP 12 50 :: oLdI 2 :: oPushI 7 :: oBin (fun x y => x + y) :: oPushI 1 :: oAStI :: oLdA 0 :: oGetI 12 19 :: oIf0 cNe 116 :: oLdA 0 :: oPushL 21279923 :: oInvV 198 12 1 :: oIf0 cEq 116 :: oLdA 0 :: oInvV 197 12 0 :: oLdA 0 :: oGetP 12 50 :: oLdI 2 :: oPushI 7 :: oBin (fun x y => x + y) :: oLdA 0 :: oPushL 1 :: oPushL 20 :: oInvV 201 12 2 :: oAStI :: t274_116
abbrev t274_85 : List hOp := oLdA 0 :: oLdI 2 :: oPushI 3 :: oBin (fun x y => x + y) :: oInvV 273 12 1 :: t274_90
abbrev t274_61 : List hOp := oLdA 0 :: oGetP 12 50 :: oLdI 2 :: oLdI 1 :: oAStI :: oLdI 1 :: oPushI 3 :: oIf cEq 90 :: oLdA 0 :: oLdI 2 :: oPushI 1 :: oBin (fun x y => x + y) :: oInvV 273 12 1 :: oLdA 0 :: oGetI 12 19 :: oIf0 cNe 85 :: oLdA 0 :: oLdA 0 :: oLdA 0 :: oGetP 12 49 :: oLdI 1 :: oALdJ :: oInvV 198 12 1 :: oInvV 200 12 1 :: t274_85
abbrev t274_49 : List hOp := oLdI 3 :: oPushI 8 :: oIf cGe 61 :: oLdA 0 :: oGetP 12 50 :: oLdI 2 :: oLdI 3 :: oBin (fun x y => x + y) :: oPushI 0 :: oAStI :: oInc 3 1 :: oGoto 49 :: t274_61
abbrev t274_36 : List hOp := oPushI 8 :: oLdA 0 :: oGetI 12 21 :: oBin (fun x y => x * y) :: oStI 2 :: oLdA 0 :: oDup :: oGetI 12 21 :: oPushI 1 :: oBin (fun x y => x + y) :: oPutI 12 21 :: oPushI 0 :: oStI 3 :: t274_49
abbrev t274_31 : List hOp := oInvV 200 12 1 :: oLdA 0 :: oGetI 12 19 :: oIf0 cEq 36 :: oRetV :: t274_36
abbrev t274_30 : List hOp := oPushI 0 :: t274_31
abbrev t274_20 : List hOp := oLdA 0 :: oLdI 1 :: oPushI (-1) :: oIf cEq 30 :: oLdA 0 :: oGetI 12 21 :: oPushI 12 :: oIf cGe 30 :: oPushI 1 :: oGoto 31 :: t274_30
abbrev t274_17 : List hOp := oStI 1 :: oInc 2 1 :: oGoto 4 :: t274_20
abbrev t274_16 : List hOp := oLdI 1 :: t274_17
abbrev t274_4 : List hOp := oLdI 2 :: oPushI 4 :: oIf cGe 20 :: oLdA 0 :: oLdA 0 :: oGetP 12 48 :: oLdI 2 :: oALdJ :: oInvV 198 12 1 :: oIf0 cEq 16 :: oLdI 2 :: oGoto 17 :: t274_16
abbrev t274_0 : List hOp := oPushI (-1) :: oStI 1 :: oPushI 0 :: oStI 2 :: t274_4
theorem e274_0 : (opsOf 274).drop 0 = t274_0 := rfl
theorem e274_4 : (opsOf 274).drop 4 = t274_4 := rfl
theorem e274_16 : (opsOf 274).drop 16 = t274_16 := rfl
theorem e274_17 : (opsOf 274).drop 17 = t274_17 := rfl
theorem e274_20 : (opsOf 274).drop 20 = t274_20 := rfl
theorem e274_30 : (opsOf 274).drop 30 = t274_30 := rfl
theorem e274_31 : (opsOf 274).drop 31 = t274_31 := rfl
theorem e274_36 : (opsOf 274).drop 36 = t274_36 := rfl
theorem e274_49 : (opsOf 274).drop 49 = t274_49 := rfl
theorem e274_61 : (opsOf 274).drop 61 = t274_61 := rfl
theorem e274_85 : (opsOf 274).drop 85 = t274_85 := rfl
theorem e274_90 : (opsOf 274).drop 90 = t274_90 := rfl
theorem e274_116 : (opsOf 274).drop 116 = t274_116 := rfl
theorem e274_136 : (opsOf 274).drop 136 = t274_136 := rfl
def q_Mo_readOrder_4 (k20 : Int32 → hG → hO Unit) (k4 : Int32 → Int32 → hG → hO Unit) (v1 : Int32) (v2 : Int32) (g : hG) : hO Unit :=
  if (4 : Int32) ≤ v2 then (k20 v1 g) else (gd v2 4 <| bnd (q_Mo_isWord (gJ g 395 v2.toNatClampNeg) g) fun r4 g2 => if r4 = (0 : Int32) then (k4 v1 (v2 + (1 : Int32)) g2) else (k4 v2 (v2 + (1 : Int32)) g2))
def q_Mo_readOrder_4L (k20 : Int32 → hG → hO Unit) : Nat → Int32 → Int32 → hG → hO Unit
  | 0 => fun _ _ _ => none
  | n + 1 => fun v1 v2 g => q_Mo_readOrder_4 k20 (q_Mo_readOrder_4L k20 n) v1 v2 g
theorem q_Mo_readOrder_4L_s (k20 : Int32 → hG → hO Unit) (n : Nat) (v1 : Int32) (v2 : Int32) (g : hG) : q_Mo_readOrder_4L k20 (n + 1) v1 v2 g = q_Mo_readOrder_4 k20 (q_Mo_readOrder_4L k20 n) v1 v2 g := rfl
theorem th274_4 {e : Nat} (he : 8 ≤ e + 1) {k20 : Int32 → hG → hO Unit} {k4 : Int32 → Int32 → hG → hO Unit} {v1 : Int32} {v2 : Int32} {u3 : Option Value} (hk20 : ∀ (x1 : Int32) (y2 : Option Value) (_ : isL (some y2) = false) (g : hG), Frz g → Tri wU (e + 1) 274 t274_20 [some (.ref 367), some (.int x1), y2, u3] [] g (k20 x1 g)) (hk4 : ∀ (x1 : Int32) (x2 : Int32) (g : hG), Frz g → Tri wU (e + 1) 274 t274_4 [some (.ref 367), some (.int x1), some (.int x2), u3] [] g (k4 x1 x2 g)) {g : hG} (hF : Frz g) : Tri wU (e + 1) 274 t274_4 [some (.ref 367), some (.int v1), some (.int v2), u3] [] g (q_Mo_readOrder_4 k20 k4 v1 v2 g) := by
  unfold q_Mo_readOrder_4
  refine tr_ldI rfl (tr_pushI (?_))
  refine tr_ifj e274_20 (c_ge _ _) (fun hc1 => ?_) (fun hc1 => ?_)
  · exact hk20 _ _ rfl _ hF
  · refine tr_ldA rfl (tr_ldA rfl (tr_getP (b := 395) (fk_367 hF) (fp_367_48 hF) (tr_ldI rfl (tr_aldJ (fk_395 hF) (fl_395 hF) (fun _ => ?_)))))
    refine tr_invVI rfl rfl (fk_367 hF) (Nat.le_of_ble_eq_true rfl) (by decide) (Nat.le_of_ble_eq_true rfl) (tm198 hF) (fun r4 g2 _ hF3 => ?_)
    refine tr_if0j e274_16 (c_eq _ _) (fun hc5 => ?_) (fun hc5 => ?_)
    · refine tr_ldI rfl (tr_stI (Nat.le_of_ble_eq_true rfl) rfl rfl (tr_inc rfl rfl rfl (?_)))
      refine tr_gotoE e274_4 (?_)
      exact hk4 _ _ _ hF3
    · refine tr_ldI rfl (?_)
      refine tr_gotoE e274_17 (?_)
      refine tr_stI (Nat.le_of_ble_eq_true rfl) rfl rfl (tr_inc rfl rfl rfl (?_))
      refine tr_gotoE e274_4 (?_)
      exact hk4 _ _ _ hF3
theorem th274_4L {e : Nat} (he : 8 ≤ e + 1) {k20 : Int32 → hG → hO Unit} {u3 : Option Value} (hk20 : ∀ (x1 : Int32) (y2 : Option Value) (_ : isL (some y2) = false) (g : hG), Frz g → Tri wU (e + 1) 274 t274_20 [some (.ref 367), some (.int x1), y2, u3] [] g (k20 x1 g)) : ∀ (n : Nat) (v1 : Int32) (v2 : Int32) (g : hG), Frz g → Tri wU (e + 1) 274 t274_4 [some (.ref 367), some (.int v1), some (.int v2), u3] [] g (q_Mo_readOrder_4L k20 n v1 v2 g)
  | 0 => fun _ _ _ _ => Tri.none_
  | n + 1 => fun _ _ g hF => th274_4 he hk20 (th274_4L he hk20 n) hF
def q_Mo_readOrder_49 (v2 : Int32) (k61 : hG → hO Unit) (k49 : Int32 → hG → hO Unit) (v3 : Int32) (g : hG) : hO Unit :=
  if (8 : Int32) ≤ v3 then (k61 g) else (gd (v2 + v3) 96 <| wr (sI g 397 (v2 + v3).toNatClampNeg (0 : Int32)) fun g17 => k49 (v3 + (1 : Int32)) g17)
def q_Mo_readOrder_49L (v2 : Int32) (k61 : hG → hO Unit) : Nat → Int32 → hG → hO Unit
  | 0 => fun _ _ => none
  | n + 1 => fun v3 g => q_Mo_readOrder_49 v2 k61 (q_Mo_readOrder_49L v2 k61 n) v3 g
theorem q_Mo_readOrder_49L_s (v2 : Int32) (k61 : hG → hO Unit) (n : Nat) (v3 : Int32) (g : hG) : q_Mo_readOrder_49L v2 k61 (n + 1) v3 g = q_Mo_readOrder_49 v2 k61 (q_Mo_readOrder_49L v2 k61 n) v3 g := rfl
theorem th274_49 {e : Nat} (he : 8 ≤ e + 1) {v2 : Int32} {k61 : hG → hO Unit} {k49 : Int32 → hG → hO Unit} {v3 : Int32} {u1 : Option Value} (hk61 : ∀ (y3 : Option Value) (g : hG), Frz g → Tri wU (e + 1) 274 t274_61 [some (.ref 367), u1, some (.int v2), y3] [] g (k61 g)) (hk49 : ∀ (x3 : Int32) (g : hG), Frz g → Tri wU (e + 1) 274 t274_49 [some (.ref 367), u1, some (.int v2), some (.int x3)] [] g (k49 x3 g)) (hu1 : isL (some u1) = false) {g : hG} (hF : Frz g) : Tri wU (e + 1) 274 t274_49 [some (.ref 367), u1, some (.int v2), some (.int v3)] [] g (q_Mo_readOrder_49 v2 k61 k49 v3 g) := by
  unfold q_Mo_readOrder_49
  refine tr_ldI rfl (tr_pushI (?_))
  refine tr_ifj e274_61 (c_ge _ _) (fun hc16 => ?_) (fun hc16 => ?_)
  · exact hk61 _ _ hF
  · refine tr_ldA rfl (tr_getP (b := 397) (fk_367 hF) (fp_367_50 hF) (tr_ldI rfl (tr_ldI rfl (tr_bin (v := (v2 + v3)) rfl (tr_pushI (?_))))))
    refine tr_astI hF (fk_397 hF) (fl_397 hF) (fun _ g17 _ hF18 => tr_inc rfl rfl rfl (?_))
    refine tr_gotoE e274_49 (?_)
    exact hk49 _ _ hF18
theorem th274_49L {e : Nat} (he : 8 ≤ e + 1) {v2 : Int32} {k61 : hG → hO Unit} {u1 : Option Value} (hk61 : ∀ (y3 : Option Value) (g : hG), Frz g → Tri wU (e + 1) 274 t274_61 [some (.ref 367), u1, some (.int v2), y3] [] g (k61 g)) (hu1 : isL (some u1) = false) : ∀ (n : Nat) (v3 : Int32) (g : hG), Frz g → Tri wU (e + 1) 274 t274_49 [some (.ref 367), u1, some (.int v2), some (.int v3)] [] g (q_Mo_readOrder_49L v2 k61 n v3 g)
  | 0 => fun _ _ _ => Tri.none_
  | n + 1 => fun _ g hF => th274_49 he hk61 (th274_49L he hk61 hu1 n) hu1 hF
def q_Mo_readOrder_136 (v2 : Int32) (g : hG) : hO Unit :=
  gd (v2 + (6 : Int32)) 96 <| wr (sI g 397 (v2 + (6 : Int32)).toNatClampNeg (gI g 367 23)) fun g31 => some ((), g31)
theorem th274_136 {e : Nat} (he : 8 ≤ e + 1) {v2 : Int32} {u1 : Option Value} {u3 : Option Value} (hu1 : isL (some u1) = false) {g : hG} (hF : Frz g) : Tri wU (e + 1) 274 t274_136 [some (.ref 367), u1, some (.int v2), u3] [] g (q_Mo_readOrder_136 v2 g) := by
  unfold q_Mo_readOrder_136
  refine tr_ldA rfl (tr_getP (b := 397) (fk_367 hF) (fp_367_50 hF) (tr_ldI rfl (tr_pushI (tr_bin (v := (v2 + (6 : Int32))) rfl (tr_ldA rfl (?_))))))
  refine tr_getI (fk_367 hF) (tr_astI hF (fk_397 hF) (fl_397 hF) (fun _ g31 _ hF32 => ?_))
  exact tr_retV hF32
def q_Mo_readOrder_116 (v2 : Int32) (g : hG) : hO Unit :=
  gd (v2 + (5 : Int32)) 96 <| wr (sI g 397 (v2 + (5 : Int32)).toNatClampNeg (gI g 367 23)) fun g28 => if (gI g28 367 19) = (0 : Int32) then (bnd (q_Mo_isWord (294 : Int64) g28) fun r35 g33 => if r35 = (0 : Int32) then (q_Mo_readOrder_136 v2 g33) else (bnd (q_Mo_next g33) fun _ g37 => bnd (q_Mo_readExpression (1 : Int32) g37) fun _ g39 => q_Mo_readOrder_136 v2 g39)) else (q_Mo_readOrder_136 v2 g28)
theorem th274_116 {e : Nat} (he : 8 ≤ e + 1) {v2 : Int32} {u1 : Option Value} {u3 : Option Value} (hu1 : isL (some u1) = false) {g : hG} (hF : Frz g) : Tri wU (e + 1) 274 t274_116 [some (.ref 367), u1, some (.int v2), u3] [] g (q_Mo_readOrder_116 v2 g) := by
  unfold q_Mo_readOrder_116
  refine tr_ldA rfl (tr_getP (b := 397) (fk_367 hF) (fp_367_50 hF) (tr_ldI rfl (tr_pushI (tr_bin (v := (v2 + (5 : Int32))) rfl (tr_ldA rfl (?_))))))
  refine tr_getI (fk_367 hF) (tr_astI hF (fk_397 hF) (fl_397 hF) (fun _ g28 _ hF29 => tr_ldA rfl (tr_getI (fk_367 hF29) (?_))))
  refine tr_if0n e274_136 (c_ne _ _) (fun hc30 => ?_) (fun hc30 => ?_)
  · exact th274_136 he hu1 hF29
  · refine tr_ldA rfl (tr_pushL (?_))
    refine tr_invVI rfl rfl (fk_367 hF29) (Nat.le_of_ble_eq_true rfl) (by decide) (Nat.le_of_ble_eq_true rfl) (tm198 hF29) (fun r35 g33 _ hF34 => ?_)
    refine tr_if0j e274_136 (c_eq _ _) (fun hc36 => ?_) (fun hc36 => ?_)
    · exact th274_136 he hu1 hF34
    · refine tr_ldA rfl (?_)
      refine tr_invVU rfl rfl (fk_367 hF34) (Nat.le_of_ble_eq_true rfl) (by decide) (Nat.le_of_ble_eq_true rfl) (tm197 (by omega) hF34) (fun _ g37 _ hF38 => ?_)
      refine tr_ldA rfl (tr_pushI (?_))
      refine tr_invVU rfl rfl (fk_367 hF38) (Nat.le_of_ble_eq_true rfl) (by decide) (Nat.le_of_ble_eq_true rfl) (tm217 (by omega) hF38) (fun _ g39 _ hF40 => ?_)
      exact th274_136 he hu1 hF40
def q_Mo_readOrder_90 (v2 : Int32) (g : hG) : hO Unit :=
  gd (v2 + (7 : Int32)) 96 <| wr (sI g 397 (v2 + (7 : Int32)).toNatClampNeg (1 : Int32)) fun g25 => if (gI g25 367 19) = (0 : Int32) then (bnd (q_Mo_isWord (21279923 : Int64) g25) fun r43 g41 => if r43 = (0 : Int32) then (q_Mo_readOrder_116 v2 g41) else (bnd (q_Mo_next g41) fun _ g45 => bnd (q_Mo_number (1 : Int64) (20 : Int64) g45) fun r49 g47 => gd (v2 + (7 : Int32)) 96 <| wr (sI g47 397 (v2 + (7 : Int32)).toNatClampNeg r49) fun g50 => q_Mo_readOrder_116 v2 g50)) else (q_Mo_readOrder_116 v2 g25)
theorem th274_90 {e : Nat} (he : 8 ≤ e + 1) {v2 : Int32} {u1 : Option Value} {u3 : Option Value} (hu1 : isL (some u1) = false) {g : hG} (hF : Frz g) : Tri wU (e + 1) 274 t274_90 [some (.ref 367), u1, some (.int v2), u3] [] g (q_Mo_readOrder_90 v2 g) := by
  unfold q_Mo_readOrder_90
  refine tr_ldA rfl (tr_getP (b := 397) (fk_367 hF) (fp_367_50 hF) (tr_ldI rfl (tr_pushI (tr_bin (v := (v2 + (7 : Int32))) rfl (tr_pushI (?_))))))
  refine tr_astI hF (fk_397 hF) (fl_397 hF) (fun _ g25 _ hF26 => tr_ldA rfl (tr_getI (fk_367 hF26) (?_)))
  refine tr_if0n e274_116 (c_ne _ _) (fun hc27 => ?_) (fun hc27 => ?_)
  · exact th274_116 he hu1 hF26
  · refine tr_ldA rfl (tr_pushL (?_))
    refine tr_invVI rfl rfl (fk_367 hF26) (Nat.le_of_ble_eq_true rfl) (by decide) (Nat.le_of_ble_eq_true rfl) (tm198 hF26) (fun r43 g41 _ hF42 => ?_)
    refine tr_if0j e274_116 (c_eq _ _) (fun hc44 => ?_) (fun hc44 => ?_)
    · exact th274_116 he hu1 hF42
    · refine tr_ldA rfl (?_)
      refine tr_invVU rfl rfl (fk_367 hF42) (Nat.le_of_ble_eq_true rfl) (by decide) (Nat.le_of_ble_eq_true rfl) (tm197 (by omega) hF42) (fun _ g45 _ hF46 => ?_)
      refine tr_ldA rfl (tr_getP (b := 397) (fk_367 hF46) (fp_367_50 hF46) (tr_ldI rfl (tr_pushI (tr_bin (v := (v2 + (7 : Int32))) rfl (tr_ldA rfl (?_))))))
      refine tr_pushL (tr_pushL (?_))
      refine tr_invVI rfl rfl (fk_367 hF46) (Nat.le_of_ble_eq_true rfl) (by decide) (Nat.le_of_ble_eq_true rfl) (tm201 (by omega) hF46) (fun r49 g47 _ hF48 => ?_)
      refine tr_astI hF48 (fk_397 hF48) (fl_397 hF48) (fun _ g50 _ hF51 => ?_)
      exact th274_116 he hu1 hF51
def q_Mo_readOrder_85 (v2 : Int32) (g : hG) : hO Unit :=
  bnd (q_Mo_readSum (v2 + (3 : Int32)) g) fun _ g55 => q_Mo_readOrder_90 v2 g55
theorem th274_85 {e : Nat} (he : 8 ≤ e + 1) {v2 : Int32} {u1 : Option Value} {u3 : Option Value} (hu1 : isL (some u1) = false) {g : hG} (hF : Frz g) : Tri wU (e + 1) 274 t274_85 [some (.ref 367), u1, some (.int v2), u3] [] g (q_Mo_readOrder_85 v2 g) := by
  unfold q_Mo_readOrder_85
  refine tr_ldA rfl (tr_ldI rfl (tr_pushI (tr_bin (v := (v2 + (3 : Int32))) rfl (?_))))
  refine tr_invVU rfl rfl (fk_367 hF) (Nat.le_of_ble_eq_true rfl) (by decide) (Nat.le_of_ble_eq_true rfl) (tm273 (by omega) hF) (fun _ g55 _ hF56 => ?_)
  exact th274_90 he hu1 hF56
def q_Mo_readOrder_31 (v1 : Int32) (w1 : Int32) (g : hG) : hO Unit :=
  bnd (q_Mo_must w1 g) fun _ g11 => if (gI g11 367 19) = (0 : Int32) then (wr (sI g11 367 21 ((gI g11 367 21) + (1 : Int32))) fun g14 => q_Mo_readOrder_49L ((8 : Int32) * (gI g11 367 21)) (fun g20 => gd ((8 : Int32) * (gI g11 367 21)) 96 <| wr (sI g20 397 ((8 : Int32) * (gI g11 367 21)).toNatClampNeg v1) fun g22 => if v1 = (3 : Int32) then (q_Mo_readOrder_90 ((8 : Int32) * (gI g11 367 21)) g22) else (bnd (q_Mo_readSum (((8 : Int32) * (gI g11 367 21)) + (1 : Int32)) g22) fun _ g52 => if (gI g52 367 19) = (0 : Int32) then (gd v1 3 <| bnd (q_Mo_isWord (gJ g52 396 v1.toNatClampNeg) g52) fun r59 g57 => bnd (q_Mo_must r59 g57) fun _ g60 => q_Mo_readOrder_85 ((8 : Int32) * (gI g11 367 21)) g60) else (q_Mo_readOrder_85 ((8 : Int32) * (gI g11 367 21)) g52))) FU (0 : Int32) g14) else (some ((), g11))
theorem th274_31 {e : Nat} (he : 8 ≤ e + 1) {v1 : Int32} {w1 : Int32} {u2 : Option Value} {u3 : Option Value} (hu2 : isL (some u2) = false) {g : hG} (hF : Frz g) : Tri wU (e + 1) 274 t274_31 [some (.ref 367), some (.int v1), u2, u3] [.int w1, .ref 367] g (q_Mo_readOrder_31 v1 w1 g) := by
  unfold q_Mo_readOrder_31
  refine tr_invVU rfl rfl (fk_367 hF) (Nat.le_of_ble_eq_true rfl) (by decide) (Nat.le_of_ble_eq_true rfl) (tm200 (by omega) hF) (fun _ g11 _ hF12 => ?_)
  refine tr_ldA rfl (tr_getI (fk_367 hF12) (?_))
  refine tr_if0j e274_36 (c_eq _ _) (fun hc13 => ?_) (fun hc13 => ?_)
  · refine tr_pushI (tr_ldA rfl (tr_getI (fk_367 hF12) (tr_bin (v := ((8 : Int32) * (gI g11 367 21))) rfl (tr_stI (Nat.le_of_ble_eq_true rfl) rfl rfl (tr_ldA rfl (?_))))))
    refine tr_dupA (tr_getI (fk_367 hF12) (tr_pushI (tr_bin (v := ((gI g11 367 21) + (1 : Int32))) rfl (tr_putI hF12 (fk_367 hF12) (fun g14 _ hF15 => tr_pushI (?_))))))
    refine tr_stI (Nat.le_of_ble_eq_true rfl) rfl rfl (?_)
    refine th274_49L he (fun y19 g20 hF21 => ?_) rfl FU _ _ hF15
    · refine tr_ldA rfl (tr_getP (b := 397) (fk_367 hF21) (fp_367_50 hF21) (tr_ldI rfl (tr_ldI rfl (tr_astI hF21 (fk_397 hF21) (fl_397 hF21) (fun _ g22 _ hF23 => tr_ldI rfl (?_))))))
      refine tr_pushI (?_)
      refine tr_ifj e274_90 (c_eq _ _) (fun hc24 => ?_) (fun hc24 => ?_)
      · exact th274_90 he rfl hF23
      · refine tr_ldA rfl (tr_ldI rfl (tr_pushI (tr_bin (v := (((8 : Int32) * (gI g11 367 21)) + (1 : Int32))) rfl (?_))))
        refine tr_invVU rfl rfl (fk_367 hF23) (Nat.le_of_ble_eq_true rfl) (by decide) (Nat.le_of_ble_eq_true rfl) (tm273 (by omega) hF23) (fun _ g52 _ hF53 => ?_)
        refine tr_ldA rfl (tr_getI (fk_367 hF53) (?_))
        refine tr_if0n e274_85 (c_ne _ _) (fun hc54 => ?_) (fun hc54 => ?_)
        · exact th274_85 he rfl hF53
        · refine tr_ldA rfl (tr_ldA rfl (tr_ldA rfl (tr_getP (b := 396) (fk_367 hF53) (fp_367_49 hF53) (tr_ldI rfl (tr_aldJ (fk_396 hF53) (fl_396 hF53) (fun _ => ?_))))))
          refine tr_invVI rfl rfl (fk_367 hF53) (Nat.le_of_ble_eq_true rfl) (by decide) (Nat.le_of_ble_eq_true rfl) (tm198 hF53) (fun r59 g57 _ hF58 => ?_)
          refine tr_invVU rfl rfl (fk_367 hF58) (Nat.le_of_ble_eq_true rfl) (by decide) (Nat.le_of_ble_eq_true rfl) (tm200 (by omega) hF58) (fun _ g60 _ hF61 => ?_)
          exact th274_85 he rfl hF61
  · exact tr_retV hF12
def q_Mo_readOrder (g : hG) : hO Unit :=
  q_Mo_readOrder_4L (fun x6 g8 => q_Mo_readOrder_31 x6 (if x6 = (-1 : Int32) then (0 : Int32) else (if (12 : Int32) ≤ (gI g8 367 21) then (0 : Int32) else (1 : Int32))) g8) FU (-1 : Int32) (0 : Int32) g
theorem tm274 {d : Nat} (hd : 8 ≤ d) {g : hG} (hF : Frz g) : TM wU d 274 [.ref 367] g (q_Mo_readOrder g) := by
  obtain ⟨e, rfl⟩ : ∃ e, d = e + 1 := ⟨d - 1, by omega⟩
  have he := hd
  refine TM.ofE e274_0 (lv := [some (.ref 367), none, none, none]) rfl ?_
  unfold q_Mo_readOrder
  refine tr_pushI (tr_stI (Nat.le_of_ble_eq_true rfl) rfl rfl (tr_pushI (tr_stI (Nat.le_of_ble_eq_true rfl) rfl rfl (?_))))
  refine th274_4L he (fun x6 y7 zy7 g8 hF9 => ?_) FU _ _ _ hF
  · refine tr_ldA rfl (tr_ldI rfl (tr_pushI (?_)))
    refine tr_ifcE e274_30 (c_eq _ _) (fun hc62 => ?_) (fun hc62 => ?_)
    · rw [if_pos hc62]
      refine tr_pushI (?_)
      exact th274_31 he zy7 hF9
    · rw [if_neg hc62]
      refine tr_ldA rfl (?_)
      refine tr_getI (fk_367 hF9) (?_)
      refine tr_pushI (?_)
      refine tr_ifcE e274_30 (c_ge _ _) (fun hc63 => ?_) (fun hc63 => ?_)
      · rw [if_pos hc63]
        refine tr_pushI (?_)
        exact th274_31 he zy7 hF9
      · rw [if_neg hc63]
        refine tr_pushI (?_)
        refine tr_gotoE e274_31 (?_)
        exact th274_31 he zy7 hF9
-- Mo_keepAll
abbrev t172_21 : List hOp := oRetV :: []
abbrev t172_2 : List hOp := oLdI 2 :: oPushI 52 :: oIf cGe 21 :: oLdA 0 :: oGetP 12 6 :: oPushI 52 :: oLdI 1 :: oBin (fun x y => x * y) :: oLdI 2 :: oBin (fun x y => x + y) :: oLdA 0 :: oGetP 12 3 :: oPushI 4 :: oLdI 2 :: oBin (fun x y => x + y) :: oALdI 13 :: oAStI :: oInc 2 1 :: oGoto 2 :: t172_21
abbrev t172_0 : List hOp := oPushI 0 :: oStI 2 :: t172_2
theorem e172_0 : (opsOf 172).drop 0 = t172_0 := rfl
theorem e172_2 : (opsOf 172).drop 2 = t172_2 := rfl
theorem e172_21 : (opsOf 172).drop 21 = t172_21 := rfl
def q_Mo_keepAll_2 (v1 : Int32) (k21 : hG → hO Unit) (k2 : Int32 → hG → hO Unit) (v2 : Int32) (g : hG) : hO Unit :=
  if (52 : Int32) ≤ v2 then (k21 g) else (gd ((4 : Int32) + v2) 5468 <| gd (((52 : Int32) * v1) + v2) 936 <| wr (sI g 372 (((52 : Int32) * v1) + v2).toNatClampNeg (gI g 369 ((4 : Int32) + v2).toNatClampNeg)) fun g2 => k2 (v2 + (1 : Int32)) g2)
def q_Mo_keepAll_2L (v1 : Int32) (k21 : hG → hO Unit) : Nat → Int32 → hG → hO Unit
  | 0 => fun _ _ => none
  | n + 1 => fun v2 g => q_Mo_keepAll_2 v1 k21 (q_Mo_keepAll_2L v1 k21 n) v2 g
theorem q_Mo_keepAll_2L_s (v1 : Int32) (k21 : hG → hO Unit) (n : Nat) (v2 : Int32) (g : hG) : q_Mo_keepAll_2L v1 k21 (n + 1) v2 g = q_Mo_keepAll_2 v1 k21 (q_Mo_keepAll_2L v1 k21 n) v2 g := rfl
theorem th172_2 {d : Nat} {v1 : Int32} {k21 : hG → hO Unit} {k2 : Int32 → hG → hO Unit} {v2 : Int32} (hk21 : ∀ (y2 : Option Value) (g : hG), Frz g → Tri wU d 172 t172_21 [some (.ref 367), some (.int v1), y2] [] g (k21 g)) (hk2 : ∀ (x2 : Int32) (g : hG), Frz g → Tri wU d 172 t172_2 [some (.ref 367), some (.int v1), some (.int x2)] [] g (k2 x2 g)) {g : hG} (hF : Frz g) : Tri wU d 172 t172_2 [some (.ref 367), some (.int v1), some (.int v2)] [] g (q_Mo_keepAll_2 v1 k21 k2 v2 g) := by
  unfold q_Mo_keepAll_2
  refine tr_ldI rfl (tr_pushI (?_))
  refine tr_ifj e172_21 (c_ge _ _) (fun hc1 => ?_) (fun hc1 => ?_)
  · exact hk21 _ _ hF
  · refine tr_ldA rfl (tr_getP (b := 372) (fk_367 hF) (fp_367_6 hF) (tr_pushI (tr_ldI rfl (tr_bin (v := ((52 : Int32) * v1)) rfl (tr_ldI rfl (?_))))))
    refine tr_bin (v := (((52 : Int32) * v1) + v2)) rfl (tr_ldA rfl (tr_getP (b := 369) (fk_367 hF) (fp_367_3 hF) (tr_pushI (tr_ldI rfl (tr_bin (v := ((4 : Int32) + v2)) rfl (?_))))))
    refine tr_aldI (fk_369 hF) (fl_369 hF) (fun _ => tr_astI hF (fk_372 hF) (fl_372 hF) (fun _ g2 _ hF3 => tr_inc rfl rfl rfl (?_)))
    refine tr_gotoE e172_2 (?_)
    exact hk2 _ _ hF3
theorem th172_2L {d : Nat} {v1 : Int32} {k21 : hG → hO Unit} (hk21 : ∀ (y2 : Option Value) (g : hG), Frz g → Tri wU d 172 t172_21 [some (.ref 367), some (.int v1), y2] [] g (k21 g)) : ∀ (n : Nat) (v2 : Int32) (g : hG), Frz g → Tri wU d 172 t172_2 [some (.ref 367), some (.int v1), some (.int v2)] [] g (q_Mo_keepAll_2L v1 k21 n v2 g)
  | 0 => fun _ _ _ => Tri.none_
  | n + 1 => fun _ g hF => th172_2 hk21 (th172_2L hk21 n) hF
def q_Mo_keepAll (v1 : Int32) (g : hG) : hO Unit :=
  q_Mo_keepAll_2L v1 (fun g5 => some ((), g5)) FU (0 : Int32) g
theorem tm172 {d : Nat} {v1 : Int32} {g : hG} (hF : Frz g) : TM wU d 172 [.ref 367, .int v1] g (q_Mo_keepAll v1 g) := by
  refine TM.ofE e172_0 (lv := [some (.ref 367), some (.int v1), none]) rfl ?_
  unfold q_Mo_keepAll
  refine tr_pushI (tr_stI (Nat.le_of_ble_eq_true rfl) rfl rfl (?_))
  refine th172_2L (fun y4 g5 hF6 => ?_) FU _ _ hF
  · exact tr_retV hF6
-- Mo_howMany
abbrev t182_23 : List hOp := oLdI 2 :: oRetI :: []
abbrev t182_19 : List hOp := oBin (fun x y => x + y) :: oStI 2 :: oInc 3 1 :: oGoto 4 :: t182_23
abbrev t182_18 : List hOp := oPushI 0 :: t182_19
abbrev t182_4 : List hOp := oLdI 3 :: oPushI 8 :: oIf cGe 23 :: oLdI 2 :: oLdA 0 :: oGetP 12 3 :: oPushI 32 :: oLdI 3 :: oBin (fun x y => x + y) :: oALdI 13 :: oLdI 1 :: oIf cNe 18 :: oPushI 1 :: oGoto 19 :: t182_18
abbrev t182_0 : List hOp := oPushI 0 :: oStI 2 :: oPushI 0 :: oStI 3 :: t182_4
theorem e182_0 : (opsOf 182).drop 0 = t182_0 := rfl
theorem e182_4 : (opsOf 182).drop 4 = t182_4 := rfl
theorem e182_18 : (opsOf 182).drop 18 = t182_18 := rfl
theorem e182_19 : (opsOf 182).drop 19 = t182_19 := rfl
theorem e182_23 : (opsOf 182).drop 23 = t182_23 := rfl
def q_Mo_howMany_4 (v1 : Int32) (k23 : Int32 → hG → hO Int32) (k4 : Int32 → Int32 → hG → hO Int32) (v2 : Int32) (v3 : Int32) (g : hG) : hO Int32 :=
  if (8 : Int32) ≤ v3 then (k23 v2 g) else (gd ((32 : Int32) + v3) 5468 <| if (gI g 369 ((32 : Int32) + v3).toNatClampNeg) = v1 then (k4 (v2 + (1 : Int32)) (v3 + (1 : Int32)) g) else (k4 (v2 + (0 : Int32)) (v3 + (1 : Int32)) g))
def q_Mo_howMany_4L (v1 : Int32) (k23 : Int32 → hG → hO Int32) : Nat → Int32 → Int32 → hG → hO Int32
  | 0 => fun _ _ _ => none
  | n + 1 => fun v2 v3 g => q_Mo_howMany_4 v1 k23 (q_Mo_howMany_4L v1 k23 n) v2 v3 g
theorem q_Mo_howMany_4L_s (v1 : Int32) (k23 : Int32 → hG → hO Int32) (n : Nat) (v2 : Int32) (v3 : Int32) (g : hG) : q_Mo_howMany_4L v1 k23 (n + 1) v2 v3 g = q_Mo_howMany_4 v1 k23 (q_Mo_howMany_4L v1 k23 n) v2 v3 g := rfl
theorem th182_4 {d : Nat} {v1 : Int32} {k23 : Int32 → hG → hO Int32} {k4 : Int32 → Int32 → hG → hO Int32} {v2 : Int32} {v3 : Int32} (hk23 : ∀ (x2 : Int32) (y3 : Option Value) (g : hG), Frz g → Tri wI d 182 t182_23 [some (.ref 367), some (.int v1), some (.int x2), y3] [] g (k23 x2 g)) (hk4 : ∀ (x2 : Int32) (x3 : Int32) (g : hG), Frz g → Tri wI d 182 t182_4 [some (.ref 367), some (.int v1), some (.int x2), some (.int x3)] [] g (k4 x2 x3 g)) {g : hG} (hF : Frz g) : Tri wI d 182 t182_4 [some (.ref 367), some (.int v1), some (.int v2), some (.int v3)] [] g (q_Mo_howMany_4 v1 k23 k4 v2 v3 g) := by
  unfold q_Mo_howMany_4
  refine tr_ldI rfl (tr_pushI (?_))
  refine tr_ifj e182_23 (c_ge _ _) (fun hc1 => ?_) (fun hc1 => ?_)
  · exact hk23 _ _ _ hF
  · refine tr_ldI rfl (tr_ldA rfl (tr_getP (b := 369) (fk_367 hF) (fp_367_3 hF) (tr_pushI (tr_ldI rfl (tr_bin (v := ((32 : Int32) + v3)) rfl (?_))))))
    refine tr_aldI (fk_369 hF) (fl_369 hF) (fun _ => tr_ldI rfl (?_))
    refine tr_ifn e182_18 (c_ne _ _) (fun hc2 => ?_) (fun hc2 => ?_)
    · refine tr_pushI (tr_bin (v := (v2 + (0 : Int32))) rfl (tr_stI (Nat.le_of_ble_eq_true rfl) rfl rfl (tr_inc rfl rfl rfl (?_))))
      refine tr_gotoE e182_4 (?_)
      exact hk4 _ _ _ hF
    · refine tr_pushI (?_)
      refine tr_gotoE e182_19 (?_)
      refine tr_bin (v := (v2 + (1 : Int32))) rfl (tr_stI (Nat.le_of_ble_eq_true rfl) rfl rfl (tr_inc rfl rfl rfl (?_)))
      refine tr_gotoE e182_4 (?_)
      exact hk4 _ _ _ hF
theorem th182_4L {d : Nat} {v1 : Int32} {k23 : Int32 → hG → hO Int32} (hk23 : ∀ (x2 : Int32) (y3 : Option Value) (g : hG), Frz g → Tri wI d 182 t182_23 [some (.ref 367), some (.int v1), some (.int x2), y3] [] g (k23 x2 g)) : ∀ (n : Nat) (v2 : Int32) (v3 : Int32) (g : hG), Frz g → Tri wI d 182 t182_4 [some (.ref 367), some (.int v1), some (.int v2), some (.int v3)] [] g (q_Mo_howMany_4L v1 k23 n v2 v3 g)
  | 0 => fun _ _ _ _ => Tri.none_
  | n + 1 => fun _ _ g hF => th182_4 hk23 (th182_4L hk23 n) hF
def q_Mo_howMany (v1 : Int32) (g : hG) : hO Int32 :=
  q_Mo_howMany_4L v1 (fun x3 g5 => some (x3, g5)) FU (0 : Int32) (0 : Int32) g
theorem tm182 {d : Nat} {v1 : Int32} {g : hG} (hF : Frz g) : TM wI d 182 [.ref 367, .int v1] g (q_Mo_howMany v1 g) := by
  refine TM.ofE e182_0 (lv := [some (.ref 367), some (.int v1), none, none]) rfl ?_
  unfold q_Mo_howMany
  refine tr_pushI (tr_stI (Nat.le_of_ble_eq_true rfl) rfl rfl (tr_pushI (tr_stI (Nat.le_of_ble_eq_true rfl) rfl rfl (?_))))
  refine th182_4L (fun x3 y4 g5 hF6 => ?_) FU _ _ _ hF
  · refine tr_ldI rfl (?_)
    exact tr_retI hF6
-- Mo_sumOf
abbrev t275_16 : List hOp := oLdA 0 :: oPushI 1 :: oPutZ 12 20 :: oLdA 0 :: oLdA 0 :: oGetP 12 50 :: oLdI 1 :: oALdI 13 :: oLdA 0 :: oGetP 12 50 :: oLdI 1 :: oPushI 1 :: oBin (fun x y => x + y) :: oALdI 13 :: oInvV 225 12 2 :: oLdA 0 :: oPushI 0 :: oPutZ 12 20 :: oLdA 0 :: oLdA 0 :: oGetI 12 38 :: oPutZ 12 54 :: oLdA 0 :: oGetJ 12 39 :: oL2I :: oRetI :: []
abbrev t275_14 : List hOp := oPushI (-1) :: oRetI :: t275_16
abbrev t275_0 : List hOp := oLdA 0 :: oGetI 12 54 :: oIf0 cNe 14 :: oLdA 0 :: oGetP 12 50 :: oLdI 1 :: oALdI 13 :: oLdA 0 :: oGetP 12 50 :: oLdI 1 :: oPushI 1 :: oBin (fun x y => x + y) :: oALdI 13 :: oIf cNe 16 :: t275_14
theorem e275_0 : (opsOf 275).drop 0 = t275_0 := rfl
theorem e275_14 : (opsOf 275).drop 14 = t275_14 := rfl
theorem e275_16 : (opsOf 275).drop 16 = t275_16 := rfl
def q_Mo_sumOf (v1 : Int32) (g : hG) : hO Int32 :=
  if (gI g 367 54) = (0 : Int32) then (gd v1 96 <| gd (v1 + (1 : Int32)) 96 <| if (gI g 397 v1.toNatClampNeg) = (gI g 397 (v1 + (1 : Int32)).toNatClampNeg) then (some ((-1 : Int32), g)) else (wr (sI g 367 20 (1 : Int32)) fun g3 => gd v1 96 <| gd (v1 + (1 : Int32)) 96 <| bnd (q_Mo_reckonAll (gI g3 397 v1.toNatClampNeg) (gI g3 397 (v1 + (1 : Int32)).toNatClampNeg) g3) fun _ g5 => wr (sI g5 367 20 (0 : Int32)) fun g7 => gb (gI g7 367 38) <| wr (sI g7 367 54 (gI g7 367 38)) fun g9 => some (((gJ g9 367 39)).toInt32, g9))) else (some ((-1 : Int32), g))
theorem tm275 {d : Nat} {v1 : Int32} (hd : 2 ≤ d) {g : hG} (hF : Frz g) : TM wI d 275 [.ref 367, .int v1] g (q_Mo_sumOf v1 g) := by
  obtain ⟨e, rfl⟩ : ∃ e, d = e + 1 := ⟨d - 1, by omega⟩
  have he := hd
  refine TM.ofE e275_0 (lv := [some (.ref 367), some (.int v1)]) rfl ?_
  unfold q_Mo_sumOf
  refine tr_ldA rfl (tr_getI (fk_367 hF) (?_))
  refine tr_if0n e275_14 (c_ne _ _) (fun hc1 => ?_) (fun hc1 => ?_)
  · refine tr_pushI (?_)
    exact tr_retI hF
  · refine tr_ldA rfl (tr_getP (b := 397) (fk_367 hF) (fp_367_50 hF) (tr_ldI rfl (tr_aldI (fk_397 hF) (fl_397 hF) (fun _ => tr_ldA rfl (tr_getP (b := 397) (fk_367 hF) (fp_367_50 hF) (?_))))))
    refine tr_ldI rfl (tr_pushI (tr_bin (v := (v1 + (1 : Int32))) rfl (tr_aldI (fk_397 hF) (fl_397 hF) (fun _ => ?_))))
    refine tr_ifn e275_16 (c_ne _ _) (fun hc2 => ?_) (fun hc2 => ?_)
    · refine tr_ldA rfl (tr_pushI (tr_putZl (Or.inr rfl) hF (fk_367 hF) (fun g3 _ hF4 => tr_ldA rfl (tr_ldA rfl (tr_getP (b := 397) (fk_367 hF4) (fp_367_50 hF4) (?_))))))
      refine tr_ldI rfl (tr_aldI (fk_397 hF4) (fl_397 hF4) (fun _ => tr_ldA rfl (tr_getP (b := 397) (fk_367 hF4) (fp_367_50 hF4) (tr_ldI rfl (tr_pushI (?_))))))
      refine tr_bin (v := (v1 + (1 : Int32))) rfl (tr_aldI (fk_397 hF4) (fl_397 hF4) (fun _ => ?_))
      refine tr_invVU rfl rfl (fk_367 hF4) (Nat.le_of_ble_eq_true rfl) (by decide) (Nat.le_of_ble_eq_true rfl) (tm225 (by omega) hF4) (fun _ g5 _ hF6 => ?_)
      refine tr_ldA rfl (tr_pushI (tr_putZl (Or.inl rfl) hF6 (fk_367 hF6) (fun g7 _ hF8 => tr_ldA rfl (tr_ldA rfl (tr_getI (fk_367 hF8) (?_))))))
      refine tr_putZ hF8 (fk_367 hF8) (fun g9 _ hF10 => tr_ldA rfl (tr_getJ (fk_367 hF10) (tr_l2i (?_))))
      exact tr_retI hF10
    · refine tr_pushI (?_)
      exact tr_retI hF
-- Mo_remember
abbrev t174_44 : List hOp := oLdA 0 :: oLdA 0 :: oGetI 12 8 :: oInvV 172 12 1 :: oLdA 0 :: oGetP 12 7 :: oLdA 0 :: oGetI 12 8 :: oLdI 1 :: oAStI :: oLdA 0 :: oDup :: oGetI 12 8 :: oPushI 1 :: oBin (fun x y => x + y) :: oPutI 12 8 :: oRetV :: []
abbrev t174_38 : List hOp := oLdA 0 :: oDup :: oGetI 12 8 :: oPushI 1 :: oBin (fun x y => x - y) :: oPutI 12 8 :: t174_44
abbrev t174_23 : List hOp := oLdI 2 :: oPushI 15 :: oIf cGe 38 :: oLdA 0 :: oGetP 12 7 :: oLdI 2 :: oLdA 0 :: oGetP 12 7 :: oLdI 2 :: oPushI 1 :: oBin (fun x y => x + y) :: oALdI 13 :: oAStI :: oInc 2 1 :: oGoto 23 :: t174_38
abbrev t174_21 : List hOp := oPushI 0 :: oStI 2 :: t174_23
abbrev t174_6 : List hOp := oLdI 2 :: oPushI 780 :: oIf cGe 21 :: oLdA 0 :: oGetP 12 6 :: oLdI 2 :: oLdA 0 :: oGetP 12 6 :: oLdI 2 :: oPushI 52 :: oBin (fun x y => x + y) :: oALdI 13 :: oAStI :: oInc 2 1 :: oGoto 6 :: t174_21
abbrev t174_0 : List hOp := oLdA 0 :: oGetI 12 8 :: oPushI 16 :: oIf cNe 44 :: oPushI 0 :: oStI 2 :: t174_6
theorem e174_0 : (opsOf 174).drop 0 = t174_0 := rfl
theorem e174_6 : (opsOf 174).drop 6 = t174_6 := rfl
theorem e174_21 : (opsOf 174).drop 21 = t174_21 := rfl
theorem e174_23 : (opsOf 174).drop 23 = t174_23 := rfl
theorem e174_38 : (opsOf 174).drop 38 = t174_38 := rfl
theorem e174_44 : (opsOf 174).drop 44 = t174_44 := rfl
def q_Mo_remember_44 (v1 : Int32) (g : hG) : hO Unit :=
  bnd (q_Mo_keepAll (gI g 367 8) g) fun _ g2 => gd (gI g2 367 8) 16 <| wr (sI g2 373 (gI g2 367 8).toNatClampNeg v1) fun g4 => wr (sI g4 367 8 ((gI g4 367 8) + (1 : Int32))) fun g6 => some ((), g6)
theorem th174_44 {e : Nat} (he : 1 ≤ e + 1) {v1 : Int32} {u2 : Option Value} {g : hG} (hF : Frz g) : Tri wU (e + 1) 174 t174_44 [some (.ref 367), some (.int v1), u2] [] g (q_Mo_remember_44 v1 g) := by
  unfold q_Mo_remember_44
  refine tr_ldA rfl (tr_ldA rfl (tr_getI (fk_367 hF) (?_)))
  refine tr_invVU rfl rfl (fk_367 hF) (Nat.le_of_ble_eq_true rfl) (by decide) (Nat.le_of_ble_eq_true rfl) (tm172 hF) (fun _ g2 _ hF3 => ?_)
  refine tr_ldA rfl (tr_getP (b := 373) (fk_367 hF3) (fp_367_7 hF3) (tr_ldA rfl (tr_getI (fk_367 hF3) (tr_ldI rfl (tr_astI hF3 (fk_373 hF3) (fl_373 hF3) (fun _ g4 _ hF5 => ?_))))))
  refine tr_ldA rfl (tr_dupA (tr_getI (fk_367 hF5) (tr_pushI (tr_bin (v := ((gI g4 367 8) + (1 : Int32))) rfl (tr_putI hF5 (fk_367 hF5) (fun g6 _ hF7 => ?_))))))
  exact tr_retV hF7
def q_Mo_remember_6 (k21 : hG → hO Unit) (k6 : Int32 → hG → hO Unit) (v2 : Int32) (g : hG) : hO Unit :=
  if (780 : Int32) ≤ v2 then (k21 g) else (gd (v2 + (52 : Int32)) 936 <| gd v2 936 <| wr (sI g 372 v2.toNatClampNeg (gI g 372 (v2 + (52 : Int32)).toNatClampNeg)) fun g9 => k6 (v2 + (1 : Int32)) g9)
def q_Mo_remember_6L (k21 : hG → hO Unit) : Nat → Int32 → hG → hO Unit
  | 0 => fun _ _ => none
  | n + 1 => fun v2 g => q_Mo_remember_6 k21 (q_Mo_remember_6L k21 n) v2 g
theorem q_Mo_remember_6L_s (k21 : hG → hO Unit) (n : Nat) (v2 : Int32) (g : hG) : q_Mo_remember_6L k21 (n + 1) v2 g = q_Mo_remember_6 k21 (q_Mo_remember_6L k21 n) v2 g := rfl
theorem th174_6 {e : Nat} (he : 1 ≤ e + 1) {k21 : hG → hO Unit} {k6 : Int32 → hG → hO Unit} {v2 : Int32} {u1 : Option Value} (hk21 : ∀ (y2 : Option Value) (g : hG), Frz g → Tri wU (e + 1) 174 t174_21 [some (.ref 367), u1, y2] [] g (k21 g)) (hk6 : ∀ (x2 : Int32) (g : hG), Frz g → Tri wU (e + 1) 174 t174_6 [some (.ref 367), u1, some (.int x2)] [] g (k6 x2 g)) (hu1 : isL (some u1) = false) {g : hG} (hF : Frz g) : Tri wU (e + 1) 174 t174_6 [some (.ref 367), u1, some (.int v2)] [] g (q_Mo_remember_6 k21 k6 v2 g) := by
  unfold q_Mo_remember_6
  refine tr_ldI rfl (tr_pushI (?_))
  refine tr_ifj e174_21 (c_ge _ _) (fun hc8 => ?_) (fun hc8 => ?_)
  · exact hk21 _ _ hF
  · refine tr_ldA rfl (tr_getP (b := 372) (fk_367 hF) (fp_367_6 hF) (tr_ldI rfl (tr_ldA rfl (tr_getP (b := 372) (fk_367 hF) (fp_367_6 hF) (tr_ldI rfl (?_))))))
    refine tr_pushI (tr_bin (v := (v2 + (52 : Int32))) rfl (tr_aldI (fk_372 hF) (fl_372 hF) (fun _ => tr_astI hF (fk_372 hF) (fl_372 hF) (fun _ g9 _ hF10 => tr_inc rfl (lKill_id hu1) rfl (?_)))))
    refine tr_gotoE e174_6 (?_)
    exact hk6 _ _ hF10
theorem th174_6L {e : Nat} (he : 1 ≤ e + 1) {k21 : hG → hO Unit} {u1 : Option Value} (hk21 : ∀ (y2 : Option Value) (g : hG), Frz g → Tri wU (e + 1) 174 t174_21 [some (.ref 367), u1, y2] [] g (k21 g)) (hu1 : isL (some u1) = false) : ∀ (n : Nat) (v2 : Int32) (g : hG), Frz g → Tri wU (e + 1) 174 t174_6 [some (.ref 367), u1, some (.int v2)] [] g (q_Mo_remember_6L k21 n v2 g)
  | 0 => fun _ _ _ => Tri.none_
  | n + 1 => fun _ g hF => th174_6 he hk21 (th174_6L he hk21 hu1 n) hu1 hF
def q_Mo_remember_23 (k38 : hG → hO Unit) (k23 : Int32 → hG → hO Unit) (v2 : Int32) (g : hG) : hO Unit :=
  if (15 : Int32) ≤ v2 then (k38 g) else (gd (v2 + (1 : Int32)) 16 <| gd v2 16 <| wr (sI g 373 v2.toNatClampNeg (gI g 373 (v2 + (1 : Int32)).toNatClampNeg)) fun g15 => k23 (v2 + (1 : Int32)) g15)
def q_Mo_remember_23L (k38 : hG → hO Unit) : Nat → Int32 → hG → hO Unit
  | 0 => fun _ _ => none
  | n + 1 => fun v2 g => q_Mo_remember_23 k38 (q_Mo_remember_23L k38 n) v2 g
theorem q_Mo_remember_23L_s (k38 : hG → hO Unit) (n : Nat) (v2 : Int32) (g : hG) : q_Mo_remember_23L k38 (n + 1) v2 g = q_Mo_remember_23 k38 (q_Mo_remember_23L k38 n) v2 g := rfl
theorem th174_23 {e : Nat} (he : 1 ≤ e + 1) {k38 : hG → hO Unit} {k23 : Int32 → hG → hO Unit} {v2 : Int32} {u1 : Option Value} (hk38 : ∀ (y2 : Option Value) (g : hG), Frz g → Tri wU (e + 1) 174 t174_38 [some (.ref 367), u1, y2] [] g (k38 g)) (hk23 : ∀ (x2 : Int32) (g : hG), Frz g → Tri wU (e + 1) 174 t174_23 [some (.ref 367), u1, some (.int x2)] [] g (k23 x2 g)) (hu1 : isL (some u1) = false) {g : hG} (hF : Frz g) : Tri wU (e + 1) 174 t174_23 [some (.ref 367), u1, some (.int v2)] [] g (q_Mo_remember_23 k38 k23 v2 g) := by
  unfold q_Mo_remember_23
  refine tr_ldI rfl (tr_pushI (?_))
  refine tr_ifj e174_38 (c_ge _ _) (fun hc14 => ?_) (fun hc14 => ?_)
  · exact hk38 _ _ hF
  · refine tr_ldA rfl (tr_getP (b := 373) (fk_367 hF) (fp_367_7 hF) (tr_ldI rfl (tr_ldA rfl (tr_getP (b := 373) (fk_367 hF) (fp_367_7 hF) (tr_ldI rfl (?_))))))
    refine tr_pushI (tr_bin (v := (v2 + (1 : Int32))) rfl (tr_aldI (fk_373 hF) (fl_373 hF) (fun _ => tr_astI hF (fk_373 hF) (fl_373 hF) (fun _ g15 _ hF16 => tr_inc rfl (lKill_id hu1) rfl (?_)))))
    refine tr_gotoE e174_23 (?_)
    exact hk23 _ _ hF16
theorem th174_23L {e : Nat} (he : 1 ≤ e + 1) {k38 : hG → hO Unit} {u1 : Option Value} (hk38 : ∀ (y2 : Option Value) (g : hG), Frz g → Tri wU (e + 1) 174 t174_38 [some (.ref 367), u1, y2] [] g (k38 g)) (hu1 : isL (some u1) = false) : ∀ (n : Nat) (v2 : Int32) (g : hG), Frz g → Tri wU (e + 1) 174 t174_23 [some (.ref 367), u1, some (.int v2)] [] g (q_Mo_remember_23L k38 n v2 g)
  | 0 => fun _ _ _ => Tri.none_
  | n + 1 => fun _ g hF => th174_23 he hk38 (th174_23L he hk38 hu1 n) hu1 hF
def q_Mo_remember (v1 : Int32) (g : hG) : hO Unit :=
  if (gI g 367 8) = (16 : Int32) then (q_Mo_remember_6L (fun g12 => q_Mo_remember_23L (fun g18 => wr (sI g18 367 8 ((gI g18 367 8) - (1 : Int32))) fun g20 => q_Mo_remember_44 v1 g20) FU (0 : Int32) g12) FU (0 : Int32) g) else (q_Mo_remember_44 v1 g)
theorem tm174 {d : Nat} {v1 : Int32} (hd : 1 ≤ d) {g : hG} (hF : Frz g) : TM wU d 174 [.ref 367, .int v1] g (q_Mo_remember v1 g) := by
  obtain ⟨e, rfl⟩ : ∃ e, d = e + 1 := ⟨d - 1, by omega⟩
  have he := hd
  refine TM.ofE e174_0 (lv := [some (.ref 367), some (.int v1), none]) rfl ?_
  unfold q_Mo_remember
  refine tr_ldA rfl (tr_getI (fk_367 hF) (tr_pushI (?_)))
  refine tr_ifn e174_44 (c_ne _ _) (fun hc1 => ?_) (fun hc1 => ?_)
  · exact th174_44 he hF
  · refine tr_pushI (tr_stI (Nat.le_of_ble_eq_true rfl) rfl rfl (?_))
    refine th174_6L he (fun y11 g12 hF13 => ?_) rfl FU _ _ hF
    · refine tr_pushI (tr_stI (Nat.le_of_ble_eq_true rfl) rfl rfl (?_))
      refine th174_23L he (fun y17 g18 hF19 => ?_) rfl FU _ _ hF13
      · refine tr_ldA rfl (tr_dupA (tr_getI (fk_367 hF19) (tr_pushI (tr_bin (v := ((gI g18 367 8) - (1 : Int32))) rfl (tr_putI hF19 (fk_367 hF19) (fun g20 _ hF21 => ?_))))))
        exact th174_44 he hF21
