-- MP_isCell
abbrev t159_8 : List hOp := oRetZ :: []
abbrev t159_7 : List hOp := oPushI 0 :: t159_8
abbrev t159_0 : List hOp := oLdI 0 :: oIf0 cLt 7 :: oLdI 0 :: oPushI 25 :: oIf cGe 7 :: oPushI 1 :: oGoto 8 :: t159_7
theorem e159_0 : (opsOf 159).drop 0 = t159_0 := rfl
theorem e159_7 : (opsOf 159).drop 7 = t159_7 := rfl
theorem e159_8 : (opsOf 159).drop 8 = t159_8 := rfl
def q_MP_isCell (v0 : Int32) (g : hG) : hO Int32 :=
  if v0 < (0 : Int32) then (some ((0 : Int32), g)) else (if (25 : Int32) ≤ v0 then (some ((0 : Int32), g)) else (some ((1 : Int32), g)))
theorem tm159 {d : Nat} {v0 : Int32} {g : hG} (hF : Frz g) : TM wI d 159 [.int v0] g (q_MP_isCell v0 g) := by
  refine TM.ofE e159_0 (lv := [some (.int v0)]) rfl ?_
  unfold q_MP_isCell
  refine tr_ldI rfl (?_)
  refine tr_if0j e159_7 (c_lt _ _) (fun hc1 => ?_) (fun hc1 => ?_)
  · refine tr_pushI (?_)
    exact tr_retZl (Or.inl rfl) hF
  · refine tr_ldI rfl (tr_pushI (?_))
    refine tr_ifj e159_7 (c_ge _ _) (fun hc2 => ?_) (fun hc2 => ?_)
    · refine tr_pushI (?_)
      exact tr_retZl (Or.inl rfl) hF
    · refine tr_pushI (?_)
      refine tr_gotoE e159_8 (?_)
      exact tr_retZl (Or.inr rfl) hF
-- Slope_face
abbrev t57_0 : List hOp := oLdA 0 :: oLdA 1 :: oPutP 6 5 :: oLdA 0 :: oLdI 2 :: oPutI 6 6 :: oLdA 0 :: oPushI 0 :: oPutI 6 7 :: oLdA 0 :: oPushI 0 :: oPutI 6 8 :: oRetV :: []
theorem e57_0 : (opsOf 57).drop 0 = t57_0 := rfl
def q_Slope_face (a1 : Nat) (v2 : Int32) (g : hG) : hO Unit :=
  wr (sP g 250 5 (some a1)) fun g1 => wr (sI g1 250 6 v2) fun g3 => wr (sI g3 250 7 (0 : Int32)) fun g5 => wr (sI g5 250 8 (0 : Int32)) fun g7 => some ((), g7)
theorem tm57 {d : Nat} {a1 : Nat} {v2 : Int32} (h1 : is_mom a1 = true) {g : hG} (hF : Frz g) : TM wU d 57 [.ref 250, .ref a1, .int v2] g (q_Slope_face a1 v2 g) := by
  refine TM.ofE e57_0 (lv := [some (.ref 250), some (.ref a1), some (.int v2)]) rfl ?_
  unfold q_Slope_face
  refine tr_ldA rfl (tr_ldA rfl (tr_putP hF rfl (fk_250 hF) (fun g1 _ hF2 => tr_ldA rfl (tr_ldI rfl (tr_putI hF2 (fk_250 hF2) (fun g3 _ hF4 => ?_))))))
  refine tr_ldA rfl (tr_pushI (tr_putI hF4 (fk_250 hF4) (fun g5 _ hF6 => tr_ldA rfl (tr_pushI (tr_putI hF6 (fk_250 hF6) (fun g7 _ hF8 => ?_))))))
  exact tr_retV hF8
-- MP_isAmong
abbrev t162_10 : List hOp := oRetZ :: []
abbrev t162_9 : List hOp := oPushI 0 :: t162_10
abbrev t162_0 : List hOp := oLdI 1 :: oLdI 0 :: oBin (fun x y => x >>> (y &&& 31)) :: oPushI 1 :: oBin (fun x y => x &&& y) :: oPushI 1 :: oIf cNe 9 :: oPushI 1 :: oGoto 10 :: t162_9
theorem e162_0 : (opsOf 162).drop 0 = t162_0 := rfl
theorem e162_9 : (opsOf 162).drop 9 = t162_9 := rfl
theorem e162_10 : (opsOf 162).drop 10 = t162_10 := rfl
def q_MP_isAmong (v0 : Int32) (v1 : Int32) (g : hG) : hO Int32 :=
  if ((shr v1 v0) &&& (1 : Int32)) = (1 : Int32) then (some ((1 : Int32), g)) else (some ((0 : Int32), g))
theorem tm162 {d : Nat} {v0 : Int32} {v1 : Int32} {g : hG} (hF : Frz g) : TM wI d 162 [.int v0, .int v1] g (q_MP_isAmong v0 v1 g) := by
  refine TM.ofE e162_0 (lv := [some (.int v0), some (.int v1)]) rfl ?_
  unfold q_MP_isAmong
  refine tr_ldI rfl (tr_ldI rfl (tr_bin (v := (shr v1 v0)) rfl (tr_pushI (tr_bin (v := ((shr v1 v0) &&& (1 : Int32))) rfl (tr_pushI (?_))))))
  refine tr_ifn e162_9 (c_ne _ _) (fun hc1 => ?_) (fun hc1 => ?_)
  · refine tr_pushI (?_)
    exact tr_retZl (Or.inl rfl) hF
  · refine tr_pushI (?_)
    refine tr_gotoE e162_10 (?_)
    exact tr_retZl (Or.inr rfl) hF
-- Kept_hasDoor
abbrev t14_0 : List hOp := oLdI 1 :: oLdA 0 :: oGetI 1 1 :: oInvS 162 2 :: oRetZ :: []
theorem e14_0 : (opsOf 14).drop 0 = t14_0 := rfl
def q_Kept_hasDoor (v1 : Int32) (g : hG) : hO Int32 :=
  bnd (q_MP_isAmong v1 (gI g 1 1) g) fun r3 g1 => gb r3 (some (r3, g1))
theorem tm14 {d : Nat} {v1 : Int32} (hd : 1 ≤ d) {g : hG} (hF : Frz g) : TM wI d 14 [.ref 1, .int v1] g (q_Kept_hasDoor v1 g) := by
  obtain ⟨e, rfl⟩ : ∃ e, d = e + 1 := ⟨d - 1, by omega⟩
  have he := hd
  refine TM.ofE e14_0 (lv := [some (.ref 1), some (.int v1)]) rfl ?_
  unfold q_Kept_hasDoor
  refine tr_ldI rfl (tr_ldA rfl (tr_getI (fk_1 hF) (?_)))
  refine tr_invSI rfl rfl (Nat.le_of_ble_eq_true rfl) (Nat.le_of_ble_eq_true rfl) (by decide) (Nat.le_of_ble_eq_true rfl) (tm162 hF) (fun r3 g1 _ hF2 => ?_)
  exact tr_retZ hF2
-- Mom_lettersOn
abbrev t19_27 : List hOp := oLdI 2 :: oRetI :: []
abbrev t19_25 : List hOp := oInc 3 1 :: oGoto 4 :: t19_27
abbrev t19_4 : List hOp := oLdI 3 :: oPushI 8 :: oIf cGe 27 :: oLdA 0 :: oGetP 2 0 :: oLdI 3 :: oALdI 13 :: oPushI 1 :: oIf cNe 25 :: oLdA 0 :: oGetP 2 1 :: oLdI 3 :: oALdI 13 :: oLdI 1 :: oIf cNe 25 :: oLdI 2 :: oPushI 1 :: oLdI 3 :: oBin (fun x y => x <<< (y &&& 31)) :: oBin (fun x y => x ||| y) :: oStI 2 :: t19_25
abbrev t19_0 : List hOp := oPushI 0 :: oStI 2 :: oPushI 0 :: oStI 3 :: t19_4
theorem e19_0 : (opsOf 19).drop 0 = t19_0 := rfl
theorem e19_4 : (opsOf 19).drop 4 = t19_4 := rfl
theorem e19_25 : (opsOf 19).drop 25 = t19_25 := rfl
theorem e19_27 : (opsOf 19).drop 27 = t19_27 := rfl
def q_Mom_lettersOn_4 (a0 : Nat) (v1 : Int32) (k27 : Int32 → hG → hO Int32) (k4 : Int32 → Int32 → hG → hO Int32) (v2 : Int32) (v3 : Int32) (g : hG) : hO Int32 :=
  if (8 : Int32) ≤ v3 then (k27 v2 g) else (gd v3 8 <| if (gI g (a0 + 1) v3.toNatClampNeg) = (1 : Int32) then (gd v3 8 <| if (gI g (a0 + 2) v3.toNatClampNeg) = v1 then (k4 (v2 ||| (shl (1 : Int32) v3)) (v3 + (1 : Int32)) g) else (k4 v2 (v3 + (1 : Int32)) g)) else (k4 v2 (v3 + (1 : Int32)) g))
def q_Mom_lettersOn_4L (a0 : Nat) (v1 : Int32) (k27 : Int32 → hG → hO Int32) : Nat → Int32 → Int32 → hG → hO Int32
  | 0 => fun _ _ _ => none
  | n + 1 => fun v2 v3 g => q_Mom_lettersOn_4 a0 v1 k27 (q_Mom_lettersOn_4L a0 v1 k27 n) v2 v3 g
theorem q_Mom_lettersOn_4L_s (a0 : Nat) (v1 : Int32) (k27 : Int32 → hG → hO Int32) (n : Nat) (v2 : Int32) (v3 : Int32) (g : hG) : q_Mom_lettersOn_4L a0 v1 k27 (n + 1) v2 v3 g = q_Mom_lettersOn_4 a0 v1 k27 (q_Mom_lettersOn_4L a0 v1 k27 n) v2 v3 g := rfl
theorem th19_4 {d : Nat} {a0 : Nat} {v1 : Int32} {k27 : Int32 → hG → hO Int32} {k4 : Int32 → Int32 → hG → hO Int32} {v2 : Int32} {v3 : Int32} (h0 : is_mom a0 = true) (hk27 : ∀ (x2 : Int32) (y3 : Option Value) (g : hG), Frz g → Tri wI d 19 t19_27 [some (.ref a0), some (.int v1), some (.int x2), y3] [] g (k27 x2 g)) (hk4 : ∀ (x2 : Int32) (x3 : Int32) (g : hG), Frz g → Tri wI d 19 t19_4 [some (.ref a0), some (.int v1), some (.int x2), some (.int x3)] [] g (k4 x2 x3 g)) {g : hG} (hF : Frz g) : Tri wI d 19 t19_4 [some (.ref a0), some (.int v1), some (.int v2), some (.int v3)] [] g (q_Mom_lettersOn_4 a0 v1 k27 k4 v2 v3 g) := by
  unfold q_Mom_lettersOn_4
  refine tr_ldI rfl (tr_pushI (?_))
  refine tr_ifj e19_27 (c_ge _ _) (fun hc1 => ?_) (fun hc1 => ?_)
  · exact hk27 _ _ _ hF
  · refine tr_ldA rfl (tr_getP (b := (a0 + 1)) (mom_k hF h0) (mom_p0 hF h0) (tr_ldI rfl (tr_aldI (mom_ak1 hF h0) (mom_al1 hF h0) (fun _ => tr_pushI (?_)))))
    refine tr_ifn e19_25 (c_ne _ _) (fun hc2 => ?_) (fun hc2 => ?_)
    · refine tr_inc rfl rfl rfl (?_)
      refine tr_gotoE e19_4 (?_)
      exact hk4 _ _ _ hF
    · refine tr_ldA rfl (tr_getP (b := (a0 + 2)) (mom_k hF h0) (mom_p1 hF h0) (tr_ldI rfl (tr_aldI (mom_ak2 hF h0) (mom_al2 hF h0) (fun _ => tr_ldI rfl (?_)))))
      refine tr_ifn e19_25 (c_ne _ _) (fun hc3 => ?_) (fun hc3 => ?_)
      · refine tr_inc rfl rfl rfl (?_)
        refine tr_gotoE e19_4 (?_)
        exact hk4 _ _ _ hF
      · refine tr_ldI rfl (tr_pushI (tr_ldI rfl (tr_bin (v := (shl (1 : Int32) v3)) rfl (tr_bin (v := (v2 ||| (shl (1 : Int32) v3))) rfl (tr_stI (Nat.le_of_ble_eq_true rfl) rfl rfl (?_))))))
        refine tr_inc rfl rfl rfl (?_)
        refine tr_gotoE e19_4 (?_)
        exact hk4 _ _ _ hF
theorem th19_4L {d : Nat} {a0 : Nat} {v1 : Int32} {k27 : Int32 → hG → hO Int32} (h0 : is_mom a0 = true) (hk27 : ∀ (x2 : Int32) (y3 : Option Value) (g : hG), Frz g → Tri wI d 19 t19_27 [some (.ref a0), some (.int v1), some (.int x2), y3] [] g (k27 x2 g)) : ∀ (n : Nat) (v2 : Int32) (v3 : Int32) (g : hG), Frz g → Tri wI d 19 t19_4 [some (.ref a0), some (.int v1), some (.int v2), some (.int v3)] [] g (q_Mom_lettersOn_4L a0 v1 k27 n v2 v3 g)
  | 0 => fun _ _ _ _ => Tri.none_
  | n + 1 => fun _ _ g hF => th19_4 h0 hk27 (th19_4L h0 hk27 n) hF
def q_Mom_lettersOn (a0 : Nat) (v1 : Int32) (g : hG) : hO Int32 :=
  q_Mom_lettersOn_4L a0 v1 (fun x4 g6 => some (x4, g6)) FU (0 : Int32) (0 : Int32) g
theorem tm19 {d : Nat} {a0 : Nat} {v1 : Int32} (h0 : is_mom a0 = true) {g : hG} (hF : Frz g) : TM wI d 19 [.ref a0, .int v1] g (q_Mom_lettersOn a0 v1 g) := by
  refine TM.ofE e19_0 (lv := [some (.ref a0), some (.int v1), none, none]) rfl ?_
  unfold q_Mom_lettersOn
  refine tr_pushI (tr_stI (Nat.le_of_ble_eq_true rfl) rfl rfl (tr_pushI (tr_stI (Nat.le_of_ble_eq_true rfl) rfl rfl (?_))))
  refine th19_4L h0 (fun x4 y5 g6 hF7 => ?_) FU _ _ _ hF
  · refine tr_ldI rfl (?_)
    exact tr_retI hF7
-- Ji_bitCount
abbrev t8_0 : List hOp := oLdI 0 :: oLdI 0 :: oPushI 1 :: oBin (fun x y => (x.toUInt32 >>> (y.toUInt32 &&& Int32.toUInt32 31)).toInt32) :: oPushI 1431655765 :: oBin (fun x y => x &&& y) :: oBin (fun x y => x - y) :: oStI 0 :: oLdI 0 :: oPushI 858993459 :: oBin (fun x y => x &&& y) :: oLdI 0 :: oPushI 2 :: oBin (fun x y => (x.toUInt32 >>> (y.toUInt32 &&& Int32.toUInt32 31)).toInt32) :: oPushI 858993459 :: oBin (fun x y => x &&& y) :: oBin (fun x y => x + y) :: oStI 0 :: oLdI 0 :: oLdI 0 :: oPushI 4 :: oBin (fun x y => (x.toUInt32 >>> (y.toUInt32 &&& Int32.toUInt32 31)).toInt32) :: oBin (fun x y => x + y) :: oPushI 252645135 :: oBin (fun x y => x &&& y) :: oStI 0 :: oLdI 0 :: oLdI 0 :: oPushI 8 :: oBin (fun x y => (x.toUInt32 >>> (y.toUInt32 &&& Int32.toUInt32 31)).toInt32) :: oBin (fun x y => x + y) :: oStI 0 :: oLdI 0 :: oLdI 0 :: oPushI 16 :: oBin (fun x y => (x.toUInt32 >>> (y.toUInt32 &&& Int32.toUInt32 31)).toInt32) :: oBin (fun x y => x + y) :: oStI 0 :: oLdI 0 :: oPushI 63 :: oBin (fun x y => x &&& y) :: oRetI :: []
theorem e8_0 : (opsOf 8).drop 0 = t8_0 := rfl
def q_Ji_bitCount (v0 : Int32) (g : hG) : hO Int32 :=
  some (((((((((v0 - ((ushr v0 (1 : Int32)) &&& (1431655765 : Int32))) &&& (858993459 : Int32)) + ((ushr (v0 - ((ushr v0 (1 : Int32)) &&& (1431655765 : Int32))) (2 : Int32)) &&& (858993459 : Int32))) + (ushr (((v0 - ((ushr v0 (1 : Int32)) &&& (1431655765 : Int32))) &&& (858993459 : Int32)) + ((ushr (v0 - ((ushr v0 (1 : Int32)) &&& (1431655765 : Int32))) (2 : Int32)) &&& (858993459 : Int32))) (4 : Int32))) &&& (252645135 : Int32)) + (ushr (((((v0 - ((ushr v0 (1 : Int32)) &&& (1431655765 : Int32))) &&& (858993459 : Int32)) + ((ushr (v0 - ((ushr v0 (1 : Int32)) &&& (1431655765 : Int32))) (2 : Int32)) &&& (858993459 : Int32))) + (ushr (((v0 - ((ushr v0 (1 : Int32)) &&& (1431655765 : Int32))) &&& (858993459 : Int32)) + ((ushr (v0 - ((ushr v0 (1 : Int32)) &&& (1431655765 : Int32))) (2 : Int32)) &&& (858993459 : Int32))) (4 : Int32))) &&& (252645135 : Int32)) (8 : Int32))) + (ushr ((((((v0 - ((ushr v0 (1 : Int32)) &&& (1431655765 : Int32))) &&& (858993459 : Int32)) + ((ushr (v0 - ((ushr v0 (1 : Int32)) &&& (1431655765 : Int32))) (2 : Int32)) &&& (858993459 : Int32))) + (ushr (((v0 - ((ushr v0 (1 : Int32)) &&& (1431655765 : Int32))) &&& (858993459 : Int32)) + ((ushr (v0 - ((ushr v0 (1 : Int32)) &&& (1431655765 : Int32))) (2 : Int32)) &&& (858993459 : Int32))) (4 : Int32))) &&& (252645135 : Int32)) + (ushr (((((v0 - ((ushr v0 (1 : Int32)) &&& (1431655765 : Int32))) &&& (858993459 : Int32)) + ((ushr (v0 - ((ushr v0 (1 : Int32)) &&& (1431655765 : Int32))) (2 : Int32)) &&& (858993459 : Int32))) + (ushr (((v0 - ((ushr v0 (1 : Int32)) &&& (1431655765 : Int32))) &&& (858993459 : Int32)) + ((ushr (v0 - ((ushr v0 (1 : Int32)) &&& (1431655765 : Int32))) (2 : Int32)) &&& (858993459 : Int32))) (4 : Int32))) &&& (252645135 : Int32)) (8 : Int32))) (16 : Int32))) &&& (63 : Int32)), g)
theorem tm8 {d : Nat} {v0 : Int32} {g : hG} (hF : Frz g) : TM wI d 8 [.int v0] g (q_Ji_bitCount v0 g) := by
  refine TM.ofE e8_0 (lv := [some (.int v0)]) rfl ?_
  unfold q_Ji_bitCount
  refine tr_ldI rfl (tr_ldI rfl (tr_pushI (tr_bin (v := (ushr v0 (1 : Int32))) rfl (tr_pushI (tr_bin (v := ((ushr v0 (1 : Int32)) &&& (1431655765 : Int32))) rfl (?_))))))
  refine tr_bin (v := (v0 - ((ushr v0 (1 : Int32)) &&& (1431655765 : Int32)))) rfl (tr_stI (Nat.le_of_ble_eq_true rfl) rfl rfl (tr_ldI rfl (tr_pushI (tr_bin (v := ((v0 - ((ushr v0 (1 : Int32)) &&& (1431655765 : Int32))) &&& (858993459 : Int32))) rfl (tr_ldI rfl (?_))))))
  refine tr_pushI (tr_bin (v := (ushr (v0 - ((ushr v0 (1 : Int32)) &&& (1431655765 : Int32))) (2 : Int32))) rfl (tr_pushI (tr_bin (v := ((ushr (v0 - ((ushr v0 (1 : Int32)) &&& (1431655765 : Int32))) (2 : Int32)) &&& (858993459 : Int32))) rfl (tr_bin (v := (((v0 - ((ushr v0 (1 : Int32)) &&& (1431655765 : Int32))) &&& (858993459 : Int32)) + ((ushr (v0 - ((ushr v0 (1 : Int32)) &&& (1431655765 : Int32))) (2 : Int32)) &&& (858993459 : Int32)))) rfl (tr_stI (Nat.le_of_ble_eq_true rfl) rfl rfl (?_))))))
  refine tr_ldI rfl (tr_ldI rfl (tr_pushI (tr_bin (v := (ushr (((v0 - ((ushr v0 (1 : Int32)) &&& (1431655765 : Int32))) &&& (858993459 : Int32)) + ((ushr (v0 - ((ushr v0 (1 : Int32)) &&& (1431655765 : Int32))) (2 : Int32)) &&& (858993459 : Int32))) (4 : Int32))) rfl (tr_bin (v := ((((v0 - ((ushr v0 (1 : Int32)) &&& (1431655765 : Int32))) &&& (858993459 : Int32)) + ((ushr (v0 - ((ushr v0 (1 : Int32)) &&& (1431655765 : Int32))) (2 : Int32)) &&& (858993459 : Int32))) + (ushr (((v0 - ((ushr v0 (1 : Int32)) &&& (1431655765 : Int32))) &&& (858993459 : Int32)) + ((ushr (v0 - ((ushr v0 (1 : Int32)) &&& (1431655765 : Int32))) (2 : Int32)) &&& (858993459 : Int32))) (4 : Int32)))) rfl (tr_pushI (?_))))))
  refine tr_bin (v := (((((v0 - ((ushr v0 (1 : Int32)) &&& (1431655765 : Int32))) &&& (858993459 : Int32)) + ((ushr (v0 - ((ushr v0 (1 : Int32)) &&& (1431655765 : Int32))) (2 : Int32)) &&& (858993459 : Int32))) + (ushr (((v0 - ((ushr v0 (1 : Int32)) &&& (1431655765 : Int32))) &&& (858993459 : Int32)) + ((ushr (v0 - ((ushr v0 (1 : Int32)) &&& (1431655765 : Int32))) (2 : Int32)) &&& (858993459 : Int32))) (4 : Int32))) &&& (252645135 : Int32))) rfl (tr_stI (Nat.le_of_ble_eq_true rfl) rfl rfl (tr_ldI rfl (tr_ldI rfl (tr_pushI (tr_bin (v := (ushr (((((v0 - ((ushr v0 (1 : Int32)) &&& (1431655765 : Int32))) &&& (858993459 : Int32)) + ((ushr (v0 - ((ushr v0 (1 : Int32)) &&& (1431655765 : Int32))) (2 : Int32)) &&& (858993459 : Int32))) + (ushr (((v0 - ((ushr v0 (1 : Int32)) &&& (1431655765 : Int32))) &&& (858993459 : Int32)) + ((ushr (v0 - ((ushr v0 (1 : Int32)) &&& (1431655765 : Int32))) (2 : Int32)) &&& (858993459 : Int32))) (4 : Int32))) &&& (252645135 : Int32)) (8 : Int32))) rfl (?_))))))
  refine tr_bin (v := ((((((v0 - ((ushr v0 (1 : Int32)) &&& (1431655765 : Int32))) &&& (858993459 : Int32)) + ((ushr (v0 - ((ushr v0 (1 : Int32)) &&& (1431655765 : Int32))) (2 : Int32)) &&& (858993459 : Int32))) + (ushr (((v0 - ((ushr v0 (1 : Int32)) &&& (1431655765 : Int32))) &&& (858993459 : Int32)) + ((ushr (v0 - ((ushr v0 (1 : Int32)) &&& (1431655765 : Int32))) (2 : Int32)) &&& (858993459 : Int32))) (4 : Int32))) &&& (252645135 : Int32)) + (ushr (((((v0 - ((ushr v0 (1 : Int32)) &&& (1431655765 : Int32))) &&& (858993459 : Int32)) + ((ushr (v0 - ((ushr v0 (1 : Int32)) &&& (1431655765 : Int32))) (2 : Int32)) &&& (858993459 : Int32))) + (ushr (((v0 - ((ushr v0 (1 : Int32)) &&& (1431655765 : Int32))) &&& (858993459 : Int32)) + ((ushr (v0 - ((ushr v0 (1 : Int32)) &&& (1431655765 : Int32))) (2 : Int32)) &&& (858993459 : Int32))) (4 : Int32))) &&& (252645135 : Int32)) (8 : Int32)))) rfl (tr_stI (Nat.le_of_ble_eq_true rfl) rfl rfl (tr_ldI rfl (tr_ldI rfl (tr_pushI (tr_bin (v := (ushr ((((((v0 - ((ushr v0 (1 : Int32)) &&& (1431655765 : Int32))) &&& (858993459 : Int32)) + ((ushr (v0 - ((ushr v0 (1 : Int32)) &&& (1431655765 : Int32))) (2 : Int32)) &&& (858993459 : Int32))) + (ushr (((v0 - ((ushr v0 (1 : Int32)) &&& (1431655765 : Int32))) &&& (858993459 : Int32)) + ((ushr (v0 - ((ushr v0 (1 : Int32)) &&& (1431655765 : Int32))) (2 : Int32)) &&& (858993459 : Int32))) (4 : Int32))) &&& (252645135 : Int32)) + (ushr (((((v0 - ((ushr v0 (1 : Int32)) &&& (1431655765 : Int32))) &&& (858993459 : Int32)) + ((ushr (v0 - ((ushr v0 (1 : Int32)) &&& (1431655765 : Int32))) (2 : Int32)) &&& (858993459 : Int32))) + (ushr (((v0 - ((ushr v0 (1 : Int32)) &&& (1431655765 : Int32))) &&& (858993459 : Int32)) + ((ushr (v0 - ((ushr v0 (1 : Int32)) &&& (1431655765 : Int32))) (2 : Int32)) &&& (858993459 : Int32))) (4 : Int32))) &&& (252645135 : Int32)) (8 : Int32))) (16 : Int32))) rfl (?_))))))
  refine tr_bin (v := (((((((v0 - ((ushr v0 (1 : Int32)) &&& (1431655765 : Int32))) &&& (858993459 : Int32)) + ((ushr (v0 - ((ushr v0 (1 : Int32)) &&& (1431655765 : Int32))) (2 : Int32)) &&& (858993459 : Int32))) + (ushr (((v0 - ((ushr v0 (1 : Int32)) &&& (1431655765 : Int32))) &&& (858993459 : Int32)) + ((ushr (v0 - ((ushr v0 (1 : Int32)) &&& (1431655765 : Int32))) (2 : Int32)) &&& (858993459 : Int32))) (4 : Int32))) &&& (252645135 : Int32)) + (ushr (((((v0 - ((ushr v0 (1 : Int32)) &&& (1431655765 : Int32))) &&& (858993459 : Int32)) + ((ushr (v0 - ((ushr v0 (1 : Int32)) &&& (1431655765 : Int32))) (2 : Int32)) &&& (858993459 : Int32))) + (ushr (((v0 - ((ushr v0 (1 : Int32)) &&& (1431655765 : Int32))) &&& (858993459 : Int32)) + ((ushr (v0 - ((ushr v0 (1 : Int32)) &&& (1431655765 : Int32))) (2 : Int32)) &&& (858993459 : Int32))) (4 : Int32))) &&& (252645135 : Int32)) (8 : Int32))) + (ushr ((((((v0 - ((ushr v0 (1 : Int32)) &&& (1431655765 : Int32))) &&& (858993459 : Int32)) + ((ushr (v0 - ((ushr v0 (1 : Int32)) &&& (1431655765 : Int32))) (2 : Int32)) &&& (858993459 : Int32))) + (ushr (((v0 - ((ushr v0 (1 : Int32)) &&& (1431655765 : Int32))) &&& (858993459 : Int32)) + ((ushr (v0 - ((ushr v0 (1 : Int32)) &&& (1431655765 : Int32))) (2 : Int32)) &&& (858993459 : Int32))) (4 : Int32))) &&& (252645135 : Int32)) + (ushr (((((v0 - ((ushr v0 (1 : Int32)) &&& (1431655765 : Int32))) &&& (858993459 : Int32)) + ((ushr (v0 - ((ushr v0 (1 : Int32)) &&& (1431655765 : Int32))) (2 : Int32)) &&& (858993459 : Int32))) + (ushr (((v0 - ((ushr v0 (1 : Int32)) &&& (1431655765 : Int32))) &&& (858993459 : Int32)) + ((ushr (v0 - ((ushr v0 (1 : Int32)) &&& (1431655765 : Int32))) (2 : Int32)) &&& (858993459 : Int32))) (4 : Int32))) &&& (252645135 : Int32)) (8 : Int32))) (16 : Int32)))) rfl (tr_stI (Nat.le_of_ble_eq_true rfl) rfl rfl (tr_ldI rfl (tr_pushI (tr_bin (v := ((((((((v0 - ((ushr v0 (1 : Int32)) &&& (1431655765 : Int32))) &&& (858993459 : Int32)) + ((ushr (v0 - ((ushr v0 (1 : Int32)) &&& (1431655765 : Int32))) (2 : Int32)) &&& (858993459 : Int32))) + (ushr (((v0 - ((ushr v0 (1 : Int32)) &&& (1431655765 : Int32))) &&& (858993459 : Int32)) + ((ushr (v0 - ((ushr v0 (1 : Int32)) &&& (1431655765 : Int32))) (2 : Int32)) &&& (858993459 : Int32))) (4 : Int32))) &&& (252645135 : Int32)) + (ushr (((((v0 - ((ushr v0 (1 : Int32)) &&& (1431655765 : Int32))) &&& (858993459 : Int32)) + ((ushr (v0 - ((ushr v0 (1 : Int32)) &&& (1431655765 : Int32))) (2 : Int32)) &&& (858993459 : Int32))) + (ushr (((v0 - ((ushr v0 (1 : Int32)) &&& (1431655765 : Int32))) &&& (858993459 : Int32)) + ((ushr (v0 - ((ushr v0 (1 : Int32)) &&& (1431655765 : Int32))) (2 : Int32)) &&& (858993459 : Int32))) (4 : Int32))) &&& (252645135 : Int32)) (8 : Int32))) + (ushr ((((((v0 - ((ushr v0 (1 : Int32)) &&& (1431655765 : Int32))) &&& (858993459 : Int32)) + ((ushr (v0 - ((ushr v0 (1 : Int32)) &&& (1431655765 : Int32))) (2 : Int32)) &&& (858993459 : Int32))) + (ushr (((v0 - ((ushr v0 (1 : Int32)) &&& (1431655765 : Int32))) &&& (858993459 : Int32)) + ((ushr (v0 - ((ushr v0 (1 : Int32)) &&& (1431655765 : Int32))) (2 : Int32)) &&& (858993459 : Int32))) (4 : Int32))) &&& (252645135 : Int32)) + (ushr (((((v0 - ((ushr v0 (1 : Int32)) &&& (1431655765 : Int32))) &&& (858993459 : Int32)) + ((ushr (v0 - ((ushr v0 (1 : Int32)) &&& (1431655765 : Int32))) (2 : Int32)) &&& (858993459 : Int32))) + (ushr (((v0 - ((ushr v0 (1 : Int32)) &&& (1431655765 : Int32))) &&& (858993459 : Int32)) + ((ushr (v0 - ((ushr v0 (1 : Int32)) &&& (1431655765 : Int32))) (2 : Int32)) &&& (858993459 : Int32))) (4 : Int32))) &&& (252645135 : Int32)) (8 : Int32))) (16 : Int32))) &&& (63 : Int32))) rfl (?_)))))
  exact tr_retI hF
-- Slope_fillFacts
abbrev t62_29 : List hOp := oAStI :: oLdA 0 :: oGetP 6 1 :: oPushI 3 :: oLdA 0 :: oGetP 6 5 :: oLdI 1 :: oInvV 19 2 1 :: oInvS 8 1 :: oAStI :: oLdA 0 :: oGetP 6 1 :: oPushI 4 :: oLdA 0 :: oGetP 6 5 :: oGetI 2 4 :: oAStI :: oLdA 0 :: oGetP 6 1 :: oPushI 5 :: oLdA 0 :: oGetP 6 4 :: oGetI 1 2 :: oAStI :: oLdA 0 :: oGetP 6 1 :: oPushI 6 :: oLdA 0 :: oGetP 6 4 :: oGetI 1 3 :: oAStI :: oRetV :: []
abbrev t62_24 : List hOp := oLdA 0 :: oGetP 6 5 :: oGetP 2 3 :: oLdI 1 :: oALdI 13 :: t62_29
abbrev t62_0 : List hOp := oLdA 0 :: oGetP 6 1 :: oPushI 0 :: oLdI 1 :: oPushI 5 :: oDvd (fun x y => x - x / y * y) :: oAStI :: oLdA 0 :: oGetP 6 1 :: oPushI 1 :: oLdI 1 :: oPushI 5 :: oDvd (fun x y => x / y) :: oAStI :: oLdA 0 :: oGetP 6 1 :: oPushI 2 :: oLdI 1 :: oLdA 0 :: oGetI 6 7 :: oInvS 162 2 :: oIf0 cEq 24 :: oPushI 9 :: oGoto 29 :: t62_24
theorem e62_0 : (opsOf 62).drop 0 = t62_0 := rfl
theorem e62_24 : (opsOf 62).drop 24 = t62_24 := rfl
theorem e62_29 : (opsOf 62).drop 29 = t62_29 := rfl
def q_Slope_fillFacts_29 (v1 : Int32) (w1 : Int32) (w2 : Int32) (g : hG) : hO Unit :=
  gd w1 7 <| wr (sI g 251 w1.toNatClampNeg w2) fun g10 => gp is_mom (gP g10 250 5) fun b12 => bnd (q_Mom_lettersOn b12 v1 g10) fun r15 g13 => bnd (q_Ji_bitCount r15 g13) fun r18 g16 => gd (3 : Int32) 7 <| wr (sI g16 251 (3 : Int32).toNatClampNeg r18) fun g19 => gp is_mom (gP g19 250 5) fun b21 => gd (4 : Int32) 7 <| wr (sI g19 251 (4 : Int32).toNatClampNeg (gI g19 b21 4)) fun g22 => gd (5 : Int32) 7 <| wr (sI g22 251 (5 : Int32).toNatClampNeg (gI g22 1 2)) fun g24 => gd (6 : Int32) 7 <| wr (sI g24 251 (6 : Int32).toNatClampNeg (gI g24 1 3)) fun g26 => some ((), g26)
theorem th62_29 {e : Nat} (he : 1 ≤ e + 1) {v1 : Int32} {w1 : Int32} {w2 : Int32} {g : hG} (hF : Frz g) : Tri wU (e + 1) 62 t62_29 [some (.ref 250), some (.int v1)] [.int w2, .int w1, .ref 251] g (q_Slope_fillFacts_29 v1 w1 w2 g) := by
  unfold q_Slope_fillFacts_29
  refine tr_astI hF (fk_251 hF) (fl_251 hF) (fun _ g10 _ hF11 => tr_ldA rfl (tr_getP (b := 251) (fk_250 hF11) (fp_250_1 hF11) (tr_pushI (tr_ldA rfl (tr_getM (fk_250 hF11) (fun b12 _ hb12 => ?_))))))
  refine tr_ldI rfl (?_)
  refine tr_invVI rfl rfl (mom_k hF11 hb12) (Nat.le_of_ble_eq_true rfl) (by decide) (Nat.le_of_ble_eq_true rfl) (tm19 hb12 hF11) (fun r15 g13 _ hF14 => ?_)
  refine tr_invSI rfl rfl (Nat.le_of_ble_eq_true rfl) (Nat.le_of_ble_eq_true rfl) (by decide) (Nat.le_of_ble_eq_true rfl) (tm8 hF14) (fun r18 g16 _ hF17 => ?_)
  refine tr_astI hF17 (fk_251 hF17) (fl_251 hF17) (fun _ g19 _ hF20 => tr_ldA rfl (tr_getP (b := 251) (fk_250 hF20) (fp_250_1 hF20) (tr_pushI (tr_ldA rfl (tr_getM (fk_250 hF20) (fun b21 _ hb21 => ?_))))))
  refine tr_getI (mom_k hF20 hb21) (tr_astI hF20 (fk_251 hF20) (fl_251 hF20) (fun _ g22 _ hF23 => tr_ldA rfl (tr_getP (b := 251) (fk_250 hF23) (fp_250_1 hF23) (tr_pushI (tr_ldA rfl (?_))))))
  refine tr_getP (b := 1) (fk_250 hF23) (fp_250_4 hF23) (tr_getI (fk_1 hF23) (tr_astI hF23 (fk_251 hF23) (fl_251 hF23) (fun _ g24 _ hF25 => tr_ldA rfl (tr_getP (b := 251) (fk_250 hF25) (fp_250_1 hF25) (tr_pushI (?_))))))
  refine tr_ldA rfl (tr_getP (b := 1) (fk_250 hF25) (fp_250_4 hF25) (tr_getI (fk_1 hF25) (tr_astI hF25 (fk_251 hF25) (fl_251 hF25) (fun _ g26 _ hF27 => ?_))))
  exact tr_retV hF27
def q_Slope_fillFacts (v1 : Int32) (g : hG) : hO Unit :=
  gd (0 : Int32) 7 <| wr (sI g 251 (0 : Int32).toNatClampNeg (irem v1 (5 : Int32))) fun g1 => gd (1 : Int32) 7 <| wr (sI g1 251 (1 : Int32).toNatClampNeg (v1 / (5 : Int32))) fun g3 => bnd (q_MP_isAmong v1 (gI g3 250 7) g3) fun r7 g5 => if r7 = (0 : Int32) then (gp is_mom (gP g5 250 5) fun b9 => gd v1 25 <| q_Slope_fillFacts_29 v1 (2 : Int32) (gI g5 (b9 + 4) v1.toNatClampNeg) g5) else (q_Slope_fillFacts_29 v1 (2 : Int32) (9 : Int32) g5)
theorem tm62 {d : Nat} {v1 : Int32} (hd : 1 ≤ d) {g : hG} (hF : Frz g) : TM wU d 62 [.ref 250, .int v1] g (q_Slope_fillFacts v1 g) := by
  obtain ⟨e, rfl⟩ : ∃ e, d = e + 1 := ⟨d - 1, by omega⟩
  have he := hd
  refine TM.ofE e62_0 (lv := [some (.ref 250), some (.int v1)]) rfl ?_
  unfold q_Slope_fillFacts
  refine tr_ldA rfl (tr_getP (b := 251) (fk_250 hF) (fp_250_1 hF) (tr_pushI (tr_ldI rfl (tr_pushI (tr_dvdl (v := (irem v1 (5 : Int32))) (by decide) rfl (?_))))))
  refine tr_astI hF (fk_251 hF) (fl_251 hF) (fun _ g1 _ hF2 => tr_ldA rfl (tr_getP (b := 251) (fk_250 hF2) (fp_250_1 hF2) (tr_pushI (tr_ldI rfl (tr_pushI (?_))))))
  refine tr_dvdl (v := (v1 / (5 : Int32))) (by decide) rfl (tr_astI hF2 (fk_251 hF2) (fl_251 hF2) (fun _ g3 _ hF4 => tr_ldA rfl (tr_getP (b := 251) (fk_250 hF4) (fp_250_1 hF4) (tr_pushI (tr_ldI rfl (?_))))))
  refine tr_ldA rfl (tr_getI (fk_250 hF4) (?_))
  refine tr_invSI rfl rfl (Nat.le_of_ble_eq_true rfl) (Nat.le_of_ble_eq_true rfl) (by decide) (Nat.le_of_ble_eq_true rfl) (tm162 hF4) (fun r7 g5 _ hF6 => ?_)
  refine tr_if0j e62_24 (c_eq _ _) (fun hc8 => ?_) (fun hc8 => ?_)
  · refine tr_ldA rfl (tr_getM (fk_250 hF6) (fun b9 _ hb9 => tr_getP (b := (b9 + 4)) (mom_k hF6 hb9) (mom_p3 hF6 hb9) (tr_ldI rfl (tr_aldI (mom_ak4 hF6 hb9) (mom_al4 hF6 hb9) (fun _ => ?_)))))
    exact th62_29 he hF6
  · refine tr_pushI (?_)
    refine tr_gotoE e62_29 (?_)
    exact th62_29 he hF6
-- Calc_joined
abbrev t11_78 : List hOp := oRetI :: []
abbrev t11_76 : List hOp := oLdL 5 :: oL2I :: t11_78
abbrev t11_74 : List hOp := oPushI (-2000000000) :: oGoto 78 :: t11_76
abbrev t11_66 : List hOp := oLdL 5 :: oPushL 1000000000 :: oLCmp :: oIf0 cGt 74 :: oLdL 5 :: oPushL (-1000000000) :: oLCmp :: oIf0 cGe 76 :: t11_74
abbrev t11_65 : List hOp := oRetI :: t11_66
abbrev t11_64 : List hOp := oPushI 0 :: t11_65
abbrev t11_59 : List hOp := oLdI 1 :: oLdI 2 :: oIf cNe 64 :: oPushI 1 :: oGoto 65 :: t11_64
abbrev t11_58 : List hOp := oRetI :: t11_59
abbrev t11_57 : List hOp := oPushI 0 :: t11_58
abbrev t11_52 : List hOp := oLdI 1 :: oLdI 2 :: oIf cLe 57 :: oPushI 1 :: oGoto 58 :: t11_57
abbrev t11_51 : List hOp := oRetI :: t11_52
abbrev t11_50 : List hOp := oPushI 0 :: t11_51
abbrev t11_45 : List hOp := oLdI 1 :: oLdI 2 :: oIf cGe 50 :: oPushI 1 :: oGoto 51 :: t11_50
abbrev t11_39 : List hOp := oLdL 3 :: oLdI 2 :: oI2L :: oLDvd (fun x y => x - x / y * y) :: oStL 5 :: oGoto 66 :: t11_45
abbrev t11_33 : List hOp := oLdL 3 :: oLdI 2 :: oI2L :: oLDvd (fun x y => x / y) :: oStL 5 :: oGoto 66 :: t11_39
abbrev t11_27 : List hOp := oLdL 3 :: oLdI 2 :: oI2L :: oLBin (fun x y => x * y) :: oStL 5 :: oGoto 66 :: t11_33
abbrev t11_21 : List hOp := oLdL 3 :: oLdI 2 :: oI2L :: oLBin (fun x y => x - y) :: oStL 5 :: oGoto 66 :: t11_27
abbrev t11_15 : List hOp := oLdL 3 :: oLdI 2 :: oI2L :: oLBin (fun x y => x + y) :: oStL 5 :: oGoto 66 :: t11_21
abbrev t11_10 : List hOp := oLdI 1 :: oI2L :: oStL 3 :: oLdI 0 :: oSw 2 [15, 21, 27, 33, 39, 45, 52] 59 :: t11_15
abbrev t11_6 : List hOp := oLdI 2 :: oIf0 cNe 10 :: oPushI (-2000000000) :: oRetI :: t11_10
abbrev t11_0 : List hOp := oLdI 0 :: oPushI 5 :: oIf cEq 6 :: oLdI 0 :: oPushI 6 :: oIf cNe 10 :: t11_6
theorem e11_0 : (opsOf 11).drop 0 = t11_0 := rfl
theorem e11_6 : (opsOf 11).drop 6 = t11_6 := rfl
theorem e11_10 : (opsOf 11).drop 10 = t11_10 := rfl
theorem e11_15 : (opsOf 11).drop 15 = t11_15 := rfl
theorem e11_21 : (opsOf 11).drop 21 = t11_21 := rfl
theorem e11_27 : (opsOf 11).drop 27 = t11_27 := rfl
theorem e11_33 : (opsOf 11).drop 33 = t11_33 := rfl
theorem e11_39 : (opsOf 11).drop 39 = t11_39 := rfl
theorem e11_45 : (opsOf 11).drop 45 = t11_45 := rfl
theorem e11_50 : (opsOf 11).drop 50 = t11_50 := rfl
theorem e11_51 : (opsOf 11).drop 51 = t11_51 := rfl
theorem e11_52 : (opsOf 11).drop 52 = t11_52 := rfl
theorem e11_57 : (opsOf 11).drop 57 = t11_57 := rfl
theorem e11_58 : (opsOf 11).drop 58 = t11_58 := rfl
theorem e11_59 : (opsOf 11).drop 59 = t11_59 := rfl
theorem e11_64 : (opsOf 11).drop 64 = t11_64 := rfl
theorem e11_65 : (opsOf 11).drop 65 = t11_65 := rfl
theorem e11_66 : (opsOf 11).drop 66 = t11_66 := rfl
theorem e11_74 : (opsOf 11).drop 74 = t11_74 := rfl
theorem e11_76 : (opsOf 11).drop 76 = t11_76 := rfl
theorem e11_78 : (opsOf 11).drop 78 = t11_78 := rfl
def q_Calc_joined_66 (v5 : Int64) (g : hG) : hO Int32 :=
  if (1000000000 : Int64) < v5 then (some ((-2000000000 : Int32), g)) else (if (-1000000000 : Int64) ≤ v5 then (some (v5.toInt32, g)) else (some ((-2000000000 : Int32), g)))
theorem th11_66 {d : Nat} {v5 : Int64} {u0 : Option Value} {u1 : Option Value} {u2 : Option Value} {u3 : Option Value} {u4 : Option Value} (hu2 : isL (some u2) = false) (hu4 : isL (some u4) = false) {g : hG} (hF : Frz g) : Tri wI d 11 t11_66 [u0, u1, u2, u3, u4, some (.long v5), none] [] g (q_Calc_joined_66 v5 g) := by
  unfold q_Calc_joined_66
  refine tr_ldL rfl (tr_pushL (tr_lcmp (?_)))
  refine tr_if0j e11_74 (l_gt _ _) (fun hc3 => ?_) (fun hc3 => ?_)
  · refine tr_pushI (?_)
    refine tr_gotoE e11_78 (?_)
    exact tr_retI hF
  · refine tr_ldL rfl (tr_pushL (tr_lcmp (?_)))
    refine tr_if0j e11_76 (l_ge _ _) (fun hc4 => ?_) (fun hc4 => ?_)
    · refine tr_ldL rfl (tr_l2i (?_))
      exact tr_retI hF
    · refine tr_pushI (?_)
      refine tr_gotoE e11_78 (?_)
      exact tr_retI hF
def q_Calc_joined_10 (v0 : Int32) (v1 : Int32) (v2 : Int32) (g : hG) : hO Int32 :=
  if v0 = (2 : Int32) then (q_Calc_joined_66 (v1.toInt64 + v2.toInt64) g) else if v0 = (3 : Int32) then (q_Calc_joined_66 (v1.toInt64 - v2.toInt64) g) else if v0 = (4 : Int32) then (q_Calc_joined_66 (v1.toInt64 * v2.toInt64) g) else if v0 = (5 : Int32) then (gzL v2.toInt64 <| q_Calc_joined_66 (v1.toInt64 / v2.toInt64) g) else if v0 = (6 : Int32) then (gzL v2.toInt64 <| q_Calc_joined_66 (lrem v1.toInt64 v2.toInt64) g) else if v0 = (7 : Int32) then (if v2 ≤ v1 then (some ((0 : Int32), g)) else (some ((1 : Int32), g))) else if v0 = (8 : Int32) then (if v1 ≤ v2 then (some ((0 : Int32), g)) else (some ((1 : Int32), g))) else (if v1 = v2 then (some ((1 : Int32), g)) else (some ((0 : Int32), g)))
theorem th11_10 {d : Nat} {v0 : Int32} {v1 : Int32} {v2 : Int32} {u3 : Option Value} {u4 : Option Value} {u5 : Option Value} {u6 : Option Value} (hu4 : isL (some u4) = false) {g : hG} (hF : Frz g) : Tri wI d 11 t11_10 [some (.int v0), some (.int v1), some (.int v2), u3, u4, u5, u6] [] g (q_Calc_joined_10 v0 v1 v2 g) := by
  unfold q_Calc_joined_10
  refine tr_ldI rfl (tr_i2l (tr_stL (Nat.le_of_ble_eq_true rfl) rfl rfl (tr_ldI rfl (?_))))
  refine tr_sw1E (c := (2 : Int32)) e11_15 rfl (fun _ => ?_) (fun _ => ?_)
  · refine tr_ldL rfl (tr_ldI rfl (tr_i2l (tr_lbin (v := (v1.toInt64 + v2.toInt64)) rfl (tr_stL (Nat.le_of_ble_eq_true rfl) rfl rfl (?_)))))
    refine tr_gotoE e11_66 (?_)
    exact th11_66 rfl rfl hF
  refine tr_sw1E (c := (3 : Int32)) e11_21 rfl (fun _ => ?_) (fun _ => ?_)
  · refine tr_ldL rfl (tr_ldI rfl (tr_i2l (tr_lbin (v := (v1.toInt64 - v2.toInt64)) rfl (tr_stL (Nat.le_of_ble_eq_true rfl) rfl rfl (?_)))))
    refine tr_gotoE e11_66 (?_)
    exact th11_66 rfl rfl hF
  refine tr_sw1E (c := (4 : Int32)) e11_27 rfl (fun _ => ?_) (fun _ => ?_)
  · refine tr_ldL rfl (tr_ldI rfl (tr_i2l (tr_lbin (v := (v1.toInt64 * v2.toInt64)) rfl (tr_stL (Nat.le_of_ble_eq_true rfl) rfl rfl (?_)))))
    refine tr_gotoE e11_66 (?_)
    exact th11_66 rfl rfl hF
  refine tr_sw1E (c := (5 : Int32)) e11_33 rfl (fun _ => ?_) (fun _ => ?_)
  · refine tr_ldL rfl (tr_ldI rfl (tr_i2l (tr_ldvd (v := (v1.toInt64 / v2.toInt64)) rfl (fun _ => tr_stL (Nat.le_of_ble_eq_true rfl) rfl rfl (?_)))))
    refine tr_gotoE e11_66 (?_)
    exact th11_66 rfl rfl hF
  refine tr_sw1E (c := (6 : Int32)) e11_39 rfl (fun _ => ?_) (fun _ => ?_)
  · refine tr_ldL rfl (tr_ldI rfl (tr_i2l (tr_ldvd (v := (lrem v1.toInt64 v2.toInt64)) rfl (fun _ => tr_stL (Nat.le_of_ble_eq_true rfl) rfl rfl (?_)))))
    refine tr_gotoE e11_66 (?_)
    exact th11_66 rfl rfl hF
  refine tr_sw1E (c := (7 : Int32)) e11_45 rfl (fun _ => ?_) (fun _ => ?_)
  · refine tr_ldI rfl (tr_ldI rfl (?_))
    refine tr_ifj e11_50 (c_ge _ _) (fun hc5 => ?_) (fun hc5 => ?_)
    · refine tr_pushI (?_)
      exact tr_retI hF
    · refine tr_pushI (?_)
      refine tr_gotoE e11_51 (?_)
      exact tr_retI hF
  refine tr_sw1E (c := (8 : Int32)) e11_52 rfl (fun _ => ?_) (fun _ => ?_)
  · refine tr_ldI rfl (tr_ldI rfl (?_))
    refine tr_ifj e11_57 (c_le _ _) (fun hc6 => ?_) (fun hc6 => ?_)
    · refine tr_pushI (?_)
      exact tr_retI hF
    · refine tr_pushI (?_)
      refine tr_gotoE e11_58 (?_)
      exact tr_retI hF
  refine tr_sw0E e11_59 ?_
  refine tr_ldI rfl (tr_ldI rfl (?_))
  refine tr_ifn e11_64 (c_ne _ _) (fun hc7 => ?_) (fun hc7 => ?_)
  · refine tr_pushI (?_)
    exact tr_retI hF
  · refine tr_pushI (?_)
    refine tr_gotoE e11_65 (?_)
    exact tr_retI hF
def q_Calc_joined_6 (v0 : Int32) (v1 : Int32) (v2 : Int32) (g : hG) : hO Int32 :=
  if v2 = (0 : Int32) then (some ((-2000000000 : Int32), g)) else (q_Calc_joined_10 v0 v1 v2 g)
theorem th11_6 {d : Nat} {v0 : Int32} {v1 : Int32} {v2 : Int32} {u3 : Option Value} {u4 : Option Value} {u5 : Option Value} {u6 : Option Value} (hu4 : isL (some u4) = false) {g : hG} (hF : Frz g) : Tri wI d 11 t11_6 [some (.int v0), some (.int v1), some (.int v2), u3, u4, u5, u6] [] g (q_Calc_joined_6 v0 v1 v2 g) := by
  unfold q_Calc_joined_6
  refine tr_ldI rfl (?_)
  refine tr_if0n e11_10 (c_ne _ _) (fun hc2 => ?_) (fun hc2 => ?_)
  · exact th11_10 hu4 hF
  · refine tr_pushI (?_)
    exact tr_retI hF
def q_Calc_joined (v0 : Int32) (v1 : Int32) (v2 : Int32) (g : hG) : hO Int32 :=
  if v0 = (5 : Int32) then (q_Calc_joined_6 v0 v1 v2 g) else (if v0 = (6 : Int32) then (q_Calc_joined_6 v0 v1 v2 g) else (q_Calc_joined_10 v0 v1 v2 g))
theorem tm11 {d : Nat} {v0 : Int32} {v1 : Int32} {v2 : Int32} {g : hG} (hF : Frz g) : TM wI d 11 [.int v0, .int v1, .int v2] g (q_Calc_joined v0 v1 v2 g) := by
  refine TM.ofE e11_0 (lv := [some (.int v0), some (.int v1), some (.int v2), none, none, none, none]) rfl ?_
  unfold q_Calc_joined
  refine tr_ldI rfl (tr_pushI (?_))
  refine tr_ifj e11_6 (c_eq _ _) (fun hc1 => ?_) (fun hc1 => ?_)
  · exact th11_6 rfl hF
  · refine tr_ldI rfl (tr_pushI (?_))
    refine tr_ifn e11_10 (c_ne _ _) (fun hc8 => ?_) (fun hc8 => ?_)
    · exact th11_10 rfl hF
    · exact th11_6 rfl hF
-- Calc_work
abbrev t10_146 : List hOp := oPushI (-2000000000) :: oRetI :: []
abbrev t10_144 : List hOp := oInc 5 1 :: oGoto 4 :: t10_146
abbrev t10_142 : List hOp := oPushI (-2000000000) :: oRetI :: t10_144
abbrev t10_119 : List hOp := oInc 4 (-1) :: oLdA 0 :: oGetP 0 0 :: oLdI 4 :: oLdI 6 :: oLdA 0 :: oGetP 0 0 :: oLdI 4 :: oALdI 13 :: oLdA 0 :: oGetP 0 0 :: oLdI 4 :: oPushI 1 :: oBin (fun x y => x + y) :: oALdI 13 :: oInvS 11 3 :: oAStI :: oLdA 0 :: oGetP 0 0 :: oLdI 4 :: oALdI 13 :: oPushI (-2000000000) :: oIf cNe 144 :: t10_142
abbrev t10_117 : List hOp := oPushI (-2000000000) :: oRetI :: t10_119
abbrev t10_114 : List hOp := oLdI 4 :: oPushI 1 :: oIf cGe 119 :: t10_117
abbrev t10_112 : List hOp := oInc 4 (-1) :: oGoto 144 :: t10_114
abbrev t10_104 : List hOp := oIf cNe 112 :: oLdI 5 :: oLdI 7 :: oPushI 1 :: oBin (fun x y => x - y) :: oMax :: oStI 5 :: oGoto 144 :: t10_112
abbrev t10_103 : List hOp := oPushI 0 :: t10_104
abbrev t10_94 : List hOp := oLdA 0 :: oGetP 0 0 :: oLdI 4 :: oALdI 13 :: oLdI 6 :: oPushI 11 :: oIf cNe 103 :: oPushI 1 :: oGoto 104 :: t10_103
abbrev t10_88 : List hOp := oLdI 6 :: oPushI 11 :: oIf cEq 94 :: oLdI 6 :: oPushI 12 :: oIf cNe 114 :: t10_94
abbrev t10_74 : List hOp := oLdI 6 :: oPushI 10 :: oIf cNe 88 :: oLdA 0 :: oGetP 0 0 :: oLdI 4 :: oPushI 1 :: oLdA 0 :: oGetP 0 0 :: oLdI 4 :: oALdI 13 :: oBin (fun x y => x - y) :: oAStI :: oGoto 144 :: t10_88
abbrev t10_69 : List hOp := oLdA 0 :: oGetP 0 0 :: oLdI 4 :: oALdI 13 :: oRetI :: t10_74
abbrev t10_66 : List hOp := oLdI 6 :: oPushI 13 :: oIf cNe 74 :: t10_69
abbrev t10_64 : List hOp := oPushI (-2000000000) :: oRetI :: t10_66
abbrev t10_62 : List hOp := oLdI 4 :: oIf0 cGe 66 :: t10_64
abbrev t10_60 : List hOp := oAStI :: oGoto 144 :: t10_62
abbrev t10_57 : List hOp := oLdA 3 :: oLdI 7 :: oALdI 13 :: t10_60
abbrev t10_50 : List hOp := oLdA 0 :: oGetP 0 0 :: oLdI 4 :: oLdI 6 :: oIf0 cNe 57 :: oLdI 7 :: oGoto 60 :: t10_57
abbrev t10_48 : List hOp := oPushI (-2000000000) :: oRetI :: t10_50
abbrev t10_39 : List hOp := oStI 8 :: oLdI 4 :: oPushI 50 :: oIf cGe 48 :: oLdI 6 :: oPushI 1 :: oIf cNe 50 :: oLdI 8 :: oIf0 cEq 50 :: t10_48
abbrev t10_38 : List hOp := oPushI 0 :: t10_39
abbrev t10_36 : List hOp := oPushI 1 :: oGoto 39 :: t10_38
abbrev t10_29 : List hOp := oInc 4 1 :: oLdI 7 :: oIf0 cLt 36 :: oLdI 7 :: oLdA 3 :: oALen :: oIf cLt 38 :: t10_36
abbrev t10_4 : List hOp := oLdI 5 :: oIf0 cLt 146 :: oLdI 5 :: oLdA 1 :: oGetI 9 1 :: oIf cGe 146 :: oLdA 1 :: oGetP 9 0 :: oLdI 5 :: oALdI 13 :: oPushI 15 :: oBin (fun x y => x &&& y) :: oStI 6 :: oLdA 1 :: oGetP 9 0 :: oLdI 5 :: oALdI 13 :: oPushI 4 :: oBin (fun x y => x >>> (y &&& 31)) :: oStI 7 :: oLdI 6 :: oIf0 cEq 29 :: oLdI 6 :: oPushI 1 :: oIf cNe 62 :: t10_29
abbrev t10_0 : List hOp := oPushI (-1) :: oStI 4 :: oLdI 2 :: oStI 5 :: t10_4
theorem e10_0 : (opsOf 10).drop 0 = t10_0 := rfl
theorem e10_4 : (opsOf 10).drop 4 = t10_4 := rfl
theorem e10_29 : (opsOf 10).drop 29 = t10_29 := rfl
theorem e10_36 : (opsOf 10).drop 36 = t10_36 := rfl
theorem e10_38 : (opsOf 10).drop 38 = t10_38 := rfl
theorem e10_39 : (opsOf 10).drop 39 = t10_39 := rfl
theorem e10_48 : (opsOf 10).drop 48 = t10_48 := rfl
theorem e10_50 : (opsOf 10).drop 50 = t10_50 := rfl
theorem e10_57 : (opsOf 10).drop 57 = t10_57 := rfl
theorem e10_60 : (opsOf 10).drop 60 = t10_60 := rfl
theorem e10_62 : (opsOf 10).drop 62 = t10_62 := rfl
theorem e10_66 : (opsOf 10).drop 66 = t10_66 := rfl
theorem e10_74 : (opsOf 10).drop 74 = t10_74 := rfl
theorem e10_88 : (opsOf 10).drop 88 = t10_88 := rfl
theorem e10_94 : (opsOf 10).drop 94 = t10_94 := rfl
theorem e10_103 : (opsOf 10).drop 103 = t10_103 := rfl
theorem e10_104 : (opsOf 10).drop 104 = t10_104 := rfl
theorem e10_112 : (opsOf 10).drop 112 = t10_112 := rfl
theorem e10_114 : (opsOf 10).drop 114 = t10_114 := rfl
theorem e10_119 : (opsOf 10).drop 119 = t10_119 := rfl
theorem e10_144 : (opsOf 10).drop 144 = t10_144 := rfl
theorem e10_146 : (opsOf 10).drop 146 = t10_146 := rfl
def q_Calc_work_60 (a1 : Nat) (a3 : Nat) (v4 : Int32) (v5 : Int32) (k4 : Int32 → Int32 → hG → hO Int32) (w1 : Int32) (w2 : Int32) (g : hG) : hO Int32 :=
  gd w1 50 <| wr (sI g 248 w1.toNatClampNeg w2) fun g8 => k4 v4 (v5 + (1 : Int32)) g8
theorem th10_60 {e : Nat} (he : 1 ≤ e + 1) {a1 : Nat} {a3 : Nat} {v4 : Int32} {v5 : Int32} {k4 : Int32 → Int32 → hG → hO Int32} {w1 : Int32} {w2 : Int32} {u2 : Option Value} {u6 : Option Value} {u7 : Option Value} {u8 : Option Value} (h1 : is_txt a1 = true) (h3 : is_ia a3 = true) (hk4 : ∀ (x4 : Int32) (x5 : Int32) (y6 : Option Value) (y7 : Option Value) (y8 : Option Value) (_ : isL (some y6) = false) (_ : isL (some y7) = false) (g : hG), Frz g → Tri wI (e + 1) 10 t10_4 [some (.ref 247), some (.ref a1), u2, some (.ref a3), some (.int x4), some (.int x5), y6, y7, y8] [] g (k4 x4 x5 g)) (hu6 : isL (some u6) = false) (hu7 : isL (some u7) = false) {g : hG} (hF : Frz g) : Tri wI (e + 1) 10 t10_60 [some (.ref 247), some (.ref a1), u2, some (.ref a3), some (.int v4), some (.int v5), u6, u7, u8] [.int w2, .int w1, .ref 248] g (q_Calc_work_60 a1 a3 v4 v5 k4 w1 w2 g) := by
  unfold q_Calc_work_60
  refine tr_astI hF (fk_248 hF) (fl_248 hF) (fun _ g8 _ hF9 => ?_)
  refine tr_gotoE e10_144 (?_)
  refine tr_inc rfl rfl rfl (?_)
  refine tr_gotoE e10_4 (?_)
  exact hk4 _ _ _ _ _ hu6 hu7 _ hF9
def q_Calc_work_50 (a1 : Nat) (a3 : Nat) (v4 : Int32) (v5 : Int32) (v6 : Int32) (v7 : Int32) (k4 : Int32 → Int32 → hG → hO Int32) (g : hG) : hO Int32 :=
  if v6 = (0 : Int32) then (q_Calc_work_60 a1 a3 v4 v5 k4 v4 v7 g) else (gd v7 (iaLen a3) <| q_Calc_work_60 a1 a3 v4 v5 k4 v4 (gI g a3 v7.toNatClampNeg) g)
theorem th10_50 {e : Nat} (he : 1 ≤ e + 1) {a1 : Nat} {a3 : Nat} {v4 : Int32} {v5 : Int32} {v6 : Int32} {v7 : Int32} {k4 : Int32 → Int32 → hG → hO Int32} {u2 : Option Value} {u8 : Option Value} (h1 : is_txt a1 = true) (h3 : is_ia a3 = true) (hk4 : ∀ (x4 : Int32) (x5 : Int32) (y6 : Option Value) (y7 : Option Value) (y8 : Option Value) (_ : isL (some y6) = false) (_ : isL (some y7) = false) (g : hG), Frz g → Tri wI (e + 1) 10 t10_4 [some (.ref 247), some (.ref a1), u2, some (.ref a3), some (.int x4), some (.int x5), y6, y7, y8] [] g (k4 x4 x5 g)) {g : hG} (hF : Frz g) : Tri wI (e + 1) 10 t10_50 [some (.ref 247), some (.ref a1), u2, some (.ref a3), some (.int v4), some (.int v5), some (.int v6), some (.int v7), u8] [] g (q_Calc_work_50 a1 a3 v4 v5 v6 v7 k4 g) := by
  unfold q_Calc_work_50
  refine tr_ldA rfl (tr_getP (b := 248) (fk_247 hF) (fp_247_0 hF) (tr_ldI rfl (tr_ldI rfl (?_))))
  refine tr_if0n e10_57 (c_ne _ _) (fun hc7 => ?_) (fun hc7 => ?_)
  · refine tr_ldA rfl (tr_ldI rfl (tr_aldI (ia_k hF h3) (ia_l hF h3) (fun _ => ?_)))
    exact th10_60 he h1 h3 hk4 rfl rfl hF
  · refine tr_ldI rfl (?_)
    refine tr_gotoE e10_60 (?_)
    exact th10_60 he h1 h3 hk4 rfl rfl hF
def q_Calc_work_39 (a1 : Nat) (a3 : Nat) (v4 : Int32) (v5 : Int32) (v6 : Int32) (v7 : Int32) (k48 : hG → hO Int32) (k4 : Int32 → Int32 → hG → hO Int32) (w0 : Int32) (g : hG) : hO Int32 :=
  if (50 : Int32) ≤ v4 then (k48 g) else (if v6 = (1 : Int32) then (if w0 = (0 : Int32) then (q_Calc_work_50 a1 a3 v4 v5 v6 v7 k4 g) else (k48 g)) else (q_Calc_work_50 a1 a3 v4 v5 v6 v7 k4 g))
theorem th10_39 {e : Nat} (he : 1 ≤ e + 1) {a1 : Nat} {a3 : Nat} {v4 : Int32} {v5 : Int32} {v6 : Int32} {v7 : Int32} {k48 : hG → hO Int32} {k4 : Int32 → Int32 → hG → hO Int32} {w0 : Int32} {u2 : Option Value} {u8 : Option Value} (h1 : is_txt a1 = true) (h3 : is_ia a3 = true) (hk48 : ∀ (y4 : Option Value) (y5 : Option Value) (y6 : Option Value) (y7 : Option Value) (y8 : Option Value) (_ : isL (some y4) = false) (_ : isL (some y5) = false) (_ : isL (some y6) = false) (_ : isL (some y7) = false) (g : hG), Frz g → Tri wI (e + 1) 10 t10_48 [some (.ref 247), some (.ref a1), u2, some (.ref a3), y4, y5, y6, y7, y8] [] g (k48 g)) (hk4 : ∀ (x4 : Int32) (x5 : Int32) (y6 : Option Value) (y7 : Option Value) (y8 : Option Value) (_ : isL (some y6) = false) (_ : isL (some y7) = false) (g : hG), Frz g → Tri wI (e + 1) 10 t10_4 [some (.ref 247), some (.ref a1), u2, some (.ref a3), some (.int x4), some (.int x5), y6, y7, y8] [] g (k4 x4 x5 g)) {g : hG} (hF : Frz g) : Tri wI (e + 1) 10 t10_39 [some (.ref 247), some (.ref a1), u2, some (.ref a3), some (.int v4), some (.int v5), some (.int v6), some (.int v7), u8] [.int w0] g (q_Calc_work_39 a1 a3 v4 v5 v6 v7 k48 k4 w0 g) := by
  unfold q_Calc_work_39
  refine tr_stI (Nat.le_of_ble_eq_true rfl) rfl rfl (tr_ldI rfl (tr_pushI (?_)))
  refine tr_ifj e10_48 (c_ge _ _) (fun hc5 => ?_) (fun hc5 => ?_)
  · exact hk48 _ _ _ _ _ rfl rfl rfl rfl _ hF
  · refine tr_ldI rfl (tr_pushI (?_))
    refine tr_ifn e10_50 (c_ne _ _) (fun hc6 => ?_) (fun hc6 => ?_)
    · exact th10_50 he h1 h3 hk4 hF
    · refine tr_ldI rfl (?_)
      refine tr_if0j e10_50 (c_eq _ _) (fun hc10 => ?_) (fun hc10 => ?_)
      · exact th10_50 he h1 h3 hk4 hF
      · exact hk48 _ _ _ _ _ rfl rfl rfl rfl _ hF
def q_Calc_work_29 (a1 : Nat) (a3 : Nat) (v4 : Int32) (v5 : Int32) (v6 : Int32) (v7 : Int32) (k48 : hG → hO Int32) (k4 : Int32 → Int32 → hG → hO Int32) (g : hG) : hO Int32 :=
  if v7 < (0 : Int32) then (q_Calc_work_39 a1 a3 (v4 + (1 : Int32)) v5 v6 v7 k48 k4 (1 : Int32) g) else (q_Calc_work_39 a1 a3 (v4 + (1 : Int32)) v5 v6 v7 k48 k4 (if v7 < (Int32.ofNat (iaLen a3)) then (0 : Int32) else (1 : Int32)) g)
theorem th10_29 {e : Nat} (he : 1 ≤ e + 1) {a1 : Nat} {a3 : Nat} {v4 : Int32} {v5 : Int32} {v6 : Int32} {v7 : Int32} {k48 : hG → hO Int32} {k4 : Int32 → Int32 → hG → hO Int32} {u2 : Option Value} {u8 : Option Value} (h1 : is_txt a1 = true) (h3 : is_ia a3 = true) (hk48 : ∀ (y4 : Option Value) (y5 : Option Value) (y6 : Option Value) (y7 : Option Value) (y8 : Option Value) (_ : isL (some y4) = false) (_ : isL (some y5) = false) (_ : isL (some y6) = false) (_ : isL (some y7) = false) (g : hG), Frz g → Tri wI (e + 1) 10 t10_48 [some (.ref 247), some (.ref a1), u2, some (.ref a3), y4, y5, y6, y7, y8] [] g (k48 g)) (hk4 : ∀ (x4 : Int32) (x5 : Int32) (y6 : Option Value) (y7 : Option Value) (y8 : Option Value) (_ : isL (some y6) = false) (_ : isL (some y7) = false) (g : hG), Frz g → Tri wI (e + 1) 10 t10_4 [some (.ref 247), some (.ref a1), u2, some (.ref a3), some (.int x4), some (.int x5), y6, y7, y8] [] g (k4 x4 x5 g)) {g : hG} (hF : Frz g) : Tri wI (e + 1) 10 t10_29 [some (.ref 247), some (.ref a1), u2, some (.ref a3), some (.int v4), some (.int v5), some (.int v6), some (.int v7), u8] [] g (q_Calc_work_29 a1 a3 v4 v5 v6 v7 k48 k4 g) := by
  unfold q_Calc_work_29
  refine tr_inc rfl rfl rfl (tr_ldI rfl (?_))
  refine tr_if0j e10_36 (c_lt _ _) (fun hc4 => ?_) (fun hc4 => ?_)
  · refine tr_pushI (?_)
    refine tr_gotoE e10_39 (?_)
    exact th10_39 he h1 h3 hk48 hk4 hF
  · refine tr_ldI rfl (tr_ldA rfl (tr_alen (ia_k hF h3) (by rw [(ia_l hF h3)] <;> rfl) (?_)))
    refine tr_ifcE e10_38 (c_lt _ _) (fun hc12 => ?_) (fun hc12 => ?_)
    · rw [if_pos hc12]
      refine tr_pushI (?_)
      exact th10_39 he h1 h3 hk48 hk4 hF
    · rw [if_neg hc12]
      refine tr_pushI (?_)
      refine tr_gotoE e10_39 (?_)
      exact th10_39 he h1 h3 hk48 hk4 hF
def q_Calc_work_104 (a1 : Nat) (a3 : Nat) (v4 : Int32) (v5 : Int32) (v7 : Int32) (k4 : Int32 → Int32 → hG → hO Int32) (w0 : Int32) (w1 : Int32) (g : hG) : hO Int32 :=
  if w0 = w1 then (k4 v4 ((imax v5 (v7 - (1 : Int32))) + (1 : Int32)) g) else (k4 (v4 + (-1 : Int32)) (v5 + (1 : Int32)) g)
theorem th10_104 {e : Nat} (he : 1 ≤ e + 1) {a1 : Nat} {a3 : Nat} {v4 : Int32} {v5 : Int32} {v7 : Int32} {k4 : Int32 → Int32 → hG → hO Int32} {w0 : Int32} {w1 : Int32} {u2 : Option Value} {u6 : Option Value} {u8 : Option Value} (h1 : is_txt a1 = true) (h3 : is_ia a3 = true) (hk4 : ∀ (x4 : Int32) (x5 : Int32) (y6 : Option Value) (y7 : Option Value) (y8 : Option Value) (_ : isL (some y6) = false) (_ : isL (some y7) = false) (g : hG), Frz g → Tri wI (e + 1) 10 t10_4 [some (.ref 247), some (.ref a1), u2, some (.ref a3), some (.int x4), some (.int x5), y6, y7, y8] [] g (k4 x4 x5 g)) (hu6 : isL (some u6) = false) {g : hG} (hF : Frz g) : Tri wI (e + 1) 10 t10_104 [some (.ref 247), some (.ref a1), u2, some (.ref a3), some (.int v4), some (.int v5), u6, some (.int v7), u8] [.int w1, .int w0] g (q_Calc_work_104 a1 a3 v4 v5 v7 k4 w0 w1 g) := by
  unfold q_Calc_work_104
  refine tr_ifn e10_112 (c_ne _ _) (fun hc19 => ?_) (fun hc19 => ?_)
  · refine tr_inc rfl rfl rfl (?_)
    refine tr_gotoE e10_144 (?_)
    refine tr_inc rfl rfl rfl (?_)
    refine tr_gotoE e10_4 (?_)
    exact hk4 _ _ _ _ _ hu6 rfl _ hF
  · refine tr_ldI rfl (tr_ldI rfl (tr_pushI (tr_bin (v := (v7 - (1 : Int32))) rfl (tr_max (Nat.le_of_ble_eq_true rfl) (tr_stI (Nat.le_of_ble_eq_true rfl) rfl rfl (?_))))))
    refine tr_gotoE e10_144 (?_)
    refine tr_inc rfl rfl rfl (?_)
    refine tr_gotoE e10_4 (?_)
    exact hk4 _ _ _ _ _ hu6 rfl _ hF
def q_Calc_work_94 (a1 : Nat) (a3 : Nat) (v4 : Int32) (v5 : Int32) (v6 : Int32) (v7 : Int32) (k4 : Int32 → Int32 → hG → hO Int32) (g : hG) : hO Int32 :=
  gd v4 50 <| q_Calc_work_104 a1 a3 v4 v5 v7 k4 (gI g 248 v4.toNatClampNeg) (if v6 = (11 : Int32) then (1 : Int32) else (0 : Int32)) g
theorem th10_94 {e : Nat} (he : 1 ≤ e + 1) {a1 : Nat} {a3 : Nat} {v4 : Int32} {v5 : Int32} {v6 : Int32} {v7 : Int32} {k4 : Int32 → Int32 → hG → hO Int32} {u2 : Option Value} {u8 : Option Value} (h1 : is_txt a1 = true) (h3 : is_ia a3 = true) (hk4 : ∀ (x4 : Int32) (x5 : Int32) (y6 : Option Value) (y7 : Option Value) (y8 : Option Value) (_ : isL (some y6) = false) (_ : isL (some y7) = false) (g : hG), Frz g → Tri wI (e + 1) 10 t10_4 [some (.ref 247), some (.ref a1), u2, some (.ref a3), some (.int x4), some (.int x5), y6, y7, y8] [] g (k4 x4 x5 g)) {g : hG} (hF : Frz g) : Tri wI (e + 1) 10 t10_94 [some (.ref 247), some (.ref a1), u2, some (.ref a3), some (.int v4), some (.int v5), some (.int v6), some (.int v7), u8] [] g (q_Calc_work_94 a1 a3 v4 v5 v6 v7 k4 g) := by
  unfold q_Calc_work_94
  refine tr_ldA rfl (tr_getP (b := 248) (fk_247 hF) (fp_247_0 hF) (tr_ldI rfl (tr_aldI (fk_248 hF) (fl_248 hF) (fun _ => tr_ldI rfl (tr_pushI (?_))))))
  refine tr_ifcE e10_103 (c_ne _ _) (fun hc20 => ?_) (fun hc20 => ?_)
  · rw [if_neg hc20]
    refine tr_pushI (?_)
    exact th10_104 he h1 h3 hk4 rfl hF
  · rw [if_pos (Decidable.not_not.mp hc20)]
    refine tr_pushI (?_)
    refine tr_gotoE e10_104 (?_)
    exact th10_104 he h1 h3 hk4 rfl hF
def q_Calc_work_4 (a1 : Nat) (a3 : Nat) (k146 : hG → hO Int32) (k48 : hG → hO Int32) (k4 : Int32 → Int32 → hG → hO Int32) (k69 : Int32 → hG → hO Int32) (v4 : Int32) (v5 : Int32) (g : hG) : hO Int32 :=
  if v5 < (0 : Int32) then (k146 g) else (if (gI g a1 1) ≤ v5 then (k146 g) else (gd v5 402 <| gd v5 402 <| if ((gI g (a1 + 1) v5.toNatClampNeg) &&& (15 : Int32)) = (0 : Int32) then (q_Calc_work_29 a1 a3 v4 v5 ((gI g (a1 + 1) v5.toNatClampNeg) &&& (15 : Int32)) (shr (gI g (a1 + 1) v5.toNatClampNeg) (4 : Int32)) k48 k4 g) else (if ((gI g (a1 + 1) v5.toNatClampNeg) &&& (15 : Int32)) = (1 : Int32) then (q_Calc_work_29 a1 a3 v4 v5 ((gI g (a1 + 1) v5.toNatClampNeg) &&& (15 : Int32)) (shr (gI g (a1 + 1) v5.toNatClampNeg) (4 : Int32)) k48 k4 g) else (if (0 : Int32) ≤ v4 then (if ((gI g (a1 + 1) v5.toNatClampNeg) &&& (15 : Int32)) = (13 : Int32) then (k69 v4 g) else (if ((gI g (a1 + 1) v5.toNatClampNeg) &&& (15 : Int32)) = (10 : Int32) then (gd v4 50 <| gd v4 50 <| wr (sI g 248 v4.toNatClampNeg ((1 : Int32) - (gI g 248 v4.toNatClampNeg))) fun g29 => k4 v4 (v5 + (1 : Int32)) g29) else (if ((gI g (a1 + 1) v5.toNatClampNeg) &&& (15 : Int32)) = (11 : Int32) then (q_Calc_work_94 a1 a3 v4 v5 ((gI g (a1 + 1) v5.toNatClampNeg) &&& (15 : Int32)) (shr (gI g (a1 + 1) v5.toNatClampNeg) (4 : Int32)) k4 g) else (if ((gI g (a1 + 1) v5.toNatClampNeg) &&& (15 : Int32)) = (12 : Int32) then (q_Calc_work_94 a1 a3 v4 v5 ((gI g (a1 + 1) v5.toNatClampNeg) &&& (15 : Int32)) (shr (gI g (a1 + 1) v5.toNatClampNeg) (4 : Int32)) k4 g) else (if (1 : Int32) ≤ v4 then (gd (v4 + (-1 : Int32)) 50 <| gd ((v4 + (-1 : Int32)) + (1 : Int32)) 50 <| bnd (q_Calc_joined ((gI g (a1 + 1) v5.toNatClampNeg) &&& (15 : Int32)) (gI g 248 (v4 + (-1 : Int32)).toNatClampNeg) (gI g 248 ((v4 + (-1 : Int32)) + (1 : Int32)).toNatClampNeg) g) fun r25 g23 => gd (v4 + (-1 : Int32)) 50 <| wr (sI g23 248 (v4 + (-1 : Int32)).toNatClampNeg r25) fun g26 => gd (v4 + (-1 : Int32)) 50 <| if (gI g26 248 (v4 + (-1 : Int32)).toNatClampNeg) = (-2000000000 : Int32) then (some ((-2000000000 : Int32), g26)) else (k4 (v4 + (-1 : Int32)) (v5 + (1 : Int32)) g26)) else (some ((-2000000000 : Int32), g))))))) else (some ((-2000000000 : Int32), g))))))
def q_Calc_work_4L (a1 : Nat) (a3 : Nat) (k146 : hG → hO Int32) (k48 : hG → hO Int32) (k69 : Int32 → hG → hO Int32) : Nat → Int32 → Int32 → hG → hO Int32
  | 0 => fun _ _ _ => none
  | n + 1 => fun v4 v5 g => q_Calc_work_4 a1 a3 k146 k48 (q_Calc_work_4L a1 a3 k146 k48 k69 n) k69 v4 v5 g
theorem q_Calc_work_4L_s (a1 : Nat) (a3 : Nat) (k146 : hG → hO Int32) (k48 : hG → hO Int32) (k69 : Int32 → hG → hO Int32) (n : Nat) (v4 : Int32) (v5 : Int32) (g : hG) : q_Calc_work_4L a1 a3 k146 k48 k69 (n + 1) v4 v5 g = q_Calc_work_4 a1 a3 k146 k48 (q_Calc_work_4L a1 a3 k146 k48 k69 n) k69 v4 v5 g := rfl
theorem th10_4 {e : Nat} (he : 1 ≤ e + 1) {a1 : Nat} {a3 : Nat} {k146 : hG → hO Int32} {k48 : hG → hO Int32} {k4 : Int32 → Int32 → hG → hO Int32} {k69 : Int32 → hG → hO Int32} {v4 : Int32} {v5 : Int32} {u2 : Option Value} {u6 : Option Value} {u7 : Option Value} {u8 : Option Value} (h1 : is_txt a1 = true) (h3 : is_ia a3 = true) (hk146 : ∀ (y4 : Option Value) (y5 : Option Value) (y6 : Option Value) (y7 : Option Value) (y8 : Option Value) (_ : isL (some y4) = false) (_ : isL (some y5) = false) (_ : isL (some y6) = false) (_ : isL (some y7) = false) (g : hG), Frz g → Tri wI (e + 1) 10 t10_146 [some (.ref 247), some (.ref a1), u2, some (.ref a3), y4, y5, y6, y7, y8] [] g (k146 g)) (hk48 : ∀ (y4 : Option Value) (y5 : Option Value) (y6 : Option Value) (y7 : Option Value) (y8 : Option Value) (_ : isL (some y4) = false) (_ : isL (some y5) = false) (_ : isL (some y6) = false) (_ : isL (some y7) = false) (g : hG), Frz g → Tri wI (e + 1) 10 t10_48 [some (.ref 247), some (.ref a1), u2, some (.ref a3), y4, y5, y6, y7, y8] [] g (k48 g)) (hk4 : ∀ (x4 : Int32) (x5 : Int32) (y6 : Option Value) (y7 : Option Value) (y8 : Option Value) (_ : isL (some y6) = false) (_ : isL (some y7) = false) (g : hG), Frz g → Tri wI (e + 1) 10 t10_4 [some (.ref 247), some (.ref a1), u2, some (.ref a3), some (.int x4), some (.int x5), y6, y7, y8] [] g (k4 x4 x5 g)) (hk69 : ∀ (x4 : Int32) (y5 : Option Value) (y6 : Option Value) (y7 : Option Value) (y8 : Option Value) (_ : isL (some y5) = false) (_ : isL (some y6) = false) (_ : isL (some y7) = false) (g : hG), Frz g → Tri wI (e + 1) 10 t10_69 [some (.ref 247), some (.ref a1), u2, some (.ref a3), some (.int x4), y5, y6, y7, y8] [] g (k69 x4 g)) (hu6 : isL (some u6) = false) (hu7 : isL (some u7) = false) {g : hG} (hF : Frz g) : Tri wI (e + 1) 10 t10_4 [some (.ref 247), some (.ref a1), u2, some (.ref a3), some (.int v4), some (.int v5), u6, u7, u8] [] g (q_Calc_work_4 a1 a3 k146 k48 k4 k69 v4 v5 g) := by
  unfold q_Calc_work_4
  refine tr_ldI rfl (?_)
  refine tr_if0j e10_146 (c_lt _ _) (fun hc1 => ?_) (fun hc1 => ?_)
  · exact hk146 _ _ _ _ _ rfl rfl hu6 hu7 _ hF
  · refine tr_ldI rfl (tr_ldA rfl (tr_getI (txt_k hF h1) (?_)))
    refine tr_ifj e10_146 (c_ge _ _) (fun hc2 => ?_) (fun hc2 => ?_)
    · exact hk146 _ _ _ _ _ rfl rfl hu6 hu7 _ hF
    · refine tr_ldA rfl (tr_getP (b := (a1 + 1)) (txt_k hF h1) (txt_p0 hF h1) (tr_ldI rfl (tr_aldI (txt_ak1 hF h1) (txt_al1 hF h1) (fun _ => tr_pushI (tr_bin (v := ((gI g (a1 + 1) v5.toNatClampNeg) &&& (15 : Int32))) rfl (?_))))))
      refine tr_stI (Nat.le_of_ble_eq_true rfl) rfl rfl (tr_ldA rfl (tr_getP (b := (a1 + 1)) (txt_k hF h1) (txt_p0 hF h1) (tr_ldI rfl (tr_aldI (txt_ak1 hF h1) (txt_al1 hF h1) (fun _ => tr_pushI (?_))))))
      refine tr_bin (v := (shr (gI g (a1 + 1) v5.toNatClampNeg) (4 : Int32))) rfl (tr_stI (Nat.le_of_ble_eq_true rfl) rfl rfl (tr_ldI rfl (?_)))
      refine tr_if0j e10_29 (c_eq _ _) (fun hc3 => ?_) (fun hc3 => ?_)
      · exact th10_29 he h1 h3 hk48 hk4 hF
      · refine tr_ldI rfl (tr_pushI (?_))
        refine tr_ifn e10_62 (c_ne _ _) (fun hc13 => ?_) (fun hc13 => ?_)
        · refine tr_ldI rfl (?_)
          refine tr_if0j e10_66 (c_ge _ _) (fun hc14 => ?_) (fun hc14 => ?_)
          · refine tr_ldI rfl (tr_pushI (?_))
            refine tr_ifn e10_74 (c_ne _ _) (fun hc15 => ?_) (fun hc15 => ?_)
            · refine tr_ldI rfl (tr_pushI (?_))
              refine tr_ifn e10_88 (c_ne _ _) (fun hc16 => ?_) (fun hc16 => ?_)
              · refine tr_ldI rfl (tr_pushI (?_))
                refine tr_ifj e10_94 (c_eq _ _) (fun hc17 => ?_) (fun hc17 => ?_)
                · exact th10_94 he h1 h3 hk4 hF
                · refine tr_ldI rfl (tr_pushI (?_))
                  refine tr_ifn e10_114 (c_ne _ _) (fun hc21 => ?_) (fun hc21 => ?_)
                  · refine tr_ldI rfl (tr_pushI (?_))
                    refine tr_ifj e10_119 (c_ge _ _) (fun hc22 => ?_) (fun hc22 => ?_)
                    · refine tr_inc rfl rfl rfl (tr_ldA rfl (tr_getP (b := 248) (fk_247 hF) (fp_247_0 hF) (tr_ldI rfl (tr_ldI rfl (tr_ldA rfl (?_))))))
                      refine tr_getP (b := 248) (fk_247 hF) (fp_247_0 hF) (tr_ldI rfl (tr_aldI (fk_248 hF) (fl_248 hF) (fun _ => tr_ldA rfl (tr_getP (b := 248) (fk_247 hF) (fp_247_0 hF) (tr_ldI rfl (?_))))))
                      refine tr_pushI (tr_bin (v := ((v4 + (-1 : Int32)) + (1 : Int32))) rfl (tr_aldI (fk_248 hF) (fl_248 hF) (fun _ => ?_)))
                      refine tr_invSI rfl rfl (Nat.le_of_ble_eq_true rfl) (Nat.le_of_ble_eq_true rfl) (by decide) (Nat.le_of_ble_eq_true rfl) (tm11 hF) (fun r25 g23 _ hF24 => ?_)
                      refine tr_astI hF24 (fk_248 hF24) (fl_248 hF24) (fun _ g26 _ hF27 => tr_ldA rfl (tr_getP (b := 248) (fk_247 hF27) (fp_247_0 hF27) (tr_ldI rfl (tr_aldI (fk_248 hF27) (fl_248 hF27) (fun _ => tr_pushI (?_))))))
                      refine tr_ifn e10_144 (c_ne _ _) (fun hc28 => ?_) (fun hc28 => ?_)
                      · refine tr_inc rfl rfl rfl (?_)
                        refine tr_gotoE e10_4 (?_)
                        exact hk4 _ _ _ _ _ rfl rfl _ hF27
                      · refine tr_pushI (?_)
                        exact tr_retI hF27
                    · refine tr_pushI (?_)
                      exact tr_retI hF
                  · exact th10_94 he h1 h3 hk4 hF
              · refine tr_ldA rfl (tr_getP (b := 248) (fk_247 hF) (fp_247_0 hF) (tr_ldI rfl (tr_pushI (tr_ldA rfl (tr_getP (b := 248) (fk_247 hF) (fp_247_0 hF) (?_))))))
                refine tr_ldI rfl (tr_aldI (fk_248 hF) (fl_248 hF) (fun _ => tr_bin (v := ((1 : Int32) - (gI g 248 v4.toNatClampNeg))) rfl (tr_astI hF (fk_248 hF) (fl_248 hF) (fun _ g29 _ hF30 => ?_))))
                refine tr_gotoE e10_144 (?_)
                refine tr_inc rfl rfl rfl (?_)
                refine tr_gotoE e10_4 (?_)
                exact hk4 _ _ _ _ _ rfl rfl _ hF30
            · exact hk69 _ _ _ _ _ rfl rfl rfl _ hF
          · refine tr_pushI (?_)
            exact tr_retI hF
        · exact th10_29 he h1 h3 hk48 hk4 hF
theorem th10_4L {e : Nat} (he : 1 ≤ e + 1) {a1 : Nat} {a3 : Nat} {k146 : hG → hO Int32} {k48 : hG → hO Int32} {k69 : Int32 → hG → hO Int32} {u2 : Option Value} (h1 : is_txt a1 = true) (h3 : is_ia a3 = true) (hk146 : ∀ (y4 : Option Value) (y5 : Option Value) (y6 : Option Value) (y7 : Option Value) (y8 : Option Value) (_ : isL (some y4) = false) (_ : isL (some y5) = false) (_ : isL (some y6) = false) (_ : isL (some y7) = false) (g : hG), Frz g → Tri wI (e + 1) 10 t10_146 [some (.ref 247), some (.ref a1), u2, some (.ref a3), y4, y5, y6, y7, y8] [] g (k146 g)) (hk48 : ∀ (y4 : Option Value) (y5 : Option Value) (y6 : Option Value) (y7 : Option Value) (y8 : Option Value) (_ : isL (some y4) = false) (_ : isL (some y5) = false) (_ : isL (some y6) = false) (_ : isL (some y7) = false) (g : hG), Frz g → Tri wI (e + 1) 10 t10_48 [some (.ref 247), some (.ref a1), u2, some (.ref a3), y4, y5, y6, y7, y8] [] g (k48 g)) (hk69 : ∀ (x4 : Int32) (y5 : Option Value) (y6 : Option Value) (y7 : Option Value) (y8 : Option Value) (_ : isL (some y5) = false) (_ : isL (some y6) = false) (_ : isL (some y7) = false) (g : hG), Frz g → Tri wI (e + 1) 10 t10_69 [some (.ref 247), some (.ref a1), u2, some (.ref a3), some (.int x4), y5, y6, y7, y8] [] g (k69 x4 g)) : ∀ (n : Nat) (v4 : Int32) (v5 : Int32) (u6 : Option Value) (u7 : Option Value) (u8 : Option Value) (_ : isL (some u6) = false) (_ : isL (some u7) = false) (g : hG), Frz g → Tri wI (e + 1) 10 t10_4 [some (.ref 247), some (.ref a1), u2, some (.ref a3), some (.int v4), some (.int v5), u6, u7, u8] [] g (q_Calc_work_4L a1 a3 k146 k48 k69 n v4 v5 g)
  | 0 => fun _ _ _ _ _ _ _ _ _ => Tri.none_
  | n + 1 => fun _ _ _ _ _ z6 z7 g hF => th10_4 he h1 h3 hk146 hk48 (th10_4L he h1 h3 hk146 hk48 hk69 n) hk69 z6 z7 hF
def q_Calc_work (a1 : Nat) (v2 : Int32) (a3 : Nat) (g : hG) : hO Int32 :=
  q_Calc_work_4L a1 a3 (fun g36 => some ((-2000000000 : Int32), g36))
    (fun g43 => some ((-2000000000 : Int32), g43))
    (fun x45 g50 => gd x45 50 <| some ((gI g50 248 x45.toNatClampNeg), g50)) FU (-1 : Int32) v2 g
theorem tm10 {d : Nat} {a1 : Nat} {v2 : Int32} {a3 : Nat} (hd : 1 ≤ d) (h1 : is_txt a1 = true) (h3 : is_ia a3 = true) {g : hG} (hF : Frz g) : TM wI d 10 [.ref 247, .ref a1, .int v2, .ref a3] g (q_Calc_work a1 v2 a3 g) := by
  obtain ⟨e, rfl⟩ : ∃ e, d = e + 1 := ⟨d - 1, by omega⟩
  have he := hd
  refine TM.ofE e10_0 (lv := [some (.ref 247), some (.ref a1), some (.int v2), some (.ref a3), none, none, none, none, none]) rfl ?_
  unfold q_Calc_work
  refine tr_pushI (tr_stI (Nat.le_of_ble_eq_true rfl) rfl rfl (tr_ldI rfl (tr_stI (Nat.le_of_ble_eq_true rfl) rfl rfl (?_))))
  refine th10_4L he h1 h3 (fun y31 y32 y33 y34 y35 zy31 zy32 zy33 zy34 g36 hF37 => ?_) (fun y38 y39 y40 y41 y42 zy38 zy39 zy40 zy41 g43 hF44 => ?_) (fun x45 y46 y47 y48 y49 zy46 zy47 zy48 g50 hF51 => ?_) FU _ _ _ _ _ rfl rfl _ hF
  · refine tr_pushI (?_)
    exact tr_retI hF37
  · refine tr_pushI (?_)
    exact tr_retI hF44
  · refine tr_ldA rfl (tr_getP (b := 248) (fk_247 hF51) (fp_247_0 hF51) (tr_ldI rfl (tr_aldI (fk_248 hF51) (fl_248 hF51) (fun _ => ?_))))
    exact tr_retI hF51
-- Slope_learn
abbrev t61_111 : List hOp := oRetV :: []
abbrev t61_109 : List hOp := oInc 3 1 :: oGoto 54 :: t61_111
abbrev t61_86 : List hOp := oLdA 0 :: oGetP 6 0 :: oLdA 2 :: oLdA 2 :: oGetP 9 4 :: oLdI 3 :: oALdI 13 :: oLdA 0 :: oGetP 6 1 :: oInvV 10 0 3 :: oStI 4 :: oLdI 4 :: oPushI (-2000000000) :: oIf cEq 109 :: oLdA 0 :: oGetP 6 2 :: oLdI 1 :: oPushI 0 :: oPushI 99 :: oLdI 4 :: oMin :: oMax :: oAStI :: t61_109
abbrev t61_71 : List hOp := oLdA 2 :: oGetP 9 3 :: oLdI 3 :: oALdI 13 :: oPushI 5 :: oIf cNe 86 :: oLdA 0 :: oDup :: oGetI 6 9 :: oPushI 1 :: oLdI 1 :: oBin (fun x y => x <<< (y &&& 31)) :: oBin (fun x y => x ||| y) :: oPutI 6 9 :: oGoto 109 :: t61_86
abbrev t61_54 : List hOp := oLdI 3 :: oLdA 2 :: oGetI 9 2 :: oIf cGe 111 :: oLdA 0 :: oGetP 6 0 :: oLdA 2 :: oLdA 2 :: oGetP 9 7 :: oLdI 3 :: oALdI 13 :: oLdA 0 :: oGetP 6 1 :: oInvV 10 0 3 :: oPushI 1 :: oIf cEq 71 :: oGoto 109 :: t61_71
abbrev t61_45 : List hOp := oLdA 0 :: oGetP 6 4 :: oGetP 1 7 :: oLdA 0 :: oGetI 6 6 :: oALdP 18 :: oStA 2 :: oPushI 0 :: oStI 3 :: t61_54
abbrev t61_44 : List hOp := oRetV :: t61_45
abbrev t61_6 : List hOp := oLdA 0 :: oDup :: oGetI 6 8 :: oPushI 1 :: oLdI 1 :: oBin (fun x y => x <<< (y &&& 31)) :: oBin (fun x y => x ||| y) :: oPutI 6 8 :: oLdA 0 :: oDup :: oGetI 6 9 :: oPushI 1 :: oLdI 1 :: oBin (fun x y => x <<< (y &&& 31)) :: oPushI (-1) :: oBin (fun x y => x ^^^ y) :: oBin (fun x y => x &&& y) :: oPutI 6 9 :: oLdA 0 :: oLdI 1 :: oInvV 62 6 1 :: oLdA 0 :: oGetP 6 2 :: oLdI 1 :: oLdA 0 :: oGetP 6 1 :: oPushI 2 :: oALdI 13 :: oAStI :: oLdA 0 :: oGetI 6 6 :: oIf0 cLt 44 :: oLdA 0 :: oGetI 6 6 :: oLdA 0 :: oGetP 6 4 :: oGetI 1 8 :: oIf cLt 45 :: t61_44
abbrev t61_0 : List hOp := oLdI 1 :: oLdA 0 :: oGetI 6 8 :: oInvS 162 2 :: oIf0 cEq 6 :: oRetV :: t61_6
theorem e61_0 : (opsOf 61).drop 0 = t61_0 := rfl
theorem e61_6 : (opsOf 61).drop 6 = t61_6 := rfl
theorem e61_44 : (opsOf 61).drop 44 = t61_44 := rfl
theorem e61_45 : (opsOf 61).drop 45 = t61_45 := rfl
theorem e61_54 : (opsOf 61).drop 54 = t61_54 := rfl
theorem e61_71 : (opsOf 61).drop 71 = t61_71 := rfl
theorem e61_86 : (opsOf 61).drop 86 = t61_86 := rfl
theorem e61_109 : (opsOf 61).drop 109 = t61_109 := rfl
theorem e61_111 : (opsOf 61).drop 111 = t61_111 := rfl
def q_Slope_learn_54 (v1 : Int32) (v2 : Nat) (k111 : hG → hO Unit) (k54 : Int32 → hG → hO Unit) (v3 : Int32) (g : hG) : hO Unit :=
  if (gI g v2 2) ≤ v3 then (k111 g) else (gd v3 12 <| bnd (q_Calc_work v2 (gI g (v2 + 6) v3.toNatClampNeg) 251 g) fun r19 g17 => if r19 = (1 : Int32) then (gd v3 12 <| if (gI g17 (v2 + 2) v3.toNatClampNeg) = (5 : Int32) then (wr (sI g17 250 9 ((gI g17 250 9) ||| (shl (1 : Int32) v1))) fun g28 => k54 (v3 + (1 : Int32)) g28) else (gd v3 12 <| bnd (q_Calc_work v2 (gI g17 (v2 + 3) v3.toNatClampNeg) 251 g17) fun r24 g22 => if r24 = (-2000000000 : Int32) then (k54 (v3 + (1 : Int32)) g22) else (gd v1 25 <| wr (sI g22 252 v1.toNatClampNeg (imax (0 : Int32) (imin (99 : Int32) r24))) fun g26 => k54 (v3 + (1 : Int32)) g26))) else (k54 (v3 + (1 : Int32)) g17))
def q_Slope_learn_54L (v1 : Int32) (v2 : Nat) (k111 : hG → hO Unit) : Nat → Int32 → hG → hO Unit
  | 0 => fun _ _ => none
  | n + 1 => fun v3 g => q_Slope_learn_54 v1 v2 k111 (q_Slope_learn_54L v1 v2 k111 n) v3 g
theorem q_Slope_learn_54L_s (v1 : Int32) (v2 : Nat) (k111 : hG → hO Unit) (n : Nat) (v3 : Int32) (g : hG) : q_Slope_learn_54L v1 v2 k111 (n + 1) v3 g = q_Slope_learn_54 v1 v2 k111 (q_Slope_learn_54L v1 v2 k111 n) v3 g := rfl
theorem th61_54 {e : Nat} (he : 2 ≤ e + 1) {v1 : Int32} {v2 : Nat} {k111 : hG → hO Unit} {k54 : Int32 → hG → hO Unit} {v3 : Int32} {u4 : Option Value} (h2 : is_txt v2 = true) (hk111 : ∀ (y3 : Option Value) (y4 : Option Value) (_ : isL (some y3) = false) (g : hG), Frz g → Tri wU (e + 1) 61 t61_111 [some (.ref 250), some (.int v1), some (.ref v2), y3, y4] [] g (k111 g)) (hk54 : ∀ (x3 : Int32) (y4 : Option Value) (g : hG), Frz g → Tri wU (e + 1) 61 t61_54 [some (.ref 250), some (.int v1), some (.ref v2), some (.int x3), y4] [] g (k54 x3 g)) {g : hG} (hF : Frz g) : Tri wU (e + 1) 61 t61_54 [some (.ref 250), some (.int v1), some (.ref v2), some (.int v3), u4] [] g (q_Slope_learn_54 v1 v2 k111 k54 v3 g) := by
  unfold q_Slope_learn_54
  refine tr_ldI rfl (tr_ldA rfl (tr_getI (txt_k hF h2) (?_)))
  refine tr_ifj e61_111 (c_ge _ _) (fun hc16 => ?_) (fun hc16 => ?_)
  · exact hk111 _ _ rfl _ hF
  · refine tr_ldA rfl (tr_getP (b := 247) (fk_250 hF) (fp_250_0 hF) (tr_ldA rfl (tr_ldA rfl (tr_getP (b := (v2 + 6)) (txt_k hF h2) (txt_p7 hF h2) (tr_ldI rfl (?_))))))
    refine tr_aldI (txt_ak6 hF h2) (txt_al6 hF h2) (fun _ => tr_ldA rfl (tr_getP (b := 251) (fk_250 hF) (fp_250_1 hF) (?_)))
    refine tr_invVI rfl rfl (fk_247 hF) (Nat.le_of_ble_eq_true rfl) (by decide) (Nat.le_of_ble_eq_true rfl) (tm10 (by omega) h2 rfl hF) (fun r19 g17 _ hF18 => ?_)
    refine tr_pushI (?_)
    refine tr_ifj e61_71 (c_eq _ _) (fun hc20 => ?_) (fun hc20 => ?_)
    · refine tr_ldA rfl (tr_getP (b := (v2 + 2)) (txt_k hF18 h2) (txt_p3 hF18 h2) (tr_ldI rfl (tr_aldI (txt_ak2 hF18 h2) (txt_al2 hF18 h2) (fun _ => tr_pushI (?_)))))
      refine tr_ifn e61_86 (c_ne _ _) (fun hc21 => ?_) (fun hc21 => ?_)
      · refine tr_ldA rfl (tr_getP (b := 247) (fk_250 hF18) (fp_250_0 hF18) (tr_ldA rfl (tr_ldA rfl (tr_getP (b := (v2 + 3)) (txt_k hF18 h2) (txt_p4 hF18 h2) (tr_ldI rfl (?_))))))
        refine tr_aldI (txt_ak3 hF18 h2) (txt_al3 hF18 h2) (fun _ => tr_ldA rfl (tr_getP (b := 251) (fk_250 hF18) (fp_250_1 hF18) (?_)))
        refine tr_invVI rfl rfl (fk_247 hF18) (Nat.le_of_ble_eq_true rfl) (by decide) (Nat.le_of_ble_eq_true rfl) (tm10 (by omega) h2 rfl hF18) (fun r24 g22 _ hF23 => ?_)
        refine tr_stI (Nat.le_of_ble_eq_true rfl) rfl rfl (tr_ldI rfl (tr_pushI (?_)))
        refine tr_ifj e61_109 (c_eq _ _) (fun hc25 => ?_) (fun hc25 => ?_)
        · refine tr_inc rfl rfl rfl (?_)
          refine tr_gotoE e61_54 (?_)
          exact hk54 _ _ _ hF23
        · refine tr_ldA rfl (tr_getP (b := 252) (fk_250 hF23) (fp_250_2 hF23) (tr_ldI rfl (tr_pushI (tr_pushI (tr_ldI rfl (?_))))))
          refine tr_min (Nat.le_of_ble_eq_true rfl) (tr_max (Nat.le_of_ble_eq_true rfl) (tr_astI hF23 (fk_252 hF23) (fl_252 hF23) (fun _ g26 _ hF27 => tr_inc rfl rfl rfl (?_))))
          refine tr_gotoE e61_54 (?_)
          exact hk54 _ _ _ hF27
      · refine tr_ldA rfl (tr_dupA (tr_getI (fk_250 hF18) (tr_pushI (tr_ldI rfl (tr_bin (v := (shl (1 : Int32) v1)) rfl (?_))))))
        refine tr_bin (v := ((gI g17 250 9) ||| (shl (1 : Int32) v1))) rfl (tr_putI hF18 (fk_250 hF18) (fun g28 _ hF29 => ?_))
        refine tr_gotoE e61_109 (?_)
        refine tr_inc rfl rfl rfl (?_)
        refine tr_gotoE e61_54 (?_)
        exact hk54 _ _ _ hF29
    · refine tr_gotoE e61_109 (?_)
      refine tr_inc rfl rfl rfl (?_)
      refine tr_gotoE e61_54 (?_)
      exact hk54 _ _ _ hF18
theorem th61_54L {e : Nat} (he : 2 ≤ e + 1) {v1 : Int32} {v2 : Nat} {k111 : hG → hO Unit} (h2 : is_txt v2 = true) (hk111 : ∀ (y3 : Option Value) (y4 : Option Value) (_ : isL (some y3) = false) (g : hG), Frz g → Tri wU (e + 1) 61 t61_111 [some (.ref 250), some (.int v1), some (.ref v2), y3, y4] [] g (k111 g)) : ∀ (n : Nat) (v3 : Int32) (u4 : Option Value) (g : hG), Frz g → Tri wU (e + 1) 61 t61_54 [some (.ref 250), some (.int v1), some (.ref v2), some (.int v3), u4] [] g (q_Slope_learn_54L v1 v2 k111 n v3 g)
  | 0 => fun _ _ _ _ => Tri.none_
  | n + 1 => fun _ _ g hF => th61_54 he h2 hk111 (th61_54L he h2 hk111 n) hF
def q_Slope_learn (v1 : Int32) (g : hG) : hO Unit :=
  bnd (q_MP_isAmong v1 (gI g 250 8) g) fun r3 g1 => if r3 = (0 : Int32) then (wr (sI g1 250 8 ((gI g1 250 8) ||| (shl (1 : Int32) v1))) fun g5 => wr (sI g5 250 9 ((gI g5 250 9) &&& ((shl (1 : Int32) v1) ^^^ (-1 : Int32)))) fun g7 => bnd (q_Slope_fillFacts v1 g7) fun _ g9 => gd (2 : Int32) 7 <| gd v1 25 <| wr (sI g9 252 v1.toNatClampNeg (gI g9 251 (2 : Int32).toNatClampNeg)) fun g11 => if (gI g11 250 6) < (0 : Int32) then (some ((), g11)) else (if (gI g11 250 6) < (gI g11 1 8) then (gd (gI g11 250 6) 6 <| q_Slope_learn_54L v1 (10 + 7 * (gI g11 250 6).toNatClampNeg) (fun g32 => some ((), g32)) FU (0 : Int32) g11) else (some ((), g11)))) else (some ((), g1))
theorem tm61 {d : Nat} {v1 : Int32} (hd : 2 ≤ d) {g : hG} (hF : Frz g) : TM wU d 61 [.ref 250, .int v1] g (q_Slope_learn v1 g) := by
  obtain ⟨e, rfl⟩ : ∃ e, d = e + 1 := ⟨d - 1, by omega⟩
  have he := hd
  refine TM.ofE e61_0 (lv := [some (.ref 250), some (.int v1), none, none, none]) rfl ?_
  unfold q_Slope_learn
  refine tr_ldI rfl (tr_ldA rfl (tr_getI (fk_250 hF) (?_)))
  refine tr_invSI rfl rfl (Nat.le_of_ble_eq_true rfl) (Nat.le_of_ble_eq_true rfl) (by decide) (Nat.le_of_ble_eq_true rfl) (tm162 hF) (fun r3 g1 _ hF2 => ?_)
  refine tr_if0j e61_6 (c_eq _ _) (fun hc4 => ?_) (fun hc4 => ?_)
  · refine tr_ldA rfl (tr_dupA (tr_getI (fk_250 hF2) (tr_pushI (tr_ldI rfl (tr_bin (v := (shl (1 : Int32) v1)) rfl (?_))))))
    refine tr_bin (v := ((gI g1 250 8) ||| (shl (1 : Int32) v1))) rfl (tr_putI hF2 (fk_250 hF2) (fun g5 _ hF6 => tr_ldA rfl (tr_dupA (tr_getI (fk_250 hF6) (tr_pushI (?_))))))
    refine tr_ldI rfl (tr_bin (v := (shl (1 : Int32) v1)) rfl (tr_pushI (tr_bin (v := ((shl (1 : Int32) v1) ^^^ (-1 : Int32))) rfl (tr_bin (v := ((gI g5 250 9) &&& ((shl (1 : Int32) v1) ^^^ (-1 : Int32)))) rfl (tr_putI hF6 (fk_250 hF6) (fun g7 _ hF8 => ?_))))))
    refine tr_ldA rfl (tr_ldI rfl (?_))
    refine tr_invVU rfl rfl (fk_250 hF8) (Nat.le_of_ble_eq_true rfl) (by decide) (Nat.le_of_ble_eq_true rfl) (tm62 (by omega) hF8) (fun _ g9 _ hF10 => ?_)
    refine tr_ldA rfl (tr_getP (b := 252) (fk_250 hF10) (fp_250_2 hF10) (tr_ldI rfl (tr_ldA rfl (tr_getP (b := 251) (fk_250 hF10) (fp_250_1 hF10) (tr_pushI (?_))))))
    refine tr_aldI (fk_251 hF10) (fl_251 hF10) (fun _ => tr_astI hF10 (fk_252 hF10) (fl_252 hF10) (fun _ g11 _ hF12 => tr_ldA rfl (tr_getI (fk_250 hF12) (?_))))
    refine tr_if0j e61_44 (c_lt _ _) (fun hc13 => ?_) (fun hc13 => ?_)
    · exact tr_retV hF12
    · refine tr_ldA rfl (tr_getI (fk_250 hF12) (tr_ldA rfl (tr_getP (b := 1) (fk_250 hF12) (fp_250_4 hF12) (tr_getI (fk_1 hF12) (?_)))))
      refine tr_ifj e61_45 (c_lt _ _) (fun hc14 => ?_) (fun hc14 => ?_)
      · refine tr_ldA rfl (tr_getP (b := 1) (fk_250 hF12) (fp_250_4 hF12) (tr_getP (b := 9) (fk_1 hF12) (fp_1_7 hF12) (tr_ldA rfl (tr_getI (fk_250 hF12) (tr_aldP (b := (10 + 7 * (gI g11 250 6).toNatClampNeg)) (fk_9 hF12) (fl_9 hF12) (fun hq => kpt_e (a := 1) hF12 rfl hq) (fun hi15 => ?_))))))
        refine tr_stA (Nat.le_of_ble_eq_true rfl) rfl rfl (tr_pushI (tr_stI (Nat.le_of_ble_eq_true rfl) rfl rfl (?_)))
        refine th61_54L he (kpt_txt (a := 1) rfl hi15) (fun y30 y31 zy30 g32 hF33 => ?_) FU _ _ _ hF12
        · exact tr_retV hF33
      · exact tr_retV hF12
  · exact tr_retV hF2
-- Slope_standOf
abbrev t58_0 : List hOp := oLdA 0 :: oLdI 1 :: oInvV 61 6 1 :: oLdA 0 :: oGetP 6 2 :: oLdI 1 :: oALdI 13 :: oRetI :: []
theorem e58_0 : (opsOf 58).drop 0 = t58_0 := rfl
def q_Slope_standOf (v1 : Int32) (g : hG) : hO Int32 :=
  bnd (q_Slope_learn v1 g) fun _ g1 => gd v1 25 <| some ((gI g1 252 v1.toNatClampNeg), g1)
theorem tm58 {d : Nat} {v1 : Int32} (hd : 3 ≤ d) {g : hG} (hF : Frz g) : TM wI d 58 [.ref 250, .int v1] g (q_Slope_standOf v1 g) := by
  obtain ⟨e, rfl⟩ : ∃ e, d = e + 1 := ⟨d - 1, by omega⟩
  have he := hd
  refine TM.ofE e58_0 (lv := [some (.ref 250), some (.int v1)]) rfl ?_
  unfold q_Slope_standOf
  refine tr_ldA rfl (tr_ldI rfl (?_))
  refine tr_invVU rfl rfl (fk_250 hF) (Nat.le_of_ble_eq_true rfl) (by decide) (Nat.le_of_ble_eq_true rfl) (tm61 (by omega) hF) (fun _ g1 _ hF2 => ?_)
  refine tr_ldA rfl (tr_getP (b := 252) (fk_250 hF2) (fp_250_2 hF2) (tr_ldI rfl (tr_aldI (fk_252 hF2) (fl_252 hF2) (fun _ => ?_))))
  exact tr_retI hF2
-- Slope_holdsAt
abbrev t59_0 : List hOp := oLdA 0 :: oLdI 1 :: oInvV 61 6 1 :: oLdI 1 :: oLdA 0 :: oGetI 6 9 :: oInvS 162 2 :: oRetZ :: []
theorem e59_0 : (opsOf 59).drop 0 = t59_0 := rfl
def q_Slope_holdsAt (v1 : Int32) (g : hG) : hO Int32 :=
  bnd (q_Slope_learn v1 g) fun _ g1 => bnd (q_MP_isAmong v1 (gI g1 250 9) g1) fun r5 g3 => gb r5 (some (r5, g3))
theorem tm59 {d : Nat} {v1 : Int32} (hd : 3 ≤ d) {g : hG} (hF : Frz g) : TM wI d 59 [.ref 250, .int v1] g (q_Slope_holdsAt v1 g) := by
  obtain ⟨e, rfl⟩ : ∃ e, d = e + 1 := ⟨d - 1, by omega⟩
  have he := hd
  refine TM.ofE e59_0 (lv := [some (.ref 250), some (.int v1)]) rfl ?_
  unfold q_Slope_holdsAt
  refine tr_ldA rfl (tr_ldI rfl (?_))
  refine tr_invVU rfl rfl (fk_250 hF) (Nat.le_of_ble_eq_true rfl) (by decide) (Nat.le_of_ble_eq_true rfl) (tm61 (by omega) hF) (fun _ g1 _ hF2 => ?_)
  refine tr_ldI rfl (tr_ldA rfl (tr_getI (fk_250 hF2) (?_)))
  refine tr_invSI rfl rfl (Nat.le_of_ble_eq_true rfl) (Nat.le_of_ble_eq_true rfl) (by decide) (Nat.le_of_ble_eq_true rfl) (tm162 hF2) (fun r5 g3 _ hF4 => ?_)
  exact tr_retZ hF4
-- MP_beside
abbrev t163_44 : List hOp := oPushI (-1) :: oRetI :: []
abbrev t163_43 : List hOp := oRetI :: t163_44
abbrev t163_42 : List hOp := oPushI (-1) :: t163_43
abbrev t163_36 : List hOp := oLdI 2 :: oIf0 cLe 42 :: oLdI 0 :: oPushI 1 :: oBin (fun x y => x - y) :: oGoto 43 :: t163_42
abbrev t163_35 : List hOp := oRetI :: t163_36
abbrev t163_34 : List hOp := oPushI (-1) :: t163_35
abbrev t163_28 : List hOp := oLdI 3 :: oIf0 cLe 34 :: oLdI 0 :: oPushI 5 :: oBin (fun x y => x - y) :: oGoto 35 :: t163_34
abbrev t163_27 : List hOp := oRetI :: t163_28
abbrev t163_26 : List hOp := oPushI (-1) :: t163_27
abbrev t163_19 : List hOp := oLdI 2 :: oPushI 4 :: oIf cGe 26 :: oLdI 0 :: oPushI 1 :: oBin (fun x y => x + y) :: oGoto 27 :: t163_26
abbrev t163_18 : List hOp := oRetI :: t163_19
abbrev t163_17 : List hOp := oPushI (-1) :: t163_18
abbrev t163_10 : List hOp := oLdI 3 :: oPushI 4 :: oIf cGe 17 :: oLdI 0 :: oPushI 5 :: oBin (fun x y => x + y) :: oGoto 18 :: t163_17
abbrev t163_0 : List hOp := oLdI 0 :: oPushI 5 :: oDvd (fun x y => x - x / y * y) :: oStI 2 :: oLdI 0 :: oPushI 5 :: oDvd (fun x y => x / y) :: oStI 3 :: oLdI 1 :: oSw 0 [10, 19, 28, 36] 44 :: t163_10
theorem e163_0 : (opsOf 163).drop 0 = t163_0 := rfl
theorem e163_10 : (opsOf 163).drop 10 = t163_10 := rfl
theorem e163_17 : (opsOf 163).drop 17 = t163_17 := rfl
theorem e163_18 : (opsOf 163).drop 18 = t163_18 := rfl
theorem e163_19 : (opsOf 163).drop 19 = t163_19 := rfl
theorem e163_26 : (opsOf 163).drop 26 = t163_26 := rfl
theorem e163_27 : (opsOf 163).drop 27 = t163_27 := rfl
theorem e163_28 : (opsOf 163).drop 28 = t163_28 := rfl
theorem e163_34 : (opsOf 163).drop 34 = t163_34 := rfl
theorem e163_35 : (opsOf 163).drop 35 = t163_35 := rfl
theorem e163_36 : (opsOf 163).drop 36 = t163_36 := rfl
theorem e163_42 : (opsOf 163).drop 42 = t163_42 := rfl
theorem e163_43 : (opsOf 163).drop 43 = t163_43 := rfl
theorem e163_44 : (opsOf 163).drop 44 = t163_44 := rfl
def q_MP_beside (v0 : Int32) (v1 : Int32) (g : hG) : hO Int32 :=
  if v1 = (0 : Int32) then (if (4 : Int32) ≤ (v0 / (5 : Int32)) then (some ((-1 : Int32), g)) else (some ((v0 + (5 : Int32)), g))) else if v1 = (1 : Int32) then (if (4 : Int32) ≤ (irem v0 (5 : Int32)) then (some ((-1 : Int32), g)) else (some ((v0 + (1 : Int32)), g))) else if v1 = (2 : Int32) then (if (v0 / (5 : Int32)) ≤ (0 : Int32) then (some ((-1 : Int32), g)) else (some ((v0 - (5 : Int32)), g))) else if v1 = (3 : Int32) then (if (irem v0 (5 : Int32)) ≤ (0 : Int32) then (some ((-1 : Int32), g)) else (some ((v0 - (1 : Int32)), g))) else (some ((-1 : Int32), g))
theorem tm163 {d : Nat} {v0 : Int32} {v1 : Int32} {g : hG} (hF : Frz g) : TM wI d 163 [.int v0, .int v1] g (q_MP_beside v0 v1 g) := by
  refine TM.ofE e163_0 (lv := [some (.int v0), some (.int v1), none, none]) rfl ?_
  unfold q_MP_beside
  refine tr_ldI rfl (tr_pushI (tr_dvdl (v := (irem v0 (5 : Int32))) (by decide) rfl (tr_stI (Nat.le_of_ble_eq_true rfl) rfl rfl (tr_ldI rfl (tr_pushI (?_))))))
  refine tr_dvdl (v := (v0 / (5 : Int32))) (by decide) rfl (tr_stI (Nat.le_of_ble_eq_true rfl) rfl rfl (tr_ldI rfl (?_)))
  refine tr_sw1E (c := (0 : Int32)) e163_10 rfl (fun _ => ?_) (fun _ => ?_)
  · refine tr_ldI rfl (tr_pushI (?_))
    refine tr_ifj e163_17 (c_ge _ _) (fun hc1 => ?_) (fun hc1 => ?_)
    · refine tr_pushI (?_)
      exact tr_retI hF
    · refine tr_ldI rfl (tr_pushI (tr_bin (v := (v0 + (5 : Int32))) rfl (?_)))
      refine tr_gotoE e163_18 (?_)
      exact tr_retI hF
  refine tr_sw1E (c := (1 : Int32)) e163_19 rfl (fun _ => ?_) (fun _ => ?_)
  · refine tr_ldI rfl (tr_pushI (?_))
    refine tr_ifj e163_26 (c_ge _ _) (fun hc2 => ?_) (fun hc2 => ?_)
    · refine tr_pushI (?_)
      exact tr_retI hF
    · refine tr_ldI rfl (tr_pushI (tr_bin (v := (v0 + (1 : Int32))) rfl (?_)))
      refine tr_gotoE e163_27 (?_)
      exact tr_retI hF
  refine tr_sw1E (c := (2 : Int32)) e163_28 rfl (fun _ => ?_) (fun _ => ?_)
  · refine tr_ldI rfl (?_)
    refine tr_if0j e163_34 (c_le _ _) (fun hc3 => ?_) (fun hc3 => ?_)
    · refine tr_pushI (?_)
      exact tr_retI hF
    · refine tr_ldI rfl (tr_pushI (tr_bin (v := (v0 - (5 : Int32))) rfl (?_)))
      refine tr_gotoE e163_35 (?_)
      exact tr_retI hF
  refine tr_sw1E (c := (3 : Int32)) e163_36 rfl (fun _ => ?_) (fun _ => ?_)
  · refine tr_ldI rfl (?_)
    refine tr_if0j e163_42 (c_le _ _) (fun hc4 => ?_) (fun hc4 => ?_)
    · refine tr_pushI (?_)
      exact tr_retI hF
    · refine tr_ldI rfl (tr_pushI (tr_bin (v := (v0 - (1 : Int32))) rfl (?_)))
      refine tr_gotoE e163_43 (?_)
      exact tr_retI hF
  refine tr_sw0E e163_44 ?_
  refine tr_pushI (?_)
  exact tr_retI hF
-- Slope_next
abbrev t60_45 : List hOp := oLdI 2 :: oRetI :: []
abbrev t60_43 : List hOp := oInc 3 1 :: oGoto 19 :: t60_45
abbrev t60_19 : List hOp := oLdI 3 :: oPushI 4 :: oIf cGe 45 :: oLdI 1 :: oLdI 3 :: oInvS 163 2 :: oStI 4 :: oLdI 4 :: oPushI (-1) :: oIf cEq 43 :: oLdA 0 :: oLdI 4 :: oInvV 61 6 1 :: oLdA 0 :: oGetP 6 2 :: oLdI 4 :: oALdI 13 :: oLdA 0 :: oGetP 6 2 :: oLdI 2 :: oALdI 13 :: oIf cGe 43 :: oLdI 4 :: oStI 2 :: t60_43
abbrev t60_15 : List hOp := oLdI 1 :: oStI 2 :: oPushI 0 :: oStI 3 :: t60_19
abbrev t60_13 : List hOp := oLdI 1 :: oRetI :: t60_15
abbrev t60_0 : List hOp := oLdA 0 :: oLdI 1 :: oInvV 61 6 1 :: oLdA 0 :: oGetP 6 4 :: oLdI 1 :: oInvV 14 1 1 :: oIf0 cNe 13 :: oLdI 1 :: oLdA 0 :: oGetI 6 9 :: oInvS 162 2 :: oIf0 cEq 15 :: t60_13
theorem e60_0 : (opsOf 60).drop 0 = t60_0 := rfl
theorem e60_13 : (opsOf 60).drop 13 = t60_13 := rfl
theorem e60_15 : (opsOf 60).drop 15 = t60_15 := rfl
theorem e60_19 : (opsOf 60).drop 19 = t60_19 := rfl
theorem e60_43 : (opsOf 60).drop 43 = t60_43 := rfl
theorem e60_45 : (opsOf 60).drop 45 = t60_45 := rfl
def q_Slope_next_19 (v1 : Int32) (k45 : Int32 → hG → hO Int32) (k19 : Int32 → Int32 → hG → hO Int32) (v2 : Int32) (v3 : Int32) (g : hG) : hO Int32 :=
  if (4 : Int32) ≤ v3 then (k45 v2 g) else (bnd (q_MP_beside v1 v3 g) fun r14 g12 => if r14 = (-1 : Int32) then (k19 v2 (v3 + (1 : Int32)) g12) else (bnd (q_Slope_learn r14 g12) fun _ g16 => gd r14 25 <| gd v2 25 <| if (gI g16 252 v2.toNatClampNeg) ≤ (gI g16 252 r14.toNatClampNeg) then (k19 v2 (v3 + (1 : Int32)) g16) else (k19 r14 (v3 + (1 : Int32)) g16)))
def q_Slope_next_19L (v1 : Int32) (k45 : Int32 → hG → hO Int32) : Nat → Int32 → Int32 → hG → hO Int32
  | 0 => fun _ _ _ => none
  | n + 1 => fun v2 v3 g => q_Slope_next_19 v1 k45 (q_Slope_next_19L v1 k45 n) v2 v3 g
theorem q_Slope_next_19L_s (v1 : Int32) (k45 : Int32 → hG → hO Int32) (n : Nat) (v2 : Int32) (v3 : Int32) (g : hG) : q_Slope_next_19L v1 k45 (n + 1) v2 v3 g = q_Slope_next_19 v1 k45 (q_Slope_next_19L v1 k45 n) v2 v3 g := rfl
theorem th60_19 {e : Nat} (he : 3 ≤ e + 1) {v1 : Int32} {k45 : Int32 → hG → hO Int32} {k19 : Int32 → Int32 → hG → hO Int32} {v2 : Int32} {v3 : Int32} {u4 : Option Value} (hk45 : ∀ (x2 : Int32) (y3 : Option Value) (y4 : Option Value) (_ : isL (some y3) = false) (g : hG), Frz g → Tri wI (e + 1) 60 t60_45 [some (.ref 250), some (.int v1), some (.int x2), y3, y4] [] g (k45 x2 g)) (hk19 : ∀ (x2 : Int32) (x3 : Int32) (y4 : Option Value) (g : hG), Frz g → Tri wI (e + 1) 60 t60_19 [some (.ref 250), some (.int v1), some (.int x2), some (.int x3), y4] [] g (k19 x2 x3 g)) {g : hG} (hF : Frz g) : Tri wI (e + 1) 60 t60_19 [some (.ref 250), some (.int v1), some (.int v2), some (.int v3), u4] [] g (q_Slope_next_19 v1 k45 k19 v2 v3 g) := by
  unfold q_Slope_next_19
  refine tr_ldI rfl (tr_pushI (?_))
  refine tr_ifj e60_45 (c_ge _ _) (fun hc11 => ?_) (fun hc11 => ?_)
  · exact hk45 _ _ _ rfl _ hF
  · refine tr_ldI rfl (tr_ldI rfl (?_))
    refine tr_invSI rfl rfl (Nat.le_of_ble_eq_true rfl) (Nat.le_of_ble_eq_true rfl) (by decide) (Nat.le_of_ble_eq_true rfl) (tm163 hF) (fun r14 g12 _ hF13 => ?_)
    refine tr_stI (Nat.le_of_ble_eq_true rfl) rfl rfl (tr_ldI rfl (tr_pushI (?_)))
    refine tr_ifj e60_43 (c_eq _ _) (fun hc15 => ?_) (fun hc15 => ?_)
    · refine tr_inc rfl rfl rfl (?_)
      refine tr_gotoE e60_19 (?_)
      exact hk19 _ _ _ _ hF13
    · refine tr_ldA rfl (tr_ldI rfl (?_))
      refine tr_invVU rfl rfl (fk_250 hF13) (Nat.le_of_ble_eq_true rfl) (by decide) (Nat.le_of_ble_eq_true rfl) (tm61 (by omega) hF13) (fun _ g16 _ hF17 => ?_)
      refine tr_ldA rfl (tr_getP (b := 252) (fk_250 hF17) (fp_250_2 hF17) (tr_ldI rfl (tr_aldI (fk_252 hF17) (fl_252 hF17) (fun _ => tr_ldA rfl (tr_getP (b := 252) (fk_250 hF17) (fp_250_2 hF17) (?_))))))
      refine tr_ldI rfl (tr_aldI (fk_252 hF17) (fl_252 hF17) (fun _ => ?_))
      refine tr_ifj e60_43 (c_ge _ _) (fun hc18 => ?_) (fun hc18 => ?_)
      · refine tr_inc rfl rfl rfl (?_)
        refine tr_gotoE e60_19 (?_)
        exact hk19 _ _ _ _ hF17
      · refine tr_ldI rfl (tr_stI (Nat.le_of_ble_eq_true rfl) rfl rfl (tr_inc rfl rfl rfl (?_)))
        refine tr_gotoE e60_19 (?_)
        exact hk19 _ _ _ _ hF17
theorem th60_19L {e : Nat} (he : 3 ≤ e + 1) {v1 : Int32} {k45 : Int32 → hG → hO Int32} (hk45 : ∀ (x2 : Int32) (y3 : Option Value) (y4 : Option Value) (_ : isL (some y3) = false) (g : hG), Frz g → Tri wI (e + 1) 60 t60_45 [some (.ref 250), some (.int v1), some (.int x2), y3, y4] [] g (k45 x2 g)) : ∀ (n : Nat) (v2 : Int32) (v3 : Int32) (u4 : Option Value) (g : hG), Frz g → Tri wI (e + 1) 60 t60_19 [some (.ref 250), some (.int v1), some (.int v2), some (.int v3), u4] [] g (q_Slope_next_19L v1 k45 n v2 v3 g)
  | 0 => fun _ _ _ _ _ => Tri.none_
  | n + 1 => fun _ _ _ g hF => th60_19 he hk45 (th60_19L he hk45 n) hF
def q_Slope_next (v1 : Int32) (g : hG) : hO Int32 :=
  bnd (q_Slope_learn v1 g) fun _ g1 => bnd (q_Kept_hasDoor v1 g1) fun r5 g3 => if r5 = (0 : Int32) then (bnd (q_MP_isAmong v1 (gI g3 250 9) g3) fun r9 g7 => if r9 = (0 : Int32) then (q_Slope_next_19L v1 (fun x19 g22 => some (x19, g22)) FU v1 (0 : Int32) g7) else (some (v1, g7))) else (some (v1, g3))
theorem tm60 {d : Nat} {v1 : Int32} (hd : 3 ≤ d) {g : hG} (hF : Frz g) : TM wI d 60 [.ref 250, .int v1] g (q_Slope_next v1 g) := by
  obtain ⟨e, rfl⟩ : ∃ e, d = e + 1 := ⟨d - 1, by omega⟩
  have he := hd
  refine TM.ofE e60_0 (lv := [some (.ref 250), some (.int v1), none, none, none]) rfl ?_
  unfold q_Slope_next
  refine tr_ldA rfl (tr_ldI rfl (?_))
  refine tr_invVU rfl rfl (fk_250 hF) (Nat.le_of_ble_eq_true rfl) (by decide) (Nat.le_of_ble_eq_true rfl) (tm61 (by omega) hF) (fun _ g1 _ hF2 => ?_)
  refine tr_ldA rfl (tr_getP (b := 1) (fk_250 hF2) (fp_250_4 hF2) (tr_ldI rfl (?_)))
  refine tr_invVI rfl rfl (fk_1 hF2) (Nat.le_of_ble_eq_true rfl) (by decide) (Nat.le_of_ble_eq_true rfl) (tm14 (by omega) hF2) (fun r5 g3 _ hF4 => ?_)
  refine tr_if0n e60_13 (c_ne _ _) (fun hc6 => ?_) (fun hc6 => ?_)
  · refine tr_ldI rfl (?_)
    exact tr_retI hF4
  · refine tr_ldI rfl (tr_ldA rfl (tr_getI (fk_250 hF4) (?_)))
    refine tr_invSI rfl rfl (Nat.le_of_ble_eq_true rfl) (Nat.le_of_ble_eq_true rfl) (by decide) (Nat.le_of_ble_eq_true rfl) (tm162 hF4) (fun r9 g7 _ hF8 => ?_)
    refine tr_if0j e60_15 (c_eq _ _) (fun hc10 => ?_) (fun hc10 => ?_)
    · refine tr_ldI rfl (tr_stI (Nat.le_of_ble_eq_true rfl) rfl rfl (tr_pushI (tr_stI (Nat.le_of_ble_eq_true rfl) rfl rfl (?_))))
      refine th60_19L he (fun x19 y20 y21 zy20 g22 hF23 => ?_) FU _ _ _ _ hF8
      · refine tr_ldI rfl (?_)
        exact tr_retI hF23
    · refine tr_ldI rfl (?_)
      exact tr_retI hF8
-- MP_cell
abbrev t104_54 : List hOp := oPushI (-1) :: oRetI :: []
abbrev t104_49 : List hOp := oLdA 0 :: oGetP 11 15 :: oLdI 1 :: oInvV 60 6 1 :: oRetI :: t104_54
abbrev t104_48 : List hOp := oRetI :: t104_49
abbrev t104_47 : List hOp := oPushI 0 :: t104_48
abbrev t104_40 : List hOp := oLdA 0 :: oGetP 11 15 :: oLdI 1 :: oInvV 59 6 1 :: oIf0 cEq 47 :: oPushI 1 :: oGoto 48 :: t104_47
abbrev t104_35 : List hOp := oLdA 0 :: oGetP 11 15 :: oLdI 1 :: oInvV 58 6 1 :: oRetI :: t104_40
abbrev t104_30 : List hOp := oLdA 0 :: oGetP 11 1 :: oLdI 1 :: oInvV 19 2 1 :: oRetI :: t104_35
abbrev t104_29 : List hOp := oRetI :: t104_30
abbrev t104_28 : List hOp := oPushI 0 :: t104_29
abbrev t104_21 : List hOp := oLdA 0 :: oGetP 11 0 :: oLdI 1 :: oInvV 14 1 1 :: oIf0 cEq 28 :: oPushI 1 :: oGoto 29 :: t104_28
abbrev t104_15 : List hOp := oLdA 0 :: oGetP 11 1 :: oGetP 2 3 :: oLdI 1 :: oALdI 13 :: oRetI :: t104_21
abbrev t104_5 : List hOp := oLdA 0 :: oGetP 11 15 :: oLdA 0 :: oGetP 11 1 :: oLdA 0 :: oGetP 11 0 :: oGetI 1 9 :: oInvV 57 6 2 :: oLdI 2 :: oSw 0 [15, 21, 30, 35, 40, 49] 54 :: t104_15
abbrev t104_0 : List hOp := oLdI 1 :: oInvS 159 1 :: oIf0 cNe 5 :: oPushI (-1) :: oRetI :: t104_5
theorem e104_0 : (opsOf 104).drop 0 = t104_0 := rfl
theorem e104_5 : (opsOf 104).drop 5 = t104_5 := rfl
theorem e104_15 : (opsOf 104).drop 15 = t104_15 := rfl
theorem e104_21 : (opsOf 104).drop 21 = t104_21 := rfl
theorem e104_28 : (opsOf 104).drop 28 = t104_28 := rfl
theorem e104_29 : (opsOf 104).drop 29 = t104_29 := rfl
theorem e104_30 : (opsOf 104).drop 30 = t104_30 := rfl
theorem e104_35 : (opsOf 104).drop 35 = t104_35 := rfl
theorem e104_40 : (opsOf 104).drop 40 = t104_40 := rfl
theorem e104_47 : (opsOf 104).drop 47 = t104_47 := rfl
theorem e104_48 : (opsOf 104).drop 48 = t104_48 := rfl
theorem e104_49 : (opsOf 104).drop 49 = t104_49 := rfl
theorem e104_54 : (opsOf 104).drop 54 = t104_54 := rfl
def q_MP_cell (v1 : Int32) (v2 : Int32) (g : hG) : hO Int32 :=
  bnd (q_MP_isCell v1 g) fun r3 g1 => if r3 = (0 : Int32) then (some ((-1 : Int32), g1)) else (bnd (q_Slope_face 2 (gI g1 1 9) g1) fun _ g5 => if v2 = (0 : Int32) then (gd v1 25 <| some ((gI g5 6 v1.toNatClampNeg), g5)) else if v2 = (1 : Int32) then (bnd (q_Kept_hasDoor v1 g5) fun r9 g7 => if r9 = (0 : Int32) then (some ((0 : Int32), g7)) else (some ((1 : Int32), g7))) else if v2 = (2 : Int32) then (bnd (q_Mom_lettersOn 2 v1 g5) fun r13 g11 => some (r13, g11)) else if v2 = (3 : Int32) then (bnd (q_Slope_standOf v1 g5) fun r16 g14 => some (r16, g14)) else if v2 = (4 : Int32) then (bnd (q_Slope_holdsAt v1 g5) fun r19 g17 => if r19 = (0 : Int32) then (some ((0 : Int32), g17)) else (some ((1 : Int32), g17))) else if v2 = (5 : Int32) then (bnd (q_Slope_next v1 g5) fun r23 g21 => some (r23, g21)) else (some ((-1 : Int32), g5)))
theorem tm104 {d : Nat} {v1 : Int32} {v2 : Int32} (hd : 4 ≤ d) {g : hG} (hF : Frz g) : TM wI d 104 [.ref 0, .int v1, .int v2] g (q_MP_cell v1 v2 g) := by
  obtain ⟨e, rfl⟩ : ∃ e, d = e + 1 := ⟨d - 1, by omega⟩
  have he := hd
  refine TM.ofE e104_0 (lv := [some (.ref 0), some (.int v1), some (.int v2)]) rfl ?_
  unfold q_MP_cell
  refine tr_ldI rfl (?_)
  refine tr_invSI rfl rfl (Nat.le_of_ble_eq_true rfl) (Nat.le_of_ble_eq_true rfl) (by decide) (Nat.le_of_ble_eq_true rfl) (tm159 hF) (fun r3 g1 _ hF2 => ?_)
  refine tr_if0n e104_5 (c_ne _ _) (fun hc4 => ?_) (fun hc4 => ?_)
  · refine tr_ldA rfl (tr_getP (b := 250) (fk_0 hF2) (fp_0_15 hF2) (tr_ldA rfl (tr_getP (b := 2) (fk_0 hF2) (fp_0_1 hF2) (tr_ldA rfl (tr_getP (b := 1) (fk_0 hF2) (fp_0_0 hF2) (?_))))))
    refine tr_getI (fk_1 hF2) (?_)
    refine tr_invVU rfl rfl (fk_250 hF2) (Nat.le_of_ble_eq_true rfl) (by decide) (Nat.le_of_ble_eq_true rfl) (tm57 rfl hF2) (fun _ g5 _ hF6 => ?_)
    refine tr_ldI rfl (?_)
    refine tr_sw1E (c := (0 : Int32)) e104_15 rfl (fun _ => ?_) (fun _ => ?_)
    · refine tr_ldA rfl (tr_getP (b := 2) (fk_0 hF6) (fp_0_1 hF6) (tr_getP (b := 6) (fk_2 hF6) (fp_2_3 hF6) (tr_ldI rfl (tr_aldI (fk_6 hF6) (fl_6 hF6) (fun _ => ?_)))))
      exact tr_retI hF6
    refine tr_sw1E (c := (1 : Int32)) e104_21 rfl (fun _ => ?_) (fun _ => ?_)
    · refine tr_ldA rfl (tr_getP (b := 1) (fk_0 hF6) (fp_0_0 hF6) (tr_ldI rfl (?_)))
      refine tr_invVI rfl rfl (fk_1 hF6) (Nat.le_of_ble_eq_true rfl) (by decide) (Nat.le_of_ble_eq_true rfl) (tm14 (by omega) hF6) (fun r9 g7 _ hF8 => ?_)
      refine tr_if0j e104_28 (c_eq _ _) (fun hc10 => ?_) (fun hc10 => ?_)
      · refine tr_pushI (?_)
        exact tr_retI hF8
      · refine tr_pushI (?_)
        refine tr_gotoE e104_29 (?_)
        exact tr_retI hF8
    refine tr_sw1E (c := (2 : Int32)) e104_30 rfl (fun _ => ?_) (fun _ => ?_)
    · refine tr_ldA rfl (tr_getP (b := 2) (fk_0 hF6) (fp_0_1 hF6) (tr_ldI rfl (?_)))
      refine tr_invVI rfl rfl (fk_2 hF6) (Nat.le_of_ble_eq_true rfl) (by decide) (Nat.le_of_ble_eq_true rfl) (tm19 rfl hF6) (fun r13 g11 _ hF12 => ?_)
      exact tr_retI hF12
    refine tr_sw1E (c := (3 : Int32)) e104_35 rfl (fun _ => ?_) (fun _ => ?_)
    · refine tr_ldA rfl (tr_getP (b := 250) (fk_0 hF6) (fp_0_15 hF6) (tr_ldI rfl (?_)))
      refine tr_invVI rfl rfl (fk_250 hF6) (Nat.le_of_ble_eq_true rfl) (by decide) (Nat.le_of_ble_eq_true rfl) (tm58 (by omega) hF6) (fun r16 g14 _ hF15 => ?_)
      exact tr_retI hF15
    refine tr_sw1E (c := (4 : Int32)) e104_40 rfl (fun _ => ?_) (fun _ => ?_)
    · refine tr_ldA rfl (tr_getP (b := 250) (fk_0 hF6) (fp_0_15 hF6) (tr_ldI rfl (?_)))
      refine tr_invVI rfl rfl (fk_250 hF6) (Nat.le_of_ble_eq_true rfl) (by decide) (Nat.le_of_ble_eq_true rfl) (tm59 (by omega) hF6) (fun r19 g17 _ hF18 => ?_)
      refine tr_if0j e104_47 (c_eq _ _) (fun hc20 => ?_) (fun hc20 => ?_)
      · refine tr_pushI (?_)
        exact tr_retI hF18
      · refine tr_pushI (?_)
        refine tr_gotoE e104_48 (?_)
        exact tr_retI hF18
    refine tr_sw1E (c := (5 : Int32)) e104_49 rfl (fun _ => ?_) (fun _ => ?_)
    · refine tr_ldA rfl (tr_getP (b := 250) (fk_0 hF6) (fp_0_15 hF6) (tr_ldI rfl (?_)))
      refine tr_invVI rfl rfl (fk_250 hF6) (Nat.le_of_ble_eq_true rfl) (by decide) (Nat.le_of_ble_eq_true rfl) (tm60 (by omega) hF6) (fun r23 g21 _ hF22 => ?_)
      exact tr_retI hF22
    refine tr_sw0E e104_54 ?_
    refine tr_pushI (?_)
    exact tr_retI hF6
  · refine tr_pushI (?_)
    exact tr_retI hF2
-- Notes_refuse
abbrev t25_18 : List hOp := oLdI 1 :: oRetI :: []
abbrev t25_0 : List hOp := oLdA 0 :: oLdI 1 :: oPutI 3 1 :: oLdI 1 :: oIf0 cGe 18 :: oLdI 1 :: oNeg :: oPushI 7 :: oIf cGe 18 :: oLdA 0 :: oGetP 3 0 :: oLdI 1 :: oNeg :: oDup2 :: oALdI 13 :: oPushI 1 :: oBin (fun x y => x + y) :: oAStI :: t25_18
theorem e25_0 : (opsOf 25).drop 0 = t25_0 := rfl
theorem e25_18 : (opsOf 25).drop 18 = t25_18 := rfl
def q_Notes_refuse (v1 : Int32) (g : hG) : hO Int32 :=
  wr (sI g 263 1 v1) fun g1 => if (0 : Int32) ≤ v1 then (some (v1, g1)) else (if (7 : Int32) ≤ (-v1) then (some (v1, g1)) else (gd (-v1) 7 <| gd (-v1) 7 <| wr (sI g1 264 (-v1).toNatClampNeg ((gI g1 264 (-v1).toNatClampNeg) + (1 : Int32))) fun g5 => some (v1, g5)))
theorem tm25 {d : Nat} {v1 : Int32} {g : hG} (hF : Frz g) : TM wI d 25 [.ref 263, .int v1] g (q_Notes_refuse v1 g) := by
  refine TM.ofE e25_0 (lv := [some (.ref 263), some (.int v1)]) rfl ?_
  unfold q_Notes_refuse
  refine tr_ldA rfl (tr_ldI rfl (tr_putI hF (fk_263 hF) (fun g1 _ hF2 => tr_ldI rfl (?_))))
  refine tr_if0j e25_18 (c_ge _ _) (fun hc3 => ?_) (fun hc3 => ?_)
  · refine tr_ldI rfl (?_)
    exact tr_retI hF2
  · refine tr_ldI rfl (tr_neg (tr_pushI (?_)))
    refine tr_ifj e25_18 (c_ge _ _) (fun hc4 => ?_) (fun hc4 => ?_)
    · refine tr_ldI rfl (?_)
      exact tr_retI hF2
    · refine tr_ldA rfl (tr_getP (b := 264) (fk_263 hF2) (fp_263_0 hF2) (tr_ldI rfl (tr_neg (tr_dup2 (tr_aldI (fk_264 hF2) (fl_264 hF2) (fun _ => ?_))))))
      refine tr_pushI (tr_bin (v := ((gI g1 264 (-v1).toNatClampNeg) + (1 : Int32))) rfl (tr_astI hF2 (fk_264 hF2) (fl_264 hF2) (fun _ g5 _ hF6 => tr_ldI rfl (?_))))
      exact tr_retI hF6
-- Kept_setDoor
abbrev t15_18 : List hOp := oPutI 1 1 :: oRetV :: []
abbrev t15_10 : List hOp := oLdA 0 :: oGetI 1 1 :: oPushI 1 :: oLdI 1 :: oBin (fun x y => x <<< (y &&& 31)) :: oPushI (-1) :: oBin (fun x y => x ^^^ y) :: oBin (fun x y => x &&& y) :: t15_18
abbrev t15_0 : List hOp := oLdA 0 :: oLdI 2 :: oIf0 cEq 10 :: oLdA 0 :: oGetI 1 1 :: oPushI 1 :: oLdI 1 :: oBin (fun x y => x <<< (y &&& 31)) :: oBin (fun x y => x ||| y) :: oGoto 18 :: t15_10
theorem e15_0 : (opsOf 15).drop 0 = t15_0 := rfl
theorem e15_10 : (opsOf 15).drop 10 = t15_10 := rfl
theorem e15_18 : (opsOf 15).drop 18 = t15_18 := rfl
def q_Kept_setDoor_18 (w1 : Int32) (g : hG) : hO Unit :=
  wr (sI g 1 1 w1) fun g2 => some ((), g2)
theorem th15_18 {d : Nat} {w1 : Int32} {u1 : Option Value} {u2 : Option Value} {g : hG} (hF : Frz g) : Tri wU d 15 t15_18 [some (.ref 1), u1, u2] [.int w1, .ref 1] g (q_Kept_setDoor_18 w1 g) := by
  unfold q_Kept_setDoor_18
  refine tr_putI hF (fk_1 hF) (fun g2 _ hF3 => ?_)
  exact tr_retV hF3
def q_Kept_setDoor (v1 : Int32) (v2 : Int32) (g : hG) : hO Unit :=
  q_Kept_setDoor_18 (if v2 = (0 : Int32) then ((gI g 1 1) &&& ((shl (1 : Int32) v1) ^^^ (-1 : Int32))) else ((gI g 1 1) ||| (shl (1 : Int32) v1))) g
theorem tm15 {d : Nat} {v1 : Int32} {v2 : Int32} {g : hG} (hF : Frz g) : TM wU d 15 [.ref 1, .int v1, .int v2] g (q_Kept_setDoor v1 v2 g) := by
  refine TM.ofE e15_0 (lv := [some (.ref 1), some (.int v1), some (.int v2)]) rfl ?_
  unfold q_Kept_setDoor
  refine tr_ldA rfl (tr_ldI rfl (?_))
  refine tr_if0cE e15_10 (c_eq _ _) (fun hc4 => ?_) (fun hc4 => ?_)
  · rw [if_pos hc4]
    refine tr_ldA rfl (?_)
    refine tr_getI (fk_1 hF) (?_)
    refine tr_pushI (?_)
    refine tr_ldI rfl (?_)
    refine tr_bin (v := (shl (1 : Int32) v1)) rfl (?_)
    refine tr_pushI (?_)
    refine tr_bin (v := ((shl (1 : Int32) v1) ^^^ (-1 : Int32))) rfl (?_)
    refine tr_bin (v := ((gI g 1 1) &&& ((shl (1 : Int32) v1) ^^^ (-1 : Int32)))) rfl (?_)
    exact th15_18 hF
  · rw [if_neg hc4]
    refine tr_ldA rfl (?_)
    refine tr_getI (fk_1 hF) (?_)
    refine tr_pushI (?_)
    refine tr_ldI rfl (?_)
    refine tr_bin (v := (shl (1 : Int32) v1)) rfl (?_)
    refine tr_bin (v := ((gI g 1 1) ||| (shl (1 : Int32) v1))) rfl (?_)
    refine tr_gotoE e15_18 (?_)
    exact th15_18 hF
-- Notes_grant
abbrev t26_0 : List hOp := oLdA 0 :: oPushI 0 :: oPutI 3 1 :: oLdI 1 :: oRetI :: []
theorem e26_0 : (opsOf 26).drop 0 = t26_0 := rfl
def q_Notes_grant (v1 : Int32) (g : hG) : hO Int32 :=
  wr (sI g 263 1 (0 : Int32)) fun g1 => some (v1, g1)
theorem tm26 {d : Nat} {v1 : Int32} {g : hG} (hF : Frz g) : TM wI d 26 [.ref 263, .int v1] g (q_Notes_grant v1 g) := by
  refine TM.ofE e26_0 (lv := [some (.ref 263), some (.int v1)]) rfl ?_
  unfold q_Notes_grant
  refine tr_ldA rfl (tr_pushI (tr_putI hF (fk_263 hF) (fun g1 _ hF2 => tr_ldI rfl (?_))))
  exact tr_retI hF2
-- MP_door
abbrev t105_31 : List hOp := oInvV 15 1 2 :: oLdA 0 :: oGetP 11 19 :: oLdI 3 :: oInvV 26 3 1 :: oRetI :: []
abbrev t105_30 : List hOp := oPushI 0 :: t105_31
abbrev t105_21 : List hOp := oStI 3 :: oLdA 0 :: oGetP 11 0 :: oLdI 1 :: oLdI 2 :: oPushI 1 :: oIf cNe 30 :: oPushI 1 :: oGoto 31 :: t105_30
abbrev t105_20 : List hOp := oPushI 0 :: t105_21
abbrev t105_13 : List hOp := oLdA 0 :: oGetP 11 0 :: oLdI 1 :: oInvV 14 1 1 :: oIf0 cEq 20 :: oPushI 1 :: oGoto 21 :: t105_20
abbrev t105_8 : List hOp := oLdA 0 :: oGetP 11 19 :: oPushI (-1) :: oInvV 25 3 1 :: oRetI :: t105_13
abbrev t105_0 : List hOp := oLdI 1 :: oInvS 159 1 :: oIf0 cEq 8 :: oLdI 2 :: oIf0 cLt 8 :: oLdI 2 :: oPushI 1 :: oIf cLe 13 :: t105_8
theorem e105_0 : (opsOf 105).drop 0 = t105_0 := rfl
theorem e105_8 : (opsOf 105).drop 8 = t105_8 := rfl
theorem e105_13 : (opsOf 105).drop 13 = t105_13 := rfl
theorem e105_20 : (opsOf 105).drop 20 = t105_20 := rfl
theorem e105_21 : (opsOf 105).drop 21 = t105_21 := rfl
theorem e105_30 : (opsOf 105).drop 30 = t105_30 := rfl
theorem e105_31 : (opsOf 105).drop 31 = t105_31 := rfl
def q_MP_door_8 (g : hG) : hO Int32 :=
  bnd (q_Notes_refuse (-1 : Int32) g) fun r7 g5 => some (r7, g5)
theorem th105_8 {e : Nat} (he : 2 ≤ e + 1) {u1 : Option Value} {u2 : Option Value} {u3 : Option Value} (hu2 : isL (some u2) = false) {g : hG} (hF : Frz g) : Tri wI (e + 1) 105 t105_8 [some (.ref 0), u1, u2, u3] [] g (q_MP_door_8 g) := by
  unfold q_MP_door_8
  refine tr_ldA rfl (tr_getP (b := 263) (fk_0 hF) (fp_0_19 hF) (tr_pushI (?_)))
  refine tr_invVI rfl rfl (fk_263 hF) (Nat.le_of_ble_eq_true rfl) (by decide) (Nat.le_of_ble_eq_true rfl) (tm25 hF) (fun r7 g5 _ hF6 => ?_)
  exact tr_retI hF6
def q_MP_door_31 (v3 : Int32) (w1 : Int32) (w2 : Int32) (g : hG) : hO Int32 :=
  bnd (q_Kept_setDoor w1 w2 g) fun _ g15 => bnd (q_Notes_grant v3 g15) fun r19 g17 => some (r19, g17)
theorem th105_31 {e : Nat} (he : 2 ≤ e + 1) {v3 : Int32} {w1 : Int32} {w2 : Int32} {u1 : Option Value} {u2 : Option Value} (hu2 : isL (some u2) = false) {g : hG} (hF : Frz g) : Tri wI (e + 1) 105 t105_31 [some (.ref 0), u1, u2, some (.int v3)] [.int w2, .int w1, .ref 1] g (q_MP_door_31 v3 w1 w2 g) := by
  unfold q_MP_door_31
  refine tr_invVU rfl rfl (fk_1 hF) (Nat.le_of_ble_eq_true rfl) (by decide) (Nat.le_of_ble_eq_true rfl) (tm15 hF) (fun _ g15 _ hF16 => ?_)
  refine tr_ldA rfl (tr_getP (b := 263) (fk_0 hF16) (fp_0_19 hF16) (tr_ldI rfl (?_)))
  refine tr_invVI rfl rfl (fk_263 hF16) (Nat.le_of_ble_eq_true rfl) (by decide) (Nat.le_of_ble_eq_true rfl) (tm26 hF16) (fun r19 g17 _ hF18 => ?_)
  exact tr_retI hF18
def q_MP_door_21 (v1 : Int32) (v2 : Int32) (w0 : Int32) (g : hG) : hO Int32 :=
  q_MP_door_31 w0 v1 (if v2 = (1 : Int32) then (1 : Int32) else (0 : Int32)) g
theorem th105_21 {e : Nat} (he : 2 ≤ e + 1) {v1 : Int32} {v2 : Int32} {w0 : Int32} {u3 : Option Value} {g : hG} (hF : Frz g) : Tri wI (e + 1) 105 t105_21 [some (.ref 0), some (.int v1), some (.int v2), u3] [.int w0] g (q_MP_door_21 v1 v2 w0 g) := by
  unfold q_MP_door_21
  refine tr_stI (Nat.le_of_ble_eq_true rfl) rfl rfl (tr_ldA rfl (tr_getP (b := 1) (fk_0 hF) (fp_0_0 hF) (tr_ldI rfl (tr_ldI rfl (tr_pushI (?_))))))
  refine tr_ifcE e105_30 (c_ne _ _) (fun hc20 => ?_) (fun hc20 => ?_)
  · rw [if_neg hc20]
    refine tr_pushI (?_)
    exact th105_31 he rfl hF
  · rw [if_pos (Decidable.not_not.mp hc20)]
    refine tr_pushI (?_)
    refine tr_gotoE e105_31 (?_)
    exact th105_31 he rfl hF
def q_MP_door (v1 : Int32) (v2 : Int32) (g : hG) : hO Int32 :=
  bnd (q_MP_isCell v1 g) fun r3 g1 => if r3 = (0 : Int32) then (q_MP_door_8 g1) else (if v2 < (0 : Int32) then (q_MP_door_8 g1) else (if v2 ≤ (1 : Int32) then (bnd (q_Kept_hasDoor v1 g1) fun r12 g10 => q_MP_door_21 v1 v2 (if r12 = (0 : Int32) then (0 : Int32) else (1 : Int32)) g10) else (q_MP_door_8 g1)))
theorem tm105 {d : Nat} {v1 : Int32} {v2 : Int32} (hd : 2 ≤ d) {g : hG} (hF : Frz g) : TM wI d 105 [.ref 0, .int v1, .int v2] g (q_MP_door v1 v2 g) := by
  obtain ⟨e, rfl⟩ : ∃ e, d = e + 1 := ⟨d - 1, by omega⟩
  have he := hd
  refine TM.ofE e105_0 (lv := [some (.ref 0), some (.int v1), some (.int v2), none]) rfl ?_
  unfold q_MP_door
  refine tr_ldI rfl (?_)
  refine tr_invSI rfl rfl (Nat.le_of_ble_eq_true rfl) (Nat.le_of_ble_eq_true rfl) (by decide) (Nat.le_of_ble_eq_true rfl) (tm159 hF) (fun r3 g1 _ hF2 => ?_)
  refine tr_if0j e105_8 (c_eq _ _) (fun hc4 => ?_) (fun hc4 => ?_)
  · exact th105_8 he rfl hF2
  · refine tr_ldI rfl (?_)
    refine tr_if0j e105_8 (c_lt _ _) (fun hc8 => ?_) (fun hc8 => ?_)
    · exact th105_8 he rfl hF2
    · refine tr_ldI rfl (tr_pushI (?_))
      refine tr_ifj e105_13 (c_le _ _) (fun hc9 => ?_) (fun hc9 => ?_)
      · refine tr_ldA rfl (tr_getP (b := 1) (fk_0 hF2) (fp_0_0 hF2) (tr_ldI rfl (?_)))
        refine tr_invVI rfl rfl (fk_1 hF2) (Nat.le_of_ble_eq_true rfl) (by decide) (Nat.le_of_ble_eq_true rfl) (tm14 (by omega) hF2) (fun r12 g10 _ hF11 => ?_)
        refine tr_if0cE e105_20 (c_eq _ _) (fun hc21 => ?_) (fun hc21 => ?_)
        · rw [if_pos hc21]
          refine tr_pushI (?_)
          exact th105_21 he hF11
        · rw [if_neg hc21]
          refine tr_pushI (?_)
          refine tr_gotoE e105_21 (?_)
          exact th105_21 he hF11
      · exact th105_8 he rfl hF2
-- MP_isLetter
abbrev t160_8 : List hOp := oRetZ :: []
abbrev t160_7 : List hOp := oPushI 0 :: t160_8
abbrev t160_0 : List hOp := oLdI 0 :: oIf0 cLt 7 :: oLdI 0 :: oPushI 8 :: oIf cGe 7 :: oPushI 1 :: oGoto 8 :: t160_7
theorem e160_0 : (opsOf 160).drop 0 = t160_0 := rfl
theorem e160_7 : (opsOf 160).drop 7 = t160_7 := rfl
theorem e160_8 : (opsOf 160).drop 8 = t160_8 := rfl
def q_MP_isLetter (v0 : Int32) (g : hG) : hO Int32 :=
  if v0 < (0 : Int32) then (some ((0 : Int32), g)) else (if (8 : Int32) ≤ v0 then (some ((0 : Int32), g)) else (some ((1 : Int32), g)))
theorem tm160 {d : Nat} {v0 : Int32} {g : hG} (hF : Frz g) : TM wI d 160 [.int v0] g (q_MP_isLetter v0 g) := by
  refine TM.ofE e160_0 (lv := [some (.int v0)]) rfl ?_
  unfold q_MP_isLetter
  refine tr_ldI rfl (?_)
  refine tr_if0j e160_7 (c_lt _ _) (fun hc1 => ?_) (fun hc1 => ?_)
  · refine tr_pushI (?_)
    exact tr_retZl (Or.inl rfl) hF
  · refine tr_ldI rfl (tr_pushI (?_))
    refine tr_ifj e160_7 (c_ge _ _) (fun hc2 => ?_) (fun hc2 => ?_)
    · refine tr_pushI (?_)
      exact tr_retZl (Or.inl rfl) hF
    · refine tr_pushI (?_)
      refine tr_gotoE e160_8 (?_)
      exact tr_retZl (Or.inr rfl) hF
-- Mom_told
abbrev t18_22 : List hOp := oPushI (-1) :: oRetI :: []
abbrev t18_17 : List hOp := oLdA 0 :: oGetP 2 2 :: oLdI 1 :: oALdI 13 :: oRetI :: t18_22
abbrev t18_12 : List hOp := oLdA 0 :: oGetP 2 1 :: oLdI 1 :: oALdI 13 :: oRetI :: t18_17
abbrev t18_7 : List hOp := oLdA 0 :: oGetP 2 0 :: oLdI 1 :: oALdI 13 :: oRetI :: t18_12
abbrev t18_5 : List hOp := oLdI 2 :: oSw 0 [7, 12, 17] 22 :: t18_7
abbrev t18_0 : List hOp := oLdI 1 :: oInvS 160 1 :: oIf0 cNe 5 :: oPushI (-1) :: oRetI :: t18_5
theorem e18_0 : (opsOf 18).drop 0 = t18_0 := rfl
theorem e18_5 : (opsOf 18).drop 5 = t18_5 := rfl
theorem e18_7 : (opsOf 18).drop 7 = t18_7 := rfl
theorem e18_12 : (opsOf 18).drop 12 = t18_12 := rfl
theorem e18_17 : (opsOf 18).drop 17 = t18_17 := rfl
theorem e18_22 : (opsOf 18).drop 22 = t18_22 := rfl
def q_Mom_told (a0 : Nat) (v1 : Int32) (v2 : Int32) (g : hG) : hO Int32 :=
  bnd (q_MP_isLetter v1 g) fun r3 g1 => if r3 = (0 : Int32) then (some ((-1 : Int32), g1)) else (if v2 = (0 : Int32) then (gd v1 8 <| some ((gI g1 (a0 + 1) v1.toNatClampNeg), g1)) else if v2 = (1 : Int32) then (gd v1 8 <| some ((gI g1 (a0 + 2) v1.toNatClampNeg), g1)) else if v2 = (2 : Int32) then (gd v1 8 <| some ((gI g1 (a0 + 3) v1.toNatClampNeg), g1)) else (some ((-1 : Int32), g1)))
theorem tm18 {d : Nat} {a0 : Nat} {v1 : Int32} {v2 : Int32} (hd : 1 ≤ d) (h0 : is_mom a0 = true) {g : hG} (hF : Frz g) : TM wI d 18 [.ref a0, .int v1, .int v2] g (q_Mom_told a0 v1 v2 g) := by
  obtain ⟨e, rfl⟩ : ∃ e, d = e + 1 := ⟨d - 1, by omega⟩
  have he := hd
  refine TM.ofE e18_0 (lv := [some (.ref a0), some (.int v1), some (.int v2)]) rfl ?_
  unfold q_Mom_told
  refine tr_ldI rfl (?_)
  refine tr_invSI rfl rfl (Nat.le_of_ble_eq_true rfl) (Nat.le_of_ble_eq_true rfl) (by decide) (Nat.le_of_ble_eq_true rfl) (tm160 hF) (fun r3 g1 _ hF2 => ?_)
  refine tr_if0n e18_5 (c_ne _ _) (fun hc4 => ?_) (fun hc4 => ?_)
  · refine tr_ldI rfl (?_)
    refine tr_sw1E (c := (0 : Int32)) e18_7 rfl (fun _ => ?_) (fun _ => ?_)
    · refine tr_ldA rfl (tr_getP (b := (a0 + 1)) (mom_k hF2 h0) (mom_p0 hF2 h0) (tr_ldI rfl (tr_aldI (mom_ak1 hF2 h0) (mom_al1 hF2 h0) (fun _ => ?_))))
      exact tr_retI hF2
    refine tr_sw1E (c := (1 : Int32)) e18_12 rfl (fun _ => ?_) (fun _ => ?_)
    · refine tr_ldA rfl (tr_getP (b := (a0 + 2)) (mom_k hF2 h0) (mom_p1 hF2 h0) (tr_ldI rfl (tr_aldI (mom_ak2 hF2 h0) (mom_al2 hF2 h0) (fun _ => ?_))))
      exact tr_retI hF2
    refine tr_sw1E (c := (2 : Int32)) e18_17 rfl (fun _ => ?_) (fun _ => ?_)
    · refine tr_ldA rfl (tr_getP (b := (a0 + 3)) (mom_k hF2 h0) (mom_p2 hF2 h0) (tr_ldI rfl (tr_aldI (mom_ak3 hF2 h0) (mom_al3 hF2 h0) (fun _ => ?_))))
      exact tr_retI hF2
    refine tr_sw0E e18_22 ?_
    refine tr_pushI (?_)
    exact tr_retI hF2
  · refine tr_pushI (?_)
    exact tr_retI hF2
-- MP_letter
abbrev t106_0 : List hOp := oLdA 0 :: oGetP 11 1 :: oLdI 1 :: oLdI 2 :: oInvV 18 2 2 :: oRetI :: []
theorem e106_0 : (opsOf 106).drop 0 = t106_0 := rfl
def q_MP_letter (v1 : Int32) (v2 : Int32) (g : hG) : hO Int32 :=
  bnd (q_Mom_told 2 v1 v2 g) fun r3 g1 => some (r3, g1)
theorem tm106 {d : Nat} {v1 : Int32} {v2 : Int32} (hd : 2 ≤ d) {g : hG} (hF : Frz g) : TM wI d 106 [.ref 0, .int v1, .int v2] g (q_MP_letter v1 v2 g) := by
  obtain ⟨e, rfl⟩ : ∃ e, d = e + 1 := ⟨d - 1, by omega⟩
  have he := hd
  refine TM.ofE e106_0 (lv := [some (.ref 0), some (.int v1), some (.int v2)]) rfl ?_
  unfold q_MP_letter
  refine tr_ldA rfl (tr_getP (b := 2) (fk_0 hF) (fp_0_1 hF) (tr_ldI rfl (tr_ldI rfl (?_))))
  refine tr_invVI rfl rfl (fk_2 hF) (Nat.le_of_ble_eq_true rfl) (by decide) (Nat.le_of_ble_eq_true rfl) (tm18 (by omega) rfl hF) (fun r3 g1 _ hF2 => ?_)
  exact tr_retI hF2
-- MP_termNow
abbrev t108_16 : List hOp := oRetI :: []
abbrev t108_13 : List hOp := oLdA 0 :: oGetP 11 0 :: oGetI 1 3 :: t108_16
abbrev t108_6 : List hOp := oLdI 1 :: oPushI 1 :: oIf cNe 13 :: oLdA 0 :: oGetP 11 0 :: oGetI 1 2 :: oGoto 16 :: t108_13
abbrev t108_0 : List hOp := oLdI 1 :: oIf0 cNe 6 :: oLdA 0 :: oGetP 11 1 :: oGetI 2 4 :: oGoto 16 :: t108_6
theorem e108_0 : (opsOf 108).drop 0 = t108_0 := rfl
theorem e108_6 : (opsOf 108).drop 6 = t108_6 := rfl
theorem e108_13 : (opsOf 108).drop 13 = t108_13 := rfl
theorem e108_16 : (opsOf 108).drop 16 = t108_16 := rfl
def q_MP_termNow (v1 : Int32) (g : hG) : hO Int32 :=
  if v1 = (0 : Int32) then (some ((gI g 2 4), g)) else (if v1 = (1 : Int32) then (some ((gI g 1 2), g)) else (some ((gI g 1 3), g)))
theorem tm108 {d : Nat} {v1 : Int32} {g : hG} (hF : Frz g) : TM wI d 108 [.ref 0, .int v1] g (q_MP_termNow v1 g) := by
  refine TM.ofE e108_0 (lv := [some (.ref 0), some (.int v1)]) rfl ?_
  unfold q_MP_termNow
  refine tr_ldI rfl (?_)
  refine tr_if0n e108_6 (c_ne _ _) (fun hc1 => ?_) (fun hc1 => ?_)
  · refine tr_ldI rfl (tr_pushI (?_))
    refine tr_ifn e108_13 (c_ne _ _) (fun hc2 => ?_) (fun hc2 => ?_)
    · refine tr_ldA rfl (tr_getP (b := 1) (fk_0 hF) (fp_0_0 hF) (tr_getI (fk_1 hF) (?_)))
      exact tr_retI hF
    · refine tr_ldA rfl (tr_getP (b := 1) (fk_0 hF) (fp_0_0 hF) (tr_getI (fk_1 hF) (?_)))
      refine tr_gotoE e108_16 (?_)
      exact tr_retI hF
  · refine tr_ldA rfl (tr_getP (b := 2) (fk_0 hF) (fp_0_1 hF) (tr_getI (fk_2 hF) (?_)))
    refine tr_gotoE e108_16 (?_)
    exact tr_retI hF
-- Past_clear
abbrev t30_0 : List hOp := oLdA 0 :: oPushI 0 :: oPutI 4 2 :: oRetV :: []
theorem e30_0 : (opsOf 30).drop 0 = t30_0 := rfl
def q_Past_clear (g : hG) : hO Unit :=
  wr (sI g 54 2 (0 : Int32)) fun g1 => some ((), g1)
theorem tm30 {d : Nat} {g : hG} (hF : Frz g) : TM wU d 30 [.ref 54] g (q_Past_clear g) := by
  refine TM.ofE e30_0 (lv := [some (.ref 54)]) rfl ?_
  unfold q_Past_clear
  refine tr_ldA rfl (tr_pushI (tr_putI hF (fk_54 hF) (fun g1 _ hF2 => ?_)))
  exact tr_retV hF2
-- MP_terms
abbrev t107_49 : List hOp := oLdA 0 :: oGetP 11 4 :: oInvV 30 4 0 :: oLdA 0 :: oGetP 11 19 :: oLdI 4 :: oInvV 26 3 1 :: oRetI :: []
abbrev t107_45 : List hOp := oLdA 0 :: oGetP 11 0 :: oLdI 2 :: oPutI 1 3 :: t107_49
abbrev t107_37 : List hOp := oLdI 1 :: oPushI 1 :: oIf cNe 45 :: oLdA 0 :: oGetP 11 0 :: oLdI 2 :: oPutI 1 2 :: oGoto 49 :: t107_45
abbrev t107_26 : List hOp := oLdA 0 :: oLdI 1 :: oInvV 108 11 1 :: oStI 4 :: oLdI 1 :: oIf0 cNe 37 :: oLdA 0 :: oGetP 11 1 :: oLdI 2 :: oPutI 2 4 :: oGoto 49 :: t107_37
abbrev t107_21 : List hOp := oLdA 0 :: oGetP 11 19 :: oPushI (-1) :: oInvV 25 3 1 :: oRetI :: t107_26
abbrev t107_10 : List hOp := oStI 3 :: oLdI 1 :: oIf0 cLt 21 :: oLdI 1 :: oPushI 2 :: oIf cGt 21 :: oLdI 2 :: oIf0 cLt 21 :: oLdI 2 :: oLdI 3 :: oIf cLe 26 :: t107_21
abbrev t107_9 : List hOp := oPushI 9 :: t107_10
abbrev t107_4 : List hOp := oLdI 1 :: oPushI 1 :: oIf cNe 9 :: oPushI 10 :: oGoto 10 :: t107_9
abbrev t107_0 : List hOp := oLdI 1 :: oIf0 cNe 4 :: oPushI 999 :: oGoto 10 :: t107_4
theorem e107_0 : (opsOf 107).drop 0 = t107_0 := rfl
theorem e107_4 : (opsOf 107).drop 4 = t107_4 := rfl
theorem e107_9 : (opsOf 107).drop 9 = t107_9 := rfl
theorem e107_10 : (opsOf 107).drop 10 = t107_10 := rfl
theorem e107_21 : (opsOf 107).drop 21 = t107_21 := rfl
theorem e107_26 : (opsOf 107).drop 26 = t107_26 := rfl
theorem e107_37 : (opsOf 107).drop 37 = t107_37 := rfl
theorem e107_45 : (opsOf 107).drop 45 = t107_45 := rfl
theorem e107_49 : (opsOf 107).drop 49 = t107_49 := rfl
def q_MP_terms_21 (g : hG) : hO Int32 :=
  bnd (q_Notes_refuse (-1 : Int32) g) fun r5 g3 => some (r5, g3)
theorem th107_21 {e : Nat} (he : 1 ≤ e + 1) {u1 : Option Value} {u2 : Option Value} {u3 : Option Value} {u4 : Option Value} (hu2 : isL (some u2) = false) (hu3 : isL (some u3) = false) {g : hG} (hF : Frz g) : Tri wI (e + 1) 107 t107_21 [some (.ref 0), u1, u2, u3, u4] [] g (q_MP_terms_21 g) := by
  unfold q_MP_terms_21
  refine tr_ldA rfl (tr_getP (b := 263) (fk_0 hF) (fp_0_19 hF) (tr_pushI (?_)))
  refine tr_invVI rfl rfl (fk_263 hF) (Nat.le_of_ble_eq_true rfl) (by decide) (Nat.le_of_ble_eq_true rfl) (tm25 hF) (fun r5 g3 _ hF4 => ?_)
  exact tr_retI hF4
def q_MP_terms_49 (v4 : Int32) (g : hG) : hO Int32 :=
  bnd (q_Past_clear g) fun _ g16 => bnd (q_Notes_grant v4 g16) fun r20 g18 => some (r20, g18)
theorem th107_49 {e : Nat} (he : 1 ≤ e + 1) {v4 : Int32} {u1 : Option Value} {u2 : Option Value} {u3 : Option Value} (hu2 : isL (some u2) = false) (hu3 : isL (some u3) = false) {g : hG} (hF : Frz g) : Tri wI (e + 1) 107 t107_49 [some (.ref 0), u1, u2, u3, some (.int v4)] [] g (q_MP_terms_49 v4 g) := by
  unfold q_MP_terms_49
  refine tr_ldA rfl (tr_getP (b := 54) (fk_0 hF) (fp_0_4 hF) (?_))
  refine tr_invVU rfl rfl (fk_54 hF) (Nat.le_of_ble_eq_true rfl) (by decide) (Nat.le_of_ble_eq_true rfl) (tm30 hF) (fun _ g16 _ hF17 => ?_)
  refine tr_ldA rfl (tr_getP (b := 263) (fk_0 hF17) (fp_0_19 hF17) (tr_ldI rfl (?_)))
  refine tr_invVI rfl rfl (fk_263 hF17) (Nat.le_of_ble_eq_true rfl) (by decide) (Nat.le_of_ble_eq_true rfl) (tm26 hF17) (fun r20 g18 _ hF19 => ?_)
  exact tr_retI hF19
def q_MP_terms_10 (v1 : Int32) (v2 : Int32) (w0 : Int32) (g : hG) : hO Int32 :=
  if v1 < (0 : Int32) then (q_MP_terms_21 g) else (if (2 : Int32) < v1 then (q_MP_terms_21 g) else (if v2 < (0 : Int32) then (q_MP_terms_21 g) else (if v2 ≤ w0 then (bnd (q_MP_termNow v1 g) fun r11 g9 => if v1 = (0 : Int32) then (wr (sI g9 2 4 v2) fun g23 => q_MP_terms_49 r11 g23) else (if v1 = (1 : Int32) then (wr (sI g9 1 2 v2) fun g21 => q_MP_terms_49 r11 g21) else (wr (sI g9 1 3 v2) fun g14 => q_MP_terms_49 r11 g14))) else (q_MP_terms_21 g))))
theorem th107_10 {e : Nat} (he : 1 ≤ e + 1) {v1 : Int32} {v2 : Int32} {w0 : Int32} {u3 : Option Value} {u4 : Option Value} (hu3 : isL (some u3) = false) {g : hG} (hF : Frz g) : Tri wI (e + 1) 107 t107_10 [some (.ref 0), some (.int v1), some (.int v2), u3, u4] [.int w0] g (q_MP_terms_10 v1 v2 w0 g) := by
  unfold q_MP_terms_10
  refine tr_stI (Nat.le_of_ble_eq_true rfl) rfl rfl (tr_ldI rfl (?_))
  refine tr_if0j e107_21 (c_lt _ _) (fun hc2 => ?_) (fun hc2 => ?_)
  · exact th107_21 he rfl rfl hF
  · refine tr_ldI rfl (tr_pushI (?_))
    refine tr_ifj e107_21 (c_gt _ _) (fun hc6 => ?_) (fun hc6 => ?_)
    · exact th107_21 he rfl rfl hF
    · refine tr_ldI rfl (?_)
      refine tr_if0j e107_21 (c_lt _ _) (fun hc7 => ?_) (fun hc7 => ?_)
      · exact th107_21 he rfl rfl hF
      · refine tr_ldI rfl (tr_ldI rfl (?_))
        refine tr_ifj e107_26 (c_le _ _) (fun hc8 => ?_) (fun hc8 => ?_)
        · refine tr_ldA rfl (tr_ldI rfl (?_))
          refine tr_invVI rfl rfl (fk_0 hF) (Nat.le_of_ble_eq_true rfl) (by decide) (Nat.le_of_ble_eq_true rfl) (tm108 hF) (fun r11 g9 _ hF10 => ?_)
          refine tr_stI (Nat.le_of_ble_eq_true rfl) rfl rfl (tr_ldI rfl (?_))
          refine tr_if0n e107_37 (c_ne _ _) (fun hc12 => ?_) (fun hc12 => ?_)
          · refine tr_ldI rfl (tr_pushI (?_))
            refine tr_ifn e107_45 (c_ne _ _) (fun hc13 => ?_) (fun hc13 => ?_)
            · refine tr_ldA rfl (tr_getP (b := 1) (fk_0 hF10) (fp_0_0 hF10) (tr_ldI rfl (tr_putI hF10 (fk_1 hF10) (fun g14 _ hF15 => ?_))))
              exact th107_49 he rfl rfl hF15
            · refine tr_ldA rfl (tr_getP (b := 1) (fk_0 hF10) (fp_0_0 hF10) (tr_ldI rfl (tr_putI hF10 (fk_1 hF10) (fun g21 _ hF22 => ?_))))
              refine tr_gotoE e107_49 (?_)
              exact th107_49 he rfl rfl hF22
          · refine tr_ldA rfl (tr_getP (b := 2) (fk_0 hF10) (fp_0_1 hF10) (tr_ldI rfl (tr_putI hF10 (fk_2 hF10) (fun g23 _ hF24 => ?_))))
            refine tr_gotoE e107_49 (?_)
            exact th107_49 he rfl rfl hF24
        · exact th107_21 he rfl rfl hF
def q_MP_terms (v1 : Int32) (v2 : Int32) (g : hG) : hO Int32 :=
  q_MP_terms_10 v1 v2 (if v1 = (0 : Int32) then (999 : Int32) else (if v1 = (1 : Int32) then (10 : Int32) else (9 : Int32))) g
theorem tm107 {d : Nat} {v1 : Int32} {v2 : Int32} (hd : 1 ≤ d) {g : hG} (hF : Frz g) : TM wI d 107 [.ref 0, .int v1, .int v2] g (q_MP_terms v1 v2 g) := by
  obtain ⟨e, rfl⟩ : ∃ e, d = e + 1 := ⟨d - 1, by omega⟩
  have he := hd
  refine TM.ofE e107_0 (lv := [some (.ref 0), some (.int v1), some (.int v2), none, none]) rfl ?_
  unfold q_MP_terms
  refine tr_ldI rfl (?_)
  refine tr_if0cE e107_4 (c_ne _ _) (fun hc25 => ?_) (fun hc25 => ?_)
  · rw [if_neg hc25]
    refine tr_ldI rfl (?_)
    refine tr_pushI (?_)
    refine tr_ifcE e107_9 (c_ne _ _) (fun hc26 => ?_) (fun hc26 => ?_)
    · rw [if_neg hc26]
      refine tr_pushI (?_)
      exact th107_10 he rfl hF
    · rw [if_pos (Decidable.not_not.mp hc26)]
      refine tr_pushI (?_)
      refine tr_gotoE e107_10 (?_)
      exact th107_10 he rfl hF
  · rw [if_pos (Decidable.not_not.mp hc25)]
    refine tr_pushI (?_)
    refine tr_gotoE e107_10 (?_)
    exact th107_10 he rfl hF
-- Tape_hasRoom
abbrev t79_9 : List hOp := oRetZ :: []
abbrev t79_8 : List hOp := oPushI 0 :: t79_9
abbrev t79_0 : List hOp := oLdA 0 :: oGetI 8 1 :: oPushI 20 :: oBin (fun x y => x + y) :: oPushI 400 :: oIf cGt 8 :: oPushI 1 :: oGoto 9 :: t79_8
theorem e79_0 : (opsOf 79).drop 0 = t79_0 := rfl
theorem e79_8 : (opsOf 79).drop 8 = t79_8 := rfl
theorem e79_9 : (opsOf 79).drop 9 = t79_9 := rfl
def q_Tape_hasRoom (g : hG) : hO Int32 :=
  if (400 : Int32) < ((gI g 235 1) + (20 : Int32)) then (some ((0 : Int32), g)) else (some ((1 : Int32), g))
theorem tm79 {d : Nat} {g : hG} (hF : Frz g) : TM wI d 79 [.ref 235] g (q_Tape_hasRoom g) := by
  refine TM.ofE e79_0 (lv := [some (.ref 235)]) rfl ?_
  unfold q_Tape_hasRoom
  refine tr_ldA rfl (tr_getI (fk_235 hF) (tr_pushI (tr_bin (v := ((gI g 235 1) + (20 : Int32))) rfl (tr_pushI (?_)))))
  refine tr_ifj e79_8 (c_gt _ _) (fun hc1 => ?_) (fun hc1 => ?_)
  · refine tr_pushI (?_)
    exact tr_retZl (Or.inl rfl) hF
  · refine tr_pushI (?_)
    refine tr_gotoE e79_9 (?_)
    exact tr_retZl (Or.inr rfl) hF
-- Tape_add
abbrev t80_26 : List hOp := oRetV :: []
abbrev t80_2 : List hOp := oLdI 2 :: oIf0 cLt 26 :: oLdA 0 :: oGetI 8 1 :: oPushI 400 :: oIf cGe 26 :: oLdA 0 :: oGetP 8 0 :: oLdA 0 :: oGetI 8 1 :: oLdI 1 :: oLdI 2 :: oBin (fun x y => x >>> (y &&& 31)) :: oPushI 255 :: oBin (fun x y => x &&& y) :: oAStI :: oLdA 0 :: oDup :: oGetI 8 1 :: oPushI 1 :: oBin (fun x y => x + y) :: oPutI 8 1 :: oInc 2 (-8) :: oGoto 2 :: t80_26
abbrev t80_0 : List hOp := oPushI 24 :: oStI 2 :: t80_2
theorem e80_0 : (opsOf 80).drop 0 = t80_0 := rfl
theorem e80_2 : (opsOf 80).drop 2 = t80_2 := rfl
theorem e80_26 : (opsOf 80).drop 26 = t80_26 := rfl
def q_Tape_add_2 (v1 : Int32) (k26 : hG → hO Unit) (k2 : Int32 → hG → hO Unit) (v2 : Int32) (g : hG) : hO Unit :=
  if v2 < (0 : Int32) then (k26 g) else (if (400 : Int32) ≤ (gI g 235 1) then (k26 g) else (gd (gI g 235 1) 400 <| wr (sI g 236 (gI g 235 1).toNatClampNeg ((shr v1 v2) &&& (255 : Int32))) fun g3 => wr (sI g3 235 1 ((gI g3 235 1) + (1 : Int32))) fun g5 => k2 (v2 + (-8 : Int32)) g5))
def q_Tape_add_2L (v1 : Int32) (k26 : hG → hO Unit) : Nat → Int32 → hG → hO Unit
  | 0 => fun _ _ => none
  | n + 1 => fun v2 g => q_Tape_add_2 v1 k26 (q_Tape_add_2L v1 k26 n) v2 g
theorem q_Tape_add_2L_s (v1 : Int32) (k26 : hG → hO Unit) (n : Nat) (v2 : Int32) (g : hG) : q_Tape_add_2L v1 k26 (n + 1) v2 g = q_Tape_add_2 v1 k26 (q_Tape_add_2L v1 k26 n) v2 g := rfl
theorem th80_2 {d : Nat} {v1 : Int32} {k26 : hG → hO Unit} {k2 : Int32 → hG → hO Unit} {v2 : Int32} (hk26 : ∀ (y2 : Option Value) (g : hG), Frz g → Tri wU d 80 t80_26 [some (.ref 235), some (.int v1), y2] [] g (k26 g)) (hk2 : ∀ (x2 : Int32) (g : hG), Frz g → Tri wU d 80 t80_2 [some (.ref 235), some (.int v1), some (.int x2)] [] g (k2 x2 g)) {g : hG} (hF : Frz g) : Tri wU d 80 t80_2 [some (.ref 235), some (.int v1), some (.int v2)] [] g (q_Tape_add_2 v1 k26 k2 v2 g) := by
  unfold q_Tape_add_2
  refine tr_ldI rfl (?_)
  refine tr_if0j e80_26 (c_lt _ _) (fun hc1 => ?_) (fun hc1 => ?_)
  · exact hk26 _ _ hF
  · refine tr_ldA rfl (tr_getI (fk_235 hF) (tr_pushI (?_)))
    refine tr_ifj e80_26 (c_ge _ _) (fun hc2 => ?_) (fun hc2 => ?_)
    · exact hk26 _ _ hF
    · refine tr_ldA rfl (tr_getP (b := 236) (fk_235 hF) (fp_235_0 hF) (tr_ldA rfl (tr_getI (fk_235 hF) (tr_ldI rfl (tr_ldI rfl (?_))))))
      refine tr_bin (v := (shr v1 v2)) rfl (tr_pushI (tr_bin (v := ((shr v1 v2) &&& (255 : Int32))) rfl (tr_astI hF (fk_236 hF) (fl_236 hF) (fun _ g3 _ hF4 => tr_ldA rfl (tr_dupA (?_))))))
      refine tr_getI (fk_235 hF4) (tr_pushI (tr_bin (v := ((gI g3 235 1) + (1 : Int32))) rfl (tr_putI hF4 (fk_235 hF4) (fun g5 _ hF6 => tr_inc rfl rfl rfl (?_)))))
      refine tr_gotoE e80_2 (?_)
      exact hk2 _ _ hF6
theorem th80_2L {d : Nat} {v1 : Int32} {k26 : hG → hO Unit} (hk26 : ∀ (y2 : Option Value) (g : hG), Frz g → Tri wU d 80 t80_26 [some (.ref 235), some (.int v1), y2] [] g (k26 g)) : ∀ (n : Nat) (v2 : Int32) (g : hG), Frz g → Tri wU d 80 t80_2 [some (.ref 235), some (.int v1), some (.int v2)] [] g (q_Tape_add_2L v1 k26 n v2 g)
  | 0 => fun _ _ _ => Tri.none_
  | n + 1 => fun _ g hF => th80_2 hk26 (th80_2L hk26 n) hF
def q_Tape_add (v1 : Int32) (g : hG) : hO Unit :=
  q_Tape_add_2L v1 (fun g8 => some ((), g8)) FU (24 : Int32) g
theorem tm80 {d : Nat} {v1 : Int32} {g : hG} (hF : Frz g) : TM wU d 80 [.ref 235, .int v1] g (q_Tape_add v1 g) := by
  refine TM.ofE e80_0 (lv := [some (.ref 235), some (.int v1), none]) rfl ?_
  unfold q_Tape_add
  refine tr_pushI (tr_stI (Nat.le_of_ble_eq_true rfl) rfl rfl (?_))
  refine th80_2L (fun y7 g8 hF9 => ?_) FU _ _ hF
  · exact tr_retV hF9
