-- MP_feed
abbrev t109_6 : List hOp := oLdA 0 :: oGetP 11 10 :: oLdI 1 :: oInvV 80 8 1 :: oLdA 0 :: oGetP 11 10 :: oLdI 2 :: oInvV 80 8 1 :: oLdA 0 :: oGetP 11 10 :: oLdI 3 :: oInvV 80 8 1 :: oLdA 0 :: oGetP 11 10 :: oLdI 4 :: oInvV 80 8 1 :: oLdA 0 :: oGetP 11 10 :: oLdI 5 :: oInvV 80 8 1 :: oLdA 0 :: oGetP 11 10 :: oGetI 8 1 :: oRetI :: []
abbrev t109_0 : List hOp := oLdA 0 :: oGetP 11 10 :: oInvV 79 8 0 :: oIf0 cNe 6 :: oPushI (-1) :: oRetI :: t109_6
theorem e109_0 : (opsOf 109).drop 0 = t109_0 := rfl
theorem e109_6 : (opsOf 109).drop 6 = t109_6 := rfl
def q_MP_feed (v1 : Int32) (v2 : Int32) (v3 : Int32) (v4 : Int32) (v5 : Int32) (g : hG) : hO Int32 :=
  bnd (q_Tape_hasRoom g) fun r3 g1 => if r3 = (0 : Int32) then (some ((-1 : Int32), g1)) else (bnd (q_Tape_add v1 g1) fun _ g5 => bnd (q_Tape_add v2 g5) fun _ g7 => bnd (q_Tape_add v3 g7) fun _ g9 => bnd (q_Tape_add v4 g9) fun _ g11 => bnd (q_Tape_add v5 g11) fun _ g13 => some ((gI g13 235 1), g13))
theorem tm109 {d : Nat} {v1 : Int32} {v2 : Int32} {v3 : Int32} {v4 : Int32} {v5 : Int32} (hd : 1 ≤ d) {g : hG} (hF : Frz g) : TM wI d 109 [.ref 0, .int v1, .int v2, .int v3, .int v4, .int v5] g (q_MP_feed v1 v2 v3 v4 v5 g) := by
  obtain ⟨e, rfl⟩ : ∃ e, d = e + 1 := ⟨d - 1, by omega⟩
  have he := hd
  refine TM.ofE e109_0 (lv := [some (.ref 0), some (.int v1), some (.int v2), some (.int v3), some (.int v4), some (.int v5)]) rfl ?_
  unfold q_MP_feed
  refine tr_ldA rfl (tr_getP (b := 235) (fk_0 hF) (fp_0_10 hF) (?_))
  refine tr_invVI rfl rfl (fk_235 hF) (Nat.le_of_ble_eq_true rfl) (by decide) (Nat.le_of_ble_eq_true rfl) (tm79 hF) (fun r3 g1 _ hF2 => ?_)
  refine tr_if0n e109_6 (c_ne _ _) (fun hc4 => ?_) (fun hc4 => ?_)
  · refine tr_ldA rfl (tr_getP (b := 235) (fk_0 hF2) (fp_0_10 hF2) (tr_ldI rfl (?_)))
    refine tr_invVU rfl rfl (fk_235 hF2) (Nat.le_of_ble_eq_true rfl) (by decide) (Nat.le_of_ble_eq_true rfl) (tm80 hF2) (fun _ g5 _ hF6 => ?_)
    refine tr_ldA rfl (tr_getP (b := 235) (fk_0 hF6) (fp_0_10 hF6) (tr_ldI rfl (?_)))
    refine tr_invVU rfl rfl (fk_235 hF6) (Nat.le_of_ble_eq_true rfl) (by decide) (Nat.le_of_ble_eq_true rfl) (tm80 hF6) (fun _ g7 _ hF8 => ?_)
    refine tr_ldA rfl (tr_getP (b := 235) (fk_0 hF8) (fp_0_10 hF8) (tr_ldI rfl (?_)))
    refine tr_invVU rfl rfl (fk_235 hF8) (Nat.le_of_ble_eq_true rfl) (by decide) (Nat.le_of_ble_eq_true rfl) (tm80 hF8) (fun _ g9 _ hF10 => ?_)
    refine tr_ldA rfl (tr_getP (b := 235) (fk_0 hF10) (fp_0_10 hF10) (tr_ldI rfl (?_)))
    refine tr_invVU rfl rfl (fk_235 hF10) (Nat.le_of_ble_eq_true rfl) (by decide) (Nat.le_of_ble_eq_true rfl) (tm80 hF10) (fun _ g11 _ hF12 => ?_)
    refine tr_ldA rfl (tr_getP (b := 235) (fk_0 hF12) (fp_0_10 hF12) (tr_ldI rfl (?_)))
    refine tr_invVU rfl rfl (fk_235 hF12) (Nat.le_of_ble_eq_true rfl) (by decide) (Nat.le_of_ble_eq_true rfl) (tm80 hF12) (fun _ g13 _ hF14 => ?_)
    refine tr_ldA rfl (tr_getP (b := 235) (fk_0 hF14) (fp_0_10 hF14) (tr_getI (fk_235 hF14) (?_)))
    exact tr_retI hF14
  · refine tr_pushI (?_)
    exact tr_retI hF2
-- MP_end
abbrev t110_9 : List hOp := oLdA 0 :: oGetP 11 10 :: oLdI 1 :: oPutI 8 1 :: oLdI 1 :: oRetI :: []
abbrev t110_7 : List hOp := oPushI (-1) :: oRetI :: t110_9
abbrev t110_0 : List hOp := oLdI 1 :: oIf0 cLt 7 :: oLdI 1 :: oLdA 0 :: oGetP 11 10 :: oGetI 8 1 :: oIf cLe 9 :: t110_7
theorem e110_0 : (opsOf 110).drop 0 = t110_0 := rfl
theorem e110_7 : (opsOf 110).drop 7 = t110_7 := rfl
theorem e110_9 : (opsOf 110).drop 9 = t110_9 := rfl
def q_MP_end (v1 : Int32) (g : hG) : hO Int32 :=
  if v1 < (0 : Int32) then (some ((-1 : Int32), g)) else (if v1 ≤ (gI g 235 1) then (wr (sI g 235 1 v1) fun g3 => some (v1, g3)) else (some ((-1 : Int32), g)))
theorem tm110 {d : Nat} {v1 : Int32} {g : hG} (hF : Frz g) : TM wI d 110 [.ref 0, .int v1] g (q_MP_end v1 g) := by
  refine TM.ofE e110_0 (lv := [some (.ref 0), some (.int v1)]) rfl ?_
  unfold q_MP_end
  refine tr_ldI rfl (?_)
  refine tr_if0j e110_7 (c_lt _ _) (fun hc1 => ?_) (fun hc1 => ?_)
  · refine tr_pushI (?_)
    exact tr_retI hF
  · refine tr_ldI rfl (tr_ldA rfl (tr_getP (b := 235) (fk_0 hF) (fp_0_10 hF) (tr_getI (fk_235 hF) (?_))))
    refine tr_ifj e110_9 (c_le _ _) (fun hc2 => ?_) (fun hc2 => ?_)
    · refine tr_ldA rfl (tr_getP (b := 235) (fk_0 hF) (fp_0_10 hF) (tr_ldI rfl (tr_putI hF (fk_235 hF) (fun g3 _ hF4 => tr_ldI rfl (?_)))))
      exact tr_retI hF4
    · refine tr_pushI (?_)
      exact tr_retI hF
-- MP_tellCell
abbrev t112_57 : List hOp := oInvV 15 1 2 :: oPushI 1 :: oRetZ :: []
abbrev t112_56 : List hOp := oPushI 0 :: t112_57
abbrev t112_42 : List hOp := oLdA 0 :: oGetP 11 1 :: oGetP 2 3 :: oLdI 2 :: oLdI 3 :: oAStI :: oLdA 0 :: oGetP 11 0 :: oLdI 2 :: oLdI 4 :: oPushI 1 :: oIf cNe 56 :: oPushI 1 :: oGoto 57 :: t112_56
abbrev t112_40 : List hOp := oPushI 0 :: oRetZ :: t112_42
abbrev t112_9 : List hOp := oLdA 0 :: oGetP 11 10 :: oGetP 8 0 :: oLdI 1 :: oALdI 13 :: oStI 2 :: oLdA 0 :: oGetP 11 10 :: oGetP 8 0 :: oLdI 1 :: oPushI 1 :: oBin (fun x y => x + y) :: oALdI 13 :: oStI 3 :: oLdA 0 :: oGetP 11 10 :: oGetP 8 0 :: oLdI 1 :: oPushI 2 :: oBin (fun x y => x + y) :: oALdI 13 :: oStI 4 :: oLdI 2 :: oInvS 159 1 :: oIf0 cEq 40 :: oLdI 3 :: oPushI 9 :: oIf cGt 40 :: oLdI 4 :: oPushI 1 :: oIf cLe 42 :: t112_40
abbrev t112_0 : List hOp := oLdI 1 :: oPushI 2 :: oBin (fun x y => x + y) :: oLdA 0 :: oGetP 11 10 :: oGetI 8 1 :: oIf cLt 9 :: oPushI 0 :: oRetZ :: t112_9
theorem e112_0 : (opsOf 112).drop 0 = t112_0 := rfl
theorem e112_9 : (opsOf 112).drop 9 = t112_9 := rfl
theorem e112_40 : (opsOf 112).drop 40 = t112_40 := rfl
theorem e112_42 : (opsOf 112).drop 42 = t112_42 := rfl
theorem e112_56 : (opsOf 112).drop 56 = t112_56 := rfl
theorem e112_57 : (opsOf 112).drop 57 = t112_57 := rfl
def q_MP_tellCell_57 (w1 : Int32) (w2 : Int32) (g : hG) : hO Int32 :=
  bnd (q_Kept_setDoor w1 w2 g) fun _ g11 => some ((1 : Int32), g11)
theorem th112_57 {e : Nat} (he : 1 ≤ e + 1) {w1 : Int32} {w2 : Int32} {u1 : Option Value} {u2 : Option Value} {u3 : Option Value} {u4 : Option Value} (hu1 : isL (some u1) = false) (hu2 : isL (some u2) = false) (hu3 : isL (some u3) = false) {g : hG} (hF : Frz g) : Tri wI (e + 1) 112 t112_57 [some (.ref 0), u1, u2, u3, u4] [.int w2, .int w1, .ref 1] g (q_MP_tellCell_57 w1 w2 g) := by
  unfold q_MP_tellCell_57
  refine tr_invVU rfl rfl (fk_1 hF) (Nat.le_of_ble_eq_true rfl) (by decide) (Nat.le_of_ble_eq_true rfl) (tm15 hF) (fun _ g11 _ hF12 => ?_)
  refine tr_pushI (?_)
  exact tr_retZl (Or.inr rfl) hF12
def q_MP_tellCell (v1 : Int32) (g : hG) : hO Int32 :=
  if (v1 + (2 : Int32)) < (gI g 235 1) then (gd v1 400 <| gd (v1 + (1 : Int32)) 400 <| gd (v1 + (2 : Int32)) 400 <| bnd (q_MP_isCell (gI g 236 v1.toNatClampNeg) g) fun r4 g2 => if r4 = (0 : Int32) then (some ((0 : Int32), g2)) else (if (9 : Int32) < (gI g 236 (v1 + (1 : Int32)).toNatClampNeg) then (some ((0 : Int32), g2)) else (if (gI g 236 (v1 + (2 : Int32)).toNatClampNeg) ≤ (1 : Int32) then (gd (gI g 236 v1.toNatClampNeg) 25 <| wr (sI g2 6 (gI g 236 v1.toNatClampNeg).toNatClampNeg (gI g 236 (v1 + (1 : Int32)).toNatClampNeg)) fun g8 => q_MP_tellCell_57 (gI g 236 v1.toNatClampNeg) (if (gI g 236 (v1 + (2 : Int32)).toNatClampNeg) = (1 : Int32) then (1 : Int32) else (0 : Int32)) g8) else (some ((0 : Int32), g2))))) else (some ((0 : Int32), g))
theorem tm112 {d : Nat} {v1 : Int32} (hd : 1 ≤ d) {g : hG} (hF : Frz g) : TM wI d 112 [.ref 0, .int v1] g (q_MP_tellCell v1 g) := by
  obtain ⟨e, rfl⟩ : ∃ e, d = e + 1 := ⟨d - 1, by omega⟩
  have he := hd
  refine TM.ofE e112_0 (lv := [some (.ref 0), some (.int v1), none, none, none]) rfl ?_
  unfold q_MP_tellCell
  refine tr_ldI rfl (tr_pushI (tr_bin (v := (v1 + (2 : Int32))) rfl (tr_ldA rfl (tr_getP (b := 235) (fk_0 hF) (fp_0_10 hF) (tr_getI (fk_235 hF) (?_))))))
  refine tr_ifj e112_9 (c_lt _ _) (fun hc1 => ?_) (fun hc1 => ?_)
  · refine tr_ldA rfl (tr_getP (b := 235) (fk_0 hF) (fp_0_10 hF) (tr_getP (b := 236) (fk_235 hF) (fp_235_0 hF) (tr_ldI rfl (tr_aldI (fk_236 hF) (fl_236 hF) (fun _ => tr_stI (Nat.le_of_ble_eq_true rfl) rfl rfl (?_))))))
    refine tr_ldA rfl (tr_getP (b := 235) (fk_0 hF) (fp_0_10 hF) (tr_getP (b := 236) (fk_235 hF) (fp_235_0 hF) (tr_ldI rfl (tr_pushI (tr_bin (v := (v1 + (1 : Int32))) rfl (?_))))))
    refine tr_aldI (fk_236 hF) (fl_236 hF) (fun _ => tr_stI (Nat.le_of_ble_eq_true rfl) rfl rfl (tr_ldA rfl (tr_getP (b := 235) (fk_0 hF) (fp_0_10 hF) (tr_getP (b := 236) (fk_235 hF) (fp_235_0 hF) (tr_ldI rfl (?_))))))
    refine tr_pushI (tr_bin (v := (v1 + (2 : Int32))) rfl (tr_aldI (fk_236 hF) (fl_236 hF) (fun _ => tr_stI (Nat.le_of_ble_eq_true rfl) rfl rfl (tr_ldI rfl (?_)))))
    refine tr_invSI rfl rfl (Nat.le_of_ble_eq_true rfl) (Nat.le_of_ble_eq_true rfl) (by decide) (Nat.le_of_ble_eq_true rfl) (tm159 hF) (fun r4 g2 _ hF3 => ?_)
    refine tr_if0j e112_40 (c_eq _ _) (fun hc5 => ?_) (fun hc5 => ?_)
    · refine tr_pushI (?_)
      exact tr_retZl (Or.inl rfl) hF3
    · refine tr_ldI rfl (tr_pushI (?_))
      refine tr_ifj e112_40 (c_gt _ _) (fun hc6 => ?_) (fun hc6 => ?_)
      · refine tr_pushI (?_)
        exact tr_retZl (Or.inl rfl) hF3
      · refine tr_ldI rfl (tr_pushI (?_))
        refine tr_ifj e112_42 (c_le _ _) (fun hc7 => ?_) (fun hc7 => ?_)
        · refine tr_ldA rfl (tr_getP (b := 2) (fk_0 hF3) (fp_0_1 hF3) (tr_getP (b := 6) (fk_2 hF3) (fp_2_3 hF3) (tr_ldI rfl (tr_ldI rfl (tr_astI hF3 (fk_6 hF3) (fl_6 hF3) (fun _ g8 _ hF9 => ?_))))))
          refine tr_ldA rfl (tr_getP (b := 1) (fk_0 hF9) (fp_0_0 hF9) (tr_ldI rfl (tr_ldI rfl (tr_pushI (?_)))))
          refine tr_ifcE e112_56 (c_ne _ _) (fun hc13 => ?_) (fun hc13 => ?_)
          · rw [if_neg hc13]
            refine tr_pushI (?_)
            exact th112_57 he rfl rfl rfl hF9
          · rw [if_pos (Decidable.not_not.mp hc13)]
            refine tr_pushI (?_)
            refine tr_gotoE e112_57 (?_)
            exact th112_57 he rfl rfl rfl hF9
        · refine tr_pushI (?_)
          exact tr_retZl (Or.inl rfl) hF3
  · refine tr_pushI (?_)
    exact tr_retZl (Or.inl rfl) hF
-- MP_row
abbrev t111_29 : List hOp := oLdA 0 :: oGetP 11 10 :: oPushI 0 :: oPutI 8 1 :: oLdA 0 :: oGetP 11 19 :: oLdI 2 :: oPutI 3 4 :: oLdA 0 :: oGetP 11 4 :: oInvV 30 4 0 :: oLdA 0 :: oGetP 11 19 :: oLdI 1 :: oInvV 26 3 1 :: oRetI :: []
abbrev t111_27 : List hOp := oInc 3 3 :: oGoto 15 :: t111_29
abbrev t111_26 : List hOp := oInc 2 1 :: t111_27
abbrev t111_15 : List hOp := oLdI 3 :: oLdA 0 :: oGetP 11 10 :: oGetI 8 1 :: oIf cGe 29 :: oLdA 0 :: oLdI 3 :: oInvV 112 11 1 :: oIf0 cEq 26 :: oInc 1 1 :: oGoto 27 :: t111_26
abbrev t111_9 : List hOp := oPushI 0 :: oStI 1 :: oPushI 0 :: oStI 2 :: oPushI 0 :: oStI 3 :: t111_15
abbrev t111_0 : List hOp := oLdA 0 :: oGetP 11 10 :: oGetI 8 1 :: oIf0 cNe 9 :: oLdA 0 :: oGetP 11 19 :: oPushI (-6) :: oInvV 25 3 1 :: oRetI :: t111_9
theorem e111_0 : (opsOf 111).drop 0 = t111_0 := rfl
theorem e111_9 : (opsOf 111).drop 9 = t111_9 := rfl
theorem e111_15 : (opsOf 111).drop 15 = t111_15 := rfl
theorem e111_26 : (opsOf 111).drop 26 = t111_26 := rfl
theorem e111_27 : (opsOf 111).drop 27 = t111_27 := rfl
theorem e111_29 : (opsOf 111).drop 29 = t111_29 := rfl
def q_MP_row_15 (k29 : Int32 → Int32 → hG → hO Int32) (k15 : Int32 → Int32 → Int32 → hG → hO Int32) (v1 : Int32) (v2 : Int32) (v3 : Int32) (g : hG) : hO Int32 :=
  if (gI g 235 1) ≤ v3 then (k29 v1 v2 g) else (bnd (q_MP_tellCell v3 g) fun r5 g3 => if r5 = (0 : Int32) then (k15 v1 (v2 + (1 : Int32)) (v3 + (3 : Int32)) g3) else (k15 (v1 + (1 : Int32)) v2 (v3 + (3 : Int32)) g3))
def q_MP_row_15L (k29 : Int32 → Int32 → hG → hO Int32) : Nat → Int32 → Int32 → Int32 → hG → hO Int32
  | 0 => fun _ _ _ _ => none
  | n + 1 => fun v1 v2 v3 g => q_MP_row_15 k29 (q_MP_row_15L k29 n) v1 v2 v3 g
theorem q_MP_row_15L_s (k29 : Int32 → Int32 → hG → hO Int32) (n : Nat) (v1 : Int32) (v2 : Int32) (v3 : Int32) (g : hG) : q_MP_row_15L k29 (n + 1) v1 v2 v3 g = q_MP_row_15 k29 (q_MP_row_15L k29 n) v1 v2 v3 g := rfl
theorem th111_15 {e : Nat} (he : 2 ≤ e + 1) {k29 : Int32 → Int32 → hG → hO Int32} {k15 : Int32 → Int32 → Int32 → hG → hO Int32} {v1 : Int32} {v2 : Int32} {v3 : Int32} (hk29 : ∀ (x1 : Int32) (x2 : Int32) (y3 : Option Value) (g : hG), Frz g → Tri wI (e + 1) 111 t111_29 [some (.ref 0), some (.int x1), some (.int x2), y3] [] g (k29 x1 x2 g)) (hk15 : ∀ (x1 : Int32) (x2 : Int32) (x3 : Int32) (g : hG), Frz g → Tri wI (e + 1) 111 t111_15 [some (.ref 0), some (.int x1), some (.int x2), some (.int x3)] [] g (k15 x1 x2 x3 g)) {g : hG} (hF : Frz g) : Tri wI (e + 1) 111 t111_15 [some (.ref 0), some (.int v1), some (.int v2), some (.int v3)] [] g (q_MP_row_15 k29 k15 v1 v2 v3 g) := by
  unfold q_MP_row_15
  refine tr_ldI rfl (tr_ldA rfl (tr_getP (b := 235) (fk_0 hF) (fp_0_10 hF) (tr_getI (fk_235 hF) (?_))))
  refine tr_ifj e111_29 (c_ge _ _) (fun hc2 => ?_) (fun hc2 => ?_)
  · exact hk29 _ _ _ _ hF
  · refine tr_ldA rfl (tr_ldI rfl (?_))
    refine tr_invVI rfl rfl (fk_0 hF) (Nat.le_of_ble_eq_true rfl) (by decide) (Nat.le_of_ble_eq_true rfl) (tm112 (by omega) hF) (fun r5 g3 _ hF4 => ?_)
    refine tr_if0j e111_26 (c_eq _ _) (fun hc6 => ?_) (fun hc6 => ?_)
    · refine tr_inc rfl rfl rfl (tr_inc rfl rfl rfl (?_))
      refine tr_gotoE e111_15 (?_)
      exact hk15 _ _ _ _ hF4
    · refine tr_inc rfl rfl rfl (?_)
      refine tr_gotoE e111_27 (?_)
      refine tr_inc rfl rfl rfl (?_)
      refine tr_gotoE e111_15 (?_)
      exact hk15 _ _ _ _ hF4
theorem th111_15L {e : Nat} (he : 2 ≤ e + 1) {k29 : Int32 → Int32 → hG → hO Int32} (hk29 : ∀ (x1 : Int32) (x2 : Int32) (y3 : Option Value) (g : hG), Frz g → Tri wI (e + 1) 111 t111_29 [some (.ref 0), some (.int x1), some (.int x2), y3] [] g (k29 x1 x2 g)) : ∀ (n : Nat) (v1 : Int32) (v2 : Int32) (v3 : Int32) (g : hG), Frz g → Tri wI (e + 1) 111 t111_15 [some (.ref 0), some (.int v1), some (.int v2), some (.int v3)] [] g (q_MP_row_15L k29 n v1 v2 v3 g)
  | 0 => fun _ _ _ _ _ => Tri.none_
  | n + 1 => fun _ _ _ g hF => th111_15 he hk29 (th111_15L he hk29 n) hF
def q_MP_row (g : hG) : hO Int32 :=
  if (gI g 235 1) = (0 : Int32) then (bnd (q_Notes_refuse (-6 : Int32) g) fun r23 g21 => some (r23, g21)) else (q_MP_row_15L (fun x7 x8 g10 => wr (sI g10 235 1 (0 : Int32)) fun g12 => wr (sI g12 263 4 x8) fun g14 => bnd (q_Past_clear g14) fun _ g16 => bnd (q_Notes_grant x7 g16) fun r20 g18 => some (r20, g18)) FU (0 : Int32) (0 : Int32) (0 : Int32) g)
theorem tm111 {d : Nat} (hd : 2 ≤ d) {g : hG} (hF : Frz g) : TM wI d 111 [.ref 0] g (q_MP_row g) := by
  obtain ⟨e, rfl⟩ : ∃ e, d = e + 1 := ⟨d - 1, by omega⟩
  have he := hd
  refine TM.ofE e111_0 (lv := [some (.ref 0), none, none, none]) rfl ?_
  unfold q_MP_row
  refine tr_ldA rfl (tr_getP (b := 235) (fk_0 hF) (fp_0_10 hF) (tr_getI (fk_235 hF) (?_)))
  refine tr_if0n e111_9 (c_ne _ _) (fun hc1 => ?_) (fun hc1 => ?_)
  · refine tr_pushI (tr_stI (Nat.le_of_ble_eq_true rfl) rfl rfl (tr_pushI (tr_stI (Nat.le_of_ble_eq_true rfl) rfl rfl (tr_pushI (tr_stI (Nat.le_of_ble_eq_true rfl) rfl rfl (?_))))))
    refine th111_15L he (fun x7 x8 y9 g10 hF11 => ?_) FU _ _ _ _ hF
    · refine tr_ldA rfl (tr_getP (b := 235) (fk_0 hF11) (fp_0_10 hF11) (tr_pushI (tr_putI hF11 (fk_235 hF11) (fun g12 _ hF13 => tr_ldA rfl (tr_getP (b := 263) (fk_0 hF13) (fp_0_19 hF13) (?_))))))
      refine tr_ldI rfl (tr_putI hF13 (fk_263 hF13) (fun g14 _ hF15 => tr_ldA rfl (tr_getP (b := 54) (fk_0 hF15) (fp_0_4 hF15) (?_))))
      refine tr_invVU rfl rfl (fk_54 hF15) (Nat.le_of_ble_eq_true rfl) (by decide) (Nat.le_of_ble_eq_true rfl) (tm30 hF15) (fun _ g16 _ hF17 => ?_)
      refine tr_ldA rfl (tr_getP (b := 263) (fk_0 hF17) (fp_0_19 hF17) (tr_ldI rfl (?_)))
      refine tr_invVI rfl rfl (fk_263 hF17) (Nat.le_of_ble_eq_true rfl) (by decide) (Nat.le_of_ble_eq_true rfl) (tm26 hF17) (fun r20 g18 _ hF19 => ?_)
      exact tr_retI hF19
  · refine tr_ldA rfl (tr_getP (b := 263) (fk_0 hF) (fp_0_19 hF) (tr_pushI (?_)))
    refine tr_invVI rfl rfl (fk_263 hF) (Nat.le_of_ble_eq_true rfl) (by decide) (Nat.le_of_ble_eq_true rfl) (tm25 hF) (fun r23 g21 _ hF22 => ?_)
    exact tr_retI hF22
-- MP_beads
abbrev t113_0 : List hOp := oLdA 0 :: oGetP 11 19 :: oGetI 3 4 :: oRetI :: []
theorem e113_0 : (opsOf 113).drop 0 = t113_0 := rfl
def q_MP_beads (g : hG) : hO Int32 :=
  some ((gI g 263 4), g)
theorem tm113 {d : Nat} {g : hG} (hF : Frz g) : TM wI d 113 [.ref 0] g (q_MP_beads g) := by
  refine TM.ofE e113_0 (lv := [some (.ref 0)]) rfl ?_
  unfold q_MP_beads
  refine tr_ldA rfl (tr_getP (b := 263) (fk_0 hF) (fp_0_19 hF) (tr_getI (fk_263 hF) (?_)))
  exact tr_retI hF
-- Text_add
abbrev t95_22 : List hOp := oRetV :: []
abbrev t95_0 : List hOp := oLdA 0 :: oGetI 9 1 :: oLdA 0 :: oGetP 9 0 :: oALen :: oIf cGe 22 :: oLdA 0 :: oGetP 9 0 :: oLdA 0 :: oGetI 9 1 :: oLdI 2 :: oPushI 4 :: oBin (fun x y => x <<< (y &&& 31)) :: oLdI 1 :: oBin (fun x y => x ||| y) :: oAStI :: oLdA 0 :: oDup :: oGetI 9 1 :: oPushI 1 :: oBin (fun x y => x + y) :: oPutI 9 1 :: t95_22
theorem e95_0 : (opsOf 95).drop 0 = t95_0 := rfl
theorem e95_22 : (opsOf 95).drop 22 = t95_22 := rfl
def q_Text_add (a0 : Nat) (v1 : Int32) (v2 : Int32) (g : hG) : hO Unit :=
  if (402 : Int32) ≤ (gI g a0 1) then (some ((), g)) else (gd (gI g a0 1) 402 <| wr (sI g (a0 + 1) (gI g a0 1).toNatClampNeg ((shl v2 (4 : Int32)) ||| v1)) fun g2 => wr (sI g2 a0 1 ((gI g2 a0 1) + (1 : Int32))) fun g4 => some ((), g4))
theorem tm95 {d : Nat} {a0 : Nat} {v1 : Int32} {v2 : Int32} (h0 : is_txt a0 = true) {g : hG} (hF : Frz g) : TM wU d 95 [.ref a0, .int v1, .int v2] g (q_Text_add a0 v1 v2 g) := by
  refine TM.ofE e95_0 (lv := [some (.ref a0), some (.int v1), some (.int v2)]) rfl ?_
  unfold q_Text_add
  refine tr_ldA rfl (tr_getI (txt_k hF h0) (tr_ldA rfl (tr_getP (b := (a0 + 1)) (txt_k hF h0) (txt_p0 hF h0) (tr_alen (txt_ak1 hF h0) (by rw [(txt_al1 hF h0)] <;> rfl) (?_)))))
  refine tr_ifj e95_22 (c_ge _ _) (fun hc1 => ?_) (fun hc1 => ?_)
  · exact tr_retV hF
  · refine tr_ldA rfl (tr_getP (b := (a0 + 1)) (txt_k hF h0) (txt_p0 hF h0) (tr_ldA rfl (tr_getI (txt_k hF h0) (tr_ldI rfl (tr_pushI (?_))))))
    refine tr_bin (v := (shl v2 (4 : Int32))) rfl (tr_ldI rfl (tr_bin (v := ((shl v2 (4 : Int32)) ||| v1)) rfl (tr_astI hF (txt_ak1 hF h0) (txt_al1 hF h0) (fun _ g2 _ hF3 => tr_ldA rfl (tr_dupA (?_))))))
    refine tr_getI (txt_k hF3 h0) (tr_pushI (tr_bin (v := ((gI g2 a0 1) + (1 : Int32))) rfl (tr_putI hF3 (txt_k hF3 h0) (fun g4 _ hF5 => ?_))))
    exact tr_retV hF5
-- Text_clear
abbrev t93_0 : List hOp := oLdA 0 :: oPushI 0 :: oPutI 9 1 :: oLdA 0 :: oPushI 0 :: oPutI 9 2 :: oLdA 0 :: oPushI 0 :: oPushI 1 :: oInvV 95 9 2 :: oLdA 0 :: oPushI 13 :: oPushI 0 :: oInvV 95 9 2 :: oRetV :: []
theorem e93_0 : (opsOf 93).drop 0 = t93_0 := rfl
def q_Text_clear (a0 : Nat) (g : hG) : hO Unit :=
  wr (sI g a0 1 (0 : Int32)) fun g1 => wr (sI g1 a0 2 (0 : Int32)) fun g3 => bnd (q_Text_add a0 (0 : Int32) (1 : Int32) g3) fun _ g5 => bnd (q_Text_add a0 (13 : Int32) (0 : Int32) g5) fun _ g7 => some ((), g7)
theorem tm93 {d : Nat} {a0 : Nat} (hd : 1 ≤ d) (h0 : is_txt a0 = true) {g : hG} (hF : Frz g) : TM wU d 93 [.ref a0] g (q_Text_clear a0 g) := by
  obtain ⟨e, rfl⟩ : ∃ e, d = e + 1 := ⟨d - 1, by omega⟩
  have he := hd
  refine TM.ofE e93_0 (lv := [some (.ref a0)]) rfl ?_
  unfold q_Text_clear
  refine tr_ldA rfl (tr_pushI (tr_putI hF (txt_k hF h0) (fun g1 _ hF2 => tr_ldA rfl (tr_pushI (tr_putI hF2 (txt_k hF2 h0) (fun g3 _ hF4 => ?_))))))
  refine tr_ldA rfl (tr_pushI (tr_pushI (?_)))
  refine tr_invVU rfl rfl (txt_k hF4 h0) (Nat.le_of_ble_eq_true rfl) (by decide) (Nat.le_of_ble_eq_true rfl) (tm95 h0 hF4) (fun _ g5 _ hF6 => ?_)
  refine tr_ldA rfl (tr_pushI (tr_pushI (?_)))
  refine tr_invVU rfl rfl (txt_k hF6 h0) (Nat.le_of_ble_eq_true rfl) (by decide) (Nat.le_of_ble_eq_true rfl) (tm95 h0 hF6) (fun _ g7 _ hF8 => ?_)
  exact tr_retV hF8
-- Tape_isSmall
abbrev t84_9 : List hOp := oRetZ :: []
abbrev t84_8 : List hOp := oPushI 0 :: t84_9
abbrev t84_0 : List hOp := oLdI 0 :: oPushI 97 :: oIf cLt 8 :: oLdI 0 :: oPushI 122 :: oIf cGt 8 :: oPushI 1 :: oGoto 9 :: t84_8
theorem e84_0 : (opsOf 84).drop 0 = t84_0 := rfl
theorem e84_8 : (opsOf 84).drop 8 = t84_8 := rfl
theorem e84_9 : (opsOf 84).drop 9 = t84_9 := rfl
def q_Tape_isSmall (v0 : Int32) (g : hG) : hO Int32 :=
  if v0 < (97 : Int32) then (some ((0 : Int32), g)) else (if (122 : Int32) < v0 then (some ((0 : Int32), g)) else (some ((1 : Int32), g)))
theorem tm84 {d : Nat} {v0 : Int32} {g : hG} (hF : Frz g) : TM wI d 84 [.int v0] g (q_Tape_isSmall v0 g) := by
  refine TM.ofE e84_0 (lv := [some (.int v0)]) rfl ?_
  unfold q_Tape_isSmall
  refine tr_ldI rfl (tr_pushI (?_))
  refine tr_ifj e84_8 (c_lt _ _) (fun hc1 => ?_) (fun hc1 => ?_)
  · refine tr_pushI (?_)
    exact tr_retZl (Or.inl rfl) hF
  · refine tr_ldI rfl (tr_pushI (?_))
    refine tr_ifj e84_8 (c_gt _ _) (fun hc2 => ?_) (fun hc2 => ?_)
    · refine tr_pushI (?_)
      exact tr_retZl (Or.inl rfl) hF
    · refine tr_pushI (?_)
      refine tr_gotoE e84_9 (?_)
      exact tr_retZl (Or.inr rfl) hF
-- Tape_isDigit
abbrev t85_9 : List hOp := oRetZ :: []
abbrev t85_8 : List hOp := oPushI 0 :: t85_9
abbrev t85_0 : List hOp := oLdI 0 :: oPushI 48 :: oIf cLt 8 :: oLdI 0 :: oPushI 57 :: oIf cGt 8 :: oPushI 1 :: oGoto 9 :: t85_8
theorem e85_0 : (opsOf 85).drop 0 = t85_0 := rfl
theorem e85_8 : (opsOf 85).drop 8 = t85_8 := rfl
theorem e85_9 : (opsOf 85).drop 9 = t85_9 := rfl
def q_Tape_isDigit (v0 : Int32) (g : hG) : hO Int32 :=
  if v0 < (48 : Int32) then (some ((0 : Int32), g)) else (if (57 : Int32) < v0 then (some ((0 : Int32), g)) else (some ((1 : Int32), g)))
theorem tm85 {d : Nat} {v0 : Int32} {g : hG} (hF : Frz g) : TM wI d 85 [.int v0] g (q_Tape_isDigit v0 g) := by
  refine TM.ofE e85_0 (lv := [some (.int v0)]) rfl ?_
  unfold q_Tape_isDigit
  refine tr_ldI rfl (tr_pushI (?_))
  refine tr_ifj e85_8 (c_lt _ _) (fun hc1 => ?_) (fun hc1 => ?_)
  · refine tr_pushI (?_)
    exact tr_retZl (Or.inl rfl) hF
  · refine tr_ldI rfl (tr_pushI (?_))
    refine tr_ifj e85_8 (c_gt _ _) (fun hc2 => ?_) (fun hc2 => ?_)
    · refine tr_pushI (?_)
      exact tr_retZl (Or.inl rfl) hF
    · refine tr_pushI (?_)
      refine tr_gotoE e85_9 (?_)
      exact tr_retZl (Or.inr rfl) hF
-- Tape_goesOn
abbrev t82_31 : List hOp := oRetZ :: []
abbrev t82_30 : List hOp := oPushI 0 :: t82_31
abbrev t82_28 : List hOp := oPushI 1 :: oGoto 31 :: t82_30
abbrev t82_22 : List hOp := oLdI 2 :: oInvS 85 1 :: oIf0 cEq 30 :: oLdI 3 :: oInvS 85 1 :: oIf0 cEq 30 :: t82_28
abbrev t82_4 : List hOp := oLdA 0 :: oGetP 8 0 :: oLdI 1 :: oALdI 13 :: oStI 2 :: oLdA 0 :: oGetP 8 0 :: oLdI 1 :: oPushI 1 :: oBin (fun x y => x - y) :: oALdI 13 :: oStI 3 :: oLdI 2 :: oInvS 84 1 :: oIf0 cEq 22 :: oLdI 3 :: oInvS 84 1 :: oIf0 cNe 28 :: t82_22
abbrev t82_0 : List hOp := oLdI 1 :: oIf0 cNe 4 :: oPushI 0 :: oRetZ :: t82_4
theorem e82_0 : (opsOf 82).drop 0 = t82_0 := rfl
theorem e82_4 : (opsOf 82).drop 4 = t82_4 := rfl
theorem e82_22 : (opsOf 82).drop 22 = t82_22 := rfl
theorem e82_28 : (opsOf 82).drop 28 = t82_28 := rfl
theorem e82_30 : (opsOf 82).drop 30 = t82_30 := rfl
theorem e82_31 : (opsOf 82).drop 31 = t82_31 := rfl
def q_Tape_goesOn_22 (v2 : Int32) (v3 : Int32) (g : hG) : hO Int32 :=
  bnd (q_Tape_isDigit v2 g) fun r8 g6 => if r8 = (0 : Int32) then (some ((0 : Int32), g6)) else (bnd (q_Tape_isDigit v3 g6) fun r12 g10 => if r12 = (0 : Int32) then (some ((0 : Int32), g10)) else (some ((1 : Int32), g10)))
theorem th82_22 {e : Nat} (he : 1 ≤ e + 1) {v2 : Int32} {v3 : Int32} {u1 : Option Value} (hu1 : isL (some u1) = false) {g : hG} (hF : Frz g) : Tri wI (e + 1) 82 t82_22 [some (.ref 235), u1, some (.int v2), some (.int v3)] [] g (q_Tape_goesOn_22 v2 v3 g) := by
  unfold q_Tape_goesOn_22
  refine tr_ldI rfl (?_)
  refine tr_invSI rfl rfl (Nat.le_of_ble_eq_true rfl) (Nat.le_of_ble_eq_true rfl) (by decide) (Nat.le_of_ble_eq_true rfl) (tm85 hF) (fun r8 g6 _ hF7 => ?_)
  refine tr_if0j e82_30 (c_eq _ _) (fun hc9 => ?_) (fun hc9 => ?_)
  · refine tr_pushI (?_)
    exact tr_retZl (Or.inl rfl) hF7
  · refine tr_ldI rfl (?_)
    refine tr_invSI rfl rfl (Nat.le_of_ble_eq_true rfl) (Nat.le_of_ble_eq_true rfl) (by decide) (Nat.le_of_ble_eq_true rfl) (tm85 hF7) (fun r12 g10 _ hF11 => ?_)
    refine tr_if0j e82_30 (c_eq _ _) (fun hc13 => ?_) (fun hc13 => ?_)
    · refine tr_pushI (?_)
      exact tr_retZl (Or.inl rfl) hF11
    · refine tr_pushI (?_)
      refine tr_gotoE e82_31 (?_)
      exact tr_retZl (Or.inr rfl) hF11
def q_Tape_goesOn (v1 : Int32) (g : hG) : hO Int32 :=
  if v1 = (0 : Int32) then (some ((0 : Int32), g)) else (gd v1 400 <| gd (v1 - (1 : Int32)) 400 <| bnd (q_Tape_isSmall (gI g 236 v1.toNatClampNeg) g) fun r4 g2 => if r4 = (0 : Int32) then (q_Tape_goesOn_22 (gI g 236 v1.toNatClampNeg) (gI g 236 (v1 - (1 : Int32)).toNatClampNeg) g2) else (bnd (q_Tape_isSmall (gI g 236 (v1 - (1 : Int32)).toNatClampNeg) g2) fun r16 g14 => if r16 = (0 : Int32) then (q_Tape_goesOn_22 (gI g 236 v1.toNatClampNeg) (gI g 236 (v1 - (1 : Int32)).toNatClampNeg) g14) else (some ((1 : Int32), g14))))
theorem tm82 {d : Nat} {v1 : Int32} (hd : 1 ≤ d) {g : hG} (hF : Frz g) : TM wI d 82 [.ref 235, .int v1] g (q_Tape_goesOn v1 g) := by
  obtain ⟨e, rfl⟩ : ∃ e, d = e + 1 := ⟨d - 1, by omega⟩
  have he := hd
  refine TM.ofE e82_0 (lv := [some (.ref 235), some (.int v1), none, none]) rfl ?_
  unfold q_Tape_goesOn
  refine tr_ldI rfl (?_)
  refine tr_if0n e82_4 (c_ne _ _) (fun hc1 => ?_) (fun hc1 => ?_)
  · refine tr_ldA rfl (tr_getP (b := 236) (fk_235 hF) (fp_235_0 hF) (tr_ldI rfl (tr_aldI (fk_236 hF) (fl_236 hF) (fun _ => tr_stI (Nat.le_of_ble_eq_true rfl) rfl rfl (tr_ldA rfl (?_))))))
    refine tr_getP (b := 236) (fk_235 hF) (fp_235_0 hF) (tr_ldI rfl (tr_pushI (tr_bin (v := (v1 - (1 : Int32))) rfl (tr_aldI (fk_236 hF) (fl_236 hF) (fun _ => tr_stI (Nat.le_of_ble_eq_true rfl) rfl rfl (?_))))))
    refine tr_ldI rfl (?_)
    refine tr_invSI rfl rfl (Nat.le_of_ble_eq_true rfl) (Nat.le_of_ble_eq_true rfl) (by decide) (Nat.le_of_ble_eq_true rfl) (tm84 hF) (fun r4 g2 _ hF3 => ?_)
    refine tr_if0j e82_22 (c_eq _ _) (fun hc5 => ?_) (fun hc5 => ?_)
    · exact th82_22 he rfl hF3
    · refine tr_ldI rfl (?_)
      refine tr_invSI rfl rfl (Nat.le_of_ble_eq_true rfl) (Nat.le_of_ble_eq_true rfl) (by decide) (Nat.le_of_ble_eq_true rfl) (tm84 hF3) (fun r16 g14 _ hF15 => ?_)
      refine tr_if0n e82_28 (c_ne _ _) (fun hc17 => ?_) (fun hc17 => ?_)
      · refine tr_pushI (?_)
        refine tr_gotoE e82_31 (?_)
        exact tr_retZl (Or.inr rfl) hF15
      · exact th82_22 he rfl hF15
  · refine tr_pushI (?_)
    exact tr_retZl (Or.inl rfl) hF
-- Tape_behindRow
abbrev t83_14 : List hOp := oLdI 2 :: oRetI :: []
abbrev t83_4 : List hOp := oLdI 2 :: oLdA 0 :: oGetI 8 1 :: oIf cGe 14 :: oLdA 0 :: oLdI 2 :: oInvV 82 8 1 :: oIf0 cEq 14 :: oInc 2 1 :: oGoto 4 :: t83_14
abbrev t83_0 : List hOp := oLdI 1 :: oPushI 1 :: oBin (fun x y => x + y) :: oStI 2 :: t83_4
theorem e83_0 : (opsOf 83).drop 0 = t83_0 := rfl
theorem e83_4 : (opsOf 83).drop 4 = t83_4 := rfl
theorem e83_14 : (opsOf 83).drop 14 = t83_14 := rfl
def q_Tape_behindRow_4 (k14 : Int32 → hG → hO Int32) (k4 : Int32 → hG → hO Int32) (v2 : Int32) (g : hG) : hO Int32 :=
  if (gI g 235 1) ≤ v2 then (k14 v2 g) else (bnd (q_Tape_goesOn v2 g) fun r4 g2 => if r4 = (0 : Int32) then (k14 v2 g2) else (k4 (v2 + (1 : Int32)) g2))
def q_Tape_behindRow_4L (k14 : Int32 → hG → hO Int32) : Nat → Int32 → hG → hO Int32
  | 0 => fun _ _ => none
  | n + 1 => fun v2 g => q_Tape_behindRow_4 k14 (q_Tape_behindRow_4L k14 n) v2 g
theorem q_Tape_behindRow_4L_s (k14 : Int32 → hG → hO Int32) (n : Nat) (v2 : Int32) (g : hG) : q_Tape_behindRow_4L k14 (n + 1) v2 g = q_Tape_behindRow_4 k14 (q_Tape_behindRow_4L k14 n) v2 g := rfl
theorem th83_4 {e : Nat} (he : 2 ≤ e + 1) {k14 : Int32 → hG → hO Int32} {k4 : Int32 → hG → hO Int32} {v2 : Int32} {u1 : Option Value} (hk14 : ∀ (x2 : Int32) (g : hG), Frz g → Tri wI (e + 1) 83 t83_14 [some (.ref 235), u1, some (.int x2)] [] g (k14 x2 g)) (hk4 : ∀ (x2 : Int32) (g : hG), Frz g → Tri wI (e + 1) 83 t83_4 [some (.ref 235), u1, some (.int x2)] [] g (k4 x2 g)) (hu1 : isL (some u1) = false) {g : hG} (hF : Frz g) : Tri wI (e + 1) 83 t83_4 [some (.ref 235), u1, some (.int v2)] [] g (q_Tape_behindRow_4 k14 k4 v2 g) := by
  unfold q_Tape_behindRow_4
  refine tr_ldI rfl (tr_ldA rfl (tr_getI (fk_235 hF) (?_)))
  refine tr_ifj e83_14 (c_ge _ _) (fun hc1 => ?_) (fun hc1 => ?_)
  · exact hk14 _ _ hF
  · refine tr_ldA rfl (tr_ldI rfl (?_))
    refine tr_invVI rfl rfl (fk_235 hF) (Nat.le_of_ble_eq_true rfl) (by decide) (Nat.le_of_ble_eq_true rfl) (tm82 (by omega) hF) (fun r4 g2 _ hF3 => ?_)
    refine tr_if0j e83_14 (c_eq _ _) (fun hc5 => ?_) (fun hc5 => ?_)
    · exact hk14 _ _ hF3
    · refine tr_inc rfl (lKill_id hu1) rfl (?_)
      refine tr_gotoE e83_4 (?_)
      exact hk4 _ _ hF3
theorem th83_4L {e : Nat} (he : 2 ≤ e + 1) {k14 : Int32 → hG → hO Int32} {u1 : Option Value} (hk14 : ∀ (x2 : Int32) (g : hG), Frz g → Tri wI (e + 1) 83 t83_14 [some (.ref 235), u1, some (.int x2)] [] g (k14 x2 g)) (hu1 : isL (some u1) = false) : ∀ (n : Nat) (v2 : Int32) (g : hG), Frz g → Tri wI (e + 1) 83 t83_4 [some (.ref 235), u1, some (.int v2)] [] g (q_Tape_behindRow_4L k14 n v2 g)
  | 0 => fun _ _ _ => Tri.none_
  | n + 1 => fun _ g hF => th83_4 he hk14 (th83_4L he hk14 hu1 n) hu1 hF
def q_Tape_behindRow (v1 : Int32) (g : hG) : hO Int32 :=
  q_Tape_behindRow_4L (fun x6 g7 => some (x6, g7)) FU (v1 + (1 : Int32)) g
theorem tm83 {d : Nat} {v1 : Int32} (hd : 2 ≤ d) {g : hG} (hF : Frz g) : TM wI d 83 [.ref 235, .int v1] g (q_Tape_behindRow v1 g) := by
  obtain ⟨e, rfl⟩ : ∃ e, d = e + 1 := ⟨d - 1, by omega⟩
  have he := hd
  refine TM.ofE e83_0 (lv := [some (.ref 235), some (.int v1), none]) rfl ?_
  unfold q_Tape_behindRow
  refine tr_ldI rfl (tr_pushI (tr_bin (v := (v1 + (1 : Int32))) rfl (tr_stI (Nat.le_of_ble_eq_true rfl) rfl rfl (?_))))
  refine th83_4L he (fun x6 g7 hF8 => ?_) rfl FU _ _ hF
  · refine tr_ldI rfl (?_)
    exact tr_retI hF8
-- Js_coder
abbrev t2_6 : List hOp := oRetB :: []
abbrev t2_5 : List hOp := oPushI 1 :: t2_6
abbrev t2_0 : List hOp := oPushI 1 :: oIf0 cEq 5 :: oLdA 0 :: oTCoder :: oGoto 6 :: t2_5
theorem e2_0 : (opsOf 2).drop 0 = t2_0 := rfl
theorem e2_5 : (opsOf 2).drop 5 = t2_5 := rfl
theorem e2_6 : (opsOf 2).drop 6 = t2_6 := rfl
def q_Js_coder (a0 : Nat) (g : hG) : hO Int32 :=
  if (1 : Int32) = (0 : Int32) then (gd (1 : Int32) 128 (some ((1 : Int32), g))) else (gd (0 : Int32) 128 (some ((0 : Int32), g)))
theorem tm2 {d : Nat} {a0 : Nat} (h0 : 100000 ≤ a0 ∧ a0 < 100025) {g : hG} (hF : Frz g) : TM wI d 2 [.ref a0] g (q_Js_coder a0 g) := by
  refine TM.ofE e2_0 (lv := [some (.ref a0)]) rfl ?_
  unfold q_Js_coder
  refine tr_pushI (?_)
  refine tr_if0j e2_5 (c_eq _ _) (fun hc1 => ?_) (fun hc1 => ?_)
  · refine tr_pushI (?_)
    exact tr_retB hF
  · refine tr_ldA rfl (tr_tcoder h0 (?_))
    refine tr_gotoE e2_6 (?_)
    exact tr_retB hF
-- Js_length
abbrev t0_0 : List hOp := oLdA 0 :: oTVal :: oTLen :: oLdA 0 :: oInvT 2 0 :: oBin (fun x y => x >>> (y &&& 31)) :: oRetI :: []
theorem e0_0 : (opsOf 0).drop 0 = t0_0 := rfl
def q_Js_length (a0 : Nat) (g : hG) : hO Int32 :=
  bnd (q_Js_coder a0 g) fun r3 g1 => some ((shr (Int32.ofNat (strL.getD ((a0 + 100000) - 200000) []).length) r3), g1)
theorem tm0 {d : Nat} {a0 : Nat} (hd : 1 ≤ d) (h0 : 100000 ≤ a0 ∧ a0 < 100025) {g : hG} (hF : Frz g) : TM wI d 0 [.ref a0] g (q_Js_length a0 g) := by
  obtain ⟨e, rfl⟩ : ∃ e, d = e + 1 := ⟨d - 1, by omega⟩
  have he := hd
  refine TM.ofE e0_0 (lv := [some (.ref a0)]) rfl ?_
  unfold q_Js_length
  refine tr_ldA rfl (tr_tval h0 (tr_tlen ⟨by omega, by omega⟩ (tr_ldA rfl (?_))))
  refine tr_invTI rfl rfl h0 (Nat.le_of_ble_eq_true rfl) (by decide) (Nat.le_of_ble_eq_true rfl) (tm2 h0 hF) (fun r3 g1 _ hF2 => ?_)
  refine tr_bin (v := (shr (Int32.ofNat (strL.getD ((a0 + 100000) - 200000) []).length) r3)) rfl (?_)
  exact tr_retI hF2
-- Js_isLatin1
abbrev t3_8 : List hOp := oRetZ :: []
abbrev t3_7 : List hOp := oPushI 0 :: t3_8
abbrev t3_0 : List hOp := oPushI 1 :: oIf0 cEq 7 :: oLdA 0 :: oTCoder :: oIf0 cNe 7 :: oPushI 1 :: oGoto 8 :: t3_7
theorem e3_0 : (opsOf 3).drop 0 = t3_0 := rfl
theorem e3_7 : (opsOf 3).drop 7 = t3_7 := rfl
theorem e3_8 : (opsOf 3).drop 8 = t3_8 := rfl
def q_Js_isLatin1 (a0 : Nat) (g : hG) : hO Int32 :=
  if (1 : Int32) = (0 : Int32) then (some ((0 : Int32), g)) else (if (0 : Int32) = (0 : Int32) then (some ((1 : Int32), g)) else (some ((0 : Int32), g)))
theorem tm3 {d : Nat} {a0 : Nat} (h0 : 100000 ≤ a0 ∧ a0 < 100025) {g : hG} (hF : Frz g) : TM wI d 3 [.ref a0] g (q_Js_isLatin1 a0 g) := by
  refine TM.ofE e3_0 (lv := [some (.ref a0)]) rfl ?_
  unfold q_Js_isLatin1
  refine tr_pushI (?_)
  refine tr_if0j e3_7 (c_eq _ _) (fun hc1 => ?_) (fun hc1 => ?_)
  · refine tr_pushI (?_)
    exact tr_retZl (Or.inl rfl) hF
  · refine tr_ldA rfl (tr_tcoder h0 (?_))
    refine tr_if0n e3_7 (c_ne _ _) (fun hc2 => ?_) (fun hc2 => ?_)
    · refine tr_pushI (?_)
      exact tr_retZl (Or.inl rfl) hF
    · refine tr_pushI (?_)
      refine tr_gotoE e3_8 (?_)
      exact tr_retZl (Or.inr rfl) hF
-- Jp_checkIndex
abbrev t6_10 : List hOp := oLdI 0 :: oRetI :: []
abbrev t6_5 : List hOp := oLdA 2 :: oLdI 0 :: oLdI 1 :: oFail :: oFail :: t6_10
abbrev t6_0 : List hOp := oLdI 0 :: oIf0 cLt 5 :: oLdI 0 :: oLdI 1 :: oIf cLt 10 :: t6_5
theorem e6_0 : (opsOf 6).drop 0 = t6_0 := rfl
theorem e6_5 : (opsOf 6).drop 5 = t6_5 := rfl
theorem e6_10 : (opsOf 6).drop 10 = t6_10 := rfl
def q_Jp_checkIndex_5 (v0 : Int32) (v1 : Int32) (g : hG) : hO Int32 :=
  none
theorem th6_5 {d : Nat} {v0 : Int32} {v1 : Int32} {g : hG} (hF : Frz g) : Tri wI d 6 t6_5 [some (.int v0), some (.int v1), some (.float 0)] [] g (q_Jp_checkIndex_5 v0 v1 g) := by
  unfold q_Jp_checkIndex_5
  exact Tri.none_
def q_Jp_checkIndex (v0 : Int32) (v1 : Int32) (g : hG) : hO Int32 :=
  if v0 < (0 : Int32) then (q_Jp_checkIndex_5 v0 v1 g) else (if v0 < v1 then (some (v0, g)) else (q_Jp_checkIndex_5 v0 v1 g))
theorem tm6 {d : Nat} {v0 : Int32} {v1 : Int32} {g : hG} (hF : Frz g) : TM wI d 6 [.int v0, .int v1, .float 0] g (q_Jp_checkIndex v0 v1 g) := by
  refine TM.ofE e6_0 (lv := [some (.int v0), some (.int v1), some (.float 0)]) rfl ?_
  unfold q_Jp_checkIndex
  refine tr_ldI rfl (?_)
  refine tr_if0j e6_5 (c_lt _ _) (fun hc1 => ?_) (fun hc1 => ?_)
  · exact th6_5 hF
  · refine tr_ldI rfl (tr_ldI rfl (?_))
    refine tr_ifj e6_10 (c_lt _ _) (fun hc2 => ?_) (fun hc2 => ?_)
    · refine tr_ldI rfl (?_)
      exact tr_retI hF
    · exact th6_5 hF
-- Js_checkIndex
abbrev t4_0 : List hOp := oLdI 0 :: oLdI 1 :: oPushF :: oInvS 6 3 :: oPop :: oRetV :: []
theorem e4_0 : (opsOf 4).drop 0 = t4_0 := rfl
def q_Js_checkIndex (v0 : Int32) (v1 : Int32) (g : hG) : hO Unit :=
  bnd (q_Jp_checkIndex v0 v1 g) fun r3 g1 => some ((), g1)
theorem tm4 {d : Nat} {v0 : Int32} {v1 : Int32} (hd : 1 ≤ d) {g : hG} (hF : Frz g) : TM wU d 4 [.int v0, .int v1] g (q_Js_checkIndex v0 v1 g) := by
  obtain ⟨e, rfl⟩ : ∃ e, d = e + 1 := ⟨d - 1, by omega⟩
  have he := hd
  refine TM.ofE e4_0 (lv := [some (.int v0), some (.int v1)]) rfl ?_
  unfold q_Js_checkIndex
  refine tr_ldI rfl (tr_ldI rfl (tr_pushF (?_)))
  refine tr_invSI rfl rfl (Nat.le_of_ble_eq_true rfl) (Nat.le_of_ble_eq_true rfl) (by decide) (Nat.le_of_ble_eq_true rfl) (tm6 hF) (fun r3 g1 _ hF2 => ?_)
  refine tr_pop (?_)
  exact tr_retV hF2
-- Jl_charAt
abbrev t5_0 : List hOp := oLdI 1 :: oLdA 0 :: oTLen :: oInvS 4 2 :: oLdA 0 :: oLdI 1 :: oTLd :: oPushI 255 :: oBin (fun x y => x &&& y) :: oI2C :: oRetB :: []
theorem e5_0 : (opsOf 5).drop 0 = t5_0 := rfl
def q_Jl_charAt (a0 : Nat) (v1 : Int32) (g : hG) : hO Int32 :=
  bnd (q_Js_checkIndex v1 (Int32.ofNat (strL.getD (a0 - 200000) []).length) g) fun _ g1 => gd v1 (strL.getD (a0 - 200000) []).length <| gd (((strL.getD (a0 - 200000) []).getD v1.toNatClampNeg 0) &&& (255 : Int32)) 256 <| gd (((strL.getD (a0 - 200000) []).getD v1.toNatClampNeg 0) &&& (255 : Int32)) 128 (some ((((strL.getD (a0 - 200000) []).getD v1.toNatClampNeg 0) &&& (255 : Int32)), g1))
theorem tm5 {d : Nat} {a0 : Nat} {v1 : Int32} (hd : 2 ≤ d) (h0 : 200000 ≤ a0 ∧ a0 < 200025) {g : hG} (hF : Frz g) : TM wI d 5 [.ref a0, .int v1] g (q_Jl_charAt a0 v1 g) := by
  obtain ⟨e, rfl⟩ : ∃ e, d = e + 1 := ⟨d - 1, by omega⟩
  have he := hd
  refine TM.ofE e5_0 (lv := [some (.ref a0), some (.int v1)]) rfl ?_
  unfold q_Jl_charAt
  refine tr_ldI rfl (tr_ldA rfl (tr_tlen h0 (?_)))
  refine tr_invSU rfl rfl (Nat.le_of_ble_eq_true rfl) (Nat.le_of_ble_eq_true rfl) (by decide) (Nat.le_of_ble_eq_true rfl) (tm4 (by omega) hF) (fun _ g1 _ hF2 => ?_)
  refine tr_ldA rfl (tr_ldI rfl (tr_tld h0 (fun _ => tr_pushI (tr_bin (v := (((strL.getD (a0 - 200000) []).getD v1.toNatClampNeg 0) &&& (255 : Int32))) rfl (tr_i2c (fun _ => ?_))))))
  exact tr_retB hF2
-- Js_charAt
abbrev t1_8 : List hOp := oLdA 0 :: oTVal :: oLdI 1 :: oFail :: oRetB :: []
abbrev t1_0 : List hOp := oLdA 0 :: oInvT 3 0 :: oIf0 cEq 8 :: oLdA 0 :: oTVal :: oLdI 1 :: oInvS 5 2 :: oRetB :: t1_8
theorem e1_0 : (opsOf 1).drop 0 = t1_0 := rfl
theorem e1_8 : (opsOf 1).drop 8 = t1_8 := rfl
def q_Js_charAt (a0 : Nat) (v1 : Int32) (g : hG) : hO Int32 :=
  bnd (q_Js_isLatin1 a0 g) fun r3 g1 => if r3 = (0 : Int32) then (none) else (bnd (q_Jl_charAt (a0 + 100000) v1 g1) fun r7 g5 => gd r7 128 (some (r7, g5)))
theorem tm1 {d : Nat} {a0 : Nat} {v1 : Int32} (hd : 3 ≤ d) (h0 : 100000 ≤ a0 ∧ a0 < 100025) {g : hG} (hF : Frz g) : TM wI d 1 [.ref a0, .int v1] g (q_Js_charAt a0 v1 g) := by
  obtain ⟨e, rfl⟩ : ∃ e, d = e + 1 := ⟨d - 1, by omega⟩
  have he := hd
  refine TM.ofE e1_0 (lv := [some (.ref a0), some (.int v1)]) rfl ?_
  unfold q_Js_charAt
  refine tr_ldA rfl (?_)
  refine tr_invTI rfl rfl h0 (Nat.le_of_ble_eq_true rfl) (by decide) (Nat.le_of_ble_eq_true rfl) (tm3 h0 hF) (fun r3 g1 _ hF2 => ?_)
  refine tr_if0j e1_8 (c_eq _ _) (fun hc4 => ?_) (fun hc4 => ?_)
  · refine tr_ldA rfl (tr_tval h0 (tr_ldI rfl (?_)))
    exact Tri.none_
  · refine tr_ldA rfl (tr_tval h0 (tr_ldI rfl (?_)))
    refine tr_invSI rfl rfl (Nat.le_of_ble_eq_true rfl) (Nat.le_of_ble_eq_true rfl) (by decide) (Nat.le_of_ble_eq_true rfl) (tm5 (by omega) ⟨by omega, by omega⟩ hF2) (fun r7 g5 _ hF6 => ?_)
    exact tr_retB hF6
-- Tape_is
abbrev t90_28 : List hOp := oPushI 1 :: oRetZ :: []
abbrev t90_26 : List hOp := oInc 4 1 :: oGoto 10 :: t90_28
abbrev t90_24 : List hOp := oPushI 0 :: oRetZ :: t90_26
abbrev t90_10 : List hOp := oLdI 4 :: oLdA 1 :: oInvT 0 0 :: oIf cGe 28 :: oLdA 0 :: oGetP 8 0 :: oLdI 2 :: oLdI 4 :: oBin (fun x y => x + y) :: oALdI 13 :: oLdA 1 :: oLdI 4 :: oInvT 1 1 :: oIf cEq 26 :: t90_24
abbrev t90_8 : List hOp := oPushI 0 :: oStI 4 :: t90_10
abbrev t90_0 : List hOp := oLdI 3 :: oLdI 2 :: oBin (fun x y => x - y) :: oLdA 1 :: oInvT 0 0 :: oIf cEq 8 :: oPushI 0 :: oRetZ :: t90_8
theorem e90_0 : (opsOf 90).drop 0 = t90_0 := rfl
theorem e90_8 : (opsOf 90).drop 8 = t90_8 := rfl
theorem e90_10 : (opsOf 90).drop 10 = t90_10 := rfl
theorem e90_26 : (opsOf 90).drop 26 = t90_26 := rfl
theorem e90_28 : (opsOf 90).drop 28 = t90_28 := rfl
def q_Tape_is_10 (a1 : Nat) (v2 : Int32) (k28 : hG → hO Int32) (k10 : Int32 → hG → hO Int32) (v4 : Int32) (g : hG) : hO Int32 :=
  bnd (q_Js_length a1 g) fun r7 g5 => if r7 ≤ v4 then (k28 g5) else (gd (v2 + v4) 400 <| bnd (q_Js_charAt a1 v4 g5) fun r11 g9 => if (gI g5 236 (v2 + v4).toNatClampNeg) = r11 then (k10 (v4 + (1 : Int32)) g9) else (some ((0 : Int32), g9)))
def q_Tape_is_10L (a1 : Nat) (v2 : Int32) (k28 : hG → hO Int32) : Nat → Int32 → hG → hO Int32
  | 0 => fun _ _ => none
  | n + 1 => fun v4 g => q_Tape_is_10 a1 v2 k28 (q_Tape_is_10L a1 v2 k28 n) v4 g
theorem q_Tape_is_10L_s (a1 : Nat) (v2 : Int32) (k28 : hG → hO Int32) (n : Nat) (v4 : Int32) (g : hG) : q_Tape_is_10L a1 v2 k28 (n + 1) v4 g = q_Tape_is_10 a1 v2 k28 (q_Tape_is_10L a1 v2 k28 n) v4 g := rfl
theorem th90_10 {e : Nat} (he : 4 ≤ e + 1) {a1 : Nat} {v2 : Int32} {k28 : hG → hO Int32} {k10 : Int32 → hG → hO Int32} {v4 : Int32} {u3 : Option Value} (h1 : 100000 ≤ a1 ∧ a1 < 100025) (hk28 : ∀ (y4 : Option Value) (g : hG), Frz g → Tri wI (e + 1) 90 t90_28 [some (.ref 235), some (.ref a1), some (.int v2), u3, y4] [] g (k28 g)) (hk10 : ∀ (x4 : Int32) (g : hG), Frz g → Tri wI (e + 1) 90 t90_10 [some (.ref 235), some (.ref a1), some (.int v2), u3, some (.int x4)] [] g (k10 x4 g)) (hu3 : isL (some u3) = false) {g : hG} (hF : Frz g) : Tri wI (e + 1) 90 t90_10 [some (.ref 235), some (.ref a1), some (.int v2), u3, some (.int v4)] [] g (q_Tape_is_10 a1 v2 k28 k10 v4 g) := by
  unfold q_Tape_is_10
  refine tr_ldI rfl (tr_ldA rfl (?_))
  refine tr_invTI rfl rfl h1 (Nat.le_of_ble_eq_true rfl) (by decide) (Nat.le_of_ble_eq_true rfl) (tm0 (by omega) h1 hF) (fun r7 g5 _ hF6 => ?_)
  refine tr_ifj e90_28 (c_ge _ _) (fun hc8 => ?_) (fun hc8 => ?_)
  · exact hk28 _ _ hF6
  · refine tr_ldA rfl (tr_getP (b := 236) (fk_235 hF6) (fp_235_0 hF6) (tr_ldI rfl (tr_ldI rfl (tr_bin (v := (v2 + v4)) rfl (tr_aldI (fk_236 hF6) (fl_236 hF6) (fun _ => ?_))))))
    refine tr_ldA rfl (tr_ldI rfl (?_))
    refine tr_invTI rfl rfl h1 (Nat.le_of_ble_eq_true rfl) (by decide) (Nat.le_of_ble_eq_true rfl) (tm1 (by omega) h1 hF6) (fun r11 g9 _ hF10 => ?_)
    refine tr_ifj e90_26 (c_eq _ _) (fun hc12 => ?_) (fun hc12 => ?_)
    · refine tr_inc rfl (lKill_id hu3) rfl (?_)
      refine tr_gotoE e90_10 (?_)
      exact hk10 _ _ hF10
    · refine tr_pushI (?_)
      exact tr_retZl (Or.inl rfl) hF10
theorem th90_10L {e : Nat} (he : 4 ≤ e + 1) {a1 : Nat} {v2 : Int32} {k28 : hG → hO Int32} {u3 : Option Value} (h1 : 100000 ≤ a1 ∧ a1 < 100025) (hk28 : ∀ (y4 : Option Value) (g : hG), Frz g → Tri wI (e + 1) 90 t90_28 [some (.ref 235), some (.ref a1), some (.int v2), u3, y4] [] g (k28 g)) (hu3 : isL (some u3) = false) : ∀ (n : Nat) (v4 : Int32) (g : hG), Frz g → Tri wI (e + 1) 90 t90_10 [some (.ref 235), some (.ref a1), some (.int v2), u3, some (.int v4)] [] g (q_Tape_is_10L a1 v2 k28 n v4 g)
  | 0 => fun _ _ _ => Tri.none_
  | n + 1 => fun _ g hF => th90_10 he h1 hk28 (th90_10L he h1 hk28 hu3 n) hu3 hF
def q_Tape_is (a1 : Nat) (v2 : Int32) (v3 : Int32) (g : hG) : hO Int32 :=
  bnd (q_Js_length a1 g) fun r3 g1 => if (v3 - v2) = r3 then (q_Tape_is_10L a1 v2 (fun g14 => some ((1 : Int32), g14)) FU (0 : Int32) g1) else (some ((0 : Int32), g1))
theorem tm90 {d : Nat} {a1 : Nat} {v2 : Int32} {v3 : Int32} (hd : 4 ≤ d) (h1 : 100000 ≤ a1 ∧ a1 < 100025) {g : hG} (hF : Frz g) : TM wI d 90 [.ref 235, .ref a1, .int v2, .int v3] g (q_Tape_is a1 v2 v3 g) := by
  obtain ⟨e, rfl⟩ : ∃ e, d = e + 1 := ⟨d - 1, by omega⟩
  have he := hd
  refine TM.ofE e90_0 (lv := [some (.ref 235), some (.ref a1), some (.int v2), some (.int v3), none]) rfl ?_
  unfold q_Tape_is
  refine tr_ldI rfl (tr_ldI rfl (tr_bin (v := (v3 - v2)) rfl (tr_ldA rfl (?_))))
  refine tr_invTI rfl rfl h1 (Nat.le_of_ble_eq_true rfl) (by decide) (Nat.le_of_ble_eq_true rfl) (tm0 (by omega) h1 hF) (fun r3 g1 _ hF2 => ?_)
  refine tr_ifj e90_8 (c_eq _ _) (fun hc4 => ?_) (fun hc4 => ?_)
  · refine tr_pushI (tr_stI (Nat.le_of_ble_eq_true rfl) rfl rfl (?_))
    refine th90_10L he h1 (fun y13 g14 hF15 => ?_) rfl FU _ _ hF2
    · refine tr_pushI (?_)
      exact tr_retZl (Or.inr rfl) hF15
  · refine tr_pushI (?_)
    exact tr_retZl (Or.inl rfl) hF2
-- Tape_joiningWord
abbrev t88_113 : List hOp := oRetI :: []
abbrev t88_112 : List hOp := oPushI 3000 :: t88_113
abbrev t88_104 : List hOp := oLdA 0 :: oPushR 100013 :: oLdI 1 :: oLdI 2 :: oInvV 90 8 3 :: oIf0 cEq 112 :: oPushI 3014 :: oGoto 113 :: t88_112
abbrev t88_96 : List hOp := oLdA 0 :: oPushR 100012 :: oLdI 1 :: oLdI 2 :: oInvV 90 8 3 :: oIf0 cEq 104 :: oPushI 3013 :: oGoto 113 :: t88_104
abbrev t88_88 : List hOp := oLdA 0 :: oPushR 100011 :: oLdI 1 :: oLdI 2 :: oInvV 90 8 3 :: oIf0 cEq 96 :: oPushI 3012 :: oGoto 113 :: t88_96
abbrev t88_80 : List hOp := oLdA 0 :: oPushR 100010 :: oLdI 1 :: oLdI 2 :: oInvV 90 8 3 :: oIf0 cEq 88 :: oPushI 3011 :: oGoto 113 :: t88_88
abbrev t88_72 : List hOp := oLdA 0 :: oPushR 100009 :: oLdI 1 :: oLdI 2 :: oInvV 90 8 3 :: oIf0 cEq 80 :: oPushI 3010 :: oGoto 113 :: t88_80
abbrev t88_64 : List hOp := oLdA 0 :: oPushR 100008 :: oLdI 1 :: oLdI 2 :: oInvV 90 8 3 :: oIf0 cEq 72 :: oPushI 3009 :: oGoto 113 :: t88_72
abbrev t88_56 : List hOp := oLdA 0 :: oPushR 100007 :: oLdI 1 :: oLdI 2 :: oInvV 90 8 3 :: oIf0 cEq 64 :: oPushI 3008 :: oGoto 113 :: t88_64
abbrev t88_48 : List hOp := oLdA 0 :: oPushR 100006 :: oLdI 1 :: oLdI 2 :: oInvV 90 8 3 :: oIf0 cEq 56 :: oPushI 3007 :: oGoto 113 :: t88_56
abbrev t88_40 : List hOp := oLdA 0 :: oPushR 100005 :: oLdI 1 :: oLdI 2 :: oInvV 90 8 3 :: oIf0 cEq 48 :: oPushI 3006 :: oGoto 113 :: t88_48
abbrev t88_32 : List hOp := oLdA 0 :: oPushR 100004 :: oLdI 1 :: oLdI 2 :: oInvV 90 8 3 :: oIf0 cEq 40 :: oPushI 3005 :: oGoto 113 :: t88_40
abbrev t88_24 : List hOp := oLdA 0 :: oPushR 100003 :: oLdI 1 :: oLdI 2 :: oInvV 90 8 3 :: oIf0 cEq 32 :: oPushI 3004 :: oGoto 113 :: t88_32
abbrev t88_16 : List hOp := oLdA 0 :: oPushR 100002 :: oLdI 1 :: oLdI 2 :: oInvV 90 8 3 :: oIf0 cEq 24 :: oPushI 3003 :: oGoto 113 :: t88_24
abbrev t88_8 : List hOp := oLdA 0 :: oPushR 100001 :: oLdI 1 :: oLdI 2 :: oInvV 90 8 3 :: oIf0 cEq 16 :: oPushI 3002 :: oGoto 113 :: t88_16
abbrev t88_0 : List hOp := oLdA 0 :: oPushR 100000 :: oLdI 1 :: oLdI 2 :: oInvV 90 8 3 :: oIf0 cEq 8 :: oPushI 3001 :: oGoto 113 :: t88_8
theorem e88_0 : (opsOf 88).drop 0 = t88_0 := rfl
theorem e88_8 : (opsOf 88).drop 8 = t88_8 := rfl
theorem e88_16 : (opsOf 88).drop 16 = t88_16 := rfl
theorem e88_24 : (opsOf 88).drop 24 = t88_24 := rfl
theorem e88_32 : (opsOf 88).drop 32 = t88_32 := rfl
theorem e88_40 : (opsOf 88).drop 40 = t88_40 := rfl
theorem e88_48 : (opsOf 88).drop 48 = t88_48 := rfl
theorem e88_56 : (opsOf 88).drop 56 = t88_56 := rfl
theorem e88_64 : (opsOf 88).drop 64 = t88_64 := rfl
theorem e88_72 : (opsOf 88).drop 72 = t88_72 := rfl
theorem e88_80 : (opsOf 88).drop 80 = t88_80 := rfl
theorem e88_88 : (opsOf 88).drop 88 = t88_88 := rfl
theorem e88_96 : (opsOf 88).drop 96 = t88_96 := rfl
theorem e88_104 : (opsOf 88).drop 104 = t88_104 := rfl
theorem e88_112 : (opsOf 88).drop 112 = t88_112 := rfl
theorem e88_113 : (opsOf 88).drop 113 = t88_113 := rfl
def q_Tape_joiningWord (v1 : Int32) (v2 : Int32) (g : hG) : hO Int32 :=
  bnd (q_Tape_is 100000 v1 v2 g) fun r3 g1 => if r3 = (0 : Int32) then (bnd (q_Tape_is 100001 v1 v2 g1) fun r7 g5 => if r7 = (0 : Int32) then (bnd (q_Tape_is 100002 v1 v2 g5) fun r11 g9 => if r11 = (0 : Int32) then (bnd (q_Tape_is 100003 v1 v2 g9) fun r15 g13 => if r15 = (0 : Int32) then (bnd (q_Tape_is 100004 v1 v2 g13) fun r19 g17 => if r19 = (0 : Int32) then (bnd (q_Tape_is 100005 v1 v2 g17) fun r23 g21 => if r23 = (0 : Int32) then (bnd (q_Tape_is 100006 v1 v2 g21) fun r27 g25 => if r27 = (0 : Int32) then (bnd (q_Tape_is 100007 v1 v2 g25) fun r31 g29 => if r31 = (0 : Int32) then (bnd (q_Tape_is 100008 v1 v2 g29) fun r35 g33 => if r35 = (0 : Int32) then (bnd (q_Tape_is 100009 v1 v2 g33) fun r39 g37 => if r39 = (0 : Int32) then (bnd (q_Tape_is 100010 v1 v2 g37) fun r43 g41 => if r43 = (0 : Int32) then (bnd (q_Tape_is 100011 v1 v2 g41) fun r47 g45 => if r47 = (0 : Int32) then (bnd (q_Tape_is 100012 v1 v2 g45) fun r51 g49 => if r51 = (0 : Int32) then (bnd (q_Tape_is 100013 v1 v2 g49) fun r55 g53 => if r55 = (0 : Int32) then (some ((3000 : Int32), g53)) else (some ((3014 : Int32), g53))) else (some ((3013 : Int32), g49))) else (some ((3012 : Int32), g45))) else (some ((3011 : Int32), g41))) else (some ((3010 : Int32), g37))) else (some ((3009 : Int32), g33))) else (some ((3008 : Int32), g29))) else (some ((3007 : Int32), g25))) else (some ((3006 : Int32), g21))) else (some ((3005 : Int32), g17))) else (some ((3004 : Int32), g13))) else (some ((3003 : Int32), g9))) else (some ((3002 : Int32), g5))) else (some ((3001 : Int32), g1))
theorem tm88 {d : Nat} {v1 : Int32} {v2 : Int32} (hd : 5 ≤ d) {g : hG} (hF : Frz g) : TM wI d 88 [.ref 235, .int v1, .int v2] g (q_Tape_joiningWord v1 v2 g) := by
  obtain ⟨e, rfl⟩ : ∃ e, d = e + 1 := ⟨d - 1, by omega⟩
  have he := hd
  refine TM.ofE e88_0 (lv := [some (.ref 235), some (.int v1), some (.int v2)]) rfl ?_
  unfold q_Tape_joiningWord
  refine tr_ldA rfl (tr_pushR (tr_ldI rfl (tr_ldI rfl (?_))))
  refine tr_invVI rfl rfl (fk_235 hF) (Nat.le_of_ble_eq_true rfl) (by decide) (Nat.le_of_ble_eq_true rfl) (tm90 (by omega) ⟨by decide, by decide⟩ hF) (fun r3 g1 _ hF2 => ?_)
  refine tr_if0j e88_8 (c_eq _ _) (fun hc4 => ?_) (fun hc4 => ?_)
  · refine tr_ldA rfl (tr_pushR (tr_ldI rfl (tr_ldI rfl (?_))))
    refine tr_invVI rfl rfl (fk_235 hF2) (Nat.le_of_ble_eq_true rfl) (by decide) (Nat.le_of_ble_eq_true rfl) (tm90 (by omega) ⟨by decide, by decide⟩ hF2) (fun r7 g5 _ hF6 => ?_)
    refine tr_if0j e88_16 (c_eq _ _) (fun hc8 => ?_) (fun hc8 => ?_)
    · refine tr_ldA rfl (tr_pushR (tr_ldI rfl (tr_ldI rfl (?_))))
      refine tr_invVI rfl rfl (fk_235 hF6) (Nat.le_of_ble_eq_true rfl) (by decide) (Nat.le_of_ble_eq_true rfl) (tm90 (by omega) ⟨by decide, by decide⟩ hF6) (fun r11 g9 _ hF10 => ?_)
      refine tr_if0j e88_24 (c_eq _ _) (fun hc12 => ?_) (fun hc12 => ?_)
      · refine tr_ldA rfl (tr_pushR (tr_ldI rfl (tr_ldI rfl (?_))))
        refine tr_invVI rfl rfl (fk_235 hF10) (Nat.le_of_ble_eq_true rfl) (by decide) (Nat.le_of_ble_eq_true rfl) (tm90 (by omega) ⟨by decide, by decide⟩ hF10) (fun r15 g13 _ hF14 => ?_)
        refine tr_if0j e88_32 (c_eq _ _) (fun hc16 => ?_) (fun hc16 => ?_)
        · refine tr_ldA rfl (tr_pushR (tr_ldI rfl (tr_ldI rfl (?_))))
          refine tr_invVI rfl rfl (fk_235 hF14) (Nat.le_of_ble_eq_true rfl) (by decide) (Nat.le_of_ble_eq_true rfl) (tm90 (by omega) ⟨by decide, by decide⟩ hF14) (fun r19 g17 _ hF18 => ?_)
          refine tr_if0j e88_40 (c_eq _ _) (fun hc20 => ?_) (fun hc20 => ?_)
          · refine tr_ldA rfl (tr_pushR (tr_ldI rfl (tr_ldI rfl (?_))))
            refine tr_invVI rfl rfl (fk_235 hF18) (Nat.le_of_ble_eq_true rfl) (by decide) (Nat.le_of_ble_eq_true rfl) (tm90 (by omega) ⟨by decide, by decide⟩ hF18) (fun r23 g21 _ hF22 => ?_)
            refine tr_if0j e88_48 (c_eq _ _) (fun hc24 => ?_) (fun hc24 => ?_)
            · refine tr_ldA rfl (tr_pushR (tr_ldI rfl (tr_ldI rfl (?_))))
              refine tr_invVI rfl rfl (fk_235 hF22) (Nat.le_of_ble_eq_true rfl) (by decide) (Nat.le_of_ble_eq_true rfl) (tm90 (by omega) ⟨by decide, by decide⟩ hF22) (fun r27 g25 _ hF26 => ?_)
              refine tr_if0j e88_56 (c_eq _ _) (fun hc28 => ?_) (fun hc28 => ?_)
              · refine tr_ldA rfl (tr_pushR (tr_ldI rfl (tr_ldI rfl (?_))))
                refine tr_invVI rfl rfl (fk_235 hF26) (Nat.le_of_ble_eq_true rfl) (by decide) (Nat.le_of_ble_eq_true rfl) (tm90 (by omega) ⟨by decide, by decide⟩ hF26) (fun r31 g29 _ hF30 => ?_)
                refine tr_if0j e88_64 (c_eq _ _) (fun hc32 => ?_) (fun hc32 => ?_)
                · refine tr_ldA rfl (tr_pushR (tr_ldI rfl (tr_ldI rfl (?_))))
                  refine tr_invVI rfl rfl (fk_235 hF30) (Nat.le_of_ble_eq_true rfl) (by decide) (Nat.le_of_ble_eq_true rfl) (tm90 (by omega) ⟨by decide, by decide⟩ hF30) (fun r35 g33 _ hF34 => ?_)
                  refine tr_if0j e88_72 (c_eq _ _) (fun hc36 => ?_) (fun hc36 => ?_)
                  · refine tr_ldA rfl (tr_pushR (tr_ldI rfl (tr_ldI rfl (?_))))
                    refine tr_invVI rfl rfl (fk_235 hF34) (Nat.le_of_ble_eq_true rfl) (by decide) (Nat.le_of_ble_eq_true rfl) (tm90 (by omega) ⟨by decide, by decide⟩ hF34) (fun r39 g37 _ hF38 => ?_)
                    refine tr_if0j e88_80 (c_eq _ _) (fun hc40 => ?_) (fun hc40 => ?_)
                    · refine tr_ldA rfl (tr_pushR (tr_ldI rfl (tr_ldI rfl (?_))))
                      refine tr_invVI rfl rfl (fk_235 hF38) (Nat.le_of_ble_eq_true rfl) (by decide) (Nat.le_of_ble_eq_true rfl) (tm90 (by omega) ⟨by decide, by decide⟩ hF38) (fun r43 g41 _ hF42 => ?_)
                      refine tr_if0j e88_88 (c_eq _ _) (fun hc44 => ?_) (fun hc44 => ?_)
                      · refine tr_ldA rfl (tr_pushR (tr_ldI rfl (tr_ldI rfl (?_))))
                        refine tr_invVI rfl rfl (fk_235 hF42) (Nat.le_of_ble_eq_true rfl) (by decide) (Nat.le_of_ble_eq_true rfl) (tm90 (by omega) ⟨by decide, by decide⟩ hF42) (fun r47 g45 _ hF46 => ?_)
                        refine tr_if0j e88_96 (c_eq _ _) (fun hc48 => ?_) (fun hc48 => ?_)
                        · refine tr_ldA rfl (tr_pushR (tr_ldI rfl (tr_ldI rfl (?_))))
                          refine tr_invVI rfl rfl (fk_235 hF46) (Nat.le_of_ble_eq_true rfl) (by decide) (Nat.le_of_ble_eq_true rfl) (tm90 (by omega) ⟨by decide, by decide⟩ hF46) (fun r51 g49 _ hF50 => ?_)
                          refine tr_if0j e88_104 (c_eq _ _) (fun hc52 => ?_) (fun hc52 => ?_)
                          · refine tr_ldA rfl (tr_pushR (tr_ldI rfl (tr_ldI rfl (?_))))
                            refine tr_invVI rfl rfl (fk_235 hF50) (Nat.le_of_ble_eq_true rfl) (by decide) (Nat.le_of_ble_eq_true rfl) (tm90 (by omega) ⟨by decide, by decide⟩ hF50) (fun r55 g53 _ hF54 => ?_)
                            refine tr_if0j e88_112 (c_eq _ _) (fun hc56 => ?_) (fun hc56 => ?_)
                            · refine tr_pushI (?_)
                              exact tr_retI hF54
                            · refine tr_pushI (?_)
                              refine tr_gotoE e88_113 (?_)
                              exact tr_retI hF54
                          · refine tr_pushI (?_)
                            refine tr_gotoE e88_113 (?_)
                            exact tr_retI hF50
                        · refine tr_pushI (?_)
                          refine tr_gotoE e88_113 (?_)
                          exact tr_retI hF46
                      · refine tr_pushI (?_)
                        refine tr_gotoE e88_113 (?_)
                        exact tr_retI hF42
                    · refine tr_pushI (?_)
                      refine tr_gotoE e88_113 (?_)
                      exact tr_retI hF38
                  · refine tr_pushI (?_)
                    refine tr_gotoE e88_113 (?_)
                    exact tr_retI hF34
                · refine tr_pushI (?_)
                  refine tr_gotoE e88_113 (?_)
                  exact tr_retI hF30
              · refine tr_pushI (?_)
                refine tr_gotoE e88_113 (?_)
                exact tr_retI hF26
            · refine tr_pushI (?_)
              refine tr_gotoE e88_113 (?_)
              exact tr_retI hF22
          · refine tr_pushI (?_)
            refine tr_gotoE e88_113 (?_)
            exact tr_retI hF18
        · refine tr_pushI (?_)
          refine tr_gotoE e88_113 (?_)
          exact tr_retI hF14
      · refine tr_pushI (?_)
        refine tr_gotoE e88_113 (?_)
        exact tr_retI hF10
    · refine tr_pushI (?_)
      refine tr_gotoE e88_113 (?_)
      exact tr_retI hF6
  · refine tr_pushI (?_)
    refine tr_gotoE e88_113 (?_)
    exact tr_retI hF2
-- Tape_askingWord
abbrev t89_89 : List hOp := oRetI :: []
abbrev t89_88 : List hOp := oPushI 3000 :: t89_89
abbrev t89_80 : List hOp := oLdA 0 :: oPushR 100024 :: oLdI 1 :: oLdI 2 :: oInvV 90 8 3 :: oIf0 cEq 88 :: oPushI 3025 :: oGoto 89 :: t89_88
abbrev t89_72 : List hOp := oLdA 0 :: oPushR 100023 :: oLdI 1 :: oLdI 2 :: oInvV 90 8 3 :: oIf0 cEq 80 :: oPushI 3024 :: oGoto 89 :: t89_80
abbrev t89_64 : List hOp := oLdA 0 :: oPushR 100022 :: oLdI 1 :: oLdI 2 :: oInvV 90 8 3 :: oIf0 cEq 72 :: oPushI 3023 :: oGoto 89 :: t89_72
abbrev t89_56 : List hOp := oLdA 0 :: oPushR 100021 :: oLdI 1 :: oLdI 2 :: oInvV 90 8 3 :: oIf0 cEq 64 :: oPushI 3022 :: oGoto 89 :: t89_64
abbrev t89_48 : List hOp := oLdA 0 :: oPushR 100020 :: oLdI 1 :: oLdI 2 :: oInvV 90 8 3 :: oIf0 cEq 56 :: oPushI 3021 :: oGoto 89 :: t89_56
abbrev t89_40 : List hOp := oLdA 0 :: oPushR 100019 :: oLdI 1 :: oLdI 2 :: oInvV 90 8 3 :: oIf0 cEq 48 :: oPushI 3020 :: oGoto 89 :: t89_48
abbrev t89_32 : List hOp := oLdA 0 :: oPushR 100018 :: oLdI 1 :: oLdI 2 :: oInvV 90 8 3 :: oIf0 cEq 40 :: oPushI 3019 :: oGoto 89 :: t89_40
abbrev t89_24 : List hOp := oLdA 0 :: oPushR 100017 :: oLdI 1 :: oLdI 2 :: oInvV 90 8 3 :: oIf0 cEq 32 :: oPushI 3018 :: oGoto 89 :: t89_32
abbrev t89_16 : List hOp := oLdA 0 :: oPushR 100016 :: oLdI 1 :: oLdI 2 :: oInvV 90 8 3 :: oIf0 cEq 24 :: oPushI 3017 :: oGoto 89 :: t89_24
abbrev t89_8 : List hOp := oLdA 0 :: oPushR 100015 :: oLdI 1 :: oLdI 2 :: oInvV 90 8 3 :: oIf0 cEq 16 :: oPushI 3016 :: oGoto 89 :: t89_16
abbrev t89_0 : List hOp := oLdA 0 :: oPushR 100014 :: oLdI 1 :: oLdI 2 :: oInvV 90 8 3 :: oIf0 cEq 8 :: oPushI 3015 :: oGoto 89 :: t89_8
theorem e89_0 : (opsOf 89).drop 0 = t89_0 := rfl
theorem e89_8 : (opsOf 89).drop 8 = t89_8 := rfl
theorem e89_16 : (opsOf 89).drop 16 = t89_16 := rfl
theorem e89_24 : (opsOf 89).drop 24 = t89_24 := rfl
theorem e89_32 : (opsOf 89).drop 32 = t89_32 := rfl
theorem e89_40 : (opsOf 89).drop 40 = t89_40 := rfl
theorem e89_48 : (opsOf 89).drop 48 = t89_48 := rfl
theorem e89_56 : (opsOf 89).drop 56 = t89_56 := rfl
theorem e89_64 : (opsOf 89).drop 64 = t89_64 := rfl
theorem e89_72 : (opsOf 89).drop 72 = t89_72 := rfl
theorem e89_80 : (opsOf 89).drop 80 = t89_80 := rfl
theorem e89_88 : (opsOf 89).drop 88 = t89_88 := rfl
theorem e89_89 : (opsOf 89).drop 89 = t89_89 := rfl
def q_Tape_askingWord (v1 : Int32) (v2 : Int32) (g : hG) : hO Int32 :=
  bnd (q_Tape_is 100014 v1 v2 g) fun r3 g1 => if r3 = (0 : Int32) then (bnd (q_Tape_is 100015 v1 v2 g1) fun r7 g5 => if r7 = (0 : Int32) then (bnd (q_Tape_is 100016 v1 v2 g5) fun r11 g9 => if r11 = (0 : Int32) then (bnd (q_Tape_is 100017 v1 v2 g9) fun r15 g13 => if r15 = (0 : Int32) then (bnd (q_Tape_is 100018 v1 v2 g13) fun r19 g17 => if r19 = (0 : Int32) then (bnd (q_Tape_is 100019 v1 v2 g17) fun r23 g21 => if r23 = (0 : Int32) then (bnd (q_Tape_is 100020 v1 v2 g21) fun r27 g25 => if r27 = (0 : Int32) then (bnd (q_Tape_is 100021 v1 v2 g25) fun r31 g29 => if r31 = (0 : Int32) then (bnd (q_Tape_is 100022 v1 v2 g29) fun r35 g33 => if r35 = (0 : Int32) then (bnd (q_Tape_is 100023 v1 v2 g33) fun r39 g37 => if r39 = (0 : Int32) then (bnd (q_Tape_is 100024 v1 v2 g37) fun r43 g41 => if r43 = (0 : Int32) then (some ((3000 : Int32), g41)) else (some ((3025 : Int32), g41))) else (some ((3024 : Int32), g37))) else (some ((3023 : Int32), g33))) else (some ((3022 : Int32), g29))) else (some ((3021 : Int32), g25))) else (some ((3020 : Int32), g21))) else (some ((3019 : Int32), g17))) else (some ((3018 : Int32), g13))) else (some ((3017 : Int32), g9))) else (some ((3016 : Int32), g5))) else (some ((3015 : Int32), g1))
theorem tm89 {d : Nat} {v1 : Int32} {v2 : Int32} (hd : 5 ≤ d) {g : hG} (hF : Frz g) : TM wI d 89 [.ref 235, .int v1, .int v2] g (q_Tape_askingWord v1 v2 g) := by
  obtain ⟨e, rfl⟩ : ∃ e, d = e + 1 := ⟨d - 1, by omega⟩
  have he := hd
  refine TM.ofE e89_0 (lv := [some (.ref 235), some (.int v1), some (.int v2)]) rfl ?_
  unfold q_Tape_askingWord
  refine tr_ldA rfl (tr_pushR (tr_ldI rfl (tr_ldI rfl (?_))))
  refine tr_invVI rfl rfl (fk_235 hF) (Nat.le_of_ble_eq_true rfl) (by decide) (Nat.le_of_ble_eq_true rfl) (tm90 (by omega) ⟨by decide, by decide⟩ hF) (fun r3 g1 _ hF2 => ?_)
  refine tr_if0j e89_8 (c_eq _ _) (fun hc4 => ?_) (fun hc4 => ?_)
  · refine tr_ldA rfl (tr_pushR (tr_ldI rfl (tr_ldI rfl (?_))))
    refine tr_invVI rfl rfl (fk_235 hF2) (Nat.le_of_ble_eq_true rfl) (by decide) (Nat.le_of_ble_eq_true rfl) (tm90 (by omega) ⟨by decide, by decide⟩ hF2) (fun r7 g5 _ hF6 => ?_)
    refine tr_if0j e89_16 (c_eq _ _) (fun hc8 => ?_) (fun hc8 => ?_)
    · refine tr_ldA rfl (tr_pushR (tr_ldI rfl (tr_ldI rfl (?_))))
      refine tr_invVI rfl rfl (fk_235 hF6) (Nat.le_of_ble_eq_true rfl) (by decide) (Nat.le_of_ble_eq_true rfl) (tm90 (by omega) ⟨by decide, by decide⟩ hF6) (fun r11 g9 _ hF10 => ?_)
      refine tr_if0j e89_24 (c_eq _ _) (fun hc12 => ?_) (fun hc12 => ?_)
      · refine tr_ldA rfl (tr_pushR (tr_ldI rfl (tr_ldI rfl (?_))))
        refine tr_invVI rfl rfl (fk_235 hF10) (Nat.le_of_ble_eq_true rfl) (by decide) (Nat.le_of_ble_eq_true rfl) (tm90 (by omega) ⟨by decide, by decide⟩ hF10) (fun r15 g13 _ hF14 => ?_)
        refine tr_if0j e89_32 (c_eq _ _) (fun hc16 => ?_) (fun hc16 => ?_)
        · refine tr_ldA rfl (tr_pushR (tr_ldI rfl (tr_ldI rfl (?_))))
          refine tr_invVI rfl rfl (fk_235 hF14) (Nat.le_of_ble_eq_true rfl) (by decide) (Nat.le_of_ble_eq_true rfl) (tm90 (by omega) ⟨by decide, by decide⟩ hF14) (fun r19 g17 _ hF18 => ?_)
          refine tr_if0j e89_40 (c_eq _ _) (fun hc20 => ?_) (fun hc20 => ?_)
          · refine tr_ldA rfl (tr_pushR (tr_ldI rfl (tr_ldI rfl (?_))))
            refine tr_invVI rfl rfl (fk_235 hF18) (Nat.le_of_ble_eq_true rfl) (by decide) (Nat.le_of_ble_eq_true rfl) (tm90 (by omega) ⟨by decide, by decide⟩ hF18) (fun r23 g21 _ hF22 => ?_)
            refine tr_if0j e89_48 (c_eq _ _) (fun hc24 => ?_) (fun hc24 => ?_)
            · refine tr_ldA rfl (tr_pushR (tr_ldI rfl (tr_ldI rfl (?_))))
              refine tr_invVI rfl rfl (fk_235 hF22) (Nat.le_of_ble_eq_true rfl) (by decide) (Nat.le_of_ble_eq_true rfl) (tm90 (by omega) ⟨by decide, by decide⟩ hF22) (fun r27 g25 _ hF26 => ?_)
              refine tr_if0j e89_56 (c_eq _ _) (fun hc28 => ?_) (fun hc28 => ?_)
              · refine tr_ldA rfl (tr_pushR (tr_ldI rfl (tr_ldI rfl (?_))))
                refine tr_invVI rfl rfl (fk_235 hF26) (Nat.le_of_ble_eq_true rfl) (by decide) (Nat.le_of_ble_eq_true rfl) (tm90 (by omega) ⟨by decide, by decide⟩ hF26) (fun r31 g29 _ hF30 => ?_)
                refine tr_if0j e89_64 (c_eq _ _) (fun hc32 => ?_) (fun hc32 => ?_)
                · refine tr_ldA rfl (tr_pushR (tr_ldI rfl (tr_ldI rfl (?_))))
                  refine tr_invVI rfl rfl (fk_235 hF30) (Nat.le_of_ble_eq_true rfl) (by decide) (Nat.le_of_ble_eq_true rfl) (tm90 (by omega) ⟨by decide, by decide⟩ hF30) (fun r35 g33 _ hF34 => ?_)
                  refine tr_if0j e89_72 (c_eq _ _) (fun hc36 => ?_) (fun hc36 => ?_)
                  · refine tr_ldA rfl (tr_pushR (tr_ldI rfl (tr_ldI rfl (?_))))
                    refine tr_invVI rfl rfl (fk_235 hF34) (Nat.le_of_ble_eq_true rfl) (by decide) (Nat.le_of_ble_eq_true rfl) (tm90 (by omega) ⟨by decide, by decide⟩ hF34) (fun r39 g37 _ hF38 => ?_)
                    refine tr_if0j e89_80 (c_eq _ _) (fun hc40 => ?_) (fun hc40 => ?_)
                    · refine tr_ldA rfl (tr_pushR (tr_ldI rfl (tr_ldI rfl (?_))))
                      refine tr_invVI rfl rfl (fk_235 hF38) (Nat.le_of_ble_eq_true rfl) (by decide) (Nat.le_of_ble_eq_true rfl) (tm90 (by omega) ⟨by decide, by decide⟩ hF38) (fun r43 g41 _ hF42 => ?_)
                      refine tr_if0j e89_88 (c_eq _ _) (fun hc44 => ?_) (fun hc44 => ?_)
                      · refine tr_pushI (?_)
                        exact tr_retI hF42
                      · refine tr_pushI (?_)
                        refine tr_gotoE e89_89 (?_)
                        exact tr_retI hF42
                    · refine tr_pushI (?_)
                      refine tr_gotoE e89_89 (?_)
                      exact tr_retI hF38
                  · refine tr_pushI (?_)
                    refine tr_gotoE e89_89 (?_)
                    exact tr_retI hF34
                · refine tr_pushI (?_)
                  refine tr_gotoE e89_89 (?_)
                  exact tr_retI hF30
              · refine tr_pushI (?_)
                refine tr_gotoE e89_89 (?_)
                exact tr_retI hF26
            · refine tr_pushI (?_)
              refine tr_gotoE e89_89 (?_)
              exact tr_retI hF22
          · refine tr_pushI (?_)
            refine tr_gotoE e89_89 (?_)
            exact tr_retI hF18
        · refine tr_pushI (?_)
          refine tr_gotoE e89_89 (?_)
          exact tr_retI hF14
      · refine tr_pushI (?_)
        refine tr_gotoE e89_89 (?_)
        exact tr_retI hF10
    · refine tr_pushI (?_)
      refine tr_gotoE e89_89 (?_)
      exact tr_retI hF6
  · refine tr_pushI (?_)
    refine tr_gotoE e89_89 (?_)
    exact tr_retI hF2
-- Tape_numberOf
abbrev t87_22 : List hOp := oLdI 3 :: oRetI :: []
abbrev t87_4 : List hOp := oLdI 4 :: oLdI 2 :: oIf cGe 22 :: oLdI 3 :: oPushI 10 :: oBin (fun x y => x * y) :: oLdA 0 :: oGetP 8 0 :: oLdI 4 :: oALdI 13 :: oBin (fun x y => x + y) :: oPushI 48 :: oBin (fun x y => x - y) :: oPushI 1001 :: oMin :: oStI 3 :: oInc 4 1 :: oGoto 4 :: t87_22
abbrev t87_0 : List hOp := oPushI 0 :: oStI 3 :: oLdI 1 :: oStI 4 :: t87_4
theorem e87_0 : (opsOf 87).drop 0 = t87_0 := rfl
theorem e87_4 : (opsOf 87).drop 4 = t87_4 := rfl
theorem e87_22 : (opsOf 87).drop 22 = t87_22 := rfl
def q_Tape_numberOf_4 (v2 : Int32) (k22 : Int32 → hG → hO Int32) (k4 : Int32 → Int32 → hG → hO Int32) (v3 : Int32) (v4 : Int32) (g : hG) : hO Int32 :=
  if v2 ≤ v4 then (k22 v3 g) else (gd v4 400 <| k4 (imin (((v3 * (10 : Int32)) + (gI g 236 v4.toNatClampNeg)) - (48 : Int32)) (1001 : Int32)) (v4 + (1 : Int32)) g)
def q_Tape_numberOf_4L (v2 : Int32) (k22 : Int32 → hG → hO Int32) : Nat → Int32 → Int32 → hG → hO Int32
  | 0 => fun _ _ _ => none
  | n + 1 => fun v3 v4 g => q_Tape_numberOf_4 v2 k22 (q_Tape_numberOf_4L v2 k22 n) v3 v4 g
theorem q_Tape_numberOf_4L_s (v2 : Int32) (k22 : Int32 → hG → hO Int32) (n : Nat) (v3 : Int32) (v4 : Int32) (g : hG) : q_Tape_numberOf_4L v2 k22 (n + 1) v3 v4 g = q_Tape_numberOf_4 v2 k22 (q_Tape_numberOf_4L v2 k22 n) v3 v4 g := rfl
theorem th87_4 {d : Nat} {v2 : Int32} {k22 : Int32 → hG → hO Int32} {k4 : Int32 → Int32 → hG → hO Int32} {v3 : Int32} {v4 : Int32} {u1 : Option Value} (hk22 : ∀ (x3 : Int32) (y4 : Option Value) (g : hG), Frz g → Tri wI d 87 t87_22 [some (.ref 235), u1, some (.int v2), some (.int x3), y4] [] g (k22 x3 g)) (hk4 : ∀ (x3 : Int32) (x4 : Int32) (g : hG), Frz g → Tri wI d 87 t87_4 [some (.ref 235), u1, some (.int v2), some (.int x3), some (.int x4)] [] g (k4 x3 x4 g)) {g : hG} (hF : Frz g) : Tri wI d 87 t87_4 [some (.ref 235), u1, some (.int v2), some (.int v3), some (.int v4)] [] g (q_Tape_numberOf_4 v2 k22 k4 v3 v4 g) := by
  unfold q_Tape_numberOf_4
  refine tr_ldI rfl (tr_ldI rfl (?_))
  refine tr_ifj e87_22 (c_ge _ _) (fun hc1 => ?_) (fun hc1 => ?_)
  · exact hk22 _ _ _ hF
  · refine tr_ldI rfl (tr_pushI (tr_bin (v := (v3 * (10 : Int32))) rfl (tr_ldA rfl (tr_getP (b := 236) (fk_235 hF) (fp_235_0 hF) (tr_ldI rfl (?_))))))
    refine tr_aldI (fk_236 hF) (fl_236 hF) (fun _ => tr_bin (v := ((v3 * (10 : Int32)) + (gI g 236 v4.toNatClampNeg))) rfl (tr_pushI (tr_bin (v := (((v3 * (10 : Int32)) + (gI g 236 v4.toNatClampNeg)) - (48 : Int32))) rfl (tr_pushI (tr_min (Nat.le_of_ble_eq_true rfl) (?_))))))
    refine tr_stI (Nat.le_of_ble_eq_true rfl) rfl rfl (tr_inc rfl rfl rfl (?_))
    refine tr_gotoE e87_4 (?_)
    exact hk4 _ _ _ hF
theorem th87_4L {d : Nat} {v2 : Int32} {k22 : Int32 → hG → hO Int32} {u1 : Option Value} (hk22 : ∀ (x3 : Int32) (y4 : Option Value) (g : hG), Frz g → Tri wI d 87 t87_22 [some (.ref 235), u1, some (.int v2), some (.int x3), y4] [] g (k22 x3 g)) : ∀ (n : Nat) (v3 : Int32) (v4 : Int32) (g : hG), Frz g → Tri wI d 87 t87_4 [some (.ref 235), u1, some (.int v2), some (.int v3), some (.int v4)] [] g (q_Tape_numberOf_4L v2 k22 n v3 v4 g)
  | 0 => fun _ _ _ _ => Tri.none_
  | n + 1 => fun _ _ g hF => th87_4 hk22 (th87_4L hk22 n) hF
def q_Tape_numberOf (v1 : Int32) (v2 : Int32) (g : hG) : hO Int32 :=
  q_Tape_numberOf_4L v2 (fun x2 g4 => some (x2, g4)) FU (0 : Int32) v1 g
theorem tm87 {d : Nat} {v1 : Int32} {v2 : Int32} {g : hG} (hF : Frz g) : TM wI d 87 [.ref 235, .int v1, .int v2] g (q_Tape_numberOf v1 v2 g) := by
  refine TM.ofE e87_0 (lv := [some (.ref 235), some (.int v1), some (.int v2), none, none]) rfl ?_
  unfold q_Tape_numberOf
  refine tr_pushI (tr_stI (Nat.le_of_ble_eq_true rfl) rfl rfl (tr_ldI rfl (tr_stI (Nat.le_of_ble_eq_true rfl) rfl rfl (?_))))
  refine th87_4L (fun x2 y3 g4 hF5 => ?_) FU _ _ _ hF
  · refine tr_ldI rfl (?_)
    exact tr_retI hF5
-- Tape_tokenOf
abbrev t86_38 : List hOp := oRetI :: []
abbrev t86_32 : List hOp := oPushI 2000 :: oLdA 0 :: oGetP 8 0 :: oLdI 1 :: oALdI 13 :: oBin (fun x y => x + y) :: t86_38
abbrev t86_21 : List hOp := oLdA 0 :: oGetP 8 0 :: oLdI 1 :: oALdI 13 :: oInvS 85 1 :: oIf0 cEq 32 :: oLdA 0 :: oLdI 1 :: oLdI 2 :: oInvV 87 8 2 :: oGoto 38 :: t86_32
abbrev t86_20 : List hOp := oRetI :: t86_21
abbrev t86_16 : List hOp := oLdA 0 :: oLdI 1 :: oLdI 2 :: oInvV 89 8 2 :: t86_20
abbrev t86_0 : List hOp := oLdA 0 :: oGetP 8 0 :: oLdI 1 :: oALdI 13 :: oInvS 84 1 :: oIf0 cEq 21 :: oLdA 0 :: oLdI 1 :: oLdI 2 :: oInvV 88 8 2 :: oStI 3 :: oLdI 3 :: oPushI 3000 :: oIf cEq 16 :: oLdI 3 :: oGoto 20 :: t86_16
theorem e86_0 : (opsOf 86).drop 0 = t86_0 := rfl
theorem e86_16 : (opsOf 86).drop 16 = t86_16 := rfl
theorem e86_20 : (opsOf 86).drop 20 = t86_20 := rfl
theorem e86_21 : (opsOf 86).drop 21 = t86_21 := rfl
theorem e86_32 : (opsOf 86).drop 32 = t86_32 := rfl
theorem e86_38 : (opsOf 86).drop 38 = t86_38 := rfl
def q_Tape_tokenOf (v1 : Int32) (v2 : Int32) (g : hG) : hO Int32 :=
  gd v1 400 <| bnd (q_Tape_isSmall (gI g 236 v1.toNatClampNeg) g) fun r3 g1 => if r3 = (0 : Int32) then (gd v1 400 <| bnd (q_Tape_isDigit (gI g1 236 v1.toNatClampNeg) g1) fun r7 g5 => if r7 = (0 : Int32) then (gd v1 400 <| some (((2000 : Int32) + (gI g5 236 v1.toNatClampNeg)), g5)) else (bnd (q_Tape_numberOf v1 v2 g5) fun r11 g9 => some (r11, g9))) else (bnd (q_Tape_joiningWord v1 v2 g1) fun r14 g12 => if r14 = (3000 : Int32) then (bnd (q_Tape_askingWord v1 v2 g12) fun r18 g16 => some (r18, g16)) else (some (r14, g12)))
theorem tm86 {d : Nat} {v1 : Int32} {v2 : Int32} (hd : 6 ≤ d) {g : hG} (hF : Frz g) : TM wI d 86 [.ref 235, .int v1, .int v2] g (q_Tape_tokenOf v1 v2 g) := by
  obtain ⟨e, rfl⟩ : ∃ e, d = e + 1 := ⟨d - 1, by omega⟩
  have he := hd
  refine TM.ofE e86_0 (lv := [some (.ref 235), some (.int v1), some (.int v2), none]) rfl ?_
  unfold q_Tape_tokenOf
  refine tr_ldA rfl (tr_getP (b := 236) (fk_235 hF) (fp_235_0 hF) (tr_ldI rfl (tr_aldI (fk_236 hF) (fl_236 hF) (fun _ => ?_))))
  refine tr_invSI rfl rfl (Nat.le_of_ble_eq_true rfl) (Nat.le_of_ble_eq_true rfl) (by decide) (Nat.le_of_ble_eq_true rfl) (tm84 hF) (fun r3 g1 _ hF2 => ?_)
  refine tr_if0j e86_21 (c_eq _ _) (fun hc4 => ?_) (fun hc4 => ?_)
  · refine tr_ldA rfl (tr_getP (b := 236) (fk_235 hF2) (fp_235_0 hF2) (tr_ldI rfl (tr_aldI (fk_236 hF2) (fl_236 hF2) (fun _ => ?_))))
    refine tr_invSI rfl rfl (Nat.le_of_ble_eq_true rfl) (Nat.le_of_ble_eq_true rfl) (by decide) (Nat.le_of_ble_eq_true rfl) (tm85 hF2) (fun r7 g5 _ hF6 => ?_)
    refine tr_if0j e86_32 (c_eq _ _) (fun hc8 => ?_) (fun hc8 => ?_)
    · refine tr_pushI (tr_ldA rfl (tr_getP (b := 236) (fk_235 hF6) (fp_235_0 hF6) (tr_ldI rfl (tr_aldI (fk_236 hF6) (fl_236 hF6) (fun _ => tr_bin (v := ((2000 : Int32) + (gI g5 236 v1.toNatClampNeg))) rfl (?_))))))
      exact tr_retI hF6
    · refine tr_ldA rfl (tr_ldI rfl (tr_ldI rfl (?_)))
      refine tr_invVI rfl rfl (fk_235 hF6) (Nat.le_of_ble_eq_true rfl) (by decide) (Nat.le_of_ble_eq_true rfl) (tm87 hF6) (fun r11 g9 _ hF10 => ?_)
      refine tr_gotoE e86_38 (?_)
      exact tr_retI hF10
  · refine tr_ldA rfl (tr_ldI rfl (tr_ldI rfl (?_)))
    refine tr_invVI rfl rfl (fk_235 hF2) (Nat.le_of_ble_eq_true rfl) (by decide) (Nat.le_of_ble_eq_true rfl) (tm88 (by omega) hF2) (fun r14 g12 _ hF13 => ?_)
    refine tr_stI (Nat.le_of_ble_eq_true rfl) rfl rfl (tr_ldI rfl (tr_pushI (?_)))
    refine tr_ifj e86_16 (c_eq _ _) (fun hc15 => ?_) (fun hc15 => ?_)
    · refine tr_ldA rfl (tr_ldI rfl (tr_ldI rfl (?_)))
      refine tr_invVI rfl rfl (fk_235 hF13) (Nat.le_of_ble_eq_true rfl) (by decide) (Nat.le_of_ble_eq_true rfl) (tm89 (by omega) hF13) (fun r18 g16 _ hF17 => ?_)
      exact tr_retI hF17
    · refine tr_ldI rfl (?_)
      refine tr_gotoE e86_20 (?_)
      exact tr_retI hF13
-- Tape_cut
abbrev t81_44 : List hOp := oLdA 0 :: oGetP 8 3 :: oLdA 0 :: oGetI 8 4 :: oLdA 0 :: oGetI 8 1 :: oAStI :: oLdA 0 :: oGetP 8 2 :: oLdA 0 :: oGetI 8 4 :: oPushI 4000 :: oAStI :: oLdA 0 :: oDup :: oGetI 8 4 :: oPushI 1 :: oBin (fun x y => x + y) :: oPutI 8 4 :: oRetV :: []
abbrev t81_42 : List hOp := oInc 1 1 :: oGoto 5 :: t81_44
abbrev t81_5 : List hOp := oLdI 1 :: oLdA 0 :: oGetI 8 1 :: oIf cGe 44 :: oLdA 0 :: oGetP 8 0 :: oLdI 1 :: oALdI 13 :: oPushI 32 :: oIf cEq 42 :: oLdA 0 :: oLdI 1 :: oInvV 82 8 1 :: oIf0 cNe 42 :: oLdA 0 :: oGetP 8 3 :: oLdA 0 :: oGetI 8 4 :: oLdI 1 :: oAStI :: oLdA 0 :: oGetP 8 2 :: oLdA 0 :: oGetI 8 4 :: oLdA 0 :: oLdI 1 :: oLdA 0 :: oLdI 1 :: oInvV 83 8 1 :: oInvV 86 8 2 :: oAStI :: oLdA 0 :: oDup :: oGetI 8 4 :: oPushI 1 :: oBin (fun x y => x + y) :: oPutI 8 4 :: t81_42
abbrev t81_0 : List hOp := oLdA 0 :: oPushI 0 :: oPutI 8 4 :: oPushI 0 :: oStI 1 :: t81_5
theorem e81_0 : (opsOf 81).drop 0 = t81_0 := rfl
theorem e81_5 : (opsOf 81).drop 5 = t81_5 := rfl
theorem e81_42 : (opsOf 81).drop 42 = t81_42 := rfl
theorem e81_44 : (opsOf 81).drop 44 = t81_44 := rfl
def q_Tape_cut_5 (k44 : hG → hO Unit) (k5 : Int32 → hG → hO Unit) (v1 : Int32) (g : hG) : hO Unit :=
  if (gI g 235 1) ≤ v1 then (k44 g) else (gd v1 400 <| if (gI g 236 v1.toNatClampNeg) = (32 : Int32) then (k5 (v1 + (1 : Int32)) g) else (bnd (q_Tape_goesOn v1 g) fun r7 g5 => if r7 = (0 : Int32) then (gd (gI g5 235 4) 401 <| wr (sI g5 238 (gI g5 235 4).toNatClampNeg v1) fun g9 => bnd (q_Tape_behindRow v1 g9) fun r13 g11 => bnd (q_Tape_tokenOf v1 r13 g11) fun r16 g14 => gd (gI g9 235 4) 401 <| wr (sI g14 237 (gI g9 235 4).toNatClampNeg r16) fun g17 => wr (sI g17 235 4 ((gI g17 235 4) + (1 : Int32))) fun g19 => k5 (v1 + (1 : Int32)) g19) else (k5 (v1 + (1 : Int32)) g5)))
def q_Tape_cut_5L (k44 : hG → hO Unit) : Nat → Int32 → hG → hO Unit
  | 0 => fun _ _ => none
  | n + 1 => fun v1 g => q_Tape_cut_5 k44 (q_Tape_cut_5L k44 n) v1 g
theorem q_Tape_cut_5L_s (k44 : hG → hO Unit) (n : Nat) (v1 : Int32) (g : hG) : q_Tape_cut_5L k44 (n + 1) v1 g = q_Tape_cut_5 k44 (q_Tape_cut_5L k44 n) v1 g := rfl
theorem th81_5 {e : Nat} (he : 7 ≤ e + 1) {k44 : hG → hO Unit} {k5 : Int32 → hG → hO Unit} {v1 : Int32} (hk44 : ∀ (y1 : Option Value) (g : hG), Frz g → Tri wU (e + 1) 81 t81_44 [some (.ref 235), y1] [] g (k44 g)) (hk5 : ∀ (x1 : Int32) (g : hG), Frz g → Tri wU (e + 1) 81 t81_5 [some (.ref 235), some (.int x1)] [] g (k5 x1 g)) {g : hG} (hF : Frz g) : Tri wU (e + 1) 81 t81_5 [some (.ref 235), some (.int v1)] [] g (q_Tape_cut_5 k44 k5 v1 g) := by
  unfold q_Tape_cut_5
  refine tr_ldI rfl (tr_ldA rfl (tr_getI (fk_235 hF) (?_)))
  refine tr_ifj e81_44 (c_ge _ _) (fun hc3 => ?_) (fun hc3 => ?_)
  · exact hk44 _ _ hF
  · refine tr_ldA rfl (tr_getP (b := 236) (fk_235 hF) (fp_235_0 hF) (tr_ldI rfl (tr_aldI (fk_236 hF) (fl_236 hF) (fun _ => tr_pushI (?_)))))
    refine tr_ifj e81_42 (c_eq _ _) (fun hc4 => ?_) (fun hc4 => ?_)
    · refine tr_inc rfl rfl rfl (?_)
      refine tr_gotoE e81_5 (?_)
      exact hk5 _ _ hF
    · refine tr_ldA rfl (tr_ldI rfl (?_))
      refine tr_invVI rfl rfl (fk_235 hF) (Nat.le_of_ble_eq_true rfl) (by decide) (Nat.le_of_ble_eq_true rfl) (tm82 (by omega) hF) (fun r7 g5 _ hF6 => ?_)
      refine tr_if0n e81_42 (c_ne _ _) (fun hc8 => ?_) (fun hc8 => ?_)
      · refine tr_inc rfl rfl rfl (?_)
        refine tr_gotoE e81_5 (?_)
        exact hk5 _ _ hF6
      · refine tr_ldA rfl (tr_getP (b := 238) (fk_235 hF6) (fp_235_3 hF6) (tr_ldA rfl (tr_getI (fk_235 hF6) (tr_ldI rfl (tr_astI hF6 (fk_238 hF6) (fl_238 hF6) (fun _ g9 _ hF10 => ?_))))))
        refine tr_ldA rfl (tr_getP (b := 237) (fk_235 hF10) (fp_235_2 hF10) (tr_ldA rfl (tr_getI (fk_235 hF10) (tr_ldA rfl (tr_ldI rfl (?_))))))
        refine tr_ldA rfl (tr_ldI rfl (?_))
        refine tr_invVI rfl rfl (fk_235 hF10) (Nat.le_of_ble_eq_true rfl) (by decide) (Nat.le_of_ble_eq_true rfl) (tm83 (by omega) hF10) (fun r13 g11 _ hF12 => ?_)
        refine tr_invVI rfl rfl (fk_235 hF12) (Nat.le_of_ble_eq_true rfl) (by decide) (Nat.le_of_ble_eq_true rfl) (tm86 (by omega) hF12) (fun r16 g14 _ hF15 => ?_)
        refine tr_astI hF15 (fk_237 hF15) (fl_237 hF15) (fun _ g17 _ hF18 => tr_ldA rfl (tr_dupA (tr_getI (fk_235 hF18) (tr_pushI (tr_bin (v := ((gI g17 235 4) + (1 : Int32))) rfl (?_))))))
        refine tr_putI hF18 (fk_235 hF18) (fun g19 _ hF20 => tr_inc rfl rfl rfl (?_))
        refine tr_gotoE e81_5 (?_)
        exact hk5 _ _ hF20
theorem th81_5L {e : Nat} (he : 7 ≤ e + 1) {k44 : hG → hO Unit} (hk44 : ∀ (y1 : Option Value) (g : hG), Frz g → Tri wU (e + 1) 81 t81_44 [some (.ref 235), y1] [] g (k44 g)) : ∀ (n : Nat) (v1 : Int32) (g : hG), Frz g → Tri wU (e + 1) 81 t81_5 [some (.ref 235), some (.int v1)] [] g (q_Tape_cut_5L k44 n v1 g)
  | 0 => fun _ _ _ => Tri.none_
  | n + 1 => fun _ g hF => th81_5 he hk44 (th81_5L he hk44 n) hF
def q_Tape_cut (g : hG) : hO Unit :=
  wr (sI g 235 4 (0 : Int32)) fun g1 => q_Tape_cut_5L (fun g22 => gd (gI g22 235 4) 401 <| wr (sI g22 238 (gI g22 235 4).toNatClampNeg (gI g22 235 1)) fun g24 => gd (gI g24 235 4) 401 <| wr (sI g24 237 (gI g24 235 4).toNatClampNeg (4000 : Int32)) fun g26 => wr (sI g26 235 4 ((gI g26 235 4) + (1 : Int32))) fun g28 => some ((), g28)) FU (0 : Int32) g1
theorem tm81 {d : Nat} (hd : 7 ≤ d) {g : hG} (hF : Frz g) : TM wU d 81 [.ref 235] g (q_Tape_cut g) := by
  obtain ⟨e, rfl⟩ : ∃ e, d = e + 1 := ⟨d - 1, by omega⟩
  have he := hd
  refine TM.ofE e81_0 (lv := [some (.ref 235), none]) rfl ?_
  unfold q_Tape_cut
  refine tr_ldA rfl (tr_pushI (tr_putI hF (fk_235 hF) (fun g1 _ hF2 => tr_pushI (tr_stI (Nat.le_of_ble_eq_true rfl) rfl rfl (?_)))))
  refine th81_5L he (fun y21 g22 hF23 => ?_) FU _ _ hF2
  · refine tr_ldA rfl (tr_getP (b := 238) (fk_235 hF23) (fp_235_3 hF23) (tr_ldA rfl (tr_getI (fk_235 hF23) (tr_ldA rfl (tr_getI (fk_235 hF23) (?_))))))
    refine tr_astI hF23 (fk_238 hF23) (fl_238 hF23) (fun _ g24 _ hF25 => tr_ldA rfl (tr_getP (b := 237) (fk_235 hF25) (fp_235_2 hF25) (tr_ldA rfl (tr_getI (fk_235 hF25) (tr_pushI (?_))))))
    refine tr_astI hF25 (fk_237 hF25) (fl_237 hF25) (fun _ g26 _ hF27 => tr_ldA rfl (tr_dupA (tr_getI (fk_235 hF27) (tr_pushI (tr_bin (v := ((gI g26 235 4) + (1 : Int32))) rfl (?_))))))
    refine tr_putI hF27 (fk_235 hF27) (fun g28 _ hF29 => ?_)
    exact tr_retV hF29
-- Text_open
abbrev t94_6 : List hOp := oLdA 0 :: oGetP 9 3 :: oLdA 0 :: oGetI 9 2 :: oPushI (-1) :: oAStI :: oLdA 0 :: oGetP 9 4 :: oLdA 0 :: oGetI 9 2 :: oPushI 0 :: oAStI :: oLdA 0 :: oGetP 9 5 :: oLdA 0 :: oGetI 9 2 :: oPushI 0 :: oAStI :: oLdA 0 :: oGetP 9 6 :: oLdA 0 :: oGetI 9 2 :: oPushI 1 :: oAStI :: oLdA 0 :: oGetP 9 7 :: oLdA 0 :: oGetI 9 2 :: oPushI 0 :: oAStI :: oLdA 0 :: oDup :: oGetI 9 2 :: oPushI 1 :: oBin (fun x y => x + y) :: oPutI 9 2 :: oPushI 1 :: oRetZ :: []
abbrev t94_0 : List hOp := oLdA 0 :: oGetI 9 2 :: oPushI 12 :: oIf cLt 6 :: oPushI 0 :: oRetZ :: t94_6
theorem e94_0 : (opsOf 94).drop 0 = t94_0 := rfl
theorem e94_6 : (opsOf 94).drop 6 = t94_6 := rfl
def q_Text_open (a0 : Nat) (g : hG) : hO Int32 :=
  if (gI g a0 2) < (12 : Int32) then (gd (gI g a0 2) 12 <| wr (sI g (a0 + 2) (gI g a0 2).toNatClampNeg (-1 : Int32)) fun g2 => gd (gI g2 a0 2) 12 <| wr (sI g2 (a0 + 3) (gI g2 a0 2).toNatClampNeg (0 : Int32)) fun g4 => gd (gI g4 a0 2) 12 <| wr (sI g4 (a0 + 4) (gI g4 a0 2).toNatClampNeg (0 : Int32)) fun g6 => gd (gI g6 a0 2) 12 <| wr (sI g6 (a0 + 5) (gI g6 a0 2).toNatClampNeg (1 : Int32)) fun g8 => gd (gI g8 a0 2) 12 <| wr (sI g8 (a0 + 6) (gI g8 a0 2).toNatClampNeg (0 : Int32)) fun g10 => wr (sI g10 a0 2 ((gI g10 a0 2) + (1 : Int32))) fun g12 => some ((1 : Int32), g12)) else (some ((0 : Int32), g))
theorem tm94 {d : Nat} {a0 : Nat} (h0 : is_txt a0 = true) {g : hG} (hF : Frz g) : TM wI d 94 [.ref a0] g (q_Text_open a0 g) := by
  refine TM.ofE e94_0 (lv := [some (.ref a0)]) rfl ?_
  unfold q_Text_open
  refine tr_ldA rfl (tr_getI (txt_k hF h0) (tr_pushI (?_)))
  refine tr_ifj e94_6 (c_lt _ _) (fun hc1 => ?_) (fun hc1 => ?_)
  · refine tr_ldA rfl (tr_getP (b := (a0 + 2)) (txt_k hF h0) (txt_p3 hF h0) (tr_ldA rfl (tr_getI (txt_k hF h0) (tr_pushI (tr_astI hF (txt_ak2 hF h0) (txt_al2 hF h0) (fun _ g2 _ hF3 => ?_))))))
    refine tr_ldA rfl (tr_getP (b := (a0 + 3)) (txt_k hF3 h0) (txt_p4 hF3 h0) (tr_ldA rfl (tr_getI (txt_k hF3 h0) (tr_pushI (tr_astI hF3 (txt_ak3 hF3 h0) (txt_al3 hF3 h0) (fun _ g4 _ hF5 => ?_))))))
    refine tr_ldA rfl (tr_getP (b := (a0 + 4)) (txt_k hF5 h0) (txt_p5 hF5 h0) (tr_ldA rfl (tr_getI (txt_k hF5 h0) (tr_pushI (tr_astI hF5 (txt_ak4 hF5 h0) (txt_al4 hF5 h0) (fun _ g6 _ hF7 => ?_))))))
    refine tr_ldA rfl (tr_getP (b := (a0 + 5)) (txt_k hF7 h0) (txt_p6 hF7 h0) (tr_ldA rfl (tr_getI (txt_k hF7 h0) (tr_pushI (tr_astI hF7 (txt_ak5 hF7 h0) (txt_al5 hF7 h0) (fun _ g8 _ hF9 => ?_))))))
    refine tr_ldA rfl (tr_getP (b := (a0 + 6)) (txt_k hF9 h0) (txt_p7 hF9 h0) (tr_ldA rfl (tr_getI (txt_k hF9 h0) (tr_pushI (tr_astI hF9 (txt_ak6 hF9 h0) (txt_al6 hF9 h0) (fun _ g10 _ hF11 => ?_))))))
    refine tr_ldA rfl (tr_dupA (tr_getI (txt_k hF11 h0) (tr_pushI (tr_bin (v := ((gI g10 a0 2) + (1 : Int32))) rfl (tr_putI hF11 (txt_k hF11 h0) (fun g12 _ hF13 => ?_))))))
    refine tr_pushI (?_)
    exact tr_retZl (Or.inr rfl) hF13
  · refine tr_pushI (?_)
    exact tr_retZl (Or.inl rfl) hF
-- Rd_took
abbrev t37_28 : List hOp := oLdI 2 :: oRetZ :: []
abbrev t37_11 : List hOp := oStI 2 :: oLdI 2 :: oIf0 cEq 28 :: oLdA 0 :: oGetI 5 4 :: oLdA 0 :: oGetP 5 0 :: oGetI 8 4 :: oPushI 1 :: oBin (fun x y => x - y) :: oIf cGe 28 :: oLdA 0 :: oDup :: oGetI 5 4 :: oPushI 1 :: oBin (fun x y => x + y) :: oPutI 5 4 :: t37_28
abbrev t37_10 : List hOp := oPushI 0 :: t37_11
abbrev t37_0 : List hOp := oLdA 0 :: oGetP 5 0 :: oGetP 8 2 :: oLdA 0 :: oGetI 5 4 :: oALdI 13 :: oLdI 1 :: oIf cNe 10 :: oPushI 1 :: oGoto 11 :: t37_10
theorem e37_0 : (opsOf 37).drop 0 = t37_0 := rfl
theorem e37_10 : (opsOf 37).drop 10 = t37_10 := rfl
theorem e37_11 : (opsOf 37).drop 11 = t37_11 := rfl
theorem e37_28 : (opsOf 37).drop 28 = t37_28 := rfl
def q_Rd_took_11 (w0 : Int32) (g : hG) : hO Int32 :=
  if w0 = (0 : Int32) then (gb w0 (some (w0, g))) else (if ((gI g 235 4) - (1 : Int32)) ≤ (gI g 239 4) then (gb w0 (some (w0, g))) else (wr (sI g 239 4 ((gI g 239 4) + (1 : Int32))) fun g4 => gb w0 (some (w0, g4))))
theorem th37_11 {d : Nat} {w0 : Int32} {u1 : Option Value} {u2 : Option Value} (hu1 : isL (some u1) = false) {g : hG} (hF : Frz g) : Tri wI d 37 t37_11 [some (.ref 239), u1, u2] [.int w0] g (q_Rd_took_11 w0 g) := by
  unfold q_Rd_took_11
  refine tr_stI (Nat.le_of_ble_eq_true rfl) (lKill_id hu1) rfl (tr_ldI rfl (?_))
  refine tr_if0j e37_28 (c_eq _ _) (fun hc2 => ?_) (fun hc2 => ?_)
  · refine tr_ldI rfl (?_)
    exact tr_retZ hF
  · refine tr_ldA rfl (tr_getI (fk_239 hF) (tr_ldA rfl (tr_getP (b := 235) (fk_239 hF) (fp_239_0 hF) (tr_getI (fk_235 hF) (tr_pushI (?_))))))
    refine tr_bin (v := ((gI g 235 4) - (1 : Int32))) rfl (?_)
    refine tr_ifj e37_28 (c_ge _ _) (fun hc3 => ?_) (fun hc3 => ?_)
    · refine tr_ldI rfl (?_)
      exact tr_retZ hF
    · refine tr_ldA rfl (tr_dupA (tr_getI (fk_239 hF) (tr_pushI (tr_bin (v := ((gI g 239 4) + (1 : Int32))) rfl (tr_putI hF (fk_239 hF) (fun g4 _ hF5 => ?_))))))
      refine tr_ldI rfl (?_)
      exact tr_retZ hF5
def q_Rd_took (v1 : Int32) (g : hG) : hO Int32 :=
  gd (gI g 239 4) 401 <| q_Rd_took_11 (if (gI g 237 (gI g 239 4).toNatClampNeg) = v1 then (1 : Int32) else (0 : Int32)) g
theorem tm37 {d : Nat} {v1 : Int32} {g : hG} (hF : Frz g) : TM wI d 37 [.ref 239, .int v1] g (q_Rd_took v1 g) := by
  refine TM.ofE e37_0 (lv := [some (.ref 239), some (.int v1), none]) rfl ?_
  unfold q_Rd_took
  refine tr_ldA rfl (tr_getP (b := 235) (fk_239 hF) (fp_239_0 hF) (tr_getP (b := 237) (fk_235 hF) (fp_235_2 hF) (tr_ldA rfl (tr_getI (fk_239 hF) (tr_aldI (fk_237 hF) (fl_237 hF) (fun _ => ?_))))))
  refine tr_ldI rfl (?_)
  refine tr_ifcE e37_10 (c_ne _ _) (fun hc6 => ?_) (fun hc6 => ?_)
  · rw [if_neg hc6]
    refine tr_pushI (?_)
    exact th37_11 rfl hF
  · rw [if_pos (Decidable.not_not.mp hc6)]
    refine tr_pushI (?_)
    refine tr_gotoE e37_11 (?_)
    exact th37_11 rfl hF
-- Rd_token
abbrev t35_0 : List hOp := oLdA 0 :: oGetP 5 0 :: oGetP 8 2 :: oLdA 0 :: oGetI 5 4 :: oALdI 13 :: oRetI :: []
theorem e35_0 : (opsOf 35).drop 0 = t35_0 := rfl
def q_Rd_token (g : hG) : hO Int32 :=
  gd (gI g 239 4) 401 <| some ((gI g 237 (gI g 239 4).toNatClampNeg), g)
theorem tm35 {d : Nat} {g : hG} (hF : Frz g) : TM wI d 35 [.ref 239] g (q_Rd_token g) := by
  refine TM.ofE e35_0 (lv := [some (.ref 239)]) rfl ?_
  unfold q_Rd_token
  refine tr_ldA rfl (tr_getP (b := 235) (fk_239 hF) (fp_239_0 hF) (tr_getP (b := 237) (fk_235 hF) (fp_235_2 hF) (tr_ldA rfl (tr_getI (fk_239 hF) (tr_aldI (fk_237 hF) (fl_237 hF) (fun _ => ?_))))))
  exact tr_retI hF
-- Rd_goOn
abbrev t36_14 : List hOp := oRetV :: []
abbrev t36_0 : List hOp := oLdA 0 :: oGetI 5 4 :: oLdA 0 :: oGetP 5 0 :: oGetI 8 4 :: oPushI 1 :: oBin (fun x y => x - y) :: oIf cGe 14 :: oLdA 0 :: oDup :: oGetI 5 4 :: oPushI 1 :: oBin (fun x y => x + y) :: oPutI 5 4 :: t36_14
theorem e36_0 : (opsOf 36).drop 0 = t36_0 := rfl
theorem e36_14 : (opsOf 36).drop 14 = t36_14 := rfl
def q_Rd_goOn (g : hG) : hO Unit :=
  if ((gI g 235 4) - (1 : Int32)) ≤ (gI g 239 4) then (some ((), g)) else (wr (sI g 239 4 ((gI g 239 4) + (1 : Int32))) fun g2 => some ((), g2))
theorem tm36 {d : Nat} {g : hG} (hF : Frz g) : TM wU d 36 [.ref 239] g (q_Rd_goOn g) := by
  refine TM.ofE e36_0 (lv := [some (.ref 239)]) rfl ?_
  unfold q_Rd_goOn
  refine tr_ldA rfl (tr_getI (fk_239 hF) (tr_ldA rfl (tr_getP (b := 235) (fk_239 hF) (fp_239_0 hF) (tr_getI (fk_235 hF) (tr_pushI (?_))))))
  refine tr_bin (v := ((gI g 235 4) - (1 : Int32))) rfl (?_)
  refine tr_ifj e36_14 (c_ge _ _) (fun hc1 => ?_) (fun hc1 => ?_)
  · exact tr_retV hF
  · refine tr_ldA rfl (tr_dupA (tr_getI (fk_239 hF) (tr_pushI (tr_bin (v := ((gI g 239 4) + (1 : Int32))) rfl (tr_putI hF (fk_239 hF) (fun g2 _ hF3 => ?_))))))
    exact tr_retV hF3
-- Rd_write
abbrev t52_5 : List hOp := oLdA 0 :: oGetP 5 1 :: oLdI 1 :: oLdI 2 :: oInvV 95 9 2 :: oLdA 0 :: oInvV 36 5 0 :: oPushI 1 :: oRetZ :: []
abbrev t52_0 : List hOp := oLdI 2 :: oPushI (-1) :: oIf cNe 5 :: oPushI 0 :: oRetZ :: t52_5
theorem e52_0 : (opsOf 52).drop 0 = t52_0 := rfl
theorem e52_5 : (opsOf 52).drop 5 = t52_5 := rfl
def q_Rd_write (v1 : Int32) (v2 : Int32) (g : hG) : hO Int32 :=
  if v2 = (-1 : Int32) then (some ((0 : Int32), g)) else (gp is_txt (gP g 239 1) fun b2 => bnd (q_Text_add b2 v1 v2 g) fun _ g3 => bnd (q_Rd_goOn g3) fun _ g5 => some ((1 : Int32), g5))
theorem tm52 {d : Nat} {v1 : Int32} {v2 : Int32} (hd : 1 ≤ d) {g : hG} (hF : Frz g) : TM wI d 52 [.ref 239, .int v1, .int v2] g (q_Rd_write v1 v2 g) := by
  obtain ⟨e, rfl⟩ : ∃ e, d = e + 1 := ⟨d - 1, by omega⟩
  have he := hd
  refine TM.ofE e52_0 (lv := [some (.ref 239), some (.int v1), some (.int v2)]) rfl ?_
  unfold q_Rd_write
  refine tr_ldI rfl (tr_pushI (?_))
  refine tr_ifn e52_5 (c_ne _ _) (fun hc1 => ?_) (fun hc1 => ?_)
  · refine tr_ldA rfl (tr_getM (fk_239 hF) (fun b2 _ hb2 => tr_ldI rfl (tr_ldI rfl (?_))))
    refine tr_invVU rfl rfl (txt_k hF hb2) (Nat.le_of_ble_eq_true rfl) (by decide) (Nat.le_of_ble_eq_true rfl) (tm95 hb2 hF) (fun _ g3 _ hF4 => ?_)
    refine tr_ldA rfl (?_)
    refine tr_invVU rfl rfl (fk_239 hF4) (Nat.le_of_ble_eq_true rfl) (by decide) (Nat.le_of_ble_eq_true rfl) (tm36 hF4) (fun _ g5 _ hF6 => ?_)
    refine tr_pushI (?_)
    exact tr_retZl (Or.inr rfl) hF6
  · refine tr_pushI (?_)
    exact tr_retZl (Or.inl rfl) hF
-- Rd_lawFact
abbrev t54_17 : List hOp := oPushI (-1) :: oRetI :: []
abbrev t54_15 : List hOp := oPushI 6 :: oRetI :: t54_17
abbrev t54_13 : List hOp := oPushI 5 :: oRetI :: t54_15
abbrev t54_11 : List hOp := oPushI 4 :: oRetI :: t54_13
abbrev t54_9 : List hOp := oPushI 3 :: oRetI :: t54_11
abbrev t54_7 : List hOp := oPushI 2 :: oRetI :: t54_9
abbrev t54_5 : List hOp := oPushI 1 :: oRetI :: t54_7
abbrev t54_3 : List hOp := oPushI 0 :: oRetI :: t54_5
abbrev t54_0 : List hOp := oLdA 0 :: oInvV 35 5 0 :: oSw 3015 [3, 5, 7, 9, 11, 13, 15] 17 :: t54_3
theorem e54_0 : (opsOf 54).drop 0 = t54_0 := rfl
theorem e54_3 : (opsOf 54).drop 3 = t54_3 := rfl
theorem e54_5 : (opsOf 54).drop 5 = t54_5 := rfl
theorem e54_7 : (opsOf 54).drop 7 = t54_7 := rfl
theorem e54_9 : (opsOf 54).drop 9 = t54_9 := rfl
theorem e54_11 : (opsOf 54).drop 11 = t54_11 := rfl
theorem e54_13 : (opsOf 54).drop 13 = t54_13 := rfl
theorem e54_15 : (opsOf 54).drop 15 = t54_15 := rfl
theorem e54_17 : (opsOf 54).drop 17 = t54_17 := rfl
def q_Rd_lawFact (g : hG) : hO Int32 :=
  bnd (q_Rd_token g) fun r3 g1 => if r3 = (3015 : Int32) then (some ((0 : Int32), g1)) else if r3 = (3016 : Int32) then (some ((1 : Int32), g1)) else if r3 = (3017 : Int32) then (some ((2 : Int32), g1)) else if r3 = (3018 : Int32) then (some ((3 : Int32), g1)) else if r3 = (3019 : Int32) then (some ((4 : Int32), g1)) else if r3 = (3020 : Int32) then (some ((5 : Int32), g1)) else if r3 = (3021 : Int32) then (some ((6 : Int32), g1)) else (some ((-1 : Int32), g1))
theorem tm54 {d : Nat} (hd : 1 ≤ d) {g : hG} (hF : Frz g) : TM wI d 54 [.ref 239] g (q_Rd_lawFact g) := by
  obtain ⟨e, rfl⟩ : ∃ e, d = e + 1 := ⟨d - 1, by omega⟩
  have he := hd
  refine TM.ofE e54_0 (lv := [some (.ref 239)]) rfl ?_
  unfold q_Rd_lawFact
  refine tr_ldA rfl (?_)
  refine tr_invVI rfl rfl (fk_239 hF) (Nat.le_of_ble_eq_true rfl) (by decide) (Nat.le_of_ble_eq_true rfl) (tm35 hF) (fun r3 g1 _ hF2 => ?_)
  refine tr_sw1E (c := (3015 : Int32)) e54_3 rfl (fun _ => ?_) (fun _ => ?_)
  · refine tr_pushI (?_)
    exact tr_retI hF2
  refine tr_sw1E (c := (3016 : Int32)) e54_5 rfl (fun _ => ?_) (fun _ => ?_)
  · refine tr_pushI (?_)
    exact tr_retI hF2
  refine tr_sw1E (c := (3017 : Int32)) e54_7 rfl (fun _ => ?_) (fun _ => ?_)
  · refine tr_pushI (?_)
    exact tr_retI hF2
  refine tr_sw1E (c := (3018 : Int32)) e54_9 rfl (fun _ => ?_) (fun _ => ?_)
  · refine tr_pushI (?_)
    exact tr_retI hF2
  refine tr_sw1E (c := (3019 : Int32)) e54_11 rfl (fun _ => ?_) (fun _ => ?_)
  · refine tr_pushI (?_)
    exact tr_retI hF2
  refine tr_sw1E (c := (3020 : Int32)) e54_13 rfl (fun _ => ?_) (fun _ => ?_)
  · refine tr_pushI (?_)
    exact tr_retI hF2
  refine tr_sw1E (c := (3021 : Int32)) e54_15 rfl (fun _ => ?_) (fun _ => ?_)
  · refine tr_pushI (?_)
    exact tr_retI hF2
  refine tr_sw0E e54_17 ?_
  refine tr_pushI (?_)
  exact tr_retI hF2
-- Rd_factOf
abbrev t53_10 : List hOp := oRetI :: []
abbrev t53_9 : List hOp := oPushI (-1) :: t53_10
abbrev t53_0 : List hOp := oLdA 0 :: oInvV 35 5 0 :: oLdI 2 :: oIf cGe 9 :: oLdI 1 :: oLdA 0 :: oInvV 35 5 0 :: oBin (fun x y => x + y) :: oGoto 10 :: t53_9
theorem e53_0 : (opsOf 53).drop 0 = t53_0 := rfl
theorem e53_9 : (opsOf 53).drop 9 = t53_9 := rfl
theorem e53_10 : (opsOf 53).drop 10 = t53_10 := rfl
def q_Rd_factOf (v1 : Int32) (v2 : Int32) (g : hG) : hO Int32 :=
  bnd (q_Rd_token g) fun r3 g1 => if v2 ≤ r3 then (some ((-1 : Int32), g1)) else (bnd (q_Rd_token g1) fun r7 g5 => some ((v1 + r7), g5))
theorem tm53 {d : Nat} {v1 : Int32} {v2 : Int32} (hd : 1 ≤ d) {g : hG} (hF : Frz g) : TM wI d 53 [.ref 239, .int v1, .int v2] g (q_Rd_factOf v1 v2 g) := by
  obtain ⟨e, rfl⟩ : ∃ e, d = e + 1 := ⟨d - 1, by omega⟩
  have he := hd
  refine TM.ofE e53_0 (lv := [some (.ref 239), some (.int v1), some (.int v2)]) rfl ?_
  unfold q_Rd_factOf
  refine tr_ldA rfl (?_)
  refine tr_invVI rfl rfl (fk_239 hF) (Nat.le_of_ble_eq_true rfl) (by decide) (Nat.le_of_ble_eq_true rfl) (tm35 hF) (fun r3 g1 _ hF2 => ?_)
  refine tr_ldI rfl (?_)
  refine tr_ifj e53_9 (c_ge _ _) (fun hc4 => ?_) (fun hc4 => ?_)
  · refine tr_pushI (?_)
    exact tr_retI hF2
  · refine tr_ldI rfl (tr_ldA rfl (?_))
    refine tr_invVI rfl rfl (fk_239 hF2) (Nat.le_of_ble_eq_true rfl) (by decide) (Nat.le_of_ble_eq_true rfl) (tm35 hF2) (fun r7 g5 _ hF6 => ?_)
    refine tr_bin (v := (v1 + r7)) rfl (?_)
    refine tr_gotoE e53_10 (?_)
    exact tr_retI hF6
-- Rd_orderFact
abbrev t55_13 : List hOp := oPushI (-1) :: oRetI :: []
abbrev t55_11 : List hOp := oPushI 4 :: oRetI :: t55_13
abbrev t55_9 : List hOp := oPushI 3 :: oRetI :: t55_11
abbrev t55_7 : List hOp := oPushI 2 :: oRetI :: t55_9
abbrev t55_5 : List hOp := oPushI 1 :: oRetI :: t55_7
abbrev t55_3 : List hOp := oPushI 0 :: oRetI :: t55_5
abbrev t55_0 : List hOp := oLdA 0 :: oInvV 35 5 0 :: oSw 3019 [3, 13, 13, 5, 7, 9, 11] 13 :: t55_3
theorem e55_0 : (opsOf 55).drop 0 = t55_0 := rfl
theorem e55_3 : (opsOf 55).drop 3 = t55_3 := rfl
theorem e55_5 : (opsOf 55).drop 5 = t55_5 := rfl
theorem e55_7 : (opsOf 55).drop 7 = t55_7 := rfl
theorem e55_9 : (opsOf 55).drop 9 = t55_9 := rfl
theorem e55_11 : (opsOf 55).drop 11 = t55_11 := rfl
theorem e55_13 : (opsOf 55).drop 13 = t55_13 := rfl
def q_Rd_orderFact (g : hG) : hO Int32 :=
  bnd (q_Rd_token g) fun r3 g1 => if r3 = (3019 : Int32) then (some ((0 : Int32), g1)) else if r3 = (3020 : Int32) then (some ((-1 : Int32), g1)) else if r3 = (3021 : Int32) then (some ((-1 : Int32), g1)) else if r3 = (3022 : Int32) then (some ((1 : Int32), g1)) else if r3 = (3023 : Int32) then (some ((2 : Int32), g1)) else if r3 = (3024 : Int32) then (some ((3 : Int32), g1)) else if r3 = (3025 : Int32) then (some ((4 : Int32), g1)) else (some ((-1 : Int32), g1))
theorem tm55 {d : Nat} (hd : 1 ≤ d) {g : hG} (hF : Frz g) : TM wI d 55 [.ref 239] g (q_Rd_orderFact g) := by
  obtain ⟨e, rfl⟩ : ∃ e, d = e + 1 := ⟨d - 1, by omega⟩
  have he := hd
  refine TM.ofE e55_0 (lv := [some (.ref 239)]) rfl ?_
  unfold q_Rd_orderFact
  refine tr_ldA rfl (?_)
  refine tr_invVI rfl rfl (fk_239 hF) (Nat.le_of_ble_eq_true rfl) (by decide) (Nat.le_of_ble_eq_true rfl) (tm35 hF) (fun r3 g1 _ hF2 => ?_)
  refine tr_sw1E (c := (3019 : Int32)) e55_3 rfl (fun _ => ?_) (fun _ => ?_)
  · refine tr_pushI (?_)
    exact tr_retI hF2
  refine tr_sw1E (c := (3020 : Int32)) e55_13 rfl (fun _ => ?_) (fun _ => ?_)
  · refine tr_pushI (?_)
    exact tr_retI hF2
  refine tr_sw1E (c := (3021 : Int32)) e55_13 rfl (fun _ => ?_) (fun _ => ?_)
  · refine tr_pushI (?_)
    exact tr_retI hF2
  refine tr_sw1E (c := (3022 : Int32)) e55_5 rfl (fun _ => ?_) (fun _ => ?_)
  · refine tr_pushI (?_)
    exact tr_retI hF2
  refine tr_sw1E (c := (3023 : Int32)) e55_7 rfl (fun _ => ?_) (fun _ => ?_)
  · refine tr_pushI (?_)
    exact tr_retI hF2
  refine tr_sw1E (c := (3024 : Int32)) e55_9 rfl (fun _ => ?_) (fun _ => ?_)
  · refine tr_pushI (?_)
    exact tr_retI hF2
  refine tr_sw1E (c := (3025 : Int32)) e55_11 rfl (fun _ => ?_) (fun _ => ?_)
  · refine tr_pushI (?_)
    exact tr_retI hF2
  refine tr_sw0E e55_13 ?_
  refine tr_pushI (?_)
  exact tr_retI hF2
-- Rd_part
abbrev t51_80 : List hOp := oLdA 0 :: oPushI 1 :: oLdA 0 :: oInvV 55 5 0 :: oInvV 52 5 2 :: oRetZ :: []
abbrev t51_68 : List hOp := oLdA 0 :: oPushI 3017 :: oInvV 37 5 1 :: oIf0 cEq 80 :: oLdA 0 :: oPushI 1 :: oLdA 0 :: oPushI 13 :: oPushI 25 :: oInvV 53 5 2 :: oInvV 52 5 2 :: oRetZ :: t51_80
abbrev t51_56 : List hOp := oLdA 0 :: oPushI 3008 :: oInvV 37 5 1 :: oIf0 cEq 68 :: oLdA 0 :: oPushI 1 :: oLdA 0 :: oPushI 5 :: oPushI 8 :: oInvV 53 5 2 :: oInvV 52 5 2 :: oRetZ :: t51_68
abbrev t51_47 : List hOp := oLdA 0 :: oGetI 5 2 :: oIf0 cNe 56 :: oLdA 0 :: oPushI 1 :: oLdA 0 :: oInvV 54 5 0 :: oInvV 52 5 2 :: oRetZ :: t51_56
abbrev t51_31 : List hOp := oLdA 0 :: oDup :: oGetI 5 3 :: oPushI 1 :: oBin (fun x y => x + y) :: oPutI 5 3 :: oLdA 0 :: oInvV 35 5 0 :: oPushI 1000 :: oIf cGt 47 :: oLdA 0 :: oPushI 0 :: oLdA 0 :: oInvV 35 5 0 :: oInvV 52 5 2 :: oRetZ :: t51_47
abbrev t51_25 : List hOp := oLdA 0 :: oGetI 5 3 :: oPushI 50 :: oIf cLt 31 :: oPushI 0 :: oRetZ :: t51_31
abbrev t51_24 : List hOp := oRetZ :: t51_25
abbrev t51_23 : List hOp := oPushI 0 :: t51_24
abbrev t51_9 : List hOp := oLdA 0 :: oInvV 36 5 0 :: oLdA 0 :: oLdI 1 :: oPushI 1 :: oBin (fun x y => x + y) :: oInvV 49 5 1 :: oIf0 cEq 23 :: oLdA 0 :: oPushI 2093 :: oInvV 37 5 1 :: oIf0 cEq 23 :: oPushI 1 :: oGoto 24 :: t51_23
abbrev t51_0 : List hOp := oLdA 0 :: oInvV 35 5 0 :: oPushI 2091 :: oIf cNe 25 :: oLdI 1 :: oPushI 8 :: oIf cLt 9 :: oPushI 0 :: oRetZ :: t51_9
theorem e51_0 : (opsOf 51).drop 0 = t51_0 := rfl
theorem e51_9 : (opsOf 51).drop 9 = t51_9 := rfl
theorem e51_23 : (opsOf 51).drop 23 = t51_23 := rfl
theorem e51_24 : (opsOf 51).drop 24 = t51_24 := rfl
theorem e51_25 : (opsOf 51).drop 25 = t51_25 := rfl
theorem e51_31 : (opsOf 51).drop 31 = t51_31 := rfl
theorem e51_47 : (opsOf 51).drop 47 = t51_47 := rfl
theorem e51_56 : (opsOf 51).drop 56 = t51_56 := rfl
theorem e51_68 : (opsOf 51).drop 68 = t51_68 := rfl
theorem e51_80 : (opsOf 51).drop 80 = t51_80 := rfl
def q_Rd_part (rs : Int32 → hG → hO Int32) (v1 : Int32) (g : hG) : hO Int32 :=
  bnd (q_Rd_token g) fun r3 g1 => if r3 = (2091 : Int32) then (if v1 < (8 : Int32) then (bnd (q_Rd_goOn g1) fun _ g52 => bnd (rs (v1 + (1 : Int32)) g52) fun r56 g54 => if r56 = (0 : Int32) then (some ((0 : Int32), g54)) else (bnd (q_Rd_took (2093 : Int32) g54) fun r60 g58 => if r60 = (0 : Int32) then (some ((0 : Int32), g58)) else (some ((1 : Int32), g58)))) else (some ((0 : Int32), g1))) else (if (gI g1 239 3) < (50 : Int32) then (wr (sI g1 239 3 ((gI g1 239 3) + (1 : Int32))) fun g6 => bnd (q_Rd_token g6) fun r10 g8 => if (1000 : Int32) < r10 then (if (gI g8 239 2) = (0 : Int32) then (bnd (q_Rd_lawFact g8) fun r41 g39 => bnd (q_Rd_write (1 : Int32) r41 g39) fun r44 g42 => gb r44 (some (r44, g42))) else (bnd (q_Rd_took (3008 : Int32) g8) fun r15 g13 => if r15 = (0 : Int32) then (bnd (q_Rd_took (3017 : Int32) g13) fun r19 g17 => if r19 = (0 : Int32) then (bnd (q_Rd_orderFact g17) fun r23 g21 => bnd (q_Rd_write (1 : Int32) r23 g21) fun r26 g24 => gb r26 (some (r26, g24))) else (bnd (q_Rd_factOf (13 : Int32) (25 : Int32) g17) fun r29 g27 => bnd (q_Rd_write (1 : Int32) r29 g27) fun r32 g30 => gb r32 (some (r32, g30)))) else (bnd (q_Rd_factOf (5 : Int32) (8 : Int32) g13) fun r35 g33 => bnd (q_Rd_write (1 : Int32) r35 g33) fun r38 g36 => gb r38 (some (r38, g36))))) else (bnd (q_Rd_token g8) fun r47 g45 => bnd (q_Rd_write (0 : Int32) r47 g45) fun r50 g48 => gb r50 (some (r50, g48)))) else (some ((0 : Int32), g1)))
theorem tm51 {d : Nat} {B : Nat} {rs : Int32 → hG → hO Int32} {v1 : Int32} (hd : B + 1 ≤ d) (hB : 8 ≤ B) (hr : ∀ d, B ≤ d → ∀ (v : Int32) (g : hG), Frz g → TM wI d 49 [.ref 239, .int v] g (rs v g)) {g : hG} (hF : Frz g) : TM wI d 51 [.ref 239, .int v1] g (q_Rd_part rs v1 g) := by
  obtain ⟨e, rfl⟩ : ∃ e, d = e + 1 := ⟨d - 1, by omega⟩
  have he := hd
  refine TM.ofE e51_0 (lv := [some (.ref 239), some (.int v1)]) rfl ?_
  unfold q_Rd_part
  refine tr_ldA rfl (?_)
  refine tr_invVI rfl rfl (fk_239 hF) (Nat.le_of_ble_eq_true rfl) (by decide) (Nat.le_of_ble_eq_true rfl) (tm35 hF) (fun r3 g1 _ hF2 => ?_)
  refine tr_pushI (?_)
  refine tr_ifn e51_25 (c_ne _ _) (fun hc4 => ?_) (fun hc4 => ?_)
  · refine tr_ldA rfl (tr_getI (fk_239 hF2) (tr_pushI (?_)))
    refine tr_ifj e51_31 (c_lt _ _) (fun hc5 => ?_) (fun hc5 => ?_)
    · refine tr_ldA rfl (tr_dupA (tr_getI (fk_239 hF2) (tr_pushI (tr_bin (v := ((gI g1 239 3) + (1 : Int32))) rfl (tr_putI hF2 (fk_239 hF2) (fun g6 _ hF7 => ?_))))))
      refine tr_ldA rfl (?_)
      refine tr_invVI rfl rfl (fk_239 hF7) (Nat.le_of_ble_eq_true rfl) (by decide) (Nat.le_of_ble_eq_true rfl) (tm35 hF7) (fun r10 g8 _ hF9 => ?_)
      refine tr_pushI (?_)
      refine tr_ifj e51_47 (c_gt _ _) (fun hc11 => ?_) (fun hc11 => ?_)
      · refine tr_ldA rfl (tr_getI (fk_239 hF9) (?_))
        refine tr_if0n e51_56 (c_ne _ _) (fun hc12 => ?_) (fun hc12 => ?_)
        · refine tr_ldA rfl (tr_pushI (?_))
          refine tr_invVI rfl rfl (fk_239 hF9) (Nat.le_of_ble_eq_true rfl) (by decide) (Nat.le_of_ble_eq_true rfl) (tm37 hF9) (fun r15 g13 _ hF14 => ?_)
          refine tr_if0j e51_68 (c_eq _ _) (fun hc16 => ?_) (fun hc16 => ?_)
          · refine tr_ldA rfl (tr_pushI (?_))
            refine tr_invVI rfl rfl (fk_239 hF14) (Nat.le_of_ble_eq_true rfl) (by decide) (Nat.le_of_ble_eq_true rfl) (tm37 hF14) (fun r19 g17 _ hF18 => ?_)
            refine tr_if0j e51_80 (c_eq _ _) (fun hc20 => ?_) (fun hc20 => ?_)
            · refine tr_ldA rfl (tr_pushI (tr_ldA rfl (?_)))
              refine tr_invVI rfl rfl (fk_239 hF18) (Nat.le_of_ble_eq_true rfl) (by decide) (Nat.le_of_ble_eq_true rfl) (tm55 (by omega) hF18) (fun r23 g21 _ hF22 => ?_)
              refine tr_invVI rfl rfl (fk_239 hF22) (Nat.le_of_ble_eq_true rfl) (by decide) (Nat.le_of_ble_eq_true rfl) (tm52 (by omega) hF22) (fun r26 g24 _ hF25 => ?_)
              exact tr_retZ hF25
            · refine tr_ldA rfl (tr_pushI (tr_ldA rfl (tr_pushI (tr_pushI (?_)))))
              refine tr_invVI rfl rfl (fk_239 hF18) (Nat.le_of_ble_eq_true rfl) (by decide) (Nat.le_of_ble_eq_true rfl) (tm53 (by omega) hF18) (fun r29 g27 _ hF28 => ?_)
              refine tr_invVI rfl rfl (fk_239 hF28) (Nat.le_of_ble_eq_true rfl) (by decide) (Nat.le_of_ble_eq_true rfl) (tm52 (by omega) hF28) (fun r32 g30 _ hF31 => ?_)
              exact tr_retZ hF31
          · refine tr_ldA rfl (tr_pushI (tr_ldA rfl (tr_pushI (tr_pushI (?_)))))
            refine tr_invVI rfl rfl (fk_239 hF14) (Nat.le_of_ble_eq_true rfl) (by decide) (Nat.le_of_ble_eq_true rfl) (tm53 (by omega) hF14) (fun r35 g33 _ hF34 => ?_)
            refine tr_invVI rfl rfl (fk_239 hF34) (Nat.le_of_ble_eq_true rfl) (by decide) (Nat.le_of_ble_eq_true rfl) (tm52 (by omega) hF34) (fun r38 g36 _ hF37 => ?_)
            exact tr_retZ hF37
        · refine tr_ldA rfl (tr_pushI (tr_ldA rfl (?_)))
          refine tr_invVI rfl rfl (fk_239 hF9) (Nat.le_of_ble_eq_true rfl) (by decide) (Nat.le_of_ble_eq_true rfl) (tm54 (by omega) hF9) (fun r41 g39 _ hF40 => ?_)
          refine tr_invVI rfl rfl (fk_239 hF40) (Nat.le_of_ble_eq_true rfl) (by decide) (Nat.le_of_ble_eq_true rfl) (tm52 (by omega) hF40) (fun r44 g42 _ hF43 => ?_)
          exact tr_retZ hF43
      · refine tr_ldA rfl (tr_pushI (tr_ldA rfl (?_)))
        refine tr_invVI rfl rfl (fk_239 hF9) (Nat.le_of_ble_eq_true rfl) (by decide) (Nat.le_of_ble_eq_true rfl) (tm35 hF9) (fun r47 g45 _ hF46 => ?_)
        refine tr_invVI rfl rfl (fk_239 hF46) (Nat.le_of_ble_eq_true rfl) (by decide) (Nat.le_of_ble_eq_true rfl) (tm52 (by omega) hF46) (fun r50 g48 _ hF49 => ?_)
        exact tr_retZ hF49
    · refine tr_pushI (?_)
      exact tr_retZl (Or.inl rfl) hF2
  · refine tr_ldI rfl (tr_pushI (?_))
    refine tr_ifj e51_9 (c_lt _ _) (fun hc51 => ?_) (fun hc51 => ?_)
    · refine tr_ldA rfl (?_)
      refine tr_invVU rfl rfl (fk_239 hF2) (Nat.le_of_ble_eq_true rfl) (by decide) (Nat.le_of_ble_eq_true rfl) (tm36 hF2) (fun _ g52 _ hF53 => ?_)
      refine tr_ldA rfl (tr_ldI rfl (tr_pushI (tr_bin (v := (v1 + (1 : Int32))) rfl (?_))))
      refine tr_invVI rfl rfl (fk_239 hF53) (Nat.le_of_ble_eq_true rfl) (by decide) (Nat.le_of_ble_eq_true rfl) (hr _ (by omega) _ _ hF53) (fun r56 g54 _ hF55 => ?_)
      refine tr_if0j e51_23 (c_eq _ _) (fun hc57 => ?_) (fun hc57 => ?_)
      · refine tr_pushI (?_)
        exact tr_retZl (Or.inl rfl) hF55
      · refine tr_ldA rfl (tr_pushI (?_))
        refine tr_invVI rfl rfl (fk_239 hF55) (Nat.le_of_ble_eq_true rfl) (by decide) (Nat.le_of_ble_eq_true rfl) (tm37 hF55) (fun r60 g58 _ hF59 => ?_)
        refine tr_if0j e51_23 (c_eq _ _) (fun hc61 => ?_) (fun hc61 => ?_)
        · refine tr_pushI (?_)
          exact tr_retZl (Or.inl rfl) hF59
        · refine tr_pushI (?_)
          refine tr_gotoE e51_24 (?_)
          exact tr_retZl (Or.inr rfl) hF59
    · refine tr_pushI (?_)
      exact tr_retZl (Or.inl rfl) hF2
-- Rd_term
abbrev t50_49 : List hOp := oPushI 1 :: oRetZ :: []
abbrev t50_42 : List hOp := oLdA 0 :: oGetP 5 1 :: oLdI 3 :: oPushI 0 :: oInvV 95 9 2 :: oInc 2 1 :: oGoto 8 :: t50_49
abbrev t50_40 : List hOp := oPushI 0 :: oRetZ :: t50_42
abbrev t50_36 : List hOp := oLdA 0 :: oLdI 1 :: oInvV 51 5 1 :: oIf0 cNe 42 :: t50_40
abbrev t50_34 : List hOp := oPushI 1 :: oRetZ :: t50_36
abbrev t50_30 : List hOp := oStI 3 :: oLdI 3 :: oPushI (-1) :: oIf cNe 36 :: t50_34
abbrev t50_29 : List hOp := oPushI (-1) :: t50_30
abbrev t50_23 : List hOp := oLdA 0 :: oPushI 2037 :: oInvV 37 5 1 :: oIf0 cEq 29 :: oPushI 6 :: oGoto 30 :: t50_29
abbrev t50_17 : List hOp := oLdA 0 :: oPushI 2047 :: oInvV 37 5 1 :: oIf0 cEq 23 :: oPushI 5 :: oGoto 30 :: t50_23
abbrev t50_8 : List hOp := oLdI 2 :: oPushI 400 :: oIf cGe 49 :: oLdA 0 :: oPushI 2042 :: oInvV 37 5 1 :: oIf0 cEq 17 :: oPushI 4 :: oGoto 30 :: t50_17
abbrev t50_6 : List hOp := oPushI 0 :: oStI 2 :: t50_8
abbrev t50_0 : List hOp := oLdA 0 :: oLdI 1 :: oInvV 51 5 1 :: oIf0 cNe 6 :: oPushI 0 :: oRetZ :: t50_6
theorem e50_0 : (opsOf 50).drop 0 = t50_0 := rfl
theorem e50_6 : (opsOf 50).drop 6 = t50_6 := rfl
theorem e50_8 : (opsOf 50).drop 8 = t50_8 := rfl
theorem e50_17 : (opsOf 50).drop 17 = t50_17 := rfl
theorem e50_23 : (opsOf 50).drop 23 = t50_23 := rfl
theorem e50_29 : (opsOf 50).drop 29 = t50_29 := rfl
theorem e50_30 : (opsOf 50).drop 30 = t50_30 := rfl
theorem e50_36 : (opsOf 50).drop 36 = t50_36 := rfl
theorem e50_42 : (opsOf 50).drop 42 = t50_42 := rfl
theorem e50_49 : (opsOf 50).drop 49 = t50_49 := rfl
def q_Rd_term_30 (rs : Int32 → hG → hO Int32) (v1 : Int32) (v2 : Int32) (k8 : Int32 → hG → hO Int32) (w0 : Int32) (g : hG) : hO Int32 :=
  if w0 = (-1 : Int32) then (some ((1 : Int32), g)) else (bnd (q_Rd_part rs v1 g) fun r21 g19 => if r21 = (0 : Int32) then (some ((0 : Int32), g19)) else (gp is_txt (gP g19 239 1) fun b23 => bnd (q_Text_add b23 w0 (0 : Int32) g19) fun _ g24 => k8 (v2 + (1 : Int32)) g24))
theorem th50_30 {B : Nat} {e : Nat} {rs : Int32 → hG → hO Int32} (he : B + 2 ≤ e + 1) (hB : 8 ≤ B) (hr : ∀ d, B ≤ d → ∀ (v : Int32) (g : hG), Frz g → TM wI d 49 [.ref 239, .int v] g (rs v g)) {v1 : Int32} {v2 : Int32} {k8 : Int32 → hG → hO Int32} {w0 : Int32} {u3 : Option Value} (hk8 : ∀ (x2 : Int32) (y3 : Option Value) (g : hG), Frz g → Tri wI (e + 1) 50 t50_8 [some (.ref 239), some (.int v1), some (.int x2), y3] [] g (k8 x2 g)) {g : hG} (hF : Frz g) : Tri wI (e + 1) 50 t50_30 [some (.ref 239), some (.int v1), some (.int v2), u3] [.int w0] g (q_Rd_term_30 rs v1 v2 k8 w0 g) := by
  unfold q_Rd_term_30
  refine tr_stI (Nat.le_of_ble_eq_true rfl) rfl rfl (tr_ldI rfl (tr_pushI (?_)))
  refine tr_ifn e50_36 (c_ne _ _) (fun hc18 => ?_) (fun hc18 => ?_)
  · refine tr_ldA rfl (tr_ldI rfl (?_))
    refine tr_invVI rfl rfl (fk_239 hF) (Nat.le_of_ble_eq_true rfl) (by decide) (Nat.le_of_ble_eq_true rfl) (tm51 (by omega) hB hr hF) (fun r21 g19 _ hF20 => ?_)
    refine tr_if0n e50_42 (c_ne _ _) (fun hc22 => ?_) (fun hc22 => ?_)
    · refine tr_ldA rfl (tr_getM (fk_239 hF20) (fun b23 _ hb23 => tr_ldI rfl (tr_pushI (?_))))
      refine tr_invVU rfl rfl (txt_k hF20 hb23) (Nat.le_of_ble_eq_true rfl) (by decide) (Nat.le_of_ble_eq_true rfl) (tm95 hb23 hF20) (fun _ g24 _ hF25 => ?_)
      refine tr_inc rfl rfl rfl (?_)
      refine tr_gotoE e50_8 (?_)
      exact hk8 _ _ _ hF25
    · refine tr_pushI (?_)
      exact tr_retZl (Or.inl rfl) hF20
  · refine tr_pushI (?_)
    exact tr_retZl (Or.inr rfl) hF
def q_Rd_term_8 (rs : Int32 → hG → hO Int32) (v1 : Int32) (k49 : hG → hO Int32) (k8 : Int32 → hG → hO Int32) (v2 : Int32) (g : hG) : hO Int32 :=
  if (400 : Int32) ≤ v2 then (k49 g) else (bnd (q_Rd_took (2042 : Int32) g) fun r8 g6 => if r8 = (0 : Int32) then (bnd (q_Rd_took (2047 : Int32) g6) fun r12 g10 => if r12 = (0 : Int32) then (bnd (q_Rd_took (2037 : Int32) g10) fun r16 g14 => q_Rd_term_30 rs v1 v2 k8 (if r16 = (0 : Int32) then (-1 : Int32) else (6 : Int32)) g14) else (q_Rd_term_30 rs v1 v2 k8 (5 : Int32) g10)) else (q_Rd_term_30 rs v1 v2 k8 (4 : Int32) g6))
def q_Rd_term_8L (rs : Int32 → hG → hO Int32) (v1 : Int32) (k49 : hG → hO Int32) : Nat → Int32 → hG → hO Int32
  | 0 => fun _ _ => none
  | n + 1 => fun v2 g => q_Rd_term_8 rs v1 k49 (q_Rd_term_8L rs v1 k49 n) v2 g
theorem q_Rd_term_8L_s (rs : Int32 → hG → hO Int32) (v1 : Int32) (k49 : hG → hO Int32) (n : Nat) (v2 : Int32) (g : hG) : q_Rd_term_8L rs v1 k49 (n + 1) v2 g = q_Rd_term_8 rs v1 k49 (q_Rd_term_8L rs v1 k49 n) v2 g := rfl
theorem th50_8 {B : Nat} {e : Nat} {rs : Int32 → hG → hO Int32} (he : B + 2 ≤ e + 1) (hB : 8 ≤ B) (hr : ∀ d, B ≤ d → ∀ (v : Int32) (g : hG), Frz g → TM wI d 49 [.ref 239, .int v] g (rs v g)) {v1 : Int32} {k49 : hG → hO Int32} {k8 : Int32 → hG → hO Int32} {v2 : Int32} {u3 : Option Value} (hk49 : ∀ (y2 : Option Value) (y3 : Option Value) (_ : isL (some y2) = false) (g : hG), Frz g → Tri wI (e + 1) 50 t50_49 [some (.ref 239), some (.int v1), y2, y3] [] g (k49 g)) (hk8 : ∀ (x2 : Int32) (y3 : Option Value) (g : hG), Frz g → Tri wI (e + 1) 50 t50_8 [some (.ref 239), some (.int v1), some (.int x2), y3] [] g (k8 x2 g)) {g : hG} (hF : Frz g) : Tri wI (e + 1) 50 t50_8 [some (.ref 239), some (.int v1), some (.int v2), u3] [] g (q_Rd_term_8 rs v1 k49 k8 v2 g) := by
  unfold q_Rd_term_8
  refine tr_ldI rfl (tr_pushI (?_))
  refine tr_ifj e50_49 (c_ge _ _) (fun hc5 => ?_) (fun hc5 => ?_)
  · exact hk49 _ _ rfl _ hF
  · refine tr_ldA rfl (tr_pushI (?_))
    refine tr_invVI rfl rfl (fk_239 hF) (Nat.le_of_ble_eq_true rfl) (by decide) (Nat.le_of_ble_eq_true rfl) (tm37 hF) (fun r8 g6 _ hF7 => ?_)
    refine tr_if0j e50_17 (c_eq _ _) (fun hc9 => ?_) (fun hc9 => ?_)
    · refine tr_ldA rfl (tr_pushI (?_))
      refine tr_invVI rfl rfl (fk_239 hF7) (Nat.le_of_ble_eq_true rfl) (by decide) (Nat.le_of_ble_eq_true rfl) (tm37 hF7) (fun r12 g10 _ hF11 => ?_)
      refine tr_if0j e50_23 (c_eq _ _) (fun hc13 => ?_) (fun hc13 => ?_)
      · refine tr_ldA rfl (tr_pushI (?_))
        refine tr_invVI rfl rfl (fk_239 hF11) (Nat.le_of_ble_eq_true rfl) (by decide) (Nat.le_of_ble_eq_true rfl) (tm37 hF11) (fun r16 g14 _ hF15 => ?_)
        refine tr_if0cE e50_29 (c_eq _ _) (fun hc26 => ?_) (fun hc26 => ?_)
        · rw [if_pos hc26]
          refine tr_pushI (?_)
          exact th50_30 he hB hr hk8 hF15
        · rw [if_neg hc26]
          refine tr_pushI (?_)
          refine tr_gotoE e50_30 (?_)
          exact th50_30 he hB hr hk8 hF15
      · refine tr_pushI (?_)
        refine tr_gotoE e50_30 (?_)
        exact th50_30 he hB hr hk8 hF11
    · refine tr_pushI (?_)
      refine tr_gotoE e50_30 (?_)
      exact th50_30 he hB hr hk8 hF7
theorem th50_8L {B : Nat} {e : Nat} {rs : Int32 → hG → hO Int32} (he : B + 2 ≤ e + 1) (hB : 8 ≤ B) (hr : ∀ d, B ≤ d → ∀ (v : Int32) (g : hG), Frz g → TM wI d 49 [.ref 239, .int v] g (rs v g)) {v1 : Int32} {k49 : hG → hO Int32} (hk49 : ∀ (y2 : Option Value) (y3 : Option Value) (_ : isL (some y2) = false) (g : hG), Frz g → Tri wI (e + 1) 50 t50_49 [some (.ref 239), some (.int v1), y2, y3] [] g (k49 g)) : ∀ (n : Nat) (v2 : Int32) (u3 : Option Value) (g : hG), Frz g → Tri wI (e + 1) 50 t50_8 [some (.ref 239), some (.int v1), some (.int v2), u3] [] g (q_Rd_term_8L rs v1 k49 n v2 g)
  | 0 => fun _ _ _ _ => Tri.none_
  | n + 1 => fun _ _ g hF => th50_8 he hB hr hk49 (th50_8L he hB hr hk49 n) hF
def q_Rd_term (rs : Int32 → hG → hO Int32) (v1 : Int32) (g : hG) : hO Int32 :=
  bnd (q_Rd_part rs v1 g) fun r3 g1 => if r3 = (0 : Int32) then (some ((0 : Int32), g1)) else (q_Rd_term_8L rs v1 (fun g29 => some ((1 : Int32), g29)) FU (0 : Int32) g1)
theorem tm50 {d : Nat} {B : Nat} {rs : Int32 → hG → hO Int32} {v1 : Int32} (hd : B + 2 ≤ d) (hB : 8 ≤ B) (hr : ∀ d, B ≤ d → ∀ (v : Int32) (g : hG), Frz g → TM wI d 49 [.ref 239, .int v] g (rs v g)) {g : hG} (hF : Frz g) : TM wI d 50 [.ref 239, .int v1] g (q_Rd_term rs v1 g) := by
  obtain ⟨e, rfl⟩ : ∃ e, d = e + 1 := ⟨d - 1, by omega⟩
  have he := hd
  refine TM.ofE e50_0 (lv := [some (.ref 239), some (.int v1), none, none]) rfl ?_
  unfold q_Rd_term
  refine tr_ldA rfl (tr_ldI rfl (?_))
  refine tr_invVI rfl rfl (fk_239 hF) (Nat.le_of_ble_eq_true rfl) (by decide) (Nat.le_of_ble_eq_true rfl) (tm51 (by omega) hB hr hF) (fun r3 g1 _ hF2 => ?_)
  refine tr_if0n e50_6 (c_ne _ _) (fun hc4 => ?_) (fun hc4 => ?_)
  · refine tr_pushI (tr_stI (Nat.le_of_ble_eq_true rfl) rfl rfl (?_))
    refine th50_8L he hB hr (fun y27 y28 zy27 g29 hF30 => ?_) FU _ _ _ hF2
    · refine tr_pushI (?_)
      exact tr_retZl (Or.inr rfl) hF30
  · refine tr_pushI (?_)
    exact tr_retZl (Or.inl rfl) hF2
-- Rd_sum
abbrev t49_43 : List hOp := oPushI 1 :: oRetZ :: []
abbrev t49_36 : List hOp := oLdA 0 :: oGetP 5 1 :: oLdI 3 :: oPushI 0 :: oInvV 95 9 2 :: oInc 2 1 :: oGoto 8 :: t49_43
abbrev t49_34 : List hOp := oPushI 0 :: oRetZ :: t49_36
abbrev t49_30 : List hOp := oLdA 0 :: oLdI 1 :: oInvV 50 5 1 :: oIf0 cNe 36 :: t49_34
abbrev t49_28 : List hOp := oPushI 1 :: oRetZ :: t49_30
abbrev t49_24 : List hOp := oStI 3 :: oLdI 3 :: oPushI (-1) :: oIf cNe 30 :: t49_28
abbrev t49_23 : List hOp := oPushI (-1) :: t49_24
abbrev t49_17 : List hOp := oLdA 0 :: oPushI 2045 :: oInvV 37 5 1 :: oIf0 cEq 23 :: oPushI 3 :: oGoto 24 :: t49_23
abbrev t49_8 : List hOp := oLdI 2 :: oPushI 400 :: oIf cGe 43 :: oLdA 0 :: oPushI 2043 :: oInvV 37 5 1 :: oIf0 cEq 17 :: oPushI 2 :: oGoto 24 :: t49_17
abbrev t49_6 : List hOp := oPushI 0 :: oStI 2 :: t49_8
abbrev t49_0 : List hOp := oLdA 0 :: oLdI 1 :: oInvV 50 5 1 :: oIf0 cNe 6 :: oPushI 0 :: oRetZ :: t49_6
theorem e49_0 : (opsOf 49).drop 0 = t49_0 := rfl
theorem e49_6 : (opsOf 49).drop 6 = t49_6 := rfl
theorem e49_8 : (opsOf 49).drop 8 = t49_8 := rfl
theorem e49_17 : (opsOf 49).drop 17 = t49_17 := rfl
theorem e49_23 : (opsOf 49).drop 23 = t49_23 := rfl
theorem e49_24 : (opsOf 49).drop 24 = t49_24 := rfl
theorem e49_30 : (opsOf 49).drop 30 = t49_30 := rfl
theorem e49_36 : (opsOf 49).drop 36 = t49_36 := rfl
theorem e49_43 : (opsOf 49).drop 43 = t49_43 := rfl
def q_Rd_sum_24 (rs : Int32 → hG → hO Int32) (v1 : Int32) (v2 : Int32) (k8 : Int32 → hG → hO Int32) (w0 : Int32) (g : hG) : hO Int32 :=
  if w0 = (-1 : Int32) then (some ((1 : Int32), g)) else (bnd (q_Rd_term rs v1 g) fun r17 g15 => if r17 = (0 : Int32) then (some ((0 : Int32), g15)) else (gp is_txt (gP g15 239 1) fun b19 => bnd (q_Text_add b19 w0 (0 : Int32) g15) fun _ g20 => k8 (v2 + (1 : Int32)) g20))
theorem th49_24 {B : Nat} {e : Nat} {rs : Int32 → hG → hO Int32} (he : B + 3 ≤ e + 1) (hB : 8 ≤ B) (hr : ∀ d, B ≤ d → ∀ (v : Int32) (g : hG), Frz g → TM wI d 49 [.ref 239, .int v] g (rs v g)) {v1 : Int32} {v2 : Int32} {k8 : Int32 → hG → hO Int32} {w0 : Int32} {u3 : Option Value} (hk8 : ∀ (x2 : Int32) (y3 : Option Value) (g : hG), Frz g → Tri wI (e + 1) 49 t49_8 [some (.ref 239), some (.int v1), some (.int x2), y3] [] g (k8 x2 g)) {g : hG} (hF : Frz g) : Tri wI (e + 1) 49 t49_24 [some (.ref 239), some (.int v1), some (.int v2), u3] [.int w0] g (q_Rd_sum_24 rs v1 v2 k8 w0 g) := by
  unfold q_Rd_sum_24
  refine tr_stI (Nat.le_of_ble_eq_true rfl) rfl rfl (tr_ldI rfl (tr_pushI (?_)))
  refine tr_ifn e49_30 (c_ne _ _) (fun hc14 => ?_) (fun hc14 => ?_)
  · refine tr_ldA rfl (tr_ldI rfl (?_))
    refine tr_invVI rfl rfl (fk_239 hF) (Nat.le_of_ble_eq_true rfl) (by decide) (Nat.le_of_ble_eq_true rfl) (tm50 (by omega) hB hr hF) (fun r17 g15 _ hF16 => ?_)
    refine tr_if0n e49_36 (c_ne _ _) (fun hc18 => ?_) (fun hc18 => ?_)
    · refine tr_ldA rfl (tr_getM (fk_239 hF16) (fun b19 _ hb19 => tr_ldI rfl (tr_pushI (?_))))
      refine tr_invVU rfl rfl (txt_k hF16 hb19) (Nat.le_of_ble_eq_true rfl) (by decide) (Nat.le_of_ble_eq_true rfl) (tm95 hb19 hF16) (fun _ g20 _ hF21 => ?_)
      refine tr_inc rfl rfl rfl (?_)
      refine tr_gotoE e49_8 (?_)
      exact hk8 _ _ _ hF21
    · refine tr_pushI (?_)
      exact tr_retZl (Or.inl rfl) hF16
  · refine tr_pushI (?_)
    exact tr_retZl (Or.inr rfl) hF
def q_Rd_sum_8 (rs : Int32 → hG → hO Int32) (v1 : Int32) (k43 : hG → hO Int32) (k8 : Int32 → hG → hO Int32) (v2 : Int32) (g : hG) : hO Int32 :=
  if (400 : Int32) ≤ v2 then (k43 g) else (bnd (q_Rd_took (2043 : Int32) g) fun r8 g6 => if r8 = (0 : Int32) then (bnd (q_Rd_took (2045 : Int32) g6) fun r12 g10 => q_Rd_sum_24 rs v1 v2 k8 (if r12 = (0 : Int32) then (-1 : Int32) else (3 : Int32)) g10) else (q_Rd_sum_24 rs v1 v2 k8 (2 : Int32) g6))
def q_Rd_sum_8L (rs : Int32 → hG → hO Int32) (v1 : Int32) (k43 : hG → hO Int32) : Nat → Int32 → hG → hO Int32
  | 0 => fun _ _ => none
  | n + 1 => fun v2 g => q_Rd_sum_8 rs v1 k43 (q_Rd_sum_8L rs v1 k43 n) v2 g
theorem q_Rd_sum_8L_s (rs : Int32 → hG → hO Int32) (v1 : Int32) (k43 : hG → hO Int32) (n : Nat) (v2 : Int32) (g : hG) : q_Rd_sum_8L rs v1 k43 (n + 1) v2 g = q_Rd_sum_8 rs v1 k43 (q_Rd_sum_8L rs v1 k43 n) v2 g := rfl
theorem th49_8 {B : Nat} {e : Nat} {rs : Int32 → hG → hO Int32} (he : B + 3 ≤ e + 1) (hB : 8 ≤ B) (hr : ∀ d, B ≤ d → ∀ (v : Int32) (g : hG), Frz g → TM wI d 49 [.ref 239, .int v] g (rs v g)) {v1 : Int32} {k43 : hG → hO Int32} {k8 : Int32 → hG → hO Int32} {v2 : Int32} {u3 : Option Value} (hk43 : ∀ (y2 : Option Value) (y3 : Option Value) (_ : isL (some y2) = false) (g : hG), Frz g → Tri wI (e + 1) 49 t49_43 [some (.ref 239), some (.int v1), y2, y3] [] g (k43 g)) (hk8 : ∀ (x2 : Int32) (y3 : Option Value) (g : hG), Frz g → Tri wI (e + 1) 49 t49_8 [some (.ref 239), some (.int v1), some (.int x2), y3] [] g (k8 x2 g)) {g : hG} (hF : Frz g) : Tri wI (e + 1) 49 t49_8 [some (.ref 239), some (.int v1), some (.int v2), u3] [] g (q_Rd_sum_8 rs v1 k43 k8 v2 g) := by
  unfold q_Rd_sum_8
  refine tr_ldI rfl (tr_pushI (?_))
  refine tr_ifj e49_43 (c_ge _ _) (fun hc5 => ?_) (fun hc5 => ?_)
  · exact hk43 _ _ rfl _ hF
  · refine tr_ldA rfl (tr_pushI (?_))
    refine tr_invVI rfl rfl (fk_239 hF) (Nat.le_of_ble_eq_true rfl) (by decide) (Nat.le_of_ble_eq_true rfl) (tm37 hF) (fun r8 g6 _ hF7 => ?_)
    refine tr_if0j e49_17 (c_eq _ _) (fun hc9 => ?_) (fun hc9 => ?_)
    · refine tr_ldA rfl (tr_pushI (?_))
      refine tr_invVI rfl rfl (fk_239 hF7) (Nat.le_of_ble_eq_true rfl) (by decide) (Nat.le_of_ble_eq_true rfl) (tm37 hF7) (fun r12 g10 _ hF11 => ?_)
      refine tr_if0cE e49_23 (c_eq _ _) (fun hc22 => ?_) (fun hc22 => ?_)
      · rw [if_pos hc22]
        refine tr_pushI (?_)
        exact th49_24 he hB hr hk8 hF11
      · rw [if_neg hc22]
        refine tr_pushI (?_)
        refine tr_gotoE e49_24 (?_)
        exact th49_24 he hB hr hk8 hF11
    · refine tr_pushI (?_)
      refine tr_gotoE e49_24 (?_)
      exact th49_24 he hB hr hk8 hF7
theorem th49_8L {B : Nat} {e : Nat} {rs : Int32 → hG → hO Int32} (he : B + 3 ≤ e + 1) (hB : 8 ≤ B) (hr : ∀ d, B ≤ d → ∀ (v : Int32) (g : hG), Frz g → TM wI d 49 [.ref 239, .int v] g (rs v g)) {v1 : Int32} {k43 : hG → hO Int32} (hk43 : ∀ (y2 : Option Value) (y3 : Option Value) (_ : isL (some y2) = false) (g : hG), Frz g → Tri wI (e + 1) 49 t49_43 [some (.ref 239), some (.int v1), y2, y3] [] g (k43 g)) : ∀ (n : Nat) (v2 : Int32) (u3 : Option Value) (g : hG), Frz g → Tri wI (e + 1) 49 t49_8 [some (.ref 239), some (.int v1), some (.int v2), u3] [] g (q_Rd_sum_8L rs v1 k43 n v2 g)
  | 0 => fun _ _ _ _ => Tri.none_
  | n + 1 => fun _ _ g hF => th49_8 he hB hr hk43 (th49_8L he hB hr hk43 n) hF
def q_Rd_sum (rs : Int32 → hG → hO Int32) (v1 : Int32) (g : hG) : hO Int32 :=
  bnd (q_Rd_term rs v1 g) fun r3 g1 => if r3 = (0 : Int32) then (some ((0 : Int32), g1)) else (q_Rd_sum_8L rs v1 (fun g25 => some ((1 : Int32), g25)) FU (0 : Int32) g1)
theorem tm49 {d : Nat} {B : Nat} {rs : Int32 → hG → hO Int32} {v1 : Int32} (hd : B + 3 ≤ d) (hB : 8 ≤ B) (hr : ∀ d, B ≤ d → ∀ (v : Int32) (g : hG), Frz g → TM wI d 49 [.ref 239, .int v] g (rs v g)) {g : hG} (hF : Frz g) : TM wI d 49 [.ref 239, .int v1] g (q_Rd_sum rs v1 g) := by
  obtain ⟨e, rfl⟩ : ∃ e, d = e + 1 := ⟨d - 1, by omega⟩
  have he := hd
  refine TM.ofE e49_0 (lv := [some (.ref 239), some (.int v1), none, none]) rfl ?_
  unfold q_Rd_sum
  refine tr_ldA rfl (tr_ldI rfl (?_))
  refine tr_invVI rfl rfl (fk_239 hF) (Nat.le_of_ble_eq_true rfl) (by decide) (Nat.le_of_ble_eq_true rfl) (tm50 (by omega) hB hr hF) (fun r3 g1 _ hF2 => ?_)
  refine tr_if0n e49_6 (c_ne _ _) (fun hc4 => ?_) (fun hc4 => ?_)
  · refine tr_pushI (tr_stI (Nat.le_of_ble_eq_true rfl) rfl rfl (?_))
    refine th49_8L he hB hr (fun y23 y24 zy23 g25 hF26 => ?_) FU _ _ _ hF2
    · refine tr_pushI (?_)
      exact tr_retZl (Or.inr rfl) hF26
  · refine tr_pushI (?_)
    exact tr_retZl (Or.inl rfl) hF2
def z_Rd_sum : Nat → Int32 → hG → hO Int32
  | 0 => fun _ _ => none
  | n + 1 => fun v g => q_Rd_sum (z_Rd_sum n) v g
theorem tmz49 : ∀ (n : Nat) {d : Nat}, 3 * n + 8 ≤ d → ∀ (v : Int32) (g : hG), Frz g → TM wI d 49 [.ref 239, .int v] g (z_Rd_sum n v g)
  | 0, _, _ => fun _ _ _ => fun r G' h => by cases h
  | n + 1, _, hd => fun v g hF => tm49 (B := 3 * n + 8) (by omega) (by omega) (fun d hd v g hF => tmz49 n hd v g hF) hF
-- Rd_endRow
abbrev t43_0 : List hOp := oLdA 0 :: oGetP 5 1 :: oPushI 13 :: oPushI 0 :: oInvV 95 9 2 :: oLdI 1 :: oRetZ :: []
theorem e43_0 : (opsOf 43).drop 0 = t43_0 := rfl
def q_Rd_endRow (v1 : Int32) (g : hG) : hO Int32 :=
  gp is_txt (gP g 239 1) fun b1 => bnd (q_Text_add b1 (13 : Int32) (0 : Int32) g) fun _ g2 => gb v1 (some (v1, g2))
theorem tm43 {d : Nat} {v1 : Int32} (hd : 1 ≤ d) {g : hG} (hF : Frz g) : TM wI d 43 [.ref 239, .int v1] g (q_Rd_endRow v1 g) := by
  obtain ⟨e, rfl⟩ : ∃ e, d = e + 1 := ⟨d - 1, by omega⟩
  have he := hd
  refine TM.ofE e43_0 (lv := [some (.ref 239), some (.int v1)]) rfl ?_
  unfold q_Rd_endRow
  refine tr_ldA rfl (tr_getM (fk_239 hF) (fun b1 _ hb1 => tr_pushI (tr_pushI (?_))))
  refine tr_invVU rfl rfl (txt_k hF hb1) (Nat.le_of_ble_eq_true rfl) (by decide) (Nat.le_of_ble_eq_true rfl) (tm95 hb1 hF) (fun _ g2 _ hF3 => ?_)
  refine tr_ldI rfl (?_)
  exact tr_retZ hF3
