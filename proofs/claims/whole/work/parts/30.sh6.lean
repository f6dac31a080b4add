-- Mo_layRuns
abbrev t230_65 : List hOp := oRetV :: []
abbrev t230_62 : List hOp := oAStI :: oInc 1 1 :: oGoto 16 :: t230_65
abbrev t230_61 : List hOp := oLdI 2 :: t230_62
abbrev t230_59 : List hOp := oLdI 1 :: oGoto 62 :: t230_61
abbrev t230_48 : List hOp := oLdA 0 :: oGetP 12 42 :: oLdI 1 :: oLdA 0 :: oLdI 1 :: oInvV 180 12 1 :: oIf0 cNe 59 :: oLdA 0 :: oLdI 1 :: oInvV 229 12 1 :: oIf0 cEq 61 :: t230_59
abbrev t230_45 : List hOp := oStI 2 :: oInc 3 1 :: oGoto 23 :: t230_48
abbrev t230_44 : List hOp := oLdI 2 :: t230_45
abbrev t230_23 : List hOp := oLdI 3 :: oPushI 4 :: oIf cGe 48 :: oLdI 1 :: oLdI 3 :: oInvS 183 2 :: oStI 4 :: oLdI 4 :: oPushI (-1) :: oIf cEq 44 :: oLdA 0 :: oGetP 12 41 :: oLdI 4 :: oALdI 13 :: oLdA 0 :: oGetP 12 41 :: oLdI 2 :: oALdI 13 :: oIf cGe 44 :: oLdI 4 :: oGoto 45 :: t230_44
abbrev t230_16 : List hOp := oLdI 1 :: oPushI 25 :: oIf cGe 65 :: oLdI 1 :: oStI 2 :: oPushI 0 :: oStI 3 :: t230_23
abbrev t230_14 : List hOp := oPushI 0 :: oStI 1 :: t230_16
abbrev t230_2 : List hOp := oLdI 1 :: oPushI 25 :: oIf cGe 14 :: oLdA 0 :: oGetP 12 41 :: oLdI 1 :: oLdA 0 :: oLdI 1 :: oInvV 228 12 1 :: oAStI :: oInc 1 1 :: oGoto 2 :: t230_14
abbrev t230_0 : List hOp := oPushI 0 :: oStI 1 :: t230_2
theorem e230_0 : (opsOf 230).drop 0 = t230_0 := rfl
theorem e230_2 : (opsOf 230).drop 2 = t230_2 := rfl
theorem e230_14 : (opsOf 230).drop 14 = t230_14 := rfl
theorem e230_16 : (opsOf 230).drop 16 = t230_16 := rfl
theorem e230_23 : (opsOf 230).drop 23 = t230_23 := rfl
theorem e230_44 : (opsOf 230).drop 44 = t230_44 := rfl
theorem e230_45 : (opsOf 230).drop 45 = t230_45 := rfl
theorem e230_48 : (opsOf 230).drop 48 = t230_48 := rfl
theorem e230_59 : (opsOf 230).drop 59 = t230_59 := rfl
theorem e230_61 : (opsOf 230).drop 61 = t230_61 := rfl
theorem e230_62 : (opsOf 230).drop 62 = t230_62 := rfl
theorem e230_65 : (opsOf 230).drop 65 = t230_65 := rfl
def q_Mo_layRuns_2 (k14 : hG → hO Unit) (k2 : Int32 → hG → hO Unit) (v1 : Int32) (g : hG) : hO Unit :=
  if (25 : Int32) ≤ v1 then (k14 g) else (bnd (q_Mo_standsAt v1 g) fun r4 g2 => gd v1 25 <| wr (sI g2 388 v1.toNatClampNeg r4) fun g5 => k2 (v1 + (1 : Int32)) g5)
def q_Mo_layRuns_2L (k14 : hG → hO Unit) : Nat → Int32 → hG → hO Unit
  | 0 => fun _ _ => none
  | n + 1 => fun v1 g => q_Mo_layRuns_2 k14 (q_Mo_layRuns_2L k14 n) v1 g
theorem q_Mo_layRuns_2L_s (k14 : hG → hO Unit) (n : Nat) (v1 : Int32) (g : hG) : q_Mo_layRuns_2L k14 (n + 1) v1 g = q_Mo_layRuns_2 k14 (q_Mo_layRuns_2L k14 n) v1 g := rfl
theorem th230_2 {e : Nat} (he : 5 ≤ e + 1) {k14 : hG → hO Unit} {k2 : Int32 → hG → hO Unit} {v1 : Int32} {u2 : Option Value} {u3 : Option Value} {u4 : Option Value} (hk14 : ∀ (y1 : Option Value) (_ : isL (some y1) = false) (g : hG), Frz g → Tri wU (e + 1) 230 t230_14 [some (.ref 367), y1, u2, u3, u4] [] g (k14 g)) (hk2 : ∀ (x1 : Int32) (g : hG), Frz g → Tri wU (e + 1) 230 t230_2 [some (.ref 367), some (.int x1), u2, u3, u4] [] g (k2 x1 g)) (hu2 : isL (some u2) = false) (hu3 : isL (some u3) = false) {g : hG} (hF : Frz g) : Tri wU (e + 1) 230 t230_2 [some (.ref 367), some (.int v1), u2, u3, u4] [] g (q_Mo_layRuns_2 k14 k2 v1 g) := by
  unfold q_Mo_layRuns_2
  refine tr_ldI rfl (tr_pushI (?_))
  refine tr_ifj e230_14 (c_ge _ _) (fun hc1 => ?_) (fun hc1 => ?_)
  · exact hk14 _ rfl _ hF
  · refine tr_ldA rfl (tr_getP (b := 388) (fk_367 hF) (fp_367_41 hF) (tr_ldI rfl (tr_ldA rfl (tr_ldI rfl (?_)))))
    refine tr_invVI rfl rfl (fk_367 hF) (Nat.le_of_ble_eq_true rfl) (by decide) (Nat.le_of_ble_eq_true rfl) (tm228 (by omega) hF) (fun r4 g2 _ hF3 => ?_)
    refine tr_astI hF3 (fk_388 hF3) (fl_388 hF3) (fun _ g5 _ hF6 => tr_inc rfl rfl rfl (?_))
    refine tr_gotoE e230_2 (?_)
    exact hk2 _ _ hF6
theorem th230_2L {e : Nat} (he : 5 ≤ e + 1) {k14 : hG → hO Unit} {u2 : Option Value} {u3 : Option Value} {u4 : Option Value} (hk14 : ∀ (y1 : Option Value) (_ : isL (some y1) = false) (g : hG), Frz g → Tri wU (e + 1) 230 t230_14 [some (.ref 367), y1, u2, u3, u4] [] g (k14 g)) (hu2 : isL (some u2) = false) (hu3 : isL (some u3) = false) : ∀ (n : Nat) (v1 : Int32) (g : hG), Frz g → Tri wU (e + 1) 230 t230_2 [some (.ref 367), some (.int v1), u2, u3, u4] [] g (q_Mo_layRuns_2L k14 n v1 g)
  | 0 => fun _ _ _ => Tri.none_
  | n + 1 => fun _ g hF => th230_2 he hk14 (th230_2L he hk14 hu2 hu3 n) hu2 hu3 hF
def q_Mo_layRuns_23 (v1 : Int32) (k48 : Int32 → hG → hO Unit) (k23 : Int32 → Int32 → hG → hO Unit) (v2 : Int32) (v3 : Int32) (g : hG) : hO Unit :=
  if (4 : Int32) ≤ v3 then (k48 v2 g) else (bnd (q_Mo_beside v1 v3 g) fun r14 g12 => if r14 = (-1 : Int32) then (k23 v2 (v3 + (1 : Int32)) g12) else (gd r14 25 <| gd v2 25 <| if (gI g12 388 v2.toNatClampNeg) ≤ (gI g12 388 r14.toNatClampNeg) then (k23 v2 (v3 + (1 : Int32)) g12) else (k23 r14 (v3 + (1 : Int32)) g12)))
def q_Mo_layRuns_23L (v1 : Int32) (k48 : Int32 → hG → hO Unit) : Nat → Int32 → Int32 → hG → hO Unit
  | 0 => fun _ _ _ => none
  | n + 1 => fun v2 v3 g => q_Mo_layRuns_23 v1 k48 (q_Mo_layRuns_23L v1 k48 n) v2 v3 g
theorem q_Mo_layRuns_23L_s (v1 : Int32) (k48 : Int32 → hG → hO Unit) (n : Nat) (v2 : Int32) (v3 : Int32) (g : hG) : q_Mo_layRuns_23L v1 k48 (n + 1) v2 v3 g = q_Mo_layRuns_23 v1 k48 (q_Mo_layRuns_23L v1 k48 n) v2 v3 g := rfl
theorem th230_23 {e : Nat} (he : 5 ≤ e + 1) {v1 : Int32} {k48 : Int32 → hG → hO Unit} {k23 : Int32 → Int32 → hG → hO Unit} {v2 : Int32} {v3 : Int32} {u4 : Option Value} (hk48 : ∀ (x2 : Int32) (y3 : Option Value) (y4 : Option Value) (_ : isL (some y3) = false) (g : hG), Frz g → Tri wU (e + 1) 230 t230_48 [some (.ref 367), some (.int v1), some (.int x2), y3, y4] [] g (k48 x2 g)) (hk23 : ∀ (x2 : Int32) (x3 : Int32) (y4 : Option Value) (g : hG), Frz g → Tri wU (e + 1) 230 t230_23 [some (.ref 367), some (.int v1), some (.int x2), some (.int x3), y4] [] g (k23 x2 x3 g)) {g : hG} (hF : Frz g) : Tri wU (e + 1) 230 t230_23 [some (.ref 367), some (.int v1), some (.int v2), some (.int v3), u4] [] g (q_Mo_layRuns_23 v1 k48 k23 v2 v3 g) := by
  unfold q_Mo_layRuns_23
  refine tr_ldI rfl (tr_pushI (?_))
  refine tr_ifj e230_48 (c_ge _ _) (fun hc11 => ?_) (fun hc11 => ?_)
  · exact hk48 _ _ _ rfl _ hF
  · refine tr_ldI rfl (tr_ldI rfl (?_))
    refine tr_invSI rfl rfl (Nat.le_of_ble_eq_true rfl) (Nat.le_of_ble_eq_true rfl) (by decide) (Nat.le_of_ble_eq_true rfl) (tm183 (by omega) hF) (fun r14 g12 _ hF13 => ?_)
    refine tr_stI (Nat.le_of_ble_eq_true rfl) rfl rfl (tr_ldI rfl (tr_pushI (?_)))
    refine tr_ifj e230_44 (c_eq _ _) (fun hc15 => ?_) (fun hc15 => ?_)
    · refine tr_ldI rfl (tr_stI (Nat.le_of_ble_eq_true rfl) rfl rfl (tr_inc rfl rfl rfl (?_)))
      refine tr_gotoE e230_23 (?_)
      exact hk23 _ _ _ _ hF13
    · refine tr_ldA rfl (tr_getP (b := 388) (fk_367 hF13) (fp_367_41 hF13) (tr_ldI rfl (tr_aldI (fk_388 hF13) (fl_388 hF13) (fun _ => tr_ldA rfl (tr_getP (b := 388) (fk_367 hF13) (fp_367_41 hF13) (?_))))))
      refine tr_ldI rfl (tr_aldI (fk_388 hF13) (fl_388 hF13) (fun _ => ?_))
      refine tr_ifj e230_44 (c_ge _ _) (fun hc16 => ?_) (fun hc16 => ?_)
      · refine tr_ldI rfl (tr_stI (Nat.le_of_ble_eq_true rfl) rfl rfl (tr_inc rfl rfl rfl (?_)))
        refine tr_gotoE e230_23 (?_)
        exact hk23 _ _ _ _ hF13
      · refine tr_ldI rfl (?_)
        refine tr_gotoE e230_45 (?_)
        refine tr_stI (Nat.le_of_ble_eq_true rfl) rfl rfl (tr_inc rfl rfl rfl (?_))
        refine tr_gotoE e230_23 (?_)
        exact hk23 _ _ _ _ hF13
theorem th230_23L {e : Nat} (he : 5 ≤ e + 1) {v1 : Int32} {k48 : Int32 → hG → hO Unit} (hk48 : ∀ (x2 : Int32) (y3 : Option Value) (y4 : Option Value) (_ : isL (some y3) = false) (g : hG), Frz g → Tri wU (e + 1) 230 t230_48 [some (.ref 367), some (.int v1), some (.int x2), y3, y4] [] g (k48 x2 g)) : ∀ (n : Nat) (v2 : Int32) (v3 : Int32) (u4 : Option Value) (g : hG), Frz g → Tri wU (e + 1) 230 t230_23 [some (.ref 367), some (.int v1), some (.int v2), some (.int v3), u4] [] g (q_Mo_layRuns_23L v1 k48 n v2 v3 g)
  | 0 => fun _ _ _ _ _ => Tri.none_
  | n + 1 => fun _ _ _ g hF => th230_23 he hk48 (th230_23L he hk48 n) hF
def q_Mo_layRuns_62 (v1 : Int32) (k16 : Int32 → hG → hO Unit) (w1 : Int32) (w2 : Int32) (g : hG) : hO Unit :=
  gd w1 25 <| wr (sI g 389 w1.toNatClampNeg w2) fun g26 => k16 (v1 + (1 : Int32)) g26
theorem th230_62 {e : Nat} (he : 5 ≤ e + 1) {v1 : Int32} {k16 : Int32 → hG → hO Unit} {w1 : Int32} {w2 : Int32} {u2 : Option Value} {u3 : Option Value} {u4 : Option Value} (hk16 : ∀ (x1 : Int32) (y2 : Option Value) (y3 : Option Value) (y4 : Option Value) (_ : isL (some y2) = false) (_ : isL (some y3) = false) (g : hG), Frz g → Tri wU (e + 1) 230 t230_16 [some (.ref 367), some (.int x1), y2, y3, y4] [] g (k16 x1 g)) (hu2 : isL (some u2) = false) (hu3 : isL (some u3) = false) {g : hG} (hF : Frz g) : Tri wU (e + 1) 230 t230_62 [some (.ref 367), some (.int v1), u2, u3, u4] [.int w2, .int w1, .ref 389] g (q_Mo_layRuns_62 v1 k16 w1 w2 g) := by
  unfold q_Mo_layRuns_62
  refine tr_astI hF (fk_389 hF) (fl_389 hF) (fun _ g26 _ hF27 => tr_inc rfl rfl rfl (?_))
  refine tr_gotoE e230_16 (?_)
  exact hk16 _ _ _ _ hu2 hu3 _ hF27
def q_Mo_layRuns_16 (k65 : hG → hO Unit) (k16 : Int32 → hG → hO Unit) (v1 : Int32) (g : hG) : hO Unit :=
  if (25 : Int32) ≤ v1 then (k65 g) else (q_Mo_layRuns_23L v1 (fun x17 g20 => bnd (q_Mo_hasDoor v1 g20) fun r24 g22 => if r24 = (0 : Int32) then (bnd (q_Mo_isHeld v1 g22) fun r30 g28 => q_Mo_layRuns_62 v1 k16 v1 (if r30 = (0 : Int32) then x17 else v1) g28) else (q_Mo_layRuns_62 v1 k16 v1 v1 g22)) FU v1 (0 : Int32) g)
def q_Mo_layRuns_16L (k65 : hG → hO Unit) : Nat → Int32 → hG → hO Unit
  | 0 => fun _ _ => none
  | n + 1 => fun v1 g => q_Mo_layRuns_16 k65 (q_Mo_layRuns_16L k65 n) v1 g
theorem q_Mo_layRuns_16L_s (k65 : hG → hO Unit) (n : Nat) (v1 : Int32) (g : hG) : q_Mo_layRuns_16L k65 (n + 1) v1 g = q_Mo_layRuns_16 k65 (q_Mo_layRuns_16L k65 n) v1 g := rfl
theorem th230_16 {e : Nat} (he : 5 ≤ e + 1) {k65 : hG → hO Unit} {k16 : Int32 → hG → hO Unit} {v1 : Int32} {u2 : Option Value} {u3 : Option Value} {u4 : Option Value} (hk65 : ∀ (y1 : Option Value) (y2 : Option Value) (y3 : Option Value) (y4 : Option Value) (_ : isL (some y1) = false) (_ : isL (some y2) = false) (_ : isL (some y3) = false) (g : hG), Frz g → Tri wU (e + 1) 230 t230_65 [some (.ref 367), y1, y2, y3, y4] [] g (k65 g)) (hk16 : ∀ (x1 : Int32) (y2 : Option Value) (y3 : Option Value) (y4 : Option Value) (_ : isL (some y2) = false) (_ : isL (some y3) = false) (g : hG), Frz g → Tri wU (e + 1) 230 t230_16 [some (.ref 367), some (.int x1), y2, y3, y4] [] g (k16 x1 g)) (hu2 : isL (some u2) = false) (hu3 : isL (some u3) = false) {g : hG} (hF : Frz g) : Tri wU (e + 1) 230 t230_16 [some (.ref 367), some (.int v1), u2, u3, u4] [] g (q_Mo_layRuns_16 k65 k16 v1 g) := by
  unfold q_Mo_layRuns_16
  refine tr_ldI rfl (tr_pushI (?_))
  refine tr_ifj e230_65 (c_ge _ _) (fun hc10 => ?_) (fun hc10 => ?_)
  · exact hk65 _ _ _ _ rfl hu2 hu3 _ hF
  · refine tr_ldI rfl (tr_stI (Nat.le_of_ble_eq_true rfl) rfl rfl (tr_pushI (tr_stI (Nat.le_of_ble_eq_true rfl) rfl rfl (?_))))
    refine th230_23L he (fun x17 y18 y19 zy18 g20 hF21 => ?_) FU _ _ _ _ hF
    · refine tr_ldA rfl (tr_getP (b := 389) (fk_367 hF21) (fp_367_42 hF21) (tr_ldI rfl (tr_ldA rfl (tr_ldI rfl (?_)))))
      refine tr_invVI rfl rfl (fk_367 hF21) (Nat.le_of_ble_eq_true rfl) (by decide) (Nat.le_of_ble_eq_true rfl) (tm180 (by omega) hF21) (fun r24 g22 _ hF23 => ?_)
      refine tr_if0n e230_59 (c_ne _ _) (fun hc25 => ?_) (fun hc25 => ?_)
      · refine tr_ldI rfl (?_)
        refine tr_gotoE e230_62 (?_)
        exact th230_62 he hk16 rfl zy18 hF23
      · refine tr_ldA rfl (tr_ldI rfl (?_))
        refine tr_invVI rfl rfl (fk_367 hF23) (Nat.le_of_ble_eq_true rfl) (by decide) (Nat.le_of_ble_eq_true rfl) (tm229 (by omega) hF23) (fun r30 g28 _ hF29 => ?_)
        refine tr_if0cE e230_61 (c_eq _ _) (fun hc32 => ?_) (fun hc32 => ?_)
        · rw [if_pos hc32]
          refine tr_ldI rfl (?_)
          exact th230_62 he hk16 rfl zy18 hF29
        · rw [if_neg hc32]
          refine tr_ldI rfl (?_)
          refine tr_gotoE e230_62 (?_)
          exact th230_62 he hk16 rfl zy18 hF29
theorem th230_16L {e : Nat} (he : 5 ≤ e + 1) {k65 : hG → hO Unit} (hk65 : ∀ (y1 : Option Value) (y2 : Option Value) (y3 : Option Value) (y4 : Option Value) (_ : isL (some y1) = false) (_ : isL (some y2) = false) (_ : isL (some y3) = false) (g : hG), Frz g → Tri wU (e + 1) 230 t230_65 [some (.ref 367), y1, y2, y3, y4] [] g (k65 g)) : ∀ (n : Nat) (v1 : Int32) (u2 : Option Value) (u3 : Option Value) (u4 : Option Value) (_ : isL (some u2) = false) (_ : isL (some u3) = false) (g : hG), Frz g → Tri wU (e + 1) 230 t230_16 [some (.ref 367), some (.int v1), u2, u3, u4] [] g (q_Mo_layRuns_16L k65 n v1 g)
  | 0 => fun _ _ _ _ _ _ _ _ => Tri.none_
  | n + 1 => fun _ _ _ _ z2 z3 g hF => th230_16 he hk65 (th230_16L he hk65 n) z2 z3 hF
def q_Mo_layRuns (g : hG) : hO Unit :=
  q_Mo_layRuns_2L (fun g8 => q_Mo_layRuns_16L (fun g37 => some ((), g37)) FU (0 : Int32) g8) FU (0 : Int32) g
theorem tm230 {d : Nat} (hd : 5 ≤ d) {g : hG} (hF : Frz g) : TM wU d 230 [.ref 367] g (q_Mo_layRuns g) := by
  obtain ⟨e, rfl⟩ : ∃ e, d = e + 1 := ⟨d - 1, by omega⟩
  have he := hd
  refine TM.ofE e230_0 (lv := [some (.ref 367), none, none, none, none]) rfl ?_
  unfold q_Mo_layRuns
  refine tr_pushI (tr_stI (Nat.le_of_ble_eq_true rfl) rfl rfl (?_))
  refine th230_2L he (fun y7 zy7 g8 hF9 => ?_) rfl rfl FU _ _ hF
  · refine tr_pushI (tr_stI (Nat.le_of_ble_eq_true rfl) rfl rfl (?_))
    refine th230_16L he (fun y33 y34 y35 y36 zy33 zy34 zy35 g37 hF38 => ?_) FU _ _ _ _ rfl rfl _ hF9
    · exact tr_retV hF38
-- Mo_cell
abbrev t184_48 : List hOp := oPushI (-1) :: oRetI :: []
abbrev t184_41 : List hOp := oLdA 0 :: oInvV 230 12 0 :: oLdA 0 :: oGetP 12 42 :: oLdI 1 :: oALdI 13 :: oRetI :: t184_48
abbrev t184_40 : List hOp := oRetI :: t184_41
abbrev t184_39 : List hOp := oPushI 0 :: t184_40
abbrev t184_33 : List hOp := oLdA 0 :: oLdI 1 :: oInvV 229 12 1 :: oIf0 cEq 39 :: oPushI 1 :: oGoto 40 :: t184_39
abbrev t184_29 : List hOp := oLdA 0 :: oLdI 1 :: oInvV 228 12 1 :: oRetI :: t184_33
abbrev t184_25 : List hOp := oLdA 0 :: oLdI 1 :: oInvV 181 12 1 :: oRetI :: t184_29
abbrev t184_24 : List hOp := oRetI :: t184_25
abbrev t184_23 : List hOp := oPushI 0 :: t184_24
abbrev t184_17 : List hOp := oLdA 0 :: oLdI 1 :: oInvV 180 12 1 :: oIf0 cEq 23 :: oPushI 1 :: oGoto 24 :: t184_23
abbrev t184_10 : List hOp := oLdA 0 :: oGetP 12 3 :: oPushI 7 :: oLdI 1 :: oBin (fun x y => x + y) :: oALdI 13 :: oRetI :: t184_17
abbrev t184_8 : List hOp := oLdI 2 :: oSw 0 [10, 17, 25, 29, 33, 41] 48 :: t184_10
abbrev t184_0 : List hOp := oLdA 0 :: oPushI 0 :: oPutI 12 0 :: oLdI 1 :: oInvS 178 1 :: oIf0 cNe 8 :: oPushI (-1) :: oRetI :: t184_8
theorem e184_0 : (opsOf 184).drop 0 = t184_0 := rfl
theorem e184_8 : (opsOf 184).drop 8 = t184_8 := rfl
theorem e184_10 : (opsOf 184).drop 10 = t184_10 := rfl
theorem e184_17 : (opsOf 184).drop 17 = t184_17 := rfl
theorem e184_23 : (opsOf 184).drop 23 = t184_23 := rfl
theorem e184_24 : (opsOf 184).drop 24 = t184_24 := rfl
theorem e184_25 : (opsOf 184).drop 25 = t184_25 := rfl
theorem e184_29 : (opsOf 184).drop 29 = t184_29 := rfl
theorem e184_33 : (opsOf 184).drop 33 = t184_33 := rfl
theorem e184_39 : (opsOf 184).drop 39 = t184_39 := rfl
theorem e184_40 : (opsOf 184).drop 40 = t184_40 := rfl
theorem e184_41 : (opsOf 184).drop 41 = t184_41 := rfl
theorem e184_48 : (opsOf 184).drop 48 = t184_48 := rfl
def q_Mo_cell (v1 : Int32) (v2 : Int32) (g : hG) : hO Int32 :=
  wr (sI g 367 0 (0 : Int32)) fun g1 => bnd (q_Mo_isCell v1 g1) fun r5 g3 => if r5 = (0 : Int32) then (some ((-1 : Int32), g3)) else (if v2 = (0 : Int32) then (gd ((7 : Int32) + v1) 5468 <| some ((gI g3 369 ((7 : Int32) + v1).toNatClampNeg), g3)) else if v2 = (1 : Int32) then (bnd (q_Mo_hasDoor v1 g3) fun r9 g7 => if r9 = (0 : Int32) then (some ((0 : Int32), g7)) else (some ((1 : Int32), g7))) else if v2 = (2 : Int32) then (bnd (q_Mo_lettersOn v1 g3) fun r13 g11 => some (r13, g11)) else if v2 = (3 : Int32) then (bnd (q_Mo_standsAt v1 g3) fun r16 g14 => some (r16, g14)) else if v2 = (4 : Int32) then (bnd (q_Mo_isHeld v1 g3) fun r19 g17 => if r19 = (0 : Int32) then (some ((0 : Int32), g17)) else (some ((1 : Int32), g17))) else if v2 = (5 : Int32) then (bnd (q_Mo_layRuns g3) fun _ g21 => gd v1 25 <| some ((gI g21 389 v1.toNatClampNeg), g21)) else (some ((-1 : Int32), g3)))
theorem tm184 {d : Nat} {v1 : Int32} {v2 : Int32} (hd : 6 ≤ d) {g : hG} (hF : Frz g) : TM wI d 184 [.ref 367, .int v1, .int v2] g (q_Mo_cell v1 v2 g) := by
  obtain ⟨e, rfl⟩ : ∃ e, d = e + 1 := ⟨d - 1, by omega⟩
  have he := hd
  refine TM.ofE e184_0 (lv := [some (.ref 367), some (.int v1), some (.int v2)]) rfl ?_
  unfold q_Mo_cell
  refine tr_ldA rfl (tr_pushI (tr_putI hF (fk_367 hF) (fun g1 _ hF2 => tr_ldI rfl (?_))))
  refine tr_invSI rfl rfl (Nat.le_of_ble_eq_true rfl) (Nat.le_of_ble_eq_true rfl) (by decide) (Nat.le_of_ble_eq_true rfl) (tm178 (by omega) hF2) (fun r5 g3 _ hF4 => ?_)
  refine tr_if0n e184_8 (c_ne _ _) (fun hc6 => ?_) (fun hc6 => ?_)
  · refine tr_ldI rfl (?_)
    refine tr_sw1E (c := (0 : Int32)) e184_10 rfl (fun _ => ?_) (fun _ => ?_)
    · refine tr_ldA rfl (tr_getP (b := 369) (fk_367 hF4) (fp_367_3 hF4) (tr_pushI (tr_ldI rfl (tr_bin (v := ((7 : Int32) + v1)) rfl (tr_aldI (fk_369 hF4) (fl_369 hF4) (fun _ => ?_))))))
      exact tr_retI hF4
    refine tr_sw1E (c := (1 : Int32)) e184_17 rfl (fun _ => ?_) (fun _ => ?_)
    · refine tr_ldA rfl (tr_ldI rfl (?_))
      refine tr_invVI rfl rfl (fk_367 hF4) (Nat.le_of_ble_eq_true rfl) (by decide) (Nat.le_of_ble_eq_true rfl) (tm180 (by omega) hF4) (fun r9 g7 _ hF8 => ?_)
      refine tr_if0j e184_23 (c_eq _ _) (fun hc10 => ?_) (fun hc10 => ?_)
      · refine tr_pushI (?_)
        exact tr_retI hF8
      · refine tr_pushI (?_)
        refine tr_gotoE e184_24 (?_)
        exact tr_retI hF8
    refine tr_sw1E (c := (2 : Int32)) e184_25 rfl (fun _ => ?_) (fun _ => ?_)
    · refine tr_ldA rfl (tr_ldI rfl (?_))
      refine tr_invVI rfl rfl (fk_367 hF4) (Nat.le_of_ble_eq_true rfl) (by decide) (Nat.le_of_ble_eq_true rfl) (tm181 hF4) (fun r13 g11 _ hF12 => ?_)
      exact tr_retI hF12
    refine tr_sw1E (c := (3 : Int32)) e184_29 rfl (fun _ => ?_) (fun _ => ?_)
    · refine tr_ldA rfl (tr_ldI rfl (?_))
      refine tr_invVI rfl rfl (fk_367 hF4) (Nat.le_of_ble_eq_true rfl) (by decide) (Nat.le_of_ble_eq_true rfl) (tm228 (by omega) hF4) (fun r16 g14 _ hF15 => ?_)
      exact tr_retI hF15
    refine tr_sw1E (c := (4 : Int32)) e184_33 rfl (fun _ => ?_) (fun _ => ?_)
    · refine tr_ldA rfl (tr_ldI rfl (?_))
      refine tr_invVI rfl rfl (fk_367 hF4) (Nat.le_of_ble_eq_true rfl) (by decide) (Nat.le_of_ble_eq_true rfl) (tm229 (by omega) hF4) (fun r19 g17 _ hF18 => ?_)
      refine tr_if0j e184_39 (c_eq _ _) (fun hc20 => ?_) (fun hc20 => ?_)
      · refine tr_pushI (?_)
        exact tr_retI hF18
      · refine tr_pushI (?_)
        refine tr_gotoE e184_40 (?_)
        exact tr_retI hF18
    refine tr_sw1E (c := (5 : Int32)) e184_41 rfl (fun _ => ?_) (fun _ => ?_)
    · refine tr_ldA rfl (?_)
      refine tr_invVU rfl rfl (fk_367 hF4) (Nat.le_of_ble_eq_true rfl) (by decide) (Nat.le_of_ble_eq_true rfl) (tm230 (by omega) hF4) (fun _ g21 _ hF22 => ?_)
      refine tr_ldA rfl (tr_getP (b := 389) (fk_367 hF22) (fp_367_42 hF22) (tr_ldI rfl (tr_aldI (fk_389 hF22) (fl_389 hF22) (fun _ => ?_))))
      exact tr_retI hF22
    refine tr_sw0E e184_48 ?_
    refine tr_pushI (?_)
    exact tr_retI hF4
  · refine tr_pushI (?_)
    exact tr_retI hF4
-- Mo_tell
abbrev t169_18 : List hOp := oLdI 1 :: oRetI :: []
abbrev t169_6 : List hOp := oPutI 12 1 :: oLdI 1 :: oIf0 cGe 18 :: oLdA 0 :: oGetP 12 2 :: oLdI 1 :: oNeg :: oDup2 :: oALdI 13 :: oPushI 1 :: oBin (fun x y => x + y) :: oAStI :: t169_18
abbrev t169_5 : List hOp := oPushI 0 :: t169_6
abbrev t169_0 : List hOp := oLdA 0 :: oLdI 1 :: oIf0 cGe 5 :: oLdI 1 :: oGoto 6 :: t169_5
theorem e169_0 : (opsOf 169).drop 0 = t169_0 := rfl
theorem e169_5 : (opsOf 169).drop 5 = t169_5 := rfl
theorem e169_6 : (opsOf 169).drop 6 = t169_6 := rfl
theorem e169_18 : (opsOf 169).drop 18 = t169_18 := rfl
def q_Mo_tell_6 (v1 : Int32) (w1 : Int32) (g : hG) : hO Int32 :=
  wr (sI g 367 1 w1) fun g2 => if (0 : Int32) ≤ v1 then (some (v1, g2)) else (gd (-v1) 7 <| gd (-v1) 7 <| wr (sI g2 368 (-v1).toNatClampNeg ((gI g2 368 (-v1).toNatClampNeg) + (1 : Int32))) fun g5 => some (v1, g5))
theorem th169_6 {d : Nat} {v1 : Int32} {w1 : Int32} {g : hG} (hF : Frz g) : Tri wI d 169 t169_6 [some (.ref 367), some (.int v1)] [.int w1, .ref 367] g (q_Mo_tell_6 v1 w1 g) := by
  unfold q_Mo_tell_6
  refine tr_putI hF (fk_367 hF) (fun g2 _ hF3 => tr_ldI rfl (?_))
  refine tr_if0j e169_18 (c_ge _ _) (fun hc4 => ?_) (fun hc4 => ?_)
  · refine tr_ldI rfl (?_)
    exact tr_retI hF3
  · refine tr_ldA rfl (tr_getP (b := 368) (fk_367 hF3) (fp_367_2 hF3) (tr_ldI rfl (tr_neg (tr_dup2 (tr_aldI (fk_368 hF3) (fl_368 hF3) (fun _ => ?_))))))
    refine tr_pushI (tr_bin (v := ((gI g2 368 (-v1).toNatClampNeg) + (1 : Int32))) rfl (tr_astI hF3 (fk_368 hF3) (fl_368 hF3) (fun _ g5 _ hF6 => tr_ldI rfl (?_))))
    exact tr_retI hF6
def q_Mo_tell (v1 : Int32) (g : hG) : hO Int32 :=
  q_Mo_tell_6 v1 (if (0 : Int32) ≤ v1 then (0 : Int32) else v1) g
theorem tm169 {d : Nat} {v1 : Int32} {g : hG} (hF : Frz g) : TM wI d 169 [.ref 367, .int v1] g (q_Mo_tell v1 g) := by
  refine TM.ofE e169_0 (lv := [some (.ref 367), some (.int v1)]) rfl ?_
  unfold q_Mo_tell
  refine tr_ldA rfl (tr_ldI rfl (?_))
  refine tr_if0cE e169_5 (c_ge _ _) (fun hc7 => ?_) (fun hc7 => ?_)
  · rw [if_pos hc7]
    refine tr_pushI (?_)
    exact th169_6 hF
  · rw [if_neg hc7]
    refine tr_ldI rfl (?_)
    refine tr_gotoE e169_6 (?_)
    exact th169_6 hF
-- Mo_setDoor
abbrev t185_0 : List hOp := oLdA 0 :: oGetP 12 3 :: oPushI 3 :: oLdA 0 :: oGetP 12 3 :: oPushI 3 :: oALdI 13 :: oPushI 1 :: oLdI 1 :: oBin (fun x y => x <<< (y &&& 31)) :: oPushI (-1) :: oBin (fun x y => x ^^^ y) :: oBin (fun x y => x &&& y) :: oLdI 2 :: oLdI 1 :: oBin (fun x y => x <<< (y &&& 31)) :: oBin (fun x y => x ||| y) :: oAStI :: oRetV :: []
theorem e185_0 : (opsOf 185).drop 0 = t185_0 := rfl
def q_Mo_setDoor (v1 : Int32) (v2 : Int32) (g : hG) : hO Unit :=
  gd (3 : Int32) 5468 <| gd (3 : Int32) 5468 <| wr (sI g 369 (3 : Int32).toNatClampNeg (((gI g 369 (3 : Int32).toNatClampNeg) &&& ((shl (1 : Int32) v1) ^^^ (-1 : Int32))) ||| (shl v2 v1))) fun g1 => some ((), g1)
theorem tm185 {d : Nat} {v1 : Int32} {v2 : Int32} {g : hG} (hF : Frz g) : TM wU d 185 [.ref 367, .int v1, .int v2] g (q_Mo_setDoor v1 v2 g) := by
  refine TM.ofE e185_0 (lv := [some (.ref 367), some (.int v1), some (.int v2)]) rfl ?_
  unfold q_Mo_setDoor
  refine tr_ldA rfl (tr_getP (b := 369) (fk_367 hF) (fp_367_3 hF) (tr_pushI (tr_ldA rfl (tr_getP (b := 369) (fk_367 hF) (fp_367_3 hF) (tr_pushI (?_))))))
  refine tr_aldI (fk_369 hF) (fl_369 hF) (fun _ => tr_pushI (tr_ldI rfl (tr_bin (v := (shl (1 : Int32) v1)) rfl (tr_pushI (tr_bin (v := ((shl (1 : Int32) v1) ^^^ (-1 : Int32))) rfl (?_))))))
  refine tr_bin (v := ((gI g 369 (3 : Int32).toNatClampNeg) &&& ((shl (1 : Int32) v1) ^^^ (-1 : Int32)))) rfl (tr_ldI rfl (tr_ldI rfl (tr_bin (v := (shl v2 v1)) rfl (tr_bin (v := (((gI g 369 (3 : Int32).toNatClampNeg) &&& ((shl (1 : Int32) v1) ^^^ (-1 : Int32))) ||| (shl v2 v1))) rfl (tr_astI hF (fk_369 hF) (fl_369 hF) (fun _ g1 _ hF2 => ?_))))))
  exact tr_retV hF2
-- Mo_door
abbrev t186_16 : List hOp := oLdA 0 :: oGetP 12 3 :: oPushI 3 :: oALdI 13 :: oLdI 1 :: oBin (fun x y => x >>> (y &&& 31)) :: oPushI 1 :: oBin (fun x y => x &&& y) :: oStI 3 :: oLdA 0 :: oLdI 1 :: oLdI 2 :: oInvV 185 12 2 :: oLdA 0 :: oLdI 3 :: oInvV 169 12 1 :: oRetI :: []
abbrev t186_12 : List hOp := oLdA 0 :: oPushI (-1) :: oInvV 169 12 1 :: oRetI :: t186_16
abbrev t186_0 : List hOp := oLdA 0 :: oPushI 0 :: oPutI 12 0 :: oLdI 1 :: oInvS 178 1 :: oIf0 cEq 12 :: oLdI 2 :: oI2L :: oPushL 0 :: oPushL 1 :: oInvS 165 3 :: oIf0 cNe 16 :: t186_12
theorem e186_0 : (opsOf 186).drop 0 = t186_0 := rfl
theorem e186_12 : (opsOf 186).drop 12 = t186_12 := rfl
theorem e186_16 : (opsOf 186).drop 16 = t186_16 := rfl
def q_Mo_door_12 (g : hG) : hO Int32 :=
  bnd (q_Mo_tell (-1 : Int32) g) fun r9 g7 => some (r9, g7)
theorem th186_12 {e : Nat} (he : 2 ≤ e + 1) {u1 : Option Value} {u2 : Option Value} {u3 : Option Value} (hu2 : isL (some u2) = false) {g : hG} (hF : Frz g) : Tri wI (e + 1) 186 t186_12 [some (.ref 367), u1, u2, u3] [] g (q_Mo_door_12 g) := by
  unfold q_Mo_door_12
  refine tr_ldA rfl (tr_pushI (?_))
  refine tr_invVI rfl rfl (fk_367 hF) (Nat.le_of_ble_eq_true rfl) (by decide) (Nat.le_of_ble_eq_true rfl) (tm169 hF) (fun r9 g7 _ hF8 => ?_)
  exact tr_retI hF8
def q_Mo_door (v1 : Int32) (v2 : Int32) (g : hG) : hO Int32 :=
  wr (sI g 367 0 (0 : Int32)) fun g1 => bnd (q_Mo_isCell v1 g1) fun r5 g3 => if r5 = (0 : Int32) then (q_Mo_door_12 g3) else (bnd (q_Mo_in v2.toInt64 (0 : Int64) (1 : Int64) g3) fun r12 g10 => if r12 = (0 : Int32) then (q_Mo_door_12 g10) else (gd (3 : Int32) 5468 <| bnd (q_Mo_setDoor v1 v2 g10) fun _ g14 => bnd (q_Mo_tell ((shr (gI g10 369 (3 : Int32).toNatClampNeg) v1) &&& (1 : Int32)) g14) fun r18 g16 => some (r18, g16)))
theorem tm186 {d : Nat} {v1 : Int32} {v2 : Int32} (hd : 2 ≤ d) {g : hG} (hF : Frz g) : TM wI d 186 [.ref 367, .int v1, .int v2] g (q_Mo_door v1 v2 g) := by
  obtain ⟨e, rfl⟩ : ∃ e, d = e + 1 := ⟨d - 1, by omega⟩
  have he := hd
  refine TM.ofE e186_0 (lv := [some (.ref 367), some (.int v1), some (.int v2), none]) rfl ?_
  unfold q_Mo_door
  refine tr_ldA rfl (tr_pushI (tr_putI hF (fk_367 hF) (fun g1 _ hF2 => tr_ldI rfl (?_))))
  refine tr_invSI rfl rfl (Nat.le_of_ble_eq_true rfl) (Nat.le_of_ble_eq_true rfl) (by decide) (Nat.le_of_ble_eq_true rfl) (tm178 (by omega) hF2) (fun r5 g3 _ hF4 => ?_)
  refine tr_if0j e186_12 (c_eq _ _) (fun hc6 => ?_) (fun hc6 => ?_)
  · exact th186_12 he rfl hF4
  · refine tr_ldI rfl (tr_i2l (tr_pushL (tr_pushL (?_))))
    refine tr_invSI rfl rfl (Nat.le_of_ble_eq_true rfl) (Nat.le_of_ble_eq_true rfl) (by decide) (Nat.le_of_ble_eq_true rfl) (tm165 hF4) (fun r12 g10 _ hF11 => ?_)
    refine tr_if0n e186_16 (c_ne _ _) (fun hc13 => ?_) (fun hc13 => ?_)
    · refine tr_ldA rfl (tr_getP (b := 369) (fk_367 hF11) (fp_367_3 hF11) (tr_pushI (tr_aldI (fk_369 hF11) (fl_369 hF11) (fun _ => tr_ldI rfl (tr_bin (v := (shr (gI g10 369 (3 : Int32).toNatClampNeg) v1)) rfl (?_))))))
      refine tr_pushI (tr_bin (v := ((shr (gI g10 369 (3 : Int32).toNatClampNeg) v1) &&& (1 : Int32))) rfl (tr_stI (Nat.le_of_ble_eq_true rfl) rfl rfl (tr_ldA rfl (tr_ldI rfl (tr_ldI rfl (?_))))))
      refine tr_invVU rfl rfl (fk_367 hF11) (Nat.le_of_ble_eq_true rfl) (by decide) (Nat.le_of_ble_eq_true rfl) (tm185 hF11) (fun _ g14 _ hF15 => ?_)
      refine tr_ldA rfl (tr_ldI rfl (?_))
      refine tr_invVI rfl rfl (fk_367 hF15) (Nat.le_of_ble_eq_true rfl) (by decide) (Nat.le_of_ble_eq_true rfl) (tm169 hF15) (fun r18 g16 _ hF17 => ?_)
      exact tr_retI hF17
    · exact th186_12 he rfl hF11
-- Mo_isLetter1
abbrev t179_0 : List hOp := oLdI 0 :: oI2L :: oPushL 0 :: oPushL 7 :: oInvS 165 3 :: oRetZ :: []
theorem e179_0 : (opsOf 179).drop 0 = t179_0 := rfl
def q_Mo_isLetter1 (v0 : Int32) (g : hG) : hO Int32 :=
  bnd (q_Mo_in v0.toInt64 (0 : Int64) (7 : Int64) g) fun r3 g1 => gb r3 (some (r3, g1))
theorem tm179 {d : Nat} {v0 : Int32} (hd : 1 ≤ d) {g : hG} (hF : Frz g) : TM wI d 179 [.int v0] g (q_Mo_isLetter1 v0 g) := by
  obtain ⟨e, rfl⟩ : ∃ e, d = e + 1 := ⟨d - 1, by omega⟩
  have he := hd
  refine TM.ofE e179_0 (lv := [some (.int v0)]) rfl ?_
  unfold q_Mo_isLetter1
  refine tr_ldI rfl (tr_i2l (tr_pushL (tr_pushL (?_))))
  refine tr_invSI rfl rfl (Nat.le_of_ble_eq_true rfl) (Nat.le_of_ble_eq_true rfl) (by decide) (Nat.le_of_ble_eq_true rfl) (tm165 hF) (fun r3 g1 _ hF2 => ?_)
  exact tr_retZ hF2
-- Mo_letter
abbrev t187_31 : List hOp := oPushI (-1) :: oRetI :: []
abbrev t187_24 : List hOp := oLdA 0 :: oGetP 12 3 :: oPushI 48 :: oLdI 1 :: oBin (fun x y => x + y) :: oALdI 13 :: oRetI :: t187_31
abbrev t187_17 : List hOp := oLdA 0 :: oGetP 12 3 :: oPushI 40 :: oLdI 1 :: oBin (fun x y => x + y) :: oALdI 13 :: oRetI :: t187_24
abbrev t187_10 : List hOp := oLdA 0 :: oGetP 12 3 :: oPushI 32 :: oLdI 1 :: oBin (fun x y => x + y) :: oALdI 13 :: oRetI :: t187_17
abbrev t187_8 : List hOp := oLdI 2 :: oSw 0 [10, 17, 24] 31 :: t187_10
abbrev t187_0 : List hOp := oLdA 0 :: oPushI 0 :: oPutI 12 0 :: oLdI 1 :: oInvS 179 1 :: oIf0 cNe 8 :: oPushI (-1) :: oRetI :: t187_8
theorem e187_0 : (opsOf 187).drop 0 = t187_0 := rfl
theorem e187_8 : (opsOf 187).drop 8 = t187_8 := rfl
theorem e187_10 : (opsOf 187).drop 10 = t187_10 := rfl
theorem e187_17 : (opsOf 187).drop 17 = t187_17 := rfl
theorem e187_24 : (opsOf 187).drop 24 = t187_24 := rfl
theorem e187_31 : (opsOf 187).drop 31 = t187_31 := rfl
def q_Mo_letter (v1 : Int32) (v2 : Int32) (g : hG) : hO Int32 :=
  wr (sI g 367 0 (0 : Int32)) fun g1 => bnd (q_Mo_isLetter1 v1 g1) fun r5 g3 => if r5 = (0 : Int32) then (some ((-1 : Int32), g3)) else (if v2 = (0 : Int32) then (gd ((32 : Int32) + v1) 5468 <| some ((gI g3 369 ((32 : Int32) + v1).toNatClampNeg), g3)) else if v2 = (1 : Int32) then (gd ((40 : Int32) + v1) 5468 <| some ((gI g3 369 ((40 : Int32) + v1).toNatClampNeg), g3)) else if v2 = (2 : Int32) then (gd ((48 : Int32) + v1) 5468 <| some ((gI g3 369 ((48 : Int32) + v1).toNatClampNeg), g3)) else (some ((-1 : Int32), g3)))
theorem tm187 {d : Nat} {v1 : Int32} {v2 : Int32} (hd : 2 ≤ d) {g : hG} (hF : Frz g) : TM wI d 187 [.ref 367, .int v1, .int v2] g (q_Mo_letter v1 v2 g) := by
  obtain ⟨e, rfl⟩ : ∃ e, d = e + 1 := ⟨d - 1, by omega⟩
  have he := hd
  refine TM.ofE e187_0 (lv := [some (.ref 367), some (.int v1), some (.int v2)]) rfl ?_
  unfold q_Mo_letter
  refine tr_ldA rfl (tr_pushI (tr_putI hF (fk_367 hF) (fun g1 _ hF2 => tr_ldI rfl (?_))))
  refine tr_invSI rfl rfl (Nat.le_of_ble_eq_true rfl) (Nat.le_of_ble_eq_true rfl) (by decide) (Nat.le_of_ble_eq_true rfl) (tm179 (by omega) hF2) (fun r5 g3 _ hF4 => ?_)
  refine tr_if0n e187_8 (c_ne _ _) (fun hc6 => ?_) (fun hc6 => ?_)
  · refine tr_ldI rfl (?_)
    refine tr_sw1E (c := (0 : Int32)) e187_10 rfl (fun _ => ?_) (fun _ => ?_)
    · refine tr_ldA rfl (tr_getP (b := 369) (fk_367 hF4) (fp_367_3 hF4) (tr_pushI (tr_ldI rfl (tr_bin (v := ((32 : Int32) + v1)) rfl (tr_aldI (fk_369 hF4) (fl_369 hF4) (fun _ => ?_))))))
      exact tr_retI hF4
    refine tr_sw1E (c := (1 : Int32)) e187_17 rfl (fun _ => ?_) (fun _ => ?_)
    · refine tr_ldA rfl (tr_getP (b := 369) (fk_367 hF4) (fp_367_3 hF4) (tr_pushI (tr_ldI rfl (tr_bin (v := ((40 : Int32) + v1)) rfl (tr_aldI (fk_369 hF4) (fl_369 hF4) (fun _ => ?_))))))
      exact tr_retI hF4
    refine tr_sw1E (c := (2 : Int32)) e187_24 rfl (fun _ => ?_) (fun _ => ?_)
    · refine tr_ldA rfl (tr_getP (b := 369) (fk_367 hF4) (fp_367_3 hF4) (tr_pushI (tr_ldI rfl (tr_bin (v := ((48 : Int32) + v1)) rfl (tr_aldI (fk_369 hF4) (fl_369 hF4) (fun _ => ?_))))))
      exact tr_retI hF4
    refine tr_sw0E e187_31 ?_
    refine tr_pushI (?_)
    exact tr_retI hF4
  · refine tr_pushI (?_)
    exact tr_retI hF4
-- Mo_change
abbrev t170_0 : List hOp := oLdA 0 :: oGetP 12 3 :: oLdI 1 :: oALdI 13 :: oStI 3 :: oLdA 0 :: oGetP 12 3 :: oLdI 1 :: oLdI 2 :: oAStI :: oLdA 0 :: oPushI 0 :: oPutI 12 1 :: oLdI 3 :: oRetI :: []
theorem e170_0 : (opsOf 170).drop 0 = t170_0 := rfl
def q_Mo_change (v1 : Int32) (v2 : Int32) (g : hG) : hO Int32 :=
  gd v1 5468 <| gd v1 5468 <| wr (sI g 369 v1.toNatClampNeg v2) fun g1 => wr (sI g1 367 1 (0 : Int32)) fun g3 => some ((gI g 369 v1.toNatClampNeg), g3)
theorem tm170 {d : Nat} {v1 : Int32} {v2 : Int32} {g : hG} (hF : Frz g) : TM wI d 170 [.ref 367, .int v1, .int v2] g (q_Mo_change v1 v2 g) := by
  refine TM.ofE e170_0 (lv := [some (.ref 367), some (.int v1), some (.int v2), none]) rfl ?_
  unfold q_Mo_change
  refine tr_ldA rfl (tr_getP (b := 369) (fk_367 hF) (fp_367_3 hF) (tr_ldI rfl (tr_aldI (fk_369 hF) (fl_369 hF) (fun _ => tr_stI (Nat.le_of_ble_eq_true rfl) rfl rfl (tr_ldA rfl (?_))))))
  refine tr_getP (b := 369) (fk_367 hF) (fp_367_3 hF) (tr_ldI rfl (tr_ldI rfl (tr_astI hF (fk_369 hF) (fl_369 hF) (fun _ g1 _ hF2 => tr_ldA rfl (tr_pushI (?_))))))
  refine tr_putI hF2 (fk_367 hF2) (fun g3 _ hF4 => tr_ldI rfl (?_))
  exact tr_retI hF4
-- Mo_terms
abbrev t188_39 : List hOp := oLdA 0 :: oPushI 0 :: oPutI 12 8 :: oLdA 0 :: oPushI 4 :: oLdI 1 :: oBin (fun x y => x + y) :: oLdI 2 :: oInvV 170 12 2 :: oRetI :: []
abbrev t188_32 : List hOp := oStI 3 :: oLdI 3 :: oIf0 cNe 39 :: oLdA 0 :: oPushI (-1) :: oInvV 169 12 1 :: oRetI :: t188_39
abbrev t188_31 : List hOp := oPushI 0 :: t188_32
abbrev t188_20 : List hOp := oLdI 1 :: oPushI 2 :: oIf cNe 31 :: oLdI 2 :: oI2L :: oPushL 0 :: oPushL 9 :: oInvS 165 3 :: oIf0 cEq 31 :: oPushI 1 :: oGoto 32 :: t188_31
abbrev t188_11 : List hOp := oLdI 1 :: oPushI 1 :: oIf cNe 20 :: oLdI 2 :: oI2L :: oPushL 0 :: oPushL 10 :: oInvS 165 3 :: oGoto 32 :: t188_20
abbrev t188_0 : List hOp := oLdA 0 :: oPushI 0 :: oPutI 12 0 :: oLdI 1 :: oIf0 cNe 11 :: oLdI 2 :: oI2L :: oPushL 0 :: oPushL 999 :: oInvS 165 3 :: oGoto 32 :: t188_11
theorem e188_0 : (opsOf 188).drop 0 = t188_0 := rfl
theorem e188_11 : (opsOf 188).drop 11 = t188_11 := rfl
theorem e188_20 : (opsOf 188).drop 20 = t188_20 := rfl
theorem e188_31 : (opsOf 188).drop 31 = t188_31 := rfl
theorem e188_32 : (opsOf 188).drop 32 = t188_32 := rfl
theorem e188_39 : (opsOf 188).drop 39 = t188_39 := rfl
def q_Mo_terms_32 (v1 : Int32) (v2 : Int32) (w0 : Int32) (g : hG) : hO Int32 :=
  if w0 = (0 : Int32) then (bnd (q_Mo_tell (-1 : Int32) g) fun r14 g12 => some (r14, g12)) else (wr (sI g 367 8 (0 : Int32)) fun g7 => bnd (q_Mo_change ((4 : Int32) + v1) v2 g7) fun r11 g9 => some (r11, g9))
theorem th188_32 {e : Nat} (he : 1 ≤ e + 1) {v1 : Int32} {v2 : Int32} {w0 : Int32} {u3 : Option Value} {g : hG} (hF : Frz g) : Tri wI (e + 1) 188 t188_32 [some (.ref 367), some (.int v1), some (.int v2), u3] [.int w0] g (q_Mo_terms_32 v1 v2 w0 g) := by
  unfold q_Mo_terms_32
  refine tr_stI (Nat.le_of_ble_eq_true rfl) rfl rfl (tr_ldI rfl (?_))
  refine tr_if0n e188_39 (c_ne _ _) (fun hc6 => ?_) (fun hc6 => ?_)
  · refine tr_ldA rfl (tr_pushI (tr_putI hF (fk_367 hF) (fun g7 _ hF8 => tr_ldA rfl (tr_pushI (tr_ldI rfl (?_))))))
    refine tr_bin (v := ((4 : Int32) + v1)) rfl (tr_ldI rfl (?_))
    refine tr_invVI rfl rfl (fk_367 hF8) (Nat.le_of_ble_eq_true rfl) (by decide) (Nat.le_of_ble_eq_true rfl) (tm170 hF8) (fun r11 g9 _ hF10 => ?_)
    exact tr_retI hF10
  · refine tr_ldA rfl (tr_pushI (?_))
    refine tr_invVI rfl rfl (fk_367 hF) (Nat.le_of_ble_eq_true rfl) (by decide) (Nat.le_of_ble_eq_true rfl) (tm169 hF) (fun r14 g12 _ hF13 => ?_)
    exact tr_retI hF13
def q_Mo_terms_31 (v1 : Int32) (v2 : Int32) (g : hG) : hO Int32 :=
  q_Mo_terms_32 v1 v2 (0 : Int32) g
theorem th188_31 {e : Nat} (he : 1 ≤ e + 1) {v1 : Int32} {v2 : Int32} {u3 : Option Value} {g : hG} (hF : Frz g) : Tri wI (e + 1) 188 t188_31 [some (.ref 367), some (.int v1), some (.int v2), u3] [] g (q_Mo_terms_31 v1 v2 g) := by
  unfold q_Mo_terms_31
  refine tr_pushI (?_)
  exact th188_32 he hF
def q_Mo_terms (v1 : Int32) (v2 : Int32) (g : hG) : hO Int32 :=
  wr (sI g 367 0 (0 : Int32)) fun g1 => if v1 = (0 : Int32) then (bnd (q_Mo_in v2.toInt64 (0 : Int64) (999 : Int64) g1) fun r25 g23 => q_Mo_terms_32 v1 v2 r25 g23) else (if v1 = (1 : Int32) then (bnd (q_Mo_in v2.toInt64 (0 : Int64) (10 : Int64) g1) fun r22 g20 => q_Mo_terms_32 v1 v2 r22 g20) else (if v1 = (2 : Int32) then (bnd (q_Mo_in v2.toInt64 (0 : Int64) (9 : Int64) g1) fun r17 g15 => q_Mo_terms_32 v1 v2 (if r17 = (0 : Int32) then (0 : Int32) else (1 : Int32)) g15) else (q_Mo_terms_31 v1 v2 g1)))
theorem tm188 {d : Nat} {v1 : Int32} {v2 : Int32} (hd : 1 ≤ d) {g : hG} (hF : Frz g) : TM wI d 188 [.ref 367, .int v1, .int v2] g (q_Mo_terms v1 v2 g) := by
  obtain ⟨e, rfl⟩ : ∃ e, d = e + 1 := ⟨d - 1, by omega⟩
  have he := hd
  refine TM.ofE e188_0 (lv := [some (.ref 367), some (.int v1), some (.int v2), none]) rfl ?_
  unfold q_Mo_terms
  refine tr_ldA rfl (tr_pushI (tr_putI hF (fk_367 hF) (fun g1 _ hF2 => tr_ldI rfl (?_))))
  refine tr_if0n e188_11 (c_ne _ _) (fun hc3 => ?_) (fun hc3 => ?_)
  · refine tr_ldI rfl (tr_pushI (?_))
    refine tr_ifn e188_20 (c_ne _ _) (fun hc4 => ?_) (fun hc4 => ?_)
    · refine tr_ldI rfl (tr_pushI (?_))
      refine tr_ifn e188_31 (c_ne _ _) (fun hc5 => ?_) (fun hc5 => ?_)
      · exact th188_31 he hF2
      · refine tr_ldI rfl (tr_i2l (tr_pushL (tr_pushL (?_))))
        refine tr_invSI rfl rfl (Nat.le_of_ble_eq_true rfl) (Nat.le_of_ble_eq_true rfl) (by decide) (Nat.le_of_ble_eq_true rfl) (tm165 hF2) (fun r17 g15 _ hF16 => ?_)
        refine tr_if0cE e188_31 (c_eq _ _) (fun hc19 => ?_) (fun hc19 => ?_)
        · rw [if_pos hc19]
          refine tr_pushI (?_)
          exact th188_32 he hF16
        · rw [if_neg hc19]
          refine tr_pushI (?_)
          refine tr_gotoE e188_32 (?_)
          exact th188_32 he hF16
    · refine tr_ldI rfl (tr_i2l (tr_pushL (tr_pushL (?_))))
      refine tr_invSI rfl rfl (Nat.le_of_ble_eq_true rfl) (Nat.le_of_ble_eq_true rfl) (by decide) (Nat.le_of_ble_eq_true rfl) (tm165 hF2) (fun r22 g20 _ hF21 => ?_)
      refine tr_gotoE e188_32 (?_)
      exact th188_32 he hF21
  · refine tr_ldI rfl (tr_i2l (tr_pushL (tr_pushL (?_))))
    refine tr_invSI rfl rfl (Nat.le_of_ble_eq_true rfl) (Nat.le_of_ble_eq_true rfl) (by decide) (Nat.le_of_ble_eq_true rfl) (tm165 hF2) (fun r25 g23 _ hF24 => ?_)
    refine tr_gotoE e188_32 (?_)
    exact th188_32 he hF24
-- Mo_four
abbrev t191_22 : List hOp := oRetV :: []
abbrev t191_2 : List hOp := oLdI 2 :: oIf0 cLt 22 :: oLdA 0 :: oGetP 12 12 :: oLdA 0 :: oGetI 12 13 :: oLdI 1 :: oLdI 2 :: oBin (fun x y => x >>> (y &&& 31)) :: oPushI 255 :: oBin (fun x y => x &&& y) :: oAStI :: oLdA 0 :: oDup :: oGetI 12 13 :: oPushI 1 :: oBin (fun x y => x + y) :: oPutI 12 13 :: oInc 2 (-8) :: oGoto 2 :: t191_22
abbrev t191_0 : List hOp := oPushI 24 :: oStI 2 :: t191_2
theorem e191_0 : (opsOf 191).drop 0 = t191_0 := rfl
theorem e191_2 : (opsOf 191).drop 2 = t191_2 := rfl
theorem e191_22 : (opsOf 191).drop 22 = t191_22 := rfl
def q_Mo_four_2 (v1 : Int32) (k22 : hG → hO Unit) (k2 : Int32 → hG → hO Unit) (v2 : Int32) (g : hG) : hO Unit :=
  if v2 < (0 : Int32) then (k22 g) else (gd (gI g 367 13) 400 <| wr (sI g 376 (gI g 367 13).toNatClampNeg ((shr v1 v2) &&& (255 : Int32))) fun g2 => wr (sI g2 367 13 ((gI g2 367 13) + (1 : Int32))) fun g4 => k2 (v2 + (-8 : Int32)) g4)
def q_Mo_four_2L (v1 : Int32) (k22 : hG → hO Unit) : Nat → Int32 → hG → hO Unit
  | 0 => fun _ _ => none
  | n + 1 => fun v2 g => q_Mo_four_2 v1 k22 (q_Mo_four_2L v1 k22 n) v2 g
theorem q_Mo_four_2L_s (v1 : Int32) (k22 : hG → hO Unit) (n : Nat) (v2 : Int32) (g : hG) : q_Mo_four_2L v1 k22 (n + 1) v2 g = q_Mo_four_2 v1 k22 (q_Mo_four_2L v1 k22 n) v2 g := rfl
theorem th191_2 {d : Nat} {v1 : Int32} {k22 : hG → hO Unit} {k2 : Int32 → hG → hO Unit} {v2 : Int32} (hk22 : ∀ (y2 : Option Value) (g : hG), Frz g → Tri wU d 191 t191_22 [some (.ref 367), some (.int v1), y2] [] g (k22 g)) (hk2 : ∀ (x2 : Int32) (g : hG), Frz g → Tri wU d 191 t191_2 [some (.ref 367), some (.int v1), some (.int x2)] [] g (k2 x2 g)) {g : hG} (hF : Frz g) : Tri wU d 191 t191_2 [some (.ref 367), some (.int v1), some (.int v2)] [] g (q_Mo_four_2 v1 k22 k2 v2 g) := by
  unfold q_Mo_four_2
  refine tr_ldI rfl (?_)
  refine tr_if0j e191_22 (c_lt _ _) (fun hc1 => ?_) (fun hc1 => ?_)
  · exact hk22 _ _ hF
  · refine tr_ldA rfl (tr_getP (b := 376) (fk_367 hF) (fp_367_12 hF) (tr_ldA rfl (tr_getI (fk_367 hF) (tr_ldI rfl (tr_ldI rfl (?_))))))
    refine tr_bin (v := (shr v1 v2)) rfl (tr_pushI (tr_bin (v := ((shr v1 v2) &&& (255 : Int32))) rfl (tr_astI hF (fk_376 hF) (fl_376 hF) (fun _ g2 _ hF3 => tr_ldA rfl (tr_dupA (?_))))))
    refine tr_getI (fk_367 hF3) (tr_pushI (tr_bin (v := ((gI g2 367 13) + (1 : Int32))) rfl (tr_putI hF3 (fk_367 hF3) (fun g4 _ hF5 => tr_inc rfl rfl rfl (?_)))))
    refine tr_gotoE e191_2 (?_)
    exact hk2 _ _ hF5
theorem th191_2L {d : Nat} {v1 : Int32} {k22 : hG → hO Unit} (hk22 : ∀ (y2 : Option Value) (g : hG), Frz g → Tri wU d 191 t191_22 [some (.ref 367), some (.int v1), y2] [] g (k22 g)) : ∀ (n : Nat) (v2 : Int32) (g : hG), Frz g → Tri wU d 191 t191_2 [some (.ref 367), some (.int v1), some (.int v2)] [] g (q_Mo_four_2L v1 k22 n v2 g)
  | 0 => fun _ _ _ => Tri.none_
  | n + 1 => fun _ g hF => th191_2 hk22 (th191_2L hk22 n) hF
def q_Mo_four (v1 : Int32) (g : hG) : hO Unit :=
  q_Mo_four_2L v1 (fun g7 => some ((), g7)) FU (24 : Int32) g
theorem tm191 {d : Nat} {v1 : Int32} {g : hG} (hF : Frz g) : TM wU d 191 [.ref 367, .int v1] g (q_Mo_four v1 g) := by
  refine TM.ofE e191_0 (lv := [some (.ref 367), some (.int v1), none]) rfl ?_
  unfold q_Mo_four
  refine tr_pushI (tr_stI (Nat.le_of_ble_eq_true rfl) rfl rfl (?_))
  refine th191_2L (fun y6 g7 hF8 => ?_) FU _ _ hF
  · exact tr_retV hF8
-- Mo_feed
abbrev t192_11 : List hOp := oLdA 0 :: oLdI 1 :: oInvV 191 12 1 :: oLdA 0 :: oLdI 2 :: oInvV 191 12 1 :: oLdA 0 :: oLdI 3 :: oInvV 191 12 1 :: oLdA 0 :: oLdI 4 :: oInvV 191 12 1 :: oLdA 0 :: oLdI 5 :: oInvV 191 12 1 :: oLdA 0 :: oGetI 12 13 :: oRetI :: []
abbrev t192_0 : List hOp := oLdA 0 :: oPushI 0 :: oPutI 12 0 :: oLdA 0 :: oGetI 12 13 :: oPushI 20 :: oBin (fun x y => x + y) :: oPushI 400 :: oIf cLe 11 :: oPushI (-1) :: oRetI :: t192_11
theorem e192_0 : (opsOf 192).drop 0 = t192_0 := rfl
theorem e192_11 : (opsOf 192).drop 11 = t192_11 := rfl
def q_Mo_feed (v1 : Int32) (v2 : Int32) (v3 : Int32) (v4 : Int32) (v5 : Int32) (g : hG) : hO Int32 :=
  wr (sI g 367 0 (0 : Int32)) fun g1 => if ((gI g1 367 13) + (20 : Int32)) ≤ (400 : Int32) then (bnd (q_Mo_four v1 g1) fun _ g4 => bnd (q_Mo_four v2 g4) fun _ g6 => bnd (q_Mo_four v3 g6) fun _ g8 => bnd (q_Mo_four v4 g8) fun _ g10 => bnd (q_Mo_four v5 g10) fun _ g12 => some ((gI g12 367 13), g12)) else (some ((-1 : Int32), g1))
theorem tm192 {d : Nat} {v1 : Int32} {v2 : Int32} {v3 : Int32} {v4 : Int32} {v5 : Int32} (hd : 1 ≤ d) {g : hG} (hF : Frz g) : TM wI d 192 [.ref 367, .int v1, .int v2, .int v3, .int v4, .int v5] g (q_Mo_feed v1 v2 v3 v4 v5 g) := by
  obtain ⟨e, rfl⟩ : ∃ e, d = e + 1 := ⟨d - 1, by omega⟩
  have he := hd
  refine TM.ofE e192_0 (lv := [some (.ref 367), some (.int v1), some (.int v2), some (.int v3), some (.int v4), some (.int v5)]) rfl ?_
  unfold q_Mo_feed
  refine tr_ldA rfl (tr_pushI (tr_putI hF (fk_367 hF) (fun g1 _ hF2 => tr_ldA rfl (tr_getI (fk_367 hF2) (tr_pushI (?_))))))
  refine tr_bin (v := ((gI g1 367 13) + (20 : Int32))) rfl (tr_pushI (?_))
  refine tr_ifj e192_11 (c_le _ _) (fun hc3 => ?_) (fun hc3 => ?_)
  · refine tr_ldA rfl (tr_ldI rfl (?_))
    refine tr_invVU rfl rfl (fk_367 hF2) (Nat.le_of_ble_eq_true rfl) (by decide) (Nat.le_of_ble_eq_true rfl) (tm191 hF2) (fun _ g4 _ hF5 => ?_)
    refine tr_ldA rfl (tr_ldI rfl (?_))
    refine tr_invVU rfl rfl (fk_367 hF5) (Nat.le_of_ble_eq_true rfl) (by decide) (Nat.le_of_ble_eq_true rfl) (tm191 hF5) (fun _ g6 _ hF7 => ?_)
    refine tr_ldA rfl (tr_ldI rfl (?_))
    refine tr_invVU rfl rfl (fk_367 hF7) (Nat.le_of_ble_eq_true rfl) (by decide) (Nat.le_of_ble_eq_true rfl) (tm191 hF7) (fun _ g8 _ hF9 => ?_)
    refine tr_ldA rfl (tr_ldI rfl (?_))
    refine tr_invVU rfl rfl (fk_367 hF9) (Nat.le_of_ble_eq_true rfl) (by decide) (Nat.le_of_ble_eq_true rfl) (tm191 hF9) (fun _ g10 _ hF11 => ?_)
    refine tr_ldA rfl (tr_ldI rfl (?_))
    refine tr_invVU rfl rfl (fk_367 hF11) (Nat.le_of_ble_eq_true rfl) (by decide) (Nat.le_of_ble_eq_true rfl) (tm191 hF11) (fun _ g12 _ hF13 => ?_)
    refine tr_ldA rfl (tr_getI (fk_367 hF13) (?_))
    exact tr_retI hF13
  · refine tr_pushI (?_)
    exact tr_retI hF2
-- Mo_end
abbrev t193_11 : List hOp := oLdA 0 :: oLdI 1 :: oPutI 12 13 :: oLdI 1 :: oRetI :: []
abbrev t193_9 : List hOp := oPushI (-1) :: oRetI :: t193_11
abbrev t193_0 : List hOp := oLdA 0 :: oPushI 0 :: oPutI 12 0 :: oLdI 1 :: oIf0 cLt 9 :: oLdI 1 :: oLdA 0 :: oGetI 12 13 :: oIf cLe 11 :: t193_9
theorem e193_0 : (opsOf 193).drop 0 = t193_0 := rfl
theorem e193_9 : (opsOf 193).drop 9 = t193_9 := rfl
theorem e193_11 : (opsOf 193).drop 11 = t193_11 := rfl
def q_Mo_end (v1 : Int32) (g : hG) : hO Int32 :=
  wr (sI g 367 0 (0 : Int32)) fun g1 => if v1 < (0 : Int32) then (some ((-1 : Int32), g1)) else (if v1 ≤ (gI g1 367 13) then (wr (sI g1 367 13 v1) fun g5 => some (v1, g5)) else (some ((-1 : Int32), g1)))
theorem tm193 {d : Nat} {v1 : Int32} {g : hG} (hF : Frz g) : TM wI d 193 [.ref 367, .int v1] g (q_Mo_end v1 g) := by
  refine TM.ofE e193_0 (lv := [some (.ref 367), some (.int v1)]) rfl ?_
  unfold q_Mo_end
  refine tr_ldA rfl (tr_pushI (tr_putI hF (fk_367 hF) (fun g1 _ hF2 => tr_ldI rfl (?_))))
  refine tr_if0j e193_9 (c_lt _ _) (fun hc3 => ?_) (fun hc3 => ?_)
  · refine tr_pushI (?_)
    exact tr_retI hF2
  · refine tr_ldI rfl (tr_ldA rfl (tr_getI (fk_367 hF2) (?_)))
    refine tr_ifj e193_11 (c_le _ _) (fun hc4 => ?_) (fun hc4 => ?_)
    · refine tr_ldA rfl (tr_ldI rfl (tr_putI hF2 (fk_367 hF2) (fun g5 _ hF6 => tr_ldI rfl (?_))))
      exact tr_retI hF6
    · refine tr_pushI (?_)
      exact tr_retI hF2
-- Mo_lasting
abbrev t171_7 : List hOp := oPutI 12 8 :: oLdA 0 :: oLdI 1 :: oInvV 169 12 1 :: oRetI :: []
abbrev t171_6 : List hOp := oPushI 0 :: t171_7
abbrev t171_0 : List hOp := oLdA 0 :: oLdI 1 :: oIf0 cGe 6 :: oLdA 0 :: oGetI 12 8 :: oGoto 7 :: t171_6
theorem e171_0 : (opsOf 171).drop 0 = t171_0 := rfl
theorem e171_6 : (opsOf 171).drop 6 = t171_6 := rfl
theorem e171_7 : (opsOf 171).drop 7 = t171_7 := rfl
def q_Mo_lasting_7 (v1 : Int32) (w1 : Int32) (g : hG) : hO Int32 :=
  wr (sI g 367 8 w1) fun g2 => bnd (q_Mo_tell v1 g2) fun r6 g4 => some (r6, g4)
theorem th171_7 {e : Nat} (he : 1 ≤ e + 1) {v1 : Int32} {w1 : Int32} {g : hG} (hF : Frz g) : Tri wI (e + 1) 171 t171_7 [some (.ref 367), some (.int v1)] [.int w1, .ref 367] g (q_Mo_lasting_7 v1 w1 g) := by
  unfold q_Mo_lasting_7
  refine tr_putI hF (fk_367 hF) (fun g2 _ hF3 => tr_ldA rfl (tr_ldI rfl (?_)))
  refine tr_invVI rfl rfl (fk_367 hF3) (Nat.le_of_ble_eq_true rfl) (by decide) (Nat.le_of_ble_eq_true rfl) (tm169 hF3) (fun r6 g4 _ hF5 => ?_)
  exact tr_retI hF5
def q_Mo_lasting (v1 : Int32) (g : hG) : hO Int32 :=
  q_Mo_lasting_7 v1 (if (0 : Int32) ≤ v1 then (0 : Int32) else (gI g 367 8)) g
theorem tm171 {d : Nat} {v1 : Int32} (hd : 1 ≤ d) {g : hG} (hF : Frz g) : TM wI d 171 [.ref 367, .int v1] g (q_Mo_lasting v1 g) := by
  obtain ⟨e, rfl⟩ : ∃ e, d = e + 1 := ⟨d - 1, by omega⟩
  have he := hd
  refine TM.ofE e171_0 (lv := [some (.ref 367), some (.int v1)]) rfl ?_
  unfold q_Mo_lasting
  refine tr_ldA rfl (tr_ldI rfl (?_))
  refine tr_if0cE e171_6 (c_ge _ _) (fun hc7 => ?_) (fun hc7 => ?_)
  · rw [if_pos hc7]
    refine tr_pushI (?_)
    exact th171_7 he hF
  · rw [if_neg hc7]
    refine tr_ldA rfl (?_)
    refine tr_getI (fk_367 hF) (?_)
    refine tr_gotoE e171_7 (?_)
    exact th171_7 he hF
-- Mo_row
abbrev t189_89 : List hOp := oLdA 0 :: oLdI 2 :: oInvV 171 12 1 :: oRetI :: []
abbrev t189_87 : List hOp := oInc 3 3 :: oGoto 22 :: t189_89
abbrev t189_81 : List hOp := oLdA 0 :: oDup :: oGetI 12 11 :: oPushI 1 :: oBin (fun x y => x + y) :: oPutI 12 11 :: t189_87
abbrev t189_22 : List hOp := oLdI 3 :: oLdI 1 :: oIf cGe 89 :: oLdI 3 :: oPushI 2 :: oBin (fun x y => x + y) :: oLdI 1 :: oIf cGe 81 :: oLdA 0 :: oGetP 12 12 :: oLdI 3 :: oALdI 13 :: oInvS 178 1 :: oIf0 cEq 81 :: oLdA 0 :: oGetP 12 12 :: oLdI 3 :: oPushI 1 :: oBin (fun x y => x + y) :: oALdI 13 :: oPushI 9 :: oIf cGt 81 :: oLdA 0 :: oGetP 12 12 :: oLdI 3 :: oPushI 2 :: oBin (fun x y => x + y) :: oALdI 13 :: oPushI 1 :: oIf cGt 81 :: oLdA 0 :: oGetP 12 3 :: oPushI 7 :: oLdA 0 :: oGetP 12 12 :: oLdI 3 :: oALdI 13 :: oBin (fun x y => x + y) :: oLdA 0 :: oGetP 12 12 :: oLdI 3 :: oPushI 1 :: oBin (fun x y => x + y) :: oALdI 13 :: oAStI :: oLdA 0 :: oLdA 0 :: oGetP 12 12 :: oLdI 3 :: oALdI 13 :: oLdA 0 :: oGetP 12 12 :: oLdI 3 :: oPushI 2 :: oBin (fun x y => x + y) :: oALdI 13 :: oInvV 185 12 2 :: oInc 2 1 :: oGoto 87 :: t189_81
abbrev t189_15 : List hOp := oLdA 0 :: oPushI 0 :: oPutI 12 11 :: oPushI 0 :: oStI 2 :: oPushI 0 :: oStI 3 :: t189_22
abbrev t189_0 : List hOp := oLdA 0 :: oPushI 0 :: oPutI 12 0 :: oLdA 0 :: oGetI 12 13 :: oStI 1 :: oLdA 0 :: oPushI 0 :: oPutI 12 13 :: oLdI 1 :: oIf0 cNe 15 :: oLdA 0 :: oPushI (-6) :: oInvV 169 12 1 :: oRetI :: t189_15
theorem e189_0 : (opsOf 189).drop 0 = t189_0 := rfl
theorem e189_15 : (opsOf 189).drop 15 = t189_15 := rfl
theorem e189_22 : (opsOf 189).drop 22 = t189_22 := rfl
theorem e189_81 : (opsOf 189).drop 81 = t189_81 := rfl
theorem e189_87 : (opsOf 189).drop 87 = t189_87 := rfl
theorem e189_89 : (opsOf 189).drop 89 = t189_89 := rfl
def q_Mo_row_81 (v2 : Int32) (v3 : Int32) (k22 : Int32 → Int32 → hG → hO Int32) (g : hG) : hO Int32 :=
  wr (sI g 367 11 ((gI g 367 11) + (1 : Int32))) fun g10 => k22 v2 (v3 + (3 : Int32)) g10
theorem th189_81 {e : Nat} (he : 2 ≤ e + 1) {v2 : Int32} {v3 : Int32} {k22 : Int32 → Int32 → hG → hO Int32} {u1 : Option Value} (hk22 : ∀ (x2 : Int32) (x3 : Int32) (g : hG), Frz g → Tri wI (e + 1) 189 t189_22 [some (.ref 367), u1, some (.int x2), some (.int x3)] [] g (k22 x2 x3 g)) (hu1 : isL (some u1) = false) {g : hG} (hF : Frz g) : Tri wI (e + 1) 189 t189_81 [some (.ref 367), u1, some (.int v2), some (.int v3)] [] g (q_Mo_row_81 v2 v3 k22 g) := by
  unfold q_Mo_row_81
  refine tr_ldA rfl (tr_dupA (tr_getI (fk_367 hF) (tr_pushI (tr_bin (v := ((gI g 367 11) + (1 : Int32))) rfl (tr_putI hF (fk_367 hF) (fun g10 _ hF11 => ?_))))))
  refine tr_inc rfl rfl rfl (?_)
  refine tr_gotoE e189_22 (?_)
  exact hk22 _ _ _ hF11
def q_Mo_row_22 (v1 : Int32) (k89 : Int32 → hG → hO Int32) (k22 : Int32 → Int32 → hG → hO Int32) (v2 : Int32) (v3 : Int32) (g : hG) : hO Int32 :=
  if v1 ≤ v3 then (k89 v2 g) else (if v1 ≤ (v3 + (2 : Int32)) then (q_Mo_row_81 v2 v3 k22 g) else (gd v3 400 <| bnd (q_Mo_isCell (gI g 376 v3.toNatClampNeg) g) fun r14 g12 => if r14 = (0 : Int32) then (q_Mo_row_81 v2 v3 k22 g12) else (gd (v3 + (1 : Int32)) 400 <| if (9 : Int32) < (gI g12 376 (v3 + (1 : Int32)).toNatClampNeg) then (q_Mo_row_81 v2 v3 k22 g12) else (gd (v3 + (2 : Int32)) 400 <| if (1 : Int32) < (gI g12 376 (v3 + (2 : Int32)).toNatClampNeg) then (q_Mo_row_81 v2 v3 k22 g12) else (gd v3 400 <| gd (v3 + (1 : Int32)) 400 <| gd ((7 : Int32) + (gI g12 376 v3.toNatClampNeg)) 5468 <| wr (sI g12 369 ((7 : Int32) + (gI g12 376 v3.toNatClampNeg)).toNatClampNeg (gI g12 376 (v3 + (1 : Int32)).toNatClampNeg)) fun g18 => gd v3 400 <| gd (v3 + (2 : Int32)) 400 <| bnd (q_Mo_setDoor (gI g18 376 v3.toNatClampNeg) (gI g18 376 (v3 + (2 : Int32)).toNatClampNeg) g18) fun _ g20 => k22 (v2 + (1 : Int32)) (v3 + (3 : Int32)) g20)))))
def q_Mo_row_22L (v1 : Int32) (k89 : Int32 → hG → hO Int32) : Nat → Int32 → Int32 → hG → hO Int32
  | 0 => fun _ _ _ => none
  | n + 1 => fun v2 v3 g => q_Mo_row_22 v1 k89 (q_Mo_row_22L v1 k89 n) v2 v3 g
theorem q_Mo_row_22L_s (v1 : Int32) (k89 : Int32 → hG → hO Int32) (n : Nat) (v2 : Int32) (v3 : Int32) (g : hG) : q_Mo_row_22L v1 k89 (n + 1) v2 v3 g = q_Mo_row_22 v1 k89 (q_Mo_row_22L v1 k89 n) v2 v3 g := rfl
theorem th189_22 {e : Nat} (he : 2 ≤ e + 1) {v1 : Int32} {k89 : Int32 → hG → hO Int32} {k22 : Int32 → Int32 → hG → hO Int32} {v2 : Int32} {v3 : Int32} (hk89 : ∀ (x2 : Int32) (y3 : Option Value) (g : hG), Frz g → Tri wI (e + 1) 189 t189_89 [some (.ref 367), some (.int v1), some (.int x2), y3] [] g (k89 x2 g)) (hk22 : ∀ (x2 : Int32) (x3 : Int32) (g : hG), Frz g → Tri wI (e + 1) 189 t189_22 [some (.ref 367), some (.int v1), some (.int x2), some (.int x3)] [] g (k22 x2 x3 g)) {g : hG} (hF : Frz g) : Tri wI (e + 1) 189 t189_22 [some (.ref 367), some (.int v1), some (.int v2), some (.int v3)] [] g (q_Mo_row_22 v1 k89 k22 v2 v3 g) := by
  unfold q_Mo_row_22
  refine tr_ldI rfl (tr_ldI rfl (?_))
  refine tr_ifj e189_89 (c_ge _ _) (fun hc8 => ?_) (fun hc8 => ?_)
  · exact hk89 _ _ _ hF
  · refine tr_ldI rfl (tr_pushI (tr_bin (v := (v3 + (2 : Int32))) rfl (tr_ldI rfl (?_))))
    refine tr_ifj e189_81 (c_ge _ _) (fun hc9 => ?_) (fun hc9 => ?_)
    · exact th189_81 he hk22 rfl hF
    · refine tr_ldA rfl (tr_getP (b := 376) (fk_367 hF) (fp_367_12 hF) (tr_ldI rfl (tr_aldI (fk_376 hF) (fl_376 hF) (fun _ => ?_))))
      refine tr_invSI rfl rfl (Nat.le_of_ble_eq_true rfl) (Nat.le_of_ble_eq_true rfl) (by decide) (Nat.le_of_ble_eq_true rfl) (tm178 (by omega) hF) (fun r14 g12 _ hF13 => ?_)
      refine tr_if0j e189_81 (c_eq _ _) (fun hc15 => ?_) (fun hc15 => ?_)
      · exact th189_81 he hk22 rfl hF13
      · refine tr_ldA rfl (tr_getP (b := 376) (fk_367 hF13) (fp_367_12 hF13) (tr_ldI rfl (tr_pushI (tr_bin (v := (v3 + (1 : Int32))) rfl (tr_aldI (fk_376 hF13) (fl_376 hF13) (fun _ => ?_))))))
        refine tr_pushI (?_)
        refine tr_ifj e189_81 (c_gt _ _) (fun hc16 => ?_) (fun hc16 => ?_)
        · exact th189_81 he hk22 rfl hF13
        · refine tr_ldA rfl (tr_getP (b := 376) (fk_367 hF13) (fp_367_12 hF13) (tr_ldI rfl (tr_pushI (tr_bin (v := (v3 + (2 : Int32))) rfl (tr_aldI (fk_376 hF13) (fl_376 hF13) (fun _ => ?_))))))
          refine tr_pushI (?_)
          refine tr_ifj e189_81 (c_gt _ _) (fun hc17 => ?_) (fun hc17 => ?_)
          · exact th189_81 he hk22 rfl hF13
          · refine tr_ldA rfl (tr_getP (b := 369) (fk_367 hF13) (fp_367_3 hF13) (tr_pushI (tr_ldA rfl (tr_getP (b := 376) (fk_367 hF13) (fp_367_12 hF13) (tr_ldI rfl (?_))))))
            refine tr_aldI (fk_376 hF13) (fl_376 hF13) (fun _ => tr_bin (v := ((7 : Int32) + (gI g12 376 v3.toNatClampNeg))) rfl (tr_ldA rfl (tr_getP (b := 376) (fk_367 hF13) (fp_367_12 hF13) (tr_ldI rfl (tr_pushI (?_))))))
            refine tr_bin (v := (v3 + (1 : Int32))) rfl (tr_aldI (fk_376 hF13) (fl_376 hF13) (fun _ => tr_astI hF13 (fk_369 hF13) (fl_369 hF13) (fun _ g18 _ hF19 => tr_ldA rfl (tr_ldA rfl (tr_getP (b := 376) (fk_367 hF19) (fp_367_12 hF19) (?_))))))
            refine tr_ldI rfl (tr_aldI (fk_376 hF19) (fl_376 hF19) (fun _ => tr_ldA rfl (tr_getP (b := 376) (fk_367 hF19) (fp_367_12 hF19) (tr_ldI rfl (tr_pushI (?_))))))
            refine tr_bin (v := (v3 + (2 : Int32))) rfl (tr_aldI (fk_376 hF19) (fl_376 hF19) (fun _ => ?_))
            refine tr_invVU rfl rfl (fk_367 hF19) (Nat.le_of_ble_eq_true rfl) (by decide) (Nat.le_of_ble_eq_true rfl) (tm185 hF19) (fun _ g20 _ hF21 => ?_)
            refine tr_inc rfl rfl rfl (?_)
            refine tr_gotoE e189_87 (?_)
            refine tr_inc rfl rfl rfl (?_)
            refine tr_gotoE e189_22 (?_)
            exact hk22 _ _ _ hF21
theorem th189_22L {e : Nat} (he : 2 ≤ e + 1) {v1 : Int32} {k89 : Int32 → hG → hO Int32} (hk89 : ∀ (x2 : Int32) (y3 : Option Value) (g : hG), Frz g → Tri wI (e + 1) 189 t189_89 [some (.ref 367), some (.int v1), some (.int x2), y3] [] g (k89 x2 g)) : ∀ (n : Nat) (v2 : Int32) (v3 : Int32) (g : hG), Frz g → Tri wI (e + 1) 189 t189_22 [some (.ref 367), some (.int v1), some (.int v2), some (.int v3)] [] g (q_Mo_row_22L v1 k89 n v2 v3 g)
  | 0 => fun _ _ _ _ => Tri.none_
  | n + 1 => fun _ _ g hF => th189_22 he hk89 (th189_22L he hk89 n) hF
def q_Mo_row (g : hG) : hO Int32 :=
  wr (sI g 367 0 (0 : Int32)) fun g1 => wr (sI g1 367 13 (0 : Int32)) fun g3 => if (gI g1 367 13) = (0 : Int32) then (bnd (q_Mo_tell (-6 : Int32) g3) fun r31 g29 => some (r31, g29)) else (wr (sI g3 367 11 (0 : Int32)) fun g6 => q_Mo_row_22L (gI g1 367 13) (fun x22 g24 => bnd (q_Mo_lasting x22 g24) fun r28 g26 => some (r28, g26)) FU (0 : Int32) (0 : Int32) g6)
theorem tm189 {d : Nat} (hd : 2 ≤ d) {g : hG} (hF : Frz g) : TM wI d 189 [.ref 367] g (q_Mo_row g) := by
  obtain ⟨e, rfl⟩ : ∃ e, d = e + 1 := ⟨d - 1, by omega⟩
  have he := hd
  refine TM.ofE e189_0 (lv := [some (.ref 367), none, none, none]) rfl ?_
  unfold q_Mo_row
  refine tr_ldA rfl (tr_pushI (tr_putI hF (fk_367 hF) (fun g1 _ hF2 => tr_ldA rfl (tr_getI (fk_367 hF2) (tr_stI (Nat.le_of_ble_eq_true rfl) rfl rfl (?_))))))
  refine tr_ldA rfl (tr_pushI (tr_putI hF2 (fk_367 hF2) (fun g3 _ hF4 => tr_ldI rfl (?_))))
  refine tr_if0n e189_15 (c_ne _ _) (fun hc5 => ?_) (fun hc5 => ?_)
  · refine tr_ldA rfl (tr_pushI (tr_putI hF4 (fk_367 hF4) (fun g6 _ hF7 => tr_pushI (tr_stI (Nat.le_of_ble_eq_true rfl) rfl rfl (tr_pushI (?_))))))
    refine tr_stI (Nat.le_of_ble_eq_true rfl) rfl rfl (?_)
    refine th189_22L he (fun x22 y23 g24 hF25 => ?_) FU _ _ _ hF7
    · refine tr_ldA rfl (tr_ldI rfl (?_))
      refine tr_invVI rfl rfl (fk_367 hF25) (Nat.le_of_ble_eq_true rfl) (by decide) (Nat.le_of_ble_eq_true rfl) (tm171 (by omega) hF25) (fun r28 g26 _ hF27 => ?_)
      exact tr_retI hF27
  · refine tr_ldA rfl (tr_pushI (?_))
    refine tr_invVI rfl rfl (fk_367 hF4) (Nat.le_of_ble_eq_true rfl) (by decide) (Nat.le_of_ble_eq_true rfl) (tm169 hF4) (fun r31 g29 _ hF30 => ?_)
    exact tr_retI hF30
-- Mo_beads
abbrev t190_0 : List hOp := oLdA 0 :: oPushI 0 :: oPutI 12 0 :: oLdA 0 :: oGetI 12 11 :: oRetI :: []
theorem e190_0 : (opsOf 190).drop 0 = t190_0 := rfl
def q_Mo_beads (g : hG) : hO Int32 :=
  wr (sI g 367 0 (0 : Int32)) fun g1 => some ((gI g1 367 11), g1)
theorem tm190 {d : Nat} {g : hG} (hF : Frz g) : TM wI d 190 [.ref 367] g (q_Mo_beads g) := by
  refine TM.ofE e190_0 (lv := [some (.ref 367)]) rfl ?_
  unfold q_Mo_beads
  refine tr_ldA rfl (tr_pushI (tr_putI hF (fk_367 hF) (fun g1 _ hF2 => tr_ldA rfl (tr_getI (fk_367 hF2) (?_)))))
  exact tr_retI hF2
-- Mo_isSmall
abbrev t194_9 : List hOp := oRetZ :: []
abbrev t194_8 : List hOp := oPushI 0 :: t194_9
abbrev t194_0 : List hOp := oLdI 0 :: oPushI 97 :: oIf cLt 8 :: oLdI 0 :: oPushI 122 :: oIf cGt 8 :: oPushI 1 :: oGoto 9 :: t194_8
theorem e194_0 : (opsOf 194).drop 0 = t194_0 := rfl
theorem e194_8 : (opsOf 194).drop 8 = t194_8 := rfl
theorem e194_9 : (opsOf 194).drop 9 = t194_9 := rfl
def q_Mo_isSmall (v0 : Int32) (g : hG) : hO Int32 :=
  if v0 < (97 : Int32) then (some ((0 : Int32), g)) else (if (122 : Int32) < v0 then (some ((0 : Int32), g)) else (some ((1 : Int32), g)))
theorem tm194 {d : Nat} {v0 : Int32} {g : hG} (hF : Frz g) : TM wI d 194 [.int v0] g (q_Mo_isSmall v0 g) := by
  refine TM.ofE e194_0 (lv := [some (.int v0)]) rfl ?_
  unfold q_Mo_isSmall
  refine tr_ldI rfl (tr_pushI (?_))
  refine tr_ifj e194_8 (c_lt _ _) (fun hc1 => ?_) (fun hc1 => ?_)
  · refine tr_pushI (?_)
    exact tr_retZl (Or.inl rfl) hF
  · refine tr_ldI rfl (tr_pushI (?_))
    refine tr_ifj e194_8 (c_gt _ _) (fun hc2 => ?_) (fun hc2 => ?_)
    · refine tr_pushI (?_)
      exact tr_retZl (Or.inl rfl) hF
    · refine tr_pushI (?_)
      refine tr_gotoE e194_9 (?_)
      exact tr_retZl (Or.inr rfl) hF
-- Mo_isDigit
abbrev t195_9 : List hOp := oRetZ :: []
abbrev t195_8 : List hOp := oPushI 0 :: t195_9
abbrev t195_0 : List hOp := oLdI 0 :: oPushI 48 :: oIf cLt 8 :: oLdI 0 :: oPushI 57 :: oIf cGt 8 :: oPushI 1 :: oGoto 9 :: t195_8
theorem e195_0 : (opsOf 195).drop 0 = t195_0 := rfl
theorem e195_8 : (opsOf 195).drop 8 = t195_8 := rfl
theorem e195_9 : (opsOf 195).drop 9 = t195_9 := rfl
def q_Mo_isDigit (v0 : Int32) (g : hG) : hO Int32 :=
  if v0 < (48 : Int32) then (some ((0 : Int32), g)) else (if (57 : Int32) < v0 then (some ((0 : Int32), g)) else (some ((1 : Int32), g)))
theorem tm195 {d : Nat} {v0 : Int32} {g : hG} (hF : Frz g) : TM wI d 195 [.int v0] g (q_Mo_isDigit v0 g) := by
  refine TM.ofE e195_0 (lv := [some (.int v0)]) rfl ?_
  unfold q_Mo_isDigit
  refine tr_ldI rfl (tr_pushI (?_))
  refine tr_ifj e195_8 (c_lt _ _) (fun hc1 => ?_) (fun hc1 => ?_)
  · refine tr_pushI (?_)
    exact tr_retZl (Or.inl rfl) hF
  · refine tr_ldI rfl (tr_pushI (?_))
    refine tr_ifj e195_8 (c_gt _ _) (fun hc2 => ?_) (fun hc2 => ?_)
    · refine tr_pushI (?_)
      exact tr_retZl (Or.inl rfl) hF
    · refine tr_pushI (?_)
      refine tr_gotoE e195_9 (?_)
      exact tr_retZl (Or.inr rfl) hF
-- Mo_next
abbrev t197_169 : List hOp := oRetV :: []
abbrev t197_161 : List hOp := oPutJ 12 17 :: oLdA 0 :: oDup :: oGetI 12 15 :: oPushI 1 :: oBin (fun x y => x + y) :: oPutI 12 15 :: oGoto 123 :: t197_169
abbrev t197_148 : List hOp := oLdA 0 :: oGetJ 12 17 :: oPushL 10 :: oLBin (fun x y => x * y) :: oLdA 0 :: oGetP 12 12 :: oLdA 0 :: oGetI 12 15 :: oALdI 13 :: oI2L :: oLBin (fun x y => x + y) :: oPushL 48 :: oLBin (fun x y => x - y) :: t197_161
abbrev t197_123 : List hOp := oLdA 0 :: oGetI 12 16 :: oPushI 2 :: oIf cNe 169 :: oLdA 0 :: oGetI 12 15 :: oLdA 0 :: oGetI 12 13 :: oIf cGe 169 :: oLdA 0 :: oGetP 12 12 :: oLdA 0 :: oGetI 12 15 :: oALdI 13 :: oInvS 195 1 :: oIf0 cEq 169 :: oLdA 0 :: oLdA 0 :: oGetJ 12 17 :: oPushL 1000000 :: oLCmp :: oIf0 cLe 148 :: oLdA 0 :: oGetJ 12 17 :: oGoto 161 :: t197_148
abbrev t197_115 : List hOp := oPutJ 12 17 :: oLdA 0 :: oDup :: oGetI 12 15 :: oPushI 1 :: oBin (fun x y => x + y) :: oPutI 12 15 :: oGoto 76 :: t197_123
abbrev t197_114 : List hOp := oPushL (-1) :: t197_115
abbrev t197_76 : List hOp := oLdA 0 :: oGetI 12 16 :: oPushI 1 :: oIf cNe 123 :: oLdA 0 :: oGetI 12 15 :: oLdA 0 :: oGetI 12 13 :: oIf cGe 123 :: oLdA 0 :: oGetP 12 12 :: oLdA 0 :: oGetI 12 15 :: oALdI 13 :: oInvS 194 1 :: oIf0 cEq 123 :: oLdA 0 :: oLdA 0 :: oGetI 12 15 :: oLdA 0 :: oGetI 12 14 :: oBin (fun x y => x - y) :: oPushI 10 :: oIf cGe 114 :: oLdA 0 :: oGetJ 12 17 :: oPushL 32 :: oLBin (fun x y => x * y) :: oLdA 0 :: oGetP 12 12 :: oLdA 0 :: oGetI 12 15 :: oALdI 13 :: oI2L :: oLBin (fun x y => x + y) :: oPushL 96 :: oLBin (fun x y => x - y) :: oGoto 115 :: t197_114
abbrev t197_57 : List hOp := oPutI 12 16 :: oLdA 0 :: oGetI 12 16 :: oPushI 3 :: oIf cNe 76 :: oLdA 0 :: oLdA 0 :: oGetP 12 12 :: oLdA 0 :: oGetI 12 14 :: oALdI 13 :: oI2L :: oPutJ 12 17 :: oLdA 0 :: oDup :: oGetI 12 15 :: oPushI 1 :: oBin (fun x y => x + y) :: oPutI 12 15 :: t197_76
abbrev t197_56 : List hOp := oPushI 3 :: t197_57
abbrev t197_47 : List hOp := oLdA 0 :: oGetP 12 12 :: oLdA 0 :: oGetI 12 14 :: oALdI 13 :: oInvS 195 1 :: oIf0 cEq 56 :: oPushI 2 :: oGoto 57 :: t197_56
abbrev t197_38 : List hOp := oLdA 0 :: oGetP 12 12 :: oLdA 0 :: oGetI 12 14 :: oALdI 13 :: oInvS 194 1 :: oIf0 cEq 47 :: oPushI 1 :: oGoto 57 :: t197_47
abbrev t197_23 : List hOp := oLdA 0 :: oLdA 0 :: oGetI 12 14 :: oPutI 12 15 :: oLdA 0 :: oPushL 0 :: oPutJ 12 17 :: oLdA 0 :: oLdA 0 :: oGetI 12 14 :: oLdA 0 :: oGetI 12 13 :: oIf cNe 38 :: oPushI 0 :: oGoto 57 :: t197_38
abbrev t197_4 : List hOp := oLdA 0 :: oGetI 12 14 :: oLdA 0 :: oGetI 12 13 :: oIf cGe 23 :: oLdA 0 :: oGetP 12 12 :: oLdA 0 :: oGetI 12 14 :: oALdI 13 :: oPushI 32 :: oIf cNe 23 :: oLdA 0 :: oDup :: oGetI 12 14 :: oPushI 1 :: oBin (fun x y => x + y) :: oPutI 12 14 :: oGoto 4 :: t197_23
abbrev t197_0 : List hOp := oLdA 0 :: oLdA 0 :: oGetI 12 15 :: oPutI 12 14 :: t197_4
theorem e197_0 : (opsOf 197).drop 0 = t197_0 := rfl
theorem e197_4 : (opsOf 197).drop 4 = t197_4 := rfl
theorem e197_23 : (opsOf 197).drop 23 = t197_23 := rfl
theorem e197_38 : (opsOf 197).drop 38 = t197_38 := rfl
theorem e197_47 : (opsOf 197).drop 47 = t197_47 := rfl
theorem e197_56 : (opsOf 197).drop 56 = t197_56 := rfl
theorem e197_57 : (opsOf 197).drop 57 = t197_57 := rfl
theorem e197_76 : (opsOf 197).drop 76 = t197_76 := rfl
theorem e197_114 : (opsOf 197).drop 114 = t197_114 := rfl
theorem e197_115 : (opsOf 197).drop 115 = t197_115 := rfl
theorem e197_123 : (opsOf 197).drop 123 = t197_123 := rfl
theorem e197_148 : (opsOf 197).drop 148 = t197_148 := rfl
theorem e197_161 : (opsOf 197).drop 161 = t197_161 := rfl
theorem e197_169 : (opsOf 197).drop 169 = t197_169 := rfl
def q_Mo_next_4 (k23 : hG → hO Unit) (k4 : hG → hO Unit) (g : hG) : hO Unit :=
  if (gI g 367 13) ≤ (gI g 367 14) then (k23 g) else (gd (gI g 367 14) 400 <| if (gI g 376 (gI g 367 14).toNatClampNeg) = (32 : Int32) then (wr (sI g 367 14 ((gI g 367 14) + (1 : Int32))) fun g5 => k4 g5) else (k23 g))
def q_Mo_next_4L (k23 : hG → hO Unit) : Nat → hG → hO Unit
  | 0 => fun _ => none
  | n + 1 => fun g => q_Mo_next_4 k23 (q_Mo_next_4L k23 n) g
theorem q_Mo_next_4L_s (k23 : hG → hO Unit) (n : Nat) (g : hG) : q_Mo_next_4L k23 (n + 1) g = q_Mo_next_4 k23 (q_Mo_next_4L k23 n) g := rfl
theorem th197_4 {e : Nat} (he : 1 ≤ e + 1) {k23 : hG → hO Unit} {k4 : hG → hO Unit} (hk23 : ∀ (g : hG), Frz g → Tri wU (e + 1) 197 t197_23 [some (.ref 367)] [] g (k23 g)) (hk4 : ∀ (g : hG), Frz g → Tri wU (e + 1) 197 t197_4 [some (.ref 367)] [] g (k4 g)) {g : hG} (hF : Frz g) : Tri wU (e + 1) 197 t197_4 [some (.ref 367)] [] g (q_Mo_next_4 k23 k4 g) := by
  unfold q_Mo_next_4
  refine tr_ldA rfl (tr_getI (fk_367 hF) (tr_ldA rfl (tr_getI (fk_367 hF) (?_))))
  refine tr_ifj e197_23 (c_ge _ _) (fun hc3 => ?_) (fun hc3 => ?_)
  · exact hk23 _ hF
  · refine tr_ldA rfl (tr_getP (b := 376) (fk_367 hF) (fp_367_12 hF) (tr_ldA rfl (tr_getI (fk_367 hF) (tr_aldI (fk_376 hF) (fl_376 hF) (fun _ => tr_pushI (?_))))))
    refine tr_ifn e197_23 (c_ne _ _) (fun hc4 => ?_) (fun hc4 => ?_)
    · exact hk23 _ hF
    · refine tr_ldA rfl (tr_dupA (tr_getI (fk_367 hF) (tr_pushI (tr_bin (v := ((gI g 367 14) + (1 : Int32))) rfl (tr_putI hF (fk_367 hF) (fun g5 _ hF6 => ?_))))))
      refine tr_gotoE e197_4 (?_)
      exact hk4 _ hF6
theorem th197_4L {e : Nat} (he : 1 ≤ e + 1) {k23 : hG → hO Unit} (hk23 : ∀ (g : hG), Frz g → Tri wU (e + 1) 197 t197_23 [some (.ref 367)] [] g (k23 g)) : ∀ (n : Nat) (g : hG), Frz g → Tri wU (e + 1) 197 t197_4 [some (.ref 367)] [] g (q_Mo_next_4L k23 n g)
  | 0 => fun _ _ => Tri.none_
  | n + 1 => fun g hF => th197_4 he hk23 (th197_4L he hk23 n) hF
def q_Mo_next_115 (k76 : hG → hO Unit) (w1 : Int64) (g : hG) : hO Unit :=
  wr (sJ g 367 17 w1) fun g32 => wr (sI g32 367 15 ((gI g32 367 15) + (1 : Int32))) fun g34 => k76 g34
theorem th197_115 {e : Nat} (he : 1 ≤ e + 1) {k76 : hG → hO Unit} {w1 : Int64} (hk76 : ∀ (g : hG), Frz g → Tri wU (e + 1) 197 t197_76 [some (.ref 367)] [] g (k76 g)) {g : hG} (hF : Frz g) : Tri wU (e + 1) 197 t197_115 [some (.ref 367)] [.long w1, .ref 367] g (q_Mo_next_115 k76 w1 g) := by
  unfold q_Mo_next_115
  refine tr_putJ hF (fk_367 hF) (fun g32 _ hF33 => tr_ldA rfl (tr_dupA (tr_getI (fk_367 hF33) (tr_pushI (tr_bin (v := ((gI g32 367 15) + (1 : Int32))) rfl (?_))))))
  refine tr_putI hF33 (fk_367 hF33) (fun g34 _ hF35 => ?_)
  refine tr_gotoE e197_76 (?_)
  exact hk76 _ hF35
def q_Mo_next_76 (k123 : hG → hO Unit) (k76 : hG → hO Unit) (g : hG) : hO Unit :=
  if (gI g 367 16) = (1 : Int32) then (if (gI g 367 13) ≤ (gI g 367 15) then (k123 g) else (gd (gI g 367 15) 400 <| bnd (q_Mo_isSmall (gI g 376 (gI g 367 15).toNatClampNeg) g) fun r29 g27 => if r29 = (0 : Int32) then (k123 g27) else (if (10 : Int32) ≤ ((gI g27 367 15) - (gI g27 367 14)) then (q_Mo_next_115 k76 (-1 : Int64) g27) else (gd (gI g27 367 15) 400 <| q_Mo_next_115 k76 ((((gJ g27 367 17) * (32 : Int64)) + ((gI g27 376 (gI g27 367 15).toNatClampNeg)).toInt64) - (96 : Int64)) g27)))) else (k123 g)
def q_Mo_next_76L (k123 : hG → hO Unit) : Nat → hG → hO Unit
  | 0 => fun _ => none
  | n + 1 => fun g => q_Mo_next_76 k123 (q_Mo_next_76L k123 n) g
theorem q_Mo_next_76L_s (k123 : hG → hO Unit) (n : Nat) (g : hG) : q_Mo_next_76L k123 (n + 1) g = q_Mo_next_76 k123 (q_Mo_next_76L k123 n) g := rfl
theorem th197_76 {e : Nat} (he : 1 ≤ e + 1) {k123 : hG → hO Unit} {k76 : hG → hO Unit} (hk123 : ∀ (g : hG), Frz g → Tri wU (e + 1) 197 t197_123 [some (.ref 367)] [] g (k123 g)) (hk76 : ∀ (g : hG), Frz g → Tri wU (e + 1) 197 t197_76 [some (.ref 367)] [] g (k76 g)) {g : hG} (hF : Frz g) : Tri wU (e + 1) 197 t197_76 [some (.ref 367)] [] g (q_Mo_next_76 k123 k76 g) := by
  unfold q_Mo_next_76
  refine tr_ldA rfl (tr_getI (fk_367 hF) (tr_pushI (?_)))
  refine tr_ifn e197_123 (c_ne _ _) (fun hc25 => ?_) (fun hc25 => ?_)
  · exact hk123 _ hF
  · refine tr_ldA rfl (tr_getI (fk_367 hF) (tr_ldA rfl (tr_getI (fk_367 hF) (?_))))
    refine tr_ifj e197_123 (c_ge _ _) (fun hc26 => ?_) (fun hc26 => ?_)
    · exact hk123 _ hF
    · refine tr_ldA rfl (tr_getP (b := 376) (fk_367 hF) (fp_367_12 hF) (tr_ldA rfl (tr_getI (fk_367 hF) (tr_aldI (fk_376 hF) (fl_376 hF) (fun _ => ?_)))))
      refine tr_invSI rfl rfl (Nat.le_of_ble_eq_true rfl) (Nat.le_of_ble_eq_true rfl) (by decide) (Nat.le_of_ble_eq_true rfl) (tm194 hF) (fun r29 g27 _ hF28 => ?_)
      refine tr_if0j e197_123 (c_eq _ _) (fun hc30 => ?_) (fun hc30 => ?_)
      · exact hk123 _ hF28
      · refine tr_ldA rfl (tr_ldA rfl (tr_getI (fk_367 hF28) (tr_ldA rfl (tr_getI (fk_367 hF28) (tr_bin (v := ((gI g27 367 15) - (gI g27 367 14))) rfl (?_))))))
        refine tr_pushI (?_)
        refine tr_ifj e197_114 (c_ge _ _) (fun hc31 => ?_) (fun hc31 => ?_)
        · refine tr_pushL (?_)
          exact th197_115 he hk76 hF28
        · refine tr_ldA rfl (tr_getJ (fk_367 hF28) (tr_pushL (tr_lbin (v := ((gJ g27 367 17) * (32 : Int64))) rfl (tr_ldA rfl (tr_getP (b := 376) (fk_367 hF28) (fp_367_12 hF28) (?_))))))
          refine tr_ldA rfl (tr_getI (fk_367 hF28) (tr_aldI (fk_376 hF28) (fl_376 hF28) (fun _ => tr_i2l (tr_lbin (v := (((gJ g27 367 17) * (32 : Int64)) + ((gI g27 376 (gI g27 367 15).toNatClampNeg)).toInt64)) rfl (tr_pushL (?_))))))
          refine tr_lbin (v := ((((gJ g27 367 17) * (32 : Int64)) + ((gI g27 376 (gI g27 367 15).toNatClampNeg)).toInt64) - (96 : Int64))) rfl (?_)
          refine tr_gotoE e197_115 (?_)
          exact th197_115 he hk76 hF28
theorem th197_76L {e : Nat} (he : 1 ≤ e + 1) {k123 : hG → hO Unit} (hk123 : ∀ (g : hG), Frz g → Tri wU (e + 1) 197 t197_123 [some (.ref 367)] [] g (k123 g)) : ∀ (n : Nat) (g : hG), Frz g → Tri wU (e + 1) 197 t197_76 [some (.ref 367)] [] g (q_Mo_next_76L k123 n g)
  | 0 => fun _ _ => Tri.none_
  | n + 1 => fun g hF => th197_76 he hk123 (th197_76L he hk123 n) hF
def q_Mo_next_161 (k123 : hG → hO Unit) (w1 : Int64) (g : hG) : hO Unit :=
  wr (sJ g 367 17 w1) fun g45 => wr (sI g45 367 15 ((gI g45 367 15) + (1 : Int32))) fun g47 => k123 g47
theorem th197_161 {e : Nat} (he : 1 ≤ e + 1) {k123 : hG → hO Unit} {w1 : Int64} (hk123 : ∀ (g : hG), Frz g → Tri wU (e + 1) 197 t197_123 [some (.ref 367)] [] g (k123 g)) {g : hG} (hF : Frz g) : Tri wU (e + 1) 197 t197_161 [some (.ref 367)] [.long w1, .ref 367] g (q_Mo_next_161 k123 w1 g) := by
  unfold q_Mo_next_161
  refine tr_putJ hF (fk_367 hF) (fun g45 _ hF46 => tr_ldA rfl (tr_dupA (tr_getI (fk_367 hF46) (tr_pushI (tr_bin (v := ((gI g45 367 15) + (1 : Int32))) rfl (?_))))))
  refine tr_putI hF46 (fk_367 hF46) (fun g47 _ hF48 => ?_)
  refine tr_gotoE e197_123 (?_)
  exact hk123 _ hF48
def q_Mo_next_123 (k169 : hG → hO Unit) (k123 : hG → hO Unit) (g : hG) : hO Unit :=
  if (gI g 367 16) = (2 : Int32) then (if (gI g 367 13) ≤ (gI g 367 15) then (k169 g) else (gd (gI g 367 15) 400 <| bnd (q_Mo_isDigit (gI g 376 (gI g 367 15).toNatClampNeg) g) fun r42 g40 => if r42 = (0 : Int32) then (k169 g40) else (if (gJ g40 367 17) ≤ (1000000 : Int64) then (gd (gI g40 367 15) 400 <| q_Mo_next_161 k123 ((((gJ g40 367 17) * (10 : Int64)) + ((gI g40 376 (gI g40 367 15).toNatClampNeg)).toInt64) - (48 : Int64)) g40) else (q_Mo_next_161 k123 (gJ g40 367 17) g40)))) else (k169 g)
def q_Mo_next_123L (k169 : hG → hO Unit) : Nat → hG → hO Unit
  | 0 => fun _ => none
  | n + 1 => fun g => q_Mo_next_123 k169 (q_Mo_next_123L k169 n) g
theorem q_Mo_next_123L_s (k169 : hG → hO Unit) (n : Nat) (g : hG) : q_Mo_next_123L k169 (n + 1) g = q_Mo_next_123 k169 (q_Mo_next_123L k169 n) g := rfl
theorem th197_123 {e : Nat} (he : 1 ≤ e + 1) {k169 : hG → hO Unit} {k123 : hG → hO Unit} (hk169 : ∀ (g : hG), Frz g → Tri wU (e + 1) 197 t197_169 [some (.ref 367)] [] g (k169 g)) (hk123 : ∀ (g : hG), Frz g → Tri wU (e + 1) 197 t197_123 [some (.ref 367)] [] g (k123 g)) {g : hG} (hF : Frz g) : Tri wU (e + 1) 197 t197_123 [some (.ref 367)] [] g (q_Mo_next_123 k169 k123 g) := by
  unfold q_Mo_next_123
  refine tr_ldA rfl (tr_getI (fk_367 hF) (tr_pushI (?_)))
  refine tr_ifn e197_169 (c_ne _ _) (fun hc38 => ?_) (fun hc38 => ?_)
  · exact hk169 _ hF
  · refine tr_ldA rfl (tr_getI (fk_367 hF) (tr_ldA rfl (tr_getI (fk_367 hF) (?_))))
    refine tr_ifj e197_169 (c_ge _ _) (fun hc39 => ?_) (fun hc39 => ?_)
    · exact hk169 _ hF
    · refine tr_ldA rfl (tr_getP (b := 376) (fk_367 hF) (fp_367_12 hF) (tr_ldA rfl (tr_getI (fk_367 hF) (tr_aldI (fk_376 hF) (fl_376 hF) (fun _ => ?_)))))
      refine tr_invSI rfl rfl (Nat.le_of_ble_eq_true rfl) (Nat.le_of_ble_eq_true rfl) (by decide) (Nat.le_of_ble_eq_true rfl) (tm195 hF) (fun r42 g40 _ hF41 => ?_)
      refine tr_if0j e197_169 (c_eq _ _) (fun hc43 => ?_) (fun hc43 => ?_)
      · exact hk169 _ hF41
      · refine tr_ldA rfl (tr_ldA rfl (tr_getJ (fk_367 hF41) (tr_pushL (tr_lcmp (?_)))))
        refine tr_if0j e197_148 (l_le _ _) (fun hc44 => ?_) (fun hc44 => ?_)
        · refine tr_ldA rfl (tr_getJ (fk_367 hF41) (tr_pushL (tr_lbin (v := ((gJ g40 367 17) * (10 : Int64))) rfl (tr_ldA rfl (tr_getP (b := 376) (fk_367 hF41) (fp_367_12 hF41) (?_))))))
          refine tr_ldA rfl (tr_getI (fk_367 hF41) (tr_aldI (fk_376 hF41) (fl_376 hF41) (fun _ => tr_i2l (tr_lbin (v := (((gJ g40 367 17) * (10 : Int64)) + ((gI g40 376 (gI g40 367 15).toNatClampNeg)).toInt64)) rfl (tr_pushL (?_))))))
          refine tr_lbin (v := ((((gJ g40 367 17) * (10 : Int64)) + ((gI g40 376 (gI g40 367 15).toNatClampNeg)).toInt64) - (48 : Int64))) rfl (?_)
          exact th197_161 he hk123 hF41
        · refine tr_ldA rfl (tr_getJ (fk_367 hF41) (?_))
          refine tr_gotoE e197_161 (?_)
          exact th197_161 he hk123 hF41
theorem th197_123L {e : Nat} (he : 1 ≤ e + 1) {k169 : hG → hO Unit} (hk169 : ∀ (g : hG), Frz g → Tri wU (e + 1) 197 t197_169 [some (.ref 367)] [] g (k169 g)) : ∀ (n : Nat) (g : hG), Frz g → Tri wU (e + 1) 197 t197_123 [some (.ref 367)] [] g (q_Mo_next_123L k169 n g)
  | 0 => fun _ _ => Tri.none_
  | n + 1 => fun g hF => th197_123 he hk169 (th197_123L he hk169 n) hF
def q_Mo_next_57 (w1 : Int32) (g : hG) : hO Unit :=
  wr (sI g 367 16 w1) fun g22 => if (gI g22 367 16) = (3 : Int32) then (gd (gI g22 367 14) 400 <| wr (sJ g22 367 17 ((gI g22 376 (gI g22 367 14).toNatClampNeg)).toInt64) fun g51 => wr (sI g51 367 15 ((gI g51 367 15) + (1 : Int32))) fun g53 => q_Mo_next_76L (fun g55 => q_Mo_next_123L (fun g57 => some ((), g57)) FU g55) FU g53) else (q_Mo_next_76L (fun g36 => q_Mo_next_123L (fun g49 => some ((), g49)) FU g36) FU g22)
theorem th197_57 {e : Nat} (he : 1 ≤ e + 1) {w1 : Int32} {g : hG} (hF : Frz g) : Tri wU (e + 1) 197 t197_57 [some (.ref 367)] [.int w1, .ref 367] g (q_Mo_next_57 w1 g) := by
  unfold q_Mo_next_57
  refine tr_putI hF (fk_367 hF) (fun g22 _ hF23 => tr_ldA rfl (tr_getI (fk_367 hF23) (tr_pushI (?_))))
  refine tr_ifn e197_76 (c_ne _ _) (fun hc24 => ?_) (fun hc24 => ?_)
  · refine th197_76L he (fun g36 hF37 => ?_) FU _ hF23
    · refine th197_123L he (fun g49 hF50 => ?_) FU _ hF37
      · exact tr_retV hF50
  · refine tr_ldA rfl (tr_ldA rfl (tr_getP (b := 376) (fk_367 hF23) (fp_367_12 hF23) (tr_ldA rfl (tr_getI (fk_367 hF23) (tr_aldI (fk_376 hF23) (fl_376 hF23) (fun _ => ?_))))))
    refine tr_i2l (tr_putJ hF23 (fk_367 hF23) (fun g51 _ hF52 => tr_ldA rfl (tr_dupA (tr_getI (fk_367 hF52) (tr_pushI (?_))))))
    refine tr_bin (v := ((gI g51 367 15) + (1 : Int32))) rfl (tr_putI hF52 (fk_367 hF52) (fun g53 _ hF54 => ?_))
    refine th197_76L he (fun g55 hF56 => ?_) FU _ hF54
    · refine th197_123L he (fun g57 hF58 => ?_) FU _ hF56
      · exact tr_retV hF58
def q_Mo_next_23 (g : hG) : hO Unit :=
  wr (sI g 367 15 (gI g 367 14)) fun g9 => wr (sJ g9 367 17 (0 : Int64)) fun g11 => if (gI g11 367 14) = (gI g11 367 13) then (q_Mo_next_57 (0 : Int32) g11) else (gd (gI g11 367 14) 400 <| bnd (q_Mo_isSmall (gI g11 376 (gI g11 367 14).toNatClampNeg) g11) fun r16 g14 => if r16 = (0 : Int32) then (gd (gI g14 367 14) 400 <| bnd (q_Mo_isDigit (gI g14 376 (gI g14 367 14).toNatClampNeg) g14) fun r20 g18 => q_Mo_next_57 (if r20 = (0 : Int32) then (3 : Int32) else (2 : Int32)) g18) else (q_Mo_next_57 (1 : Int32) g14))
theorem th197_23 {e : Nat} (he : 1 ≤ e + 1) {g : hG} (hF : Frz g) : Tri wU (e + 1) 197 t197_23 [some (.ref 367)] [] g (q_Mo_next_23 g) := by
  unfold q_Mo_next_23
  refine tr_ldA rfl (tr_ldA rfl (tr_getI (fk_367 hF) (tr_putI hF (fk_367 hF) (fun g9 _ hF10 => tr_ldA rfl (tr_pushL (?_))))))
  refine tr_putJ hF10 (fk_367 hF10) (fun g11 _ hF12 => tr_ldA rfl (tr_ldA rfl (tr_getI (fk_367 hF12) (tr_ldA rfl (tr_getI (fk_367 hF12) (?_))))))
  refine tr_ifn e197_38 (c_ne _ _) (fun hc13 => ?_) (fun hc13 => ?_)
  · refine tr_ldA rfl (tr_getP (b := 376) (fk_367 hF12) (fp_367_12 hF12) (tr_ldA rfl (tr_getI (fk_367 hF12) (tr_aldI (fk_376 hF12) (fl_376 hF12) (fun _ => ?_)))))
    refine tr_invSI rfl rfl (Nat.le_of_ble_eq_true rfl) (Nat.le_of_ble_eq_true rfl) (by decide) (Nat.le_of_ble_eq_true rfl) (tm194 hF12) (fun r16 g14 _ hF15 => ?_)
    refine tr_if0j e197_47 (c_eq _ _) (fun hc17 => ?_) (fun hc17 => ?_)
    · refine tr_ldA rfl (tr_getP (b := 376) (fk_367 hF15) (fp_367_12 hF15) (tr_ldA rfl (tr_getI (fk_367 hF15) (tr_aldI (fk_376 hF15) (fl_376 hF15) (fun _ => ?_)))))
      refine tr_invSI rfl rfl (Nat.le_of_ble_eq_true rfl) (Nat.le_of_ble_eq_true rfl) (by decide) (Nat.le_of_ble_eq_true rfl) (tm195 hF15) (fun r20 g18 _ hF19 => ?_)
      refine tr_if0cE e197_56 (c_eq _ _) (fun hc59 => ?_) (fun hc59 => ?_)
      · rw [if_pos hc59]
        refine tr_pushI (?_)
        exact th197_57 he hF19
      · rw [if_neg hc59]
        refine tr_pushI (?_)
        refine tr_gotoE e197_57 (?_)
        exact th197_57 he hF19
    · refine tr_pushI (?_)
      refine tr_gotoE e197_57 (?_)
      exact th197_57 he hF15
  · refine tr_pushI (?_)
    refine tr_gotoE e197_57 (?_)
    exact th197_57 he hF12
def q_Mo_next (g : hG) : hO Unit :=
  wr (sI g 367 14 (gI g 367 15)) fun g1 => q_Mo_next_4L (fun g7 => q_Mo_next_23 g7) FU g1
theorem tm197 {d : Nat} (hd : 1 ≤ d) {g : hG} (hF : Frz g) : TM wU d 197 [.ref 367] g (q_Mo_next g) := by
  obtain ⟨e, rfl⟩ : ∃ e, d = e + 1 := ⟨d - 1, by omega⟩
  have he := hd
  refine TM.ofE e197_0 (lv := [some (.ref 367)]) rfl ?_
  unfold q_Mo_next
  refine tr_ldA rfl (tr_ldA rfl (tr_getI (fk_367 hF) (tr_putI hF (fk_367 hF) (fun g1 _ hF2 => ?_))))
  refine th197_4L he (fun g7 hF8 => ?_) FU _ hF2
  · exact th197_23 he hF8
-- Mo_begin
abbrev t196_0 : List hOp := oLdA 0 :: oPushI 0 :: oPutI 12 15 :: oLdA 0 :: oPushI 0 :: oPutZ 12 19 :: oLdA 0 :: oPushI (-1) :: oPutI 12 18 :: oLdA 0 :: oInvV 197 12 0 :: oRetV :: []
theorem e196_0 : (opsOf 196).drop 0 = t196_0 := rfl
def q_Mo_begin (g : hG) : hO Unit :=
  wr (sI g 367 15 (0 : Int32)) fun g1 => wr (sI g1 367 19 (0 : Int32)) fun g3 => wr (sI g3 367 18 (-1 : Int32)) fun g5 => bnd (q_Mo_next g5) fun _ g7 => some ((), g7)
theorem tm196 {d : Nat} (hd : 2 ≤ d) {g : hG} (hF : Frz g) : TM wU d 196 [.ref 367] g (q_Mo_begin g) := by
  obtain ⟨e, rfl⟩ : ∃ e, d = e + 1 := ⟨d - 1, by omega⟩
  have he := hd
  refine TM.ofE e196_0 (lv := [some (.ref 367)]) rfl ?_
  unfold q_Mo_begin
  refine tr_ldA rfl (tr_pushI (tr_putI hF (fk_367 hF) (fun g1 _ hF2 => tr_ldA rfl (tr_pushI (tr_putZl (Or.inl rfl) hF2 (fk_367 hF2) (fun g3 _ hF4 => ?_))))))
  refine tr_ldA rfl (tr_pushI (tr_putI hF4 (fk_367 hF4) (fun g5 _ hF6 => tr_ldA rfl (?_))))
  refine tr_invVU rfl rfl (fk_367 hF6) (Nat.le_of_ble_eq_true rfl) (by decide) (Nat.le_of_ble_eq_true rfl) (tm197 (by omega) hF6) (fun _ g7 _ hF8 => ?_)
  exact tr_retV hF8
-- Mo_beginText
abbrev t218_0 : List hOp := oLdA 0 :: oLdI 1 :: oPutZ 12 20 :: oLdA 0 :: oInvV 196 12 0 :: oLdA 0 :: oPushI 0 :: oPutI 12 21 :: oLdA 0 :: oPushI 0 :: oPutI 12 23 :: oLdA 0 :: oPushI 0 :: oPutI 12 26 :: oRetV :: []
theorem e218_0 : (opsOf 218).drop 0 = t218_0 := rfl
def q_Mo_beginText (v1 : Int32) (g : hG) : hO Unit :=
  gb v1 <| wr (sI g 367 20 v1) fun g1 => bnd (q_Mo_begin g1) fun _ g3 => wr (sI g3 367 21 (0 : Int32)) fun g5 => wr (sI g5 367 23 (0 : Int32)) fun g7 => wr (sI g7 367 26 (0 : Int32)) fun g9 => some ((), g9)
theorem tm218 {d : Nat} {v1 : Int32} (hd : 3 ≤ d) {g : hG} (hF : Frz g) : TM wU d 218 [.ref 367, .int v1] g (q_Mo_beginText v1 g) := by
  obtain ⟨e, rfl⟩ : ∃ e, d = e + 1 := ⟨d - 1, by omega⟩
  have he := hd
  refine TM.ofE e218_0 (lv := [some (.ref 367), some (.int v1)]) rfl ?_
  unfold q_Mo_beginText
  refine tr_ldA rfl (tr_ldI rfl (tr_putZ hF (fk_367 hF) (fun g1 _ hF2 => tr_ldA rfl (?_))))
  refine tr_invVU rfl rfl (fk_367 hF2) (Nat.le_of_ble_eq_true rfl) (by decide) (Nat.le_of_ble_eq_true rfl) (tm196 (by omega) hF2) (fun _ g3 _ hF4 => ?_)
  refine tr_ldA rfl (tr_pushI (tr_putI hF4 (fk_367 hF4) (fun g5 _ hF6 => tr_ldA rfl (tr_pushI (tr_putI hF6 (fk_367 hF6) (fun g7 _ hF8 => ?_))))))
  refine tr_ldA rfl (tr_pushI (tr_putI hF8 (fk_367 hF8) (fun g9 _ hF10 => ?_)))
  exact tr_retV hF10
-- Mo_isWord
abbrev t198_12 : List hOp := oRetZ :: []
abbrev t198_11 : List hOp := oPushI 0 :: t198_12
abbrev t198_0 : List hOp := oLdA 0 :: oGetI 12 16 :: oPushI 1 :: oIf cNe 11 :: oLdA 0 :: oGetJ 12 17 :: oLdL 1 :: oLCmp :: oIf0 cNe 11 :: oPushI 1 :: oGoto 12 :: t198_11
theorem e198_0 : (opsOf 198).drop 0 = t198_0 := rfl
theorem e198_11 : (opsOf 198).drop 11 = t198_11 := rfl
theorem e198_12 : (opsOf 198).drop 12 = t198_12 := rfl
def q_Mo_isWord (v1 : Int64) (g : hG) : hO Int32 :=
  if (gI g 367 16) = (1 : Int32) then (if (gJ g 367 17) = v1 then (some ((1 : Int32), g)) else (some ((0 : Int32), g))) else (some ((0 : Int32), g))
theorem tm198 {d : Nat} {v1 : Int64} {g : hG} (hF : Frz g) : TM wI d 198 [.ref 367, .long v1] g (q_Mo_isWord v1 g) := by
  refine TM.ofE e198_0 (lv := [some (.ref 367), some (.long v1), none]) rfl ?_
  unfold q_Mo_isWord
  refine tr_ldA rfl (tr_getI (fk_367 hF) (tr_pushI (?_)))
  refine tr_ifn e198_11 (c_ne _ _) (fun hc1 => ?_) (fun hc1 => ?_)
  · refine tr_pushI (?_)
    exact tr_retZl (Or.inl rfl) hF
  · refine tr_ldA rfl (tr_getJ (fk_367 hF) (tr_ldL rfl (tr_lcmp (?_))))
    refine tr_if0n e198_11 (l_ne _ _) (fun hc2 => ?_) (fun hc2 => ?_)
    · refine tr_pushI (?_)
      exact tr_retZl (Or.inl rfl) hF
    · refine tr_pushI (?_)
      refine tr_gotoE e198_12 (?_)
      exact tr_retZl (Or.inr rfl) hF
-- Mo_must
abbrev t200_17 : List hOp := oRetV :: []
abbrev t200_12 : List hOp := oLdA 0 :: oGetI 12 19 :: oIf0 cNe 17 :: oLdA 0 :: oInvV 197 12 0 :: t200_17
abbrev t200_0 : List hOp := oLdA 0 :: oGetI 12 19 :: oIf0 cNe 12 :: oLdI 1 :: oIf0 cNe 12 :: oLdA 0 :: oPushI 1 :: oPutZ 12 19 :: oLdA 0 :: oLdA 0 :: oGetI 12 14 :: oPutI 12 18 :: t200_12
theorem e200_0 : (opsOf 200).drop 0 = t200_0 := rfl
theorem e200_12 : (opsOf 200).drop 12 = t200_12 := rfl
theorem e200_17 : (opsOf 200).drop 17 = t200_17 := rfl
def q_Mo_must_12 (g : hG) : hO Unit :=
  if (gI g 367 19) = (0 : Int32) then (bnd (q_Mo_next g) fun _ g3 => some ((), g3)) else (some ((), g))
theorem th200_12 {e : Nat} (he : 2 ≤ e + 1) {u1 : Option Value} {g : hG} (hF : Frz g) : Tri wU (e + 1) 200 t200_12 [some (.ref 367), u1] [] g (q_Mo_must_12 g) := by
  unfold q_Mo_must_12
  refine tr_ldA rfl (tr_getI (fk_367 hF) (?_))
  refine tr_if0n e200_17 (c_ne _ _) (fun hc2 => ?_) (fun hc2 => ?_)
  · exact tr_retV hF
  · refine tr_ldA rfl (?_)
    refine tr_invVU rfl rfl (fk_367 hF) (Nat.le_of_ble_eq_true rfl) (by decide) (Nat.le_of_ble_eq_true rfl) (tm197 (by omega) hF) (fun _ g3 _ hF4 => ?_)
    exact tr_retV hF4
def q_Mo_must (v1 : Int32) (g : hG) : hO Unit :=
  if (gI g 367 19) = (0 : Int32) then (if v1 = (0 : Int32) then (wr (sI g 367 19 (1 : Int32)) fun g6 => wr (sI g6 367 18 (gI g6 367 14)) fun g8 => q_Mo_must_12 g8) else (q_Mo_must_12 g)) else (q_Mo_must_12 g)
theorem tm200 {d : Nat} {v1 : Int32} (hd : 2 ≤ d) {g : hG} (hF : Frz g) : TM wU d 200 [.ref 367, .int v1] g (q_Mo_must v1 g) := by
  obtain ⟨e, rfl⟩ : ∃ e, d = e + 1 := ⟨d - 1, by omega⟩
  have he := hd
  refine TM.ofE e200_0 (lv := [some (.ref 367), some (.int v1)]) rfl ?_
  unfold q_Mo_must
  refine tr_ldA rfl (tr_getI (fk_367 hF) (?_))
  refine tr_if0n e200_12 (c_ne _ _) (fun hc1 => ?_) (fun hc1 => ?_)
  · exact th200_12 he hF
  · refine tr_ldI rfl (?_)
    refine tr_if0n e200_12 (c_ne _ _) (fun hc5 => ?_) (fun hc5 => ?_)
    · exact th200_12 he hF
    · refine tr_ldA rfl (tr_pushI (tr_putZl (Or.inr rfl) hF (fk_367 hF) (fun g6 _ hF7 => tr_ldA rfl (tr_ldA rfl (tr_getI (fk_367 hF7) (?_))))))
      refine tr_putI hF7 (fk_367 hF7) (fun g8 _ hF9 => ?_)
      exact th200_12 he hF9
-- Mo_push
abbrev t204_0 : List hOp := oLdA 0 :: oGetP 12 27 :: oLdA 0 :: oGetI 12 29 :: oLdI 1 :: oAStI :: oLdA 0 :: oGetP 12 28 :: oLdA 0 :: oGetI 12 29 :: oLdI 2 :: oAStI :: oLdA 0 :: oDup :: oGetI 12 29 :: oPushI 1 :: oBin (fun x y => x + y) :: oPutI 12 29 :: oRetV :: []
theorem e204_0 : (opsOf 204).drop 0 = t204_0 := rfl
def q_Mo_push (v1 : Int32) (v2 : Int32) (g : hG) : hO Unit :=
  gd (gI g 367 29) 400 <| wr (sI g 380 (gI g 367 29).toNatClampNeg v1) fun g1 => gd (gI g1 367 29) 400 <| wr (sI g1 381 (gI g1 367 29).toNatClampNeg v2) fun g3 => wr (sI g3 367 29 ((gI g3 367 29) + (1 : Int32))) fun g5 => some ((), g5)
theorem tm204 {d : Nat} {v1 : Int32} {v2 : Int32} {g : hG} (hF : Frz g) : TM wU d 204 [.ref 367, .int v1, .int v2] g (q_Mo_push v1 v2 g) := by
  refine TM.ofE e204_0 (lv := [some (.ref 367), some (.int v1), some (.int v2)]) rfl ?_
  unfold q_Mo_push
  refine tr_ldA rfl (tr_getP (b := 380) (fk_367 hF) (fp_367_27 hF) (tr_ldA rfl (tr_getI (fk_367 hF) (tr_ldI rfl (tr_astI hF (fk_380 hF) (fl_380 hF) (fun _ g1 _ hF2 => ?_))))))
  refine tr_ldA rfl (tr_getP (b := 381) (fk_367 hF2) (fp_367_28 hF2) (tr_ldA rfl (tr_getI (fk_367 hF2) (tr_ldI rfl (tr_astI hF2 (fk_381 hF2) (fl_381 hF2) (fun _ g3 _ hF4 => ?_))))))
  refine tr_ldA rfl (tr_dupA (tr_getI (fk_367 hF4) (tr_pushI (tr_bin (v := ((gI g3 367 29) + (1 : Int32))) rfl (tr_putI hF4 (fk_367 hF4) (fun g5 _ hF6 => ?_))))))
  exact tr_retV hF6
-- Mo_isSign
abbrev t199_13 : List hOp := oRetZ :: []
abbrev t199_12 : List hOp := oPushI 0 :: t199_13
abbrev t199_0 : List hOp := oLdA 0 :: oGetI 12 16 :: oPushI 3 :: oIf cNe 12 :: oLdA 0 :: oGetJ 12 17 :: oLdI 1 :: oI2L :: oLCmp :: oIf0 cNe 12 :: oPushI 1 :: oGoto 13 :: t199_12
theorem e199_0 : (opsOf 199).drop 0 = t199_0 := rfl
theorem e199_12 : (opsOf 199).drop 12 = t199_12 := rfl
theorem e199_13 : (opsOf 199).drop 13 = t199_13 := rfl
def q_Mo_isSign (v1 : Int32) (g : hG) : hO Int32 :=
  if (gI g 367 16) = (3 : Int32) then (if (gJ g 367 17) = v1.toInt64 then (some ((1 : Int32), g)) else (some ((0 : Int32), g))) else (some ((0 : Int32), g))
theorem tm199 {d : Nat} {v1 : Int32} {g : hG} (hF : Frz g) : TM wI d 199 [.ref 367, .int v1] g (q_Mo_isSign v1 g) := by
  refine TM.ofE e199_0 (lv := [some (.ref 367), some (.int v1)]) rfl ?_
  unfold q_Mo_isSign
  refine tr_ldA rfl (tr_getI (fk_367 hF) (tr_pushI (?_)))
  refine tr_ifn e199_12 (c_ne _ _) (fun hc1 => ?_) (fun hc1 => ?_)
  · refine tr_pushI (?_)
    exact tr_retZl (Or.inl rfl) hF
  · refine tr_ldA rfl (tr_getJ (fk_367 hF) (tr_ldI rfl (tr_i2l (tr_lcmp (?_)))))
    refine tr_if0n e199_12 (l_ne _ _) (fun hc2 => ?_) (fun hc2 => ?_)
    · refine tr_pushI (?_)
      exact tr_retZl (Or.inl rfl) hF
    · refine tr_pushI (?_)
      refine tr_gotoE e199_13 (?_)
      exact tr_retZl (Or.inr rfl) hF
-- Mo_openBracket
abbrev t211_22 : List hOp := oRetV :: []
abbrev t211_8 : List hOp := oInvV 200 12 1 :: oLdA 0 :: oGetI 12 19 :: oIf0 cNe 22 :: oLdA 0 :: oDup :: oGetI 12 30 :: oPushI 1 :: oBin (fun x y => x + y) :: oPutI 12 30 :: oLdA 0 :: oLdI 1 :: oPushI 0 :: oInvV 204 12 2 :: t211_22
abbrev t211_7 : List hOp := oPushI 0 :: t211_8
abbrev t211_0 : List hOp := oLdA 0 :: oLdA 0 :: oGetI 12 30 :: oPushI 8 :: oIf cGe 7 :: oPushI 1 :: oGoto 8 :: t211_7
theorem e211_0 : (opsOf 211).drop 0 = t211_0 := rfl
theorem e211_7 : (opsOf 211).drop 7 = t211_7 := rfl
theorem e211_8 : (opsOf 211).drop 8 = t211_8 := rfl
theorem e211_22 : (opsOf 211).drop 22 = t211_22 := rfl
def q_Mo_openBracket_8 (v1 : Int32) (w1 : Int32) (g : hG) : hO Unit :=
  bnd (q_Mo_must w1 g) fun _ g2 => if (gI g2 367 19) = (0 : Int32) then (wr (sI g2 367 30 ((gI g2 367 30) + (1 : Int32))) fun g5 => bnd (q_Mo_push v1 (0 : Int32) g5) fun _ g7 => some ((), g7)) else (some ((), g2))
theorem th211_8 {e : Nat} (he : 3 ≤ e + 1) {v1 : Int32} {w1 : Int32} {g : hG} (hF : Frz g) : Tri wU (e + 1) 211 t211_8 [some (.ref 367), some (.int v1)] [.int w1, .ref 367] g (q_Mo_openBracket_8 v1 w1 g) := by
  unfold q_Mo_openBracket_8
  refine tr_invVU rfl rfl (fk_367 hF) (Nat.le_of_ble_eq_true rfl) (by decide) (Nat.le_of_ble_eq_true rfl) (tm200 (by omega) hF) (fun _ g2 _ hF3 => ?_)
  refine tr_ldA rfl (tr_getI (fk_367 hF3) (?_))
  refine tr_if0n e211_22 (c_ne _ _) (fun hc4 => ?_) (fun hc4 => ?_)
  · exact tr_retV hF3
  · refine tr_ldA rfl (tr_dupA (tr_getI (fk_367 hF3) (tr_pushI (tr_bin (v := ((gI g2 367 30) + (1 : Int32))) rfl (tr_putI hF3 (fk_367 hF3) (fun g5 _ hF6 => ?_))))))
    refine tr_ldA rfl (tr_ldI rfl (tr_pushI (?_)))
    refine tr_invVU rfl rfl (fk_367 hF6) (Nat.le_of_ble_eq_true rfl) (by decide) (Nat.le_of_ble_eq_true rfl) (tm204 hF6) (fun _ g7 _ hF8 => ?_)
    exact tr_retV hF8
def q_Mo_openBracket (v1 : Int32) (g : hG) : hO Unit :=
  q_Mo_openBracket_8 v1 (if (8 : Int32) ≤ (gI g 367 30) then (0 : Int32) else (1 : Int32)) g
theorem tm211 {d : Nat} {v1 : Int32} (hd : 3 ≤ d) {g : hG} (hF : Frz g) : TM wU d 211 [.ref 367, .int v1] g (q_Mo_openBracket v1 g) := by
  obtain ⟨e, rfl⟩ : ∃ e, d = e + 1 := ⟨d - 1, by omega⟩
  have he := hd
  refine TM.ofE e211_0 (lv := [some (.ref 367), some (.int v1)]) rfl ?_
  unfold q_Mo_openBracket
  refine tr_ldA rfl (tr_ldA rfl (tr_getI (fk_367 hF) (tr_pushI (?_))))
  refine tr_ifcE e211_7 (c_ge _ _) (fun hc9 => ?_) (fun hc9 => ?_)
  · rw [if_pos hc9]
    refine tr_pushI (?_)
    exact th211_8 he hF
  · rw [if_neg hc9]
    refine tr_pushI (?_)
    refine tr_gotoE e211_8 (?_)
    exact th211_8 he hF
-- Mo_orderPartAt
abbrev t210_22 : List hOp := oLdI 1 :: oRetI :: []
abbrev t210_19 : List hOp := oStI 1 :: oInc 2 1 :: oGoto 4 :: t210_22
abbrev t210_18 : List hOp := oLdI 1 :: t210_19
abbrev t210_4 : List hOp := oLdI 2 :: oPushI 7 :: oIf cGe 22 :: oLdA 0 :: oLdA 0 :: oGetP 12 32 :: oLdI 2 :: oALdJ :: oInvV 198 12 1 :: oIf0 cEq 18 :: oLdI 2 :: oPushI 1 :: oBin (fun x y => x + y) :: oGoto 19 :: t210_18
abbrev t210_0 : List hOp := oPushI (-1) :: oStI 1 :: oPushI 0 :: oStI 2 :: t210_4
theorem e210_0 : (opsOf 210).drop 0 = t210_0 := rfl
theorem e210_4 : (opsOf 210).drop 4 = t210_4 := rfl
theorem e210_18 : (opsOf 210).drop 18 = t210_18 := rfl
theorem e210_19 : (opsOf 210).drop 19 = t210_19 := rfl
theorem e210_22 : (opsOf 210).drop 22 = t210_22 := rfl
def q_Mo_orderPartAt_4 (k22 : Int32 → hG → hO Int32) (k4 : Int32 → Int32 → hG → hO Int32) (v1 : Int32) (v2 : Int32) (g : hG) : hO Int32 :=
  if (7 : Int32) ≤ v2 then (k22 v1 g) else (gd v2 7 <| bnd (q_Mo_isWord (gJ g 383 v2.toNatClampNeg) g) fun r4 g2 => if r4 = (0 : Int32) then (k4 v1 (v2 + (1 : Int32)) g2) else (k4 (v2 + (1 : Int32)) (v2 + (1 : Int32)) g2))
def q_Mo_orderPartAt_4L (k22 : Int32 → hG → hO Int32) : Nat → Int32 → Int32 → hG → hO Int32
  | 0 => fun _ _ _ => none
  | n + 1 => fun v1 v2 g => q_Mo_orderPartAt_4 k22 (q_Mo_orderPartAt_4L k22 n) v1 v2 g
theorem q_Mo_orderPartAt_4L_s (k22 : Int32 → hG → hO Int32) (n : Nat) (v1 : Int32) (v2 : Int32) (g : hG) : q_Mo_orderPartAt_4L k22 (n + 1) v1 v2 g = q_Mo_orderPartAt_4 k22 (q_Mo_orderPartAt_4L k22 n) v1 v2 g := rfl
theorem th210_4 {e : Nat} (he : 1 ≤ e + 1) {k22 : Int32 → hG → hO Int32} {k4 : Int32 → Int32 → hG → hO Int32} {v1 : Int32} {v2 : Int32} (hk22 : ∀ (x1 : Int32) (y2 : Option Value) (g : hG), Frz g → Tri wI (e + 1) 210 t210_22 [some (.ref 367), some (.int x1), y2] [] g (k22 x1 g)) (hk4 : ∀ (x1 : Int32) (x2 : Int32) (g : hG), Frz g → Tri wI (e + 1) 210 t210_4 [some (.ref 367), some (.int x1), some (.int x2)] [] g (k4 x1 x2 g)) {g : hG} (hF : Frz g) : Tri wI (e + 1) 210 t210_4 [some (.ref 367), some (.int v1), some (.int v2)] [] g (q_Mo_orderPartAt_4 k22 k4 v1 v2 g) := by
  unfold q_Mo_orderPartAt_4
  refine tr_ldI rfl (tr_pushI (?_))
  refine tr_ifj e210_22 (c_ge _ _) (fun hc1 => ?_) (fun hc1 => ?_)
  · exact hk22 _ _ _ hF
  · refine tr_ldA rfl (tr_ldA rfl (tr_getP (b := 383) (fk_367 hF) (fp_367_32 hF) (tr_ldI rfl (tr_aldJ (fk_383 hF) (fl_383 hF) (fun _ => ?_)))))
    refine tr_invVI rfl rfl (fk_367 hF) (Nat.le_of_ble_eq_true rfl) (by decide) (Nat.le_of_ble_eq_true rfl) (tm198 hF) (fun r4 g2 _ hF3 => ?_)
    refine tr_if0j e210_18 (c_eq _ _) (fun hc5 => ?_) (fun hc5 => ?_)
    · refine tr_ldI rfl (tr_stI (Nat.le_of_ble_eq_true rfl) rfl rfl (tr_inc rfl rfl rfl (?_)))
      refine tr_gotoE e210_4 (?_)
      exact hk4 _ _ _ hF3
    · refine tr_ldI rfl (tr_pushI (tr_bin (v := (v2 + (1 : Int32))) rfl (?_)))
      refine tr_gotoE e210_19 (?_)
      refine tr_stI (Nat.le_of_ble_eq_true rfl) rfl rfl (tr_inc rfl rfl rfl (?_))
      refine tr_gotoE e210_4 (?_)
      exact hk4 _ _ _ hF3
theorem th210_4L {e : Nat} (he : 1 ≤ e + 1) {k22 : Int32 → hG → hO Int32} (hk22 : ∀ (x1 : Int32) (y2 : Option Value) (g : hG), Frz g → Tri wI (e + 1) 210 t210_22 [some (.ref 367), some (.int x1), y2] [] g (k22 x1 g)) : ∀ (n : Nat) (v1 : Int32) (v2 : Int32) (g : hG), Frz g → Tri wI (e + 1) 210 t210_4 [some (.ref 367), some (.int v1), some (.int v2)] [] g (q_Mo_orderPartAt_4L k22 n v1 v2 g)
  | 0 => fun _ _ _ _ => Tri.none_
  | n + 1 => fun _ _ g hF => th210_4 he hk22 (th210_4L he hk22 n) hF
def q_Mo_orderPartAt (g : hG) : hO Int32 :=
  q_Mo_orderPartAt_4L (fun x6 g8 => some (x6, g8)) FU (-1 : Int32) (0 : Int32) g
theorem tm210 {d : Nat} (hd : 1 ≤ d) {g : hG} (hF : Frz g) : TM wI d 210 [.ref 367] g (q_Mo_orderPartAt g) := by
  obtain ⟨e, rfl⟩ : ∃ e, d = e + 1 := ⟨d - 1, by omega⟩
  have he := hd
  refine TM.ofE e210_0 (lv := [some (.ref 367), none, none]) rfl ?_
  unfold q_Mo_orderPartAt
  refine tr_pushI (tr_stI (Nat.le_of_ble_eq_true rfl) rfl rfl (tr_pushI (tr_stI (Nat.le_of_ble_eq_true rfl) rfl rfl (?_))))
  refine th210_4L he (fun x6 y7 g8 hF9 => ?_) FU _ _ _ hF
  · refine tr_ldI rfl (?_)
    exact tr_retI hF9
-- Mo_partAt
abbrev t209_22 : List hOp := oLdI 1 :: oRetI :: []
abbrev t209_19 : List hOp := oStI 1 :: oInc 2 1 :: oGoto 4 :: t209_22
abbrev t209_18 : List hOp := oLdI 1 :: t209_19
abbrev t209_4 : List hOp := oLdI 2 :: oPushI 7 :: oIf cGe 22 :: oLdA 0 :: oLdA 0 :: oGetP 12 31 :: oLdI 2 :: oALdJ :: oInvV 198 12 1 :: oIf0 cEq 18 :: oLdI 2 :: oPushI 1 :: oBin (fun x y => x + y) :: oGoto 19 :: t209_18
abbrev t209_0 : List hOp := oPushI (-1) :: oStI 1 :: oPushI 0 :: oStI 2 :: t209_4
theorem e209_0 : (opsOf 209).drop 0 = t209_0 := rfl
theorem e209_4 : (opsOf 209).drop 4 = t209_4 := rfl
theorem e209_18 : (opsOf 209).drop 18 = t209_18 := rfl
theorem e209_19 : (opsOf 209).drop 19 = t209_19 := rfl
theorem e209_22 : (opsOf 209).drop 22 = t209_22 := rfl
def q_Mo_partAt_4 (k22 : Int32 → hG → hO Int32) (k4 : Int32 → Int32 → hG → hO Int32) (v1 : Int32) (v2 : Int32) (g : hG) : hO Int32 :=
  if (7 : Int32) ≤ v2 then (k22 v1 g) else (gd v2 7 <| bnd (q_Mo_isWord (gJ g 382 v2.toNatClampNeg) g) fun r4 g2 => if r4 = (0 : Int32) then (k4 v1 (v2 + (1 : Int32)) g2) else (k4 (v2 + (1 : Int32)) (v2 + (1 : Int32)) g2))
def q_Mo_partAt_4L (k22 : Int32 → hG → hO Int32) : Nat → Int32 → Int32 → hG → hO Int32
  | 0 => fun _ _ _ => none
  | n + 1 => fun v1 v2 g => q_Mo_partAt_4 k22 (q_Mo_partAt_4L k22 n) v1 v2 g
theorem q_Mo_partAt_4L_s (k22 : Int32 → hG → hO Int32) (n : Nat) (v1 : Int32) (v2 : Int32) (g : hG) : q_Mo_partAt_4L k22 (n + 1) v1 v2 g = q_Mo_partAt_4 k22 (q_Mo_partAt_4L k22 n) v1 v2 g := rfl
theorem th209_4 {e : Nat} (he : 1 ≤ e + 1) {k22 : Int32 → hG → hO Int32} {k4 : Int32 → Int32 → hG → hO Int32} {v1 : Int32} {v2 : Int32} (hk22 : ∀ (x1 : Int32) (y2 : Option Value) (g : hG), Frz g → Tri wI (e + 1) 209 t209_22 [some (.ref 367), some (.int x1), y2] [] g (k22 x1 g)) (hk4 : ∀ (x1 : Int32) (x2 : Int32) (g : hG), Frz g → Tri wI (e + 1) 209 t209_4 [some (.ref 367), some (.int x1), some (.int x2)] [] g (k4 x1 x2 g)) {g : hG} (hF : Frz g) : Tri wI (e + 1) 209 t209_4 [some (.ref 367), some (.int v1), some (.int v2)] [] g (q_Mo_partAt_4 k22 k4 v1 v2 g) := by
  unfold q_Mo_partAt_4
  refine tr_ldI rfl (tr_pushI (?_))
  refine tr_ifj e209_22 (c_ge _ _) (fun hc1 => ?_) (fun hc1 => ?_)
  · exact hk22 _ _ _ hF
  · refine tr_ldA rfl (tr_ldA rfl (tr_getP (b := 382) (fk_367 hF) (fp_367_31 hF) (tr_ldI rfl (tr_aldJ (fk_382 hF) (fl_382 hF) (fun _ => ?_)))))
    refine tr_invVI rfl rfl (fk_367 hF) (Nat.le_of_ble_eq_true rfl) (by decide) (Nat.le_of_ble_eq_true rfl) (tm198 hF) (fun r4 g2 _ hF3 => ?_)
    refine tr_if0j e209_18 (c_eq _ _) (fun hc5 => ?_) (fun hc5 => ?_)
    · refine tr_ldI rfl (tr_stI (Nat.le_of_ble_eq_true rfl) rfl rfl (tr_inc rfl rfl rfl (?_)))
      refine tr_gotoE e209_4 (?_)
      exact hk4 _ _ _ hF3
    · refine tr_ldI rfl (tr_pushI (tr_bin (v := (v2 + (1 : Int32))) rfl (?_)))
      refine tr_gotoE e209_19 (?_)
      refine tr_stI (Nat.le_of_ble_eq_true rfl) rfl rfl (tr_inc rfl rfl rfl (?_))
      refine tr_gotoE e209_4 (?_)
      exact hk4 _ _ _ hF3
theorem th209_4L {e : Nat} (he : 1 ≤ e + 1) {k22 : Int32 → hG → hO Int32} (hk22 : ∀ (x1 : Int32) (y2 : Option Value) (g : hG), Frz g → Tri wI (e + 1) 209 t209_22 [some (.ref 367), some (.int x1), y2] [] g (k22 x1 g)) : ∀ (n : Nat) (v1 : Int32) (v2 : Int32) (g : hG), Frz g → Tri wI (e + 1) 209 t209_4 [some (.ref 367), some (.int v1), some (.int v2)] [] g (q_Mo_partAt_4L k22 n v1 v2 g)
  | 0 => fun _ _ _ _ => Tri.none_
  | n + 1 => fun _ _ g hF => th209_4 he hk22 (th209_4L he hk22 n) hF
def q_Mo_partAt (g : hG) : hO Int32 :=
  q_Mo_partAt_4L (fun x6 g8 => some (x6, g8)) FU (-1 : Int32) (0 : Int32) g
theorem tm209 {d : Nat} (hd : 1 ≤ d) {g : hG} (hF : Frz g) : TM wI d 209 [.ref 367] g (q_Mo_partAt g) := by
  obtain ⟨e, rfl⟩ : ∃ e, d = e + 1 := ⟨d - 1, by omega⟩
  have he := hd
  refine TM.ofE e209_0 (lv := [some (.ref 367), none, none]) rfl ?_
  unfold q_Mo_partAt
  refine tr_pushI (tr_stI (Nat.le_of_ble_eq_true rfl) rfl rfl (tr_pushI (tr_stI (Nat.le_of_ble_eq_true rfl) rfl rfl (?_))))
  refine th209_4L he (fun x6 y7 g8 hF9 => ?_) FU _ _ _ hF
  · refine tr_ldI rfl (?_)
    exact tr_retI hF9
-- Mo_emit
abbrev t203_0 : List hOp := oLdA 0 :: oGetP 12 24 :: oLdA 0 :: oGetI 12 23 :: oLdI 1 :: oAStI :: oLdA 0 :: oGetP 12 25 :: oLdA 0 :: oGetI 12 23 :: oLdI 2 :: oAStI :: oLdA 0 :: oDup :: oGetI 12 23 :: oPushI 1 :: oBin (fun x y => x + y) :: oPutI 12 23 :: oRetV :: []
theorem e203_0 : (opsOf 203).drop 0 = t203_0 := rfl
def q_Mo_emit (v1 : Int32) (v2 : Int32) (g : hG) : hO Unit :=
  gd (gI g 367 23) 400 <| wr (sI g 378 (gI g 367 23).toNatClampNeg v1) fun g1 => gd (gI g1 367 23) 400 <| wr (sI g1 379 (gI g1 367 23).toNatClampNeg v2) fun g3 => wr (sI g3 367 23 ((gI g3 367 23) + (1 : Int32))) fun g5 => some ((), g5)
theorem tm203 {d : Nat} {v1 : Int32} {v2 : Int32} {g : hG} (hF : Frz g) : TM wU d 203 [.ref 367, .int v1, .int v2] g (q_Mo_emit v1 v2 g) := by
  refine TM.ofE e203_0 (lv := [some (.ref 367), some (.int v1), some (.int v2)]) rfl ?_
  unfold q_Mo_emit
  refine tr_ldA rfl (tr_getP (b := 378) (fk_367 hF) (fp_367_24 hF) (tr_ldA rfl (tr_getI (fk_367 hF) (tr_ldI rfl (tr_astI hF (fk_378 hF) (fl_378 hF) (fun _ g1 _ hF2 => ?_))))))
  refine tr_ldA rfl (tr_getP (b := 379) (fk_367 hF2) (fp_367_25 hF2) (tr_ldA rfl (tr_getI (fk_367 hF2) (tr_ldI rfl (tr_astI hF2 (fk_379 hF2) (fl_379 hF2) (fun _ g3 _ hF4 => ?_))))))
  refine tr_ldA rfl (tr_dupA (tr_getI (fk_367 hF4) (tr_pushI (tr_bin (v := ((gI g3 367 23) + (1 : Int32))) rfl (tr_putI hF4 (fk_367 hF4) (fun g5 _ hF6 => ?_))))))
  exact tr_retV hF6
-- Mo_leaf
abbrev t212_24 : List hOp := oRetV :: []
abbrev t212_10 : List hOp := oInvV 200 12 1 :: oLdA 0 :: oGetI 12 19 :: oIf0 cNe 24 :: oLdA 0 :: oLdI 2 :: oLdI 3 :: oInvV 203 12 2 :: oLdA 0 :: oDup :: oGetI 12 26 :: oPushI 1 :: oBin (fun x y => x + y) :: oPutI 12 26 :: t212_24
abbrev t212_9 : List hOp := oPushI 0 :: t212_10
abbrev t212_0 : List hOp := oLdA 0 :: oLdI 1 :: oIf0 cEq 9 :: oLdA 0 :: oGetI 12 26 :: oPushI 50 :: oIf cGe 9 :: oPushI 1 :: oGoto 10 :: t212_9
theorem e212_0 : (opsOf 212).drop 0 = t212_0 := rfl
theorem e212_9 : (opsOf 212).drop 9 = t212_9 := rfl
theorem e212_10 : (opsOf 212).drop 10 = t212_10 := rfl
theorem e212_24 : (opsOf 212).drop 24 = t212_24 := rfl
def q_Mo_leaf_10 (v2 : Int32) (v3 : Int32) (w1 : Int32) (g : hG) : hO Unit :=
  bnd (q_Mo_must w1 g) fun _ g2 => if (gI g2 367 19) = (0 : Int32) then (bnd (q_Mo_emit v2 v3 g2) fun _ g5 => wr (sI g5 367 26 ((gI g5 367 26) + (1 : Int32))) fun g7 => some ((), g7)) else (some ((), g2))
theorem th212_10 {e : Nat} (he : 3 ≤ e + 1) {v2 : Int32} {v3 : Int32} {w1 : Int32} {u1 : Option Value} {g : hG} (hF : Frz g) : Tri wU (e + 1) 212 t212_10 [some (.ref 367), u1, some (.int v2), some (.int v3)] [.int w1, .ref 367] g (q_Mo_leaf_10 v2 v3 w1 g) := by
  unfold q_Mo_leaf_10
  refine tr_invVU rfl rfl (fk_367 hF) (Nat.le_of_ble_eq_true rfl) (by decide) (Nat.le_of_ble_eq_true rfl) (tm200 (by omega) hF) (fun _ g2 _ hF3 => ?_)
  refine tr_ldA rfl (tr_getI (fk_367 hF3) (?_))
  refine tr_if0n e212_24 (c_ne _ _) (fun hc4 => ?_) (fun hc4 => ?_)
  · exact tr_retV hF3
  · refine tr_ldA rfl (tr_ldI rfl (tr_ldI rfl (?_)))
    refine tr_invVU rfl rfl (fk_367 hF3) (Nat.le_of_ble_eq_true rfl) (by decide) (Nat.le_of_ble_eq_true rfl) (tm203 hF3) (fun _ g5 _ hF6 => ?_)
    refine tr_ldA rfl (tr_dupA (tr_getI (fk_367 hF6) (tr_pushI (tr_bin (v := ((gI g5 367 26) + (1 : Int32))) rfl (tr_putI hF6 (fk_367 hF6) (fun g7 _ hF8 => ?_))))))
    exact tr_retV hF8
def q_Mo_leaf (v1 : Int32) (v2 : Int32) (v3 : Int32) (g : hG) : hO Unit :=
  q_Mo_leaf_10 v2 v3 (if v1 = (0 : Int32) then (0 : Int32) else (if (50 : Int32) ≤ (gI g 367 26) then (0 : Int32) else (1 : Int32))) g
theorem tm212 {d : Nat} {v1 : Int32} {v2 : Int32} {v3 : Int32} (hd : 3 ≤ d) {g : hG} (hF : Frz g) : TM wU d 212 [.ref 367, .int v1, .int v2, .int v3] g (q_Mo_leaf v1 v2 v3 g) := by
  obtain ⟨e, rfl⟩ : ∃ e, d = e + 1 := ⟨d - 1, by omega⟩
  have he := hd
  refine TM.ofE e212_0 (lv := [some (.ref 367), some (.int v1), some (.int v2), some (.int v3)]) rfl ?_
  unfold q_Mo_leaf
  refine tr_ldA rfl (tr_ldI rfl (?_))
  refine tr_if0cE e212_9 (c_eq _ _) (fun hc9 => ?_) (fun hc9 => ?_)
  · rw [if_pos hc9]
    refine tr_pushI (?_)
    exact th212_10 he hF
  · rw [if_neg hc9]
    refine tr_ldA rfl (?_)
    refine tr_getI (fk_367 hF) (?_)
    refine tr_pushI (?_)
    refine tr_ifcE e212_9 (c_ge _ _) (fun hc10 => ?_) (fun hc10 => ?_)
    · rw [if_pos hc10]
      refine tr_pushI (?_)
      exact th212_10 he hF
    · rw [if_neg hc10]
      refine tr_pushI (?_)
      refine tr_gotoE e212_10 (?_)
      exact th212_10 he hF
-- Mo_number
abbrev t201_18 : List hOp := oInvV 200 12 1 :: oLdI 5 :: oRetI :: []
abbrev t201_17 : List hOp := oPushI 0 :: t201_18
abbrev t201_0 : List hOp := oLdA 0 :: oGetJ 12 17 :: oL2I :: oStI 5 :: oLdA 0 :: oLdA 0 :: oGetI 12 16 :: oPushI 2 :: oIf cNe 17 :: oLdA 0 :: oGetJ 12 17 :: oLdL 1 :: oLdL 3 :: oInvS 165 3 :: oIf0 cEq 17 :: oPushI 1 :: oGoto 18 :: t201_17
theorem e201_0 : (opsOf 201).drop 0 = t201_0 := rfl
theorem e201_17 : (opsOf 201).drop 17 = t201_17 := rfl
theorem e201_18 : (opsOf 201).drop 18 = t201_18 := rfl
def q_Mo_number_18 (v5 : Int32) (w1 : Int32) (g : hG) : hO Int32 :=
  bnd (q_Mo_must w1 g) fun _ g2 => some (v5, g2)
theorem th201_18 {e : Nat} (he : 3 ≤ e + 1) {v5 : Int32} {w1 : Int32} {u1 : Option Value} {u2 : Option Value} {u3 : Option Value} {u4 : Option Value} (hu4 : isL (some u4) = false) {g : hG} (hF : Frz g) : Tri wI (e + 1) 201 t201_18 [some (.ref 367), u1, u2, u3, u4, some (.int v5)] [.int w1, .ref 367] g (q_Mo_number_18 v5 w1 g) := by
  unfold q_Mo_number_18
  refine tr_invVU rfl rfl (fk_367 hF) (Nat.le_of_ble_eq_true rfl) (by decide) (Nat.le_of_ble_eq_true rfl) (tm200 (by omega) hF) (fun _ g2 _ hF3 => ?_)
  refine tr_ldI rfl (?_)
  exact tr_retI hF3
def q_Mo_number_17 (v5 : Int32) (g : hG) : hO Int32 :=
  q_Mo_number_18 v5 (0 : Int32) g
theorem th201_17 {e : Nat} (he : 3 ≤ e + 1) {v5 : Int32} {u1 : Option Value} {u2 : Option Value} {u3 : Option Value} {u4 : Option Value} (hu4 : isL (some u4) = false) {g : hG} (hF : Frz g) : Tri wI (e + 1) 201 t201_17 [some (.ref 367), u1, u2, u3, u4, some (.int v5)] [.ref 367] g (q_Mo_number_17 v5 g) := by
  unfold q_Mo_number_17
  refine tr_pushI (?_)
  exact th201_18 he hu4 hF
def q_Mo_number (v1 : Int64) (v3 : Int64) (g : hG) : hO Int32 :=
  if (gI g 367 16) = (2 : Int32) then (bnd (q_Mo_in (gJ g 367 17) v1 v3 g) fun r6 g4 => q_Mo_number_18 ((gJ g 367 17)).toInt32 (if r6 = (0 : Int32) then (0 : Int32) else (1 : Int32)) g4) else (q_Mo_number_17 ((gJ g 367 17)).toInt32 g)
theorem tm201 {d : Nat} {v1 : Int64} {v3 : Int64} (hd : 3 ≤ d) {g : hG} (hF : Frz g) : TM wI d 201 [.ref 367, .long v1, .long v3] g (q_Mo_number v1 v3 g) := by
  obtain ⟨e, rfl⟩ : ∃ e, d = e + 1 := ⟨d - 1, by omega⟩
  have he := hd
  refine TM.ofE e201_0 (lv := [some (.ref 367), some (.long v1), none, some (.long v3), none, none]) rfl ?_
  unfold q_Mo_number
  refine tr_ldA rfl (tr_getJ (fk_367 hF) (tr_l2i (tr_stI (Nat.le_of_ble_eq_true rfl) rfl rfl (tr_ldA rfl (tr_ldA rfl (?_))))))
  refine tr_getI (fk_367 hF) (tr_pushI (?_))
  refine tr_ifn e201_17 (c_ne _ _) (fun hc1 => ?_) (fun hc1 => ?_)
  · exact th201_17 he rfl hF
  · refine tr_ldA rfl (tr_getJ (fk_367 hF) (tr_ldL rfl (tr_ldL rfl (?_))))
    refine tr_invSI rfl rfl (Nat.le_of_ble_eq_true rfl) (Nat.le_of_ble_eq_true rfl) (by decide) (Nat.le_of_ble_eq_true rfl) (tm165 hF) (fun r6 g4 _ hF5 => ?_)
    refine tr_if0cE e201_17 (c_eq _ _) (fun hc8 => ?_) (fun hc8 => ?_)
    · rw [if_pos hc8]
      refine tr_pushI (?_)
      exact th201_18 he rfl hF5
    · rw [if_neg hc8]
      refine tr_pushI (?_)
      refine tr_gotoE e201_18 (?_)
      exact th201_18 he rfl hF5
-- Mo_readPart
abbrev t213_81 : List hOp := oPushI 3 :: oRetI :: []
abbrev t213_79 : List hOp := oInvV 201 12 2 :: oAStI :: t213_81
abbrev t213_78 : List hOp := oPushL 24 :: t213_79
abbrev t213_53 : List hOp := oInvV 212 12 3 :: oLdA 0 :: oGetI 12 20 :: oIf0 cEq 81 :: oLdI 1 :: oPushI 6 :: oIf cLt 81 :: oLdA 0 :: oGetI 12 19 :: oIf0 cNe 81 :: oLdA 0 :: oGetI 12 23 :: oPushI 1 :: oBin (fun x y => x - y) :: oStI 3 :: oLdA 0 :: oGetP 12 25 :: oLdI 3 :: oLdA 0 :: oPushL 0 :: oLdI 1 :: oPushI 6 :: oIf cNe 78 :: oPushL 7 :: oGoto 79 :: t213_78
abbrev t213_52 : List hOp := oPushI 0 :: t213_53
abbrev t213_46 : List hOp := oLdI 2 :: oIf0 cEq 52 :: oLdA 0 :: oGetJ 12 17 :: oL2I :: oGoto 53 :: t213_52
abbrev t213_45 : List hOp := oLdI 1 :: t213_46
abbrev t213_40 : List hOp := oLdI 1 :: oPushI (-1) :: oIf cNe 45 :: oPushI 0 :: oGoto 46 :: t213_45
abbrev t213_39 : List hOp := oPushI 0 :: t213_40
abbrev t213_37 : List hOp := oPushI 1 :: oGoto 40 :: t213_39
abbrev t213_30 : List hOp := oStI 2 :: oLdA 0 :: oLdI 1 :: oPushI (-1) :: oIf cNe 37 :: oLdI 2 :: oIf0 cEq 39 :: t213_37
abbrev t213_29 : List hOp := oPushI 0 :: t213_30
abbrev t213_17 : List hOp := oStI 1 :: oLdA 0 :: oGetI 12 16 :: oPushI 2 :: oIf cNe 29 :: oLdA 0 :: oGetJ 12 17 :: oPushL 1000 :: oLCmp :: oIf0 cGt 29 :: oPushI 1 :: oGoto 30 :: t213_29
abbrev t213_15 : List hOp := oLdA 0 :: oInvV 209 12 0 :: t213_17
abbrev t213_9 : List hOp := oLdA 0 :: oGetI 12 20 :: oIf0 cEq 15 :: oLdA 0 :: oInvV 210 12 0 :: oGoto 17 :: t213_15
abbrev t213_0 : List hOp := oLdA 0 :: oPushI 91 :: oInvV 199 12 1 :: oIf0 cEq 9 :: oLdA 0 :: oPushI 32 :: oInvV 211 12 1 :: oPushI 1 :: oRetI :: t213_9
theorem e213_0 : (opsOf 213).drop 0 = t213_0 := rfl
theorem e213_9 : (opsOf 213).drop 9 = t213_9 := rfl
theorem e213_15 : (opsOf 213).drop 15 = t213_15 := rfl
theorem e213_17 : (opsOf 213).drop 17 = t213_17 := rfl
theorem e213_29 : (opsOf 213).drop 29 = t213_29 := rfl
theorem e213_30 : (opsOf 213).drop 30 = t213_30 := rfl
theorem e213_37 : (opsOf 213).drop 37 = t213_37 := rfl
theorem e213_39 : (opsOf 213).drop 39 = t213_39 := rfl
theorem e213_40 : (opsOf 213).drop 40 = t213_40 := rfl
theorem e213_45 : (opsOf 213).drop 45 = t213_45 := rfl
theorem e213_46 : (opsOf 213).drop 46 = t213_46 := rfl
theorem e213_52 : (opsOf 213).drop 52 = t213_52 := rfl
theorem e213_53 : (opsOf 213).drop 53 = t213_53 := rfl
theorem e213_78 : (opsOf 213).drop 78 = t213_78 := rfl
theorem e213_79 : (opsOf 213).drop 79 = t213_79 := rfl
theorem e213_81 : (opsOf 213).drop 81 = t213_81 := rfl
def q_Mo_readPart_79 (w1 : Int32) (w3 : Int64) (w4 : Int64) (g : hG) : hO Int32 :=
  bnd (q_Mo_number w3 w4 g) fun r21 g19 => gd w1 400 <| wr (sI g19 379 w1.toNatClampNeg r21) fun g22 => some ((3 : Int32), g22)
theorem th213_79 {e : Nat} (he : 4 ≤ e + 1) {w1 : Int32} {w3 : Int64} {w4 : Int64} {u1 : Option Value} {u2 : Option Value} {u3 : Option Value} (hu1 : isL (some u1) = false) (hu2 : isL (some u2) = false) {g : hG} (hF : Frz g) : Tri wI (e + 1) 213 t213_79 [some (.ref 367), u1, u2, u3] [.long w4, .long w3, .ref 367, .int w1, .ref 379] g (q_Mo_readPart_79 w1 w3 w4 g) := by
  unfold q_Mo_readPart_79
  refine tr_invVI rfl rfl (fk_367 hF) (Nat.le_of_ble_eq_true rfl) (by decide) (Nat.le_of_ble_eq_true rfl) (tm201 (by omega) hF) (fun r21 g19 _ hF20 => ?_)
  refine tr_astI hF20 (fk_379 hF20) (fl_379 hF20) (fun _ g22 _ hF23 => tr_pushI (?_))
  exact tr_retI hF23
def q_Mo_readPart_53 (v1 : Int32) (w1 : Int32) (w2 : Int32) (w3 : Int32) (g : hG) : hO Int32 :=
  bnd (q_Mo_leaf w1 w2 w3 g) fun _ g13 => if (gI g13 367 20) = (0 : Int32) then (some ((3 : Int32), g13)) else (if v1 < (6 : Int32) then (some ((3 : Int32), g13)) else (if (gI g13 367 19) = (0 : Int32) then (q_Mo_readPart_79 ((gI g13 367 23) - (1 : Int32)) (0 : Int64) (if v1 = (6 : Int32) then (7 : Int64) else (24 : Int64)) g13) else (some ((3 : Int32), g13))))
theorem th213_53 {e : Nat} (he : 4 ≤ e + 1) {v1 : Int32} {w1 : Int32} {w2 : Int32} {w3 : Int32} {u2 : Option Value} {u3 : Option Value} (hu2 : isL (some u2) = false) {g : hG} (hF : Frz g) : Tri wI (e + 1) 213 t213_53 [some (.ref 367), some (.int v1), u2, u3] [.int w3, .int w2, .int w1, .ref 367] g (q_Mo_readPart_53 v1 w1 w2 w3 g) := by
  unfold q_Mo_readPart_53
  refine tr_invVU rfl rfl (fk_367 hF) (Nat.le_of_ble_eq_true rfl) (by decide) (Nat.le_of_ble_eq_true rfl) (tm212 (by omega) hF) (fun _ g13 _ hF14 => ?_)
  refine tr_ldA rfl (tr_getI (fk_367 hF14) (?_))
  refine tr_if0j e213_81 (c_eq _ _) (fun hc15 => ?_) (fun hc15 => ?_)
  · refine tr_pushI (?_)
    exact tr_retI hF14
  · refine tr_ldI rfl (tr_pushI (?_))
    refine tr_ifj e213_81 (c_lt _ _) (fun hc16 => ?_) (fun hc16 => ?_)
    · refine tr_pushI (?_)
      exact tr_retI hF14
    · refine tr_ldA rfl (tr_getI (fk_367 hF14) (?_))
      refine tr_if0n e213_81 (c_ne _ _) (fun hc17 => ?_) (fun hc17 => ?_)
      · refine tr_pushI (?_)
        exact tr_retI hF14
      · refine tr_ldA rfl (tr_getI (fk_367 hF14) (tr_pushI (tr_bin (v := ((gI g13 367 23) - (1 : Int32))) rfl (tr_stI (Nat.le_of_ble_eq_true rfl) (lKill_id hu2) rfl (tr_ldA rfl (?_))))))
        refine tr_getP (b := 379) (fk_367 hF14) (fp_367_25 hF14) (tr_ldI rfl (tr_ldA rfl (tr_pushL (tr_ldI rfl (tr_pushI (?_))))))
        refine tr_ifcE e213_78 (c_ne _ _) (fun hc24 => ?_) (fun hc24 => ?_)
        · rw [if_neg hc24]
          refine tr_pushL (?_)
          exact th213_79 he rfl hu2 hF14
        · rw [if_pos (Decidable.not_not.mp hc24)]
          refine tr_pushL (?_)
          refine tr_gotoE e213_79 (?_)
          exact th213_79 he rfl hu2 hF14
def q_Mo_readPart_46 (v1 : Int32) (v2 : Int32) (w1 : Int32) (w2 : Int32) (g : hG) : hO Int32 :=
  if v2 = (0 : Int32) then (q_Mo_readPart_53 v1 w1 w2 (0 : Int32) g) else (q_Mo_readPart_53 v1 w1 w2 ((gJ g 367 17)).toInt32 g)
theorem th213_46 {e : Nat} (he : 4 ≤ e + 1) {v1 : Int32} {v2 : Int32} {w1 : Int32} {w2 : Int32} {u3 : Option Value} {g : hG} (hF : Frz g) : Tri wI (e + 1) 213 t213_46 [some (.ref 367), some (.int v1), some (.int v2), u3] [.int w2, .int w1, .ref 367] g (q_Mo_readPart_46 v1 v2 w1 w2 g) := by
  unfold q_Mo_readPart_46
  refine tr_ldI rfl (?_)
  refine tr_if0j e213_52 (c_eq _ _) (fun hc12 => ?_) (fun hc12 => ?_)
  · refine tr_pushI (?_)
    exact th213_53 he rfl hF
  · refine tr_ldA rfl (tr_getJ (fk_367 hF) (tr_l2i (?_)))
    refine tr_gotoE e213_53 (?_)
    exact th213_53 he rfl hF
def q_Mo_readPart_40 (v1 : Int32) (v2 : Int32) (w1 : Int32) (g : hG) : hO Int32 :=
  q_Mo_readPart_46 v1 v2 w1 (if v1 = (-1 : Int32) then (0 : Int32) else v1) g
theorem th213_40 {e : Nat} (he : 4 ≤ e + 1) {v1 : Int32} {v2 : Int32} {w1 : Int32} {u3 : Option Value} {g : hG} (hF : Frz g) : Tri wI (e + 1) 213 t213_40 [some (.ref 367), some (.int v1), some (.int v2), u3] [.int w1, .ref 367] g (q_Mo_readPart_40 v1 v2 w1 g) := by
  unfold q_Mo_readPart_40
  refine tr_ldI rfl (tr_pushI (?_))
  refine tr_ifcE e213_45 (c_ne _ _) (fun hc25 => ?_) (fun hc25 => ?_)
  · rw [if_neg hc25]
    refine tr_ldI rfl (?_)
    exact th213_46 he hF
  · rw [if_pos (Decidable.not_not.mp hc25)]
    refine tr_pushI (?_)
    refine tr_gotoE e213_46 (?_)
    exact th213_46 he hF
def q_Mo_readPart_30 (v1 : Int32) (w0 : Int32) (g : hG) : hO Int32 :=
  q_Mo_readPart_40 v1 w0 (if v1 = (-1 : Int32) then (if w0 = (0 : Int32) then (0 : Int32) else (1 : Int32)) else (1 : Int32)) g
theorem th213_30 {e : Nat} (he : 4 ≤ e + 1) {v1 : Int32} {w0 : Int32} {u2 : Option Value} {u3 : Option Value} (hu2 : isL (some u2) = false) {g : hG} (hF : Frz g) : Tri wI (e + 1) 213 t213_30 [some (.ref 367), some (.int v1), u2, u3] [.int w0] g (q_Mo_readPart_30 v1 w0 g) := by
  unfold q_Mo_readPart_30
  refine tr_stI (Nat.le_of_ble_eq_true rfl) rfl rfl (tr_ldA rfl (tr_ldI rfl (tr_pushI (?_))))
  refine tr_ifcE e213_37 (c_ne _ _) (fun hc26 => ?_) (fun hc26 => ?_)
  · rw [if_neg hc26]
    refine tr_pushI (?_)
    refine tr_gotoE e213_40 (?_)
    exact th213_40 he hF
  · rw [if_pos (Decidable.not_not.mp hc26)]
    refine tr_ldI rfl (?_)
    refine tr_if0cE e213_39 (c_eq _ _) (fun hc27 => ?_) (fun hc27 => ?_)
    · rw [if_pos hc27]
      refine tr_pushI (?_)
      exact th213_40 he hF
    · rw [if_neg hc27]
      refine tr_pushI (?_)
      refine tr_gotoE e213_40 (?_)
      exact th213_40 he hF
def q_Mo_readPart_29 (v1 : Int32) (g : hG) : hO Int32 :=
  q_Mo_readPart_30 v1 (0 : Int32) g
theorem th213_29 {e : Nat} (he : 4 ≤ e + 1) {v1 : Int32} {u2 : Option Value} {u3 : Option Value} (hu2 : isL (some u2) = false) {g : hG} (hF : Frz g) : Tri wI (e + 1) 213 t213_29 [some (.ref 367), some (.int v1), u2, u3] [] g (q_Mo_readPart_29 v1 g) := by
  unfold q_Mo_readPart_29
  refine tr_pushI (?_)
  exact th213_30 he hu2 hF
def q_Mo_readPart_17 (w0 : Int32) (g : hG) : hO Int32 :=
  if (gI g 367 16) = (2 : Int32) then (q_Mo_readPart_30 w0 (if (1000 : Int64) < (gJ g 367 17) then (0 : Int32) else (1 : Int32)) g) else (q_Mo_readPart_29 w0 g)
theorem th213_17 {e : Nat} (he : 4 ≤ e + 1) {w0 : Int32} {u1 : Option Value} {u2 : Option Value} {u3 : Option Value} (hu1 : isL (some u1) = false) (hu2 : isL (some u2) = false) {g : hG} (hF : Frz g) : Tri wI (e + 1) 213 t213_17 [some (.ref 367), u1, u2, u3] [.int w0] g (q_Mo_readPart_17 w0 g) := by
  unfold q_Mo_readPart_17
  refine tr_stI (Nat.le_of_ble_eq_true rfl) rfl rfl (tr_ldA rfl (tr_getI (fk_367 hF) (tr_pushI (?_))))
  refine tr_ifn e213_29 (c_ne _ _) (fun hc9 => ?_) (fun hc9 => ?_)
  · exact th213_29 he hu2 hF
  · refine tr_ldA rfl (tr_getJ (fk_367 hF) (tr_pushL (tr_lcmp (?_))))
    refine tr_if0cE e213_29 (l_gt _ _) (fun hc29 => ?_) (fun hc29 => ?_)
    · rw [if_pos hc29]
      refine tr_pushI (?_)
      exact th213_30 he hu2 hF
    · rw [if_neg hc29]
      refine tr_pushI (?_)
      refine tr_gotoE e213_30 (?_)
      exact th213_30 he hu2 hF
def q_Mo_readPart (g : hG) : hO Int32 :=
  bnd (q_Mo_isSign (91 : Int32) g) fun r3 g1 => if r3 = (0 : Int32) then (if (gI g1 367 20) = (0 : Int32) then (bnd (q_Mo_partAt g1) fun r8 g6 => q_Mo_readPart_17 r8 g6) else (bnd (q_Mo_orderPartAt g1) fun r32 g30 => q_Mo_readPart_17 r32 g30)) else (bnd (q_Mo_openBracket (32 : Int32) g1) fun _ g33 => some ((1 : Int32), g33))
theorem tm213 {d : Nat} (hd : 4 ≤ d) {g : hG} (hF : Frz g) : TM wI d 213 [.ref 367] g (q_Mo_readPart g) := by
  obtain ⟨e, rfl⟩ : ∃ e, d = e + 1 := ⟨d - 1, by omega⟩
  have he := hd
  refine TM.ofE e213_0 (lv := [some (.ref 367), none, none, none]) rfl ?_
  unfold q_Mo_readPart
  refine tr_ldA rfl (tr_pushI (?_))
  refine tr_invVI rfl rfl (fk_367 hF) (Nat.le_of_ble_eq_true rfl) (by decide) (Nat.le_of_ble_eq_true rfl) (tm199 hF) (fun r3 g1 _ hF2 => ?_)
  refine tr_if0j e213_9 (c_eq _ _) (fun hc4 => ?_) (fun hc4 => ?_)
  · refine tr_ldA rfl (tr_getI (fk_367 hF2) (?_))
    refine tr_if0j e213_15 (c_eq _ _) (fun hc5 => ?_) (fun hc5 => ?_)
    · refine tr_ldA rfl (?_)
      refine tr_invVI rfl rfl (fk_367 hF2) (Nat.le_of_ble_eq_true rfl) (by decide) (Nat.le_of_ble_eq_true rfl) (tm209 (by omega) hF2) (fun r8 g6 _ hF7 => ?_)
      exact th213_17 he rfl rfl hF7
    · refine tr_ldA rfl (?_)
      refine tr_invVI rfl rfl (fk_367 hF2) (Nat.le_of_ble_eq_true rfl) (by decide) (Nat.le_of_ble_eq_true rfl) (tm210 (by omega) hF2) (fun r32 g30 _ hF31 => ?_)
      refine tr_gotoE e213_17 (?_)
      exact th213_17 he rfl rfl hF31
  · refine tr_ldA rfl (tr_pushI (?_))
    refine tr_invVU rfl rfl (fk_367 hF2) (Nat.le_of_ble_eq_true rfl) (by decide) (Nat.le_of_ble_eq_true rfl) (tm211 (by omega) hF2) (fun _ g33 _ hF34 => ?_)
    refine tr_pushI (?_)
    exact tr_retI hF34
-- Mo_readPlain
abbrev t214_21 : List hOp := oLdA 0 :: oInvV 213 12 0 :: oRetI :: []
abbrev t214_12 : List hOp := oLdA 0 :: oPushI 40 :: oInvV 199 12 1 :: oIf0 cEq 21 :: oLdA 0 :: oPushI 31 :: oInvV 211 12 1 :: oPushI 0 :: oRetI :: t214_21
abbrev t214_0 : List hOp := oLdA 0 :: oPushL 14836 :: oInvV 198 12 1 :: oIf0 cEq 12 :: oLdA 0 :: oPushI 28 :: oPushI 0 :: oInvV 204 12 2 :: oLdA 0 :: oInvV 197 12 0 :: oPushI 0 :: oRetI :: t214_12
theorem e214_0 : (opsOf 214).drop 0 = t214_0 := rfl
theorem e214_12 : (opsOf 214).drop 12 = t214_12 := rfl
theorem e214_21 : (opsOf 214).drop 21 = t214_21 := rfl
def q_Mo_readPlain (g : hG) : hO Int32 :=
  bnd (q_Mo_isWord (14836 : Int64) g) fun r3 g1 => if r3 = (0 : Int32) then (bnd (q_Mo_isSign (40 : Int32) g1) fun r7 g5 => if r7 = (0 : Int32) then (bnd (q_Mo_readPart g5) fun r11 g9 => some (r11, g9)) else (bnd (q_Mo_openBracket (31 : Int32) g5) fun _ g12 => some ((0 : Int32), g12))) else (bnd (q_Mo_push (28 : Int32) (0 : Int32) g1) fun _ g14 => bnd (q_Mo_next g14) fun _ g16 => some ((0 : Int32), g16))
theorem tm214 {d : Nat} (hd : 5 ≤ d) {g : hG} (hF : Frz g) : TM wI d 214 [.ref 367] g (q_Mo_readPlain g) := by
  obtain ⟨e, rfl⟩ : ∃ e, d = e + 1 := ⟨d - 1, by omega⟩
  have he := hd
  refine TM.ofE e214_0 (lv := [some (.ref 367)]) rfl ?_
  unfold q_Mo_readPlain
  refine tr_ldA rfl (tr_pushL (?_))
  refine tr_invVI rfl rfl (fk_367 hF) (Nat.le_of_ble_eq_true rfl) (by decide) (Nat.le_of_ble_eq_true rfl) (tm198 hF) (fun r3 g1 _ hF2 => ?_)
  refine tr_if0j e214_12 (c_eq _ _) (fun hc4 => ?_) (fun hc4 => ?_)
  · refine tr_ldA rfl (tr_pushI (?_))
    refine tr_invVI rfl rfl (fk_367 hF2) (Nat.le_of_ble_eq_true rfl) (by decide) (Nat.le_of_ble_eq_true rfl) (tm199 hF2) (fun r7 g5 _ hF6 => ?_)
    refine tr_if0j e214_21 (c_eq _ _) (fun hc8 => ?_) (fun hc8 => ?_)
    · refine tr_ldA rfl (?_)
      refine tr_invVI rfl rfl (fk_367 hF6) (Nat.le_of_ble_eq_true rfl) (by decide) (Nat.le_of_ble_eq_true rfl) (tm213 (by omega) hF6) (fun r11 g9 _ hF10 => ?_)
      exact tr_retI hF10
    · refine tr_ldA rfl (tr_pushI (?_))
      refine tr_invVU rfl rfl (fk_367 hF6) (Nat.le_of_ble_eq_true rfl) (by decide) (Nat.le_of_ble_eq_true rfl) (tm211 (by omega) hF6) (fun _ g12 _ hF13 => ?_)
      refine tr_pushI (?_)
      exact tr_retI hF13
  · refine tr_ldA rfl (tr_pushI (tr_pushI (?_)))
    refine tr_invVU rfl rfl (fk_367 hF2) (Nat.le_of_ble_eq_true rfl) (by decide) (Nat.le_of_ble_eq_true rfl) (tm204 hF2) (fun _ g14 _ hF15 => ?_)
    refine tr_ldA rfl (?_)
    refine tr_invVU rfl rfl (fk_367 hF15) (Nat.le_of_ble_eq_true rfl) (by decide) (Nat.le_of_ble_eq_true rfl) (tm197 (by omega) hF15) (fun _ g16 _ hF17 => ?_)
    refine tr_pushI (?_)
    exact tr_retI hF17
