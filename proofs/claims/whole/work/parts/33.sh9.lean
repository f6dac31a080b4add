-- Mo_meeting
abbrev t249_39 : List hOp := oLdI 3 :: oRetI :: []
abbrev t249_36 : List hOp := oStI 3 :: oInc 4 (-1) :: oGoto 19 :: t249_39
abbrev t249_35 : List hOp := oLdI 3 :: t249_36
abbrev t249_19 : List hOp := oLdI 4 :: oIf0 cLt 39 :: oLdA 0 :: oLdI 2 :: oInvV 248 12 1 :: oLdA 0 :: oLdI 1 :: oLdI 4 :: oInvV 244 12 2 :: oInvS 166 2 :: oIf0 cEq 35 :: oLdA 0 :: oLdI 1 :: oLdI 4 :: oInvV 244 12 2 :: oGoto 36 :: t249_35
abbrev t249_11 : List hOp := oLdA 0 :: oInvV 230 12 0 :: oPushI (-1) :: oStI 3 :: oLdA 0 :: oLdI 1 :: oInvV 243 12 1 :: oStI 4 :: t249_19
abbrev t249_9 : List hOp := oPushI (-1) :: oRetI :: t249_11
abbrev t249_0 : List hOp := oLdA 0 :: oPushI 0 :: oPutI 12 0 :: oLdI 1 :: oInvS 178 1 :: oIf0 cEq 9 :: oLdI 2 :: oInvS 178 1 :: oIf0 cNe 11 :: t249_9
theorem e249_0 : (opsOf 249).drop 0 = t249_0 := rfl
theorem e249_9 : (opsOf 249).drop 9 = t249_9 := rfl
theorem e249_11 : (opsOf 249).drop 11 = t249_11 := rfl
theorem e249_19 : (opsOf 249).drop 19 = t249_19 := rfl
theorem e249_35 : (opsOf 249).drop 35 = t249_35 := rfl
theorem e249_36 : (opsOf 249).drop 36 = t249_36 := rfl
theorem e249_39 : (opsOf 249).drop 39 = t249_39 := rfl
def q_Mo_meeting_19 (v1 : Int32) (v2 : Int32) (k39 : Int32 → hG → hO Int32) (k19 : Int32 → Int32 → hG → hO Int32) (v3 : Int32) (v4 : Int32) (g : hG) : hO Int32 :=
  if v4 < (0 : Int32) then (k39 v3 g) else (bnd (q_Mo_cellsOf v2 g) fun r19 g17 => bnd (q_Mo_behind v1 v4 g17) fun r22 g20 => bnd (q_Mo_is r19 r22 g20) fun r25 g23 => if r25 = (0 : Int32) then (k19 v3 (v4 + (-1 : Int32)) g23) else (bnd (q_Mo_behind v1 v4 g23) fun r29 g27 => k19 r29 (v4 + (-1 : Int32)) g27))
def q_Mo_meeting_19L (v1 : Int32) (v2 : Int32) (k39 : Int32 → hG → hO Int32) : Nat → Int32 → Int32 → hG → hO Int32
  | 0 => fun _ _ _ => none
  | n + 1 => fun v3 v4 g => q_Mo_meeting_19 v1 v2 k39 (q_Mo_meeting_19L v1 v2 k39 n) v3 v4 g
theorem q_Mo_meeting_19L_s (v1 : Int32) (v2 : Int32) (k39 : Int32 → hG → hO Int32) (n : Nat) (v3 : Int32) (v4 : Int32) (g : hG) : q_Mo_meeting_19L v1 v2 k39 (n + 1) v3 v4 g = q_Mo_meeting_19 v1 v2 k39 (q_Mo_meeting_19L v1 v2 k39 n) v3 v4 g := rfl
theorem th249_19 {e : Nat} (he : 6 ≤ e + 1) {v1 : Int32} {v2 : Int32} {k39 : Int32 → hG → hO Int32} {k19 : Int32 → Int32 → hG → hO Int32} {v3 : Int32} {v4 : Int32} (hk39 : ∀ (x3 : Int32) (y4 : Option Value) (g : hG), Frz g → Tri wI (e + 1) 249 t249_39 [some (.ref 367), some (.int v1), some (.int v2), some (.int x3), y4] [] g (k39 x3 g)) (hk19 : ∀ (x3 : Int32) (x4 : Int32) (g : hG), Frz g → Tri wI (e + 1) 249 t249_19 [some (.ref 367), some (.int v1), some (.int v2), some (.int x3), some (.int x4)] [] g (k19 x3 x4 g)) {g : hG} (hF : Frz g) : Tri wI (e + 1) 249 t249_19 [some (.ref 367), some (.int v1), some (.int v2), some (.int v3), some (.int v4)] [] g (q_Mo_meeting_19 v1 v2 k39 k19 v3 v4 g) := by
  unfold q_Mo_meeting_19
  refine tr_ldI rfl (?_)
  refine tr_if0j e249_39 (c_lt _ _) (fun hc16 => ?_) (fun hc16 => ?_)
  · exact hk39 _ _ _ hF
  · refine tr_ldA rfl (tr_ldI rfl (?_))
    refine tr_invVI rfl rfl (fk_367 hF) (Nat.le_of_ble_eq_true rfl) (by decide) (Nat.le_of_ble_eq_true rfl) (tm248 (by omega) hF) (fun r19 g17 _ hF18 => ?_)
    refine tr_ldA rfl (tr_ldI rfl (tr_ldI rfl (?_)))
    refine tr_invVI rfl rfl (fk_367 hF18) (Nat.le_of_ble_eq_true rfl) (by decide) (Nat.le_of_ble_eq_true rfl) (tm244 hF18) (fun r22 g20 _ hF21 => ?_)
    refine tr_invSI rfl rfl (Nat.le_of_ble_eq_true rfl) (Nat.le_of_ble_eq_true rfl) (by decide) (Nat.le_of_ble_eq_true rfl) (tm166 hF21) (fun r25 g23 _ hF24 => ?_)
    refine tr_if0j e249_35 (c_eq _ _) (fun hc26 => ?_) (fun hc26 => ?_)
    · refine tr_ldI rfl (tr_stI (Nat.le_of_ble_eq_true rfl) rfl rfl (tr_inc rfl rfl rfl (?_)))
      refine tr_gotoE e249_19 (?_)
      exact hk19 _ _ _ hF24
    · refine tr_ldA rfl (tr_ldI rfl (tr_ldI rfl (?_)))
      refine tr_invVI rfl rfl (fk_367 hF24) (Nat.le_of_ble_eq_true rfl) (by decide) (Nat.le_of_ble_eq_true rfl) (tm244 hF24) (fun r29 g27 _ hF28 => ?_)
      refine tr_gotoE e249_36 (?_)
      refine tr_stI (Nat.le_of_ble_eq_true rfl) rfl rfl (tr_inc rfl rfl rfl (?_))
      refine tr_gotoE e249_19 (?_)
      exact hk19 _ _ _ hF28
theorem th249_19L {e : Nat} (he : 6 ≤ e + 1) {v1 : Int32} {v2 : Int32} {k39 : Int32 → hG → hO Int32} (hk39 : ∀ (x3 : Int32) (y4 : Option Value) (g : hG), Frz g → Tri wI (e + 1) 249 t249_39 [some (.ref 367), some (.int v1), some (.int v2), some (.int x3), y4] [] g (k39 x3 g)) : ∀ (n : Nat) (v3 : Int32) (v4 : Int32) (g : hG), Frz g → Tri wI (e + 1) 249 t249_19 [some (.ref 367), some (.int v1), some (.int v2), some (.int v3), some (.int v4)] [] g (q_Mo_meeting_19L v1 v2 k39 n v3 v4 g)
  | 0 => fun _ _ _ _ => Tri.none_
  | n + 1 => fun _ _ g hF => th249_19 he hk39 (th249_19L he hk39 n) hF
def q_Mo_meeting (v1 : Int32) (v2 : Int32) (g : hG) : hO Int32 :=
  wr (sI g 367 0 (0 : Int32)) fun g1 => bnd (q_Mo_isCell v1 g1) fun r5 g3 => if r5 = (0 : Int32) then (some ((-1 : Int32), g3)) else (bnd (q_Mo_isCell v2 g3) fun r9 g7 => if r9 = (0 : Int32) then (some ((-1 : Int32), g7)) else (bnd (q_Mo_layRuns g7) fun _ g11 => bnd (q_Mo_hoursOf v1 g11) fun r15 g13 => q_Mo_meeting_19L v1 v2 (fun x30 g32 => some (x30, g32)) FU (-1 : Int32) r15 g13))
theorem tm249 {d : Nat} {v1 : Int32} {v2 : Int32} (hd : 6 ≤ d) {g : hG} (hF : Frz g) : TM wI d 249 [.ref 367, .int v1, .int v2] g (q_Mo_meeting v1 v2 g) := by
  obtain ⟨e, rfl⟩ : ∃ e, d = e + 1 := ⟨d - 1, by omega⟩
  have he := hd
  refine TM.ofE e249_0 (lv := [some (.ref 367), some (.int v1), some (.int v2), none, none]) rfl ?_
  unfold q_Mo_meeting
  refine tr_ldA rfl (tr_pushI (tr_putI hF (fk_367 hF) (fun g1 _ hF2 => tr_ldI rfl (?_))))
  refine tr_invSI rfl rfl (Nat.le_of_ble_eq_true rfl) (Nat.le_of_ble_eq_true rfl) (by decide) (Nat.le_of_ble_eq_true rfl) (tm178 (by omega) hF2) (fun r5 g3 _ hF4 => ?_)
  refine tr_if0j e249_9 (c_eq _ _) (fun hc6 => ?_) (fun hc6 => ?_)
  · refine tr_pushI (?_)
    exact tr_retI hF4
  · refine tr_ldI rfl (?_)
    refine tr_invSI rfl rfl (Nat.le_of_ble_eq_true rfl) (Nat.le_of_ble_eq_true rfl) (by decide) (Nat.le_of_ble_eq_true rfl) (tm178 (by omega) hF4) (fun r9 g7 _ hF8 => ?_)
    refine tr_if0n e249_11 (c_ne _ _) (fun hc10 => ?_) (fun hc10 => ?_)
    · refine tr_ldA rfl (?_)
      refine tr_invVU rfl rfl (fk_367 hF8) (Nat.le_of_ble_eq_true rfl) (by decide) (Nat.le_of_ble_eq_true rfl) (tm230 (by omega) hF8) (fun _ g11 _ hF12 => ?_)
      refine tr_pushI (tr_stI (Nat.le_of_ble_eq_true rfl) rfl rfl (tr_ldA rfl (tr_ldI rfl (?_))))
      refine tr_invVI rfl rfl (fk_367 hF12) (Nat.le_of_ble_eq_true rfl) (by decide) (Nat.le_of_ble_eq_true rfl) (tm243 hF12) (fun r15 g13 _ hF14 => ?_)
      refine tr_stI (Nat.le_of_ble_eq_true rfl) rfl rfl (?_)
      refine th249_19L he (fun x30 y31 g32 hF33 => ?_) FU _ _ _ hF14
      · refine tr_ldI rfl (?_)
        exact tr_retI hF33
    · refine tr_pushI (?_)
      exact tr_retI hF8
-- Mo_liesBehind
abbrev t250_17 : List hOp := oRetI :: []
abbrev t250_13 : List hOp := oLdA 0 :: oLdI 1 :: oLdI 2 :: oInvV 244 12 2 :: t250_17
abbrev t250_0 : List hOp := oLdI 2 :: oLdA 0 :: oLdI 1 :: oInvV 243 12 1 :: oIf cLe 13 :: oLdA 0 :: oLdA 0 :: oLdI 1 :: oInvV 245 12 1 :: oInvV 180 12 1 :: oIf0 cEq 13 :: oPushI (-1) :: oGoto 17 :: t250_13
theorem e250_0 : (opsOf 250).drop 0 = t250_0 := rfl
theorem e250_13 : (opsOf 250).drop 13 = t250_13 := rfl
theorem e250_17 : (opsOf 250).drop 17 = t250_17 := rfl
def q_Mo_liesBehind_13 (v1 : Int32) (v2 : Int32) (g : hG) : hO Int32 :=
  bnd (q_Mo_behind v1 v2 g) fun r7 g5 => some (r7, g5)
theorem th250_13 {e : Nat} (he : 2 ≤ e + 1) {v1 : Int32} {v2 : Int32} {g : hG} (hF : Frz g) : Tri wI (e + 1) 250 t250_13 [some (.ref 367), some (.int v1), some (.int v2)] [] g (q_Mo_liesBehind_13 v1 v2 g) := by
  unfold q_Mo_liesBehind_13
  refine tr_ldA rfl (tr_ldI rfl (tr_ldI rfl (?_)))
  refine tr_invVI rfl rfl (fk_367 hF) (Nat.le_of_ble_eq_true rfl) (by decide) (Nat.le_of_ble_eq_true rfl) (tm244 hF) (fun r7 g5 _ hF6 => ?_)
  exact tr_retI hF6
def q_Mo_liesBehind (v1 : Int32) (v2 : Int32) (g : hG) : hO Int32 :=
  bnd (q_Mo_hoursOf v1 g) fun r3 g1 => if v2 ≤ r3 then (q_Mo_liesBehind_13 v1 v2 g1) else (bnd (q_Mo_endOf v1 g1) fun r10 g8 => bnd (q_Mo_hasDoor r10 g8) fun r13 g11 => if r13 = (0 : Int32) then (q_Mo_liesBehind_13 v1 v2 g11) else (some ((-1 : Int32), g11)))
theorem tm250 {d : Nat} {v1 : Int32} {v2 : Int32} (hd : 2 ≤ d) {g : hG} (hF : Frz g) : TM wI d 250 [.ref 367, .int v1, .int v2] g (q_Mo_liesBehind v1 v2 g) := by
  obtain ⟨e, rfl⟩ : ∃ e, d = e + 1 := ⟨d - 1, by omega⟩
  have he := hd
  refine TM.ofE e250_0 (lv := [some (.ref 367), some (.int v1), some (.int v2)]) rfl ?_
  unfold q_Mo_liesBehind
  refine tr_ldI rfl (tr_ldA rfl (tr_ldI rfl (?_)))
  refine tr_invVI rfl rfl (fk_367 hF) (Nat.le_of_ble_eq_true rfl) (by decide) (Nat.le_of_ble_eq_true rfl) (tm243 hF) (fun r3 g1 _ hF2 => ?_)
  refine tr_ifj e250_13 (c_le _ _) (fun hc4 => ?_) (fun hc4 => ?_)
  · exact th250_13 he hF2
  · refine tr_ldA rfl (tr_ldA rfl (tr_ldI rfl (?_)))
    refine tr_invVI rfl rfl (fk_367 hF2) (Nat.le_of_ble_eq_true rfl) (by decide) (Nat.le_of_ble_eq_true rfl) (tm245 (by omega) hF2) (fun r10 g8 _ hF9 => ?_)
    refine tr_invVI rfl rfl (fk_367 hF9) (Nat.le_of_ble_eq_true rfl) (by decide) (Nat.le_of_ble_eq_true rfl) (tm180 (by omega) hF9) (fun r13 g11 _ hF12 => ?_)
    refine tr_if0j e250_13 (c_eq _ _) (fun hc14 => ?_) (fun hc14 => ?_)
    · exact th250_13 he hF12
    · refine tr_pushI (?_)
      refine tr_gotoE e250_17 (?_)
      exact tr_retI hF12
-- Mo_clash
abbrev t251_31 : List hOp := oLdI 4 :: oRetZ :: []
abbrev t251_28 : List hOp := oStI 4 :: oInc 5 1 :: oGoto 4 :: t251_31
abbrev t251_27 : List hOp := oPushI 0 :: t251_28
abbrev t251_25 : List hOp := oPushI 1 :: oGoto 28 :: t251_27
abbrev t251_4 : List hOp := oLdI 5 :: oPushI 100 :: oIf cGe 31 :: oLdA 0 :: oLdI 1 :: oLdI 5 :: oLdI 3 :: oBin (fun x y => x + y) :: oInvV 250 12 2 :: oStI 6 :: oLdI 4 :: oIf0 cNe 25 :: oLdI 6 :: oPushI (-1) :: oIf cEq 27 :: oLdI 6 :: oLdA 0 :: oLdI 2 :: oLdI 5 :: oInvV 250 12 2 :: oIf cNe 27 :: t251_25
abbrev t251_0 : List hOp := oPushI 0 :: oStI 4 :: oPushI 0 :: oStI 5 :: t251_4
theorem e251_0 : (opsOf 251).drop 0 = t251_0 := rfl
theorem e251_4 : (opsOf 251).drop 4 = t251_4 := rfl
theorem e251_25 : (opsOf 251).drop 25 = t251_25 := rfl
theorem e251_27 : (opsOf 251).drop 27 = t251_27 := rfl
theorem e251_28 : (opsOf 251).drop 28 = t251_28 := rfl
theorem e251_31 : (opsOf 251).drop 31 = t251_31 := rfl
def q_Mo_clash_4 (v1 : Int32) (v2 : Int32) (v3 : Int32) (k31 : Int32 → hG → hO Int32) (k4 : Int32 → Int32 → hG → hO Int32) (v4 : Int32) (v5 : Int32) (g : hG) : hO Int32 :=
  if (100 : Int32) ≤ v5 then (k31 v4 g) else (bnd (q_Mo_liesBehind v1 (v5 + v3) g) fun r4 g2 => if v4 = (0 : Int32) then (if r4 = (-1 : Int32) then (k4 (0 : Int32) (v5 + (1 : Int32)) g2) else (bnd (q_Mo_liesBehind v2 v5 g2) fun r9 g7 => if r4 = r9 then (k4 (1 : Int32) (v5 + (1 : Int32)) g7) else (k4 (0 : Int32) (v5 + (1 : Int32)) g7))) else (k4 (1 : Int32) (v5 + (1 : Int32)) g2))
def q_Mo_clash_4L (v1 : Int32) (v2 : Int32) (v3 : Int32) (k31 : Int32 → hG → hO Int32) : Nat → Int32 → Int32 → hG → hO Int32
  | 0 => fun _ _ _ => none
  | n + 1 => fun v4 v5 g => q_Mo_clash_4 v1 v2 v3 k31 (q_Mo_clash_4L v1 v2 v3 k31 n) v4 v5 g
theorem q_Mo_clash_4L_s (v1 : Int32) (v2 : Int32) (v3 : Int32) (k31 : Int32 → hG → hO Int32) (n : Nat) (v4 : Int32) (v5 : Int32) (g : hG) : q_Mo_clash_4L v1 v2 v3 k31 (n + 1) v4 v5 g = q_Mo_clash_4 v1 v2 v3 k31 (q_Mo_clash_4L v1 v2 v3 k31 n) v4 v5 g := rfl
theorem th251_4 {e : Nat} (he : 3 ≤ e + 1) {v1 : Int32} {v2 : Int32} {v3 : Int32} {k31 : Int32 → hG → hO Int32} {k4 : Int32 → Int32 → hG → hO Int32} {v4 : Int32} {v5 : Int32} {u6 : Option Value} (hk31 : ∀ (x4 : Int32) (y5 : Option Value) (y6 : Option Value) (_ : isL (some y5) = false) (g : hG), Frz g → Tri wI (e + 1) 251 t251_31 [some (.ref 367), some (.int v1), some (.int v2), some (.int v3), some (.int x4), y5, y6] [] g (k31 x4 g)) (hk4 : ∀ (x4 : Int32) (x5 : Int32) (y6 : Option Value) (g : hG), Frz g → Tri wI (e + 1) 251 t251_4 [some (.ref 367), some (.int v1), some (.int v2), some (.int v3), some (.int x4), some (.int x5), y6] [] g (k4 x4 x5 g)) {g : hG} (hF : Frz g) : Tri wI (e + 1) 251 t251_4 [some (.ref 367), some (.int v1), some (.int v2), some (.int v3), some (.int v4), some (.int v5), u6] [] g (q_Mo_clash_4 v1 v2 v3 k31 k4 v4 v5 g) := by
  unfold q_Mo_clash_4
  refine tr_ldI rfl (tr_pushI (?_))
  refine tr_ifj e251_31 (c_ge _ _) (fun hc1 => ?_) (fun hc1 => ?_)
  · exact hk31 _ _ _ rfl _ hF
  · refine tr_ldA rfl (tr_ldI rfl (tr_ldI rfl (tr_ldI rfl (tr_bin (v := (v5 + v3)) rfl (?_)))))
    refine tr_invVI rfl rfl (fk_367 hF) (Nat.le_of_ble_eq_true rfl) (by decide) (Nat.le_of_ble_eq_true rfl) (tm250 (by omega) hF) (fun r4 g2 _ hF3 => ?_)
    refine tr_stI (Nat.le_of_ble_eq_true rfl) rfl rfl (tr_ldI rfl (?_))
    refine tr_if0n e251_25 (c_ne _ _) (fun hc5 => ?_) (fun hc5 => ?_)
    · refine tr_pushI (?_)
      refine tr_gotoE e251_28 (?_)
      refine tr_stI (Nat.le_of_ble_eq_true rfl) rfl rfl (tr_inc rfl rfl rfl (?_))
      refine tr_gotoE e251_4 (?_)
      exact hk4 _ _ _ _ hF3
    · refine tr_ldI rfl (tr_pushI (?_))
      refine tr_ifj e251_27 (c_eq _ _) (fun hc6 => ?_) (fun hc6 => ?_)
      · refine tr_pushI (tr_stI (Nat.le_of_ble_eq_true rfl) rfl rfl (tr_inc rfl rfl rfl (?_)))
        refine tr_gotoE e251_4 (?_)
        exact hk4 _ _ _ _ hF3
      · refine tr_ldI rfl (tr_ldA rfl (tr_ldI rfl (tr_ldI rfl (?_))))
        refine tr_invVI rfl rfl (fk_367 hF3) (Nat.le_of_ble_eq_true rfl) (by decide) (Nat.le_of_ble_eq_true rfl) (tm250 (by omega) hF3) (fun r9 g7 _ hF8 => ?_)
        refine tr_ifn e251_27 (c_ne _ _) (fun hc10 => ?_) (fun hc10 => ?_)
        · refine tr_pushI (tr_stI (Nat.le_of_ble_eq_true rfl) rfl rfl (tr_inc rfl rfl rfl (?_)))
          refine tr_gotoE e251_4 (?_)
          exact hk4 _ _ _ _ hF8
        · refine tr_pushI (?_)
          refine tr_gotoE e251_28 (?_)
          refine tr_stI (Nat.le_of_ble_eq_true rfl) rfl rfl (tr_inc rfl rfl rfl (?_))
          refine tr_gotoE e251_4 (?_)
          exact hk4 _ _ _ _ hF8
theorem th251_4L {e : Nat} (he : 3 ≤ e + 1) {v1 : Int32} {v2 : Int32} {v3 : Int32} {k31 : Int32 → hG → hO Int32} (hk31 : ∀ (x4 : Int32) (y5 : Option Value) (y6 : Option Value) (_ : isL (some y5) = false) (g : hG), Frz g → Tri wI (e + 1) 251 t251_31 [some (.ref 367), some (.int v1), some (.int v2), some (.int v3), some (.int x4), y5, y6] [] g (k31 x4 g)) : ∀ (n : Nat) (v4 : Int32) (v5 : Int32) (u6 : Option Value) (g : hG), Frz g → Tri wI (e + 1) 251 t251_4 [some (.ref 367), some (.int v1), some (.int v2), some (.int v3), some (.int v4), some (.int v5), u6] [] g (q_Mo_clash_4L v1 v2 v3 k31 n v4 v5 g)
  | 0 => fun _ _ _ _ _ => Tri.none_
  | n + 1 => fun _ _ _ g hF => th251_4 he hk31 (th251_4L he hk31 n) hF
def q_Mo_clash (v1 : Int32) (v2 : Int32) (v3 : Int32) (g : hG) : hO Int32 :=
  q_Mo_clash_4L v1 v2 v3 (fun x11 g14 => gb x11 (some (x11, g14))) FU (0 : Int32) (0 : Int32) g
theorem tm251 {d : Nat} {v1 : Int32} {v2 : Int32} {v3 : Int32} (hd : 3 ≤ d) {g : hG} (hF : Frz g) : TM wI d 251 [.ref 367, .int v1, .int v2, .int v3] g (q_Mo_clash v1 v2 v3 g) := by
  obtain ⟨e, rfl⟩ : ∃ e, d = e + 1 := ⟨d - 1, by omega⟩
  have he := hd
  refine TM.ofE e251_0 (lv := [some (.ref 367), some (.int v1), some (.int v2), some (.int v3), none, none, none]) rfl ?_
  unfold q_Mo_clash
  refine tr_pushI (tr_stI (Nat.le_of_ble_eq_true rfl) rfl rfl (tr_pushI (tr_stI (Nat.le_of_ble_eq_true rfl) rfl rfl (?_))))
  refine th251_4L he (fun x11 y12 y13 zy12 g14 hF15 => ?_) FU _ _ _ _ hF
  · refine tr_ldI rfl (?_)
    exact tr_retZ hF15
-- Mo_delay
abbrev t252_32 : List hOp := oRetI :: []
abbrev t252_31 : List hOp := oLdI 3 :: t252_32
abbrev t252_26 : List hOp := oLdI 3 :: oPushI 30 :: oIf cLe 31 :: oPushI (-1) :: oGoto 32 :: t252_31
abbrev t252_15 : List hOp := oLdI 3 :: oPushI 30 :: oIf cGt 26 :: oLdA 0 :: oLdI 1 :: oLdI 2 :: oLdI 3 :: oInvV 251 12 3 :: oIf0 cEq 26 :: oInc 3 1 :: oGoto 15 :: t252_26
abbrev t252_11 : List hOp := oLdA 0 :: oInvV 230 12 0 :: oPushI 0 :: oStI 3 :: t252_15
abbrev t252_9 : List hOp := oPushI (-1) :: oRetI :: t252_11
abbrev t252_0 : List hOp := oLdA 0 :: oPushI 0 :: oPutI 12 0 :: oLdI 1 :: oInvS 178 1 :: oIf0 cEq 9 :: oLdI 2 :: oInvS 178 1 :: oIf0 cNe 11 :: t252_9
theorem e252_0 : (opsOf 252).drop 0 = t252_0 := rfl
theorem e252_9 : (opsOf 252).drop 9 = t252_9 := rfl
theorem e252_11 : (opsOf 252).drop 11 = t252_11 := rfl
theorem e252_15 : (opsOf 252).drop 15 = t252_15 := rfl
theorem e252_26 : (opsOf 252).drop 26 = t252_26 := rfl
theorem e252_31 : (opsOf 252).drop 31 = t252_31 := rfl
theorem e252_32 : (opsOf 252).drop 32 = t252_32 := rfl
def q_Mo_delay_15 (v1 : Int32) (v2 : Int32) (k26 : Int32 → hG → hO Int32) (k15 : Int32 → hG → hO Int32) (v3 : Int32) (g : hG) : hO Int32 :=
  if (30 : Int32) < v3 then (k26 v3 g) else (bnd (q_Mo_clash v1 v2 v3 g) fun r16 g14 => if r16 = (0 : Int32) then (k26 v3 g14) else (k15 (v3 + (1 : Int32)) g14))
def q_Mo_delay_15L (v1 : Int32) (v2 : Int32) (k26 : Int32 → hG → hO Int32) : Nat → Int32 → hG → hO Int32
  | 0 => fun _ _ => none
  | n + 1 => fun v3 g => q_Mo_delay_15 v1 v2 k26 (q_Mo_delay_15L v1 v2 k26 n) v3 g
theorem q_Mo_delay_15L_s (v1 : Int32) (v2 : Int32) (k26 : Int32 → hG → hO Int32) (n : Nat) (v3 : Int32) (g : hG) : q_Mo_delay_15L v1 v2 k26 (n + 1) v3 g = q_Mo_delay_15 v1 v2 k26 (q_Mo_delay_15L v1 v2 k26 n) v3 g := rfl
theorem th252_15 {e : Nat} (he : 6 ≤ e + 1) {v1 : Int32} {v2 : Int32} {k26 : Int32 → hG → hO Int32} {k15 : Int32 → hG → hO Int32} {v3 : Int32} (hk26 : ∀ (x3 : Int32) (g : hG), Frz g → Tri wI (e + 1) 252 t252_26 [some (.ref 367), some (.int v1), some (.int v2), some (.int x3)] [] g (k26 x3 g)) (hk15 : ∀ (x3 : Int32) (g : hG), Frz g → Tri wI (e + 1) 252 t252_15 [some (.ref 367), some (.int v1), some (.int v2), some (.int x3)] [] g (k15 x3 g)) {g : hG} (hF : Frz g) : Tri wI (e + 1) 252 t252_15 [some (.ref 367), some (.int v1), some (.int v2), some (.int v3)] [] g (q_Mo_delay_15 v1 v2 k26 k15 v3 g) := by
  unfold q_Mo_delay_15
  refine tr_ldI rfl (tr_pushI (?_))
  refine tr_ifj e252_26 (c_gt _ _) (fun hc13 => ?_) (fun hc13 => ?_)
  · exact hk26 _ _ hF
  · refine tr_ldA rfl (tr_ldI rfl (tr_ldI rfl (tr_ldI rfl (?_))))
    refine tr_invVI rfl rfl (fk_367 hF) (Nat.le_of_ble_eq_true rfl) (by decide) (Nat.le_of_ble_eq_true rfl) (tm251 (by omega) hF) (fun r16 g14 _ hF15 => ?_)
    refine tr_if0j e252_26 (c_eq _ _) (fun hc17 => ?_) (fun hc17 => ?_)
    · exact hk26 _ _ hF15
    · refine tr_inc rfl rfl rfl (?_)
      refine tr_gotoE e252_15 (?_)
      exact hk15 _ _ hF15
theorem th252_15L {e : Nat} (he : 6 ≤ e + 1) {v1 : Int32} {v2 : Int32} {k26 : Int32 → hG → hO Int32} (hk26 : ∀ (x3 : Int32) (g : hG), Frz g → Tri wI (e + 1) 252 t252_26 [some (.ref 367), some (.int v1), some (.int v2), some (.int x3)] [] g (k26 x3 g)) : ∀ (n : Nat) (v3 : Int32) (g : hG), Frz g → Tri wI (e + 1) 252 t252_15 [some (.ref 367), some (.int v1), some (.int v2), some (.int v3)] [] g (q_Mo_delay_15L v1 v2 k26 n v3 g)
  | 0 => fun _ _ _ => Tri.none_
  | n + 1 => fun _ g hF => th252_15 he hk26 (th252_15L he hk26 n) hF
def q_Mo_delay_26 (v3 : Int32) (g : hG) : hO Int32 :=
  if v3 ≤ (30 : Int32) then (some (v3, g)) else (some ((-1 : Int32), g))
theorem th252_26 {e : Nat} (he : 6 ≤ e + 1) {v3 : Int32} {u1 : Option Value} {u2 : Option Value} (hu2 : isL (some u2) = false) {g : hG} (hF : Frz g) : Tri wI (e + 1) 252 t252_26 [some (.ref 367), u1, u2, some (.int v3)] [] g (q_Mo_delay_26 v3 g) := by
  unfold q_Mo_delay_26
  refine tr_ldI rfl (tr_pushI (?_))
  refine tr_ifj e252_31 (c_le _ _) (fun hc21 => ?_) (fun hc21 => ?_)
  · refine tr_ldI rfl (?_)
    exact tr_retI hF
  · refine tr_pushI (?_)
    refine tr_gotoE e252_32 (?_)
    exact tr_retI hF
def q_Mo_delay (v1 : Int32) (v2 : Int32) (g : hG) : hO Int32 :=
  wr (sI g 367 0 (0 : Int32)) fun g1 => bnd (q_Mo_isCell v1 g1) fun r5 g3 => if r5 = (0 : Int32) then (some ((-1 : Int32), g3)) else (bnd (q_Mo_isCell v2 g3) fun r9 g7 => if r9 = (0 : Int32) then (some ((-1 : Int32), g7)) else (bnd (q_Mo_layRuns g7) fun _ g11 => q_Mo_delay_15L v1 v2 (fun x18 g19 => q_Mo_delay_26 x18 g19) FU (0 : Int32) g11))
theorem tm252 {d : Nat} {v1 : Int32} {v2 : Int32} (hd : 6 ≤ d) {g : hG} (hF : Frz g) : TM wI d 252 [.ref 367, .int v1, .int v2] g (q_Mo_delay v1 v2 g) := by
  obtain ⟨e, rfl⟩ : ∃ e, d = e + 1 := ⟨d - 1, by omega⟩
  have he := hd
  refine TM.ofE e252_0 (lv := [some (.ref 367), some (.int v1), some (.int v2), none]) rfl ?_
  unfold q_Mo_delay
  refine tr_ldA rfl (tr_pushI (tr_putI hF (fk_367 hF) (fun g1 _ hF2 => tr_ldI rfl (?_))))
  refine tr_invSI rfl rfl (Nat.le_of_ble_eq_true rfl) (Nat.le_of_ble_eq_true rfl) (by decide) (Nat.le_of_ble_eq_true rfl) (tm178 (by omega) hF2) (fun r5 g3 _ hF4 => ?_)
  refine tr_if0j e252_9 (c_eq _ _) (fun hc6 => ?_) (fun hc6 => ?_)
  · refine tr_pushI (?_)
    exact tr_retI hF4
  · refine tr_ldI rfl (?_)
    refine tr_invSI rfl rfl (Nat.le_of_ble_eq_true rfl) (Nat.le_of_ble_eq_true rfl) (by decide) (Nat.le_of_ble_eq_true rfl) (tm178 (by omega) hF4) (fun r9 g7 _ hF8 => ?_)
    refine tr_if0n e252_11 (c_ne _ _) (fun hc10 => ?_) (fun hc10 => ?_)
    · refine tr_ldA rfl (?_)
      refine tr_invVU rfl rfl (fk_367 hF8) (Nat.le_of_ble_eq_true rfl) (by decide) (Nat.le_of_ble_eq_true rfl) (tm230 (by omega) hF8) (fun _ g11 _ hF12 => ?_)
      refine tr_pushI (tr_stI (Nat.le_of_ble_eq_true rfl) rfl rfl (?_))
      refine th252_15L he (fun x18 g19 hF20 => ?_) FU _ _ hF12
      · exact th252_26 he rfl hF20
    · refine tr_pushI (?_)
      exact tr_retI hF8
-- Mo_kindsAhead
abbrev t254_24 : List hOp := oLdI 2 :: oRetI :: []
abbrev t254_21 : List hOp := oStI 2 :: oInc 3 1 :: oGoto 4 :: t254_24
abbrev t254_20 : List hOp := oLdI 2 :: t254_21
abbrev t254_4 : List hOp := oLdI 3 :: oLdI 1 :: oIf cGe 24 :: oLdA 0 :: oGetP 12 44 :: oLdI 3 :: oALdI 13 :: oLdI 2 :: oIf cLt 20 :: oLdA 0 :: oGetP 12 44 :: oLdI 3 :: oALdI 13 :: oPushI 1 :: oBin (fun x y => x + y) :: oGoto 21 :: t254_20
abbrev t254_0 : List hOp := oPushI 0 :: oStI 2 :: oPushI 0 :: oStI 3 :: t254_4
theorem e254_0 : (opsOf 254).drop 0 = t254_0 := rfl
theorem e254_4 : (opsOf 254).drop 4 = t254_4 := rfl
theorem e254_20 : (opsOf 254).drop 20 = t254_20 := rfl
theorem e254_21 : (opsOf 254).drop 21 = t254_21 := rfl
theorem e254_24 : (opsOf 254).drop 24 = t254_24 := rfl
def q_Mo_kindsAhead_4 (v1 : Int32) (k24 : Int32 → hG → hO Int32) (k4 : Int32 → Int32 → hG → hO Int32) (v2 : Int32) (v3 : Int32) (g : hG) : hO Int32 :=
  if v1 ≤ v3 then (k24 v2 g) else (gd v3 9 <| if (gI g 391 v3.toNatClampNeg) < v2 then (k4 v2 (v3 + (1 : Int32)) g) else (gd v3 9 <| k4 ((gI g 391 v3.toNatClampNeg) + (1 : Int32)) (v3 + (1 : Int32)) g))
def q_Mo_kindsAhead_4L (v1 : Int32) (k24 : Int32 → hG → hO Int32) : Nat → Int32 → Int32 → hG → hO Int32
  | 0 => fun _ _ _ => none
  | n + 1 => fun v2 v3 g => q_Mo_kindsAhead_4 v1 k24 (q_Mo_kindsAhead_4L v1 k24 n) v2 v3 g
theorem q_Mo_kindsAhead_4L_s (v1 : Int32) (k24 : Int32 → hG → hO Int32) (n : Nat) (v2 : Int32) (v3 : Int32) (g : hG) : q_Mo_kindsAhead_4L v1 k24 (n + 1) v2 v3 g = q_Mo_kindsAhead_4 v1 k24 (q_Mo_kindsAhead_4L v1 k24 n) v2 v3 g := rfl
theorem th254_4 {d : Nat} {v1 : Int32} {k24 : Int32 → hG → hO Int32} {k4 : Int32 → Int32 → hG → hO Int32} {v2 : Int32} {v3 : Int32} (hk24 : ∀ (x2 : Int32) (y3 : Option Value) (g : hG), Frz g → Tri wI d 254 t254_24 [some (.ref 367), some (.int v1), some (.int x2), y3] [] g (k24 x2 g)) (hk4 : ∀ (x2 : Int32) (x3 : Int32) (g : hG), Frz g → Tri wI d 254 t254_4 [some (.ref 367), some (.int v1), some (.int x2), some (.int x3)] [] g (k4 x2 x3 g)) {g : hG} (hF : Frz g) : Tri wI d 254 t254_4 [some (.ref 367), some (.int v1), some (.int v2), some (.int v3)] [] g (q_Mo_kindsAhead_4 v1 k24 k4 v2 v3 g) := by
  unfold q_Mo_kindsAhead_4
  refine tr_ldI rfl (tr_ldI rfl (?_))
  refine tr_ifj e254_24 (c_ge _ _) (fun hc1 => ?_) (fun hc1 => ?_)
  · exact hk24 _ _ _ hF
  · refine tr_ldA rfl (tr_getP (b := 391) (fk_367 hF) (fp_367_44 hF) (tr_ldI rfl (tr_aldI (fk_391 hF) (fl_391 hF) (fun _ => tr_ldI rfl (?_)))))
    refine tr_ifj e254_20 (c_lt _ _) (fun hc2 => ?_) (fun hc2 => ?_)
    · refine tr_ldI rfl (tr_stI (Nat.le_of_ble_eq_true rfl) rfl rfl (tr_inc rfl rfl rfl (?_)))
      refine tr_gotoE e254_4 (?_)
      exact hk4 _ _ _ hF
    · refine tr_ldA rfl (tr_getP (b := 391) (fk_367 hF) (fp_367_44 hF) (tr_ldI rfl (tr_aldI (fk_391 hF) (fl_391 hF) (fun _ => tr_pushI (tr_bin (v := ((gI g 391 v3.toNatClampNeg) + (1 : Int32))) rfl (?_))))))
      refine tr_gotoE e254_21 (?_)
      refine tr_stI (Nat.le_of_ble_eq_true rfl) rfl rfl (tr_inc rfl rfl rfl (?_))
      refine tr_gotoE e254_4 (?_)
      exact hk4 _ _ _ hF
theorem th254_4L {d : Nat} {v1 : Int32} {k24 : Int32 → hG → hO Int32} (hk24 : ∀ (x2 : Int32) (y3 : Option Value) (g : hG), Frz g → Tri wI d 254 t254_24 [some (.ref 367), some (.int v1), some (.int x2), y3] [] g (k24 x2 g)) : ∀ (n : Nat) (v2 : Int32) (v3 : Int32) (g : hG), Frz g → Tri wI d 254 t254_4 [some (.ref 367), some (.int v1), some (.int v2), some (.int v3)] [] g (q_Mo_kindsAhead_4L v1 k24 n v2 v3 g)
  | 0 => fun _ _ _ _ => Tri.none_
  | n + 1 => fun _ _ g hF => th254_4 hk24 (th254_4L hk24 n) hF
def q_Mo_kindsAhead (v1 : Int32) (g : hG) : hO Int32 :=
  q_Mo_kindsAhead_4L v1 (fun x3 g5 => some (x3, g5)) FU (0 : Int32) (0 : Int32) g
theorem tm254 {d : Nat} {v1 : Int32} {g : hG} (hF : Frz g) : TM wI d 254 [.ref 367, .int v1] g (q_Mo_kindsAhead v1 g) := by
  refine TM.ofE e254_0 (lv := [some (.ref 367), some (.int v1), none, none]) rfl ?_
  unfold q_Mo_kindsAhead
  refine tr_pushI (tr_stI (Nat.le_of_ble_eq_true rfl) rfl rfl (tr_pushI (tr_stI (Nat.le_of_ble_eq_true rfl) rfl rfl (?_))))
  refine th254_4L (fun x3 y4 g5 hF6 => ?_) FU _ _ _ hF
  · refine tr_ldI rfl (?_)
    exact tr_retI hF6
-- Mo_fitsKind
abbrev t253_33 : List hOp := oLdI 2 :: oRetZ :: []
abbrev t253_30 : List hOp := oStI 2 :: oInc 3 1 :: oGoto 4 :: t253_33
abbrev t253_29 : List hOp := oPushI 0 :: t253_30
abbrev t253_27 : List hOp := oPushI 1 :: oGoto 30 :: t253_29
abbrev t253_4 : List hOp := oLdI 3 :: oLdI 1 :: oIf cGe 33 :: oLdI 2 :: oIf0 cEq 29 :: oLdA 0 :: oGetP 12 44 :: oLdI 3 :: oALdI 13 :: oLdA 0 :: oGetP 12 44 :: oLdI 1 :: oALdI 13 :: oIf cNe 27 :: oLdA 0 :: oGetP 12 45 :: oPushI 8 :: oLdI 3 :: oBin (fun x y => x * y) :: oLdI 1 :: oBin (fun x y => x + y) :: oALdI 15 :: oIf0 cNe 29 :: t253_27
abbrev t253_0 : List hOp := oPushI 1 :: oStI 2 :: oPushI 0 :: oStI 3 :: t253_4
theorem e253_0 : (opsOf 253).drop 0 = t253_0 := rfl
theorem e253_4 : (opsOf 253).drop 4 = t253_4 := rfl
theorem e253_27 : (opsOf 253).drop 27 = t253_27 := rfl
theorem e253_29 : (opsOf 253).drop 29 = t253_29 := rfl
theorem e253_30 : (opsOf 253).drop 30 = t253_30 := rfl
theorem e253_33 : (opsOf 253).drop 33 = t253_33 := rfl
def q_Mo_fitsKind_4 (v1 : Int32) (k33 : Int32 → hG → hO Int32) (k4 : Int32 → Int32 → hG → hO Int32) (v2 : Int32) (v3 : Int32) (g : hG) : hO Int32 :=
  if v1 ≤ v3 then (k33 v2 g) else (if v2 = (0 : Int32) then (k4 (0 : Int32) (v3 + (1 : Int32)) g) else (gd v3 9 <| gd v1 9 <| if (gI g 391 v3.toNatClampNeg) = (gI g 391 v1.toNatClampNeg) then (gd (((8 : Int32) * v3) + v1) 64 <| if (gI g 392 (((8 : Int32) * v3) + v1).toNatClampNeg) = (0 : Int32) then (k4 (1 : Int32) (v3 + (1 : Int32)) g) else (k4 (0 : Int32) (v3 + (1 : Int32)) g)) else (k4 (1 : Int32) (v3 + (1 : Int32)) g)))
def q_Mo_fitsKind_4L (v1 : Int32) (k33 : Int32 → hG → hO Int32) : Nat → Int32 → Int32 → hG → hO Int32
  | 0 => fun _ _ _ => none
  | n + 1 => fun v2 v3 g => q_Mo_fitsKind_4 v1 k33 (q_Mo_fitsKind_4L v1 k33 n) v2 v3 g
theorem q_Mo_fitsKind_4L_s (v1 : Int32) (k33 : Int32 → hG → hO Int32) (n : Nat) (v2 : Int32) (v3 : Int32) (g : hG) : q_Mo_fitsKind_4L v1 k33 (n + 1) v2 v3 g = q_Mo_fitsKind_4 v1 k33 (q_Mo_fitsKind_4L v1 k33 n) v2 v3 g := rfl
theorem th253_4 {d : Nat} {v1 : Int32} {k33 : Int32 → hG → hO Int32} {k4 : Int32 → Int32 → hG → hO Int32} {v2 : Int32} {v3 : Int32} (hk33 : ∀ (x2 : Int32) (y3 : Option Value) (g : hG), Frz g → Tri wI d 253 t253_33 [some (.ref 367), some (.int v1), some (.int x2), y3] [] g (k33 x2 g)) (hk4 : ∀ (x2 : Int32) (x3 : Int32) (g : hG), Frz g → Tri wI d 253 t253_4 [some (.ref 367), some (.int v1), some (.int x2), some (.int x3)] [] g (k4 x2 x3 g)) {g : hG} (hF : Frz g) : Tri wI d 253 t253_4 [some (.ref 367), some (.int v1), some (.int v2), some (.int v3)] [] g (q_Mo_fitsKind_4 v1 k33 k4 v2 v3 g) := by
  unfold q_Mo_fitsKind_4
  refine tr_ldI rfl (tr_ldI rfl (?_))
  refine tr_ifj e253_33 (c_ge _ _) (fun hc1 => ?_) (fun hc1 => ?_)
  · exact hk33 _ _ _ hF
  · refine tr_ldI rfl (?_)
    refine tr_if0j e253_29 (c_eq _ _) (fun hc2 => ?_) (fun hc2 => ?_)
    · refine tr_pushI (tr_stI (Nat.le_of_ble_eq_true rfl) rfl rfl (tr_inc rfl rfl rfl (?_)))
      refine tr_gotoE e253_4 (?_)
      exact hk4 _ _ _ hF
    · refine tr_ldA rfl (tr_getP (b := 391) (fk_367 hF) (fp_367_44 hF) (tr_ldI rfl (tr_aldI (fk_391 hF) (fl_391 hF) (fun _ => tr_ldA rfl (tr_getP (b := 391) (fk_367 hF) (fp_367_44 hF) (?_))))))
      refine tr_ldI rfl (tr_aldI (fk_391 hF) (fl_391 hF) (fun _ => ?_))
      refine tr_ifn e253_27 (c_ne _ _) (fun hc3 => ?_) (fun hc3 => ?_)
      · refine tr_pushI (?_)
        refine tr_gotoE e253_30 (?_)
        refine tr_stI (Nat.le_of_ble_eq_true rfl) rfl rfl (tr_inc rfl rfl rfl (?_))
        refine tr_gotoE e253_4 (?_)
        exact hk4 _ _ _ hF
      · refine tr_ldA rfl (tr_getP (b := 392) (fk_367 hF) (fp_367_45 hF) (tr_pushI (tr_ldI rfl (tr_bin (v := ((8 : Int32) * v3)) rfl (tr_ldI rfl (?_))))))
        refine tr_bin (v := (((8 : Int32) * v3) + v1)) rfl (tr_aldI (fk_392 hF) (fl_392 hF) (fun _ => ?_))
        refine tr_if0n e253_29 (c_ne _ _) (fun hc4 => ?_) (fun hc4 => ?_)
        · refine tr_pushI (tr_stI (Nat.le_of_ble_eq_true rfl) rfl rfl (tr_inc rfl rfl rfl (?_)))
          refine tr_gotoE e253_4 (?_)
          exact hk4 _ _ _ hF
        · refine tr_pushI (?_)
          refine tr_gotoE e253_30 (?_)
          refine tr_stI (Nat.le_of_ble_eq_true rfl) rfl rfl (tr_inc rfl rfl rfl (?_))
          refine tr_gotoE e253_4 (?_)
          exact hk4 _ _ _ hF
theorem th253_4L {d : Nat} {v1 : Int32} {k33 : Int32 → hG → hO Int32} (hk33 : ∀ (x2 : Int32) (y3 : Option Value) (g : hG), Frz g → Tri wI d 253 t253_33 [some (.ref 367), some (.int v1), some (.int x2), y3] [] g (k33 x2 g)) : ∀ (n : Nat) (v2 : Int32) (v3 : Int32) (g : hG), Frz g → Tri wI d 253 t253_4 [some (.ref 367), some (.int v1), some (.int v2), some (.int v3)] [] g (q_Mo_fitsKind_4L v1 k33 n v2 v3 g)
  | 0 => fun _ _ _ _ => Tri.none_
  | n + 1 => fun _ _ g hF => th253_4 hk33 (th253_4L hk33 n) hF
def q_Mo_fitsKind (v1 : Int32) (g : hG) : hO Int32 :=
  q_Mo_fitsKind_4L v1 (fun x5 g7 => gb x5 (some (x5, g7))) FU (1 : Int32) (0 : Int32) g
theorem tm253 {d : Nat} {v1 : Int32} {g : hG} (hF : Frz g) : TM wI d 253 [.ref 367, .int v1] g (q_Mo_fitsKind v1 g) := by
  refine TM.ofE e253_0 (lv := [some (.ref 367), some (.int v1), none, none]) rfl ?_
  unfold q_Mo_fitsKind
  refine tr_pushI (tr_stI (Nat.le_of_ble_eq_true rfl) rfl rfl (tr_pushI (tr_stI (Nat.le_of_ble_eq_true rfl) rfl rfl (?_))))
  refine th253_4L (fun x5 y6 g7 hF8 => ?_) FU _ _ _ hF
  · refine tr_ldI rfl (?_)
    exact tr_retZ hF8
-- Mo_findKinds
abbrev t255_53 : List hOp := oRetZ :: []
abbrev t255_52 : List hOp := oPushI 0 :: t255_53
abbrev t255_47 : List hOp := oLdI 3 :: oLdI 1 :: oIf cNe 52 :: oPushI 1 :: oGoto 53 :: t255_52
abbrev t255_36 : List hOp := oLdA 0 :: oLdI 3 :: oInvV 253 12 1 :: oIf0 cEq 7 :: oInc 3 1 :: oLdA 0 :: oGetP 12 44 :: oLdI 3 :: oPushI (-1) :: oAStI :: oGoto 7 :: t255_47
abbrev t255_34 : List hOp := oInc 3 (-1) :: oGoto 7 :: t255_36
abbrev t255_7 : List hOp := oLdI 3 :: oIf0 cLt 47 :: oLdI 3 :: oLdI 1 :: oIf cGe 47 :: oLdA 0 :: oGetP 12 44 :: oLdI 3 :: oDup2 :: oALdI 13 :: oPushI 1 :: oBin (fun x y => x + y) :: oAStI :: oLdA 0 :: oGetP 12 44 :: oLdI 3 :: oALdI 13 :: oLdI 2 :: oIf cGe 34 :: oLdA 0 :: oGetP 12 44 :: oLdI 3 :: oALdI 13 :: oLdA 0 :: oLdI 3 :: oInvV 254 12 1 :: oIf cLe 36 :: t255_34
abbrev t255_0 : List hOp := oPushI 0 :: oStI 3 :: oLdA 0 :: oGetP 12 44 :: oPushI 0 :: oPushI (-1) :: oAStI :: t255_7
theorem e255_0 : (opsOf 255).drop 0 = t255_0 := rfl
theorem e255_7 : (opsOf 255).drop 7 = t255_7 := rfl
theorem e255_34 : (opsOf 255).drop 34 = t255_34 := rfl
theorem e255_36 : (opsOf 255).drop 36 = t255_36 := rfl
theorem e255_47 : (opsOf 255).drop 47 = t255_47 := rfl
theorem e255_52 : (opsOf 255).drop 52 = t255_52 := rfl
theorem e255_53 : (opsOf 255).drop 53 = t255_53 := rfl
def q_Mo_findKinds_7 (v1 : Int32) (v2 : Int32) (k47 : Int32 → hG → hO Int32) (k7 : Int32 → hG → hO Int32) (v3 : Int32) (g : hG) : hO Int32 :=
  if v3 < (0 : Int32) then (k47 v3 g) else (if v1 ≤ v3 then (k47 v3 g) else (gd v3 9 <| gd v3 9 <| wr (sI g 391 v3.toNatClampNeg ((gI g 391 v3.toNatClampNeg) + (1 : Int32))) fun g5 => gd v3 9 <| if v2 ≤ (gI g5 391 v3.toNatClampNeg) then (k7 (v3 + (-1 : Int32)) g5) else (gd v3 9 <| bnd (q_Mo_kindsAhead v3 g5) fun r10 g8 => if (gI g5 391 v3.toNatClampNeg) ≤ r10 then (bnd (q_Mo_fitsKind v3 g8) fun r14 g12 => if r14 = (0 : Int32) then (k7 v3 g12) else (gd (v3 + (1 : Int32)) 9 <| wr (sI g12 391 (v3 + (1 : Int32)).toNatClampNeg (-1 : Int32)) fun g16 => k7 (v3 + (1 : Int32)) g16)) else (k7 (v3 + (-1 : Int32)) g8))))
def q_Mo_findKinds_7L (v1 : Int32) (v2 : Int32) (k47 : Int32 → hG → hO Int32) : Nat → Int32 → hG → hO Int32
  | 0 => fun _ _ => none
  | n + 1 => fun v3 g => q_Mo_findKinds_7 v1 v2 k47 (q_Mo_findKinds_7L v1 v2 k47 n) v3 g
theorem q_Mo_findKinds_7L_s (v1 : Int32) (v2 : Int32) (k47 : Int32 → hG → hO Int32) (n : Nat) (v3 : Int32) (g : hG) : q_Mo_findKinds_7L v1 v2 k47 (n + 1) v3 g = q_Mo_findKinds_7 v1 v2 k47 (q_Mo_findKinds_7L v1 v2 k47 n) v3 g := rfl
theorem th255_7 {e : Nat} (he : 1 ≤ e + 1) {v1 : Int32} {v2 : Int32} {k47 : Int32 → hG → hO Int32} {k7 : Int32 → hG → hO Int32} {v3 : Int32} (hk47 : ∀ (x3 : Int32) (g : hG), Frz g → Tri wI (e + 1) 255 t255_47 [some (.ref 367), some (.int v1), some (.int v2), some (.int x3)] [] g (k47 x3 g)) (hk7 : ∀ (x3 : Int32) (g : hG), Frz g → Tri wI (e + 1) 255 t255_7 [some (.ref 367), some (.int v1), some (.int v2), some (.int x3)] [] g (k7 x3 g)) {g : hG} (hF : Frz g) : Tri wI (e + 1) 255 t255_7 [some (.ref 367), some (.int v1), some (.int v2), some (.int v3)] [] g (q_Mo_findKinds_7 v1 v2 k47 k7 v3 g) := by
  unfold q_Mo_findKinds_7
  refine tr_ldI rfl (?_)
  refine tr_if0j e255_47 (c_lt _ _) (fun hc3 => ?_) (fun hc3 => ?_)
  · exact hk47 _ _ hF
  · refine tr_ldI rfl (tr_ldI rfl (?_))
    refine tr_ifj e255_47 (c_ge _ _) (fun hc4 => ?_) (fun hc4 => ?_)
    · exact hk47 _ _ hF
    · refine tr_ldA rfl (tr_getP (b := 391) (fk_367 hF) (fp_367_44 hF) (tr_ldI rfl (tr_dup2 (tr_aldI (fk_391 hF) (fl_391 hF) (fun _ => tr_pushI (?_))))))
      refine tr_bin (v := ((gI g 391 v3.toNatClampNeg) + (1 : Int32))) rfl (tr_astI hF (fk_391 hF) (fl_391 hF) (fun _ g5 _ hF6 => tr_ldA rfl (tr_getP (b := 391) (fk_367 hF6) (fp_367_44 hF6) (tr_ldI rfl (tr_aldI (fk_391 hF6) (fl_391 hF6) (fun _ => ?_))))))
      refine tr_ldI rfl (?_)
      refine tr_ifj e255_34 (c_ge _ _) (fun hc7 => ?_) (fun hc7 => ?_)
      · refine tr_inc rfl rfl rfl (?_)
        refine tr_gotoE e255_7 (?_)
        exact hk7 _ _ hF6
      · refine tr_ldA rfl (tr_getP (b := 391) (fk_367 hF6) (fp_367_44 hF6) (tr_ldI rfl (tr_aldI (fk_391 hF6) (fl_391 hF6) (fun _ => tr_ldA rfl (tr_ldI rfl (?_))))))
        refine tr_invVI rfl rfl (fk_367 hF6) (Nat.le_of_ble_eq_true rfl) (by decide) (Nat.le_of_ble_eq_true rfl) (tm254 hF6) (fun r10 g8 _ hF9 => ?_)
        refine tr_ifj e255_36 (c_le _ _) (fun hc11 => ?_) (fun hc11 => ?_)
        · refine tr_ldA rfl (tr_ldI rfl (?_))
          refine tr_invVI rfl rfl (fk_367 hF9) (Nat.le_of_ble_eq_true rfl) (by decide) (Nat.le_of_ble_eq_true rfl) (tm253 hF9) (fun r14 g12 _ hF13 => ?_)
          refine tr_if0j e255_7 (c_eq _ _) (fun hc15 => ?_) (fun hc15 => ?_)
          · exact hk7 _ _ hF13
          · refine tr_inc rfl rfl rfl (tr_ldA rfl (tr_getP (b := 391) (fk_367 hF13) (fp_367_44 hF13) (tr_ldI rfl (tr_pushI (tr_astI hF13 (fk_391 hF13) (fl_391 hF13) (fun _ g16 _ hF17 => ?_))))))
            refine tr_gotoE e255_7 (?_)
            exact hk7 _ _ hF17
        · refine tr_inc rfl rfl rfl (?_)
          refine tr_gotoE e255_7 (?_)
          exact hk7 _ _ hF9
theorem th255_7L {e : Nat} (he : 1 ≤ e + 1) {v1 : Int32} {v2 : Int32} {k47 : Int32 → hG → hO Int32} (hk47 : ∀ (x3 : Int32) (g : hG), Frz g → Tri wI (e + 1) 255 t255_47 [some (.ref 367), some (.int v1), some (.int v2), some (.int x3)] [] g (k47 x3 g)) : ∀ (n : Nat) (v3 : Int32) (g : hG), Frz g → Tri wI (e + 1) 255 t255_7 [some (.ref 367), some (.int v1), some (.int v2), some (.int v3)] [] g (q_Mo_findKinds_7L v1 v2 k47 n v3 g)
  | 0 => fun _ _ _ => Tri.none_
  | n + 1 => fun _ g hF => th255_7 he hk47 (th255_7L he hk47 n) hF
def q_Mo_findKinds_47 (v1 : Int32) (v3 : Int32) (g : hG) : hO Int32 :=
  if v3 = v1 then (some ((1 : Int32), g)) else (some ((0 : Int32), g))
theorem th255_47 {e : Nat} (he : 1 ≤ e + 1) {v1 : Int32} {v3 : Int32} {u2 : Option Value} (hu2 : isL (some u2) = false) {g : hG} (hF : Frz g) : Tri wI (e + 1) 255 t255_47 [some (.ref 367), some (.int v1), u2, some (.int v3)] [] g (q_Mo_findKinds_47 v1 v3 g) := by
  unfold q_Mo_findKinds_47
  refine tr_ldI rfl (tr_ldI rfl (?_))
  refine tr_ifn e255_52 (c_ne _ _) (fun hc21 => ?_) (fun hc21 => ?_)
  · refine tr_pushI (?_)
    exact tr_retZl (Or.inl rfl) hF
  · refine tr_pushI (?_)
    refine tr_gotoE e255_53 (?_)
    exact tr_retZl (Or.inr rfl) hF
def q_Mo_findKinds (v1 : Int32) (v2 : Int32) (g : hG) : hO Int32 :=
  gd (0 : Int32) 9 <| wr (sI g 391 (0 : Int32).toNatClampNeg (-1 : Int32)) fun g1 => q_Mo_findKinds_7L v1 v2 (fun x18 g19 => q_Mo_findKinds_47 v1 x18 g19) FU (0 : Int32) g1
theorem tm255 {d : Nat} {v1 : Int32} {v2 : Int32} (hd : 1 ≤ d) {g : hG} (hF : Frz g) : TM wI d 255 [.ref 367, .int v1, .int v2] g (q_Mo_findKinds v1 v2 g) := by
  obtain ⟨e, rfl⟩ : ∃ e, d = e + 1 := ⟨d - 1, by omega⟩
  have he := hd
  refine TM.ofE e255_0 (lv := [some (.ref 367), some (.int v1), some (.int v2), none]) rfl ?_
  unfold q_Mo_findKinds
  refine tr_pushI (tr_stI (Nat.le_of_ble_eq_true rfl) rfl rfl (tr_ldA rfl (tr_getP (b := 391) (fk_367 hF) (fp_367_44 hF) (tr_pushI (tr_pushI (?_))))))
  refine tr_astI hF (fk_391 hF) (fl_391 hF) (fun _ g1 _ hF2 => ?_)
  refine th255_7L he (fun x18 g19 hF20 => ?_) FU _ _ hF2
  · exact th255_47 he rfl hF20
-- Mo_apart
abbrev t256_104 : List hOp := oRetI :: []
abbrev t256_100 : List hOp := oLdA 0 :: oGetP 12 44 :: oLdI 2 :: oALdI 13 :: t256_104
abbrev t256_95 : List hOp := oLdI 2 :: oPushI (-1) :: oIf cNe 100 :: oLdI 4 :: oGoto 104 :: t256_100
abbrev t256_88 : List hOp := oLdA 0 :: oLdI 3 :: oLdI 4 :: oInvV 255 12 2 :: oIf0 cNe 95 :: oInc 4 1 :: oGoto 88 :: t256_95
abbrev t256_86 : List hOp := oPushI 0 :: oStI 4 :: t256_88
abbrev t256_84 : List hOp := oInc 4 1 :: oGoto 48 :: t256_86
abbrev t256_81 : List hOp := oAStZ :: oInc 5 1 :: oGoto 53 :: t256_84
abbrev t256_80 : List hOp := oPushI 0 :: t256_81
abbrev t256_53 : List hOp := oLdI 5 :: oLdI 3 :: oIf cGe 84 :: oLdA 0 :: oGetP 12 45 :: oPushI 8 :: oLdI 4 :: oBin (fun x y => x * y) :: oLdI 5 :: oBin (fun x y => x + y) :: oLdI 4 :: oLdI 5 :: oIf cEq 80 :: oLdA 0 :: oLdA 0 :: oGetP 12 43 :: oLdI 4 :: oALdI 13 :: oLdA 0 :: oGetP 12 43 :: oLdI 5 :: oALdI 13 :: oPushI 0 :: oInvV 251 12 3 :: oIf0 cEq 80 :: oPushI 1 :: oGoto 81 :: t256_80
abbrev t256_48 : List hOp := oLdI 4 :: oLdI 3 :: oIf cGe 86 :: oPushI 0 :: oStI 5 :: t256_53
abbrev t256_46 : List hOp := oPushI 0 :: oStI 4 :: t256_48
abbrev t256_44 : List hOp := oInc 4 1 :: oGoto 31 :: t256_46
abbrev t256_31 : List hOp := oLdI 4 :: oPushI 25 :: oIf cGe 46 :: oLdI 1 :: oLdI 4 :: oInvS 166 2 :: oIf0 cEq 44 :: oLdA 0 :: oGetP 12 43 :: oLdI 3 :: oLdI 4 :: oAStI :: oInc 3 1 :: t256_44
abbrev t256_25 : List hOp := oLdA 0 :: oInvV 230 12 0 :: oPushI 0 :: oStI 3 :: oPushI 0 :: oStI 4 :: t256_31
abbrev t256_23 : List hOp := oPushI (-1) :: oRetI :: t256_25
abbrev t256_0 : List hOp := oLdA 0 :: oPushI 0 :: oPutI 12 0 :: oLdI 1 :: oI2L :: oPushL 0 :: oPushL 33554431 :: oInvS 165 3 :: oIf0 cEq 23 :: oLdI 1 :: oInvS 167 1 :: oPushI 8 :: oIf cGt 23 :: oLdI 2 :: oI2L :: oPushL (-1) :: oLdI 1 :: oInvS 167 1 :: oI2L :: oPushL 1 :: oLBin (fun x y => x - y) :: oInvS 165 3 :: oIf0 cNe 25 :: t256_23
theorem e256_0 : (opsOf 256).drop 0 = t256_0 := rfl
theorem e256_23 : (opsOf 256).drop 23 = t256_23 := rfl
theorem e256_25 : (opsOf 256).drop 25 = t256_25 := rfl
theorem e256_31 : (opsOf 256).drop 31 = t256_31 := rfl
theorem e256_44 : (opsOf 256).drop 44 = t256_44 := rfl
theorem e256_46 : (opsOf 256).drop 46 = t256_46 := rfl
theorem e256_48 : (opsOf 256).drop 48 = t256_48 := rfl
theorem e256_53 : (opsOf 256).drop 53 = t256_53 := rfl
theorem e256_80 : (opsOf 256).drop 80 = t256_80 := rfl
theorem e256_81 : (opsOf 256).drop 81 = t256_81 := rfl
theorem e256_84 : (opsOf 256).drop 84 = t256_84 := rfl
theorem e256_86 : (opsOf 256).drop 86 = t256_86 := rfl
theorem e256_88 : (opsOf 256).drop 88 = t256_88 := rfl
theorem e256_95 : (opsOf 256).drop 95 = t256_95 := rfl
theorem e256_100 : (opsOf 256).drop 100 = t256_100 := rfl
theorem e256_104 : (opsOf 256).drop 104 = t256_104 := rfl
def q_Mo_apart_31 (v1 : Int32) (k46 : Int32 → hG → hO Int32) (k31 : Int32 → Int32 → hG → hO Int32) (v3 : Int32) (v4 : Int32) (g : hG) : hO Int32 :=
  if (25 : Int32) ≤ v4 then (k46 v3 g) else (bnd (q_Mo_is v1 v4 g) fun r23 g21 => if r23 = (0 : Int32) then (k31 v3 (v4 + (1 : Int32)) g21) else (gd v3 8 <| wr (sI g21 390 v3.toNatClampNeg v4) fun g25 => k31 (v3 + (1 : Int32)) (v4 + (1 : Int32)) g25))
def q_Mo_apart_31L (v1 : Int32) (k46 : Int32 → hG → hO Int32) : Nat → Int32 → Int32 → hG → hO Int32
  | 0 => fun _ _ _ => none
  | n + 1 => fun v3 v4 g => q_Mo_apart_31 v1 k46 (q_Mo_apart_31L v1 k46 n) v3 v4 g
theorem q_Mo_apart_31L_s (v1 : Int32) (k46 : Int32 → hG → hO Int32) (n : Nat) (v3 : Int32) (v4 : Int32) (g : hG) : q_Mo_apart_31L v1 k46 (n + 1) v3 v4 g = q_Mo_apart_31 v1 k46 (q_Mo_apart_31L v1 k46 n) v3 v4 g := rfl
theorem th256_31 {e : Nat} (he : 6 ≤ e + 1) {v1 : Int32} {k46 : Int32 → hG → hO Int32} {k31 : Int32 → Int32 → hG → hO Int32} {v3 : Int32} {v4 : Int32} {u2 : Option Value} {u5 : Option Value} (hk46 : ∀ (x3 : Int32) (y4 : Option Value) (_ : isL (some y4) = false) (g : hG), Frz g → Tri wI (e + 1) 256 t256_46 [some (.ref 367), some (.int v1), u2, some (.int x3), y4, u5] [] g (k46 x3 g)) (hk31 : ∀ (x3 : Int32) (x4 : Int32) (g : hG), Frz g → Tri wI (e + 1) 256 t256_31 [some (.ref 367), some (.int v1), u2, some (.int x3), some (.int x4), u5] [] g (k31 x3 x4 g)) (hu2 : isL (some u2) = false) {g : hG} (hF : Frz g) : Tri wI (e + 1) 256 t256_31 [some (.ref 367), some (.int v1), u2, some (.int v3), some (.int v4), u5] [] g (q_Mo_apart_31 v1 k46 k31 v3 v4 g) := by
  unfold q_Mo_apart_31
  refine tr_ldI rfl (tr_pushI (?_))
  refine tr_ifj e256_46 (c_ge _ _) (fun hc20 => ?_) (fun hc20 => ?_)
  · exact hk46 _ _ rfl _ hF
  · refine tr_ldI rfl (tr_ldI rfl (?_))
    refine tr_invSI rfl rfl (Nat.le_of_ble_eq_true rfl) (Nat.le_of_ble_eq_true rfl) (by decide) (Nat.le_of_ble_eq_true rfl) (tm166 hF) (fun r23 g21 _ hF22 => ?_)
    refine tr_if0j e256_44 (c_eq _ _) (fun hc24 => ?_) (fun hc24 => ?_)
    · refine tr_inc rfl rfl rfl (?_)
      refine tr_gotoE e256_31 (?_)
      exact hk31 _ _ _ hF22
    · refine tr_ldA rfl (tr_getP (b := 390) (fk_367 hF22) (fp_367_43 hF22) (tr_ldI rfl (tr_ldI rfl (tr_astI hF22 (fk_390 hF22) (fl_390 hF22) (fun _ g25 _ hF26 => tr_inc rfl (lKill_id hu2) rfl (?_))))))
      refine tr_inc rfl rfl rfl (?_)
      refine tr_gotoE e256_31 (?_)
      exact hk31 _ _ _ hF26
theorem th256_31L {e : Nat} (he : 6 ≤ e + 1) {v1 : Int32} {k46 : Int32 → hG → hO Int32} {u2 : Option Value} {u5 : Option Value} (hk46 : ∀ (x3 : Int32) (y4 : Option Value) (_ : isL (some y4) = false) (g : hG), Frz g → Tri wI (e + 1) 256 t256_46 [some (.ref 367), some (.int v1), u2, some (.int x3), y4, u5] [] g (k46 x3 g)) (hu2 : isL (some u2) = false) : ∀ (n : Nat) (v3 : Int32) (v4 : Int32) (g : hG), Frz g → Tri wI (e + 1) 256 t256_31 [some (.ref 367), some (.int v1), u2, some (.int v3), some (.int v4), u5] [] g (q_Mo_apart_31L v1 k46 n v3 v4 g)
  | 0 => fun _ _ _ _ => Tri.none_
  | n + 1 => fun _ _ g hF => th256_31 he hk46 (th256_31L he hk46 hu2 n) hu2 hF
def q_Mo_apart_81 (v5 : Int32) (k53 : Int32 → hG → hO Int32) (w1 : Int32) (w2 : Int32) (g : hG) : hO Int32 :=
  gd w1 64 <| gb w2 <| wr (sI g 392 w1.toNatClampNeg w2) fun g34 => k53 (v5 + (1 : Int32)) g34
theorem th256_81 {e : Nat} (he : 6 ≤ e + 1) {v5 : Int32} {k53 : Int32 → hG → hO Int32} {w1 : Int32} {w2 : Int32} {u1 : Option Value} {u2 : Option Value} {u3 : Option Value} {u4 : Option Value} (hk53 : ∀ (x5 : Int32) (g : hG), Frz g → Tri wI (e + 1) 256 t256_53 [some (.ref 367), u1, u2, u3, u4, some (.int x5)] [] g (k53 x5 g)) (hu2 : isL (some u2) = false) (hu3 : isL (some u3) = false) (hu4 : isL (some u4) = false) {g : hG} (hF : Frz g) : Tri wI (e + 1) 256 t256_81 [some (.ref 367), u1, u2, u3, u4, some (.int v5)] [.int w2, .int w1, .ref 392] g (q_Mo_apart_81 v5 k53 w1 w2 g) := by
  unfold q_Mo_apart_81
  refine tr_astZ hF (fk_392 hF) (fl_392 hF) (fun _ g34 _ hF35 => tr_inc rfl (lKill_id hu4) rfl (?_))
  refine tr_gotoE e256_53 (?_)
  exact hk53 _ _ hF35
def q_Mo_apart_80 (v5 : Int32) (k53 : Int32 → hG → hO Int32) (w1 : Int32) (g : hG) : hO Int32 :=
  q_Mo_apart_81 v5 k53 w1 (0 : Int32) g
theorem th256_80 {e : Nat} (he : 6 ≤ e + 1) {v5 : Int32} {k53 : Int32 → hG → hO Int32} {w1 : Int32} {u1 : Option Value} {u2 : Option Value} {u3 : Option Value} {u4 : Option Value} (hk53 : ∀ (x5 : Int32) (g : hG), Frz g → Tri wI (e + 1) 256 t256_53 [some (.ref 367), u1, u2, u3, u4, some (.int x5)] [] g (k53 x5 g)) (hu2 : isL (some u2) = false) (hu3 : isL (some u3) = false) (hu4 : isL (some u4) = false) {g : hG} (hF : Frz g) : Tri wI (e + 1) 256 t256_80 [some (.ref 367), u1, u2, u3, u4, some (.int v5)] [.int w1, .ref 392] g (q_Mo_apart_80 v5 k53 w1 g) := by
  unfold q_Mo_apart_80
  refine tr_pushI (?_)
  exact th256_81 he hk53 hu2 hu3 hu4 hF
def q_Mo_apart_53 (v3 : Int32) (v4 : Int32) (k84 : hG → hO Int32) (k53 : Int32 → hG → hO Int32) (v5 : Int32) (g : hG) : hO Int32 :=
  if v3 ≤ v5 then (k84 g) else (if v4 = v5 then (q_Mo_apart_80 v5 k53 (((8 : Int32) * v4) + v5) g) else (gd v4 8 <| gd v5 8 <| bnd (q_Mo_clash (gI g 390 v4.toNatClampNeg) (gI g 390 v5.toNatClampNeg) (0 : Int32) g) fun r38 g36 => q_Mo_apart_81 v5 k53 (((8 : Int32) * v4) + v5) (if r38 = (0 : Int32) then (0 : Int32) else (1 : Int32)) g36))
def q_Mo_apart_53L (v3 : Int32) (v4 : Int32) (k84 : hG → hO Int32) : Nat → Int32 → hG → hO Int32
  | 0 => fun _ _ => none
  | n + 1 => fun v5 g => q_Mo_apart_53 v3 v4 k84 (q_Mo_apart_53L v3 v4 k84 n) v5 g
theorem q_Mo_apart_53L_s (v3 : Int32) (v4 : Int32) (k84 : hG → hO Int32) (n : Nat) (v5 : Int32) (g : hG) : q_Mo_apart_53L v3 v4 k84 (n + 1) v5 g = q_Mo_apart_53 v3 v4 k84 (q_Mo_apart_53L v3 v4 k84 n) v5 g := rfl
theorem th256_53 {e : Nat} (he : 6 ≤ e + 1) {v3 : Int32} {v4 : Int32} {k84 : hG → hO Int32} {k53 : Int32 → hG → hO Int32} {v5 : Int32} {u1 : Option Value} {u2 : Option Value} (hk84 : ∀ (y5 : Option Value) (g : hG), Frz g → Tri wI (e + 1) 256 t256_84 [some (.ref 367), u1, u2, some (.int v3), some (.int v4), y5] [] g (k84 g)) (hk53 : ∀ (x5 : Int32) (g : hG), Frz g → Tri wI (e + 1) 256 t256_53 [some (.ref 367), u1, u2, some (.int v3), some (.int v4), some (.int x5)] [] g (k53 x5 g)) (hu2 : isL (some u2) = false) {g : hG} (hF : Frz g) : Tri wI (e + 1) 256 t256_53 [some (.ref 367), u1, u2, some (.int v3), some (.int v4), some (.int v5)] [] g (q_Mo_apart_53 v3 v4 k84 k53 v5 g) := by
  unfold q_Mo_apart_53
  refine tr_ldI rfl (tr_ldI rfl (?_))
  refine tr_ifj e256_84 (c_ge _ _) (fun hc32 => ?_) (fun hc32 => ?_)
  · exact hk84 _ _ hF
  · refine tr_ldA rfl (tr_getP (b := 392) (fk_367 hF) (fp_367_45 hF) (tr_pushI (tr_ldI rfl (tr_bin (v := ((8 : Int32) * v4)) rfl (tr_ldI rfl (?_))))))
    refine tr_bin (v := (((8 : Int32) * v4) + v5)) rfl (tr_ldI rfl (tr_ldI rfl (?_)))
    refine tr_ifj e256_80 (c_eq _ _) (fun hc33 => ?_) (fun hc33 => ?_)
    · exact th256_80 he hk53 hu2 rfl rfl hF
    · refine tr_ldA rfl (tr_ldA rfl (tr_getP (b := 390) (fk_367 hF) (fp_367_43 hF) (tr_ldI rfl (tr_aldI (fk_390 hF) (fl_390 hF) (fun _ => tr_ldA rfl (?_))))))
      refine tr_getP (b := 390) (fk_367 hF) (fp_367_43 hF) (tr_ldI rfl (tr_aldI (fk_390 hF) (fl_390 hF) (fun _ => tr_pushI (?_))))
      refine tr_invVI rfl rfl (fk_367 hF) (Nat.le_of_ble_eq_true rfl) (by decide) (Nat.le_of_ble_eq_true rfl) (tm251 (by omega) hF) (fun r38 g36 _ hF37 => ?_)
      refine tr_if0cE e256_80 (c_eq _ _) (fun hc40 => ?_) (fun hc40 => ?_)
      · rw [if_pos hc40]
        refine tr_pushI (?_)
        exact th256_81 he hk53 hu2 rfl rfl hF37
      · rw [if_neg hc40]
        refine tr_pushI (?_)
        refine tr_gotoE e256_81 (?_)
        exact th256_81 he hk53 hu2 rfl rfl hF37
theorem th256_53L {e : Nat} (he : 6 ≤ e + 1) {v3 : Int32} {v4 : Int32} {k84 : hG → hO Int32} {u1 : Option Value} {u2 : Option Value} (hk84 : ∀ (y5 : Option Value) (g : hG), Frz g → Tri wI (e + 1) 256 t256_84 [some (.ref 367), u1, u2, some (.int v3), some (.int v4), y5] [] g (k84 g)) (hu2 : isL (some u2) = false) : ∀ (n : Nat) (v5 : Int32) (g : hG), Frz g → Tri wI (e + 1) 256 t256_53 [some (.ref 367), u1, u2, some (.int v3), some (.int v4), some (.int v5)] [] g (q_Mo_apart_53L v3 v4 k84 n v5 g)
  | 0 => fun _ _ _ => Tri.none_
  | n + 1 => fun _ g hF => th256_53 he hk84 (th256_53L he hk84 hu2 n) hu2 hF
def q_Mo_apart_48 (v3 : Int32) (k86 : hG → hO Int32) (k48 : Int32 → hG → hO Int32) (v4 : Int32) (g : hG) : hO Int32 :=
  if v3 ≤ v4 then (k86 g) else (q_Mo_apart_53L v3 v4 (fun g42 => k48 (v4 + (1 : Int32)) g42) FU (0 : Int32) g)
def q_Mo_apart_48L (v3 : Int32) (k86 : hG → hO Int32) : Nat → Int32 → hG → hO Int32
  | 0 => fun _ _ => none
  | n + 1 => fun v4 g => q_Mo_apart_48 v3 k86 (q_Mo_apart_48L v3 k86 n) v4 g
theorem q_Mo_apart_48L_s (v3 : Int32) (k86 : hG → hO Int32) (n : Nat) (v4 : Int32) (g : hG) : q_Mo_apart_48L v3 k86 (n + 1) v4 g = q_Mo_apart_48 v3 k86 (q_Mo_apart_48L v3 k86 n) v4 g := rfl
theorem th256_48 {e : Nat} (he : 6 ≤ e + 1) {v3 : Int32} {k86 : hG → hO Int32} {k48 : Int32 → hG → hO Int32} {v4 : Int32} {u1 : Option Value} {u2 : Option Value} {u5 : Option Value} (hk86 : ∀ (y4 : Option Value) (y5 : Option Value) (_ : isL (some y4) = false) (g : hG), Frz g → Tri wI (e + 1) 256 t256_86 [some (.ref 367), u1, u2, some (.int v3), y4, y5] [] g (k86 g)) (hk48 : ∀ (x4 : Int32) (y5 : Option Value) (g : hG), Frz g → Tri wI (e + 1) 256 t256_48 [some (.ref 367), u1, u2, some (.int v3), some (.int x4), y5] [] g (k48 x4 g)) (hu2 : isL (some u2) = false) {g : hG} (hF : Frz g) : Tri wI (e + 1) 256 t256_48 [some (.ref 367), u1, u2, some (.int v3), some (.int v4), u5] [] g (q_Mo_apart_48 v3 k86 k48 v4 g) := by
  unfold q_Mo_apart_48
  refine tr_ldI rfl (tr_ldI rfl (?_))
  refine tr_ifj e256_86 (c_ge _ _) (fun hc31 => ?_) (fun hc31 => ?_)
  · exact hk86 _ _ rfl _ hF
  · refine tr_pushI (tr_stI (Nat.le_of_ble_eq_true rfl) rfl rfl (?_))
    refine th256_53L he (fun y41 g42 hF43 => ?_) hu2 FU _ _ hF
    · refine tr_inc rfl rfl rfl (?_)
      refine tr_gotoE e256_48 (?_)
      exact hk48 _ _ _ hF43
theorem th256_48L {e : Nat} (he : 6 ≤ e + 1) {v3 : Int32} {k86 : hG → hO Int32} {u1 : Option Value} {u2 : Option Value} (hk86 : ∀ (y4 : Option Value) (y5 : Option Value) (_ : isL (some y4) = false) (g : hG), Frz g → Tri wI (e + 1) 256 t256_86 [some (.ref 367), u1, u2, some (.int v3), y4, y5] [] g (k86 g)) (hu2 : isL (some u2) = false) : ∀ (n : Nat) (v4 : Int32) (u5 : Option Value) (g : hG), Frz g → Tri wI (e + 1) 256 t256_48 [some (.ref 367), u1, u2, some (.int v3), some (.int v4), u5] [] g (q_Mo_apart_48L v3 k86 n v4 g)
  | 0 => fun _ _ _ _ => Tri.none_
  | n + 1 => fun _ _ g hF => th256_48 he hk86 (th256_48L he hk86 hu2 n) hu2 hF
def q_Mo_apart_88 (v3 : Int32) (k95 : Int32 → hG → hO Int32) (k88 : Int32 → hG → hO Int32) (v4 : Int32) (g : hG) : hO Int32 :=
  bnd (q_Mo_findKinds v3 v4 g) fun r50 g48 => if r50 = (0 : Int32) then (k88 (v4 + (1 : Int32)) g48) else (k95 v4 g48)
def q_Mo_apart_88L (v3 : Int32) (k95 : Int32 → hG → hO Int32) : Nat → Int32 → hG → hO Int32
  | 0 => fun _ _ => none
  | n + 1 => fun v4 g => q_Mo_apart_88 v3 k95 (q_Mo_apart_88L v3 k95 n) v4 g
theorem q_Mo_apart_88L_s (v3 : Int32) (k95 : Int32 → hG → hO Int32) (n : Nat) (v4 : Int32) (g : hG) : q_Mo_apart_88L v3 k95 (n + 1) v4 g = q_Mo_apart_88 v3 k95 (q_Mo_apart_88L v3 k95 n) v4 g := rfl
theorem th256_88 {e : Nat} (he : 6 ≤ e + 1) {v3 : Int32} {k95 : Int32 → hG → hO Int32} {k88 : Int32 → hG → hO Int32} {v4 : Int32} {u1 : Option Value} {u2 : Option Value} {u5 : Option Value} (hk95 : ∀ (x4 : Int32) (g : hG), Frz g → Tri wI (e + 1) 256 t256_95 [some (.ref 367), u1, u2, some (.int v3), some (.int x4), u5] [] g (k95 x4 g)) (hk88 : ∀ (x4 : Int32) (g : hG), Frz g → Tri wI (e + 1) 256 t256_88 [some (.ref 367), u1, u2, some (.int v3), some (.int x4), u5] [] g (k88 x4 g)) (hu2 : isL (some u2) = false) {g : hG} (hF : Frz g) : Tri wI (e + 1) 256 t256_88 [some (.ref 367), u1, u2, some (.int v3), some (.int v4), u5] [] g (q_Mo_apart_88 v3 k95 k88 v4 g) := by
  unfold q_Mo_apart_88
  refine tr_ldA rfl (tr_ldI rfl (tr_ldI rfl (?_)))
  refine tr_invVI rfl rfl (fk_367 hF) (Nat.le_of_ble_eq_true rfl) (by decide) (Nat.le_of_ble_eq_true rfl) (tm255 (by omega) hF) (fun r50 g48 _ hF49 => ?_)
  refine tr_if0n e256_95 (c_ne _ _) (fun hc51 => ?_) (fun hc51 => ?_)
  · exact hk95 _ _ hF49
  · refine tr_inc rfl rfl rfl (?_)
    refine tr_gotoE e256_88 (?_)
    exact hk88 _ _ hF49
theorem th256_88L {e : Nat} (he : 6 ≤ e + 1) {v3 : Int32} {k95 : Int32 → hG → hO Int32} {u1 : Option Value} {u2 : Option Value} {u5 : Option Value} (hk95 : ∀ (x4 : Int32) (g : hG), Frz g → Tri wI (e + 1) 256 t256_95 [some (.ref 367), u1, u2, some (.int v3), some (.int x4), u5] [] g (k95 x4 g)) (hu2 : isL (some u2) = false) : ∀ (n : Nat) (v4 : Int32) (g : hG), Frz g → Tri wI (e + 1) 256 t256_88 [some (.ref 367), u1, u2, some (.int v3), some (.int v4), u5] [] g (q_Mo_apart_88L v3 k95 n v4 g)
  | 0 => fun _ _ _ => Tri.none_
  | n + 1 => fun _ g hF => th256_88 he hk95 (th256_88L he hk95 hu2 n) hu2 hF
def q_Mo_apart (v1 : Int32) (v2 : Int32) (g : hG) : hO Int32 :=
  wr (sI g 367 0 (0 : Int32)) fun g1 => bnd (q_Mo_in v1.toInt64 (0 : Int64) (33554431 : Int64) g1) fun r5 g3 => if r5 = (0 : Int32) then (some ((-1 : Int32), g3)) else (bnd (q_Mo_ones v1 g3) fun r9 g7 => if (8 : Int32) < r9 then (some ((-1 : Int32), g7)) else (bnd (q_Mo_ones v1 g7) fun r13 g11 => bnd (q_Mo_in v2.toInt64 (-1 : Int64) (r13.toInt64 - (1 : Int64)) g11) fun r16 g14 => if r16 = (0 : Int32) then (some ((-1 : Int32), g14)) else (bnd (q_Mo_layRuns g14) fun _ g18 => q_Mo_apart_31L v1 (fun x27 g29 => q_Mo_apart_48L x27 (fun g46 => q_Mo_apart_88L x27 (fun x52 g53 => if v2 = (-1 : Int32) then (some (x52, g53)) else (gd v2 9 <| some ((gI g53 391 v2.toNatClampNeg), g53))) FU (0 : Int32) g46) FU (0 : Int32) g29) FU (0 : Int32) (0 : Int32) g18)))
theorem tm256 {d : Nat} {v1 : Int32} {v2 : Int32} (hd : 6 ≤ d) {g : hG} (hF : Frz g) : TM wI d 256 [.ref 367, .int v1, .int v2] g (q_Mo_apart v1 v2 g) := by
  obtain ⟨e, rfl⟩ : ∃ e, d = e + 1 := ⟨d - 1, by omega⟩
  have he := hd
  refine TM.ofE e256_0 (lv := [some (.ref 367), some (.int v1), some (.int v2), none, none, none]) rfl ?_
  unfold q_Mo_apart
  refine tr_ldA rfl (tr_pushI (tr_putI hF (fk_367 hF) (fun g1 _ hF2 => tr_ldI rfl (tr_i2l (tr_pushL (?_))))))
  refine tr_pushL (?_)
  refine tr_invSI rfl rfl (Nat.le_of_ble_eq_true rfl) (Nat.le_of_ble_eq_true rfl) (by decide) (Nat.le_of_ble_eq_true rfl) (tm165 hF2) (fun r5 g3 _ hF4 => ?_)
  refine tr_if0j e256_23 (c_eq _ _) (fun hc6 => ?_) (fun hc6 => ?_)
  · refine tr_pushI (?_)
    exact tr_retI hF4
  · refine tr_ldI rfl (?_)
    refine tr_invSI rfl rfl (Nat.le_of_ble_eq_true rfl) (Nat.le_of_ble_eq_true rfl) (by decide) (Nat.le_of_ble_eq_true rfl) (tm167 hF4) (fun r9 g7 _ hF8 => ?_)
    refine tr_pushI (?_)
    refine tr_ifj e256_23 (c_gt _ _) (fun hc10 => ?_) (fun hc10 => ?_)
    · refine tr_pushI (?_)
      exact tr_retI hF8
    · refine tr_ldI rfl (tr_i2l (tr_pushL (tr_ldI rfl (?_))))
      refine tr_invSI rfl rfl (Nat.le_of_ble_eq_true rfl) (Nat.le_of_ble_eq_true rfl) (by decide) (Nat.le_of_ble_eq_true rfl) (tm167 hF8) (fun r13 g11 _ hF12 => ?_)
      refine tr_i2l (tr_pushL (tr_lbin (v := (r13.toInt64 - (1 : Int64))) rfl (?_)))
      refine tr_invSI rfl rfl (Nat.le_of_ble_eq_true rfl) (Nat.le_of_ble_eq_true rfl) (by decide) (Nat.le_of_ble_eq_true rfl) (tm165 hF12) (fun r16 g14 _ hF15 => ?_)
      refine tr_if0n e256_25 (c_ne _ _) (fun hc17 => ?_) (fun hc17 => ?_)
      · refine tr_ldA rfl (?_)
        refine tr_invVU rfl rfl (fk_367 hF15) (Nat.le_of_ble_eq_true rfl) (by decide) (Nat.le_of_ble_eq_true rfl) (tm230 (by omega) hF15) (fun _ g18 _ hF19 => ?_)
        refine tr_pushI (tr_stI (Nat.le_of_ble_eq_true rfl) rfl rfl (tr_pushI (tr_stI (Nat.le_of_ble_eq_true rfl) rfl rfl (?_))))
        refine th256_31L he (fun x27 y28 zy28 g29 hF30 => ?_) rfl FU _ _ _ hF19
        · refine tr_pushI (tr_stI (Nat.le_of_ble_eq_true rfl) rfl rfl (?_))
          refine th256_48L he (fun y44 y45 zy44 g46 hF47 => ?_) rfl FU _ _ _ hF30
          · refine tr_pushI (tr_stI (Nat.le_of_ble_eq_true rfl) rfl rfl (?_))
            refine th256_88L he (fun x52 g53 hF54 => ?_) rfl FU _ _ hF47
            · refine tr_ldI rfl (tr_pushI (?_))
              refine tr_ifn e256_100 (c_ne _ _) (fun hc55 => ?_) (fun hc55 => ?_)
              · refine tr_ldA rfl (tr_getP (b := 391) (fk_367 hF54) (fp_367_44 hF54) (tr_ldI rfl (tr_aldI (fk_391 hF54) (fl_391 hF54) (fun _ => ?_))))
                exact tr_retI hF54
              · refine tr_ldI rfl (?_)
                refine tr_gotoE e256_104 (?_)
                exact tr_retI hF54
      · refine tr_pushI (?_)
        exact tr_retI hF15
-- Mo_endsSo
abbrev t257_75 : List hOp := oLdI 7 :: oRetZ :: []
abbrev t257_65 : List hOp := oLdI 3 :: oPushI (-1) :: oIf cEq 75 :: oLdA 0 :: oGetP 12 3 :: oPushI 7 :: oLdI 3 :: oBin (fun x y => x + y) :: oLdI 5 :: oAStI :: t257_75
abbrev t257_54 : List hOp := oStI 7 :: oLdI 4 :: oPushI (-1) :: oIf cEq 65 :: oLdA 0 :: oGetP 12 3 :: oPushI 7 :: oLdI 4 :: oBin (fun x y => x + y) :: oLdI 6 :: oAStI :: t257_65
abbrev t257_53 : List hOp := oPushI 0 :: t257_54
abbrev t257_44 : List hOp := oLdA 0 :: oInvV 230 12 0 :: oLdA 0 :: oLdI 1 :: oInvV 245 12 1 :: oLdI 2 :: oIf cNe 53 :: oPushI 1 :: oGoto 54 :: t257_53
abbrev t257_34 : List hOp := oLdI 4 :: oPushI (-1) :: oIf cEq 44 :: oLdA 0 :: oGetP 12 3 :: oPushI 7 :: oLdI 4 :: oBin (fun x y => x + y) :: oPushI 9 :: oAStI :: t257_44
abbrev t257_23 : List hOp := oStI 6 :: oLdI 3 :: oPushI (-1) :: oIf cEq 34 :: oLdA 0 :: oGetP 12 3 :: oPushI 7 :: oLdI 3 :: oBin (fun x y => x + y) :: oPushI 9 :: oAStI :: t257_34
abbrev t257_17 : List hOp := oLdA 0 :: oGetP 12 3 :: oPushI 7 :: oLdI 4 :: oBin (fun x y => x + y) :: oALdI 13 :: t257_23
abbrev t257_11 : List hOp := oStI 5 :: oLdI 4 :: oPushI (-1) :: oIf cNe 17 :: oPushI 0 :: oGoto 23 :: t257_17
abbrev t257_5 : List hOp := oLdA 0 :: oGetP 12 3 :: oPushI 7 :: oLdI 3 :: oBin (fun x y => x + y) :: oALdI 13 :: t257_11
abbrev t257_0 : List hOp := oLdI 3 :: oPushI (-1) :: oIf cNe 5 :: oPushI 0 :: oGoto 11 :: t257_5
theorem e257_0 : (opsOf 257).drop 0 = t257_0 := rfl
theorem e257_5 : (opsOf 257).drop 5 = t257_5 := rfl
theorem e257_11 : (opsOf 257).drop 11 = t257_11 := rfl
theorem e257_17 : (opsOf 257).drop 17 = t257_17 := rfl
theorem e257_23 : (opsOf 257).drop 23 = t257_23 := rfl
theorem e257_34 : (opsOf 257).drop 34 = t257_34 := rfl
theorem e257_44 : (opsOf 257).drop 44 = t257_44 := rfl
theorem e257_53 : (opsOf 257).drop 53 = t257_53 := rfl
theorem e257_54 : (opsOf 257).drop 54 = t257_54 := rfl
theorem e257_65 : (opsOf 257).drop 65 = t257_65 := rfl
theorem e257_75 : (opsOf 257).drop 75 = t257_75 := rfl
def q_Mo_endsSo_65 (v3 : Int32) (v5 : Int32) (v7 : Int32) (g : hG) : hO Int32 :=
  if v3 = (-1 : Int32) then (gb v7 (some (v7, g))) else (gd ((7 : Int32) + v3) 5468 <| wr (sI g 369 ((7 : Int32) + v3).toNatClampNeg v5) fun g13 => gb v7 (some (v7, g13)))
theorem th257_65 {e : Nat} (he : 6 ≤ e + 1) {v3 : Int32} {v5 : Int32} {v7 : Int32} {u1 : Option Value} {u2 : Option Value} {u4 : Option Value} {u6 : Option Value} (hu4 : isL (some u4) = false) (hu6 : isL (some u6) = false) {g : hG} (hF : Frz g) : Tri wI (e + 1) 257 t257_65 [some (.ref 367), u1, u2, some (.int v3), u4, some (.int v5), u6, some (.int v7)] [] g (q_Mo_endsSo_65 v3 v5 v7 g) := by
  unfold q_Mo_endsSo_65
  refine tr_ldI rfl (tr_pushI (?_))
  refine tr_ifj e257_75 (c_eq _ _) (fun hc12 => ?_) (fun hc12 => ?_)
  · refine tr_ldI rfl (?_)
    exact tr_retZ hF
  · refine tr_ldA rfl (tr_getP (b := 369) (fk_367 hF) (fp_367_3 hF) (tr_pushI (tr_ldI rfl (tr_bin (v := ((7 : Int32) + v3)) rfl (tr_ldI rfl (?_))))))
    refine tr_astI hF (fk_369 hF) (fl_369 hF) (fun _ g13 _ hF14 => tr_ldI rfl (?_))
    exact tr_retZ hF14
def q_Mo_endsSo_54 (v3 : Int32) (v4 : Int32) (v5 : Int32) (v6 : Int32) (w0 : Int32) (g : hG) : hO Int32 :=
  if v4 = (-1 : Int32) then (q_Mo_endsSo_65 v3 v5 w0 g) else (gd ((7 : Int32) + v4) 5468 <| wr (sI g 369 ((7 : Int32) + v4).toNatClampNeg v6) fun g15 => q_Mo_endsSo_65 v3 v5 w0 g15)
theorem th257_54 {e : Nat} (he : 6 ≤ e + 1) {v3 : Int32} {v4 : Int32} {v5 : Int32} {v6 : Int32} {w0 : Int32} {u1 : Option Value} {u2 : Option Value} {u7 : Option Value} {g : hG} (hF : Frz g) : Tri wI (e + 1) 257 t257_54 [some (.ref 367), u1, u2, some (.int v3), some (.int v4), some (.int v5), some (.int v6), u7] [.int w0] g (q_Mo_endsSo_54 v3 v4 v5 v6 w0 g) := by
  unfold q_Mo_endsSo_54
  refine tr_stI (Nat.le_of_ble_eq_true rfl) rfl rfl (tr_ldI rfl (tr_pushI (?_)))
  refine tr_ifj e257_65 (c_eq _ _) (fun hc11 => ?_) (fun hc11 => ?_)
  · exact th257_65 he rfl rfl hF
  · refine tr_ldA rfl (tr_getP (b := 369) (fk_367 hF) (fp_367_3 hF) (tr_pushI (tr_ldI rfl (tr_bin (v := ((7 : Int32) + v4)) rfl (tr_ldI rfl (?_))))))
    refine tr_astI hF (fk_369 hF) (fl_369 hF) (fun _ g15 _ hF16 => ?_)
    exact th257_65 he rfl rfl hF16
def q_Mo_endsSo_44 (v1 : Int32) (v2 : Int32) (v3 : Int32) (v4 : Int32) (v5 : Int32) (v6 : Int32) (g : hG) : hO Int32 :=
  bnd (q_Mo_layRuns g) fun _ g5 => bnd (q_Mo_endOf v1 g5) fun r9 g7 => q_Mo_endsSo_54 v3 v4 v5 v6 (if r9 = v2 then (1 : Int32) else (0 : Int32)) g7
theorem th257_44 {e : Nat} (he : 6 ≤ e + 1) {v1 : Int32} {v2 : Int32} {v3 : Int32} {v4 : Int32} {v5 : Int32} {v6 : Int32} {u7 : Option Value} {g : hG} (hF : Frz g) : Tri wI (e + 1) 257 t257_44 [some (.ref 367), some (.int v1), some (.int v2), some (.int v3), some (.int v4), some (.int v5), some (.int v6), u7] [] g (q_Mo_endsSo_44 v1 v2 v3 v4 v5 v6 g) := by
  unfold q_Mo_endsSo_44
  refine tr_ldA rfl (?_)
  refine tr_invVU rfl rfl (fk_367 hF) (Nat.le_of_ble_eq_true rfl) (by decide) (Nat.le_of_ble_eq_true rfl) (tm230 (by omega) hF) (fun _ g5 _ hF6 => ?_)
  refine tr_ldA rfl (tr_ldI rfl (?_))
  refine tr_invVI rfl rfl (fk_367 hF6) (Nat.le_of_ble_eq_true rfl) (by decide) (Nat.le_of_ble_eq_true rfl) (tm245 (by omega) hF6) (fun r9 g7 _ hF8 => ?_)
  refine tr_ldI rfl (?_)
  refine tr_ifcE e257_53 (c_ne _ _) (fun hc17 => ?_) (fun hc17 => ?_)
  · rw [if_neg hc17]
    refine tr_pushI (?_)
    exact th257_54 he hF8
  · rw [if_pos (Decidable.not_not.mp hc17)]
    refine tr_pushI (?_)
    refine tr_gotoE e257_54 (?_)
    exact th257_54 he hF8
def q_Mo_endsSo_34 (v1 : Int32) (v2 : Int32) (v3 : Int32) (v4 : Int32) (v5 : Int32) (v6 : Int32) (g : hG) : hO Int32 :=
  if v4 = (-1 : Int32) then (q_Mo_endsSo_44 v1 v2 v3 v4 v5 v6 g) else (gd ((7 : Int32) + v4) 5468 <| wr (sI g 369 ((7 : Int32) + v4).toNatClampNeg (9 : Int32)) fun g18 => q_Mo_endsSo_44 v1 v2 v3 v4 v5 v6 g18)
theorem th257_34 {e : Nat} (he : 6 ≤ e + 1) {v1 : Int32} {v2 : Int32} {v3 : Int32} {v4 : Int32} {v5 : Int32} {v6 : Int32} {u7 : Option Value} {g : hG} (hF : Frz g) : Tri wI (e + 1) 257 t257_34 [some (.ref 367), some (.int v1), some (.int v2), some (.int v3), some (.int v4), some (.int v5), some (.int v6), u7] [] g (q_Mo_endsSo_34 v1 v2 v3 v4 v5 v6 g) := by
  unfold q_Mo_endsSo_34
  refine tr_ldI rfl (tr_pushI (?_))
  refine tr_ifj e257_44 (c_eq _ _) (fun hc4 => ?_) (fun hc4 => ?_)
  · exact th257_44 he hF
  · refine tr_ldA rfl (tr_getP (b := 369) (fk_367 hF) (fp_367_3 hF) (tr_pushI (tr_ldI rfl (tr_bin (v := ((7 : Int32) + v4)) rfl (tr_pushI (?_))))))
    refine tr_astI hF (fk_369 hF) (fl_369 hF) (fun _ g18 _ hF19 => ?_)
    exact th257_44 he hF19
def q_Mo_endsSo_23 (v1 : Int32) (v2 : Int32) (v3 : Int32) (v4 : Int32) (v5 : Int32) (w0 : Int32) (g : hG) : hO Int32 :=
  if v3 = (-1 : Int32) then (q_Mo_endsSo_34 v1 v2 v3 v4 v5 w0 g) else (gd ((7 : Int32) + v3) 5468 <| wr (sI g 369 ((7 : Int32) + v3).toNatClampNeg (9 : Int32)) fun g20 => q_Mo_endsSo_34 v1 v2 v3 v4 v5 w0 g20)
theorem th257_23 {e : Nat} (he : 6 ≤ e + 1) {v1 : Int32} {v2 : Int32} {v3 : Int32} {v4 : Int32} {v5 : Int32} {w0 : Int32} {u6 : Option Value} {u7 : Option Value} (hu6 : isL (some u6) = false) {g : hG} (hF : Frz g) : Tri wI (e + 1) 257 t257_23 [some (.ref 367), some (.int v1), some (.int v2), some (.int v3), some (.int v4), some (.int v5), u6, u7] [.int w0] g (q_Mo_endsSo_23 v1 v2 v3 v4 v5 w0 g) := by
  unfold q_Mo_endsSo_23
  refine tr_stI (Nat.le_of_ble_eq_true rfl) rfl rfl (tr_ldI rfl (tr_pushI (?_)))
  refine tr_ifj e257_34 (c_eq _ _) (fun hc3 => ?_) (fun hc3 => ?_)
  · exact th257_34 he hF
  · refine tr_ldA rfl (tr_getP (b := 369) (fk_367 hF) (fp_367_3 hF) (tr_pushI (tr_ldI rfl (tr_bin (v := ((7 : Int32) + v3)) rfl (tr_pushI (?_))))))
    refine tr_astI hF (fk_369 hF) (fl_369 hF) (fun _ g20 _ hF21 => ?_)
    exact th257_34 he hF21
def q_Mo_endsSo_11 (v1 : Int32) (v2 : Int32) (v3 : Int32) (v4 : Int32) (w0 : Int32) (g : hG) : hO Int32 :=
  if v4 = (-1 : Int32) then (q_Mo_endsSo_23 v1 v2 v3 v4 w0 (0 : Int32) g) else (gd ((7 : Int32) + v4) 5468 <| q_Mo_endsSo_23 v1 v2 v3 v4 w0 (gI g 369 ((7 : Int32) + v4).toNatClampNeg) g)
theorem th257_11 {e : Nat} (he : 6 ≤ e + 1) {v1 : Int32} {v2 : Int32} {v3 : Int32} {v4 : Int32} {w0 : Int32} {u5 : Option Value} {u6 : Option Value} {u7 : Option Value} (hu5 : isL (some u5) = false) (hu6 : isL (some u6) = false) {g : hG} (hF : Frz g) : Tri wI (e + 1) 257 t257_11 [some (.ref 367), some (.int v1), some (.int v2), some (.int v3), some (.int v4), u5, u6, u7] [.int w0] g (q_Mo_endsSo_11 v1 v2 v3 v4 w0 g) := by
  unfold q_Mo_endsSo_11
  refine tr_stI (Nat.le_of_ble_eq_true rfl) rfl rfl (tr_ldI rfl (tr_pushI (?_)))
  refine tr_ifn e257_17 (c_ne _ _) (fun hc2 => ?_) (fun hc2 => ?_)
  · refine tr_ldA rfl (tr_getP (b := 369) (fk_367 hF) (fp_367_3 hF) (tr_pushI (tr_ldI rfl (tr_bin (v := ((7 : Int32) + v4)) rfl (tr_aldI (fk_369 hF) (fl_369 hF) (fun _ => ?_))))))
    exact th257_23 he hu6 hF
  · refine tr_pushI (?_)
    refine tr_gotoE e257_23 (?_)
    exact th257_23 he hu6 hF
def q_Mo_endsSo (v1 : Int32) (v2 : Int32) (v3 : Int32) (v4 : Int32) (g : hG) : hO Int32 :=
  if v3 = (-1 : Int32) then (q_Mo_endsSo_11 v1 v2 v3 v4 (0 : Int32) g) else (gd ((7 : Int32) + v3) 5468 <| q_Mo_endsSo_11 v1 v2 v3 v4 (gI g 369 ((7 : Int32) + v3).toNatClampNeg) g)
theorem tm257 {d : Nat} {v1 : Int32} {v2 : Int32} {v3 : Int32} {v4 : Int32} (hd : 6 ≤ d) {g : hG} (hF : Frz g) : TM wI d 257 [.ref 367, .int v1, .int v2, .int v3, .int v4] g (q_Mo_endsSo v1 v2 v3 v4 g) := by
  obtain ⟨e, rfl⟩ : ∃ e, d = e + 1 := ⟨d - 1, by omega⟩
  have he := hd
  refine TM.ofE e257_0 (lv := [some (.ref 367), some (.int v1), some (.int v2), some (.int v3), some (.int v4), none, none, none]) rfl ?_
  unfold q_Mo_endsSo
  refine tr_ldI rfl (tr_pushI (?_))
  refine tr_ifn e257_5 (c_ne _ _) (fun hc1 => ?_) (fun hc1 => ?_)
  · refine tr_ldA rfl (tr_getP (b := 369) (fk_367 hF) (fp_367_3 hF) (tr_pushI (tr_ldI rfl (tr_bin (v := ((7 : Int32) + v3)) rfl (tr_aldI (fk_369 hF) (fl_369 hF) (fun _ => ?_))))))
    exact th257_11 he rfl rfl hF
  · refine tr_pushI (?_)
    refine tr_gotoE e257_11 (?_)
    exact th257_11 he rfl rfl hF
-- Mo_canRaise
abbrev t258_17 : List hOp := oRetZ :: []
abbrev t258_16 : List hOp := oPushI 0 :: t258_17
abbrev t258_0 : List hOp := oLdI 3 :: oLdI 1 :: oIf cEq 16 :: oLdI 3 :: oLdI 2 :: oIf cEq 16 :: oLdA 0 :: oGetP 12 3 :: oPushI 7 :: oLdI 3 :: oBin (fun x y => x + y) :: oALdI 13 :: oPushI 9 :: oIf cGe 16 :: oPushI 1 :: oGoto 17 :: t258_16
theorem e258_0 : (opsOf 258).drop 0 = t258_0 := rfl
theorem e258_16 : (opsOf 258).drop 16 = t258_16 := rfl
theorem e258_17 : (opsOf 258).drop 17 = t258_17 := rfl
def q_Mo_canRaise (v1 : Int32) (v2 : Int32) (v3 : Int32) (g : hG) : hO Int32 :=
  if v3 = v1 then (some ((0 : Int32), g)) else (if v3 = v2 then (some ((0 : Int32), g)) else (gd ((7 : Int32) + v3) 5468 <| if (9 : Int32) ≤ (gI g 369 ((7 : Int32) + v3).toNatClampNeg) then (some ((0 : Int32), g)) else (some ((1 : Int32), g))))
theorem tm258 {d : Nat} {v1 : Int32} {v2 : Int32} {v3 : Int32} {g : hG} (hF : Frz g) : TM wI d 258 [.ref 367, .int v1, .int v2, .int v3] g (q_Mo_canRaise v1 v2 v3 g) := by
  refine TM.ofE e258_0 (lv := [some (.ref 367), some (.int v1), some (.int v2), some (.int v3)]) rfl ?_
  unfold q_Mo_canRaise
  refine tr_ldI rfl (tr_ldI rfl (?_))
  refine tr_ifj e258_16 (c_eq _ _) (fun hc1 => ?_) (fun hc1 => ?_)
  · refine tr_pushI (?_)
    exact tr_retZl (Or.inl rfl) hF
  · refine tr_ldI rfl (tr_ldI rfl (?_))
    refine tr_ifj e258_16 (c_eq _ _) (fun hc2 => ?_) (fun hc2 => ?_)
    · refine tr_pushI (?_)
      exact tr_retZl (Or.inl rfl) hF
    · refine tr_ldA rfl (tr_getP (b := 369) (fk_367 hF) (fp_367_3 hF) (tr_pushI (tr_ldI rfl (tr_bin (v := ((7 : Int32) + v3)) rfl (tr_aldI (fk_369 hF) (fl_369 hF) (fun _ => ?_))))))
      refine tr_pushI (?_)
      refine tr_ifj e258_16 (c_ge _ _) (fun hc3 => ?_) (fun hc3 => ?_)
      · refine tr_pushI (?_)
        exact tr_retZl (Or.inl rfl) hF
      · refine tr_pushI (?_)
        refine tr_gotoE e258_17 (?_)
        exact tr_retZl (Or.inr rfl) hF
-- Mo_kerbSet
abbrev t259_74 : List hOp := oPushI (-1) :: oRetI :: []
abbrev t259_72 : List hOp := oInc 3 1 :: oGoto 35 :: t259_74
abbrev t259_70 : List hOp := oInc 4 1 :: oGoto 40 :: t259_72
abbrev t259_62 : List hOp := oPushI 1 :: oLdI 4 :: oBin (fun x y => x <<< (y &&& 31)) :: oPushI 1 :: oLdI 3 :: oBin (fun x y => x <<< (y &&& 31)) :: oBin (fun x y => x ||| y) :: oRetI :: t259_70
abbrev t259_40 : List hOp := oLdI 4 :: oLdI 3 :: oIf cGe 72 :: oLdA 0 :: oLdI 1 :: oLdI 2 :: oLdI 4 :: oInvV 258 12 3 :: oIf0 cEq 70 :: oLdA 0 :: oLdI 1 :: oLdI 2 :: oLdI 3 :: oInvV 258 12 3 :: oIf0 cEq 70 :: oLdA 0 :: oLdI 1 :: oLdI 2 :: oLdI 4 :: oLdI 3 :: oInvV 257 12 4 :: oIf0 cEq 70 :: t259_62
abbrev t259_35 : List hOp := oLdI 3 :: oPushI 25 :: oIf cGe 74 :: oPushI 0 :: oStI 4 :: t259_40
abbrev t259_33 : List hOp := oPushI 0 :: oStI 3 :: t259_35
abbrev t259_31 : List hOp := oInc 3 1 :: oGoto 11 :: t259_33
abbrev t259_27 : List hOp := oPushI 1 :: oLdI 3 :: oBin (fun x y => x <<< (y &&& 31)) :: oRetI :: t259_31
abbrev t259_11 : List hOp := oLdI 3 :: oPushI 25 :: oIf cGe 33 :: oLdA 0 :: oLdI 1 :: oLdI 2 :: oLdI 3 :: oInvV 258 12 3 :: oIf0 cEq 31 :: oLdA 0 :: oLdI 1 :: oLdI 2 :: oLdI 3 :: oPushI (-1) :: oInvV 257 12 4 :: oIf0 cEq 31 :: t259_27
abbrev t259_9 : List hOp := oPushI 0 :: oStI 3 :: t259_11
abbrev t259_0 : List hOp := oLdA 0 :: oLdI 1 :: oLdI 2 :: oPushI (-1) :: oPushI (-1) :: oInvV 257 12 4 :: oIf0 cEq 9 :: oPushI 0 :: oRetI :: t259_9
theorem e259_0 : (opsOf 259).drop 0 = t259_0 := rfl
theorem e259_9 : (opsOf 259).drop 9 = t259_9 := rfl
theorem e259_11 : (opsOf 259).drop 11 = t259_11 := rfl
theorem e259_31 : (opsOf 259).drop 31 = t259_31 := rfl
theorem e259_33 : (opsOf 259).drop 33 = t259_33 := rfl
theorem e259_35 : (opsOf 259).drop 35 = t259_35 := rfl
theorem e259_40 : (opsOf 259).drop 40 = t259_40 := rfl
theorem e259_70 : (opsOf 259).drop 70 = t259_70 := rfl
theorem e259_72 : (opsOf 259).drop 72 = t259_72 := rfl
theorem e259_74 : (opsOf 259).drop 74 = t259_74 := rfl
def q_Mo_kerbSet_11 (v1 : Int32) (v2 : Int32) (k33 : hG → hO Int32) (k11 : Int32 → hG → hO Int32) (v3 : Int32) (g : hG) : hO Int32 :=
  if (25 : Int32) ≤ v3 then (k33 g) else (bnd (q_Mo_canRaise v1 v2 v3 g) fun r8 g6 => if r8 = (0 : Int32) then (k11 (v3 + (1 : Int32)) g6) else (bnd (q_Mo_endsSo v1 v2 v3 (-1 : Int32) g6) fun r12 g10 => if r12 = (0 : Int32) then (k11 (v3 + (1 : Int32)) g10) else (some ((shl (1 : Int32) v3), g10))))
def q_Mo_kerbSet_11L (v1 : Int32) (v2 : Int32) (k33 : hG → hO Int32) : Nat → Int32 → hG → hO Int32
  | 0 => fun _ _ => none
  | n + 1 => fun v3 g => q_Mo_kerbSet_11 v1 v2 k33 (q_Mo_kerbSet_11L v1 v2 k33 n) v3 g
theorem q_Mo_kerbSet_11L_s (v1 : Int32) (v2 : Int32) (k33 : hG → hO Int32) (n : Nat) (v3 : Int32) (g : hG) : q_Mo_kerbSet_11L v1 v2 k33 (n + 1) v3 g = q_Mo_kerbSet_11 v1 v2 k33 (q_Mo_kerbSet_11L v1 v2 k33 n) v3 g := rfl
theorem th259_11 {e : Nat} (he : 7 ≤ e + 1) {v1 : Int32} {v2 : Int32} {k33 : hG → hO Int32} {k11 : Int32 → hG → hO Int32} {v3 : Int32} {u4 : Option Value} (hk33 : ∀ (y3 : Option Value) (_ : isL (some y3) = false) (g : hG), Frz g → Tri wI (e + 1) 259 t259_33 [some (.ref 367), some (.int v1), some (.int v2), y3, u4] [] g (k33 g)) (hk11 : ∀ (x3 : Int32) (g : hG), Frz g → Tri wI (e + 1) 259 t259_11 [some (.ref 367), some (.int v1), some (.int v2), some (.int x3), u4] [] g (k11 x3 g)) {g : hG} (hF : Frz g) : Tri wI (e + 1) 259 t259_11 [some (.ref 367), some (.int v1), some (.int v2), some (.int v3), u4] [] g (q_Mo_kerbSet_11 v1 v2 k33 k11 v3 g) := by
  unfold q_Mo_kerbSet_11
  refine tr_ldI rfl (tr_pushI (?_))
  refine tr_ifj e259_33 (c_ge _ _) (fun hc5 => ?_) (fun hc5 => ?_)
  · exact hk33 _ rfl _ hF
  · refine tr_ldA rfl (tr_ldI rfl (tr_ldI rfl (tr_ldI rfl (?_))))
    refine tr_invVI rfl rfl (fk_367 hF) (Nat.le_of_ble_eq_true rfl) (by decide) (Nat.le_of_ble_eq_true rfl) (tm258 hF) (fun r8 g6 _ hF7 => ?_)
    refine tr_if0j e259_31 (c_eq _ _) (fun hc9 => ?_) (fun hc9 => ?_)
    · refine tr_inc rfl rfl rfl (?_)
      refine tr_gotoE e259_11 (?_)
      exact hk11 _ _ hF7
    · refine tr_ldA rfl (tr_ldI rfl (tr_ldI rfl (tr_ldI rfl (tr_pushI (?_)))))
      refine tr_invVI rfl rfl (fk_367 hF7) (Nat.le_of_ble_eq_true rfl) (by decide) (Nat.le_of_ble_eq_true rfl) (tm257 (by omega) hF7) (fun r12 g10 _ hF11 => ?_)
      refine tr_if0j e259_31 (c_eq _ _) (fun hc13 => ?_) (fun hc13 => ?_)
      · refine tr_inc rfl rfl rfl (?_)
        refine tr_gotoE e259_11 (?_)
        exact hk11 _ _ hF11
      · refine tr_pushI (tr_ldI rfl (tr_bin (v := (shl (1 : Int32) v3)) rfl (?_)))
        exact tr_retI hF11
theorem th259_11L {e : Nat} (he : 7 ≤ e + 1) {v1 : Int32} {v2 : Int32} {k33 : hG → hO Int32} {u4 : Option Value} (hk33 : ∀ (y3 : Option Value) (_ : isL (some y3) = false) (g : hG), Frz g → Tri wI (e + 1) 259 t259_33 [some (.ref 367), some (.int v1), some (.int v2), y3, u4] [] g (k33 g)) : ∀ (n : Nat) (v3 : Int32) (g : hG), Frz g → Tri wI (e + 1) 259 t259_11 [some (.ref 367), some (.int v1), some (.int v2), some (.int v3), u4] [] g (q_Mo_kerbSet_11L v1 v2 k33 n v3 g)
  | 0 => fun _ _ _ => Tri.none_
  | n + 1 => fun _ g hF => th259_11 he hk33 (th259_11L he hk33 n) hF
def q_Mo_kerbSet_40 (v1 : Int32) (v2 : Int32) (v3 : Int32) (k72 : hG → hO Int32) (k40 : Int32 → hG → hO Int32) (v4 : Int32) (g : hG) : hO Int32 :=
  if v3 ≤ v4 then (k72 g) else (bnd (q_Mo_canRaise v1 v2 v4 g) fun r21 g19 => if r21 = (0 : Int32) then (k40 (v4 + (1 : Int32)) g19) else (bnd (q_Mo_canRaise v1 v2 v3 g19) fun r25 g23 => if r25 = (0 : Int32) then (k40 (v4 + (1 : Int32)) g23) else (bnd (q_Mo_endsSo v1 v2 v4 v3 g23) fun r29 g27 => if r29 = (0 : Int32) then (k40 (v4 + (1 : Int32)) g27) else (some (((shl (1 : Int32) v4) ||| (shl (1 : Int32) v3)), g27)))))
def q_Mo_kerbSet_40L (v1 : Int32) (v2 : Int32) (v3 : Int32) (k72 : hG → hO Int32) : Nat → Int32 → hG → hO Int32
  | 0 => fun _ _ => none
  | n + 1 => fun v4 g => q_Mo_kerbSet_40 v1 v2 v3 k72 (q_Mo_kerbSet_40L v1 v2 v3 k72 n) v4 g
theorem q_Mo_kerbSet_40L_s (v1 : Int32) (v2 : Int32) (v3 : Int32) (k72 : hG → hO Int32) (n : Nat) (v4 : Int32) (g : hG) : q_Mo_kerbSet_40L v1 v2 v3 k72 (n + 1) v4 g = q_Mo_kerbSet_40 v1 v2 v3 k72 (q_Mo_kerbSet_40L v1 v2 v3 k72 n) v4 g := rfl
theorem th259_40 {e : Nat} (he : 7 ≤ e + 1) {v1 : Int32} {v2 : Int32} {v3 : Int32} {k72 : hG → hO Int32} {k40 : Int32 → hG → hO Int32} {v4 : Int32} (hk72 : ∀ (y4 : Option Value) (g : hG), Frz g → Tri wI (e + 1) 259 t259_72 [some (.ref 367), some (.int v1), some (.int v2), some (.int v3), y4] [] g (k72 g)) (hk40 : ∀ (x4 : Int32) (g : hG), Frz g → Tri wI (e + 1) 259 t259_40 [some (.ref 367), some (.int v1), some (.int v2), some (.int v3), some (.int x4)] [] g (k40 x4 g)) {g : hG} (hF : Frz g) : Tri wI (e + 1) 259 t259_40 [some (.ref 367), some (.int v1), some (.int v2), some (.int v3), some (.int v4)] [] g (q_Mo_kerbSet_40 v1 v2 v3 k72 k40 v4 g) := by
  unfold q_Mo_kerbSet_40
  refine tr_ldI rfl (tr_ldI rfl (?_))
  refine tr_ifj e259_72 (c_ge _ _) (fun hc18 => ?_) (fun hc18 => ?_)
  · exact hk72 _ _ hF
  · refine tr_ldA rfl (tr_ldI rfl (tr_ldI rfl (tr_ldI rfl (?_))))
    refine tr_invVI rfl rfl (fk_367 hF) (Nat.le_of_ble_eq_true rfl) (by decide) (Nat.le_of_ble_eq_true rfl) (tm258 hF) (fun r21 g19 _ hF20 => ?_)
    refine tr_if0j e259_70 (c_eq _ _) (fun hc22 => ?_) (fun hc22 => ?_)
    · refine tr_inc rfl rfl rfl (?_)
      refine tr_gotoE e259_40 (?_)
      exact hk40 _ _ hF20
    · refine tr_ldA rfl (tr_ldI rfl (tr_ldI rfl (tr_ldI rfl (?_))))
      refine tr_invVI rfl rfl (fk_367 hF20) (Nat.le_of_ble_eq_true rfl) (by decide) (Nat.le_of_ble_eq_true rfl) (tm258 hF20) (fun r25 g23 _ hF24 => ?_)
      refine tr_if0j e259_70 (c_eq _ _) (fun hc26 => ?_) (fun hc26 => ?_)
      · refine tr_inc rfl rfl rfl (?_)
        refine tr_gotoE e259_40 (?_)
        exact hk40 _ _ hF24
      · refine tr_ldA rfl (tr_ldI rfl (tr_ldI rfl (tr_ldI rfl (tr_ldI rfl (?_)))))
        refine tr_invVI rfl rfl (fk_367 hF24) (Nat.le_of_ble_eq_true rfl) (by decide) (Nat.le_of_ble_eq_true rfl) (tm257 (by omega) hF24) (fun r29 g27 _ hF28 => ?_)
        refine tr_if0j e259_70 (c_eq _ _) (fun hc30 => ?_) (fun hc30 => ?_)
        · refine tr_inc rfl rfl rfl (?_)
          refine tr_gotoE e259_40 (?_)
          exact hk40 _ _ hF28
        · refine tr_pushI (tr_ldI rfl (tr_bin (v := (shl (1 : Int32) v4)) rfl (tr_pushI (tr_ldI rfl (tr_bin (v := (shl (1 : Int32) v3)) rfl (?_))))))
          refine tr_bin (v := ((shl (1 : Int32) v4) ||| (shl (1 : Int32) v3))) rfl (?_)
          exact tr_retI hF28
theorem th259_40L {e : Nat} (he : 7 ≤ e + 1) {v1 : Int32} {v2 : Int32} {v3 : Int32} {k72 : hG → hO Int32} (hk72 : ∀ (y4 : Option Value) (g : hG), Frz g → Tri wI (e + 1) 259 t259_72 [some (.ref 367), some (.int v1), some (.int v2), some (.int v3), y4] [] g (k72 g)) : ∀ (n : Nat) (v4 : Int32) (g : hG), Frz g → Tri wI (e + 1) 259 t259_40 [some (.ref 367), some (.int v1), some (.int v2), some (.int v3), some (.int v4)] [] g (q_Mo_kerbSet_40L v1 v2 v3 k72 n v4 g)
  | 0 => fun _ _ _ => Tri.none_
  | n + 1 => fun _ g hF => th259_40 he hk72 (th259_40L he hk72 n) hF
def q_Mo_kerbSet_35 (v1 : Int32) (v2 : Int32) (k74 : hG → hO Int32) (k35 : Int32 → hG → hO Int32) (v3 : Int32) (g : hG) : hO Int32 :=
  if (25 : Int32) ≤ v3 then (k74 g) else (q_Mo_kerbSet_40L v1 v2 v3 (fun g32 => k35 (v3 + (1 : Int32)) g32) FU (0 : Int32) g)
def q_Mo_kerbSet_35L (v1 : Int32) (v2 : Int32) (k74 : hG → hO Int32) : Nat → Int32 → hG → hO Int32
  | 0 => fun _ _ => none
  | n + 1 => fun v3 g => q_Mo_kerbSet_35 v1 v2 k74 (q_Mo_kerbSet_35L v1 v2 k74 n) v3 g
theorem q_Mo_kerbSet_35L_s (v1 : Int32) (v2 : Int32) (k74 : hG → hO Int32) (n : Nat) (v3 : Int32) (g : hG) : q_Mo_kerbSet_35L v1 v2 k74 (n + 1) v3 g = q_Mo_kerbSet_35 v1 v2 k74 (q_Mo_kerbSet_35L v1 v2 k74 n) v3 g := rfl
theorem th259_35 {e : Nat} (he : 7 ≤ e + 1) {v1 : Int32} {v2 : Int32} {k74 : hG → hO Int32} {k35 : Int32 → hG → hO Int32} {v3 : Int32} {u4 : Option Value} (hk74 : ∀ (y3 : Option Value) (y4 : Option Value) (_ : isL (some y3) = false) (g : hG), Frz g → Tri wI (e + 1) 259 t259_74 [some (.ref 367), some (.int v1), some (.int v2), y3, y4] [] g (k74 g)) (hk35 : ∀ (x3 : Int32) (y4 : Option Value) (g : hG), Frz g → Tri wI (e + 1) 259 t259_35 [some (.ref 367), some (.int v1), some (.int v2), some (.int x3), y4] [] g (k35 x3 g)) {g : hG} (hF : Frz g) : Tri wI (e + 1) 259 t259_35 [some (.ref 367), some (.int v1), some (.int v2), some (.int v3), u4] [] g (q_Mo_kerbSet_35 v1 v2 k74 k35 v3 g) := by
  unfold q_Mo_kerbSet_35
  refine tr_ldI rfl (tr_pushI (?_))
  refine tr_ifj e259_74 (c_ge _ _) (fun hc17 => ?_) (fun hc17 => ?_)
  · exact hk74 _ _ rfl _ hF
  · refine tr_pushI (tr_stI (Nat.le_of_ble_eq_true rfl) rfl rfl (?_))
    refine th259_40L he (fun y31 g32 hF33 => ?_) FU _ _ hF
    · refine tr_inc rfl rfl rfl (?_)
      refine tr_gotoE e259_35 (?_)
      exact hk35 _ _ _ hF33
theorem th259_35L {e : Nat} (he : 7 ≤ e + 1) {v1 : Int32} {v2 : Int32} {k74 : hG → hO Int32} (hk74 : ∀ (y3 : Option Value) (y4 : Option Value) (_ : isL (some y3) = false) (g : hG), Frz g → Tri wI (e + 1) 259 t259_74 [some (.ref 367), some (.int v1), some (.int v2), y3, y4] [] g (k74 g)) : ∀ (n : Nat) (v3 : Int32) (u4 : Option Value) (g : hG), Frz g → Tri wI (e + 1) 259 t259_35 [some (.ref 367), some (.int v1), some (.int v2), some (.int v3), u4] [] g (q_Mo_kerbSet_35L v1 v2 k74 n v3 g)
  | 0 => fun _ _ _ _ => Tri.none_
  | n + 1 => fun _ _ g hF => th259_35 he hk74 (th259_35L he hk74 n) hF
def q_Mo_kerbSet (v1 : Int32) (v2 : Int32) (g : hG) : hO Int32 :=
  bnd (q_Mo_endsSo v1 v2 (-1 : Int32) (-1 : Int32) g) fun r3 g1 => if r3 = (0 : Int32) then (q_Mo_kerbSet_11L v1 v2 (fun g15 => q_Mo_kerbSet_35L v1 v2 (fun g36 => some ((-1 : Int32), g36)) FU (0 : Int32) g15) FU (0 : Int32) g1) else (some ((0 : Int32), g1))
theorem tm259 {d : Nat} {v1 : Int32} {v2 : Int32} (hd : 7 ≤ d) {g : hG} (hF : Frz g) : TM wI d 259 [.ref 367, .int v1, .int v2] g (q_Mo_kerbSet v1 v2 g) := by
  obtain ⟨e, rfl⟩ : ∃ e, d = e + 1 := ⟨d - 1, by omega⟩
  have he := hd
  refine TM.ofE e259_0 (lv := [some (.ref 367), some (.int v1), some (.int v2), none, none]) rfl ?_
  unfold q_Mo_kerbSet
  refine tr_ldA rfl (tr_ldI rfl (tr_ldI rfl (tr_pushI (tr_pushI (?_)))))
  refine tr_invVI rfl rfl (fk_367 hF) (Nat.le_of_ble_eq_true rfl) (by decide) (Nat.le_of_ble_eq_true rfl) (tm257 (by omega) hF) (fun r3 g1 _ hF2 => ?_)
  refine tr_if0j e259_9 (c_eq _ _) (fun hc4 => ?_) (fun hc4 => ?_)
  · refine tr_pushI (tr_stI (Nat.le_of_ble_eq_true rfl) rfl rfl (?_))
    refine th259_11L he (fun y14 zy14 g15 hF16 => ?_) FU _ _ hF2
    · refine tr_pushI (tr_stI (Nat.le_of_ble_eq_true rfl) rfl rfl (?_))
      refine th259_35L he (fun y34 y35 zy34 g36 hF37 => ?_) FU _ _ _ hF16
      · refine tr_pushI (?_)
        exact tr_retI hF37
  · refine tr_pushI (?_)
    exact tr_retI hF2
-- Mo_kerbs
abbrev t260_36 : List hOp := oRetI :: []
abbrev t260_34 : List hOp := oLdI 4 :: oInvS 167 1 :: t260_36
abbrev t260_32 : List hOp := oLdI 4 :: oGoto 36 :: t260_34
abbrev t260_21 : List hOp := oLdA 0 :: oLdI 1 :: oLdI 2 :: oInvV 259 12 2 :: oStI 4 :: oLdI 4 :: oPushI (-1) :: oIf cEq 32 :: oLdI 3 :: oPushI 1 :: oIf cNe 34 :: t260_32
abbrev t260_19 : List hOp := oPushI (-1) :: oRetI :: t260_21
abbrev t260_0 : List hOp := oLdA 0 :: oPushI 0 :: oPutI 12 0 :: oLdI 1 :: oInvS 178 1 :: oIf0 cEq 19 :: oLdI 2 :: oInvS 178 1 :: oIf0 cEq 19 :: oLdI 3 :: oI2L :: oPushL 0 :: oPushL 1 :: oInvS 165 3 :: oIf0 cEq 19 :: oLdA 0 :: oLdI 2 :: oInvV 180 12 1 :: oIf0 cNe 21 :: t260_19
theorem e260_0 : (opsOf 260).drop 0 = t260_0 := rfl
theorem e260_19 : (opsOf 260).drop 19 = t260_19 := rfl
theorem e260_21 : (opsOf 260).drop 21 = t260_21 := rfl
theorem e260_32 : (opsOf 260).drop 32 = t260_32 := rfl
theorem e260_34 : (opsOf 260).drop 34 = t260_34 := rfl
theorem e260_36 : (opsOf 260).drop 36 = t260_36 := rfl
def q_Mo_kerbs (v1 : Int32) (v2 : Int32) (v3 : Int32) (g : hG) : hO Int32 :=
  wr (sI g 367 0 (0 : Int32)) fun g1 => bnd (q_Mo_isCell v1 g1) fun r5 g3 => if r5 = (0 : Int32) then (some ((-1 : Int32), g3)) else (bnd (q_Mo_isCell v2 g3) fun r9 g7 => if r9 = (0 : Int32) then (some ((-1 : Int32), g7)) else (bnd (q_Mo_in v3.toInt64 (0 : Int64) (1 : Int64) g7) fun r13 g11 => if r13 = (0 : Int32) then (some ((-1 : Int32), g11)) else (bnd (q_Mo_hasDoor v2 g11) fun r17 g15 => if r17 = (0 : Int32) then (some ((-1 : Int32), g15)) else (bnd (q_Mo_kerbSet v1 v2 g15) fun r21 g19 => if r21 = (-1 : Int32) then (some (r21, g19)) else (if v3 = (1 : Int32) then (some (r21, g19)) else (bnd (q_Mo_ones r21 g19) fun r26 g24 => some (r26, g24)))))))
theorem tm260 {d : Nat} {v1 : Int32} {v2 : Int32} {v3 : Int32} (hd : 8 ≤ d) {g : hG} (hF : Frz g) : TM wI d 260 [.ref 367, .int v1, .int v2, .int v3] g (q_Mo_kerbs v1 v2 v3 g) := by
  obtain ⟨e, rfl⟩ : ∃ e, d = e + 1 := ⟨d - 1, by omega⟩
  have he := hd
  refine TM.ofE e260_0 (lv := [some (.ref 367), some (.int v1), some (.int v2), some (.int v3), none]) rfl ?_
  unfold q_Mo_kerbs
  refine tr_ldA rfl (tr_pushI (tr_putI hF (fk_367 hF) (fun g1 _ hF2 => tr_ldI rfl (?_))))
  refine tr_invSI rfl rfl (Nat.le_of_ble_eq_true rfl) (Nat.le_of_ble_eq_true rfl) (by decide) (Nat.le_of_ble_eq_true rfl) (tm178 (by omega) hF2) (fun r5 g3 _ hF4 => ?_)
  refine tr_if0j e260_19 (c_eq _ _) (fun hc6 => ?_) (fun hc6 => ?_)
  · refine tr_pushI (?_)
    exact tr_retI hF4
  · refine tr_ldI rfl (?_)
    refine tr_invSI rfl rfl (Nat.le_of_ble_eq_true rfl) (Nat.le_of_ble_eq_true rfl) (by decide) (Nat.le_of_ble_eq_true rfl) (tm178 (by omega) hF4) (fun r9 g7 _ hF8 => ?_)
    refine tr_if0j e260_19 (c_eq _ _) (fun hc10 => ?_) (fun hc10 => ?_)
    · refine tr_pushI (?_)
      exact tr_retI hF8
    · refine tr_ldI rfl (tr_i2l (tr_pushL (tr_pushL (?_))))
      refine tr_invSI rfl rfl (Nat.le_of_ble_eq_true rfl) (Nat.le_of_ble_eq_true rfl) (by decide) (Nat.le_of_ble_eq_true rfl) (tm165 hF8) (fun r13 g11 _ hF12 => ?_)
      refine tr_if0j e260_19 (c_eq _ _) (fun hc14 => ?_) (fun hc14 => ?_)
      · refine tr_pushI (?_)
        exact tr_retI hF12
      · refine tr_ldA rfl (tr_ldI rfl (?_))
        refine tr_invVI rfl rfl (fk_367 hF12) (Nat.le_of_ble_eq_true rfl) (by decide) (Nat.le_of_ble_eq_true rfl) (tm180 (by omega) hF12) (fun r17 g15 _ hF16 => ?_)
        refine tr_if0n e260_21 (c_ne _ _) (fun hc18 => ?_) (fun hc18 => ?_)
        · refine tr_ldA rfl (tr_ldI rfl (tr_ldI rfl (?_)))
          refine tr_invVI rfl rfl (fk_367 hF16) (Nat.le_of_ble_eq_true rfl) (by decide) (Nat.le_of_ble_eq_true rfl) (tm259 (by omega) hF16) (fun r21 g19 _ hF20 => ?_)
          refine tr_stI (Nat.le_of_ble_eq_true rfl) rfl rfl (tr_ldI rfl (tr_pushI (?_)))
          refine tr_ifj e260_32 (c_eq _ _) (fun hc22 => ?_) (fun hc22 => ?_)
          · refine tr_ldI rfl (?_)
            refine tr_gotoE e260_36 (?_)
            exact tr_retI hF20
          · refine tr_ldI rfl (tr_pushI (?_))
            refine tr_ifn e260_34 (c_ne _ _) (fun hc23 => ?_) (fun hc23 => ?_)
            · refine tr_ldI rfl (?_)
              refine tr_invSI rfl rfl (Nat.le_of_ble_eq_true rfl) (Nat.le_of_ble_eq_true rfl) (by decide) (Nat.le_of_ble_eq_true rfl) (tm167 hF20) (fun r26 g24 _ hF25 => ?_)
              exact tr_retI hF25
            · refine tr_ldI rfl (?_)
              refine tr_gotoE e260_36 (?_)
              exact tr_retI hF20
        · refine tr_pushI (?_)
          exact tr_retI hF16
-- Mo_springs
abbrev t261_33 : List hOp := oLdI 1 :: oRetI :: []
abbrev t261_29 : List hOp := oBin (fun x y => x &&& y) :: oStI 1 :: oInc 2 1 :: oGoto 9 :: t261_33
abbrev t261_21 : List hOp := oPushI 1 :: oLdA 0 :: oGetP 12 42 :: oLdI 2 :: oALdI 13 :: oBin (fun x y => x <<< (y &&& 31)) :: oPushI (-1) :: oBin (fun x y => x ^^^ y) :: t261_29
abbrev t261_9 : List hOp := oLdI 2 :: oPushI 25 :: oIf cGe 33 :: oLdI 1 :: oLdA 0 :: oGetP 12 42 :: oLdI 2 :: oALdI 13 :: oLdI 2 :: oIf cNe 21 :: oPushI (-1) :: oGoto 29 :: t261_21
abbrev t261_0 : List hOp := oLdA 0 :: oPushI 0 :: oPutI 12 0 :: oLdA 0 :: oInvV 230 12 0 :: oPushI 33554431 :: oStI 1 :: oPushI 0 :: oStI 2 :: t261_9
theorem e261_0 : (opsOf 261).drop 0 = t261_0 := rfl
theorem e261_9 : (opsOf 261).drop 9 = t261_9 := rfl
theorem e261_21 : (opsOf 261).drop 21 = t261_21 := rfl
theorem e261_29 : (opsOf 261).drop 29 = t261_29 := rfl
theorem e261_33 : (opsOf 261).drop 33 = t261_33 := rfl
def q_Mo_springs_9 (k33 : Int32 → hG → hO Int32) (k9 : Int32 → Int32 → hG → hO Int32) (v1 : Int32) (v2 : Int32) (g : hG) : hO Int32 :=
  if (25 : Int32) ≤ v2 then (k33 v1 g) else (gd v2 25 <| if (gI g 389 v2.toNatClampNeg) = v2 then (k9 (v1 &&& (-1 : Int32)) (v2 + (1 : Int32)) g) else (gd v2 25 <| k9 (v1 &&& ((shl (1 : Int32) (gI g 389 v2.toNatClampNeg)) ^^^ (-1 : Int32))) (v2 + (1 : Int32)) g))
def q_Mo_springs_9L (k33 : Int32 → hG → hO Int32) : Nat → Int32 → Int32 → hG → hO Int32
  | 0 => fun _ _ _ => none
  | n + 1 => fun v1 v2 g => q_Mo_springs_9 k33 (q_Mo_springs_9L k33 n) v1 v2 g
theorem q_Mo_springs_9L_s (k33 : Int32 → hG → hO Int32) (n : Nat) (v1 : Int32) (v2 : Int32) (g : hG) : q_Mo_springs_9L k33 (n + 1) v1 v2 g = q_Mo_springs_9 k33 (q_Mo_springs_9L k33 n) v1 v2 g := rfl
theorem th261_9 {e : Nat} (he : 6 ≤ e + 1) {k33 : Int32 → hG → hO Int32} {k9 : Int32 → Int32 → hG → hO Int32} {v1 : Int32} {v2 : Int32} (hk33 : ∀ (x1 : Int32) (y2 : Option Value) (g : hG), Frz g → Tri wI (e + 1) 261 t261_33 [some (.ref 367), some (.int x1), y2] [] g (k33 x1 g)) (hk9 : ∀ (x1 : Int32) (x2 : Int32) (g : hG), Frz g → Tri wI (e + 1) 261 t261_9 [some (.ref 367), some (.int x1), some (.int x2)] [] g (k9 x1 x2 g)) {g : hG} (hF : Frz g) : Tri wI (e + 1) 261 t261_9 [some (.ref 367), some (.int v1), some (.int v2)] [] g (q_Mo_springs_9 k33 k9 v1 v2 g) := by
  unfold q_Mo_springs_9
  refine tr_ldI rfl (tr_pushI (?_))
  refine tr_ifj e261_33 (c_ge _ _) (fun hc5 => ?_) (fun hc5 => ?_)
  · exact hk33 _ _ _ hF
  · refine tr_ldI rfl (tr_ldA rfl (tr_getP (b := 389) (fk_367 hF) (fp_367_42 hF) (tr_ldI rfl (tr_aldI (fk_389 hF) (fl_389 hF) (fun _ => tr_ldI rfl (?_))))))
    refine tr_ifn e261_21 (c_ne _ _) (fun hc6 => ?_) (fun hc6 => ?_)
    · refine tr_pushI (tr_ldA rfl (tr_getP (b := 389) (fk_367 hF) (fp_367_42 hF) (tr_ldI rfl (tr_aldI (fk_389 hF) (fl_389 hF) (fun _ => tr_bin (v := (shl (1 : Int32) (gI g 389 v2.toNatClampNeg))) rfl (?_))))))
      refine tr_pushI (tr_bin (v := ((shl (1 : Int32) (gI g 389 v2.toNatClampNeg)) ^^^ (-1 : Int32))) rfl (tr_bin (v := (v1 &&& ((shl (1 : Int32) (gI g 389 v2.toNatClampNeg)) ^^^ (-1 : Int32)))) rfl (tr_stI (Nat.le_of_ble_eq_true rfl) rfl rfl (tr_inc rfl rfl rfl (?_)))))
      refine tr_gotoE e261_9 (?_)
      exact hk9 _ _ _ hF
    · refine tr_pushI (?_)
      refine tr_gotoE e261_29 (?_)
      refine tr_bin (v := (v1 &&& (-1 : Int32))) rfl (tr_stI (Nat.le_of_ble_eq_true rfl) rfl rfl (tr_inc rfl rfl rfl (?_)))
      refine tr_gotoE e261_9 (?_)
      exact hk9 _ _ _ hF
theorem th261_9L {e : Nat} (he : 6 ≤ e + 1) {k33 : Int32 → hG → hO Int32} (hk33 : ∀ (x1 : Int32) (y2 : Option Value) (g : hG), Frz g → Tri wI (e + 1) 261 t261_33 [some (.ref 367), some (.int x1), y2] [] g (k33 x1 g)) : ∀ (n : Nat) (v1 : Int32) (v2 : Int32) (g : hG), Frz g → Tri wI (e + 1) 261 t261_9 [some (.ref 367), some (.int v1), some (.int v2)] [] g (q_Mo_springs_9L k33 n v1 v2 g)
  | 0 => fun _ _ _ _ => Tri.none_
  | n + 1 => fun _ _ g hF => th261_9 he hk33 (th261_9L he hk33 n) hF
def q_Mo_springs (g : hG) : hO Int32 :=
  wr (sI g 367 0 (0 : Int32)) fun g1 => bnd (q_Mo_layRuns g1) fun _ g3 => q_Mo_springs_9L (fun x7 g9 => some (x7, g9)) FU (33554431 : Int32) (0 : Int32) g3
theorem tm261 {d : Nat} (hd : 6 ≤ d) {g : hG} (hF : Frz g) : TM wI d 261 [.ref 367] g (q_Mo_springs g) := by
  obtain ⟨e, rfl⟩ : ∃ e, d = e + 1 := ⟨d - 1, by omega⟩
  have he := hd
  refine TM.ofE e261_0 (lv := [some (.ref 367), none, none]) rfl ?_
  unfold q_Mo_springs
  refine tr_ldA rfl (tr_pushI (tr_putI hF (fk_367 hF) (fun g1 _ hF2 => tr_ldA rfl (?_))))
  refine tr_invVU rfl rfl (fk_367 hF2) (Nat.le_of_ble_eq_true rfl) (by decide) (Nat.le_of_ble_eq_true rfl) (tm230 (by omega) hF2) (fun _ g3 _ hF4 => ?_)
  refine tr_pushI (tr_stI (Nat.le_of_ble_eq_true rfl) rfl rfl (tr_pushI (tr_stI (Nat.le_of_ble_eq_true rfl) rfl rfl (?_))))
  refine th261_9L he (fun x7 y8 g9 hF10 => ?_) FU _ _ _ hF4
  · refine tr_ldI rfl (?_)
    exact tr_retI hF10
-- Mo_pools
abbrev t262_32 : List hOp := oLdI 1 :: oRetI :: []
abbrev t262_28 : List hOp := oBin (fun x y => x ||| y) :: oStI 1 :: oInc 2 1 :: oGoto 9 :: t262_32
abbrev t262_27 : List hOp := oPushI 0 :: t262_28
abbrev t262_9 : List hOp := oLdI 2 :: oPushI 25 :: oIf cGe 32 :: oLdI 1 :: oLdA 0 :: oGetP 12 42 :: oLdI 2 :: oALdI 13 :: oLdI 2 :: oIf cNe 27 :: oLdA 0 :: oLdI 2 :: oInvV 180 12 1 :: oIf0 cNe 27 :: oPushI 1 :: oLdI 2 :: oBin (fun x y => x <<< (y &&& 31)) :: oGoto 28 :: t262_27
abbrev t262_0 : List hOp := oLdA 0 :: oPushI 0 :: oPutI 12 0 :: oLdA 0 :: oInvV 230 12 0 :: oPushI 0 :: oStI 1 :: oPushI 0 :: oStI 2 :: t262_9
theorem e262_0 : (opsOf 262).drop 0 = t262_0 := rfl
theorem e262_9 : (opsOf 262).drop 9 = t262_9 := rfl
theorem e262_27 : (opsOf 262).drop 27 = t262_27 := rfl
theorem e262_28 : (opsOf 262).drop 28 = t262_28 := rfl
theorem e262_32 : (opsOf 262).drop 32 = t262_32 := rfl
def q_Mo_pools_9 (k32 : Int32 → hG → hO Int32) (k9 : Int32 → Int32 → hG → hO Int32) (v1 : Int32) (v2 : Int32) (g : hG) : hO Int32 :=
  if (25 : Int32) ≤ v2 then (k32 v1 g) else (gd v2 25 <| if (gI g 389 v2.toNatClampNeg) = v2 then (bnd (q_Mo_hasDoor v2 g) fun r9 g7 => if r9 = (0 : Int32) then (k9 (v1 ||| (shl (1 : Int32) v2)) (v2 + (1 : Int32)) g7) else (k9 (v1 ||| (0 : Int32)) (v2 + (1 : Int32)) g7)) else (k9 (v1 ||| (0 : Int32)) (v2 + (1 : Int32)) g))
def q_Mo_pools_9L (k32 : Int32 → hG → hO Int32) : Nat → Int32 → Int32 → hG → hO Int32
  | 0 => fun _ _ _ => none
  | n + 1 => fun v1 v2 g => q_Mo_pools_9 k32 (q_Mo_pools_9L k32 n) v1 v2 g
theorem q_Mo_pools_9L_s (k32 : Int32 → hG → hO Int32) (n : Nat) (v1 : Int32) (v2 : Int32) (g : hG) : q_Mo_pools_9L k32 (n + 1) v1 v2 g = q_Mo_pools_9 k32 (q_Mo_pools_9L k32 n) v1 v2 g := rfl
theorem th262_9 {e : Nat} (he : 6 ≤ e + 1) {k32 : Int32 → hG → hO Int32} {k9 : Int32 → Int32 → hG → hO Int32} {v1 : Int32} {v2 : Int32} (hk32 : ∀ (x1 : Int32) (y2 : Option Value) (g : hG), Frz g → Tri wI (e + 1) 262 t262_32 [some (.ref 367), some (.int x1), y2] [] g (k32 x1 g)) (hk9 : ∀ (x1 : Int32) (x2 : Int32) (g : hG), Frz g → Tri wI (e + 1) 262 t262_9 [some (.ref 367), some (.int x1), some (.int x2)] [] g (k9 x1 x2 g)) {g : hG} (hF : Frz g) : Tri wI (e + 1) 262 t262_9 [some (.ref 367), some (.int v1), some (.int v2)] [] g (q_Mo_pools_9 k32 k9 v1 v2 g) := by
  unfold q_Mo_pools_9
  refine tr_ldI rfl (tr_pushI (?_))
  refine tr_ifj e262_32 (c_ge _ _) (fun hc5 => ?_) (fun hc5 => ?_)
  · exact hk32 _ _ _ hF
  · refine tr_ldI rfl (tr_ldA rfl (tr_getP (b := 389) (fk_367 hF) (fp_367_42 hF) (tr_ldI rfl (tr_aldI (fk_389 hF) (fl_389 hF) (fun _ => tr_ldI rfl (?_))))))
    refine tr_ifn e262_27 (c_ne _ _) (fun hc6 => ?_) (fun hc6 => ?_)
    · refine tr_pushI (tr_bin (v := (v1 ||| (0 : Int32))) rfl (tr_stI (Nat.le_of_ble_eq_true rfl) rfl rfl (tr_inc rfl rfl rfl (?_))))
      refine tr_gotoE e262_9 (?_)
      exact hk9 _ _ _ hF
    · refine tr_ldA rfl (tr_ldI rfl (?_))
      refine tr_invVI rfl rfl (fk_367 hF) (Nat.le_of_ble_eq_true rfl) (by decide) (Nat.le_of_ble_eq_true rfl) (tm180 (by omega) hF) (fun r9 g7 _ hF8 => ?_)
      refine tr_if0n e262_27 (c_ne _ _) (fun hc10 => ?_) (fun hc10 => ?_)
      · refine tr_pushI (tr_bin (v := (v1 ||| (0 : Int32))) rfl (tr_stI (Nat.le_of_ble_eq_true rfl) rfl rfl (tr_inc rfl rfl rfl (?_))))
        refine tr_gotoE e262_9 (?_)
        exact hk9 _ _ _ hF8
      · refine tr_pushI (tr_ldI rfl (tr_bin (v := (shl (1 : Int32) v2)) rfl (?_)))
        refine tr_gotoE e262_28 (?_)
        refine tr_bin (v := (v1 ||| (shl (1 : Int32) v2))) rfl (tr_stI (Nat.le_of_ble_eq_true rfl) rfl rfl (tr_inc rfl rfl rfl (?_)))
        refine tr_gotoE e262_9 (?_)
        exact hk9 _ _ _ hF8
theorem th262_9L {e : Nat} (he : 6 ≤ e + 1) {k32 : Int32 → hG → hO Int32} (hk32 : ∀ (x1 : Int32) (y2 : Option Value) (g : hG), Frz g → Tri wI (e + 1) 262 t262_32 [some (.ref 367), some (.int x1), y2] [] g (k32 x1 g)) : ∀ (n : Nat) (v1 : Int32) (v2 : Int32) (g : hG), Frz g → Tri wI (e + 1) 262 t262_9 [some (.ref 367), some (.int v1), some (.int v2)] [] g (q_Mo_pools_9L k32 n v1 v2 g)
  | 0 => fun _ _ _ _ => Tri.none_
  | n + 1 => fun _ _ g hF => th262_9 he hk32 (th262_9L he hk32 n) hF
def q_Mo_pools (g : hG) : hO Int32 :=
  wr (sI g 367 0 (0 : Int32)) fun g1 => bnd (q_Mo_layRuns g1) fun _ g3 => q_Mo_pools_9L (fun x11 g13 => some (x11, g13)) FU (0 : Int32) (0 : Int32) g3
theorem tm262 {d : Nat} (hd : 6 ≤ d) {g : hG} (hF : Frz g) : TM wI d 262 [.ref 367] g (q_Mo_pools g) := by
  obtain ⟨e, rfl⟩ : ∃ e, d = e + 1 := ⟨d - 1, by omega⟩
  have he := hd
  refine TM.ofE e262_0 (lv := [some (.ref 367), none, none]) rfl ?_
  unfold q_Mo_pools
  refine tr_ldA rfl (tr_pushI (tr_putI hF (fk_367 hF) (fun g1 _ hF2 => tr_ldA rfl (?_))))
  refine tr_invVU rfl rfl (fk_367 hF2) (Nat.le_of_ble_eq_true rfl) (by decide) (Nat.le_of_ble_eq_true rfl) (tm230 (by omega) hF2) (fun _ g3 _ hF4 => ?_)
  refine tr_pushI (tr_stI (Nat.le_of_ble_eq_true rfl) rfl rfl (tr_pushI (tr_stI (Nat.le_of_ble_eq_true rfl) rfl rfl (?_))))
  refine th262_9L he (fun x11 y12 g13 hF14 => ?_) FU _ _ _ hF4
  · refine tr_ldI rfl (?_)
    exact tr_retI hF14
-- Mo_longest
abbrev t263_47 : List hOp := oRetI :: []
abbrev t263_46 : List hOp := oLdI 3 :: t263_47
abbrev t263_42 : List hOp := oLdI 1 :: oIf0 cNe 46 :: oLdI 2 :: oGoto 47 :: t263_46
abbrev t263_39 : List hOp := oStI 2 :: oInc 4 1 :: oGoto 19 :: t263_42
abbrev t263_38 : List hOp := oLdI 2 :: t263_39
abbrev t263_32 : List hOp := oStI 3 :: oLdI 5 :: oLdI 2 :: oIf cLe 38 :: oLdI 5 :: oGoto 39 :: t263_38
abbrev t263_31 : List hOp := oLdI 3 :: t263_32
abbrev t263_19 : List hOp := oLdI 4 :: oPushI 25 :: oIf cGe 42 :: oLdA 0 :: oLdI 4 :: oInvV 243 12 1 :: oStI 5 :: oLdI 5 :: oLdI 2 :: oIf cLe 31 :: oLdI 4 :: oGoto 32 :: t263_31
abbrev t263_11 : List hOp := oLdA 0 :: oInvV 230 12 0 :: oPushI (-1) :: oStI 2 :: oPushI (-1) :: oStI 3 :: oPushI 0 :: oStI 4 :: t263_19
abbrev t263_0 : List hOp := oLdA 0 :: oPushI 0 :: oPutI 12 0 :: oLdI 1 :: oI2L :: oPushL 0 :: oPushL 1 :: oInvS 165 3 :: oIf0 cNe 11 :: oPushI (-1) :: oRetI :: t263_11
theorem e263_0 : (opsOf 263).drop 0 = t263_0 := rfl
theorem e263_11 : (opsOf 263).drop 11 = t263_11 := rfl
theorem e263_19 : (opsOf 263).drop 19 = t263_19 := rfl
theorem e263_31 : (opsOf 263).drop 31 = t263_31 := rfl
theorem e263_32 : (opsOf 263).drop 32 = t263_32 := rfl
theorem e263_38 : (opsOf 263).drop 38 = t263_38 := rfl
theorem e263_39 : (opsOf 263).drop 39 = t263_39 := rfl
theorem e263_42 : (opsOf 263).drop 42 = t263_42 := rfl
theorem e263_46 : (opsOf 263).drop 46 = t263_46 := rfl
theorem e263_47 : (opsOf 263).drop 47 = t263_47 := rfl
def q_Mo_longest_32 (v2 : Int32) (v4 : Int32) (v5 : Int32) (k19 : Int32 → Int32 → Int32 → hG → hO Int32) (w0 : Int32) (g : hG) : hO Int32 :=
  if v5 ≤ v2 then (k19 v2 w0 (v4 + (1 : Int32)) g) else (k19 v5 w0 (v4 + (1 : Int32)) g)
theorem th263_32 {e : Nat} (he : 6 ≤ e + 1) {v2 : Int32} {v4 : Int32} {v5 : Int32} {k19 : Int32 → Int32 → Int32 → hG → hO Int32} {w0 : Int32} {u1 : Option Value} {u3 : Option Value} (hk19 : ∀ (x2 : Int32) (x3 : Int32) (x4 : Int32) (y5 : Option Value) (g : hG), Frz g → Tri wI (e + 1) 263 t263_19 [some (.ref 367), u1, some (.int x2), some (.int x3), some (.int x4), y5] [] g (k19 x2 x3 x4 g)) (hu1 : isL (some u1) = false) (hu3 : isL (some u3) = false) {g : hG} (hF : Frz g) : Tri wI (e + 1) 263 t263_32 [some (.ref 367), u1, some (.int v2), u3, some (.int v4), some (.int v5)] [.int w0] g (q_Mo_longest_32 v2 v4 v5 k19 w0 g) := by
  unfold q_Mo_longest_32
  refine tr_stI (Nat.le_of_ble_eq_true rfl) rfl rfl (tr_ldI rfl (tr_ldI rfl (?_)))
  refine tr_ifj e263_38 (c_le _ _) (fun hc14 => ?_) (fun hc14 => ?_)
  · refine tr_ldI rfl (tr_stI (Nat.le_of_ble_eq_true rfl) (lKill_id hu1) rfl (tr_inc rfl rfl rfl (?_)))
    refine tr_gotoE e263_19 (?_)
    exact hk19 _ _ _ _ _ hF
  · refine tr_ldI rfl (?_)
    refine tr_gotoE e263_39 (?_)
    refine tr_stI (Nat.le_of_ble_eq_true rfl) (lKill_id hu1) rfl (tr_inc rfl rfl rfl (?_))
    refine tr_gotoE e263_19 (?_)
    exact hk19 _ _ _ _ _ hF
def q_Mo_longest_19 (k42 : Int32 → Int32 → hG → hO Int32) (k19 : Int32 → Int32 → Int32 → hG → hO Int32) (v2 : Int32) (v3 : Int32) (v4 : Int32) (g : hG) : hO Int32 :=
  if (25 : Int32) ≤ v4 then (k42 v2 v3 g) else (bnd (q_Mo_hoursOf v4 g) fun r12 g10 => q_Mo_longest_32 v2 v4 r12 k19 (if r12 ≤ v2 then v3 else v4) g10)
def q_Mo_longest_19L (k42 : Int32 → Int32 → hG → hO Int32) : Nat → Int32 → Int32 → Int32 → hG → hO Int32
  | 0 => fun _ _ _ _ => none
  | n + 1 => fun v2 v3 v4 g => q_Mo_longest_19 k42 (q_Mo_longest_19L k42 n) v2 v3 v4 g
theorem q_Mo_longest_19L_s (k42 : Int32 → Int32 → hG → hO Int32) (n : Nat) (v2 : Int32) (v3 : Int32) (v4 : Int32) (g : hG) : q_Mo_longest_19L k42 (n + 1) v2 v3 v4 g = q_Mo_longest_19 k42 (q_Mo_longest_19L k42 n) v2 v3 v4 g := rfl
theorem th263_19 {e : Nat} (he : 6 ≤ e + 1) {k42 : Int32 → Int32 → hG → hO Int32} {k19 : Int32 → Int32 → Int32 → hG → hO Int32} {v2 : Int32} {v3 : Int32} {v4 : Int32} {u1 : Option Value} {u5 : Option Value} (hk42 : ∀ (x2 : Int32) (x3 : Int32) (y4 : Option Value) (y5 : Option Value) (_ : isL (some y4) = false) (g : hG), Frz g → Tri wI (e + 1) 263 t263_42 [some (.ref 367), u1, some (.int x2), some (.int x3), y4, y5] [] g (k42 x2 x3 g)) (hk19 : ∀ (x2 : Int32) (x3 : Int32) (x4 : Int32) (y5 : Option Value) (g : hG), Frz g → Tri wI (e + 1) 263 t263_19 [some (.ref 367), u1, some (.int x2), some (.int x3), some (.int x4), y5] [] g (k19 x2 x3 x4 g)) (hu1 : isL (some u1) = false) {g : hG} (hF : Frz g) : Tri wI (e + 1) 263 t263_19 [some (.ref 367), u1, some (.int v2), some (.int v3), some (.int v4), u5] [] g (q_Mo_longest_19 k42 k19 v2 v3 v4 g) := by
  unfold q_Mo_longest_19
  refine tr_ldI rfl (tr_pushI (?_))
  refine tr_ifj e263_42 (c_ge _ _) (fun hc9 => ?_) (fun hc9 => ?_)
  · exact hk42 _ _ _ _ rfl _ hF
  · refine tr_ldA rfl (tr_ldI rfl (?_))
    refine tr_invVI rfl rfl (fk_367 hF) (Nat.le_of_ble_eq_true rfl) (by decide) (Nat.le_of_ble_eq_true rfl) (tm243 hF) (fun r12 g10 _ hF11 => ?_)
    refine tr_stI (Nat.le_of_ble_eq_true rfl) rfl rfl (tr_ldI rfl (tr_ldI rfl (?_)))
    refine tr_ifcE e263_31 (c_le _ _) (fun hc15 => ?_) (fun hc15 => ?_)
    · rw [if_pos hc15]
      refine tr_ldI rfl (?_)
      exact th263_32 he hk19 hu1 rfl hF11
    · rw [if_neg hc15]
      refine tr_ldI rfl (?_)
      refine tr_gotoE e263_32 (?_)
      exact th263_32 he hk19 hu1 rfl hF11
theorem th263_19L {e : Nat} (he : 6 ≤ e + 1) {k42 : Int32 → Int32 → hG → hO Int32} {u1 : Option Value} (hk42 : ∀ (x2 : Int32) (x3 : Int32) (y4 : Option Value) (y5 : Option Value) (_ : isL (some y4) = false) (g : hG), Frz g → Tri wI (e + 1) 263 t263_42 [some (.ref 367), u1, some (.int x2), some (.int x3), y4, y5] [] g (k42 x2 x3 g)) (hu1 : isL (some u1) = false) : ∀ (n : Nat) (v2 : Int32) (v3 : Int32) (v4 : Int32) (u5 : Option Value) (g : hG), Frz g → Tri wI (e + 1) 263 t263_19 [some (.ref 367), u1, some (.int v2), some (.int v3), some (.int v4), u5] [] g (q_Mo_longest_19L k42 n v2 v3 v4 g)
  | 0 => fun _ _ _ _ _ _ => Tri.none_
  | n + 1 => fun _ _ _ _ g hF => th263_19 he hk42 (th263_19L he hk42 hu1 n) hu1 hF
def q_Mo_longest (v1 : Int32) (g : hG) : hO Int32 :=
  wr (sI g 367 0 (0 : Int32)) fun g1 => bnd (q_Mo_in v1.toInt64 (0 : Int64) (1 : Int64) g1) fun r5 g3 => if r5 = (0 : Int32) then (some ((-1 : Int32), g3)) else (bnd (q_Mo_layRuns g3) fun _ g7 => q_Mo_longest_19L (fun x16 x17 g20 => if v1 = (0 : Int32) then (some (x16, g20)) else (some (x17, g20))) FU (-1 : Int32) (-1 : Int32) (0 : Int32) g7)
theorem tm263 {d : Nat} {v1 : Int32} (hd : 6 ≤ d) {g : hG} (hF : Frz g) : TM wI d 263 [.ref 367, .int v1] g (q_Mo_longest v1 g) := by
  obtain ⟨e, rfl⟩ : ∃ e, d = e + 1 := ⟨d - 1, by omega⟩
  have he := hd
  refine TM.ofE e263_0 (lv := [some (.ref 367), some (.int v1), none, none, none, none]) rfl ?_
  unfold q_Mo_longest
  refine tr_ldA rfl (tr_pushI (tr_putI hF (fk_367 hF) (fun g1 _ hF2 => tr_ldI rfl (tr_i2l (tr_pushL (?_))))))
  refine tr_pushL (?_)
  refine tr_invSI rfl rfl (Nat.le_of_ble_eq_true rfl) (Nat.le_of_ble_eq_true rfl) (by decide) (Nat.le_of_ble_eq_true rfl) (tm165 hF2) (fun r5 g3 _ hF4 => ?_)
  refine tr_if0n e263_11 (c_ne _ _) (fun hc6 => ?_) (fun hc6 => ?_)
  · refine tr_ldA rfl (?_)
    refine tr_invVU rfl rfl (fk_367 hF4) (Nat.le_of_ble_eq_true rfl) (by decide) (Nat.le_of_ble_eq_true rfl) (tm230 (by omega) hF4) (fun _ g7 _ hF8 => ?_)
    refine tr_pushI (tr_stI (Nat.le_of_ble_eq_true rfl) rfl rfl (tr_pushI (tr_stI (Nat.le_of_ble_eq_true rfl) rfl rfl (tr_pushI (tr_stI (Nat.le_of_ble_eq_true rfl) rfl rfl (?_))))))
    refine th263_19L he (fun x16 x17 y18 y19 zy18 g20 hF21 => ?_) rfl FU _ _ _ _ _ hF8
    · refine tr_ldI rfl (?_)
      refine tr_if0n e263_46 (c_ne _ _) (fun hc22 => ?_) (fun hc22 => ?_)
      · refine tr_ldI rfl (?_)
        exact tr_retI hF21
      · refine tr_ldI rfl (?_)
        refine tr_gotoE e263_47 (?_)
        exact tr_retI hF21
  · refine tr_pushI (?_)
    exact tr_retI hF4
-- Mo_seen
abbrev t265_28 : List hOp := oLdA 0 :: oGetP 12 3 :: oPushI 56 :: oPushI 2 :: oLdI 3 :: oBin (fun x y => x * y) :: oBin (fun x y => x + y) :: oLdI 1 :: oAStI :: oLdA 0 :: oGetP 12 3 :: oPushI 56 :: oPushI 2 :: oLdI 3 :: oBin (fun x y => x * y) :: oBin (fun x y => x + y) :: oPushI 1 :: oBin (fun x y => x + y) :: oLdI 2 :: oAStI :: oLdA 0 :: oGetP 12 3 :: oPushI 0 :: oDup2 :: oALdI 13 :: oPushI 1 :: oBin (fun x y => x + y) :: oAStI :: oLdA 0 :: oLdI 3 :: oPushI 1 :: oBin (fun x y => x + y) :: oInvV 169 12 1 :: oRetI :: []
abbrev t265_16 : List hOp := oLdA 0 :: oGetP 12 3 :: oPushI 0 :: oALdI 13 :: oStI 3 :: oLdI 3 :: oPushI 6 :: oIf cNe 28 :: oLdA 0 :: oPushI (-5) :: oInvV 169 12 1 :: oRetI :: t265_28
abbrev t265_12 : List hOp := oLdA 0 :: oPushI (-1) :: oInvV 169 12 1 :: oRetI :: t265_16
abbrev t265_0 : List hOp := oLdA 0 :: oPushI 0 :: oPutI 12 0 :: oLdI 1 :: oI2L :: oPushL 0 :: oPushL 30 :: oInvS 165 3 :: oIf0 cEq 12 :: oLdI 2 :: oInvS 178 1 :: oIf0 cNe 16 :: t265_12
theorem e265_0 : (opsOf 265).drop 0 = t265_0 := rfl
theorem e265_12 : (opsOf 265).drop 12 = t265_12 := rfl
theorem e265_16 : (opsOf 265).drop 16 = t265_16 := rfl
theorem e265_28 : (opsOf 265).drop 28 = t265_28 := rfl
def q_Mo_seen_12 (g : hG) : hO Int32 :=
  bnd (q_Mo_tell (-1 : Int32) g) fun r9 g7 => some (r9, g7)
theorem th265_12 {e : Nat} (he : 2 ≤ e + 1) {u1 : Option Value} {u2 : Option Value} {u3 : Option Value} (hu2 : isL (some u2) = false) {g : hG} (hF : Frz g) : Tri wI (e + 1) 265 t265_12 [some (.ref 367), u1, u2, u3] [] g (q_Mo_seen_12 g) := by
  unfold q_Mo_seen_12
  refine tr_ldA rfl (tr_pushI (?_))
  refine tr_invVI rfl rfl (fk_367 hF) (Nat.le_of_ble_eq_true rfl) (by decide) (Nat.le_of_ble_eq_true rfl) (tm169 hF) (fun r9 g7 _ hF8 => ?_)
  exact tr_retI hF8
def q_Mo_seen (v1 : Int32) (v2 : Int32) (g : hG) : hO Int32 :=
  wr (sI g 367 0 (0 : Int32)) fun g1 => bnd (q_Mo_in v1.toInt64 (0 : Int64) (30 : Int64) g1) fun r5 g3 => if r5 = (0 : Int32) then (q_Mo_seen_12 g3) else (bnd (q_Mo_isCell v2 g3) fun r12 g10 => if r12 = (0 : Int32) then (q_Mo_seen_12 g10) else (gd (0 : Int32) 5468 <| if (gI g10 369 (0 : Int32).toNatClampNeg) = (6 : Int32) then (bnd (q_Mo_tell (-5 : Int32) g10) fun r26 g24 => some (r26, g24)) else (gd ((56 : Int32) + ((2 : Int32) * (gI g10 369 (0 : Int32).toNatClampNeg))) 5468 <| wr (sI g10 369 ((56 : Int32) + ((2 : Int32) * (gI g10 369 (0 : Int32).toNatClampNeg))).toNatClampNeg v1) fun g15 => gd (((56 : Int32) + ((2 : Int32) * (gI g10 369 (0 : Int32).toNatClampNeg))) + (1 : Int32)) 5468 <| wr (sI g15 369 (((56 : Int32) + ((2 : Int32) * (gI g10 369 (0 : Int32).toNatClampNeg))) + (1 : Int32)).toNatClampNeg v2) fun g17 => gd (0 : Int32) 5468 <| gd (0 : Int32) 5468 <| wr (sI g17 369 (0 : Int32).toNatClampNeg ((gI g17 369 (0 : Int32).toNatClampNeg) + (1 : Int32))) fun g19 => bnd (q_Mo_tell ((gI g10 369 (0 : Int32).toNatClampNeg) + (1 : Int32)) g19) fun r23 g21 => some (r23, g21))))
theorem tm265 {d : Nat} {v1 : Int32} {v2 : Int32} (hd : 2 ≤ d) {g : hG} (hF : Frz g) : TM wI d 265 [.ref 367, .int v1, .int v2] g (q_Mo_seen v1 v2 g) := by
  obtain ⟨e, rfl⟩ : ∃ e, d = e + 1 := ⟨d - 1, by omega⟩
  have he := hd
  refine TM.ofE e265_0 (lv := [some (.ref 367), some (.int v1), some (.int v2), none]) rfl ?_
  unfold q_Mo_seen
  refine tr_ldA rfl (tr_pushI (tr_putI hF (fk_367 hF) (fun g1 _ hF2 => tr_ldI rfl (tr_i2l (tr_pushL (?_))))))
  refine tr_pushL (?_)
  refine tr_invSI rfl rfl (Nat.le_of_ble_eq_true rfl) (Nat.le_of_ble_eq_true rfl) (by decide) (Nat.le_of_ble_eq_true rfl) (tm165 hF2) (fun r5 g3 _ hF4 => ?_)
  refine tr_if0j e265_12 (c_eq _ _) (fun hc6 => ?_) (fun hc6 => ?_)
  · exact th265_12 he rfl hF4
  · refine tr_ldI rfl (?_)
    refine tr_invSI rfl rfl (Nat.le_of_ble_eq_true rfl) (Nat.le_of_ble_eq_true rfl) (by decide) (Nat.le_of_ble_eq_true rfl) (tm178 (by omega) hF4) (fun r12 g10 _ hF11 => ?_)
    refine tr_if0n e265_16 (c_ne _ _) (fun hc13 => ?_) (fun hc13 => ?_)
    · refine tr_ldA rfl (tr_getP (b := 369) (fk_367 hF11) (fp_367_3 hF11) (tr_pushI (tr_aldI (fk_369 hF11) (fl_369 hF11) (fun _ => tr_stI (Nat.le_of_ble_eq_true rfl) rfl rfl (tr_ldI rfl (?_))))))
      refine tr_pushI (?_)
      refine tr_ifn e265_28 (c_ne _ _) (fun hc14 => ?_) (fun hc14 => ?_)
      · refine tr_ldA rfl (tr_getP (b := 369) (fk_367 hF11) (fp_367_3 hF11) (tr_pushI (tr_pushI (tr_ldI rfl (tr_bin (v := ((2 : Int32) * (gI g10 369 (0 : Int32).toNatClampNeg))) rfl (?_))))))
        refine tr_bin (v := ((56 : Int32) + ((2 : Int32) * (gI g10 369 (0 : Int32).toNatClampNeg)))) rfl (tr_ldI rfl (tr_astI hF11 (fk_369 hF11) (fl_369 hF11) (fun _ g15 _ hF16 => tr_ldA rfl (tr_getP (b := 369) (fk_367 hF16) (fp_367_3 hF16) (tr_pushI (?_))))))
        refine tr_pushI (tr_ldI rfl (tr_bin (v := ((2 : Int32) * (gI g10 369 (0 : Int32).toNatClampNeg))) rfl (tr_bin (v := ((56 : Int32) + ((2 : Int32) * (gI g10 369 (0 : Int32).toNatClampNeg)))) rfl (tr_pushI (tr_bin (v := (((56 : Int32) + ((2 : Int32) * (gI g10 369 (0 : Int32).toNatClampNeg))) + (1 : Int32))) rfl (?_))))))
        refine tr_ldI rfl (tr_astI hF16 (fk_369 hF16) (fl_369 hF16) (fun _ g17 _ hF18 => tr_ldA rfl (tr_getP (b := 369) (fk_367 hF18) (fp_367_3 hF18) (tr_pushI (tr_dup2 (?_))))))
        refine tr_aldI (fk_369 hF18) (fl_369 hF18) (fun _ => tr_pushI (tr_bin (v := ((gI g17 369 (0 : Int32).toNatClampNeg) + (1 : Int32))) rfl (tr_astI hF18 (fk_369 hF18) (fl_369 hF18) (fun _ g19 _ hF20 => tr_ldA rfl (tr_ldI rfl (?_))))))
        refine tr_pushI (tr_bin (v := ((gI g10 369 (0 : Int32).toNatClampNeg) + (1 : Int32))) rfl (?_))
        refine tr_invVI rfl rfl (fk_367 hF20) (Nat.le_of_ble_eq_true rfl) (by decide) (Nat.le_of_ble_eq_true rfl) (tm169 hF20) (fun r23 g21 _ hF22 => ?_)
        exact tr_retI hF22
      · refine tr_ldA rfl (tr_pushI (?_))
        refine tr_invVI rfl rfl (fk_367 hF11) (Nat.le_of_ble_eq_true rfl) (by decide) (Nat.le_of_ble_eq_true rfl) (tm169 hF11) (fun r26 g24 _ hF25 => ?_)
        exact tr_retI hF25
    · exact th265_12 he rfl hF11
-- Mo_forget
abbrev t266_0 : List hOp := oLdA 0 :: oPushI 0 :: oPutI 12 0 :: oLdA 0 :: oGetP 12 3 :: oPushI 0 :: oALdI 13 :: oStI 1 :: oLdA 0 :: oGetP 12 3 :: oPushI 0 :: oPushI 0 :: oAStI :: oLdI 1 :: oRetI :: []
theorem e266_0 : (opsOf 266).drop 0 = t266_0 := rfl
def q_Mo_forget (g : hG) : hO Int32 :=
  wr (sI g 367 0 (0 : Int32)) fun g1 => gd (0 : Int32) 5468 <| gd (0 : Int32) 5468 <| wr (sI g1 369 (0 : Int32).toNatClampNeg (0 : Int32)) fun g3 => some ((gI g1 369 (0 : Int32).toNatClampNeg), g3)
theorem tm266 {d : Nat} {g : hG} (hF : Frz g) : TM wI d 266 [.ref 367] g (q_Mo_forget g) := by
  refine TM.ofE e266_0 (lv := [some (.ref 367), none]) rfl ?_
  unfold q_Mo_forget
  refine tr_ldA rfl (tr_pushI (tr_putI hF (fk_367 hF) (fun g1 _ hF2 => tr_ldA rfl (tr_getP (b := 369) (fk_367 hF2) (fp_367_3 hF2) (tr_pushI (?_))))))
  refine tr_aldI (fk_369 hF2) (fl_369 hF2) (fun _ => tr_stI (Nat.le_of_ble_eq_true rfl) rfl rfl (tr_ldA rfl (tr_getP (b := 369) (fk_367 hF2) (fp_367_3 hF2) (tr_pushI (tr_pushI (?_))))))
  refine tr_astI hF2 (fk_369 hF2) (fl_369 hF2) (fun _ g3 _ hF4 => tr_ldI rfl (?_))
  exact tr_retI hF4
-- Mo_layPlaces
abbrev t267_34 : List hOp := oLdA 0 :: oPushI 16 :: oInvV 173 12 1 :: oRetV :: []
abbrev t267_29 : List hOp := oLdA 0 :: oInvV 238 12 0 :: oPop :: oInc 1 1 :: oGoto 5 :: t267_34
abbrev t267_10 : List hOp := oLdI 2 :: oPushI 8 :: oIf cGe 29 :: oLdA 0 :: oGetP 12 46 :: oPushI 8 :: oLdI 1 :: oBin (fun x y => x * y) :: oLdI 2 :: oBin (fun x y => x + y) :: oLdA 0 :: oGetP 12 3 :: oPushI 40 :: oLdI 2 :: oBin (fun x y => x + y) :: oALdI 13 :: oAStI :: oInc 2 1 :: oGoto 10 :: t267_29
abbrev t267_5 : List hOp := oLdI 1 :: oPushI 30 :: oIf cGt 34 :: oPushI 0 :: oStI 2 :: t267_10
abbrev t267_0 : List hOp := oLdA 0 :: oPushI 16 :: oInvV 172 12 1 :: oPushI 0 :: oStI 1 :: t267_5
theorem e267_0 : (opsOf 267).drop 0 = t267_0 := rfl
theorem e267_5 : (opsOf 267).drop 5 = t267_5 := rfl
theorem e267_10 : (opsOf 267).drop 10 = t267_10 := rfl
theorem e267_29 : (opsOf 267).drop 29 = t267_29 := rfl
theorem e267_34 : (opsOf 267).drop 34 = t267_34 := rfl
def q_Mo_layPlaces_10 (v1 : Int32) (k29 : hG → hO Unit) (k10 : Int32 → hG → hO Unit) (v2 : Int32) (g : hG) : hO Unit :=
  if (8 : Int32) ≤ v2 then (k29 g) else (gd ((40 : Int32) + v2) 5468 <| gd (((8 : Int32) * v1) + v2) 248 <| wr (sI g 393 (((8 : Int32) * v1) + v2).toNatClampNeg (gI g 369 ((40 : Int32) + v2).toNatClampNeg)) fun g5 => k10 (v2 + (1 : Int32)) g5)
def q_Mo_layPlaces_10L (v1 : Int32) (k29 : hG → hO Unit) : Nat → Int32 → hG → hO Unit
  | 0 => fun _ _ => none
  | n + 1 => fun v2 g => q_Mo_layPlaces_10 v1 k29 (q_Mo_layPlaces_10L v1 k29 n) v2 g
theorem q_Mo_layPlaces_10L_s (v1 : Int32) (k29 : hG → hO Unit) (n : Nat) (v2 : Int32) (g : hG) : q_Mo_layPlaces_10L v1 k29 (n + 1) v2 g = q_Mo_layPlaces_10 v1 k29 (q_Mo_layPlaces_10L v1 k29 n) v2 g := rfl
theorem th267_10 {e : Nat} (he : 7 ≤ e + 1) {v1 : Int32} {k29 : hG → hO Unit} {k10 : Int32 → hG → hO Unit} {v2 : Int32} (hk29 : ∀ (y2 : Option Value) (g : hG), Frz g → Tri wU (e + 1) 267 t267_29 [some (.ref 367), some (.int v1), y2] [] g (k29 g)) (hk10 : ∀ (x2 : Int32) (g : hG), Frz g → Tri wU (e + 1) 267 t267_10 [some (.ref 367), some (.int v1), some (.int x2)] [] g (k10 x2 g)) {g : hG} (hF : Frz g) : Tri wU (e + 1) 267 t267_10 [some (.ref 367), some (.int v1), some (.int v2)] [] g (q_Mo_layPlaces_10 v1 k29 k10 v2 g) := by
  unfold q_Mo_layPlaces_10
  refine tr_ldI rfl (tr_pushI (?_))
  refine tr_ifj e267_29 (c_ge _ _) (fun hc4 => ?_) (fun hc4 => ?_)
  · exact hk29 _ _ hF
  · refine tr_ldA rfl (tr_getP (b := 393) (fk_367 hF) (fp_367_46 hF) (tr_pushI (tr_ldI rfl (tr_bin (v := ((8 : Int32) * v1)) rfl (tr_ldI rfl (?_))))))
    refine tr_bin (v := (((8 : Int32) * v1) + v2)) rfl (tr_ldA rfl (tr_getP (b := 369) (fk_367 hF) (fp_367_3 hF) (tr_pushI (tr_ldI rfl (tr_bin (v := ((40 : Int32) + v2)) rfl (?_))))))
    refine tr_aldI (fk_369 hF) (fl_369 hF) (fun _ => tr_astI hF (fk_393 hF) (fl_393 hF) (fun _ g5 _ hF6 => tr_inc rfl rfl rfl (?_)))
    refine tr_gotoE e267_10 (?_)
    exact hk10 _ _ hF6
theorem th267_10L {e : Nat} (he : 7 ≤ e + 1) {v1 : Int32} {k29 : hG → hO Unit} (hk29 : ∀ (y2 : Option Value) (g : hG), Frz g → Tri wU (e + 1) 267 t267_29 [some (.ref 367), some (.int v1), y2] [] g (k29 g)) : ∀ (n : Nat) (v2 : Int32) (g : hG), Frz g → Tri wU (e + 1) 267 t267_10 [some (.ref 367), some (.int v1), some (.int v2)] [] g (q_Mo_layPlaces_10L v1 k29 n v2 g)
  | 0 => fun _ _ _ => Tri.none_
  | n + 1 => fun _ g hF => th267_10 he hk29 (th267_10L he hk29 n) hF
def q_Mo_layPlaces_5 (k34 : hG → hO Unit) (k5 : Int32 → hG → hO Unit) (v1 : Int32) (g : hG) : hO Unit :=
  if (30 : Int32) < v1 then (k34 g) else (q_Mo_layPlaces_10L v1 (fun g8 => bnd (q_Mo_passIt g8) fun r12 g10 => k5 (v1 + (1 : Int32)) g10) FU (0 : Int32) g)
def q_Mo_layPlaces_5L (k34 : hG → hO Unit) : Nat → Int32 → hG → hO Unit
  | 0 => fun _ _ => none
  | n + 1 => fun v1 g => q_Mo_layPlaces_5 k34 (q_Mo_layPlaces_5L k34 n) v1 g
theorem q_Mo_layPlaces_5L_s (k34 : hG → hO Unit) (n : Nat) (v1 : Int32) (g : hG) : q_Mo_layPlaces_5L k34 (n + 1) v1 g = q_Mo_layPlaces_5 k34 (q_Mo_layPlaces_5L k34 n) v1 g := rfl
theorem th267_5 {e : Nat} (he : 7 ≤ e + 1) {k34 : hG → hO Unit} {k5 : Int32 → hG → hO Unit} {v1 : Int32} {u2 : Option Value} (hk34 : ∀ (y1 : Option Value) (y2 : Option Value) (_ : isL (some y1) = false) (g : hG), Frz g → Tri wU (e + 1) 267 t267_34 [some (.ref 367), y1, y2] [] g (k34 g)) (hk5 : ∀ (x1 : Int32) (y2 : Option Value) (g : hG), Frz g → Tri wU (e + 1) 267 t267_5 [some (.ref 367), some (.int x1), y2] [] g (k5 x1 g)) {g : hG} (hF : Frz g) : Tri wU (e + 1) 267 t267_5 [some (.ref 367), some (.int v1), u2] [] g (q_Mo_layPlaces_5 k34 k5 v1 g) := by
  unfold q_Mo_layPlaces_5
  refine tr_ldI rfl (tr_pushI (?_))
  refine tr_ifj e267_34 (c_gt _ _) (fun hc3 => ?_) (fun hc3 => ?_)
  · exact hk34 _ _ rfl _ hF
  · refine tr_pushI (tr_stI (Nat.le_of_ble_eq_true rfl) rfl rfl (?_))
    refine th267_10L he (fun y7 g8 hF9 => ?_) FU _ _ hF
    · refine tr_ldA rfl (?_)
      refine tr_invVI rfl rfl (fk_367 hF9) (Nat.le_of_ble_eq_true rfl) (by decide) (Nat.le_of_ble_eq_true rfl) (tm238 (by omega) hF9) (fun r12 g10 _ hF11 => ?_)
      refine tr_pop (tr_inc rfl rfl rfl (?_))
      refine tr_gotoE e267_5 (?_)
      exact hk5 _ _ _ hF11
theorem th267_5L {e : Nat} (he : 7 ≤ e + 1) {k34 : hG → hO Unit} (hk34 : ∀ (y1 : Option Value) (y2 : Option Value) (_ : isL (some y1) = false) (g : hG), Frz g → Tri wU (e + 1) 267 t267_34 [some (.ref 367), y1, y2] [] g (k34 g)) : ∀ (n : Nat) (v1 : Int32) (u2 : Option Value) (g : hG), Frz g → Tri wU (e + 1) 267 t267_5 [some (.ref 367), some (.int v1), u2] [] g (q_Mo_layPlaces_5L k34 n v1 g)
  | 0 => fun _ _ _ _ => Tri.none_
  | n + 1 => fun _ _ g hF => th267_5 he hk34 (th267_5L he hk34 n) hF
def q_Mo_layPlaces (g : hG) : hO Unit :=
  bnd (q_Mo_keepAll (16 : Int32) g) fun _ g1 => q_Mo_layPlaces_5L (fun g15 => bnd (q_Mo_putBack (16 : Int32) g15) fun _ g17 => some ((), g17)) FU (0 : Int32) g1
theorem tm267 {d : Nat} (hd : 7 ≤ d) {g : hG} (hF : Frz g) : TM wU d 267 [.ref 367] g (q_Mo_layPlaces g) := by
  obtain ⟨e, rfl⟩ : ∃ e, d = e + 1 := ⟨d - 1, by omega⟩
  have he := hd
  refine TM.ofE e267_0 (lv := [some (.ref 367), none, none]) rfl ?_
  unfold q_Mo_layPlaces
  refine tr_ldA rfl (tr_pushI (?_))
  refine tr_invVU rfl rfl (fk_367 hF) (Nat.le_of_ble_eq_true rfl) (by decide) (Nat.le_of_ble_eq_true rfl) (tm172 hF) (fun _ g1 _ hF2 => ?_)
  refine tr_pushI (tr_stI (Nat.le_of_ble_eq_true rfl) rfl rfl (?_))
  refine th267_5L he (fun y13 y14 zy13 g15 hF16 => ?_) FU _ _ _ hF2
  · refine tr_ldA rfl (tr_pushI (?_))
    refine tr_invVU rfl rfl (fk_367 hF16) (Nat.le_of_ble_eq_true rfl) (by decide) (Nat.le_of_ble_eq_true rfl) (tm173 hF16) (fun _ g17 _ hF18 => ?_)
    exact tr_retV hF18
