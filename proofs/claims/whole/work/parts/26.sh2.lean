-- Rd_readTwo
abbrev t40_26 : List hOp := oLdA 0 :: oGetP 5 1 :: oGetP 9 5 :: oLdI 1 :: oLdA 0 :: oGetP 5 1 :: oGetI 9 1 :: oAStI :: oLdA 0 :: oLdA 0 :: oPushI 0 :: oInvV 49 5 1 :: oInvV 43 5 1 :: oRetZ :: []
abbrev t40_24 : List hOp := oPushI 0 :: oRetZ :: t40_26
abbrev t40_0 : List hOp := oLdA 0 :: oGetP 5 1 :: oGetP 9 3 :: oLdI 1 :: oLdI 2 :: oAStI :: oLdA 0 :: oGetP 5 1 :: oGetP 9 4 :: oLdI 1 :: oLdA 0 :: oGetP 5 1 :: oGetI 9 1 :: oAStI :: oLdA 0 :: oLdA 0 :: oPushI 0 :: oInvV 49 5 1 :: oInvV 43 5 1 :: oIf0 cEq 24 :: oLdA 0 :: oLdI 3 :: oInvV 37 5 1 :: oIf0 cNe 26 :: t40_24
theorem e40_0 : (opsOf 40).drop 0 = t40_0 := rfl
theorem e40_24 : (opsOf 40).drop 24 = t40_24 := rfl
theorem e40_26 : (opsOf 40).drop 26 = t40_26 := rfl
def q_Rd_readTwo (v1 : Int32) (v2 : Int32) (v3 : Int32) (g : hG) : hO Int32 :=
  gp is_txt (gP g 239 1) fun b1 => gd v1 12 <| wr (sI g (b1 + 2) v1.toNatClampNeg v2) fun g2 => gp is_txt (gP g2 239 1) fun b4 => gp is_txt (gP g2 239 1) fun b5 => gd v1 12 <| wr (sI g2 (b4 + 3) v1.toNatClampNeg (gI g2 b5 1)) fun g6 => bnd (z_Rd_sum FR (0 : Int32) g6) fun r10 g8 => bnd (q_Rd_endRow r10 g8) fun r13 g11 => if r13 = (0 : Int32) then (some ((0 : Int32), g11)) else (bnd (q_Rd_took v3 g11) fun r17 g15 => if r17 = (0 : Int32) then (some ((0 : Int32), g15)) else (gp is_txt (gP g15 239 1) fun b19 => gp is_txt (gP g15 239 1) fun b20 => gd v1 12 <| wr (sI g15 (b19 + 4) v1.toNatClampNeg (gI g15 b20 1)) fun g21 => bnd (z_Rd_sum FR (0 : Int32) g21) fun r25 g23 => bnd (q_Rd_endRow r25 g23) fun r28 g26 => gb r28 (some (r28, g26))))
theorem tm40 {d : Nat} {v1 : Int32} {v2 : Int32} {v3 : Int32} (hd : 41 ≤ d) {g : hG} (hF : Frz g) : TM wI d 40 [.ref 239, .int v1, .int v2, .int v3] g (q_Rd_readTwo v1 v2 v3 g) := by
  obtain ⟨e, rfl⟩ : ∃ e, d = e + 1 := ⟨d - 1, by omega⟩
  have he := hd
  refine TM.ofE e40_0 (lv := [some (.ref 239), some (.int v1), some (.int v2), some (.int v3)]) rfl ?_
  unfold q_Rd_readTwo
  refine tr_ldA rfl (tr_getM (fk_239 hF) (fun b1 _ hb1 => tr_getP (b := (b1 + 2)) (txt_k hF hb1) (txt_p3 hF hb1) (tr_ldI rfl (tr_ldI rfl (tr_astI hF (txt_ak2 hF hb1) (txt_al2 hF hb1) (fun _ g2 _ hF3 => ?_))))))
  refine tr_ldA rfl (tr_getM (fk_239 hF3) (fun b4 _ hb4 => tr_getP (b := (b4 + 3)) (txt_k hF3 hb4) (txt_p4 hF3 hb4) (tr_ldI rfl (tr_ldA rfl (tr_getM (fk_239 hF3) (fun b5 _ hb5 => ?_))))))
  refine tr_getI (txt_k hF3 hb5) (tr_astI hF3 (txt_ak3 hF3 hb4) (txt_al3 hF3 hb4) (fun _ g6 _ hF7 => tr_ldA rfl (tr_ldA rfl (tr_pushI (?_)))))
  refine tr_invVI rfl rfl (fk_239 hF7) (Nat.le_of_ble_eq_true rfl) (by decide) (Nat.le_of_ble_eq_true rfl) (tmz49 FR (by rw [FR]; omega) _ _ hF7) (fun r10 g8 _ hF9 => ?_)
  refine tr_invVI rfl rfl (fk_239 hF9) (Nat.le_of_ble_eq_true rfl) (by decide) (Nat.le_of_ble_eq_true rfl) (tm43 (by omega) hF9) (fun r13 g11 _ hF12 => ?_)
  refine tr_if0j e40_24 (c_eq _ _) (fun hc14 => ?_) (fun hc14 => ?_)
  · refine tr_pushI (?_)
    exact tr_retZl (Or.inl rfl) hF12
  · refine tr_ldA rfl (tr_ldI rfl (?_))
    refine tr_invVI rfl rfl (fk_239 hF12) (Nat.le_of_ble_eq_true rfl) (by decide) (Nat.le_of_ble_eq_true rfl) (tm37 hF12) (fun r17 g15 _ hF16 => ?_)
    refine tr_if0n e40_26 (c_ne _ _) (fun hc18 => ?_) (fun hc18 => ?_)
    · refine tr_ldA rfl (tr_getM (fk_239 hF16) (fun b19 _ hb19 => tr_getP (b := (b19 + 4)) (txt_k hF16 hb19) (txt_p5 hF16 hb19) (tr_ldI rfl (tr_ldA rfl (tr_getM (fk_239 hF16) (fun b20 _ hb20 => ?_))))))
      refine tr_getI (txt_k hF16 hb20) (tr_astI hF16 (txt_ak4 hF16 hb19) (txt_al4 hF16 hb19) (fun _ g21 _ hF22 => tr_ldA rfl (tr_ldA rfl (tr_pushI (?_)))))
      refine tr_invVI rfl rfl (fk_239 hF22) (Nat.le_of_ble_eq_true rfl) (by decide) (Nat.le_of_ble_eq_true rfl) (tmz49 FR (by rw [FR]; omega) _ _ hF22) (fun r25 g23 _ hF24 => ?_)
      refine tr_invVI rfl rfl (fk_239 hF24) (Nat.le_of_ble_eq_true rfl) (by decide) (Nat.le_of_ble_eq_true rfl) (tm43 (by omega) hF24) (fun r28 g26 _ hF27 => ?_)
      exact tr_retZ hF27
    · refine tr_pushI (?_)
      exact tr_retZl (Or.inl rfl) hF16
-- Rd_readTimes
abbrev t41_16 : List hOp := oLdA 0 :: oGetP 5 1 :: oGetP 9 6 :: oLdI 1 :: oLdA 0 :: oInvV 35 5 0 :: oAStI :: oLdA 0 :: oInvV 36 5 0 :: oPushI 1 :: oRetZ :: []
abbrev t41_14 : List hOp := oPushI 0 :: oRetZ :: t41_16
abbrev t41_6 : List hOp := oLdA 0 :: oInvV 35 5 0 :: oPushI 1 :: oIf cLt 14 :: oLdA 0 :: oInvV 35 5 0 :: oPushI 20 :: oIf cLe 16 :: t41_14
abbrev t41_0 : List hOp := oLdA 0 :: oPushI 3014 :: oInvV 37 5 1 :: oIf0 cNe 6 :: oPushI 1 :: oRetZ :: t41_6
theorem e41_0 : (opsOf 41).drop 0 = t41_0 := rfl
theorem e41_6 : (opsOf 41).drop 6 = t41_6 := rfl
theorem e41_14 : (opsOf 41).drop 14 = t41_14 := rfl
theorem e41_16 : (opsOf 41).drop 16 = t41_16 := rfl
def q_Rd_readTimes (v1 : Int32) (g : hG) : hO Int32 :=
  bnd (q_Rd_took (3014 : Int32) g) fun r3 g1 => if r3 = (0 : Int32) then (some ((1 : Int32), g1)) else (bnd (q_Rd_token g1) fun r7 g5 => if r7 < (1 : Int32) then (some ((0 : Int32), g5)) else (bnd (q_Rd_token g5) fun r11 g9 => if r11 ≤ (20 : Int32) then (gp is_txt (gP g9 239 1) fun b13 => bnd (q_Rd_token g9) fun r16 g14 => gd v1 12 <| wr (sI g14 (b13 + 5) v1.toNatClampNeg r16) fun g17 => bnd (q_Rd_goOn g17) fun _ g19 => some ((1 : Int32), g19)) else (some ((0 : Int32), g9))))
theorem tm41 {d : Nat} {v1 : Int32} (hd : 1 ≤ d) {g : hG} (hF : Frz g) : TM wI d 41 [.ref 239, .int v1] g (q_Rd_readTimes v1 g) := by
  obtain ⟨e, rfl⟩ : ∃ e, d = e + 1 := ⟨d - 1, by omega⟩
  have he := hd
  refine TM.ofE e41_0 (lv := [some (.ref 239), some (.int v1)]) rfl ?_
  unfold q_Rd_readTimes
  refine tr_ldA rfl (tr_pushI (?_))
  refine tr_invVI rfl rfl (fk_239 hF) (Nat.le_of_ble_eq_true rfl) (by decide) (Nat.le_of_ble_eq_true rfl) (tm37 hF) (fun r3 g1 _ hF2 => ?_)
  refine tr_if0n e41_6 (c_ne _ _) (fun hc4 => ?_) (fun hc4 => ?_)
  · refine tr_ldA rfl (?_)
    refine tr_invVI rfl rfl (fk_239 hF2) (Nat.le_of_ble_eq_true rfl) (by decide) (Nat.le_of_ble_eq_true rfl) (tm35 hF2) (fun r7 g5 _ hF6 => ?_)
    refine tr_pushI (?_)
    refine tr_ifj e41_14 (c_lt _ _) (fun hc8 => ?_) (fun hc8 => ?_)
    · refine tr_pushI (?_)
      exact tr_retZl (Or.inl rfl) hF6
    · refine tr_ldA rfl (?_)
      refine tr_invVI rfl rfl (fk_239 hF6) (Nat.le_of_ble_eq_true rfl) (by decide) (Nat.le_of_ble_eq_true rfl) (tm35 hF6) (fun r11 g9 _ hF10 => ?_)
      refine tr_pushI (?_)
      refine tr_ifj e41_16 (c_le _ _) (fun hc12 => ?_) (fun hc12 => ?_)
      · refine tr_ldA rfl (tr_getM (fk_239 hF10) (fun b13 _ hb13 => tr_getP (b := (b13 + 5)) (txt_k hF10 hb13) (txt_p6 hF10 hb13) (tr_ldI rfl (tr_ldA rfl (?_)))))
        refine tr_invVI rfl rfl (fk_239 hF10) (Nat.le_of_ble_eq_true rfl) (by decide) (Nat.le_of_ble_eq_true rfl) (tm35 hF10) (fun r16 g14 _ hF15 => ?_)
        refine tr_astI hF15 (txt_ak5 hF15 hb13) (txt_al5 hF15 hb13) (fun _ g17 _ hF18 => tr_ldA rfl (?_))
        refine tr_invVU rfl rfl (fk_239 hF18) (Nat.le_of_ble_eq_true rfl) (by decide) (Nat.le_of_ble_eq_true rfl) (tm36 hF18) (fun _ g19 _ hF20 => ?_)
        refine tr_pushI (?_)
        exact tr_retZl (Or.inr rfl) hF20
      · refine tr_pushI (?_)
        exact tr_retZl (Or.inl rfl) hF10
  · refine tr_pushI (?_)
    exact tr_retZl (Or.inr rfl) hF2
-- Rd_readOrder
abbrev t39_57 : List hOp := oRetZ :: []
abbrev t39_56 : List hOp := oPushI 0 :: t39_57
abbrev t39_48 : List hOp := oLdI 2 :: oIf0 cEq 56 :: oLdA 0 :: oLdI 1 :: oInvV 41 5 1 :: oIf0 cEq 56 :: oPushI 1 :: oGoto 57 :: t39_56
abbrev t39_46 : List hOp := oPushI 0 :: oStI 2 :: t39_48
abbrev t39_35 : List hOp := oLdA 0 :: oPushI 3011 :: oInvV 37 5 1 :: oIf0 cEq 46 :: oLdA 0 :: oLdI 1 :: oPushI 2 :: oPushI 3012 :: oInvV 40 5 3 :: oStI 2 :: oGoto 48 :: t39_46
abbrev t39_24 : List hOp := oLdA 0 :: oPushI 3009 :: oInvV 37 5 1 :: oIf0 cEq 35 :: oLdA 0 :: oLdI 1 :: oPushI 1 :: oPushI 3010 :: oInvV 40 5 3 :: oStI 2 :: oGoto 48 :: t39_35
abbrev t39_13 : List hOp := oLdA 0 :: oPushI 3007 :: oInvV 37 5 1 :: oIf0 cEq 24 :: oLdA 0 :: oLdI 1 :: oPushI 0 :: oPushI 3008 :: oInvV 40 5 3 :: oStI 2 :: oGoto 48 :: t39_24
abbrev t39_0 : List hOp := oLdA 0 :: oPushI 3013 :: oInvV 37 5 1 :: oIf0 cEq 13 :: oLdA 0 :: oGetP 5 1 :: oGetP 9 3 :: oLdI 1 :: oPushI 3 :: oAStI :: oPushI 1 :: oStI 2 :: oGoto 48 :: t39_13
theorem e39_0 : (opsOf 39).drop 0 = t39_0 := rfl
theorem e39_13 : (opsOf 39).drop 13 = t39_13 := rfl
theorem e39_24 : (opsOf 39).drop 24 = t39_24 := rfl
theorem e39_35 : (opsOf 39).drop 35 = t39_35 := rfl
theorem e39_46 : (opsOf 39).drop 46 = t39_46 := rfl
theorem e39_48 : (opsOf 39).drop 48 = t39_48 := rfl
theorem e39_56 : (opsOf 39).drop 56 = t39_56 := rfl
theorem e39_57 : (opsOf 39).drop 57 = t39_57 := rfl
def q_Rd_readOrder_48 (v1 : Int32) (v2 : Int32) (g : hG) : hO Int32 :=
  if v2 = (0 : Int32) then (some ((0 : Int32), g)) else (bnd (q_Rd_readTimes v1 g) fun r20 g18 => if r20 = (0 : Int32) then (some ((0 : Int32), g18)) else (some ((1 : Int32), g18)))
theorem th39_48 {e : Nat} (he : 42 ≤ e + 1) {v1 : Int32} {v2 : Int32} {g : hG} (hF : Frz g) : Tri wI (e + 1) 39 t39_48 [some (.ref 239), some (.int v1), some (.int v2)] [] g (q_Rd_readOrder_48 v1 v2 g) := by
  unfold q_Rd_readOrder_48
  refine tr_ldI rfl (?_)
  refine tr_if0j e39_56 (c_eq _ _) (fun hc17 => ?_) (fun hc17 => ?_)
  · refine tr_pushI (?_)
    exact tr_retZl (Or.inl rfl) hF
  · refine tr_ldA rfl (tr_ldI rfl (?_))
    refine tr_invVI rfl rfl (fk_239 hF) (Nat.le_of_ble_eq_true rfl) (by decide) (Nat.le_of_ble_eq_true rfl) (tm41 (by omega) hF) (fun r20 g18 _ hF19 => ?_)
    refine tr_if0j e39_56 (c_eq _ _) (fun hc21 => ?_) (fun hc21 => ?_)
    · refine tr_pushI (?_)
      exact tr_retZl (Or.inl rfl) hF19
    · refine tr_pushI (?_)
      refine tr_gotoE e39_57 (?_)
      exact tr_retZl (Or.inr rfl) hF19
def q_Rd_readOrder (v1 : Int32) (g : hG) : hO Int32 :=
  bnd (q_Rd_took (3013 : Int32) g) fun r3 g1 => if r3 = (0 : Int32) then (bnd (q_Rd_took (3007 : Int32) g1) fun r7 g5 => if r7 = (0 : Int32) then (bnd (q_Rd_took (3009 : Int32) g5) fun r11 g9 => if r11 = (0 : Int32) then (bnd (q_Rd_took (3011 : Int32) g9) fun r15 g13 => if r15 = (0 : Int32) then (q_Rd_readOrder_48 v1 (0 : Int32) g13) else (bnd (q_Rd_readTwo v1 (2 : Int32) (3012 : Int32) g13) fun r24 g22 => q_Rd_readOrder_48 v1 r24 g22)) else (bnd (q_Rd_readTwo v1 (1 : Int32) (3010 : Int32) g9) fun r27 g25 => q_Rd_readOrder_48 v1 r27 g25)) else (bnd (q_Rd_readTwo v1 (0 : Int32) (3008 : Int32) g5) fun r30 g28 => q_Rd_readOrder_48 v1 r30 g28)) else (gp is_txt (gP g1 239 1) fun b31 => gd v1 12 <| wr (sI g1 (b31 + 2) v1.toNatClampNeg (3 : Int32)) fun g32 => q_Rd_readOrder_48 v1 (1 : Int32) g32)
theorem tm39 {d : Nat} {v1 : Int32} (hd : 42 ≤ d) {g : hG} (hF : Frz g) : TM wI d 39 [.ref 239, .int v1] g (q_Rd_readOrder v1 g) := by
  obtain ⟨e, rfl⟩ : ∃ e, d = e + 1 := ⟨d - 1, by omega⟩
  have he := hd
  refine TM.ofE e39_0 (lv := [some (.ref 239), some (.int v1), none]) rfl ?_
  unfold q_Rd_readOrder
  refine tr_ldA rfl (tr_pushI (?_))
  refine tr_invVI rfl rfl (fk_239 hF) (Nat.le_of_ble_eq_true rfl) (by decide) (Nat.le_of_ble_eq_true rfl) (tm37 hF) (fun r3 g1 _ hF2 => ?_)
  refine tr_if0j e39_13 (c_eq _ _) (fun hc4 => ?_) (fun hc4 => ?_)
  · refine tr_ldA rfl (tr_pushI (?_))
    refine tr_invVI rfl rfl (fk_239 hF2) (Nat.le_of_ble_eq_true rfl) (by decide) (Nat.le_of_ble_eq_true rfl) (tm37 hF2) (fun r7 g5 _ hF6 => ?_)
    refine tr_if0j e39_24 (c_eq _ _) (fun hc8 => ?_) (fun hc8 => ?_)
    · refine tr_ldA rfl (tr_pushI (?_))
      refine tr_invVI rfl rfl (fk_239 hF6) (Nat.le_of_ble_eq_true rfl) (by decide) (Nat.le_of_ble_eq_true rfl) (tm37 hF6) (fun r11 g9 _ hF10 => ?_)
      refine tr_if0j e39_35 (c_eq _ _) (fun hc12 => ?_) (fun hc12 => ?_)
      · refine tr_ldA rfl (tr_pushI (?_))
        refine tr_invVI rfl rfl (fk_239 hF10) (Nat.le_of_ble_eq_true rfl) (by decide) (Nat.le_of_ble_eq_true rfl) (tm37 hF10) (fun r15 g13 _ hF14 => ?_)
        refine tr_if0j e39_46 (c_eq _ _) (fun hc16 => ?_) (fun hc16 => ?_)
        · refine tr_pushI (tr_stI (Nat.le_of_ble_eq_true rfl) rfl rfl (?_))
          exact th39_48 he hF14
        · refine tr_ldA rfl (tr_ldI rfl (tr_pushI (tr_pushI (?_))))
          refine tr_invVI rfl rfl (fk_239 hF14) (Nat.le_of_ble_eq_true rfl) (by decide) (Nat.le_of_ble_eq_true rfl) (tm40 (by omega) hF14) (fun r24 g22 _ hF23 => ?_)
          refine tr_stI (Nat.le_of_ble_eq_true rfl) rfl rfl (?_)
          refine tr_gotoE e39_48 (?_)
          exact th39_48 he hF23
      · refine tr_ldA rfl (tr_ldI rfl (tr_pushI (tr_pushI (?_))))
        refine tr_invVI rfl rfl (fk_239 hF10) (Nat.le_of_ble_eq_true rfl) (by decide) (Nat.le_of_ble_eq_true rfl) (tm40 (by omega) hF10) (fun r27 g25 _ hF26 => ?_)
        refine tr_stI (Nat.le_of_ble_eq_true rfl) rfl rfl (?_)
        refine tr_gotoE e39_48 (?_)
        exact th39_48 he hF26
    · refine tr_ldA rfl (tr_ldI rfl (tr_pushI (tr_pushI (?_))))
      refine tr_invVI rfl rfl (fk_239 hF6) (Nat.le_of_ble_eq_true rfl) (by decide) (Nat.le_of_ble_eq_true rfl) (tm40 (by omega) hF6) (fun r30 g28 _ hF29 => ?_)
      refine tr_stI (Nat.le_of_ble_eq_true rfl) rfl rfl (?_)
      refine tr_gotoE e39_48 (?_)
      exact th39_48 he hF29
  · refine tr_ldA rfl (tr_getM (fk_239 hF2) (fun b31 _ hb31 => tr_getP (b := (b31 + 2)) (txt_k hF2 hb31) (txt_p3 hF2 hb31) (tr_ldI rfl (tr_pushI (tr_astI hF2 (txt_ak2 hF2 hb31) (txt_al2 hF2 hb31) (fun _ g32 _ hF33 => ?_))))))
    refine tr_pushI (tr_stI (Nat.le_of_ble_eq_true rfl) rfl rfl (?_))
    refine tr_gotoE e39_48 (?_)
    exact th39_48 he hF33
-- Rd_readRule
abbrev t38_18 : List hOp := oLdA 0 :: oGetP 5 1 :: oGetP 9 3 :: oLdI 1 :: oPushI 4 :: oAStI :: oLdA 0 :: oGetP 5 1 :: oGetP 9 4 :: oLdI 1 :: oLdA 0 :: oGetP 5 1 :: oGetI 9 1 :: oAStI :: oLdA 0 :: oLdA 0 :: oPushI 0 :: oInvV 49 5 1 :: oInvV 43 5 1 :: oRetZ :: []
abbrev t38_12 : List hOp := oLdA 0 :: oPushI 3001 :: oInvV 37 5 1 :: oIf0 cNe 18 :: oPushI 0 :: oRetZ :: t38_18
abbrev t38_0 : List hOp := oLdA 0 :: oPushI 3002 :: oInvV 37 5 1 :: oIf0 cEq 12 :: oLdA 0 :: oGetP 5 1 :: oGetP 9 3 :: oLdI 1 :: oPushI 5 :: oAStI :: oPushI 1 :: oRetZ :: t38_12
theorem e38_0 : (opsOf 38).drop 0 = t38_0 := rfl
theorem e38_12 : (opsOf 38).drop 12 = t38_12 := rfl
theorem e38_18 : (opsOf 38).drop 18 = t38_18 := rfl
def q_Rd_readRule (v1 : Int32) (g : hG) : hO Int32 :=
  bnd (q_Rd_took (3002 : Int32) g) fun r3 g1 => if r3 = (0 : Int32) then (bnd (q_Rd_took (3001 : Int32) g1) fun r7 g5 => if r7 = (0 : Int32) then (some ((0 : Int32), g5)) else (gp is_txt (gP g5 239 1) fun b9 => gd v1 12 <| wr (sI g5 (b9 + 2) v1.toNatClampNeg (4 : Int32)) fun g10 => gp is_txt (gP g10 239 1) fun b12 => gp is_txt (gP g10 239 1) fun b13 => gd v1 12 <| wr (sI g10 (b12 + 3) v1.toNatClampNeg (gI g10 b13 1)) fun g14 => bnd (z_Rd_sum FR (0 : Int32) g14) fun r18 g16 => bnd (q_Rd_endRow r18 g16) fun r21 g19 => gb r21 (some (r21, g19)))) else (gp is_txt (gP g1 239 1) fun b22 => gd v1 12 <| wr (sI g1 (b22 + 2) v1.toNatClampNeg (5 : Int32)) fun g23 => some ((1 : Int32), g23))
theorem tm38 {d : Nat} {v1 : Int32} (hd : 41 ≤ d) {g : hG} (hF : Frz g) : TM wI d 38 [.ref 239, .int v1] g (q_Rd_readRule v1 g) := by
  obtain ⟨e, rfl⟩ : ∃ e, d = e + 1 := ⟨d - 1, by omega⟩
  have he := hd
  refine TM.ofE e38_0 (lv := [some (.ref 239), some (.int v1)]) rfl ?_
  unfold q_Rd_readRule
  refine tr_ldA rfl (tr_pushI (?_))
  refine tr_invVI rfl rfl (fk_239 hF) (Nat.le_of_ble_eq_true rfl) (by decide) (Nat.le_of_ble_eq_true rfl) (tm37 hF) (fun r3 g1 _ hF2 => ?_)
  refine tr_if0j e38_12 (c_eq _ _) (fun hc4 => ?_) (fun hc4 => ?_)
  · refine tr_ldA rfl (tr_pushI (?_))
    refine tr_invVI rfl rfl (fk_239 hF2) (Nat.le_of_ble_eq_true rfl) (by decide) (Nat.le_of_ble_eq_true rfl) (tm37 hF2) (fun r7 g5 _ hF6 => ?_)
    refine tr_if0n e38_18 (c_ne _ _) (fun hc8 => ?_) (fun hc8 => ?_)
    · refine tr_ldA rfl (tr_getM (fk_239 hF6) (fun b9 _ hb9 => tr_getP (b := (b9 + 2)) (txt_k hF6 hb9) (txt_p3 hF6 hb9) (tr_ldI rfl (tr_pushI (tr_astI hF6 (txt_ak2 hF6 hb9) (txt_al2 hF6 hb9) (fun _ g10 _ hF11 => ?_))))))
      refine tr_ldA rfl (tr_getM (fk_239 hF11) (fun b12 _ hb12 => tr_getP (b := (b12 + 3)) (txt_k hF11 hb12) (txt_p4 hF11 hb12) (tr_ldI rfl (tr_ldA rfl (tr_getM (fk_239 hF11) (fun b13 _ hb13 => ?_))))))
      refine tr_getI (txt_k hF11 hb13) (tr_astI hF11 (txt_ak3 hF11 hb12) (txt_al3 hF11 hb12) (fun _ g14 _ hF15 => tr_ldA rfl (tr_ldA rfl (tr_pushI (?_)))))
      refine tr_invVI rfl rfl (fk_239 hF15) (Nat.le_of_ble_eq_true rfl) (by decide) (Nat.le_of_ble_eq_true rfl) (tmz49 FR (by rw [FR]; omega) _ _ hF15) (fun r18 g16 _ hF17 => ?_)
      refine tr_invVI rfl rfl (fk_239 hF17) (Nat.le_of_ble_eq_true rfl) (by decide) (Nat.le_of_ble_eq_true rfl) (tm43 (by omega) hF17) (fun r21 g19 _ hF20 => ?_)
      exact tr_retZ hF20
    · refine tr_pushI (?_)
      exact tr_retZl (Or.inl rfl) hF6
  · refine tr_ldA rfl (tr_getM (fk_239 hF2) (fun b22 _ hb22 => tr_getP (b := (b22 + 2)) (txt_k hF2 hb22) (txt_p3 hF2 hb22) (tr_ldI rfl (tr_pushI (tr_astI hF2 (txt_ak2 hF2 hb22) (txt_al2 hF2 hb22) (fun _ g23 _ hF24 => ?_))))))
    refine tr_pushI (?_)
    exact tr_retZl (Or.inr rfl) hF24
-- Rd_bracketed
abbrev t47_20 : List hOp := oRetZ :: []
abbrev t47_19 : List hOp := oPushI 0 :: t47_20
abbrev t47_5 : List hOp := oLdA 0 :: oInvV 36 5 0 :: oLdA 0 :: oLdI 1 :: oPushI 1 :: oBin (fun x y => x + y) :: oInvV 44 5 1 :: oIf0 cEq 19 :: oLdA 0 :: oPushI 2041 :: oInvV 37 5 1 :: oIf0 cEq 19 :: oPushI 1 :: oGoto 20 :: t47_19
abbrev t47_0 : List hOp := oLdI 1 :: oPushI 8 :: oIf cLt 5 :: oPushI 0 :: oRetZ :: t47_5
theorem e47_0 : (opsOf 47).drop 0 = t47_0 := rfl
theorem e47_5 : (opsOf 47).drop 5 = t47_5 := rfl
theorem e47_19 : (opsOf 47).drop 19 = t47_19 := rfl
theorem e47_20 : (opsOf 47).drop 20 = t47_20 := rfl
def q_Rd_bracketed (rt : Int32 → hG → hO Int32) (v1 : Int32) (g : hG) : hO Int32 :=
  if v1 < (8 : Int32) then (bnd (q_Rd_goOn g) fun _ g2 => bnd (rt (v1 + (1 : Int32)) g2) fun r6 g4 => if r6 = (0 : Int32) then (some ((0 : Int32), g4)) else (bnd (q_Rd_took (2041 : Int32) g4) fun r10 g8 => if r10 = (0 : Int32) then (some ((0 : Int32), g8)) else (some ((1 : Int32), g8)))) else (some ((0 : Int32), g))
theorem tm47 {d : Nat} {B : Nat} {rt : Int32 → hG → hO Int32} {v1 : Int32} (hd : B + 1 ≤ d) (hB : 62 ≤ B) (hr : ∀ d, B ≤ d → ∀ (v : Int32) (g : hG), Frz g → TM wI d 44 [.ref 239, .int v] g (rt v g)) {g : hG} (hF : Frz g) : TM wI d 47 [.ref 239, .int v1] g (q_Rd_bracketed rt v1 g) := by
  obtain ⟨e, rfl⟩ : ∃ e, d = e + 1 := ⟨d - 1, by omega⟩
  have he := hd
  refine TM.ofE e47_0 (lv := [some (.ref 239), some (.int v1)]) rfl ?_
  unfold q_Rd_bracketed
  refine tr_ldI rfl (tr_pushI (?_))
  refine tr_ifj e47_5 (c_lt _ _) (fun hc1 => ?_) (fun hc1 => ?_)
  · refine tr_ldA rfl (?_)
    refine tr_invVU rfl rfl (fk_239 hF) (Nat.le_of_ble_eq_true rfl) (by decide) (Nat.le_of_ble_eq_true rfl) (tm36 hF) (fun _ g2 _ hF3 => ?_)
    refine tr_ldA rfl (tr_ldI rfl (tr_pushI (tr_bin (v := (v1 + (1 : Int32))) rfl (?_))))
    refine tr_invVI rfl rfl (fk_239 hF3) (Nat.le_of_ble_eq_true rfl) (by decide) (Nat.le_of_ble_eq_true rfl) (hr _ (by omega) _ _ hF3) (fun r6 g4 _ hF5 => ?_)
    refine tr_if0j e47_19 (c_eq _ _) (fun hc7 => ?_) (fun hc7 => ?_)
    · refine tr_pushI (?_)
      exact tr_retZl (Or.inl rfl) hF5
    · refine tr_ldA rfl (tr_pushI (?_))
      refine tr_invVI rfl rfl (fk_239 hF5) (Nat.le_of_ble_eq_true rfl) (by decide) (Nat.le_of_ble_eq_true rfl) (tm37 hF5) (fun r10 g8 _ hF9 => ?_)
      refine tr_if0j e47_19 (c_eq _ _) (fun hc11 => ?_) (fun hc11 => ?_)
      · refine tr_pushI (?_)
        exact tr_retZl (Or.inl rfl) hF9
      · refine tr_pushI (?_)
        refine tr_gotoE e47_20 (?_)
        exact tr_retZl (Or.inr rfl) hF9
  · refine tr_pushI (?_)
    exact tr_retZl (Or.inl rfl) hF
-- Rd_comparison
abbrev t48_35 : List hOp := oLdA 0 :: oGetP 5 1 :: oLdI 2 :: oPushI 0 :: oInvV 95 9 2 :: oPushI 1 :: oRetZ :: []
abbrev t48_33 : List hOp := oPushI 0 :: oRetZ :: t48_35
abbrev t48_25 : List hOp := oStI 2 :: oLdI 2 :: oPushI (-1) :: oIf cEq 33 :: oLdA 0 :: oLdI 1 :: oInvV 49 5 1 :: oIf0 cNe 35 :: t48_33
abbrev t48_24 : List hOp := oPushI (-1) :: t48_25
abbrev t48_18 : List hOp := oLdA 0 :: oPushI 2061 :: oInvV 37 5 1 :: oIf0 cEq 24 :: oPushI 9 :: oGoto 25 :: t48_24
abbrev t48_12 : List hOp := oLdA 0 :: oPushI 2062 :: oInvV 37 5 1 :: oIf0 cEq 18 :: oPushI 8 :: oGoto 25 :: t48_18
abbrev t48_6 : List hOp := oLdA 0 :: oPushI 2060 :: oInvV 37 5 1 :: oIf0 cEq 12 :: oPushI 7 :: oGoto 25 :: t48_12
abbrev t48_0 : List hOp := oLdA 0 :: oLdI 1 :: oInvV 49 5 1 :: oIf0 cNe 6 :: oPushI 0 :: oRetZ :: t48_6
theorem e48_0 : (opsOf 48).drop 0 = t48_0 := rfl
theorem e48_6 : (opsOf 48).drop 6 = t48_6 := rfl
theorem e48_12 : (opsOf 48).drop 12 = t48_12 := rfl
theorem e48_18 : (opsOf 48).drop 18 = t48_18 := rfl
theorem e48_24 : (opsOf 48).drop 24 = t48_24 := rfl
theorem e48_25 : (opsOf 48).drop 25 = t48_25 := rfl
theorem e48_33 : (opsOf 48).drop 33 = t48_33 := rfl
theorem e48_35 : (opsOf 48).drop 35 = t48_35 := rfl
def q_Rd_comparison_25 (v1 : Int32) (w0 : Int32) (g : hG) : hO Int32 :=
  if w0 = (-1 : Int32) then (some ((0 : Int32), g)) else (bnd (z_Rd_sum FR v1 g) fun r20 g18 => if r20 = (0 : Int32) then (some ((0 : Int32), g18)) else (gp is_txt (gP g18 239 1) fun b22 => bnd (q_Text_add b22 w0 (0 : Int32) g18) fun _ g23 => some ((1 : Int32), g23)))
theorem th48_25 {e : Nat} (he : 41 ≤ e + 1) {v1 : Int32} {w0 : Int32} {u2 : Option Value} {g : hG} (hF : Frz g) : Tri wI (e + 1) 48 t48_25 [some (.ref 239), some (.int v1), u2] [.int w0] g (q_Rd_comparison_25 v1 w0 g) := by
  unfold q_Rd_comparison_25
  refine tr_stI (Nat.le_of_ble_eq_true rfl) rfl rfl (tr_ldI rfl (tr_pushI (?_)))
  refine tr_ifj e48_33 (c_eq _ _) (fun hc17 => ?_) (fun hc17 => ?_)
  · refine tr_pushI (?_)
    exact tr_retZl (Or.inl rfl) hF
  · refine tr_ldA rfl (tr_ldI rfl (?_))
    refine tr_invVI rfl rfl (fk_239 hF) (Nat.le_of_ble_eq_true rfl) (by decide) (Nat.le_of_ble_eq_true rfl) (tmz49 FR (by rw [FR]; omega) _ _ hF) (fun r20 g18 _ hF19 => ?_)
    refine tr_if0n e48_35 (c_ne _ _) (fun hc21 => ?_) (fun hc21 => ?_)
    · refine tr_ldA rfl (tr_getM (fk_239 hF19) (fun b22 _ hb22 => tr_ldI rfl (tr_pushI (?_))))
      refine tr_invVU rfl rfl (txt_k hF19 hb22) (Nat.le_of_ble_eq_true rfl) (by decide) (Nat.le_of_ble_eq_true rfl) (tm95 hb22 hF19) (fun _ g23 _ hF24 => ?_)
      refine tr_pushI (?_)
      exact tr_retZl (Or.inr rfl) hF24
    · refine tr_pushI (?_)
      exact tr_retZl (Or.inl rfl) hF19
def q_Rd_comparison (v1 : Int32) (g : hG) : hO Int32 :=
  bnd (z_Rd_sum FR v1 g) fun r3 g1 => if r3 = (0 : Int32) then (some ((0 : Int32), g1)) else (bnd (q_Rd_took (2060 : Int32) g1) fun r7 g5 => if r7 = (0 : Int32) then (bnd (q_Rd_took (2062 : Int32) g5) fun r11 g9 => if r11 = (0 : Int32) then (bnd (q_Rd_took (2061 : Int32) g9) fun r15 g13 => q_Rd_comparison_25 v1 (if r15 = (0 : Int32) then (-1 : Int32) else (9 : Int32)) g13) else (q_Rd_comparison_25 v1 (8 : Int32) g9)) else (q_Rd_comparison_25 v1 (7 : Int32) g5))
theorem tm48 {d : Nat} {v1 : Int32} (hd : 41 ≤ d) {g : hG} (hF : Frz g) : TM wI d 48 [.ref 239, .int v1] g (q_Rd_comparison v1 g) := by
  obtain ⟨e, rfl⟩ : ∃ e, d = e + 1 := ⟨d - 1, by omega⟩
  have he := hd
  refine TM.ofE e48_0 (lv := [some (.ref 239), some (.int v1), none]) rfl ?_
  unfold q_Rd_comparison
  refine tr_ldA rfl (tr_ldI rfl (?_))
  refine tr_invVI rfl rfl (fk_239 hF) (Nat.le_of_ble_eq_true rfl) (by decide) (Nat.le_of_ble_eq_true rfl) (tmz49 FR (by rw [FR]; omega) _ _ hF) (fun r3 g1 _ hF2 => ?_)
  refine tr_if0n e48_6 (c_ne _ _) (fun hc4 => ?_) (fun hc4 => ?_)
  · refine tr_ldA rfl (tr_pushI (?_))
    refine tr_invVI rfl rfl (fk_239 hF2) (Nat.le_of_ble_eq_true rfl) (by decide) (Nat.le_of_ble_eq_true rfl) (tm37 hF2) (fun r7 g5 _ hF6 => ?_)
    refine tr_if0j e48_12 (c_eq _ _) (fun hc8 => ?_) (fun hc8 => ?_)
    · refine tr_ldA rfl (tr_pushI (?_))
      refine tr_invVI rfl rfl (fk_239 hF6) (Nat.le_of_ble_eq_true rfl) (by decide) (Nat.le_of_ble_eq_true rfl) (tm37 hF6) (fun r11 g9 _ hF10 => ?_)
      refine tr_if0j e48_18 (c_eq _ _) (fun hc12 => ?_) (fun hc12 => ?_)
      · refine tr_ldA rfl (tr_pushI (?_))
        refine tr_invVI rfl rfl (fk_239 hF10) (Nat.le_of_ble_eq_true rfl) (by decide) (Nat.le_of_ble_eq_true rfl) (tm37 hF10) (fun r15 g13 _ hF14 => ?_)
        refine tr_if0cE e48_24 (c_eq _ _) (fun hc25 => ?_) (fun hc25 => ?_)
        · rw [if_pos hc25]
          refine tr_pushI (?_)
          exact th48_25 he hF14
        · rw [if_neg hc25]
          refine tr_pushI (?_)
          refine tr_gotoE e48_25 (?_)
          exact th48_25 he hF14
      · refine tr_pushI (?_)
        refine tr_gotoE e48_25 (?_)
        exact th48_25 he hF10
    · refine tr_pushI (?_)
      refine tr_gotoE e48_25 (?_)
      exact th48_25 he hF6
  · refine tr_pushI (?_)
    exact tr_retZl (Or.inl rfl) hF2
-- Rd_plain
abbrev t46_40 : List hOp := oLdI 3 :: oRetZ :: []
abbrev t46_30 : List hOp := oStI 3 :: oLdI 3 :: oIf0 cEq 40 :: oLdI 2 :: oIf0 cEq 40 :: oLdA 0 :: oGetP 5 1 :: oPushI 10 :: oPushI 0 :: oInvV 95 9 2 :: t46_40
abbrev t46_27 : List hOp := oLdA 0 :: oLdI 1 :: oInvV 48 5 1 :: t46_30
abbrev t46_19 : List hOp := oLdA 0 :: oInvV 35 5 0 :: oPushI 2040 :: oIf cNe 27 :: oLdA 0 :: oLdI 1 :: oInvV 47 5 1 :: oGoto 30 :: t46_27
abbrev t46_16 : List hOp := oStI 2 :: oInc 3 1 :: oGoto 4 :: t46_19
abbrev t46_15 : List hOp := oPushI 0 :: t46_16
abbrev t46_4 : List hOp := oLdI 3 :: oPushI 400 :: oIf cGe 19 :: oLdA 0 :: oPushI 3006 :: oInvV 37 5 1 :: oIf0 cEq 19 :: oLdI 2 :: oIf0 cNe 15 :: oPushI 1 :: oGoto 16 :: t46_15
abbrev t46_0 : List hOp := oPushI 0 :: oStI 2 :: oPushI 0 :: oStI 3 :: t46_4
theorem e46_0 : (opsOf 46).drop 0 = t46_0 := rfl
theorem e46_4 : (opsOf 46).drop 4 = t46_4 := rfl
theorem e46_15 : (opsOf 46).drop 15 = t46_15 := rfl
theorem e46_16 : (opsOf 46).drop 16 = t46_16 := rfl
theorem e46_19 : (opsOf 46).drop 19 = t46_19 := rfl
theorem e46_27 : (opsOf 46).drop 27 = t46_27 := rfl
theorem e46_30 : (opsOf 46).drop 30 = t46_30 := rfl
theorem e46_40 : (opsOf 46).drop 40 = t46_40 := rfl
def q_Rd_plain_4 (rt : Int32 → hG → hO Int32) (k19 : Int32 → hG → hO Int32) (k4 : Int32 → Int32 → hG → hO Int32) (v2 : Int32) (v3 : Int32) (g : hG) : hO Int32 :=
  if (400 : Int32) ≤ v3 then (k19 v2 g) else (bnd (q_Rd_took (3006 : Int32) g) fun r4 g2 => if r4 = (0 : Int32) then (k19 v2 g2) else (if v2 = (0 : Int32) then (k4 (1 : Int32) (v3 + (1 : Int32)) g2) else (k4 (0 : Int32) (v3 + (1 : Int32)) g2)))
def q_Rd_plain_4L (rt : Int32 → hG → hO Int32) (k19 : Int32 → hG → hO Int32) : Nat → Int32 → Int32 → hG → hO Int32
  | 0 => fun _ _ _ => none
  | n + 1 => fun v2 v3 g => q_Rd_plain_4 rt k19 (q_Rd_plain_4L rt k19 n) v2 v3 g
theorem q_Rd_plain_4L_s (rt : Int32 → hG → hO Int32) (k19 : Int32 → hG → hO Int32) (n : Nat) (v2 : Int32) (v3 : Int32) (g : hG) : q_Rd_plain_4L rt k19 (n + 1) v2 v3 g = q_Rd_plain_4 rt k19 (q_Rd_plain_4L rt k19 n) v2 v3 g := rfl
theorem th46_4 {B : Nat} {e : Nat} {rt : Int32 → hG → hO Int32} (he : B + 2 ≤ e + 1) (hB : 62 ≤ B) (hr : ∀ d, B ≤ d → ∀ (v : Int32) (g : hG), Frz g → TM wI d 44 [.ref 239, .int v] g (rt v g)) {k19 : Int32 → hG → hO Int32} {k4 : Int32 → Int32 → hG → hO Int32} {v2 : Int32} {v3 : Int32} {u1 : Option Value} (hk19 : ∀ (x2 : Int32) (y3 : Option Value) (g : hG), Frz g → Tri wI (e + 1) 46 t46_19 [some (.ref 239), u1, some (.int x2), y3] [] g (k19 x2 g)) (hk4 : ∀ (x2 : Int32) (x3 : Int32) (g : hG), Frz g → Tri wI (e + 1) 46 t46_4 [some (.ref 239), u1, some (.int x2), some (.int x3)] [] g (k4 x2 x3 g)) (hu1 : isL (some u1) = false) {g : hG} (hF : Frz g) : Tri wI (e + 1) 46 t46_4 [some (.ref 239), u1, some (.int v2), some (.int v3)] [] g (q_Rd_plain_4 rt k19 k4 v2 v3 g) := by
  unfold q_Rd_plain_4
  refine tr_ldI rfl (tr_pushI (?_))
  refine tr_ifj e46_19 (c_ge _ _) (fun hc1 => ?_) (fun hc1 => ?_)
  · exact hk19 _ _ _ hF
  · refine tr_ldA rfl (tr_pushI (?_))
    refine tr_invVI rfl rfl (fk_239 hF) (Nat.le_of_ble_eq_true rfl) (by decide) (Nat.le_of_ble_eq_true rfl) (tm37 hF) (fun r4 g2 _ hF3 => ?_)
    refine tr_if0j e46_19 (c_eq _ _) (fun hc5 => ?_) (fun hc5 => ?_)
    · exact hk19 _ _ _ hF3
    · refine tr_ldI rfl (?_)
      refine tr_if0n e46_15 (c_ne _ _) (fun hc6 => ?_) (fun hc6 => ?_)
      · refine tr_pushI (tr_stI (Nat.le_of_ble_eq_true rfl) (lKill_id hu1) rfl (tr_inc rfl rfl rfl (?_)))
        refine tr_gotoE e46_4 (?_)
        exact hk4 _ _ _ hF3
      · refine tr_pushI (?_)
        refine tr_gotoE e46_16 (?_)
        refine tr_stI (Nat.le_of_ble_eq_true rfl) (lKill_id hu1) rfl (tr_inc rfl rfl rfl (?_))
        refine tr_gotoE e46_4 (?_)
        exact hk4 _ _ _ hF3
theorem th46_4L {B : Nat} {e : Nat} {rt : Int32 → hG → hO Int32} (he : B + 2 ≤ e + 1) (hB : 62 ≤ B) (hr : ∀ d, B ≤ d → ∀ (v : Int32) (g : hG), Frz g → TM wI d 44 [.ref 239, .int v] g (rt v g)) {k19 : Int32 → hG → hO Int32} {u1 : Option Value} (hk19 : ∀ (x2 : Int32) (y3 : Option Value) (g : hG), Frz g → Tri wI (e + 1) 46 t46_19 [some (.ref 239), u1, some (.int x2), y3] [] g (k19 x2 g)) (hu1 : isL (some u1) = false) : ∀ (n : Nat) (v2 : Int32) (v3 : Int32) (g : hG), Frz g → Tri wI (e + 1) 46 t46_4 [some (.ref 239), u1, some (.int v2), some (.int v3)] [] g (q_Rd_plain_4L rt k19 n v2 v3 g)
  | 0 => fun _ _ _ _ => Tri.none_
  | n + 1 => fun _ _ g hF => th46_4 he hB hr hk19 (th46_4L he hB hr hk19 hu1 n) hu1 hF
def q_Rd_plain_30 (rt : Int32 → hG → hO Int32) (v2 : Int32) (w0 : Int32) (g : hG) : hO Int32 :=
  if w0 = (0 : Int32) then (gb w0 (some (w0, g))) else (if v2 = (0 : Int32) then (gb w0 (some (w0, g))) else (gp is_txt (gP g 239 1) fun b20 => bnd (q_Text_add b20 (10 : Int32) (0 : Int32) g) fun _ g21 => gb w0 (some (w0, g21))))
theorem th46_30 {B : Nat} {e : Nat} {rt : Int32 → hG → hO Int32} (he : B + 2 ≤ e + 1) (hB : 62 ≤ B) (hr : ∀ d, B ≤ d → ∀ (v : Int32) (g : hG), Frz g → TM wI d 44 [.ref 239, .int v] g (rt v g)) {v2 : Int32} {w0 : Int32} {u1 : Option Value} {u3 : Option Value} (hu1 : isL (some u1) = false) {g : hG} (hF : Frz g) : Tri wI (e + 1) 46 t46_30 [some (.ref 239), u1, some (.int v2), u3] [.int w0] g (q_Rd_plain_30 rt v2 w0 g) := by
  unfold q_Rd_plain_30
  refine tr_stI (Nat.le_of_ble_eq_true rfl) rfl rfl (tr_ldI rfl (?_))
  refine tr_if0j e46_40 (c_eq _ _) (fun hc18 => ?_) (fun hc18 => ?_)
  · refine tr_ldI rfl (?_)
    exact tr_retZ hF
  · refine tr_ldI rfl (?_)
    refine tr_if0j e46_40 (c_eq _ _) (fun hc19 => ?_) (fun hc19 => ?_)
    · refine tr_ldI rfl (?_)
      exact tr_retZ hF
    · refine tr_ldA rfl (tr_getM (fk_239 hF) (fun b20 _ hb20 => tr_pushI (tr_pushI (?_))))
      refine tr_invVU rfl rfl (txt_k hF hb20) (Nat.le_of_ble_eq_true rfl) (by decide) (Nat.le_of_ble_eq_true rfl) (tm95 hb20 hF) (fun _ g21 _ hF22 => ?_)
      refine tr_ldI rfl (?_)
      exact tr_retZ hF22
def q_Rd_plain_19 (rt : Int32 → hG → hO Int32) (v1 : Int32) (v2 : Int32) (g : hG) : hO Int32 :=
  bnd (q_Rd_token g) fun r13 g11 => if r13 = (2040 : Int32) then (bnd (q_Rd_bracketed rt v1 g11) fun r25 g23 => q_Rd_plain_30 rt v2 r25 g23) else (bnd (q_Rd_comparison v1 g11) fun r17 g15 => q_Rd_plain_30 rt v2 r17 g15)
theorem th46_19 {B : Nat} {e : Nat} {rt : Int32 → hG → hO Int32} (he : B + 2 ≤ e + 1) (hB : 62 ≤ B) (hr : ∀ d, B ≤ d → ∀ (v : Int32) (g : hG), Frz g → TM wI d 44 [.ref 239, .int v] g (rt v g)) {v1 : Int32} {v2 : Int32} {u3 : Option Value} {g : hG} (hF : Frz g) : Tri wI (e + 1) 46 t46_19 [some (.ref 239), some (.int v1), some (.int v2), u3] [] g (q_Rd_plain_19 rt v1 v2 g) := by
  unfold q_Rd_plain_19
  refine tr_ldA rfl (?_)
  refine tr_invVI rfl rfl (fk_239 hF) (Nat.le_of_ble_eq_true rfl) (by decide) (Nat.le_of_ble_eq_true rfl) (tm35 hF) (fun r13 g11 _ hF12 => ?_)
  refine tr_pushI (?_)
  refine tr_ifn e46_27 (c_ne _ _) (fun hc14 => ?_) (fun hc14 => ?_)
  · refine tr_ldA rfl (tr_ldI rfl (?_))
    refine tr_invVI rfl rfl (fk_239 hF12) (Nat.le_of_ble_eq_true rfl) (by decide) (Nat.le_of_ble_eq_true rfl) (tm48 (by omega) hF12) (fun r17 g15 _ hF16 => ?_)
    exact th46_30 he hB hr rfl hF16
  · refine tr_ldA rfl (tr_ldI rfl (?_))
    refine tr_invVI rfl rfl (fk_239 hF12) (Nat.le_of_ble_eq_true rfl) (by decide) (Nat.le_of_ble_eq_true rfl) (tm47 (by omega) hB hr hF12) (fun r25 g23 _ hF24 => ?_)
    refine tr_gotoE e46_30 (?_)
    exact th46_30 he hB hr rfl hF24
def q_Rd_plain (rt : Int32 → hG → hO Int32) (v1 : Int32) (g : hG) : hO Int32 :=
  q_Rd_plain_4L rt (fun x7 g9 => q_Rd_plain_19 rt v1 x7 g9) FU (0 : Int32) (0 : Int32) g
theorem tm46 {d : Nat} {B : Nat} {rt : Int32 → hG → hO Int32} {v1 : Int32} (hd : B + 2 ≤ d) (hB : 62 ≤ B) (hr : ∀ d, B ≤ d → ∀ (v : Int32) (g : hG), Frz g → TM wI d 44 [.ref 239, .int v] g (rt v g)) {g : hG} (hF : Frz g) : TM wI d 46 [.ref 239, .int v1] g (q_Rd_plain rt v1 g) := by
  obtain ⟨e, rfl⟩ : ∃ e, d = e + 1 := ⟨d - 1, by omega⟩
  have he := hd
  refine TM.ofE e46_0 (lv := [some (.ref 239), some (.int v1), none, none]) rfl ?_
  unfold q_Rd_plain
  refine tr_pushI (tr_stI (Nat.le_of_ble_eq_true rfl) rfl rfl (tr_pushI (tr_stI (Nat.le_of_ble_eq_true rfl) rfl rfl (?_))))
  refine th46_4L he hB hr (fun x7 y8 g9 hF10 => ?_) rfl FU _ _ _ hF
  · exact th46_19 he hB hr hF10
-- Text_leadHere
abbrev t96_21 : List hOp := oRetV :: []
abbrev t96_0 : List hOp := oLdI 1 :: oIf0 cLt 21 :: oLdI 1 :: oLdA 0 :: oGetI 9 1 :: oIf cGe 21 :: oLdA 0 :: oGetP 9 0 :: oLdI 1 :: oLdA 0 :: oGetI 9 1 :: oPushI 4 :: oBin (fun x y => x <<< (y &&& 31)) :: oLdA 0 :: oGetP 9 0 :: oLdI 1 :: oALdI 13 :: oPushI 15 :: oBin (fun x y => x &&& y) :: oBin (fun x y => x ||| y) :: oAStI :: t96_21
theorem e96_0 : (opsOf 96).drop 0 = t96_0 := rfl
theorem e96_21 : (opsOf 96).drop 21 = t96_21 := rfl
def q_Text_leadHere (a0 : Nat) (v1 : Int32) (g : hG) : hO Unit :=
  if v1 < (0 : Int32) then (some ((), g)) else (if (gI g a0 1) ≤ v1 then (some ((), g)) else (gd v1 402 <| gd v1 402 <| wr (sI g (a0 + 1) v1.toNatClampNeg ((shl (gI g a0 1) (4 : Int32)) ||| ((gI g (a0 + 1) v1.toNatClampNeg) &&& (15 : Int32)))) fun g3 => some ((), g3)))
theorem tm96 {d : Nat} {a0 : Nat} {v1 : Int32} (h0 : is_txt a0 = true) {g : hG} (hF : Frz g) : TM wU d 96 [.ref a0, .int v1] g (q_Text_leadHere a0 v1 g) := by
  refine TM.ofE e96_0 (lv := [some (.ref a0), some (.int v1)]) rfl ?_
  unfold q_Text_leadHere
  refine tr_ldI rfl (?_)
  refine tr_if0j e96_21 (c_lt _ _) (fun hc1 => ?_) (fun hc1 => ?_)
  · exact tr_retV hF
  · refine tr_ldI rfl (tr_ldA rfl (tr_getI (txt_k hF h0) (?_)))
    refine tr_ifj e96_21 (c_ge _ _) (fun hc2 => ?_) (fun hc2 => ?_)
    · exact tr_retV hF
    · refine tr_ldA rfl (tr_getP (b := (a0 + 1)) (txt_k hF h0) (txt_p0 hF h0) (tr_ldI rfl (tr_ldA rfl (tr_getI (txt_k hF h0) (tr_pushI (?_))))))
      refine tr_bin (v := (shl (gI g a0 1) (4 : Int32))) rfl (tr_ldA rfl (tr_getP (b := (a0 + 1)) (txt_k hF h0) (txt_p0 hF h0) (tr_ldI rfl (tr_aldI (txt_ak1 hF h0) (txt_al1 hF h0) (fun _ => tr_pushI (?_))))))
      refine tr_bin (v := ((gI g (a0 + 1) v1.toNatClampNeg) &&& (15 : Int32))) rfl (tr_bin (v := ((shl (gI g a0 1) (4 : Int32)) ||| ((gI g (a0 + 1) v1.toNatClampNeg) &&& (15 : Int32)))) rfl (tr_astI hF (txt_ak1 hF h0) (txt_al1 hF h0) (fun _ g3 _ hF4 => ?_)))
      exact tr_retV hF4
-- Rd_both
abbrev t45_36 : List hOp := oPushI 1 :: oRetZ :: []
abbrev t45_30 : List hOp := oLdA 0 :: oGetP 5 1 :: oLdI 3 :: oInvV 96 9 1 :: oInc 2 1 :: oGoto 8 :: t45_36
abbrev t45_28 : List hOp := oPushI 0 :: oRetZ :: t45_30
abbrev t45_8 : List hOp := oLdI 2 :: oPushI 400 :: oIf cGe 36 :: oLdA 0 :: oPushI 3005 :: oInvV 37 5 1 :: oIf0 cEq 36 :: oLdA 0 :: oGetP 5 1 :: oGetI 9 1 :: oStI 3 :: oLdA 0 :: oGetP 5 1 :: oPushI 12 :: oPushI 0 :: oInvV 95 9 2 :: oLdA 0 :: oLdI 1 :: oInvV 46 5 1 :: oIf0 cNe 30 :: t45_28
abbrev t45_6 : List hOp := oPushI 0 :: oStI 2 :: t45_8
abbrev t45_0 : List hOp := oLdA 0 :: oLdI 1 :: oInvV 46 5 1 :: oIf0 cNe 6 :: oPushI 0 :: oRetZ :: t45_6
theorem e45_0 : (opsOf 45).drop 0 = t45_0 := rfl
theorem e45_6 : (opsOf 45).drop 6 = t45_6 := rfl
theorem e45_8 : (opsOf 45).drop 8 = t45_8 := rfl
theorem e45_30 : (opsOf 45).drop 30 = t45_30 := rfl
theorem e45_36 : (opsOf 45).drop 36 = t45_36 := rfl
def q_Rd_both_8 (rt : Int32 → hG → hO Int32) (v1 : Int32) (k36 : hG → hO Int32) (k8 : Int32 → hG → hO Int32) (v2 : Int32) (g : hG) : hO Int32 :=
  if (400 : Int32) ≤ v2 then (k36 g) else (bnd (q_Rd_took (3005 : Int32) g) fun r8 g6 => if r8 = (0 : Int32) then (k36 g6) else (gp is_txt (gP g6 239 1) fun b10 => gp is_txt (gP g6 239 1) fun b11 => bnd (q_Text_add b11 (12 : Int32) (0 : Int32) g6) fun _ g12 => bnd (q_Rd_plain rt v1 g12) fun r16 g14 => if r16 = (0 : Int32) then (some ((0 : Int32), g14)) else (gp is_txt (gP g14 239 1) fun b18 => bnd (q_Text_leadHere b18 (gI g6 b10 1) g14) fun _ g19 => k8 (v2 + (1 : Int32)) g19)))
def q_Rd_both_8L (rt : Int32 → hG → hO Int32) (v1 : Int32) (k36 : hG → hO Int32) : Nat → Int32 → hG → hO Int32
  | 0 => fun _ _ => none
  | n + 1 => fun v2 g => q_Rd_both_8 rt v1 k36 (q_Rd_both_8L rt v1 k36 n) v2 g
theorem q_Rd_both_8L_s (rt : Int32 → hG → hO Int32) (v1 : Int32) (k36 : hG → hO Int32) (n : Nat) (v2 : Int32) (g : hG) : q_Rd_both_8L rt v1 k36 (n + 1) v2 g = q_Rd_both_8 rt v1 k36 (q_Rd_both_8L rt v1 k36 n) v2 g := rfl
theorem th45_8 {B : Nat} {e : Nat} {rt : Int32 → hG → hO Int32} (he : B + 3 ≤ e + 1) (hB : 62 ≤ B) (hr : ∀ d, B ≤ d → ∀ (v : Int32) (g : hG), Frz g → TM wI d 44 [.ref 239, .int v] g (rt v g)) {v1 : Int32} {k36 : hG → hO Int32} {k8 : Int32 → hG → hO Int32} {v2 : Int32} {u3 : Option Value} (hk36 : ∀ (y2 : Option Value) (y3 : Option Value) (_ : isL (some y2) = false) (g : hG), Frz g → Tri wI (e + 1) 45 t45_36 [some (.ref 239), some (.int v1), y2, y3] [] g (k36 g)) (hk8 : ∀ (x2 : Int32) (y3 : Option Value) (g : hG), Frz g → Tri wI (e + 1) 45 t45_8 [some (.ref 239), some (.int v1), some (.int x2), y3] [] g (k8 x2 g)) {g : hG} (hF : Frz g) : Tri wI (e + 1) 45 t45_8 [some (.ref 239), some (.int v1), some (.int v2), u3] [] g (q_Rd_both_8 rt v1 k36 k8 v2 g) := by
  unfold q_Rd_both_8
  refine tr_ldI rfl (tr_pushI (?_))
  refine tr_ifj e45_36 (c_ge _ _) (fun hc5 => ?_) (fun hc5 => ?_)
  · exact hk36 _ _ rfl _ hF
  · refine tr_ldA rfl (tr_pushI (?_))
    refine tr_invVI rfl rfl (fk_239 hF) (Nat.le_of_ble_eq_true rfl) (by decide) (Nat.le_of_ble_eq_true rfl) (tm37 hF) (fun r8 g6 _ hF7 => ?_)
    refine tr_if0j e45_36 (c_eq _ _) (fun hc9 => ?_) (fun hc9 => ?_)
    · exact hk36 _ _ rfl _ hF7
    · refine tr_ldA rfl (tr_getM (fk_239 hF7) (fun b10 _ hb10 => tr_getI (txt_k hF7 hb10) (tr_stI (Nat.le_of_ble_eq_true rfl) rfl rfl (tr_ldA rfl (tr_getM (fk_239 hF7) (fun b11 _ hb11 => ?_))))))
      refine tr_pushI (tr_pushI (?_))
      refine tr_invVU rfl rfl (txt_k hF7 hb11) (Nat.le_of_ble_eq_true rfl) (by decide) (Nat.le_of_ble_eq_true rfl) (tm95 hb11 hF7) (fun _ g12 _ hF13 => ?_)
      refine tr_ldA rfl (tr_ldI rfl (?_))
      refine tr_invVI rfl rfl (fk_239 hF13) (Nat.le_of_ble_eq_true rfl) (by decide) (Nat.le_of_ble_eq_true rfl) (tm46 (by omega) hB hr hF13) (fun r16 g14 _ hF15 => ?_)
      refine tr_if0n e45_30 (c_ne _ _) (fun hc17 => ?_) (fun hc17 => ?_)
      · refine tr_ldA rfl (tr_getM (fk_239 hF15) (fun b18 _ hb18 => tr_ldI rfl (?_)))
        refine tr_invVU rfl rfl (txt_k hF15 hb18) (Nat.le_of_ble_eq_true rfl) (by decide) (Nat.le_of_ble_eq_true rfl) (tm96 hb18 hF15) (fun _ g19 _ hF20 => ?_)
        refine tr_inc rfl rfl rfl (?_)
        refine tr_gotoE e45_8 (?_)
        exact hk8 _ _ _ hF20
      · refine tr_pushI (?_)
        exact tr_retZl (Or.inl rfl) hF15
theorem th45_8L {B : Nat} {e : Nat} {rt : Int32 → hG → hO Int32} (he : B + 3 ≤ e + 1) (hB : 62 ≤ B) (hr : ∀ d, B ≤ d → ∀ (v : Int32) (g : hG), Frz g → TM wI d 44 [.ref 239, .int v] g (rt v g)) {v1 : Int32} {k36 : hG → hO Int32} (hk36 : ∀ (y2 : Option Value) (y3 : Option Value) (_ : isL (some y2) = false) (g : hG), Frz g → Tri wI (e + 1) 45 t45_36 [some (.ref 239), some (.int v1), y2, y3] [] g (k36 g)) : ∀ (n : Nat) (v2 : Int32) (u3 : Option Value) (g : hG), Frz g → Tri wI (e + 1) 45 t45_8 [some (.ref 239), some (.int v1), some (.int v2), u3] [] g (q_Rd_both_8L rt v1 k36 n v2 g)
  | 0 => fun _ _ _ _ => Tri.none_
  | n + 1 => fun _ _ g hF => th45_8 he hB hr hk36 (th45_8L he hB hr hk36 n) hF
def q_Rd_both (rt : Int32 → hG → hO Int32) (v1 : Int32) (g : hG) : hO Int32 :=
  bnd (q_Rd_plain rt v1 g) fun r3 g1 => if r3 = (0 : Int32) then (some ((0 : Int32), g1)) else (q_Rd_both_8L rt v1 (fun g23 => some ((1 : Int32), g23)) FU (0 : Int32) g1)
theorem tm45 {d : Nat} {B : Nat} {rt : Int32 → hG → hO Int32} {v1 : Int32} (hd : B + 3 ≤ d) (hB : 62 ≤ B) (hr : ∀ d, B ≤ d → ∀ (v : Int32) (g : hG), Frz g → TM wI d 44 [.ref 239, .int v] g (rt v g)) {g : hG} (hF : Frz g) : TM wI d 45 [.ref 239, .int v1] g (q_Rd_both rt v1 g) := by
  obtain ⟨e, rfl⟩ : ∃ e, d = e + 1 := ⟨d - 1, by omega⟩
  have he := hd
  refine TM.ofE e45_0 (lv := [some (.ref 239), some (.int v1), none, none]) rfl ?_
  unfold q_Rd_both
  refine tr_ldA rfl (tr_ldI rfl (?_))
  refine tr_invVI rfl rfl (fk_239 hF) (Nat.le_of_ble_eq_true rfl) (by decide) (Nat.le_of_ble_eq_true rfl) (tm46 (by omega) hB hr hF) (fun r3 g1 _ hF2 => ?_)
  refine tr_if0n e45_6 (c_ne _ _) (fun hc4 => ?_) (fun hc4 => ?_)
  · refine tr_pushI (tr_stI (Nat.le_of_ble_eq_true rfl) rfl rfl (?_))
    refine th45_8L he hB hr (fun y21 y22 zy21 g23 hF24 => ?_) FU _ _ _ hF2
    · refine tr_pushI (?_)
      exact tr_retZl (Or.inr rfl) hF24
  · refine tr_pushI (?_)
    exact tr_retZl (Or.inl rfl) hF2
-- Rd_test
abbrev t44_36 : List hOp := oPushI 1 :: oRetZ :: []
abbrev t44_30 : List hOp := oLdA 0 :: oGetP 5 1 :: oLdI 3 :: oInvV 96 9 1 :: oInc 2 1 :: oGoto 8 :: t44_36
abbrev t44_28 : List hOp := oPushI 0 :: oRetZ :: t44_30
abbrev t44_8 : List hOp := oLdI 2 :: oPushI 400 :: oIf cGe 36 :: oLdA 0 :: oPushI 3004 :: oInvV 37 5 1 :: oIf0 cEq 36 :: oLdA 0 :: oGetP 5 1 :: oGetI 9 1 :: oStI 3 :: oLdA 0 :: oGetP 5 1 :: oPushI 11 :: oPushI 0 :: oInvV 95 9 2 :: oLdA 0 :: oLdI 1 :: oInvV 45 5 1 :: oIf0 cNe 30 :: t44_28
abbrev t44_6 : List hOp := oPushI 0 :: oStI 2 :: t44_8
abbrev t44_0 : List hOp := oLdA 0 :: oLdI 1 :: oInvV 45 5 1 :: oIf0 cNe 6 :: oPushI 0 :: oRetZ :: t44_6
theorem e44_0 : (opsOf 44).drop 0 = t44_0 := rfl
theorem e44_6 : (opsOf 44).drop 6 = t44_6 := rfl
theorem e44_8 : (opsOf 44).drop 8 = t44_8 := rfl
theorem e44_30 : (opsOf 44).drop 30 = t44_30 := rfl
theorem e44_36 : (opsOf 44).drop 36 = t44_36 := rfl
def q_Rd_test_8 (rt : Int32 → hG → hO Int32) (v1 : Int32) (k36 : hG → hO Int32) (k8 : Int32 → hG → hO Int32) (v2 : Int32) (g : hG) : hO Int32 :=
  if (400 : Int32) ≤ v2 then (k36 g) else (bnd (q_Rd_took (3004 : Int32) g) fun r8 g6 => if r8 = (0 : Int32) then (k36 g6) else (gp is_txt (gP g6 239 1) fun b10 => gp is_txt (gP g6 239 1) fun b11 => bnd (q_Text_add b11 (11 : Int32) (0 : Int32) g6) fun _ g12 => bnd (q_Rd_both rt v1 g12) fun r16 g14 => if r16 = (0 : Int32) then (some ((0 : Int32), g14)) else (gp is_txt (gP g14 239 1) fun b18 => bnd (q_Text_leadHere b18 (gI g6 b10 1) g14) fun _ g19 => k8 (v2 + (1 : Int32)) g19)))
def q_Rd_test_8L (rt : Int32 → hG → hO Int32) (v1 : Int32) (k36 : hG → hO Int32) : Nat → Int32 → hG → hO Int32
  | 0 => fun _ _ => none
  | n + 1 => fun v2 g => q_Rd_test_8 rt v1 k36 (q_Rd_test_8L rt v1 k36 n) v2 g
theorem q_Rd_test_8L_s (rt : Int32 → hG → hO Int32) (v1 : Int32) (k36 : hG → hO Int32) (n : Nat) (v2 : Int32) (g : hG) : q_Rd_test_8L rt v1 k36 (n + 1) v2 g = q_Rd_test_8 rt v1 k36 (q_Rd_test_8L rt v1 k36 n) v2 g := rfl
theorem th44_8 {B : Nat} {e : Nat} {rt : Int32 → hG → hO Int32} (he : B + 4 ≤ e + 1) (hB : 62 ≤ B) (hr : ∀ d, B ≤ d → ∀ (v : Int32) (g : hG), Frz g → TM wI d 44 [.ref 239, .int v] g (rt v g)) {v1 : Int32} {k36 : hG → hO Int32} {k8 : Int32 → hG → hO Int32} {v2 : Int32} {u3 : Option Value} (hk36 : ∀ (y2 : Option Value) (y3 : Option Value) (_ : isL (some y2) = false) (g : hG), Frz g → Tri wI (e + 1) 44 t44_36 [some (.ref 239), some (.int v1), y2, y3] [] g (k36 g)) (hk8 : ∀ (x2 : Int32) (y3 : Option Value) (g : hG), Frz g → Tri wI (e + 1) 44 t44_8 [some (.ref 239), some (.int v1), some (.int x2), y3] [] g (k8 x2 g)) {g : hG} (hF : Frz g) : Tri wI (e + 1) 44 t44_8 [some (.ref 239), some (.int v1), some (.int v2), u3] [] g (q_Rd_test_8 rt v1 k36 k8 v2 g) := by
  unfold q_Rd_test_8
  refine tr_ldI rfl (tr_pushI (?_))
  refine tr_ifj e44_36 (c_ge _ _) (fun hc5 => ?_) (fun hc5 => ?_)
  · exact hk36 _ _ rfl _ hF
  · refine tr_ldA rfl (tr_pushI (?_))
    refine tr_invVI rfl rfl (fk_239 hF) (Nat.le_of_ble_eq_true rfl) (by decide) (Nat.le_of_ble_eq_true rfl) (tm37 hF) (fun r8 g6 _ hF7 => ?_)
    refine tr_if0j e44_36 (c_eq _ _) (fun hc9 => ?_) (fun hc9 => ?_)
    · exact hk36 _ _ rfl _ hF7
    · refine tr_ldA rfl (tr_getM (fk_239 hF7) (fun b10 _ hb10 => tr_getI (txt_k hF7 hb10) (tr_stI (Nat.le_of_ble_eq_true rfl) rfl rfl (tr_ldA rfl (tr_getM (fk_239 hF7) (fun b11 _ hb11 => ?_))))))
      refine tr_pushI (tr_pushI (?_))
      refine tr_invVU rfl rfl (txt_k hF7 hb11) (Nat.le_of_ble_eq_true rfl) (by decide) (Nat.le_of_ble_eq_true rfl) (tm95 hb11 hF7) (fun _ g12 _ hF13 => ?_)
      refine tr_ldA rfl (tr_ldI rfl (?_))
      refine tr_invVI rfl rfl (fk_239 hF13) (Nat.le_of_ble_eq_true rfl) (by decide) (Nat.le_of_ble_eq_true rfl) (tm45 (by omega) hB hr hF13) (fun r16 g14 _ hF15 => ?_)
      refine tr_if0n e44_30 (c_ne _ _) (fun hc17 => ?_) (fun hc17 => ?_)
      · refine tr_ldA rfl (tr_getM (fk_239 hF15) (fun b18 _ hb18 => tr_ldI rfl (?_)))
        refine tr_invVU rfl rfl (txt_k hF15 hb18) (Nat.le_of_ble_eq_true rfl) (by decide) (Nat.le_of_ble_eq_true rfl) (tm96 hb18 hF15) (fun _ g19 _ hF20 => ?_)
        refine tr_inc rfl rfl rfl (?_)
        refine tr_gotoE e44_8 (?_)
        exact hk8 _ _ _ hF20
      · refine tr_pushI (?_)
        exact tr_retZl (Or.inl rfl) hF15
theorem th44_8L {B : Nat} {e : Nat} {rt : Int32 → hG → hO Int32} (he : B + 4 ≤ e + 1) (hB : 62 ≤ B) (hr : ∀ d, B ≤ d → ∀ (v : Int32) (g : hG), Frz g → TM wI d 44 [.ref 239, .int v] g (rt v g)) {v1 : Int32} {k36 : hG → hO Int32} (hk36 : ∀ (y2 : Option Value) (y3 : Option Value) (_ : isL (some y2) = false) (g : hG), Frz g → Tri wI (e + 1) 44 t44_36 [some (.ref 239), some (.int v1), y2, y3] [] g (k36 g)) : ∀ (n : Nat) (v2 : Int32) (u3 : Option Value) (g : hG), Frz g → Tri wI (e + 1) 44 t44_8 [some (.ref 239), some (.int v1), some (.int v2), u3] [] g (q_Rd_test_8L rt v1 k36 n v2 g)
  | 0 => fun _ _ _ _ => Tri.none_
  | n + 1 => fun _ _ g hF => th44_8 he hB hr hk36 (th44_8L he hB hr hk36 n) hF
def q_Rd_test (rt : Int32 → hG → hO Int32) (v1 : Int32) (g : hG) : hO Int32 :=
  bnd (q_Rd_both rt v1 g) fun r3 g1 => if r3 = (0 : Int32) then (some ((0 : Int32), g1)) else (q_Rd_test_8L rt v1 (fun g23 => some ((1 : Int32), g23)) FU (0 : Int32) g1)
theorem tm44 {d : Nat} {B : Nat} {rt : Int32 → hG → hO Int32} {v1 : Int32} (hd : B + 4 ≤ d) (hB : 62 ≤ B) (hr : ∀ d, B ≤ d → ∀ (v : Int32) (g : hG), Frz g → TM wI d 44 [.ref 239, .int v] g (rt v g)) {g : hG} (hF : Frz g) : TM wI d 44 [.ref 239, .int v1] g (q_Rd_test rt v1 g) := by
  obtain ⟨e, rfl⟩ : ∃ e, d = e + 1 := ⟨d - 1, by omega⟩
  have he := hd
  refine TM.ofE e44_0 (lv := [some (.ref 239), some (.int v1), none, none]) rfl ?_
  unfold q_Rd_test
  refine tr_ldA rfl (tr_ldI rfl (?_))
  refine tr_invVI rfl rfl (fk_239 hF) (Nat.le_of_ble_eq_true rfl) (by decide) (Nat.le_of_ble_eq_true rfl) (tm45 (by omega) hB hr hF) (fun r3 g1 _ hF2 => ?_)
  refine tr_if0n e44_6 (c_ne _ _) (fun hc4 => ?_) (fun hc4 => ?_)
  · refine tr_pushI (tr_stI (Nat.le_of_ble_eq_true rfl) rfl rfl (?_))
    refine th44_8L he hB hr (fun y21 y22 zy21 g23 hF24 => ?_) FU _ _ _ hF2
    · refine tr_pushI (?_)
      exact tr_retZl (Or.inr rfl) hF24
  · refine tr_pushI (?_)
    exact tr_retZl (Or.inl rfl) hF2
def z_Rd_test : Nat → Int32 → hG → hO Int32
  | 0 => fun _ _ => none
  | n + 1 => fun v g => q_Rd_test (z_Rd_test n) v g
theorem tmz44 : ∀ (n : Nat) {d : Nat}, 4 * n + 62 ≤ d → ∀ (v : Int32) (g : hG), Frz g → TM wI d 44 [.ref 239, .int v] g (z_Rd_test n v g)
  | 0, _, _ => fun _ _ _ => fun r G' h => by cases h
  | n + 1, _, hd => fun v g hF => tm44 (B := 4 * n + 62) (by omega) (by omega) (fun d hd v g hF => tmz44 n hd v g hF) hF
-- Rd_readIf
abbrev t42_6 : List hOp := oLdA 0 :: oGetP 5 1 :: oGetP 9 7 :: oLdI 1 :: oLdA 0 :: oGetP 5 1 :: oGetI 9 1 :: oAStI :: oLdA 0 :: oLdA 0 :: oPushI 0 :: oInvV 44 5 1 :: oInvV 43 5 1 :: oRetZ :: []
abbrev t42_0 : List hOp := oLdA 0 :: oPushI 3003 :: oInvV 37 5 1 :: oIf0 cNe 6 :: oPushI 1 :: oRetZ :: t42_6
theorem e42_0 : (opsOf 42).drop 0 = t42_0 := rfl
theorem e42_6 : (opsOf 42).drop 6 = t42_6 := rfl
def q_Rd_readIf (v1 : Int32) (g : hG) : hO Int32 :=
  bnd (q_Rd_took (3003 : Int32) g) fun r3 g1 => if r3 = (0 : Int32) then (some ((1 : Int32), g1)) else (gp is_txt (gP g1 239 1) fun b5 => gp is_txt (gP g1 239 1) fun b6 => gd v1 12 <| wr (sI g1 (b5 + 6) v1.toNatClampNeg (gI g1 b6 1)) fun g7 => bnd (z_Rd_test FR (0 : Int32) g7) fun r11 g9 => bnd (q_Rd_endRow r11 g9) fun r14 g12 => gb r14 (some (r14, g12)))
theorem tm42 {d : Nat} {v1 : Int32} (hd : 111 ≤ d) {g : hG} (hF : Frz g) : TM wI d 42 [.ref 239, .int v1] g (q_Rd_readIf v1 g) := by
  obtain ⟨e, rfl⟩ : ∃ e, d = e + 1 := ⟨d - 1, by omega⟩
  have he := hd
  refine TM.ofE e42_0 (lv := [some (.ref 239), some (.int v1)]) rfl ?_
  unfold q_Rd_readIf
  refine tr_ldA rfl (tr_pushI (?_))
  refine tr_invVI rfl rfl (fk_239 hF) (Nat.le_of_ble_eq_true rfl) (by decide) (Nat.le_of_ble_eq_true rfl) (tm37 hF) (fun r3 g1 _ hF2 => ?_)
  refine tr_if0n e42_6 (c_ne _ _) (fun hc4 => ?_) (fun hc4 => ?_)
  · refine tr_ldA rfl (tr_getM (fk_239 hF2) (fun b5 _ hb5 => tr_getP (b := (b5 + 6)) (txt_k hF2 hb5) (txt_p7 hF2 hb5) (tr_ldI rfl (tr_ldA rfl (tr_getM (fk_239 hF2) (fun b6 _ hb6 => ?_))))))
    refine tr_getI (txt_k hF2 hb6) (tr_astI hF2 (txt_ak6 hF2 hb5) (txt_al6 hF2 hb5) (fun _ g7 _ hF8 => tr_ldA rfl (tr_ldA rfl (tr_pushI (?_)))))
    refine tr_invVI rfl rfl (fk_239 hF8) (Nat.le_of_ble_eq_true rfl) (by decide) (Nat.le_of_ble_eq_true rfl) (tmz44 FR (by rw [FR]; omega) _ _ hF8) (fun r11 g9 _ hF10 => ?_)
    refine tr_invVI rfl rfl (fk_239 hF10) (Nat.le_of_ble_eq_true rfl) (by decide) (Nat.le_of_ble_eq_true rfl) (tm43 (by omega) hF10) (fun r14 g12 _ hF13 => ?_)
    exact tr_retZ hF13
  · refine tr_pushI (?_)
    exact tr_retZl (Or.inr rfl) hF2
-- Rd_read
abbrev t34_58 : List hOp := oLdA 0 :: oGetP 5 0 :: oGetP 8 3 :: oLdA 0 :: oGetI 5 4 :: oALdI 13 :: oRetI :: []
abbrev t34_56 : List hOp := oInc 3 1 :: oGoto 20 :: t34_58
abbrev t34_55 : List hOp := oGoto 58 :: t34_56
abbrev t34_51 : List hOp := oLdA 0 :: oPushI 2059 :: oInvV 37 5 1 :: oIf0 cNe 56 :: t34_55
abbrev t34_49 : List hOp := oPushI (-1) :: oRetI :: t34_51
abbrev t34_45 : List hOp := oLdA 0 :: oInvV 35 5 0 :: oPushI 4000 :: oIf cNe 51 :: t34_49
abbrev t34_44 : List hOp := oGoto 58 :: t34_45
abbrev t34_37 : List hOp := oStI 4 :: oLdI 4 :: oIf0 cEq 58 :: oLdA 0 :: oLdI 3 :: oInvV 42 5 1 :: oIf0 cNe 45 :: t34_44
abbrev t34_34 : List hOp := oLdA 0 :: oLdI 3 :: oInvV 38 5 1 :: t34_37
abbrev t34_20 : List hOp := oLdI 3 :: oPushI 12 :: oIf cGe 58 :: oLdA 0 :: oGetP 5 1 :: oInvV 94 9 0 :: oIf0 cEq 58 :: oLdA 0 :: oGetI 5 2 :: oIf0 cEq 34 :: oLdA 0 :: oLdI 3 :: oInvV 39 5 1 :: oGoto 37 :: t34_34
abbrev t34_0 : List hOp := oLdA 0 :: oLdA 1 :: oPutP 5 1 :: oLdA 0 :: oGetP 5 1 :: oInvV 93 9 0 :: oLdA 0 :: oLdI 2 :: oPutZ 5 2 :: oLdA 0 :: oPushI 0 :: oPutI 5 3 :: oLdA 0 :: oPushI 0 :: oPutI 5 4 :: oLdA 0 :: oGetP 5 0 :: oInvV 81 8 0 :: oPushI 0 :: oStI 3 :: t34_20
theorem e34_0 : (opsOf 34).drop 0 = t34_0 := rfl
theorem e34_20 : (opsOf 34).drop 20 = t34_20 := rfl
theorem e34_34 : (opsOf 34).drop 34 = t34_34 := rfl
theorem e34_37 : (opsOf 34).drop 37 = t34_37 := rfl
theorem e34_45 : (opsOf 34).drop 45 = t34_45 := rfl
theorem e34_51 : (opsOf 34).drop 51 = t34_51 := rfl
theorem e34_56 : (opsOf 34).drop 56 = t34_56 := rfl
theorem e34_58 : (opsOf 34).drop 58 = t34_58 := rfl
def q_Rd_read_37 (a1 : Nat) (v3 : Int32) (k58 : hG → hO Int32) (k20 : Int32 → hG → hO Int32) (k55 : hG → hO Int32) (k44 : hG → hO Int32) (w0 : Int32) (g : hG) : hO Int32 :=
  if w0 = (0 : Int32) then (k58 g) else (bnd (q_Rd_readIf v3 g) fun r27 g25 => if r27 = (0 : Int32) then (k44 g25) else (bnd (q_Rd_token g25) fun r31 g29 => if r31 = (4000 : Int32) then (some ((-1 : Int32), g29)) else (bnd (q_Rd_took (2059 : Int32) g29) fun r35 g33 => if r35 = (0 : Int32) then (k55 g33) else (k20 (v3 + (1 : Int32)) g33))))
theorem th34_37 {e : Nat} (he : 112 ≤ e + 1) {a1 : Nat} {v3 : Int32} {k58 : hG → hO Int32} {k20 : Int32 → hG → hO Int32} {k55 : hG → hO Int32} {k44 : hG → hO Int32} {w0 : Int32} {u2 : Option Value} {u4 : Option Value} (h1 : is_txt a1 = true) (hk58 : ∀ (y3 : Option Value) (y4 : Option Value) (_ : isL (some y3) = false) (g : hG), Frz g → Tri wI (e + 1) 34 t34_58 [some (.ref 239), some (.ref a1), u2, y3, y4] [] g (k58 g)) (hk20 : ∀ (x3 : Int32) (y4 : Option Value) (g : hG), Frz g → Tri wI (e + 1) 34 t34_20 [some (.ref 239), some (.ref a1), u2, some (.int x3), y4] [] g (k20 x3 g)) (hk55 : ∀ (y3 : Option Value) (y4 : Option Value) (_ : isL (some y3) = false) (g : hG), Frz g → Tri wI (e + 1) 34 t34_55 [some (.ref 239), some (.ref a1), u2, y3, y4] [] g (k55 g)) (hk44 : ∀ (y3 : Option Value) (y4 : Option Value) (_ : isL (some y3) = false) (g : hG), Frz g → Tri wI (e + 1) 34 t34_44 [some (.ref 239), some (.ref a1), u2, y3, y4] [] g (k44 g)) (hu2 : isL (some u2) = false) {g : hG} (hF : Frz g) : Tri wI (e + 1) 34 t34_37 [some (.ref 239), some (.ref a1), u2, some (.int v3), u4] [.int w0] g (q_Rd_read_37 a1 v3 k58 k20 k55 k44 w0 g) := by
  unfold q_Rd_read_37
  refine tr_stI (Nat.le_of_ble_eq_true rfl) rfl rfl (tr_ldI rfl (?_))
  refine tr_if0j e34_58 (c_eq _ _) (fun hc24 => ?_) (fun hc24 => ?_)
  · exact hk58 _ _ rfl _ hF
  · refine tr_ldA rfl (tr_ldI rfl (?_))
    refine tr_invVI rfl rfl (fk_239 hF) (Nat.le_of_ble_eq_true rfl) (by decide) (Nat.le_of_ble_eq_true rfl) (tm42 (by omega) hF) (fun r27 g25 _ hF26 => ?_)
    refine tr_if0n e34_45 (c_ne _ _) (fun hc28 => ?_) (fun hc28 => ?_)
    · refine tr_ldA rfl (?_)
      refine tr_invVI rfl rfl (fk_239 hF26) (Nat.le_of_ble_eq_true rfl) (by decide) (Nat.le_of_ble_eq_true rfl) (tm35 hF26) (fun r31 g29 _ hF30 => ?_)
      refine tr_pushI (?_)
      refine tr_ifn e34_51 (c_ne _ _) (fun hc32 => ?_) (fun hc32 => ?_)
      · refine tr_ldA rfl (tr_pushI (?_))
        refine tr_invVI rfl rfl (fk_239 hF30) (Nat.le_of_ble_eq_true rfl) (by decide) (Nat.le_of_ble_eq_true rfl) (tm37 hF30) (fun r35 g33 _ hF34 => ?_)
        refine tr_if0n e34_56 (c_ne _ _) (fun hc36 => ?_) (fun hc36 => ?_)
        · refine tr_inc rfl (lKill_id hu2) rfl (?_)
          refine tr_gotoE e34_20 (?_)
          exact hk20 _ _ _ hF34
        · exact hk55 _ _ rfl _ hF34
      · refine tr_pushI (?_)
        exact tr_retI hF30
    · exact hk44 _ _ rfl _ hF26
def q_Rd_read_20 (a1 : Nat) (k58 : hG → hO Int32) (k20 : Int32 → hG → hO Int32) (k55 : hG → hO Int32) (k44 : hG → hO Int32) (v3 : Int32) (g : hG) : hO Int32 :=
  if (12 : Int32) ≤ v3 then (k58 g) else (gp is_txt (gP g 239 1) fun b15 => bnd (q_Text_open b15 g) fun r18 g16 => if r18 = (0 : Int32) then (k58 g16) else (if (gI g16 239 2) = (0 : Int32) then (bnd (q_Rd_readRule v3 g16) fun r23 g21 => q_Rd_read_37 a1 v3 k58 k20 k55 k44 r23 g21) else (bnd (q_Rd_readOrder v3 g16) fun r39 g37 => q_Rd_read_37 a1 v3 k58 k20 k55 k44 r39 g37)))
def q_Rd_read_20L (a1 : Nat) (k58 : hG → hO Int32) (k55 : hG → hO Int32) (k44 : hG → hO Int32) : Nat → Int32 → hG → hO Int32
  | 0 => fun _ _ => none
  | n + 1 => fun v3 g => q_Rd_read_20 a1 k58 (q_Rd_read_20L a1 k58 k55 k44 n) k55 k44 v3 g
theorem q_Rd_read_20L_s (a1 : Nat) (k58 : hG → hO Int32) (k55 : hG → hO Int32) (k44 : hG → hO Int32) (n : Nat) (v3 : Int32) (g : hG) : q_Rd_read_20L a1 k58 k55 k44 (n + 1) v3 g = q_Rd_read_20 a1 k58 (q_Rd_read_20L a1 k58 k55 k44 n) k55 k44 v3 g := rfl
theorem th34_20 {e : Nat} (he : 112 ≤ e + 1) {a1 : Nat} {k58 : hG → hO Int32} {k20 : Int32 → hG → hO Int32} {k55 : hG → hO Int32} {k44 : hG → hO Int32} {v3 : Int32} {u2 : Option Value} {u4 : Option Value} (h1 : is_txt a1 = true) (hk58 : ∀ (y3 : Option Value) (y4 : Option Value) (_ : isL (some y3) = false) (g : hG), Frz g → Tri wI (e + 1) 34 t34_58 [some (.ref 239), some (.ref a1), u2, y3, y4] [] g (k58 g)) (hk20 : ∀ (x3 : Int32) (y4 : Option Value) (g : hG), Frz g → Tri wI (e + 1) 34 t34_20 [some (.ref 239), some (.ref a1), u2, some (.int x3), y4] [] g (k20 x3 g)) (hk55 : ∀ (y3 : Option Value) (y4 : Option Value) (_ : isL (some y3) = false) (g : hG), Frz g → Tri wI (e + 1) 34 t34_55 [some (.ref 239), some (.ref a1), u2, y3, y4] [] g (k55 g)) (hk44 : ∀ (y3 : Option Value) (y4 : Option Value) (_ : isL (some y3) = false) (g : hG), Frz g → Tri wI (e + 1) 34 t34_44 [some (.ref 239), some (.ref a1), u2, y3, y4] [] g (k44 g)) (hu2 : isL (some u2) = false) {g : hG} (hF : Frz g) : Tri wI (e + 1) 34 t34_20 [some (.ref 239), some (.ref a1), u2, some (.int v3), u4] [] g (q_Rd_read_20 a1 k58 k20 k55 k44 v3 g) := by
  unfold q_Rd_read_20
  refine tr_ldI rfl (tr_pushI (?_))
  refine tr_ifj e34_58 (c_ge _ _) (fun hc14 => ?_) (fun hc14 => ?_)
  · exact hk58 _ _ rfl _ hF
  · refine tr_ldA rfl (tr_getM (fk_239 hF) (fun b15 _ hb15 => ?_))
    refine tr_invVI rfl rfl (txt_k hF hb15) (Nat.le_of_ble_eq_true rfl) (by decide) (Nat.le_of_ble_eq_true rfl) (tm94 hb15 hF) (fun r18 g16 _ hF17 => ?_)
    refine tr_if0j e34_58 (c_eq _ _) (fun hc19 => ?_) (fun hc19 => ?_)
    · exact hk58 _ _ rfl _ hF17
    · refine tr_ldA rfl (tr_getI (fk_239 hF17) (?_))
      refine tr_if0j e34_34 (c_eq _ _) (fun hc20 => ?_) (fun hc20 => ?_)
      · refine tr_ldA rfl (tr_ldI rfl (?_))
        refine tr_invVI rfl rfl (fk_239 hF17) (Nat.le_of_ble_eq_true rfl) (by decide) (Nat.le_of_ble_eq_true rfl) (tm38 (by omega) hF17) (fun r23 g21 _ hF22 => ?_)
        exact th34_37 he h1 hk58 hk20 hk55 hk44 hu2 hF22
      · refine tr_ldA rfl (tr_ldI rfl (?_))
        refine tr_invVI rfl rfl (fk_239 hF17) (Nat.le_of_ble_eq_true rfl) (by decide) (Nat.le_of_ble_eq_true rfl) (tm39 (by omega) hF17) (fun r39 g37 _ hF38 => ?_)
        refine tr_gotoE e34_37 (?_)
        exact th34_37 he h1 hk58 hk20 hk55 hk44 hu2 hF38
theorem th34_20L {e : Nat} (he : 112 ≤ e + 1) {a1 : Nat} {k58 : hG → hO Int32} {k55 : hG → hO Int32} {k44 : hG → hO Int32} {u2 : Option Value} (h1 : is_txt a1 = true) (hk58 : ∀ (y3 : Option Value) (y4 : Option Value) (_ : isL (some y3) = false) (g : hG), Frz g → Tri wI (e + 1) 34 t34_58 [some (.ref 239), some (.ref a1), u2, y3, y4] [] g (k58 g)) (hk55 : ∀ (y3 : Option Value) (y4 : Option Value) (_ : isL (some y3) = false) (g : hG), Frz g → Tri wI (e + 1) 34 t34_55 [some (.ref 239), some (.ref a1), u2, y3, y4] [] g (k55 g)) (hk44 : ∀ (y3 : Option Value) (y4 : Option Value) (_ : isL (some y3) = false) (g : hG), Frz g → Tri wI (e + 1) 34 t34_44 [some (.ref 239), some (.ref a1), u2, y3, y4] [] g (k44 g)) (hu2 : isL (some u2) = false) : ∀ (n : Nat) (v3 : Int32) (u4 : Option Value) (g : hG), Frz g → Tri wI (e + 1) 34 t34_20 [some (.ref 239), some (.ref a1), u2, some (.int v3), u4] [] g (q_Rd_read_20L a1 k58 k55 k44 n v3 g)
  | 0 => fun _ _ _ _ => Tri.none_
  | n + 1 => fun _ _ g hF => th34_20 he h1 hk58 (th34_20L he h1 hk58 hk55 hk44 hu2 n) hk55 hk44 hu2 hF
def q_Rd_read_58 (a1 : Nat) (g : hG) : hO Int32 :=
  gd (gI g 239 4) 401 <| some ((gI g 238 (gI g 239 4).toNatClampNeg), g)
theorem th34_58 {e : Nat} (he : 112 ≤ e + 1) {a1 : Nat} {u2 : Option Value} {u3 : Option Value} {u4 : Option Value} (h1 : is_txt a1 = true) (hu2 : isL (some u2) = false) (hu3 : isL (some u3) = false) {g : hG} (hF : Frz g) : Tri wI (e + 1) 34 t34_58 [some (.ref 239), some (.ref a1), u2, u3, u4] [] g (q_Rd_read_58 a1 g) := by
  unfold q_Rd_read_58
  refine tr_ldA rfl (tr_getP (b := 235) (fk_239 hF) (fp_239_0 hF) (tr_getP (b := 238) (fk_235 hF) (fp_235_3 hF) (tr_ldA rfl (tr_getI (fk_239 hF) (tr_aldI (fk_238 hF) (fl_238 hF) (fun _ => ?_))))))
  exact tr_retI hF
def q_Rd_read (a1 : Nat) (v2 : Int32) (g : hG) : hO Int32 :=
  wr (sP g 239 1 (some a1)) fun g1 => gp is_txt (gP g1 239 1) fun b3 => bnd (q_Text_clear b3 g1) fun _ g4 => gb v2 <| wr (sI g4 239 2 v2) fun g6 => wr (sI g6 239 3 (0 : Int32)) fun g8 => wr (sI g8 239 4 (0 : Int32)) fun g10 => bnd (q_Tape_cut g10) fun _ g12 => q_Rd_read_20L a1 (fun g42 => q_Rd_read_58 a1 g42)
    (fun g46 => q_Rd_read_58 a1 g46)
    (fun g50 => q_Rd_read_58 a1 g50) FU (0 : Int32) g12
theorem tm34 {d : Nat} {a1 : Nat} {v2 : Int32} (hd : 112 ≤ d) (h1 : is_txt a1 = true) {g : hG} (hF : Frz g) : TM wI d 34 [.ref 239, .ref a1, .int v2] g (q_Rd_read a1 v2 g) := by
  obtain ⟨e, rfl⟩ : ∃ e, d = e + 1 := ⟨d - 1, by omega⟩
  have he := hd
  refine TM.ofE e34_0 (lv := [some (.ref 239), some (.ref a1), some (.int v2), none, none]) rfl ?_
  unfold q_Rd_read
  refine tr_ldA rfl (tr_ldA rfl (tr_putP hF rfl (fk_239 hF) (fun g1 _ hF2 => tr_ldA rfl (tr_getM (fk_239 hF2) (fun b3 _ hb3 => ?_)))))
  refine tr_invVU rfl rfl (txt_k hF2 hb3) (Nat.le_of_ble_eq_true rfl) (by decide) (Nat.le_of_ble_eq_true rfl) (tm93 (by omega) hb3 hF2) (fun _ g4 _ hF5 => ?_)
  refine tr_ldA rfl (tr_ldI rfl (tr_putZ hF5 (fk_239 hF5) (fun g6 _ hF7 => tr_ldA rfl (tr_pushI (tr_putI hF7 (fk_239 hF7) (fun g8 _ hF9 => ?_))))))
  refine tr_ldA rfl (tr_pushI (tr_putI hF9 (fk_239 hF9) (fun g10 _ hF11 => tr_ldA rfl (tr_getP (b := 235) (fk_239 hF11) (fp_239_0 hF11) (?_)))))
  refine tr_invVU rfl rfl (fk_235 hF11) (Nat.le_of_ble_eq_true rfl) (by decide) (Nat.le_of_ble_eq_true rfl) (tm81 (by omega) hF11) (fun _ g12 _ hF13 => ?_)
  refine tr_pushI (tr_stI (Nat.le_of_ble_eq_true rfl) rfl rfl (?_))
  refine th34_20L he h1 (fun y40 y41 zy40 g42 hF43 => ?_) (fun y44 y45 zy44 g46 hF47 => ?_) (fun y48 y49 zy48 g50 hF51 => ?_) rfl FU _ _ _ hF13
  · exact th34_58 he h1 rfl zy40 hF43
  · refine tr_gotoE e34_58 (?_)
    exact th34_58 he h1 rfl zy44 hF47
  · refine tr_gotoE e34_58 (?_)
    exact th34_58 he h1 rfl zy48 hF51
-- MP_law
abbrev t114_42 : List hOp := oLdA 0 :: oGetP 11 0 :: oDup :: oGetI 1 8 :: oPushI 1 :: oBin (fun x y => x + y) :: oPutI 1 8 :: oLdA 0 :: oGetP 11 19 :: oLdA 0 :: oGetP 11 0 :: oGetI 1 8 :: oPushI 1 :: oBin (fun x y => x - y) :: oInvV 26 3 1 :: oRetI :: []
abbrev t114_14 : List hOp := oLdA 0 :: oGetP 11 19 :: oLdA 0 :: oGetP 11 11 :: oLdA 0 :: oGetP 11 0 :: oGetP 1 7 :: oLdA 0 :: oGetP 11 0 :: oGetI 1 8 :: oALdP 18 :: oPushI 0 :: oInvV 34 5 2 :: oPutI 3 2 :: oLdA 0 :: oGetP 11 10 :: oPushI 0 :: oPutI 8 1 :: oLdA 0 :: oGetP 11 19 :: oGetI 3 2 :: oPushI (-1) :: oIf cEq 42 :: oLdA 0 :: oGetP 11 19 :: oPushI (-6) :: oInvV 25 3 1 :: oRetI :: t114_42
abbrev t114_0 : List hOp := oLdA 0 :: oGetP 11 0 :: oGetI 1 8 :: oPushI 6 :: oIf cLt 14 :: oLdA 0 :: oGetP 11 10 :: oPushI 0 :: oPutI 8 1 :: oLdA 0 :: oGetP 11 19 :: oPushI (-5) :: oInvV 25 3 1 :: oRetI :: t114_14
theorem e114_0 : (opsOf 114).drop 0 = t114_0 := rfl
theorem e114_14 : (opsOf 114).drop 14 = t114_14 := rfl
theorem e114_42 : (opsOf 114).drop 42 = t114_42 := rfl
def q_MP_law (g : hG) : hO Int32 :=
  if (gI g 1 8) < (6 : Int32) then (gd (gI g 1 8) 6 <| bnd (q_Rd_read (10 + 7 * (gI g 1 8).toNatClampNeg) (0 : Int32) g) fun r5 g3 => wr (sI g3 263 2 r5) fun g6 => wr (sI g6 235 1 (0 : Int32)) fun g8 => if (gI g8 263 2) = (-1 : Int32) then (wr (sI g8 1 8 ((gI g8 1 8) + (1 : Int32))) fun g11 => bnd (q_Notes_grant ((gI g11 1 8) - (1 : Int32)) g11) fun r15 g13 => some (r15, g13)) else (bnd (q_Notes_refuse (-6 : Int32) g8) fun r18 g16 => some (r18, g16))) else (wr (sI g 235 1 (0 : Int32)) fun g19 => bnd (q_Notes_refuse (-5 : Int32) g19) fun r23 g21 => some (r23, g21))
theorem tm114 {d : Nat} (hd : 113 ≤ d) {g : hG} (hF : Frz g) : TM wI d 114 [.ref 0] g (q_MP_law g) := by
  obtain ⟨e, rfl⟩ : ∃ e, d = e + 1 := ⟨d - 1, by omega⟩
  have he := hd
  refine TM.ofE e114_0 (lv := [some (.ref 0)]) rfl ?_
  unfold q_MP_law
  refine tr_ldA rfl (tr_getP (b := 1) (fk_0 hF) (fp_0_0 hF) (tr_getI (fk_1 hF) (tr_pushI (?_))))
  refine tr_ifj e114_14 (c_lt _ _) (fun hc1 => ?_) (fun hc1 => ?_)
  · refine tr_ldA rfl (tr_getP (b := 263) (fk_0 hF) (fp_0_19 hF) (tr_ldA rfl (tr_getP (b := 239) (fk_0 hF) (fp_0_11 hF) (tr_ldA rfl (tr_getP (b := 1) (fk_0 hF) (fp_0_0 hF) (?_))))))
    refine tr_getP (b := 9) (fk_1 hF) (fp_1_7 hF) (tr_ldA rfl (tr_getP (b := 1) (fk_0 hF) (fp_0_0 hF) (tr_getI (fk_1 hF) (tr_aldP (b := (10 + 7 * (gI g 1 8).toNatClampNeg)) (fk_9 hF) (fl_9 hF) (fun hq => kpt_e (a := 1) hF rfl hq) (fun hi2 => tr_pushI (?_))))))
    refine tr_invVI rfl rfl (fk_239 hF) (Nat.le_of_ble_eq_true rfl) (by decide) (Nat.le_of_ble_eq_true rfl) (tm34 (by omega) (kpt_txt (a := 1) rfl hi2) hF) (fun r5 g3 _ hF4 => ?_)
    refine tr_putI hF4 (fk_263 hF4) (fun g6 _ hF7 => tr_ldA rfl (tr_getP (b := 235) (fk_0 hF7) (fp_0_10 hF7) (tr_pushI (tr_putI hF7 (fk_235 hF7) (fun g8 _ hF9 => tr_ldA rfl (?_))))))
    refine tr_getP (b := 263) (fk_0 hF9) (fp_0_19 hF9) (tr_getI (fk_263 hF9) (tr_pushI (?_)))
    refine tr_ifj e114_42 (c_eq _ _) (fun hc10 => ?_) (fun hc10 => ?_)
    · refine tr_ldA rfl (tr_getP (b := 1) (fk_0 hF9) (fp_0_0 hF9) (tr_dupA (tr_getI (fk_1 hF9) (tr_pushI (tr_bin (v := ((gI g8 1 8) + (1 : Int32))) rfl (?_))))))
      refine tr_putI hF9 (fk_1 hF9) (fun g11 _ hF12 => tr_ldA rfl (tr_getP (b := 263) (fk_0 hF12) (fp_0_19 hF12) (tr_ldA rfl (tr_getP (b := 1) (fk_0 hF12) (fp_0_0 hF12) (tr_getI (fk_1 hF12) (?_))))))
      refine tr_pushI (tr_bin (v := ((gI g11 1 8) - (1 : Int32))) rfl (?_))
      refine tr_invVI rfl rfl (fk_263 hF12) (Nat.le_of_ble_eq_true rfl) (by decide) (Nat.le_of_ble_eq_true rfl) (tm26 hF12) (fun r15 g13 _ hF14 => ?_)
      exact tr_retI hF14
    · refine tr_ldA rfl (tr_getP (b := 263) (fk_0 hF9) (fp_0_19 hF9) (tr_pushI (?_)))
      refine tr_invVI rfl rfl (fk_263 hF9) (Nat.le_of_ble_eq_true rfl) (by decide) (Nat.le_of_ble_eq_true rfl) (tm25 hF9) (fun r18 g16 _ hF17 => ?_)
      exact tr_retI hF17
  · refine tr_ldA rfl (tr_getP (b := 235) (fk_0 hF) (fp_0_10 hF) (tr_pushI (tr_putI hF (fk_235 hF) (fun g19 _ hF20 => tr_ldA rfl (tr_getP (b := 263) (fk_0 hF20) (fp_0_19 hF20) (?_))))))
    refine tr_pushI (?_)
    refine tr_invVI rfl rfl (fk_263 hF20) (Nat.le_of_ble_eq_true rfl) (by decide) (Nat.le_of_ble_eq_true rfl) (tm25 hF20) (fun r23 g21 _ hF22 => ?_)
    exact tr_retI hF22
-- Mom_copy
abbrev t17_0 : List hOp := oLdA 1 :: oGetP 2 0 :: oPushI 0 :: oLdA 0 :: oGetP 2 0 :: oPushI 0 :: oPushI 8 :: oCpy :: oLdA 1 :: oGetP 2 1 :: oPushI 0 :: oLdA 0 :: oGetP 2 1 :: oPushI 0 :: oPushI 8 :: oCpy :: oLdA 1 :: oGetP 2 2 :: oPushI 0 :: oLdA 0 :: oGetP 2 2 :: oPushI 0 :: oPushI 8 :: oCpy :: oLdA 1 :: oGetP 2 3 :: oPushI 0 :: oLdA 0 :: oGetP 2 3 :: oPushI 0 :: oPushI 25 :: oCpy :: oLdA 0 :: oLdA 1 :: oGetI 2 4 :: oPutI 2 4 :: oRetV :: []
theorem e17_0 : (opsOf 17).drop 0 = t17_0 := rfl
def q_Mom_copy (a0 : Nat) (a1 : Nat) (g : hG) : hO Unit :=
  gne (a1 + 1) (a0 + 1) <| gc (0 : Int32) (0 : Int32) (8 : Int32) 8 8 <| wr (sRow g (a0 + 1) (va_cpy (gI g (a1 + 1)) (gI g (a0 + 1)) (0 : Int32).toNatClampNeg (0 : Int32).toNatClampNeg (8 : Int32).toNatClampNeg)) fun g1 => gne (a1 + 2) (a0 + 2) <| gc (0 : Int32) (0 : Int32) (8 : Int32) 8 8 <| wr (sRow g1 (a0 + 2) (va_cpy (gI g1 (a1 + 2)) (gI g1 (a0 + 2)) (0 : Int32).toNatClampNeg (0 : Int32).toNatClampNeg (8 : Int32).toNatClampNeg)) fun g3 => gne (a1 + 3) (a0 + 3) <| gc (0 : Int32) (0 : Int32) (8 : Int32) 8 8 <| wr (sRow g3 (a0 + 3) (va_cpy (gI g3 (a1 + 3)) (gI g3 (a0 + 3)) (0 : Int32).toNatClampNeg (0 : Int32).toNatClampNeg (8 : Int32).toNatClampNeg)) fun g5 => gne (a1 + 4) (a0 + 4) <| gc (0 : Int32) (0 : Int32) (25 : Int32) 25 25 <| wr (sRow g5 (a0 + 4) (va_cpy (gI g5 (a1 + 4)) (gI g5 (a0 + 4)) (0 : Int32).toNatClampNeg (0 : Int32).toNatClampNeg (25 : Int32).toNatClampNeg)) fun g7 => wr (sI g7 a0 4 (gI g7 a1 4)) fun g9 => some ((), g9)
theorem tm17 {d : Nat} {a0 : Nat} {a1 : Nat} (h0 : is_mom a0 = true) (h1 : is_mom a1 = true) {g : hG} (hF : Frz g) : TM wU d 17 [.ref a0, .ref a1] g (q_Mom_copy a0 a1 g) := by
  refine TM.ofE e17_0 (lv := [some (.ref a0), some (.ref a1)]) rfl ?_
  unfold q_Mom_copy
  refine tr_ldA rfl (tr_getP (b := (a1 + 1)) (mom_k hF h1) (mom_p0 hF h1) (tr_pushI (tr_ldA rfl (tr_getP (b := (a0 + 1)) (mom_k hF h0) (mom_p0 hF h0) (tr_pushI (?_))))))
  refine tr_pushI (tr_cpy hF (mom_ak1 hF h1) (mom_ak1 hF h0) (mom_al1 hF h1) (mom_al1 hF h0) (Nat.le_of_ble_eq_true rfl) (fun g1 _ hF2 => tr_ldA rfl (tr_getP (b := (a1 + 2)) (mom_k hF2 h1) (mom_p1 hF2 h1) (tr_pushI (tr_ldA rfl (?_))))))
  refine tr_getP (b := (a0 + 2)) (mom_k hF2 h0) (mom_p1 hF2 h0) (tr_pushI (tr_pushI (tr_cpy hF2 (mom_ak2 hF2 h1) (mom_ak2 hF2 h0) (mom_al2 hF2 h1) (mom_al2 hF2 h0) (Nat.le_of_ble_eq_true rfl) (fun g3 _ hF4 => tr_ldA rfl (tr_getP (b := (a1 + 3)) (mom_k hF4 h1) (mom_p2 hF4 h1) (?_))))))
  refine tr_pushI (tr_ldA rfl (tr_getP (b := (a0 + 3)) (mom_k hF4 h0) (mom_p2 hF4 h0) (tr_pushI (tr_pushI (tr_cpy hF4 (mom_ak3 hF4 h1) (mom_ak3 hF4 h0) (mom_al3 hF4 h1) (mom_al3 hF4 h0) (Nat.le_of_ble_eq_true rfl) (fun g5 _ hF6 => ?_))))))
  refine tr_ldA rfl (tr_getP (b := (a1 + 4)) (mom_k hF6 h1) (mom_p3 hF6 h1) (tr_pushI (tr_ldA rfl (tr_getP (b := (a0 + 4)) (mom_k hF6 h0) (mom_p3 hF6 h0) (tr_pushI (?_))))))
  refine tr_pushI (tr_cpy hF6 (mom_ak4 hF6 h1) (mom_ak4 hF6 h0) (mom_al4 hF6 h1) (mom_al4 hF6 h0) (Nat.le_of_ble_eq_true rfl) (fun g7 _ hF8 => tr_ldA rfl (tr_ldA rfl (tr_getI (mom_k hF8 h1) (tr_putI hF8 (mom_k hF8 h0) (fun g9 _ hF10 => ?_))))))
  exact tr_retV hF10
-- Past_copy
abbrev t29_24 : List hOp := oLdA 0 :: oLdA 1 :: oGetI 4 2 :: oPutI 4 2 :: oLdA 0 :: oLdA 1 :: oGetI 4 3 :: oPutI 4 3 :: oRetV :: []
abbrev t29_2 : List hOp := oLdI 2 :: oPushI 16 :: oIf cGe 24 :: oLdA 0 :: oGetP 4 0 :: oLdI 2 :: oALdP 17 :: oLdA 1 :: oGetP 4 0 :: oLdI 2 :: oALdP 17 :: oInvV 17 2 1 :: oLdA 0 :: oGetP 4 1 :: oLdI 2 :: oLdA 1 :: oGetP 4 1 :: oLdI 2 :: oALdI 13 :: oAStI :: oInc 2 1 :: oGoto 2 :: t29_24
abbrev t29_0 : List hOp := oPushI 0 :: oStI 2 :: t29_2
theorem e29_0 : (opsOf 29).drop 0 = t29_0 := rfl
theorem e29_2 : (opsOf 29).drop 2 = t29_2 := rfl
theorem e29_24 : (opsOf 29).drop 24 = t29_24 := rfl
def q_Past_copy_2 (a0 : Nat) (a1 : Nat) (k24 : hG → hO Unit) (k2 : Int32 → hG → hO Unit) (v2 : Int32) (g : hG) : hO Unit :=
  if (16 : Int32) ≤ v2 then (k24 g) else (gd v2 16 <| gd v2 16 <| bnd (q_Mom_copy (a0 + 3 + 5 * v2.toNatClampNeg) (a1 + 3 + 5 * v2.toNatClampNeg) g) fun _ g4 => gd v2 16 <| gd v2 16 <| wr (sI g4 (a0 + 2) v2.toNatClampNeg (gI g4 (a1 + 2) v2.toNatClampNeg)) fun g6 => k2 (v2 + (1 : Int32)) g6)
def q_Past_copy_2L (a0 : Nat) (a1 : Nat) (k24 : hG → hO Unit) : Nat → Int32 → hG → hO Unit
  | 0 => fun _ _ => none
  | n + 1 => fun v2 g => q_Past_copy_2 a0 a1 k24 (q_Past_copy_2L a0 a1 k24 n) v2 g
theorem q_Past_copy_2L_s (a0 : Nat) (a1 : Nat) (k24 : hG → hO Unit) (n : Nat) (v2 : Int32) (g : hG) : q_Past_copy_2L a0 a1 k24 (n + 1) v2 g = q_Past_copy_2 a0 a1 k24 (q_Past_copy_2L a0 a1 k24 n) v2 g := rfl
theorem th29_2 {e : Nat} (he : 1 ≤ e + 1) {a0 : Nat} {a1 : Nat} {k24 : hG → hO Unit} {k2 : Int32 → hG → hO Unit} {v2 : Int32} (h0 : is_pst a0 = true) (h1 : is_pst a1 = true) (hk24 : ∀ (y2 : Option Value) (g : hG), Frz g → Tri wU (e + 1) 29 t29_24 [some (.ref a0), some (.ref a1), y2] [] g (k24 g)) (hk2 : ∀ (x2 : Int32) (g : hG), Frz g → Tri wU (e + 1) 29 t29_2 [some (.ref a0), some (.ref a1), some (.int x2)] [] g (k2 x2 g)) {g : hG} (hF : Frz g) : Tri wU (e + 1) 29 t29_2 [some (.ref a0), some (.ref a1), some (.int v2)] [] g (q_Past_copy_2 a0 a1 k24 k2 v2 g) := by
  unfold q_Past_copy_2
  refine tr_ldI rfl (tr_pushI (?_))
  refine tr_ifj e29_24 (c_ge _ _) (fun hc1 => ?_) (fun hc1 => ?_)
  · exact hk24 _ _ hF
  · refine tr_ldA rfl (tr_getP (b := (a0 + 1)) (pst_k hF h0) (pst_p0 hF h0) (tr_ldI rfl (tr_aldP (b := (a0 + 3 + 5 * v2.toNatClampNeg)) (pst_ak1 hF h0) (pst_al1 hF h0) (fun hq => pst_e (a := a0) hF h0 hq) (fun hi2 => tr_ldA rfl (tr_getP (b := (a1 + 1)) (pst_k hF h1) (pst_p0 hF h1) (?_))))))
    refine tr_ldI rfl (tr_aldP (b := (a1 + 3 + 5 * v2.toNatClampNeg)) (pst_ak1 hF h1) (pst_al1 hF h1) (fun hq => pst_e (a := a1) hF h1 hq) (fun hi3 => ?_))
    refine tr_invVU rfl rfl (mom_k hF (pst_mom (a := a0) h0 hi2)) (Nat.le_of_ble_eq_true rfl) (by decide) (Nat.le_of_ble_eq_true rfl) (tm17 (pst_mom (a := a0) h0 hi2) (pst_mom (a := a1) h1 hi3) hF) (fun _ g4 _ hF5 => ?_)
    refine tr_ldA rfl (tr_getP (b := (a0 + 2)) (pst_k hF5 h0) (pst_p1 hF5 h0) (tr_ldI rfl (tr_ldA rfl (tr_getP (b := (a1 + 2)) (pst_k hF5 h1) (pst_p1 hF5 h1) (tr_ldI rfl (?_))))))
    refine tr_aldI (pst_ak2 hF5 h1) (pst_al2 hF5 h1) (fun _ => tr_astI hF5 (pst_ak2 hF5 h0) (pst_al2 hF5 h0) (fun _ g6 _ hF7 => tr_inc rfl rfl rfl (?_)))
    refine tr_gotoE e29_2 (?_)
    exact hk2 _ _ hF7
theorem th29_2L {e : Nat} (he : 1 ≤ e + 1) {a0 : Nat} {a1 : Nat} {k24 : hG → hO Unit} (h0 : is_pst a0 = true) (h1 : is_pst a1 = true) (hk24 : ∀ (y2 : Option Value) (g : hG), Frz g → Tri wU (e + 1) 29 t29_24 [some (.ref a0), some (.ref a1), y2] [] g (k24 g)) : ∀ (n : Nat) (v2 : Int32) (g : hG), Frz g → Tri wU (e + 1) 29 t29_2 [some (.ref a0), some (.ref a1), some (.int v2)] [] g (q_Past_copy_2L a0 a1 k24 n v2 g)
  | 0 => fun _ _ _ => Tri.none_
  | n + 1 => fun _ g hF => th29_2 he h0 h1 hk24 (th29_2L he h0 h1 hk24 n) hF
def q_Past_copy (a0 : Nat) (a1 : Nat) (g : hG) : hO Unit :=
  q_Past_copy_2L a0 a1 (fun g9 => wr (sI g9 a0 2 (gI g9 a1 2)) fun g11 => wr (sI g11 a0 3 (gI g11 a1 3)) fun g13 => some ((), g13)) FU (0 : Int32) g
theorem tm29 {d : Nat} {a0 : Nat} {a1 : Nat} (hd : 1 ≤ d) (h0 : is_pst a0 = true) (h1 : is_pst a1 = true) {g : hG} (hF : Frz g) : TM wU d 29 [.ref a0, .ref a1] g (q_Past_copy a0 a1 g) := by
  obtain ⟨e, rfl⟩ : ∃ e, d = e + 1 := ⟨d - 1, by omega⟩
  have he := hd
  refine TM.ofE e29_0 (lv := [some (.ref a0), some (.ref a1), none]) rfl ?_
  unfold q_Past_copy
  refine tr_pushI (tr_stI (Nat.le_of_ble_eq_true rfl) rfl rfl (?_))
  refine th29_2L he h0 h1 (fun y8 g9 hF10 => ?_) FU _ _ hF
  · refine tr_ldA rfl (tr_ldA rfl (tr_getI (pst_k hF10 h1) (tr_putI hF10 (pst_k hF10 h0) (fun g11 _ hF12 => tr_ldA rfl (tr_ldA rfl (?_))))))
    refine tr_getI (pst_k hF12 h1) (tr_putI hF12 (pst_k hF12 h0) (fun g13 _ hF14 => ?_))
    exact tr_retV hF14
-- Mom_howManyAre
abbrev t20_16 : List hOp := oLdI 2 :: oRetI :: []
abbrev t20_14 : List hOp := oInc 3 1 :: oGoto 4 :: t20_16
abbrev t20_4 : List hOp := oLdI 3 :: oPushI 8 :: oIf cGe 16 :: oLdA 0 :: oGetP 2 0 :: oLdI 3 :: oALdI 13 :: oLdI 1 :: oIf cNe 14 :: oInc 2 1 :: t20_14
abbrev t20_0 : List hOp := oPushI 0 :: oStI 2 :: oPushI 0 :: oStI 3 :: t20_4
theorem e20_0 : (opsOf 20).drop 0 = t20_0 := rfl
theorem e20_4 : (opsOf 20).drop 4 = t20_4 := rfl
theorem e20_14 : (opsOf 20).drop 14 = t20_14 := rfl
theorem e20_16 : (opsOf 20).drop 16 = t20_16 := rfl
def q_Mom_howManyAre_4 (a0 : Nat) (v1 : Int32) (k16 : Int32 → hG → hO Int32) (k4 : Int32 → Int32 → hG → hO Int32) (v2 : Int32) (v3 : Int32) (g : hG) : hO Int32 :=
  if (8 : Int32) ≤ v3 then (k16 v2 g) else (gd v3 8 <| if (gI g (a0 + 1) v3.toNatClampNeg) = v1 then (k4 (v2 + (1 : Int32)) (v3 + (1 : Int32)) g) else (k4 v2 (v3 + (1 : Int32)) g))
def q_Mom_howManyAre_4L (a0 : Nat) (v1 : Int32) (k16 : Int32 → hG → hO Int32) : Nat → Int32 → Int32 → hG → hO Int32
  | 0 => fun _ _ _ => none
  | n + 1 => fun v2 v3 g => q_Mom_howManyAre_4 a0 v1 k16 (q_Mom_howManyAre_4L a0 v1 k16 n) v2 v3 g
theorem q_Mom_howManyAre_4L_s (a0 : Nat) (v1 : Int32) (k16 : Int32 → hG → hO Int32) (n : Nat) (v2 : Int32) (v3 : Int32) (g : hG) : q_Mom_howManyAre_4L a0 v1 k16 (n + 1) v2 v3 g = q_Mom_howManyAre_4 a0 v1 k16 (q_Mom_howManyAre_4L a0 v1 k16 n) v2 v3 g := rfl
theorem th20_4 {d : Nat} {a0 : Nat} {v1 : Int32} {k16 : Int32 → hG → hO Int32} {k4 : Int32 → Int32 → hG → hO Int32} {v2 : Int32} {v3 : Int32} (h0 : is_mom a0 = true) (hk16 : ∀ (x2 : Int32) (y3 : Option Value) (g : hG), Frz g → Tri wI d 20 t20_16 [some (.ref a0), some (.int v1), some (.int x2), y3] [] g (k16 x2 g)) (hk4 : ∀ (x2 : Int32) (x3 : Int32) (g : hG), Frz g → Tri wI d 20 t20_4 [some (.ref a0), some (.int v1), some (.int x2), some (.int x3)] [] g (k4 x2 x3 g)) {g : hG} (hF : Frz g) : Tri wI d 20 t20_4 [some (.ref a0), some (.int v1), some (.int v2), some (.int v3)] [] g (q_Mom_howManyAre_4 a0 v1 k16 k4 v2 v3 g) := by
  unfold q_Mom_howManyAre_4
  refine tr_ldI rfl (tr_pushI (?_))
  refine tr_ifj e20_16 (c_ge _ _) (fun hc1 => ?_) (fun hc1 => ?_)
  · exact hk16 _ _ _ hF
  · refine tr_ldA rfl (tr_getP (b := (a0 + 1)) (mom_k hF h0) (mom_p0 hF h0) (tr_ldI rfl (tr_aldI (mom_ak1 hF h0) (mom_al1 hF h0) (fun _ => tr_ldI rfl (?_)))))
    refine tr_ifn e20_14 (c_ne _ _) (fun hc2 => ?_) (fun hc2 => ?_)
    · refine tr_inc rfl rfl rfl (?_)
      refine tr_gotoE e20_4 (?_)
      exact hk4 _ _ _ hF
    · refine tr_inc rfl rfl rfl (tr_inc rfl rfl rfl (?_))
      refine tr_gotoE e20_4 (?_)
      exact hk4 _ _ _ hF
theorem th20_4L {d : Nat} {a0 : Nat} {v1 : Int32} {k16 : Int32 → hG → hO Int32} (h0 : is_mom a0 = true) (hk16 : ∀ (x2 : Int32) (y3 : Option Value) (g : hG), Frz g → Tri wI d 20 t20_16 [some (.ref a0), some (.int v1), some (.int x2), y3] [] g (k16 x2 g)) : ∀ (n : Nat) (v2 : Int32) (v3 : Int32) (g : hG), Frz g → Tri wI d 20 t20_4 [some (.ref a0), some (.int v1), some (.int v2), some (.int v3)] [] g (q_Mom_howManyAre_4L a0 v1 k16 n v2 v3 g)
  | 0 => fun _ _ _ _ => Tri.none_
  | n + 1 => fun _ _ g hF => th20_4 h0 hk16 (th20_4L h0 hk16 n) hF
def q_Mom_howManyAre (a0 : Nat) (v1 : Int32) (g : hG) : hO Int32 :=
  q_Mom_howManyAre_4L a0 v1 (fun x3 g5 => some (x3, g5)) FU (0 : Int32) (0 : Int32) g
theorem tm20 {d : Nat} {a0 : Nat} {v1 : Int32} (h0 : is_mom a0 = true) {g : hG} (hF : Frz g) : TM wI d 20 [.ref a0, .int v1] g (q_Mom_howManyAre a0 v1 g) := by
  refine TM.ofE e20_0 (lv := [some (.ref a0), some (.int v1), none, none]) rfl ?_
  unfold q_Mom_howManyAre
  refine tr_pushI (tr_stI (Nat.le_of_ble_eq_true rfl) rfl rfl (tr_pushI (tr_stI (Nat.le_of_ble_eq_true rfl) rfl rfl (?_))))
  refine th20_4L h0 (fun x3 y4 g5 hF6 => ?_) FU _ _ _ hF
  · refine tr_ldI rfl (?_)
    exact tr_retI hF6
-- MP_fillOrderFacts
abbrev t117_0 : List hOp := oLdA 0 :: oGetP 11 14 :: oPushI 0 :: oLdA 0 :: oGetP 11 1 :: oGetI 2 4 :: oAStI :: oLdA 0 :: oGetP 11 14 :: oPushI 1 :: oLdI 1 :: oAStI :: oLdA 0 :: oGetP 11 14 :: oPushI 2 :: oLdI 2 :: oAStI :: oLdA 0 :: oGetP 11 14 :: oPushI 3 :: oLdA 0 :: oGetP 11 1 :: oPushI 0 :: oInvV 20 2 1 :: oAStI :: oLdA 0 :: oGetP 11 14 :: oPushI 4 :: oLdA 0 :: oGetP 11 1 :: oPushI 2 :: oInvV 20 2 1 :: oAStI :: oLdA 0 :: oGetP 11 1 :: oGetP 2 1 :: oPushI 0 :: oLdA 0 :: oGetP 11 14 :: oPushI 5 :: oPushI 8 :: oCpy :: oLdA 0 :: oGetP 11 1 :: oGetP 2 3 :: oPushI 0 :: oLdA 0 :: oGetP 11 14 :: oPushI 13 :: oPushI 25 :: oCpy :: oRetV :: []
theorem e117_0 : (opsOf 117).drop 0 = t117_0 := rfl
def q_MP_fillOrderFacts (v1 : Int32) (v2 : Int32) (g : hG) : hO Unit :=
  gd (0 : Int32) 38 <| wr (sI g 249 (0 : Int32).toNatClampNeg (gI g 2 4)) fun g1 => gd (1 : Int32) 38 <| wr (sI g1 249 (1 : Int32).toNatClampNeg v1) fun g3 => gd (2 : Int32) 38 <| wr (sI g3 249 (2 : Int32).toNatClampNeg v2) fun g5 => bnd (q_Mom_howManyAre 2 (0 : Int32) g5) fun r9 g7 => gd (3 : Int32) 38 <| wr (sI g7 249 (3 : Int32).toNatClampNeg r9) fun g10 => bnd (q_Mom_howManyAre 2 (2 : Int32) g10) fun r14 g12 => gd (4 : Int32) 38 <| wr (sI g12 249 (4 : Int32).toNatClampNeg r14) fun g15 => gne 4 249 <| gc (0 : Int32) (5 : Int32) (8 : Int32) 8 38 <| wr (sRow g15 249 (va_cpy (gI g15 4) (gI g15 249) (0 : Int32).toNatClampNeg (5 : Int32).toNatClampNeg (8 : Int32).toNatClampNeg)) fun g17 => gne 6 249 <| gc (0 : Int32) (13 : Int32) (25 : Int32) 25 38 <| wr (sRow g17 249 (va_cpy (gI g17 6) (gI g17 249) (0 : Int32).toNatClampNeg (13 : Int32).toNatClampNeg (25 : Int32).toNatClampNeg)) fun g19 => some ((), g19)
theorem tm117 {d : Nat} {v1 : Int32} {v2 : Int32} (hd : 1 ≤ d) {g : hG} (hF : Frz g) : TM wU d 117 [.ref 0, .int v1, .int v2] g (q_MP_fillOrderFacts v1 v2 g) := by
  obtain ⟨e, rfl⟩ : ∃ e, d = e + 1 := ⟨d - 1, by omega⟩
  have he := hd
  refine TM.ofE e117_0 (lv := [some (.ref 0), some (.int v1), some (.int v2)]) rfl ?_
  unfold q_MP_fillOrderFacts
  refine tr_ldA rfl (tr_getP (b := 249) (fk_0 hF) (fp_0_14 hF) (tr_pushI (tr_ldA rfl (tr_getP (b := 2) (fk_0 hF) (fp_0_1 hF) (tr_getI (fk_2 hF) (?_))))))
  refine tr_astI hF (fk_249 hF) (fl_249 hF) (fun _ g1 _ hF2 => tr_ldA rfl (tr_getP (b := 249) (fk_0 hF2) (fp_0_14 hF2) (tr_pushI (tr_ldI rfl (tr_astI hF2 (fk_249 hF2) (fl_249 hF2) (fun _ g3 _ hF4 => ?_))))))
  refine tr_ldA rfl (tr_getP (b := 249) (fk_0 hF4) (fp_0_14 hF4) (tr_pushI (tr_ldI rfl (tr_astI hF4 (fk_249 hF4) (fl_249 hF4) (fun _ g5 _ hF6 => tr_ldA rfl (?_))))))
  refine tr_getP (b := 249) (fk_0 hF6) (fp_0_14 hF6) (tr_pushI (tr_ldA rfl (tr_getP (b := 2) (fk_0 hF6) (fp_0_1 hF6) (tr_pushI (?_)))))
  refine tr_invVI rfl rfl (fk_2 hF6) (Nat.le_of_ble_eq_true rfl) (by decide) (Nat.le_of_ble_eq_true rfl) (tm20 rfl hF6) (fun r9 g7 _ hF8 => ?_)
  refine tr_astI hF8 (fk_249 hF8) (fl_249 hF8) (fun _ g10 _ hF11 => tr_ldA rfl (tr_getP (b := 249) (fk_0 hF11) (fp_0_14 hF11) (tr_pushI (tr_ldA rfl (tr_getP (b := 2) (fk_0 hF11) (fp_0_1 hF11) (?_))))))
  refine tr_pushI (?_)
  refine tr_invVI rfl rfl (fk_2 hF11) (Nat.le_of_ble_eq_true rfl) (by decide) (Nat.le_of_ble_eq_true rfl) (tm20 rfl hF11) (fun r14 g12 _ hF13 => ?_)
  refine tr_astI hF13 (fk_249 hF13) (fl_249 hF13) (fun _ g15 _ hF16 => tr_ldA rfl (tr_getP (b := 2) (fk_0 hF16) (fp_0_1 hF16) (tr_getP (b := 4) (fk_2 hF16) (fp_2_1 hF16) (tr_pushI (tr_ldA rfl (?_))))))
  refine tr_getP (b := 249) (fk_0 hF16) (fp_0_14 hF16) (tr_pushI (tr_pushI (tr_cpy hF16 (fk_4 hF16) (fk_249 hF16) (fl_4 hF16) (fl_249 hF16) (Nat.le_of_ble_eq_true rfl) (fun g17 _ hF18 => tr_ldA rfl (tr_getP (b := 2) (fk_0 hF18) (fp_0_1 hF18) (?_))))))
  refine tr_getP (b := 6) (fk_2 hF18) (fp_2_3 hF18) (tr_pushI (tr_ldA rfl (tr_getP (b := 249) (fk_0 hF18) (fp_0_14 hF18) (tr_pushI (tr_pushI (?_))))))
  refine tr_cpy hF18 (fk_6 hF18) (fk_249 hF18) (fl_6 hF18) (fl_249 hF18) (Nat.le_of_ble_eq_true rfl) (fun g19 _ hF20 => ?_)
  exact tr_retV hF20
-- Mom_refusalOf
abbrev t22_74 : List hOp := oRetI :: []
abbrev t22_73 : List hOp := oPushI (-3) :: t22_74
abbrev t22_67 : List hOp := oLdA 0 :: oGetI 2 4 :: oPushI 999 :: oIf cGe 73 :: oPushI 0 :: oGoto 74 :: t22_73
abbrev t22_66 : List hOp := oRetI :: t22_67
abbrev t22_65 : List hOp := oPushI (-3) :: t22_66
abbrev t22_49 : List hOp := oLdA 0 :: oGetP 2 0 :: oLdI 2 :: oALdI 13 :: oPushI 1 :: oIf cNe 65 :: oLdA 0 :: oGetP 2 1 :: oLdI 2 :: oALdI 13 :: oLdI 3 :: oInvS 163 2 :: oPushI (-1) :: oIf cEq 65 :: oPushI 0 :: oGoto 66 :: t22_65
abbrev t22_47 : List hOp := oPushI (-1) :: oRetI :: t22_49
abbrev t22_39 : List hOp := oLdI 2 :: oInvS 160 1 :: oIf0 cEq 47 :: oLdI 3 :: oIf0 cLt 47 :: oLdI 3 :: oPushI 4 :: oIf cLt 49 :: t22_47
abbrev t22_38 : List hOp := oRetI :: t22_39
abbrev t22_37 : List hOp := oPushI (-3) :: t22_38
abbrev t22_29 : List hOp := oLdA 0 :: oGetP 2 3 :: oLdI 2 :: oALdI 13 :: oLdI 3 :: oIf cEq 37 :: oPushI 0 :: oGoto 38 :: t22_37
abbrev t22_27 : List hOp := oPushI (-1) :: oRetI :: t22_29
abbrev t22_19 : List hOp := oLdI 2 :: oInvS 159 1 :: oIf0 cEq 27 :: oLdI 3 :: oIf0 cLt 27 :: oLdI 3 :: oPushI 9 :: oIf cLe 29 :: t22_27
abbrev t22_18 : List hOp := oRetI :: t22_19
abbrev t22_17 : List hOp := oPushI (-3) :: t22_18
abbrev t22_10 : List hOp := oLdA 0 :: oGetP 2 0 :: oLdI 2 :: oALdI 13 :: oIf0 cNe 17 :: oPushI 0 :: oGoto 18 :: t22_17
abbrev t22_8 : List hOp := oPushI (-1) :: oRetI :: t22_10
abbrev t22_2 : List hOp := oLdI 2 :: oInvS 160 1 :: oIf0 cEq 8 :: oLdI 3 :: oInvS 159 1 :: oIf0 cNe 10 :: t22_8
abbrev t22_0 : List hOp := oLdI 1 :: oSw 0 [2, 19, 39] 67 :: t22_2
theorem e22_0 : (opsOf 22).drop 0 = t22_0 := rfl
theorem e22_2 : (opsOf 22).drop 2 = t22_2 := rfl
theorem e22_8 : (opsOf 22).drop 8 = t22_8 := rfl
theorem e22_10 : (opsOf 22).drop 10 = t22_10 := rfl
theorem e22_17 : (opsOf 22).drop 17 = t22_17 := rfl
theorem e22_18 : (opsOf 22).drop 18 = t22_18 := rfl
theorem e22_19 : (opsOf 22).drop 19 = t22_19 := rfl
theorem e22_27 : (opsOf 22).drop 27 = t22_27 := rfl
theorem e22_29 : (opsOf 22).drop 29 = t22_29 := rfl
theorem e22_37 : (opsOf 22).drop 37 = t22_37 := rfl
theorem e22_38 : (opsOf 22).drop 38 = t22_38 := rfl
theorem e22_39 : (opsOf 22).drop 39 = t22_39 := rfl
theorem e22_47 : (opsOf 22).drop 47 = t22_47 := rfl
theorem e22_49 : (opsOf 22).drop 49 = t22_49 := rfl
theorem e22_65 : (opsOf 22).drop 65 = t22_65 := rfl
theorem e22_66 : (opsOf 22).drop 66 = t22_66 := rfl
theorem e22_67 : (opsOf 22).drop 67 = t22_67 := rfl
theorem e22_73 : (opsOf 22).drop 73 = t22_73 := rfl
theorem e22_74 : (opsOf 22).drop 74 = t22_74 := rfl
def q_Mom_refusalOf (a0 : Nat) (v1 : Int32) (v2 : Int32) (v3 : Int32) (g : hG) : hO Int32 :=
  if v1 = (0 : Int32) then (bnd (q_MP_isLetter v2 g) fun r3 g1 => if r3 = (0 : Int32) then (some ((-1 : Int32), g1)) else (bnd (q_MP_isCell v3 g1) fun r7 g5 => if r7 = (0 : Int32) then (some ((-1 : Int32), g5)) else (gd v2 8 <| if (gI g5 (a0 + 1) v2.toNatClampNeg) = (0 : Int32) then (some ((0 : Int32), g5)) else (some ((-3 : Int32), g5))))) else if v1 = (1 : Int32) then (bnd (q_MP_isCell v2 g) fun r12 g10 => if r12 = (0 : Int32) then (some ((-1 : Int32), g10)) else (if v3 < (0 : Int32) then (some ((-1 : Int32), g10)) else (if v3 ≤ (9 : Int32) then (gd v2 25 <| if (gI g10 (a0 + 4) v2.toNatClampNeg) = v3 then (some ((-3 : Int32), g10)) else (some ((0 : Int32), g10))) else (some ((-1 : Int32), g10))))) else if v1 = (2 : Int32) then (bnd (q_MP_isLetter v2 g) fun r19 g17 => if r19 = (0 : Int32) then (some ((-1 : Int32), g17)) else (if v3 < (0 : Int32) then (some ((-1 : Int32), g17)) else (if v3 < (4 : Int32) then (gd v2 8 <| if (gI g17 (a0 + 1) v2.toNatClampNeg) = (1 : Int32) then (gd v2 8 <| bnd (q_MP_beside (gI g17 (a0 + 2) v2.toNatClampNeg) v3 g17) fun r26 g24 => if r26 = (-1 : Int32) then (some ((-3 : Int32), g24)) else (some ((0 : Int32), g24))) else (some ((-3 : Int32), g17))) else (some ((-1 : Int32), g17))))) else (if (999 : Int32) ≤ (gI g a0 4) then (some ((-3 : Int32), g)) else (some ((0 : Int32), g)))
theorem tm22 {d : Nat} {a0 : Nat} {v1 : Int32} {v2 : Int32} {v3 : Int32} (hd : 1 ≤ d) (h0 : is_mom a0 = true) {g : hG} (hF : Frz g) : TM wI d 22 [.ref a0, .int v1, .int v2, .int v3] g (q_Mom_refusalOf a0 v1 v2 v3 g) := by
  obtain ⟨e, rfl⟩ : ∃ e, d = e + 1 := ⟨d - 1, by omega⟩
  have he := hd
  refine TM.ofE e22_0 (lv := [some (.ref a0), some (.int v1), some (.int v2), some (.int v3)]) rfl ?_
  unfold q_Mom_refusalOf
  refine tr_ldI rfl (?_)
  refine tr_sw1E (c := (0 : Int32)) e22_2 rfl (fun _ => ?_) (fun _ => ?_)
  · refine tr_ldI rfl (?_)
    refine tr_invSI rfl rfl (Nat.le_of_ble_eq_true rfl) (Nat.le_of_ble_eq_true rfl) (by decide) (Nat.le_of_ble_eq_true rfl) (tm160 hF) (fun r3 g1 _ hF2 => ?_)
    refine tr_if0j e22_8 (c_eq _ _) (fun hc4 => ?_) (fun hc4 => ?_)
    · refine tr_pushI (?_)
      exact tr_retI hF2
    · refine tr_ldI rfl (?_)
      refine tr_invSI rfl rfl (Nat.le_of_ble_eq_true rfl) (Nat.le_of_ble_eq_true rfl) (by decide) (Nat.le_of_ble_eq_true rfl) (tm159 hF2) (fun r7 g5 _ hF6 => ?_)
      refine tr_if0n e22_10 (c_ne _ _) (fun hc8 => ?_) (fun hc8 => ?_)
      · refine tr_ldA rfl (tr_getP (b := (a0 + 1)) (mom_k hF6 h0) (mom_p0 hF6 h0) (tr_ldI rfl (tr_aldI (mom_ak1 hF6 h0) (mom_al1 hF6 h0) (fun _ => ?_))))
        refine tr_if0n e22_17 (c_ne _ _) (fun hc9 => ?_) (fun hc9 => ?_)
        · refine tr_pushI (?_)
          exact tr_retI hF6
        · refine tr_pushI (?_)
          refine tr_gotoE e22_18 (?_)
          exact tr_retI hF6
      · refine tr_pushI (?_)
        exact tr_retI hF6
  refine tr_sw1E (c := (1 : Int32)) e22_19 rfl (fun _ => ?_) (fun _ => ?_)
  · refine tr_ldI rfl (?_)
    refine tr_invSI rfl rfl (Nat.le_of_ble_eq_true rfl) (Nat.le_of_ble_eq_true rfl) (by decide) (Nat.le_of_ble_eq_true rfl) (tm159 hF) (fun r12 g10 _ hF11 => ?_)
    refine tr_if0j e22_27 (c_eq _ _) (fun hc13 => ?_) (fun hc13 => ?_)
    · refine tr_pushI (?_)
      exact tr_retI hF11
    · refine tr_ldI rfl (?_)
      refine tr_if0j e22_27 (c_lt _ _) (fun hc14 => ?_) (fun hc14 => ?_)
      · refine tr_pushI (?_)
        exact tr_retI hF11
      · refine tr_ldI rfl (tr_pushI (?_))
        refine tr_ifj e22_29 (c_le _ _) (fun hc15 => ?_) (fun hc15 => ?_)
        · refine tr_ldA rfl (tr_getP (b := (a0 + 4)) (mom_k hF11 h0) (mom_p3 hF11 h0) (tr_ldI rfl (tr_aldI (mom_ak4 hF11 h0) (mom_al4 hF11 h0) (fun _ => tr_ldI rfl (?_)))))
          refine tr_ifj e22_37 (c_eq _ _) (fun hc16 => ?_) (fun hc16 => ?_)
          · refine tr_pushI (?_)
            exact tr_retI hF11
          · refine tr_pushI (?_)
            refine tr_gotoE e22_38 (?_)
            exact tr_retI hF11
        · refine tr_pushI (?_)
          exact tr_retI hF11
  refine tr_sw1E (c := (2 : Int32)) e22_39 rfl (fun _ => ?_) (fun _ => ?_)
  · refine tr_ldI rfl (?_)
    refine tr_invSI rfl rfl (Nat.le_of_ble_eq_true rfl) (Nat.le_of_ble_eq_true rfl) (by decide) (Nat.le_of_ble_eq_true rfl) (tm160 hF) (fun r19 g17 _ hF18 => ?_)
    refine tr_if0j e22_47 (c_eq _ _) (fun hc20 => ?_) (fun hc20 => ?_)
    · refine tr_pushI (?_)
      exact tr_retI hF18
    · refine tr_ldI rfl (?_)
      refine tr_if0j e22_47 (c_lt _ _) (fun hc21 => ?_) (fun hc21 => ?_)
      · refine tr_pushI (?_)
        exact tr_retI hF18
      · refine tr_ldI rfl (tr_pushI (?_))
        refine tr_ifj e22_49 (c_lt _ _) (fun hc22 => ?_) (fun hc22 => ?_)
        · refine tr_ldA rfl (tr_getP (b := (a0 + 1)) (mom_k hF18 h0) (mom_p0 hF18 h0) (tr_ldI rfl (tr_aldI (mom_ak1 hF18 h0) (mom_al1 hF18 h0) (fun _ => tr_pushI (?_)))))
          refine tr_ifn e22_65 (c_ne _ _) (fun hc23 => ?_) (fun hc23 => ?_)
          · refine tr_pushI (?_)
            exact tr_retI hF18
          · refine tr_ldA rfl (tr_getP (b := (a0 + 2)) (mom_k hF18 h0) (mom_p1 hF18 h0) (tr_ldI rfl (tr_aldI (mom_ak2 hF18 h0) (mom_al2 hF18 h0) (fun _ => tr_ldI rfl (?_)))))
            refine tr_invSI rfl rfl (Nat.le_of_ble_eq_true rfl) (Nat.le_of_ble_eq_true rfl) (by decide) (Nat.le_of_ble_eq_true rfl) (tm163 hF18) (fun r26 g24 _ hF25 => ?_)
            refine tr_pushI (?_)
            refine tr_ifj e22_65 (c_eq _ _) (fun hc27 => ?_) (fun hc27 => ?_)
            · refine tr_pushI (?_)
              exact tr_retI hF25
            · refine tr_pushI (?_)
              refine tr_gotoE e22_66 (?_)
              exact tr_retI hF25
        · refine tr_pushI (?_)
          exact tr_retI hF18
  refine tr_sw0E e22_67 ?_
  refine tr_ldA rfl (tr_getI (mom_k hF h0) (tr_pushI (?_)))
  refine tr_ifj e22_73 (c_ge _ _) (fun hc28 => ?_) (fun hc28 => ?_)
  · refine tr_pushI (?_)
    exact tr_retI hF
  · refine tr_pushI (?_)
    refine tr_gotoE e22_74 (?_)
    exact tr_retI hF
-- Past_keep
abbrev t31_24 : List hOp := oPutI 4 3 :: oLdA 0 :: oLdA 0 :: oGetI 4 2 :: oPushI 1 :: oBin (fun x y => x + y) :: oPushI 16 :: oMin :: oPutI 4 2 :: oRetV :: []
abbrev t31_20 : List hOp := oLdA 0 :: oGetI 4 3 :: oPushI 1 :: oBin (fun x y => x + y) :: t31_24
abbrev t31_0 : List hOp := oLdA 0 :: oGetP 4 0 :: oLdA 0 :: oGetI 4 3 :: oALdP 17 :: oLdA 1 :: oInvV 17 2 1 :: oLdA 0 :: oGetP 4 1 :: oLdA 0 :: oGetI 4 3 :: oLdI 2 :: oAStI :: oLdA 0 :: oLdA 0 :: oGetI 4 3 :: oPushI 15 :: oIf cNe 20 :: oPushI 0 :: oGoto 24 :: t31_20
theorem e31_0 : (opsOf 31).drop 0 = t31_0 := rfl
theorem e31_20 : (opsOf 31).drop 20 = t31_20 := rfl
theorem e31_24 : (opsOf 31).drop 24 = t31_24 := rfl
def q_Past_keep_24 (w1 : Int32) (g : hG) : hO Unit :=
  wr (sI g 54 3 w1) fun g7 => wr (sI g7 54 2 (imin ((gI g7 54 2) + (1 : Int32)) (16 : Int32))) fun g9 => some ((), g9)
theorem th31_24 {e : Nat} (he : 1 ≤ e + 1) {w1 : Int32} {u2 : Option Value} {g : hG} (hF : Frz g) : Tri wU (e + 1) 31 t31_24 [some (.ref 54), some (.ref 2), u2] [.int w1, .ref 54] g (q_Past_keep_24 w1 g) := by
  unfold q_Past_keep_24
  refine tr_putI hF (fk_54 hF) (fun g7 _ hF8 => tr_ldA rfl (tr_ldA rfl (tr_getI (fk_54 hF8) (tr_pushI (tr_bin (v := ((gI g7 54 2) + (1 : Int32))) rfl (?_))))))
  refine tr_pushI (tr_min (Nat.le_of_ble_eq_true rfl) (tr_putI hF8 (fk_54 hF8) (fun g9 _ hF10 => ?_)))
  exact tr_retV hF10
def q_Past_keep (v2 : Int32) (g : hG) : hO Unit :=
  gd (gI g 54 3) 16 <| bnd (q_Mom_copy (57 + 5 * (gI g 54 3).toNatClampNeg) 2 g) fun _ g2 => gd (gI g2 54 3) 16 <| wr (sI g2 56 (gI g2 54 3).toNatClampNeg v2) fun g4 => q_Past_keep_24 (if (gI g4 54 3) = (15 : Int32) then (0 : Int32) else ((gI g4 54 3) + (1 : Int32))) g4
theorem tm31 {d : Nat} {v2 : Int32} (hd : 1 ≤ d) {g : hG} (hF : Frz g) : TM wU d 31 [.ref 54, .ref 2, .int v2] g (q_Past_keep v2 g) := by
  obtain ⟨e, rfl⟩ : ∃ e, d = e + 1 := ⟨d - 1, by omega⟩
  have he := hd
  refine TM.ofE e31_0 (lv := [some (.ref 54), some (.ref 2), some (.int v2)]) rfl ?_
  unfold q_Past_keep
  refine tr_ldA rfl (tr_getP (b := 55) (fk_54 hF) (fp_54_0 hF) (tr_ldA rfl (tr_getI (fk_54 hF) (tr_aldP (b := (57 + 5 * (gI g 54 3).toNatClampNeg)) (fk_55 hF) (fl_55 hF) (fun hq => pst_e (a := 54) hF rfl hq) (fun hi1 => tr_ldA rfl (?_))))))
  refine tr_invVU rfl rfl (mom_k hF (pst_mom (a := 54) rfl hi1)) (Nat.le_of_ble_eq_true rfl) (by decide) (Nat.le_of_ble_eq_true rfl) (tm17 (pst_mom (a := 54) rfl hi1) rfl hF) (fun _ g2 _ hF3 => ?_)
  refine tr_ldA rfl (tr_getP (b := 56) (fk_54 hF3) (fp_54_1 hF3) (tr_ldA rfl (tr_getI (fk_54 hF3) (tr_ldI rfl (tr_astI hF3 (fk_56 hF3) (fl_56 hF3) (fun _ g4 _ hF5 => ?_))))))
  refine tr_ldA rfl (tr_ldA rfl (tr_getI (fk_54 hF5) (tr_pushI (?_))))
  refine tr_ifcE e31_20 (c_ne _ _) (fun hc11 => ?_) (fun hc11 => ?_)
  · rw [if_neg hc11]
    refine tr_ldA rfl (?_)
    refine tr_getI (fk_54 hF5) (?_)
    refine tr_pushI (?_)
    refine tr_bin (v := ((gI g4 54 3) + (1 : Int32))) rfl (?_)
    exact th31_24 he hF5
  · rw [if_pos (Decidable.not_not.mp hc11)]
    refine tr_pushI (?_)
    refine tr_gotoE e31_24 (?_)
    exact th31_24 he hF5
-- Slope_passHour
abbrev t64_74 : List hOp := oLdA 1 :: oDup :: oGetI 2 4 :: oPushI 1 :: oBin (fun x y => x + y) :: oPutI 2 4 :: oLdI 2 :: oRetI :: []
abbrev t64_72 : List hOp := oInc 3 1 :: oGoto 33 :: t64_74
abbrev t64_64 : List hOp := oLdA 1 :: oGetP 2 1 :: oLdI 3 :: oLdA 0 :: oGetP 6 3 :: oLdI 3 :: oALdI 13 :: oAStI :: t64_72
abbrev t64_43 : List hOp := oLdA 0 :: oGetP 6 4 :: oLdA 1 :: oGetP 2 1 :: oLdI 3 :: oALdI 13 :: oInvV 14 1 1 :: oIf0 cEq 64 :: oLdA 1 :: oGetP 2 0 :: oLdI 3 :: oPushI 2 :: oAStI :: oLdA 1 :: oGetP 2 2 :: oLdI 3 :: oLdA 1 :: oGetI 2 4 :: oAStI :: oInc 2 1 :: oGoto 72 :: t64_64
abbrev t64_33 : List hOp := oLdI 3 :: oPushI 8 :: oIf cGe 74 :: oLdA 1 :: oGetP 2 0 :: oLdI 3 :: oALdI 13 :: oPushI 1 :: oIf cEq 43 :: oGoto 72 :: t64_43
abbrev t64_29 : List hOp := oPushI 0 :: oStI 2 :: oPushI 0 :: oStI 3 :: t64_33
abbrev t64_27 : List hOp := oInc 2 1 :: oGoto 8 :: t64_29
abbrev t64_8 : List hOp := oLdI 2 :: oPushI 8 :: oIf cGe 29 :: oLdA 1 :: oGetP 2 0 :: oLdI 2 :: oALdI 13 :: oPushI 1 :: oIf cNe 27 :: oLdA 0 :: oGetP 6 3 :: oLdI 2 :: oLdA 0 :: oLdA 1 :: oGetP 2 1 :: oLdI 2 :: oALdI 13 :: oInvV 60 6 1 :: oAStI :: t64_27
abbrev t64_0 : List hOp := oLdA 0 :: oLdA 1 :: oLdA 0 :: oGetP 6 4 :: oGetI 1 9 :: oInvV 57 6 2 :: oPushI 0 :: oStI 2 :: t64_8
theorem e64_0 : (opsOf 64).drop 0 = t64_0 := rfl
theorem e64_8 : (opsOf 64).drop 8 = t64_8 := rfl
theorem e64_27 : (opsOf 64).drop 27 = t64_27 := rfl
theorem e64_29 : (opsOf 64).drop 29 = t64_29 := rfl
theorem e64_33 : (opsOf 64).drop 33 = t64_33 := rfl
theorem e64_43 : (opsOf 64).drop 43 = t64_43 := rfl
theorem e64_64 : (opsOf 64).drop 64 = t64_64 := rfl
theorem e64_72 : (opsOf 64).drop 72 = t64_72 := rfl
theorem e64_74 : (opsOf 64).drop 74 = t64_74 := rfl
def q_Slope_passHour_8 (a1 : Nat) (k29 : hG → hO Int32) (k8 : Int32 → hG → hO Int32) (v2 : Int32) (g : hG) : hO Int32 :=
  if (8 : Int32) ≤ v2 then (k29 g) else (gd v2 8 <| if (gI g (a1 + 1) v2.toNatClampNeg) = (1 : Int32) then (gd v2 8 <| bnd (q_Slope_next (gI g (a1 + 2) v2.toNatClampNeg) g) fun r7 g5 => gd v2 8 <| wr (sI g5 253 v2.toNatClampNeg r7) fun g8 => k8 (v2 + (1 : Int32)) g8) else (k8 (v2 + (1 : Int32)) g))
def q_Slope_passHour_8L (a1 : Nat) (k29 : hG → hO Int32) : Nat → Int32 → hG → hO Int32
  | 0 => fun _ _ => none
  | n + 1 => fun v2 g => q_Slope_passHour_8 a1 k29 (q_Slope_passHour_8L a1 k29 n) v2 g
theorem q_Slope_passHour_8L_s (a1 : Nat) (k29 : hG → hO Int32) (n : Nat) (v2 : Int32) (g : hG) : q_Slope_passHour_8L a1 k29 (n + 1) v2 g = q_Slope_passHour_8 a1 k29 (q_Slope_passHour_8L a1 k29 n) v2 g := rfl
theorem th64_8 {e : Nat} (he : 4 ≤ e + 1) {a1 : Nat} {k29 : hG → hO Int32} {k8 : Int32 → hG → hO Int32} {v2 : Int32} {u3 : Option Value} (h1 : is_mom a1 = true) (hk29 : ∀ (y2 : Option Value) (_ : isL (some y2) = false) (g : hG), Frz g → Tri wI (e + 1) 64 t64_29 [some (.ref 250), some (.ref a1), y2, u3] [] g (k29 g)) (hk8 : ∀ (x2 : Int32) (g : hG), Frz g → Tri wI (e + 1) 64 t64_8 [some (.ref 250), some (.ref a1), some (.int x2), u3] [] g (k8 x2 g)) {g : hG} (hF : Frz g) : Tri wI (e + 1) 64 t64_8 [some (.ref 250), some (.ref a1), some (.int v2), u3] [] g (q_Slope_passHour_8 a1 k29 k8 v2 g) := by
  unfold q_Slope_passHour_8
  refine tr_ldI rfl (tr_pushI (?_))
  refine tr_ifj e64_29 (c_ge _ _) (fun hc3 => ?_) (fun hc3 => ?_)
  · exact hk29 _ rfl _ hF
  · refine tr_ldA rfl (tr_getP (b := (a1 + 1)) (mom_k hF h1) (mom_p0 hF h1) (tr_ldI rfl (tr_aldI (mom_ak1 hF h1) (mom_al1 hF h1) (fun _ => tr_pushI (?_)))))
    refine tr_ifn e64_27 (c_ne _ _) (fun hc4 => ?_) (fun hc4 => ?_)
    · refine tr_inc rfl rfl rfl (?_)
      refine tr_gotoE e64_8 (?_)
      exact hk8 _ _ hF
    · refine tr_ldA rfl (tr_getP (b := 253) (fk_250 hF) (fp_250_3 hF) (tr_ldI rfl (tr_ldA rfl (tr_ldA rfl (tr_getP (b := (a1 + 2)) (mom_k hF h1) (mom_p1 hF h1) (?_))))))
      refine tr_ldI rfl (tr_aldI (mom_ak2 hF h1) (mom_al2 hF h1) (fun _ => ?_))
      refine tr_invVI rfl rfl (fk_250 hF) (Nat.le_of_ble_eq_true rfl) (by decide) (Nat.le_of_ble_eq_true rfl) (tm60 (by omega) hF) (fun r7 g5 _ hF6 => ?_)
      refine tr_astI hF6 (fk_253 hF6) (fl_253 hF6) (fun _ g8 _ hF9 => tr_inc rfl rfl rfl (?_))
      refine tr_gotoE e64_8 (?_)
      exact hk8 _ _ hF9
theorem th64_8L {e : Nat} (he : 4 ≤ e + 1) {a1 : Nat} {k29 : hG → hO Int32} {u3 : Option Value} (h1 : is_mom a1 = true) (hk29 : ∀ (y2 : Option Value) (_ : isL (some y2) = false) (g : hG), Frz g → Tri wI (e + 1) 64 t64_29 [some (.ref 250), some (.ref a1), y2, u3] [] g (k29 g)) : ∀ (n : Nat) (v2 : Int32) (g : hG), Frz g → Tri wI (e + 1) 64 t64_8 [some (.ref 250), some (.ref a1), some (.int v2), u3] [] g (q_Slope_passHour_8L a1 k29 n v2 g)
  | 0 => fun _ _ _ => Tri.none_
  | n + 1 => fun _ g hF => th64_8 he h1 hk29 (th64_8L he h1 hk29 n) hF
def q_Slope_passHour_33 (a1 : Nat) (k74 : Int32 → hG → hO Int32) (k33 : Int32 → Int32 → hG → hO Int32) (v2 : Int32) (v3 : Int32) (g : hG) : hO Int32 :=
  if (8 : Int32) ≤ v3 then (k74 v2 g) else (gd v3 8 <| if (gI g (a1 + 1) v3.toNatClampNeg) = (1 : Int32) then (gd v3 8 <| bnd (q_Kept_hasDoor (gI g (a1 + 2) v3.toNatClampNeg) g) fun r17 g15 => if r17 = (0 : Int32) then (gd v3 8 <| gd v3 8 <| wr (sI g15 (a1 + 2) v3.toNatClampNeg (gI g15 253 v3.toNatClampNeg)) fun g19 => k33 v2 (v3 + (1 : Int32)) g19) else (gd v3 8 <| wr (sI g15 (a1 + 1) v3.toNatClampNeg (2 : Int32)) fun g21 => gd v3 8 <| wr (sI g21 (a1 + 3) v3.toNatClampNeg (gI g21 a1 4)) fun g23 => k33 (v2 + (1 : Int32)) (v3 + (1 : Int32)) g23)) else (k33 v2 (v3 + (1 : Int32)) g))
def q_Slope_passHour_33L (a1 : Nat) (k74 : Int32 → hG → hO Int32) : Nat → Int32 → Int32 → hG → hO Int32
  | 0 => fun _ _ _ => none
  | n + 1 => fun v2 v3 g => q_Slope_passHour_33 a1 k74 (q_Slope_passHour_33L a1 k74 n) v2 v3 g
theorem q_Slope_passHour_33L_s (a1 : Nat) (k74 : Int32 → hG → hO Int32) (n : Nat) (v2 : Int32) (v3 : Int32) (g : hG) : q_Slope_passHour_33L a1 k74 (n + 1) v2 v3 g = q_Slope_passHour_33 a1 k74 (q_Slope_passHour_33L a1 k74 n) v2 v3 g := rfl
theorem th64_33 {e : Nat} (he : 4 ≤ e + 1) {a1 : Nat} {k74 : Int32 → hG → hO Int32} {k33 : Int32 → Int32 → hG → hO Int32} {v2 : Int32} {v3 : Int32} (h1 : is_mom a1 = true) (hk74 : ∀ (x2 : Int32) (y3 : Option Value) (g : hG), Frz g → Tri wI (e + 1) 64 t64_74 [some (.ref 250), some (.ref a1), some (.int x2), y3] [] g (k74 x2 g)) (hk33 : ∀ (x2 : Int32) (x3 : Int32) (g : hG), Frz g → Tri wI (e + 1) 64 t64_33 [some (.ref 250), some (.ref a1), some (.int x2), some (.int x3)] [] g (k33 x2 x3 g)) {g : hG} (hF : Frz g) : Tri wI (e + 1) 64 t64_33 [some (.ref 250), some (.ref a1), some (.int v2), some (.int v3)] [] g (q_Slope_passHour_33 a1 k74 k33 v2 v3 g) := by
  unfold q_Slope_passHour_33
  refine tr_ldI rfl (tr_pushI (?_))
  refine tr_ifj e64_74 (c_ge _ _) (fun hc13 => ?_) (fun hc13 => ?_)
  · exact hk74 _ _ _ hF
  · refine tr_ldA rfl (tr_getP (b := (a1 + 1)) (mom_k hF h1) (mom_p0 hF h1) (tr_ldI rfl (tr_aldI (mom_ak1 hF h1) (mom_al1 hF h1) (fun _ => tr_pushI (?_)))))
    refine tr_ifj e64_43 (c_eq _ _) (fun hc14 => ?_) (fun hc14 => ?_)
    · refine tr_ldA rfl (tr_getP (b := 1) (fk_250 hF) (fp_250_4 hF) (tr_ldA rfl (tr_getP (b := (a1 + 2)) (mom_k hF h1) (mom_p1 hF h1) (tr_ldI rfl (tr_aldI (mom_ak2 hF h1) (mom_al2 hF h1) (fun _ => ?_))))))
      refine tr_invVI rfl rfl (fk_1 hF) (Nat.le_of_ble_eq_true rfl) (by decide) (Nat.le_of_ble_eq_true rfl) (tm14 (by omega) hF) (fun r17 g15 _ hF16 => ?_)
      refine tr_if0j e64_64 (c_eq _ _) (fun hc18 => ?_) (fun hc18 => ?_)
      · refine tr_ldA rfl (tr_getP (b := (a1 + 2)) (mom_k hF16 h1) (mom_p1 hF16 h1) (tr_ldI rfl (tr_ldA rfl (tr_getP (b := 253) (fk_250 hF16) (fp_250_3 hF16) (tr_ldI rfl (?_))))))
        refine tr_aldI (fk_253 hF16) (fl_253 hF16) (fun _ => tr_astI hF16 (mom_ak2 hF16 h1) (mom_al2 hF16 h1) (fun _ g19 _ hF20 => tr_inc rfl rfl rfl (?_)))
        refine tr_gotoE e64_33 (?_)
        exact hk33 _ _ _ hF20
      · refine tr_ldA rfl (tr_getP (b := (a1 + 1)) (mom_k hF16 h1) (mom_p0 hF16 h1) (tr_ldI rfl (tr_pushI (tr_astI hF16 (mom_ak1 hF16 h1) (mom_al1 hF16 h1) (fun _ g21 _ hF22 => tr_ldA rfl (?_))))))
        refine tr_getP (b := (a1 + 3)) (mom_k hF22 h1) (mom_p2 hF22 h1) (tr_ldI rfl (tr_ldA rfl (tr_getI (mom_k hF22 h1) (tr_astI hF22 (mom_ak3 hF22 h1) (mom_al3 hF22 h1) (fun _ g23 _ hF24 => tr_inc rfl rfl rfl (?_))))))
        refine tr_gotoE e64_72 (?_)
        refine tr_inc rfl rfl rfl (?_)
        refine tr_gotoE e64_33 (?_)
        exact hk33 _ _ _ hF24
    · refine tr_gotoE e64_72 (?_)
      refine tr_inc rfl rfl rfl (?_)
      refine tr_gotoE e64_33 (?_)
      exact hk33 _ _ _ hF
theorem th64_33L {e : Nat} (he : 4 ≤ e + 1) {a1 : Nat} {k74 : Int32 → hG → hO Int32} (h1 : is_mom a1 = true) (hk74 : ∀ (x2 : Int32) (y3 : Option Value) (g : hG), Frz g → Tri wI (e + 1) 64 t64_74 [some (.ref 250), some (.ref a1), some (.int x2), y3] [] g (k74 x2 g)) : ∀ (n : Nat) (v2 : Int32) (v3 : Int32) (g : hG), Frz g → Tri wI (e + 1) 64 t64_33 [some (.ref 250), some (.ref a1), some (.int v2), some (.int v3)] [] g (q_Slope_passHour_33L a1 k74 n v2 v3 g)
  | 0 => fun _ _ _ _ => Tri.none_
  | n + 1 => fun _ _ g hF => th64_33 he h1 hk74 (th64_33L he h1 hk74 n) hF
def q_Slope_passHour (a1 : Nat) (g : hG) : hO Int32 :=
  bnd (q_Slope_face a1 (gI g 1 9) g) fun _ g1 => q_Slope_passHour_8L a1 (fun g11 => q_Slope_passHour_33L a1 (fun x25 g27 => wr (sI g27 a1 4 ((gI g27 a1 4) + (1 : Int32))) fun g29 => some (x25, g29)) FU (0 : Int32) (0 : Int32) g11) FU (0 : Int32) g1
theorem tm64 {d : Nat} {a1 : Nat} (hd : 4 ≤ d) (h1 : is_mom a1 = true) {g : hG} (hF : Frz g) : TM wI d 64 [.ref 250, .ref a1] g (q_Slope_passHour a1 g) := by
  obtain ⟨e, rfl⟩ : ∃ e, d = e + 1 := ⟨d - 1, by omega⟩
  have he := hd
  refine TM.ofE e64_0 (lv := [some (.ref 250), some (.ref a1), none, none]) rfl ?_
  unfold q_Slope_passHour
  refine tr_ldA rfl (tr_ldA rfl (tr_ldA rfl (tr_getP (b := 1) (fk_250 hF) (fp_250_4 hF) (tr_getI (fk_1 hF) (?_)))))
  refine tr_invVU rfl rfl (fk_250 hF) (Nat.le_of_ble_eq_true rfl) (by decide) (Nat.le_of_ble_eq_true rfl) (tm57 h1 hF) (fun _ g1 _ hF2 => ?_)
  refine tr_pushI (tr_stI (Nat.le_of_ble_eq_true rfl) rfl rfl (?_))
  refine th64_8L he h1 (fun y10 zy10 g11 hF12 => ?_) FU _ _ hF2
  · refine tr_pushI (tr_stI (Nat.le_of_ble_eq_true rfl) rfl rfl (tr_pushI (tr_stI (Nat.le_of_ble_eq_true rfl) rfl rfl (?_))))
    refine th64_33L he h1 (fun x25 y26 g27 hF28 => ?_) FU _ _ _ hF12
    · refine tr_ldA rfl (tr_dupA (tr_getI (mom_k hF28 h1) (tr_pushI (tr_bin (v := ((gI g27 a1 4) + (1 : Int32))) rfl (tr_putI hF28 (mom_k hF28 h1) (fun g29 _ hF30 => ?_))))))
      refine tr_ldI rfl (?_)
      exact tr_retI hF30
-- Mom_change
abbrev t23_44 : List hOp := oPushI (-3) :: oRetI :: []
abbrev t23_29 : List hOp := oLdA 0 :: oGetP 2 1 :: oLdI 2 :: oLdA 0 :: oGetP 2 1 :: oLdI 2 :: oALdI 13 :: oLdI 3 :: oInvS 163 2 :: oAStI :: oLdA 0 :: oGetP 2 1 :: oLdI 2 :: oALdI 13 :: oRetI :: t23_44
abbrev t23_17 : List hOp := oLdA 0 :: oGetP 2 3 :: oLdI 2 :: oALdI 13 :: oStI 4 :: oLdA 0 :: oGetP 2 3 :: oLdI 2 :: oLdI 3 :: oAStI :: oLdI 4 :: oRetI :: t23_29
abbrev t23_2 : List hOp := oLdA 0 :: oGetP 2 0 :: oLdI 2 :: oPushI 1 :: oAStI :: oLdA 0 :: oGetP 2 1 :: oLdI 2 :: oLdI 3 :: oAStI :: oLdA 0 :: oLdI 3 :: oInvV 19 2 1 :: oInvS 8 1 :: oRetI :: t23_17
abbrev t23_0 : List hOp := oLdI 1 :: oSw 0 [2, 17, 29] 44 :: t23_2
theorem e23_0 : (opsOf 23).drop 0 = t23_0 := rfl
theorem e23_2 : (opsOf 23).drop 2 = t23_2 := rfl
theorem e23_17 : (opsOf 23).drop 17 = t23_17 := rfl
theorem e23_29 : (opsOf 23).drop 29 = t23_29 := rfl
theorem e23_44 : (opsOf 23).drop 44 = t23_44 := rfl
def q_Mom_change (a0 : Nat) (v1 : Int32) (v2 : Int32) (v3 : Int32) (g : hG) : hO Int32 :=
  if v1 = (0 : Int32) then (gd v2 8 <| wr (sI g (a0 + 1) v2.toNatClampNeg (1 : Int32)) fun g1 => gd v2 8 <| wr (sI g1 (a0 + 2) v2.toNatClampNeg v3) fun g3 => bnd (q_Mom_lettersOn a0 v3 g3) fun r7 g5 => bnd (q_Ji_bitCount r7 g5) fun r10 g8 => some (r10, g8)) else if v1 = (1 : Int32) then (gd v2 25 <| gd v2 25 <| wr (sI g (a0 + 4) v2.toNatClampNeg v3) fun g11 => some ((gI g (a0 + 4) v2.toNatClampNeg), g11)) else if v1 = (2 : Int32) then (gd v2 8 <| bnd (q_MP_beside (gI g (a0 + 2) v2.toNatClampNeg) v3 g) fun r15 g13 => gd v2 8 <| wr (sI g13 (a0 + 2) v2.toNatClampNeg r15) fun g16 => gd v2 8 <| some ((gI g16 (a0 + 2) v2.toNatClampNeg), g16)) else (some ((-3 : Int32), g))
theorem tm23 {d : Nat} {a0 : Nat} {v1 : Int32} {v2 : Int32} {v3 : Int32} (hd : 1 ≤ d) (h0 : is_mom a0 = true) {g : hG} (hF : Frz g) : TM wI d 23 [.ref a0, .int v1, .int v2, .int v3] g (q_Mom_change a0 v1 v2 v3 g) := by
  obtain ⟨e, rfl⟩ : ∃ e, d = e + 1 := ⟨d - 1, by omega⟩
  have he := hd
  refine TM.ofE e23_0 (lv := [some (.ref a0), some (.int v1), some (.int v2), some (.int v3), none]) rfl ?_
  unfold q_Mom_change
  refine tr_ldI rfl (?_)
  refine tr_sw1E (c := (0 : Int32)) e23_2 rfl (fun _ => ?_) (fun _ => ?_)
  · refine tr_ldA rfl (tr_getP (b := (a0 + 1)) (mom_k hF h0) (mom_p0 hF h0) (tr_ldI rfl (tr_pushI (tr_astI hF (mom_ak1 hF h0) (mom_al1 hF h0) (fun _ g1 _ hF2 => tr_ldA rfl (?_))))))
    refine tr_getP (b := (a0 + 2)) (mom_k hF2 h0) (mom_p1 hF2 h0) (tr_ldI rfl (tr_ldI rfl (tr_astI hF2 (mom_ak2 hF2 h0) (mom_al2 hF2 h0) (fun _ g3 _ hF4 => tr_ldA rfl (tr_ldI rfl (?_))))))
    refine tr_invVI rfl rfl (mom_k hF4 h0) (Nat.le_of_ble_eq_true rfl) (by decide) (Nat.le_of_ble_eq_true rfl) (tm19 h0 hF4) (fun r7 g5 _ hF6 => ?_)
    refine tr_invSI rfl rfl (Nat.le_of_ble_eq_true rfl) (Nat.le_of_ble_eq_true rfl) (by decide) (Nat.le_of_ble_eq_true rfl) (tm8 hF6) (fun r10 g8 _ hF9 => ?_)
    exact tr_retI hF9
  refine tr_sw1E (c := (1 : Int32)) e23_17 rfl (fun _ => ?_) (fun _ => ?_)
  · refine tr_ldA rfl (tr_getP (b := (a0 + 4)) (mom_k hF h0) (mom_p3 hF h0) (tr_ldI rfl (tr_aldI (mom_ak4 hF h0) (mom_al4 hF h0) (fun _ => tr_stI (Nat.le_of_ble_eq_true rfl) rfl rfl (tr_ldA rfl (?_))))))
    refine tr_getP (b := (a0 + 4)) (mom_k hF h0) (mom_p3 hF h0) (tr_ldI rfl (tr_ldI rfl (tr_astI hF (mom_ak4 hF h0) (mom_al4 hF h0) (fun _ g11 _ hF12 => tr_ldI rfl (?_)))))
    exact tr_retI hF12
  refine tr_sw1E (c := (2 : Int32)) e23_29 rfl (fun _ => ?_) (fun _ => ?_)
  · refine tr_ldA rfl (tr_getP (b := (a0 + 2)) (mom_k hF h0) (mom_p1 hF h0) (tr_ldI rfl (tr_ldA rfl (tr_getP (b := (a0 + 2)) (mom_k hF h0) (mom_p1 hF h0) (tr_ldI rfl (?_))))))
    refine tr_aldI (mom_ak2 hF h0) (mom_al2 hF h0) (fun _ => tr_ldI rfl (?_))
    refine tr_invSI rfl rfl (Nat.le_of_ble_eq_true rfl) (Nat.le_of_ble_eq_true rfl) (by decide) (Nat.le_of_ble_eq_true rfl) (tm163 hF) (fun r15 g13 _ hF14 => ?_)
    refine tr_astI hF14 (mom_ak2 hF14 h0) (mom_al2 hF14 h0) (fun _ g16 _ hF17 => tr_ldA rfl (tr_getP (b := (a0 + 2)) (mom_k hF17 h0) (mom_p1 hF17 h0) (tr_ldI rfl (tr_aldI (mom_ak2 hF17 h0) (mom_al2 hF17 h0) (fun _ => ?_)))))
    exact tr_retI hF17
  refine tr_sw0E e23_44 ?_
  refine tr_pushI (?_)
  exact tr_retI hF
-- MP_attempt
abbrev t126_32 : List hOp := oRetI :: []
abbrev t126_26 : List hOp := oLdA 0 :: oGetP 11 1 :: oLdI 1 :: oLdI 2 :: oLdI 3 :: oInvV 23 2 3 :: t126_32
abbrev t126_11 : List hOp := oLdA 0 :: oGetP 11 4 :: oLdA 0 :: oGetP 11 1 :: oLdI 1 :: oInvV 31 4 2 :: oLdI 1 :: oPushI 3 :: oIf cNe 26 :: oLdA 0 :: oGetP 11 15 :: oLdA 0 :: oGetP 11 1 :: oInvV 64 6 1 :: oGoto 32 :: t126_26
abbrev t126_0 : List hOp := oLdA 0 :: oGetP 11 1 :: oLdI 1 :: oLdI 2 :: oLdI 3 :: oInvV 22 2 3 :: oStI 4 :: oLdI 4 :: oIf0 cEq 11 :: oLdI 4 :: oRetI :: t126_11
theorem e126_0 : (opsOf 126).drop 0 = t126_0 := rfl
theorem e126_11 : (opsOf 126).drop 11 = t126_11 := rfl
theorem e126_26 : (opsOf 126).drop 26 = t126_26 := rfl
theorem e126_32 : (opsOf 126).drop 32 = t126_32 := rfl
def q_MP_attempt (v1 : Int32) (v2 : Int32) (v3 : Int32) (g : hG) : hO Int32 :=
  bnd (q_Mom_refusalOf 2 v1 v2 v3 g) fun r3 g1 => if r3 = (0 : Int32) then (bnd (q_Past_keep v1 g1) fun _ g5 => if v1 = (3 : Int32) then (bnd (q_Slope_passHour 2 g5) fun r13 g11 => some (r13, g11)) else (bnd (q_Mom_change 2 v1 v2 v3 g5) fun r10 g8 => some (r10, g8))) else (some (r3, g1))
theorem tm126 {d : Nat} {v1 : Int32} {v2 : Int32} {v3 : Int32} (hd : 5 ≤ d) {g : hG} (hF : Frz g) : TM wI d 126 [.ref 0, .int v1, .int v2, .int v3] g (q_MP_attempt v1 v2 v3 g) := by
  obtain ⟨e, rfl⟩ : ∃ e, d = e + 1 := ⟨d - 1, by omega⟩
  have he := hd
  refine TM.ofE e126_0 (lv := [some (.ref 0), some (.int v1), some (.int v2), some (.int v3), none]) rfl ?_
  unfold q_MP_attempt
  refine tr_ldA rfl (tr_getP (b := 2) (fk_0 hF) (fp_0_1 hF) (tr_ldI rfl (tr_ldI rfl (tr_ldI rfl (?_)))))
  refine tr_invVI rfl rfl (fk_2 hF) (Nat.le_of_ble_eq_true rfl) (by decide) (Nat.le_of_ble_eq_true rfl) (tm22 (by omega) rfl hF) (fun r3 g1 _ hF2 => ?_)
  refine tr_stI (Nat.le_of_ble_eq_true rfl) rfl rfl (tr_ldI rfl (?_))
  refine tr_if0j e126_11 (c_eq _ _) (fun hc4 => ?_) (fun hc4 => ?_)
  · refine tr_ldA rfl (tr_getP (b := 54) (fk_0 hF2) (fp_0_4 hF2) (tr_ldA rfl (tr_getP (b := 2) (fk_0 hF2) (fp_0_1 hF2) (tr_ldI rfl (?_)))))
    refine tr_invVU rfl rfl (fk_54 hF2) (Nat.le_of_ble_eq_true rfl) (by decide) (Nat.le_of_ble_eq_true rfl) (tm31 (by omega) hF2) (fun _ g5 _ hF6 => ?_)
    refine tr_ldI rfl (tr_pushI (?_))
    refine tr_ifn e126_26 (c_ne _ _) (fun hc7 => ?_) (fun hc7 => ?_)
    · refine tr_ldA rfl (tr_getP (b := 2) (fk_0 hF6) (fp_0_1 hF6) (tr_ldI rfl (tr_ldI rfl (tr_ldI rfl (?_)))))
      refine tr_invVI rfl rfl (fk_2 hF6) (Nat.le_of_ble_eq_true rfl) (by decide) (Nat.le_of_ble_eq_true rfl) (tm23 (by omega) rfl hF6) (fun r10 g8 _ hF9 => ?_)
      exact tr_retI hF9
    · refine tr_ldA rfl (tr_getP (b := 250) (fk_0 hF6) (fp_0_15 hF6) (tr_ldA rfl (tr_getP (b := 2) (fk_0 hF6) (fp_0_1 hF6) (?_))))
      refine tr_invVI rfl rfl (fk_250 hF6) (Nat.le_of_ble_eq_true rfl) (by decide) (Nat.le_of_ble_eq_true rfl) (tm64 (by omega) rfl hF6) (fun r13 g11 _ hF12 => ?_)
      refine tr_gotoE e126_32 (?_)
      exact tr_retI hF12
  · refine tr_ldI rfl (?_)
    exact tr_retI hF2
