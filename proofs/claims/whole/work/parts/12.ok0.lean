theorem cf_X0 : hCF 0 RX0 TX0 1 tyX0 := ⟨by decide, rfl, inX0, tyX0_ok, nmX0, rfl, by decide +kernel⟩
theorem cf_X1 : hCF 1 RX1 TX1 10 tyX1 := ⟨by decide, rfl, inX1, tyX1_ok, nmX1, rfl, by decide +kernel⟩
theorem cf_X2 : hCF 2 RX2 TX2 5 tyX2 := ⟨by decide, rfl, inX2, tyX2_ok, nmX2, rfl, by decide +kernel⟩
theorem cf_X3 : hCF 3 RX3 TX3 5 tyX3 := ⟨by decide, rfl, inX3, tyX3_ok, nmX3, rfl, by decide +kernel⟩
theorem cf_X4 : hCF 4 RX4 TX4 4 tyX4 := ⟨by decide, rfl, inX4, tyX4_ok, nmX4, rfl, by decide +kernel⟩
theorem cf_X5 : hCF 5 RX5 TX5 5 tyX5 := ⟨by decide, rfl, inX5, tyX5_ok, nmX5, rfl, by decide +kernel⟩
theorem cf_X6 : hCF 6 RX6 TX6 10 tyX6 := ⟨by decide, rfl, inX6, tyX6_ok, nmX6, rfl, by decide +kernel⟩
theorem cf_X7 : hCF 7 RX7 TX7 6 tyX7 := ⟨by decide, rfl, inX7, tyX7_ok, nmX7, rfl, by decide +kernel⟩
theorem cf_X8 : hCF 8 RX8 TX8 5 tyX8 := ⟨by decide, rfl, inX8, tyX8_ok, nmX8, rfl, by decide +kernel⟩
theorem cf_X9 : hCF 9 RX9 TX9 8 tyX9 := ⟨by decide, rfl, inX9, tyX9_ok, nmX9, rfl, by decide +kernel⟩
theorem cf_X10 : hCF 10 RX10 TX10 1 tyX10 := ⟨by decide, rfl, inX10, tyX10_ok, nmX10, rfl, by decide +kernel⟩
theorem cf_X11 : hCF 11 RX11 TX11 20 tyX11 := ⟨by decide, rfl, inX11, tyX11_ok, nmX11, rfl, by decide +kernel⟩
theorem cf_X12 : hCF 12 RX12 TX12 58 tyX12 := ⟨by decide, rfl, inX12, tyX12_ok, nmX12, rfl, by decide +kernel⟩
theorem dJ0_length_8abf5_0 : decode cJ0_length_8abf5 0 = .ok (.aload_n 0, 1) := by decide +kernel
theorem dJ0_length_8abf5_1 : decode cJ0_length_8abf5 1 = .ok (.getfield 9, 3) := by decide +kernel
theorem dJ0_length_8abf5_4 : decode cJ0_length_8abf5 4 = .ok (.arraylength, 1) := by decide +kernel
theorem dJ0_length_8abf5_5 : decode cJ0_length_8abf5 5 = .ok (.aload_n 0, 1) := by decide +kernel
theorem dJ0_length_8abf5_6 : decode cJ0_length_8abf5 6 = .ok (.invokevirtual 335, 3) := by decide +kernel
theorem dJ0_length_8abf5_9 : decode cJ0_length_8abf5 9 = .ok (.ishr, 1) := by decide +kernel
theorem dJ0_length_8abf5_10 : decode cJ0_length_8abf5 10 = .ok (.ireturn, 1) := by decide +kernel
set_option maxRecDepth 100000 in
theorem okm_J0_length_8abf5 : okL RJ0 cJ0_length_8abf5 1 (some .int) "length" pcJ0_length_8abf5 opJ0_length_8abf5 pcJ0_length_8abf5 := by
  unfold opJ0_length_8abf5
  refine okL_cons (ok_aload_n rfl dJ0_length_8abf5_0) rfl ?_
  refine okL_cons (ok_tval kw_0 dJ0_length_8abf5_1) rfl ?_
  refine okL_cons (ok_tlen dJ0_length_8abf5_4) rfl ?_
  refine okL_cons (ok_aload_n rfl dJ0_length_8abf5_5) rfl ?_
  refine okL_cons (ok_invT (M' := 2) kw_1 kw_2 kw_3 kw_4 kw_5 rfl (by decide +kernel) dJ0_length_8abf5_6) rfl ?_
  refine okL_cons (ok_ishr dJ0_length_8abf5_9) rfl ?_
  exact okL_one (ok_ireturn rfl dJ0_length_8abf5_10)
theorem dJ0_charAt_5068e_0 : decode cJ0_charAt_5068e 0 = .ok (.aload_n 0, 1) := by decide +kernel
theorem dJ0_charAt_5068e_1 : decode cJ0_charAt_5068e 1 = .ok (.invokevirtual 492, 3) := by decide +kernel
theorem dJ0_charAt_5068e_4 : decode cJ0_charAt_5068e 4 = .ok (.ifCond .eq 12, 3) := by decide +kernel
theorem dJ0_charAt_5068e_7 : decode cJ0_charAt_5068e 7 = .ok (.aload_n 0, 1) := by decide +kernel
theorem dJ0_charAt_5068e_8 : decode cJ0_charAt_5068e 8 = .ok (.getfield 9, 3) := by decide +kernel
theorem dJ0_charAt_5068e_11 : decode cJ0_charAt_5068e 11 = .ok (.iload_n 1, 1) := by decide +kernel
theorem dJ0_charAt_5068e_12 : decode cJ0_charAt_5068e 12 = .ok (.invokestatic 495, 3) := by decide +kernel
theorem dJ0_charAt_5068e_15 : decode cJ0_charAt_5068e 15 = .ok (.ireturn, 1) := by decide +kernel
theorem dJ0_charAt_5068e_16 : decode cJ0_charAt_5068e 16 = .ok (.aload_n 0, 1) := by decide +kernel
theorem dJ0_charAt_5068e_17 : decode cJ0_charAt_5068e 17 = .ok (.getfield 9, 3) := by decide +kernel
theorem dJ0_charAt_5068e_20 : decode cJ0_charAt_5068e 20 = .ok (.iload_n 1, 1) := by decide +kernel
theorem dJ0_charAt_5068e_21 : decode cJ0_charAt_5068e 21 = .ok (.invokestatic 498, 3) := by decide +kernel
theorem dJ0_charAt_5068e_24 : decode cJ0_charAt_5068e 24 = .ok (.ireturn, 1) := by decide +kernel
set_option maxRecDepth 100000 in
theorem okm_J0_charAt_5068e : okL RJ0 cJ0_charAt_5068e 2 (some .char) "charAt" pcJ0_charAt_5068e opJ0_charAt_5068e pcJ0_charAt_5068e := by
  unfold opJ0_charAt_5068e
  refine okL_cons (ok_aload_n rfl dJ0_charAt_5068e_0) rfl ?_
  refine okL_cons (ok_invT (M' := 3) kw_6 kw_7 kw_8 kw_4 kw_9 rfl (by decide +kernel) dJ0_charAt_5068e_1) rfl ?_
  refine okL_cons (ok_if_eq rfl dJ0_charAt_5068e_4) rfl ?_
  refine okL_cons (ok_aload_n rfl dJ0_charAt_5068e_7) rfl ?_
  refine okL_cons (ok_tval kw_0 dJ0_charAt_5068e_8) rfl ?_
  refine okL_cons (ok_iload_n rfl dJ0_charAt_5068e_11) rfl ?_
  refine okL_cons (ok_invS (M' := 5) kw_10 kw_11 kw_12 kw_13 rfl (by decide +kernel) dJ0_charAt_5068e_12) rfl ?_
  refine okL_cons (ok_breturn (by decide) dJ0_charAt_5068e_15) rfl ?_
  refine okL_cons (ok_aload_n rfl dJ0_charAt_5068e_16) rfl ?_
  refine okL_cons (ok_tval kw_0 dJ0_charAt_5068e_17) rfl ?_
  refine okL_cons (ok_iload_n rfl dJ0_charAt_5068e_20) rfl ?_
  refine okL_cons (ok_fail (len := 3) dJ0_charAt_5068e_21) rfl ?_
  exact okL_one (ok_breturn (by decide) dJ0_charAt_5068e_24)
theorem dJ0_coder_7d493_0 : decode cJ0_coder_7d493 0 = .ok (.getstatic 38, 3) := by decide +kernel
theorem dJ0_coder_7d493_3 : decode cJ0_coder_7d493 3 = .ok (.ifCond .eq 10, 3) := by decide +kernel
theorem dJ0_coder_7d493_6 : decode cJ0_coder_7d493 6 = .ok (.aload_n 0, 1) := by decide +kernel
theorem dJ0_coder_7d493_7 : decode cJ0_coder_7d493 7 = .ok (.getfield 15, 3) := by decide +kernel
theorem dJ0_coder_7d493_10 : decode cJ0_coder_7d493 10 = .ok (.goto 4, 3) := by decide +kernel
theorem dJ0_coder_7d493_13 : decode cJ0_coder_7d493 13 = .ok (.iconst 1, 1) := by decide +kernel
theorem dJ0_coder_7d493_14 : decode cJ0_coder_7d493 14 = .ok (.ireturn, 1) := by decide +kernel
set_option maxRecDepth 100000 in
theorem okm_J0_coder_7d493 : okL RJ0 cJ0_coder_7d493 1 (some .byte) "coder" pcJ0_coder_7d493 opJ0_coder_7d493 pcJ0_coder_7d493 := by
  unfold opJ0_coder_7d493
  refine okL_cons (ok_compact kw_14 dJ0_coder_7d493_0) rfl ?_
  refine okL_cons (ok_if_eq rfl dJ0_coder_7d493_3) rfl ?_
  refine okL_cons (ok_aload_n rfl dJ0_coder_7d493_6) rfl ?_
  refine okL_cons (ok_tcoder kw_15 dJ0_coder_7d493_7) rfl ?_
  refine okL_cons (ok_goto rfl dJ0_coder_7d493_10) rfl ?_
  refine okL_cons (ok_iconst rfl dJ0_coder_7d493_13) rfl ?_
  exact okL_one (ok_breturn (by decide) dJ0_coder_7d493_14)
theorem dJ0_isLatin1_aae02_0 : decode cJ0_isLatin1_aae02 0 = .ok (.getstatic 38, 3) := by decide +kernel
theorem dJ0_isLatin1_aae02_3 : decode cJ0_isLatin1_aae02 3 = .ok (.ifCond .eq 14, 3) := by decide +kernel
theorem dJ0_isLatin1_aae02_6 : decode cJ0_isLatin1_aae02 6 = .ok (.aload_n 0, 1) := by decide +kernel
theorem dJ0_isLatin1_aae02_7 : decode cJ0_isLatin1_aae02 7 = .ok (.getfield 15, 3) := by decide +kernel
theorem dJ0_isLatin1_aae02_10 : decode cJ0_isLatin1_aae02 10 = .ok (.ifCond .ne 7, 3) := by decide +kernel
theorem dJ0_isLatin1_aae02_13 : decode cJ0_isLatin1_aae02 13 = .ok (.iconst 1, 1) := by decide +kernel
theorem dJ0_isLatin1_aae02_14 : decode cJ0_isLatin1_aae02 14 = .ok (.goto 4, 3) := by decide +kernel
theorem dJ0_isLatin1_aae02_17 : decode cJ0_isLatin1_aae02 17 = .ok (.iconst 0, 1) := by decide +kernel
theorem dJ0_isLatin1_aae02_18 : decode cJ0_isLatin1_aae02 18 = .ok (.ireturn, 1) := by decide +kernel
set_option maxRecDepth 100000 in
theorem okm_J0_isLatin1_aae02 : okL RJ0 cJ0_isLatin1_aae02 1 (some .boolean) "isLatin1" pcJ0_isLatin1_aae02 opJ0_isLatin1_aae02 pcJ0_isLatin1_aae02 := by
  unfold opJ0_isLatin1_aae02
  refine okL_cons (ok_compact kw_14 dJ0_isLatin1_aae02_0) rfl ?_
  refine okL_cons (ok_if_eq rfl dJ0_isLatin1_aae02_3) rfl ?_
  refine okL_cons (ok_aload_n rfl dJ0_isLatin1_aae02_6) rfl ?_
  refine okL_cons (ok_tcoder kw_15 dJ0_isLatin1_aae02_7) rfl ?_
  refine okL_cons (ok_if_ne rfl dJ0_isLatin1_aae02_10) rfl ?_
  refine okL_cons (ok_iconst rfl dJ0_isLatin1_aae02_13) rfl ?_
  refine okL_cons (ok_goto rfl dJ0_isLatin1_aae02_14) rfl ?_
  refine okL_cons (ok_iconst rfl dJ0_isLatin1_aae02_17) rfl ?_
  exact okL_one (ok_zreturn rfl dJ0_isLatin1_aae02_18)
theorem dJ0_checkIndex_df160_0 : decode cJ0_checkIndex_df160 0 = .ok (.iload_n 0, 1) := by decide +kernel
theorem dJ0_checkIndex_df160_1 : decode cJ0_checkIndex_df160 1 = .ok (.iload_n 1, 1) := by decide +kernel
theorem dJ0_checkIndex_df160_2 : decode cJ0_checkIndex_df160 2 = .ok (.getstatic 1053, 3) := by decide +kernel
theorem dJ0_checkIndex_df160_5 : decode cJ0_checkIndex_df160 5 = .ok (.invokestatic 1059, 3) := by decide +kernel
theorem dJ0_checkIndex_df160_8 : decode cJ0_checkIndex_df160 8 = .ok (.pop, 1) := by decide +kernel
theorem dJ0_checkIndex_df160_9 : decode cJ0_checkIndex_df160 9 = .ok (.return_, 1) := by decide +kernel
set_option maxRecDepth 100000 in
theorem okm_J0_checkIndex_df160 : okL RJ0 cJ0_checkIndex_df160 2 none "checkIndex" pcJ0_checkIndex_df160 opJ0_checkIndex_df160 pcJ0_checkIndex_df160 := by
  unfold opJ0_checkIndex_df160
  refine okL_cons (ok_iload_n rfl dJ0_checkIndex_df160_0) rfl ?_
  refine okL_cons (ok_iload_n rfl dJ0_checkIndex_df160_1) rfl ?_
  refine okL_cons (ok_sioobe kw_16 dJ0_checkIndex_df160_2) rfl ?_
  refine okL_cons (ok_invS (M' := 6) kw_17 kw_18 kw_19 kw_20 rfl (by decide +kernel) dJ0_checkIndex_df160_5) rfl ?_
  refine okL_cons (ok_pop dJ0_checkIndex_df160_8) rfl ?_
  exact okL_one (ok_return rfl dJ0_checkIndex_df160_9)
theorem dJ1_charAt_3b067_0 : decode cJ1_charAt_3b067 0 = .ok (.iload_n 1, 1) := by decide +kernel
theorem dJ1_charAt_3b067_1 : decode cJ1_charAt_3b067 1 = .ok (.aload_n 0, 1) := by decide +kernel
theorem dJ1_charAt_3b067_2 : decode cJ1_charAt_3b067 2 = .ok (.arraylength, 1) := by decide +kernel
theorem dJ1_charAt_3b067_3 : decode cJ1_charAt_3b067 3 = .ok (.invokestatic 9, 3) := by decide +kernel
theorem dJ1_charAt_3b067_6 : decode cJ1_charAt_3b067 6 = .ok (.aload_n 0, 1) := by decide +kernel
theorem dJ1_charAt_3b067_7 : decode cJ1_charAt_3b067 7 = .ok (.iload_n 1, 1) := by decide +kernel
theorem dJ1_charAt_3b067_8 : decode cJ1_charAt_3b067 8 = .ok (.baload, 1) := by decide +kernel
theorem dJ1_charAt_3b067_9 : decode cJ1_charAt_3b067 9 = .ok (.sipush 255, 3) := by decide +kernel
theorem dJ1_charAt_3b067_12 : decode cJ1_charAt_3b067 12 = .ok (.iand, 1) := by decide +kernel
theorem dJ1_charAt_3b067_13 : decode cJ1_charAt_3b067 13 = .ok (.i2c, 1) := by decide +kernel
theorem dJ1_charAt_3b067_14 : decode cJ1_charAt_3b067 14 = .ok (.ireturn, 1) := by decide +kernel
set_option maxRecDepth 100000 in
theorem okm_J1_charAt_3b067 : okL RJ1 cJ1_charAt_3b067 2 (some .char) "charAt" pcJ1_charAt_3b067 opJ1_charAt_3b067 pcJ1_charAt_3b067 := by
  unfold opJ1_charAt_3b067
  refine okL_cons (ok_iload_n rfl dJ1_charAt_3b067_0) rfl ?_
  refine okL_cons (ok_aload_n rfl dJ1_charAt_3b067_1) rfl ?_
  refine okL_cons (ok_tlen dJ1_charAt_3b067_2) rfl ?_
  refine okL_cons (ok_invS (M' := 4) kw_21 kw_22 kw_4 kw_23 rfl (by decide +kernel) dJ1_charAt_3b067_3) rfl ?_
  refine okL_cons (ok_aload_n rfl dJ1_charAt_3b067_6) rfl ?_
  refine okL_cons (ok_iload_n rfl dJ1_charAt_3b067_7) rfl ?_
  refine okL_cons (ok_tld dJ1_charAt_3b067_8) rfl ?_
  refine okL_cons (ok_sipush rfl dJ1_charAt_3b067_9) rfl ?_
  refine okL_cons (ok_iand dJ1_charAt_3b067_12) rfl ?_
  refine okL_cons (ok_i2c dJ1_charAt_3b067_13) rfl ?_
  exact okL_one (ok_breturn (by decide) dJ1_charAt_3b067_14)
theorem dJ3_checkIndex_8e157_0 : decode cJ3_checkIndex_8e157 0 = .ok (.iload_n 0, 1) := by decide +kernel
theorem dJ3_checkIndex_8e157_1 : decode cJ3_checkIndex_8e157 1 = .ok (.ifCond .lt 8, 3) := by decide +kernel
theorem dJ3_checkIndex_8e157_4 : decode cJ3_checkIndex_8e157 4 = .ok (.iload_n 0, 1) := by decide +kernel
theorem dJ3_checkIndex_8e157_5 : decode cJ3_checkIndex_8e157 5 = .ok (.iload_n 1, 1) := by decide +kernel
theorem dJ3_checkIndex_8e157_6 : decode cJ3_checkIndex_8e157 6 = .ok (.if_icmp .lt 10, 3) := by decide +kernel
theorem dJ3_checkIndex_8e157_9 : decode cJ3_checkIndex_8e157 9 = .ok (.aload_n 2, 1) := by decide +kernel
theorem dJ3_checkIndex_8e157_10 : decode cJ3_checkIndex_8e157 10 = .ok (.iload_n 0, 1) := by decide +kernel
theorem dJ3_checkIndex_8e157_11 : decode cJ3_checkIndex_8e157 11 = .ok (.iload_n 1, 1) := by decide +kernel
theorem dJ3_checkIndex_8e157_12 : decode cJ3_checkIndex_8e157 12 = .ok (.invokestatic 95, 3) := by decide +kernel
theorem dJ3_checkIndex_8e157_15 : decode cJ3_checkIndex_8e157 15 = .ok (.athrow, 1) := by decide +kernel
theorem dJ3_checkIndex_8e157_16 : decode cJ3_checkIndex_8e157 16 = .ok (.iload_n 0, 1) := by decide +kernel
theorem dJ3_checkIndex_8e157_17 : decode cJ3_checkIndex_8e157 17 = .ok (.ireturn, 1) := by decide +kernel
set_option maxRecDepth 100000 in
theorem okm_J3_checkIndex_8e157 : okL RJ3 cJ3_checkIndex_8e157 3 (some .int) "checkIndex" pcJ3_checkIndex_8e157 opJ3_checkIndex_8e157 pcJ3_checkIndex_8e157 := by
  unfold opJ3_checkIndex_8e157
  refine okL_cons (ok_iload_n rfl dJ3_checkIndex_8e157_0) rfl ?_
  refine okL_cons (ok_if_lt rfl dJ3_checkIndex_8e157_1) rfl ?_
  refine okL_cons (ok_iload_n rfl dJ3_checkIndex_8e157_4) rfl ?_
  refine okL_cons (ok_iload_n rfl dJ3_checkIndex_8e157_5) rfl ?_
  refine okL_cons (ok_icmp_lt rfl dJ3_checkIndex_8e157_6) rfl ?_
  refine okL_cons (ok_aload_n rfl dJ3_checkIndex_8e157_9) rfl ?_
  refine okL_cons (ok_iload_n rfl dJ3_checkIndex_8e157_10) rfl ?_
  refine okL_cons (ok_iload_n rfl dJ3_checkIndex_8e157_11) rfl ?_
  refine okL_cons (ok_fail (len := 3) dJ3_checkIndex_8e157_12) rfl ?_
  refine okL_cons (ok_fail (len := 1) dJ3_checkIndex_8e157_15) rfl ?_
  refine okL_cons (ok_iload_n rfl dJ3_checkIndex_8e157_16) rfl ?_
  exact okL_one (ok_ireturn rfl dJ3_checkIndex_8e157_17)
theorem dJ6_numberOfTrailingZeros_0f7a4_0 : decode cJ6_numberOfTrailingZeros_0f7a4 0 = .ok (.iload_n 0, 1) := by decide +kernel
theorem dJ6_numberOfTrailingZeros_0f7a4_1 : decode cJ6_numberOfTrailingZeros_0f7a4 1 = .ok (.iconst (-1), 1) := by decide +kernel
theorem dJ6_numberOfTrailingZeros_0f7a4_2 : decode cJ6_numberOfTrailingZeros_0f7a4 2 = .ok (.ixor, 1) := by decide +kernel
theorem dJ6_numberOfTrailingZeros_0f7a4_3 : decode cJ6_numberOfTrailingZeros_0f7a4 3 = .ok (.iload_n 0, 1) := by decide +kernel
theorem dJ6_numberOfTrailingZeros_0f7a4_4 : decode cJ6_numberOfTrailingZeros_0f7a4 4 = .ok (.iconst 1, 1) := by decide +kernel
theorem dJ6_numberOfTrailingZeros_0f7a4_5 : decode cJ6_numberOfTrailingZeros_0f7a4 5 = .ok (.isub, 1) := by decide +kernel
theorem dJ6_numberOfTrailingZeros_0f7a4_6 : decode cJ6_numberOfTrailingZeros_0f7a4 6 = .ok (.iand, 1) := by decide +kernel
theorem dJ6_numberOfTrailingZeros_0f7a4_7 : decode cJ6_numberOfTrailingZeros_0f7a4 7 = .ok (.istore_n 0, 1) := by decide +kernel
theorem dJ6_numberOfTrailingZeros_0f7a4_8 : decode cJ6_numberOfTrailingZeros_0f7a4 8 = .ok (.iload_n 0, 1) := by decide +kernel
theorem dJ6_numberOfTrailingZeros_0f7a4_9 : decode cJ6_numberOfTrailingZeros_0f7a4 9 = .ok (.ifCond .gt 8, 3) := by decide +kernel
theorem dJ6_numberOfTrailingZeros_0f7a4_12 : decode cJ6_numberOfTrailingZeros_0f7a4 12 = .ok (.iload_n 0, 1) := by decide +kernel
theorem dJ6_numberOfTrailingZeros_0f7a4_13 : decode cJ6_numberOfTrailingZeros_0f7a4 13 = .ok (.bipush 32, 2) := by decide +kernel
theorem dJ6_numberOfTrailingZeros_0f7a4_15 : decode cJ6_numberOfTrailingZeros_0f7a4 15 = .ok (.iand, 1) := by decide +kernel
theorem dJ6_numberOfTrailingZeros_0f7a4_16 : decode cJ6_numberOfTrailingZeros_0f7a4 16 = .ok (.ireturn, 1) := by decide +kernel
theorem dJ6_numberOfTrailingZeros_0f7a4_17 : decode cJ6_numberOfTrailingZeros_0f7a4 17 = .ok (.iconst 1, 1) := by decide +kernel
theorem dJ6_numberOfTrailingZeros_0f7a4_18 : decode cJ6_numberOfTrailingZeros_0f7a4 18 = .ok (.istore_n 1, 1) := by decide +kernel
theorem dJ6_numberOfTrailingZeros_0f7a4_19 : decode cJ6_numberOfTrailingZeros_0f7a4 19 = .ok (.iload_n 0, 1) := by decide +kernel
theorem dJ6_numberOfTrailingZeros_0f7a4_20 : decode cJ6_numberOfTrailingZeros_0f7a4 20 = .ok (.ldc_w 264, 3) := by decide +kernel
theorem dJ6_numberOfTrailingZeros_0f7a4_23 : decode cJ6_numberOfTrailingZeros_0f7a4 23 = .ok (.if_icmp .le 11, 3) := by decide +kernel
theorem dJ6_numberOfTrailingZeros_0f7a4_26 : decode cJ6_numberOfTrailingZeros_0f7a4 26 = .ok (.iinc 1 16, 3) := by decide +kernel
theorem dJ6_numberOfTrailingZeros_0f7a4_29 : decode cJ6_numberOfTrailingZeros_0f7a4 29 = .ok (.iload_n 0, 1) := by decide +kernel
theorem dJ6_numberOfTrailingZeros_0f7a4_30 : decode cJ6_numberOfTrailingZeros_0f7a4 30 = .ok (.bipush 16, 2) := by decide +kernel
theorem dJ6_numberOfTrailingZeros_0f7a4_32 : decode cJ6_numberOfTrailingZeros_0f7a4 32 = .ok (.iushr, 1) := by decide +kernel
theorem dJ6_numberOfTrailingZeros_0f7a4_33 : decode cJ6_numberOfTrailingZeros_0f7a4 33 = .ok (.istore_n 0, 1) := by decide +kernel
theorem dJ6_numberOfTrailingZeros_0f7a4_34 : decode cJ6_numberOfTrailingZeros_0f7a4 34 = .ok (.iload_n 0, 1) := by decide +kernel
theorem dJ6_numberOfTrailingZeros_0f7a4_35 : decode cJ6_numberOfTrailingZeros_0f7a4 35 = .ok (.sipush 256, 3) := by decide +kernel
theorem dJ6_numberOfTrailingZeros_0f7a4_38 : decode cJ6_numberOfTrailingZeros_0f7a4 38 = .ok (.if_icmp .le 11, 3) := by decide +kernel
theorem dJ6_numberOfTrailingZeros_0f7a4_41 : decode cJ6_numberOfTrailingZeros_0f7a4 41 = .ok (.iinc 1 8, 3) := by decide +kernel
theorem dJ6_numberOfTrailingZeros_0f7a4_44 : decode cJ6_numberOfTrailingZeros_0f7a4 44 = .ok (.iload_n 0, 1) := by decide +kernel
theorem dJ6_numberOfTrailingZeros_0f7a4_45 : decode cJ6_numberOfTrailingZeros_0f7a4 45 = .ok (.bipush 8, 2) := by decide +kernel
theorem dJ6_numberOfTrailingZeros_0f7a4_47 : decode cJ6_numberOfTrailingZeros_0f7a4 47 = .ok (.iushr, 1) := by decide +kernel
theorem dJ6_numberOfTrailingZeros_0f7a4_48 : decode cJ6_numberOfTrailingZeros_0f7a4 48 = .ok (.istore_n 0, 1) := by decide +kernel
theorem dJ6_numberOfTrailingZeros_0f7a4_49 : decode cJ6_numberOfTrailingZeros_0f7a4 49 = .ok (.iload_n 0, 1) := by decide +kernel
theorem dJ6_numberOfTrailingZeros_0f7a4_50 : decode cJ6_numberOfTrailingZeros_0f7a4 50 = .ok (.bipush 16, 2) := by decide +kernel
theorem dJ6_numberOfTrailingZeros_0f7a4_52 : decode cJ6_numberOfTrailingZeros_0f7a4 52 = .ok (.if_icmp .le 10, 3) := by decide +kernel
theorem dJ6_numberOfTrailingZeros_0f7a4_55 : decode cJ6_numberOfTrailingZeros_0f7a4 55 = .ok (.iinc 1 4, 3) := by decide +kernel
theorem dJ6_numberOfTrailingZeros_0f7a4_58 : decode cJ6_numberOfTrailingZeros_0f7a4 58 = .ok (.iload_n 0, 1) := by decide +kernel
theorem dJ6_numberOfTrailingZeros_0f7a4_59 : decode cJ6_numberOfTrailingZeros_0f7a4 59 = .ok (.iconst 4, 1) := by decide +kernel
theorem dJ6_numberOfTrailingZeros_0f7a4_60 : decode cJ6_numberOfTrailingZeros_0f7a4 60 = .ok (.iushr, 1) := by decide +kernel
theorem dJ6_numberOfTrailingZeros_0f7a4_61 : decode cJ6_numberOfTrailingZeros_0f7a4 61 = .ok (.istore_n 0, 1) := by decide +kernel
theorem dJ6_numberOfTrailingZeros_0f7a4_62 : decode cJ6_numberOfTrailingZeros_0f7a4 62 = .ok (.iload_n 0, 1) := by decide +kernel
theorem dJ6_numberOfTrailingZeros_0f7a4_63 : decode cJ6_numberOfTrailingZeros_0f7a4 63 = .ok (.iconst 4, 1) := by decide +kernel
theorem dJ6_numberOfTrailingZeros_0f7a4_64 : decode cJ6_numberOfTrailingZeros_0f7a4 64 = .ok (.if_icmp .le 10, 3) := by decide +kernel
theorem dJ6_numberOfTrailingZeros_0f7a4_67 : decode cJ6_numberOfTrailingZeros_0f7a4 67 = .ok (.iinc 1 2, 3) := by decide +kernel
theorem dJ6_numberOfTrailingZeros_0f7a4_70 : decode cJ6_numberOfTrailingZeros_0f7a4 70 = .ok (.iload_n 0, 1) := by decide +kernel
theorem dJ6_numberOfTrailingZeros_0f7a4_71 : decode cJ6_numberOfTrailingZeros_0f7a4 71 = .ok (.iconst 2, 1) := by decide +kernel
theorem dJ6_numberOfTrailingZeros_0f7a4_72 : decode cJ6_numberOfTrailingZeros_0f7a4 72 = .ok (.iushr, 1) := by decide +kernel
theorem dJ6_numberOfTrailingZeros_0f7a4_73 : decode cJ6_numberOfTrailingZeros_0f7a4 73 = .ok (.istore_n 0, 1) := by decide +kernel
theorem dJ6_numberOfTrailingZeros_0f7a4_74 : decode cJ6_numberOfTrailingZeros_0f7a4 74 = .ok (.iload_n 1, 1) := by decide +kernel
theorem dJ6_numberOfTrailingZeros_0f7a4_75 : decode cJ6_numberOfTrailingZeros_0f7a4 75 = .ok (.iload_n 0, 1) := by decide +kernel
theorem dJ6_numberOfTrailingZeros_0f7a4_76 : decode cJ6_numberOfTrailingZeros_0f7a4 76 = .ok (.iconst 1, 1) := by decide +kernel
theorem dJ6_numberOfTrailingZeros_0f7a4_77 : decode cJ6_numberOfTrailingZeros_0f7a4 77 = .ok (.iushr, 1) := by decide +kernel
theorem dJ6_numberOfTrailingZeros_0f7a4_78 : decode cJ6_numberOfTrailingZeros_0f7a4 78 = .ok (.iadd, 1) := by decide +kernel
theorem dJ6_numberOfTrailingZeros_0f7a4_79 : decode cJ6_numberOfTrailingZeros_0f7a4 79 = .ok (.ireturn, 1) := by decide +kernel
set_option maxRecDepth 100000 in
theorem okm_J6_numberOfTrailingZeros_0f7a4 : okL RJ6 cJ6_numberOfTrailingZeros_0f7a4 2 (some .int) "numberOfTrailingZeros" pcJ6_numberOfTrailingZeros_0f7a4 opJ6_numberOfTrailingZeros_0f7a4 pcJ6_numberOfTrailingZeros_0f7a4 := by
  unfold opJ6_numberOfTrailingZeros_0f7a4
  refine okL_cons (ok_iload_n rfl dJ6_numberOfTrailingZeros_0f7a4_0) rfl ?_
  refine okL_cons (ok_iconst rfl dJ6_numberOfTrailingZeros_0f7a4_1) rfl ?_
  refine okL_cons (ok_ixor dJ6_numberOfTrailingZeros_0f7a4_2) rfl ?_
  refine okL_cons (ok_iload_n rfl dJ6_numberOfTrailingZeros_0f7a4_3) rfl ?_
  refine okL_cons (ok_iconst rfl dJ6_numberOfTrailingZeros_0f7a4_4) rfl ?_
  refine okL_cons (ok_isub dJ6_numberOfTrailingZeros_0f7a4_5) rfl ?_
  refine okL_cons (ok_iand dJ6_numberOfTrailingZeros_0f7a4_6) rfl ?_
  refine okL_cons (ok_istore_n rfl dJ6_numberOfTrailingZeros_0f7a4_7) rfl ?_
  refine okL_cons (ok_iload_n rfl dJ6_numberOfTrailingZeros_0f7a4_8) rfl ?_
  refine okL_cons (ok_if_gt rfl dJ6_numberOfTrailingZeros_0f7a4_9) rfl ?_
  refine okL_cons (ok_iload_n rfl dJ6_numberOfTrailingZeros_0f7a4_12) rfl ?_
  refine okL_cons (ok_bipush rfl dJ6_numberOfTrailingZeros_0f7a4_13) rfl ?_
  refine okL_cons (ok_iand dJ6_numberOfTrailingZeros_0f7a4_15) rfl ?_
  refine okL_cons (ok_ireturn rfl dJ6_numberOfTrailingZeros_0f7a4_16) rfl ?_
  refine okL_cons (ok_iconst rfl dJ6_numberOfTrailingZeros_0f7a4_17) rfl ?_
  refine okL_cons (ok_istore_n rfl dJ6_numberOfTrailingZeros_0f7a4_18) rfl ?_
  refine okL_cons (ok_iload_n rfl dJ6_numberOfTrailingZeros_0f7a4_19) rfl ?_
  refine okL_cons (ok_ldc_w kw_24 dJ6_numberOfTrailingZeros_0f7a4_20) rfl ?_
  refine okL_cons (ok_icmp_le rfl dJ6_numberOfTrailingZeros_0f7a4_23) rfl ?_
  refine okL_cons (ok_iinc rfl dJ6_numberOfTrailingZeros_0f7a4_26) rfl ?_
  refine okL_cons (ok_iload_n rfl dJ6_numberOfTrailingZeros_0f7a4_29) rfl ?_
  refine okL_cons (ok_bipush rfl dJ6_numberOfTrailingZeros_0f7a4_30) rfl ?_
  refine okL_cons (ok_iushr dJ6_numberOfTrailingZeros_0f7a4_32) rfl ?_
  refine okL_cons (ok_istore_n rfl dJ6_numberOfTrailingZeros_0f7a4_33) rfl ?_
  refine okL_cons (ok_iload_n rfl dJ6_numberOfTrailingZeros_0f7a4_34) rfl ?_
  refine okL_cons (ok_sipush rfl dJ6_numberOfTrailingZeros_0f7a4_35) rfl ?_
  refine okL_cons (ok_icmp_le rfl dJ6_numberOfTrailingZeros_0f7a4_38) rfl ?_
  refine okL_cons (ok_iinc rfl dJ6_numberOfTrailingZeros_0f7a4_41) rfl ?_
  refine okL_cons (ok_iload_n rfl dJ6_numberOfTrailingZeros_0f7a4_44) rfl ?_
  refine okL_cons (ok_bipush rfl dJ6_numberOfTrailingZeros_0f7a4_45) rfl ?_
  refine okL_cons (ok_iushr dJ6_numberOfTrailingZeros_0f7a4_47) rfl ?_
  refine okL_cons (ok_istore_n rfl dJ6_numberOfTrailingZeros_0f7a4_48) rfl ?_
  refine okL_cons (ok_iload_n rfl dJ6_numberOfTrailingZeros_0f7a4_49) rfl ?_
  refine okL_cons (ok_bipush rfl dJ6_numberOfTrailingZeros_0f7a4_50) rfl ?_
  refine okL_cons (ok_icmp_le rfl dJ6_numberOfTrailingZeros_0f7a4_52) rfl ?_
  refine okL_cons (ok_iinc rfl dJ6_numberOfTrailingZeros_0f7a4_55) rfl ?_
  refine okL_cons (ok_iload_n rfl dJ6_numberOfTrailingZeros_0f7a4_58) rfl ?_
  refine okL_cons (ok_iconst rfl dJ6_numberOfTrailingZeros_0f7a4_59) rfl ?_
  refine okL_cons (ok_iushr dJ6_numberOfTrailingZeros_0f7a4_60) rfl ?_
  refine okL_cons (ok_istore_n rfl dJ6_numberOfTrailingZeros_0f7a4_61) rfl ?_
  refine okL_cons (ok_iload_n rfl dJ6_numberOfTrailingZeros_0f7a4_62) rfl ?_
  refine okL_cons (ok_iconst rfl dJ6_numberOfTrailingZeros_0f7a4_63) rfl ?_
  refine okL_cons (ok_icmp_le rfl dJ6_numberOfTrailingZeros_0f7a4_64) rfl ?_
  refine okL_cons (ok_iinc rfl dJ6_numberOfTrailingZeros_0f7a4_67) rfl ?_
  refine okL_cons (ok_iload_n rfl dJ6_numberOfTrailingZeros_0f7a4_70) rfl ?_
  refine okL_cons (ok_iconst rfl dJ6_numberOfTrailingZeros_0f7a4_71) rfl ?_
  refine okL_cons (ok_iushr dJ6_numberOfTrailingZeros_0f7a4_72) rfl ?_
  refine okL_cons (ok_istore_n rfl dJ6_numberOfTrailingZeros_0f7a4_73) rfl ?_
  refine okL_cons (ok_iload_n rfl dJ6_numberOfTrailingZeros_0f7a4_74) rfl ?_
  refine okL_cons (ok_iload_n rfl dJ6_numberOfTrailingZeros_0f7a4_75) rfl ?_
  refine okL_cons (ok_iconst rfl dJ6_numberOfTrailingZeros_0f7a4_76) rfl ?_
  refine okL_cons (ok_iushr dJ6_numberOfTrailingZeros_0f7a4_77) rfl ?_
  refine okL_cons (ok_iadd dJ6_numberOfTrailingZeros_0f7a4_78) rfl ?_
  exact okL_one (ok_ireturn rfl dJ6_numberOfTrailingZeros_0f7a4_79)
theorem dJ6_bitCount_0f7a4_0 : decode cJ6_bitCount_0f7a4 0 = .ok (.iload_n 0, 1) := by decide +kernel
theorem dJ6_bitCount_0f7a4_1 : decode cJ6_bitCount_0f7a4 1 = .ok (.iload_n 0, 1) := by decide +kernel
theorem dJ6_bitCount_0f7a4_2 : decode cJ6_bitCount_0f7a4 2 = .ok (.iconst 1, 1) := by decide +kernel
theorem dJ6_bitCount_0f7a4_3 : decode cJ6_bitCount_0f7a4 3 = .ok (.iushr, 1) := by decide +kernel
theorem dJ6_bitCount_0f7a4_4 : decode cJ6_bitCount_0f7a4 4 = .ok (.ldc_w 265, 3) := by decide +kernel
theorem dJ6_bitCount_0f7a4_7 : decode cJ6_bitCount_0f7a4 7 = .ok (.iand, 1) := by decide +kernel
theorem dJ6_bitCount_0f7a4_8 : decode cJ6_bitCount_0f7a4 8 = .ok (.isub, 1) := by decide +kernel
theorem dJ6_bitCount_0f7a4_9 : decode cJ6_bitCount_0f7a4 9 = .ok (.istore_n 0, 1) := by decide +kernel
theorem dJ6_bitCount_0f7a4_10 : decode cJ6_bitCount_0f7a4 10 = .ok (.iload_n 0, 1) := by decide +kernel
theorem dJ6_bitCount_0f7a4_11 : decode cJ6_bitCount_0f7a4 11 = .ok (.ldc_w 266, 3) := by decide +kernel
theorem dJ6_bitCount_0f7a4_14 : decode cJ6_bitCount_0f7a4 14 = .ok (.iand, 1) := by decide +kernel
theorem dJ6_bitCount_0f7a4_15 : decode cJ6_bitCount_0f7a4 15 = .ok (.iload_n 0, 1) := by decide +kernel
theorem dJ6_bitCount_0f7a4_16 : decode cJ6_bitCount_0f7a4 16 = .ok (.iconst 2, 1) := by decide +kernel
theorem dJ6_bitCount_0f7a4_17 : decode cJ6_bitCount_0f7a4 17 = .ok (.iushr, 1) := by decide +kernel
theorem dJ6_bitCount_0f7a4_18 : decode cJ6_bitCount_0f7a4 18 = .ok (.ldc_w 266, 3) := by decide +kernel
theorem dJ6_bitCount_0f7a4_21 : decode cJ6_bitCount_0f7a4 21 = .ok (.iand, 1) := by decide +kernel
theorem dJ6_bitCount_0f7a4_22 : decode cJ6_bitCount_0f7a4 22 = .ok (.iadd, 1) := by decide +kernel
theorem dJ6_bitCount_0f7a4_23 : decode cJ6_bitCount_0f7a4 23 = .ok (.istore_n 0, 1) := by decide +kernel
theorem dJ6_bitCount_0f7a4_24 : decode cJ6_bitCount_0f7a4 24 = .ok (.iload_n 0, 1) := by decide +kernel
theorem dJ6_bitCount_0f7a4_25 : decode cJ6_bitCount_0f7a4 25 = .ok (.iload_n 0, 1) := by decide +kernel
theorem dJ6_bitCount_0f7a4_26 : decode cJ6_bitCount_0f7a4 26 = .ok (.iconst 4, 1) := by decide +kernel
theorem dJ6_bitCount_0f7a4_27 : decode cJ6_bitCount_0f7a4 27 = .ok (.iushr, 1) := by decide +kernel
theorem dJ6_bitCount_0f7a4_28 : decode cJ6_bitCount_0f7a4 28 = .ok (.iadd, 1) := by decide +kernel
theorem dJ6_bitCount_0f7a4_29 : decode cJ6_bitCount_0f7a4 29 = .ok (.ldc_w 267, 3) := by decide +kernel
theorem dJ6_bitCount_0f7a4_32 : decode cJ6_bitCount_0f7a4 32 = .ok (.iand, 1) := by decide +kernel
theorem dJ6_bitCount_0f7a4_33 : decode cJ6_bitCount_0f7a4 33 = .ok (.istore_n 0, 1) := by decide +kernel
theorem dJ6_bitCount_0f7a4_34 : decode cJ6_bitCount_0f7a4 34 = .ok (.iload_n 0, 1) := by decide +kernel
theorem dJ6_bitCount_0f7a4_35 : decode cJ6_bitCount_0f7a4 35 = .ok (.iload_n 0, 1) := by decide +kernel
theorem dJ6_bitCount_0f7a4_36 : decode cJ6_bitCount_0f7a4 36 = .ok (.bipush 8, 2) := by decide +kernel
theorem dJ6_bitCount_0f7a4_38 : decode cJ6_bitCount_0f7a4 38 = .ok (.iushr, 1) := by decide +kernel
theorem dJ6_bitCount_0f7a4_39 : decode cJ6_bitCount_0f7a4 39 = .ok (.iadd, 1) := by decide +kernel
theorem dJ6_bitCount_0f7a4_40 : decode cJ6_bitCount_0f7a4 40 = .ok (.istore_n 0, 1) := by decide +kernel
theorem dJ6_bitCount_0f7a4_41 : decode cJ6_bitCount_0f7a4 41 = .ok (.iload_n 0, 1) := by decide +kernel
theorem dJ6_bitCount_0f7a4_42 : decode cJ6_bitCount_0f7a4 42 = .ok (.iload_n 0, 1) := by decide +kernel
theorem dJ6_bitCount_0f7a4_43 : decode cJ6_bitCount_0f7a4 43 = .ok (.bipush 16, 2) := by decide +kernel
theorem dJ6_bitCount_0f7a4_45 : decode cJ6_bitCount_0f7a4 45 = .ok (.iushr, 1) := by decide +kernel
theorem dJ6_bitCount_0f7a4_46 : decode cJ6_bitCount_0f7a4 46 = .ok (.iadd, 1) := by decide +kernel
theorem dJ6_bitCount_0f7a4_47 : decode cJ6_bitCount_0f7a4 47 = .ok (.istore_n 0, 1) := by decide +kernel
theorem dJ6_bitCount_0f7a4_48 : decode cJ6_bitCount_0f7a4 48 = .ok (.iload_n 0, 1) := by decide +kernel
theorem dJ6_bitCount_0f7a4_49 : decode cJ6_bitCount_0f7a4 49 = .ok (.bipush 63, 2) := by decide +kernel
theorem dJ6_bitCount_0f7a4_51 : decode cJ6_bitCount_0f7a4 51 = .ok (.iand, 1) := by decide +kernel
theorem dJ6_bitCount_0f7a4_52 : decode cJ6_bitCount_0f7a4 52 = .ok (.ireturn, 1) := by decide +kernel
set_option maxRecDepth 100000 in
theorem okm_J6_bitCount_0f7a4 : okL RJ6 cJ6_bitCount_0f7a4 1 (some .int) "bitCount" pcJ6_bitCount_0f7a4 opJ6_bitCount_0f7a4 pcJ6_bitCount_0f7a4 := by
  unfold opJ6_bitCount_0f7a4
  refine okL_cons (ok_iload_n rfl dJ6_bitCount_0f7a4_0) rfl ?_
  refine okL_cons (ok_iload_n rfl dJ6_bitCount_0f7a4_1) rfl ?_
  refine okL_cons (ok_iconst rfl dJ6_bitCount_0f7a4_2) rfl ?_
  refine okL_cons (ok_iushr dJ6_bitCount_0f7a4_3) rfl ?_
  refine okL_cons (ok_ldc_w kw_25 dJ6_bitCount_0f7a4_4) rfl ?_
  refine okL_cons (ok_iand dJ6_bitCount_0f7a4_7) rfl ?_
  refine okL_cons (ok_isub dJ6_bitCount_0f7a4_8) rfl ?_
  refine okL_cons (ok_istore_n rfl dJ6_bitCount_0f7a4_9) rfl ?_
  refine okL_cons (ok_iload_n rfl dJ6_bitCount_0f7a4_10) rfl ?_
  refine okL_cons (ok_ldc_w kw_26 dJ6_bitCount_0f7a4_11) rfl ?_
  refine okL_cons (ok_iand dJ6_bitCount_0f7a4_14) rfl ?_
  refine okL_cons (ok_iload_n rfl dJ6_bitCount_0f7a4_15) rfl ?_
  refine okL_cons (ok_iconst rfl dJ6_bitCount_0f7a4_16) rfl ?_
  refine okL_cons (ok_iushr dJ6_bitCount_0f7a4_17) rfl ?_
  refine okL_cons (ok_ldc_w kw_26 dJ6_bitCount_0f7a4_18) rfl ?_
  refine okL_cons (ok_iand dJ6_bitCount_0f7a4_21) rfl ?_
  refine okL_cons (ok_iadd dJ6_bitCount_0f7a4_22) rfl ?_
  refine okL_cons (ok_istore_n rfl dJ6_bitCount_0f7a4_23) rfl ?_
  refine okL_cons (ok_iload_n rfl dJ6_bitCount_0f7a4_24) rfl ?_
  refine okL_cons (ok_iload_n rfl dJ6_bitCount_0f7a4_25) rfl ?_
  refine okL_cons (ok_iconst rfl dJ6_bitCount_0f7a4_26) rfl ?_
  refine okL_cons (ok_iushr dJ6_bitCount_0f7a4_27) rfl ?_
  refine okL_cons (ok_iadd dJ6_bitCount_0f7a4_28) rfl ?_
  refine okL_cons (ok_ldc_w kw_27 dJ6_bitCount_0f7a4_29) rfl ?_
  refine okL_cons (ok_iand dJ6_bitCount_0f7a4_32) rfl ?_
  refine okL_cons (ok_istore_n rfl dJ6_bitCount_0f7a4_33) rfl ?_
  refine okL_cons (ok_iload_n rfl dJ6_bitCount_0f7a4_34) rfl ?_
  refine okL_cons (ok_iload_n rfl dJ6_bitCount_0f7a4_35) rfl ?_
  refine okL_cons (ok_bipush rfl dJ6_bitCount_0f7a4_36) rfl ?_
  refine okL_cons (ok_iushr dJ6_bitCount_0f7a4_38) rfl ?_
  refine okL_cons (ok_iadd dJ6_bitCount_0f7a4_39) rfl ?_
  refine okL_cons (ok_istore_n rfl dJ6_bitCount_0f7a4_40) rfl ?_
  refine okL_cons (ok_iload_n rfl dJ6_bitCount_0f7a4_41) rfl ?_
  refine okL_cons (ok_iload_n rfl dJ6_bitCount_0f7a4_42) rfl ?_
  refine okL_cons (ok_bipush rfl dJ6_bitCount_0f7a4_43) rfl ?_
  refine okL_cons (ok_iushr dJ6_bitCount_0f7a4_45) rfl ?_
  refine okL_cons (ok_iadd dJ6_bitCount_0f7a4_46) rfl ?_
  refine okL_cons (ok_istore_n rfl dJ6_bitCount_0f7a4_47) rfl ?_
  refine okL_cons (ok_iload_n rfl dJ6_bitCount_0f7a4_48) rfl ?_
  refine okL_cons (ok_bipush rfl dJ6_bitCount_0f7a4_49) rfl ?_
  refine okL_cons (ok_iand dJ6_bitCount_0f7a4_51) rfl ?_
  exact okL_one (ok_ireturn rfl dJ6_bitCount_0f7a4_52)
theorem dX0_init_0 : decode cX0_init 0 = .ok (.aload_n 0, 1) := by decide +kernel
theorem dX0_init_1 : decode cX0_init 1 = .ok (.invokespecial 3, 3) := by decide +kernel
theorem dX0_init_4 : decode cX0_init 4 = .ok (.aload_n 0, 1) := by decide +kernel
theorem dX0_init_5 : decode cX0_init 5 = .ok (.bipush 50, 2) := by decide +kernel
theorem dX0_init_7 : decode cX0_init 7 = .ok (.newarray .int, 2) := by decide +kernel
theorem dX0_init_9 : decode cX0_init 9 = .ok (.putfield 9, 3) := by decide +kernel
theorem dX0_init_12 : decode cX0_init 12 = .ok (.return_, 1) := by decide +kernel
set_option maxRecDepth 100000 in
theorem okm_X0_init : okL RX0 cX0_init 1 none "<init>" pcX0_init opX0_init pcX0_init := by
  unfold opX0_init
  refine okL_cons (ok_aload_n rfl dX0_init_0) rfl ?_
  refine okL_cons (ok_obj kw_28 kw_29 kw_30 dX0_init_1) rfl ?_
  refine okL_cons (ok_aload_n rfl dX0_init_4) rfl ?_
  refine okL_cons (ok_bipush rfl dX0_init_5) rfl ?_
  refine okL_cons (ok_newarray_int kw_31 dX0_init_7) rfl ?_
  refine okL_cons (ok_putPF kw_32 cf_X0 rfl rfl (by decide) rfl rfl rfl dX0_init_9) rfl ?_
  exact okL_one (ok_return rfl dX0_init_12)
theorem dX0_work_0 : decode cX0_work 0 = .ok (.iconst (-1), 1) := by decide +kernel
theorem dX0_work_1 : decode cX0_work 1 = .ok (.istore 4, 2) := by decide +kernel
theorem dX0_work_3 : decode cX0_work 3 = .ok (.iload_n 2, 1) := by decide +kernel
theorem dX0_work_4 : decode cX0_work 4 = .ok (.istore 5, 2) := by decide +kernel
theorem dX0_work_6 : decode cX0_work 6 = .ok (.iload 5, 2) := by decide +kernel
theorem dX0_work_8 : decode cX0_work 8 = .ok (.ifCond .lt 279, 3) := by decide +kernel
theorem dX0_work_11 : decode cX0_work 11 = .ok (.iload 5, 2) := by decide +kernel
theorem dX0_work_13 : decode cX0_work 13 = .ok (.aload_n 1, 1) := by decide +kernel
theorem dX0_work_14 : decode cX0_work 14 = .ok (.getfield 15, 3) := by decide +kernel
theorem dX0_work_17 : decode cX0_work 17 = .ok (.if_icmp .ge 270, 3) := by decide +kernel
theorem dX0_work_20 : decode cX0_work 20 = .ok (.aload_n 1, 1) := by decide +kernel
theorem dX0_work_21 : decode cX0_work 21 = .ok (.getfield 21, 3) := by decide +kernel
theorem dX0_work_24 : decode cX0_work 24 = .ok (.iload 5, 2) := by decide +kernel
theorem dX0_work_26 : decode cX0_work 26 = .ok (.iaload, 1) := by decide +kernel
theorem dX0_work_27 : decode cX0_work 27 = .ok (.bipush 15, 2) := by decide +kernel
theorem dX0_work_29 : decode cX0_work 29 = .ok (.iand, 1) := by decide +kernel
theorem dX0_work_30 : decode cX0_work 30 = .ok (.istore 6, 2) := by decide +kernel
theorem dX0_work_32 : decode cX0_work 32 = .ok (.aload_n 1, 1) := by decide +kernel
theorem dX0_work_33 : decode cX0_work 33 = .ok (.getfield 21, 3) := by decide +kernel
theorem dX0_work_36 : decode cX0_work 36 = .ok (.iload 5, 2) := by decide +kernel
theorem dX0_work_38 : decode cX0_work 38 = .ok (.iaload, 1) := by decide +kernel
theorem dX0_work_39 : decode cX0_work 39 = .ok (.iconst 4, 1) := by decide +kernel
theorem dX0_work_40 : decode cX0_work 40 = .ok (.ishr, 1) := by decide +kernel
theorem dX0_work_41 : decode cX0_work 41 = .ok (.istore 7, 2) := by decide +kernel
theorem dX0_work_43 : decode cX0_work 43 = .ok (.iload 6, 2) := by decide +kernel
theorem dX0_work_45 : decode cX0_work 45 = .ok (.ifCond .eq 9, 3) := by decide +kernel
theorem dX0_work_48 : decode cX0_work 48 = .ok (.iload 6, 2) := by decide +kernel
theorem dX0_work_50 : decode cX0_work 50 = .ok (.iconst 1, 1) := by decide +kernel
theorem dX0_work_51 : decode cX0_work 51 = .ok (.if_icmp .ne 70, 3) := by decide +kernel
theorem dX0_work_54 : decode cX0_work 54 = .ok (.iinc 4 1, 3) := by decide +kernel
theorem dX0_work_57 : decode cX0_work 57 = .ok (.iload 7, 2) := by decide +kernel
theorem dX0_work_59 : decode cX0_work 59 = .ok (.ifCond .lt 10, 3) := by decide +kernel
theorem dX0_work_62 : decode cX0_work 62 = .ok (.iload 7, 2) := by decide +kernel
theorem dX0_work_64 : decode cX0_work 64 = .ok (.aload_n 3, 1) := by decide +kernel
theorem dX0_work_65 : decode cX0_work 65 = .ok (.arraylength, 1) := by decide +kernel
theorem dX0_work_66 : decode cX0_work 66 = .ok (.if_icmp .lt 7, 3) := by decide +kernel
theorem dX0_work_69 : decode cX0_work 69 = .ok (.iconst 1, 1) := by decide +kernel
theorem dX0_work_70 : decode cX0_work 70 = .ok (.goto 4, 3) := by decide +kernel
theorem dX0_work_73 : decode cX0_work 73 = .ok (.iconst 0, 1) := by decide +kernel
theorem dX0_work_74 : decode cX0_work 74 = .ok (.istore 8, 2) := by decide +kernel
theorem dX0_work_76 : decode cX0_work 76 = .ok (.iload 4, 2) := by decide +kernel
theorem dX0_work_78 : decode cX0_work 78 = .ok (.bipush 50, 2) := by decide +kernel
theorem dX0_work_80 : decode cX0_work 80 = .ok (.if_icmp .ge 14, 3) := by decide +kernel
theorem dX0_work_83 : decode cX0_work 83 = .ok (.iload 6, 2) := by decide +kernel
theorem dX0_work_85 : decode cX0_work 85 = .ok (.iconst 1, 1) := by decide +kernel
theorem dX0_work_86 : decode cX0_work 86 = .ok (.if_icmp .ne 11, 3) := by decide +kernel
theorem dX0_work_89 : decode cX0_work 89 = .ok (.iload 8, 2) := by decide +kernel
theorem dX0_work_91 : decode cX0_work 91 = .ok (.ifCond .eq 6, 3) := by decide +kernel
theorem dX0_work_94 : decode cX0_work 94 = .ok (.ldc 24, 2) := by decide +kernel
theorem dX0_work_96 : decode cX0_work 96 = .ok (.ireturn, 1) := by decide +kernel
theorem dX0_work_97 : decode cX0_work 97 = .ok (.aload_n 0, 1) := by decide +kernel
theorem dX0_work_98 : decode cX0_work 98 = .ok (.getfield 9, 3) := by decide +kernel
theorem dX0_work_101 : decode cX0_work 101 = .ok (.iload 4, 2) := by decide +kernel
theorem dX0_work_103 : decode cX0_work 103 = .ok (.iload 6, 2) := by decide +kernel
theorem dX0_work_105 : decode cX0_work 105 = .ok (.ifCond .ne 8, 3) := by decide +kernel
theorem dX0_work_108 : decode cX0_work 108 = .ok (.iload 7, 2) := by decide +kernel
theorem dX0_work_110 : decode cX0_work 110 = .ok (.goto 7, 3) := by decide +kernel
theorem dX0_work_113 : decode cX0_work 113 = .ok (.aload_n 3, 1) := by decide +kernel
theorem dX0_work_114 : decode cX0_work 114 = .ok (.iload 7, 2) := by decide +kernel
theorem dX0_work_116 : decode cX0_work 116 = .ok (.iaload, 1) := by decide +kernel
theorem dX0_work_117 : decode cX0_work 117 = .ok (.iastore, 1) := by decide +kernel
theorem dX0_work_118 : decode cX0_work 118 = .ok (.goto 163, 3) := by decide +kernel
theorem dX0_work_121 : decode cX0_work 121 = .ok (.iload 4, 2) := by decide +kernel
theorem dX0_work_123 : decode cX0_work 123 = .ok (.ifCond .ge 6, 3) := by decide +kernel
theorem dX0_work_126 : decode cX0_work 126 = .ok (.ldc 24, 2) := by decide +kernel
theorem dX0_work_128 : decode cX0_work 128 = .ok (.ireturn, 1) := by decide +kernel
theorem dX0_work_129 : decode cX0_work 129 = .ok (.iload 6, 2) := by decide +kernel
theorem dX0_work_131 : decode cX0_work 131 = .ok (.bipush 13, 2) := by decide +kernel
theorem dX0_work_133 : decode cX0_work 133 = .ok (.if_icmp .ne 11, 3) := by decide +kernel
theorem dX0_work_136 : decode cX0_work 136 = .ok (.aload_n 0, 1) := by decide +kernel
theorem dX0_work_137 : decode cX0_work 137 = .ok (.getfield 9, 3) := by decide +kernel
theorem dX0_work_140 : decode cX0_work 140 = .ok (.iload 4, 2) := by decide +kernel
theorem dX0_work_142 : decode cX0_work 142 = .ok (.iaload, 1) := by decide +kernel
theorem dX0_work_143 : decode cX0_work 143 = .ok (.ireturn, 1) := by decide +kernel
theorem dX0_work_144 : decode cX0_work 144 = .ok (.iload 6, 2) := by decide +kernel
theorem dX0_work_146 : decode cX0_work 146 = .ok (.bipush 10, 2) := by decide +kernel
theorem dX0_work_148 : decode cX0_work 148 = .ok (.if_icmp .ne 22, 3) := by decide +kernel
theorem dX0_work_151 : decode cX0_work 151 = .ok (.aload_n 0, 1) := by decide +kernel
theorem dX0_work_152 : decode cX0_work 152 = .ok (.getfield 9, 3) := by decide +kernel
theorem dX0_work_155 : decode cX0_work 155 = .ok (.iload 4, 2) := by decide +kernel
theorem dX0_work_157 : decode cX0_work 157 = .ok (.iconst 1, 1) := by decide +kernel
theorem dX0_work_158 : decode cX0_work 158 = .ok (.aload_n 0, 1) := by decide +kernel
theorem dX0_work_159 : decode cX0_work 159 = .ok (.getfield 9, 3) := by decide +kernel
theorem dX0_work_162 : decode cX0_work 162 = .ok (.iload 4, 2) := by decide +kernel
theorem dX0_work_164 : decode cX0_work 164 = .ok (.iaload, 1) := by decide +kernel
theorem dX0_work_165 : decode cX0_work 165 = .ok (.isub, 1) := by decide +kernel
theorem dX0_work_166 : decode cX0_work 166 = .ok (.iastore, 1) := by decide +kernel
theorem dX0_work_167 : decode cX0_work 167 = .ok (.goto 114, 3) := by decide +kernel
theorem dX0_work_170 : decode cX0_work 170 = .ok (.iload 6, 2) := by decide +kernel
theorem dX0_work_172 : decode cX0_work 172 = .ok (.bipush 11, 2) := by decide +kernel
theorem dX0_work_174 : decode cX0_work 174 = .ok (.if_icmp .eq 10, 3) := by decide +kernel
theorem dX0_work_177 : decode cX0_work 177 = .ok (.iload 6, 2) := by decide +kernel
theorem dX0_work_179 : decode cX0_work 179 = .ok (.bipush 12, 2) := by decide +kernel
theorem dX0_work_181 : decode cX0_work 181 = .ok (.if_icmp .ne 45, 3) := by decide +kernel
theorem dX0_work_184 : decode cX0_work 184 = .ok (.aload_n 0, 1) := by decide +kernel
theorem dX0_work_185 : decode cX0_work 185 = .ok (.getfield 9, 3) := by decide +kernel
theorem dX0_work_188 : decode cX0_work 188 = .ok (.iload 4, 2) := by decide +kernel
theorem dX0_work_190 : decode cX0_work 190 = .ok (.iaload, 1) := by decide +kernel
theorem dX0_work_191 : decode cX0_work 191 = .ok (.iload 6, 2) := by decide +kernel
theorem dX0_work_193 : decode cX0_work 193 = .ok (.bipush 11, 2) := by decide +kernel
theorem dX0_work_195 : decode cX0_work 195 = .ok (.if_icmp .ne 7, 3) := by decide +kernel
theorem dX0_work_198 : decode cX0_work 198 = .ok (.iconst 1, 1) := by decide +kernel
theorem dX0_work_199 : decode cX0_work 199 = .ok (.goto 4, 3) := by decide +kernel
theorem dX0_work_202 : decode cX0_work 202 = .ok (.iconst 0, 1) := by decide +kernel
theorem dX0_work_203 : decode cX0_work 203 = .ok (.if_icmp .ne 17, 3) := by decide +kernel
theorem dX0_work_206 : decode cX0_work 206 = .ok (.iload 5, 2) := by decide +kernel
theorem dX0_work_208 : decode cX0_work 208 = .ok (.iload 7, 2) := by decide +kernel
theorem dX0_work_210 : decode cX0_work 210 = .ok (.iconst 1, 1) := by decide +kernel
theorem dX0_work_211 : decode cX0_work 211 = .ok (.isub, 1) := by decide +kernel
theorem dX0_work_212 : decode cX0_work 212 = .ok (.invokestatic 25, 3) := by decide +kernel
theorem dX0_work_215 : decode cX0_work 215 = .ok (.istore 5, 2) := by decide +kernel
theorem dX0_work_217 : decode cX0_work 217 = .ok (.goto 64, 3) := by decide +kernel
theorem dX0_work_220 : decode cX0_work 220 = .ok (.iinc 4 (-1), 3) := by decide +kernel
theorem dX0_work_223 : decode cX0_work 223 = .ok (.goto 58, 3) := by decide +kernel
theorem dX0_work_226 : decode cX0_work 226 = .ok (.iload 4, 2) := by decide +kernel
theorem dX0_work_228 : decode cX0_work 228 = .ok (.iconst 1, 1) := by decide +kernel
theorem dX0_work_229 : decode cX0_work 229 = .ok (.if_icmp .ge 6, 3) := by decide +kernel
theorem dX0_work_232 : decode cX0_work 232 = .ok (.ldc 24, 2) := by decide +kernel
theorem dX0_work_234 : decode cX0_work 234 = .ok (.ireturn, 1) := by decide +kernel
theorem dX0_work_235 : decode cX0_work 235 = .ok (.iinc 4 (-1), 3) := by decide +kernel
theorem dX0_work_238 : decode cX0_work 238 = .ok (.aload_n 0, 1) := by decide +kernel
theorem dX0_work_239 : decode cX0_work 239 = .ok (.getfield 9, 3) := by decide +kernel
theorem dX0_work_242 : decode cX0_work 242 = .ok (.iload 4, 2) := by decide +kernel
theorem dX0_work_244 : decode cX0_work 244 = .ok (.iload 6, 2) := by decide +kernel
theorem dX0_work_246 : decode cX0_work 246 = .ok (.aload_n 0, 1) := by decide +kernel
theorem dX0_work_247 : decode cX0_work 247 = .ok (.getfield 9, 3) := by decide +kernel
theorem dX0_work_250 : decode cX0_work 250 = .ok (.iload 4, 2) := by decide +kernel
theorem dX0_work_252 : decode cX0_work 252 = .ok (.iaload, 1) := by decide +kernel
theorem dX0_work_253 : decode cX0_work 253 = .ok (.aload_n 0, 1) := by decide +kernel
theorem dX0_work_254 : decode cX0_work 254 = .ok (.getfield 9, 3) := by decide +kernel
theorem dX0_work_257 : decode cX0_work 257 = .ok (.iload 4, 2) := by decide +kernel
theorem dX0_work_259 : decode cX0_work 259 = .ok (.iconst 1, 1) := by decide +kernel
theorem dX0_work_260 : decode cX0_work 260 = .ok (.iadd, 1) := by decide +kernel
theorem dX0_work_261 : decode cX0_work 261 = .ok (.iaload, 1) := by decide +kernel
theorem dX0_work_262 : decode cX0_work 262 = .ok (.invokestatic 31, 3) := by decide +kernel
theorem dX0_work_265 : decode cX0_work 265 = .ok (.iastore, 1) := by decide +kernel
theorem dX0_work_266 : decode cX0_work 266 = .ok (.aload_n 0, 1) := by decide +kernel
theorem dX0_work_267 : decode cX0_work 267 = .ok (.getfield 9, 3) := by decide +kernel
theorem dX0_work_270 : decode cX0_work 270 = .ok (.iload 4, 2) := by decide +kernel
theorem dX0_work_272 : decode cX0_work 272 = .ok (.iaload, 1) := by decide +kernel
theorem dX0_work_273 : decode cX0_work 273 = .ok (.ldc 24, 2) := by decide +kernel
theorem dX0_work_275 : decode cX0_work 275 = .ok (.if_icmp .ne 6, 3) := by decide +kernel
theorem dX0_work_278 : decode cX0_work 278 = .ok (.ldc 24, 2) := by decide +kernel
theorem dX0_work_280 : decode cX0_work 280 = .ok (.ireturn, 1) := by decide +kernel
theorem dX0_work_281 : decode cX0_work 281 = .ok (.iinc 5 1, 3) := by decide +kernel
theorem dX0_work_284 : decode cX0_work 284 = .ok (.goto (-278), 3) := by decide +kernel
theorem dX0_work_287 : decode cX0_work 287 = .ok (.ldc 24, 2) := by decide +kernel
theorem dX0_work_289 : decode cX0_work 289 = .ok (.ireturn, 1) := by decide +kernel
set_option maxRecDepth 100000 in
theorem okm_X0_work : okL RX0 cX0_work 9 (some .int) "work" pcX0_work opX0_work pcX0_work := by
  unfold opX0_work
  refine okL_cons (ok_iconst rfl dX0_work_0) rfl ?_
  refine okL_cons (ok_istore dX0_work_1) rfl ?_
  refine okL_cons (ok_iload_n rfl dX0_work_3) rfl ?_
  refine okL_cons (ok_istore dX0_work_4) rfl ?_
  refine okL_cons (ok_iload dX0_work_6) rfl ?_
  refine okL_cons (ok_if_lt rfl dX0_work_8) rfl ?_
  refine okL_cons (ok_iload dX0_work_11) rfl ?_
  refine okL_cons (ok_aload_n rfl dX0_work_13) rfl ?_
  refine okL_cons (ok_getNI 11 cf_X9 rfl rfl rfl (by decide) dX0_work_14) rfl ?_
  refine okL_cons (ok_icmp_ge rfl dX0_work_17) rfl ?_
  refine okL_cons (ok_aload_n rfl dX0_work_20) rfl ?_
  refine okL_cons (ok_getNP 10 cf_X9 rfl rfl rfl (by decide) dX0_work_21) rfl ?_
  refine okL_cons (ok_iload dX0_work_24) rfl ?_
  refine okL_cons (ok_iaload dX0_work_26) rfl ?_
  refine okL_cons (ok_bipush rfl dX0_work_27) rfl ?_
  refine okL_cons (ok_iand dX0_work_29) rfl ?_
  refine okL_cons (ok_istore dX0_work_30) rfl ?_
  refine okL_cons (ok_aload_n rfl dX0_work_32) rfl ?_
  refine okL_cons (ok_getNP 10 cf_X9 rfl rfl rfl (by decide) dX0_work_33) rfl ?_
  refine okL_cons (ok_iload dX0_work_36) rfl ?_
  refine okL_cons (ok_iaload dX0_work_38) rfl ?_
  refine okL_cons (ok_iconst rfl dX0_work_39) rfl ?_
  refine okL_cons (ok_ishr dX0_work_40) rfl ?_
  refine okL_cons (ok_istore dX0_work_41) rfl ?_
  refine okL_cons (ok_iload dX0_work_43) rfl ?_
  refine okL_cons (ok_if_eq rfl dX0_work_45) rfl ?_
  refine okL_cons (ok_iload dX0_work_48) rfl ?_
  refine okL_cons (ok_iconst rfl dX0_work_50) rfl ?_
  refine okL_cons (ok_icmp_ne rfl dX0_work_51) rfl ?_
  refine okL_cons (ok_iinc rfl dX0_work_54) rfl ?_
  refine okL_cons (ok_iload dX0_work_57) rfl ?_
  refine okL_cons (ok_if_lt rfl dX0_work_59) rfl ?_
  refine okL_cons (ok_iload dX0_work_62) rfl ?_
  refine okL_cons (ok_aload_n rfl dX0_work_64) rfl ?_
  refine okL_cons (ok_alen dX0_work_65) rfl ?_
  refine okL_cons (ok_icmp_lt rfl dX0_work_66) rfl ?_
  refine okL_cons (ok_iconst rfl dX0_work_69) rfl ?_
  refine okL_cons (ok_goto rfl dX0_work_70) rfl ?_
  refine okL_cons (ok_iconst rfl dX0_work_73) rfl ?_
  refine okL_cons (ok_istore dX0_work_74) rfl ?_
  refine okL_cons (ok_iload dX0_work_76) rfl ?_
  refine okL_cons (ok_bipush rfl dX0_work_78) rfl ?_
  refine okL_cons (ok_icmp_ge rfl dX0_work_80) rfl ?_
  refine okL_cons (ok_iload dX0_work_83) rfl ?_
  refine okL_cons (ok_iconst rfl dX0_work_85) rfl ?_
  refine okL_cons (ok_icmp_ne rfl dX0_work_86) rfl ?_
  refine okL_cons (ok_iload dX0_work_89) rfl ?_
  refine okL_cons (ok_if_eq rfl dX0_work_91) rfl ?_
  refine okL_cons (ok_ldc kw_33 dX0_work_94) rfl ?_
  refine okL_cons (ok_ireturn rfl dX0_work_96) rfl ?_
  refine okL_cons (ok_aload_n rfl dX0_work_97) rfl ?_
  refine okL_cons (ok_getP kw_32 cf_X0 rfl rfl (by decide) dX0_work_98) rfl ?_
  refine okL_cons (ok_iload dX0_work_101) rfl ?_
  refine okL_cons (ok_iload dX0_work_103) rfl ?_
  refine okL_cons (ok_if_ne rfl dX0_work_105) rfl ?_
  refine okL_cons (ok_iload dX0_work_108) rfl ?_
  refine okL_cons (ok_goto rfl dX0_work_110) rfl ?_
  refine okL_cons (ok_aload_n rfl dX0_work_113) rfl ?_
  refine okL_cons (ok_iload dX0_work_114) rfl ?_
  refine okL_cons (ok_iaload dX0_work_116) rfl ?_
  refine okL_cons (ok_iastore dX0_work_117) rfl ?_
  refine okL_cons (ok_goto rfl dX0_work_118) rfl ?_
  refine okL_cons (ok_iload dX0_work_121) rfl ?_
  refine okL_cons (ok_if_ge rfl dX0_work_123) rfl ?_
  refine okL_cons (ok_ldc kw_33 dX0_work_126) rfl ?_
  refine okL_cons (ok_ireturn rfl dX0_work_128) rfl ?_
  refine okL_cons (ok_iload dX0_work_129) rfl ?_
  refine okL_cons (ok_bipush rfl dX0_work_131) rfl ?_
  refine okL_cons (ok_icmp_ne rfl dX0_work_133) rfl ?_
  refine okL_cons (ok_aload_n rfl dX0_work_136) rfl ?_
  refine okL_cons (ok_getP kw_32 cf_X0 rfl rfl (by decide) dX0_work_137) rfl ?_
  refine okL_cons (ok_iload dX0_work_140) rfl ?_
  refine okL_cons (ok_iaload dX0_work_142) rfl ?_
  refine okL_cons (ok_ireturn rfl dX0_work_143) rfl ?_
  refine okL_cons (ok_iload dX0_work_144) rfl ?_
  refine okL_cons (ok_bipush rfl dX0_work_146) rfl ?_
  refine okL_cons (ok_icmp_ne rfl dX0_work_148) rfl ?_
  refine okL_cons (ok_aload_n rfl dX0_work_151) rfl ?_
  refine okL_cons (ok_getP kw_32 cf_X0 rfl rfl (by decide) dX0_work_152) rfl ?_
  refine okL_cons (ok_iload dX0_work_155) rfl ?_
  refine okL_cons (ok_iconst rfl dX0_work_157) rfl ?_
  refine okL_cons (ok_aload_n rfl dX0_work_158) rfl ?_
  refine okL_cons (ok_getP kw_32 cf_X0 rfl rfl (by decide) dX0_work_159) rfl ?_
  refine okL_cons (ok_iload dX0_work_162) rfl ?_
  refine okL_cons (ok_iaload dX0_work_164) rfl ?_
  refine okL_cons (ok_isub dX0_work_165) rfl ?_
  refine okL_cons (ok_iastore dX0_work_166) rfl ?_
  refine okL_cons (ok_goto rfl dX0_work_167) rfl ?_
  refine okL_cons (ok_iload dX0_work_170) rfl ?_
  refine okL_cons (ok_bipush rfl dX0_work_172) rfl ?_
  refine okL_cons (ok_icmp_eq rfl dX0_work_174) rfl ?_
  refine okL_cons (ok_iload dX0_work_177) rfl ?_
  refine okL_cons (ok_bipush rfl dX0_work_179) rfl ?_
  refine okL_cons (ok_icmp_ne rfl dX0_work_181) rfl ?_
  refine okL_cons (ok_aload_n rfl dX0_work_184) rfl ?_
  refine okL_cons (ok_getP kw_32 cf_X0 rfl rfl (by decide) dX0_work_185) rfl ?_
  refine okL_cons (ok_iload dX0_work_188) rfl ?_
  refine okL_cons (ok_iaload dX0_work_190) rfl ?_
  refine okL_cons (ok_iload dX0_work_191) rfl ?_
  refine okL_cons (ok_bipush rfl dX0_work_193) rfl ?_
  refine okL_cons (ok_icmp_ne rfl dX0_work_195) rfl ?_
  refine okL_cons (ok_iconst rfl dX0_work_198) rfl ?_
  refine okL_cons (ok_goto rfl dX0_work_199) rfl ?_
  refine okL_cons (ok_iconst rfl dX0_work_202) rfl ?_
  refine okL_cons (ok_icmp_ne rfl dX0_work_203) rfl ?_
  refine okL_cons (ok_iload dX0_work_206) rfl ?_
  refine okL_cons (ok_iload dX0_work_208) rfl ?_
  refine okL_cons (ok_iconst rfl dX0_work_210) rfl ?_
  refine okL_cons (ok_isub dX0_work_211) rfl ?_
  refine okL_cons (ok_max kw_34 kw_35 kw_36 kw_37 dX0_work_212) rfl ?_
  refine okL_cons (ok_istore dX0_work_215) rfl ?_
  refine okL_cons (ok_goto rfl dX0_work_217) rfl ?_
  refine okL_cons (ok_iinc rfl dX0_work_220) rfl ?_
  refine okL_cons (ok_goto rfl dX0_work_223) rfl ?_
  refine okL_cons (ok_iload dX0_work_226) rfl ?_
  refine okL_cons (ok_iconst rfl dX0_work_228) rfl ?_
  refine okL_cons (ok_icmp_ge rfl dX0_work_229) rfl ?_
  refine okL_cons (ok_ldc kw_33 dX0_work_232) rfl ?_
  refine okL_cons (ok_ireturn rfl dX0_work_234) rfl ?_
  refine okL_cons (ok_iinc rfl dX0_work_235) rfl ?_
  refine okL_cons (ok_aload_n rfl dX0_work_238) rfl ?_
  refine okL_cons (ok_getP kw_32 cf_X0 rfl rfl (by decide) dX0_work_239) rfl ?_
  refine okL_cons (ok_iload dX0_work_242) rfl ?_
  refine okL_cons (ok_iload dX0_work_244) rfl ?_
  refine okL_cons (ok_aload_n rfl dX0_work_246) rfl ?_
  refine okL_cons (ok_getP kw_32 cf_X0 rfl rfl (by decide) dX0_work_247) rfl ?_
  refine okL_cons (ok_iload dX0_work_250) rfl ?_
  refine okL_cons (ok_iaload dX0_work_252) rfl ?_
  refine okL_cons (ok_aload_n rfl dX0_work_253) rfl ?_
  refine okL_cons (ok_getP kw_32 cf_X0 rfl rfl (by decide) dX0_work_254) rfl ?_
  refine okL_cons (ok_iload dX0_work_257) rfl ?_
  refine okL_cons (ok_iconst rfl dX0_work_259) rfl ?_
  refine okL_cons (ok_iadd dX0_work_260) rfl ?_
  refine okL_cons (ok_iaload dX0_work_261) rfl ?_
  refine okL_cons (ok_invS (M' := 11) kw_38 kw_39 kw_40 kw_41 rfl (by decide +kernel) dX0_work_262) rfl ?_
  refine okL_cons (ok_iastore dX0_work_265) rfl ?_
  refine okL_cons (ok_aload_n rfl dX0_work_266) rfl ?_
  refine okL_cons (ok_getP kw_32 cf_X0 rfl rfl (by decide) dX0_work_267) rfl ?_
  refine okL_cons (ok_iload dX0_work_270) rfl ?_
  refine okL_cons (ok_iaload dX0_work_272) rfl ?_
  refine okL_cons (ok_ldc kw_33 dX0_work_273) rfl ?_
  refine okL_cons (ok_icmp_ne rfl dX0_work_275) rfl ?_
  refine okL_cons (ok_ldc kw_33 dX0_work_278) rfl ?_
  refine okL_cons (ok_ireturn rfl dX0_work_280) rfl ?_
  refine okL_cons (ok_iinc rfl dX0_work_281) rfl ?_
  refine okL_cons (ok_goto rfl dX0_work_284) rfl ?_
  refine okL_cons (ok_ldc kw_33 dX0_work_287) rfl ?_
  exact okL_one (ok_ireturn rfl dX0_work_289)
theorem dX0_joined_0 : decode cX0_joined 0 = .ok (.iload_n 0, 1) := by decide +kernel
theorem dX0_joined_1 : decode cX0_joined 1 = .ok (.iconst 5, 1) := by decide +kernel
theorem dX0_joined_2 : decode cX0_joined 2 = .ok (.if_icmp .eq 9, 3) := by decide +kernel
theorem dX0_joined_5 : decode cX0_joined 5 = .ok (.iload_n 0, 1) := by decide +kernel
theorem dX0_joined_6 : decode cX0_joined 6 = .ok (.bipush 6, 2) := by decide +kernel
theorem dX0_joined_8 : decode cX0_joined 8 = .ok (.if_icmp .ne 10, 3) := by decide +kernel
theorem dX0_joined_11 : decode cX0_joined 11 = .ok (.iload_n 2, 1) := by decide +kernel
theorem dX0_joined_12 : decode cX0_joined 12 = .ok (.ifCond .ne 6, 3) := by decide +kernel
theorem dX0_joined_15 : decode cX0_joined 15 = .ok (.ldc 24, 2) := by decide +kernel
theorem dX0_joined_17 : decode cX0_joined 17 = .ok (.ireturn, 1) := by decide +kernel
theorem dX0_joined_18 : decode cX0_joined 18 = .ok (.iload_n 1, 1) := by decide +kernel
theorem dX0_joined_19 : decode cX0_joined 19 = .ok (.i2l, 1) := by decide +kernel
theorem dX0_joined_20 : decode cX0_joined 20 = .ok (.lstore_n 3, 1) := by decide +kernel
theorem dX0_joined_21 : decode cX0_joined 21 = .ok (.iload_n 0, 1) := by decide +kernel
theorem dX0_joined_22 : decode cX0_joined 22 = .ok (.tableswitch 109 2 8 #[42, 51, 60, 69, 78, 87, 98], 42) := by decide +kernel
theorem dX0_joined_64 : decode cX0_joined 64 = .ok (.lload_n 3, 1) := by decide +kernel
theorem dX0_joined_65 : decode cX0_joined 65 = .ok (.iload_n 2, 1) := by decide +kernel
theorem dX0_joined_66 : decode cX0_joined 66 = .ok (.i2l, 1) := by decide +kernel
theorem dX0_joined_67 : decode cX0_joined 67 = .ok (.ladd, 1) := by decide +kernel
theorem dX0_joined_68 : decode cX0_joined 68 = .ok (.lstore 5, 2) := by decide +kernel
theorem dX0_joined_70 : decode cX0_joined 70 = .ok (.goto 72, 3) := by decide +kernel
theorem dX0_joined_73 : decode cX0_joined 73 = .ok (.lload_n 3, 1) := by decide +kernel
theorem dX0_joined_74 : decode cX0_joined 74 = .ok (.iload_n 2, 1) := by decide +kernel
theorem dX0_joined_75 : decode cX0_joined 75 = .ok (.i2l, 1) := by decide +kernel
theorem dX0_joined_76 : decode cX0_joined 76 = .ok (.lsub, 1) := by decide +kernel
theorem dX0_joined_77 : decode cX0_joined 77 = .ok (.lstore 5, 2) := by decide +kernel
theorem dX0_joined_79 : decode cX0_joined 79 = .ok (.goto 63, 3) := by decide +kernel
theorem dX0_joined_82 : decode cX0_joined 82 = .ok (.lload_n 3, 1) := by decide +kernel
theorem dX0_joined_83 : decode cX0_joined 83 = .ok (.iload_n 2, 1) := by decide +kernel
theorem dX0_joined_84 : decode cX0_joined 84 = .ok (.i2l, 1) := by decide +kernel
theorem dX0_joined_85 : decode cX0_joined 85 = .ok (.lmul, 1) := by decide +kernel
theorem dX0_joined_86 : decode cX0_joined 86 = .ok (.lstore 5, 2) := by decide +kernel
theorem dX0_joined_88 : decode cX0_joined 88 = .ok (.goto 54, 3) := by decide +kernel
theorem dX0_joined_91 : decode cX0_joined 91 = .ok (.lload_n 3, 1) := by decide +kernel
theorem dX0_joined_92 : decode cX0_joined 92 = .ok (.iload_n 2, 1) := by decide +kernel
theorem dX0_joined_93 : decode cX0_joined 93 = .ok (.i2l, 1) := by decide +kernel
theorem dX0_joined_94 : decode cX0_joined 94 = .ok (.ldiv, 1) := by decide +kernel
theorem dX0_joined_95 : decode cX0_joined 95 = .ok (.lstore 5, 2) := by decide +kernel
theorem dX0_joined_97 : decode cX0_joined 97 = .ok (.goto 45, 3) := by decide +kernel
theorem dX0_joined_100 : decode cX0_joined 100 = .ok (.lload_n 3, 1) := by decide +kernel
theorem dX0_joined_101 : decode cX0_joined 101 = .ok (.iload_n 2, 1) := by decide +kernel
theorem dX0_joined_102 : decode cX0_joined 102 = .ok (.i2l, 1) := by decide +kernel
theorem dX0_joined_103 : decode cX0_joined 103 = .ok (.lrem, 1) := by decide +kernel
theorem dX0_joined_104 : decode cX0_joined 104 = .ok (.lstore 5, 2) := by decide +kernel
theorem dX0_joined_106 : decode cX0_joined 106 = .ok (.goto 36, 3) := by decide +kernel
theorem dX0_joined_109 : decode cX0_joined 109 = .ok (.iload_n 1, 1) := by decide +kernel
theorem dX0_joined_110 : decode cX0_joined 110 = .ok (.iload_n 2, 1) := by decide +kernel
theorem dX0_joined_111 : decode cX0_joined 111 = .ok (.if_icmp .ge 7, 3) := by decide +kernel
theorem dX0_joined_114 : decode cX0_joined 114 = .ok (.iconst 1, 1) := by decide +kernel
theorem dX0_joined_115 : decode cX0_joined 115 = .ok (.goto 4, 3) := by decide +kernel
theorem dX0_joined_118 : decode cX0_joined 118 = .ok (.iconst 0, 1) := by decide +kernel
theorem dX0_joined_119 : decode cX0_joined 119 = .ok (.ireturn, 1) := by decide +kernel
theorem dX0_joined_120 : decode cX0_joined 120 = .ok (.iload_n 1, 1) := by decide +kernel
theorem dX0_joined_121 : decode cX0_joined 121 = .ok (.iload_n 2, 1) := by decide +kernel
theorem dX0_joined_122 : decode cX0_joined 122 = .ok (.if_icmp .le 7, 3) := by decide +kernel
theorem dX0_joined_125 : decode cX0_joined 125 = .ok (.iconst 1, 1) := by decide +kernel
theorem dX0_joined_126 : decode cX0_joined 126 = .ok (.goto 4, 3) := by decide +kernel
theorem dX0_joined_129 : decode cX0_joined 129 = .ok (.iconst 0, 1) := by decide +kernel
theorem dX0_joined_130 : decode cX0_joined 130 = .ok (.ireturn, 1) := by decide +kernel
theorem dX0_joined_131 : decode cX0_joined 131 = .ok (.iload_n 1, 1) := by decide +kernel
theorem dX0_joined_132 : decode cX0_joined 132 = .ok (.iload_n 2, 1) := by decide +kernel
theorem dX0_joined_133 : decode cX0_joined 133 = .ok (.if_icmp .ne 7, 3) := by decide +kernel
theorem dX0_joined_136 : decode cX0_joined 136 = .ok (.iconst 1, 1) := by decide +kernel
theorem dX0_joined_137 : decode cX0_joined 137 = .ok (.goto 4, 3) := by decide +kernel
theorem dX0_joined_140 : decode cX0_joined 140 = .ok (.iconst 0, 1) := by decide +kernel
theorem dX0_joined_141 : decode cX0_joined 141 = .ok (.ireturn, 1) := by decide +kernel
theorem dX0_joined_142 : decode cX0_joined 142 = .ok (.lload 5, 2) := by decide +kernel
theorem dX0_joined_144 : decode cX0_joined 144 = .ok (.ldc2_w 35, 3) := by decide +kernel
theorem dX0_joined_147 : decode cX0_joined 147 = .ok (.lcmp, 1) := by decide +kernel
theorem dX0_joined_148 : decode cX0_joined 148 = .ok (.ifCond .gt 12, 3) := by decide +kernel
theorem dX0_joined_151 : decode cX0_joined 151 = .ok (.lload 5, 2) := by decide +kernel
theorem dX0_joined_153 : decode cX0_joined 153 = .ok (.ldc2_w 37, 3) := by decide +kernel
theorem dX0_joined_156 : decode cX0_joined 156 = .ok (.lcmp, 1) := by decide +kernel
theorem dX0_joined_157 : decode cX0_joined 157 = .ok (.ifCond .ge 8, 3) := by decide +kernel
theorem dX0_joined_160 : decode cX0_joined 160 = .ok (.ldc 24, 2) := by decide +kernel
theorem dX0_joined_162 : decode cX0_joined 162 = .ok (.goto 6, 3) := by decide +kernel
theorem dX0_joined_165 : decode cX0_joined 165 = .ok (.lload 5, 2) := by decide +kernel
theorem dX0_joined_167 : decode cX0_joined 167 = .ok (.l2i, 1) := by decide +kernel
theorem dX0_joined_168 : decode cX0_joined 168 = .ok (.ireturn, 1) := by decide +kernel
set_option maxRecDepth 100000 in
theorem okm_X0_joined : okL RX0 cX0_joined 7 (some .int) "joined" pcX0_joined opX0_joined pcX0_joined := by
  unfold opX0_joined
  refine okL_cons (ok_iload_n rfl dX0_joined_0) rfl ?_
  refine okL_cons (ok_iconst rfl dX0_joined_1) rfl ?_
  refine okL_cons (ok_icmp_eq rfl dX0_joined_2) rfl ?_
  refine okL_cons (ok_iload_n rfl dX0_joined_5) rfl ?_
  refine okL_cons (ok_bipush rfl dX0_joined_6) rfl ?_
  refine okL_cons (ok_icmp_ne rfl dX0_joined_8) rfl ?_
  refine okL_cons (ok_iload_n rfl dX0_joined_11) rfl ?_
  refine okL_cons (ok_if_ne rfl dX0_joined_12) rfl ?_
  refine okL_cons (ok_ldc kw_33 dX0_joined_15) rfl ?_
  refine okL_cons (ok_ireturn rfl dX0_joined_17) rfl ?_
  refine okL_cons (ok_iload_n rfl dX0_joined_18) rfl ?_
  refine okL_cons (ok_i2l dX0_joined_19) rfl ?_
  refine okL_cons (ok_lstore_n rfl dX0_joined_20) rfl ?_
  refine okL_cons (ok_iload_n rfl dX0_joined_21) rfl ?_
  refine okL_cons (ok_sw rfl rfl (sw_all rfl) dX0_joined_22) rfl ?_
  refine okL_cons (ok_lload_n rfl dX0_joined_64) rfl ?_
  refine okL_cons (ok_iload_n rfl dX0_joined_65) rfl ?_
  refine okL_cons (ok_i2l dX0_joined_66) rfl ?_
  refine okL_cons (ok_ladd dX0_joined_67) rfl ?_
  refine okL_cons (ok_lstore dX0_joined_68) rfl ?_
  refine okL_cons (ok_goto rfl dX0_joined_70) rfl ?_
  refine okL_cons (ok_lload_n rfl dX0_joined_73) rfl ?_
  refine okL_cons (ok_iload_n rfl dX0_joined_74) rfl ?_
  refine okL_cons (ok_i2l dX0_joined_75) rfl ?_
  refine okL_cons (ok_lsub dX0_joined_76) rfl ?_
  refine okL_cons (ok_lstore dX0_joined_77) rfl ?_
  refine okL_cons (ok_goto rfl dX0_joined_79) rfl ?_
  refine okL_cons (ok_lload_n rfl dX0_joined_82) rfl ?_
  refine okL_cons (ok_iload_n rfl dX0_joined_83) rfl ?_
  refine okL_cons (ok_i2l dX0_joined_84) rfl ?_
  refine okL_cons (ok_lmul dX0_joined_85) rfl ?_
  refine okL_cons (ok_lstore dX0_joined_86) rfl ?_
  refine okL_cons (ok_goto rfl dX0_joined_88) rfl ?_
  refine okL_cons (ok_lload_n rfl dX0_joined_91) rfl ?_
  refine okL_cons (ok_iload_n rfl dX0_joined_92) rfl ?_
  refine okL_cons (ok_i2l dX0_joined_93) rfl ?_
  refine okL_cons (ok_ldiv dX0_joined_94) rfl ?_
  refine okL_cons (ok_lstore dX0_joined_95) rfl ?_
  refine okL_cons (ok_goto rfl dX0_joined_97) rfl ?_
  refine okL_cons (ok_lload_n rfl dX0_joined_100) rfl ?_
  refine okL_cons (ok_iload_n rfl dX0_joined_101) rfl ?_
  refine okL_cons (ok_i2l dX0_joined_102) rfl ?_
  refine okL_cons (ok_lrem dX0_joined_103) rfl ?_
  refine okL_cons (ok_lstore dX0_joined_104) rfl ?_
  refine okL_cons (ok_goto rfl dX0_joined_106) rfl ?_
  refine okL_cons (ok_iload_n rfl dX0_joined_109) rfl ?_
  refine okL_cons (ok_iload_n rfl dX0_joined_110) rfl ?_
  refine okL_cons (ok_icmp_ge rfl dX0_joined_111) rfl ?_
  refine okL_cons (ok_iconst rfl dX0_joined_114) rfl ?_
  refine okL_cons (ok_goto rfl dX0_joined_115) rfl ?_
  refine okL_cons (ok_iconst rfl dX0_joined_118) rfl ?_
  refine okL_cons (ok_ireturn rfl dX0_joined_119) rfl ?_
  refine okL_cons (ok_iload_n rfl dX0_joined_120) rfl ?_
  refine okL_cons (ok_iload_n rfl dX0_joined_121) rfl ?_
  refine okL_cons (ok_icmp_le rfl dX0_joined_122) rfl ?_
  refine okL_cons (ok_iconst rfl dX0_joined_125) rfl ?_
  refine okL_cons (ok_goto rfl dX0_joined_126) rfl ?_
  refine okL_cons (ok_iconst rfl dX0_joined_129) rfl ?_
  refine okL_cons (ok_ireturn rfl dX0_joined_130) rfl ?_
  refine okL_cons (ok_iload_n rfl dX0_joined_131) rfl ?_
  refine okL_cons (ok_iload_n rfl dX0_joined_132) rfl ?_
  refine okL_cons (ok_icmp_ne rfl dX0_joined_133) rfl ?_
  refine okL_cons (ok_iconst rfl dX0_joined_136) rfl ?_
  refine okL_cons (ok_goto rfl dX0_joined_137) rfl ?_
  refine okL_cons (ok_iconst rfl dX0_joined_140) rfl ?_
  refine okL_cons (ok_ireturn rfl dX0_joined_141) rfl ?_
  refine okL_cons (ok_lload dX0_joined_142) rfl ?_
  refine okL_cons (ok_ldc2 kw_42 dX0_joined_144) rfl ?_
  refine okL_cons (ok_lcmp dX0_joined_147) rfl ?_
  refine okL_cons (ok_if_gt rfl dX0_joined_148) rfl ?_
  refine okL_cons (ok_lload dX0_joined_151) rfl ?_
  refine okL_cons (ok_ldc2 kw_43 dX0_joined_153) rfl ?_
  refine okL_cons (ok_lcmp dX0_joined_156) rfl ?_
  refine okL_cons (ok_if_ge rfl dX0_joined_157) rfl ?_
  refine okL_cons (ok_ldc kw_33 dX0_joined_160) rfl ?_
  refine okL_cons (ok_goto rfl dX0_joined_162) rfl ?_
  refine okL_cons (ok_lload dX0_joined_165) rfl ?_
  refine okL_cons (ok_l2i dX0_joined_167) rfl ?_
  exact okL_one (ok_ireturn rfl dX0_joined_168)
theorem dX1_init_0 : decode cX1_init 0 = .ok (.aload_n 0, 1) := by decide +kernel
theorem dX1_init_1 : decode cX1_init 1 = .ok (.invokespecial 3, 3) := by decide +kernel
theorem dX1_init_4 : decode cX1_init 4 = .ok (.aload_n 0, 1) := by decide +kernel
theorem dX1_init_5 : decode cX1_init 5 = .ok (.new 9, 3) := by decide +kernel
theorem dX1_init_8 : decode cX1_init 8 = .ok (.dup, 1) := by decide +kernel
theorem dX1_init_9 : decode cX1_init 9 = .ok (.invokespecial 11, 3) := by decide +kernel
theorem dX1_init_12 : decode cX1_init 12 = .ok (.putfield 12, 3) := by decide +kernel
theorem dX1_init_15 : decode cX1_init 15 = .ok (.aload_n 0, 1) := by decide +kernel
theorem dX1_init_16 : decode cX1_init 16 = .ok (.iconst 1, 1) := by decide +kernel
theorem dX1_init_17 : decode cX1_init 17 = .ok (.putfield 18, 3) := by decide +kernel
theorem dX1_init_20 : decode cX1_init 20 = .ok (.aload_n 0, 1) := by decide +kernel
theorem dX1_init_21 : decode cX1_init 21 = .ok (.bipush 6, 2) := by decide +kernel
theorem dX1_init_23 : decode cX1_init 23 = .ok (.newarray .int, 2) := by decide +kernel
theorem dX1_init_25 : decode cX1_init 25 = .ok (.putfield 22, 3) := by decide +kernel
theorem dX1_init_28 : decode cX1_init 28 = .ok (.aload_n 0, 1) := by decide +kernel
theorem dX1_init_29 : decode cX1_init 29 = .ok (.bipush 6, 2) := by decide +kernel
theorem dX1_init_31 : decode cX1_init 31 = .ok (.newarray .int, 2) := by decide +kernel
theorem dX1_init_33 : decode cX1_init 33 = .ok (.putfield 26, 3) := by decide +kernel
theorem dX1_init_36 : decode cX1_init 36 = .ok (.aload_n 0, 1) := by decide +kernel
theorem dX1_init_37 : decode cX1_init 37 = .ok (.bipush 6, 2) := by decide +kernel
theorem dX1_init_39 : decode cX1_init 39 = .ok (.anewarray 29, 3) := by decide +kernel
theorem dX1_init_42 : decode cX1_init 42 = .ok (.putfield 31, 3) := by decide +kernel
theorem dX1_init_45 : decode cX1_init 45 = .ok (.aload_n 0, 1) := by decide +kernel
theorem dX1_init_46 : decode cX1_init 46 = .ok (.iconst (-1), 1) := by decide +kernel
theorem dX1_init_47 : decode cX1_init 47 = .ok (.putfield 35, 3) := by decide +kernel
theorem dX1_init_50 : decode cX1_init 50 = .ok (.iconst 0, 1) := by decide +kernel
theorem dX1_init_51 : decode cX1_init 51 = .ok (.istore_n 1, 1) := by decide +kernel
theorem dX1_init_52 : decode cX1_init 52 = .ok (.iload_n 1, 1) := by decide +kernel
theorem dX1_init_53 : decode cX1_init 53 = .ok (.bipush 6, 2) := by decide +kernel
theorem dX1_init_55 : decode cX1_init 55 = .ok (.if_icmp .ge 22, 3) := by decide +kernel
theorem dX1_init_58 : decode cX1_init 58 = .ok (.aload_n 0, 1) := by decide +kernel
theorem dX1_init_59 : decode cX1_init 59 = .ok (.getfield 31, 3) := by decide +kernel
theorem dX1_init_62 : decode cX1_init 62 = .ok (.iload_n 1, 1) := by decide +kernel
theorem dX1_init_63 : decode cX1_init 63 = .ok (.new 29, 3) := by decide +kernel
theorem dX1_init_66 : decode cX1_init 66 = .ok (.dup, 1) := by decide +kernel
theorem dX1_init_67 : decode cX1_init 67 = .ok (.invokespecial 38, 3) := by decide +kernel
theorem dX1_init_70 : decode cX1_init 70 = .ok (.aastore, 1) := by decide +kernel
theorem dX1_init_71 : decode cX1_init 71 = .ok (.iinc 1 1, 3) := by decide +kernel
theorem dX1_init_74 : decode cX1_init 74 = .ok (.goto (-22), 3) := by decide +kernel
theorem dX1_init_77 : decode cX1_init 77 = .ok (.return_, 1) := by decide +kernel
set_option maxRecDepth 100000 in
theorem okm_X1_init : okL RX1 cX1_init 2 none "<init>" pcX1_init opX1_init pcX1_init := by
  unfold opX1_init
  refine okL_cons (ok_aload_n rfl dX1_init_0) rfl ?_
  refine okL_cons (ok_obj kw_44 kw_29 kw_30 dX1_init_1) rfl ?_
  refine okL_cons (ok_aload_n rfl dX1_init_4) rfl ?_
  refine okL_cons (ok_new kw_45 kw_46 kw_47 cf_X2 dX1_init_5) rfl ?_
  refine okL_cons (ok_dup dX1_init_8) rfl ?_
  refine okL_cons (ok_invI (M' := 16) kw_48 kw_49 kw_47 kw_50 cf_X2 rfl rfl rfl (by decide +kernel) dX1_init_9) rfl ?_
  refine okL_cons (ok_putPF kw_51 cf_X1 rfl rfl (by decide) rfl rfl rfl dX1_init_12) rfl ?_
  refine okL_cons (ok_aload_n rfl dX1_init_15) rfl ?_
  refine okL_cons (ok_iconst rfl dX1_init_16) rfl ?_
  refine okL_cons (ok_putI kw_52 cf_X1 rfl rfl (by decide) rfl dX1_init_17) rfl ?_
  refine okL_cons (ok_aload_n rfl dX1_init_20) rfl ?_
  refine okL_cons (ok_bipush rfl dX1_init_21) rfl ?_
  refine okL_cons (ok_newarray_int kw_31 dX1_init_23) rfl ?_
  refine okL_cons (ok_putPF kw_53 cf_X1 rfl rfl (by decide) rfl rfl rfl dX1_init_25) rfl ?_
  refine okL_cons (ok_aload_n rfl dX1_init_28) rfl ?_
  refine okL_cons (ok_bipush rfl dX1_init_29) rfl ?_
  refine okL_cons (ok_newarray_int kw_31 dX1_init_31) rfl ?_
  refine okL_cons (ok_putPF kw_54 cf_X1 rfl rfl (by decide) rfl rfl rfl dX1_init_33) rfl ?_
  refine okL_cons (ok_aload_n rfl dX1_init_36) rfl ?_
  refine okL_cons (ok_bipush rfl dX1_init_37) rfl ?_
  refine okL_cons (ok_newQ (by decide) kw_55 dX1_init_39) rfl ?_
  refine okL_cons (ok_putPF kw_56 cf_X1 rfl rfl (by decide) rfl rfl rfl dX1_init_42) rfl ?_
  refine okL_cons (ok_aload_n rfl dX1_init_45) rfl ?_
  refine okL_cons (ok_iconst rfl dX1_init_46) rfl ?_
  refine okL_cons (ok_putI kw_57 cf_X1 rfl rfl (by decide) rfl dX1_init_47) rfl ?_
  refine okL_cons (ok_iconst rfl dX1_init_50) rfl ?_
  refine okL_cons (ok_istore_n rfl dX1_init_51) rfl ?_
  refine okL_cons (ok_iload_n rfl dX1_init_52) rfl ?_
  refine okL_cons (ok_bipush rfl dX1_init_53) rfl ?_
  refine okL_cons (ok_icmp_ge rfl dX1_init_55) rfl ?_
  refine okL_cons (ok_aload_n rfl dX1_init_58) rfl ?_
  refine okL_cons (ok_getP kw_56 cf_X1 rfl rfl (by decide) dX1_init_59) rfl ?_
  refine okL_cons (ok_iload_n rfl dX1_init_62) rfl ?_
  refine okL_cons (ok_new kw_55 kw_58 kw_59 cf_X9 dX1_init_63) rfl ?_
  refine okL_cons (ok_dup dX1_init_66) rfl ?_
  refine okL_cons (ok_invNI (M' := 91) 0 kw_60 kw_59 kw_61 cf_X9 rfl rfl rfl rfl (by decide +kernel) dX1_init_67) rfl ?_
  refine okL_cons (ok_aastore (by decide) (by decide) rfl dX1_init_70) rfl ?_
  refine okL_cons (ok_iinc rfl dX1_init_71) rfl ?_
  refine okL_cons (ok_goto rfl dX1_init_74) rfl ?_
  exact okL_one (ok_return rfl dX1_init_77)
theorem dX1_copy_0 : decode cX1_copy 0 = .ok (.aload_n 0, 1) := by decide +kernel
theorem dX1_copy_1 : decode cX1_copy 1 = .ok (.getfield 12, 3) := by decide +kernel
theorem dX1_copy_4 : decode cX1_copy 4 = .ok (.aload_n 1, 1) := by decide +kernel
theorem dX1_copy_5 : decode cX1_copy 5 = .ok (.getfield 12, 3) := by decide +kernel
theorem dX1_copy_8 : decode cX1_copy 8 = .ok (.invokevirtual 39, 3) := by decide +kernel
theorem dX1_copy_11 : decode cX1_copy 11 = .ok (.aload_n 0, 1) := by decide +kernel
theorem dX1_copy_12 : decode cX1_copy 12 = .ok (.aload_n 1, 1) := by decide +kernel
theorem dX1_copy_13 : decode cX1_copy 13 = .ok (.getfield 43, 3) := by decide +kernel
theorem dX1_copy_16 : decode cX1_copy 16 = .ok (.putfield 43, 3) := by decide +kernel
theorem dX1_copy_19 : decode cX1_copy 19 = .ok (.aload_n 0, 1) := by decide +kernel
theorem dX1_copy_20 : decode cX1_copy 20 = .ok (.aload_n 1, 1) := by decide +kernel
theorem dX1_copy_21 : decode cX1_copy 21 = .ok (.getfield 18, 3) := by decide +kernel
theorem dX1_copy_24 : decode cX1_copy 24 = .ok (.putfield 18, 3) := by decide +kernel
theorem dX1_copy_27 : decode cX1_copy 27 = .ok (.aload_n 0, 1) := by decide +kernel
theorem dX1_copy_28 : decode cX1_copy 28 = .ok (.aload_n 1, 1) := by decide +kernel
theorem dX1_copy_29 : decode cX1_copy 29 = .ok (.getfield 46, 3) := by decide +kernel
theorem dX1_copy_32 : decode cX1_copy 32 = .ok (.putfield 46, 3) := by decide +kernel
theorem dX1_copy_35 : decode cX1_copy 35 = .ok (.aload_n 1, 1) := by decide +kernel
theorem dX1_copy_36 : decode cX1_copy 36 = .ok (.getfield 22, 3) := by decide +kernel
theorem dX1_copy_39 : decode cX1_copy 39 = .ok (.iconst 0, 1) := by decide +kernel
theorem dX1_copy_40 : decode cX1_copy 40 = .ok (.aload_n 0, 1) := by decide +kernel
theorem dX1_copy_41 : decode cX1_copy 41 = .ok (.getfield 22, 3) := by decide +kernel
theorem dX1_copy_44 : decode cX1_copy 44 = .ok (.iconst 0, 1) := by decide +kernel
theorem dX1_copy_45 : decode cX1_copy 45 = .ok (.bipush 6, 2) := by decide +kernel
theorem dX1_copy_47 : decode cX1_copy 47 = .ok (.invokestatic 49, 3) := by decide +kernel
theorem dX1_copy_50 : decode cX1_copy 50 = .ok (.aload_n 1, 1) := by decide +kernel
theorem dX1_copy_51 : decode cX1_copy 51 = .ok (.getfield 26, 3) := by decide +kernel
theorem dX1_copy_54 : decode cX1_copy 54 = .ok (.iconst 0, 1) := by decide +kernel
theorem dX1_copy_55 : decode cX1_copy 55 = .ok (.aload_n 0, 1) := by decide +kernel
theorem dX1_copy_56 : decode cX1_copy 56 = .ok (.getfield 26, 3) := by decide +kernel
theorem dX1_copy_59 : decode cX1_copy 59 = .ok (.iconst 0, 1) := by decide +kernel
theorem dX1_copy_60 : decode cX1_copy 60 = .ok (.bipush 6, 2) := by decide +kernel
theorem dX1_copy_62 : decode cX1_copy 62 = .ok (.invokestatic 49, 3) := by decide +kernel
theorem dX1_copy_65 : decode cX1_copy 65 = .ok (.aload_n 0, 1) := by decide +kernel
theorem dX1_copy_66 : decode cX1_copy 66 = .ok (.aload_n 1, 1) := by decide +kernel
theorem dX1_copy_67 : decode cX1_copy 67 = .ok (.getfield 55, 3) := by decide +kernel
theorem dX1_copy_70 : decode cX1_copy 70 = .ok (.putfield 55, 3) := by decide +kernel
theorem dX1_copy_73 : decode cX1_copy 73 = .ok (.iconst 0, 1) := by decide +kernel
theorem dX1_copy_74 : decode cX1_copy 74 = .ok (.istore_n 2, 1) := by decide +kernel
theorem dX1_copy_75 : decode cX1_copy 75 = .ok (.iload_n 2, 1) := by decide +kernel
theorem dX1_copy_76 : decode cX1_copy 76 = .ok (.aload_n 1, 1) := by decide +kernel
theorem dX1_copy_77 : decode cX1_copy 77 = .ok (.getfield 58, 3) := by decide +kernel
theorem dX1_copy_80 : decode cX1_copy 80 = .ok (.if_icmp .ge 24, 3) := by decide +kernel
theorem dX1_copy_83 : decode cX1_copy 83 = .ok (.aload_n 0, 1) := by decide +kernel
theorem dX1_copy_84 : decode cX1_copy 84 = .ok (.getfield 31, 3) := by decide +kernel
theorem dX1_copy_87 : decode cX1_copy 87 = .ok (.iload_n 2, 1) := by decide +kernel
theorem dX1_copy_88 : decode cX1_copy 88 = .ok (.aaload, 1) := by decide +kernel
theorem dX1_copy_89 : decode cX1_copy 89 = .ok (.aload_n 1, 1) := by decide +kernel
theorem dX1_copy_90 : decode cX1_copy 90 = .ok (.getfield 31, 3) := by decide +kernel
theorem dX1_copy_93 : decode cX1_copy 93 = .ok (.iload_n 2, 1) := by decide +kernel
theorem dX1_copy_94 : decode cX1_copy 94 = .ok (.aaload, 1) := by decide +kernel
theorem dX1_copy_95 : decode cX1_copy 95 = .ok (.invokevirtual 61, 3) := by decide +kernel
theorem dX1_copy_98 : decode cX1_copy 98 = .ok (.iinc 2 1, 3) := by decide +kernel
theorem dX1_copy_101 : decode cX1_copy 101 = .ok (.goto (-26), 3) := by decide +kernel
theorem dX1_copy_104 : decode cX1_copy 104 = .ok (.aload_n 0, 1) := by decide +kernel
theorem dX1_copy_105 : decode cX1_copy 105 = .ok (.aload_n 1, 1) := by decide +kernel
theorem dX1_copy_106 : decode cX1_copy 106 = .ok (.getfield 58, 3) := by decide +kernel
theorem dX1_copy_109 : decode cX1_copy 109 = .ok (.putfield 58, 3) := by decide +kernel
theorem dX1_copy_112 : decode cX1_copy 112 = .ok (.aload_n 0, 1) := by decide +kernel
theorem dX1_copy_113 : decode cX1_copy 113 = .ok (.aload_n 1, 1) := by decide +kernel
theorem dX1_copy_114 : decode cX1_copy 114 = .ok (.getfield 35, 3) := by decide +kernel
theorem dX1_copy_117 : decode cX1_copy 117 = .ok (.putfield 35, 3) := by decide +kernel
theorem dX1_copy_120 : decode cX1_copy 120 = .ok (.return_, 1) := by decide +kernel
set_option maxRecDepth 100000 in
theorem okm_X1_copy : okL RX1 cX1_copy 3 none "copy" pcX1_copy opX1_copy pcX1_copy := by
  unfold opX1_copy
  refine okL_cons (ok_aload_n rfl dX1_copy_0) rfl ?_
  refine okL_cons (ok_getP kw_51 cf_X1 rfl rfl (by decide) dX1_copy_1) rfl ?_
  refine okL_cons (ok_aload_n rfl dX1_copy_4) rfl ?_
  refine okL_cons (ok_getP kw_51 cf_X1 rfl rfl (by decide) dX1_copy_5) rfl ?_
  refine okL_cons (ok_invV (M' := 17) kw_62 kw_63 kw_64 kw_47 kw_65 cf_X2 rfl (by decide +kernel) dX1_copy_8) rfl ?_
  refine okL_cons (ok_aload_n rfl dX1_copy_11) rfl ?_
  refine okL_cons (ok_aload_n rfl dX1_copy_12) rfl ?_
  refine okL_cons (ok_getI kw_66 cf_X1 rfl rfl (by decide) dX1_copy_13) rfl ?_
  refine okL_cons (ok_putI kw_66 cf_X1 rfl rfl (by decide) rfl dX1_copy_16) rfl ?_
  refine okL_cons (ok_aload_n rfl dX1_copy_19) rfl ?_
  refine okL_cons (ok_aload_n rfl dX1_copy_20) rfl ?_
  refine okL_cons (ok_getI kw_52 cf_X1 rfl rfl (by decide) dX1_copy_21) rfl ?_
  refine okL_cons (ok_putI kw_52 cf_X1 rfl rfl (by decide) rfl dX1_copy_24) rfl ?_
  refine okL_cons (ok_aload_n rfl dX1_copy_27) rfl ?_
  refine okL_cons (ok_aload_n rfl dX1_copy_28) rfl ?_
  refine okL_cons (ok_getI kw_67 cf_X1 rfl rfl (by decide) dX1_copy_29) rfl ?_
  refine okL_cons (ok_putI kw_67 cf_X1 rfl rfl (by decide) rfl dX1_copy_32) rfl ?_
  refine okL_cons (ok_aload_n rfl dX1_copy_35) rfl ?_
  refine okL_cons (ok_getP kw_53 cf_X1 rfl rfl (by decide) dX1_copy_36) rfl ?_
  refine okL_cons (ok_iconst rfl dX1_copy_39) rfl ?_
  refine okL_cons (ok_aload_n rfl dX1_copy_40) rfl ?_
  refine okL_cons (ok_getP kw_53 cf_X1 rfl rfl (by decide) dX1_copy_41) rfl ?_
  refine okL_cons (ok_iconst rfl dX1_copy_44) rfl ?_
  refine okL_cons (ok_bipush rfl dX1_copy_45) rfl ?_
  refine okL_cons (ok_cpy kw_68 kw_69 kw_70 kw_71 dX1_copy_47) rfl ?_
  refine okL_cons (ok_aload_n rfl dX1_copy_50) rfl ?_
  refine okL_cons (ok_getP kw_54 cf_X1 rfl rfl (by decide) dX1_copy_51) rfl ?_
  refine okL_cons (ok_iconst rfl dX1_copy_54) rfl ?_
  refine okL_cons (ok_aload_n rfl dX1_copy_55) rfl ?_
  refine okL_cons (ok_getP kw_54 cf_X1 rfl rfl (by decide) dX1_copy_56) rfl ?_
  refine okL_cons (ok_iconst rfl dX1_copy_59) rfl ?_
  refine okL_cons (ok_bipush rfl dX1_copy_60) rfl ?_
  refine okL_cons (ok_cpy kw_68 kw_69 kw_70 kw_71 dX1_copy_62) rfl ?_
  refine okL_cons (ok_aload_n rfl dX1_copy_65) rfl ?_
  refine okL_cons (ok_aload_n rfl dX1_copy_66) rfl ?_
  refine okL_cons (ok_getI kw_72 cf_X1 rfl rfl (by decide) dX1_copy_67) rfl ?_
  refine okL_cons (ok_putI kw_72 cf_X1 rfl rfl (by decide) rfl dX1_copy_70) rfl ?_
  refine okL_cons (ok_iconst rfl dX1_copy_73) rfl ?_
  refine okL_cons (ok_istore_n rfl dX1_copy_74) rfl ?_
  refine okL_cons (ok_iload_n rfl dX1_copy_75) rfl ?_
  refine okL_cons (ok_aload_n rfl dX1_copy_76) rfl ?_
  refine okL_cons (ok_getI kw_73 cf_X1 rfl rfl (by decide) dX1_copy_77) rfl ?_
  refine okL_cons (ok_icmp_ge rfl dX1_copy_80) rfl ?_
  refine okL_cons (ok_aload_n rfl dX1_copy_83) rfl ?_
  refine okL_cons (ok_getP kw_56 cf_X1 rfl rfl (by decide) dX1_copy_84) rfl ?_
  refine okL_cons (ok_iload_n rfl dX1_copy_87) rfl ?_
  refine okL_cons (ok_aaload (by decide) dX1_copy_88) rfl ?_
  refine okL_cons (ok_aload_n rfl dX1_copy_89) rfl ?_
  refine okL_cons (ok_getP kw_56 cf_X1 rfl rfl (by decide) dX1_copy_90) rfl ?_
  refine okL_cons (ok_iload_n rfl dX1_copy_93) rfl ?_
  refine okL_cons (ok_aaload (by decide) dX1_copy_94) rfl ?_
  refine okL_cons (ok_invV (M' := 92) kw_74 kw_75 kw_76 kw_59 kw_77 cf_X9 rfl (by decide +kernel) dX1_copy_95) rfl ?_
  refine okL_cons (ok_iinc rfl dX1_copy_98) rfl ?_
  refine okL_cons (ok_goto rfl dX1_copy_101) rfl ?_
  refine okL_cons (ok_aload_n rfl dX1_copy_104) rfl ?_
  refine okL_cons (ok_aload_n rfl dX1_copy_105) rfl ?_
  refine okL_cons (ok_getI kw_73 cf_X1 rfl rfl (by decide) dX1_copy_106) rfl ?_
  refine okL_cons (ok_putI kw_73 cf_X1 rfl rfl (by decide) rfl dX1_copy_109) rfl ?_
  refine okL_cons (ok_aload_n rfl dX1_copy_112) rfl ?_
  refine okL_cons (ok_aload_n rfl dX1_copy_113) rfl ?_
  refine okL_cons (ok_getI kw_57 cf_X1 rfl rfl (by decide) dX1_copy_114) rfl ?_
  refine okL_cons (ok_putI kw_57 cf_X1 rfl rfl (by decide) rfl dX1_copy_117) rfl ?_
  exact okL_one (ok_return rfl dX1_copy_120)
theorem dX1_hasDoor_0 : decode cX1_hasDoor 0 = .ok (.iload_n 1, 1) := by decide +kernel
theorem dX1_hasDoor_1 : decode cX1_hasDoor 1 = .ok (.aload_n 0, 1) := by decide +kernel
theorem dX1_hasDoor_2 : decode cX1_hasDoor 2 = .ok (.getfield 43, 3) := by decide +kernel
theorem dX1_hasDoor_5 : decode cX1_hasDoor 5 = .ok (.invokestatic 64, 3) := by decide +kernel
theorem dX1_hasDoor_8 : decode cX1_hasDoor 8 = .ok (.ireturn, 1) := by decide +kernel
set_option maxRecDepth 100000 in
theorem okm_X1_hasDoor : okL RX1 cX1_hasDoor 2 (some .boolean) "hasDoor" pcX1_hasDoor opX1_hasDoor pcX1_hasDoor := by
  unfold opX1_hasDoor
  refine okL_cons (ok_iload_n rfl dX1_hasDoor_0) rfl ?_
  refine okL_cons (ok_aload_n rfl dX1_hasDoor_1) rfl ?_
  refine okL_cons (ok_getI kw_66 cf_X1 rfl rfl (by decide) dX1_hasDoor_2) rfl ?_
  refine okL_cons (ok_invNS (M' := 162) 7 kw_78 kw_79 kw_80 rfl rfl (by decide +kernel) dX1_hasDoor_5) rfl ?_
  exact okL_one (ok_zreturn rfl dX1_hasDoor_8)
theorem dX1_setDoor_0 : decode cX1_setDoor 0 = .ok (.aload_n 0, 1) := by decide +kernel
theorem dX1_setDoor_1 : decode cX1_setDoor 1 = .ok (.iload_n 2, 1) := by decide +kernel
theorem dX1_setDoor_2 : decode cX1_setDoor 2 = .ok (.ifCond .eq 14, 3) := by decide +kernel
theorem dX1_setDoor_5 : decode cX1_setDoor 5 = .ok (.aload_n 0, 1) := by decide +kernel
theorem dX1_setDoor_6 : decode cX1_setDoor 6 = .ok (.getfield 43, 3) := by decide +kernel
theorem dX1_setDoor_9 : decode cX1_setDoor 9 = .ok (.iconst 1, 1) := by decide +kernel
theorem dX1_setDoor_10 : decode cX1_setDoor 10 = .ok (.iload_n 1, 1) := by decide +kernel
theorem dX1_setDoor_11 : decode cX1_setDoor 11 = .ok (.ishl, 1) := by decide +kernel
theorem dX1_setDoor_12 : decode cX1_setDoor 12 = .ok (.ior, 1) := by decide +kernel
theorem dX1_setDoor_13 : decode cX1_setDoor 13 = .ok (.goto 13, 3) := by decide +kernel
theorem dX1_setDoor_16 : decode cX1_setDoor 16 = .ok (.aload_n 0, 1) := by decide +kernel
theorem dX1_setDoor_17 : decode cX1_setDoor 17 = .ok (.getfield 43, 3) := by decide +kernel
theorem dX1_setDoor_20 : decode cX1_setDoor 20 = .ok (.iconst 1, 1) := by decide +kernel
theorem dX1_setDoor_21 : decode cX1_setDoor 21 = .ok (.iload_n 1, 1) := by decide +kernel
theorem dX1_setDoor_22 : decode cX1_setDoor 22 = .ok (.ishl, 1) := by decide +kernel
theorem dX1_setDoor_23 : decode cX1_setDoor 23 = .ok (.iconst (-1), 1) := by decide +kernel
theorem dX1_setDoor_24 : decode cX1_setDoor 24 = .ok (.ixor, 1) := by decide +kernel
theorem dX1_setDoor_25 : decode cX1_setDoor 25 = .ok (.iand, 1) := by decide +kernel
theorem dX1_setDoor_26 : decode cX1_setDoor 26 = .ok (.putfield 43, 3) := by decide +kernel
theorem dX1_setDoor_29 : decode cX1_setDoor 29 = .ok (.return_, 1) := by decide +kernel
set_option maxRecDepth 100000 in
theorem okm_X1_setDoor : okL RX1 cX1_setDoor 3 none "setDoor" pcX1_setDoor opX1_setDoor pcX1_setDoor := by
  unfold opX1_setDoor
  refine okL_cons (ok_aload_n rfl dX1_setDoor_0) rfl ?_
  refine okL_cons (ok_iload_n rfl dX1_setDoor_1) rfl ?_
  refine okL_cons (ok_if_eq rfl dX1_setDoor_2) rfl ?_
  refine okL_cons (ok_aload_n rfl dX1_setDoor_5) rfl ?_
  refine okL_cons (ok_getI kw_66 cf_X1 rfl rfl (by decide) dX1_setDoor_6) rfl ?_
  refine okL_cons (ok_iconst rfl dX1_setDoor_9) rfl ?_
  refine okL_cons (ok_iload_n rfl dX1_setDoor_10) rfl ?_
  refine okL_cons (ok_ishl dX1_setDoor_11) rfl ?_
  refine okL_cons (ok_ior dX1_setDoor_12) rfl ?_
  refine okL_cons (ok_goto rfl dX1_setDoor_13) rfl ?_
  refine okL_cons (ok_aload_n rfl dX1_setDoor_16) rfl ?_
  refine okL_cons (ok_getI kw_66 cf_X1 rfl rfl (by decide) dX1_setDoor_17) rfl ?_
  refine okL_cons (ok_iconst rfl dX1_setDoor_20) rfl ?_
  refine okL_cons (ok_iload_n rfl dX1_setDoor_21) rfl ?_
  refine okL_cons (ok_ishl dX1_setDoor_22) rfl ?_
  refine okL_cons (ok_iconst rfl dX1_setDoor_23) rfl ?_
  refine okL_cons (ok_ixor dX1_setDoor_24) rfl ?_
  refine okL_cons (ok_iand dX1_setDoor_25) rfl ?_
  refine okL_cons (ok_putI kw_66 cf_X1 rfl rfl (by decide) rfl dX1_setDoor_26) rfl ?_
  exact okL_one (ok_return rfl dX1_setDoor_29)
theorem dX2_init_0 : decode cX2_init 0 = .ok (.aload_n 0, 1) := by decide +kernel
theorem dX2_init_1 : decode cX2_init 1 = .ok (.invokespecial 3, 3) := by decide +kernel
theorem dX2_init_4 : decode cX2_init 4 = .ok (.aload_n 0, 1) := by decide +kernel
theorem dX2_init_5 : decode cX2_init 5 = .ok (.bipush 8, 2) := by decide +kernel
theorem dX2_init_7 : decode cX2_init 7 = .ok (.newarray .int, 2) := by decide +kernel
theorem dX2_init_9 : decode cX2_init 9 = .ok (.putfield 9, 3) := by decide +kernel
theorem dX2_init_12 : decode cX2_init 12 = .ok (.aload_n 0, 1) := by decide +kernel
theorem dX2_init_13 : decode cX2_init 13 = .ok (.bipush 8, 2) := by decide +kernel
theorem dX2_init_15 : decode cX2_init 15 = .ok (.newarray .int, 2) := by decide +kernel
theorem dX2_init_17 : decode cX2_init 17 = .ok (.putfield 15, 3) := by decide +kernel
theorem dX2_init_20 : decode cX2_init 20 = .ok (.aload_n 0, 1) := by decide +kernel
theorem dX2_init_21 : decode cX2_init 21 = .ok (.bipush 8, 2) := by decide +kernel
theorem dX2_init_23 : decode cX2_init 23 = .ok (.newarray .int, 2) := by decide +kernel
theorem dX2_init_25 : decode cX2_init 25 = .ok (.putfield 18, 3) := by decide +kernel
theorem dX2_init_28 : decode cX2_init 28 = .ok (.aload_n 0, 1) := by decide +kernel
theorem dX2_init_29 : decode cX2_init 29 = .ok (.bipush 25, 2) := by decide +kernel
theorem dX2_init_31 : decode cX2_init 31 = .ok (.newarray .int, 2) := by decide +kernel
theorem dX2_init_33 : decode cX2_init 33 = .ok (.putfield 21, 3) := by decide +kernel
theorem dX2_init_36 : decode cX2_init 36 = .ok (.iconst 0, 1) := by decide +kernel
theorem dX2_init_37 : decode cX2_init 37 = .ok (.istore_n 1, 1) := by decide +kernel
theorem dX2_init_38 : decode cX2_init 38 = .ok (.iload_n 1, 1) := by decide +kernel
theorem dX2_init_39 : decode cX2_init 39 = .ok (.bipush 8, 2) := by decide +kernel
theorem dX2_init_41 : decode cX2_init 41 = .ok (.if_icmp .ge 23, 3) := by decide +kernel
theorem dX2_init_44 : decode cX2_init 44 = .ok (.aload_n 0, 1) := by decide +kernel
theorem dX2_init_45 : decode cX2_init 45 = .ok (.getfield 15, 3) := by decide +kernel
theorem dX2_init_48 : decode cX2_init 48 = .ok (.iload_n 1, 1) := by decide +kernel
theorem dX2_init_49 : decode cX2_init 49 = .ok (.iconst (-1), 1) := by decide +kernel
theorem dX2_init_50 : decode cX2_init 50 = .ok (.iastore, 1) := by decide +kernel
theorem dX2_init_51 : decode cX2_init 51 = .ok (.aload_n 0, 1) := by decide +kernel
theorem dX2_init_52 : decode cX2_init 52 = .ok (.getfield 18, 3) := by decide +kernel
theorem dX2_init_55 : decode cX2_init 55 = .ok (.iload_n 1, 1) := by decide +kernel
theorem dX2_init_56 : decode cX2_init 56 = .ok (.iconst (-1), 1) := by decide +kernel
theorem dX2_init_57 : decode cX2_init 57 = .ok (.iastore, 1) := by decide +kernel
theorem dX2_init_58 : decode cX2_init 58 = .ok (.iinc 1 1, 3) := by decide +kernel
theorem dX2_init_61 : decode cX2_init 61 = .ok (.goto (-23), 3) := by decide +kernel
theorem dX2_init_64 : decode cX2_init 64 = .ok (.return_, 1) := by decide +kernel
set_option maxRecDepth 100000 in
theorem okm_X2_init : okL RX2 cX2_init 2 none "<init>" pcX2_init opX2_init pcX2_init := by
  unfold opX2_init
  refine okL_cons (ok_aload_n rfl dX2_init_0) rfl ?_
  refine okL_cons (ok_obj kw_81 kw_29 kw_30 dX2_init_1) rfl ?_
  refine okL_cons (ok_aload_n rfl dX2_init_4) rfl ?_
  refine okL_cons (ok_bipush rfl dX2_init_5) rfl ?_
  refine okL_cons (ok_newarray_int kw_31 dX2_init_7) rfl ?_
  refine okL_cons (ok_putPF kw_82 cf_X2 rfl rfl (by decide) rfl rfl rfl dX2_init_9) rfl ?_
  refine okL_cons (ok_aload_n rfl dX2_init_12) rfl ?_
  refine okL_cons (ok_bipush rfl dX2_init_13) rfl ?_
  refine okL_cons (ok_newarray_int kw_31 dX2_init_15) rfl ?_
  refine okL_cons (ok_putPF kw_83 cf_X2 rfl rfl (by decide) rfl rfl rfl dX2_init_17) rfl ?_
  refine okL_cons (ok_aload_n rfl dX2_init_20) rfl ?_
  refine okL_cons (ok_bipush rfl dX2_init_21) rfl ?_
  refine okL_cons (ok_newarray_int kw_31 dX2_init_23) rfl ?_
  refine okL_cons (ok_putPF kw_84 cf_X2 rfl rfl (by decide) rfl rfl rfl dX2_init_25) rfl ?_
  refine okL_cons (ok_aload_n rfl dX2_init_28) rfl ?_
  refine okL_cons (ok_bipush rfl dX2_init_29) rfl ?_
  refine okL_cons (ok_newarray_int kw_31 dX2_init_31) rfl ?_
  refine okL_cons (ok_putPF kw_85 cf_X2 rfl rfl (by decide) rfl rfl rfl dX2_init_33) rfl ?_
  refine okL_cons (ok_iconst rfl dX2_init_36) rfl ?_
  refine okL_cons (ok_istore_n rfl dX2_init_37) rfl ?_
  refine okL_cons (ok_iload_n rfl dX2_init_38) rfl ?_
  refine okL_cons (ok_bipush rfl dX2_init_39) rfl ?_
  refine okL_cons (ok_icmp_ge rfl dX2_init_41) rfl ?_
  refine okL_cons (ok_aload_n rfl dX2_init_44) rfl ?_
  refine okL_cons (ok_getP kw_83 cf_X2 rfl rfl (by decide) dX2_init_45) rfl ?_
  refine okL_cons (ok_iload_n rfl dX2_init_48) rfl ?_
  refine okL_cons (ok_iconst rfl dX2_init_49) rfl ?_
  refine okL_cons (ok_iastore dX2_init_50) rfl ?_
  refine okL_cons (ok_aload_n rfl dX2_init_51) rfl ?_
  refine okL_cons (ok_getP kw_84 cf_X2 rfl rfl (by decide) dX2_init_52) rfl ?_
  refine okL_cons (ok_iload_n rfl dX2_init_55) rfl ?_
  refine okL_cons (ok_iconst rfl dX2_init_56) rfl ?_
  refine okL_cons (ok_iastore dX2_init_57) rfl ?_
  refine okL_cons (ok_iinc rfl dX2_init_58) rfl ?_
  refine okL_cons (ok_goto rfl dX2_init_61) rfl ?_
  exact okL_one (ok_return rfl dX2_init_64)
theorem dX2_copy_0 : decode cX2_copy 0 = .ok (.aload_n 1, 1) := by decide +kernel
theorem dX2_copy_1 : decode cX2_copy 1 = .ok (.getfield 9, 3) := by decide +kernel
theorem dX2_copy_4 : decode cX2_copy 4 = .ok (.iconst 0, 1) := by decide +kernel
theorem dX2_copy_5 : decode cX2_copy 5 = .ok (.aload_n 0, 1) := by decide +kernel
theorem dX2_copy_6 : decode cX2_copy 6 = .ok (.getfield 9, 3) := by decide +kernel
theorem dX2_copy_9 : decode cX2_copy 9 = .ok (.iconst 0, 1) := by decide +kernel
theorem dX2_copy_10 : decode cX2_copy 10 = .ok (.bipush 8, 2) := by decide +kernel
theorem dX2_copy_12 : decode cX2_copy 12 = .ok (.invokestatic 24, 3) := by decide +kernel
theorem dX2_copy_15 : decode cX2_copy 15 = .ok (.aload_n 1, 1) := by decide +kernel
theorem dX2_copy_16 : decode cX2_copy 16 = .ok (.getfield 15, 3) := by decide +kernel
theorem dX2_copy_19 : decode cX2_copy 19 = .ok (.iconst 0, 1) := by decide +kernel
theorem dX2_copy_20 : decode cX2_copy 20 = .ok (.aload_n 0, 1) := by decide +kernel
theorem dX2_copy_21 : decode cX2_copy 21 = .ok (.getfield 15, 3) := by decide +kernel
theorem dX2_copy_24 : decode cX2_copy 24 = .ok (.iconst 0, 1) := by decide +kernel
theorem dX2_copy_25 : decode cX2_copy 25 = .ok (.bipush 8, 2) := by decide +kernel
theorem dX2_copy_27 : decode cX2_copy 27 = .ok (.invokestatic 24, 3) := by decide +kernel
theorem dX2_copy_30 : decode cX2_copy 30 = .ok (.aload_n 1, 1) := by decide +kernel
theorem dX2_copy_31 : decode cX2_copy 31 = .ok (.getfield 18, 3) := by decide +kernel
theorem dX2_copy_34 : decode cX2_copy 34 = .ok (.iconst 0, 1) := by decide +kernel
theorem dX2_copy_35 : decode cX2_copy 35 = .ok (.aload_n 0, 1) := by decide +kernel
theorem dX2_copy_36 : decode cX2_copy 36 = .ok (.getfield 18, 3) := by decide +kernel
theorem dX2_copy_39 : decode cX2_copy 39 = .ok (.iconst 0, 1) := by decide +kernel
theorem dX2_copy_40 : decode cX2_copy 40 = .ok (.bipush 8, 2) := by decide +kernel
theorem dX2_copy_42 : decode cX2_copy 42 = .ok (.invokestatic 24, 3) := by decide +kernel
theorem dX2_copy_45 : decode cX2_copy 45 = .ok (.aload_n 1, 1) := by decide +kernel
theorem dX2_copy_46 : decode cX2_copy 46 = .ok (.getfield 21, 3) := by decide +kernel
theorem dX2_copy_49 : decode cX2_copy 49 = .ok (.iconst 0, 1) := by decide +kernel
theorem dX2_copy_50 : decode cX2_copy 50 = .ok (.aload_n 0, 1) := by decide +kernel
theorem dX2_copy_51 : decode cX2_copy 51 = .ok (.getfield 21, 3) := by decide +kernel
theorem dX2_copy_54 : decode cX2_copy 54 = .ok (.iconst 0, 1) := by decide +kernel
theorem dX2_copy_55 : decode cX2_copy 55 = .ok (.bipush 25, 2) := by decide +kernel
theorem dX2_copy_57 : decode cX2_copy 57 = .ok (.invokestatic 24, 3) := by decide +kernel
theorem dX2_copy_60 : decode cX2_copy 60 = .ok (.aload_n 0, 1) := by decide +kernel
theorem dX2_copy_61 : decode cX2_copy 61 = .ok (.aload_n 1, 1) := by decide +kernel
theorem dX2_copy_62 : decode cX2_copy 62 = .ok (.getfield 30, 3) := by decide +kernel
theorem dX2_copy_65 : decode cX2_copy 65 = .ok (.putfield 30, 3) := by decide +kernel
theorem dX2_copy_68 : decode cX2_copy 68 = .ok (.return_, 1) := by decide +kernel
set_option maxRecDepth 100000 in
theorem okm_X2_copy : okL RX2 cX2_copy 2 none "copy" pcX2_copy opX2_copy pcX2_copy := by
  unfold opX2_copy
  refine okL_cons (ok_aload_n rfl dX2_copy_0) rfl ?_
  refine okL_cons (ok_getP kw_82 cf_X2 rfl rfl (by decide) dX2_copy_1) rfl ?_
  refine okL_cons (ok_iconst rfl dX2_copy_4) rfl ?_
  refine okL_cons (ok_aload_n rfl dX2_copy_5) rfl ?_
  refine okL_cons (ok_getP kw_82 cf_X2 rfl rfl (by decide) dX2_copy_6) rfl ?_
  refine okL_cons (ok_iconst rfl dX2_copy_9) rfl ?_
  refine okL_cons (ok_bipush rfl dX2_copy_10) rfl ?_
  refine okL_cons (ok_cpy kw_86 kw_69 kw_70 kw_71 dX2_copy_12) rfl ?_
  refine okL_cons (ok_aload_n rfl dX2_copy_15) rfl ?_
  refine okL_cons (ok_getP kw_83 cf_X2 rfl rfl (by decide) dX2_copy_16) rfl ?_
  refine okL_cons (ok_iconst rfl dX2_copy_19) rfl ?_
  refine okL_cons (ok_aload_n rfl dX2_copy_20) rfl ?_
  refine okL_cons (ok_getP kw_83 cf_X2 rfl rfl (by decide) dX2_copy_21) rfl ?_
  refine okL_cons (ok_iconst rfl dX2_copy_24) rfl ?_
  refine okL_cons (ok_bipush rfl dX2_copy_25) rfl ?_
  refine okL_cons (ok_cpy kw_86 kw_69 kw_70 kw_71 dX2_copy_27) rfl ?_
  refine okL_cons (ok_aload_n rfl dX2_copy_30) rfl ?_
  refine okL_cons (ok_getP kw_84 cf_X2 rfl rfl (by decide) dX2_copy_31) rfl ?_
  refine okL_cons (ok_iconst rfl dX2_copy_34) rfl ?_
  refine okL_cons (ok_aload_n rfl dX2_copy_35) rfl ?_
  refine okL_cons (ok_getP kw_84 cf_X2 rfl rfl (by decide) dX2_copy_36) rfl ?_
  refine okL_cons (ok_iconst rfl dX2_copy_39) rfl ?_
  refine okL_cons (ok_bipush rfl dX2_copy_40) rfl ?_
  refine okL_cons (ok_cpy kw_86 kw_69 kw_70 kw_71 dX2_copy_42) rfl ?_
  refine okL_cons (ok_aload_n rfl dX2_copy_45) rfl ?_
  refine okL_cons (ok_getP kw_85 cf_X2 rfl rfl (by decide) dX2_copy_46) rfl ?_
  refine okL_cons (ok_iconst rfl dX2_copy_49) rfl ?_
  refine okL_cons (ok_aload_n rfl dX2_copy_50) rfl ?_
  refine okL_cons (ok_getP kw_85 cf_X2 rfl rfl (by decide) dX2_copy_51) rfl ?_
  refine okL_cons (ok_iconst rfl dX2_copy_54) rfl ?_
  refine okL_cons (ok_bipush rfl dX2_copy_55) rfl ?_
  refine okL_cons (ok_cpy kw_86 kw_69 kw_70 kw_71 dX2_copy_57) rfl ?_
  refine okL_cons (ok_aload_n rfl dX2_copy_60) rfl ?_
  refine okL_cons (ok_aload_n rfl dX2_copy_61) rfl ?_
  refine okL_cons (ok_getI kw_87 cf_X2 rfl rfl (by decide) dX2_copy_62) rfl ?_
  refine okL_cons (ok_putI kw_87 cf_X2 rfl rfl (by decide) rfl dX2_copy_65) rfl ?_
  exact okL_one (ok_return rfl dX2_copy_68)
theorem dX2_told_0 : decode cX2_told 0 = .ok (.iload_n 1, 1) := by decide +kernel
theorem dX2_told_1 : decode cX2_told 1 = .ok (.invokestatic 34, 3) := by decide +kernel
theorem dX2_told_4 : decode cX2_told 4 = .ok (.ifCond .ne 5, 3) := by decide +kernel
theorem dX2_told_7 : decode cX2_told 7 = .ok (.iconst (-1), 1) := by decide +kernel
theorem dX2_told_8 : decode cX2_told 8 = .ok (.ireturn, 1) := by decide +kernel
theorem dX2_told_9 : decode cX2_told 9 = .ok (.iload_n 2, 1) := by decide +kernel
theorem dX2_told_10 : decode cX2_told 10 = .ok (.tableswitch 47 0 2 #[26, 33, 40], 26) := by decide +kernel
theorem dX2_told_36 : decode cX2_told 36 = .ok (.aload_n 0, 1) := by decide +kernel
theorem dX2_told_37 : decode cX2_told 37 = .ok (.getfield 9, 3) := by decide +kernel
theorem dX2_told_40 : decode cX2_told 40 = .ok (.iload_n 1, 1) := by decide +kernel
theorem dX2_told_41 : decode cX2_told 41 = .ok (.iaload, 1) := by decide +kernel
theorem dX2_told_42 : decode cX2_told 42 = .ok (.ireturn, 1) := by decide +kernel
theorem dX2_told_43 : decode cX2_told 43 = .ok (.aload_n 0, 1) := by decide +kernel
theorem dX2_told_44 : decode cX2_told 44 = .ok (.getfield 15, 3) := by decide +kernel
theorem dX2_told_47 : decode cX2_told 47 = .ok (.iload_n 1, 1) := by decide +kernel
theorem dX2_told_48 : decode cX2_told 48 = .ok (.iaload, 1) := by decide +kernel
theorem dX2_told_49 : decode cX2_told 49 = .ok (.ireturn, 1) := by decide +kernel
theorem dX2_told_50 : decode cX2_told 50 = .ok (.aload_n 0, 1) := by decide +kernel
theorem dX2_told_51 : decode cX2_told 51 = .ok (.getfield 18, 3) := by decide +kernel
theorem dX2_told_54 : decode cX2_told 54 = .ok (.iload_n 1, 1) := by decide +kernel
theorem dX2_told_55 : decode cX2_told 55 = .ok (.iaload, 1) := by decide +kernel
theorem dX2_told_56 : decode cX2_told 56 = .ok (.ireturn, 1) := by decide +kernel
theorem dX2_told_57 : decode cX2_told 57 = .ok (.iconst (-1), 1) := by decide +kernel
theorem dX2_told_58 : decode cX2_told 58 = .ok (.ireturn, 1) := by decide +kernel
set_option maxRecDepth 100000 in
theorem okm_X2_told : okL RX2 cX2_told 3 (some .int) "told" pcX2_told opX2_told pcX2_told := by
  unfold opX2_told
  refine okL_cons (ok_iload_n rfl dX2_told_0) rfl ?_
  refine okL_cons (ok_invNS (M' := 160) 10 kw_88 kw_79 kw_89 rfl rfl (by decide +kernel) dX2_told_1) rfl ?_
  refine okL_cons (ok_if_ne rfl dX2_told_4) rfl ?_
  refine okL_cons (ok_iconst rfl dX2_told_7) rfl ?_
  refine okL_cons (ok_ireturn rfl dX2_told_8) rfl ?_
  refine okL_cons (ok_iload_n rfl dX2_told_9) rfl ?_
  refine okL_cons (ok_sw rfl rfl (sw_all rfl) dX2_told_10) rfl ?_
  refine okL_cons (ok_aload_n rfl dX2_told_36) rfl ?_
  refine okL_cons (ok_getP kw_82 cf_X2 rfl rfl (by decide) dX2_told_37) rfl ?_
  refine okL_cons (ok_iload_n rfl dX2_told_40) rfl ?_
  refine okL_cons (ok_iaload dX2_told_41) rfl ?_
  refine okL_cons (ok_ireturn rfl dX2_told_42) rfl ?_
  refine okL_cons (ok_aload_n rfl dX2_told_43) rfl ?_
  refine okL_cons (ok_getP kw_83 cf_X2 rfl rfl (by decide) dX2_told_44) rfl ?_
  refine okL_cons (ok_iload_n rfl dX2_told_47) rfl ?_
  refine okL_cons (ok_iaload dX2_told_48) rfl ?_
  refine okL_cons (ok_ireturn rfl dX2_told_49) rfl ?_
  refine okL_cons (ok_aload_n rfl dX2_told_50) rfl ?_
  refine okL_cons (ok_getP kw_84 cf_X2 rfl rfl (by decide) dX2_told_51) rfl ?_
  refine okL_cons (ok_iload_n rfl dX2_told_54) rfl ?_
  refine okL_cons (ok_iaload dX2_told_55) rfl ?_
  refine okL_cons (ok_ireturn rfl dX2_told_56) rfl ?_
  refine okL_cons (ok_iconst rfl dX2_told_57) rfl ?_
  exact okL_one (ok_ireturn rfl dX2_told_58)
theorem dX2_lettersOn_0 : decode cX2_lettersOn 0 = .ok (.iconst 0, 1) := by decide +kernel
theorem dX2_lettersOn_1 : decode cX2_lettersOn 1 = .ok (.istore_n 2, 1) := by decide +kernel
theorem dX2_lettersOn_2 : decode cX2_lettersOn 2 = .ok (.iconst 0, 1) := by decide +kernel
theorem dX2_lettersOn_3 : decode cX2_lettersOn 3 = .ok (.istore_n 3, 1) := by decide +kernel
theorem dX2_lettersOn_4 : decode cX2_lettersOn 4 = .ok (.iload_n 3, 1) := by decide +kernel
theorem dX2_lettersOn_5 : decode cX2_lettersOn 5 = .ok (.bipush 8, 2) := by decide +kernel
theorem dX2_lettersOn_7 : decode cX2_lettersOn 7 = .ok (.if_icmp .ge 35, 3) := by decide +kernel
theorem dX2_lettersOn_10 : decode cX2_lettersOn 10 = .ok (.aload_n 0, 1) := by decide +kernel
theorem dX2_lettersOn_11 : decode cX2_lettersOn 11 = .ok (.getfield 9, 3) := by decide +kernel
theorem dX2_lettersOn_14 : decode cX2_lettersOn 14 = .ok (.iload_n 3, 1) := by decide +kernel
theorem dX2_lettersOn_15 : decode cX2_lettersOn 15 = .ok (.iaload, 1) := by decide +kernel
theorem dX2_lettersOn_16 : decode cX2_lettersOn 16 = .ok (.iconst 1, 1) := by decide +kernel
theorem dX2_lettersOn_17 : decode cX2_lettersOn 17 = .ok (.if_icmp .ne 19, 3) := by decide +kernel
theorem dX2_lettersOn_20 : decode cX2_lettersOn 20 = .ok (.aload_n 0, 1) := by decide +kernel
theorem dX2_lettersOn_21 : decode cX2_lettersOn 21 = .ok (.getfield 15, 3) := by decide +kernel
theorem dX2_lettersOn_24 : decode cX2_lettersOn 24 = .ok (.iload_n 3, 1) := by decide +kernel
theorem dX2_lettersOn_25 : decode cX2_lettersOn 25 = .ok (.iaload, 1) := by decide +kernel
theorem dX2_lettersOn_26 : decode cX2_lettersOn 26 = .ok (.iload_n 1, 1) := by decide +kernel
theorem dX2_lettersOn_27 : decode cX2_lettersOn 27 = .ok (.if_icmp .ne 9, 3) := by decide +kernel
theorem dX2_lettersOn_30 : decode cX2_lettersOn 30 = .ok (.iload_n 2, 1) := by decide +kernel
theorem dX2_lettersOn_31 : decode cX2_lettersOn 31 = .ok (.iconst 1, 1) := by decide +kernel
theorem dX2_lettersOn_32 : decode cX2_lettersOn 32 = .ok (.iload_n 3, 1) := by decide +kernel
theorem dX2_lettersOn_33 : decode cX2_lettersOn 33 = .ok (.ishl, 1) := by decide +kernel
theorem dX2_lettersOn_34 : decode cX2_lettersOn 34 = .ok (.ior, 1) := by decide +kernel
theorem dX2_lettersOn_35 : decode cX2_lettersOn 35 = .ok (.istore_n 2, 1) := by decide +kernel
theorem dX2_lettersOn_36 : decode cX2_lettersOn 36 = .ok (.iinc 3 1, 3) := by decide +kernel
theorem dX2_lettersOn_39 : decode cX2_lettersOn 39 = .ok (.goto (-35), 3) := by decide +kernel
theorem dX2_lettersOn_42 : decode cX2_lettersOn 42 = .ok (.iload_n 2, 1) := by decide +kernel
theorem dX2_lettersOn_43 : decode cX2_lettersOn 43 = .ok (.ireturn, 1) := by decide +kernel
set_option maxRecDepth 100000 in
theorem okm_X2_lettersOn : okL RX2 cX2_lettersOn 4 (some .int) "lettersOn" pcX2_lettersOn opX2_lettersOn pcX2_lettersOn := by
  unfold opX2_lettersOn
  refine okL_cons (ok_iconst rfl dX2_lettersOn_0) rfl ?_
  refine okL_cons (ok_istore_n rfl dX2_lettersOn_1) rfl ?_
  refine okL_cons (ok_iconst rfl dX2_lettersOn_2) rfl ?_
  refine okL_cons (ok_istore_n rfl dX2_lettersOn_3) rfl ?_
  refine okL_cons (ok_iload_n rfl dX2_lettersOn_4) rfl ?_
  refine okL_cons (ok_bipush rfl dX2_lettersOn_5) rfl ?_
  refine okL_cons (ok_icmp_ge rfl dX2_lettersOn_7) rfl ?_
  refine okL_cons (ok_aload_n rfl dX2_lettersOn_10) rfl ?_
  refine okL_cons (ok_getP kw_82 cf_X2 rfl rfl (by decide) dX2_lettersOn_11) rfl ?_
  refine okL_cons (ok_iload_n rfl dX2_lettersOn_14) rfl ?_
  refine okL_cons (ok_iaload dX2_lettersOn_15) rfl ?_
  refine okL_cons (ok_iconst rfl dX2_lettersOn_16) rfl ?_
  refine okL_cons (ok_icmp_ne rfl dX2_lettersOn_17) rfl ?_
  refine okL_cons (ok_aload_n rfl dX2_lettersOn_20) rfl ?_
  refine okL_cons (ok_getP kw_83 cf_X2 rfl rfl (by decide) dX2_lettersOn_21) rfl ?_
  refine okL_cons (ok_iload_n rfl dX2_lettersOn_24) rfl ?_
  refine okL_cons (ok_iaload dX2_lettersOn_25) rfl ?_
  refine okL_cons (ok_iload_n rfl dX2_lettersOn_26) rfl ?_
  refine okL_cons (ok_icmp_ne rfl dX2_lettersOn_27) rfl ?_
  refine okL_cons (ok_iload_n rfl dX2_lettersOn_30) rfl ?_
  refine okL_cons (ok_iconst rfl dX2_lettersOn_31) rfl ?_
  refine okL_cons (ok_iload_n rfl dX2_lettersOn_32) rfl ?_
  refine okL_cons (ok_ishl dX2_lettersOn_33) rfl ?_
  refine okL_cons (ok_ior dX2_lettersOn_34) rfl ?_
  refine okL_cons (ok_istore_n rfl dX2_lettersOn_35) rfl ?_
  refine okL_cons (ok_iinc rfl dX2_lettersOn_36) rfl ?_
  refine okL_cons (ok_goto rfl dX2_lettersOn_39) rfl ?_
  refine okL_cons (ok_iload_n rfl dX2_lettersOn_42) rfl ?_
  exact okL_one (ok_ireturn rfl dX2_lettersOn_43)
theorem dX2_howManyAre_0 : decode cX2_howManyAre 0 = .ok (.iconst 0, 1) := by decide +kernel
theorem dX2_howManyAre_1 : decode cX2_howManyAre 1 = .ok (.istore_n 2, 1) := by decide +kernel
theorem dX2_howManyAre_2 : decode cX2_howManyAre 2 = .ok (.iconst 0, 1) := by decide +kernel
theorem dX2_howManyAre_3 : decode cX2_howManyAre 3 = .ok (.istore_n 3, 1) := by decide +kernel
theorem dX2_howManyAre_4 : decode cX2_howManyAre 4 = .ok (.iload_n 3, 1) := by decide +kernel
theorem dX2_howManyAre_5 : decode cX2_howManyAre 5 = .ok (.bipush 8, 2) := by decide +kernel
theorem dX2_howManyAre_7 : decode cX2_howManyAre 7 = .ok (.if_icmp .ge 22, 3) := by decide +kernel
theorem dX2_howManyAre_10 : decode cX2_howManyAre 10 = .ok (.aload_n 0, 1) := by decide +kernel
theorem dX2_howManyAre_11 : decode cX2_howManyAre 11 = .ok (.getfield 9, 3) := by decide +kernel
theorem dX2_howManyAre_14 : decode cX2_howManyAre 14 = .ok (.iload_n 3, 1) := by decide +kernel
theorem dX2_howManyAre_15 : decode cX2_howManyAre 15 = .ok (.iaload, 1) := by decide +kernel
theorem dX2_howManyAre_16 : decode cX2_howManyAre 16 = .ok (.iload_n 1, 1) := by decide +kernel
theorem dX2_howManyAre_17 : decode cX2_howManyAre 17 = .ok (.if_icmp .ne 6, 3) := by decide +kernel
theorem dX2_howManyAre_20 : decode cX2_howManyAre 20 = .ok (.iinc 2 1, 3) := by decide +kernel
theorem dX2_howManyAre_23 : decode cX2_howManyAre 23 = .ok (.iinc 3 1, 3) := by decide +kernel
theorem dX2_howManyAre_26 : decode cX2_howManyAre 26 = .ok (.goto (-22), 3) := by decide +kernel
theorem dX2_howManyAre_29 : decode cX2_howManyAre 29 = .ok (.iload_n 2, 1) := by decide +kernel
theorem dX2_howManyAre_30 : decode cX2_howManyAre 30 = .ok (.ireturn, 1) := by decide +kernel
set_option maxRecDepth 100000 in
theorem okm_X2_howManyAre : okL RX2 cX2_howManyAre 4 (some .int) "howManyAre" pcX2_howManyAre opX2_howManyAre pcX2_howManyAre := by
  unfold opX2_howManyAre
  refine okL_cons (ok_iconst rfl dX2_howManyAre_0) rfl ?_
  refine okL_cons (ok_istore_n rfl dX2_howManyAre_1) rfl ?_
  refine okL_cons (ok_iconst rfl dX2_howManyAre_2) rfl ?_
  refine okL_cons (ok_istore_n rfl dX2_howManyAre_3) rfl ?_
  refine okL_cons (ok_iload_n rfl dX2_howManyAre_4) rfl ?_
  refine okL_cons (ok_bipush rfl dX2_howManyAre_5) rfl ?_
  refine okL_cons (ok_icmp_ge rfl dX2_howManyAre_7) rfl ?_
  refine okL_cons (ok_aload_n rfl dX2_howManyAre_10) rfl ?_
  refine okL_cons (ok_getP kw_82 cf_X2 rfl rfl (by decide) dX2_howManyAre_11) rfl ?_
  refine okL_cons (ok_iload_n rfl dX2_howManyAre_14) rfl ?_
  refine okL_cons (ok_iaload dX2_howManyAre_15) rfl ?_
  refine okL_cons (ok_iload_n rfl dX2_howManyAre_16) rfl ?_
  refine okL_cons (ok_icmp_ne rfl dX2_howManyAre_17) rfl ?_
  refine okL_cons (ok_iinc rfl dX2_howManyAre_20) rfl ?_
  refine okL_cons (ok_iinc rfl dX2_howManyAre_23) rfl ?_
  refine okL_cons (ok_goto rfl dX2_howManyAre_26) rfl ?_
  refine okL_cons (ok_iload_n rfl dX2_howManyAre_29) rfl ?_
  exact okL_one (ok_ireturn rfl dX2_howManyAre_30)
theorem dX2_readWithIt_0 : decode cX2_readWithIt 0 = .ok (.aload_n 0, 1) := by decide +kernel
theorem dX2_readWithIt_1 : decode cX2_readWithIt 1 = .ok (.getfield 9, 3) := by decide +kernel
theorem dX2_readWithIt_4 : decode cX2_readWithIt 4 = .ok (.iload_n 1, 1) := by decide +kernel
theorem dX2_readWithIt_5 : decode cX2_readWithIt 5 = .ok (.iaload, 1) := by decide +kernel
theorem dX2_readWithIt_6 : decode cX2_readWithIt 6 = .ok (.iconst 2, 1) := by decide +kernel
theorem dX2_readWithIt_7 : decode cX2_readWithIt 7 = .ok (.if_icmp .eq 5, 3) := by decide +kernel
theorem dX2_readWithIt_10 : decode cX2_readWithIt 10 = .ok (.iconst (-1), 1) := by decide +kernel
theorem dX2_readWithIt_11 : decode cX2_readWithIt 11 = .ok (.ireturn, 1) := by decide +kernel
theorem dX2_readWithIt_12 : decode cX2_readWithIt 12 = .ok (.iconst 0, 1) := by decide +kernel
theorem dX2_readWithIt_13 : decode cX2_readWithIt 13 = .ok (.istore_n 2, 1) := by decide +kernel
theorem dX2_readWithIt_14 : decode cX2_readWithIt 14 = .ok (.iconst 0, 1) := by decide +kernel
theorem dX2_readWithIt_15 : decode cX2_readWithIt 15 = .ok (.istore_n 3, 1) := by decide +kernel
theorem dX2_readWithIt_16 : decode cX2_readWithIt 16 = .ok (.iload_n 3, 1) := by decide +kernel
theorem dX2_readWithIt_17 : decode cX2_readWithIt 17 = .ok (.bipush 8, 2) := by decide +kernel
theorem dX2_readWithIt_19 : decode cX2_readWithIt 19 = .ok (.if_icmp .ge 67, 3) := by decide +kernel
theorem dX2_readWithIt_22 : decode cX2_readWithIt 22 = .ok (.aload_n 0, 1) := by decide +kernel
theorem dX2_readWithIt_23 : decode cX2_readWithIt 23 = .ok (.getfield 15, 3) := by decide +kernel
theorem dX2_readWithIt_26 : decode cX2_readWithIt 26 = .ok (.iload_n 3, 1) := by decide +kernel
theorem dX2_readWithIt_27 : decode cX2_readWithIt 27 = .ok (.iaload, 1) := by decide +kernel
theorem dX2_readWithIt_28 : decode cX2_readWithIt 28 = .ok (.aload_n 0, 1) := by decide +kernel
theorem dX2_readWithIt_29 : decode cX2_readWithIt 29 = .ok (.getfield 15, 3) := by decide +kernel
theorem dX2_readWithIt_32 : decode cX2_readWithIt 32 = .ok (.iload_n 1, 1) := by decide +kernel
theorem dX2_readWithIt_33 : decode cX2_readWithIt 33 = .ok (.iaload, 1) := by decide +kernel
theorem dX2_readWithIt_34 : decode cX2_readWithIt 34 = .ok (.if_icmp .ne 22, 3) := by decide +kernel
theorem dX2_readWithIt_37 : decode cX2_readWithIt 37 = .ok (.aload_n 0, 1) := by decide +kernel
theorem dX2_readWithIt_38 : decode cX2_readWithIt 38 = .ok (.getfield 18, 3) := by decide +kernel
theorem dX2_readWithIt_41 : decode cX2_readWithIt 41 = .ok (.iload_n 3, 1) := by decide +kernel
theorem dX2_readWithIt_42 : decode cX2_readWithIt 42 = .ok (.iaload, 1) := by decide +kernel
theorem dX2_readWithIt_43 : decode cX2_readWithIt 43 = .ok (.aload_n 0, 1) := by decide +kernel
theorem dX2_readWithIt_44 : decode cX2_readWithIt 44 = .ok (.getfield 18, 3) := by decide +kernel
theorem dX2_readWithIt_47 : decode cX2_readWithIt 47 = .ok (.iload_n 1, 1) := by decide +kernel
theorem dX2_readWithIt_48 : decode cX2_readWithIt 48 = .ok (.iaload, 1) := by decide +kernel
theorem dX2_readWithIt_49 : decode cX2_readWithIt 49 = .ok (.if_icmp .ne 7, 3) := by decide +kernel
theorem dX2_readWithIt_52 : decode cX2_readWithIt 52 = .ok (.iconst 1, 1) := by decide +kernel
theorem dX2_readWithIt_53 : decode cX2_readWithIt 53 = .ok (.goto 4, 3) := by decide +kernel
theorem dX2_readWithIt_56 : decode cX2_readWithIt 56 = .ok (.iconst 0, 1) := by decide +kernel
theorem dX2_readWithIt_57 : decode cX2_readWithIt 57 = .ok (.istore 4, 2) := by decide +kernel
theorem dX2_readWithIt_59 : decode cX2_readWithIt 59 = .ok (.aload_n 0, 1) := by decide +kernel
theorem dX2_readWithIt_60 : decode cX2_readWithIt 60 = .ok (.getfield 9, 3) := by decide +kernel
theorem dX2_readWithIt_63 : decode cX2_readWithIt 63 = .ok (.iload_n 3, 1) := by decide +kernel
theorem dX2_readWithIt_64 : decode cX2_readWithIt 64 = .ok (.iaload, 1) := by decide +kernel
theorem dX2_readWithIt_65 : decode cX2_readWithIt 65 = .ok (.iconst 2, 1) := by decide +kernel
theorem dX2_readWithIt_66 : decode cX2_readWithIt 66 = .ok (.if_icmp .ne 14, 3) := by decide +kernel
theorem dX2_readWithIt_69 : decode cX2_readWithIt 69 = .ok (.iload 4, 2) := by decide +kernel
theorem dX2_readWithIt_71 : decode cX2_readWithIt 71 = .ok (.ifCond .eq 9, 3) := by decide +kernel
theorem dX2_readWithIt_74 : decode cX2_readWithIt 74 = .ok (.iload_n 2, 1) := by decide +kernel
theorem dX2_readWithIt_75 : decode cX2_readWithIt 75 = .ok (.iconst 1, 1) := by decide +kernel
theorem dX2_readWithIt_76 : decode cX2_readWithIt 76 = .ok (.iload_n 3, 1) := by decide +kernel
theorem dX2_readWithIt_77 : decode cX2_readWithIt 77 = .ok (.ishl, 1) := by decide +kernel
theorem dX2_readWithIt_78 : decode cX2_readWithIt 78 = .ok (.ior, 1) := by decide +kernel
theorem dX2_readWithIt_79 : decode cX2_readWithIt 79 = .ok (.istore_n 2, 1) := by decide +kernel
theorem dX2_readWithIt_80 : decode cX2_readWithIt 80 = .ok (.iinc 3 1, 3) := by decide +kernel
theorem dX2_readWithIt_83 : decode cX2_readWithIt 83 = .ok (.goto (-67), 3) := by decide +kernel
theorem dX2_readWithIt_86 : decode cX2_readWithIt 86 = .ok (.iload_n 2, 1) := by decide +kernel
theorem dX2_readWithIt_87 : decode cX2_readWithIt 87 = .ok (.ireturn, 1) := by decide +kernel
set_option maxRecDepth 100000 in
theorem okm_X2_readWithIt : okL RX2 cX2_readWithIt 5 (some .int) "readWithIt" pcX2_readWithIt opX2_readWithIt pcX2_readWithIt := by
  unfold opX2_readWithIt
  refine okL_cons (ok_aload_n rfl dX2_readWithIt_0) rfl ?_
  refine okL_cons (ok_getP kw_82 cf_X2 rfl rfl (by decide) dX2_readWithIt_1) rfl ?_
  refine okL_cons (ok_iload_n rfl dX2_readWithIt_4) rfl ?_
  refine okL_cons (ok_iaload dX2_readWithIt_5) rfl ?_
  refine okL_cons (ok_iconst rfl dX2_readWithIt_6) rfl ?_
  refine okL_cons (ok_icmp_eq rfl dX2_readWithIt_7) rfl ?_
  refine okL_cons (ok_iconst rfl dX2_readWithIt_10) rfl ?_
  refine okL_cons (ok_ireturn rfl dX2_readWithIt_11) rfl ?_
  refine okL_cons (ok_iconst rfl dX2_readWithIt_12) rfl ?_
  refine okL_cons (ok_istore_n rfl dX2_readWithIt_13) rfl ?_
  refine okL_cons (ok_iconst rfl dX2_readWithIt_14) rfl ?_
  refine okL_cons (ok_istore_n rfl dX2_readWithIt_15) rfl ?_
  refine okL_cons (ok_iload_n rfl dX2_readWithIt_16) rfl ?_
  refine okL_cons (ok_bipush rfl dX2_readWithIt_17) rfl ?_
  refine okL_cons (ok_icmp_ge rfl dX2_readWithIt_19) rfl ?_
  refine okL_cons (ok_aload_n rfl dX2_readWithIt_22) rfl ?_
  refine okL_cons (ok_getP kw_83 cf_X2 rfl rfl (by decide) dX2_readWithIt_23) rfl ?_
  refine okL_cons (ok_iload_n rfl dX2_readWithIt_26) rfl ?_
  refine okL_cons (ok_iaload dX2_readWithIt_27) rfl ?_
  refine okL_cons (ok_aload_n rfl dX2_readWithIt_28) rfl ?_
  refine okL_cons (ok_getP kw_83 cf_X2 rfl rfl (by decide) dX2_readWithIt_29) rfl ?_
  refine okL_cons (ok_iload_n rfl dX2_readWithIt_32) rfl ?_
  refine okL_cons (ok_iaload dX2_readWithIt_33) rfl ?_
  refine okL_cons (ok_icmp_ne rfl dX2_readWithIt_34) rfl ?_
  refine okL_cons (ok_aload_n rfl dX2_readWithIt_37) rfl ?_
  refine okL_cons (ok_getP kw_84 cf_X2 rfl rfl (by decide) dX2_readWithIt_38) rfl ?_
  refine okL_cons (ok_iload_n rfl dX2_readWithIt_41) rfl ?_
  refine okL_cons (ok_iaload dX2_readWithIt_42) rfl ?_
  refine okL_cons (ok_aload_n rfl dX2_readWithIt_43) rfl ?_
  refine okL_cons (ok_getP kw_84 cf_X2 rfl rfl (by decide) dX2_readWithIt_44) rfl ?_
  refine okL_cons (ok_iload_n rfl dX2_readWithIt_47) rfl ?_
  refine okL_cons (ok_iaload dX2_readWithIt_48) rfl ?_
  refine okL_cons (ok_icmp_ne rfl dX2_readWithIt_49) rfl ?_
  refine okL_cons (ok_iconst rfl dX2_readWithIt_52) rfl ?_
  refine okL_cons (ok_goto rfl dX2_readWithIt_53) rfl ?_
  refine okL_cons (ok_iconst rfl dX2_readWithIt_56) rfl ?_
  refine okL_cons (ok_istore dX2_readWithIt_57) rfl ?_
  refine okL_cons (ok_aload_n rfl dX2_readWithIt_59) rfl ?_
  refine okL_cons (ok_getP kw_82 cf_X2 rfl rfl (by decide) dX2_readWithIt_60) rfl ?_
  refine okL_cons (ok_iload_n rfl dX2_readWithIt_63) rfl ?_
  refine okL_cons (ok_iaload dX2_readWithIt_64) rfl ?_
  refine okL_cons (ok_iconst rfl dX2_readWithIt_65) rfl ?_
  refine okL_cons (ok_icmp_ne rfl dX2_readWithIt_66) rfl ?_
  refine okL_cons (ok_iload dX2_readWithIt_69) rfl ?_
  refine okL_cons (ok_if_eq rfl dX2_readWithIt_71) rfl ?_
  refine okL_cons (ok_iload_n rfl dX2_readWithIt_74) rfl ?_
  refine okL_cons (ok_iconst rfl dX2_readWithIt_75) rfl ?_
  refine okL_cons (ok_iload_n rfl dX2_readWithIt_76) rfl ?_
  refine okL_cons (ok_ishl dX2_readWithIt_77) rfl ?_
  refine okL_cons (ok_ior dX2_readWithIt_78) rfl ?_
  refine okL_cons (ok_istore_n rfl dX2_readWithIt_79) rfl ?_
  refine okL_cons (ok_iinc rfl dX2_readWithIt_80) rfl ?_
  refine okL_cons (ok_goto rfl dX2_readWithIt_83) rfl ?_
  refine okL_cons (ok_iload_n rfl dX2_readWithIt_86) rfl ?_
  exact okL_one (ok_ireturn rfl dX2_readWithIt_87)
theorem dX2_refusalOf_0 : decode cX2_refusalOf 0 = .ok (.iload_n 1, 1) := by decide +kernel
theorem dX2_refusalOf_1 : decode cX2_refusalOf 1 = .ok (.tableswitch 144 0 2 #[27, 59, 95], 27) := by decide +kernel
theorem dX2_refusalOf_28 : decode cX2_refusalOf 28 = .ok (.iload_n 2, 1) := by decide +kernel
theorem dX2_refusalOf_29 : decode cX2_refusalOf 29 = .ok (.invokestatic 34, 3) := by decide +kernel
theorem dX2_refusalOf_32 : decode cX2_refusalOf 32 = .ok (.ifCond .eq 10, 3) := by decide +kernel
theorem dX2_refusalOf_35 : decode cX2_refusalOf 35 = .ok (.iload_n 3, 1) := by decide +kernel
theorem dX2_refusalOf_36 : decode cX2_refusalOf 36 = .ok (.invokestatic 38, 3) := by decide +kernel
theorem dX2_refusalOf_39 : decode cX2_refusalOf 39 = .ok (.ifCond .ne 5, 3) := by decide +kernel
theorem dX2_refusalOf_42 : decode cX2_refusalOf 42 = .ok (.iconst (-1), 1) := by decide +kernel
theorem dX2_refusalOf_43 : decode cX2_refusalOf 43 = .ok (.ireturn, 1) := by decide +kernel
theorem dX2_refusalOf_44 : decode cX2_refusalOf 44 = .ok (.aload_n 0, 1) := by decide +kernel
theorem dX2_refusalOf_45 : decode cX2_refusalOf 45 = .ok (.getfield 9, 3) := by decide +kernel
theorem dX2_refusalOf_48 : decode cX2_refusalOf 48 = .ok (.iload_n 2, 1) := by decide +kernel
theorem dX2_refusalOf_49 : decode cX2_refusalOf 49 = .ok (.iaload, 1) := by decide +kernel
theorem dX2_refusalOf_50 : decode cX2_refusalOf 50 = .ok (.ifCond .ne 7, 3) := by decide +kernel
theorem dX2_refusalOf_53 : decode cX2_refusalOf 53 = .ok (.iconst 0, 1) := by decide +kernel
theorem dX2_refusalOf_54 : decode cX2_refusalOf 54 = .ok (.goto 5, 3) := by decide +kernel
theorem dX2_refusalOf_57 : decode cX2_refusalOf 57 = .ok (.bipush (-3), 2) := by decide +kernel
theorem dX2_refusalOf_59 : decode cX2_refusalOf 59 = .ok (.ireturn, 1) := by decide +kernel
theorem dX2_refusalOf_60 : decode cX2_refusalOf 60 = .ok (.iload_n 2, 1) := by decide +kernel
theorem dX2_refusalOf_61 : decode cX2_refusalOf 61 = .ok (.invokestatic 38, 3) := by decide +kernel
theorem dX2_refusalOf_64 : decode cX2_refusalOf 64 = .ok (.ifCond .eq 13, 3) := by decide +kernel
theorem dX2_refusalOf_67 : decode cX2_refusalOf 67 = .ok (.iload_n 3, 1) := by decide +kernel
theorem dX2_refusalOf_68 : decode cX2_refusalOf 68 = .ok (.ifCond .lt 9, 3) := by decide +kernel
theorem dX2_refusalOf_71 : decode cX2_refusalOf 71 = .ok (.iload_n 3, 1) := by decide +kernel
theorem dX2_refusalOf_72 : decode cX2_refusalOf 72 = .ok (.bipush 9, 2) := by decide +kernel
theorem dX2_refusalOf_74 : decode cX2_refusalOf 74 = .ok (.if_icmp .le 5, 3) := by decide +kernel
theorem dX2_refusalOf_77 : decode cX2_refusalOf 77 = .ok (.iconst (-1), 1) := by decide +kernel
theorem dX2_refusalOf_78 : decode cX2_refusalOf 78 = .ok (.ireturn, 1) := by decide +kernel
theorem dX2_refusalOf_79 : decode cX2_refusalOf 79 = .ok (.aload_n 0, 1) := by decide +kernel
theorem dX2_refusalOf_80 : decode cX2_refusalOf 80 = .ok (.getfield 21, 3) := by decide +kernel
theorem dX2_refusalOf_83 : decode cX2_refusalOf 83 = .ok (.iload_n 2, 1) := by decide +kernel
theorem dX2_refusalOf_84 : decode cX2_refusalOf 84 = .ok (.iaload, 1) := by decide +kernel
theorem dX2_refusalOf_85 : decode cX2_refusalOf 85 = .ok (.iload_n 3, 1) := by decide +kernel
theorem dX2_refusalOf_86 : decode cX2_refusalOf 86 = .ok (.if_icmp .eq 7, 3) := by decide +kernel
theorem dX2_refusalOf_89 : decode cX2_refusalOf 89 = .ok (.iconst 0, 1) := by decide +kernel
theorem dX2_refusalOf_90 : decode cX2_refusalOf 90 = .ok (.goto 5, 3) := by decide +kernel
theorem dX2_refusalOf_93 : decode cX2_refusalOf 93 = .ok (.bipush (-3), 2) := by decide +kernel
theorem dX2_refusalOf_95 : decode cX2_refusalOf 95 = .ok (.ireturn, 1) := by decide +kernel
theorem dX2_refusalOf_96 : decode cX2_refusalOf 96 = .ok (.iload_n 2, 1) := by decide +kernel
theorem dX2_refusalOf_97 : decode cX2_refusalOf 97 = .ok (.invokestatic 34, 3) := by decide +kernel
theorem dX2_refusalOf_100 : decode cX2_refusalOf 100 = .ok (.ifCond .eq 12, 3) := by decide +kernel
theorem dX2_refusalOf_103 : decode cX2_refusalOf 103 = .ok (.iload_n 3, 1) := by decide +kernel
theorem dX2_refusalOf_104 : decode cX2_refusalOf 104 = .ok (.ifCond .lt 8, 3) := by decide +kernel
theorem dX2_refusalOf_107 : decode cX2_refusalOf 107 = .ok (.iload_n 3, 1) := by decide +kernel
theorem dX2_refusalOf_108 : decode cX2_refusalOf 108 = .ok (.iconst 4, 1) := by decide +kernel
theorem dX2_refusalOf_109 : decode cX2_refusalOf 109 = .ok (.if_icmp .lt 5, 3) := by decide +kernel
theorem dX2_refusalOf_112 : decode cX2_refusalOf 112 = .ok (.iconst (-1), 1) := by decide +kernel
theorem dX2_refusalOf_113 : decode cX2_refusalOf 113 = .ok (.ireturn, 1) := by decide +kernel
theorem dX2_refusalOf_114 : decode cX2_refusalOf 114 = .ok (.aload_n 0, 1) := by decide +kernel
theorem dX2_refusalOf_115 : decode cX2_refusalOf 115 = .ok (.getfield 9, 3) := by decide +kernel
theorem dX2_refusalOf_118 : decode cX2_refusalOf 118 = .ok (.iload_n 2, 1) := by decide +kernel
theorem dX2_refusalOf_119 : decode cX2_refusalOf 119 = .ok (.iaload, 1) := by decide +kernel
theorem dX2_refusalOf_120 : decode cX2_refusalOf 120 = .ok (.iconst 1, 1) := by decide +kernel
theorem dX2_refusalOf_121 : decode cX2_refusalOf 121 = .ok (.if_icmp .ne 21, 3) := by decide +kernel
theorem dX2_refusalOf_124 : decode cX2_refusalOf 124 = .ok (.aload_n 0, 1) := by decide +kernel
theorem dX2_refusalOf_125 : decode cX2_refusalOf 125 = .ok (.getfield 15, 3) := by decide +kernel
theorem dX2_refusalOf_128 : decode cX2_refusalOf 128 = .ok (.iload_n 2, 1) := by decide +kernel
theorem dX2_refusalOf_129 : decode cX2_refusalOf 129 = .ok (.iaload, 1) := by decide +kernel
theorem dX2_refusalOf_130 : decode cX2_refusalOf 130 = .ok (.iload_n 3, 1) := by decide +kernel
theorem dX2_refusalOf_131 : decode cX2_refusalOf 131 = .ok (.invokestatic 41, 3) := by decide +kernel
theorem dX2_refusalOf_134 : decode cX2_refusalOf 134 = .ok (.iconst (-1), 1) := by decide +kernel
theorem dX2_refusalOf_135 : decode cX2_refusalOf 135 = .ok (.if_icmp .eq 7, 3) := by decide +kernel
theorem dX2_refusalOf_138 : decode cX2_refusalOf 138 = .ok (.iconst 0, 1) := by decide +kernel
theorem dX2_refusalOf_139 : decode cX2_refusalOf 139 = .ok (.goto 5, 3) := by decide +kernel
theorem dX2_refusalOf_142 : decode cX2_refusalOf 142 = .ok (.bipush (-3), 2) := by decide +kernel
theorem dX2_refusalOf_144 : decode cX2_refusalOf 144 = .ok (.ireturn, 1) := by decide +kernel
theorem dX2_refusalOf_145 : decode cX2_refusalOf 145 = .ok (.aload_n 0, 1) := by decide +kernel
theorem dX2_refusalOf_146 : decode cX2_refusalOf 146 = .ok (.getfield 30, 3) := by decide +kernel
theorem dX2_refusalOf_149 : decode cX2_refusalOf 149 = .ok (.sipush 999, 3) := by decide +kernel
theorem dX2_refusalOf_152 : decode cX2_refusalOf 152 = .ok (.if_icmp .ge 7, 3) := by decide +kernel
theorem dX2_refusalOf_155 : decode cX2_refusalOf 155 = .ok (.iconst 0, 1) := by decide +kernel
theorem dX2_refusalOf_156 : decode cX2_refusalOf 156 = .ok (.goto 5, 3) := by decide +kernel
theorem dX2_refusalOf_159 : decode cX2_refusalOf 159 = .ok (.bipush (-3), 2) := by decide +kernel
theorem dX2_refusalOf_161 : decode cX2_refusalOf 161 = .ok (.ireturn, 1) := by decide +kernel
set_option maxRecDepth 100000 in
theorem okm_X2_refusalOf : okL RX2 cX2_refusalOf 4 (some .int) "refusalOf" pcX2_refusalOf opX2_refusalOf pcX2_refusalOf := by
  unfold opX2_refusalOf
  refine okL_cons (ok_iload_n rfl dX2_refusalOf_0) rfl ?_
  refine okL_cons (ok_sw rfl rfl (sw_all rfl) dX2_refusalOf_1) rfl ?_
  refine okL_cons (ok_iload_n rfl dX2_refusalOf_28) rfl ?_
  refine okL_cons (ok_invNS (M' := 160) 10 kw_88 kw_79 kw_89 rfl rfl (by decide +kernel) dX2_refusalOf_29) rfl ?_
  refine okL_cons (ok_if_eq rfl dX2_refusalOf_32) rfl ?_
  refine okL_cons (ok_iload_n rfl dX2_refusalOf_35) rfl ?_
  refine okL_cons (ok_invNS (M' := 159) 11 kw_90 kw_79 kw_91 rfl rfl (by decide +kernel) dX2_refusalOf_36) rfl ?_
  refine okL_cons (ok_if_ne rfl dX2_refusalOf_39) rfl ?_
  refine okL_cons (ok_iconst rfl dX2_refusalOf_42) rfl ?_
  refine okL_cons (ok_ireturn rfl dX2_refusalOf_43) rfl ?_
  refine okL_cons (ok_aload_n rfl dX2_refusalOf_44) rfl ?_
  refine okL_cons (ok_getP kw_82 cf_X2 rfl rfl (by decide) dX2_refusalOf_45) rfl ?_
  refine okL_cons (ok_iload_n rfl dX2_refusalOf_48) rfl ?_
  refine okL_cons (ok_iaload dX2_refusalOf_49) rfl ?_
  refine okL_cons (ok_if_ne rfl dX2_refusalOf_50) rfl ?_
  refine okL_cons (ok_iconst rfl dX2_refusalOf_53) rfl ?_
  refine okL_cons (ok_goto rfl dX2_refusalOf_54) rfl ?_
  refine okL_cons (ok_bipush rfl dX2_refusalOf_57) rfl ?_
  refine okL_cons (ok_ireturn rfl dX2_refusalOf_59) rfl ?_
  refine okL_cons (ok_iload_n rfl dX2_refusalOf_60) rfl ?_
  refine okL_cons (ok_invNS (M' := 159) 11 kw_90 kw_79 kw_91 rfl rfl (by decide +kernel) dX2_refusalOf_61) rfl ?_
  refine okL_cons (ok_if_eq rfl dX2_refusalOf_64) rfl ?_
  refine okL_cons (ok_iload_n rfl dX2_refusalOf_67) rfl ?_
  refine okL_cons (ok_if_lt rfl dX2_refusalOf_68) rfl ?_
  refine okL_cons (ok_iload_n rfl dX2_refusalOf_71) rfl ?_
  refine okL_cons (ok_bipush rfl dX2_refusalOf_72) rfl ?_
  refine okL_cons (ok_icmp_le rfl dX2_refusalOf_74) rfl ?_
  refine okL_cons (ok_iconst rfl dX2_refusalOf_77) rfl ?_
  refine okL_cons (ok_ireturn rfl dX2_refusalOf_78) rfl ?_
  refine okL_cons (ok_aload_n rfl dX2_refusalOf_79) rfl ?_
  refine okL_cons (ok_getP kw_85 cf_X2 rfl rfl (by decide) dX2_refusalOf_80) rfl ?_
  refine okL_cons (ok_iload_n rfl dX2_refusalOf_83) rfl ?_
  refine okL_cons (ok_iaload dX2_refusalOf_84) rfl ?_
  refine okL_cons (ok_iload_n rfl dX2_refusalOf_85) rfl ?_
  refine okL_cons (ok_icmp_eq rfl dX2_refusalOf_86) rfl ?_
  refine okL_cons (ok_iconst rfl dX2_refusalOf_89) rfl ?_
  refine okL_cons (ok_goto rfl dX2_refusalOf_90) rfl ?_
  refine okL_cons (ok_bipush rfl dX2_refusalOf_93) rfl ?_
  refine okL_cons (ok_ireturn rfl dX2_refusalOf_95) rfl ?_
  refine okL_cons (ok_iload_n rfl dX2_refusalOf_96) rfl ?_
  refine okL_cons (ok_invNS (M' := 160) 10 kw_88 kw_79 kw_89 rfl rfl (by decide +kernel) dX2_refusalOf_97) rfl ?_
  refine okL_cons (ok_if_eq rfl dX2_refusalOf_100) rfl ?_
  refine okL_cons (ok_iload_n rfl dX2_refusalOf_103) rfl ?_
  refine okL_cons (ok_if_lt rfl dX2_refusalOf_104) rfl ?_
  refine okL_cons (ok_iload_n rfl dX2_refusalOf_107) rfl ?_
  refine okL_cons (ok_iconst rfl dX2_refusalOf_108) rfl ?_
  refine okL_cons (ok_icmp_lt rfl dX2_refusalOf_109) rfl ?_
  refine okL_cons (ok_iconst rfl dX2_refusalOf_112) rfl ?_
  refine okL_cons (ok_ireturn rfl dX2_refusalOf_113) rfl ?_
  refine okL_cons (ok_aload_n rfl dX2_refusalOf_114) rfl ?_
  refine okL_cons (ok_getP kw_82 cf_X2 rfl rfl (by decide) dX2_refusalOf_115) rfl ?_
  refine okL_cons (ok_iload_n rfl dX2_refusalOf_118) rfl ?_
  refine okL_cons (ok_iaload dX2_refusalOf_119) rfl ?_
  refine okL_cons (ok_iconst rfl dX2_refusalOf_120) rfl ?_
  refine okL_cons (ok_icmp_ne rfl dX2_refusalOf_121) rfl ?_
  refine okL_cons (ok_aload_n rfl dX2_refusalOf_124) rfl ?_
  refine okL_cons (ok_getP kw_83 cf_X2 rfl rfl (by decide) dX2_refusalOf_125) rfl ?_
  refine okL_cons (ok_iload_n rfl dX2_refusalOf_128) rfl ?_
  refine okL_cons (ok_iaload dX2_refusalOf_129) rfl ?_
  refine okL_cons (ok_iload_n rfl dX2_refusalOf_130) rfl ?_
  refine okL_cons (ok_invNS (M' := 163) 12 kw_92 kw_79 kw_93 rfl rfl (by decide +kernel) dX2_refusalOf_131) rfl ?_
  refine okL_cons (ok_iconst rfl dX2_refusalOf_134) rfl ?_
  refine okL_cons (ok_icmp_eq rfl dX2_refusalOf_135) rfl ?_
  refine okL_cons (ok_iconst rfl dX2_refusalOf_138) rfl ?_
  refine okL_cons (ok_goto rfl dX2_refusalOf_139) rfl ?_
  refine okL_cons (ok_bipush rfl dX2_refusalOf_142) rfl ?_
  refine okL_cons (ok_ireturn rfl dX2_refusalOf_144) rfl ?_
  refine okL_cons (ok_aload_n rfl dX2_refusalOf_145) rfl ?_
  refine okL_cons (ok_getI kw_87 cf_X2 rfl rfl (by decide) dX2_refusalOf_146) rfl ?_
  refine okL_cons (ok_sipush rfl dX2_refusalOf_149) rfl ?_
  refine okL_cons (ok_icmp_ge rfl dX2_refusalOf_152) rfl ?_
  refine okL_cons (ok_iconst rfl dX2_refusalOf_155) rfl ?_
  refine okL_cons (ok_goto rfl dX2_refusalOf_156) rfl ?_
  refine okL_cons (ok_bipush rfl dX2_refusalOf_159) rfl ?_
  exact okL_one (ok_ireturn rfl dX2_refusalOf_161)
theorem dX2_change_0 : decode cX2_change 0 = .ok (.iload_n 1, 1) := by decide +kernel
theorem dX2_change_1 : decode cX2_change 1 = .ok (.tableswitch 91 0 2 #[27, 50, 68], 27) := by decide +kernel
theorem dX2_change_28 : decode cX2_change 28 = .ok (.aload_n 0, 1) := by decide +kernel
theorem dX2_change_29 : decode cX2_change 29 = .ok (.getfield 9, 3) := by decide +kernel
theorem dX2_change_32 : decode cX2_change 32 = .ok (.iload_n 2, 1) := by decide +kernel
theorem dX2_change_33 : decode cX2_change 33 = .ok (.iconst 1, 1) := by decide +kernel
theorem dX2_change_34 : decode cX2_change 34 = .ok (.iastore, 1) := by decide +kernel
theorem dX2_change_35 : decode cX2_change 35 = .ok (.aload_n 0, 1) := by decide +kernel
theorem dX2_change_36 : decode cX2_change 36 = .ok (.getfield 15, 3) := by decide +kernel
theorem dX2_change_39 : decode cX2_change 39 = .ok (.iload_n 2, 1) := by decide +kernel
theorem dX2_change_40 : decode cX2_change 40 = .ok (.iload_n 3, 1) := by decide +kernel
theorem dX2_change_41 : decode cX2_change 41 = .ok (.iastore, 1) := by decide +kernel
theorem dX2_change_42 : decode cX2_change 42 = .ok (.aload_n 0, 1) := by decide +kernel
theorem dX2_change_43 : decode cX2_change 43 = .ok (.iload_n 3, 1) := by decide +kernel
theorem dX2_change_44 : decode cX2_change 44 = .ok (.invokevirtual 45, 3) := by decide +kernel
theorem dX2_change_47 : decode cX2_change 47 = .ok (.invokestatic 49, 3) := by decide +kernel
theorem dX2_change_50 : decode cX2_change 50 = .ok (.ireturn, 1) := by decide +kernel
theorem dX2_change_51 : decode cX2_change 51 = .ok (.aload_n 0, 1) := by decide +kernel
theorem dX2_change_52 : decode cX2_change 52 = .ok (.getfield 21, 3) := by decide +kernel
theorem dX2_change_55 : decode cX2_change 55 = .ok (.iload_n 2, 1) := by decide +kernel
theorem dX2_change_56 : decode cX2_change 56 = .ok (.iaload, 1) := by decide +kernel
theorem dX2_change_57 : decode cX2_change 57 = .ok (.istore 4, 2) := by decide +kernel
theorem dX2_change_59 : decode cX2_change 59 = .ok (.aload_n 0, 1) := by decide +kernel
theorem dX2_change_60 : decode cX2_change 60 = .ok (.getfield 21, 3) := by decide +kernel
theorem dX2_change_63 : decode cX2_change 63 = .ok (.iload_n 2, 1) := by decide +kernel
theorem dX2_change_64 : decode cX2_change 64 = .ok (.iload_n 3, 1) := by decide +kernel
theorem dX2_change_65 : decode cX2_change 65 = .ok (.iastore, 1) := by decide +kernel
theorem dX2_change_66 : decode cX2_change 66 = .ok (.iload 4, 2) := by decide +kernel
theorem dX2_change_68 : decode cX2_change 68 = .ok (.ireturn, 1) := by decide +kernel
theorem dX2_change_69 : decode cX2_change 69 = .ok (.aload_n 0, 1) := by decide +kernel
theorem dX2_change_70 : decode cX2_change 70 = .ok (.getfield 15, 3) := by decide +kernel
theorem dX2_change_73 : decode cX2_change 73 = .ok (.iload_n 2, 1) := by decide +kernel
theorem dX2_change_74 : decode cX2_change 74 = .ok (.aload_n 0, 1) := by decide +kernel
theorem dX2_change_75 : decode cX2_change 75 = .ok (.getfield 15, 3) := by decide +kernel
theorem dX2_change_78 : decode cX2_change 78 = .ok (.iload_n 2, 1) := by decide +kernel
theorem dX2_change_79 : decode cX2_change 79 = .ok (.iaload, 1) := by decide +kernel
theorem dX2_change_80 : decode cX2_change 80 = .ok (.iload_n 3, 1) := by decide +kernel
theorem dX2_change_81 : decode cX2_change 81 = .ok (.invokestatic 41, 3) := by decide +kernel
theorem dX2_change_84 : decode cX2_change 84 = .ok (.iastore, 1) := by decide +kernel
theorem dX2_change_85 : decode cX2_change 85 = .ok (.aload_n 0, 1) := by decide +kernel
theorem dX2_change_86 : decode cX2_change 86 = .ok (.getfield 15, 3) := by decide +kernel
theorem dX2_change_89 : decode cX2_change 89 = .ok (.iload_n 2, 1) := by decide +kernel
theorem dX2_change_90 : decode cX2_change 90 = .ok (.iaload, 1) := by decide +kernel
theorem dX2_change_91 : decode cX2_change 91 = .ok (.ireturn, 1) := by decide +kernel
theorem dX2_change_92 : decode cX2_change 92 = .ok (.bipush (-3), 2) := by decide +kernel
theorem dX2_change_94 : decode cX2_change 94 = .ok (.ireturn, 1) := by decide +kernel
set_option maxRecDepth 100000 in
theorem okm_X2_change : okL RX2 cX2_change 5 (some .int) "change" pcX2_change opX2_change pcX2_change := by
  unfold opX2_change
  refine okL_cons (ok_iload_n rfl dX2_change_0) rfl ?_
  refine okL_cons (ok_sw rfl rfl (sw_all rfl) dX2_change_1) rfl ?_
  refine okL_cons (ok_aload_n rfl dX2_change_28) rfl ?_
  refine okL_cons (ok_getP kw_82 cf_X2 rfl rfl (by decide) dX2_change_29) rfl ?_
  refine okL_cons (ok_iload_n rfl dX2_change_32) rfl ?_
  refine okL_cons (ok_iconst rfl dX2_change_33) rfl ?_
  refine okL_cons (ok_iastore dX2_change_34) rfl ?_
  refine okL_cons (ok_aload_n rfl dX2_change_35) rfl ?_
  refine okL_cons (ok_getP kw_83 cf_X2 rfl rfl (by decide) dX2_change_36) rfl ?_
  refine okL_cons (ok_iload_n rfl dX2_change_39) rfl ?_
  refine okL_cons (ok_iload_n rfl dX2_change_40) rfl ?_
  refine okL_cons (ok_iastore dX2_change_41) rfl ?_
  refine okL_cons (ok_aload_n rfl dX2_change_42) rfl ?_
  refine okL_cons (ok_iload_n rfl dX2_change_43) rfl ?_
  refine okL_cons (ok_invV (M' := 19) kw_94 kw_95 kw_96 kw_47 kw_97 cf_X2 rfl (by decide +kernel) dX2_change_44) rfl ?_
  refine okL_cons (ok_invS (M' := 8) kw_98 kw_99 kw_100 kw_101 rfl (by decide +kernel) dX2_change_47) rfl ?_
  refine okL_cons (ok_ireturn rfl dX2_change_50) rfl ?_
  refine okL_cons (ok_aload_n rfl dX2_change_51) rfl ?_
  refine okL_cons (ok_getP kw_85 cf_X2 rfl rfl (by decide) dX2_change_52) rfl ?_
  refine okL_cons (ok_iload_n rfl dX2_change_55) rfl ?_
  refine okL_cons (ok_iaload dX2_change_56) rfl ?_
  refine okL_cons (ok_istore dX2_change_57) rfl ?_
  refine okL_cons (ok_aload_n rfl dX2_change_59) rfl ?_
  refine okL_cons (ok_getP kw_85 cf_X2 rfl rfl (by decide) dX2_change_60) rfl ?_
  refine okL_cons (ok_iload_n rfl dX2_change_63) rfl ?_
  refine okL_cons (ok_iload_n rfl dX2_change_64) rfl ?_
  refine okL_cons (ok_iastore dX2_change_65) rfl ?_
  refine okL_cons (ok_iload dX2_change_66) rfl ?_
  refine okL_cons (ok_ireturn rfl dX2_change_68) rfl ?_
  refine okL_cons (ok_aload_n rfl dX2_change_69) rfl ?_
  refine okL_cons (ok_getP kw_83 cf_X2 rfl rfl (by decide) dX2_change_70) rfl ?_
  refine okL_cons (ok_iload_n rfl dX2_change_73) rfl ?_
  refine okL_cons (ok_aload_n rfl dX2_change_74) rfl ?_
  refine okL_cons (ok_getP kw_83 cf_X2 rfl rfl (by decide) dX2_change_75) rfl ?_
  refine okL_cons (ok_iload_n rfl dX2_change_78) rfl ?_
  refine okL_cons (ok_iaload dX2_change_79) rfl ?_
  refine okL_cons (ok_iload_n rfl dX2_change_80) rfl ?_
  refine okL_cons (ok_invNS (M' := 163) 12 kw_92 kw_79 kw_93 rfl rfl (by decide +kernel) dX2_change_81) rfl ?_
  refine okL_cons (ok_iastore dX2_change_84) rfl ?_
  refine okL_cons (ok_aload_n rfl dX2_change_85) rfl ?_
  refine okL_cons (ok_getP kw_83 cf_X2 rfl rfl (by decide) dX2_change_86) rfl ?_
  refine okL_cons (ok_iload_n rfl dX2_change_89) rfl ?_
  refine okL_cons (ok_iaload dX2_change_90) rfl ?_
  refine okL_cons (ok_ireturn rfl dX2_change_91) rfl ?_
  refine okL_cons (ok_bipush rfl dX2_change_92) rfl ?_
  exact okL_one (ok_ireturn rfl dX2_change_94)
theorem dX3_init_0 : decode cX3_init 0 = .ok (.aload_n 0, 1) := by decide +kernel
theorem dX3_init_1 : decode cX3_init 1 = .ok (.invokespecial 3, 3) := by decide +kernel
theorem dX3_init_4 : decode cX3_init 4 = .ok (.aload_n 0, 1) := by decide +kernel
theorem dX3_init_5 : decode cX3_init 5 = .ok (.bipush 7, 2) := by decide +kernel
theorem dX3_init_7 : decode cX3_init 7 = .ok (.newarray .int, 2) := by decide +kernel
theorem dX3_init_9 : decode cX3_init 9 = .ok (.putfield 9, 3) := by decide +kernel
theorem dX3_init_12 : decode cX3_init 12 = .ok (.aload_n 0, 1) := by decide +kernel
theorem dX3_init_13 : decode cX3_init 13 = .ok (.iconst (-1), 1) := by decide +kernel
theorem dX3_init_14 : decode cX3_init 14 = .ok (.putfield 15, 3) := by decide +kernel
theorem dX3_init_17 : decode cX3_init 17 = .ok (.aload_n 0, 1) := by decide +kernel
theorem dX3_init_18 : decode cX3_init 18 = .ok (.iconst (-1), 1) := by decide +kernel
theorem dX3_init_19 : decode cX3_init 19 = .ok (.putfield 19, 3) := by decide +kernel
theorem dX3_init_22 : decode cX3_init 22 = .ok (.return_, 1) := by decide +kernel
set_option maxRecDepth 100000 in
theorem okm_X3_init : okL RX3 cX3_init 1 none "<init>" pcX3_init opX3_init pcX3_init := by
  unfold opX3_init
  refine okL_cons (ok_aload_n rfl dX3_init_0) rfl ?_
  refine okL_cons (ok_obj kw_102 kw_29 kw_30 dX3_init_1) rfl ?_
  refine okL_cons (ok_aload_n rfl dX3_init_4) rfl ?_
  refine okL_cons (ok_bipush rfl dX3_init_5) rfl ?_
  refine okL_cons (ok_newarray_int kw_31 dX3_init_7) rfl ?_
  refine okL_cons (ok_putPF kw_103 cf_X3 rfl rfl (by decide) rfl rfl rfl dX3_init_9) rfl ?_
  refine okL_cons (ok_aload_n rfl dX3_init_12) rfl ?_
  refine okL_cons (ok_iconst rfl dX3_init_13) rfl ?_
  refine okL_cons (ok_putI kw_104 cf_X3 rfl rfl (by decide) rfl dX3_init_14) rfl ?_
  refine okL_cons (ok_aload_n rfl dX3_init_17) rfl ?_
  refine okL_cons (ok_iconst rfl dX3_init_18) rfl ?_
  refine okL_cons (ok_putI kw_105 cf_X3 rfl rfl (by decide) rfl dX3_init_19) rfl ?_
  exact okL_one (ok_return rfl dX3_init_22)
theorem dX3_refuse_0 : decode cX3_refuse 0 = .ok (.aload_n 0, 1) := by decide +kernel
theorem dX3_refuse_1 : decode cX3_refuse 1 = .ok (.iload_n 1, 1) := by decide +kernel
theorem dX3_refuse_2 : decode cX3_refuse 2 = .ok (.putfield 22, 3) := by decide +kernel
theorem dX3_refuse_5 : decode cX3_refuse 5 = .ok (.iload_n 1, 1) := by decide +kernel
theorem dX3_refuse_6 : decode cX3_refuse 6 = .ok (.ifCond .ge 21, 3) := by decide +kernel
theorem dX3_refuse_9 : decode cX3_refuse 9 = .ok (.iload_n 1, 1) := by decide +kernel
theorem dX3_refuse_10 : decode cX3_refuse 10 = .ok (.ineg, 1) := by decide +kernel
theorem dX3_refuse_11 : decode cX3_refuse 11 = .ok (.bipush 7, 2) := by decide +kernel
theorem dX3_refuse_13 : decode cX3_refuse 13 = .ok (.if_icmp .ge 14, 3) := by decide +kernel
theorem dX3_refuse_16 : decode cX3_refuse 16 = .ok (.aload_n 0, 1) := by decide +kernel
theorem dX3_refuse_17 : decode cX3_refuse 17 = .ok (.getfield 9, 3) := by decide +kernel
theorem dX3_refuse_20 : decode cX3_refuse 20 = .ok (.iload_n 1, 1) := by decide +kernel
theorem dX3_refuse_21 : decode cX3_refuse 21 = .ok (.ineg, 1) := by decide +kernel
theorem dX3_refuse_22 : decode cX3_refuse 22 = .ok (.dup2, 1) := by decide +kernel
theorem dX3_refuse_23 : decode cX3_refuse 23 = .ok (.iaload, 1) := by decide +kernel
theorem dX3_refuse_24 : decode cX3_refuse 24 = .ok (.iconst 1, 1) := by decide +kernel
theorem dX3_refuse_25 : decode cX3_refuse 25 = .ok (.iadd, 1) := by decide +kernel
theorem dX3_refuse_26 : decode cX3_refuse 26 = .ok (.iastore, 1) := by decide +kernel
theorem dX3_refuse_27 : decode cX3_refuse 27 = .ok (.iload_n 1, 1) := by decide +kernel
theorem dX3_refuse_28 : decode cX3_refuse 28 = .ok (.ireturn, 1) := by decide +kernel
set_option maxRecDepth 100000 in
theorem okm_X3_refuse : okL RX3 cX3_refuse 2 (some .int) "refuse" pcX3_refuse opX3_refuse pcX3_refuse := by
  unfold opX3_refuse
  refine okL_cons (ok_aload_n rfl dX3_refuse_0) rfl ?_
  refine okL_cons (ok_iload_n rfl dX3_refuse_1) rfl ?_
  refine okL_cons (ok_putI kw_106 cf_X3 rfl rfl (by decide) rfl dX3_refuse_2) rfl ?_
  refine okL_cons (ok_iload_n rfl dX3_refuse_5) rfl ?_
  refine okL_cons (ok_if_ge rfl dX3_refuse_6) rfl ?_
  refine okL_cons (ok_iload_n rfl dX3_refuse_9) rfl ?_
  refine okL_cons (ok_ineg dX3_refuse_10) rfl ?_
  refine okL_cons (ok_bipush rfl dX3_refuse_11) rfl ?_
  refine okL_cons (ok_icmp_ge rfl dX3_refuse_13) rfl ?_
  refine okL_cons (ok_aload_n rfl dX3_refuse_16) rfl ?_
  refine okL_cons (ok_getP kw_103 cf_X3 rfl rfl (by decide) dX3_refuse_17) rfl ?_
  refine okL_cons (ok_iload_n rfl dX3_refuse_20) rfl ?_
  refine okL_cons (ok_ineg dX3_refuse_21) rfl ?_
  refine okL_cons (ok_dup2 dX3_refuse_22) rfl ?_
  refine okL_cons (ok_iaload dX3_refuse_23) rfl ?_
  refine okL_cons (ok_iconst rfl dX3_refuse_24) rfl ?_
  refine okL_cons (ok_iadd dX3_refuse_25) rfl ?_
  refine okL_cons (ok_iastore dX3_refuse_26) rfl ?_
  refine okL_cons (ok_iload_n rfl dX3_refuse_27) rfl ?_
  exact okL_one (ok_ireturn rfl dX3_refuse_28)
theorem dX3_grant_0 : decode cX3_grant 0 = .ok (.aload_n 0, 1) := by decide +kernel
theorem dX3_grant_1 : decode cX3_grant 1 = .ok (.iconst 0, 1) := by decide +kernel
theorem dX3_grant_2 : decode cX3_grant 2 = .ok (.putfield 22, 3) := by decide +kernel
theorem dX3_grant_5 : decode cX3_grant 5 = .ok (.iload_n 1, 1) := by decide +kernel
theorem dX3_grant_6 : decode cX3_grant 6 = .ok (.ireturn, 1) := by decide +kernel
set_option maxRecDepth 100000 in
theorem okm_X3_grant : okL RX3 cX3_grant 2 (some .int) "grant" pcX3_grant opX3_grant pcX3_grant := by
  unfold opX3_grant
  refine okL_cons (ok_aload_n rfl dX3_grant_0) rfl ?_
  refine okL_cons (ok_iconst rfl dX3_grant_1) rfl ?_
  refine okL_cons (ok_putI kw_106 cf_X3 rfl rfl (by decide) rfl dX3_grant_2) rfl ?_
  refine okL_cons (ok_iload_n rfl dX3_grant_5) rfl ?_
  exact okL_one (ok_ireturn rfl dX3_grant_6)
theorem dX3_settle_0 : decode cX3_settle 0 = .ok (.iload_n 1, 1) := by decide +kernel
theorem dX3_settle_1 : decode cX3_settle 1 = .ok (.ifCond .ge 11, 3) := by decide +kernel
theorem dX3_settle_4 : decode cX3_settle 4 = .ok (.aload_n 0, 1) := by decide +kernel
theorem dX3_settle_5 : decode cX3_settle 5 = .ok (.iload_n 1, 1) := by decide +kernel
theorem dX3_settle_6 : decode cX3_settle 6 = .ok (.invokevirtual 25, 3) := by decide +kernel
theorem dX3_settle_9 : decode cX3_settle 9 = .ok (.goto 8, 3) := by decide +kernel
theorem dX3_settle_12 : decode cX3_settle 12 = .ok (.aload_n 0, 1) := by decide +kernel
theorem dX3_settle_13 : decode cX3_settle 13 = .ok (.iload_n 1, 1) := by decide +kernel
theorem dX3_settle_14 : decode cX3_settle 14 = .ok (.invokevirtual 29, 3) := by decide +kernel
theorem dX3_settle_17 : decode cX3_settle 17 = .ok (.ireturn, 1) := by decide +kernel
set_option maxRecDepth 100000 in
theorem okm_X3_settle : okL RX3 cX3_settle 2 (some .int) "settle" pcX3_settle opX3_settle pcX3_settle := by
  unfold opX3_settle
  refine okL_cons (ok_iload_n rfl dX3_settle_0) rfl ?_
  refine okL_cons (ok_if_ge rfl dX3_settle_1) rfl ?_
  refine okL_cons (ok_aload_n rfl dX3_settle_4) rfl ?_
  refine okL_cons (ok_iload_n rfl dX3_settle_5) rfl ?_
  refine okL_cons (ok_invV (M' := 25) kw_107 kw_108 kw_109 kw_110 kw_111 cf_X3 rfl (by decide +kernel) dX3_settle_6) rfl ?_
  refine okL_cons (ok_goto rfl dX3_settle_9) rfl ?_
  refine okL_cons (ok_aload_n rfl dX3_settle_12) rfl ?_
  refine okL_cons (ok_iload_n rfl dX3_settle_13) rfl ?_
  refine okL_cons (ok_invV (M' := 26) kw_112 kw_113 kw_114 kw_110 kw_115 cf_X3 rfl (by decide +kernel) dX3_settle_14) rfl ?_
  exact okL_one (ok_ireturn rfl dX3_settle_17)
theorem dX4_init_0 : decode cX4_init 0 = .ok (.aload_n 0, 1) := by decide +kernel
theorem dX4_init_1 : decode cX4_init 1 = .ok (.invokespecial 3, 3) := by decide +kernel
theorem dX4_init_4 : decode cX4_init 4 = .ok (.aload_n 0, 1) := by decide +kernel
theorem dX4_init_5 : decode cX4_init 5 = .ok (.bipush 16, 2) := by decide +kernel
theorem dX4_init_7 : decode cX4_init 7 = .ok (.anewarray 9, 3) := by decide +kernel
theorem dX4_init_10 : decode cX4_init 10 = .ok (.putfield 11, 3) := by decide +kernel
theorem dX4_init_13 : decode cX4_init 13 = .ok (.aload_n 0, 1) := by decide +kernel
theorem dX4_init_14 : decode cX4_init 14 = .ok (.bipush 16, 2) := by decide +kernel
theorem dX4_init_16 : decode cX4_init 16 = .ok (.newarray .int, 2) := by decide +kernel
theorem dX4_init_18 : decode cX4_init 18 = .ok (.putfield 17, 3) := by decide +kernel
theorem dX4_init_21 : decode cX4_init 21 = .ok (.iconst 0, 1) := by decide +kernel
theorem dX4_init_22 : decode cX4_init 22 = .ok (.istore_n 1, 1) := by decide +kernel
theorem dX4_init_23 : decode cX4_init 23 = .ok (.iload_n 1, 1) := by decide +kernel
theorem dX4_init_24 : decode cX4_init 24 = .ok (.bipush 16, 2) := by decide +kernel
theorem dX4_init_26 : decode cX4_init 26 = .ok (.if_icmp .ge 22, 3) := by decide +kernel
theorem dX4_init_29 : decode cX4_init 29 = .ok (.aload_n 0, 1) := by decide +kernel
theorem dX4_init_30 : decode cX4_init 30 = .ok (.getfield 11, 3) := by decide +kernel
theorem dX4_init_33 : decode cX4_init 33 = .ok (.iload_n 1, 1) := by decide +kernel
theorem dX4_init_34 : decode cX4_init 34 = .ok (.new 9, 3) := by decide +kernel
theorem dX4_init_37 : decode cX4_init 37 = .ok (.dup, 1) := by decide +kernel
theorem dX4_init_38 : decode cX4_init 38 = .ok (.invokespecial 21, 3) := by decide +kernel
theorem dX4_init_41 : decode cX4_init 41 = .ok (.aastore, 1) := by decide +kernel
theorem dX4_init_42 : decode cX4_init 42 = .ok (.iinc 1 1, 3) := by decide +kernel
theorem dX4_init_45 : decode cX4_init 45 = .ok (.goto (-22), 3) := by decide +kernel
theorem dX4_init_48 : decode cX4_init 48 = .ok (.return_, 1) := by decide +kernel
set_option maxRecDepth 100000 in
theorem okm_X4_init : okL RX4 cX4_init 2 none "<init>" pcX4_init opX4_init pcX4_init := by
  unfold opX4_init
  refine okL_cons (ok_aload_n rfl dX4_init_0) rfl ?_
  refine okL_cons (ok_obj kw_116 kw_29 kw_30 dX4_init_1) rfl ?_
  refine okL_cons (ok_aload_n rfl dX4_init_4) rfl ?_
  refine okL_cons (ok_bipush rfl dX4_init_5) rfl ?_
  refine okL_cons (ok_newQ (by decide) kw_117 dX4_init_7) rfl ?_
  refine okL_cons (ok_putPF kw_118 cf_X4 rfl rfl (by decide) rfl rfl rfl dX4_init_10) rfl ?_
  refine okL_cons (ok_aload_n rfl dX4_init_13) rfl ?_
  refine okL_cons (ok_bipush rfl dX4_init_14) rfl ?_
  refine okL_cons (ok_newarray_int kw_31 dX4_init_16) rfl ?_
  refine okL_cons (ok_putPF kw_119 cf_X4 rfl rfl (by decide) rfl rfl rfl dX4_init_18) rfl ?_
  refine okL_cons (ok_iconst rfl dX4_init_21) rfl ?_
  refine okL_cons (ok_istore_n rfl dX4_init_22) rfl ?_
  refine okL_cons (ok_iload_n rfl dX4_init_23) rfl ?_
  refine okL_cons (ok_bipush rfl dX4_init_24) rfl ?_
  refine okL_cons (ok_icmp_ge rfl dX4_init_26) rfl ?_
  refine okL_cons (ok_aload_n rfl dX4_init_29) rfl ?_
  refine okL_cons (ok_getP kw_118 cf_X4 rfl rfl (by decide) dX4_init_30) rfl ?_
  refine okL_cons (ok_iload_n rfl dX4_init_33) rfl ?_
  refine okL_cons (ok_new kw_117 kw_46 kw_47 cf_X2 dX4_init_34) rfl ?_
  refine okL_cons (ok_dup dX4_init_37) rfl ?_
  refine okL_cons (ok_invI (M' := 16) kw_120 kw_49 kw_47 kw_50 cf_X2 rfl rfl rfl (by decide +kernel) dX4_init_38) rfl ?_
  refine okL_cons (ok_aastore (by decide) (by decide) rfl dX4_init_41) rfl ?_
  refine okL_cons (ok_iinc rfl dX4_init_42) rfl ?_
  refine okL_cons (ok_goto rfl dX4_init_45) rfl ?_
  exact okL_one (ok_return rfl dX4_init_48)
theorem dX4_copy_0 : decode cX4_copy 0 = .ok (.iconst 0, 1) := by decide +kernel
theorem dX4_copy_1 : decode cX4_copy 1 = .ok (.istore_n 2, 1) := by decide +kernel
theorem dX4_copy_2 : decode cX4_copy 2 = .ok (.iload_n 2, 1) := by decide +kernel
theorem dX4_copy_3 : decode cX4_copy 3 = .ok (.bipush 16, 2) := by decide +kernel
theorem dX4_copy_5 : decode cX4_copy 5 = .ok (.if_icmp .ge 36, 3) := by decide +kernel
theorem dX4_copy_8 : decode cX4_copy 8 = .ok (.aload_n 0, 1) := by decide +kernel
theorem dX4_copy_9 : decode cX4_copy 9 = .ok (.getfield 11, 3) := by decide +kernel
theorem dX4_copy_12 : decode cX4_copy 12 = .ok (.iload_n 2, 1) := by decide +kernel
theorem dX4_copy_13 : decode cX4_copy 13 = .ok (.aaload, 1) := by decide +kernel
theorem dX4_copy_14 : decode cX4_copy 14 = .ok (.aload_n 1, 1) := by decide +kernel
theorem dX4_copy_15 : decode cX4_copy 15 = .ok (.getfield 11, 3) := by decide +kernel
theorem dX4_copy_18 : decode cX4_copy 18 = .ok (.iload_n 2, 1) := by decide +kernel
theorem dX4_copy_19 : decode cX4_copy 19 = .ok (.aaload, 1) := by decide +kernel
theorem dX4_copy_20 : decode cX4_copy 20 = .ok (.invokevirtual 22, 3) := by decide +kernel
theorem dX4_copy_23 : decode cX4_copy 23 = .ok (.aload_n 0, 1) := by decide +kernel
theorem dX4_copy_24 : decode cX4_copy 24 = .ok (.getfield 17, 3) := by decide +kernel
theorem dX4_copy_27 : decode cX4_copy 27 = .ok (.iload_n 2, 1) := by decide +kernel
theorem dX4_copy_28 : decode cX4_copy 28 = .ok (.aload_n 1, 1) := by decide +kernel
theorem dX4_copy_29 : decode cX4_copy 29 = .ok (.getfield 17, 3) := by decide +kernel
theorem dX4_copy_32 : decode cX4_copy 32 = .ok (.iload_n 2, 1) := by decide +kernel
theorem dX4_copy_33 : decode cX4_copy 33 = .ok (.iaload, 1) := by decide +kernel
theorem dX4_copy_34 : decode cX4_copy 34 = .ok (.iastore, 1) := by decide +kernel
theorem dX4_copy_35 : decode cX4_copy 35 = .ok (.iinc 2 1, 3) := by decide +kernel
theorem dX4_copy_38 : decode cX4_copy 38 = .ok (.goto (-36), 3) := by decide +kernel
theorem dX4_copy_41 : decode cX4_copy 41 = .ok (.aload_n 0, 1) := by decide +kernel
theorem dX4_copy_42 : decode cX4_copy 42 = .ok (.aload_n 1, 1) := by decide +kernel
theorem dX4_copy_43 : decode cX4_copy 43 = .ok (.getfield 26, 3) := by decide +kernel
theorem dX4_copy_46 : decode cX4_copy 46 = .ok (.putfield 26, 3) := by decide +kernel
theorem dX4_copy_49 : decode cX4_copy 49 = .ok (.aload_n 0, 1) := by decide +kernel
theorem dX4_copy_50 : decode cX4_copy 50 = .ok (.aload_n 1, 1) := by decide +kernel
theorem dX4_copy_51 : decode cX4_copy 51 = .ok (.getfield 30, 3) := by decide +kernel
theorem dX4_copy_54 : decode cX4_copy 54 = .ok (.putfield 30, 3) := by decide +kernel
theorem dX4_copy_57 : decode cX4_copy 57 = .ok (.return_, 1) := by decide +kernel
set_option maxRecDepth 100000 in
theorem okm_X4_copy : okL RX4 cX4_copy 3 none "copy" pcX4_copy opX4_copy pcX4_copy := by
  unfold opX4_copy
  refine okL_cons (ok_iconst rfl dX4_copy_0) rfl ?_
  refine okL_cons (ok_istore_n rfl dX4_copy_1) rfl ?_
  refine okL_cons (ok_iload_n rfl dX4_copy_2) rfl ?_
  refine okL_cons (ok_bipush rfl dX4_copy_3) rfl ?_
  refine okL_cons (ok_icmp_ge rfl dX4_copy_5) rfl ?_
  refine okL_cons (ok_aload_n rfl dX4_copy_8) rfl ?_
  refine okL_cons (ok_getP kw_118 cf_X4 rfl rfl (by decide) dX4_copy_9) rfl ?_
  refine okL_cons (ok_iload_n rfl dX4_copy_12) rfl ?_
  refine okL_cons (ok_aaload (by decide) dX4_copy_13) rfl ?_
  refine okL_cons (ok_aload_n rfl dX4_copy_14) rfl ?_
  refine okL_cons (ok_getP kw_118 cf_X4 rfl rfl (by decide) dX4_copy_15) rfl ?_
  refine okL_cons (ok_iload_n rfl dX4_copy_18) rfl ?_
  refine okL_cons (ok_aaload (by decide) dX4_copy_19) rfl ?_
  refine okL_cons (ok_invV (M' := 17) kw_121 kw_63 kw_64 kw_47 kw_65 cf_X2 rfl (by decide +kernel) dX4_copy_20) rfl ?_
  refine okL_cons (ok_aload_n rfl dX4_copy_23) rfl ?_
  refine okL_cons (ok_getP kw_119 cf_X4 rfl rfl (by decide) dX4_copy_24) rfl ?_
  refine okL_cons (ok_iload_n rfl dX4_copy_27) rfl ?_
  refine okL_cons (ok_aload_n rfl dX4_copy_28) rfl ?_
  refine okL_cons (ok_getP kw_119 cf_X4 rfl rfl (by decide) dX4_copy_29) rfl ?_
  refine okL_cons (ok_iload_n rfl dX4_copy_32) rfl ?_
  refine okL_cons (ok_iaload dX4_copy_33) rfl ?_
  refine okL_cons (ok_iastore dX4_copy_34) rfl ?_
  refine okL_cons (ok_iinc rfl dX4_copy_35) rfl ?_
  refine okL_cons (ok_goto rfl dX4_copy_38) rfl ?_
  refine okL_cons (ok_aload_n rfl dX4_copy_41) rfl ?_
  refine okL_cons (ok_aload_n rfl dX4_copy_42) rfl ?_
  refine okL_cons (ok_getI kw_122 cf_X4 rfl rfl (by decide) dX4_copy_43) rfl ?_
  refine okL_cons (ok_putI kw_122 cf_X4 rfl rfl (by decide) rfl dX4_copy_46) rfl ?_
  refine okL_cons (ok_aload_n rfl dX4_copy_49) rfl ?_
  refine okL_cons (ok_aload_n rfl dX4_copy_50) rfl ?_
  refine okL_cons (ok_getI kw_123 cf_X4 rfl rfl (by decide) dX4_copy_51) rfl ?_
  refine okL_cons (ok_putI kw_123 cf_X4 rfl rfl (by decide) rfl dX4_copy_54) rfl ?_
  exact okL_one (ok_return rfl dX4_copy_57)
theorem dX4_clear_0 : decode cX4_clear 0 = .ok (.aload_n 0, 1) := by decide +kernel
theorem dX4_clear_1 : decode cX4_clear 1 = .ok (.iconst 0, 1) := by decide +kernel
theorem dX4_clear_2 : decode cX4_clear 2 = .ok (.putfield 26, 3) := by decide +kernel
theorem dX4_clear_5 : decode cX4_clear 5 = .ok (.return_, 1) := by decide +kernel
set_option maxRecDepth 100000 in
theorem okm_X4_clear : okL RX4 cX4_clear 1 none "clear" pcX4_clear opX4_clear pcX4_clear := by
  unfold opX4_clear
  refine okL_cons (ok_aload_n rfl dX4_clear_0) rfl ?_
  refine okL_cons (ok_iconst rfl dX4_clear_1) rfl ?_
  refine okL_cons (ok_putI kw_122 cf_X4 rfl rfl (by decide) rfl dX4_clear_2) rfl ?_
  exact okL_one (ok_return rfl dX4_clear_5)
theorem dX4_keep_0 : decode cX4_keep 0 = .ok (.aload_n 0, 1) := by decide +kernel
theorem dX4_keep_1 : decode cX4_keep 1 = .ok (.getfield 11, 3) := by decide +kernel
theorem dX4_keep_4 : decode cX4_keep 4 = .ok (.aload_n 0, 1) := by decide +kernel
theorem dX4_keep_5 : decode cX4_keep 5 = .ok (.getfield 30, 3) := by decide +kernel
theorem dX4_keep_8 : decode cX4_keep 8 = .ok (.aaload, 1) := by decide +kernel
theorem dX4_keep_9 : decode cX4_keep 9 = .ok (.aload_n 1, 1) := by decide +kernel
theorem dX4_keep_10 : decode cX4_keep 10 = .ok (.invokevirtual 22, 3) := by decide +kernel
theorem dX4_keep_13 : decode cX4_keep 13 = .ok (.aload_n 0, 1) := by decide +kernel
theorem dX4_keep_14 : decode cX4_keep 14 = .ok (.getfield 17, 3) := by decide +kernel
theorem dX4_keep_17 : decode cX4_keep 17 = .ok (.aload_n 0, 1) := by decide +kernel
theorem dX4_keep_18 : decode cX4_keep 18 = .ok (.getfield 30, 3) := by decide +kernel
theorem dX4_keep_21 : decode cX4_keep 21 = .ok (.iload_n 2, 1) := by decide +kernel
theorem dX4_keep_22 : decode cX4_keep 22 = .ok (.iastore, 1) := by decide +kernel
theorem dX4_keep_23 : decode cX4_keep 23 = .ok (.aload_n 0, 1) := by decide +kernel
theorem dX4_keep_24 : decode cX4_keep 24 = .ok (.aload_n 0, 1) := by decide +kernel
theorem dX4_keep_25 : decode cX4_keep 25 = .ok (.getfield 30, 3) := by decide +kernel
theorem dX4_keep_28 : decode cX4_keep 28 = .ok (.bipush 15, 2) := by decide +kernel
theorem dX4_keep_30 : decode cX4_keep 30 = .ok (.if_icmp .ne 7, 3) := by decide +kernel
theorem dX4_keep_33 : decode cX4_keep 33 = .ok (.iconst 0, 1) := by decide +kernel
theorem dX4_keep_34 : decode cX4_keep 34 = .ok (.goto 9, 3) := by decide +kernel
theorem dX4_keep_37 : decode cX4_keep 37 = .ok (.aload_n 0, 1) := by decide +kernel
theorem dX4_keep_38 : decode cX4_keep 38 = .ok (.getfield 30, 3) := by decide +kernel
theorem dX4_keep_41 : decode cX4_keep 41 = .ok (.iconst 1, 1) := by decide +kernel
theorem dX4_keep_42 : decode cX4_keep 42 = .ok (.iadd, 1) := by decide +kernel
theorem dX4_keep_43 : decode cX4_keep 43 = .ok (.putfield 30, 3) := by decide +kernel
theorem dX4_keep_46 : decode cX4_keep 46 = .ok (.aload_n 0, 1) := by decide +kernel
theorem dX4_keep_47 : decode cX4_keep 47 = .ok (.aload_n 0, 1) := by decide +kernel
theorem dX4_keep_48 : decode cX4_keep 48 = .ok (.getfield 26, 3) := by decide +kernel
theorem dX4_keep_51 : decode cX4_keep 51 = .ok (.iconst 1, 1) := by decide +kernel
theorem dX4_keep_52 : decode cX4_keep 52 = .ok (.iadd, 1) := by decide +kernel
theorem dX4_keep_53 : decode cX4_keep 53 = .ok (.bipush 16, 2) := by decide +kernel
theorem dX4_keep_55 : decode cX4_keep 55 = .ok (.invokestatic 33, 3) := by decide +kernel
theorem dX4_keep_58 : decode cX4_keep 58 = .ok (.putfield 26, 3) := by decide +kernel
theorem dX4_keep_61 : decode cX4_keep 61 = .ok (.return_, 1) := by decide +kernel
set_option maxRecDepth 100000 in
theorem okm_X4_keep : okL RX4 cX4_keep 3 none "keep" pcX4_keep opX4_keep pcX4_keep := by
  unfold opX4_keep
  refine okL_cons (ok_aload_n rfl dX4_keep_0) rfl ?_
  refine okL_cons (ok_getP kw_118 cf_X4 rfl rfl (by decide) dX4_keep_1) rfl ?_
  refine okL_cons (ok_aload_n rfl dX4_keep_4) rfl ?_
  refine okL_cons (ok_getI kw_123 cf_X4 rfl rfl (by decide) dX4_keep_5) rfl ?_
  refine okL_cons (ok_aaload (by decide) dX4_keep_8) rfl ?_
  refine okL_cons (ok_aload_n rfl dX4_keep_9) rfl ?_
  refine okL_cons (ok_invV (M' := 17) kw_121 kw_63 kw_64 kw_47 kw_65 cf_X2 rfl (by decide +kernel) dX4_keep_10) rfl ?_
  refine okL_cons (ok_aload_n rfl dX4_keep_13) rfl ?_
  refine okL_cons (ok_getP kw_119 cf_X4 rfl rfl (by decide) dX4_keep_14) rfl ?_
  refine okL_cons (ok_aload_n rfl dX4_keep_17) rfl ?_
  refine okL_cons (ok_getI kw_123 cf_X4 rfl rfl (by decide) dX4_keep_18) rfl ?_
  refine okL_cons (ok_iload_n rfl dX4_keep_21) rfl ?_
  refine okL_cons (ok_iastore dX4_keep_22) rfl ?_
  refine okL_cons (ok_aload_n rfl dX4_keep_23) rfl ?_
  refine okL_cons (ok_aload_n rfl dX4_keep_24) rfl ?_
  refine okL_cons (ok_getI kw_123 cf_X4 rfl rfl (by decide) dX4_keep_25) rfl ?_
  refine okL_cons (ok_bipush rfl dX4_keep_28) rfl ?_
  refine okL_cons (ok_icmp_ne rfl dX4_keep_30) rfl ?_
  refine okL_cons (ok_iconst rfl dX4_keep_33) rfl ?_
  refine okL_cons (ok_goto rfl dX4_keep_34) rfl ?_
  refine okL_cons (ok_aload_n rfl dX4_keep_37) rfl ?_
  refine okL_cons (ok_getI kw_123 cf_X4 rfl rfl (by decide) dX4_keep_38) rfl ?_
  refine okL_cons (ok_iconst rfl dX4_keep_41) rfl ?_
  refine okL_cons (ok_iadd dX4_keep_42) rfl ?_
  refine okL_cons (ok_putI kw_123 cf_X4 rfl rfl (by decide) rfl dX4_keep_43) rfl ?_
  refine okL_cons (ok_aload_n rfl dX4_keep_46) rfl ?_
  refine okL_cons (ok_aload_n rfl dX4_keep_47) rfl ?_
  refine okL_cons (ok_getI kw_122 cf_X4 rfl rfl (by decide) dX4_keep_48) rfl ?_
  refine okL_cons (ok_iconst rfl dX4_keep_51) rfl ?_
  refine okL_cons (ok_iadd dX4_keep_52) rfl ?_
  refine okL_cons (ok_bipush rfl dX4_keep_53) rfl ?_
  refine okL_cons (ok_min kw_124 kw_125 kw_36 kw_126 dX4_keep_55) rfl ?_
  refine okL_cons (ok_putI kw_122 cf_X4 rfl rfl (by decide) rfl dX4_keep_58) rfl ?_
  exact okL_one (ok_return rfl dX4_keep_61)
theorem dX4_restore_0 : decode cX4_restore 0 = .ok (.aload_n 0, 1) := by decide +kernel
theorem dX4_restore_1 : decode cX4_restore 1 = .ok (.aload_n 0, 1) := by decide +kernel
theorem dX4_restore_2 : decode cX4_restore 2 = .ok (.getfield 30, 3) := by decide +kernel
theorem dX4_restore_5 : decode cX4_restore 5 = .ok (.ifCond .ne 8, 3) := by decide +kernel
theorem dX4_restore_8 : decode cX4_restore 8 = .ok (.bipush 15, 2) := by decide +kernel
theorem dX4_restore_10 : decode cX4_restore 10 = .ok (.goto 9, 3) := by decide +kernel
theorem dX4_restore_13 : decode cX4_restore 13 = .ok (.aload_n 0, 1) := by decide +kernel
theorem dX4_restore_14 : decode cX4_restore 14 = .ok (.getfield 30, 3) := by decide +kernel
theorem dX4_restore_17 : decode cX4_restore 17 = .ok (.iconst 1, 1) := by decide +kernel
theorem dX4_restore_18 : decode cX4_restore 18 = .ok (.isub, 1) := by decide +kernel
theorem dX4_restore_19 : decode cX4_restore 19 = .ok (.putfield 30, 3) := by decide +kernel
theorem dX4_restore_22 : decode cX4_restore 22 = .ok (.aload_n 0, 1) := by decide +kernel
theorem dX4_restore_23 : decode cX4_restore 23 = .ok (.dup, 1) := by decide +kernel
theorem dX4_restore_24 : decode cX4_restore 24 = .ok (.getfield 26, 3) := by decide +kernel
theorem dX4_restore_27 : decode cX4_restore 27 = .ok (.iconst 1, 1) := by decide +kernel
theorem dX4_restore_28 : decode cX4_restore 28 = .ok (.isub, 1) := by decide +kernel
theorem dX4_restore_29 : decode cX4_restore 29 = .ok (.putfield 26, 3) := by decide +kernel
theorem dX4_restore_32 : decode cX4_restore 32 = .ok (.aload_n 1, 1) := by decide +kernel
theorem dX4_restore_33 : decode cX4_restore 33 = .ok (.aload_n 0, 1) := by decide +kernel
theorem dX4_restore_34 : decode cX4_restore 34 = .ok (.getfield 11, 3) := by decide +kernel
theorem dX4_restore_37 : decode cX4_restore 37 = .ok (.aload_n 0, 1) := by decide +kernel
theorem dX4_restore_38 : decode cX4_restore 38 = .ok (.getfield 30, 3) := by decide +kernel
theorem dX4_restore_41 : decode cX4_restore 41 = .ok (.aaload, 1) := by decide +kernel
theorem dX4_restore_42 : decode cX4_restore 42 = .ok (.invokevirtual 22, 3) := by decide +kernel
theorem dX4_restore_45 : decode cX4_restore 45 = .ok (.aload_n 0, 1) := by decide +kernel
theorem dX4_restore_46 : decode cX4_restore 46 = .ok (.getfield 17, 3) := by decide +kernel
theorem dX4_restore_49 : decode cX4_restore 49 = .ok (.aload_n 0, 1) := by decide +kernel
theorem dX4_restore_50 : decode cX4_restore 50 = .ok (.getfield 30, 3) := by decide +kernel
theorem dX4_restore_53 : decode cX4_restore 53 = .ok (.iaload, 1) := by decide +kernel
theorem dX4_restore_54 : decode cX4_restore 54 = .ok (.ireturn, 1) := by decide +kernel
set_option maxRecDepth 100000 in
theorem okm_X4_restore : okL RX4 cX4_restore 2 (some .int) "restore" pcX4_restore opX4_restore pcX4_restore := by
  unfold opX4_restore
  refine okL_cons (ok_aload_n rfl dX4_restore_0) rfl ?_
  refine okL_cons (ok_aload_n rfl dX4_restore_1) rfl ?_
  refine okL_cons (ok_getI kw_123 cf_X4 rfl rfl (by decide) dX4_restore_2) rfl ?_
  refine okL_cons (ok_if_ne rfl dX4_restore_5) rfl ?_
  refine okL_cons (ok_bipush rfl dX4_restore_8) rfl ?_
  refine okL_cons (ok_goto rfl dX4_restore_10) rfl ?_
  refine okL_cons (ok_aload_n rfl dX4_restore_13) rfl ?_
  refine okL_cons (ok_getI kw_123 cf_X4 rfl rfl (by decide) dX4_restore_14) rfl ?_
  refine okL_cons (ok_iconst rfl dX4_restore_17) rfl ?_
  refine okL_cons (ok_isub dX4_restore_18) rfl ?_
  refine okL_cons (ok_putI kw_123 cf_X4 rfl rfl (by decide) rfl dX4_restore_19) rfl ?_
  refine okL_cons (ok_aload_n rfl dX4_restore_22) rfl ?_
  refine okL_cons (ok_dup dX4_restore_23) rfl ?_
  refine okL_cons (ok_getI kw_122 cf_X4 rfl rfl (by decide) dX4_restore_24) rfl ?_
  refine okL_cons (ok_iconst rfl dX4_restore_27) rfl ?_
  refine okL_cons (ok_isub dX4_restore_28) rfl ?_
  refine okL_cons (ok_putI kw_122 cf_X4 rfl rfl (by decide) rfl dX4_restore_29) rfl ?_
  refine okL_cons (ok_aload_n rfl dX4_restore_32) rfl ?_
  refine okL_cons (ok_aload_n rfl dX4_restore_33) rfl ?_
  refine okL_cons (ok_getP kw_118 cf_X4 rfl rfl (by decide) dX4_restore_34) rfl ?_
  refine okL_cons (ok_aload_n rfl dX4_restore_37) rfl ?_
  refine okL_cons (ok_getI kw_123 cf_X4 rfl rfl (by decide) dX4_restore_38) rfl ?_
  refine okL_cons (ok_aaload (by decide) dX4_restore_41) rfl ?_
  refine okL_cons (ok_invV (M' := 17) kw_121 kw_63 kw_64 kw_47 kw_65 cf_X2 rfl (by decide +kernel) dX4_restore_42) rfl ?_
  refine okL_cons (ok_aload_n rfl dX4_restore_45) rfl ?_
  refine okL_cons (ok_getP kw_119 cf_X4 rfl rfl (by decide) dX4_restore_46) rfl ?_
  refine okL_cons (ok_aload_n rfl dX4_restore_49) rfl ?_
  refine okL_cons (ok_getI kw_123 cf_X4 rfl rfl (by decide) dX4_restore_50) rfl ?_
  refine okL_cons (ok_iaload dX4_restore_53) rfl ?_
  exact okL_one (ok_ireturn rfl dX4_restore_54)
theorem dX5_init_0 : decode cX5_init 0 = .ok (.aload_n 0, 1) := by decide +kernel
theorem dX5_init_1 : decode cX5_init 1 = .ok (.invokespecial 3, 3) := by decide +kernel
theorem dX5_init_4 : decode cX5_init 4 = .ok (.aload_n 0, 1) := by decide +kernel
theorem dX5_init_5 : decode cX5_init 5 = .ok (.aload_n 1, 1) := by decide +kernel
theorem dX5_init_6 : decode cX5_init 6 = .ok (.putfield 9, 3) := by decide +kernel
theorem dX5_init_9 : decode cX5_init 9 = .ok (.return_, 1) := by decide +kernel
set_option maxRecDepth 100000 in
theorem okm_X5_init : okL RX5 cX5_init 2 none "<init>" pcX5_init opX5_init pcX5_init := by
  unfold opX5_init
  refine okL_cons (ok_aload_n rfl dX5_init_0) rfl ?_
  refine okL_cons (ok_obj kw_127 kw_29 kw_30 dX5_init_1) rfl ?_
  refine okL_cons (ok_aload_n rfl dX5_init_4) rfl ?_
  refine okL_cons (ok_aload_n rfl dX5_init_5) rfl ?_
  refine okL_cons (ok_putPF kw_128 cf_X5 rfl rfl (by decide) rfl rfl rfl dX5_init_6) rfl ?_
  exact okL_one (ok_return rfl dX5_init_9)
theorem dX5_read_0 : decode cX5_read 0 = .ok (.aload_n 0, 1) := by decide +kernel
theorem dX5_read_1 : decode cX5_read 1 = .ok (.aload_n 1, 1) := by decide +kernel
theorem dX5_read_2 : decode cX5_read 2 = .ok (.putfield 15, 3) := by decide +kernel
theorem dX5_read_5 : decode cX5_read 5 = .ok (.aload_n 0, 1) := by decide +kernel
theorem dX5_read_6 : decode cX5_read 6 = .ok (.getfield 15, 3) := by decide +kernel
theorem dX5_read_9 : decode cX5_read 9 = .ok (.invokevirtual 19, 3) := by decide +kernel
theorem dX5_read_12 : decode cX5_read 12 = .ok (.aload_n 0, 1) := by decide +kernel
theorem dX5_read_13 : decode cX5_read 13 = .ok (.iload_n 2, 1) := by decide +kernel
theorem dX5_read_14 : decode cX5_read 14 = .ok (.putfield 24, 3) := by decide +kernel
theorem dX5_read_17 : decode cX5_read 17 = .ok (.aload_n 0, 1) := by decide +kernel
theorem dX5_read_18 : decode cX5_read 18 = .ok (.iconst 0, 1) := by decide +kernel
theorem dX5_read_19 : decode cX5_read 19 = .ok (.putfield 28, 3) := by decide +kernel
theorem dX5_read_22 : decode cX5_read 22 = .ok (.aload_n 0, 1) := by decide +kernel
theorem dX5_read_23 : decode cX5_read 23 = .ok (.iconst 0, 1) := by decide +kernel
theorem dX5_read_24 : decode cX5_read 24 = .ok (.putfield 32, 3) := by decide +kernel
theorem dX5_read_27 : decode cX5_read 27 = .ok (.aload_n 0, 1) := by decide +kernel
theorem dX5_read_28 : decode cX5_read 28 = .ok (.getfield 9, 3) := by decide +kernel
theorem dX5_read_31 : decode cX5_read 31 = .ok (.invokevirtual 35, 3) := by decide +kernel
theorem dX5_read_34 : decode cX5_read 34 = .ok (.iconst 0, 1) := by decide +kernel
theorem dX5_read_35 : decode cX5_read 35 = .ok (.istore_n 3, 1) := by decide +kernel
theorem dX5_read_36 : decode cX5_read 36 = .ok (.iload_n 3, 1) := by decide +kernel
theorem dX5_read_37 : decode cX5_read 37 = .ok (.bipush 12, 2) := by decide +kernel
theorem dX5_read_39 : decode cX5_read 39 = .ok (.if_icmp .ge 82, 3) := by decide +kernel
theorem dX5_read_42 : decode cX5_read 42 = .ok (.aload_n 0, 1) := by decide +kernel
theorem dX5_read_43 : decode cX5_read 43 = .ok (.getfield 15, 3) := by decide +kernel
theorem dX5_read_46 : decode cX5_read 46 = .ok (.invokevirtual 40, 3) := by decide +kernel
theorem dX5_read_49 : decode cX5_read 49 = .ok (.ifCond .eq 72, 3) := by decide +kernel
theorem dX5_read_52 : decode cX5_read 52 = .ok (.aload_n 0, 1) := by decide +kernel
theorem dX5_read_53 : decode cX5_read 53 = .ok (.getfield 24, 3) := by decide +kernel
theorem dX5_read_56 : decode cX5_read 56 = .ok (.ifCond .eq 11, 3) := by decide +kernel
theorem dX5_read_59 : decode cX5_read 59 = .ok (.aload_n 0, 1) := by decide +kernel
theorem dX5_read_60 : decode cX5_read 60 = .ok (.iload_n 3, 1) := by decide +kernel
theorem dX5_read_61 : decode cX5_read 61 = .ok (.invokevirtual 44, 3) := by decide +kernel
theorem dX5_read_64 : decode cX5_read 64 = .ok (.goto 8, 3) := by decide +kernel
theorem dX5_read_67 : decode cX5_read 67 = .ok (.aload_n 0, 1) := by decide +kernel
theorem dX5_read_68 : decode cX5_read 68 = .ok (.iload_n 3, 1) := by decide +kernel
theorem dX5_read_69 : decode cX5_read 69 = .ok (.invokevirtual 48, 3) := by decide +kernel
theorem dX5_read_72 : decode cX5_read 72 = .ok (.istore 4, 2) := by decide +kernel
theorem dX5_read_74 : decode cX5_read 74 = .ok (.iload 4, 2) := by decide +kernel
theorem dX5_read_76 : decode cX5_read 76 = .ok (.ifCond .eq 45, 3) := by decide +kernel
theorem dX5_read_79 : decode cX5_read 79 = .ok (.aload_n 0, 1) := by decide +kernel
theorem dX5_read_80 : decode cX5_read 80 = .ok (.iload_n 3, 1) := by decide +kernel
theorem dX5_read_81 : decode cX5_read 81 = .ok (.invokevirtual 51, 3) := by decide +kernel
theorem dX5_read_84 : decode cX5_read 84 = .ok (.ifCond .ne 6, 3) := by decide +kernel
theorem dX5_read_87 : decode cX5_read 87 = .ok (.goto 34, 3) := by decide +kernel
theorem dX5_read_90 : decode cX5_read 90 = .ok (.aload_n 0, 1) := by decide +kernel
theorem dX5_read_91 : decode cX5_read 91 = .ok (.invokevirtual 54, 3) := by decide +kernel
theorem dX5_read_94 : decode cX5_read 94 = .ok (.sipush 4000, 3) := by decide +kernel
theorem dX5_read_97 : decode cX5_read 97 = .ok (.if_icmp .ne 5, 3) := by decide +kernel
theorem dX5_read_100 : decode cX5_read 100 = .ok (.iconst (-1), 1) := by decide +kernel
theorem dX5_read_101 : decode cX5_read 101 = .ok (.ireturn, 1) := by decide +kernel
theorem dX5_read_102 : decode cX5_read 102 = .ok (.aload_n 0, 1) := by decide +kernel
theorem dX5_read_103 : decode cX5_read 103 = .ok (.sipush 2059, 3) := by decide +kernel
theorem dX5_read_106 : decode cX5_read 106 = .ok (.invokevirtual 58, 3) := by decide +kernel
theorem dX5_read_109 : decode cX5_read 109 = .ok (.ifCond .ne 6, 3) := by decide +kernel
theorem dX5_read_112 : decode cX5_read 112 = .ok (.goto 9, 3) := by decide +kernel
theorem dX5_read_115 : decode cX5_read 115 = .ok (.iinc 3 1, 3) := by decide +kernel
theorem dX5_read_118 : decode cX5_read 118 = .ok (.goto (-82), 3) := by decide +kernel
theorem dX5_read_121 : decode cX5_read 121 = .ok (.aload_n 0, 1) := by decide +kernel
theorem dX5_read_122 : decode cX5_read 122 = .ok (.getfield 9, 3) := by decide +kernel
theorem dX5_read_125 : decode cX5_read 125 = .ok (.getfield 61, 3) := by decide +kernel
theorem dX5_read_128 : decode cX5_read 128 = .ok (.aload_n 0, 1) := by decide +kernel
theorem dX5_read_129 : decode cX5_read 129 = .ok (.getfield 32, 3) := by decide +kernel
theorem dX5_read_132 : decode cX5_read 132 = .ok (.iaload, 1) := by decide +kernel
theorem dX5_read_133 : decode cX5_read 133 = .ok (.ireturn, 1) := by decide +kernel
set_option maxRecDepth 100000 in
theorem okm_X5_read : okL RX5 cX5_read 5 (some .int) "read" pcX5_read opX5_read pcX5_read := by
  unfold opX5_read
  refine okL_cons (ok_aload_n rfl dX5_read_0) rfl ?_
  refine okL_cons (ok_aload_n rfl dX5_read_1) rfl ?_
  refine okL_cons (ok_putP kw_129 cf_X5 rfl rfl (by decide) rfl dX5_read_2) rfl ?_
  refine okL_cons (ok_aload_n rfl dX5_read_5) rfl ?_
  refine okL_cons (ok_getP kw_129 cf_X5 rfl rfl (by decide) dX5_read_6) rfl ?_
  refine okL_cons (ok_invV (M' := 93) kw_130 kw_131 kw_132 kw_59 kw_133 cf_X9 rfl (by decide +kernel) dX5_read_9) rfl ?_
  refine okL_cons (ok_aload_n rfl dX5_read_12) rfl ?_
  refine okL_cons (ok_iload_n rfl dX5_read_13) rfl ?_
  refine okL_cons (ok_putZ kw_134 cf_X5 rfl rfl (by decide) rfl dX5_read_14) rfl ?_
  refine okL_cons (ok_aload_n rfl dX5_read_17) rfl ?_
  refine okL_cons (ok_iconst rfl dX5_read_18) rfl ?_
  refine okL_cons (ok_putI kw_135 cf_X5 rfl rfl (by decide) rfl dX5_read_19) rfl ?_
  refine okL_cons (ok_aload_n rfl dX5_read_22) rfl ?_
  refine okL_cons (ok_iconst rfl dX5_read_23) rfl ?_
  refine okL_cons (ok_putI kw_136 cf_X5 rfl rfl (by decide) rfl dX5_read_24) rfl ?_
  refine okL_cons (ok_aload_n rfl dX5_read_27) rfl ?_
  refine okL_cons (ok_getP kw_128 cf_X5 rfl rfl (by decide) dX5_read_28) rfl ?_
  refine okL_cons (ok_invV (M' := 81) kw_137 kw_138 kw_139 kw_140 kw_141 cf_X8 rfl (by decide +kernel) dX5_read_31) rfl ?_
  refine okL_cons (ok_iconst rfl dX5_read_34) rfl ?_
  refine okL_cons (ok_istore_n rfl dX5_read_35) rfl ?_
  refine okL_cons (ok_iload_n rfl dX5_read_36) rfl ?_
  refine okL_cons (ok_bipush rfl dX5_read_37) rfl ?_
  refine okL_cons (ok_icmp_ge rfl dX5_read_39) rfl ?_
  refine okL_cons (ok_aload_n rfl dX5_read_42) rfl ?_
  refine okL_cons (ok_getP kw_129 cf_X5 rfl rfl (by decide) dX5_read_43) rfl ?_
  refine okL_cons (ok_invV (M' := 94) kw_142 kw_143 kw_144 kw_59 kw_145 cf_X9 rfl (by decide +kernel) dX5_read_46) rfl ?_
  refine okL_cons (ok_if_eq rfl dX5_read_49) rfl ?_
  refine okL_cons (ok_aload_n rfl dX5_read_52) rfl ?_
  refine okL_cons (ok_getI kw_134 cf_X5 rfl rfl (by decide) dX5_read_53) rfl ?_
  refine okL_cons (ok_if_eq rfl dX5_read_56) rfl ?_
  refine okL_cons (ok_aload_n rfl dX5_read_59) rfl ?_
  refine okL_cons (ok_iload_n rfl dX5_read_60) rfl ?_
  refine okL_cons (ok_invV (M' := 39) kw_146 kw_147 kw_148 kw_149 kw_150 cf_X5 rfl (by decide +kernel) dX5_read_61) rfl ?_
  refine okL_cons (ok_goto rfl dX5_read_64) rfl ?_
  refine okL_cons (ok_aload_n rfl dX5_read_67) rfl ?_
  refine okL_cons (ok_iload_n rfl dX5_read_68) rfl ?_
  refine okL_cons (ok_invV (M' := 38) kw_151 kw_152 kw_153 kw_149 kw_154 cf_X5 rfl (by decide +kernel) dX5_read_69) rfl ?_
  refine okL_cons (ok_istore dX5_read_72) rfl ?_
  refine okL_cons (ok_iload dX5_read_74) rfl ?_
  refine okL_cons (ok_if_eq rfl dX5_read_76) rfl ?_
  refine okL_cons (ok_aload_n rfl dX5_read_79) rfl ?_
  refine okL_cons (ok_iload_n rfl dX5_read_80) rfl ?_
  refine okL_cons (ok_invV (M' := 42) kw_155 kw_156 kw_157 kw_149 kw_158 cf_X5 rfl (by decide +kernel) dX5_read_81) rfl ?_
  refine okL_cons (ok_if_ne rfl dX5_read_84) rfl ?_
  refine okL_cons (ok_goto rfl dX5_read_87) rfl ?_
  refine okL_cons (ok_aload_n rfl dX5_read_90) rfl ?_
  refine okL_cons (ok_invV (M' := 35) kw_159 kw_160 kw_161 kw_149 kw_162 cf_X5 rfl (by decide +kernel) dX5_read_91) rfl ?_
  refine okL_cons (ok_sipush rfl dX5_read_94) rfl ?_
  refine okL_cons (ok_icmp_ne rfl dX5_read_97) rfl ?_
  refine okL_cons (ok_iconst rfl dX5_read_100) rfl ?_
  refine okL_cons (ok_ireturn rfl dX5_read_101) rfl ?_
  refine okL_cons (ok_aload_n rfl dX5_read_102) rfl ?_
  refine okL_cons (ok_sipush rfl dX5_read_103) rfl ?_
  refine okL_cons (ok_invV (M' := 37) kw_163 kw_164 kw_165 kw_149 kw_166 cf_X5 rfl (by decide +kernel) dX5_read_106) rfl ?_
  refine okL_cons (ok_if_ne rfl dX5_read_109) rfl ?_
  refine okL_cons (ok_goto rfl dX5_read_112) rfl ?_
  refine okL_cons (ok_iinc rfl dX5_read_115) rfl ?_
  refine okL_cons (ok_goto rfl dX5_read_118) rfl ?_
  refine okL_cons (ok_aload_n rfl dX5_read_121) rfl ?_
  refine okL_cons (ok_getP kw_128 cf_X5 rfl rfl (by decide) dX5_read_122) rfl ?_
  refine okL_cons (ok_getNP 51 cf_X8 rfl rfl rfl (by decide) dX5_read_125) rfl ?_
  refine okL_cons (ok_aload_n rfl dX5_read_128) rfl ?_
  refine okL_cons (ok_getI kw_136 cf_X5 rfl rfl (by decide) dX5_read_129) rfl ?_
  refine okL_cons (ok_iaload dX5_read_132) rfl ?_
  exact okL_one (ok_ireturn rfl dX5_read_133)
theorem dX5_token_0 : decode cX5_token 0 = .ok (.aload_n 0, 1) := by decide +kernel
theorem dX5_token_1 : decode cX5_token 1 = .ok (.getfield 9, 3) := by decide +kernel
theorem dX5_token_4 : decode cX5_token 4 = .ok (.getfield 65, 3) := by decide +kernel
theorem dX5_token_7 : decode cX5_token 7 = .ok (.aload_n 0, 1) := by decide +kernel
theorem dX5_token_8 : decode cX5_token 8 = .ok (.getfield 32, 3) := by decide +kernel
theorem dX5_token_11 : decode cX5_token 11 = .ok (.iaload, 1) := by decide +kernel
theorem dX5_token_12 : decode cX5_token 12 = .ok (.ireturn, 1) := by decide +kernel
set_option maxRecDepth 100000 in
theorem okm_X5_token : okL RX5 cX5_token 1 (some .int) "token" pcX5_token opX5_token pcX5_token := by
  unfold opX5_token
  refine okL_cons (ok_aload_n rfl dX5_token_0) rfl ?_
  refine okL_cons (ok_getP kw_128 cf_X5 rfl rfl (by decide) dX5_token_1) rfl ?_
  refine okL_cons (ok_getNP 50 cf_X8 rfl rfl rfl (by decide) dX5_token_4) rfl ?_
  refine okL_cons (ok_aload_n rfl dX5_token_7) rfl ?_
  refine okL_cons (ok_getI kw_136 cf_X5 rfl rfl (by decide) dX5_token_8) rfl ?_
  refine okL_cons (ok_iaload dX5_token_11) rfl ?_
  exact okL_one (ok_ireturn rfl dX5_token_12)
theorem dX5_goOn_0 : decode cX5_goOn 0 = .ok (.aload_n 0, 1) := by decide +kernel
theorem dX5_goOn_1 : decode cX5_goOn 1 = .ok (.getfield 32, 3) := by decide +kernel
theorem dX5_goOn_4 : decode cX5_goOn 4 = .ok (.aload_n 0, 1) := by decide +kernel
theorem dX5_goOn_5 : decode cX5_goOn 5 = .ok (.getfield 9, 3) := by decide +kernel
theorem dX5_goOn_8 : decode cX5_goOn 8 = .ok (.getfield 67, 3) := by decide +kernel
theorem dX5_goOn_11 : decode cX5_goOn 11 = .ok (.iconst 1, 1) := by decide +kernel
theorem dX5_goOn_12 : decode cX5_goOn 12 = .ok (.isub, 1) := by decide +kernel
theorem dX5_goOn_13 : decode cX5_goOn 13 = .ok (.if_icmp .ge 13, 3) := by decide +kernel
theorem dX5_goOn_16 : decode cX5_goOn 16 = .ok (.aload_n 0, 1) := by decide +kernel
theorem dX5_goOn_17 : decode cX5_goOn 17 = .ok (.dup, 1) := by decide +kernel
theorem dX5_goOn_18 : decode cX5_goOn 18 = .ok (.getfield 32, 3) := by decide +kernel
theorem dX5_goOn_21 : decode cX5_goOn 21 = .ok (.iconst 1, 1) := by decide +kernel
theorem dX5_goOn_22 : decode cX5_goOn 22 = .ok (.iadd, 1) := by decide +kernel
theorem dX5_goOn_23 : decode cX5_goOn 23 = .ok (.putfield 32, 3) := by decide +kernel
theorem dX5_goOn_26 : decode cX5_goOn 26 = .ok (.return_, 1) := by decide +kernel
set_option maxRecDepth 100000 in
theorem okm_X5_goOn : okL RX5 cX5_goOn 1 none "goOn" pcX5_goOn opX5_goOn pcX5_goOn := by
  unfold opX5_goOn
  refine okL_cons (ok_aload_n rfl dX5_goOn_0) rfl ?_
  refine okL_cons (ok_getI kw_136 cf_X5 rfl rfl (by decide) dX5_goOn_1) rfl ?_
  refine okL_cons (ok_aload_n rfl dX5_goOn_4) rfl ?_
  refine okL_cons (ok_getP kw_128 cf_X5 rfl rfl (by decide) dX5_goOn_5) rfl ?_
  refine okL_cons (ok_getNI 52 cf_X8 rfl rfl rfl (by decide) dX5_goOn_8) rfl ?_
  refine okL_cons (ok_iconst rfl dX5_goOn_11) rfl ?_
  refine okL_cons (ok_isub dX5_goOn_12) rfl ?_
  refine okL_cons (ok_icmp_ge rfl dX5_goOn_13) rfl ?_
  refine okL_cons (ok_aload_n rfl dX5_goOn_16) rfl ?_
  refine okL_cons (ok_dup dX5_goOn_17) rfl ?_
  refine okL_cons (ok_getI kw_136 cf_X5 rfl rfl (by decide) dX5_goOn_18) rfl ?_
  refine okL_cons (ok_iconst rfl dX5_goOn_21) rfl ?_
  refine okL_cons (ok_iadd dX5_goOn_22) rfl ?_
  refine okL_cons (ok_putI kw_136 cf_X5 rfl rfl (by decide) rfl dX5_goOn_23) rfl ?_
  exact okL_one (ok_return rfl dX5_goOn_26)
theorem dX5_took_0 : decode cX5_took 0 = .ok (.aload_n 0, 1) := by decide +kernel
theorem dX5_took_1 : decode cX5_took 1 = .ok (.getfield 9, 3) := by decide +kernel
theorem dX5_took_4 : decode cX5_took 4 = .ok (.getfield 65, 3) := by decide +kernel
theorem dX5_took_7 : decode cX5_took 7 = .ok (.aload_n 0, 1) := by decide +kernel
theorem dX5_took_8 : decode cX5_took 8 = .ok (.getfield 32, 3) := by decide +kernel
theorem dX5_took_11 : decode cX5_took 11 = .ok (.iaload, 1) := by decide +kernel
theorem dX5_took_12 : decode cX5_took 12 = .ok (.iload_n 1, 1) := by decide +kernel
theorem dX5_took_13 : decode cX5_took 13 = .ok (.if_icmp .ne 7, 3) := by decide +kernel
theorem dX5_took_16 : decode cX5_took 16 = .ok (.iconst 1, 1) := by decide +kernel
theorem dX5_took_17 : decode cX5_took 17 = .ok (.goto 4, 3) := by decide +kernel
theorem dX5_took_20 : decode cX5_took 20 = .ok (.iconst 0, 1) := by decide +kernel
theorem dX5_took_21 : decode cX5_took 21 = .ok (.istore_n 2, 1) := by decide +kernel
theorem dX5_took_22 : decode cX5_took 22 = .ok (.iload_n 2, 1) := by decide +kernel
theorem dX5_took_23 : decode cX5_took 23 = .ok (.ifCond .eq 29, 3) := by decide +kernel
theorem dX5_took_26 : decode cX5_took 26 = .ok (.aload_n 0, 1) := by decide +kernel
theorem dX5_took_27 : decode cX5_took 27 = .ok (.getfield 32, 3) := by decide +kernel
theorem dX5_took_30 : decode cX5_took 30 = .ok (.aload_n 0, 1) := by decide +kernel
theorem dX5_took_31 : decode cX5_took 31 = .ok (.getfield 9, 3) := by decide +kernel
theorem dX5_took_34 : decode cX5_took 34 = .ok (.getfield 67, 3) := by decide +kernel
theorem dX5_took_37 : decode cX5_took 37 = .ok (.iconst 1, 1) := by decide +kernel
theorem dX5_took_38 : decode cX5_took 38 = .ok (.isub, 1) := by decide +kernel
theorem dX5_took_39 : decode cX5_took 39 = .ok (.if_icmp .ge 13, 3) := by decide +kernel
theorem dX5_took_42 : decode cX5_took 42 = .ok (.aload_n 0, 1) := by decide +kernel
theorem dX5_took_43 : decode cX5_took 43 = .ok (.dup, 1) := by decide +kernel
theorem dX5_took_44 : decode cX5_took 44 = .ok (.getfield 32, 3) := by decide +kernel
theorem dX5_took_47 : decode cX5_took 47 = .ok (.iconst 1, 1) := by decide +kernel
theorem dX5_took_48 : decode cX5_took 48 = .ok (.iadd, 1) := by decide +kernel
theorem dX5_took_49 : decode cX5_took 49 = .ok (.putfield 32, 3) := by decide +kernel
theorem dX5_took_52 : decode cX5_took 52 = .ok (.iload_n 2, 1) := by decide +kernel
theorem dX5_took_53 : decode cX5_took 53 = .ok (.ireturn, 1) := by decide +kernel
set_option maxRecDepth 100000 in
theorem okm_X5_took : okL RX5 cX5_took 3 (some .boolean) "took" pcX5_took opX5_took pcX5_took := by
  unfold opX5_took
  refine okL_cons (ok_aload_n rfl dX5_took_0) rfl ?_
  refine okL_cons (ok_getP kw_128 cf_X5 rfl rfl (by decide) dX5_took_1) rfl ?_
  refine okL_cons (ok_getNP 50 cf_X8 rfl rfl rfl (by decide) dX5_took_4) rfl ?_
  refine okL_cons (ok_aload_n rfl dX5_took_7) rfl ?_
  refine okL_cons (ok_getI kw_136 cf_X5 rfl rfl (by decide) dX5_took_8) rfl ?_
  refine okL_cons (ok_iaload dX5_took_11) rfl ?_
  refine okL_cons (ok_iload_n rfl dX5_took_12) rfl ?_
  refine okL_cons (ok_icmp_ne rfl dX5_took_13) rfl ?_
  refine okL_cons (ok_iconst rfl dX5_took_16) rfl ?_
  refine okL_cons (ok_goto rfl dX5_took_17) rfl ?_
  refine okL_cons (ok_iconst rfl dX5_took_20) rfl ?_
  refine okL_cons (ok_istore_n rfl dX5_took_21) rfl ?_
  refine okL_cons (ok_iload_n rfl dX5_took_22) rfl ?_
  refine okL_cons (ok_if_eq rfl dX5_took_23) rfl ?_
  refine okL_cons (ok_aload_n rfl dX5_took_26) rfl ?_
  refine okL_cons (ok_getI kw_136 cf_X5 rfl rfl (by decide) dX5_took_27) rfl ?_
  refine okL_cons (ok_aload_n rfl dX5_took_30) rfl ?_
  refine okL_cons (ok_getP kw_128 cf_X5 rfl rfl (by decide) dX5_took_31) rfl ?_
  refine okL_cons (ok_getNI 52 cf_X8 rfl rfl rfl (by decide) dX5_took_34) rfl ?_
  refine okL_cons (ok_iconst rfl dX5_took_37) rfl ?_
  refine okL_cons (ok_isub dX5_took_38) rfl ?_
  refine okL_cons (ok_icmp_ge rfl dX5_took_39) rfl ?_
  refine okL_cons (ok_aload_n rfl dX5_took_42) rfl ?_
  refine okL_cons (ok_dup dX5_took_43) rfl ?_
  refine okL_cons (ok_getI kw_136 cf_X5 rfl rfl (by decide) dX5_took_44) rfl ?_
  refine okL_cons (ok_iconst rfl dX5_took_47) rfl ?_
  refine okL_cons (ok_iadd dX5_took_48) rfl ?_
  refine okL_cons (ok_putI kw_136 cf_X5 rfl rfl (by decide) rfl dX5_took_49) rfl ?_
  refine okL_cons (ok_iload_n rfl dX5_took_52) rfl ?_
  exact okL_one (ok_zreturn rfl dX5_took_53)
theorem dX5_readRule_0 : decode cX5_readRule 0 = .ok (.aload_n 0, 1) := by decide +kernel
theorem dX5_readRule_1 : decode cX5_readRule 1 = .ok (.sipush 3002, 3) := by decide +kernel
theorem dX5_readRule_4 : decode cX5_readRule 4 = .ok (.invokevirtual 58, 3) := by decide +kernel
theorem dX5_readRule_7 : decode cX5_readRule 7 = .ok (.ifCond .eq 15, 3) := by decide +kernel
theorem dX5_readRule_10 : decode cX5_readRule 10 = .ok (.aload_n 0, 1) := by decide +kernel
theorem dX5_readRule_11 : decode cX5_readRule 11 = .ok (.getfield 15, 3) := by decide +kernel
theorem dX5_readRule_14 : decode cX5_readRule 14 = .ok (.getfield 70, 3) := by decide +kernel
theorem dX5_readRule_17 : decode cX5_readRule 17 = .ok (.iload_n 1, 1) := by decide +kernel
theorem dX5_readRule_18 : decode cX5_readRule 18 = .ok (.iconst 5, 1) := by decide +kernel
theorem dX5_readRule_19 : decode cX5_readRule 19 = .ok (.iastore, 1) := by decide +kernel
theorem dX5_readRule_20 : decode cX5_readRule 20 = .ok (.iconst 1, 1) := by decide +kernel
theorem dX5_readRule_21 : decode cX5_readRule 21 = .ok (.ireturn, 1) := by decide +kernel
theorem dX5_readRule_22 : decode cX5_readRule 22 = .ok (.aload_n 0, 1) := by decide +kernel
theorem dX5_readRule_23 : decode cX5_readRule 23 = .ok (.sipush 3001, 3) := by decide +kernel
theorem dX5_readRule_26 : decode cX5_readRule 26 = .ok (.invokevirtual 58, 3) := by decide +kernel
theorem dX5_readRule_29 : decode cX5_readRule 29 = .ok (.ifCond .ne 5, 3) := by decide +kernel
theorem dX5_readRule_32 : decode cX5_readRule 32 = .ok (.iconst 0, 1) := by decide +kernel
theorem dX5_readRule_33 : decode cX5_readRule 33 = .ok (.ireturn, 1) := by decide +kernel
theorem dX5_readRule_34 : decode cX5_readRule 34 = .ok (.aload_n 0, 1) := by decide +kernel
theorem dX5_readRule_35 : decode cX5_readRule 35 = .ok (.getfield 15, 3) := by decide +kernel
theorem dX5_readRule_38 : decode cX5_readRule 38 = .ok (.getfield 70, 3) := by decide +kernel
theorem dX5_readRule_41 : decode cX5_readRule 41 = .ok (.iload_n 1, 1) := by decide +kernel
theorem dX5_readRule_42 : decode cX5_readRule 42 = .ok (.iconst 4, 1) := by decide +kernel
theorem dX5_readRule_43 : decode cX5_readRule 43 = .ok (.iastore, 1) := by decide +kernel
theorem dX5_readRule_44 : decode cX5_readRule 44 = .ok (.aload_n 0, 1) := by decide +kernel
theorem dX5_readRule_45 : decode cX5_readRule 45 = .ok (.getfield 15, 3) := by decide +kernel
theorem dX5_readRule_48 : decode cX5_readRule 48 = .ok (.getfield 73, 3) := by decide +kernel
theorem dX5_readRule_51 : decode cX5_readRule 51 = .ok (.iload_n 1, 1) := by decide +kernel
theorem dX5_readRule_52 : decode cX5_readRule 52 = .ok (.aload_n 0, 1) := by decide +kernel
theorem dX5_readRule_53 : decode cX5_readRule 53 = .ok (.getfield 15, 3) := by decide +kernel
theorem dX5_readRule_56 : decode cX5_readRule 56 = .ok (.getfield 76, 3) := by decide +kernel
theorem dX5_readRule_59 : decode cX5_readRule 59 = .ok (.iastore, 1) := by decide +kernel
theorem dX5_readRule_60 : decode cX5_readRule 60 = .ok (.aload_n 0, 1) := by decide +kernel
theorem dX5_readRule_61 : decode cX5_readRule 61 = .ok (.aload_n 0, 1) := by decide +kernel
theorem dX5_readRule_62 : decode cX5_readRule 62 = .ok (.iconst 0, 1) := by decide +kernel
theorem dX5_readRule_63 : decode cX5_readRule 63 = .ok (.invokevirtual 79, 3) := by decide +kernel
theorem dX5_readRule_66 : decode cX5_readRule 66 = .ok (.invokevirtual 82, 3) := by decide +kernel
theorem dX5_readRule_69 : decode cX5_readRule 69 = .ok (.ireturn, 1) := by decide +kernel
set_option maxRecDepth 100000 in
theorem okm_X5_readRule : okL RX5 cX5_readRule 2 (some .boolean) "readRule" pcX5_readRule opX5_readRule pcX5_readRule := by
  unfold opX5_readRule
  refine okL_cons (ok_aload_n rfl dX5_readRule_0) rfl ?_
  refine okL_cons (ok_sipush rfl dX5_readRule_1) rfl ?_
  refine okL_cons (ok_invV (M' := 37) kw_163 kw_164 kw_165 kw_149 kw_166 cf_X5 rfl (by decide +kernel) dX5_readRule_4) rfl ?_
  refine okL_cons (ok_if_eq rfl dX5_readRule_7) rfl ?_
  refine okL_cons (ok_aload_n rfl dX5_readRule_10) rfl ?_
  refine okL_cons (ok_getP kw_129 cf_X5 rfl rfl (by decide) dX5_readRule_11) rfl ?_
  refine okL_cons (ok_getNP 15 cf_X9 rfl rfl rfl (by decide) dX5_readRule_14) rfl ?_
  refine okL_cons (ok_iload_n rfl dX5_readRule_17) rfl ?_
  refine okL_cons (ok_iconst rfl dX5_readRule_18) rfl ?_
  refine okL_cons (ok_iastore dX5_readRule_19) rfl ?_
  refine okL_cons (ok_iconst rfl dX5_readRule_20) rfl ?_
  refine okL_cons (ok_zreturn rfl dX5_readRule_21) rfl ?_
  refine okL_cons (ok_aload_n rfl dX5_readRule_22) rfl ?_
  refine okL_cons (ok_sipush rfl dX5_readRule_23) rfl ?_
  refine okL_cons (ok_invV (M' := 37) kw_163 kw_164 kw_165 kw_149 kw_166 cf_X5 rfl (by decide +kernel) dX5_readRule_26) rfl ?_
  refine okL_cons (ok_if_ne rfl dX5_readRule_29) rfl ?_
  refine okL_cons (ok_iconst rfl dX5_readRule_32) rfl ?_
  refine okL_cons (ok_zreturn rfl dX5_readRule_33) rfl ?_
  refine okL_cons (ok_aload_n rfl dX5_readRule_34) rfl ?_
  refine okL_cons (ok_getP kw_129 cf_X5 rfl rfl (by decide) dX5_readRule_35) rfl ?_
  refine okL_cons (ok_getNP 15 cf_X9 rfl rfl rfl (by decide) dX5_readRule_38) rfl ?_
  refine okL_cons (ok_iload_n rfl dX5_readRule_41) rfl ?_
  refine okL_cons (ok_iconst rfl dX5_readRule_42) rfl ?_
  refine okL_cons (ok_iastore dX5_readRule_43) rfl ?_
  refine okL_cons (ok_aload_n rfl dX5_readRule_44) rfl ?_
  refine okL_cons (ok_getP kw_129 cf_X5 rfl rfl (by decide) dX5_readRule_45) rfl ?_
  refine okL_cons (ok_getNP 18 cf_X9 rfl rfl rfl (by decide) dX5_readRule_48) rfl ?_
  refine okL_cons (ok_iload_n rfl dX5_readRule_51) rfl ?_
  refine okL_cons (ok_aload_n rfl dX5_readRule_52) rfl ?_
  refine okL_cons (ok_getP kw_129 cf_X5 rfl rfl (by decide) dX5_readRule_53) rfl ?_
  refine okL_cons (ok_getNI 12 cf_X9 rfl rfl rfl (by decide) dX5_readRule_56) rfl ?_
  refine okL_cons (ok_iastore dX5_readRule_59) rfl ?_
  refine okL_cons (ok_aload_n rfl dX5_readRule_60) rfl ?_
  refine okL_cons (ok_aload_n rfl dX5_readRule_61) rfl ?_
  refine okL_cons (ok_iconst rfl dX5_readRule_62) rfl ?_
  refine okL_cons (ok_invV (M' := 49) kw_167 kw_168 kw_169 kw_149 kw_170 cf_X5 rfl (by decide +kernel) dX5_readRule_63) rfl ?_
  refine okL_cons (ok_invV (M' := 43) kw_171 kw_172 kw_173 kw_149 kw_174 cf_X5 rfl (by decide +kernel) dX5_readRule_66) rfl ?_
  exact okL_one (ok_zreturn rfl dX5_readRule_69)
theorem dX5_readOrder_0 : decode cX5_readOrder 0 = .ok (.aload_n 0, 1) := by decide +kernel
theorem dX5_readOrder_1 : decode cX5_readOrder 1 = .ok (.sipush 3013, 3) := by decide +kernel
theorem dX5_readOrder_4 : decode cX5_readOrder 4 = .ok (.invokevirtual 58, 3) := by decide +kernel
theorem dX5_readOrder_7 : decode cX5_readOrder 7 = .ok (.ifCond .eq 18, 3) := by decide +kernel
theorem dX5_readOrder_10 : decode cX5_readOrder 10 = .ok (.aload_n 0, 1) := by decide +kernel
theorem dX5_readOrder_11 : decode cX5_readOrder 11 = .ok (.getfield 15, 3) := by decide +kernel
theorem dX5_readOrder_14 : decode cX5_readOrder 14 = .ok (.getfield 70, 3) := by decide +kernel
theorem dX5_readOrder_17 : decode cX5_readOrder 17 = .ok (.iload_n 1, 1) := by decide +kernel
theorem dX5_readOrder_18 : decode cX5_readOrder 18 = .ok (.iconst 3, 1) := by decide +kernel
theorem dX5_readOrder_19 : decode cX5_readOrder 19 = .ok (.iastore, 1) := by decide +kernel
theorem dX5_readOrder_20 : decode cX5_readOrder 20 = .ok (.iconst 1, 1) := by decide +kernel
theorem dX5_readOrder_21 : decode cX5_readOrder 21 = .ok (.istore_n 2, 1) := by decide +kernel
theorem dX5_readOrder_22 : decode cX5_readOrder 22 = .ok (.goto 74, 3) := by decide +kernel
theorem dX5_readOrder_25 : decode cX5_readOrder 25 = .ok (.aload_n 0, 1) := by decide +kernel
theorem dX5_readOrder_26 : decode cX5_readOrder 26 = .ok (.sipush 3007, 3) := by decide +kernel
theorem dX5_readOrder_29 : decode cX5_readOrder 29 = .ok (.invokevirtual 58, 3) := by decide +kernel
theorem dX5_readOrder_32 : decode cX5_readOrder 32 = .ok (.ifCond .eq 16, 3) := by decide +kernel
theorem dX5_readOrder_35 : decode cX5_readOrder 35 = .ok (.aload_n 0, 1) := by decide +kernel
theorem dX5_readOrder_36 : decode cX5_readOrder 36 = .ok (.iload_n 1, 1) := by decide +kernel
theorem dX5_readOrder_37 : decode cX5_readOrder 37 = .ok (.iconst 0, 1) := by decide +kernel
theorem dX5_readOrder_38 : decode cX5_readOrder 38 = .ok (.sipush 3008, 3) := by decide +kernel
theorem dX5_readOrder_41 : decode cX5_readOrder 41 = .ok (.invokevirtual 86, 3) := by decide +kernel
theorem dX5_readOrder_44 : decode cX5_readOrder 44 = .ok (.istore_n 2, 1) := by decide +kernel
theorem dX5_readOrder_45 : decode cX5_readOrder 45 = .ok (.goto 51, 3) := by decide +kernel
theorem dX5_readOrder_48 : decode cX5_readOrder 48 = .ok (.aload_n 0, 1) := by decide +kernel
theorem dX5_readOrder_49 : decode cX5_readOrder 49 = .ok (.sipush 3009, 3) := by decide +kernel
theorem dX5_readOrder_52 : decode cX5_readOrder 52 = .ok (.invokevirtual 58, 3) := by decide +kernel
theorem dX5_readOrder_55 : decode cX5_readOrder 55 = .ok (.ifCond .eq 16, 3) := by decide +kernel
theorem dX5_readOrder_58 : decode cX5_readOrder 58 = .ok (.aload_n 0, 1) := by decide +kernel
theorem dX5_readOrder_59 : decode cX5_readOrder 59 = .ok (.iload_n 1, 1) := by decide +kernel
theorem dX5_readOrder_60 : decode cX5_readOrder 60 = .ok (.iconst 1, 1) := by decide +kernel
theorem dX5_readOrder_61 : decode cX5_readOrder 61 = .ok (.sipush 3010, 3) := by decide +kernel
theorem dX5_readOrder_64 : decode cX5_readOrder 64 = .ok (.invokevirtual 86, 3) := by decide +kernel
theorem dX5_readOrder_67 : decode cX5_readOrder 67 = .ok (.istore_n 2, 1) := by decide +kernel
theorem dX5_readOrder_68 : decode cX5_readOrder 68 = .ok (.goto 28, 3) := by decide +kernel
theorem dX5_readOrder_71 : decode cX5_readOrder 71 = .ok (.aload_n 0, 1) := by decide +kernel
theorem dX5_readOrder_72 : decode cX5_readOrder 72 = .ok (.sipush 3011, 3) := by decide +kernel
theorem dX5_readOrder_75 : decode cX5_readOrder 75 = .ok (.invokevirtual 58, 3) := by decide +kernel
theorem dX5_readOrder_78 : decode cX5_readOrder 78 = .ok (.ifCond .eq 16, 3) := by decide +kernel
theorem dX5_readOrder_81 : decode cX5_readOrder 81 = .ok (.aload_n 0, 1) := by decide +kernel
theorem dX5_readOrder_82 : decode cX5_readOrder 82 = .ok (.iload_n 1, 1) := by decide +kernel
theorem dX5_readOrder_83 : decode cX5_readOrder 83 = .ok (.iconst 2, 1) := by decide +kernel
theorem dX5_readOrder_84 : decode cX5_readOrder 84 = .ok (.sipush 3012, 3) := by decide +kernel
theorem dX5_readOrder_87 : decode cX5_readOrder 87 = .ok (.invokevirtual 86, 3) := by decide +kernel
theorem dX5_readOrder_90 : decode cX5_readOrder 90 = .ok (.istore_n 2, 1) := by decide +kernel
theorem dX5_readOrder_91 : decode cX5_readOrder 91 = .ok (.goto 5, 3) := by decide +kernel
theorem dX5_readOrder_94 : decode cX5_readOrder 94 = .ok (.iconst 0, 1) := by decide +kernel
theorem dX5_readOrder_95 : decode cX5_readOrder 95 = .ok (.istore_n 2, 1) := by decide +kernel
theorem dX5_readOrder_96 : decode cX5_readOrder 96 = .ok (.iload_n 2, 1) := by decide +kernel
theorem dX5_readOrder_97 : decode cX5_readOrder 97 = .ok (.ifCond .eq 15, 3) := by decide +kernel
theorem dX5_readOrder_100 : decode cX5_readOrder 100 = .ok (.aload_n 0, 1) := by decide +kernel
theorem dX5_readOrder_101 : decode cX5_readOrder 101 = .ok (.iload_n 1, 1) := by decide +kernel
theorem dX5_readOrder_102 : decode cX5_readOrder 102 = .ok (.invokevirtual 90, 3) := by decide +kernel
theorem dX5_readOrder_105 : decode cX5_readOrder 105 = .ok (.ifCond .eq 7, 3) := by decide +kernel
theorem dX5_readOrder_108 : decode cX5_readOrder 108 = .ok (.iconst 1, 1) := by decide +kernel
theorem dX5_readOrder_109 : decode cX5_readOrder 109 = .ok (.goto 4, 3) := by decide +kernel
theorem dX5_readOrder_112 : decode cX5_readOrder 112 = .ok (.iconst 0, 1) := by decide +kernel
theorem dX5_readOrder_113 : decode cX5_readOrder 113 = .ok (.ireturn, 1) := by decide +kernel
set_option maxRecDepth 100000 in
theorem okm_X5_readOrder : okL RX5 cX5_readOrder 3 (some .boolean) "readOrder" pcX5_readOrder opX5_readOrder pcX5_readOrder := by
  unfold opX5_readOrder
  refine okL_cons (ok_aload_n rfl dX5_readOrder_0) rfl ?_
  refine okL_cons (ok_sipush rfl dX5_readOrder_1) rfl ?_
  refine okL_cons (ok_invV (M' := 37) kw_163 kw_164 kw_165 kw_149 kw_166 cf_X5 rfl (by decide +kernel) dX5_readOrder_4) rfl ?_
  refine okL_cons (ok_if_eq rfl dX5_readOrder_7) rfl ?_
  refine okL_cons (ok_aload_n rfl dX5_readOrder_10) rfl ?_
  refine okL_cons (ok_getP kw_129 cf_X5 rfl rfl (by decide) dX5_readOrder_11) rfl ?_
  refine okL_cons (ok_getNP 15 cf_X9 rfl rfl rfl (by decide) dX5_readOrder_14) rfl ?_
  refine okL_cons (ok_iload_n rfl dX5_readOrder_17) rfl ?_
  refine okL_cons (ok_iconst rfl dX5_readOrder_18) rfl ?_
  refine okL_cons (ok_iastore dX5_readOrder_19) rfl ?_
  refine okL_cons (ok_iconst rfl dX5_readOrder_20) rfl ?_
  refine okL_cons (ok_istore_n rfl dX5_readOrder_21) rfl ?_
  refine okL_cons (ok_goto rfl dX5_readOrder_22) rfl ?_
  refine okL_cons (ok_aload_n rfl dX5_readOrder_25) rfl ?_
  refine okL_cons (ok_sipush rfl dX5_readOrder_26) rfl ?_
  refine okL_cons (ok_invV (M' := 37) kw_163 kw_164 kw_165 kw_149 kw_166 cf_X5 rfl (by decide +kernel) dX5_readOrder_29) rfl ?_
  refine okL_cons (ok_if_eq rfl dX5_readOrder_32) rfl ?_
  refine okL_cons (ok_aload_n rfl dX5_readOrder_35) rfl ?_
  refine okL_cons (ok_iload_n rfl dX5_readOrder_36) rfl ?_
  refine okL_cons (ok_iconst rfl dX5_readOrder_37) rfl ?_
  refine okL_cons (ok_sipush rfl dX5_readOrder_38) rfl ?_
  refine okL_cons (ok_invV (M' := 40) kw_175 kw_176 kw_177 kw_149 kw_178 cf_X5 rfl (by decide +kernel) dX5_readOrder_41) rfl ?_
  refine okL_cons (ok_istore_n rfl dX5_readOrder_44) rfl ?_
  refine okL_cons (ok_goto rfl dX5_readOrder_45) rfl ?_
  refine okL_cons (ok_aload_n rfl dX5_readOrder_48) rfl ?_
  refine okL_cons (ok_sipush rfl dX5_readOrder_49) rfl ?_
  refine okL_cons (ok_invV (M' := 37) kw_163 kw_164 kw_165 kw_149 kw_166 cf_X5 rfl (by decide +kernel) dX5_readOrder_52) rfl ?_
  refine okL_cons (ok_if_eq rfl dX5_readOrder_55) rfl ?_
  refine okL_cons (ok_aload_n rfl dX5_readOrder_58) rfl ?_
  refine okL_cons (ok_iload_n rfl dX5_readOrder_59) rfl ?_
  refine okL_cons (ok_iconst rfl dX5_readOrder_60) rfl ?_
  refine okL_cons (ok_sipush rfl dX5_readOrder_61) rfl ?_
  refine okL_cons (ok_invV (M' := 40) kw_175 kw_176 kw_177 kw_149 kw_178 cf_X5 rfl (by decide +kernel) dX5_readOrder_64) rfl ?_
  refine okL_cons (ok_istore_n rfl dX5_readOrder_67) rfl ?_
  refine okL_cons (ok_goto rfl dX5_readOrder_68) rfl ?_
  refine okL_cons (ok_aload_n rfl dX5_readOrder_71) rfl ?_
  refine okL_cons (ok_sipush rfl dX5_readOrder_72) rfl ?_
  refine okL_cons (ok_invV (M' := 37) kw_163 kw_164 kw_165 kw_149 kw_166 cf_X5 rfl (by decide +kernel) dX5_readOrder_75) rfl ?_
  refine okL_cons (ok_if_eq rfl dX5_readOrder_78) rfl ?_
  refine okL_cons (ok_aload_n rfl dX5_readOrder_81) rfl ?_
  refine okL_cons (ok_iload_n rfl dX5_readOrder_82) rfl ?_
  refine okL_cons (ok_iconst rfl dX5_readOrder_83) rfl ?_
  refine okL_cons (ok_sipush rfl dX5_readOrder_84) rfl ?_
  refine okL_cons (ok_invV (M' := 40) kw_175 kw_176 kw_177 kw_149 kw_178 cf_X5 rfl (by decide +kernel) dX5_readOrder_87) rfl ?_
  refine okL_cons (ok_istore_n rfl dX5_readOrder_90) rfl ?_
  refine okL_cons (ok_goto rfl dX5_readOrder_91) rfl ?_
  refine okL_cons (ok_iconst rfl dX5_readOrder_94) rfl ?_
  refine okL_cons (ok_istore_n rfl dX5_readOrder_95) rfl ?_
  refine okL_cons (ok_iload_n rfl dX5_readOrder_96) rfl ?_
  refine okL_cons (ok_if_eq rfl dX5_readOrder_97) rfl ?_
  refine okL_cons (ok_aload_n rfl dX5_readOrder_100) rfl ?_
  refine okL_cons (ok_iload_n rfl dX5_readOrder_101) rfl ?_
  refine okL_cons (ok_invV (M' := 41) kw_179 kw_180 kw_181 kw_149 kw_182 cf_X5 rfl (by decide +kernel) dX5_readOrder_102) rfl ?_
  refine okL_cons (ok_if_eq rfl dX5_readOrder_105) rfl ?_
  refine okL_cons (ok_iconst rfl dX5_readOrder_108) rfl ?_
  refine okL_cons (ok_goto rfl dX5_readOrder_109) rfl ?_
  refine okL_cons (ok_iconst rfl dX5_readOrder_112) rfl ?_
  exact okL_one (ok_zreturn rfl dX5_readOrder_113)
theorem dX5_readTwo_0 : decode cX5_readTwo 0 = .ok (.aload_n 0, 1) := by decide +kernel
theorem dX5_readTwo_1 : decode cX5_readTwo 1 = .ok (.getfield 15, 3) := by decide +kernel
theorem dX5_readTwo_4 : decode cX5_readTwo 4 = .ok (.getfield 70, 3) := by decide +kernel
theorem dX5_readTwo_7 : decode cX5_readTwo 7 = .ok (.iload_n 1, 1) := by decide +kernel
theorem dX5_readTwo_8 : decode cX5_readTwo 8 = .ok (.iload_n 2, 1) := by decide +kernel
theorem dX5_readTwo_9 : decode cX5_readTwo 9 = .ok (.iastore, 1) := by decide +kernel
theorem dX5_readTwo_10 : decode cX5_readTwo 10 = .ok (.aload_n 0, 1) := by decide +kernel
theorem dX5_readTwo_11 : decode cX5_readTwo 11 = .ok (.getfield 15, 3) := by decide +kernel
theorem dX5_readTwo_14 : decode cX5_readTwo 14 = .ok (.getfield 73, 3) := by decide +kernel
theorem dX5_readTwo_17 : decode cX5_readTwo 17 = .ok (.iload_n 1, 1) := by decide +kernel
theorem dX5_readTwo_18 : decode cX5_readTwo 18 = .ok (.aload_n 0, 1) := by decide +kernel
theorem dX5_readTwo_19 : decode cX5_readTwo 19 = .ok (.getfield 15, 3) := by decide +kernel
theorem dX5_readTwo_22 : decode cX5_readTwo 22 = .ok (.getfield 76, 3) := by decide +kernel
theorem dX5_readTwo_25 : decode cX5_readTwo 25 = .ok (.iastore, 1) := by decide +kernel
theorem dX5_readTwo_26 : decode cX5_readTwo 26 = .ok (.aload_n 0, 1) := by decide +kernel
theorem dX5_readTwo_27 : decode cX5_readTwo 27 = .ok (.aload_n 0, 1) := by decide +kernel
theorem dX5_readTwo_28 : decode cX5_readTwo 28 = .ok (.iconst 0, 1) := by decide +kernel
theorem dX5_readTwo_29 : decode cX5_readTwo 29 = .ok (.invokevirtual 79, 3) := by decide +kernel
theorem dX5_readTwo_32 : decode cX5_readTwo 32 = .ok (.invokevirtual 82, 3) := by decide +kernel
theorem dX5_readTwo_35 : decode cX5_readTwo 35 = .ok (.ifCond .eq 11, 3) := by decide +kernel
theorem dX5_readTwo_38 : decode cX5_readTwo 38 = .ok (.aload_n 0, 1) := by decide +kernel
theorem dX5_readTwo_39 : decode cX5_readTwo 39 = .ok (.iload_n 3, 1) := by decide +kernel
theorem dX5_readTwo_40 : decode cX5_readTwo 40 = .ok (.invokevirtual 58, 3) := by decide +kernel
theorem dX5_readTwo_43 : decode cX5_readTwo 43 = .ok (.ifCond .ne 5, 3) := by decide +kernel
theorem dX5_readTwo_46 : decode cX5_readTwo 46 = .ok (.iconst 0, 1) := by decide +kernel
theorem dX5_readTwo_47 : decode cX5_readTwo 47 = .ok (.ireturn, 1) := by decide +kernel
theorem dX5_readTwo_48 : decode cX5_readTwo 48 = .ok (.aload_n 0, 1) := by decide +kernel
theorem dX5_readTwo_49 : decode cX5_readTwo 49 = .ok (.getfield 15, 3) := by decide +kernel
theorem dX5_readTwo_52 : decode cX5_readTwo 52 = .ok (.getfield 93, 3) := by decide +kernel
theorem dX5_readTwo_55 : decode cX5_readTwo 55 = .ok (.iload_n 1, 1) := by decide +kernel
theorem dX5_readTwo_56 : decode cX5_readTwo 56 = .ok (.aload_n 0, 1) := by decide +kernel
theorem dX5_readTwo_57 : decode cX5_readTwo 57 = .ok (.getfield 15, 3) := by decide +kernel
theorem dX5_readTwo_60 : decode cX5_readTwo 60 = .ok (.getfield 76, 3) := by decide +kernel
theorem dX5_readTwo_63 : decode cX5_readTwo 63 = .ok (.iastore, 1) := by decide +kernel
theorem dX5_readTwo_64 : decode cX5_readTwo 64 = .ok (.aload_n 0, 1) := by decide +kernel
theorem dX5_readTwo_65 : decode cX5_readTwo 65 = .ok (.aload_n 0, 1) := by decide +kernel
theorem dX5_readTwo_66 : decode cX5_readTwo 66 = .ok (.iconst 0, 1) := by decide +kernel
theorem dX5_readTwo_67 : decode cX5_readTwo 67 = .ok (.invokevirtual 79, 3) := by decide +kernel
theorem dX5_readTwo_70 : decode cX5_readTwo 70 = .ok (.invokevirtual 82, 3) := by decide +kernel
theorem dX5_readTwo_73 : decode cX5_readTwo 73 = .ok (.ireturn, 1) := by decide +kernel
set_option maxRecDepth 100000 in
theorem okm_X5_readTwo : okL RX5 cX5_readTwo 4 (some .boolean) "readTwo" pcX5_readTwo opX5_readTwo pcX5_readTwo := by
  unfold opX5_readTwo
  refine okL_cons (ok_aload_n rfl dX5_readTwo_0) rfl ?_
  refine okL_cons (ok_getP kw_129 cf_X5 rfl rfl (by decide) dX5_readTwo_1) rfl ?_
  refine okL_cons (ok_getNP 15 cf_X9 rfl rfl rfl (by decide) dX5_readTwo_4) rfl ?_
  refine okL_cons (ok_iload_n rfl dX5_readTwo_7) rfl ?_
  refine okL_cons (ok_iload_n rfl dX5_readTwo_8) rfl ?_
  refine okL_cons (ok_iastore dX5_readTwo_9) rfl ?_
  refine okL_cons (ok_aload_n rfl dX5_readTwo_10) rfl ?_
  refine okL_cons (ok_getP kw_129 cf_X5 rfl rfl (by decide) dX5_readTwo_11) rfl ?_
  refine okL_cons (ok_getNP 18 cf_X9 rfl rfl rfl (by decide) dX5_readTwo_14) rfl ?_
  refine okL_cons (ok_iload_n rfl dX5_readTwo_17) rfl ?_
  refine okL_cons (ok_aload_n rfl dX5_readTwo_18) rfl ?_
  refine okL_cons (ok_getP kw_129 cf_X5 rfl rfl (by decide) dX5_readTwo_19) rfl ?_
  refine okL_cons (ok_getNI 12 cf_X9 rfl rfl rfl (by decide) dX5_readTwo_22) rfl ?_
  refine okL_cons (ok_iastore dX5_readTwo_25) rfl ?_
  refine okL_cons (ok_aload_n rfl dX5_readTwo_26) rfl ?_
  refine okL_cons (ok_aload_n rfl dX5_readTwo_27) rfl ?_
  refine okL_cons (ok_iconst rfl dX5_readTwo_28) rfl ?_
  refine okL_cons (ok_invV (M' := 49) kw_167 kw_168 kw_169 kw_149 kw_170 cf_X5 rfl (by decide +kernel) dX5_readTwo_29) rfl ?_
  refine okL_cons (ok_invV (M' := 43) kw_171 kw_172 kw_173 kw_149 kw_174 cf_X5 rfl (by decide +kernel) dX5_readTwo_32) rfl ?_
  refine okL_cons (ok_if_eq rfl dX5_readTwo_35) rfl ?_
  refine okL_cons (ok_aload_n rfl dX5_readTwo_38) rfl ?_
  refine okL_cons (ok_iload_n rfl dX5_readTwo_39) rfl ?_
  refine okL_cons (ok_invV (M' := 37) kw_163 kw_164 kw_165 kw_149 kw_166 cf_X5 rfl (by decide +kernel) dX5_readTwo_40) rfl ?_
  refine okL_cons (ok_if_ne rfl dX5_readTwo_43) rfl ?_
  refine okL_cons (ok_iconst rfl dX5_readTwo_46) rfl ?_
  refine okL_cons (ok_zreturn rfl dX5_readTwo_47) rfl ?_
  refine okL_cons (ok_aload_n rfl dX5_readTwo_48) rfl ?_
  refine okL_cons (ok_getP kw_129 cf_X5 rfl rfl (by decide) dX5_readTwo_49) rfl ?_
  refine okL_cons (ok_getNP 21 cf_X9 rfl rfl rfl (by decide) dX5_readTwo_52) rfl ?_
  refine okL_cons (ok_iload_n rfl dX5_readTwo_55) rfl ?_
  refine okL_cons (ok_aload_n rfl dX5_readTwo_56) rfl ?_
  refine okL_cons (ok_getP kw_129 cf_X5 rfl rfl (by decide) dX5_readTwo_57) rfl ?_
  refine okL_cons (ok_getNI 12 cf_X9 rfl rfl rfl (by decide) dX5_readTwo_60) rfl ?_
  refine okL_cons (ok_iastore dX5_readTwo_63) rfl ?_
  refine okL_cons (ok_aload_n rfl dX5_readTwo_64) rfl ?_
  refine okL_cons (ok_aload_n rfl dX5_readTwo_65) rfl ?_
  refine okL_cons (ok_iconst rfl dX5_readTwo_66) rfl ?_
  refine okL_cons (ok_invV (M' := 49) kw_167 kw_168 kw_169 kw_149 kw_170 cf_X5 rfl (by decide +kernel) dX5_readTwo_67) rfl ?_
  refine okL_cons (ok_invV (M' := 43) kw_171 kw_172 kw_173 kw_149 kw_174 cf_X5 rfl (by decide +kernel) dX5_readTwo_70) rfl ?_
  exact okL_one (ok_zreturn rfl dX5_readTwo_73)
theorem dX5_readTimes_0 : decode cX5_readTimes 0 = .ok (.aload_n 0, 1) := by decide +kernel
theorem dX5_readTimes_1 : decode cX5_readTimes 1 = .ok (.sipush 3014, 3) := by decide +kernel
theorem dX5_readTimes_4 : decode cX5_readTimes 4 = .ok (.invokevirtual 58, 3) := by decide +kernel
theorem dX5_readTimes_7 : decode cX5_readTimes 7 = .ok (.ifCond .ne 5, 3) := by decide +kernel
theorem dX5_readTimes_10 : decode cX5_readTimes 10 = .ok (.iconst 1, 1) := by decide +kernel
theorem dX5_readTimes_11 : decode cX5_readTimes 11 = .ok (.ireturn, 1) := by decide +kernel
theorem dX5_readTimes_12 : decode cX5_readTimes 12 = .ok (.aload_n 0, 1) := by decide +kernel
theorem dX5_readTimes_13 : decode cX5_readTimes 13 = .ok (.invokevirtual 54, 3) := by decide +kernel
theorem dX5_readTimes_16 : decode cX5_readTimes 16 = .ok (.iconst 1, 1) := by decide +kernel
theorem dX5_readTimes_17 : decode cX5_readTimes 17 = .ok (.if_icmp .lt 12, 3) := by decide +kernel
theorem dX5_readTimes_20 : decode cX5_readTimes 20 = .ok (.aload_n 0, 1) := by decide +kernel
theorem dX5_readTimes_21 : decode cX5_readTimes 21 = .ok (.invokevirtual 54, 3) := by decide +kernel
theorem dX5_readTimes_24 : decode cX5_readTimes 24 = .ok (.bipush 20, 2) := by decide +kernel
theorem dX5_readTimes_26 : decode cX5_readTimes 26 = .ok (.if_icmp .le 5, 3) := by decide +kernel
theorem dX5_readTimes_29 : decode cX5_readTimes 29 = .ok (.iconst 0, 1) := by decide +kernel
theorem dX5_readTimes_30 : decode cX5_readTimes 30 = .ok (.ireturn, 1) := by decide +kernel
theorem dX5_readTimes_31 : decode cX5_readTimes 31 = .ok (.aload_n 0, 1) := by decide +kernel
theorem dX5_readTimes_32 : decode cX5_readTimes 32 = .ok (.getfield 15, 3) := by decide +kernel
theorem dX5_readTimes_35 : decode cX5_readTimes 35 = .ok (.getfield 96, 3) := by decide +kernel
theorem dX5_readTimes_38 : decode cX5_readTimes 38 = .ok (.iload_n 1, 1) := by decide +kernel
theorem dX5_readTimes_39 : decode cX5_readTimes 39 = .ok (.aload_n 0, 1) := by decide +kernel
theorem dX5_readTimes_40 : decode cX5_readTimes 40 = .ok (.invokevirtual 54, 3) := by decide +kernel
theorem dX5_readTimes_43 : decode cX5_readTimes 43 = .ok (.iastore, 1) := by decide +kernel
theorem dX5_readTimes_44 : decode cX5_readTimes 44 = .ok (.aload_n 0, 1) := by decide +kernel
theorem dX5_readTimes_45 : decode cX5_readTimes 45 = .ok (.invokevirtual 99, 3) := by decide +kernel
theorem dX5_readTimes_48 : decode cX5_readTimes 48 = .ok (.iconst 1, 1) := by decide +kernel
theorem dX5_readTimes_49 : decode cX5_readTimes 49 = .ok (.ireturn, 1) := by decide +kernel
set_option maxRecDepth 100000 in
theorem okm_X5_readTimes : okL RX5 cX5_readTimes 2 (some .boolean) "readTimes" pcX5_readTimes opX5_readTimes pcX5_readTimes := by
  unfold opX5_readTimes
  refine okL_cons (ok_aload_n rfl dX5_readTimes_0) rfl ?_
  refine okL_cons (ok_sipush rfl dX5_readTimes_1) rfl ?_
  refine okL_cons (ok_invV (M' := 37) kw_163 kw_164 kw_165 kw_149 kw_166 cf_X5 rfl (by decide +kernel) dX5_readTimes_4) rfl ?_
  refine okL_cons (ok_if_ne rfl dX5_readTimes_7) rfl ?_
  refine okL_cons (ok_iconst rfl dX5_readTimes_10) rfl ?_
  refine okL_cons (ok_zreturn rfl dX5_readTimes_11) rfl ?_
  refine okL_cons (ok_aload_n rfl dX5_readTimes_12) rfl ?_
  refine okL_cons (ok_invV (M' := 35) kw_159 kw_160 kw_161 kw_149 kw_162 cf_X5 rfl (by decide +kernel) dX5_readTimes_13) rfl ?_
  refine okL_cons (ok_iconst rfl dX5_readTimes_16) rfl ?_
  refine okL_cons (ok_icmp_lt rfl dX5_readTimes_17) rfl ?_
  refine okL_cons (ok_aload_n rfl dX5_readTimes_20) rfl ?_
  refine okL_cons (ok_invV (M' := 35) kw_159 kw_160 kw_161 kw_149 kw_162 cf_X5 rfl (by decide +kernel) dX5_readTimes_21) rfl ?_
  refine okL_cons (ok_bipush rfl dX5_readTimes_24) rfl ?_
  refine okL_cons (ok_icmp_le rfl dX5_readTimes_26) rfl ?_
  refine okL_cons (ok_iconst rfl dX5_readTimes_29) rfl ?_
  refine okL_cons (ok_zreturn rfl dX5_readTimes_30) rfl ?_
  refine okL_cons (ok_aload_n rfl dX5_readTimes_31) rfl ?_
  refine okL_cons (ok_getP kw_129 cf_X5 rfl rfl (by decide) dX5_readTimes_32) rfl ?_
  refine okL_cons (ok_getNP 23 cf_X9 rfl rfl rfl (by decide) dX5_readTimes_35) rfl ?_
  refine okL_cons (ok_iload_n rfl dX5_readTimes_38) rfl ?_
  refine okL_cons (ok_aload_n rfl dX5_readTimes_39) rfl ?_
  refine okL_cons (ok_invV (M' := 35) kw_159 kw_160 kw_161 kw_149 kw_162 cf_X5 rfl (by decide +kernel) dX5_readTimes_40) rfl ?_
  refine okL_cons (ok_iastore dX5_readTimes_43) rfl ?_
  refine okL_cons (ok_aload_n rfl dX5_readTimes_44) rfl ?_
  refine okL_cons (ok_invV (M' := 36) kw_183 kw_184 kw_185 kw_149 kw_186 cf_X5 rfl (by decide +kernel) dX5_readTimes_45) rfl ?_
  refine okL_cons (ok_iconst rfl dX5_readTimes_48) rfl ?_
  exact okL_one (ok_zreturn rfl dX5_readTimes_49)
theorem dX5_readIf_0 : decode cX5_readIf 0 = .ok (.aload_n 0, 1) := by decide +kernel
theorem dX5_readIf_1 : decode cX5_readIf 1 = .ok (.sipush 3003, 3) := by decide +kernel
theorem dX5_readIf_4 : decode cX5_readIf 4 = .ok (.invokevirtual 58, 3) := by decide +kernel
theorem dX5_readIf_7 : decode cX5_readIf 7 = .ok (.ifCond .ne 5, 3) := by decide +kernel
theorem dX5_readIf_10 : decode cX5_readIf 10 = .ok (.iconst 1, 1) := by decide +kernel
theorem dX5_readIf_11 : decode cX5_readIf 11 = .ok (.ireturn, 1) := by decide +kernel
theorem dX5_readIf_12 : decode cX5_readIf 12 = .ok (.aload_n 0, 1) := by decide +kernel
theorem dX5_readIf_13 : decode cX5_readIf 13 = .ok (.getfield 15, 3) := by decide +kernel
theorem dX5_readIf_16 : decode cX5_readIf 16 = .ok (.getfield 102, 3) := by decide +kernel
theorem dX5_readIf_19 : decode cX5_readIf 19 = .ok (.iload_n 1, 1) := by decide +kernel
theorem dX5_readIf_20 : decode cX5_readIf 20 = .ok (.aload_n 0, 1) := by decide +kernel
theorem dX5_readIf_21 : decode cX5_readIf 21 = .ok (.getfield 15, 3) := by decide +kernel
theorem dX5_readIf_24 : decode cX5_readIf 24 = .ok (.getfield 76, 3) := by decide +kernel
theorem dX5_readIf_27 : decode cX5_readIf 27 = .ok (.iastore, 1) := by decide +kernel
theorem dX5_readIf_28 : decode cX5_readIf 28 = .ok (.aload_n 0, 1) := by decide +kernel
theorem dX5_readIf_29 : decode cX5_readIf 29 = .ok (.aload_n 0, 1) := by decide +kernel
theorem dX5_readIf_30 : decode cX5_readIf 30 = .ok (.iconst 0, 1) := by decide +kernel
theorem dX5_readIf_31 : decode cX5_readIf 31 = .ok (.invokevirtual 105, 3) := by decide +kernel
theorem dX5_readIf_34 : decode cX5_readIf 34 = .ok (.invokevirtual 82, 3) := by decide +kernel
theorem dX5_readIf_37 : decode cX5_readIf 37 = .ok (.ireturn, 1) := by decide +kernel
set_option maxRecDepth 100000 in
theorem okm_X5_readIf : okL RX5 cX5_readIf 2 (some .boolean) "readIf" pcX5_readIf opX5_readIf pcX5_readIf := by
  unfold opX5_readIf
  refine okL_cons (ok_aload_n rfl dX5_readIf_0) rfl ?_
  refine okL_cons (ok_sipush rfl dX5_readIf_1) rfl ?_
  refine okL_cons (ok_invV (M' := 37) kw_163 kw_164 kw_165 kw_149 kw_166 cf_X5 rfl (by decide +kernel) dX5_readIf_4) rfl ?_
  refine okL_cons (ok_if_ne rfl dX5_readIf_7) rfl ?_
  refine okL_cons (ok_iconst rfl dX5_readIf_10) rfl ?_
  refine okL_cons (ok_zreturn rfl dX5_readIf_11) rfl ?_
  refine okL_cons (ok_aload_n rfl dX5_readIf_12) rfl ?_
  refine okL_cons (ok_getP kw_129 cf_X5 rfl rfl (by decide) dX5_readIf_13) rfl ?_
  refine okL_cons (ok_getNP 26 cf_X9 rfl rfl rfl (by decide) dX5_readIf_16) rfl ?_
  refine okL_cons (ok_iload_n rfl dX5_readIf_19) rfl ?_
  refine okL_cons (ok_aload_n rfl dX5_readIf_20) rfl ?_
  refine okL_cons (ok_getP kw_129 cf_X5 rfl rfl (by decide) dX5_readIf_21) rfl ?_
  refine okL_cons (ok_getNI 12 cf_X9 rfl rfl rfl (by decide) dX5_readIf_24) rfl ?_
  refine okL_cons (ok_iastore dX5_readIf_27) rfl ?_
  refine okL_cons (ok_aload_n rfl dX5_readIf_28) rfl ?_
  refine okL_cons (ok_aload_n rfl dX5_readIf_29) rfl ?_
  refine okL_cons (ok_iconst rfl dX5_readIf_30) rfl ?_
  refine okL_cons (ok_invV (M' := 44) kw_187 kw_188 kw_189 kw_149 kw_190 cf_X5 rfl (by decide +kernel) dX5_readIf_31) rfl ?_
  refine okL_cons (ok_invV (M' := 43) kw_171 kw_172 kw_173 kw_149 kw_174 cf_X5 rfl (by decide +kernel) dX5_readIf_34) rfl ?_
  exact okL_one (ok_zreturn rfl dX5_readIf_37)
theorem dX5_endRow_0 : decode cX5_endRow 0 = .ok (.aload_n 0, 1) := by decide +kernel
theorem dX5_endRow_1 : decode cX5_endRow 1 = .ok (.getfield 15, 3) := by decide +kernel
theorem dX5_endRow_4 : decode cX5_endRow 4 = .ok (.bipush 13, 2) := by decide +kernel
theorem dX5_endRow_6 : decode cX5_endRow 6 = .ok (.iconst 0, 1) := by decide +kernel
theorem dX5_endRow_7 : decode cX5_endRow 7 = .ok (.invokevirtual 107, 3) := by decide +kernel
theorem dX5_endRow_10 : decode cX5_endRow 10 = .ok (.iload_n 1, 1) := by decide +kernel
theorem dX5_endRow_11 : decode cX5_endRow 11 = .ok (.ireturn, 1) := by decide +kernel
set_option maxRecDepth 100000 in
theorem okm_X5_endRow : okL RX5 cX5_endRow 2 (some .boolean) "endRow" pcX5_endRow opX5_endRow pcX5_endRow := by
  unfold opX5_endRow
  refine okL_cons (ok_aload_n rfl dX5_endRow_0) rfl ?_
  refine okL_cons (ok_getP kw_129 cf_X5 rfl rfl (by decide) dX5_endRow_1) rfl ?_
  refine okL_cons (ok_bipush rfl dX5_endRow_4) rfl ?_
  refine okL_cons (ok_iconst rfl dX5_endRow_6) rfl ?_
  refine okL_cons (ok_invV (M' := 95) kw_191 kw_192 kw_193 kw_59 kw_194 cf_X9 rfl (by decide +kernel) dX5_endRow_7) rfl ?_
  refine okL_cons (ok_iload_n rfl dX5_endRow_10) rfl ?_
  exact okL_one (ok_zreturn rfl dX5_endRow_11)
theorem dX5_test_0 : decode cX5_test 0 = .ok (.aload_n 0, 1) := by decide +kernel
theorem dX5_test_1 : decode cX5_test 1 = .ok (.iload_n 1, 1) := by decide +kernel
theorem dX5_test_2 : decode cX5_test 2 = .ok (.invokevirtual 111, 3) := by decide +kernel
theorem dX5_test_5 : decode cX5_test 5 = .ok (.ifCond .ne 5, 3) := by decide +kernel
theorem dX5_test_8 : decode cX5_test 8 = .ok (.iconst 0, 1) := by decide +kernel
theorem dX5_test_9 : decode cX5_test 9 = .ok (.ireturn, 1) := by decide +kernel
theorem dX5_test_10 : decode cX5_test 10 = .ok (.iconst 0, 1) := by decide +kernel
theorem dX5_test_11 : decode cX5_test 11 = .ok (.istore_n 2, 1) := by decide +kernel
theorem dX5_test_12 : decode cX5_test 12 = .ok (.iload_n 2, 1) := by decide +kernel
theorem dX5_test_13 : decode cX5_test 13 = .ok (.sipush 400, 3) := by decide +kernel
theorem dX5_test_16 : decode cX5_test 16 = .ok (.if_icmp .ge 55, 3) := by decide +kernel
theorem dX5_test_19 : decode cX5_test 19 = .ok (.aload_n 0, 1) := by decide +kernel
theorem dX5_test_20 : decode cX5_test 20 = .ok (.sipush 3004, 3) := by decide +kernel
theorem dX5_test_23 : decode cX5_test 23 = .ok (.invokevirtual 58, 3) := by decide +kernel
theorem dX5_test_26 : decode cX5_test 26 = .ok (.ifCond .eq 45, 3) := by decide +kernel
theorem dX5_test_29 : decode cX5_test 29 = .ok (.aload_n 0, 1) := by decide +kernel
theorem dX5_test_30 : decode cX5_test 30 = .ok (.getfield 15, 3) := by decide +kernel
theorem dX5_test_33 : decode cX5_test 33 = .ok (.getfield 76, 3) := by decide +kernel
theorem dX5_test_36 : decode cX5_test 36 = .ok (.istore_n 3, 1) := by decide +kernel
theorem dX5_test_37 : decode cX5_test 37 = .ok (.aload_n 0, 1) := by decide +kernel
theorem dX5_test_38 : decode cX5_test 38 = .ok (.getfield 15, 3) := by decide +kernel
theorem dX5_test_41 : decode cX5_test 41 = .ok (.bipush 11, 2) := by decide +kernel
theorem dX5_test_43 : decode cX5_test 43 = .ok (.iconst 0, 1) := by decide +kernel
theorem dX5_test_44 : decode cX5_test 44 = .ok (.invokevirtual 107, 3) := by decide +kernel
theorem dX5_test_47 : decode cX5_test 47 = .ok (.aload_n 0, 1) := by decide +kernel
theorem dX5_test_48 : decode cX5_test 48 = .ok (.iload_n 1, 1) := by decide +kernel
theorem dX5_test_49 : decode cX5_test 49 = .ok (.invokevirtual 111, 3) := by decide +kernel
theorem dX5_test_52 : decode cX5_test 52 = .ok (.ifCond .ne 5, 3) := by decide +kernel
theorem dX5_test_55 : decode cX5_test 55 = .ok (.iconst 0, 1) := by decide +kernel
theorem dX5_test_56 : decode cX5_test 56 = .ok (.ireturn, 1) := by decide +kernel
theorem dX5_test_57 : decode cX5_test 57 = .ok (.aload_n 0, 1) := by decide +kernel
theorem dX5_test_58 : decode cX5_test 58 = .ok (.getfield 15, 3) := by decide +kernel
theorem dX5_test_61 : decode cX5_test 61 = .ok (.iload_n 3, 1) := by decide +kernel
theorem dX5_test_62 : decode cX5_test 62 = .ok (.invokevirtual 114, 3) := by decide +kernel
theorem dX5_test_65 : decode cX5_test 65 = .ok (.iinc 2 1, 3) := by decide +kernel
theorem dX5_test_68 : decode cX5_test 68 = .ok (.goto (-56), 3) := by decide +kernel
theorem dX5_test_71 : decode cX5_test 71 = .ok (.iconst 1, 1) := by decide +kernel
theorem dX5_test_72 : decode cX5_test 72 = .ok (.ireturn, 1) := by decide +kernel
set_option maxRecDepth 100000 in
theorem okm_X5_test : okL RX5 cX5_test 4 (some .boolean) "test" pcX5_test opX5_test pcX5_test := by
  unfold opX5_test
  refine okL_cons (ok_aload_n rfl dX5_test_0) rfl ?_
  refine okL_cons (ok_iload_n rfl dX5_test_1) rfl ?_
  refine okL_cons (ok_invV (M' := 45) kw_195 kw_196 kw_197 kw_149 kw_198 cf_X5 rfl (by decide +kernel) dX5_test_2) rfl ?_
  refine okL_cons (ok_if_ne rfl dX5_test_5) rfl ?_
  refine okL_cons (ok_iconst rfl dX5_test_8) rfl ?_
  refine okL_cons (ok_zreturn rfl dX5_test_9) rfl ?_
  refine okL_cons (ok_iconst rfl dX5_test_10) rfl ?_
  refine okL_cons (ok_istore_n rfl dX5_test_11) rfl ?_
  refine okL_cons (ok_iload_n rfl dX5_test_12) rfl ?_
  refine okL_cons (ok_sipush rfl dX5_test_13) rfl ?_
  refine okL_cons (ok_icmp_ge rfl dX5_test_16) rfl ?_
  refine okL_cons (ok_aload_n rfl dX5_test_19) rfl ?_
  refine okL_cons (ok_sipush rfl dX5_test_20) rfl ?_
  refine okL_cons (ok_invV (M' := 37) kw_163 kw_164 kw_165 kw_149 kw_166 cf_X5 rfl (by decide +kernel) dX5_test_23) rfl ?_
  refine okL_cons (ok_if_eq rfl dX5_test_26) rfl ?_
  refine okL_cons (ok_aload_n rfl dX5_test_29) rfl ?_
  refine okL_cons (ok_getP kw_129 cf_X5 rfl rfl (by decide) dX5_test_30) rfl ?_
  refine okL_cons (ok_getNI 12 cf_X9 rfl rfl rfl (by decide) dX5_test_33) rfl ?_
  refine okL_cons (ok_istore_n rfl dX5_test_36) rfl ?_
  refine okL_cons (ok_aload_n rfl dX5_test_37) rfl ?_
  refine okL_cons (ok_getP kw_129 cf_X5 rfl rfl (by decide) dX5_test_38) rfl ?_
  refine okL_cons (ok_bipush rfl dX5_test_41) rfl ?_
  refine okL_cons (ok_iconst rfl dX5_test_43) rfl ?_
  refine okL_cons (ok_invV (M' := 95) kw_191 kw_192 kw_193 kw_59 kw_194 cf_X9 rfl (by decide +kernel) dX5_test_44) rfl ?_
  refine okL_cons (ok_aload_n rfl dX5_test_47) rfl ?_
  refine okL_cons (ok_iload_n rfl dX5_test_48) rfl ?_
  refine okL_cons (ok_invV (M' := 45) kw_195 kw_196 kw_197 kw_149 kw_198 cf_X5 rfl (by decide +kernel) dX5_test_49) rfl ?_
  refine okL_cons (ok_if_ne rfl dX5_test_52) rfl ?_
  refine okL_cons (ok_iconst rfl dX5_test_55) rfl ?_
  refine okL_cons (ok_zreturn rfl dX5_test_56) rfl ?_
  refine okL_cons (ok_aload_n rfl dX5_test_57) rfl ?_
  refine okL_cons (ok_getP kw_129 cf_X5 rfl rfl (by decide) dX5_test_58) rfl ?_
  refine okL_cons (ok_iload_n rfl dX5_test_61) rfl ?_
  refine okL_cons (ok_invV (M' := 96) kw_199 kw_200 kw_201 kw_59 kw_202 cf_X9 rfl (by decide +kernel) dX5_test_62) rfl ?_
  refine okL_cons (ok_iinc rfl dX5_test_65) rfl ?_
  refine okL_cons (ok_goto rfl dX5_test_68) rfl ?_
  refine okL_cons (ok_iconst rfl dX5_test_71) rfl ?_
  exact okL_one (ok_zreturn rfl dX5_test_72)
