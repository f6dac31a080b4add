theorem dX5_both_0 : decode cX5_both 0 = .ok (.aload_n 0, 1) := by decide +kernel
theorem dX5_both_1 : decode cX5_both 1 = .ok (.iload_n 1, 1) := by decide +kernel
theorem dX5_both_2 : decode cX5_both 2 = .ok (.invokevirtual 118, 3) := by decide +kernel
theorem dX5_both_5 : decode cX5_both 5 = .ok (.ifCond .ne 5, 3) := by decide +kernel
theorem dX5_both_8 : decode cX5_both 8 = .ok (.iconst 0, 1) := by decide +kernel
theorem dX5_both_9 : decode cX5_both 9 = .ok (.ireturn, 1) := by decide +kernel
theorem dX5_both_10 : decode cX5_both 10 = .ok (.iconst 0, 1) := by decide +kernel
theorem dX5_both_11 : decode cX5_both 11 = .ok (.istore_n 2, 1) := by decide +kernel
theorem dX5_both_12 : decode cX5_both 12 = .ok (.iload_n 2, 1) := by decide +kernel
theorem dX5_both_13 : decode cX5_both 13 = .ok (.sipush 400, 3) := by decide +kernel
theorem dX5_both_16 : decode cX5_both 16 = .ok (.if_icmp .ge 55, 3) := by decide +kernel
theorem dX5_both_19 : decode cX5_both 19 = .ok (.aload_n 0, 1) := by decide +kernel
theorem dX5_both_20 : decode cX5_both 20 = .ok (.sipush 3005, 3) := by decide +kernel
theorem dX5_both_23 : decode cX5_both 23 = .ok (.invokevirtual 58, 3) := by decide +kernel
theorem dX5_both_26 : decode cX5_both 26 = .ok (.ifCond .eq 45, 3) := by decide +kernel
theorem dX5_both_29 : decode cX5_both 29 = .ok (.aload_n 0, 1) := by decide +kernel
theorem dX5_both_30 : decode cX5_both 30 = .ok (.getfield 15, 3) := by decide +kernel
theorem dX5_both_33 : decode cX5_both 33 = .ok (.getfield 76, 3) := by decide +kernel
theorem dX5_both_36 : decode cX5_both 36 = .ok (.istore_n 3, 1) := by decide +kernel
theorem dX5_both_37 : decode cX5_both 37 = .ok (.aload_n 0, 1) := by decide +kernel
theorem dX5_both_38 : decode cX5_both 38 = .ok (.getfield 15, 3) := by decide +kernel
theorem dX5_both_41 : decode cX5_both 41 = .ok (.bipush 12, 2) := by decide +kernel
theorem dX5_both_43 : decode cX5_both 43 = .ok (.iconst 0, 1) := by decide +kernel
theorem dX5_both_44 : decode cX5_both 44 = .ok (.invokevirtual 107, 3) := by decide +kernel
theorem dX5_both_47 : decode cX5_both 47 = .ok (.aload_n 0, 1) := by decide +kernel
theorem dX5_both_48 : decode cX5_both 48 = .ok (.iload_n 1, 1) := by decide +kernel
theorem dX5_both_49 : decode cX5_both 49 = .ok (.invokevirtual 118, 3) := by decide +kernel
theorem dX5_both_52 : decode cX5_both 52 = .ok (.ifCond .ne 5, 3) := by decide +kernel
theorem dX5_both_55 : decode cX5_both 55 = .ok (.iconst 0, 1) := by decide +kernel
theorem dX5_both_56 : decode cX5_both 56 = .ok (.ireturn, 1) := by decide +kernel
theorem dX5_both_57 : decode cX5_both 57 = .ok (.aload_n 0, 1) := by decide +kernel
theorem dX5_both_58 : decode cX5_both 58 = .ok (.getfield 15, 3) := by decide +kernel
theorem dX5_both_61 : decode cX5_both 61 = .ok (.iload_n 3, 1) := by decide +kernel
theorem dX5_both_62 : decode cX5_both 62 = .ok (.invokevirtual 114, 3) := by decide +kernel
theorem dX5_both_65 : decode cX5_both 65 = .ok (.iinc 2 1, 3) := by decide +kernel
theorem dX5_both_68 : decode cX5_both 68 = .ok (.goto (-56), 3) := by decide +kernel
theorem dX5_both_71 : decode cX5_both 71 = .ok (.iconst 1, 1) := by decide +kernel
theorem dX5_both_72 : decode cX5_both 72 = .ok (.ireturn, 1) := by decide +kernel
set_option maxRecDepth 100000 in
theorem okm_X5_both : okL RX5 cX5_both 4 (some .boolean) "both" pcX5_both opX5_both pcX5_both := by
  unfold opX5_both
  refine okL_cons (ok_aload_n rfl dX5_both_0) rfl ?_
  refine okL_cons (ok_iload_n rfl dX5_both_1) rfl ?_
  refine okL_cons (ok_invV (M' := 46) kw_203 kw_204 kw_205 kw_149 kw_206 cf_X5 rfl (by decide +kernel) dX5_both_2) rfl ?_
  refine okL_cons (ok_if_ne rfl dX5_both_5) rfl ?_
  refine okL_cons (ok_iconst rfl dX5_both_8) rfl ?_
  refine okL_cons (ok_zreturn rfl dX5_both_9) rfl ?_
  refine okL_cons (ok_iconst rfl dX5_both_10) rfl ?_
  refine okL_cons (ok_istore_n rfl dX5_both_11) rfl ?_
  refine okL_cons (ok_iload_n rfl dX5_both_12) rfl ?_
  refine okL_cons (ok_sipush rfl dX5_both_13) rfl ?_
  refine okL_cons (ok_icmp_ge rfl dX5_both_16) rfl ?_
  refine okL_cons (ok_aload_n rfl dX5_both_19) rfl ?_
  refine okL_cons (ok_sipush rfl dX5_both_20) rfl ?_
  refine okL_cons (ok_invV (M' := 37) kw_163 kw_164 kw_165 kw_149 kw_166 cf_X5 rfl (by decide +kernel) dX5_both_23) rfl ?_
  refine okL_cons (ok_if_eq rfl dX5_both_26) rfl ?_
  refine okL_cons (ok_aload_n rfl dX5_both_29) rfl ?_
  refine okL_cons (ok_getP kw_129 cf_X5 rfl rfl (by decide) dX5_both_30) rfl ?_
  refine okL_cons (ok_getNI 12 cf_X9 rfl rfl rfl (by decide) dX5_both_33) rfl ?_
  refine okL_cons (ok_istore_n rfl dX5_both_36) rfl ?_
  refine okL_cons (ok_aload_n rfl dX5_both_37) rfl ?_
  refine okL_cons (ok_getP kw_129 cf_X5 rfl rfl (by decide) dX5_both_38) rfl ?_
  refine okL_cons (ok_bipush rfl dX5_both_41) rfl ?_
  refine okL_cons (ok_iconst rfl dX5_both_43) rfl ?_
  refine okL_cons (ok_invV (M' := 95) kw_191 kw_192 kw_193 kw_59 kw_194 cf_X9 rfl (by decide +kernel) dX5_both_44) rfl ?_
  refine okL_cons (ok_aload_n rfl dX5_both_47) rfl ?_
  refine okL_cons (ok_iload_n rfl dX5_both_48) rfl ?_
  refine okL_cons (ok_invV (M' := 46) kw_203 kw_204 kw_205 kw_149 kw_206 cf_X5 rfl (by decide +kernel) dX5_both_49) rfl ?_
  refine okL_cons (ok_if_ne rfl dX5_both_52) rfl ?_
  refine okL_cons (ok_iconst rfl dX5_both_55) rfl ?_
  refine okL_cons (ok_zreturn rfl dX5_both_56) rfl ?_
  refine okL_cons (ok_aload_n rfl dX5_both_57) rfl ?_
  refine okL_cons (ok_getP kw_129 cf_X5 rfl rfl (by decide) dX5_both_58) rfl ?_
  refine okL_cons (ok_iload_n rfl dX5_both_61) rfl ?_
  refine okL_cons (ok_invV (M' := 96) kw_199 kw_200 kw_201 kw_59 kw_202 cf_X9 rfl (by decide +kernel) dX5_both_62) rfl ?_
  refine okL_cons (ok_iinc rfl dX5_both_65) rfl ?_
  refine okL_cons (ok_goto rfl dX5_both_68) rfl ?_
  refine okL_cons (ok_iconst rfl dX5_both_71) rfl ?_
  exact okL_one (ok_zreturn rfl dX5_both_72)
theorem dX5_plain_0 : decode cX5_plain 0 = .ok (.iconst 0, 1) := by decide +kernel
theorem dX5_plain_1 : decode cX5_plain 1 = .ok (.istore_n 2, 1) := by decide +kernel
theorem dX5_plain_2 : decode cX5_plain 2 = .ok (.iconst 0, 1) := by decide +kernel
theorem dX5_plain_3 : decode cX5_plain 3 = .ok (.istore_n 3, 1) := by decide +kernel
theorem dX5_plain_4 : decode cX5_plain 4 = .ok (.iload_n 3, 1) := by decide +kernel
theorem dX5_plain_5 : decode cX5_plain 5 = .ok (.sipush 400, 3) := by decide +kernel
theorem dX5_plain_8 : decode cX5_plain 8 = .ok (.if_icmp .ge 29, 3) := by decide +kernel
theorem dX5_plain_11 : decode cX5_plain 11 = .ok (.aload_n 0, 1) := by decide +kernel
theorem dX5_plain_12 : decode cX5_plain 12 = .ok (.sipush 3006, 3) := by decide +kernel
theorem dX5_plain_15 : decode cX5_plain 15 = .ok (.invokevirtual 58, 3) := by decide +kernel
theorem dX5_plain_18 : decode cX5_plain 18 = .ok (.ifCond .eq 19, 3) := by decide +kernel
theorem dX5_plain_21 : decode cX5_plain 21 = .ok (.iload_n 2, 1) := by decide +kernel
theorem dX5_plain_22 : decode cX5_plain 22 = .ok (.ifCond .ne 7, 3) := by decide +kernel
theorem dX5_plain_25 : decode cX5_plain 25 = .ok (.iconst 1, 1) := by decide +kernel
theorem dX5_plain_26 : decode cX5_plain 26 = .ok (.goto 4, 3) := by decide +kernel
theorem dX5_plain_29 : decode cX5_plain 29 = .ok (.iconst 0, 1) := by decide +kernel
theorem dX5_plain_30 : decode cX5_plain 30 = .ok (.istore_n 2, 1) := by decide +kernel
theorem dX5_plain_31 : decode cX5_plain 31 = .ok (.iinc 3 1, 3) := by decide +kernel
theorem dX5_plain_34 : decode cX5_plain 34 = .ok (.goto (-30), 3) := by decide +kernel
theorem dX5_plain_37 : decode cX5_plain 37 = .ok (.aload_n 0, 1) := by decide +kernel
theorem dX5_plain_38 : decode cX5_plain 38 = .ok (.invokevirtual 54, 3) := by decide +kernel
theorem dX5_plain_41 : decode cX5_plain 41 = .ok (.sipush 2040, 3) := by decide +kernel
theorem dX5_plain_44 : decode cX5_plain 44 = .ok (.if_icmp .ne 11, 3) := by decide +kernel
theorem dX5_plain_47 : decode cX5_plain 47 = .ok (.aload_n 0, 1) := by decide +kernel
theorem dX5_plain_48 : decode cX5_plain 48 = .ok (.iload_n 1, 1) := by decide +kernel
theorem dX5_plain_49 : decode cX5_plain 49 = .ok (.invokevirtual 121, 3) := by decide +kernel
theorem dX5_plain_52 : decode cX5_plain 52 = .ok (.goto 8, 3) := by decide +kernel
theorem dX5_plain_55 : decode cX5_plain 55 = .ok (.aload_n 0, 1) := by decide +kernel
theorem dX5_plain_56 : decode cX5_plain 56 = .ok (.iload_n 1, 1) := by decide +kernel
theorem dX5_plain_57 : decode cX5_plain 57 = .ok (.invokevirtual 124, 3) := by decide +kernel
theorem dX5_plain_60 : decode cX5_plain 60 = .ok (.istore_n 3, 1) := by decide +kernel
theorem dX5_plain_61 : decode cX5_plain 61 = .ok (.iload_n 3, 1) := by decide +kernel
theorem dX5_plain_62 : decode cX5_plain 62 = .ok (.ifCond .eq 17, 3) := by decide +kernel
theorem dX5_plain_65 : decode cX5_plain 65 = .ok (.iload_n 2, 1) := by decide +kernel
theorem dX5_plain_66 : decode cX5_plain 66 = .ok (.ifCond .eq 13, 3) := by decide +kernel
theorem dX5_plain_69 : decode cX5_plain 69 = .ok (.aload_n 0, 1) := by decide +kernel
theorem dX5_plain_70 : decode cX5_plain 70 = .ok (.getfield 15, 3) := by decide +kernel
theorem dX5_plain_73 : decode cX5_plain 73 = .ok (.bipush 10, 2) := by decide +kernel
theorem dX5_plain_75 : decode cX5_plain 75 = .ok (.iconst 0, 1) := by decide +kernel
theorem dX5_plain_76 : decode cX5_plain 76 = .ok (.invokevirtual 107, 3) := by decide +kernel
theorem dX5_plain_79 : decode cX5_plain 79 = .ok (.iload_n 3, 1) := by decide +kernel
theorem dX5_plain_80 : decode cX5_plain 80 = .ok (.ireturn, 1) := by decide +kernel
set_option maxRecDepth 100000 in
theorem okm_X5_plain : okL RX5 cX5_plain 4 (some .boolean) "plain" pcX5_plain opX5_plain pcX5_plain := by
  unfold opX5_plain
  refine okL_cons (ok_iconst rfl dX5_plain_0) rfl ?_
  refine okL_cons (ok_istore_n rfl dX5_plain_1) rfl ?_
  refine okL_cons (ok_iconst rfl dX5_plain_2) rfl ?_
  refine okL_cons (ok_istore_n rfl dX5_plain_3) rfl ?_
  refine okL_cons (ok_iload_n rfl dX5_plain_4) rfl ?_
  refine okL_cons (ok_sipush rfl dX5_plain_5) rfl ?_
  refine okL_cons (ok_icmp_ge rfl dX5_plain_8) rfl ?_
  refine okL_cons (ok_aload_n rfl dX5_plain_11) rfl ?_
  refine okL_cons (ok_sipush rfl dX5_plain_12) rfl ?_
  refine okL_cons (ok_invV (M' := 37) kw_163 kw_164 kw_165 kw_149 kw_166 cf_X5 rfl (by decide +kernel) dX5_plain_15) rfl ?_
  refine okL_cons (ok_if_eq rfl dX5_plain_18) rfl ?_
  refine okL_cons (ok_iload_n rfl dX5_plain_21) rfl ?_
  refine okL_cons (ok_if_ne rfl dX5_plain_22) rfl ?_
  refine okL_cons (ok_iconst rfl dX5_plain_25) rfl ?_
  refine okL_cons (ok_goto rfl dX5_plain_26) rfl ?_
  refine okL_cons (ok_iconst rfl dX5_plain_29) rfl ?_
  refine okL_cons (ok_istore_n rfl dX5_plain_30) rfl ?_
  refine okL_cons (ok_iinc rfl dX5_plain_31) rfl ?_
  refine okL_cons (ok_goto rfl dX5_plain_34) rfl ?_
  refine okL_cons (ok_aload_n rfl dX5_plain_37) rfl ?_
  refine okL_cons (ok_invV (M' := 35) kw_159 kw_160 kw_161 kw_149 kw_162 cf_X5 rfl (by decide +kernel) dX5_plain_38) rfl ?_
  refine okL_cons (ok_sipush rfl dX5_plain_41) rfl ?_
  refine okL_cons (ok_icmp_ne rfl dX5_plain_44) rfl ?_
  refine okL_cons (ok_aload_n rfl dX5_plain_47) rfl ?_
  refine okL_cons (ok_iload_n rfl dX5_plain_48) rfl ?_
  refine okL_cons (ok_invV (M' := 47) kw_207 kw_208 kw_209 kw_149 kw_210 cf_X5 rfl (by decide +kernel) dX5_plain_49) rfl ?_
  refine okL_cons (ok_goto rfl dX5_plain_52) rfl ?_
  refine okL_cons (ok_aload_n rfl dX5_plain_55) rfl ?_
  refine okL_cons (ok_iload_n rfl dX5_plain_56) rfl ?_
  refine okL_cons (ok_invV (M' := 48) kw_211 kw_212 kw_213 kw_149 kw_214 cf_X5 rfl (by decide +kernel) dX5_plain_57) rfl ?_
  refine okL_cons (ok_istore_n rfl dX5_plain_60) rfl ?_
  refine okL_cons (ok_iload_n rfl dX5_plain_61) rfl ?_
  refine okL_cons (ok_if_eq rfl dX5_plain_62) rfl ?_
  refine okL_cons (ok_iload_n rfl dX5_plain_65) rfl ?_
  refine okL_cons (ok_if_eq rfl dX5_plain_66) rfl ?_
  refine okL_cons (ok_aload_n rfl dX5_plain_69) rfl ?_
  refine okL_cons (ok_getP kw_129 cf_X5 rfl rfl (by decide) dX5_plain_70) rfl ?_
  refine okL_cons (ok_bipush rfl dX5_plain_73) rfl ?_
  refine okL_cons (ok_iconst rfl dX5_plain_75) rfl ?_
  refine okL_cons (ok_invV (M' := 95) kw_191 kw_192 kw_193 kw_59 kw_194 cf_X9 rfl (by decide +kernel) dX5_plain_76) rfl ?_
  refine okL_cons (ok_iload_n rfl dX5_plain_79) rfl ?_
  exact okL_one (ok_zreturn rfl dX5_plain_80)
theorem dX5_bracketed_0 : decode cX5_bracketed 0 = .ok (.iload_n 1, 1) := by decide +kernel
theorem dX5_bracketed_1 : decode cX5_bracketed 1 = .ok (.bipush 8, 2) := by decide +kernel
theorem dX5_bracketed_3 : decode cX5_bracketed 3 = .ok (.if_icmp .lt 5, 3) := by decide +kernel
theorem dX5_bracketed_6 : decode cX5_bracketed 6 = .ok (.iconst 0, 1) := by decide +kernel
theorem dX5_bracketed_7 : decode cX5_bracketed 7 = .ok (.ireturn, 1) := by decide +kernel
theorem dX5_bracketed_8 : decode cX5_bracketed 8 = .ok (.aload_n 0, 1) := by decide +kernel
theorem dX5_bracketed_9 : decode cX5_bracketed 9 = .ok (.invokevirtual 99, 3) := by decide +kernel
theorem dX5_bracketed_12 : decode cX5_bracketed 12 = .ok (.aload_n 0, 1) := by decide +kernel
theorem dX5_bracketed_13 : decode cX5_bracketed 13 = .ok (.iload_n 1, 1) := by decide +kernel
theorem dX5_bracketed_14 : decode cX5_bracketed 14 = .ok (.iconst 1, 1) := by decide +kernel
theorem dX5_bracketed_15 : decode cX5_bracketed 15 = .ok (.iadd, 1) := by decide +kernel
theorem dX5_bracketed_16 : decode cX5_bracketed 16 = .ok (.invokevirtual 105, 3) := by decide +kernel
theorem dX5_bracketed_19 : decode cX5_bracketed 19 = .ok (.ifCond .eq 17, 3) := by decide +kernel
theorem dX5_bracketed_22 : decode cX5_bracketed 22 = .ok (.aload_n 0, 1) := by decide +kernel
theorem dX5_bracketed_23 : decode cX5_bracketed 23 = .ok (.sipush 2041, 3) := by decide +kernel
theorem dX5_bracketed_26 : decode cX5_bracketed 26 = .ok (.invokevirtual 58, 3) := by decide +kernel
theorem dX5_bracketed_29 : decode cX5_bracketed 29 = .ok (.ifCond .eq 7, 3) := by decide +kernel
theorem dX5_bracketed_32 : decode cX5_bracketed 32 = .ok (.iconst 1, 1) := by decide +kernel
theorem dX5_bracketed_33 : decode cX5_bracketed 33 = .ok (.goto 4, 3) := by decide +kernel
theorem dX5_bracketed_36 : decode cX5_bracketed 36 = .ok (.iconst 0, 1) := by decide +kernel
theorem dX5_bracketed_37 : decode cX5_bracketed 37 = .ok (.ireturn, 1) := by decide +kernel
set_option maxRecDepth 100000 in
theorem okm_X5_bracketed : okL RX5 cX5_bracketed 2 (some .boolean) "bracketed" pcX5_bracketed opX5_bracketed pcX5_bracketed := by
  unfold opX5_bracketed
  refine okL_cons (ok_iload_n rfl dX5_bracketed_0) rfl ?_
  refine okL_cons (ok_bipush rfl dX5_bracketed_1) rfl ?_
  refine okL_cons (ok_icmp_lt rfl dX5_bracketed_3) rfl ?_
  refine okL_cons (ok_iconst rfl dX5_bracketed_6) rfl ?_
  refine okL_cons (ok_zreturn rfl dX5_bracketed_7) rfl ?_
  refine okL_cons (ok_aload_n rfl dX5_bracketed_8) rfl ?_
  refine okL_cons (ok_invV (M' := 36) kw_183 kw_184 kw_185 kw_149 kw_186 cf_X5 rfl (by decide +kernel) dX5_bracketed_9) rfl ?_
  refine okL_cons (ok_aload_n rfl dX5_bracketed_12) rfl ?_
  refine okL_cons (ok_iload_n rfl dX5_bracketed_13) rfl ?_
  refine okL_cons (ok_iconst rfl dX5_bracketed_14) rfl ?_
  refine okL_cons (ok_iadd dX5_bracketed_15) rfl ?_
  refine okL_cons (ok_invV (M' := 44) kw_187 kw_188 kw_189 kw_149 kw_190 cf_X5 rfl (by decide +kernel) dX5_bracketed_16) rfl ?_
  refine okL_cons (ok_if_eq rfl dX5_bracketed_19) rfl ?_
  refine okL_cons (ok_aload_n rfl dX5_bracketed_22) rfl ?_
  refine okL_cons (ok_sipush rfl dX5_bracketed_23) rfl ?_
  refine okL_cons (ok_invV (M' := 37) kw_163 kw_164 kw_165 kw_149 kw_166 cf_X5 rfl (by decide +kernel) dX5_bracketed_26) rfl ?_
  refine okL_cons (ok_if_eq rfl dX5_bracketed_29) rfl ?_
  refine okL_cons (ok_iconst rfl dX5_bracketed_32) rfl ?_
  refine okL_cons (ok_goto rfl dX5_bracketed_33) rfl ?_
  refine okL_cons (ok_iconst rfl dX5_bracketed_36) rfl ?_
  exact okL_one (ok_zreturn rfl dX5_bracketed_37)
theorem dX5_comparison_0 : decode cX5_comparison 0 = .ok (.aload_n 0, 1) := by decide +kernel
theorem dX5_comparison_1 : decode cX5_comparison 1 = .ok (.iload_n 1, 1) := by decide +kernel
theorem dX5_comparison_2 : decode cX5_comparison 2 = .ok (.invokevirtual 79, 3) := by decide +kernel
theorem dX5_comparison_5 : decode cX5_comparison 5 = .ok (.ifCond .ne 5, 3) := by decide +kernel
theorem dX5_comparison_8 : decode cX5_comparison 8 = .ok (.iconst 0, 1) := by decide +kernel
theorem dX5_comparison_9 : decode cX5_comparison 9 = .ok (.ireturn, 1) := by decide +kernel
theorem dX5_comparison_10 : decode cX5_comparison 10 = .ok (.aload_n 0, 1) := by decide +kernel
theorem dX5_comparison_11 : decode cX5_comparison 11 = .ok (.sipush 2060, 3) := by decide +kernel
theorem dX5_comparison_14 : decode cX5_comparison 14 = .ok (.invokevirtual 58, 3) := by decide +kernel
theorem dX5_comparison_17 : decode cX5_comparison 17 = .ok (.ifCond .eq 8, 3) := by decide +kernel
theorem dX5_comparison_20 : decode cX5_comparison 20 = .ok (.bipush 7, 2) := by decide +kernel
theorem dX5_comparison_22 : decode cX5_comparison 22 = .ok (.goto 34, 3) := by decide +kernel
theorem dX5_comparison_25 : decode cX5_comparison 25 = .ok (.aload_n 0, 1) := by decide +kernel
theorem dX5_comparison_26 : decode cX5_comparison 26 = .ok (.sipush 2062, 3) := by decide +kernel
theorem dX5_comparison_29 : decode cX5_comparison 29 = .ok (.invokevirtual 58, 3) := by decide +kernel
theorem dX5_comparison_32 : decode cX5_comparison 32 = .ok (.ifCond .eq 8, 3) := by decide +kernel
theorem dX5_comparison_35 : decode cX5_comparison 35 = .ok (.bipush 8, 2) := by decide +kernel
theorem dX5_comparison_37 : decode cX5_comparison 37 = .ok (.goto 19, 3) := by decide +kernel
theorem dX5_comparison_40 : decode cX5_comparison 40 = .ok (.aload_n 0, 1) := by decide +kernel
theorem dX5_comparison_41 : decode cX5_comparison 41 = .ok (.sipush 2061, 3) := by decide +kernel
theorem dX5_comparison_44 : decode cX5_comparison 44 = .ok (.invokevirtual 58, 3) := by decide +kernel
theorem dX5_comparison_47 : decode cX5_comparison 47 = .ok (.ifCond .eq 8, 3) := by decide +kernel
theorem dX5_comparison_50 : decode cX5_comparison 50 = .ok (.bipush 9, 2) := by decide +kernel
theorem dX5_comparison_52 : decode cX5_comparison 52 = .ok (.goto 4, 3) := by decide +kernel
theorem dX5_comparison_55 : decode cX5_comparison 55 = .ok (.iconst (-1), 1) := by decide +kernel
theorem dX5_comparison_56 : decode cX5_comparison 56 = .ok (.istore_n 2, 1) := by decide +kernel
theorem dX5_comparison_57 : decode cX5_comparison 57 = .ok (.iload_n 2, 1) := by decide +kernel
theorem dX5_comparison_58 : decode cX5_comparison 58 = .ok (.iconst (-1), 1) := by decide +kernel
theorem dX5_comparison_59 : decode cX5_comparison 59 = .ok (.if_icmp .eq 11, 3) := by decide +kernel
theorem dX5_comparison_62 : decode cX5_comparison 62 = .ok (.aload_n 0, 1) := by decide +kernel
theorem dX5_comparison_63 : decode cX5_comparison 63 = .ok (.iload_n 1, 1) := by decide +kernel
theorem dX5_comparison_64 : decode cX5_comparison 64 = .ok (.invokevirtual 79, 3) := by decide +kernel
theorem dX5_comparison_67 : decode cX5_comparison 67 = .ok (.ifCond .ne 5, 3) := by decide +kernel
theorem dX5_comparison_70 : decode cX5_comparison 70 = .ok (.iconst 0, 1) := by decide +kernel
theorem dX5_comparison_71 : decode cX5_comparison 71 = .ok (.ireturn, 1) := by decide +kernel
theorem dX5_comparison_72 : decode cX5_comparison 72 = .ok (.aload_n 0, 1) := by decide +kernel
theorem dX5_comparison_73 : decode cX5_comparison 73 = .ok (.getfield 15, 3) := by decide +kernel
theorem dX5_comparison_76 : decode cX5_comparison 76 = .ok (.iload_n 2, 1) := by decide +kernel
theorem dX5_comparison_77 : decode cX5_comparison 77 = .ok (.iconst 0, 1) := by decide +kernel
theorem dX5_comparison_78 : decode cX5_comparison 78 = .ok (.invokevirtual 107, 3) := by decide +kernel
theorem dX5_comparison_81 : decode cX5_comparison 81 = .ok (.iconst 1, 1) := by decide +kernel
theorem dX5_comparison_82 : decode cX5_comparison 82 = .ok (.ireturn, 1) := by decide +kernel
set_option maxRecDepth 100000 in
theorem okm_X5_comparison : okL RX5 cX5_comparison 3 (some .boolean) "comparison" pcX5_comparison opX5_comparison pcX5_comparison := by
  unfold opX5_comparison
  refine okL_cons (ok_aload_n rfl dX5_comparison_0) rfl ?_
  refine okL_cons (ok_iload_n rfl dX5_comparison_1) rfl ?_
  refine okL_cons (ok_invV (M' := 49) kw_167 kw_168 kw_169 kw_149 kw_170 cf_X5 rfl (by decide +kernel) dX5_comparison_2) rfl ?_
  refine okL_cons (ok_if_ne rfl dX5_comparison_5) rfl ?_
  refine okL_cons (ok_iconst rfl dX5_comparison_8) rfl ?_
  refine okL_cons (ok_zreturn rfl dX5_comparison_9) rfl ?_
  refine okL_cons (ok_aload_n rfl dX5_comparison_10) rfl ?_
  refine okL_cons (ok_sipush rfl dX5_comparison_11) rfl ?_
  refine okL_cons (ok_invV (M' := 37) kw_163 kw_164 kw_165 kw_149 kw_166 cf_X5 rfl (by decide +kernel) dX5_comparison_14) rfl ?_
  refine okL_cons (ok_if_eq rfl dX5_comparison_17) rfl ?_
  refine okL_cons (ok_bipush rfl dX5_comparison_20) rfl ?_
  refine okL_cons (ok_goto rfl dX5_comparison_22) rfl ?_
  refine okL_cons (ok_aload_n rfl dX5_comparison_25) rfl ?_
  refine okL_cons (ok_sipush rfl dX5_comparison_26) rfl ?_
  refine okL_cons (ok_invV (M' := 37) kw_163 kw_164 kw_165 kw_149 kw_166 cf_X5 rfl (by decide +kernel) dX5_comparison_29) rfl ?_
  refine okL_cons (ok_if_eq rfl dX5_comparison_32) rfl ?_
  refine okL_cons (ok_bipush rfl dX5_comparison_35) rfl ?_
  refine okL_cons (ok_goto rfl dX5_comparison_37) rfl ?_
  refine okL_cons (ok_aload_n rfl dX5_comparison_40) rfl ?_
  refine okL_cons (ok_sipush rfl dX5_comparison_41) rfl ?_
  refine okL_cons (ok_invV (M' := 37) kw_163 kw_164 kw_165 kw_149 kw_166 cf_X5 rfl (by decide +kernel) dX5_comparison_44) rfl ?_
  refine okL_cons (ok_if_eq rfl dX5_comparison_47) rfl ?_
  refine okL_cons (ok_bipush rfl dX5_comparison_50) rfl ?_
  refine okL_cons (ok_goto rfl dX5_comparison_52) rfl ?_
  refine okL_cons (ok_iconst rfl dX5_comparison_55) rfl ?_
  refine okL_cons (ok_istore_n rfl dX5_comparison_56) rfl ?_
  refine okL_cons (ok_iload_n rfl dX5_comparison_57) rfl ?_
  refine okL_cons (ok_iconst rfl dX5_comparison_58) rfl ?_
  refine okL_cons (ok_icmp_eq rfl dX5_comparison_59) rfl ?_
  refine okL_cons (ok_aload_n rfl dX5_comparison_62) rfl ?_
  refine okL_cons (ok_iload_n rfl dX5_comparison_63) rfl ?_
  refine okL_cons (ok_invV (M' := 49) kw_167 kw_168 kw_169 kw_149 kw_170 cf_X5 rfl (by decide +kernel) dX5_comparison_64) rfl ?_
  refine okL_cons (ok_if_ne rfl dX5_comparison_67) rfl ?_
  refine okL_cons (ok_iconst rfl dX5_comparison_70) rfl ?_
  refine okL_cons (ok_zreturn rfl dX5_comparison_71) rfl ?_
  refine okL_cons (ok_aload_n rfl dX5_comparison_72) rfl ?_
  refine okL_cons (ok_getP kw_129 cf_X5 rfl rfl (by decide) dX5_comparison_73) rfl ?_
  refine okL_cons (ok_iload_n rfl dX5_comparison_76) rfl ?_
  refine okL_cons (ok_iconst rfl dX5_comparison_77) rfl ?_
  refine okL_cons (ok_invV (M' := 95) kw_191 kw_192 kw_193 kw_59 kw_194 cf_X9 rfl (by decide +kernel) dX5_comparison_78) rfl ?_
  refine okL_cons (ok_iconst rfl dX5_comparison_81) rfl ?_
  exact okL_one (ok_zreturn rfl dX5_comparison_82)
theorem dX5_sum_0 : decode cX5_sum 0 = .ok (.aload_n 0, 1) := by decide +kernel
theorem dX5_sum_1 : decode cX5_sum 1 = .ok (.iload_n 1, 1) := by decide +kernel
theorem dX5_sum_2 : decode cX5_sum 2 = .ok (.invokevirtual 127, 3) := by decide +kernel
theorem dX5_sum_5 : decode cX5_sum 5 = .ok (.ifCond .ne 5, 3) := by decide +kernel
theorem dX5_sum_8 : decode cX5_sum 8 = .ok (.iconst 0, 1) := by decide +kernel
theorem dX5_sum_9 : decode cX5_sum 9 = .ok (.ireturn, 1) := by decide +kernel
theorem dX5_sum_10 : decode cX5_sum 10 = .ok (.iconst 0, 1) := by decide +kernel
theorem dX5_sum_11 : decode cX5_sum 11 = .ok (.istore_n 2, 1) := by decide +kernel
theorem dX5_sum_12 : decode cX5_sum 12 = .ok (.iload_n 2, 1) := by decide +kernel
theorem dX5_sum_13 : decode cX5_sum 13 = .ok (.sipush 400, 3) := by decide +kernel
theorem dX5_sum_16 : decode cX5_sum 16 = .ok (.if_icmp .ge 65, 3) := by decide +kernel
theorem dX5_sum_19 : decode cX5_sum 19 = .ok (.aload_n 0, 1) := by decide +kernel
theorem dX5_sum_20 : decode cX5_sum 20 = .ok (.sipush 2043, 3) := by decide +kernel
theorem dX5_sum_23 : decode cX5_sum 23 = .ok (.invokevirtual 58, 3) := by decide +kernel
theorem dX5_sum_26 : decode cX5_sum 26 = .ok (.ifCond .eq 7, 3) := by decide +kernel
theorem dX5_sum_29 : decode cX5_sum 29 = .ok (.iconst 2, 1) := by decide +kernel
theorem dX5_sum_30 : decode cX5_sum 30 = .ok (.goto 18, 3) := by decide +kernel
theorem dX5_sum_33 : decode cX5_sum 33 = .ok (.aload_n 0, 1) := by decide +kernel
theorem dX5_sum_34 : decode cX5_sum 34 = .ok (.sipush 2045, 3) := by decide +kernel
theorem dX5_sum_37 : decode cX5_sum 37 = .ok (.invokevirtual 58, 3) := by decide +kernel
theorem dX5_sum_40 : decode cX5_sum 40 = .ok (.ifCond .eq 7, 3) := by decide +kernel
theorem dX5_sum_43 : decode cX5_sum 43 = .ok (.iconst 3, 1) := by decide +kernel
theorem dX5_sum_44 : decode cX5_sum 44 = .ok (.goto 4, 3) := by decide +kernel
theorem dX5_sum_47 : decode cX5_sum 47 = .ok (.iconst (-1), 1) := by decide +kernel
theorem dX5_sum_48 : decode cX5_sum 48 = .ok (.istore_n 3, 1) := by decide +kernel
theorem dX5_sum_49 : decode cX5_sum 49 = .ok (.iload_n 3, 1) := by decide +kernel
theorem dX5_sum_50 : decode cX5_sum 50 = .ok (.iconst (-1), 1) := by decide +kernel
theorem dX5_sum_51 : decode cX5_sum 51 = .ok (.if_icmp .ne 5, 3) := by decide +kernel
theorem dX5_sum_54 : decode cX5_sum 54 = .ok (.iconst 1, 1) := by decide +kernel
theorem dX5_sum_55 : decode cX5_sum 55 = .ok (.ireturn, 1) := by decide +kernel
theorem dX5_sum_56 : decode cX5_sum 56 = .ok (.aload_n 0, 1) := by decide +kernel
theorem dX5_sum_57 : decode cX5_sum 57 = .ok (.iload_n 1, 1) := by decide +kernel
theorem dX5_sum_58 : decode cX5_sum 58 = .ok (.invokevirtual 127, 3) := by decide +kernel
theorem dX5_sum_61 : decode cX5_sum 61 = .ok (.ifCond .ne 5, 3) := by decide +kernel
theorem dX5_sum_64 : decode cX5_sum 64 = .ok (.iconst 0, 1) := by decide +kernel
theorem dX5_sum_65 : decode cX5_sum 65 = .ok (.ireturn, 1) := by decide +kernel
theorem dX5_sum_66 : decode cX5_sum 66 = .ok (.aload_n 0, 1) := by decide +kernel
theorem dX5_sum_67 : decode cX5_sum 67 = .ok (.getfield 15, 3) := by decide +kernel
theorem dX5_sum_70 : decode cX5_sum 70 = .ok (.iload_n 3, 1) := by decide +kernel
theorem dX5_sum_71 : decode cX5_sum 71 = .ok (.iconst 0, 1) := by decide +kernel
theorem dX5_sum_72 : decode cX5_sum 72 = .ok (.invokevirtual 107, 3) := by decide +kernel
theorem dX5_sum_75 : decode cX5_sum 75 = .ok (.iinc 2 1, 3) := by decide +kernel
theorem dX5_sum_78 : decode cX5_sum 78 = .ok (.goto (-66), 3) := by decide +kernel
theorem dX5_sum_81 : decode cX5_sum 81 = .ok (.iconst 1, 1) := by decide +kernel
theorem dX5_sum_82 : decode cX5_sum 82 = .ok (.ireturn, 1) := by decide +kernel
set_option maxRecDepth 100000 in
theorem okm_X5_sum : okL RX5 cX5_sum 4 (some .boolean) "sum" pcX5_sum opX5_sum pcX5_sum := by
  unfold opX5_sum
  refine okL_cons (ok_aload_n rfl dX5_sum_0) rfl ?_
  refine okL_cons (ok_iload_n rfl dX5_sum_1) rfl ?_
  refine okL_cons (ok_invV (M' := 50) kw_215 kw_216 kw_217 kw_149 kw_218 cf_X5 rfl (by decide +kernel) dX5_sum_2) rfl ?_
  refine okL_cons (ok_if_ne rfl dX5_sum_5) rfl ?_
  refine okL_cons (ok_iconst rfl dX5_sum_8) rfl ?_
  refine okL_cons (ok_zreturn rfl dX5_sum_9) rfl ?_
  refine okL_cons (ok_iconst rfl dX5_sum_10) rfl ?_
  refine okL_cons (ok_istore_n rfl dX5_sum_11) rfl ?_
  refine okL_cons (ok_iload_n rfl dX5_sum_12) rfl ?_
  refine okL_cons (ok_sipush rfl dX5_sum_13) rfl ?_
  refine okL_cons (ok_icmp_ge rfl dX5_sum_16) rfl ?_
  refine okL_cons (ok_aload_n rfl dX5_sum_19) rfl ?_
  refine okL_cons (ok_sipush rfl dX5_sum_20) rfl ?_
  refine okL_cons (ok_invV (M' := 37) kw_163 kw_164 kw_165 kw_149 kw_166 cf_X5 rfl (by decide +kernel) dX5_sum_23) rfl ?_
  refine okL_cons (ok_if_eq rfl dX5_sum_26) rfl ?_
  refine okL_cons (ok_iconst rfl dX5_sum_29) rfl ?_
  refine okL_cons (ok_goto rfl dX5_sum_30) rfl ?_
  refine okL_cons (ok_aload_n rfl dX5_sum_33) rfl ?_
  refine okL_cons (ok_sipush rfl dX5_sum_34) rfl ?_
  refine okL_cons (ok_invV (M' := 37) kw_163 kw_164 kw_165 kw_149 kw_166 cf_X5 rfl (by decide +kernel) dX5_sum_37) rfl ?_
  refine okL_cons (ok_if_eq rfl dX5_sum_40) rfl ?_
  refine okL_cons (ok_iconst rfl dX5_sum_43) rfl ?_
  refine okL_cons (ok_goto rfl dX5_sum_44) rfl ?_
  refine okL_cons (ok_iconst rfl dX5_sum_47) rfl ?_
  refine okL_cons (ok_istore_n rfl dX5_sum_48) rfl ?_
  refine okL_cons (ok_iload_n rfl dX5_sum_49) rfl ?_
  refine okL_cons (ok_iconst rfl dX5_sum_50) rfl ?_
  refine okL_cons (ok_icmp_ne rfl dX5_sum_51) rfl ?_
  refine okL_cons (ok_iconst rfl dX5_sum_54) rfl ?_
  refine okL_cons (ok_zreturn rfl dX5_sum_55) rfl ?_
  refine okL_cons (ok_aload_n rfl dX5_sum_56) rfl ?_
  refine okL_cons (ok_iload_n rfl dX5_sum_57) rfl ?_
  refine okL_cons (ok_invV (M' := 50) kw_215 kw_216 kw_217 kw_149 kw_218 cf_X5 rfl (by decide +kernel) dX5_sum_58) rfl ?_
  refine okL_cons (ok_if_ne rfl dX5_sum_61) rfl ?_
  refine okL_cons (ok_iconst rfl dX5_sum_64) rfl ?_
  refine okL_cons (ok_zreturn rfl dX5_sum_65) rfl ?_
  refine okL_cons (ok_aload_n rfl dX5_sum_66) rfl ?_
  refine okL_cons (ok_getP kw_129 cf_X5 rfl rfl (by decide) dX5_sum_67) rfl ?_
  refine okL_cons (ok_iload_n rfl dX5_sum_70) rfl ?_
  refine okL_cons (ok_iconst rfl dX5_sum_71) rfl ?_
  refine okL_cons (ok_invV (M' := 95) kw_191 kw_192 kw_193 kw_59 kw_194 cf_X9 rfl (by decide +kernel) dX5_sum_72) rfl ?_
  refine okL_cons (ok_iinc rfl dX5_sum_75) rfl ?_
  refine okL_cons (ok_goto rfl dX5_sum_78) rfl ?_
  refine okL_cons (ok_iconst rfl dX5_sum_81) rfl ?_
  exact okL_one (ok_zreturn rfl dX5_sum_82)
theorem dX5_term_0 : decode cX5_term 0 = .ok (.aload_n 0, 1) := by decide +kernel
theorem dX5_term_1 : decode cX5_term 1 = .ok (.iload_n 1, 1) := by decide +kernel
theorem dX5_term_2 : decode cX5_term 2 = .ok (.invokevirtual 130, 3) := by decide +kernel
theorem dX5_term_5 : decode cX5_term 5 = .ok (.ifCond .ne 5, 3) := by decide +kernel
theorem dX5_term_8 : decode cX5_term 8 = .ok (.iconst 0, 1) := by decide +kernel
theorem dX5_term_9 : decode cX5_term 9 = .ok (.ireturn, 1) := by decide +kernel
theorem dX5_term_10 : decode cX5_term 10 = .ok (.iconst 0, 1) := by decide +kernel
theorem dX5_term_11 : decode cX5_term 11 = .ok (.istore_n 2, 1) := by decide +kernel
theorem dX5_term_12 : decode cX5_term 12 = .ok (.iload_n 2, 1) := by decide +kernel
theorem dX5_term_13 : decode cX5_term 13 = .ok (.sipush 400, 3) := by decide +kernel
theorem dX5_term_16 : decode cX5_term 16 = .ok (.if_icmp .ge 80, 3) := by decide +kernel
theorem dX5_term_19 : decode cX5_term 19 = .ok (.aload_n 0, 1) := by decide +kernel
theorem dX5_term_20 : decode cX5_term 20 = .ok (.sipush 2042, 3) := by decide +kernel
theorem dX5_term_23 : decode cX5_term 23 = .ok (.invokevirtual 58, 3) := by decide +kernel
theorem dX5_term_26 : decode cX5_term 26 = .ok (.ifCond .eq 7, 3) := by decide +kernel
theorem dX5_term_29 : decode cX5_term 29 = .ok (.iconst 4, 1) := by decide +kernel
theorem dX5_term_30 : decode cX5_term 30 = .ok (.goto 33, 3) := by decide +kernel
theorem dX5_term_33 : decode cX5_term 33 = .ok (.aload_n 0, 1) := by decide +kernel
theorem dX5_term_34 : decode cX5_term 34 = .ok (.sipush 2047, 3) := by decide +kernel
theorem dX5_term_37 : decode cX5_term 37 = .ok (.invokevirtual 58, 3) := by decide +kernel
theorem dX5_term_40 : decode cX5_term 40 = .ok (.ifCond .eq 7, 3) := by decide +kernel
theorem dX5_term_43 : decode cX5_term 43 = .ok (.iconst 5, 1) := by decide +kernel
theorem dX5_term_44 : decode cX5_term 44 = .ok (.goto 19, 3) := by decide +kernel
theorem dX5_term_47 : decode cX5_term 47 = .ok (.aload_n 0, 1) := by decide +kernel
theorem dX5_term_48 : decode cX5_term 48 = .ok (.sipush 2037, 3) := by decide +kernel
theorem dX5_term_51 : decode cX5_term 51 = .ok (.invokevirtual 58, 3) := by decide +kernel
theorem dX5_term_54 : decode cX5_term 54 = .ok (.ifCond .eq 8, 3) := by decide +kernel
theorem dX5_term_57 : decode cX5_term 57 = .ok (.bipush 6, 2) := by decide +kernel
theorem dX5_term_59 : decode cX5_term 59 = .ok (.goto 4, 3) := by decide +kernel
theorem dX5_term_62 : decode cX5_term 62 = .ok (.iconst (-1), 1) := by decide +kernel
theorem dX5_term_63 : decode cX5_term 63 = .ok (.istore_n 3, 1) := by decide +kernel
theorem dX5_term_64 : decode cX5_term 64 = .ok (.iload_n 3, 1) := by decide +kernel
theorem dX5_term_65 : decode cX5_term 65 = .ok (.iconst (-1), 1) := by decide +kernel
theorem dX5_term_66 : decode cX5_term 66 = .ok (.if_icmp .ne 5, 3) := by decide +kernel
theorem dX5_term_69 : decode cX5_term 69 = .ok (.iconst 1, 1) := by decide +kernel
theorem dX5_term_70 : decode cX5_term 70 = .ok (.ireturn, 1) := by decide +kernel
theorem dX5_term_71 : decode cX5_term 71 = .ok (.aload_n 0, 1) := by decide +kernel
theorem dX5_term_72 : decode cX5_term 72 = .ok (.iload_n 1, 1) := by decide +kernel
theorem dX5_term_73 : decode cX5_term 73 = .ok (.invokevirtual 130, 3) := by decide +kernel
theorem dX5_term_76 : decode cX5_term 76 = .ok (.ifCond .ne 5, 3) := by decide +kernel
theorem dX5_term_79 : decode cX5_term 79 = .ok (.iconst 0, 1) := by decide +kernel
theorem dX5_term_80 : decode cX5_term 80 = .ok (.ireturn, 1) := by decide +kernel
theorem dX5_term_81 : decode cX5_term 81 = .ok (.aload_n 0, 1) := by decide +kernel
theorem dX5_term_82 : decode cX5_term 82 = .ok (.getfield 15, 3) := by decide +kernel
theorem dX5_term_85 : decode cX5_term 85 = .ok (.iload_n 3, 1) := by decide +kernel
theorem dX5_term_86 : decode cX5_term 86 = .ok (.iconst 0, 1) := by decide +kernel
theorem dX5_term_87 : decode cX5_term 87 = .ok (.invokevirtual 107, 3) := by decide +kernel
theorem dX5_term_90 : decode cX5_term 90 = .ok (.iinc 2 1, 3) := by decide +kernel
theorem dX5_term_93 : decode cX5_term 93 = .ok (.goto (-81), 3) := by decide +kernel
theorem dX5_term_96 : decode cX5_term 96 = .ok (.iconst 1, 1) := by decide +kernel
theorem dX5_term_97 : decode cX5_term 97 = .ok (.ireturn, 1) := by decide +kernel
set_option maxRecDepth 100000 in
theorem okm_X5_term : okL RX5 cX5_term 4 (some .boolean) "term" pcX5_term opX5_term pcX5_term := by
  unfold opX5_term
  refine okL_cons (ok_aload_n rfl dX5_term_0) rfl ?_
  refine okL_cons (ok_iload_n rfl dX5_term_1) rfl ?_
  refine okL_cons (ok_invV (M' := 51) kw_219 kw_220 kw_221 kw_149 kw_222 cf_X5 rfl (by decide +kernel) dX5_term_2) rfl ?_
  refine okL_cons (ok_if_ne rfl dX5_term_5) rfl ?_
  refine okL_cons (ok_iconst rfl dX5_term_8) rfl ?_
  refine okL_cons (ok_zreturn rfl dX5_term_9) rfl ?_
  refine okL_cons (ok_iconst rfl dX5_term_10) rfl ?_
  refine okL_cons (ok_istore_n rfl dX5_term_11) rfl ?_
  refine okL_cons (ok_iload_n rfl dX5_term_12) rfl ?_
  refine okL_cons (ok_sipush rfl dX5_term_13) rfl ?_
  refine okL_cons (ok_icmp_ge rfl dX5_term_16) rfl ?_
  refine okL_cons (ok_aload_n rfl dX5_term_19) rfl ?_
  refine okL_cons (ok_sipush rfl dX5_term_20) rfl ?_
  refine okL_cons (ok_invV (M' := 37) kw_163 kw_164 kw_165 kw_149 kw_166 cf_X5 rfl (by decide +kernel) dX5_term_23) rfl ?_
  refine okL_cons (ok_if_eq rfl dX5_term_26) rfl ?_
  refine okL_cons (ok_iconst rfl dX5_term_29) rfl ?_
  refine okL_cons (ok_goto rfl dX5_term_30) rfl ?_
  refine okL_cons (ok_aload_n rfl dX5_term_33) rfl ?_
  refine okL_cons (ok_sipush rfl dX5_term_34) rfl ?_
  refine okL_cons (ok_invV (M' := 37) kw_163 kw_164 kw_165 kw_149 kw_166 cf_X5 rfl (by decide +kernel) dX5_term_37) rfl ?_
  refine okL_cons (ok_if_eq rfl dX5_term_40) rfl ?_
  refine okL_cons (ok_iconst rfl dX5_term_43) rfl ?_
  refine okL_cons (ok_goto rfl dX5_term_44) rfl ?_
  refine okL_cons (ok_aload_n rfl dX5_term_47) rfl ?_
  refine okL_cons (ok_sipush rfl dX5_term_48) rfl ?_
  refine okL_cons (ok_invV (M' := 37) kw_163 kw_164 kw_165 kw_149 kw_166 cf_X5 rfl (by decide +kernel) dX5_term_51) rfl ?_
  refine okL_cons (ok_if_eq rfl dX5_term_54) rfl ?_
  refine okL_cons (ok_bipush rfl dX5_term_57) rfl ?_
  refine okL_cons (ok_goto rfl dX5_term_59) rfl ?_
  refine okL_cons (ok_iconst rfl dX5_term_62) rfl ?_
  refine okL_cons (ok_istore_n rfl dX5_term_63) rfl ?_
  refine okL_cons (ok_iload_n rfl dX5_term_64) rfl ?_
  refine okL_cons (ok_iconst rfl dX5_term_65) rfl ?_
  refine okL_cons (ok_icmp_ne rfl dX5_term_66) rfl ?_
  refine okL_cons (ok_iconst rfl dX5_term_69) rfl ?_
  refine okL_cons (ok_zreturn rfl dX5_term_70) rfl ?_
  refine okL_cons (ok_aload_n rfl dX5_term_71) rfl ?_
  refine okL_cons (ok_iload_n rfl dX5_term_72) rfl ?_
  refine okL_cons (ok_invV (M' := 51) kw_219 kw_220 kw_221 kw_149 kw_222 cf_X5 rfl (by decide +kernel) dX5_term_73) rfl ?_
  refine okL_cons (ok_if_ne rfl dX5_term_76) rfl ?_
  refine okL_cons (ok_iconst rfl dX5_term_79) rfl ?_
  refine okL_cons (ok_zreturn rfl dX5_term_80) rfl ?_
  refine okL_cons (ok_aload_n rfl dX5_term_81) rfl ?_
  refine okL_cons (ok_getP kw_129 cf_X5 rfl rfl (by decide) dX5_term_82) rfl ?_
  refine okL_cons (ok_iload_n rfl dX5_term_85) rfl ?_
  refine okL_cons (ok_iconst rfl dX5_term_86) rfl ?_
  refine okL_cons (ok_invV (M' := 95) kw_191 kw_192 kw_193 kw_59 kw_194 cf_X9 rfl (by decide +kernel) dX5_term_87) rfl ?_
  refine okL_cons (ok_iinc rfl dX5_term_90) rfl ?_
  refine okL_cons (ok_goto rfl dX5_term_93) rfl ?_
  refine okL_cons (ok_iconst rfl dX5_term_96) rfl ?_
  exact okL_one (ok_zreturn rfl dX5_term_97)
theorem dX5_part_0 : decode cX5_part 0 = .ok (.aload_n 0, 1) := by decide +kernel
theorem dX5_part_1 : decode cX5_part 1 = .ok (.invokevirtual 54, 3) := by decide +kernel
theorem dX5_part_4 : decode cX5_part 4 = .ok (.sipush 2091, 3) := by decide +kernel
theorem dX5_part_7 : decode cX5_part 7 = .ok (.if_icmp .ne 41, 3) := by decide +kernel
theorem dX5_part_10 : decode cX5_part 10 = .ok (.iload_n 1, 1) := by decide +kernel
theorem dX5_part_11 : decode cX5_part 11 = .ok (.bipush 8, 2) := by decide +kernel
theorem dX5_part_13 : decode cX5_part 13 = .ok (.if_icmp .lt 5, 3) := by decide +kernel
theorem dX5_part_16 : decode cX5_part 16 = .ok (.iconst 0, 1) := by decide +kernel
theorem dX5_part_17 : decode cX5_part 17 = .ok (.ireturn, 1) := by decide +kernel
theorem dX5_part_18 : decode cX5_part 18 = .ok (.aload_n 0, 1) := by decide +kernel
theorem dX5_part_19 : decode cX5_part 19 = .ok (.invokevirtual 99, 3) := by decide +kernel
theorem dX5_part_22 : decode cX5_part 22 = .ok (.aload_n 0, 1) := by decide +kernel
theorem dX5_part_23 : decode cX5_part 23 = .ok (.iload_n 1, 1) := by decide +kernel
theorem dX5_part_24 : decode cX5_part 24 = .ok (.iconst 1, 1) := by decide +kernel
theorem dX5_part_25 : decode cX5_part 25 = .ok (.iadd, 1) := by decide +kernel
theorem dX5_part_26 : decode cX5_part 26 = .ok (.invokevirtual 79, 3) := by decide +kernel
theorem dX5_part_29 : decode cX5_part 29 = .ok (.ifCond .eq 17, 3) := by decide +kernel
theorem dX5_part_32 : decode cX5_part 32 = .ok (.aload_n 0, 1) := by decide +kernel
theorem dX5_part_33 : decode cX5_part 33 = .ok (.sipush 2093, 3) := by decide +kernel
theorem dX5_part_36 : decode cX5_part 36 = .ok (.invokevirtual 58, 3) := by decide +kernel
theorem dX5_part_39 : decode cX5_part 39 = .ok (.ifCond .eq 7, 3) := by decide +kernel
theorem dX5_part_42 : decode cX5_part 42 = .ok (.iconst 1, 1) := by decide +kernel
theorem dX5_part_43 : decode cX5_part 43 = .ok (.goto 4, 3) := by decide +kernel
theorem dX5_part_46 : decode cX5_part 46 = .ok (.iconst 0, 1) := by decide +kernel
theorem dX5_part_47 : decode cX5_part 47 = .ok (.ireturn, 1) := by decide +kernel
theorem dX5_part_48 : decode cX5_part 48 = .ok (.aload_n 0, 1) := by decide +kernel
theorem dX5_part_49 : decode cX5_part 49 = .ok (.getfield 28, 3) := by decide +kernel
theorem dX5_part_52 : decode cX5_part 52 = .ok (.bipush 50, 2) := by decide +kernel
theorem dX5_part_54 : decode cX5_part 54 = .ok (.if_icmp .lt 5, 3) := by decide +kernel
theorem dX5_part_57 : decode cX5_part 57 = .ok (.iconst 0, 1) := by decide +kernel
theorem dX5_part_58 : decode cX5_part 58 = .ok (.ireturn, 1) := by decide +kernel
theorem dX5_part_59 : decode cX5_part 59 = .ok (.aload_n 0, 1) := by decide +kernel
theorem dX5_part_60 : decode cX5_part 60 = .ok (.dup, 1) := by decide +kernel
theorem dX5_part_61 : decode cX5_part 61 = .ok (.getfield 28, 3) := by decide +kernel
theorem dX5_part_64 : decode cX5_part 64 = .ok (.iconst 1, 1) := by decide +kernel
theorem dX5_part_65 : decode cX5_part 65 = .ok (.iadd, 1) := by decide +kernel
theorem dX5_part_66 : decode cX5_part 66 = .ok (.putfield 28, 3) := by decide +kernel
theorem dX5_part_69 : decode cX5_part 69 = .ok (.aload_n 0, 1) := by decide +kernel
theorem dX5_part_70 : decode cX5_part 70 = .ok (.invokevirtual 54, 3) := by decide +kernel
theorem dX5_part_73 : decode cX5_part 73 = .ok (.sipush 1000, 3) := by decide +kernel
theorem dX5_part_76 : decode cX5_part 76 = .ok (.if_icmp .gt 13, 3) := by decide +kernel
theorem dX5_part_79 : decode cX5_part 79 = .ok (.aload_n 0, 1) := by decide +kernel
theorem dX5_part_80 : decode cX5_part 80 = .ok (.iconst 0, 1) := by decide +kernel
theorem dX5_part_81 : decode cX5_part 81 = .ok (.aload_n 0, 1) := by decide +kernel
theorem dX5_part_82 : decode cX5_part 82 = .ok (.invokevirtual 54, 3) := by decide +kernel
theorem dX5_part_85 : decode cX5_part 85 = .ok (.invokevirtual 133, 3) := by decide +kernel
theorem dX5_part_88 : decode cX5_part 88 = .ok (.ireturn, 1) := by decide +kernel
theorem dX5_part_89 : decode cX5_part 89 = .ok (.aload_n 0, 1) := by decide +kernel
theorem dX5_part_90 : decode cX5_part 90 = .ok (.getfield 24, 3) := by decide +kernel
theorem dX5_part_93 : decode cX5_part 93 = .ok (.ifCond .ne 13, 3) := by decide +kernel
theorem dX5_part_96 : decode cX5_part 96 = .ok (.aload_n 0, 1) := by decide +kernel
theorem dX5_part_97 : decode cX5_part 97 = .ok (.iconst 1, 1) := by decide +kernel
theorem dX5_part_98 : decode cX5_part 98 = .ok (.aload_n 0, 1) := by decide +kernel
theorem dX5_part_99 : decode cX5_part 99 = .ok (.invokevirtual 137, 3) := by decide +kernel
theorem dX5_part_102 : decode cX5_part 102 = .ok (.invokevirtual 133, 3) := by decide +kernel
theorem dX5_part_105 : decode cX5_part 105 = .ok (.ireturn, 1) := by decide +kernel
theorem dX5_part_106 : decode cX5_part 106 = .ok (.aload_n 0, 1) := by decide +kernel
theorem dX5_part_107 : decode cX5_part 107 = .ok (.sipush 3008, 3) := by decide +kernel
theorem dX5_part_110 : decode cX5_part 110 = .ok (.invokevirtual 58, 3) := by decide +kernel
theorem dX5_part_113 : decode cX5_part 113 = .ok (.ifCond .eq 16, 3) := by decide +kernel
theorem dX5_part_116 : decode cX5_part 116 = .ok (.aload_n 0, 1) := by decide +kernel
theorem dX5_part_117 : decode cX5_part 117 = .ok (.iconst 1, 1) := by decide +kernel
theorem dX5_part_118 : decode cX5_part 118 = .ok (.aload_n 0, 1) := by decide +kernel
theorem dX5_part_119 : decode cX5_part 119 = .ok (.iconst 5, 1) := by decide +kernel
theorem dX5_part_120 : decode cX5_part 120 = .ok (.bipush 8, 2) := by decide +kernel
theorem dX5_part_122 : decode cX5_part 122 = .ok (.invokevirtual 140, 3) := by decide +kernel
theorem dX5_part_125 : decode cX5_part 125 = .ok (.invokevirtual 133, 3) := by decide +kernel
theorem dX5_part_128 : decode cX5_part 128 = .ok (.ireturn, 1) := by decide +kernel
theorem dX5_part_129 : decode cX5_part 129 = .ok (.aload_n 0, 1) := by decide +kernel
theorem dX5_part_130 : decode cX5_part 130 = .ok (.sipush 3017, 3) := by decide +kernel
theorem dX5_part_133 : decode cX5_part 133 = .ok (.invokevirtual 58, 3) := by decide +kernel
theorem dX5_part_136 : decode cX5_part 136 = .ok (.ifCond .eq 17, 3) := by decide +kernel
theorem dX5_part_139 : decode cX5_part 139 = .ok (.aload_n 0, 1) := by decide +kernel
theorem dX5_part_140 : decode cX5_part 140 = .ok (.iconst 1, 1) := by decide +kernel
theorem dX5_part_141 : decode cX5_part 141 = .ok (.aload_n 0, 1) := by decide +kernel
theorem dX5_part_142 : decode cX5_part 142 = .ok (.bipush 13, 2) := by decide +kernel
theorem dX5_part_144 : decode cX5_part 144 = .ok (.bipush 25, 2) := by decide +kernel
theorem dX5_part_146 : decode cX5_part 146 = .ok (.invokevirtual 140, 3) := by decide +kernel
theorem dX5_part_149 : decode cX5_part 149 = .ok (.invokevirtual 133, 3) := by decide +kernel
theorem dX5_part_152 : decode cX5_part 152 = .ok (.ireturn, 1) := by decide +kernel
theorem dX5_part_153 : decode cX5_part 153 = .ok (.aload_n 0, 1) := by decide +kernel
theorem dX5_part_154 : decode cX5_part 154 = .ok (.iconst 1, 1) := by decide +kernel
theorem dX5_part_155 : decode cX5_part 155 = .ok (.aload_n 0, 1) := by decide +kernel
theorem dX5_part_156 : decode cX5_part 156 = .ok (.invokevirtual 144, 3) := by decide +kernel
theorem dX5_part_159 : decode cX5_part 159 = .ok (.invokevirtual 133, 3) := by decide +kernel
theorem dX5_part_162 : decode cX5_part 162 = .ok (.ireturn, 1) := by decide +kernel
set_option maxRecDepth 100000 in
theorem okm_X5_part : okL RX5 cX5_part 2 (some .boolean) "part" pcX5_part opX5_part pcX5_part := by
  unfold opX5_part
  refine okL_cons (ok_aload_n rfl dX5_part_0) rfl ?_
  refine okL_cons (ok_invV (M' := 35) kw_159 kw_160 kw_161 kw_149 kw_162 cf_X5 rfl (by decide +kernel) dX5_part_1) rfl ?_
  refine okL_cons (ok_sipush rfl dX5_part_4) rfl ?_
  refine okL_cons (ok_icmp_ne rfl dX5_part_7) rfl ?_
  refine okL_cons (ok_iload_n rfl dX5_part_10) rfl ?_
  refine okL_cons (ok_bipush rfl dX5_part_11) rfl ?_
  refine okL_cons (ok_icmp_lt rfl dX5_part_13) rfl ?_
  refine okL_cons (ok_iconst rfl dX5_part_16) rfl ?_
  refine okL_cons (ok_zreturn rfl dX5_part_17) rfl ?_
  refine okL_cons (ok_aload_n rfl dX5_part_18) rfl ?_
  refine okL_cons (ok_invV (M' := 36) kw_183 kw_184 kw_185 kw_149 kw_186 cf_X5 rfl (by decide +kernel) dX5_part_19) rfl ?_
  refine okL_cons (ok_aload_n rfl dX5_part_22) rfl ?_
  refine okL_cons (ok_iload_n rfl dX5_part_23) rfl ?_
  refine okL_cons (ok_iconst rfl dX5_part_24) rfl ?_
  refine okL_cons (ok_iadd dX5_part_25) rfl ?_
  refine okL_cons (ok_invV (M' := 49) kw_167 kw_168 kw_169 kw_149 kw_170 cf_X5 rfl (by decide +kernel) dX5_part_26) rfl ?_
  refine okL_cons (ok_if_eq rfl dX5_part_29) rfl ?_
  refine okL_cons (ok_aload_n rfl dX5_part_32) rfl ?_
  refine okL_cons (ok_sipush rfl dX5_part_33) rfl ?_
  refine okL_cons (ok_invV (M' := 37) kw_163 kw_164 kw_165 kw_149 kw_166 cf_X5 rfl (by decide +kernel) dX5_part_36) rfl ?_
  refine okL_cons (ok_if_eq rfl dX5_part_39) rfl ?_
  refine okL_cons (ok_iconst rfl dX5_part_42) rfl ?_
  refine okL_cons (ok_goto rfl dX5_part_43) rfl ?_
  refine okL_cons (ok_iconst rfl dX5_part_46) rfl ?_
  refine okL_cons (ok_zreturn rfl dX5_part_47) rfl ?_
  refine okL_cons (ok_aload_n rfl dX5_part_48) rfl ?_
  refine okL_cons (ok_getI kw_135 cf_X5 rfl rfl (by decide) dX5_part_49) rfl ?_
  refine okL_cons (ok_bipush rfl dX5_part_52) rfl ?_
  refine okL_cons (ok_icmp_lt rfl dX5_part_54) rfl ?_
  refine okL_cons (ok_iconst rfl dX5_part_57) rfl ?_
  refine okL_cons (ok_zreturn rfl dX5_part_58) rfl ?_
  refine okL_cons (ok_aload_n rfl dX5_part_59) rfl ?_
  refine okL_cons (ok_dup dX5_part_60) rfl ?_
  refine okL_cons (ok_getI kw_135 cf_X5 rfl rfl (by decide) dX5_part_61) rfl ?_
  refine okL_cons (ok_iconst rfl dX5_part_64) rfl ?_
  refine okL_cons (ok_iadd dX5_part_65) rfl ?_
  refine okL_cons (ok_putI kw_135 cf_X5 rfl rfl (by decide) rfl dX5_part_66) rfl ?_
  refine okL_cons (ok_aload_n rfl dX5_part_69) rfl ?_
  refine okL_cons (ok_invV (M' := 35) kw_159 kw_160 kw_161 kw_149 kw_162 cf_X5 rfl (by decide +kernel) dX5_part_70) rfl ?_
  refine okL_cons (ok_sipush rfl dX5_part_73) rfl ?_
  refine okL_cons (ok_icmp_gt rfl dX5_part_76) rfl ?_
  refine okL_cons (ok_aload_n rfl dX5_part_79) rfl ?_
  refine okL_cons (ok_iconst rfl dX5_part_80) rfl ?_
  refine okL_cons (ok_aload_n rfl dX5_part_81) rfl ?_
  refine okL_cons (ok_invV (M' := 35) kw_159 kw_160 kw_161 kw_149 kw_162 cf_X5 rfl (by decide +kernel) dX5_part_82) rfl ?_
  refine okL_cons (ok_invV (M' := 52) kw_223 kw_224 kw_225 kw_149 kw_226 cf_X5 rfl (by decide +kernel) dX5_part_85) rfl ?_
  refine okL_cons (ok_zreturn rfl dX5_part_88) rfl ?_
  refine okL_cons (ok_aload_n rfl dX5_part_89) rfl ?_
  refine okL_cons (ok_getI kw_134 cf_X5 rfl rfl (by decide) dX5_part_90) rfl ?_
  refine okL_cons (ok_if_ne rfl dX5_part_93) rfl ?_
  refine okL_cons (ok_aload_n rfl dX5_part_96) rfl ?_
  refine okL_cons (ok_iconst rfl dX5_part_97) rfl ?_
  refine okL_cons (ok_aload_n rfl dX5_part_98) rfl ?_
  refine okL_cons (ok_invV (M' := 54) kw_227 kw_228 kw_229 kw_149 kw_230 cf_X5 rfl (by decide +kernel) dX5_part_99) rfl ?_
  refine okL_cons (ok_invV (M' := 52) kw_223 kw_224 kw_225 kw_149 kw_226 cf_X5 rfl (by decide +kernel) dX5_part_102) rfl ?_
  refine okL_cons (ok_zreturn rfl dX5_part_105) rfl ?_
  refine okL_cons (ok_aload_n rfl dX5_part_106) rfl ?_
  refine okL_cons (ok_sipush rfl dX5_part_107) rfl ?_
  refine okL_cons (ok_invV (M' := 37) kw_163 kw_164 kw_165 kw_149 kw_166 cf_X5 rfl (by decide +kernel) dX5_part_110) rfl ?_
  refine okL_cons (ok_if_eq rfl dX5_part_113) rfl ?_
  refine okL_cons (ok_aload_n rfl dX5_part_116) rfl ?_
  refine okL_cons (ok_iconst rfl dX5_part_117) rfl ?_
  refine okL_cons (ok_aload_n rfl dX5_part_118) rfl ?_
  refine okL_cons (ok_iconst rfl dX5_part_119) rfl ?_
  refine okL_cons (ok_bipush rfl dX5_part_120) rfl ?_
  refine okL_cons (ok_invV (M' := 53) kw_231 kw_232 kw_233 kw_149 kw_234 cf_X5 rfl (by decide +kernel) dX5_part_122) rfl ?_
  refine okL_cons (ok_invV (M' := 52) kw_223 kw_224 kw_225 kw_149 kw_226 cf_X5 rfl (by decide +kernel) dX5_part_125) rfl ?_
  refine okL_cons (ok_zreturn rfl dX5_part_128) rfl ?_
  refine okL_cons (ok_aload_n rfl dX5_part_129) rfl ?_
  refine okL_cons (ok_sipush rfl dX5_part_130) rfl ?_
  refine okL_cons (ok_invV (M' := 37) kw_163 kw_164 kw_165 kw_149 kw_166 cf_X5 rfl (by decide +kernel) dX5_part_133) rfl ?_
  refine okL_cons (ok_if_eq rfl dX5_part_136) rfl ?_
  refine okL_cons (ok_aload_n rfl dX5_part_139) rfl ?_
  refine okL_cons (ok_iconst rfl dX5_part_140) rfl ?_
  refine okL_cons (ok_aload_n rfl dX5_part_141) rfl ?_
  refine okL_cons (ok_bipush rfl dX5_part_142) rfl ?_
  refine okL_cons (ok_bipush rfl dX5_part_144) rfl ?_
  refine okL_cons (ok_invV (M' := 53) kw_231 kw_232 kw_233 kw_149 kw_234 cf_X5 rfl (by decide +kernel) dX5_part_146) rfl ?_
  refine okL_cons (ok_invV (M' := 52) kw_223 kw_224 kw_225 kw_149 kw_226 cf_X5 rfl (by decide +kernel) dX5_part_149) rfl ?_
  refine okL_cons (ok_zreturn rfl dX5_part_152) rfl ?_
  refine okL_cons (ok_aload_n rfl dX5_part_153) rfl ?_
  refine okL_cons (ok_iconst rfl dX5_part_154) rfl ?_
  refine okL_cons (ok_aload_n rfl dX5_part_155) rfl ?_
  refine okL_cons (ok_invV (M' := 55) kw_235 kw_236 kw_237 kw_149 kw_238 cf_X5 rfl (by decide +kernel) dX5_part_156) rfl ?_
  refine okL_cons (ok_invV (M' := 52) kw_223 kw_224 kw_225 kw_149 kw_226 cf_X5 rfl (by decide +kernel) dX5_part_159) rfl ?_
  exact okL_one (ok_zreturn rfl dX5_part_162)
theorem dX5_write_0 : decode cX5_write 0 = .ok (.iload_n 2, 1) := by decide +kernel
theorem dX5_write_1 : decode cX5_write 1 = .ok (.iconst (-1), 1) := by decide +kernel
theorem dX5_write_2 : decode cX5_write 2 = .ok (.if_icmp .ne 5, 3) := by decide +kernel
theorem dX5_write_5 : decode cX5_write 5 = .ok (.iconst 0, 1) := by decide +kernel
theorem dX5_write_6 : decode cX5_write 6 = .ok (.ireturn, 1) := by decide +kernel
theorem dX5_write_7 : decode cX5_write 7 = .ok (.aload_n 0, 1) := by decide +kernel
theorem dX5_write_8 : decode cX5_write 8 = .ok (.getfield 15, 3) := by decide +kernel
theorem dX5_write_11 : decode cX5_write 11 = .ok (.iload_n 1, 1) := by decide +kernel
theorem dX5_write_12 : decode cX5_write 12 = .ok (.iload_n 2, 1) := by decide +kernel
theorem dX5_write_13 : decode cX5_write 13 = .ok (.invokevirtual 107, 3) := by decide +kernel
theorem dX5_write_16 : decode cX5_write 16 = .ok (.aload_n 0, 1) := by decide +kernel
theorem dX5_write_17 : decode cX5_write 17 = .ok (.invokevirtual 99, 3) := by decide +kernel
theorem dX5_write_20 : decode cX5_write 20 = .ok (.iconst 1, 1) := by decide +kernel
theorem dX5_write_21 : decode cX5_write 21 = .ok (.ireturn, 1) := by decide +kernel
set_option maxRecDepth 100000 in
theorem okm_X5_write : okL RX5 cX5_write 3 (some .boolean) "write" pcX5_write opX5_write pcX5_write := by
  unfold opX5_write
  refine okL_cons (ok_iload_n rfl dX5_write_0) rfl ?_
  refine okL_cons (ok_iconst rfl dX5_write_1) rfl ?_
  refine okL_cons (ok_icmp_ne rfl dX5_write_2) rfl ?_
  refine okL_cons (ok_iconst rfl dX5_write_5) rfl ?_
  refine okL_cons (ok_zreturn rfl dX5_write_6) rfl ?_
  refine okL_cons (ok_aload_n rfl dX5_write_7) rfl ?_
  refine okL_cons (ok_getP kw_129 cf_X5 rfl rfl (by decide) dX5_write_8) rfl ?_
  refine okL_cons (ok_iload_n rfl dX5_write_11) rfl ?_
  refine okL_cons (ok_iload_n rfl dX5_write_12) rfl ?_
  refine okL_cons (ok_invV (M' := 95) kw_191 kw_192 kw_193 kw_59 kw_194 cf_X9 rfl (by decide +kernel) dX5_write_13) rfl ?_
  refine okL_cons (ok_aload_n rfl dX5_write_16) rfl ?_
  refine okL_cons (ok_invV (M' := 36) kw_183 kw_184 kw_185 kw_149 kw_186 cf_X5 rfl (by decide +kernel) dX5_write_17) rfl ?_
  refine okL_cons (ok_iconst rfl dX5_write_20) rfl ?_
  exact okL_one (ok_zreturn rfl dX5_write_21)
theorem dX5_factOf_0 : decode cX5_factOf 0 = .ok (.aload_n 0, 1) := by decide +kernel
theorem dX5_factOf_1 : decode cX5_factOf 1 = .ok (.invokevirtual 54, 3) := by decide +kernel
theorem dX5_factOf_4 : decode cX5_factOf 4 = .ok (.iload_n 2, 1) := by decide +kernel
theorem dX5_factOf_5 : decode cX5_factOf 5 = .ok (.if_icmp .ge 12, 3) := by decide +kernel
theorem dX5_factOf_8 : decode cX5_factOf 8 = .ok (.iload_n 1, 1) := by decide +kernel
theorem dX5_factOf_9 : decode cX5_factOf 9 = .ok (.aload_n 0, 1) := by decide +kernel
theorem dX5_factOf_10 : decode cX5_factOf 10 = .ok (.invokevirtual 54, 3) := by decide +kernel
theorem dX5_factOf_13 : decode cX5_factOf 13 = .ok (.iadd, 1) := by decide +kernel
theorem dX5_factOf_14 : decode cX5_factOf 14 = .ok (.goto 4, 3) := by decide +kernel
theorem dX5_factOf_17 : decode cX5_factOf 17 = .ok (.iconst (-1), 1) := by decide +kernel
theorem dX5_factOf_18 : decode cX5_factOf 18 = .ok (.ireturn, 1) := by decide +kernel
set_option maxRecDepth 100000 in
theorem okm_X5_factOf : okL RX5 cX5_factOf 3 (some .int) "factOf" pcX5_factOf opX5_factOf pcX5_factOf := by
  unfold opX5_factOf
  refine okL_cons (ok_aload_n rfl dX5_factOf_0) rfl ?_
  refine okL_cons (ok_invV (M' := 35) kw_159 kw_160 kw_161 kw_149 kw_162 cf_X5 rfl (by decide +kernel) dX5_factOf_1) rfl ?_
  refine okL_cons (ok_iload_n rfl dX5_factOf_4) rfl ?_
  refine okL_cons (ok_icmp_ge rfl dX5_factOf_5) rfl ?_
  refine okL_cons (ok_iload_n rfl dX5_factOf_8) rfl ?_
  refine okL_cons (ok_aload_n rfl dX5_factOf_9) rfl ?_
  refine okL_cons (ok_invV (M' := 35) kw_159 kw_160 kw_161 kw_149 kw_162 cf_X5 rfl (by decide +kernel) dX5_factOf_10) rfl ?_
  refine okL_cons (ok_iadd dX5_factOf_13) rfl ?_
  refine okL_cons (ok_goto rfl dX5_factOf_14) rfl ?_
  refine okL_cons (ok_iconst rfl dX5_factOf_17) rfl ?_
  exact okL_one (ok_ireturn rfl dX5_factOf_18)
theorem dX5_lawFact_0 : decode cX5_lawFact 0 = .ok (.aload_n 0, 1) := by decide +kernel
theorem dX5_lawFact_1 : decode cX5_lawFact 1 = .ok (.invokevirtual 54, 3) := by decide +kernel
theorem dX5_lawFact_4 : decode cX5_lawFact 4 = .ok (.tableswitch 59 3015 3021 #[44, 46, 48, 50, 52, 54, 56], 44) := by decide +kernel
theorem dX5_lawFact_48 : decode cX5_lawFact 48 = .ok (.iconst 0, 1) := by decide +kernel
theorem dX5_lawFact_49 : decode cX5_lawFact 49 = .ok (.ireturn, 1) := by decide +kernel
theorem dX5_lawFact_50 : decode cX5_lawFact 50 = .ok (.iconst 1, 1) := by decide +kernel
theorem dX5_lawFact_51 : decode cX5_lawFact 51 = .ok (.ireturn, 1) := by decide +kernel
theorem dX5_lawFact_52 : decode cX5_lawFact 52 = .ok (.iconst 2, 1) := by decide +kernel
theorem dX5_lawFact_53 : decode cX5_lawFact 53 = .ok (.ireturn, 1) := by decide +kernel
theorem dX5_lawFact_54 : decode cX5_lawFact 54 = .ok (.iconst 3, 1) := by decide +kernel
theorem dX5_lawFact_55 : decode cX5_lawFact 55 = .ok (.ireturn, 1) := by decide +kernel
theorem dX5_lawFact_56 : decode cX5_lawFact 56 = .ok (.iconst 4, 1) := by decide +kernel
theorem dX5_lawFact_57 : decode cX5_lawFact 57 = .ok (.ireturn, 1) := by decide +kernel
theorem dX5_lawFact_58 : decode cX5_lawFact 58 = .ok (.iconst 5, 1) := by decide +kernel
theorem dX5_lawFact_59 : decode cX5_lawFact 59 = .ok (.ireturn, 1) := by decide +kernel
theorem dX5_lawFact_60 : decode cX5_lawFact 60 = .ok (.bipush 6, 2) := by decide +kernel
theorem dX5_lawFact_62 : decode cX5_lawFact 62 = .ok (.ireturn, 1) := by decide +kernel
theorem dX5_lawFact_63 : decode cX5_lawFact 63 = .ok (.iconst (-1), 1) := by decide +kernel
theorem dX5_lawFact_64 : decode cX5_lawFact 64 = .ok (.ireturn, 1) := by decide +kernel
set_option maxRecDepth 100000 in
theorem okm_X5_lawFact : okL RX5 cX5_lawFact 1 (some .int) "lawFact" pcX5_lawFact opX5_lawFact pcX5_lawFact := by
  unfold opX5_lawFact
  refine okL_cons (ok_aload_n rfl dX5_lawFact_0) rfl ?_
  refine okL_cons (ok_invV (M' := 35) kw_159 kw_160 kw_161 kw_149 kw_162 cf_X5 rfl (by decide +kernel) dX5_lawFact_1) rfl ?_
  refine okL_cons (ok_sw rfl rfl (sw_all rfl) dX5_lawFact_4) rfl ?_
  refine okL_cons (ok_iconst rfl dX5_lawFact_48) rfl ?_
  refine okL_cons (ok_ireturn rfl dX5_lawFact_49) rfl ?_
  refine okL_cons (ok_iconst rfl dX5_lawFact_50) rfl ?_
  refine okL_cons (ok_ireturn rfl dX5_lawFact_51) rfl ?_
  refine okL_cons (ok_iconst rfl dX5_lawFact_52) rfl ?_
  refine okL_cons (ok_ireturn rfl dX5_lawFact_53) rfl ?_
  refine okL_cons (ok_iconst rfl dX5_lawFact_54) rfl ?_
  refine okL_cons (ok_ireturn rfl dX5_lawFact_55) rfl ?_
  refine okL_cons (ok_iconst rfl dX5_lawFact_56) rfl ?_
  refine okL_cons (ok_ireturn rfl dX5_lawFact_57) rfl ?_
  refine okL_cons (ok_iconst rfl dX5_lawFact_58) rfl ?_
  refine okL_cons (ok_ireturn rfl dX5_lawFact_59) rfl ?_
  refine okL_cons (ok_bipush rfl dX5_lawFact_60) rfl ?_
  refine okL_cons (ok_ireturn rfl dX5_lawFact_62) rfl ?_
  refine okL_cons (ok_iconst rfl dX5_lawFact_63) rfl ?_
  exact okL_one (ok_ireturn rfl dX5_lawFact_64)
theorem dX5_orderFact_0 : decode cX5_orderFact 0 = .ok (.aload_n 0, 1) := by decide +kernel
theorem dX5_orderFact_1 : decode cX5_orderFact 1 = .ok (.invokevirtual 54, 3) := by decide +kernel
theorem dX5_orderFact_4 : decode cX5_orderFact 4 = .ok (.tableswitch 54 3019 3025 #[44, 54, 54, 46, 48, 50, 52], 44) := by decide +kernel
theorem dX5_orderFact_48 : decode cX5_orderFact 48 = .ok (.iconst 0, 1) := by decide +kernel
theorem dX5_orderFact_49 : decode cX5_orderFact 49 = .ok (.ireturn, 1) := by decide +kernel
theorem dX5_orderFact_50 : decode cX5_orderFact 50 = .ok (.iconst 1, 1) := by decide +kernel
theorem dX5_orderFact_51 : decode cX5_orderFact 51 = .ok (.ireturn, 1) := by decide +kernel
theorem dX5_orderFact_52 : decode cX5_orderFact 52 = .ok (.iconst 2, 1) := by decide +kernel
theorem dX5_orderFact_53 : decode cX5_orderFact 53 = .ok (.ireturn, 1) := by decide +kernel
theorem dX5_orderFact_54 : decode cX5_orderFact 54 = .ok (.iconst 3, 1) := by decide +kernel
theorem dX5_orderFact_55 : decode cX5_orderFact 55 = .ok (.ireturn, 1) := by decide +kernel
theorem dX5_orderFact_56 : decode cX5_orderFact 56 = .ok (.iconst 4, 1) := by decide +kernel
theorem dX5_orderFact_57 : decode cX5_orderFact 57 = .ok (.ireturn, 1) := by decide +kernel
theorem dX5_orderFact_58 : decode cX5_orderFact 58 = .ok (.iconst (-1), 1) := by decide +kernel
theorem dX5_orderFact_59 : decode cX5_orderFact 59 = .ok (.ireturn, 1) := by decide +kernel
set_option maxRecDepth 100000 in
theorem okm_X5_orderFact : okL RX5 cX5_orderFact 1 (some .int) "orderFact" pcX5_orderFact opX5_orderFact pcX5_orderFact := by
  unfold opX5_orderFact
  refine okL_cons (ok_aload_n rfl dX5_orderFact_0) rfl ?_
  refine okL_cons (ok_invV (M' := 35) kw_159 kw_160 kw_161 kw_149 kw_162 cf_X5 rfl (by decide +kernel) dX5_orderFact_1) rfl ?_
  refine okL_cons (ok_sw rfl rfl (sw_all rfl) dX5_orderFact_4) rfl ?_
  refine okL_cons (ok_iconst rfl dX5_orderFact_48) rfl ?_
  refine okL_cons (ok_ireturn rfl dX5_orderFact_49) rfl ?_
  refine okL_cons (ok_iconst rfl dX5_orderFact_50) rfl ?_
  refine okL_cons (ok_ireturn rfl dX5_orderFact_51) rfl ?_
  refine okL_cons (ok_iconst rfl dX5_orderFact_52) rfl ?_
  refine okL_cons (ok_ireturn rfl dX5_orderFact_53) rfl ?_
  refine okL_cons (ok_iconst rfl dX5_orderFact_54) rfl ?_
  refine okL_cons (ok_ireturn rfl dX5_orderFact_55) rfl ?_
  refine okL_cons (ok_iconst rfl dX5_orderFact_56) rfl ?_
  refine okL_cons (ok_ireturn rfl dX5_orderFact_57) rfl ?_
  refine okL_cons (ok_iconst rfl dX5_orderFact_58) rfl ?_
  exact okL_one (ok_ireturn rfl dX5_orderFact_59)
theorem dX6_init_0 : decode cX6_init 0 = .ok (.aload_n 0, 1) := by decide +kernel
theorem dX6_init_1 : decode cX6_init 1 = .ok (.invokespecial 3, 3) := by decide +kernel
theorem dX6_init_4 : decode cX6_init 4 = .ok (.aload_n 0, 1) := by decide +kernel
theorem dX6_init_5 : decode cX6_init 5 = .ok (.bipush 7, 2) := by decide +kernel
theorem dX6_init_7 : decode cX6_init 7 = .ok (.newarray .int, 2) := by decide +kernel
theorem dX6_init_9 : decode cX6_init 9 = .ok (.putfield 9, 3) := by decide +kernel
theorem dX6_init_12 : decode cX6_init 12 = .ok (.aload_n 0, 1) := by decide +kernel
theorem dX6_init_13 : decode cX6_init 13 = .ok (.bipush 25, 2) := by decide +kernel
theorem dX6_init_15 : decode cX6_init 15 = .ok (.newarray .int, 2) := by decide +kernel
theorem dX6_init_17 : decode cX6_init 17 = .ok (.putfield 15, 3) := by decide +kernel
theorem dX6_init_20 : decode cX6_init 20 = .ok (.aload_n 0, 1) := by decide +kernel
theorem dX6_init_21 : decode cX6_init 21 = .ok (.bipush 8, 2) := by decide +kernel
theorem dX6_init_23 : decode cX6_init 23 = .ok (.newarray .int, 2) := by decide +kernel
theorem dX6_init_25 : decode cX6_init 25 = .ok (.putfield 18, 3) := by decide +kernel
theorem dX6_init_28 : decode cX6_init 28 = .ok (.aload_n 0, 1) := by decide +kernel
theorem dX6_init_29 : decode cX6_init 29 = .ok (.iconst (-1), 1) := by decide +kernel
theorem dX6_init_30 : decode cX6_init 30 = .ok (.putfield 21, 3) := by decide +kernel
theorem dX6_init_33 : decode cX6_init 33 = .ok (.aload_n 0, 1) := by decide +kernel
theorem dX6_init_34 : decode cX6_init 34 = .ok (.aload_n 1, 1) := by decide +kernel
theorem dX6_init_35 : decode cX6_init 35 = .ok (.putfield 25, 3) := by decide +kernel
theorem dX6_init_38 : decode cX6_init 38 = .ok (.aload_n 0, 1) := by decide +kernel
theorem dX6_init_39 : decode cX6_init 39 = .ok (.aload_n 2, 1) := by decide +kernel
theorem dX6_init_40 : decode cX6_init 40 = .ok (.putfield 29, 3) := by decide +kernel
theorem dX6_init_43 : decode cX6_init 43 = .ok (.aload_n 0, 1) := by decide +kernel
theorem dX6_init_44 : decode cX6_init 44 = .ok (.aload_n 2, 1) := by decide +kernel
theorem dX6_init_45 : decode cX6_init 45 = .ok (.getfield 33, 3) := by decide +kernel
theorem dX6_init_48 : decode cX6_init 48 = .ok (.putfield 39, 3) := by decide +kernel
theorem dX6_init_51 : decode cX6_init 51 = .ok (.return_, 1) := by decide +kernel
set_option maxRecDepth 100000 in
theorem okm_X6_init : okL RX6 cX6_init 3 none "<init>" pcX6_init opX6_init pcX6_init := by
  unfold opX6_init
  refine okL_cons (ok_aload_n rfl dX6_init_0) rfl ?_
  refine okL_cons (ok_obj kw_239 kw_29 kw_30 dX6_init_1) rfl ?_
  refine okL_cons (ok_aload_n rfl dX6_init_4) rfl ?_
  refine okL_cons (ok_bipush rfl dX6_init_5) rfl ?_
  refine okL_cons (ok_newarray_int kw_31 dX6_init_7) rfl ?_
  refine okL_cons (ok_putPF kw_240 cf_X6 rfl rfl (by decide) rfl rfl rfl dX6_init_9) rfl ?_
  refine okL_cons (ok_aload_n rfl dX6_init_12) rfl ?_
  refine okL_cons (ok_bipush rfl dX6_init_13) rfl ?_
  refine okL_cons (ok_newarray_int kw_31 dX6_init_15) rfl ?_
  refine okL_cons (ok_putPF kw_241 cf_X6 rfl rfl (by decide) rfl rfl rfl dX6_init_17) rfl ?_
  refine okL_cons (ok_aload_n rfl dX6_init_20) rfl ?_
  refine okL_cons (ok_bipush rfl dX6_init_21) rfl ?_
  refine okL_cons (ok_newarray_int kw_31 dX6_init_23) rfl ?_
  refine okL_cons (ok_putPF kw_242 cf_X6 rfl rfl (by decide) rfl rfl rfl dX6_init_25) rfl ?_
  refine okL_cons (ok_aload_n rfl dX6_init_28) rfl ?_
  refine okL_cons (ok_iconst rfl dX6_init_29) rfl ?_
  refine okL_cons (ok_putI kw_243 cf_X6 rfl rfl (by decide) rfl dX6_init_30) rfl ?_
  refine okL_cons (ok_aload_n rfl dX6_init_33) rfl ?_
  refine okL_cons (ok_aload_n rfl dX6_init_34) rfl ?_
  refine okL_cons (ok_putPF kw_244 cf_X6 rfl rfl (by decide) rfl rfl rfl dX6_init_35) rfl ?_
  refine okL_cons (ok_aload_n rfl dX6_init_38) rfl ?_
  refine okL_cons (ok_aload_n rfl dX6_init_39) rfl ?_
  refine okL_cons (ok_putPF kw_245 cf_X6 rfl rfl (by decide) rfl rfl rfl dX6_init_40) rfl ?_
  refine okL_cons (ok_aload_n rfl dX6_init_43) rfl ?_
  refine okL_cons (ok_aload_n rfl dX6_init_44) rfl ?_
  refine okL_cons (ok_getNP 29 cf_X1 rfl rfl rfl (by decide) dX6_init_45) rfl ?_
  refine okL_cons (ok_putP kw_246 cf_X6 rfl rfl (by decide) rfl dX6_init_48) rfl ?_
  exact okL_one (ok_return rfl dX6_init_51)
theorem dX6_face_0 : decode cX6_face 0 = .ok (.aload_n 0, 1) := by decide +kernel
theorem dX6_face_1 : decode cX6_face 1 = .ok (.aload_n 1, 1) := by decide +kernel
theorem dX6_face_2 : decode cX6_face 2 = .ok (.putfield 39, 3) := by decide +kernel
theorem dX6_face_5 : decode cX6_face 5 = .ok (.aload_n 0, 1) := by decide +kernel
theorem dX6_face_6 : decode cX6_face 6 = .ok (.iload_n 2, 1) := by decide +kernel
theorem dX6_face_7 : decode cX6_face 7 = .ok (.putfield 21, 3) := by decide +kernel
theorem dX6_face_10 : decode cX6_face 10 = .ok (.aload_n 0, 1) := by decide +kernel
theorem dX6_face_11 : decode cX6_face 11 = .ok (.iconst 0, 1) := by decide +kernel
theorem dX6_face_12 : decode cX6_face 12 = .ok (.putfield 40, 3) := by decide +kernel
theorem dX6_face_15 : decode cX6_face 15 = .ok (.aload_n 0, 1) := by decide +kernel
theorem dX6_face_16 : decode cX6_face 16 = .ok (.iconst 0, 1) := by decide +kernel
theorem dX6_face_17 : decode cX6_face 17 = .ok (.putfield 43, 3) := by decide +kernel
theorem dX6_face_20 : decode cX6_face 20 = .ok (.return_, 1) := by decide +kernel
set_option maxRecDepth 100000 in
theorem okm_X6_face : okL RX6 cX6_face 3 none "face" pcX6_face opX6_face pcX6_face := by
  unfold opX6_face
  refine okL_cons (ok_aload_n rfl dX6_face_0) rfl ?_
  refine okL_cons (ok_aload_n rfl dX6_face_1) rfl ?_
  refine okL_cons (ok_putP kw_246 cf_X6 rfl rfl (by decide) rfl dX6_face_2) rfl ?_
  refine okL_cons (ok_aload_n rfl dX6_face_5) rfl ?_
  refine okL_cons (ok_iload_n rfl dX6_face_6) rfl ?_
  refine okL_cons (ok_putI kw_243 cf_X6 rfl rfl (by decide) rfl dX6_face_7) rfl ?_
  refine okL_cons (ok_aload_n rfl dX6_face_10) rfl ?_
  refine okL_cons (ok_iconst rfl dX6_face_11) rfl ?_
  refine okL_cons (ok_putI kw_247 cf_X6 rfl rfl (by decide) rfl dX6_face_12) rfl ?_
  refine okL_cons (ok_aload_n rfl dX6_face_15) rfl ?_
  refine okL_cons (ok_iconst rfl dX6_face_16) rfl ?_
  refine okL_cons (ok_putI kw_248 cf_X6 rfl rfl (by decide) rfl dX6_face_17) rfl ?_
  exact okL_one (ok_return rfl dX6_face_20)
theorem dX6_standOf_0 : decode cX6_standOf 0 = .ok (.aload_n 0, 1) := by decide +kernel
theorem dX6_standOf_1 : decode cX6_standOf 1 = .ok (.iload_n 1, 1) := by decide +kernel
theorem dX6_standOf_2 : decode cX6_standOf 2 = .ok (.invokevirtual 46, 3) := by decide +kernel
theorem dX6_standOf_5 : decode cX6_standOf 5 = .ok (.aload_n 0, 1) := by decide +kernel
theorem dX6_standOf_6 : decode cX6_standOf 6 = .ok (.getfield 15, 3) := by decide +kernel
theorem dX6_standOf_9 : decode cX6_standOf 9 = .ok (.iload_n 1, 1) := by decide +kernel
theorem dX6_standOf_10 : decode cX6_standOf 10 = .ok (.iaload, 1) := by decide +kernel
theorem dX6_standOf_11 : decode cX6_standOf 11 = .ok (.ireturn, 1) := by decide +kernel
set_option maxRecDepth 100000 in
theorem okm_X6_standOf : okL RX6 cX6_standOf 2 (some .int) "standOf" pcX6_standOf opX6_standOf pcX6_standOf := by
  unfold opX6_standOf
  refine okL_cons (ok_aload_n rfl dX6_standOf_0) rfl ?_
  refine okL_cons (ok_iload_n rfl dX6_standOf_1) rfl ?_
  refine okL_cons (ok_invV (M' := 61) kw_249 kw_250 kw_251 kw_252 kw_253 cf_X6 rfl (by decide +kernel) dX6_standOf_2) rfl ?_
  refine okL_cons (ok_aload_n rfl dX6_standOf_5) rfl ?_
  refine okL_cons (ok_getP kw_241 cf_X6 rfl rfl (by decide) dX6_standOf_6) rfl ?_
  refine okL_cons (ok_iload_n rfl dX6_standOf_9) rfl ?_
  refine okL_cons (ok_iaload dX6_standOf_10) rfl ?_
  exact okL_one (ok_ireturn rfl dX6_standOf_11)
theorem dX6_holdsAt_0 : decode cX6_holdsAt 0 = .ok (.aload_n 0, 1) := by decide +kernel
theorem dX6_holdsAt_1 : decode cX6_holdsAt 1 = .ok (.iload_n 1, 1) := by decide +kernel
theorem dX6_holdsAt_2 : decode cX6_holdsAt 2 = .ok (.invokevirtual 46, 3) := by decide +kernel
theorem dX6_holdsAt_5 : decode cX6_holdsAt 5 = .ok (.iload_n 1, 1) := by decide +kernel
theorem dX6_holdsAt_6 : decode cX6_holdsAt 6 = .ok (.aload_n 0, 1) := by decide +kernel
theorem dX6_holdsAt_7 : decode cX6_holdsAt 7 = .ok (.getfield 50, 3) := by decide +kernel
theorem dX6_holdsAt_10 : decode cX6_holdsAt 10 = .ok (.invokestatic 53, 3) := by decide +kernel
theorem dX6_holdsAt_13 : decode cX6_holdsAt 13 = .ok (.ireturn, 1) := by decide +kernel
set_option maxRecDepth 100000 in
theorem okm_X6_holdsAt : okL RX6 cX6_holdsAt 2 (some .boolean) "holdsAt" pcX6_holdsAt opX6_holdsAt pcX6_holdsAt := by
  unfold opX6_holdsAt
  refine okL_cons (ok_aload_n rfl dX6_holdsAt_0) rfl ?_
  refine okL_cons (ok_iload_n rfl dX6_holdsAt_1) rfl ?_
  refine okL_cons (ok_invV (M' := 61) kw_249 kw_250 kw_251 kw_252 kw_253 cf_X6 rfl (by decide +kernel) dX6_holdsAt_2) rfl ?_
  refine okL_cons (ok_iload_n rfl dX6_holdsAt_5) rfl ?_
  refine okL_cons (ok_aload_n rfl dX6_holdsAt_6) rfl ?_
  refine okL_cons (ok_getI kw_254 cf_X6 rfl rfl (by decide) dX6_holdsAt_7) rfl ?_
  refine okL_cons (ok_invNS (M' := 162) 8 kw_78 kw_79 kw_80 rfl rfl (by decide +kernel) dX6_holdsAt_10) rfl ?_
  exact okL_one (ok_zreturn rfl dX6_holdsAt_13)
theorem dX6_next_0 : decode cX6_next 0 = .ok (.aload_n 0, 1) := by decide +kernel
theorem dX6_next_1 : decode cX6_next 1 = .ok (.iload_n 1, 1) := by decide +kernel
theorem dX6_next_2 : decode cX6_next 2 = .ok (.invokevirtual 46, 3) := by decide +kernel
theorem dX6_next_5 : decode cX6_next 5 = .ok (.aload_n 0, 1) := by decide +kernel
theorem dX6_next_6 : decode cX6_next 6 = .ok (.getfield 29, 3) := by decide +kernel
theorem dX6_next_9 : decode cX6_next 9 = .ok (.iload_n 1, 1) := by decide +kernel
theorem dX6_next_10 : decode cX6_next 10 = .ok (.invokevirtual 57, 3) := by decide +kernel
theorem dX6_next_13 : decode cX6_next 13 = .ok (.ifCond .ne 14, 3) := by decide +kernel
theorem dX6_next_16 : decode cX6_next 16 = .ok (.iload_n 1, 1) := by decide +kernel
theorem dX6_next_17 : decode cX6_next 17 = .ok (.aload_n 0, 1) := by decide +kernel
theorem dX6_next_18 : decode cX6_next 18 = .ok (.getfield 50, 3) := by decide +kernel
theorem dX6_next_21 : decode cX6_next 21 = .ok (.invokestatic 53, 3) := by decide +kernel
theorem dX6_next_24 : decode cX6_next 24 = .ok (.ifCond .eq 5, 3) := by decide +kernel
theorem dX6_next_27 : decode cX6_next 27 = .ok (.iload_n 1, 1) := by decide +kernel
theorem dX6_next_28 : decode cX6_next 28 = .ok (.ireturn, 1) := by decide +kernel
theorem dX6_next_29 : decode cX6_next 29 = .ok (.iload_n 1, 1) := by decide +kernel
theorem dX6_next_30 : decode cX6_next 30 = .ok (.istore_n 2, 1) := by decide +kernel
theorem dX6_next_31 : decode cX6_next 31 = .ok (.iconst 0, 1) := by decide +kernel
theorem dX6_next_32 : decode cX6_next 32 = .ok (.istore_n 3, 1) := by decide +kernel
theorem dX6_next_33 : decode cX6_next 33 = .ok (.iload_n 3, 1) := by decide +kernel
theorem dX6_next_34 : decode cX6_next 34 = .ok (.iconst 4, 1) := by decide +kernel
theorem dX6_next_35 : decode cX6_next 35 = .ok (.if_icmp .ge 47, 3) := by decide +kernel
theorem dX6_next_38 : decode cX6_next 38 = .ok (.iload_n 1, 1) := by decide +kernel
theorem dX6_next_39 : decode cX6_next 39 = .ok (.iload_n 3, 1) := by decide +kernel
theorem dX6_next_40 : decode cX6_next 40 = .ok (.invokestatic 61, 3) := by decide +kernel
theorem dX6_next_43 : decode cX6_next 43 = .ok (.istore 4, 2) := by decide +kernel
theorem dX6_next_45 : decode cX6_next 45 = .ok (.iload 4, 2) := by decide +kernel
theorem dX6_next_47 : decode cX6_next 47 = .ok (.iconst (-1), 1) := by decide +kernel
theorem dX6_next_48 : decode cX6_next 48 = .ok (.if_icmp .eq 28, 3) := by decide +kernel
theorem dX6_next_51 : decode cX6_next 51 = .ok (.aload_n 0, 1) := by decide +kernel
theorem dX6_next_52 : decode cX6_next 52 = .ok (.iload 4, 2) := by decide +kernel
theorem dX6_next_54 : decode cX6_next 54 = .ok (.invokevirtual 46, 3) := by decide +kernel
theorem dX6_next_57 : decode cX6_next 57 = .ok (.aload_n 0, 1) := by decide +kernel
theorem dX6_next_58 : decode cX6_next 58 = .ok (.getfield 15, 3) := by decide +kernel
theorem dX6_next_61 : decode cX6_next 61 = .ok (.iload 4, 2) := by decide +kernel
theorem dX6_next_63 : decode cX6_next 63 = .ok (.iaload, 1) := by decide +kernel
theorem dX6_next_64 : decode cX6_next 64 = .ok (.aload_n 0, 1) := by decide +kernel
theorem dX6_next_65 : decode cX6_next 65 = .ok (.getfield 15, 3) := by decide +kernel
theorem dX6_next_68 : decode cX6_next 68 = .ok (.iload_n 2, 1) := by decide +kernel
theorem dX6_next_69 : decode cX6_next 69 = .ok (.iaload, 1) := by decide +kernel
theorem dX6_next_70 : decode cX6_next 70 = .ok (.if_icmp .ge 6, 3) := by decide +kernel
theorem dX6_next_73 : decode cX6_next 73 = .ok (.iload 4, 2) := by decide +kernel
theorem dX6_next_75 : decode cX6_next 75 = .ok (.istore_n 2, 1) := by decide +kernel
theorem dX6_next_76 : decode cX6_next 76 = .ok (.iinc 3 1, 3) := by decide +kernel
theorem dX6_next_79 : decode cX6_next 79 = .ok (.goto (-46), 3) := by decide +kernel
theorem dX6_next_82 : decode cX6_next 82 = .ok (.iload_n 2, 1) := by decide +kernel
theorem dX6_next_83 : decode cX6_next 83 = .ok (.ireturn, 1) := by decide +kernel
set_option maxRecDepth 100000 in
theorem okm_X6_next : okL RX6 cX6_next 5 (some .int) "next" pcX6_next opX6_next pcX6_next := by
  unfold opX6_next
  refine okL_cons (ok_aload_n rfl dX6_next_0) rfl ?_
  refine okL_cons (ok_iload_n rfl dX6_next_1) rfl ?_
  refine okL_cons (ok_invV (M' := 61) kw_249 kw_250 kw_251 kw_252 kw_253 cf_X6 rfl (by decide +kernel) dX6_next_2) rfl ?_
  refine okL_cons (ok_aload_n rfl dX6_next_5) rfl ?_
  refine okL_cons (ok_getP kw_245 cf_X6 rfl rfl (by decide) dX6_next_6) rfl ?_
  refine okL_cons (ok_iload_n rfl dX6_next_9) rfl ?_
  refine okL_cons (ok_invV (M' := 14) kw_255 kw_256 kw_257 kw_258 kw_259 cf_X1 rfl (by decide +kernel) dX6_next_10) rfl ?_
  refine okL_cons (ok_if_ne rfl dX6_next_13) rfl ?_
  refine okL_cons (ok_iload_n rfl dX6_next_16) rfl ?_
  refine okL_cons (ok_aload_n rfl dX6_next_17) rfl ?_
  refine okL_cons (ok_getI kw_254 cf_X6 rfl rfl (by decide) dX6_next_18) rfl ?_
  refine okL_cons (ok_invNS (M' := 162) 8 kw_78 kw_79 kw_80 rfl rfl (by decide +kernel) dX6_next_21) rfl ?_
  refine okL_cons (ok_if_eq rfl dX6_next_24) rfl ?_
  refine okL_cons (ok_iload_n rfl dX6_next_27) rfl ?_
  refine okL_cons (ok_ireturn rfl dX6_next_28) rfl ?_
  refine okL_cons (ok_iload_n rfl dX6_next_29) rfl ?_
  refine okL_cons (ok_istore_n rfl dX6_next_30) rfl ?_
  refine okL_cons (ok_iconst rfl dX6_next_31) rfl ?_
  refine okL_cons (ok_istore_n rfl dX6_next_32) rfl ?_
  refine okL_cons (ok_iload_n rfl dX6_next_33) rfl ?_
  refine okL_cons (ok_iconst rfl dX6_next_34) rfl ?_
  refine okL_cons (ok_icmp_ge rfl dX6_next_35) rfl ?_
  refine okL_cons (ok_iload_n rfl dX6_next_38) rfl ?_
  refine okL_cons (ok_iload_n rfl dX6_next_39) rfl ?_
  refine okL_cons (ok_invNS (M' := 163) 9 kw_92 kw_79 kw_93 rfl rfl (by decide +kernel) dX6_next_40) rfl ?_
  refine okL_cons (ok_istore dX6_next_43) rfl ?_
  refine okL_cons (ok_iload dX6_next_45) rfl ?_
  refine okL_cons (ok_iconst rfl dX6_next_47) rfl ?_
  refine okL_cons (ok_icmp_eq rfl dX6_next_48) rfl ?_
  refine okL_cons (ok_aload_n rfl dX6_next_51) rfl ?_
  refine okL_cons (ok_iload dX6_next_52) rfl ?_
  refine okL_cons (ok_invV (M' := 61) kw_249 kw_250 kw_251 kw_252 kw_253 cf_X6 rfl (by decide +kernel) dX6_next_54) rfl ?_
  refine okL_cons (ok_aload_n rfl dX6_next_57) rfl ?_
  refine okL_cons (ok_getP kw_241 cf_X6 rfl rfl (by decide) dX6_next_58) rfl ?_
  refine okL_cons (ok_iload dX6_next_61) rfl ?_
  refine okL_cons (ok_iaload dX6_next_63) rfl ?_
  refine okL_cons (ok_aload_n rfl dX6_next_64) rfl ?_
  refine okL_cons (ok_getP kw_241 cf_X6 rfl rfl (by decide) dX6_next_65) rfl ?_
  refine okL_cons (ok_iload_n rfl dX6_next_68) rfl ?_
  refine okL_cons (ok_iaload dX6_next_69) rfl ?_
  refine okL_cons (ok_icmp_ge rfl dX6_next_70) rfl ?_
  refine okL_cons (ok_iload dX6_next_73) rfl ?_
  refine okL_cons (ok_istore_n rfl dX6_next_75) rfl ?_
  refine okL_cons (ok_iinc rfl dX6_next_76) rfl ?_
  refine okL_cons (ok_goto rfl dX6_next_79) rfl ?_
  refine okL_cons (ok_iload_n rfl dX6_next_82) rfl ?_
  exact okL_one (ok_ireturn rfl dX6_next_83)
theorem dX6_learn_0 : decode cX6_learn 0 = .ok (.iload_n 1, 1) := by decide +kernel
theorem dX6_learn_1 : decode cX6_learn 1 = .ok (.aload_n 0, 1) := by decide +kernel
theorem dX6_learn_2 : decode cX6_learn 2 = .ok (.getfield 43, 3) := by decide +kernel
theorem dX6_learn_5 : decode cX6_learn 5 = .ok (.invokestatic 53, 3) := by decide +kernel
theorem dX6_learn_8 : decode cX6_learn 8 = .ok (.ifCond .eq 4, 3) := by decide +kernel
theorem dX6_learn_11 : decode cX6_learn 11 = .ok (.return_, 1) := by decide +kernel
theorem dX6_learn_12 : decode cX6_learn 12 = .ok (.aload_n 0, 1) := by decide +kernel
theorem dX6_learn_13 : decode cX6_learn 13 = .ok (.dup, 1) := by decide +kernel
theorem dX6_learn_14 : decode cX6_learn 14 = .ok (.getfield 43, 3) := by decide +kernel
theorem dX6_learn_17 : decode cX6_learn 17 = .ok (.iconst 1, 1) := by decide +kernel
theorem dX6_learn_18 : decode cX6_learn 18 = .ok (.iload_n 1, 1) := by decide +kernel
theorem dX6_learn_19 : decode cX6_learn 19 = .ok (.ishl, 1) := by decide +kernel
theorem dX6_learn_20 : decode cX6_learn 20 = .ok (.ior, 1) := by decide +kernel
theorem dX6_learn_21 : decode cX6_learn 21 = .ok (.putfield 43, 3) := by decide +kernel
theorem dX6_learn_24 : decode cX6_learn 24 = .ok (.aload_n 0, 1) := by decide +kernel
theorem dX6_learn_25 : decode cX6_learn 25 = .ok (.dup, 1) := by decide +kernel
theorem dX6_learn_26 : decode cX6_learn 26 = .ok (.getfield 50, 3) := by decide +kernel
theorem dX6_learn_29 : decode cX6_learn 29 = .ok (.iconst 1, 1) := by decide +kernel
theorem dX6_learn_30 : decode cX6_learn 30 = .ok (.iload_n 1, 1) := by decide +kernel
theorem dX6_learn_31 : decode cX6_learn 31 = .ok (.ishl, 1) := by decide +kernel
theorem dX6_learn_32 : decode cX6_learn 32 = .ok (.iconst (-1), 1) := by decide +kernel
theorem dX6_learn_33 : decode cX6_learn 33 = .ok (.ixor, 1) := by decide +kernel
theorem dX6_learn_34 : decode cX6_learn 34 = .ok (.iand, 1) := by decide +kernel
theorem dX6_learn_35 : decode cX6_learn 35 = .ok (.putfield 50, 3) := by decide +kernel
theorem dX6_learn_38 : decode cX6_learn 38 = .ok (.aload_n 0, 1) := by decide +kernel
theorem dX6_learn_39 : decode cX6_learn 39 = .ok (.iload_n 1, 1) := by decide +kernel
theorem dX6_learn_40 : decode cX6_learn 40 = .ok (.invokevirtual 65, 3) := by decide +kernel
theorem dX6_learn_43 : decode cX6_learn 43 = .ok (.aload_n 0, 1) := by decide +kernel
theorem dX6_learn_44 : decode cX6_learn 44 = .ok (.getfield 15, 3) := by decide +kernel
theorem dX6_learn_47 : decode cX6_learn 47 = .ok (.iload_n 1, 1) := by decide +kernel
theorem dX6_learn_48 : decode cX6_learn 48 = .ok (.aload_n 0, 1) := by decide +kernel
theorem dX6_learn_49 : decode cX6_learn 49 = .ok (.getfield 9, 3) := by decide +kernel
theorem dX6_learn_52 : decode cX6_learn 52 = .ok (.iconst 2, 1) := by decide +kernel
theorem dX6_learn_53 : decode cX6_learn 53 = .ok (.iaload, 1) := by decide +kernel
theorem dX6_learn_54 : decode cX6_learn 54 = .ok (.iastore, 1) := by decide +kernel
theorem dX6_learn_55 : decode cX6_learn 55 = .ok (.aload_n 0, 1) := by decide +kernel
theorem dX6_learn_56 : decode cX6_learn 56 = .ok (.getfield 21, 3) := by decide +kernel
theorem dX6_learn_59 : decode cX6_learn 59 = .ok (.ifCond .lt 17, 3) := by decide +kernel
theorem dX6_learn_62 : decode cX6_learn 62 = .ok (.aload_n 0, 1) := by decide +kernel
theorem dX6_learn_63 : decode cX6_learn 63 = .ok (.getfield 21, 3) := by decide +kernel
theorem dX6_learn_66 : decode cX6_learn 66 = .ok (.aload_n 0, 1) := by decide +kernel
theorem dX6_learn_67 : decode cX6_learn 67 = .ok (.getfield 29, 3) := by decide +kernel
theorem dX6_learn_70 : decode cX6_learn 70 = .ok (.getfield 68, 3) := by decide +kernel
theorem dX6_learn_73 : decode cX6_learn 73 = .ok (.if_icmp .lt 4, 3) := by decide +kernel
theorem dX6_learn_76 : decode cX6_learn 76 = .ok (.return_, 1) := by decide +kernel
theorem dX6_learn_77 : decode cX6_learn 77 = .ok (.aload_n 0, 1) := by decide +kernel
theorem dX6_learn_78 : decode cX6_learn 78 = .ok (.getfield 29, 3) := by decide +kernel
theorem dX6_learn_81 : decode cX6_learn 81 = .ok (.getfield 71, 3) := by decide +kernel
theorem dX6_learn_84 : decode cX6_learn 84 = .ok (.aload_n 0, 1) := by decide +kernel
theorem dX6_learn_85 : decode cX6_learn 85 = .ok (.getfield 21, 3) := by decide +kernel
theorem dX6_learn_88 : decode cX6_learn 88 = .ok (.aaload, 1) := by decide +kernel
theorem dX6_learn_89 : decode cX6_learn 89 = .ok (.astore_n 2, 1) := by decide +kernel
theorem dX6_learn_90 : decode cX6_learn 90 = .ok (.iconst 0, 1) := by decide +kernel
theorem dX6_learn_91 : decode cX6_learn 91 = .ok (.istore_n 3, 1) := by decide +kernel
theorem dX6_learn_92 : decode cX6_learn 92 = .ok (.iload_n 3, 1) := by decide +kernel
theorem dX6_learn_93 : decode cX6_learn 93 = .ok (.aload_n 2, 1) := by decide +kernel
theorem dX6_learn_94 : decode cX6_learn 94 = .ok (.getfield 74, 3) := by decide +kernel
theorem dX6_learn_97 : decode cX6_learn 97 = .ok (.if_icmp .ge 103, 3) := by decide +kernel
theorem dX6_learn_100 : decode cX6_learn 100 = .ok (.aload_n 0, 1) := by decide +kernel
theorem dX6_learn_101 : decode cX6_learn 101 = .ok (.getfield 25, 3) := by decide +kernel
theorem dX6_learn_104 : decode cX6_learn 104 = .ok (.aload_n 2, 1) := by decide +kernel
theorem dX6_learn_105 : decode cX6_learn 105 = .ok (.aload_n 2, 1) := by decide +kernel
theorem dX6_learn_106 : decode cX6_learn 106 = .ok (.getfield 79, 3) := by decide +kernel
theorem dX6_learn_109 : decode cX6_learn 109 = .ok (.iload_n 3, 1) := by decide +kernel
theorem dX6_learn_110 : decode cX6_learn 110 = .ok (.iaload, 1) := by decide +kernel
theorem dX6_learn_111 : decode cX6_learn 111 = .ok (.aload_n 0, 1) := by decide +kernel
theorem dX6_learn_112 : decode cX6_learn 112 = .ok (.getfield 9, 3) := by decide +kernel
theorem dX6_learn_115 : decode cX6_learn 115 = .ok (.invokevirtual 82, 3) := by decide +kernel
theorem dX6_learn_118 : decode cX6_learn 118 = .ok (.iconst 1, 1) := by decide +kernel
theorem dX6_learn_119 : decode cX6_learn 119 = .ok (.if_icmp .eq 6, 3) := by decide +kernel
theorem dX6_learn_122 : decode cX6_learn 122 = .ok (.goto 72, 3) := by decide +kernel
theorem dX6_learn_125 : decode cX6_learn 125 = .ok (.aload_n 2, 1) := by decide +kernel
theorem dX6_learn_126 : decode cX6_learn 126 = .ok (.getfield 88, 3) := by decide +kernel
theorem dX6_learn_129 : decode cX6_learn 129 = .ok (.iload_n 3, 1) := by decide +kernel
theorem dX6_learn_130 : decode cX6_learn 130 = .ok (.iaload, 1) := by decide +kernel
theorem dX6_learn_131 : decode cX6_learn 131 = .ok (.iconst 5, 1) := by decide +kernel
theorem dX6_learn_132 : decode cX6_learn 132 = .ok (.if_icmp .ne 18, 3) := by decide +kernel
theorem dX6_learn_135 : decode cX6_learn 135 = .ok (.aload_n 0, 1) := by decide +kernel
theorem dX6_learn_136 : decode cX6_learn 136 = .ok (.dup, 1) := by decide +kernel
theorem dX6_learn_137 : decode cX6_learn 137 = .ok (.getfield 50, 3) := by decide +kernel
theorem dX6_learn_140 : decode cX6_learn 140 = .ok (.iconst 1, 1) := by decide +kernel
theorem dX6_learn_141 : decode cX6_learn 141 = .ok (.iload_n 1, 1) := by decide +kernel
theorem dX6_learn_142 : decode cX6_learn 142 = .ok (.ishl, 1) := by decide +kernel
theorem dX6_learn_143 : decode cX6_learn 143 = .ok (.ior, 1) := by decide +kernel
theorem dX6_learn_144 : decode cX6_learn 144 = .ok (.putfield 50, 3) := by decide +kernel
theorem dX6_learn_147 : decode cX6_learn 147 = .ok (.goto 47, 3) := by decide +kernel
theorem dX6_learn_150 : decode cX6_learn 150 = .ok (.aload_n 0, 1) := by decide +kernel
theorem dX6_learn_151 : decode cX6_learn 151 = .ok (.getfield 25, 3) := by decide +kernel
theorem dX6_learn_154 : decode cX6_learn 154 = .ok (.aload_n 2, 1) := by decide +kernel
theorem dX6_learn_155 : decode cX6_learn 155 = .ok (.aload_n 2, 1) := by decide +kernel
theorem dX6_learn_156 : decode cX6_learn 156 = .ok (.getfield 91, 3) := by decide +kernel
theorem dX6_learn_159 : decode cX6_learn 159 = .ok (.iload_n 3, 1) := by decide +kernel
theorem dX6_learn_160 : decode cX6_learn 160 = .ok (.iaload, 1) := by decide +kernel
theorem dX6_learn_161 : decode cX6_learn 161 = .ok (.aload_n 0, 1) := by decide +kernel
theorem dX6_learn_162 : decode cX6_learn 162 = .ok (.getfield 9, 3) := by decide +kernel
theorem dX6_learn_165 : decode cX6_learn 165 = .ok (.invokevirtual 82, 3) := by decide +kernel
theorem dX6_learn_168 : decode cX6_learn 168 = .ok (.istore 4, 2) := by decide +kernel
theorem dX6_learn_170 : decode cX6_learn 170 = .ok (.iload 4, 2) := by decide +kernel
theorem dX6_learn_172 : decode cX6_learn 172 = .ok (.ldc 94, 2) := by decide +kernel
theorem dX6_learn_174 : decode cX6_learn 174 = .ok (.if_icmp .eq 20, 3) := by decide +kernel
theorem dX6_learn_177 : decode cX6_learn 177 = .ok (.aload_n 0, 1) := by decide +kernel
theorem dX6_learn_178 : decode cX6_learn 178 = .ok (.getfield 15, 3) := by decide +kernel
theorem dX6_learn_181 : decode cX6_learn 181 = .ok (.iload_n 1, 1) := by decide +kernel
theorem dX6_learn_182 : decode cX6_learn 182 = .ok (.iconst 0, 1) := by decide +kernel
theorem dX6_learn_183 : decode cX6_learn 183 = .ok (.bipush 99, 2) := by decide +kernel
theorem dX6_learn_185 : decode cX6_learn 185 = .ok (.iload 4, 2) := by decide +kernel
theorem dX6_learn_187 : decode cX6_learn 187 = .ok (.invokestatic 95, 3) := by decide +kernel
theorem dX6_learn_190 : decode cX6_learn 190 = .ok (.invokestatic 100, 3) := by decide +kernel
theorem dX6_learn_193 : decode cX6_learn 193 = .ok (.iastore, 1) := by decide +kernel
theorem dX6_learn_194 : decode cX6_learn 194 = .ok (.iinc 3 1, 3) := by decide +kernel
theorem dX6_learn_197 : decode cX6_learn 197 = .ok (.goto (-105), 3) := by decide +kernel
theorem dX6_learn_200 : decode cX6_learn 200 = .ok (.return_, 1) := by decide +kernel
set_option maxRecDepth 100000 in
theorem okm_X6_learn : okL RX6 cX6_learn 5 none "learn" pcX6_learn opX6_learn pcX6_learn := by
  unfold opX6_learn
  refine okL_cons (ok_iload_n rfl dX6_learn_0) rfl ?_
  refine okL_cons (ok_aload_n rfl dX6_learn_1) rfl ?_
  refine okL_cons (ok_getI kw_248 cf_X6 rfl rfl (by decide) dX6_learn_2) rfl ?_
  refine okL_cons (ok_invNS (M' := 162) 8 kw_78 kw_79 kw_80 rfl rfl (by decide +kernel) dX6_learn_5) rfl ?_
  refine okL_cons (ok_if_eq rfl dX6_learn_8) rfl ?_
  refine okL_cons (ok_return rfl dX6_learn_11) rfl ?_
  refine okL_cons (ok_aload_n rfl dX6_learn_12) rfl ?_
  refine okL_cons (ok_dup dX6_learn_13) rfl ?_
  refine okL_cons (ok_getI kw_248 cf_X6 rfl rfl (by decide) dX6_learn_14) rfl ?_
  refine okL_cons (ok_iconst rfl dX6_learn_17) rfl ?_
  refine okL_cons (ok_iload_n rfl dX6_learn_18) rfl ?_
  refine okL_cons (ok_ishl dX6_learn_19) rfl ?_
  refine okL_cons (ok_ior dX6_learn_20) rfl ?_
  refine okL_cons (ok_putI kw_248 cf_X6 rfl rfl (by decide) rfl dX6_learn_21) rfl ?_
  refine okL_cons (ok_aload_n rfl dX6_learn_24) rfl ?_
  refine okL_cons (ok_dup dX6_learn_25) rfl ?_
  refine okL_cons (ok_getI kw_254 cf_X6 rfl rfl (by decide) dX6_learn_26) rfl ?_
  refine okL_cons (ok_iconst rfl dX6_learn_29) rfl ?_
  refine okL_cons (ok_iload_n rfl dX6_learn_30) rfl ?_
  refine okL_cons (ok_ishl dX6_learn_31) rfl ?_
  refine okL_cons (ok_iconst rfl dX6_learn_32) rfl ?_
  refine okL_cons (ok_ixor dX6_learn_33) rfl ?_
  refine okL_cons (ok_iand dX6_learn_34) rfl ?_
  refine okL_cons (ok_putI kw_254 cf_X6 rfl rfl (by decide) rfl dX6_learn_35) rfl ?_
  refine okL_cons (ok_aload_n rfl dX6_learn_38) rfl ?_
  refine okL_cons (ok_iload_n rfl dX6_learn_39) rfl ?_
  refine okL_cons (ok_invV (M' := 62) kw_260 kw_261 kw_262 kw_252 kw_263 cf_X6 rfl (by decide +kernel) dX6_learn_40) rfl ?_
  refine okL_cons (ok_aload_n rfl dX6_learn_43) rfl ?_
  refine okL_cons (ok_getP kw_241 cf_X6 rfl rfl (by decide) dX6_learn_44) rfl ?_
  refine okL_cons (ok_iload_n rfl dX6_learn_47) rfl ?_
  refine okL_cons (ok_aload_n rfl dX6_learn_48) rfl ?_
  refine okL_cons (ok_getP kw_240 cf_X6 rfl rfl (by decide) dX6_learn_49) rfl ?_
  refine okL_cons (ok_iconst rfl dX6_learn_52) rfl ?_
  refine okL_cons (ok_iaload dX6_learn_53) rfl ?_
  refine okL_cons (ok_iastore dX6_learn_54) rfl ?_
  refine okL_cons (ok_aload_n rfl dX6_learn_55) rfl ?_
  refine okL_cons (ok_getI kw_243 cf_X6 rfl rfl (by decide) dX6_learn_56) rfl ?_
  refine okL_cons (ok_if_lt rfl dX6_learn_59) rfl ?_
  refine okL_cons (ok_aload_n rfl dX6_learn_62) rfl ?_
  refine okL_cons (ok_getI kw_243 cf_X6 rfl rfl (by decide) dX6_learn_63) rfl ?_
  refine okL_cons (ok_aload_n rfl dX6_learn_66) rfl ?_
  refine okL_cons (ok_getP kw_245 cf_X6 rfl rfl (by decide) dX6_learn_67) rfl ?_
  refine okL_cons (ok_getNI 43 cf_X1 rfl rfl rfl (by decide) dX6_learn_70) rfl ?_
  refine okL_cons (ok_icmp_lt rfl dX6_learn_73) rfl ?_
  refine okL_cons (ok_return rfl dX6_learn_76) rfl ?_
  refine okL_cons (ok_aload_n rfl dX6_learn_77) rfl ?_
  refine okL_cons (ok_getP kw_245 cf_X6 rfl rfl (by decide) dX6_learn_78) rfl ?_
  refine okL_cons (ok_getNP 41 cf_X1 rfl rfl rfl (by decide) dX6_learn_81) rfl ?_
  refine okL_cons (ok_aload_n rfl dX6_learn_84) rfl ?_
  refine okL_cons (ok_getI kw_243 cf_X6 rfl rfl (by decide) dX6_learn_85) rfl ?_
  refine okL_cons (ok_aaload (by decide) dX6_learn_88) rfl ?_
  refine okL_cons (ok_astore_n rfl dX6_learn_89) rfl ?_
  refine okL_cons (ok_iconst rfl dX6_learn_90) rfl ?_
  refine okL_cons (ok_istore_n rfl dX6_learn_91) rfl ?_
  refine okL_cons (ok_iload_n rfl dX6_learn_92) rfl ?_
  refine okL_cons (ok_aload_n rfl dX6_learn_93) rfl ?_
  refine okL_cons (ok_getNI 13 cf_X9 rfl rfl rfl (by decide) dX6_learn_94) rfl ?_
  refine okL_cons (ok_icmp_ge rfl dX6_learn_97) rfl ?_
  refine okL_cons (ok_aload_n rfl dX6_learn_100) rfl ?_
  refine okL_cons (ok_getP kw_244 cf_X6 rfl rfl (by decide) dX6_learn_101) rfl ?_
  refine okL_cons (ok_aload_n rfl dX6_learn_104) rfl ?_
  refine okL_cons (ok_aload_n rfl dX6_learn_105) rfl ?_
  refine okL_cons (ok_getNP 25 cf_X9 rfl rfl rfl (by decide) dX6_learn_106) rfl ?_
  refine okL_cons (ok_iload_n rfl dX6_learn_109) rfl ?_
  refine okL_cons (ok_iaload dX6_learn_110) rfl ?_
  refine okL_cons (ok_aload_n rfl dX6_learn_111) rfl ?_
  refine okL_cons (ok_getP kw_240 cf_X6 rfl rfl (by decide) dX6_learn_112) rfl ?_
  refine okL_cons (ok_invV (M' := 10) kw_264 kw_265 kw_266 kw_40 kw_267 cf_X0 rfl (by decide +kernel) dX6_learn_115) rfl ?_
  refine okL_cons (ok_iconst rfl dX6_learn_118) rfl ?_
  refine okL_cons (ok_icmp_eq rfl dX6_learn_119) rfl ?_
  refine okL_cons (ok_goto rfl dX6_learn_122) rfl ?_
  refine okL_cons (ok_aload_n rfl dX6_learn_125) rfl ?_
  refine okL_cons (ok_getNP 16 cf_X9 rfl rfl rfl (by decide) dX6_learn_126) rfl ?_
  refine okL_cons (ok_iload_n rfl dX6_learn_129) rfl ?_
  refine okL_cons (ok_iaload dX6_learn_130) rfl ?_
  refine okL_cons (ok_iconst rfl dX6_learn_131) rfl ?_
  refine okL_cons (ok_icmp_ne rfl dX6_learn_132) rfl ?_
  refine okL_cons (ok_aload_n rfl dX6_learn_135) rfl ?_
  refine okL_cons (ok_dup dX6_learn_136) rfl ?_
  refine okL_cons (ok_getI kw_254 cf_X6 rfl rfl (by decide) dX6_learn_137) rfl ?_
  refine okL_cons (ok_iconst rfl dX6_learn_140) rfl ?_
  refine okL_cons (ok_iload_n rfl dX6_learn_141) rfl ?_
  refine okL_cons (ok_ishl dX6_learn_142) rfl ?_
  refine okL_cons (ok_ior dX6_learn_143) rfl ?_
  refine okL_cons (ok_putI kw_254 cf_X6 rfl rfl (by decide) rfl dX6_learn_144) rfl ?_
  refine okL_cons (ok_goto rfl dX6_learn_147) rfl ?_
  refine okL_cons (ok_aload_n rfl dX6_learn_150) rfl ?_
  refine okL_cons (ok_getP kw_244 cf_X6 rfl rfl (by decide) dX6_learn_151) rfl ?_
  refine okL_cons (ok_aload_n rfl dX6_learn_154) rfl ?_
  refine okL_cons (ok_aload_n rfl dX6_learn_155) rfl ?_
  refine okL_cons (ok_getNP 19 cf_X9 rfl rfl rfl (by decide) dX6_learn_156) rfl ?_
  refine okL_cons (ok_iload_n rfl dX6_learn_159) rfl ?_
  refine okL_cons (ok_iaload dX6_learn_160) rfl ?_
  refine okL_cons (ok_aload_n rfl dX6_learn_161) rfl ?_
  refine okL_cons (ok_getP kw_240 cf_X6 rfl rfl (by decide) dX6_learn_162) rfl ?_
  refine okL_cons (ok_invV (M' := 10) kw_264 kw_265 kw_266 kw_40 kw_267 cf_X0 rfl (by decide +kernel) dX6_learn_165) rfl ?_
  refine okL_cons (ok_istore dX6_learn_168) rfl ?_
  refine okL_cons (ok_iload dX6_learn_170) rfl ?_
  refine okL_cons (ok_ldc kw_268 dX6_learn_172) rfl ?_
  refine okL_cons (ok_icmp_eq rfl dX6_learn_174) rfl ?_
  refine okL_cons (ok_aload_n rfl dX6_learn_177) rfl ?_
  refine okL_cons (ok_getP kw_241 cf_X6 rfl rfl (by decide) dX6_learn_178) rfl ?_
  refine okL_cons (ok_iload_n rfl dX6_learn_181) rfl ?_
  refine okL_cons (ok_iconst rfl dX6_learn_182) rfl ?_
  refine okL_cons (ok_bipush rfl dX6_learn_183) rfl ?_
  refine okL_cons (ok_iload dX6_learn_185) rfl ?_
  refine okL_cons (ok_min kw_269 kw_125 kw_36 kw_126 dX6_learn_187) rfl ?_
  refine okL_cons (ok_max kw_270 kw_35 kw_36 kw_37 dX6_learn_190) rfl ?_
  refine okL_cons (ok_iastore dX6_learn_193) rfl ?_
  refine okL_cons (ok_iinc rfl dX6_learn_194) rfl ?_
  refine okL_cons (ok_goto rfl dX6_learn_197) rfl ?_
  exact okL_one (ok_return rfl dX6_learn_200)
theorem dX6_fillFacts_0 : decode cX6_fillFacts 0 = .ok (.aload_n 0, 1) := by decide +kernel
theorem dX6_fillFacts_1 : decode cX6_fillFacts 1 = .ok (.getfield 9, 3) := by decide +kernel
theorem dX6_fillFacts_4 : decode cX6_fillFacts 4 = .ok (.iconst 0, 1) := by decide +kernel
theorem dX6_fillFacts_5 : decode cX6_fillFacts 5 = .ok (.iload_n 1, 1) := by decide +kernel
theorem dX6_fillFacts_6 : decode cX6_fillFacts 6 = .ok (.iconst 5, 1) := by decide +kernel
theorem dX6_fillFacts_7 : decode cX6_fillFacts 7 = .ok (.irem, 1) := by decide +kernel
theorem dX6_fillFacts_8 : decode cX6_fillFacts 8 = .ok (.iastore, 1) := by decide +kernel
theorem dX6_fillFacts_9 : decode cX6_fillFacts 9 = .ok (.aload_n 0, 1) := by decide +kernel
theorem dX6_fillFacts_10 : decode cX6_fillFacts 10 = .ok (.getfield 9, 3) := by decide +kernel
theorem dX6_fillFacts_13 : decode cX6_fillFacts 13 = .ok (.iconst 1, 1) := by decide +kernel
theorem dX6_fillFacts_14 : decode cX6_fillFacts 14 = .ok (.iload_n 1, 1) := by decide +kernel
theorem dX6_fillFacts_15 : decode cX6_fillFacts 15 = .ok (.iconst 5, 1) := by decide +kernel
theorem dX6_fillFacts_16 : decode cX6_fillFacts 16 = .ok (.idiv, 1) := by decide +kernel
theorem dX6_fillFacts_17 : decode cX6_fillFacts 17 = .ok (.iastore, 1) := by decide +kernel
theorem dX6_fillFacts_18 : decode cX6_fillFacts 18 = .ok (.aload_n 0, 1) := by decide +kernel
theorem dX6_fillFacts_19 : decode cX6_fillFacts 19 = .ok (.getfield 9, 3) := by decide +kernel
theorem dX6_fillFacts_22 : decode cX6_fillFacts 22 = .ok (.iconst 2, 1) := by decide +kernel
theorem dX6_fillFacts_23 : decode cX6_fillFacts 23 = .ok (.iload_n 1, 1) := by decide +kernel
theorem dX6_fillFacts_24 : decode cX6_fillFacts 24 = .ok (.aload_n 0, 1) := by decide +kernel
theorem dX6_fillFacts_25 : decode cX6_fillFacts 25 = .ok (.getfield 40, 3) := by decide +kernel
theorem dX6_fillFacts_28 : decode cX6_fillFacts 28 = .ok (.invokestatic 53, 3) := by decide +kernel
theorem dX6_fillFacts_31 : decode cX6_fillFacts 31 = .ok (.ifCond .eq 8, 3) := by decide +kernel
theorem dX6_fillFacts_34 : decode cX6_fillFacts 34 = .ok (.bipush 9, 2) := by decide +kernel
theorem dX6_fillFacts_36 : decode cX6_fillFacts 36 = .ok (.goto 12, 3) := by decide +kernel
theorem dX6_fillFacts_39 : decode cX6_fillFacts 39 = .ok (.aload_n 0, 1) := by decide +kernel
theorem dX6_fillFacts_40 : decode cX6_fillFacts 40 = .ok (.getfield 39, 3) := by decide +kernel
theorem dX6_fillFacts_43 : decode cX6_fillFacts 43 = .ok (.getfield 103, 3) := by decide +kernel
theorem dX6_fillFacts_46 : decode cX6_fillFacts 46 = .ok (.iload_n 1, 1) := by decide +kernel
theorem dX6_fillFacts_47 : decode cX6_fillFacts 47 = .ok (.iaload, 1) := by decide +kernel
theorem dX6_fillFacts_48 : decode cX6_fillFacts 48 = .ok (.iastore, 1) := by decide +kernel
theorem dX6_fillFacts_49 : decode cX6_fillFacts 49 = .ok (.aload_n 0, 1) := by decide +kernel
theorem dX6_fillFacts_50 : decode cX6_fillFacts 50 = .ok (.getfield 9, 3) := by decide +kernel
theorem dX6_fillFacts_53 : decode cX6_fillFacts 53 = .ok (.iconst 3, 1) := by decide +kernel
theorem dX6_fillFacts_54 : decode cX6_fillFacts 54 = .ok (.aload_n 0, 1) := by decide +kernel
theorem dX6_fillFacts_55 : decode cX6_fillFacts 55 = .ok (.getfield 39, 3) := by decide +kernel
theorem dX6_fillFacts_58 : decode cX6_fillFacts 58 = .ok (.iload_n 1, 1) := by decide +kernel
theorem dX6_fillFacts_59 : decode cX6_fillFacts 59 = .ok (.invokevirtual 108, 3) := by decide +kernel
theorem dX6_fillFacts_62 : decode cX6_fillFacts 62 = .ok (.invokestatic 112, 3) := by decide +kernel
theorem dX6_fillFacts_65 : decode cX6_fillFacts 65 = .ok (.iastore, 1) := by decide +kernel
theorem dX6_fillFacts_66 : decode cX6_fillFacts 66 = .ok (.aload_n 0, 1) := by decide +kernel
theorem dX6_fillFacts_67 : decode cX6_fillFacts 67 = .ok (.getfield 9, 3) := by decide +kernel
theorem dX6_fillFacts_70 : decode cX6_fillFacts 70 = .ok (.iconst 4, 1) := by decide +kernel
theorem dX6_fillFacts_71 : decode cX6_fillFacts 71 = .ok (.aload_n 0, 1) := by decide +kernel
theorem dX6_fillFacts_72 : decode cX6_fillFacts 72 = .ok (.getfield 39, 3) := by decide +kernel
theorem dX6_fillFacts_75 : decode cX6_fillFacts 75 = .ok (.getfield 117, 3) := by decide +kernel
theorem dX6_fillFacts_78 : decode cX6_fillFacts 78 = .ok (.iastore, 1) := by decide +kernel
theorem dX6_fillFacts_79 : decode cX6_fillFacts 79 = .ok (.aload_n 0, 1) := by decide +kernel
theorem dX6_fillFacts_80 : decode cX6_fillFacts 80 = .ok (.getfield 9, 3) := by decide +kernel
theorem dX6_fillFacts_83 : decode cX6_fillFacts 83 = .ok (.iconst 5, 1) := by decide +kernel
theorem dX6_fillFacts_84 : decode cX6_fillFacts 84 = .ok (.aload_n 0, 1) := by decide +kernel
theorem dX6_fillFacts_85 : decode cX6_fillFacts 85 = .ok (.getfield 29, 3) := by decide +kernel
theorem dX6_fillFacts_88 : decode cX6_fillFacts 88 = .ok (.getfield 120, 3) := by decide +kernel
theorem dX6_fillFacts_91 : decode cX6_fillFacts 91 = .ok (.iastore, 1) := by decide +kernel
theorem dX6_fillFacts_92 : decode cX6_fillFacts 92 = .ok (.aload_n 0, 1) := by decide +kernel
theorem dX6_fillFacts_93 : decode cX6_fillFacts 93 = .ok (.getfield 9, 3) := by decide +kernel
theorem dX6_fillFacts_96 : decode cX6_fillFacts 96 = .ok (.bipush 6, 2) := by decide +kernel
theorem dX6_fillFacts_98 : decode cX6_fillFacts 98 = .ok (.aload_n 0, 1) := by decide +kernel
theorem dX6_fillFacts_99 : decode cX6_fillFacts 99 = .ok (.getfield 29, 3) := by decide +kernel
theorem dX6_fillFacts_102 : decode cX6_fillFacts 102 = .ok (.getfield 123, 3) := by decide +kernel
theorem dX6_fillFacts_105 : decode cX6_fillFacts 105 = .ok (.iastore, 1) := by decide +kernel
theorem dX6_fillFacts_106 : decode cX6_fillFacts 106 = .ok (.return_, 1) := by decide +kernel
set_option maxRecDepth 100000 in
theorem okm_X6_fillFacts : okL RX6 cX6_fillFacts 2 none "fillFacts" pcX6_fillFacts opX6_fillFacts pcX6_fillFacts := by
  unfold opX6_fillFacts
  refine okL_cons (ok_aload_n rfl dX6_fillFacts_0) rfl ?_
  refine okL_cons (ok_getP kw_240 cf_X6 rfl rfl (by decide) dX6_fillFacts_1) rfl ?_
  refine okL_cons (ok_iconst rfl dX6_fillFacts_4) rfl ?_
  refine okL_cons (ok_iload_n rfl dX6_fillFacts_5) rfl ?_
  refine okL_cons (ok_iconst rfl dX6_fillFacts_6) rfl ?_
  refine okL_cons (ok_irem dX6_fillFacts_7) rfl ?_
  refine okL_cons (ok_iastore dX6_fillFacts_8) rfl ?_
  refine okL_cons (ok_aload_n rfl dX6_fillFacts_9) rfl ?_
  refine okL_cons (ok_getP kw_240 cf_X6 rfl rfl (by decide) dX6_fillFacts_10) rfl ?_
  refine okL_cons (ok_iconst rfl dX6_fillFacts_13) rfl ?_
  refine okL_cons (ok_iload_n rfl dX6_fillFacts_14) rfl ?_
  refine okL_cons (ok_iconst rfl dX6_fillFacts_15) rfl ?_
  refine okL_cons (ok_idiv dX6_fillFacts_16) rfl ?_
  refine okL_cons (ok_iastore dX6_fillFacts_17) rfl ?_
  refine okL_cons (ok_aload_n rfl dX6_fillFacts_18) rfl ?_
  refine okL_cons (ok_getP kw_240 cf_X6 rfl rfl (by decide) dX6_fillFacts_19) rfl ?_
  refine okL_cons (ok_iconst rfl dX6_fillFacts_22) rfl ?_
  refine okL_cons (ok_iload_n rfl dX6_fillFacts_23) rfl ?_
  refine okL_cons (ok_aload_n rfl dX6_fillFacts_24) rfl ?_
  refine okL_cons (ok_getI kw_247 cf_X6 rfl rfl (by decide) dX6_fillFacts_25) rfl ?_
  refine okL_cons (ok_invNS (M' := 162) 8 kw_78 kw_79 kw_80 rfl rfl (by decide +kernel) dX6_fillFacts_28) rfl ?_
  refine okL_cons (ok_if_eq rfl dX6_fillFacts_31) rfl ?_
  refine okL_cons (ok_bipush rfl dX6_fillFacts_34) rfl ?_
  refine okL_cons (ok_goto rfl dX6_fillFacts_36) rfl ?_
  refine okL_cons (ok_aload_n rfl dX6_fillFacts_39) rfl ?_
  refine okL_cons (ok_getP kw_246 cf_X6 rfl rfl (by decide) dX6_fillFacts_40) rfl ?_
  refine okL_cons (ok_getNP 7 cf_X2 rfl rfl rfl (by decide) dX6_fillFacts_43) rfl ?_
  refine okL_cons (ok_iload_n rfl dX6_fillFacts_46) rfl ?_
  refine okL_cons (ok_iaload dX6_fillFacts_47) rfl ?_
  refine okL_cons (ok_iastore dX6_fillFacts_48) rfl ?_
  refine okL_cons (ok_aload_n rfl dX6_fillFacts_49) rfl ?_
  refine okL_cons (ok_getP kw_240 cf_X6 rfl rfl (by decide) dX6_fillFacts_50) rfl ?_
  refine okL_cons (ok_iconst rfl dX6_fillFacts_53) rfl ?_
  refine okL_cons (ok_aload_n rfl dX6_fillFacts_54) rfl ?_
  refine okL_cons (ok_getP kw_246 cf_X6 rfl rfl (by decide) dX6_fillFacts_55) rfl ?_
  refine okL_cons (ok_iload_n rfl dX6_fillFacts_58) rfl ?_
  refine okL_cons (ok_invV (M' := 19) kw_271 kw_95 kw_96 kw_47 kw_97 cf_X2 rfl (by decide +kernel) dX6_fillFacts_59) rfl ?_
  refine okL_cons (ok_invS (M' := 8) kw_272 kw_99 kw_100 kw_101 rfl (by decide +kernel) dX6_fillFacts_62) rfl ?_
  refine okL_cons (ok_iastore dX6_fillFacts_65) rfl ?_
  refine okL_cons (ok_aload_n rfl dX6_fillFacts_66) rfl ?_
  refine okL_cons (ok_getP kw_240 cf_X6 rfl rfl (by decide) dX6_fillFacts_67) rfl ?_
  refine okL_cons (ok_iconst rfl dX6_fillFacts_70) rfl ?_
  refine okL_cons (ok_aload_n rfl dX6_fillFacts_71) rfl ?_
  refine okL_cons (ok_getP kw_246 cf_X6 rfl rfl (by decide) dX6_fillFacts_72) rfl ?_
  refine okL_cons (ok_getNI 9 cf_X2 rfl rfl rfl (by decide) dX6_fillFacts_75) rfl ?_
  refine okL_cons (ok_iastore dX6_fillFacts_78) rfl ?_
  refine okL_cons (ok_aload_n rfl dX6_fillFacts_79) rfl ?_
  refine okL_cons (ok_getP kw_240 cf_X6 rfl rfl (by decide) dX6_fillFacts_80) rfl ?_
  refine okL_cons (ok_iconst rfl dX6_fillFacts_83) rfl ?_
  refine okL_cons (ok_aload_n rfl dX6_fillFacts_84) rfl ?_
  refine okL_cons (ok_getP kw_245 cf_X6 rfl rfl (by decide) dX6_fillFacts_85) rfl ?_
  refine okL_cons (ok_getNI 32 cf_X1 rfl rfl rfl (by decide) dX6_fillFacts_88) rfl ?_
  refine okL_cons (ok_iastore dX6_fillFacts_91) rfl ?_
  refine okL_cons (ok_aload_n rfl dX6_fillFacts_92) rfl ?_
  refine okL_cons (ok_getP kw_240 cf_X6 rfl rfl (by decide) dX6_fillFacts_93) rfl ?_
  refine okL_cons (ok_bipush rfl dX6_fillFacts_96) rfl ?_
  refine okL_cons (ok_aload_n rfl dX6_fillFacts_98) rfl ?_
  refine okL_cons (ok_getP kw_245 cf_X6 rfl rfl (by decide) dX6_fillFacts_99) rfl ?_
  refine okL_cons (ok_getNI 34 cf_X1 rfl rfl rfl (by decide) dX6_fillFacts_102) rfl ?_
  refine okL_cons (ok_iastore dX6_fillFacts_105) rfl ?_
  exact okL_one (ok_return rfl dX6_fillFacts_106)
theorem dX6_endWithKerbs_0 : decode cX6_endWithKerbs 0 = .ok (.aload_n 0, 1) := by decide +kernel
theorem dX6_endWithKerbs_1 : decode cX6_endWithKerbs 1 = .ok (.dup, 1) := by decide +kernel
theorem dX6_endWithKerbs_2 : decode cX6_endWithKerbs 2 = .ok (.getfield 43, 3) := by decide +kernel
theorem dX6_endWithKerbs_5 : decode cX6_endWithKerbs 5 = .ok (.aload_n 0, 1) := by decide +kernel
theorem dX6_endWithKerbs_6 : decode cX6_endWithKerbs 6 = .ok (.getfield 40, 3) := by decide +kernel
theorem dX6_endWithKerbs_9 : decode cX6_endWithKerbs 9 = .ok (.iload_n 2, 1) := by decide +kernel
theorem dX6_endWithKerbs_10 : decode cX6_endWithKerbs 10 = .ok (.ior, 1) := by decide +kernel
theorem dX6_endWithKerbs_11 : decode cX6_endWithKerbs 11 = .ok (.iconst (-1), 1) := by decide +kernel
theorem dX6_endWithKerbs_12 : decode cX6_endWithKerbs 12 = .ok (.ixor, 1) := by decide +kernel
theorem dX6_endWithKerbs_13 : decode cX6_endWithKerbs 13 = .ok (.iand, 1) := by decide +kernel
theorem dX6_endWithKerbs_14 : decode cX6_endWithKerbs 14 = .ok (.putfield 43, 3) := by decide +kernel
theorem dX6_endWithKerbs_17 : decode cX6_endWithKerbs 17 = .ok (.aload_n 0, 1) := by decide +kernel
theorem dX6_endWithKerbs_18 : decode cX6_endWithKerbs 18 = .ok (.iload_n 2, 1) := by decide +kernel
theorem dX6_endWithKerbs_19 : decode cX6_endWithKerbs 19 = .ok (.putfield 40, 3) := by decide +kernel
theorem dX6_endWithKerbs_22 : decode cX6_endWithKerbs 22 = .ok (.iload_n 1, 1) := by decide +kernel
theorem dX6_endWithKerbs_23 : decode cX6_endWithKerbs 23 = .ok (.istore_n 3, 1) := by decide +kernel
theorem dX6_endWithKerbs_24 : decode cX6_endWithKerbs 24 = .ok (.aload_n 0, 1) := by decide +kernel
theorem dX6_endWithKerbs_25 : decode cX6_endWithKerbs 25 = .ok (.iload_n 3, 1) := by decide +kernel
theorem dX6_endWithKerbs_26 : decode cX6_endWithKerbs 26 = .ok (.invokevirtual 126, 3) := by decide +kernel
theorem dX6_endWithKerbs_29 : decode cX6_endWithKerbs 29 = .ok (.istore 4, 2) := by decide +kernel
theorem dX6_endWithKerbs_31 : decode cX6_endWithKerbs 31 = .ok (.iconst 0, 1) := by decide +kernel
theorem dX6_endWithKerbs_32 : decode cX6_endWithKerbs 32 = .ok (.istore 5, 2) := by decide +kernel
theorem dX6_endWithKerbs_34 : decode cX6_endWithKerbs 34 = .ok (.iload 5, 2) := by decide +kernel
theorem dX6_endWithKerbs_36 : decode cX6_endWithKerbs 36 = .ok (.bipush 25, 2) := by decide +kernel
theorem dX6_endWithKerbs_38 : decode cX6_endWithKerbs 38 = .ok (.if_icmp .ge 25, 3) := by decide +kernel
theorem dX6_endWithKerbs_41 : decode cX6_endWithKerbs 41 = .ok (.iload 4, 2) := by decide +kernel
theorem dX6_endWithKerbs_43 : decode cX6_endWithKerbs 43 = .ok (.iload_n 3, 1) := by decide +kernel
theorem dX6_endWithKerbs_44 : decode cX6_endWithKerbs 44 = .ok (.if_icmp .eq 19, 3) := by decide +kernel
theorem dX6_endWithKerbs_47 : decode cX6_endWithKerbs 47 = .ok (.iload 4, 2) := by decide +kernel
theorem dX6_endWithKerbs_49 : decode cX6_endWithKerbs 49 = .ok (.istore_n 3, 1) := by decide +kernel
theorem dX6_endWithKerbs_50 : decode cX6_endWithKerbs 50 = .ok (.aload_n 0, 1) := by decide +kernel
theorem dX6_endWithKerbs_51 : decode cX6_endWithKerbs 51 = .ok (.iload_n 3, 1) := by decide +kernel
theorem dX6_endWithKerbs_52 : decode cX6_endWithKerbs 52 = .ok (.invokevirtual 126, 3) := by decide +kernel
theorem dX6_endWithKerbs_55 : decode cX6_endWithKerbs 55 = .ok (.istore 4, 2) := by decide +kernel
theorem dX6_endWithKerbs_57 : decode cX6_endWithKerbs 57 = .ok (.iinc 5 1, 3) := by decide +kernel
theorem dX6_endWithKerbs_60 : decode cX6_endWithKerbs 60 = .ok (.goto (-26), 3) := by decide +kernel
theorem dX6_endWithKerbs_63 : decode cX6_endWithKerbs 63 = .ok (.iload_n 3, 1) := by decide +kernel
theorem dX6_endWithKerbs_64 : decode cX6_endWithKerbs 64 = .ok (.ireturn, 1) := by decide +kernel
set_option maxRecDepth 100000 in
theorem okm_X6_endWithKerbs : okL RX6 cX6_endWithKerbs 6 (some .int) "endWithKerbs" pcX6_endWithKerbs opX6_endWithKerbs pcX6_endWithKerbs := by
  unfold opX6_endWithKerbs
  refine okL_cons (ok_aload_n rfl dX6_endWithKerbs_0) rfl ?_
  refine okL_cons (ok_dup dX6_endWithKerbs_1) rfl ?_
  refine okL_cons (ok_getI kw_248 cf_X6 rfl rfl (by decide) dX6_endWithKerbs_2) rfl ?_
  refine okL_cons (ok_aload_n rfl dX6_endWithKerbs_5) rfl ?_
  refine okL_cons (ok_getI kw_247 cf_X6 rfl rfl (by decide) dX6_endWithKerbs_6) rfl ?_
  refine okL_cons (ok_iload_n rfl dX6_endWithKerbs_9) rfl ?_
  refine okL_cons (ok_ior dX6_endWithKerbs_10) rfl ?_
  refine okL_cons (ok_iconst rfl dX6_endWithKerbs_11) rfl ?_
  refine okL_cons (ok_ixor dX6_endWithKerbs_12) rfl ?_
  refine okL_cons (ok_iand dX6_endWithKerbs_13) rfl ?_
  refine okL_cons (ok_putI kw_248 cf_X6 rfl rfl (by decide) rfl dX6_endWithKerbs_14) rfl ?_
  refine okL_cons (ok_aload_n rfl dX6_endWithKerbs_17) rfl ?_
  refine okL_cons (ok_iload_n rfl dX6_endWithKerbs_18) rfl ?_
  refine okL_cons (ok_putI kw_247 cf_X6 rfl rfl (by decide) rfl dX6_endWithKerbs_19) rfl ?_
  refine okL_cons (ok_iload_n rfl dX6_endWithKerbs_22) rfl ?_
  refine okL_cons (ok_istore_n rfl dX6_endWithKerbs_23) rfl ?_
  refine okL_cons (ok_aload_n rfl dX6_endWithKerbs_24) rfl ?_
  refine okL_cons (ok_iload_n rfl dX6_endWithKerbs_25) rfl ?_
  refine okL_cons (ok_invV (M' := 60) kw_273 kw_274 kw_275 kw_252 kw_276 cf_X6 rfl (by decide +kernel) dX6_endWithKerbs_26) rfl ?_
  refine okL_cons (ok_istore dX6_endWithKerbs_29) rfl ?_
  refine okL_cons (ok_iconst rfl dX6_endWithKerbs_31) rfl ?_
  refine okL_cons (ok_istore dX6_endWithKerbs_32) rfl ?_
  refine okL_cons (ok_iload dX6_endWithKerbs_34) rfl ?_
  refine okL_cons (ok_bipush rfl dX6_endWithKerbs_36) rfl ?_
  refine okL_cons (ok_icmp_ge rfl dX6_endWithKerbs_38) rfl ?_
  refine okL_cons (ok_iload dX6_endWithKerbs_41) rfl ?_
  refine okL_cons (ok_iload_n rfl dX6_endWithKerbs_43) rfl ?_
  refine okL_cons (ok_icmp_eq rfl dX6_endWithKerbs_44) rfl ?_
  refine okL_cons (ok_iload dX6_endWithKerbs_47) rfl ?_
  refine okL_cons (ok_istore_n rfl dX6_endWithKerbs_49) rfl ?_
  refine okL_cons (ok_aload_n rfl dX6_endWithKerbs_50) rfl ?_
  refine okL_cons (ok_iload_n rfl dX6_endWithKerbs_51) rfl ?_
  refine okL_cons (ok_invV (M' := 60) kw_273 kw_274 kw_275 kw_252 kw_276 cf_X6 rfl (by decide +kernel) dX6_endWithKerbs_52) rfl ?_
  refine okL_cons (ok_istore dX6_endWithKerbs_55) rfl ?_
  refine okL_cons (ok_iinc rfl dX6_endWithKerbs_57) rfl ?_
  refine okL_cons (ok_goto rfl dX6_endWithKerbs_60) rfl ?_
  refine okL_cons (ok_iload_n rfl dX6_endWithKerbs_63) rfl ?_
  exact okL_one (ok_ireturn rfl dX6_endWithKerbs_64)
theorem dX6_passHour_0 : decode cX6_passHour 0 = .ok (.aload_n 0, 1) := by decide +kernel
theorem dX6_passHour_1 : decode cX6_passHour 1 = .ok (.aload_n 1, 1) := by decide +kernel
theorem dX6_passHour_2 : decode cX6_passHour 2 = .ok (.aload_n 0, 1) := by decide +kernel
theorem dX6_passHour_3 : decode cX6_passHour 3 = .ok (.getfield 29, 3) := by decide +kernel
theorem dX6_passHour_6 : decode cX6_passHour 6 = .ok (.getfield 129, 3) := by decide +kernel
theorem dX6_passHour_9 : decode cX6_passHour 9 = .ok (.invokevirtual 132, 3) := by decide +kernel
theorem dX6_passHour_12 : decode cX6_passHour 12 = .ok (.iconst 0, 1) := by decide +kernel
theorem dX6_passHour_13 : decode cX6_passHour 13 = .ok (.istore_n 2, 1) := by decide +kernel
theorem dX6_passHour_14 : decode cX6_passHour 14 = .ok (.iload_n 2, 1) := by decide +kernel
theorem dX6_passHour_15 : decode cX6_passHour 15 = .ok (.bipush 8, 2) := by decide +kernel
theorem dX6_passHour_17 : decode cX6_passHour 17 = .ok (.if_icmp .ge 35, 3) := by decide +kernel
theorem dX6_passHour_20 : decode cX6_passHour 20 = .ok (.aload_n 1, 1) := by decide +kernel
theorem dX6_passHour_21 : decode cX6_passHour 21 = .ok (.getfield 136, 3) := by decide +kernel
theorem dX6_passHour_24 : decode cX6_passHour 24 = .ok (.iload_n 2, 1) := by decide +kernel
theorem dX6_passHour_25 : decode cX6_passHour 25 = .ok (.iaload, 1) := by decide +kernel
theorem dX6_passHour_26 : decode cX6_passHour 26 = .ok (.iconst 1, 1) := by decide +kernel
theorem dX6_passHour_27 : decode cX6_passHour 27 = .ok (.if_icmp .ne 19, 3) := by decide +kernel
theorem dX6_passHour_30 : decode cX6_passHour 30 = .ok (.aload_n 0, 1) := by decide +kernel
theorem dX6_passHour_31 : decode cX6_passHour 31 = .ok (.getfield 18, 3) := by decide +kernel
theorem dX6_passHour_34 : decode cX6_passHour 34 = .ok (.iload_n 2, 1) := by decide +kernel
theorem dX6_passHour_35 : decode cX6_passHour 35 = .ok (.aload_n 0, 1) := by decide +kernel
theorem dX6_passHour_36 : decode cX6_passHour 36 = .ok (.aload_n 1, 1) := by decide +kernel
theorem dX6_passHour_37 : decode cX6_passHour 37 = .ok (.getfield 139, 3) := by decide +kernel
theorem dX6_passHour_40 : decode cX6_passHour 40 = .ok (.iload_n 2, 1) := by decide +kernel
theorem dX6_passHour_41 : decode cX6_passHour 41 = .ok (.iaload, 1) := by decide +kernel
theorem dX6_passHour_42 : decode cX6_passHour 42 = .ok (.invokevirtual 126, 3) := by decide +kernel
theorem dX6_passHour_45 : decode cX6_passHour 45 = .ok (.iastore, 1) := by decide +kernel
theorem dX6_passHour_46 : decode cX6_passHour 46 = .ok (.iinc 2 1, 3) := by decide +kernel
theorem dX6_passHour_49 : decode cX6_passHour 49 = .ok (.goto (-35), 3) := by decide +kernel
theorem dX6_passHour_52 : decode cX6_passHour 52 = .ok (.iconst 0, 1) := by decide +kernel
theorem dX6_passHour_53 : decode cX6_passHour 53 = .ok (.istore_n 2, 1) := by decide +kernel
theorem dX6_passHour_54 : decode cX6_passHour 54 = .ok (.iconst 0, 1) := by decide +kernel
theorem dX6_passHour_55 : decode cX6_passHour 55 = .ok (.istore_n 3, 1) := by decide +kernel
theorem dX6_passHour_56 : decode cX6_passHour 56 = .ok (.iload_n 3, 1) := by decide +kernel
theorem dX6_passHour_57 : decode cX6_passHour 57 = .ok (.bipush 8, 2) := by decide +kernel
theorem dX6_passHour_59 : decode cX6_passHour 59 = .ok (.if_icmp .ge 73, 3) := by decide +kernel
theorem dX6_passHour_62 : decode cX6_passHour 62 = .ok (.aload_n 1, 1) := by decide +kernel
theorem dX6_passHour_63 : decode cX6_passHour 63 = .ok (.getfield 136, 3) := by decide +kernel
theorem dX6_passHour_66 : decode cX6_passHour 66 = .ok (.iload_n 3, 1) := by decide +kernel
theorem dX6_passHour_67 : decode cX6_passHour 67 = .ok (.iaload, 1) := by decide +kernel
theorem dX6_passHour_68 : decode cX6_passHour 68 = .ok (.iconst 1, 1) := by decide +kernel
theorem dX6_passHour_69 : decode cX6_passHour 69 = .ok (.if_icmp .eq 6, 3) := by decide +kernel
theorem dX6_passHour_72 : decode cX6_passHour 72 = .ok (.goto 54, 3) := by decide +kernel
theorem dX6_passHour_75 : decode cX6_passHour 75 = .ok (.aload_n 0, 1) := by decide +kernel
theorem dX6_passHour_76 : decode cX6_passHour 76 = .ok (.getfield 29, 3) := by decide +kernel
theorem dX6_passHour_79 : decode cX6_passHour 79 = .ok (.aload_n 1, 1) := by decide +kernel
theorem dX6_passHour_80 : decode cX6_passHour 80 = .ok (.getfield 139, 3) := by decide +kernel
theorem dX6_passHour_83 : decode cX6_passHour 83 = .ok (.iload_n 3, 1) := by decide +kernel
theorem dX6_passHour_84 : decode cX6_passHour 84 = .ok (.iaload, 1) := by decide +kernel
theorem dX6_passHour_85 : decode cX6_passHour 85 = .ok (.invokevirtual 57, 3) := by decide +kernel
theorem dX6_passHour_88 : decode cX6_passHour 88 = .ok (.ifCond .eq 26, 3) := by decide +kernel
theorem dX6_passHour_91 : decode cX6_passHour 91 = .ok (.aload_n 1, 1) := by decide +kernel
theorem dX6_passHour_92 : decode cX6_passHour 92 = .ok (.getfield 136, 3) := by decide +kernel
theorem dX6_passHour_95 : decode cX6_passHour 95 = .ok (.iload_n 3, 1) := by decide +kernel
theorem dX6_passHour_96 : decode cX6_passHour 96 = .ok (.iconst 2, 1) := by decide +kernel
theorem dX6_passHour_97 : decode cX6_passHour 97 = .ok (.iastore, 1) := by decide +kernel
theorem dX6_passHour_98 : decode cX6_passHour 98 = .ok (.aload_n 1, 1) := by decide +kernel
theorem dX6_passHour_99 : decode cX6_passHour 99 = .ok (.getfield 142, 3) := by decide +kernel
theorem dX6_passHour_102 : decode cX6_passHour 102 = .ok (.iload_n 3, 1) := by decide +kernel
theorem dX6_passHour_103 : decode cX6_passHour 103 = .ok (.aload_n 1, 1) := by decide +kernel
theorem dX6_passHour_104 : decode cX6_passHour 104 = .ok (.getfield 117, 3) := by decide +kernel
theorem dX6_passHour_107 : decode cX6_passHour 107 = .ok (.iastore, 1) := by decide +kernel
theorem dX6_passHour_108 : decode cX6_passHour 108 = .ok (.iinc 2 1, 3) := by decide +kernel
theorem dX6_passHour_111 : decode cX6_passHour 111 = .ok (.goto 15, 3) := by decide +kernel
theorem dX6_passHour_114 : decode cX6_passHour 114 = .ok (.aload_n 1, 1) := by decide +kernel
theorem dX6_passHour_115 : decode cX6_passHour 115 = .ok (.getfield 139, 3) := by decide +kernel
theorem dX6_passHour_118 : decode cX6_passHour 118 = .ok (.iload_n 3, 1) := by decide +kernel
theorem dX6_passHour_119 : decode cX6_passHour 119 = .ok (.aload_n 0, 1) := by decide +kernel
theorem dX6_passHour_120 : decode cX6_passHour 120 = .ok (.getfield 18, 3) := by decide +kernel
theorem dX6_passHour_123 : decode cX6_passHour 123 = .ok (.iload_n 3, 1) := by decide +kernel
theorem dX6_passHour_124 : decode cX6_passHour 124 = .ok (.iaload, 1) := by decide +kernel
theorem dX6_passHour_125 : decode cX6_passHour 125 = .ok (.iastore, 1) := by decide +kernel
theorem dX6_passHour_126 : decode cX6_passHour 126 = .ok (.iinc 3 1, 3) := by decide +kernel
theorem dX6_passHour_129 : decode cX6_passHour 129 = .ok (.goto (-73), 3) := by decide +kernel
theorem dX6_passHour_132 : decode cX6_passHour 132 = .ok (.aload_n 1, 1) := by decide +kernel
theorem dX6_passHour_133 : decode cX6_passHour 133 = .ok (.dup, 1) := by decide +kernel
theorem dX6_passHour_134 : decode cX6_passHour 134 = .ok (.getfield 117, 3) := by decide +kernel
theorem dX6_passHour_137 : decode cX6_passHour 137 = .ok (.iconst 1, 1) := by decide +kernel
theorem dX6_passHour_138 : decode cX6_passHour 138 = .ok (.iadd, 1) := by decide +kernel
theorem dX6_passHour_139 : decode cX6_passHour 139 = .ok (.putfield 117, 3) := by decide +kernel
theorem dX6_passHour_142 : decode cX6_passHour 142 = .ok (.iload_n 2, 1) := by decide +kernel
theorem dX6_passHour_143 : decode cX6_passHour 143 = .ok (.ireturn, 1) := by decide +kernel
set_option maxRecDepth 100000 in
theorem okm_X6_passHour : okL RX6 cX6_passHour 4 (some .int) "passHour" pcX6_passHour opX6_passHour pcX6_passHour := by
  unfold opX6_passHour
  refine okL_cons (ok_aload_n rfl dX6_passHour_0) rfl ?_
  refine okL_cons (ok_aload_n rfl dX6_passHour_1) rfl ?_
  refine okL_cons (ok_aload_n rfl dX6_passHour_2) rfl ?_
  refine okL_cons (ok_getP kw_245 cf_X6 rfl rfl (by decide) dX6_passHour_3) rfl ?_
  refine okL_cons (ok_getNI 46 cf_X1 rfl rfl rfl (by decide) dX6_passHour_6) rfl ?_
  refine okL_cons (ok_invV (M' := 57) kw_277 kw_278 kw_279 kw_252 kw_280 cf_X6 rfl (by decide +kernel) dX6_passHour_9) rfl ?_
  refine okL_cons (ok_iconst rfl dX6_passHour_12) rfl ?_
  refine okL_cons (ok_istore_n rfl dX6_passHour_13) rfl ?_
  refine okL_cons (ok_iload_n rfl dX6_passHour_14) rfl ?_
  refine okL_cons (ok_bipush rfl dX6_passHour_15) rfl ?_
  refine okL_cons (ok_icmp_ge rfl dX6_passHour_17) rfl ?_
  refine okL_cons (ok_aload_n rfl dX6_passHour_20) rfl ?_
  refine okL_cons (ok_getNP 1 cf_X2 rfl rfl rfl (by decide) dX6_passHour_21) rfl ?_
  refine okL_cons (ok_iload_n rfl dX6_passHour_24) rfl ?_
  refine okL_cons (ok_iaload dX6_passHour_25) rfl ?_
  refine okL_cons (ok_iconst rfl dX6_passHour_26) rfl ?_
  refine okL_cons (ok_icmp_ne rfl dX6_passHour_27) rfl ?_
  refine okL_cons (ok_aload_n rfl dX6_passHour_30) rfl ?_
  refine okL_cons (ok_getP kw_242 cf_X6 rfl rfl (by decide) dX6_passHour_31) rfl ?_
  refine okL_cons (ok_iload_n rfl dX6_passHour_34) rfl ?_
  refine okL_cons (ok_aload_n rfl dX6_passHour_35) rfl ?_
  refine okL_cons (ok_aload_n rfl dX6_passHour_36) rfl ?_
  refine okL_cons (ok_getNP 3 cf_X2 rfl rfl rfl (by decide) dX6_passHour_37) rfl ?_
  refine okL_cons (ok_iload_n rfl dX6_passHour_40) rfl ?_
  refine okL_cons (ok_iaload dX6_passHour_41) rfl ?_
  refine okL_cons (ok_invV (M' := 60) kw_273 kw_274 kw_275 kw_252 kw_276 cf_X6 rfl (by decide +kernel) dX6_passHour_42) rfl ?_
  refine okL_cons (ok_iastore dX6_passHour_45) rfl ?_
  refine okL_cons (ok_iinc rfl dX6_passHour_46) rfl ?_
  refine okL_cons (ok_goto rfl dX6_passHour_49) rfl ?_
  refine okL_cons (ok_iconst rfl dX6_passHour_52) rfl ?_
  refine okL_cons (ok_istore_n rfl dX6_passHour_53) rfl ?_
  refine okL_cons (ok_iconst rfl dX6_passHour_54) rfl ?_
  refine okL_cons (ok_istore_n rfl dX6_passHour_55) rfl ?_
  refine okL_cons (ok_iload_n rfl dX6_passHour_56) rfl ?_
  refine okL_cons (ok_bipush rfl dX6_passHour_57) rfl ?_
  refine okL_cons (ok_icmp_ge rfl dX6_passHour_59) rfl ?_
  refine okL_cons (ok_aload_n rfl dX6_passHour_62) rfl ?_
  refine okL_cons (ok_getNP 1 cf_X2 rfl rfl rfl (by decide) dX6_passHour_63) rfl ?_
  refine okL_cons (ok_iload_n rfl dX6_passHour_66) rfl ?_
  refine okL_cons (ok_iaload dX6_passHour_67) rfl ?_
  refine okL_cons (ok_iconst rfl dX6_passHour_68) rfl ?_
  refine okL_cons (ok_icmp_eq rfl dX6_passHour_69) rfl ?_
  refine okL_cons (ok_goto rfl dX6_passHour_72) rfl ?_
  refine okL_cons (ok_aload_n rfl dX6_passHour_75) rfl ?_
  refine okL_cons (ok_getP kw_245 cf_X6 rfl rfl (by decide) dX6_passHour_76) rfl ?_
  refine okL_cons (ok_aload_n rfl dX6_passHour_79) rfl ?_
  refine okL_cons (ok_getNP 3 cf_X2 rfl rfl rfl (by decide) dX6_passHour_80) rfl ?_
  refine okL_cons (ok_iload_n rfl dX6_passHour_83) rfl ?_
  refine okL_cons (ok_iaload dX6_passHour_84) rfl ?_
  refine okL_cons (ok_invV (M' := 14) kw_255 kw_256 kw_257 kw_258 kw_259 cf_X1 rfl (by decide +kernel) dX6_passHour_85) rfl ?_
  refine okL_cons (ok_if_eq rfl dX6_passHour_88) rfl ?_
  refine okL_cons (ok_aload_n rfl dX6_passHour_91) rfl ?_
  refine okL_cons (ok_getNP 1 cf_X2 rfl rfl rfl (by decide) dX6_passHour_92) rfl ?_
  refine okL_cons (ok_iload_n rfl dX6_passHour_95) rfl ?_
  refine okL_cons (ok_iconst rfl dX6_passHour_96) rfl ?_
  refine okL_cons (ok_iastore dX6_passHour_97) rfl ?_
  refine okL_cons (ok_aload_n rfl dX6_passHour_98) rfl ?_
  refine okL_cons (ok_getNP 5 cf_X2 rfl rfl rfl (by decide) dX6_passHour_99) rfl ?_
  refine okL_cons (ok_iload_n rfl dX6_passHour_102) rfl ?_
  refine okL_cons (ok_aload_n rfl dX6_passHour_103) rfl ?_
  refine okL_cons (ok_getNI 9 cf_X2 rfl rfl rfl (by decide) dX6_passHour_104) rfl ?_
  refine okL_cons (ok_iastore dX6_passHour_107) rfl ?_
  refine okL_cons (ok_iinc rfl dX6_passHour_108) rfl ?_
  refine okL_cons (ok_goto rfl dX6_passHour_111) rfl ?_
  refine okL_cons (ok_aload_n rfl dX6_passHour_114) rfl ?_
  refine okL_cons (ok_getNP 3 cf_X2 rfl rfl rfl (by decide) dX6_passHour_115) rfl ?_
  refine okL_cons (ok_iload_n rfl dX6_passHour_118) rfl ?_
  refine okL_cons (ok_aload_n rfl dX6_passHour_119) rfl ?_
  refine okL_cons (ok_getP kw_242 cf_X6 rfl rfl (by decide) dX6_passHour_120) rfl ?_
  refine okL_cons (ok_iload_n rfl dX6_passHour_123) rfl ?_
  refine okL_cons (ok_iaload dX6_passHour_124) rfl ?_
  refine okL_cons (ok_iastore dX6_passHour_125) rfl ?_
  refine okL_cons (ok_iinc rfl dX6_passHour_126) rfl ?_
  refine okL_cons (ok_goto rfl dX6_passHour_129) rfl ?_
  refine okL_cons (ok_aload_n rfl dX6_passHour_132) rfl ?_
  refine okL_cons (ok_dup dX6_passHour_133) rfl ?_
  refine okL_cons (ok_getNI 9 cf_X2 rfl rfl rfl (by decide) dX6_passHour_134) rfl ?_
  refine okL_cons (ok_iconst rfl dX6_passHour_137) rfl ?_
  refine okL_cons (ok_iadd dX6_passHour_138) rfl ?_
  refine okL_cons (ok_putNI 9 cf_X2 rfl rfl rfl (by decide) rfl dX6_passHour_139) rfl ?_
  refine okL_cons (ok_iload_n rfl dX6_passHour_142) rfl ?_
  exact okL_one (ok_ireturn rfl dX6_passHour_143)
theorem dX7_init_0 : decode cX7_init 0 = .ok (.aload_n 0, 1) := by decide +kernel
theorem dX7_init_1 : decode cX7_init 1 = .ok (.invokespecial 3, 3) := by decide +kernel
theorem dX7_init_4 : decode cX7_init 4 = .ok (.aload_n 0, 1) := by decide +kernel
theorem dX7_init_5 : decode cX7_init 5 = .ok (.bipush 25, 2) := by decide +kernel
theorem dX7_init_7 : decode cX7_init 7 = .ok (.newarray .int, 2) := by decide +kernel
theorem dX7_init_9 : decode cX7_init 9 = .ok (.putfield 9, 3) := by decide +kernel
theorem dX7_init_12 : decode cX7_init 12 = .ok (.aload_n 0, 1) := by decide +kernel
theorem dX7_init_13 : decode cX7_init 13 = .ok (.bipush 25, 2) := by decide +kernel
theorem dX7_init_15 : decode cX7_init 15 = .ok (.newarray .int, 2) := by decide +kernel
theorem dX7_init_17 : decode cX7_init 17 = .ok (.putfield 15, 3) := by decide +kernel
theorem dX7_init_20 : decode cX7_init 20 = .ok (.aload_n 0, 1) := by decide +kernel
theorem dX7_init_21 : decode cX7_init 21 = .ok (.bipush 25, 2) := by decide +kernel
theorem dX7_init_23 : decode cX7_init 23 = .ok (.newarray .int, 2) := by decide +kernel
theorem dX7_init_25 : decode cX7_init 25 = .ok (.putfield 18, 3) := by decide +kernel
theorem dX7_init_28 : decode cX7_init 28 = .ok (.aload_n 0, 1) := by decide +kernel
theorem dX7_init_29 : decode cX7_init 29 = .ok (.bipush 8, 2) := by decide +kernel
theorem dX7_init_31 : decode cX7_init 31 = .ok (.newarray .int, 2) := by decide +kernel
theorem dX7_init_33 : decode cX7_init 33 = .ok (.putfield 21, 3) := by decide +kernel
theorem dX7_init_36 : decode cX7_init 36 = .ok (.aload_n 0, 1) := by decide +kernel
theorem dX7_init_37 : decode cX7_init 37 = .ok (.bipush 8, 2) := by decide +kernel
theorem dX7_init_39 : decode cX7_init 39 = .ok (.newarray .int, 2) := by decide +kernel
theorem dX7_init_41 : decode cX7_init 41 = .ok (.putfield 24, 3) := by decide +kernel
theorem dX7_init_44 : decode cX7_init 44 = .ok (.return_, 1) := by decide +kernel
set_option maxRecDepth 100000 in
theorem okm_X7_init : okL RX7 cX7_init 1 none "<init>" pcX7_init opX7_init pcX7_init := by
  unfold opX7_init
  refine okL_cons (ok_aload_n rfl dX7_init_0) rfl ?_
  refine okL_cons (ok_obj kw_281 kw_29 kw_30 dX7_init_1) rfl ?_
  refine okL_cons (ok_aload_n rfl dX7_init_4) rfl ?_
  refine okL_cons (ok_bipush rfl dX7_init_5) rfl ?_
  refine okL_cons (ok_newarray_int kw_31 dX7_init_7) rfl ?_
  refine okL_cons (ok_putPF kw_282 cf_X7 rfl rfl (by decide) rfl rfl rfl dX7_init_9) rfl ?_
  refine okL_cons (ok_aload_n rfl dX7_init_12) rfl ?_
  refine okL_cons (ok_bipush rfl dX7_init_13) rfl ?_
  refine okL_cons (ok_newarray_int kw_31 dX7_init_15) rfl ?_
  refine okL_cons (ok_putPF kw_283 cf_X7 rfl rfl (by decide) rfl rfl rfl dX7_init_17) rfl ?_
  refine okL_cons (ok_aload_n rfl dX7_init_20) rfl ?_
  refine okL_cons (ok_bipush rfl dX7_init_21) rfl ?_
  refine okL_cons (ok_newarray_int kw_31 dX7_init_23) rfl ?_
  refine okL_cons (ok_putPF kw_284 cf_X7 rfl rfl (by decide) rfl rfl rfl dX7_init_25) rfl ?_
  refine okL_cons (ok_aload_n rfl dX7_init_28) rfl ?_
  refine okL_cons (ok_bipush rfl dX7_init_29) rfl ?_
  refine okL_cons (ok_newarray_int kw_31 dX7_init_31) rfl ?_
  refine okL_cons (ok_putPF kw_285 cf_X7 rfl rfl (by decide) rfl rfl rfl dX7_init_33) rfl ?_
  refine okL_cons (ok_aload_n rfl dX7_init_36) rfl ?_
  refine okL_cons (ok_bipush rfl dX7_init_37) rfl ?_
  refine okL_cons (ok_newarray_int kw_31 dX7_init_39) rfl ?_
  refine okL_cons (ok_putPF kw_286 cf_X7 rfl rfl (by decide) rfl rfl rfl dX7_init_41) rfl ?_
  exact okL_one (ok_return rfl dX7_init_44)
theorem dX7_trace_0 : decode cX7_trace 0 = .ok (.aload_n 0, 1) := by decide +kernel
theorem dX7_trace_1 : decode cX7_trace 1 = .ok (.iload_n 2, 1) := by decide +kernel
theorem dX7_trace_2 : decode cX7_trace 2 = .ok (.putfield 27, 3) := by decide +kernel
theorem dX7_trace_5 : decode cX7_trace 5 = .ok (.iconst 0, 1) := by decide +kernel
theorem dX7_trace_6 : decode cX7_trace 6 = .ok (.istore_n 3, 1) := by decide +kernel
theorem dX7_trace_7 : decode cX7_trace 7 = .ok (.iload_n 3, 1) := by decide +kernel
theorem dX7_trace_8 : decode cX7_trace 8 = .ok (.bipush 25, 2) := by decide +kernel
theorem dX7_trace_10 : decode cX7_trace 10 = .ok (.if_icmp .ge 20, 3) := by decide +kernel
theorem dX7_trace_13 : decode cX7_trace 13 = .ok (.aload_n 0, 1) := by decide +kernel
theorem dX7_trace_14 : decode cX7_trace 14 = .ok (.getfield 9, 3) := by decide +kernel
theorem dX7_trace_17 : decode cX7_trace 17 = .ok (.iload_n 3, 1) := by decide +kernel
theorem dX7_trace_18 : decode cX7_trace 18 = .ok (.aload_n 1, 1) := by decide +kernel
theorem dX7_trace_19 : decode cX7_trace 19 = .ok (.iload_n 3, 1) := by decide +kernel
theorem dX7_trace_20 : decode cX7_trace 20 = .ok (.invokevirtual 31, 3) := by decide +kernel
theorem dX7_trace_23 : decode cX7_trace 23 = .ok (.iastore, 1) := by decide +kernel
theorem dX7_trace_24 : decode cX7_trace 24 = .ok (.iinc 3 1, 3) := by decide +kernel
theorem dX7_trace_27 : decode cX7_trace 27 = .ok (.goto (-20), 3) := by decide +kernel
theorem dX7_trace_30 : decode cX7_trace 30 = .ok (.iconst 0, 1) := by decide +kernel
theorem dX7_trace_31 : decode cX7_trace 31 = .ok (.istore_n 3, 1) := by decide +kernel
theorem dX7_trace_32 : decode cX7_trace 32 = .ok (.iload_n 3, 1) := by decide +kernel
theorem dX7_trace_33 : decode cX7_trace 33 = .ok (.bipush 25, 2) := by decide +kernel
theorem dX7_trace_35 : decode cX7_trace 35 = .ok (.if_icmp .ge 65, 3) := by decide +kernel
theorem dX7_trace_38 : decode cX7_trace 38 = .ok (.iload_n 3, 1) := by decide +kernel
theorem dX7_trace_39 : decode cX7_trace 39 = .ok (.istore 4, 2) := by decide +kernel
theorem dX7_trace_41 : decode cX7_trace 41 = .ok (.iconst 0, 1) := by decide +kernel
theorem dX7_trace_42 : decode cX7_trace 42 = .ok (.istore 5, 2) := by decide +kernel
theorem dX7_trace_44 : decode cX7_trace 44 = .ok (.iload 5, 2) := by decide +kernel
theorem dX7_trace_46 : decode cX7_trace 46 = .ok (.bipush 25, 2) := by decide +kernel
theorem dX7_trace_48 : decode cX7_trace 48 = .ok (.if_icmp .ge 30, 3) := by decide +kernel
theorem dX7_trace_51 : decode cX7_trace 51 = .ok (.aload_n 0, 1) := by decide +kernel
theorem dX7_trace_52 : decode cX7_trace 52 = .ok (.getfield 9, 3) := by decide +kernel
theorem dX7_trace_55 : decode cX7_trace 55 = .ok (.iload 4, 2) := by decide +kernel
theorem dX7_trace_57 : decode cX7_trace 57 = .ok (.iaload, 1) := by decide +kernel
theorem dX7_trace_58 : decode cX7_trace 58 = .ok (.iload 4, 2) := by decide +kernel
theorem dX7_trace_60 : decode cX7_trace 60 = .ok (.if_icmp .eq 18, 3) := by decide +kernel
theorem dX7_trace_63 : decode cX7_trace 63 = .ok (.aload_n 0, 1) := by decide +kernel
theorem dX7_trace_64 : decode cX7_trace 64 = .ok (.getfield 9, 3) := by decide +kernel
theorem dX7_trace_67 : decode cX7_trace 67 = .ok (.iload 4, 2) := by decide +kernel
theorem dX7_trace_69 : decode cX7_trace 69 = .ok (.iaload, 1) := by decide +kernel
theorem dX7_trace_70 : decode cX7_trace 70 = .ok (.istore 4, 2) := by decide +kernel
theorem dX7_trace_72 : decode cX7_trace 72 = .ok (.iinc 5 1, 3) := by decide +kernel
theorem dX7_trace_75 : decode cX7_trace 75 = .ok (.goto (-31), 3) := by decide +kernel
theorem dX7_trace_78 : decode cX7_trace 78 = .ok (.aload_n 0, 1) := by decide +kernel
theorem dX7_trace_79 : decode cX7_trace 79 = .ok (.getfield 15, 3) := by decide +kernel
theorem dX7_trace_82 : decode cX7_trace 82 = .ok (.iload_n 3, 1) := by decide +kernel
theorem dX7_trace_83 : decode cX7_trace 83 = .ok (.iload 5, 2) := by decide +kernel
theorem dX7_trace_85 : decode cX7_trace 85 = .ok (.iastore, 1) := by decide +kernel
theorem dX7_trace_86 : decode cX7_trace 86 = .ok (.aload_n 0, 1) := by decide +kernel
theorem dX7_trace_87 : decode cX7_trace 87 = .ok (.getfield 18, 3) := by decide +kernel
theorem dX7_trace_90 : decode cX7_trace 90 = .ok (.iload_n 3, 1) := by decide +kernel
theorem dX7_trace_91 : decode cX7_trace 91 = .ok (.iload 4, 2) := by decide +kernel
theorem dX7_trace_93 : decode cX7_trace 93 = .ok (.iastore, 1) := by decide +kernel
theorem dX7_trace_94 : decode cX7_trace 94 = .ok (.iinc 3 1, 3) := by decide +kernel
theorem dX7_trace_97 : decode cX7_trace 97 = .ok (.goto (-65), 3) := by decide +kernel
theorem dX7_trace_100 : decode cX7_trace 100 = .ok (.return_, 1) := by decide +kernel
set_option maxRecDepth 100000 in
theorem okm_X7_trace : okL RX7 cX7_trace 6 none "trace" pcX7_trace opX7_trace pcX7_trace := by
  unfold opX7_trace
  refine okL_cons (ok_aload_n rfl dX7_trace_0) rfl ?_
  refine okL_cons (ok_iload_n rfl dX7_trace_1) rfl ?_
  refine okL_cons (ok_putI kw_287 cf_X7 rfl rfl (by decide) rfl dX7_trace_2) rfl ?_
  refine okL_cons (ok_iconst rfl dX7_trace_5) rfl ?_
  refine okL_cons (ok_istore_n rfl dX7_trace_6) rfl ?_
  refine okL_cons (ok_iload_n rfl dX7_trace_7) rfl ?_
  refine okL_cons (ok_bipush rfl dX7_trace_8) rfl ?_
  refine okL_cons (ok_icmp_ge rfl dX7_trace_10) rfl ?_
  refine okL_cons (ok_aload_n rfl dX7_trace_13) rfl ?_
  refine okL_cons (ok_getP kw_282 cf_X7 rfl rfl (by decide) dX7_trace_14) rfl ?_
  refine okL_cons (ok_iload_n rfl dX7_trace_17) rfl ?_
  refine okL_cons (ok_aload_n rfl dX7_trace_18) rfl ?_
  refine okL_cons (ok_iload_n rfl dX7_trace_19) rfl ?_
  refine okL_cons (ok_invV (M' := 60) kw_288 kw_274 kw_275 kw_252 kw_276 cf_X6 rfl (by decide +kernel) dX7_trace_20) rfl ?_
  refine okL_cons (ok_iastore dX7_trace_23) rfl ?_
  refine okL_cons (ok_iinc rfl dX7_trace_24) rfl ?_
  refine okL_cons (ok_goto rfl dX7_trace_27) rfl ?_
  refine okL_cons (ok_iconst rfl dX7_trace_30) rfl ?_
  refine okL_cons (ok_istore_n rfl dX7_trace_31) rfl ?_
  refine okL_cons (ok_iload_n rfl dX7_trace_32) rfl ?_
  refine okL_cons (ok_bipush rfl dX7_trace_33) rfl ?_
  refine okL_cons (ok_icmp_ge rfl dX7_trace_35) rfl ?_
  refine okL_cons (ok_iload_n rfl dX7_trace_38) rfl ?_
  refine okL_cons (ok_istore dX7_trace_39) rfl ?_
  refine okL_cons (ok_iconst rfl dX7_trace_41) rfl ?_
  refine okL_cons (ok_istore dX7_trace_42) rfl ?_
  refine okL_cons (ok_iload dX7_trace_44) rfl ?_
  refine okL_cons (ok_bipush rfl dX7_trace_46) rfl ?_
  refine okL_cons (ok_icmp_ge rfl dX7_trace_48) rfl ?_
  refine okL_cons (ok_aload_n rfl dX7_trace_51) rfl ?_
  refine okL_cons (ok_getP kw_282 cf_X7 rfl rfl (by decide) dX7_trace_52) rfl ?_
  refine okL_cons (ok_iload dX7_trace_55) rfl ?_
  refine okL_cons (ok_iaload dX7_trace_57) rfl ?_
  refine okL_cons (ok_iload dX7_trace_58) rfl ?_
  refine okL_cons (ok_icmp_eq rfl dX7_trace_60) rfl ?_
  refine okL_cons (ok_aload_n rfl dX7_trace_63) rfl ?_
  refine okL_cons (ok_getP kw_282 cf_X7 rfl rfl (by decide) dX7_trace_64) rfl ?_
  refine okL_cons (ok_iload dX7_trace_67) rfl ?_
  refine okL_cons (ok_iaload dX7_trace_69) rfl ?_
  refine okL_cons (ok_istore dX7_trace_70) rfl ?_
  refine okL_cons (ok_iinc rfl dX7_trace_72) rfl ?_
  refine okL_cons (ok_goto rfl dX7_trace_75) rfl ?_
  refine okL_cons (ok_aload_n rfl dX7_trace_78) rfl ?_
  refine okL_cons (ok_getP kw_283 cf_X7 rfl rfl (by decide) dX7_trace_79) rfl ?_
  refine okL_cons (ok_iload_n rfl dX7_trace_82) rfl ?_
  refine okL_cons (ok_iload dX7_trace_83) rfl ?_
  refine okL_cons (ok_iastore dX7_trace_85) rfl ?_
  refine okL_cons (ok_aload_n rfl dX7_trace_86) rfl ?_
  refine okL_cons (ok_getP kw_284 cf_X7 rfl rfl (by decide) dX7_trace_87) rfl ?_
  refine okL_cons (ok_iload_n rfl dX7_trace_90) rfl ?_
  refine okL_cons (ok_iload dX7_trace_91) rfl ?_
  refine okL_cons (ok_iastore dX7_trace_93) rfl ?_
  refine okL_cons (ok_iinc rfl dX7_trace_94) rfl ?_
  refine okL_cons (ok_goto rfl dX7_trace_97) rfl ?_
  exact okL_one (ok_return rfl dX7_trace_100)
theorem dX7_placeAfter_0 : decode cX7_placeAfter 0 = .ok (.iload_n 1, 1) := by decide +kernel
theorem dX7_placeAfter_1 : decode cX7_placeAfter 1 = .ok (.istore_n 3, 1) := by decide +kernel
theorem dX7_placeAfter_2 : decode cX7_placeAfter 2 = .ok (.iconst 0, 1) := by decide +kernel
theorem dX7_placeAfter_3 : decode cX7_placeAfter 3 = .ok (.istore 4, 2) := by decide +kernel
theorem dX7_placeAfter_5 : decode cX7_placeAfter 5 = .ok (.iload 4, 2) := by decide +kernel
theorem dX7_placeAfter_7 : decode cX7_placeAfter 7 = .ok (.iload_n 2, 1) := by decide +kernel
theorem dX7_placeAfter_8 : decode cX7_placeAfter 8 = .ok (.if_icmp .ge 27, 3) := by decide +kernel
theorem dX7_placeAfter_11 : decode cX7_placeAfter 11 = .ok (.iload 4, 2) := by decide +kernel
theorem dX7_placeAfter_13 : decode cX7_placeAfter 13 = .ok (.aload_n 0, 1) := by decide +kernel
theorem dX7_placeAfter_14 : decode cX7_placeAfter 14 = .ok (.getfield 15, 3) := by decide +kernel
theorem dX7_placeAfter_17 : decode cX7_placeAfter 17 = .ok (.iload_n 1, 1) := by decide +kernel
theorem dX7_placeAfter_18 : decode cX7_placeAfter 18 = .ok (.iaload, 1) := by decide +kernel
theorem dX7_placeAfter_19 : decode cX7_placeAfter 19 = .ok (.if_icmp .ge 16, 3) := by decide +kernel
theorem dX7_placeAfter_22 : decode cX7_placeAfter 22 = .ok (.aload_n 0, 1) := by decide +kernel
theorem dX7_placeAfter_23 : decode cX7_placeAfter 23 = .ok (.getfield 9, 3) := by decide +kernel
theorem dX7_placeAfter_26 : decode cX7_placeAfter 26 = .ok (.iload_n 3, 1) := by decide +kernel
theorem dX7_placeAfter_27 : decode cX7_placeAfter 27 = .ok (.iaload, 1) := by decide +kernel
theorem dX7_placeAfter_28 : decode cX7_placeAfter 28 = .ok (.istore_n 3, 1) := by decide +kernel
theorem dX7_placeAfter_29 : decode cX7_placeAfter 29 = .ok (.iinc 4 1, 3) := by decide +kernel
theorem dX7_placeAfter_32 : decode cX7_placeAfter 32 = .ok (.goto (-27), 3) := by decide +kernel
theorem dX7_placeAfter_35 : decode cX7_placeAfter 35 = .ok (.iload_n 3, 1) := by decide +kernel
theorem dX7_placeAfter_36 : decode cX7_placeAfter 36 = .ok (.ireturn, 1) := by decide +kernel
set_option maxRecDepth 100000 in
theorem okm_X7_placeAfter : okL RX7 cX7_placeAfter 5 (some .int) "placeAfter" pcX7_placeAfter opX7_placeAfter pcX7_placeAfter := by
  unfold opX7_placeAfter
  refine okL_cons (ok_iload_n rfl dX7_placeAfter_0) rfl ?_
  refine okL_cons (ok_istore_n rfl dX7_placeAfter_1) rfl ?_
  refine okL_cons (ok_iconst rfl dX7_placeAfter_2) rfl ?_
  refine okL_cons (ok_istore dX7_placeAfter_3) rfl ?_
  refine okL_cons (ok_iload dX7_placeAfter_5) rfl ?_
  refine okL_cons (ok_iload_n rfl dX7_placeAfter_7) rfl ?_
  refine okL_cons (ok_icmp_ge rfl dX7_placeAfter_8) rfl ?_
  refine okL_cons (ok_iload dX7_placeAfter_11) rfl ?_
  refine okL_cons (ok_aload_n rfl dX7_placeAfter_13) rfl ?_
  refine okL_cons (ok_getP kw_283 cf_X7 rfl rfl (by decide) dX7_placeAfter_14) rfl ?_
  refine okL_cons (ok_iload_n rfl dX7_placeAfter_17) rfl ?_
  refine okL_cons (ok_iaload dX7_placeAfter_18) rfl ?_
  refine okL_cons (ok_icmp_ge rfl dX7_placeAfter_19) rfl ?_
  refine okL_cons (ok_aload_n rfl dX7_placeAfter_22) rfl ?_
  refine okL_cons (ok_getP kw_282 cf_X7 rfl rfl (by decide) dX7_placeAfter_23) rfl ?_
  refine okL_cons (ok_iload_n rfl dX7_placeAfter_26) rfl ?_
  refine okL_cons (ok_iaload dX7_placeAfter_27) rfl ?_
  refine okL_cons (ok_istore_n rfl dX7_placeAfter_28) rfl ?_
  refine okL_cons (ok_iinc rfl dX7_placeAfter_29) rfl ?_
  refine okL_cons (ok_goto rfl dX7_placeAfter_32) rfl ?_
  refine okL_cons (ok_iload_n rfl dX7_placeAfter_35) rfl ?_
  exact okL_one (ok_ireturn rfl dX7_placeAfter_36)
theorem dX7_isGone_0 : decode cX7_isGone 0 = .ok (.aload_n 0, 1) := by decide +kernel
theorem dX7_isGone_1 : decode cX7_isGone 1 = .ok (.getfield 18, 3) := by decide +kernel
theorem dX7_isGone_4 : decode cX7_isGone 4 = .ok (.iload_n 1, 1) := by decide +kernel
theorem dX7_isGone_5 : decode cX7_isGone 5 = .ok (.iaload, 1) := by decide +kernel
theorem dX7_isGone_6 : decode cX7_isGone 6 = .ok (.aload_n 0, 1) := by decide +kernel
theorem dX7_isGone_7 : decode cX7_isGone 7 = .ok (.getfield 27, 3) := by decide +kernel
theorem dX7_isGone_10 : decode cX7_isGone 10 = .ok (.invokestatic 36, 3) := by decide +kernel
theorem dX7_isGone_13 : decode cX7_isGone 13 = .ok (.ifCond .eq 17, 3) := by decide +kernel
theorem dX7_isGone_16 : decode cX7_isGone 16 = .ok (.iload_n 2, 1) := by decide +kernel
theorem dX7_isGone_17 : decode cX7_isGone 17 = .ok (.aload_n 0, 1) := by decide +kernel
theorem dX7_isGone_18 : decode cX7_isGone 18 = .ok (.getfield 15, 3) := by decide +kernel
theorem dX7_isGone_21 : decode cX7_isGone 21 = .ok (.iload_n 1, 1) := by decide +kernel
theorem dX7_isGone_22 : decode cX7_isGone 22 = .ok (.iaload, 1) := by decide +kernel
theorem dX7_isGone_23 : decode cX7_isGone 23 = .ok (.if_icmp .le 7, 3) := by decide +kernel
theorem dX7_isGone_26 : decode cX7_isGone 26 = .ok (.iconst 1, 1) := by decide +kernel
theorem dX7_isGone_27 : decode cX7_isGone 27 = .ok (.goto 4, 3) := by decide +kernel
theorem dX7_isGone_30 : decode cX7_isGone 30 = .ok (.iconst 0, 1) := by decide +kernel
theorem dX7_isGone_31 : decode cX7_isGone 31 = .ok (.ireturn, 1) := by decide +kernel
set_option maxRecDepth 100000 in
theorem okm_X7_isGone : okL RX7 cX7_isGone 3 (some .boolean) "isGone" pcX7_isGone opX7_isGone pcX7_isGone := by
  unfold opX7_isGone
  refine okL_cons (ok_aload_n rfl dX7_isGone_0) rfl ?_
  refine okL_cons (ok_getP kw_284 cf_X7 rfl rfl (by decide) dX7_isGone_1) rfl ?_
  refine okL_cons (ok_iload_n rfl dX7_isGone_4) rfl ?_
  refine okL_cons (ok_iaload dX7_isGone_5) rfl ?_
  refine okL_cons (ok_aload_n rfl dX7_isGone_6) rfl ?_
  refine okL_cons (ok_getI kw_287 cf_X7 rfl rfl (by decide) dX7_isGone_7) rfl ?_
  refine okL_cons (ok_invNS (M' := 162) 13 kw_78 kw_79 kw_80 rfl rfl (by decide +kernel) dX7_isGone_10) rfl ?_
  refine okL_cons (ok_if_eq rfl dX7_isGone_13) rfl ?_
  refine okL_cons (ok_iload_n rfl dX7_isGone_16) rfl ?_
  refine okL_cons (ok_aload_n rfl dX7_isGone_17) rfl ?_
  refine okL_cons (ok_getP kw_283 cf_X7 rfl rfl (by decide) dX7_isGone_18) rfl ?_
  refine okL_cons (ok_iload_n rfl dX7_isGone_21) rfl ?_
  refine okL_cons (ok_iaload dX7_isGone_22) rfl ?_
  refine okL_cons (ok_icmp_le rfl dX7_isGone_23) rfl ?_
  refine okL_cons (ok_iconst rfl dX7_isGone_26) rfl ?_
  refine okL_cons (ok_goto rfl dX7_isGone_27) rfl ?_
  refine okL_cons (ok_iconst rfl dX7_isGone_30) rfl ?_
  exact okL_one (ok_zreturn rfl dX7_isGone_31)
theorem dX7_endingAt_0 : decode cX7_endingAt 0 = .ok (.iconst 0, 1) := by decide +kernel
theorem dX7_endingAt_1 : decode cX7_endingAt 1 = .ok (.istore_n 2, 1) := by decide +kernel
theorem dX7_endingAt_2 : decode cX7_endingAt 2 = .ok (.iconst 0, 1) := by decide +kernel
theorem dX7_endingAt_3 : decode cX7_endingAt 3 = .ok (.istore_n 3, 1) := by decide +kernel
theorem dX7_endingAt_4 : decode cX7_endingAt 4 = .ok (.iload_n 3, 1) := by decide +kernel
theorem dX7_endingAt_5 : decode cX7_endingAt 5 = .ok (.bipush 25, 2) := by decide +kernel
theorem dX7_endingAt_7 : decode cX7_endingAt 7 = .ok (.if_icmp .ge 25, 3) := by decide +kernel
theorem dX7_endingAt_10 : decode cX7_endingAt 10 = .ok (.aload_n 0, 1) := by decide +kernel
theorem dX7_endingAt_11 : decode cX7_endingAt 11 = .ok (.getfield 18, 3) := by decide +kernel
theorem dX7_endingAt_14 : decode cX7_endingAt 14 = .ok (.iload_n 3, 1) := by decide +kernel
theorem dX7_endingAt_15 : decode cX7_endingAt 15 = .ok (.iaload, 1) := by decide +kernel
theorem dX7_endingAt_16 : decode cX7_endingAt 16 = .ok (.iload_n 1, 1) := by decide +kernel
theorem dX7_endingAt_17 : decode cX7_endingAt 17 = .ok (.if_icmp .ne 9, 3) := by decide +kernel
theorem dX7_endingAt_20 : decode cX7_endingAt 20 = .ok (.iload_n 2, 1) := by decide +kernel
theorem dX7_endingAt_21 : decode cX7_endingAt 21 = .ok (.iconst 1, 1) := by decide +kernel
theorem dX7_endingAt_22 : decode cX7_endingAt 22 = .ok (.iload_n 3, 1) := by decide +kernel
theorem dX7_endingAt_23 : decode cX7_endingAt 23 = .ok (.ishl, 1) := by decide +kernel
theorem dX7_endingAt_24 : decode cX7_endingAt 24 = .ok (.ior, 1) := by decide +kernel
theorem dX7_endingAt_25 : decode cX7_endingAt 25 = .ok (.istore_n 2, 1) := by decide +kernel
theorem dX7_endingAt_26 : decode cX7_endingAt 26 = .ok (.iinc 3 1, 3) := by decide +kernel
theorem dX7_endingAt_29 : decode cX7_endingAt 29 = .ok (.goto (-25), 3) := by decide +kernel
theorem dX7_endingAt_32 : decode cX7_endingAt 32 = .ok (.iload_n 2, 1) := by decide +kernel
theorem dX7_endingAt_33 : decode cX7_endingAt 33 = .ok (.ireturn, 1) := by decide +kernel
set_option maxRecDepth 100000 in
theorem okm_X7_endingAt : okL RX7 cX7_endingAt 4 (some .int) "endingAt" pcX7_endingAt opX7_endingAt pcX7_endingAt := by
  unfold opX7_endingAt
  refine okL_cons (ok_iconst rfl dX7_endingAt_0) rfl ?_
  refine okL_cons (ok_istore_n rfl dX7_endingAt_1) rfl ?_
  refine okL_cons (ok_iconst rfl dX7_endingAt_2) rfl ?_
  refine okL_cons (ok_istore_n rfl dX7_endingAt_3) rfl ?_
  refine okL_cons (ok_iload_n rfl dX7_endingAt_4) rfl ?_
  refine okL_cons (ok_bipush rfl dX7_endingAt_5) rfl ?_
  refine okL_cons (ok_icmp_ge rfl dX7_endingAt_7) rfl ?_
  refine okL_cons (ok_aload_n rfl dX7_endingAt_10) rfl ?_
  refine okL_cons (ok_getP kw_284 cf_X7 rfl rfl (by decide) dX7_endingAt_11) rfl ?_
  refine okL_cons (ok_iload_n rfl dX7_endingAt_14) rfl ?_
  refine okL_cons (ok_iaload dX7_endingAt_15) rfl ?_
  refine okL_cons (ok_iload_n rfl dX7_endingAt_16) rfl ?_
  refine okL_cons (ok_icmp_ne rfl dX7_endingAt_17) rfl ?_
  refine okL_cons (ok_iload_n rfl dX7_endingAt_20) rfl ?_
  refine okL_cons (ok_iconst rfl dX7_endingAt_21) rfl ?_
  refine okL_cons (ok_iload_n rfl dX7_endingAt_22) rfl ?_
  refine okL_cons (ok_ishl dX7_endingAt_23) rfl ?_
  refine okL_cons (ok_ior dX7_endingAt_24) rfl ?_
  refine okL_cons (ok_istore_n rfl dX7_endingAt_25) rfl ?_
  refine okL_cons (ok_iinc rfl dX7_endingAt_26) rfl ?_
  refine okL_cons (ok_goto rfl dX7_endingAt_29) rfl ?_
  refine okL_cons (ok_iload_n rfl dX7_endingAt_32) rfl ?_
  exact okL_one (ok_ireturn rfl dX7_endingAt_33)
theorem dX7_cellsOf_0 : decode cX7_cellsOf 0 = .ok (.iconst 0, 1) := by decide +kernel
theorem dX7_cellsOf_1 : decode cX7_cellsOf 1 = .ok (.istore_n 2, 1) := by decide +kernel
theorem dX7_cellsOf_2 : decode cX7_cellsOf 2 = .ok (.iconst 0, 1) := by decide +kernel
theorem dX7_cellsOf_3 : decode cX7_cellsOf 3 = .ok (.istore_n 3, 1) := by decide +kernel
theorem dX7_cellsOf_4 : decode cX7_cellsOf 4 = .ok (.iload_n 3, 1) := by decide +kernel
theorem dX7_cellsOf_5 : decode cX7_cellsOf 5 = .ok (.aload_n 0, 1) := by decide +kernel
theorem dX7_cellsOf_6 : decode cX7_cellsOf 6 = .ok (.getfield 15, 3) := by decide +kernel
theorem dX7_cellsOf_9 : decode cX7_cellsOf 9 = .ok (.iload_n 1, 1) := by decide +kernel
theorem dX7_cellsOf_10 : decode cX7_cellsOf 10 = .ok (.iaload, 1) := by decide +kernel
theorem dX7_cellsOf_11 : decode cX7_cellsOf 11 = .ok (.if_icmp .gt 20, 3) := by decide +kernel
theorem dX7_cellsOf_14 : decode cX7_cellsOf 14 = .ok (.iload_n 2, 1) := by decide +kernel
theorem dX7_cellsOf_15 : decode cX7_cellsOf 15 = .ok (.iconst 1, 1) := by decide +kernel
theorem dX7_cellsOf_16 : decode cX7_cellsOf 16 = .ok (.aload_n 0, 1) := by decide +kernel
theorem dX7_cellsOf_17 : decode cX7_cellsOf 17 = .ok (.iload_n 1, 1) := by decide +kernel
theorem dX7_cellsOf_18 : decode cX7_cellsOf 18 = .ok (.iload_n 3, 1) := by decide +kernel
theorem dX7_cellsOf_19 : decode cX7_cellsOf 19 = .ok (.invokevirtual 40, 3) := by decide +kernel
theorem dX7_cellsOf_22 : decode cX7_cellsOf 22 = .ok (.ishl, 1) := by decide +kernel
theorem dX7_cellsOf_23 : decode cX7_cellsOf 23 = .ok (.ior, 1) := by decide +kernel
theorem dX7_cellsOf_24 : decode cX7_cellsOf 24 = .ok (.istore_n 2, 1) := by decide +kernel
theorem dX7_cellsOf_25 : decode cX7_cellsOf 25 = .ok (.iinc 3 1, 3) := by decide +kernel
theorem dX7_cellsOf_28 : decode cX7_cellsOf 28 = .ok (.goto (-24), 3) := by decide +kernel
theorem dX7_cellsOf_31 : decode cX7_cellsOf 31 = .ok (.iload_n 2, 1) := by decide +kernel
theorem dX7_cellsOf_32 : decode cX7_cellsOf 32 = .ok (.ireturn, 1) := by decide +kernel
set_option maxRecDepth 100000 in
theorem okm_X7_cellsOf : okL RX7 cX7_cellsOf 4 (some .int) "cellsOf" pcX7_cellsOf opX7_cellsOf pcX7_cellsOf := by
  unfold opX7_cellsOf
  refine okL_cons (ok_iconst rfl dX7_cellsOf_0) rfl ?_
  refine okL_cons (ok_istore_n rfl dX7_cellsOf_1) rfl ?_
  refine okL_cons (ok_iconst rfl dX7_cellsOf_2) rfl ?_
  refine okL_cons (ok_istore_n rfl dX7_cellsOf_3) rfl ?_
  refine okL_cons (ok_iload_n rfl dX7_cellsOf_4) rfl ?_
  refine okL_cons (ok_aload_n rfl dX7_cellsOf_5) rfl ?_
  refine okL_cons (ok_getP kw_283 cf_X7 rfl rfl (by decide) dX7_cellsOf_6) rfl ?_
  refine okL_cons (ok_iload_n rfl dX7_cellsOf_9) rfl ?_
  refine okL_cons (ok_iaload dX7_cellsOf_10) rfl ?_
  refine okL_cons (ok_icmp_gt rfl dX7_cellsOf_11) rfl ?_
  refine okL_cons (ok_iload_n rfl dX7_cellsOf_14) rfl ?_
  refine okL_cons (ok_iconst rfl dX7_cellsOf_15) rfl ?_
  refine okL_cons (ok_aload_n rfl dX7_cellsOf_16) rfl ?_
  refine okL_cons (ok_iload_n rfl dX7_cellsOf_17) rfl ?_
  refine okL_cons (ok_iload_n rfl dX7_cellsOf_18) rfl ?_
  refine okL_cons (ok_invV (M' := 67) kw_289 kw_290 kw_291 kw_292 kw_293 cf_X7 rfl (by decide +kernel) dX7_cellsOf_19) rfl ?_
  refine okL_cons (ok_ishl dX7_cellsOf_22) rfl ?_
  refine okL_cons (ok_ior dX7_cellsOf_23) rfl ?_
  refine okL_cons (ok_istore_n rfl dX7_cellsOf_24) rfl ?_
  refine okL_cons (ok_iinc rfl dX7_cellsOf_25) rfl ?_
  refine okL_cons (ok_goto rfl dX7_cellsOf_28) rfl ?_
  refine okL_cons (ok_iload_n rfl dX7_cellsOf_31) rfl ?_
  exact okL_one (ok_ireturn rfl dX7_cellsOf_32)
theorem dX7_firstOnBoth_0 : decode cX7_firstOnBoth 0 = .ok (.aload_n 0, 1) := by decide +kernel
theorem dX7_firstOnBoth_1 : decode cX7_firstOnBoth 1 = .ok (.iload_n 2, 1) := by decide +kernel
theorem dX7_firstOnBoth_2 : decode cX7_firstOnBoth 2 = .ok (.invokevirtual 44, 3) := by decide +kernel
theorem dX7_firstOnBoth_5 : decode cX7_firstOnBoth 5 = .ok (.istore_n 3, 1) := by decide +kernel
theorem dX7_firstOnBoth_6 : decode cX7_firstOnBoth 6 = .ok (.iconst 0, 1) := by decide +kernel
theorem dX7_firstOnBoth_7 : decode cX7_firstOnBoth 7 = .ok (.istore 4, 2) := by decide +kernel
theorem dX7_firstOnBoth_9 : decode cX7_firstOnBoth 9 = .ok (.iload 4, 2) := by decide +kernel
theorem dX7_firstOnBoth_11 : decode cX7_firstOnBoth 11 = .ok (.aload_n 0, 1) := by decide +kernel
theorem dX7_firstOnBoth_12 : decode cX7_firstOnBoth 12 = .ok (.getfield 15, 3) := by decide +kernel
theorem dX7_firstOnBoth_15 : decode cX7_firstOnBoth 15 = .ok (.iload_n 1, 1) := by decide +kernel
theorem dX7_firstOnBoth_16 : decode cX7_firstOnBoth 16 = .ok (.iaload, 1) := by decide +kernel
theorem dX7_firstOnBoth_17 : decode cX7_firstOnBoth 17 = .ok (.if_icmp .gt 30, 3) := by decide +kernel
theorem dX7_firstOnBoth_20 : decode cX7_firstOnBoth 20 = .ok (.aload_n 0, 1) := by decide +kernel
theorem dX7_firstOnBoth_21 : decode cX7_firstOnBoth 21 = .ok (.iload_n 1, 1) := by decide +kernel
theorem dX7_firstOnBoth_22 : decode cX7_firstOnBoth 22 = .ok (.iload 4, 2) := by decide +kernel
theorem dX7_firstOnBoth_24 : decode cX7_firstOnBoth 24 = .ok (.invokevirtual 40, 3) := by decide +kernel
theorem dX7_firstOnBoth_27 : decode cX7_firstOnBoth 27 = .ok (.istore 5, 2) := by decide +kernel
theorem dX7_firstOnBoth_29 : decode cX7_firstOnBoth 29 = .ok (.iload 5, 2) := by decide +kernel
theorem dX7_firstOnBoth_31 : decode cX7_firstOnBoth 31 = .ok (.iload_n 3, 1) := by decide +kernel
theorem dX7_firstOnBoth_32 : decode cX7_firstOnBoth 32 = .ok (.invokestatic 36, 3) := by decide +kernel
theorem dX7_firstOnBoth_35 : decode cX7_firstOnBoth 35 = .ok (.ifCond .eq 6, 3) := by decide +kernel
theorem dX7_firstOnBoth_38 : decode cX7_firstOnBoth 38 = .ok (.iload 5, 2) := by decide +kernel
theorem dX7_firstOnBoth_40 : decode cX7_firstOnBoth 40 = .ok (.ireturn, 1) := by decide +kernel
theorem dX7_firstOnBoth_41 : decode cX7_firstOnBoth 41 = .ok (.iinc 4 1, 3) := by decide +kernel
theorem dX7_firstOnBoth_44 : decode cX7_firstOnBoth 44 = .ok (.goto (-35), 3) := by decide +kernel
theorem dX7_firstOnBoth_47 : decode cX7_firstOnBoth 47 = .ok (.iconst (-1), 1) := by decide +kernel
theorem dX7_firstOnBoth_48 : decode cX7_firstOnBoth 48 = .ok (.ireturn, 1) := by decide +kernel
set_option maxRecDepth 100000 in
theorem okm_X7_firstOnBoth : okL RX7 cX7_firstOnBoth 6 (some .int) "firstOnBoth" pcX7_firstOnBoth opX7_firstOnBoth pcX7_firstOnBoth := by
  unfold opX7_firstOnBoth
  refine okL_cons (ok_aload_n rfl dX7_firstOnBoth_0) rfl ?_
  refine okL_cons (ok_iload_n rfl dX7_firstOnBoth_1) rfl ?_
  refine okL_cons (ok_invV (M' := 70) kw_294 kw_295 kw_296 kw_292 kw_297 cf_X7 rfl (by decide +kernel) dX7_firstOnBoth_2) rfl ?_
  refine okL_cons (ok_istore_n rfl dX7_firstOnBoth_5) rfl ?_
  refine okL_cons (ok_iconst rfl dX7_firstOnBoth_6) rfl ?_
  refine okL_cons (ok_istore dX7_firstOnBoth_7) rfl ?_
  refine okL_cons (ok_iload dX7_firstOnBoth_9) rfl ?_
  refine okL_cons (ok_aload_n rfl dX7_firstOnBoth_11) rfl ?_
  refine okL_cons (ok_getP kw_283 cf_X7 rfl rfl (by decide) dX7_firstOnBoth_12) rfl ?_
  refine okL_cons (ok_iload_n rfl dX7_firstOnBoth_15) rfl ?_
  refine okL_cons (ok_iaload dX7_firstOnBoth_16) rfl ?_
  refine okL_cons (ok_icmp_gt rfl dX7_firstOnBoth_17) rfl ?_
  refine okL_cons (ok_aload_n rfl dX7_firstOnBoth_20) rfl ?_
  refine okL_cons (ok_iload_n rfl dX7_firstOnBoth_21) rfl ?_
  refine okL_cons (ok_iload dX7_firstOnBoth_22) rfl ?_
  refine okL_cons (ok_invV (M' := 67) kw_289 kw_290 kw_291 kw_292 kw_293 cf_X7 rfl (by decide +kernel) dX7_firstOnBoth_24) rfl ?_
  refine okL_cons (ok_istore dX7_firstOnBoth_27) rfl ?_
  refine okL_cons (ok_iload dX7_firstOnBoth_29) rfl ?_
  refine okL_cons (ok_iload_n rfl dX7_firstOnBoth_31) rfl ?_
  refine okL_cons (ok_invNS (M' := 162) 13 kw_78 kw_79 kw_80 rfl rfl (by decide +kernel) dX7_firstOnBoth_32) rfl ?_
  refine okL_cons (ok_if_eq rfl dX7_firstOnBoth_35) rfl ?_
  refine okL_cons (ok_iload dX7_firstOnBoth_38) rfl ?_
  refine okL_cons (ok_ireturn rfl dX7_firstOnBoth_40) rfl ?_
  refine okL_cons (ok_iinc rfl dX7_firstOnBoth_41) rfl ?_
  refine okL_cons (ok_goto rfl dX7_firstOnBoth_44) rfl ?_
  refine okL_cons (ok_iconst rfl dX7_firstOnBoth_47) rfl ?_
  exact okL_one (ok_ireturn rfl dX7_firstOnBoth_48)
theorem dX7_everOnOne_0 : decode cX7_everOnOne 0 = .ok (.iconst 0, 1) := by decide +kernel
theorem dX7_everOnOne_1 : decode cX7_everOnOne 1 = .ok (.istore 4, 2) := by decide +kernel
theorem dX7_everOnOne_3 : decode cX7_everOnOne 3 = .ok (.iload 4, 2) := by decide +kernel
theorem dX7_everOnOne_5 : decode cX7_everOnOne 5 = .ok (.bipush 25, 2) := by decide +kernel
theorem dX7_everOnOne_7 : decode cX7_everOnOne 7 = .ok (.if_icmp .gt 64, 3) := by decide +kernel
theorem dX7_everOnOne_10 : decode cX7_everOnOne 10 = .ok (.aload_n 0, 1) := by decide +kernel
theorem dX7_everOnOne_11 : decode cX7_everOnOne 11 = .ok (.iload_n 1, 1) := by decide +kernel
theorem dX7_everOnOne_12 : decode cX7_everOnOne 12 = .ok (.iload 4, 2) := by decide +kernel
theorem dX7_everOnOne_14 : decode cX7_everOnOne 14 = .ok (.iload_n 3, 1) := by decide +kernel
theorem dX7_everOnOne_15 : decode cX7_everOnOne 15 = .ok (.iadd, 1) := by decide +kernel
theorem dX7_everOnOne_16 : decode cX7_everOnOne 16 = .ok (.invokevirtual 47, 3) := by decide +kernel
theorem dX7_everOnOne_19 : decode cX7_everOnOne 19 = .ok (.ifCond .ne 17, 3) := by decide +kernel
theorem dX7_everOnOne_22 : decode cX7_everOnOne 22 = .ok (.aload_n 0, 1) := by decide +kernel
theorem dX7_everOnOne_23 : decode cX7_everOnOne 23 = .ok (.iload_n 2, 1) := by decide +kernel
theorem dX7_everOnOne_24 : decode cX7_everOnOne 24 = .ok (.iload 4, 2) := by decide +kernel
theorem dX7_everOnOne_26 : decode cX7_everOnOne 26 = .ok (.invokevirtual 47, 3) := by decide +kernel
theorem dX7_everOnOne_29 : decode cX7_everOnOne 29 = .ok (.ifCond .ne 7, 3) := by decide +kernel
theorem dX7_everOnOne_32 : decode cX7_everOnOne 32 = .ok (.iconst 1, 1) := by decide +kernel
theorem dX7_everOnOne_33 : decode cX7_everOnOne 33 = .ok (.goto 4, 3) := by decide +kernel
theorem dX7_everOnOne_36 : decode cX7_everOnOne 36 = .ok (.iconst 0, 1) := by decide +kernel
theorem dX7_everOnOne_37 : decode cX7_everOnOne 37 = .ok (.istore 5, 2) := by decide +kernel
theorem dX7_everOnOne_39 : decode cX7_everOnOne 39 = .ok (.iload 5, 2) := by decide +kernel
theorem dX7_everOnOne_41 : decode cX7_everOnOne 41 = .ok (.ifCond .eq 24, 3) := by decide +kernel
theorem dX7_everOnOne_44 : decode cX7_everOnOne 44 = .ok (.aload_n 0, 1) := by decide +kernel
theorem dX7_everOnOne_45 : decode cX7_everOnOne 45 = .ok (.iload_n 1, 1) := by decide +kernel
theorem dX7_everOnOne_46 : decode cX7_everOnOne 46 = .ok (.iload 4, 2) := by decide +kernel
theorem dX7_everOnOne_48 : decode cX7_everOnOne 48 = .ok (.iload_n 3, 1) := by decide +kernel
theorem dX7_everOnOne_49 : decode cX7_everOnOne 49 = .ok (.iadd, 1) := by decide +kernel
theorem dX7_everOnOne_50 : decode cX7_everOnOne 50 = .ok (.invokevirtual 40, 3) := by decide +kernel
theorem dX7_everOnOne_53 : decode cX7_everOnOne 53 = .ok (.aload_n 0, 1) := by decide +kernel
theorem dX7_everOnOne_54 : decode cX7_everOnOne 54 = .ok (.iload_n 2, 1) := by decide +kernel
theorem dX7_everOnOne_55 : decode cX7_everOnOne 55 = .ok (.iload 4, 2) := by decide +kernel
theorem dX7_everOnOne_57 : decode cX7_everOnOne 57 = .ok (.invokevirtual 40, 3) := by decide +kernel
theorem dX7_everOnOne_60 : decode cX7_everOnOne 60 = .ok (.if_icmp .ne 5, 3) := by decide +kernel
theorem dX7_everOnOne_63 : decode cX7_everOnOne 63 = .ok (.iconst 1, 1) := by decide +kernel
theorem dX7_everOnOne_64 : decode cX7_everOnOne 64 = .ok (.ireturn, 1) := by decide +kernel
theorem dX7_everOnOne_65 : decode cX7_everOnOne 65 = .ok (.iinc 4 1, 3) := by decide +kernel
theorem dX7_everOnOne_68 : decode cX7_everOnOne 68 = .ok (.goto (-65), 3) := by decide +kernel
theorem dX7_everOnOne_71 : decode cX7_everOnOne 71 = .ok (.iconst 0, 1) := by decide +kernel
theorem dX7_everOnOne_72 : decode cX7_everOnOne 72 = .ok (.ireturn, 1) := by decide +kernel
set_option maxRecDepth 100000 in
theorem okm_X7_everOnOne : okL RX7 cX7_everOnOne 6 (some .boolean) "everOnOne" pcX7_everOnOne opX7_everOnOne pcX7_everOnOne := by
  unfold opX7_everOnOne
  refine okL_cons (ok_iconst rfl dX7_everOnOne_0) rfl ?_
  refine okL_cons (ok_istore dX7_everOnOne_1) rfl ?_
  refine okL_cons (ok_iload dX7_everOnOne_3) rfl ?_
  refine okL_cons (ok_bipush rfl dX7_everOnOne_5) rfl ?_
  refine okL_cons (ok_icmp_gt rfl dX7_everOnOne_7) rfl ?_
  refine okL_cons (ok_aload_n rfl dX7_everOnOne_10) rfl ?_
  refine okL_cons (ok_iload_n rfl dX7_everOnOne_11) rfl ?_
  refine okL_cons (ok_iload dX7_everOnOne_12) rfl ?_
  refine okL_cons (ok_iload_n rfl dX7_everOnOne_14) rfl ?_
  refine okL_cons (ok_iadd dX7_everOnOne_15) rfl ?_
  refine okL_cons (ok_invV (M' := 68) kw_298 kw_299 kw_300 kw_292 kw_301 cf_X7 rfl (by decide +kernel) dX7_everOnOne_16) rfl ?_
  refine okL_cons (ok_if_ne rfl dX7_everOnOne_19) rfl ?_
  refine okL_cons (ok_aload_n rfl dX7_everOnOne_22) rfl ?_
  refine okL_cons (ok_iload_n rfl dX7_everOnOne_23) rfl ?_
  refine okL_cons (ok_iload dX7_everOnOne_24) rfl ?_
  refine okL_cons (ok_invV (M' := 68) kw_298 kw_299 kw_300 kw_292 kw_301 cf_X7 rfl (by decide +kernel) dX7_everOnOne_26) rfl ?_
  refine okL_cons (ok_if_ne rfl dX7_everOnOne_29) rfl ?_
  refine okL_cons (ok_iconst rfl dX7_everOnOne_32) rfl ?_
  refine okL_cons (ok_goto rfl dX7_everOnOne_33) rfl ?_
  refine okL_cons (ok_iconst rfl dX7_everOnOne_36) rfl ?_
  refine okL_cons (ok_istore dX7_everOnOne_37) rfl ?_
  refine okL_cons (ok_iload dX7_everOnOne_39) rfl ?_
  refine okL_cons (ok_if_eq rfl dX7_everOnOne_41) rfl ?_
  refine okL_cons (ok_aload_n rfl dX7_everOnOne_44) rfl ?_
  refine okL_cons (ok_iload_n rfl dX7_everOnOne_45) rfl ?_
  refine okL_cons (ok_iload dX7_everOnOne_46) rfl ?_
  refine okL_cons (ok_iload_n rfl dX7_everOnOne_48) rfl ?_
  refine okL_cons (ok_iadd dX7_everOnOne_49) rfl ?_
  refine okL_cons (ok_invV (M' := 67) kw_289 kw_290 kw_291 kw_292 kw_293 cf_X7 rfl (by decide +kernel) dX7_everOnOne_50) rfl ?_
  refine okL_cons (ok_aload_n rfl dX7_everOnOne_53) rfl ?_
  refine okL_cons (ok_iload_n rfl dX7_everOnOne_54) rfl ?_
  refine okL_cons (ok_iload dX7_everOnOne_55) rfl ?_
  refine okL_cons (ok_invV (M' := 67) kw_289 kw_290 kw_291 kw_292 kw_293 cf_X7 rfl (by decide +kernel) dX7_everOnOne_57) rfl ?_
  refine okL_cons (ok_icmp_ne rfl dX7_everOnOne_60) rfl ?_
  refine okL_cons (ok_iconst rfl dX7_everOnOne_63) rfl ?_
  refine okL_cons (ok_zreturn rfl dX7_everOnOne_64) rfl ?_
  refine okL_cons (ok_iinc rfl dX7_everOnOne_65) rfl ?_
  refine okL_cons (ok_goto rfl dX7_everOnOne_68) rfl ?_
  refine okL_cons (ok_iconst rfl dX7_everOnOne_71) rfl ?_
  exact okL_one (ok_zreturn rfl dX7_everOnOne_72)
theorem dX7_sortApart_0 : decode cX7_sortApart 0 = .ok (.iconst 0, 1) := by decide +kernel
theorem dX7_sortApart_1 : decode cX7_sortApart 1 = .ok (.istore_n 2, 1) := by decide +kernel
theorem dX7_sortApart_2 : decode cX7_sortApart 2 = .ok (.iconst 0, 1) := by decide +kernel
theorem dX7_sortApart_3 : decode cX7_sortApart 3 = .ok (.istore_n 3, 1) := by decide +kernel
theorem dX7_sortApart_4 : decode cX7_sortApart 4 = .ok (.iconst 0, 1) := by decide +kernel
theorem dX7_sortApart_5 : decode cX7_sortApart 5 = .ok (.istore 4, 2) := by decide +kernel
theorem dX7_sortApart_7 : decode cX7_sortApart 7 = .ok (.iload 4, 2) := by decide +kernel
theorem dX7_sortApart_9 : decode cX7_sortApart 9 = .ok (.bipush 25, 2) := by decide +kernel
theorem dX7_sortApart_11 : decode cX7_sortApart 11 = .ok (.if_icmp .ge 59, 3) := by decide +kernel
theorem dX7_sortApart_14 : decode cX7_sortApart 14 = .ok (.iload_n 2, 1) := by decide +kernel
theorem dX7_sortApart_15 : decode cX7_sortApart 15 = .ok (.bipush 8, 2) := by decide +kernel
theorem dX7_sortApart_17 : decode cX7_sortApart 17 = .ok (.if_icmp .ge 53, 3) := by decide +kernel
theorem dX7_sortApart_20 : decode cX7_sortApart 20 = .ok (.iload 4, 2) := by decide +kernel
theorem dX7_sortApart_22 : decode cX7_sortApart 22 = .ok (.iload_n 1, 1) := by decide +kernel
theorem dX7_sortApart_23 : decode cX7_sortApart 23 = .ok (.invokestatic 36, 3) := by decide +kernel
theorem dX7_sortApart_26 : decode cX7_sortApart 26 = .ok (.ifCond .eq 38, 3) := by decide +kernel
theorem dX7_sortApart_29 : decode cX7_sortApart 29 = .ok (.aload_n 0, 1) := by decide +kernel
theorem dX7_sortApart_30 : decode cX7_sortApart 30 = .ok (.getfield 24, 3) := by decide +kernel
theorem dX7_sortApart_33 : decode cX7_sortApart 33 = .ok (.iload_n 2, 1) := by decide +kernel
theorem dX7_sortApart_34 : decode cX7_sortApart 34 = .ok (.iload 4, 2) := by decide +kernel
theorem dX7_sortApart_36 : decode cX7_sortApart 36 = .ok (.iastore, 1) := by decide +kernel
theorem dX7_sortApart_37 : decode cX7_sortApart 37 = .ok (.aload_n 0, 1) := by decide +kernel
theorem dX7_sortApart_38 : decode cX7_sortApart 38 = .ok (.getfield 21, 3) := by decide +kernel
theorem dX7_sortApart_41 : decode cX7_sortApart 41 = .ok (.iload_n 2, 1) := by decide +kernel
theorem dX7_sortApart_42 : decode cX7_sortApart 42 = .ok (.aload_n 0, 1) := by decide +kernel
theorem dX7_sortApart_43 : decode cX7_sortApart 43 = .ok (.iload_n 2, 1) := by decide +kernel
theorem dX7_sortApart_44 : decode cX7_sortApart 44 = .ok (.invokevirtual 50, 3) := by decide +kernel
theorem dX7_sortApart_47 : decode cX7_sortApart 47 = .ok (.iastore, 1) := by decide +kernel
theorem dX7_sortApart_48 : decode cX7_sortApart 48 = .ok (.iload_n 3, 1) := by decide +kernel
theorem dX7_sortApart_49 : decode cX7_sortApart 49 = .ok (.aload_n 0, 1) := by decide +kernel
theorem dX7_sortApart_50 : decode cX7_sortApart 50 = .ok (.getfield 21, 3) := by decide +kernel
theorem dX7_sortApart_53 : decode cX7_sortApart 53 = .ok (.iload_n 2, 1) := by decide +kernel
theorem dX7_sortApart_54 : decode cX7_sortApart 54 = .ok (.iaload, 1) := by decide +kernel
theorem dX7_sortApart_55 : decode cX7_sortApart 55 = .ok (.iconst 1, 1) := by decide +kernel
theorem dX7_sortApart_56 : decode cX7_sortApart 56 = .ok (.iadd, 1) := by decide +kernel
theorem dX7_sortApart_57 : decode cX7_sortApart 57 = .ok (.invokestatic 53, 3) := by decide +kernel
theorem dX7_sortApart_60 : decode cX7_sortApart 60 = .ok (.istore_n 3, 1) := by decide +kernel
theorem dX7_sortApart_61 : decode cX7_sortApart 61 = .ok (.iinc 2 1, 3) := by decide +kernel
theorem dX7_sortApart_64 : decode cX7_sortApart 64 = .ok (.iinc 4 1, 3) := by decide +kernel
theorem dX7_sortApart_67 : decode cX7_sortApart 67 = .ok (.goto (-60), 3) := by decide +kernel
theorem dX7_sortApart_70 : decode cX7_sortApart 70 = .ok (.iload_n 3, 1) := by decide +kernel
theorem dX7_sortApart_71 : decode cX7_sortApart 71 = .ok (.ireturn, 1) := by decide +kernel
set_option maxRecDepth 100000 in
theorem okm_X7_sortApart : okL RX7 cX7_sortApart 5 (some .int) "sortApart" pcX7_sortApart opX7_sortApart pcX7_sortApart := by
  unfold opX7_sortApart
  refine okL_cons (ok_iconst rfl dX7_sortApart_0) rfl ?_
  refine okL_cons (ok_istore_n rfl dX7_sortApart_1) rfl ?_
  refine okL_cons (ok_iconst rfl dX7_sortApart_2) rfl ?_
  refine okL_cons (ok_istore_n rfl dX7_sortApart_3) rfl ?_
  refine okL_cons (ok_iconst rfl dX7_sortApart_4) rfl ?_
  refine okL_cons (ok_istore dX7_sortApart_5) rfl ?_
  refine okL_cons (ok_iload dX7_sortApart_7) rfl ?_
  refine okL_cons (ok_bipush rfl dX7_sortApart_9) rfl ?_
  refine okL_cons (ok_icmp_ge rfl dX7_sortApart_11) rfl ?_
  refine okL_cons (ok_iload_n rfl dX7_sortApart_14) rfl ?_
  refine okL_cons (ok_bipush rfl dX7_sortApart_15) rfl ?_
  refine okL_cons (ok_icmp_ge rfl dX7_sortApart_17) rfl ?_
  refine okL_cons (ok_iload dX7_sortApart_20) rfl ?_
  refine okL_cons (ok_iload_n rfl dX7_sortApart_22) rfl ?_
  refine okL_cons (ok_invNS (M' := 162) 13 kw_78 kw_79 kw_80 rfl rfl (by decide +kernel) dX7_sortApart_23) rfl ?_
  refine okL_cons (ok_if_eq rfl dX7_sortApart_26) rfl ?_
  refine okL_cons (ok_aload_n rfl dX7_sortApart_29) rfl ?_
  refine okL_cons (ok_getP kw_286 cf_X7 rfl rfl (by decide) dX7_sortApart_30) rfl ?_
  refine okL_cons (ok_iload_n rfl dX7_sortApart_33) rfl ?_
  refine okL_cons (ok_iload dX7_sortApart_34) rfl ?_
  refine okL_cons (ok_iastore dX7_sortApart_36) rfl ?_
  refine okL_cons (ok_aload_n rfl dX7_sortApart_37) rfl ?_
  refine okL_cons (ok_getP kw_285 cf_X7 rfl rfl (by decide) dX7_sortApart_38) rfl ?_
  refine okL_cons (ok_iload_n rfl dX7_sortApart_41) rfl ?_
  refine okL_cons (ok_aload_n rfl dX7_sortApart_42) rfl ?_
  refine okL_cons (ok_iload_n rfl dX7_sortApart_43) rfl ?_
  refine okL_cons (ok_invV (M' := 74) kw_302 kw_303 kw_304 kw_292 kw_305 cf_X7 rfl (by decide +kernel) dX7_sortApart_44) rfl ?_
  refine okL_cons (ok_iastore dX7_sortApart_47) rfl ?_
  refine okL_cons (ok_iload_n rfl dX7_sortApart_48) rfl ?_
  refine okL_cons (ok_aload_n rfl dX7_sortApart_49) rfl ?_
  refine okL_cons (ok_getP kw_285 cf_X7 rfl rfl (by decide) dX7_sortApart_50) rfl ?_
  refine okL_cons (ok_iload_n rfl dX7_sortApart_53) rfl ?_
  refine okL_cons (ok_iaload dX7_sortApart_54) rfl ?_
  refine okL_cons (ok_iconst rfl dX7_sortApart_55) rfl ?_
  refine okL_cons (ok_iadd dX7_sortApart_56) rfl ?_
  refine okL_cons (ok_max kw_306 kw_35 kw_36 kw_37 dX7_sortApart_57) rfl ?_
  refine okL_cons (ok_istore_n rfl dX7_sortApart_60) rfl ?_
  refine okL_cons (ok_iinc rfl dX7_sortApart_61) rfl ?_
  refine okL_cons (ok_iinc rfl dX7_sortApart_64) rfl ?_
  refine okL_cons (ok_goto rfl dX7_sortApart_67) rfl ?_
  refine okL_cons (ok_iload_n rfl dX7_sortApart_70) rfl ?_
  exact okL_one (ok_ireturn rfl dX7_sortApart_71)
theorem dX7_firstFreeKind_0 : decode cX7_firstFreeKind 0 = .ok (.iconst 0, 1) := by decide +kernel
theorem dX7_firstFreeKind_1 : decode cX7_firstFreeKind 1 = .ok (.istore_n 2, 1) := by decide +kernel
theorem dX7_firstFreeKind_2 : decode cX7_firstFreeKind 2 = .ok (.iconst 0, 1) := by decide +kernel
theorem dX7_firstFreeKind_3 : decode cX7_firstFreeKind 3 = .ok (.istore_n 3, 1) := by decide +kernel
theorem dX7_firstFreeKind_4 : decode cX7_firstFreeKind 4 = .ok (.iload_n 3, 1) := by decide +kernel
theorem dX7_firstFreeKind_5 : decode cX7_firstFreeKind 5 = .ok (.iload_n 1, 1) := by decide +kernel
theorem dX7_firstFreeKind_6 : decode cX7_firstFreeKind 6 = .ok (.if_icmp .ge 40, 3) := by decide +kernel
theorem dX7_firstFreeKind_9 : decode cX7_firstFreeKind 9 = .ok (.aload_n 0, 1) := by decide +kernel
theorem dX7_firstFreeKind_10 : decode cX7_firstFreeKind 10 = .ok (.aload_n 0, 1) := by decide +kernel
theorem dX7_firstFreeKind_11 : decode cX7_firstFreeKind 11 = .ok (.getfield 24, 3) := by decide +kernel
theorem dX7_firstFreeKind_14 : decode cX7_firstFreeKind 14 = .ok (.iload_n 3, 1) := by decide +kernel
theorem dX7_firstFreeKind_15 : decode cX7_firstFreeKind 15 = .ok (.iaload, 1) := by decide +kernel
theorem dX7_firstFreeKind_16 : decode cX7_firstFreeKind 16 = .ok (.aload_n 0, 1) := by decide +kernel
theorem dX7_firstFreeKind_17 : decode cX7_firstFreeKind 17 = .ok (.getfield 24, 3) := by decide +kernel
theorem dX7_firstFreeKind_20 : decode cX7_firstFreeKind 20 = .ok (.iload_n 1, 1) := by decide +kernel
theorem dX7_firstFreeKind_21 : decode cX7_firstFreeKind 21 = .ok (.iaload, 1) := by decide +kernel
theorem dX7_firstFreeKind_22 : decode cX7_firstFreeKind 22 = .ok (.iconst 0, 1) := by decide +kernel
theorem dX7_firstFreeKind_23 : decode cX7_firstFreeKind 23 = .ok (.invokevirtual 58, 3) := by decide +kernel
theorem dX7_firstFreeKind_26 : decode cX7_firstFreeKind 26 = .ok (.ifCond .eq 14, 3) := by decide +kernel
theorem dX7_firstFreeKind_29 : decode cX7_firstFreeKind 29 = .ok (.iload_n 2, 1) := by decide +kernel
theorem dX7_firstFreeKind_30 : decode cX7_firstFreeKind 30 = .ok (.iconst 1, 1) := by decide +kernel
theorem dX7_firstFreeKind_31 : decode cX7_firstFreeKind 31 = .ok (.aload_n 0, 1) := by decide +kernel
theorem dX7_firstFreeKind_32 : decode cX7_firstFreeKind 32 = .ok (.getfield 21, 3) := by decide +kernel
theorem dX7_firstFreeKind_35 : decode cX7_firstFreeKind 35 = .ok (.iload_n 3, 1) := by decide +kernel
theorem dX7_firstFreeKind_36 : decode cX7_firstFreeKind 36 = .ok (.iaload, 1) := by decide +kernel
theorem dX7_firstFreeKind_37 : decode cX7_firstFreeKind 37 = .ok (.ishl, 1) := by decide +kernel
theorem dX7_firstFreeKind_38 : decode cX7_firstFreeKind 38 = .ok (.ior, 1) := by decide +kernel
theorem dX7_firstFreeKind_39 : decode cX7_firstFreeKind 39 = .ok (.istore_n 2, 1) := by decide +kernel
theorem dX7_firstFreeKind_40 : decode cX7_firstFreeKind 40 = .ok (.iinc 3 1, 3) := by decide +kernel
theorem dX7_firstFreeKind_43 : decode cX7_firstFreeKind 43 = .ok (.goto (-39), 3) := by decide +kernel
theorem dX7_firstFreeKind_46 : decode cX7_firstFreeKind 46 = .ok (.iload_n 2, 1) := by decide +kernel
theorem dX7_firstFreeKind_47 : decode cX7_firstFreeKind 47 = .ok (.iconst (-1), 1) := by decide +kernel
theorem dX7_firstFreeKind_48 : decode cX7_firstFreeKind 48 = .ok (.ixor, 1) := by decide +kernel
theorem dX7_firstFreeKind_49 : decode cX7_firstFreeKind 49 = .ok (.invokestatic 62, 3) := by decide +kernel
theorem dX7_firstFreeKind_52 : decode cX7_firstFreeKind 52 = .ok (.ireturn, 1) := by decide +kernel
set_option maxRecDepth 100000 in
theorem okm_X7_firstFreeKind : okL RX7 cX7_firstFreeKind 4 (some .int) "firstFreeKind" pcX7_firstFreeKind opX7_firstFreeKind pcX7_firstFreeKind := by
  unfold opX7_firstFreeKind
  refine okL_cons (ok_iconst rfl dX7_firstFreeKind_0) rfl ?_
  refine okL_cons (ok_istore_n rfl dX7_firstFreeKind_1) rfl ?_
  refine okL_cons (ok_iconst rfl dX7_firstFreeKind_2) rfl ?_
  refine okL_cons (ok_istore_n rfl dX7_firstFreeKind_3) rfl ?_
  refine okL_cons (ok_iload_n rfl dX7_firstFreeKind_4) rfl ?_
  refine okL_cons (ok_iload_n rfl dX7_firstFreeKind_5) rfl ?_
  refine okL_cons (ok_icmp_ge rfl dX7_firstFreeKind_6) rfl ?_
  refine okL_cons (ok_aload_n rfl dX7_firstFreeKind_9) rfl ?_
  refine okL_cons (ok_aload_n rfl dX7_firstFreeKind_10) rfl ?_
  refine okL_cons (ok_getP kw_286 cf_X7 rfl rfl (by decide) dX7_firstFreeKind_11) rfl ?_
  refine okL_cons (ok_iload_n rfl dX7_firstFreeKind_14) rfl ?_
  refine okL_cons (ok_iaload dX7_firstFreeKind_15) rfl ?_
  refine okL_cons (ok_aload_n rfl dX7_firstFreeKind_16) rfl ?_
  refine okL_cons (ok_getP kw_286 cf_X7 rfl rfl (by decide) dX7_firstFreeKind_17) rfl ?_
  refine okL_cons (ok_iload_n rfl dX7_firstFreeKind_20) rfl ?_
  refine okL_cons (ok_iaload dX7_firstFreeKind_21) rfl ?_
  refine okL_cons (ok_iconst rfl dX7_firstFreeKind_22) rfl ?_
  refine okL_cons (ok_invV (M' := 72) kw_307 kw_308 kw_309 kw_292 kw_310 cf_X7 rfl (by decide +kernel) dX7_firstFreeKind_23) rfl ?_
  refine okL_cons (ok_if_eq rfl dX7_firstFreeKind_26) rfl ?_
  refine okL_cons (ok_iload_n rfl dX7_firstFreeKind_29) rfl ?_
  refine okL_cons (ok_iconst rfl dX7_firstFreeKind_30) rfl ?_
  refine okL_cons (ok_aload_n rfl dX7_firstFreeKind_31) rfl ?_
  refine okL_cons (ok_getP kw_285 cf_X7 rfl rfl (by decide) dX7_firstFreeKind_32) rfl ?_
  refine okL_cons (ok_iload_n rfl dX7_firstFreeKind_35) rfl ?_
  refine okL_cons (ok_iaload dX7_firstFreeKind_36) rfl ?_
  refine okL_cons (ok_ishl dX7_firstFreeKind_37) rfl ?_
  refine okL_cons (ok_ior dX7_firstFreeKind_38) rfl ?_
  refine okL_cons (ok_istore_n rfl dX7_firstFreeKind_39) rfl ?_
  refine okL_cons (ok_iinc rfl dX7_firstFreeKind_40) rfl ?_
  refine okL_cons (ok_goto rfl dX7_firstFreeKind_43) rfl ?_
  refine okL_cons (ok_iload_n rfl dX7_firstFreeKind_46) rfl ?_
  refine okL_cons (ok_iconst rfl dX7_firstFreeKind_47) rfl ?_
  refine okL_cons (ok_ixor dX7_firstFreeKind_48) rfl ?_
  refine okL_cons (ok_invS (M' := 7) kw_311 kw_312 kw_100 kw_313 rfl (by decide +kernel) dX7_firstFreeKind_49) rfl ?_
  exact okL_one (ok_ireturn rfl dX7_firstFreeKind_52)
theorem dX7_unreached_0 : decode cX7_unreached 0 = .ok (.iconst 0, 1) := by decide +kernel
theorem dX7_unreached_1 : decode cX7_unreached 1 = .ok (.istore_n 1, 1) := by decide +kernel
theorem dX7_unreached_2 : decode cX7_unreached 2 = .ok (.iconst 0, 1) := by decide +kernel
theorem dX7_unreached_3 : decode cX7_unreached 3 = .ok (.istore_n 2, 1) := by decide +kernel
theorem dX7_unreached_4 : decode cX7_unreached 4 = .ok (.iload_n 2, 1) := by decide +kernel
theorem dX7_unreached_5 : decode cX7_unreached 5 = .ok (.bipush 25, 2) := by decide +kernel
theorem dX7_unreached_7 : decode cX7_unreached 7 = .ok (.if_icmp .ge 30, 3) := by decide +kernel
theorem dX7_unreached_10 : decode cX7_unreached 10 = .ok (.aload_n 0, 1) := by decide +kernel
theorem dX7_unreached_11 : decode cX7_unreached 11 = .ok (.getfield 9, 3) := by decide +kernel
theorem dX7_unreached_14 : decode cX7_unreached 14 = .ok (.iload_n 2, 1) := by decide +kernel
theorem dX7_unreached_15 : decode cX7_unreached 15 = .ok (.iaload, 1) := by decide +kernel
theorem dX7_unreached_16 : decode cX7_unreached 16 = .ok (.iload_n 2, 1) := by decide +kernel
theorem dX7_unreached_17 : decode cX7_unreached 17 = .ok (.if_icmp .eq 14, 3) := by decide +kernel
theorem dX7_unreached_20 : decode cX7_unreached 20 = .ok (.iload_n 1, 1) := by decide +kernel
theorem dX7_unreached_21 : decode cX7_unreached 21 = .ok (.iconst 1, 1) := by decide +kernel
theorem dX7_unreached_22 : decode cX7_unreached 22 = .ok (.aload_n 0, 1) := by decide +kernel
theorem dX7_unreached_23 : decode cX7_unreached 23 = .ok (.getfield 9, 3) := by decide +kernel
theorem dX7_unreached_26 : decode cX7_unreached 26 = .ok (.iload_n 2, 1) := by decide +kernel
theorem dX7_unreached_27 : decode cX7_unreached 27 = .ok (.iaload, 1) := by decide +kernel
theorem dX7_unreached_28 : decode cX7_unreached 28 = .ok (.ishl, 1) := by decide +kernel
theorem dX7_unreached_29 : decode cX7_unreached 29 = .ok (.ior, 1) := by decide +kernel
theorem dX7_unreached_30 : decode cX7_unreached 30 = .ok (.istore_n 1, 1) := by decide +kernel
theorem dX7_unreached_31 : decode cX7_unreached 31 = .ok (.iinc 2 1, 3) := by decide +kernel
theorem dX7_unreached_34 : decode cX7_unreached 34 = .ok (.goto (-30), 3) := by decide +kernel
theorem dX7_unreached_37 : decode cX7_unreached 37 = .ok (.ldc 67, 2) := by decide +kernel
theorem dX7_unreached_39 : decode cX7_unreached 39 = .ok (.iload_n 1, 1) := by decide +kernel
theorem dX7_unreached_40 : decode cX7_unreached 40 = .ok (.iconst (-1), 1) := by decide +kernel
theorem dX7_unreached_41 : decode cX7_unreached 41 = .ok (.ixor, 1) := by decide +kernel
theorem dX7_unreached_42 : decode cX7_unreached 42 = .ok (.iand, 1) := by decide +kernel
theorem dX7_unreached_43 : decode cX7_unreached 43 = .ok (.ireturn, 1) := by decide +kernel
set_option maxRecDepth 100000 in
theorem okm_X7_unreached : okL RX7 cX7_unreached 3 (some .int) "unreached" pcX7_unreached opX7_unreached pcX7_unreached := by
  unfold opX7_unreached
  refine okL_cons (ok_iconst rfl dX7_unreached_0) rfl ?_
  refine okL_cons (ok_istore_n rfl dX7_unreached_1) rfl ?_
  refine okL_cons (ok_iconst rfl dX7_unreached_2) rfl ?_
  refine okL_cons (ok_istore_n rfl dX7_unreached_3) rfl ?_
  refine okL_cons (ok_iload_n rfl dX7_unreached_4) rfl ?_
  refine okL_cons (ok_bipush rfl dX7_unreached_5) rfl ?_
  refine okL_cons (ok_icmp_ge rfl dX7_unreached_7) rfl ?_
  refine okL_cons (ok_aload_n rfl dX7_unreached_10) rfl ?_
  refine okL_cons (ok_getP kw_282 cf_X7 rfl rfl (by decide) dX7_unreached_11) rfl ?_
  refine okL_cons (ok_iload_n rfl dX7_unreached_14) rfl ?_
  refine okL_cons (ok_iaload dX7_unreached_15) rfl ?_
  refine okL_cons (ok_iload_n rfl dX7_unreached_16) rfl ?_
  refine okL_cons (ok_icmp_eq rfl dX7_unreached_17) rfl ?_
  refine okL_cons (ok_iload_n rfl dX7_unreached_20) rfl ?_
  refine okL_cons (ok_iconst rfl dX7_unreached_21) rfl ?_
  refine okL_cons (ok_aload_n rfl dX7_unreached_22) rfl ?_
  refine okL_cons (ok_getP kw_282 cf_X7 rfl rfl (by decide) dX7_unreached_23) rfl ?_
  refine okL_cons (ok_iload_n rfl dX7_unreached_26) rfl ?_
  refine okL_cons (ok_iaload dX7_unreached_27) rfl ?_
  refine okL_cons (ok_ishl dX7_unreached_28) rfl ?_
  refine okL_cons (ok_ior dX7_unreached_29) rfl ?_
  refine okL_cons (ok_istore_n rfl dX7_unreached_30) rfl ?_
  refine okL_cons (ok_iinc rfl dX7_unreached_31) rfl ?_
  refine okL_cons (ok_goto rfl dX7_unreached_34) rfl ?_
  refine okL_cons (ok_ldc kw_314 dX7_unreached_37) rfl ?_
  refine okL_cons (ok_iload_n rfl dX7_unreached_39) rfl ?_
  refine okL_cons (ok_iconst rfl dX7_unreached_40) rfl ?_
  refine okL_cons (ok_ixor dX7_unreached_41) rfl ?_
  refine okL_cons (ok_iand dX7_unreached_42) rfl ?_
  exact okL_one (ok_ireturn rfl dX7_unreached_43)
theorem dX7_stillWithoutDoor_0 : decode cX7_stillWithoutDoor 0 = .ok (.iconst 0, 1) := by decide +kernel
theorem dX7_stillWithoutDoor_1 : decode cX7_stillWithoutDoor 1 = .ok (.istore_n 1, 1) := by decide +kernel
theorem dX7_stillWithoutDoor_2 : decode cX7_stillWithoutDoor 2 = .ok (.iconst 0, 1) := by decide +kernel
theorem dX7_stillWithoutDoor_3 : decode cX7_stillWithoutDoor 3 = .ok (.istore_n 2, 1) := by decide +kernel
theorem dX7_stillWithoutDoor_4 : decode cX7_stillWithoutDoor 4 = .ok (.iload_n 2, 1) := by decide +kernel
theorem dX7_stillWithoutDoor_5 : decode cX7_stillWithoutDoor 5 = .ok (.bipush 25, 2) := by decide +kernel
theorem dX7_stillWithoutDoor_7 : decode cX7_stillWithoutDoor 7 = .ok (.if_icmp .ge 36, 3) := by decide +kernel
theorem dX7_stillWithoutDoor_10 : decode cX7_stillWithoutDoor 10 = .ok (.aload_n 0, 1) := by decide +kernel
theorem dX7_stillWithoutDoor_11 : decode cX7_stillWithoutDoor 11 = .ok (.getfield 9, 3) := by decide +kernel
theorem dX7_stillWithoutDoor_14 : decode cX7_stillWithoutDoor 14 = .ok (.iload_n 2, 1) := by decide +kernel
theorem dX7_stillWithoutDoor_15 : decode cX7_stillWithoutDoor 15 = .ok (.iaload, 1) := by decide +kernel
theorem dX7_stillWithoutDoor_16 : decode cX7_stillWithoutDoor 16 = .ok (.iload_n 2, 1) := by decide +kernel
theorem dX7_stillWithoutDoor_17 : decode cX7_stillWithoutDoor 17 = .ok (.if_icmp .ne 20, 3) := by decide +kernel
theorem dX7_stillWithoutDoor_20 : decode cX7_stillWithoutDoor 20 = .ok (.iload_n 2, 1) := by decide +kernel
theorem dX7_stillWithoutDoor_21 : decode cX7_stillWithoutDoor 21 = .ok (.aload_n 0, 1) := by decide +kernel
theorem dX7_stillWithoutDoor_22 : decode cX7_stillWithoutDoor 22 = .ok (.getfield 27, 3) := by decide +kernel
theorem dX7_stillWithoutDoor_25 : decode cX7_stillWithoutDoor 25 = .ok (.invokestatic 36, 3) := by decide +kernel
theorem dX7_stillWithoutDoor_28 : decode cX7_stillWithoutDoor 28 = .ok (.ifCond .ne 9, 3) := by decide +kernel
theorem dX7_stillWithoutDoor_31 : decode cX7_stillWithoutDoor 31 = .ok (.iload_n 1, 1) := by decide +kernel
theorem dX7_stillWithoutDoor_32 : decode cX7_stillWithoutDoor 32 = .ok (.iconst 1, 1) := by decide +kernel
theorem dX7_stillWithoutDoor_33 : decode cX7_stillWithoutDoor 33 = .ok (.iload_n 2, 1) := by decide +kernel
theorem dX7_stillWithoutDoor_34 : decode cX7_stillWithoutDoor 34 = .ok (.ishl, 1) := by decide +kernel
theorem dX7_stillWithoutDoor_35 : decode cX7_stillWithoutDoor 35 = .ok (.ior, 1) := by decide +kernel
theorem dX7_stillWithoutDoor_36 : decode cX7_stillWithoutDoor 36 = .ok (.istore_n 1, 1) := by decide +kernel
theorem dX7_stillWithoutDoor_37 : decode cX7_stillWithoutDoor 37 = .ok (.iinc 2 1, 3) := by decide +kernel
theorem dX7_stillWithoutDoor_40 : decode cX7_stillWithoutDoor 40 = .ok (.goto (-36), 3) := by decide +kernel
theorem dX7_stillWithoutDoor_43 : decode cX7_stillWithoutDoor 43 = .ok (.iload_n 1, 1) := by decide +kernel
theorem dX7_stillWithoutDoor_44 : decode cX7_stillWithoutDoor 44 = .ok (.ireturn, 1) := by decide +kernel
set_option maxRecDepth 100000 in
theorem okm_X7_stillWithoutDoor : okL RX7 cX7_stillWithoutDoor 3 (some .int) "stillWithoutDoor" pcX7_stillWithoutDoor opX7_stillWithoutDoor pcX7_stillWithoutDoor := by
  unfold opX7_stillWithoutDoor
  refine okL_cons (ok_iconst rfl dX7_stillWithoutDoor_0) rfl ?_
  refine okL_cons (ok_istore_n rfl dX7_stillWithoutDoor_1) rfl ?_
  refine okL_cons (ok_iconst rfl dX7_stillWithoutDoor_2) rfl ?_
  refine okL_cons (ok_istore_n rfl dX7_stillWithoutDoor_3) rfl ?_
  refine okL_cons (ok_iload_n rfl dX7_stillWithoutDoor_4) rfl ?_
  refine okL_cons (ok_bipush rfl dX7_stillWithoutDoor_5) rfl ?_
  refine okL_cons (ok_icmp_ge rfl dX7_stillWithoutDoor_7) rfl ?_
  refine okL_cons (ok_aload_n rfl dX7_stillWithoutDoor_10) rfl ?_
  refine okL_cons (ok_getP kw_282 cf_X7 rfl rfl (by decide) dX7_stillWithoutDoor_11) rfl ?_
  refine okL_cons (ok_iload_n rfl dX7_stillWithoutDoor_14) rfl ?_
  refine okL_cons (ok_iaload dX7_stillWithoutDoor_15) rfl ?_
  refine okL_cons (ok_iload_n rfl dX7_stillWithoutDoor_16) rfl ?_
  refine okL_cons (ok_icmp_ne rfl dX7_stillWithoutDoor_17) rfl ?_
  refine okL_cons (ok_iload_n rfl dX7_stillWithoutDoor_20) rfl ?_
  refine okL_cons (ok_aload_n rfl dX7_stillWithoutDoor_21) rfl ?_
  refine okL_cons (ok_getI kw_287 cf_X7 rfl rfl (by decide) dX7_stillWithoutDoor_22) rfl ?_
  refine okL_cons (ok_invNS (M' := 162) 13 kw_78 kw_79 kw_80 rfl rfl (by decide +kernel) dX7_stillWithoutDoor_25) rfl ?_
  refine okL_cons (ok_if_ne rfl dX7_stillWithoutDoor_28) rfl ?_
  refine okL_cons (ok_iload_n rfl dX7_stillWithoutDoor_31) rfl ?_
  refine okL_cons (ok_iconst rfl dX7_stillWithoutDoor_32) rfl ?_
  refine okL_cons (ok_iload_n rfl dX7_stillWithoutDoor_33) rfl ?_
  refine okL_cons (ok_ishl dX7_stillWithoutDoor_34) rfl ?_
  refine okL_cons (ok_ior dX7_stillWithoutDoor_35) rfl ?_
  refine okL_cons (ok_istore_n rfl dX7_stillWithoutDoor_36) rfl ?_
  refine okL_cons (ok_iinc rfl dX7_stillWithoutDoor_37) rfl ?_
  refine okL_cons (ok_goto rfl dX7_stillWithoutDoor_40) rfl ?_
  refine okL_cons (ok_iload_n rfl dX7_stillWithoutDoor_43) rfl ?_
  exact okL_one (ok_ireturn rfl dX7_stillWithoutDoor_44)
theorem dX7_farthest_0 : decode cX7_farthest 0 = .ok (.iconst 0, 1) := by decide +kernel
theorem dX7_farthest_1 : decode cX7_farthest 1 = .ok (.istore_n 1, 1) := by decide +kernel
theorem dX7_farthest_2 : decode cX7_farthest 2 = .ok (.iconst 1, 1) := by decide +kernel
theorem dX7_farthest_3 : decode cX7_farthest 3 = .ok (.istore_n 2, 1) := by decide +kernel
theorem dX7_farthest_4 : decode cX7_farthest 4 = .ok (.iload_n 2, 1) := by decide +kernel
theorem dX7_farthest_5 : decode cX7_farthest 5 = .ok (.bipush 25, 2) := by decide +kernel
theorem dX7_farthest_7 : decode cX7_farthest 7 = .ok (.if_icmp .ge 26, 3) := by decide +kernel
theorem dX7_farthest_10 : decode cX7_farthest 10 = .ok (.aload_n 0, 1) := by decide +kernel
theorem dX7_farthest_11 : decode cX7_farthest 11 = .ok (.getfield 15, 3) := by decide +kernel
theorem dX7_farthest_14 : decode cX7_farthest 14 = .ok (.iload_n 2, 1) := by decide +kernel
theorem dX7_farthest_15 : decode cX7_farthest 15 = .ok (.iaload, 1) := by decide +kernel
theorem dX7_farthest_16 : decode cX7_farthest 16 = .ok (.aload_n 0, 1) := by decide +kernel
theorem dX7_farthest_17 : decode cX7_farthest 17 = .ok (.getfield 15, 3) := by decide +kernel
theorem dX7_farthest_20 : decode cX7_farthest 20 = .ok (.iload_n 1, 1) := by decide +kernel
theorem dX7_farthest_21 : decode cX7_farthest 21 = .ok (.iaload, 1) := by decide +kernel
theorem dX7_farthest_22 : decode cX7_farthest 22 = .ok (.if_icmp .le 5, 3) := by decide +kernel
theorem dX7_farthest_25 : decode cX7_farthest 25 = .ok (.iload_n 2, 1) := by decide +kernel
theorem dX7_farthest_26 : decode cX7_farthest 26 = .ok (.istore_n 1, 1) := by decide +kernel
theorem dX7_farthest_27 : decode cX7_farthest 27 = .ok (.iinc 2 1, 3) := by decide +kernel
theorem dX7_farthest_30 : decode cX7_farthest 30 = .ok (.goto (-26), 3) := by decide +kernel
theorem dX7_farthest_33 : decode cX7_farthest 33 = .ok (.iload_n 1, 1) := by decide +kernel
theorem dX7_farthest_34 : decode cX7_farthest 34 = .ok (.ireturn, 1) := by decide +kernel
set_option maxRecDepth 100000 in
theorem okm_X7_farthest : okL RX7 cX7_farthest 3 (some .int) "farthest" pcX7_farthest opX7_farthest pcX7_farthest := by
  unfold opX7_farthest
  refine okL_cons (ok_iconst rfl dX7_farthest_0) rfl ?_
  refine okL_cons (ok_istore_n rfl dX7_farthest_1) rfl ?_
  refine okL_cons (ok_iconst rfl dX7_farthest_2) rfl ?_
  refine okL_cons (ok_istore_n rfl dX7_farthest_3) rfl ?_
  refine okL_cons (ok_iload_n rfl dX7_farthest_4) rfl ?_
  refine okL_cons (ok_bipush rfl dX7_farthest_5) rfl ?_
  refine okL_cons (ok_icmp_ge rfl dX7_farthest_7) rfl ?_
  refine okL_cons (ok_aload_n rfl dX7_farthest_10) rfl ?_
  refine okL_cons (ok_getP kw_283 cf_X7 rfl rfl (by decide) dX7_farthest_11) rfl ?_
  refine okL_cons (ok_iload_n rfl dX7_farthest_14) rfl ?_
  refine okL_cons (ok_iaload dX7_farthest_15) rfl ?_
  refine okL_cons (ok_aload_n rfl dX7_farthest_16) rfl ?_
  refine okL_cons (ok_getP kw_283 cf_X7 rfl rfl (by decide) dX7_farthest_17) rfl ?_
  refine okL_cons (ok_iload_n rfl dX7_farthest_20) rfl ?_
  refine okL_cons (ok_iaload dX7_farthest_21) rfl ?_
  refine okL_cons (ok_icmp_le rfl dX7_farthest_22) rfl ?_
  refine okL_cons (ok_iload_n rfl dX7_farthest_25) rfl ?_
  refine okL_cons (ok_istore_n rfl dX7_farthest_26) rfl ?_
  refine okL_cons (ok_iinc rfl dX7_farthest_27) rfl ?_
  refine okL_cons (ok_goto rfl dX7_farthest_30) rfl ?_
  refine okL_cons (ok_iload_n rfl dX7_farthest_33) rfl ?_
  exact okL_one (ok_ireturn rfl dX7_farthest_34)
theorem dX8_init_0 : decode cX8_init 0 = .ok (.aload_n 0, 1) := by decide +kernel
theorem dX8_init_1 : decode cX8_init 1 = .ok (.invokespecial 3, 3) := by decide +kernel
theorem dX8_init_4 : decode cX8_init 4 = .ok (.aload_n 0, 1) := by decide +kernel
theorem dX8_init_5 : decode cX8_init 5 = .ok (.sipush 400, 3) := by decide +kernel
theorem dX8_init_8 : decode cX8_init 8 = .ok (.newarray .int, 2) := by decide +kernel
theorem dX8_init_10 : decode cX8_init 10 = .ok (.putfield 9, 3) := by decide +kernel
theorem dX8_init_13 : decode cX8_init 13 = .ok (.aload_n 0, 1) := by decide +kernel
theorem dX8_init_14 : decode cX8_init 14 = .ok (.sipush 401, 3) := by decide +kernel
theorem dX8_init_17 : decode cX8_init 17 = .ok (.newarray .int, 2) := by decide +kernel
theorem dX8_init_19 : decode cX8_init 19 = .ok (.putfield 15, 3) := by decide +kernel
theorem dX8_init_22 : decode cX8_init 22 = .ok (.aload_n 0, 1) := by decide +kernel
theorem dX8_init_23 : decode cX8_init 23 = .ok (.sipush 401, 3) := by decide +kernel
theorem dX8_init_26 : decode cX8_init 26 = .ok (.newarray .int, 2) := by decide +kernel
theorem dX8_init_28 : decode cX8_init 28 = .ok (.putfield 18, 3) := by decide +kernel
theorem dX8_init_31 : decode cX8_init 31 = .ok (.return_, 1) := by decide +kernel
set_option maxRecDepth 100000 in
theorem okm_X8_init : okL RX8 cX8_init 1 none "<init>" pcX8_init opX8_init pcX8_init := by
  unfold opX8_init
  refine okL_cons (ok_aload_n rfl dX8_init_0) rfl ?_
  refine okL_cons (ok_obj kw_315 kw_29 kw_30 dX8_init_1) rfl ?_
  refine okL_cons (ok_aload_n rfl dX8_init_4) rfl ?_
  refine okL_cons (ok_sipush rfl dX8_init_5) rfl ?_
  refine okL_cons (ok_newarray_int kw_31 dX8_init_8) rfl ?_
  refine okL_cons (ok_putPF kw_316 cf_X8 rfl rfl (by decide) rfl rfl rfl dX8_init_10) rfl ?_
  refine okL_cons (ok_aload_n rfl dX8_init_13) rfl ?_
  refine okL_cons (ok_sipush rfl dX8_init_14) rfl ?_
  refine okL_cons (ok_newarray_int kw_31 dX8_init_17) rfl ?_
  refine okL_cons (ok_putPF kw_317 cf_X8 rfl rfl (by decide) rfl rfl rfl dX8_init_19) rfl ?_
  refine okL_cons (ok_aload_n rfl dX8_init_22) rfl ?_
  refine okL_cons (ok_sipush rfl dX8_init_23) rfl ?_
  refine okL_cons (ok_newarray_int kw_31 dX8_init_26) rfl ?_
  refine okL_cons (ok_putPF kw_318 cf_X8 rfl rfl (by decide) rfl rfl rfl dX8_init_28) rfl ?_
  exact okL_one (ok_return rfl dX8_init_31)
theorem dX8_hasRoom_0 : decode cX8_hasRoom 0 = .ok (.aload_n 0, 1) := by decide +kernel
theorem dX8_hasRoom_1 : decode cX8_hasRoom 1 = .ok (.getfield 21, 3) := by decide +kernel
theorem dX8_hasRoom_4 : decode cX8_hasRoom 4 = .ok (.bipush 20, 2) := by decide +kernel
theorem dX8_hasRoom_6 : decode cX8_hasRoom 6 = .ok (.iadd, 1) := by decide +kernel
theorem dX8_hasRoom_7 : decode cX8_hasRoom 7 = .ok (.sipush 400, 3) := by decide +kernel
theorem dX8_hasRoom_10 : decode cX8_hasRoom 10 = .ok (.if_icmp .gt 7, 3) := by decide +kernel
theorem dX8_hasRoom_13 : decode cX8_hasRoom 13 = .ok (.iconst 1, 1) := by decide +kernel
theorem dX8_hasRoom_14 : decode cX8_hasRoom 14 = .ok (.goto 4, 3) := by decide +kernel
theorem dX8_hasRoom_17 : decode cX8_hasRoom 17 = .ok (.iconst 0, 1) := by decide +kernel
theorem dX8_hasRoom_18 : decode cX8_hasRoom 18 = .ok (.ireturn, 1) := by decide +kernel
set_option maxRecDepth 100000 in
theorem okm_X8_hasRoom : okL RX8 cX8_hasRoom 1 (some .boolean) "hasRoom" pcX8_hasRoom opX8_hasRoom pcX8_hasRoom := by
  unfold opX8_hasRoom
  refine okL_cons (ok_aload_n rfl dX8_hasRoom_0) rfl ?_
  refine okL_cons (ok_getI kw_319 cf_X8 rfl rfl (by decide) dX8_hasRoom_1) rfl ?_
  refine okL_cons (ok_bipush rfl dX8_hasRoom_4) rfl ?_
  refine okL_cons (ok_iadd dX8_hasRoom_6) rfl ?_
  refine okL_cons (ok_sipush rfl dX8_hasRoom_7) rfl ?_
  refine okL_cons (ok_icmp_gt rfl dX8_hasRoom_10) rfl ?_
  refine okL_cons (ok_iconst rfl dX8_hasRoom_13) rfl ?_
  refine okL_cons (ok_goto rfl dX8_hasRoom_14) rfl ?_
  refine okL_cons (ok_iconst rfl dX8_hasRoom_17) rfl ?_
  exact okL_one (ok_zreturn rfl dX8_hasRoom_18)
theorem dX8_add_0 : decode cX8_add 0 = .ok (.bipush 24, 2) := by decide +kernel
theorem dX8_add_2 : decode cX8_add 2 = .ok (.istore_n 2, 1) := by decide +kernel
theorem dX8_add_3 : decode cX8_add 3 = .ok (.iload_n 2, 1) := by decide +kernel
theorem dX8_add_4 : decode cX8_add 4 = .ok (.ifCond .lt 45, 3) := by decide +kernel
theorem dX8_add_7 : decode cX8_add 7 = .ok (.aload_n 0, 1) := by decide +kernel
theorem dX8_add_8 : decode cX8_add 8 = .ok (.getfield 21, 3) := by decide +kernel
theorem dX8_add_11 : decode cX8_add 11 = .ok (.sipush 400, 3) := by decide +kernel
theorem dX8_add_14 : decode cX8_add 14 = .ok (.if_icmp .ge 35, 3) := by decide +kernel
theorem dX8_add_17 : decode cX8_add 17 = .ok (.aload_n 0, 1) := by decide +kernel
theorem dX8_add_18 : decode cX8_add 18 = .ok (.getfield 9, 3) := by decide +kernel
theorem dX8_add_21 : decode cX8_add 21 = .ok (.aload_n 0, 1) := by decide +kernel
theorem dX8_add_22 : decode cX8_add 22 = .ok (.getfield 21, 3) := by decide +kernel
theorem dX8_add_25 : decode cX8_add 25 = .ok (.iload_n 1, 1) := by decide +kernel
theorem dX8_add_26 : decode cX8_add 26 = .ok (.iload_n 2, 1) := by decide +kernel
theorem dX8_add_27 : decode cX8_add 27 = .ok (.ishr, 1) := by decide +kernel
theorem dX8_add_28 : decode cX8_add 28 = .ok (.sipush 255, 3) := by decide +kernel
theorem dX8_add_31 : decode cX8_add 31 = .ok (.iand, 1) := by decide +kernel
theorem dX8_add_32 : decode cX8_add 32 = .ok (.iastore, 1) := by decide +kernel
theorem dX8_add_33 : decode cX8_add 33 = .ok (.aload_n 0, 1) := by decide +kernel
theorem dX8_add_34 : decode cX8_add 34 = .ok (.dup, 1) := by decide +kernel
theorem dX8_add_35 : decode cX8_add 35 = .ok (.getfield 21, 3) := by decide +kernel
theorem dX8_add_38 : decode cX8_add 38 = .ok (.iconst 1, 1) := by decide +kernel
theorem dX8_add_39 : decode cX8_add 39 = .ok (.iadd, 1) := by decide +kernel
theorem dX8_add_40 : decode cX8_add 40 = .ok (.putfield 21, 3) := by decide +kernel
theorem dX8_add_43 : decode cX8_add 43 = .ok (.iinc 2 (-8), 3) := by decide +kernel
theorem dX8_add_46 : decode cX8_add 46 = .ok (.goto (-43), 3) := by decide +kernel
theorem dX8_add_49 : decode cX8_add 49 = .ok (.return_, 1) := by decide +kernel
set_option maxRecDepth 100000 in
theorem okm_X8_add : okL RX8 cX8_add 3 none "add" pcX8_add opX8_add pcX8_add := by
  unfold opX8_add
  refine okL_cons (ok_bipush rfl dX8_add_0) rfl ?_
  refine okL_cons (ok_istore_n rfl dX8_add_2) rfl ?_
  refine okL_cons (ok_iload_n rfl dX8_add_3) rfl ?_
  refine okL_cons (ok_if_lt rfl dX8_add_4) rfl ?_
  refine okL_cons (ok_aload_n rfl dX8_add_7) rfl ?_
  refine okL_cons (ok_getI kw_319 cf_X8 rfl rfl (by decide) dX8_add_8) rfl ?_
  refine okL_cons (ok_sipush rfl dX8_add_11) rfl ?_
  refine okL_cons (ok_icmp_ge rfl dX8_add_14) rfl ?_
  refine okL_cons (ok_aload_n rfl dX8_add_17) rfl ?_
  refine okL_cons (ok_getP kw_316 cf_X8 rfl rfl (by decide) dX8_add_18) rfl ?_
  refine okL_cons (ok_aload_n rfl dX8_add_21) rfl ?_
  refine okL_cons (ok_getI kw_319 cf_X8 rfl rfl (by decide) dX8_add_22) rfl ?_
  refine okL_cons (ok_iload_n rfl dX8_add_25) rfl ?_
  refine okL_cons (ok_iload_n rfl dX8_add_26) rfl ?_
  refine okL_cons (ok_ishr dX8_add_27) rfl ?_
  refine okL_cons (ok_sipush rfl dX8_add_28) rfl ?_
  refine okL_cons (ok_iand dX8_add_31) rfl ?_
  refine okL_cons (ok_iastore dX8_add_32) rfl ?_
  refine okL_cons (ok_aload_n rfl dX8_add_33) rfl ?_
  refine okL_cons (ok_dup dX8_add_34) rfl ?_
  refine okL_cons (ok_getI kw_319 cf_X8 rfl rfl (by decide) dX8_add_35) rfl ?_
  refine okL_cons (ok_iconst rfl dX8_add_38) rfl ?_
  refine okL_cons (ok_iadd dX8_add_39) rfl ?_
  refine okL_cons (ok_putI kw_319 cf_X8 rfl rfl (by decide) rfl dX8_add_40) rfl ?_
  refine okL_cons (ok_iinc rfl dX8_add_43) rfl ?_
  refine okL_cons (ok_goto rfl dX8_add_46) rfl ?_
  exact okL_one (ok_return rfl dX8_add_49)
theorem dX8_cut_0 : decode cX8_cut 0 = .ok (.aload_n 0, 1) := by decide +kernel
theorem dX8_cut_1 : decode cX8_cut 1 = .ok (.iconst 0, 1) := by decide +kernel
theorem dX8_cut_2 : decode cX8_cut 2 = .ok (.putfield 25, 3) := by decide +kernel
theorem dX8_cut_5 : decode cX8_cut 5 = .ok (.iconst 0, 1) := by decide +kernel
theorem dX8_cut_6 : decode cX8_cut 6 = .ok (.istore_n 1, 1) := by decide +kernel
theorem dX8_cut_7 : decode cX8_cut 7 = .ok (.iload_n 1, 1) := by decide +kernel
theorem dX8_cut_8 : decode cX8_cut 8 = .ok (.aload_n 0, 1) := by decide +kernel
theorem dX8_cut_9 : decode cX8_cut 9 = .ok (.getfield 21, 3) := by decide +kernel
theorem dX8_cut_12 : decode cX8_cut 12 = .ok (.if_icmp .ge 67, 3) := by decide +kernel
theorem dX8_cut_15 : decode cX8_cut 15 = .ok (.aload_n 0, 1) := by decide +kernel
theorem dX8_cut_16 : decode cX8_cut 16 = .ok (.getfield 9, 3) := by decide +kernel
theorem dX8_cut_19 : decode cX8_cut 19 = .ok (.iload_n 1, 1) := by decide +kernel
theorem dX8_cut_20 : decode cX8_cut 20 = .ok (.iaload, 1) := by decide +kernel
theorem dX8_cut_21 : decode cX8_cut 21 = .ok (.bipush 32, 2) := by decide +kernel
theorem dX8_cut_23 : decode cX8_cut 23 = .ok (.if_icmp .eq 50, 3) := by decide +kernel
theorem dX8_cut_26 : decode cX8_cut 26 = .ok (.aload_n 0, 1) := by decide +kernel
theorem dX8_cut_27 : decode cX8_cut 27 = .ok (.iload_n 1, 1) := by decide +kernel
theorem dX8_cut_28 : decode cX8_cut 28 = .ok (.invokevirtual 28, 3) := by decide +kernel
theorem dX8_cut_31 : decode cX8_cut 31 = .ok (.ifCond .ne 42, 3) := by decide +kernel
theorem dX8_cut_34 : decode cX8_cut 34 = .ok (.aload_n 0, 1) := by decide +kernel
theorem dX8_cut_35 : decode cX8_cut 35 = .ok (.getfield 18, 3) := by decide +kernel
theorem dX8_cut_38 : decode cX8_cut 38 = .ok (.aload_n 0, 1) := by decide +kernel
theorem dX8_cut_39 : decode cX8_cut 39 = .ok (.getfield 25, 3) := by decide +kernel
theorem dX8_cut_42 : decode cX8_cut 42 = .ok (.iload_n 1, 1) := by decide +kernel
theorem dX8_cut_43 : decode cX8_cut 43 = .ok (.iastore, 1) := by decide +kernel
theorem dX8_cut_44 : decode cX8_cut 44 = .ok (.aload_n 0, 1) := by decide +kernel
theorem dX8_cut_45 : decode cX8_cut 45 = .ok (.getfield 15, 3) := by decide +kernel
theorem dX8_cut_48 : decode cX8_cut 48 = .ok (.aload_n 0, 1) := by decide +kernel
theorem dX8_cut_49 : decode cX8_cut 49 = .ok (.getfield 25, 3) := by decide +kernel
theorem dX8_cut_52 : decode cX8_cut 52 = .ok (.aload_n 0, 1) := by decide +kernel
theorem dX8_cut_53 : decode cX8_cut 53 = .ok (.iload_n 1, 1) := by decide +kernel
theorem dX8_cut_54 : decode cX8_cut 54 = .ok (.aload_n 0, 1) := by decide +kernel
theorem dX8_cut_55 : decode cX8_cut 55 = .ok (.iload_n 1, 1) := by decide +kernel
theorem dX8_cut_56 : decode cX8_cut 56 = .ok (.invokevirtual 32, 3) := by decide +kernel
theorem dX8_cut_59 : decode cX8_cut 59 = .ok (.invokevirtual 36, 3) := by decide +kernel
theorem dX8_cut_62 : decode cX8_cut 62 = .ok (.iastore, 1) := by decide +kernel
theorem dX8_cut_63 : decode cX8_cut 63 = .ok (.aload_n 0, 1) := by decide +kernel
theorem dX8_cut_64 : decode cX8_cut 64 = .ok (.dup, 1) := by decide +kernel
theorem dX8_cut_65 : decode cX8_cut 65 = .ok (.getfield 25, 3) := by decide +kernel
theorem dX8_cut_68 : decode cX8_cut 68 = .ok (.iconst 1, 1) := by decide +kernel
theorem dX8_cut_69 : decode cX8_cut 69 = .ok (.iadd, 1) := by decide +kernel
theorem dX8_cut_70 : decode cX8_cut 70 = .ok (.putfield 25, 3) := by decide +kernel
theorem dX8_cut_73 : decode cX8_cut 73 = .ok (.iinc 1 1, 3) := by decide +kernel
theorem dX8_cut_76 : decode cX8_cut 76 = .ok (.goto (-69), 3) := by decide +kernel
theorem dX8_cut_79 : decode cX8_cut 79 = .ok (.aload_n 0, 1) := by decide +kernel
theorem dX8_cut_80 : decode cX8_cut 80 = .ok (.getfield 18, 3) := by decide +kernel
theorem dX8_cut_83 : decode cX8_cut 83 = .ok (.aload_n 0, 1) := by decide +kernel
theorem dX8_cut_84 : decode cX8_cut 84 = .ok (.getfield 25, 3) := by decide +kernel
theorem dX8_cut_87 : decode cX8_cut 87 = .ok (.aload_n 0, 1) := by decide +kernel
theorem dX8_cut_88 : decode cX8_cut 88 = .ok (.getfield 21, 3) := by decide +kernel
theorem dX8_cut_91 : decode cX8_cut 91 = .ok (.iastore, 1) := by decide +kernel
theorem dX8_cut_92 : decode cX8_cut 92 = .ok (.aload_n 0, 1) := by decide +kernel
theorem dX8_cut_93 : decode cX8_cut 93 = .ok (.getfield 15, 3) := by decide +kernel
theorem dX8_cut_96 : decode cX8_cut 96 = .ok (.aload_n 0, 1) := by decide +kernel
theorem dX8_cut_97 : decode cX8_cut 97 = .ok (.getfield 25, 3) := by decide +kernel
theorem dX8_cut_100 : decode cX8_cut 100 = .ok (.sipush 4000, 3) := by decide +kernel
theorem dX8_cut_103 : decode cX8_cut 103 = .ok (.iastore, 1) := by decide +kernel
theorem dX8_cut_104 : decode cX8_cut 104 = .ok (.aload_n 0, 1) := by decide +kernel
theorem dX8_cut_105 : decode cX8_cut 105 = .ok (.dup, 1) := by decide +kernel
theorem dX8_cut_106 : decode cX8_cut 106 = .ok (.getfield 25, 3) := by decide +kernel
theorem dX8_cut_109 : decode cX8_cut 109 = .ok (.iconst 1, 1) := by decide +kernel
theorem dX8_cut_110 : decode cX8_cut 110 = .ok (.iadd, 1) := by decide +kernel
theorem dX8_cut_111 : decode cX8_cut 111 = .ok (.putfield 25, 3) := by decide +kernel
theorem dX8_cut_114 : decode cX8_cut 114 = .ok (.return_, 1) := by decide +kernel
set_option maxRecDepth 100000 in
theorem okm_X8_cut : okL RX8 cX8_cut 2 none "cut" pcX8_cut opX8_cut pcX8_cut := by
  unfold opX8_cut
  refine okL_cons (ok_aload_n rfl dX8_cut_0) rfl ?_
  refine okL_cons (ok_iconst rfl dX8_cut_1) rfl ?_
  refine okL_cons (ok_putI kw_320 cf_X8 rfl rfl (by decide) rfl dX8_cut_2) rfl ?_
  refine okL_cons (ok_iconst rfl dX8_cut_5) rfl ?_
  refine okL_cons (ok_istore_n rfl dX8_cut_6) rfl ?_
  refine okL_cons (ok_iload_n rfl dX8_cut_7) rfl ?_
  refine okL_cons (ok_aload_n rfl dX8_cut_8) rfl ?_
  refine okL_cons (ok_getI kw_319 cf_X8 rfl rfl (by decide) dX8_cut_9) rfl ?_
  refine okL_cons (ok_icmp_ge rfl dX8_cut_12) rfl ?_
  refine okL_cons (ok_aload_n rfl dX8_cut_15) rfl ?_
  refine okL_cons (ok_getP kw_316 cf_X8 rfl rfl (by decide) dX8_cut_16) rfl ?_
  refine okL_cons (ok_iload_n rfl dX8_cut_19) rfl ?_
  refine okL_cons (ok_iaload dX8_cut_20) rfl ?_
  refine okL_cons (ok_bipush rfl dX8_cut_21) rfl ?_
  refine okL_cons (ok_icmp_eq rfl dX8_cut_23) rfl ?_
  refine okL_cons (ok_aload_n rfl dX8_cut_26) rfl ?_
  refine okL_cons (ok_iload_n rfl dX8_cut_27) rfl ?_
  refine okL_cons (ok_invV (M' := 82) kw_321 kw_322 kw_323 kw_140 kw_324 cf_X8 rfl (by decide +kernel) dX8_cut_28) rfl ?_
  refine okL_cons (ok_if_ne rfl dX8_cut_31) rfl ?_
  refine okL_cons (ok_aload_n rfl dX8_cut_34) rfl ?_
  refine okL_cons (ok_getP kw_318 cf_X8 rfl rfl (by decide) dX8_cut_35) rfl ?_
  refine okL_cons (ok_aload_n rfl dX8_cut_38) rfl ?_
  refine okL_cons (ok_getI kw_320 cf_X8 rfl rfl (by decide) dX8_cut_39) rfl ?_
  refine okL_cons (ok_iload_n rfl dX8_cut_42) rfl ?_
  refine okL_cons (ok_iastore dX8_cut_43) rfl ?_
  refine okL_cons (ok_aload_n rfl dX8_cut_44) rfl ?_
  refine okL_cons (ok_getP kw_317 cf_X8 rfl rfl (by decide) dX8_cut_45) rfl ?_
  refine okL_cons (ok_aload_n rfl dX8_cut_48) rfl ?_
  refine okL_cons (ok_getI kw_320 cf_X8 rfl rfl (by decide) dX8_cut_49) rfl ?_
  refine okL_cons (ok_aload_n rfl dX8_cut_52) rfl ?_
  refine okL_cons (ok_iload_n rfl dX8_cut_53) rfl ?_
  refine okL_cons (ok_aload_n rfl dX8_cut_54) rfl ?_
  refine okL_cons (ok_iload_n rfl dX8_cut_55) rfl ?_
  refine okL_cons (ok_invV (M' := 83) kw_325 kw_326 kw_327 kw_140 kw_328 cf_X8 rfl (by decide +kernel) dX8_cut_56) rfl ?_
  refine okL_cons (ok_invV (M' := 86) kw_329 kw_330 kw_331 kw_140 kw_332 cf_X8 rfl (by decide +kernel) dX8_cut_59) rfl ?_
  refine okL_cons (ok_iastore dX8_cut_62) rfl ?_
  refine okL_cons (ok_aload_n rfl dX8_cut_63) rfl ?_
  refine okL_cons (ok_dup dX8_cut_64) rfl ?_
  refine okL_cons (ok_getI kw_320 cf_X8 rfl rfl (by decide) dX8_cut_65) rfl ?_
  refine okL_cons (ok_iconst rfl dX8_cut_68) rfl ?_
  refine okL_cons (ok_iadd dX8_cut_69) rfl ?_
  refine okL_cons (ok_putI kw_320 cf_X8 rfl rfl (by decide) rfl dX8_cut_70) rfl ?_
  refine okL_cons (ok_iinc rfl dX8_cut_73) rfl ?_
  refine okL_cons (ok_goto rfl dX8_cut_76) rfl ?_
  refine okL_cons (ok_aload_n rfl dX8_cut_79) rfl ?_
  refine okL_cons (ok_getP kw_318 cf_X8 rfl rfl (by decide) dX8_cut_80) rfl ?_
  refine okL_cons (ok_aload_n rfl dX8_cut_83) rfl ?_
  refine okL_cons (ok_getI kw_320 cf_X8 rfl rfl (by decide) dX8_cut_84) rfl ?_
  refine okL_cons (ok_aload_n rfl dX8_cut_87) rfl ?_
  refine okL_cons (ok_getI kw_319 cf_X8 rfl rfl (by decide) dX8_cut_88) rfl ?_
  refine okL_cons (ok_iastore dX8_cut_91) rfl ?_
  refine okL_cons (ok_aload_n rfl dX8_cut_92) rfl ?_
  refine okL_cons (ok_getP kw_317 cf_X8 rfl rfl (by decide) dX8_cut_93) rfl ?_
  refine okL_cons (ok_aload_n rfl dX8_cut_96) rfl ?_
  refine okL_cons (ok_getI kw_320 cf_X8 rfl rfl (by decide) dX8_cut_97) rfl ?_
  refine okL_cons (ok_sipush rfl dX8_cut_100) rfl ?_
  refine okL_cons (ok_iastore dX8_cut_103) rfl ?_
  refine okL_cons (ok_aload_n rfl dX8_cut_104) rfl ?_
  refine okL_cons (ok_dup dX8_cut_105) rfl ?_
  refine okL_cons (ok_getI kw_320 cf_X8 rfl rfl (by decide) dX8_cut_106) rfl ?_
  refine okL_cons (ok_iconst rfl dX8_cut_109) rfl ?_
  refine okL_cons (ok_iadd dX8_cut_110) rfl ?_
  refine okL_cons (ok_putI kw_320 cf_X8 rfl rfl (by decide) rfl dX8_cut_111) rfl ?_
  exact okL_one (ok_return rfl dX8_cut_114)
theorem dX8_goesOn_0 : decode cX8_goesOn 0 = .ok (.iload_n 1, 1) := by decide +kernel
theorem dX8_goesOn_1 : decode cX8_goesOn 1 = .ok (.ifCond .ne 5, 3) := by decide +kernel
theorem dX8_goesOn_4 : decode cX8_goesOn 4 = .ok (.iconst 0, 1) := by decide +kernel
theorem dX8_goesOn_5 : decode cX8_goesOn 5 = .ok (.ireturn, 1) := by decide +kernel
theorem dX8_goesOn_6 : decode cX8_goesOn 6 = .ok (.aload_n 0, 1) := by decide +kernel
theorem dX8_goesOn_7 : decode cX8_goesOn 7 = .ok (.getfield 9, 3) := by decide +kernel
theorem dX8_goesOn_10 : decode cX8_goesOn 10 = .ok (.iload_n 1, 1) := by decide +kernel
theorem dX8_goesOn_11 : decode cX8_goesOn 11 = .ok (.iaload, 1) := by decide +kernel
theorem dX8_goesOn_12 : decode cX8_goesOn 12 = .ok (.istore_n 2, 1) := by decide +kernel
theorem dX8_goesOn_13 : decode cX8_goesOn 13 = .ok (.aload_n 0, 1) := by decide +kernel
theorem dX8_goesOn_14 : decode cX8_goesOn 14 = .ok (.getfield 9, 3) := by decide +kernel
theorem dX8_goesOn_17 : decode cX8_goesOn 17 = .ok (.iload_n 1, 1) := by decide +kernel
theorem dX8_goesOn_18 : decode cX8_goesOn 18 = .ok (.iconst 1, 1) := by decide +kernel
theorem dX8_goesOn_19 : decode cX8_goesOn 19 = .ok (.isub, 1) := by decide +kernel
theorem dX8_goesOn_20 : decode cX8_goesOn 20 = .ok (.iaload, 1) := by decide +kernel
theorem dX8_goesOn_21 : decode cX8_goesOn 21 = .ok (.istore_n 3, 1) := by decide +kernel
theorem dX8_goesOn_22 : decode cX8_goesOn 22 = .ok (.iload_n 2, 1) := by decide +kernel
theorem dX8_goesOn_23 : decode cX8_goesOn 23 = .ok (.invokestatic 40, 3) := by decide +kernel
theorem dX8_goesOn_26 : decode cX8_goesOn 26 = .ok (.ifCond .eq 10, 3) := by decide +kernel
theorem dX8_goesOn_29 : decode cX8_goesOn 29 = .ok (.iload_n 3, 1) := by decide +kernel
theorem dX8_goesOn_30 : decode cX8_goesOn 30 = .ok (.invokestatic 40, 3) := by decide +kernel
theorem dX8_goesOn_33 : decode cX8_goesOn 33 = .ok (.ifCond .ne 17, 3) := by decide +kernel
theorem dX8_goesOn_36 : decode cX8_goesOn 36 = .ok (.iload_n 2, 1) := by decide +kernel
theorem dX8_goesOn_37 : decode cX8_goesOn 37 = .ok (.invokestatic 43, 3) := by decide +kernel
theorem dX8_goesOn_40 : decode cX8_goesOn 40 = .ok (.ifCond .eq 14, 3) := by decide +kernel
theorem dX8_goesOn_43 : decode cX8_goesOn 43 = .ok (.iload_n 3, 1) := by decide +kernel
theorem dX8_goesOn_44 : decode cX8_goesOn 44 = .ok (.invokestatic 43, 3) := by decide +kernel
theorem dX8_goesOn_47 : decode cX8_goesOn 47 = .ok (.ifCond .eq 7, 3) := by decide +kernel
theorem dX8_goesOn_50 : decode cX8_goesOn 50 = .ok (.iconst 1, 1) := by decide +kernel
theorem dX8_goesOn_51 : decode cX8_goesOn 51 = .ok (.goto 4, 3) := by decide +kernel
theorem dX8_goesOn_54 : decode cX8_goesOn 54 = .ok (.iconst 0, 1) := by decide +kernel
theorem dX8_goesOn_55 : decode cX8_goesOn 55 = .ok (.ireturn, 1) := by decide +kernel
set_option maxRecDepth 100000 in
theorem okm_X8_goesOn : okL RX8 cX8_goesOn 4 (some .boolean) "goesOn" pcX8_goesOn opX8_goesOn pcX8_goesOn := by
  unfold opX8_goesOn
  refine okL_cons (ok_iload_n rfl dX8_goesOn_0) rfl ?_
  refine okL_cons (ok_if_ne rfl dX8_goesOn_1) rfl ?_
  refine okL_cons (ok_iconst rfl dX8_goesOn_4) rfl ?_
  refine okL_cons (ok_zreturn rfl dX8_goesOn_5) rfl ?_
  refine okL_cons (ok_aload_n rfl dX8_goesOn_6) rfl ?_
  refine okL_cons (ok_getP kw_316 cf_X8 rfl rfl (by decide) dX8_goesOn_7) rfl ?_
  refine okL_cons (ok_iload_n rfl dX8_goesOn_10) rfl ?_
  refine okL_cons (ok_iaload dX8_goesOn_11) rfl ?_
  refine okL_cons (ok_istore_n rfl dX8_goesOn_12) rfl ?_
  refine okL_cons (ok_aload_n rfl dX8_goesOn_13) rfl ?_
  refine okL_cons (ok_getP kw_316 cf_X8 rfl rfl (by decide) dX8_goesOn_14) rfl ?_
  refine okL_cons (ok_iload_n rfl dX8_goesOn_17) rfl ?_
  refine okL_cons (ok_iconst rfl dX8_goesOn_18) rfl ?_
  refine okL_cons (ok_isub dX8_goesOn_19) rfl ?_
  refine okL_cons (ok_iaload dX8_goesOn_20) rfl ?_
  refine okL_cons (ok_istore_n rfl dX8_goesOn_21) rfl ?_
  refine okL_cons (ok_iload_n rfl dX8_goesOn_22) rfl ?_
  refine okL_cons (ok_invS (M' := 84) kw_333 kw_334 kw_140 kw_335 rfl (by decide +kernel) dX8_goesOn_23) rfl ?_
  refine okL_cons (ok_if_eq rfl dX8_goesOn_26) rfl ?_
  refine okL_cons (ok_iload_n rfl dX8_goesOn_29) rfl ?_
  refine okL_cons (ok_invS (M' := 84) kw_333 kw_334 kw_140 kw_335 rfl (by decide +kernel) dX8_goesOn_30) rfl ?_
  refine okL_cons (ok_if_ne rfl dX8_goesOn_33) rfl ?_
  refine okL_cons (ok_iload_n rfl dX8_goesOn_36) rfl ?_
  refine okL_cons (ok_invS (M' := 85) kw_336 kw_337 kw_140 kw_338 rfl (by decide +kernel) dX8_goesOn_37) rfl ?_
  refine okL_cons (ok_if_eq rfl dX8_goesOn_40) rfl ?_
  refine okL_cons (ok_iload_n rfl dX8_goesOn_43) rfl ?_
  refine okL_cons (ok_invS (M' := 85) kw_336 kw_337 kw_140 kw_338 rfl (by decide +kernel) dX8_goesOn_44) rfl ?_
  refine okL_cons (ok_if_eq rfl dX8_goesOn_47) rfl ?_
  refine okL_cons (ok_iconst rfl dX8_goesOn_50) rfl ?_
  refine okL_cons (ok_goto rfl dX8_goesOn_51) rfl ?_
  refine okL_cons (ok_iconst rfl dX8_goesOn_54) rfl ?_
  exact okL_one (ok_zreturn rfl dX8_goesOn_55)
theorem dX8_behindRow_0 : decode cX8_behindRow 0 = .ok (.iload_n 1, 1) := by decide +kernel
theorem dX8_behindRow_1 : decode cX8_behindRow 1 = .ok (.iconst 1, 1) := by decide +kernel
theorem dX8_behindRow_2 : decode cX8_behindRow 2 = .ok (.iadd, 1) := by decide +kernel
theorem dX8_behindRow_3 : decode cX8_behindRow 3 = .ok (.istore_n 2, 1) := by decide +kernel
theorem dX8_behindRow_4 : decode cX8_behindRow 4 = .ok (.iload_n 2, 1) := by decide +kernel
theorem dX8_behindRow_5 : decode cX8_behindRow 5 = .ok (.aload_n 0, 1) := by decide +kernel
theorem dX8_behindRow_6 : decode cX8_behindRow 6 = .ok (.getfield 21, 3) := by decide +kernel
theorem dX8_behindRow_9 : decode cX8_behindRow 9 = .ok (.if_icmp .ge 17, 3) := by decide +kernel
theorem dX8_behindRow_12 : decode cX8_behindRow 12 = .ok (.aload_n 0, 1) := by decide +kernel
theorem dX8_behindRow_13 : decode cX8_behindRow 13 = .ok (.iload_n 2, 1) := by decide +kernel
theorem dX8_behindRow_14 : decode cX8_behindRow 14 = .ok (.invokevirtual 28, 3) := by decide +kernel
theorem dX8_behindRow_17 : decode cX8_behindRow 17 = .ok (.ifCond .eq 9, 3) := by decide +kernel
theorem dX8_behindRow_20 : decode cX8_behindRow 20 = .ok (.iinc 2 1, 3) := by decide +kernel
theorem dX8_behindRow_23 : decode cX8_behindRow 23 = .ok (.goto (-19), 3) := by decide +kernel
theorem dX8_behindRow_26 : decode cX8_behindRow 26 = .ok (.iload_n 2, 1) := by decide +kernel
theorem dX8_behindRow_27 : decode cX8_behindRow 27 = .ok (.ireturn, 1) := by decide +kernel
set_option maxRecDepth 100000 in
theorem okm_X8_behindRow : okL RX8 cX8_behindRow 3 (some .int) "behindRow" pcX8_behindRow opX8_behindRow pcX8_behindRow := by
  unfold opX8_behindRow
  refine okL_cons (ok_iload_n rfl dX8_behindRow_0) rfl ?_
  refine okL_cons (ok_iconst rfl dX8_behindRow_1) rfl ?_
  refine okL_cons (ok_iadd dX8_behindRow_2) rfl ?_
  refine okL_cons (ok_istore_n rfl dX8_behindRow_3) rfl ?_
  refine okL_cons (ok_iload_n rfl dX8_behindRow_4) rfl ?_
  refine okL_cons (ok_aload_n rfl dX8_behindRow_5) rfl ?_
  refine okL_cons (ok_getI kw_319 cf_X8 rfl rfl (by decide) dX8_behindRow_6) rfl ?_
  refine okL_cons (ok_icmp_ge rfl dX8_behindRow_9) rfl ?_
  refine okL_cons (ok_aload_n rfl dX8_behindRow_12) rfl ?_
  refine okL_cons (ok_iload_n rfl dX8_behindRow_13) rfl ?_
  refine okL_cons (ok_invV (M' := 82) kw_321 kw_322 kw_323 kw_140 kw_324 cf_X8 rfl (by decide +kernel) dX8_behindRow_14) rfl ?_
  refine okL_cons (ok_if_eq rfl dX8_behindRow_17) rfl ?_
  refine okL_cons (ok_iinc rfl dX8_behindRow_20) rfl ?_
  refine okL_cons (ok_goto rfl dX8_behindRow_23) rfl ?_
  refine okL_cons (ok_iload_n rfl dX8_behindRow_26) rfl ?_
  exact okL_one (ok_ireturn rfl dX8_behindRow_27)
theorem dX8_isSmall_0 : decode cX8_isSmall 0 = .ok (.iload_n 0, 1) := by decide +kernel
theorem dX8_isSmall_1 : decode cX8_isSmall 1 = .ok (.bipush 97, 2) := by decide +kernel
theorem dX8_isSmall_3 : decode cX8_isSmall 3 = .ok (.if_icmp .lt 13, 3) := by decide +kernel
theorem dX8_isSmall_6 : decode cX8_isSmall 6 = .ok (.iload_n 0, 1) := by decide +kernel
theorem dX8_isSmall_7 : decode cX8_isSmall 7 = .ok (.bipush 122, 2) := by decide +kernel
theorem dX8_isSmall_9 : decode cX8_isSmall 9 = .ok (.if_icmp .gt 7, 3) := by decide +kernel
theorem dX8_isSmall_12 : decode cX8_isSmall 12 = .ok (.iconst 1, 1) := by decide +kernel
theorem dX8_isSmall_13 : decode cX8_isSmall 13 = .ok (.goto 4, 3) := by decide +kernel
theorem dX8_isSmall_16 : decode cX8_isSmall 16 = .ok (.iconst 0, 1) := by decide +kernel
theorem dX8_isSmall_17 : decode cX8_isSmall 17 = .ok (.ireturn, 1) := by decide +kernel
set_option maxRecDepth 100000 in
theorem okm_X8_isSmall : okL RX8 cX8_isSmall 1 (some .boolean) "isSmall" pcX8_isSmall opX8_isSmall pcX8_isSmall := by
  unfold opX8_isSmall
  refine okL_cons (ok_iload_n rfl dX8_isSmall_0) rfl ?_
  refine okL_cons (ok_bipush rfl dX8_isSmall_1) rfl ?_
  refine okL_cons (ok_icmp_lt rfl dX8_isSmall_3) rfl ?_
  refine okL_cons (ok_iload_n rfl dX8_isSmall_6) rfl ?_
  refine okL_cons (ok_bipush rfl dX8_isSmall_7) rfl ?_
  refine okL_cons (ok_icmp_gt rfl dX8_isSmall_9) rfl ?_
  refine okL_cons (ok_iconst rfl dX8_isSmall_12) rfl ?_
  refine okL_cons (ok_goto rfl dX8_isSmall_13) rfl ?_
  refine okL_cons (ok_iconst rfl dX8_isSmall_16) rfl ?_
  exact okL_one (ok_zreturn rfl dX8_isSmall_17)
theorem dX8_isDigit_0 : decode cX8_isDigit 0 = .ok (.iload_n 0, 1) := by decide +kernel
theorem dX8_isDigit_1 : decode cX8_isDigit 1 = .ok (.bipush 48, 2) := by decide +kernel
theorem dX8_isDigit_3 : decode cX8_isDigit 3 = .ok (.if_icmp .lt 13, 3) := by decide +kernel
theorem dX8_isDigit_6 : decode cX8_isDigit 6 = .ok (.iload_n 0, 1) := by decide +kernel
theorem dX8_isDigit_7 : decode cX8_isDigit 7 = .ok (.bipush 57, 2) := by decide +kernel
theorem dX8_isDigit_9 : decode cX8_isDigit 9 = .ok (.if_icmp .gt 7, 3) := by decide +kernel
theorem dX8_isDigit_12 : decode cX8_isDigit 12 = .ok (.iconst 1, 1) := by decide +kernel
theorem dX8_isDigit_13 : decode cX8_isDigit 13 = .ok (.goto 4, 3) := by decide +kernel
theorem dX8_isDigit_16 : decode cX8_isDigit 16 = .ok (.iconst 0, 1) := by decide +kernel
theorem dX8_isDigit_17 : decode cX8_isDigit 17 = .ok (.ireturn, 1) := by decide +kernel
set_option maxRecDepth 100000 in
theorem okm_X8_isDigit : okL RX8 cX8_isDigit 1 (some .boolean) "isDigit" pcX8_isDigit opX8_isDigit pcX8_isDigit := by
  unfold opX8_isDigit
  refine okL_cons (ok_iload_n rfl dX8_isDigit_0) rfl ?_
  refine okL_cons (ok_bipush rfl dX8_isDigit_1) rfl ?_
  refine okL_cons (ok_icmp_lt rfl dX8_isDigit_3) rfl ?_
  refine okL_cons (ok_iload_n rfl dX8_isDigit_6) rfl ?_
  refine okL_cons (ok_bipush rfl dX8_isDigit_7) rfl ?_
  refine okL_cons (ok_icmp_gt rfl dX8_isDigit_9) rfl ?_
  refine okL_cons (ok_iconst rfl dX8_isDigit_12) rfl ?_
  refine okL_cons (ok_goto rfl dX8_isDigit_13) rfl ?_
  refine okL_cons (ok_iconst rfl dX8_isDigit_16) rfl ?_
  exact okL_one (ok_zreturn rfl dX8_isDigit_17)
theorem dX8_tokenOf_0 : decode cX8_tokenOf 0 = .ok (.aload_n 0, 1) := by decide +kernel
theorem dX8_tokenOf_1 : decode cX8_tokenOf 1 = .ok (.getfield 9, 3) := by decide +kernel
theorem dX8_tokenOf_4 : decode cX8_tokenOf 4 = .ok (.iload_n 1, 1) := by decide +kernel
theorem dX8_tokenOf_5 : decode cX8_tokenOf 5 = .ok (.iaload, 1) := by decide +kernel
theorem dX8_tokenOf_6 : decode cX8_tokenOf 6 = .ok (.invokestatic 40, 3) := by decide +kernel
theorem dX8_tokenOf_9 : decode cX8_tokenOf 9 = .ok (.ifCond .eq 28, 3) := by decide +kernel
theorem dX8_tokenOf_12 : decode cX8_tokenOf 12 = .ok (.aload_n 0, 1) := by decide +kernel
theorem dX8_tokenOf_13 : decode cX8_tokenOf 13 = .ok (.iload_n 1, 1) := by decide +kernel
theorem dX8_tokenOf_14 : decode cX8_tokenOf 14 = .ok (.iload_n 2, 1) := by decide +kernel
theorem dX8_tokenOf_15 : decode cX8_tokenOf 15 = .ok (.invokevirtual 46, 3) := by decide +kernel
theorem dX8_tokenOf_18 : decode cX8_tokenOf 18 = .ok (.istore_n 3, 1) := by decide +kernel
theorem dX8_tokenOf_19 : decode cX8_tokenOf 19 = .ok (.iload_n 3, 1) := by decide +kernel
theorem dX8_tokenOf_20 : decode cX8_tokenOf 20 = .ok (.sipush 3000, 3) := by decide +kernel
theorem dX8_tokenOf_23 : decode cX8_tokenOf 23 = .ok (.if_icmp .eq 7, 3) := by decide +kernel
theorem dX8_tokenOf_26 : decode cX8_tokenOf 26 = .ok (.iload_n 3, 1) := by decide +kernel
theorem dX8_tokenOf_27 : decode cX8_tokenOf 27 = .ok (.goto 9, 3) := by decide +kernel
theorem dX8_tokenOf_30 : decode cX8_tokenOf 30 = .ok (.aload_n 0, 1) := by decide +kernel
theorem dX8_tokenOf_31 : decode cX8_tokenOf 31 = .ok (.iload_n 1, 1) := by decide +kernel
theorem dX8_tokenOf_32 : decode cX8_tokenOf 32 = .ok (.iload_n 2, 1) := by decide +kernel
theorem dX8_tokenOf_33 : decode cX8_tokenOf 33 = .ok (.invokevirtual 49, 3) := by decide +kernel
theorem dX8_tokenOf_36 : decode cX8_tokenOf 36 = .ok (.ireturn, 1) := by decide +kernel
theorem dX8_tokenOf_37 : decode cX8_tokenOf 37 = .ok (.aload_n 0, 1) := by decide +kernel
theorem dX8_tokenOf_38 : decode cX8_tokenOf 38 = .ok (.getfield 9, 3) := by decide +kernel
theorem dX8_tokenOf_41 : decode cX8_tokenOf 41 = .ok (.iload_n 1, 1) := by decide +kernel
theorem dX8_tokenOf_42 : decode cX8_tokenOf 42 = .ok (.iaload, 1) := by decide +kernel
theorem dX8_tokenOf_43 : decode cX8_tokenOf 43 = .ok (.invokestatic 43, 3) := by decide +kernel
theorem dX8_tokenOf_46 : decode cX8_tokenOf 46 = .ok (.ifCond .eq 12, 3) := by decide +kernel
theorem dX8_tokenOf_49 : decode cX8_tokenOf 49 = .ok (.aload_n 0, 1) := by decide +kernel
theorem dX8_tokenOf_50 : decode cX8_tokenOf 50 = .ok (.iload_n 1, 1) := by decide +kernel
theorem dX8_tokenOf_51 : decode cX8_tokenOf 51 = .ok (.iload_n 2, 1) := by decide +kernel
theorem dX8_tokenOf_52 : decode cX8_tokenOf 52 = .ok (.invokevirtual 52, 3) := by decide +kernel
theorem dX8_tokenOf_55 : decode cX8_tokenOf 55 = .ok (.goto 13, 3) := by decide +kernel
theorem dX8_tokenOf_58 : decode cX8_tokenOf 58 = .ok (.sipush 2000, 3) := by decide +kernel
theorem dX8_tokenOf_61 : decode cX8_tokenOf 61 = .ok (.aload_n 0, 1) := by decide +kernel
theorem dX8_tokenOf_62 : decode cX8_tokenOf 62 = .ok (.getfield 9, 3) := by decide +kernel
theorem dX8_tokenOf_65 : decode cX8_tokenOf 65 = .ok (.iload_n 1, 1) := by decide +kernel
theorem dX8_tokenOf_66 : decode cX8_tokenOf 66 = .ok (.iaload, 1) := by decide +kernel
theorem dX8_tokenOf_67 : decode cX8_tokenOf 67 = .ok (.iadd, 1) := by decide +kernel
theorem dX8_tokenOf_68 : decode cX8_tokenOf 68 = .ok (.ireturn, 1) := by decide +kernel
set_option maxRecDepth 100000 in
theorem okm_X8_tokenOf : okL RX8 cX8_tokenOf 4 (some .int) "tokenOf" pcX8_tokenOf opX8_tokenOf pcX8_tokenOf := by
  unfold opX8_tokenOf
  refine okL_cons (ok_aload_n rfl dX8_tokenOf_0) rfl ?_
  refine okL_cons (ok_getP kw_316 cf_X8 rfl rfl (by decide) dX8_tokenOf_1) rfl ?_
  refine okL_cons (ok_iload_n rfl dX8_tokenOf_4) rfl ?_
  refine okL_cons (ok_iaload dX8_tokenOf_5) rfl ?_
  refine okL_cons (ok_invS (M' := 84) kw_333 kw_334 kw_140 kw_335 rfl (by decide +kernel) dX8_tokenOf_6) rfl ?_
  refine okL_cons (ok_if_eq rfl dX8_tokenOf_9) rfl ?_
  refine okL_cons (ok_aload_n rfl dX8_tokenOf_12) rfl ?_
  refine okL_cons (ok_iload_n rfl dX8_tokenOf_13) rfl ?_
  refine okL_cons (ok_iload_n rfl dX8_tokenOf_14) rfl ?_
  refine okL_cons (ok_invV (M' := 88) kw_339 kw_340 kw_341 kw_140 kw_342 cf_X8 rfl (by decide +kernel) dX8_tokenOf_15) rfl ?_
  refine okL_cons (ok_istore_n rfl dX8_tokenOf_18) rfl ?_
  refine okL_cons (ok_iload_n rfl dX8_tokenOf_19) rfl ?_
  refine okL_cons (ok_sipush rfl dX8_tokenOf_20) rfl ?_
  refine okL_cons (ok_icmp_eq rfl dX8_tokenOf_23) rfl ?_
  refine okL_cons (ok_iload_n rfl dX8_tokenOf_26) rfl ?_
  refine okL_cons (ok_goto rfl dX8_tokenOf_27) rfl ?_
  refine okL_cons (ok_aload_n rfl dX8_tokenOf_30) rfl ?_
  refine okL_cons (ok_iload_n rfl dX8_tokenOf_31) rfl ?_
  refine okL_cons (ok_iload_n rfl dX8_tokenOf_32) rfl ?_
  refine okL_cons (ok_invV (M' := 89) kw_343 kw_344 kw_345 kw_140 kw_346 cf_X8 rfl (by decide +kernel) dX8_tokenOf_33) rfl ?_
  refine okL_cons (ok_ireturn rfl dX8_tokenOf_36) rfl ?_
  refine okL_cons (ok_aload_n rfl dX8_tokenOf_37) rfl ?_
  refine okL_cons (ok_getP kw_316 cf_X8 rfl rfl (by decide) dX8_tokenOf_38) rfl ?_
  refine okL_cons (ok_iload_n rfl dX8_tokenOf_41) rfl ?_
  refine okL_cons (ok_iaload dX8_tokenOf_42) rfl ?_
  refine okL_cons (ok_invS (M' := 85) kw_336 kw_337 kw_140 kw_338 rfl (by decide +kernel) dX8_tokenOf_43) rfl ?_
  refine okL_cons (ok_if_eq rfl dX8_tokenOf_46) rfl ?_
  refine okL_cons (ok_aload_n rfl dX8_tokenOf_49) rfl ?_
  refine okL_cons (ok_iload_n rfl dX8_tokenOf_50) rfl ?_
  refine okL_cons (ok_iload_n rfl dX8_tokenOf_51) rfl ?_
  refine okL_cons (ok_invV (M' := 87) kw_347 kw_348 kw_349 kw_140 kw_350 cf_X8 rfl (by decide +kernel) dX8_tokenOf_52) rfl ?_
  refine okL_cons (ok_goto rfl dX8_tokenOf_55) rfl ?_
  refine okL_cons (ok_sipush rfl dX8_tokenOf_58) rfl ?_
  refine okL_cons (ok_aload_n rfl dX8_tokenOf_61) rfl ?_
  refine okL_cons (ok_getP kw_316 cf_X8 rfl rfl (by decide) dX8_tokenOf_62) rfl ?_
  refine okL_cons (ok_iload_n rfl dX8_tokenOf_65) rfl ?_
  refine okL_cons (ok_iaload dX8_tokenOf_66) rfl ?_
  refine okL_cons (ok_iadd dX8_tokenOf_67) rfl ?_
  exact okL_one (ok_ireturn rfl dX8_tokenOf_68)
