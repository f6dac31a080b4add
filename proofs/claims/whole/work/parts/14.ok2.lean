theorem dX8_numberOf_0 : decode cX8_numberOf 0 = .ok (.iconst 0, 1) := by decide +kernel
theorem dX8_numberOf_1 : decode cX8_numberOf 1 = .ok (.istore_n 3, 1) := by decide +kernel
theorem dX8_numberOf_2 : decode cX8_numberOf 2 = .ok (.iload_n 1, 1) := by decide +kernel
theorem dX8_numberOf_3 : decode cX8_numberOf 3 = .ok (.istore 4, 2) := by decide +kernel
theorem dX8_numberOf_5 : decode cX8_numberOf 5 = .ok (.iload 4, 2) := by decide +kernel
theorem dX8_numberOf_7 : decode cX8_numberOf 7 = .ok (.iload_n 2, 1) := by decide +kernel
theorem dX8_numberOf_8 : decode cX8_numberOf 8 = .ok (.if_icmp .ge 31, 3) := by decide +kernel
theorem dX8_numberOf_11 : decode cX8_numberOf 11 = .ok (.iload_n 3, 1) := by decide +kernel
theorem dX8_numberOf_12 : decode cX8_numberOf 12 = .ok (.bipush 10, 2) := by decide +kernel
theorem dX8_numberOf_14 : decode cX8_numberOf 14 = .ok (.imul, 1) := by decide +kernel
theorem dX8_numberOf_15 : decode cX8_numberOf 15 = .ok (.aload_n 0, 1) := by decide +kernel
theorem dX8_numberOf_16 : decode cX8_numberOf 16 = .ok (.getfield 9, 3) := by decide +kernel
theorem dX8_numberOf_19 : decode cX8_numberOf 19 = .ok (.iload 4, 2) := by decide +kernel
theorem dX8_numberOf_21 : decode cX8_numberOf 21 = .ok (.iaload, 1) := by decide +kernel
theorem dX8_numberOf_22 : decode cX8_numberOf 22 = .ok (.iadd, 1) := by decide +kernel
theorem dX8_numberOf_23 : decode cX8_numberOf 23 = .ok (.bipush 48, 2) := by decide +kernel
theorem dX8_numberOf_25 : decode cX8_numberOf 25 = .ok (.isub, 1) := by decide +kernel
theorem dX8_numberOf_26 : decode cX8_numberOf 26 = .ok (.sipush 1001, 3) := by decide +kernel
theorem dX8_numberOf_29 : decode cX8_numberOf 29 = .ok (.invokestatic 55, 3) := by decide +kernel
theorem dX8_numberOf_32 : decode cX8_numberOf 32 = .ok (.istore_n 3, 1) := by decide +kernel
theorem dX8_numberOf_33 : decode cX8_numberOf 33 = .ok (.iinc 4 1, 3) := by decide +kernel
theorem dX8_numberOf_36 : decode cX8_numberOf 36 = .ok (.goto (-31), 3) := by decide +kernel
theorem dX8_numberOf_39 : decode cX8_numberOf 39 = .ok (.iload_n 3, 1) := by decide +kernel
theorem dX8_numberOf_40 : decode cX8_numberOf 40 = .ok (.ireturn, 1) := by decide +kernel
set_option maxRecDepth 100000 in
theorem okm_X8_numberOf : okL RX8 cX8_numberOf 5 (some .int) "numberOf" pcX8_numberOf opX8_numberOf pcX8_numberOf := by
  unfold opX8_numberOf
  refine okL_cons (ok_iconst rfl dX8_numberOf_0) rfl ?_
  refine okL_cons (ok_istore_n rfl dX8_numberOf_1) rfl ?_
  refine okL_cons (ok_iload_n rfl dX8_numberOf_2) rfl ?_
  refine okL_cons (ok_istore dX8_numberOf_3) rfl ?_
  refine okL_cons (ok_iload dX8_numberOf_5) rfl ?_
  refine okL_cons (ok_iload_n rfl dX8_numberOf_7) rfl ?_
  refine okL_cons (ok_icmp_ge rfl dX8_numberOf_8) rfl ?_
  refine okL_cons (ok_iload_n rfl dX8_numberOf_11) rfl ?_
  refine okL_cons (ok_bipush rfl dX8_numberOf_12) rfl ?_
  refine okL_cons (ok_imul dX8_numberOf_14) rfl ?_
  refine okL_cons (ok_aload_n rfl dX8_numberOf_15) rfl ?_
  refine okL_cons (ok_getP kw_316 cf_X8 rfl rfl (by decide) dX8_numberOf_16) rfl ?_
  refine okL_cons (ok_iload dX8_numberOf_19) rfl ?_
  refine okL_cons (ok_iaload dX8_numberOf_21) rfl ?_
  refine okL_cons (ok_iadd dX8_numberOf_22) rfl ?_
  refine okL_cons (ok_bipush rfl dX8_numberOf_23) rfl ?_
  refine okL_cons (ok_isub dX8_numberOf_25) rfl ?_
  refine okL_cons (ok_sipush rfl dX8_numberOf_26) rfl ?_
  refine okL_cons (ok_min kw_351 kw_125 kw_36 kw_126 dX8_numberOf_29) rfl ?_
  refine okL_cons (ok_istore_n rfl dX8_numberOf_32) rfl ?_
  refine okL_cons (ok_iinc rfl dX8_numberOf_33) rfl ?_
  refine okL_cons (ok_goto rfl dX8_numberOf_36) rfl ?_
  refine okL_cons (ok_iload_n rfl dX8_numberOf_39) rfl ?_
  exact okL_one (ok_ireturn rfl dX8_numberOf_40)
theorem dX8_joiningWord_0 : decode cX8_joiningWord 0 = .ok (.aload_n 0, 1) := by decide +kernel
theorem dX8_joiningWord_1 : decode cX8_joiningWord 1 = .ok (.ldc 60, 2) := by decide +kernel
theorem dX8_joiningWord_3 : decode cX8_joiningWord 3 = .ok (.iload_n 1, 1) := by decide +kernel
theorem dX8_joiningWord_4 : decode cX8_joiningWord 4 = .ok (.iload_n 2, 1) := by decide +kernel
theorem dX8_joiningWord_5 : decode cX8_joiningWord 5 = .ok (.invokevirtual 62, 3) := by decide +kernel
theorem dX8_joiningWord_8 : decode cX8_joiningWord 8 = .ok (.ifCond .eq 9, 3) := by decide +kernel
theorem dX8_joiningWord_11 : decode cX8_joiningWord 11 = .ok (.sipush 3001, 3) := by decide +kernel
theorem dX8_joiningWord_14 : decode cX8_joiningWord 14 = .ok (.goto 227, 3) := by decide +kernel
theorem dX8_joiningWord_17 : decode cX8_joiningWord 17 = .ok (.aload_n 0, 1) := by decide +kernel
theorem dX8_joiningWord_18 : decode cX8_joiningWord 18 = .ok (.ldc 66, 2) := by decide +kernel
theorem dX8_joiningWord_20 : decode cX8_joiningWord 20 = .ok (.iload_n 1, 1) := by decide +kernel
theorem dX8_joiningWord_21 : decode cX8_joiningWord 21 = .ok (.iload_n 2, 1) := by decide +kernel
theorem dX8_joiningWord_22 : decode cX8_joiningWord 22 = .ok (.invokevirtual 62, 3) := by decide +kernel
theorem dX8_joiningWord_25 : decode cX8_joiningWord 25 = .ok (.ifCond .eq 9, 3) := by decide +kernel
theorem dX8_joiningWord_28 : decode cX8_joiningWord 28 = .ok (.sipush 3002, 3) := by decide +kernel
theorem dX8_joiningWord_31 : decode cX8_joiningWord 31 = .ok (.goto 210, 3) := by decide +kernel
theorem dX8_joiningWord_34 : decode cX8_joiningWord 34 = .ok (.aload_n 0, 1) := by decide +kernel
theorem dX8_joiningWord_35 : decode cX8_joiningWord 35 = .ok (.ldc 68, 2) := by decide +kernel
theorem dX8_joiningWord_37 : decode cX8_joiningWord 37 = .ok (.iload_n 1, 1) := by decide +kernel
theorem dX8_joiningWord_38 : decode cX8_joiningWord 38 = .ok (.iload_n 2, 1) := by decide +kernel
theorem dX8_joiningWord_39 : decode cX8_joiningWord 39 = .ok (.invokevirtual 62, 3) := by decide +kernel
theorem dX8_joiningWord_42 : decode cX8_joiningWord 42 = .ok (.ifCond .eq 9, 3) := by decide +kernel
theorem dX8_joiningWord_45 : decode cX8_joiningWord 45 = .ok (.sipush 3003, 3) := by decide +kernel
theorem dX8_joiningWord_48 : decode cX8_joiningWord 48 = .ok (.goto 193, 3) := by decide +kernel
theorem dX8_joiningWord_51 : decode cX8_joiningWord 51 = .ok (.aload_n 0, 1) := by decide +kernel
theorem dX8_joiningWord_52 : decode cX8_joiningWord 52 = .ok (.ldc 70, 2) := by decide +kernel
theorem dX8_joiningWord_54 : decode cX8_joiningWord 54 = .ok (.iload_n 1, 1) := by decide +kernel
theorem dX8_joiningWord_55 : decode cX8_joiningWord 55 = .ok (.iload_n 2, 1) := by decide +kernel
theorem dX8_joiningWord_56 : decode cX8_joiningWord 56 = .ok (.invokevirtual 62, 3) := by decide +kernel
theorem dX8_joiningWord_59 : decode cX8_joiningWord 59 = .ok (.ifCond .eq 9, 3) := by decide +kernel
theorem dX8_joiningWord_62 : decode cX8_joiningWord 62 = .ok (.sipush 3004, 3) := by decide +kernel
theorem dX8_joiningWord_65 : decode cX8_joiningWord 65 = .ok (.goto 176, 3) := by decide +kernel
theorem dX8_joiningWord_68 : decode cX8_joiningWord 68 = .ok (.aload_n 0, 1) := by decide +kernel
theorem dX8_joiningWord_69 : decode cX8_joiningWord 69 = .ok (.ldc 72, 2) := by decide +kernel
theorem dX8_joiningWord_71 : decode cX8_joiningWord 71 = .ok (.iload_n 1, 1) := by decide +kernel
theorem dX8_joiningWord_72 : decode cX8_joiningWord 72 = .ok (.iload_n 2, 1) := by decide +kernel
theorem dX8_joiningWord_73 : decode cX8_joiningWord 73 = .ok (.invokevirtual 62, 3) := by decide +kernel
theorem dX8_joiningWord_76 : decode cX8_joiningWord 76 = .ok (.ifCond .eq 9, 3) := by decide +kernel
theorem dX8_joiningWord_79 : decode cX8_joiningWord 79 = .ok (.sipush 3005, 3) := by decide +kernel
theorem dX8_joiningWord_82 : decode cX8_joiningWord 82 = .ok (.goto 159, 3) := by decide +kernel
theorem dX8_joiningWord_85 : decode cX8_joiningWord 85 = .ok (.aload_n 0, 1) := by decide +kernel
theorem dX8_joiningWord_86 : decode cX8_joiningWord 86 = .ok (.ldc 74, 2) := by decide +kernel
theorem dX8_joiningWord_88 : decode cX8_joiningWord 88 = .ok (.iload_n 1, 1) := by decide +kernel
theorem dX8_joiningWord_89 : decode cX8_joiningWord 89 = .ok (.iload_n 2, 1) := by decide +kernel
theorem dX8_joiningWord_90 : decode cX8_joiningWord 90 = .ok (.invokevirtual 62, 3) := by decide +kernel
theorem dX8_joiningWord_93 : decode cX8_joiningWord 93 = .ok (.ifCond .eq 9, 3) := by decide +kernel
theorem dX8_joiningWord_96 : decode cX8_joiningWord 96 = .ok (.sipush 3006, 3) := by decide +kernel
theorem dX8_joiningWord_99 : decode cX8_joiningWord 99 = .ok (.goto 142, 3) := by decide +kernel
theorem dX8_joiningWord_102 : decode cX8_joiningWord 102 = .ok (.aload_n 0, 1) := by decide +kernel
theorem dX8_joiningWord_103 : decode cX8_joiningWord 103 = .ok (.ldc 76, 2) := by decide +kernel
theorem dX8_joiningWord_105 : decode cX8_joiningWord 105 = .ok (.iload_n 1, 1) := by decide +kernel
theorem dX8_joiningWord_106 : decode cX8_joiningWord 106 = .ok (.iload_n 2, 1) := by decide +kernel
theorem dX8_joiningWord_107 : decode cX8_joiningWord 107 = .ok (.invokevirtual 62, 3) := by decide +kernel
theorem dX8_joiningWord_110 : decode cX8_joiningWord 110 = .ok (.ifCond .eq 9, 3) := by decide +kernel
theorem dX8_joiningWord_113 : decode cX8_joiningWord 113 = .ok (.sipush 3007, 3) := by decide +kernel
theorem dX8_joiningWord_116 : decode cX8_joiningWord 116 = .ok (.goto 125, 3) := by decide +kernel
theorem dX8_joiningWord_119 : decode cX8_joiningWord 119 = .ok (.aload_n 0, 1) := by decide +kernel
theorem dX8_joiningWord_120 : decode cX8_joiningWord 120 = .ok (.ldc 78, 2) := by decide +kernel
theorem dX8_joiningWord_122 : decode cX8_joiningWord 122 = .ok (.iload_n 1, 1) := by decide +kernel
theorem dX8_joiningWord_123 : decode cX8_joiningWord 123 = .ok (.iload_n 2, 1) := by decide +kernel
theorem dX8_joiningWord_124 : decode cX8_joiningWord 124 = .ok (.invokevirtual 62, 3) := by decide +kernel
theorem dX8_joiningWord_127 : decode cX8_joiningWord 127 = .ok (.ifCond .eq 9, 3) := by decide +kernel
theorem dX8_joiningWord_130 : decode cX8_joiningWord 130 = .ok (.sipush 3008, 3) := by decide +kernel
theorem dX8_joiningWord_133 : decode cX8_joiningWord 133 = .ok (.goto 108, 3) := by decide +kernel
theorem dX8_joiningWord_136 : decode cX8_joiningWord 136 = .ok (.aload_n 0, 1) := by decide +kernel
theorem dX8_joiningWord_137 : decode cX8_joiningWord 137 = .ok (.ldc 80, 2) := by decide +kernel
theorem dX8_joiningWord_139 : decode cX8_joiningWord 139 = .ok (.iload_n 1, 1) := by decide +kernel
theorem dX8_joiningWord_140 : decode cX8_joiningWord 140 = .ok (.iload_n 2, 1) := by decide +kernel
theorem dX8_joiningWord_141 : decode cX8_joiningWord 141 = .ok (.invokevirtual 62, 3) := by decide +kernel
theorem dX8_joiningWord_144 : decode cX8_joiningWord 144 = .ok (.ifCond .eq 9, 3) := by decide +kernel
theorem dX8_joiningWord_147 : decode cX8_joiningWord 147 = .ok (.sipush 3009, 3) := by decide +kernel
theorem dX8_joiningWord_150 : decode cX8_joiningWord 150 = .ok (.goto 91, 3) := by decide +kernel
theorem dX8_joiningWord_153 : decode cX8_joiningWord 153 = .ok (.aload_n 0, 1) := by decide +kernel
theorem dX8_joiningWord_154 : decode cX8_joiningWord 154 = .ok (.ldc 82, 2) := by decide +kernel
theorem dX8_joiningWord_156 : decode cX8_joiningWord 156 = .ok (.iload_n 1, 1) := by decide +kernel
theorem dX8_joiningWord_157 : decode cX8_joiningWord 157 = .ok (.iload_n 2, 1) := by decide +kernel
theorem dX8_joiningWord_158 : decode cX8_joiningWord 158 = .ok (.invokevirtual 62, 3) := by decide +kernel
theorem dX8_joiningWord_161 : decode cX8_joiningWord 161 = .ok (.ifCond .eq 9, 3) := by decide +kernel
theorem dX8_joiningWord_164 : decode cX8_joiningWord 164 = .ok (.sipush 3010, 3) := by decide +kernel
theorem dX8_joiningWord_167 : decode cX8_joiningWord 167 = .ok (.goto 74, 3) := by decide +kernel
theorem dX8_joiningWord_170 : decode cX8_joiningWord 170 = .ok (.aload_n 0, 1) := by decide +kernel
theorem dX8_joiningWord_171 : decode cX8_joiningWord 171 = .ok (.ldc 84, 2) := by decide +kernel
theorem dX8_joiningWord_173 : decode cX8_joiningWord 173 = .ok (.iload_n 1, 1) := by decide +kernel
theorem dX8_joiningWord_174 : decode cX8_joiningWord 174 = .ok (.iload_n 2, 1) := by decide +kernel
theorem dX8_joiningWord_175 : decode cX8_joiningWord 175 = .ok (.invokevirtual 62, 3) := by decide +kernel
theorem dX8_joiningWord_178 : decode cX8_joiningWord 178 = .ok (.ifCond .eq 9, 3) := by decide +kernel
theorem dX8_joiningWord_181 : decode cX8_joiningWord 181 = .ok (.sipush 3011, 3) := by decide +kernel
theorem dX8_joiningWord_184 : decode cX8_joiningWord 184 = .ok (.goto 57, 3) := by decide +kernel
theorem dX8_joiningWord_187 : decode cX8_joiningWord 187 = .ok (.aload_n 0, 1) := by decide +kernel
theorem dX8_joiningWord_188 : decode cX8_joiningWord 188 = .ok (.ldc 86, 2) := by decide +kernel
theorem dX8_joiningWord_190 : decode cX8_joiningWord 190 = .ok (.iload_n 1, 1) := by decide +kernel
theorem dX8_joiningWord_191 : decode cX8_joiningWord 191 = .ok (.iload_n 2, 1) := by decide +kernel
theorem dX8_joiningWord_192 : decode cX8_joiningWord 192 = .ok (.invokevirtual 62, 3) := by decide +kernel
theorem dX8_joiningWord_195 : decode cX8_joiningWord 195 = .ok (.ifCond .eq 9, 3) := by decide +kernel
theorem dX8_joiningWord_198 : decode cX8_joiningWord 198 = .ok (.sipush 3012, 3) := by decide +kernel
theorem dX8_joiningWord_201 : decode cX8_joiningWord 201 = .ok (.goto 40, 3) := by decide +kernel
theorem dX8_joiningWord_204 : decode cX8_joiningWord 204 = .ok (.aload_n 0, 1) := by decide +kernel
theorem dX8_joiningWord_205 : decode cX8_joiningWord 205 = .ok (.ldc 88, 2) := by decide +kernel
theorem dX8_joiningWord_207 : decode cX8_joiningWord 207 = .ok (.iload_n 1, 1) := by decide +kernel
theorem dX8_joiningWord_208 : decode cX8_joiningWord 208 = .ok (.iload_n 2, 1) := by decide +kernel
theorem dX8_joiningWord_209 : decode cX8_joiningWord 209 = .ok (.invokevirtual 62, 3) := by decide +kernel
theorem dX8_joiningWord_212 : decode cX8_joiningWord 212 = .ok (.ifCond .eq 9, 3) := by decide +kernel
theorem dX8_joiningWord_215 : decode cX8_joiningWord 215 = .ok (.sipush 3013, 3) := by decide +kernel
theorem dX8_joiningWord_218 : decode cX8_joiningWord 218 = .ok (.goto 23, 3) := by decide +kernel
theorem dX8_joiningWord_221 : decode cX8_joiningWord 221 = .ok (.aload_n 0, 1) := by decide +kernel
theorem dX8_joiningWord_222 : decode cX8_joiningWord 222 = .ok (.ldc 90, 2) := by decide +kernel
theorem dX8_joiningWord_224 : decode cX8_joiningWord 224 = .ok (.iload_n 1, 1) := by decide +kernel
theorem dX8_joiningWord_225 : decode cX8_joiningWord 225 = .ok (.iload_n 2, 1) := by decide +kernel
theorem dX8_joiningWord_226 : decode cX8_joiningWord 226 = .ok (.invokevirtual 62, 3) := by decide +kernel
theorem dX8_joiningWord_229 : decode cX8_joiningWord 229 = .ok (.ifCond .eq 9, 3) := by decide +kernel
theorem dX8_joiningWord_232 : decode cX8_joiningWord 232 = .ok (.sipush 3014, 3) := by decide +kernel
theorem dX8_joiningWord_235 : decode cX8_joiningWord 235 = .ok (.goto 6, 3) := by decide +kernel
theorem dX8_joiningWord_238 : decode cX8_joiningWord 238 = .ok (.sipush 3000, 3) := by decide +kernel
theorem dX8_joiningWord_241 : decode cX8_joiningWord 241 = .ok (.ireturn, 1) := by decide +kernel
set_option maxRecDepth 100000 in
theorem okm_X8_joiningWord : okL RX8 cX8_joiningWord 3 (some .int) "joiningWord" pcX8_joiningWord opX8_joiningWord pcX8_joiningWord := by
  unfold opX8_joiningWord
  refine okL_cons (ok_aload_n rfl dX8_joiningWord_0) rfl ?_
  refine okL_cons (ok_ldcS 0 rfl rfl (by decide) dX8_joiningWord_1) rfl ?_
  refine okL_cons (ok_iload_n rfl dX8_joiningWord_3) rfl ?_
  refine okL_cons (ok_iload_n rfl dX8_joiningWord_4) rfl ?_
  refine okL_cons (ok_invV (M' := 90) kw_352 kw_353 kw_354 kw_140 kw_355 cf_X8 rfl (by decide +kernel) dX8_joiningWord_5) rfl ?_
  refine okL_cons (ok_if_eq rfl dX8_joiningWord_8) rfl ?_
  refine okL_cons (ok_sipush rfl dX8_joiningWord_11) rfl ?_
  refine okL_cons (ok_goto rfl dX8_joiningWord_14) rfl ?_
  refine okL_cons (ok_aload_n rfl dX8_joiningWord_17) rfl ?_
  refine okL_cons (ok_ldcS 1 rfl rfl (by decide) dX8_joiningWord_18) rfl ?_
  refine okL_cons (ok_iload_n rfl dX8_joiningWord_20) rfl ?_
  refine okL_cons (ok_iload_n rfl dX8_joiningWord_21) rfl ?_
  refine okL_cons (ok_invV (M' := 90) kw_352 kw_353 kw_354 kw_140 kw_355 cf_X8 rfl (by decide +kernel) dX8_joiningWord_22) rfl ?_
  refine okL_cons (ok_if_eq rfl dX8_joiningWord_25) rfl ?_
  refine okL_cons (ok_sipush rfl dX8_joiningWord_28) rfl ?_
  refine okL_cons (ok_goto rfl dX8_joiningWord_31) rfl ?_
  refine okL_cons (ok_aload_n rfl dX8_joiningWord_34) rfl ?_
  refine okL_cons (ok_ldcS 2 rfl rfl (by decide) dX8_joiningWord_35) rfl ?_
  refine okL_cons (ok_iload_n rfl dX8_joiningWord_37) rfl ?_
  refine okL_cons (ok_iload_n rfl dX8_joiningWord_38) rfl ?_
  refine okL_cons (ok_invV (M' := 90) kw_352 kw_353 kw_354 kw_140 kw_355 cf_X8 rfl (by decide +kernel) dX8_joiningWord_39) rfl ?_
  refine okL_cons (ok_if_eq rfl dX8_joiningWord_42) rfl ?_
  refine okL_cons (ok_sipush rfl dX8_joiningWord_45) rfl ?_
  refine okL_cons (ok_goto rfl dX8_joiningWord_48) rfl ?_
  refine okL_cons (ok_aload_n rfl dX8_joiningWord_51) rfl ?_
  refine okL_cons (ok_ldcS 3 rfl rfl (by decide) dX8_joiningWord_52) rfl ?_
  refine okL_cons (ok_iload_n rfl dX8_joiningWord_54) rfl ?_
  refine okL_cons (ok_iload_n rfl dX8_joiningWord_55) rfl ?_
  refine okL_cons (ok_invV (M' := 90) kw_352 kw_353 kw_354 kw_140 kw_355 cf_X8 rfl (by decide +kernel) dX8_joiningWord_56) rfl ?_
  refine okL_cons (ok_if_eq rfl dX8_joiningWord_59) rfl ?_
  refine okL_cons (ok_sipush rfl dX8_joiningWord_62) rfl ?_
  refine okL_cons (ok_goto rfl dX8_joiningWord_65) rfl ?_
  refine okL_cons (ok_aload_n rfl dX8_joiningWord_68) rfl ?_
  refine okL_cons (ok_ldcS 4 rfl rfl (by decide) dX8_joiningWord_69) rfl ?_
  refine okL_cons (ok_iload_n rfl dX8_joiningWord_71) rfl ?_
  refine okL_cons (ok_iload_n rfl dX8_joiningWord_72) rfl ?_
  refine okL_cons (ok_invV (M' := 90) kw_352 kw_353 kw_354 kw_140 kw_355 cf_X8 rfl (by decide +kernel) dX8_joiningWord_73) rfl ?_
  refine okL_cons (ok_if_eq rfl dX8_joiningWord_76) rfl ?_
  refine okL_cons (ok_sipush rfl dX8_joiningWord_79) rfl ?_
  refine okL_cons (ok_goto rfl dX8_joiningWord_82) rfl ?_
  refine okL_cons (ok_aload_n rfl dX8_joiningWord_85) rfl ?_
  refine okL_cons (ok_ldcS 5 rfl rfl (by decide) dX8_joiningWord_86) rfl ?_
  refine okL_cons (ok_iload_n rfl dX8_joiningWord_88) rfl ?_
  refine okL_cons (ok_iload_n rfl dX8_joiningWord_89) rfl ?_
  refine okL_cons (ok_invV (M' := 90) kw_352 kw_353 kw_354 kw_140 kw_355 cf_X8 rfl (by decide +kernel) dX8_joiningWord_90) rfl ?_
  refine okL_cons (ok_if_eq rfl dX8_joiningWord_93) rfl ?_
  refine okL_cons (ok_sipush rfl dX8_joiningWord_96) rfl ?_
  refine okL_cons (ok_goto rfl dX8_joiningWord_99) rfl ?_
  refine okL_cons (ok_aload_n rfl dX8_joiningWord_102) rfl ?_
  refine okL_cons (ok_ldcS 6 rfl rfl (by decide) dX8_joiningWord_103) rfl ?_
  refine okL_cons (ok_iload_n rfl dX8_joiningWord_105) rfl ?_
  refine okL_cons (ok_iload_n rfl dX8_joiningWord_106) rfl ?_
  refine okL_cons (ok_invV (M' := 90) kw_352 kw_353 kw_354 kw_140 kw_355 cf_X8 rfl (by decide +kernel) dX8_joiningWord_107) rfl ?_
  refine okL_cons (ok_if_eq rfl dX8_joiningWord_110) rfl ?_
  refine okL_cons (ok_sipush rfl dX8_joiningWord_113) rfl ?_
  refine okL_cons (ok_goto rfl dX8_joiningWord_116) rfl ?_
  refine okL_cons (ok_aload_n rfl dX8_joiningWord_119) rfl ?_
  refine okL_cons (ok_ldcS 7 rfl rfl (by decide) dX8_joiningWord_120) rfl ?_
  refine okL_cons (ok_iload_n rfl dX8_joiningWord_122) rfl ?_
  refine okL_cons (ok_iload_n rfl dX8_joiningWord_123) rfl ?_
  refine okL_cons (ok_invV (M' := 90) kw_352 kw_353 kw_354 kw_140 kw_355 cf_X8 rfl (by decide +kernel) dX8_joiningWord_124) rfl ?_
  refine okL_cons (ok_if_eq rfl dX8_joiningWord_127) rfl ?_
  refine okL_cons (ok_sipush rfl dX8_joiningWord_130) rfl ?_
  refine okL_cons (ok_goto rfl dX8_joiningWord_133) rfl ?_
  refine okL_cons (ok_aload_n rfl dX8_joiningWord_136) rfl ?_
  refine okL_cons (ok_ldcS 8 rfl rfl (by decide) dX8_joiningWord_137) rfl ?_
  refine okL_cons (ok_iload_n rfl dX8_joiningWord_139) rfl ?_
  refine okL_cons (ok_iload_n rfl dX8_joiningWord_140) rfl ?_
  refine okL_cons (ok_invV (M' := 90) kw_352 kw_353 kw_354 kw_140 kw_355 cf_X8 rfl (by decide +kernel) dX8_joiningWord_141) rfl ?_
  refine okL_cons (ok_if_eq rfl dX8_joiningWord_144) rfl ?_
  refine okL_cons (ok_sipush rfl dX8_joiningWord_147) rfl ?_
  refine okL_cons (ok_goto rfl dX8_joiningWord_150) rfl ?_
  refine okL_cons (ok_aload_n rfl dX8_joiningWord_153) rfl ?_
  refine okL_cons (ok_ldcS 9 rfl rfl (by decide) dX8_joiningWord_154) rfl ?_
  refine okL_cons (ok_iload_n rfl dX8_joiningWord_156) rfl ?_
  refine okL_cons (ok_iload_n rfl dX8_joiningWord_157) rfl ?_
  refine okL_cons (ok_invV (M' := 90) kw_352 kw_353 kw_354 kw_140 kw_355 cf_X8 rfl (by decide +kernel) dX8_joiningWord_158) rfl ?_
  refine okL_cons (ok_if_eq rfl dX8_joiningWord_161) rfl ?_
  refine okL_cons (ok_sipush rfl dX8_joiningWord_164) rfl ?_
  refine okL_cons (ok_goto rfl dX8_joiningWord_167) rfl ?_
  refine okL_cons (ok_aload_n rfl dX8_joiningWord_170) rfl ?_
  refine okL_cons (ok_ldcS 10 rfl rfl (by decide) dX8_joiningWord_171) rfl ?_
  refine okL_cons (ok_iload_n rfl dX8_joiningWord_173) rfl ?_
  refine okL_cons (ok_iload_n rfl dX8_joiningWord_174) rfl ?_
  refine okL_cons (ok_invV (M' := 90) kw_352 kw_353 kw_354 kw_140 kw_355 cf_X8 rfl (by decide +kernel) dX8_joiningWord_175) rfl ?_
  refine okL_cons (ok_if_eq rfl dX8_joiningWord_178) rfl ?_
  refine okL_cons (ok_sipush rfl dX8_joiningWord_181) rfl ?_
  refine okL_cons (ok_goto rfl dX8_joiningWord_184) rfl ?_
  refine okL_cons (ok_aload_n rfl dX8_joiningWord_187) rfl ?_
  refine okL_cons (ok_ldcS 11 rfl rfl (by decide) dX8_joiningWord_188) rfl ?_
  refine okL_cons (ok_iload_n rfl dX8_joiningWord_190) rfl ?_
  refine okL_cons (ok_iload_n rfl dX8_joiningWord_191) rfl ?_
  refine okL_cons (ok_invV (M' := 90) kw_352 kw_353 kw_354 kw_140 kw_355 cf_X8 rfl (by decide +kernel) dX8_joiningWord_192) rfl ?_
  refine okL_cons (ok_if_eq rfl dX8_joiningWord_195) rfl ?_
  refine okL_cons (ok_sipush rfl dX8_joiningWord_198) rfl ?_
  refine okL_cons (ok_goto rfl dX8_joiningWord_201) rfl ?_
  refine okL_cons (ok_aload_n rfl dX8_joiningWord_204) rfl ?_
  refine okL_cons (ok_ldcS 12 rfl rfl (by decide) dX8_joiningWord_205) rfl ?_
  refine okL_cons (ok_iload_n rfl dX8_joiningWord_207) rfl ?_
  refine okL_cons (ok_iload_n rfl dX8_joiningWord_208) rfl ?_
  refine okL_cons (ok_invV (M' := 90) kw_352 kw_353 kw_354 kw_140 kw_355 cf_X8 rfl (by decide +kernel) dX8_joiningWord_209) rfl ?_
  refine okL_cons (ok_if_eq rfl dX8_joiningWord_212) rfl ?_
  refine okL_cons (ok_sipush rfl dX8_joiningWord_215) rfl ?_
  refine okL_cons (ok_goto rfl dX8_joiningWord_218) rfl ?_
  refine okL_cons (ok_aload_n rfl dX8_joiningWord_221) rfl ?_
  refine okL_cons (ok_ldcS 13 rfl rfl (by decide) dX8_joiningWord_222) rfl ?_
  refine okL_cons (ok_iload_n rfl dX8_joiningWord_224) rfl ?_
  refine okL_cons (ok_iload_n rfl dX8_joiningWord_225) rfl ?_
  refine okL_cons (ok_invV (M' := 90) kw_352 kw_353 kw_354 kw_140 kw_355 cf_X8 rfl (by decide +kernel) dX8_joiningWord_226) rfl ?_
  refine okL_cons (ok_if_eq rfl dX8_joiningWord_229) rfl ?_
  refine okL_cons (ok_sipush rfl dX8_joiningWord_232) rfl ?_
  refine okL_cons (ok_goto rfl dX8_joiningWord_235) rfl ?_
  refine okL_cons (ok_sipush rfl dX8_joiningWord_238) rfl ?_
  exact okL_one (ok_ireturn rfl dX8_joiningWord_241)
theorem dX8_askingWord_0 : decode cX8_askingWord 0 = .ok (.aload_n 0, 1) := by decide +kernel
theorem dX8_askingWord_1 : decode cX8_askingWord 1 = .ok (.ldc 92, 2) := by decide +kernel
theorem dX8_askingWord_3 : decode cX8_askingWord 3 = .ok (.iload_n 1, 1) := by decide +kernel
theorem dX8_askingWord_4 : decode cX8_askingWord 4 = .ok (.iload_n 2, 1) := by decide +kernel
theorem dX8_askingWord_5 : decode cX8_askingWord 5 = .ok (.invokevirtual 62, 3) := by decide +kernel
theorem dX8_askingWord_8 : decode cX8_askingWord 8 = .ok (.ifCond .eq 9, 3) := by decide +kernel
theorem dX8_askingWord_11 : decode cX8_askingWord 11 = .ok (.sipush 3015, 3) := by decide +kernel
theorem dX8_askingWord_14 : decode cX8_askingWord 14 = .ok (.goto 176, 3) := by decide +kernel
theorem dX8_askingWord_17 : decode cX8_askingWord 17 = .ok (.aload_n 0, 1) := by decide +kernel
theorem dX8_askingWord_18 : decode cX8_askingWord 18 = .ok (.ldc 94, 2) := by decide +kernel
theorem dX8_askingWord_20 : decode cX8_askingWord 20 = .ok (.iload_n 1, 1) := by decide +kernel
theorem dX8_askingWord_21 : decode cX8_askingWord 21 = .ok (.iload_n 2, 1) := by decide +kernel
theorem dX8_askingWord_22 : decode cX8_askingWord 22 = .ok (.invokevirtual 62, 3) := by decide +kernel
theorem dX8_askingWord_25 : decode cX8_askingWord 25 = .ok (.ifCond .eq 9, 3) := by decide +kernel
theorem dX8_askingWord_28 : decode cX8_askingWord 28 = .ok (.sipush 3016, 3) := by decide +kernel
theorem dX8_askingWord_31 : decode cX8_askingWord 31 = .ok (.goto 159, 3) := by decide +kernel
theorem dX8_askingWord_34 : decode cX8_askingWord 34 = .ok (.aload_n 0, 1) := by decide +kernel
theorem dX8_askingWord_35 : decode cX8_askingWord 35 = .ok (.ldc 96, 2) := by decide +kernel
theorem dX8_askingWord_37 : decode cX8_askingWord 37 = .ok (.iload_n 1, 1) := by decide +kernel
theorem dX8_askingWord_38 : decode cX8_askingWord 38 = .ok (.iload_n 2, 1) := by decide +kernel
theorem dX8_askingWord_39 : decode cX8_askingWord 39 = .ok (.invokevirtual 62, 3) := by decide +kernel
theorem dX8_askingWord_42 : decode cX8_askingWord 42 = .ok (.ifCond .eq 9, 3) := by decide +kernel
theorem dX8_askingWord_45 : decode cX8_askingWord 45 = .ok (.sipush 3017, 3) := by decide +kernel
theorem dX8_askingWord_48 : decode cX8_askingWord 48 = .ok (.goto 142, 3) := by decide +kernel
theorem dX8_askingWord_51 : decode cX8_askingWord 51 = .ok (.aload_n 0, 1) := by decide +kernel
theorem dX8_askingWord_52 : decode cX8_askingWord 52 = .ok (.ldc 98, 2) := by decide +kernel
theorem dX8_askingWord_54 : decode cX8_askingWord 54 = .ok (.iload_n 1, 1) := by decide +kernel
theorem dX8_askingWord_55 : decode cX8_askingWord 55 = .ok (.iload_n 2, 1) := by decide +kernel
theorem dX8_askingWord_56 : decode cX8_askingWord 56 = .ok (.invokevirtual 62, 3) := by decide +kernel
theorem dX8_askingWord_59 : decode cX8_askingWord 59 = .ok (.ifCond .eq 9, 3) := by decide +kernel
theorem dX8_askingWord_62 : decode cX8_askingWord 62 = .ok (.sipush 3018, 3) := by decide +kernel
theorem dX8_askingWord_65 : decode cX8_askingWord 65 = .ok (.goto 125, 3) := by decide +kernel
theorem dX8_askingWord_68 : decode cX8_askingWord 68 = .ok (.aload_n 0, 1) := by decide +kernel
theorem dX8_askingWord_69 : decode cX8_askingWord 69 = .ok (.ldc 100, 2) := by decide +kernel
theorem dX8_askingWord_71 : decode cX8_askingWord 71 = .ok (.iload_n 1, 1) := by decide +kernel
theorem dX8_askingWord_72 : decode cX8_askingWord 72 = .ok (.iload_n 2, 1) := by decide +kernel
theorem dX8_askingWord_73 : decode cX8_askingWord 73 = .ok (.invokevirtual 62, 3) := by decide +kernel
theorem dX8_askingWord_76 : decode cX8_askingWord 76 = .ok (.ifCond .eq 9, 3) := by decide +kernel
theorem dX8_askingWord_79 : decode cX8_askingWord 79 = .ok (.sipush 3019, 3) := by decide +kernel
theorem dX8_askingWord_82 : decode cX8_askingWord 82 = .ok (.goto 108, 3) := by decide +kernel
theorem dX8_askingWord_85 : decode cX8_askingWord 85 = .ok (.aload_n 0, 1) := by decide +kernel
theorem dX8_askingWord_86 : decode cX8_askingWord 86 = .ok (.ldc 102, 2) := by decide +kernel
theorem dX8_askingWord_88 : decode cX8_askingWord 88 = .ok (.iload_n 1, 1) := by decide +kernel
theorem dX8_askingWord_89 : decode cX8_askingWord 89 = .ok (.iload_n 2, 1) := by decide +kernel
theorem dX8_askingWord_90 : decode cX8_askingWord 90 = .ok (.invokevirtual 62, 3) := by decide +kernel
theorem dX8_askingWord_93 : decode cX8_askingWord 93 = .ok (.ifCond .eq 9, 3) := by decide +kernel
theorem dX8_askingWord_96 : decode cX8_askingWord 96 = .ok (.sipush 3020, 3) := by decide +kernel
theorem dX8_askingWord_99 : decode cX8_askingWord 99 = .ok (.goto 91, 3) := by decide +kernel
theorem dX8_askingWord_102 : decode cX8_askingWord 102 = .ok (.aload_n 0, 1) := by decide +kernel
theorem dX8_askingWord_103 : decode cX8_askingWord 103 = .ok (.ldc 104, 2) := by decide +kernel
theorem dX8_askingWord_105 : decode cX8_askingWord 105 = .ok (.iload_n 1, 1) := by decide +kernel
theorem dX8_askingWord_106 : decode cX8_askingWord 106 = .ok (.iload_n 2, 1) := by decide +kernel
theorem dX8_askingWord_107 : decode cX8_askingWord 107 = .ok (.invokevirtual 62, 3) := by decide +kernel
theorem dX8_askingWord_110 : decode cX8_askingWord 110 = .ok (.ifCond .eq 9, 3) := by decide +kernel
theorem dX8_askingWord_113 : decode cX8_askingWord 113 = .ok (.sipush 3021, 3) := by decide +kernel
theorem dX8_askingWord_116 : decode cX8_askingWord 116 = .ok (.goto 74, 3) := by decide +kernel
theorem dX8_askingWord_119 : decode cX8_askingWord 119 = .ok (.aload_n 0, 1) := by decide +kernel
theorem dX8_askingWord_120 : decode cX8_askingWord 120 = .ok (.ldc 106, 2) := by decide +kernel
theorem dX8_askingWord_122 : decode cX8_askingWord 122 = .ok (.iload_n 1, 1) := by decide +kernel
theorem dX8_askingWord_123 : decode cX8_askingWord 123 = .ok (.iload_n 2, 1) := by decide +kernel
theorem dX8_askingWord_124 : decode cX8_askingWord 124 = .ok (.invokevirtual 62, 3) := by decide +kernel
theorem dX8_askingWord_127 : decode cX8_askingWord 127 = .ok (.ifCond .eq 9, 3) := by decide +kernel
theorem dX8_askingWord_130 : decode cX8_askingWord 130 = .ok (.sipush 3022, 3) := by decide +kernel
theorem dX8_askingWord_133 : decode cX8_askingWord 133 = .ok (.goto 57, 3) := by decide +kernel
theorem dX8_askingWord_136 : decode cX8_askingWord 136 = .ok (.aload_n 0, 1) := by decide +kernel
theorem dX8_askingWord_137 : decode cX8_askingWord 137 = .ok (.ldc 108, 2) := by decide +kernel
theorem dX8_askingWord_139 : decode cX8_askingWord 139 = .ok (.iload_n 1, 1) := by decide +kernel
theorem dX8_askingWord_140 : decode cX8_askingWord 140 = .ok (.iload_n 2, 1) := by decide +kernel
theorem dX8_askingWord_141 : decode cX8_askingWord 141 = .ok (.invokevirtual 62, 3) := by decide +kernel
theorem dX8_askingWord_144 : decode cX8_askingWord 144 = .ok (.ifCond .eq 9, 3) := by decide +kernel
theorem dX8_askingWord_147 : decode cX8_askingWord 147 = .ok (.sipush 3023, 3) := by decide +kernel
theorem dX8_askingWord_150 : decode cX8_askingWord 150 = .ok (.goto 40, 3) := by decide +kernel
theorem dX8_askingWord_153 : decode cX8_askingWord 153 = .ok (.aload_n 0, 1) := by decide +kernel
theorem dX8_askingWord_154 : decode cX8_askingWord 154 = .ok (.ldc 110, 2) := by decide +kernel
theorem dX8_askingWord_156 : decode cX8_askingWord 156 = .ok (.iload_n 1, 1) := by decide +kernel
theorem dX8_askingWord_157 : decode cX8_askingWord 157 = .ok (.iload_n 2, 1) := by decide +kernel
theorem dX8_askingWord_158 : decode cX8_askingWord 158 = .ok (.invokevirtual 62, 3) := by decide +kernel
theorem dX8_askingWord_161 : decode cX8_askingWord 161 = .ok (.ifCond .eq 9, 3) := by decide +kernel
theorem dX8_askingWord_164 : decode cX8_askingWord 164 = .ok (.sipush 3024, 3) := by decide +kernel
theorem dX8_askingWord_167 : decode cX8_askingWord 167 = .ok (.goto 23, 3) := by decide +kernel
theorem dX8_askingWord_170 : decode cX8_askingWord 170 = .ok (.aload_n 0, 1) := by decide +kernel
theorem dX8_askingWord_171 : decode cX8_askingWord 171 = .ok (.ldc 112, 2) := by decide +kernel
theorem dX8_askingWord_173 : decode cX8_askingWord 173 = .ok (.iload_n 1, 1) := by decide +kernel
theorem dX8_askingWord_174 : decode cX8_askingWord 174 = .ok (.iload_n 2, 1) := by decide +kernel
theorem dX8_askingWord_175 : decode cX8_askingWord 175 = .ok (.invokevirtual 62, 3) := by decide +kernel
theorem dX8_askingWord_178 : decode cX8_askingWord 178 = .ok (.ifCond .eq 9, 3) := by decide +kernel
theorem dX8_askingWord_181 : decode cX8_askingWord 181 = .ok (.sipush 3025, 3) := by decide +kernel
theorem dX8_askingWord_184 : decode cX8_askingWord 184 = .ok (.goto 6, 3) := by decide +kernel
theorem dX8_askingWord_187 : decode cX8_askingWord 187 = .ok (.sipush 3000, 3) := by decide +kernel
theorem dX8_askingWord_190 : decode cX8_askingWord 190 = .ok (.ireturn, 1) := by decide +kernel
set_option maxRecDepth 100000 in
theorem okm_X8_askingWord : okL RX8 cX8_askingWord 3 (some .int) "askingWord" pcX8_askingWord opX8_askingWord pcX8_askingWord := by
  unfold opX8_askingWord
  refine okL_cons (ok_aload_n rfl dX8_askingWord_0) rfl ?_
  refine okL_cons (ok_ldcS 14 rfl rfl (by decide) dX8_askingWord_1) rfl ?_
  refine okL_cons (ok_iload_n rfl dX8_askingWord_3) rfl ?_
  refine okL_cons (ok_iload_n rfl dX8_askingWord_4) rfl ?_
  refine okL_cons (ok_invV (M' := 90) kw_352 kw_353 kw_354 kw_140 kw_355 cf_X8 rfl (by decide +kernel) dX8_askingWord_5) rfl ?_
  refine okL_cons (ok_if_eq rfl dX8_askingWord_8) rfl ?_
  refine okL_cons (ok_sipush rfl dX8_askingWord_11) rfl ?_
  refine okL_cons (ok_goto rfl dX8_askingWord_14) rfl ?_
  refine okL_cons (ok_aload_n rfl dX8_askingWord_17) rfl ?_
  refine okL_cons (ok_ldcS 15 rfl rfl (by decide) dX8_askingWord_18) rfl ?_
  refine okL_cons (ok_iload_n rfl dX8_askingWord_20) rfl ?_
  refine okL_cons (ok_iload_n rfl dX8_askingWord_21) rfl ?_
  refine okL_cons (ok_invV (M' := 90) kw_352 kw_353 kw_354 kw_140 kw_355 cf_X8 rfl (by decide +kernel) dX8_askingWord_22) rfl ?_
  refine okL_cons (ok_if_eq rfl dX8_askingWord_25) rfl ?_
  refine okL_cons (ok_sipush rfl dX8_askingWord_28) rfl ?_
  refine okL_cons (ok_goto rfl dX8_askingWord_31) rfl ?_
  refine okL_cons (ok_aload_n rfl dX8_askingWord_34) rfl ?_
  refine okL_cons (ok_ldcS 16 rfl rfl (by decide) dX8_askingWord_35) rfl ?_
  refine okL_cons (ok_iload_n rfl dX8_askingWord_37) rfl ?_
  refine okL_cons (ok_iload_n rfl dX8_askingWord_38) rfl ?_
  refine okL_cons (ok_invV (M' := 90) kw_352 kw_353 kw_354 kw_140 kw_355 cf_X8 rfl (by decide +kernel) dX8_askingWord_39) rfl ?_
  refine okL_cons (ok_if_eq rfl dX8_askingWord_42) rfl ?_
  refine okL_cons (ok_sipush rfl dX8_askingWord_45) rfl ?_
  refine okL_cons (ok_goto rfl dX8_askingWord_48) rfl ?_
  refine okL_cons (ok_aload_n rfl dX8_askingWord_51) rfl ?_
  refine okL_cons (ok_ldcS 17 rfl rfl (by decide) dX8_askingWord_52) rfl ?_
  refine okL_cons (ok_iload_n rfl dX8_askingWord_54) rfl ?_
  refine okL_cons (ok_iload_n rfl dX8_askingWord_55) rfl ?_
  refine okL_cons (ok_invV (M' := 90) kw_352 kw_353 kw_354 kw_140 kw_355 cf_X8 rfl (by decide +kernel) dX8_askingWord_56) rfl ?_
  refine okL_cons (ok_if_eq rfl dX8_askingWord_59) rfl ?_
  refine okL_cons (ok_sipush rfl dX8_askingWord_62) rfl ?_
  refine okL_cons (ok_goto rfl dX8_askingWord_65) rfl ?_
  refine okL_cons (ok_aload_n rfl dX8_askingWord_68) rfl ?_
  refine okL_cons (ok_ldcS 18 rfl rfl (by decide) dX8_askingWord_69) rfl ?_
  refine okL_cons (ok_iload_n rfl dX8_askingWord_71) rfl ?_
  refine okL_cons (ok_iload_n rfl dX8_askingWord_72) rfl ?_
  refine okL_cons (ok_invV (M' := 90) kw_352 kw_353 kw_354 kw_140 kw_355 cf_X8 rfl (by decide +kernel) dX8_askingWord_73) rfl ?_
  refine okL_cons (ok_if_eq rfl dX8_askingWord_76) rfl ?_
  refine okL_cons (ok_sipush rfl dX8_askingWord_79) rfl ?_
  refine okL_cons (ok_goto rfl dX8_askingWord_82) rfl ?_
  refine okL_cons (ok_aload_n rfl dX8_askingWord_85) rfl ?_
  refine okL_cons (ok_ldcS 19 rfl rfl (by decide) dX8_askingWord_86) rfl ?_
  refine okL_cons (ok_iload_n rfl dX8_askingWord_88) rfl ?_
  refine okL_cons (ok_iload_n rfl dX8_askingWord_89) rfl ?_
  refine okL_cons (ok_invV (M' := 90) kw_352 kw_353 kw_354 kw_140 kw_355 cf_X8 rfl (by decide +kernel) dX8_askingWord_90) rfl ?_
  refine okL_cons (ok_if_eq rfl dX8_askingWord_93) rfl ?_
  refine okL_cons (ok_sipush rfl dX8_askingWord_96) rfl ?_
  refine okL_cons (ok_goto rfl dX8_askingWord_99) rfl ?_
  refine okL_cons (ok_aload_n rfl dX8_askingWord_102) rfl ?_
  refine okL_cons (ok_ldcS 20 rfl rfl (by decide) dX8_askingWord_103) rfl ?_
  refine okL_cons (ok_iload_n rfl dX8_askingWord_105) rfl ?_
  refine okL_cons (ok_iload_n rfl dX8_askingWord_106) rfl ?_
  refine okL_cons (ok_invV (M' := 90) kw_352 kw_353 kw_354 kw_140 kw_355 cf_X8 rfl (by decide +kernel) dX8_askingWord_107) rfl ?_
  refine okL_cons (ok_if_eq rfl dX8_askingWord_110) rfl ?_
  refine okL_cons (ok_sipush rfl dX8_askingWord_113) rfl ?_
  refine okL_cons (ok_goto rfl dX8_askingWord_116) rfl ?_
  refine okL_cons (ok_aload_n rfl dX8_askingWord_119) rfl ?_
  refine okL_cons (ok_ldcS 21 rfl rfl (by decide) dX8_askingWord_120) rfl ?_
  refine okL_cons (ok_iload_n rfl dX8_askingWord_122) rfl ?_
  refine okL_cons (ok_iload_n rfl dX8_askingWord_123) rfl ?_
  refine okL_cons (ok_invV (M' := 90) kw_352 kw_353 kw_354 kw_140 kw_355 cf_X8 rfl (by decide +kernel) dX8_askingWord_124) rfl ?_
  refine okL_cons (ok_if_eq rfl dX8_askingWord_127) rfl ?_
  refine okL_cons (ok_sipush rfl dX8_askingWord_130) rfl ?_
  refine okL_cons (ok_goto rfl dX8_askingWord_133) rfl ?_
  refine okL_cons (ok_aload_n rfl dX8_askingWord_136) rfl ?_
  refine okL_cons (ok_ldcS 22 rfl rfl (by decide) dX8_askingWord_137) rfl ?_
  refine okL_cons (ok_iload_n rfl dX8_askingWord_139) rfl ?_
  refine okL_cons (ok_iload_n rfl dX8_askingWord_140) rfl ?_
  refine okL_cons (ok_invV (M' := 90) kw_352 kw_353 kw_354 kw_140 kw_355 cf_X8 rfl (by decide +kernel) dX8_askingWord_141) rfl ?_
  refine okL_cons (ok_if_eq rfl dX8_askingWord_144) rfl ?_
  refine okL_cons (ok_sipush rfl dX8_askingWord_147) rfl ?_
  refine okL_cons (ok_goto rfl dX8_askingWord_150) rfl ?_
  refine okL_cons (ok_aload_n rfl dX8_askingWord_153) rfl ?_
  refine okL_cons (ok_ldcS 23 rfl rfl (by decide) dX8_askingWord_154) rfl ?_
  refine okL_cons (ok_iload_n rfl dX8_askingWord_156) rfl ?_
  refine okL_cons (ok_iload_n rfl dX8_askingWord_157) rfl ?_
  refine okL_cons (ok_invV (M' := 90) kw_352 kw_353 kw_354 kw_140 kw_355 cf_X8 rfl (by decide +kernel) dX8_askingWord_158) rfl ?_
  refine okL_cons (ok_if_eq rfl dX8_askingWord_161) rfl ?_
  refine okL_cons (ok_sipush rfl dX8_askingWord_164) rfl ?_
  refine okL_cons (ok_goto rfl dX8_askingWord_167) rfl ?_
  refine okL_cons (ok_aload_n rfl dX8_askingWord_170) rfl ?_
  refine okL_cons (ok_ldcS 24 rfl rfl (by decide) dX8_askingWord_171) rfl ?_
  refine okL_cons (ok_iload_n rfl dX8_askingWord_173) rfl ?_
  refine okL_cons (ok_iload_n rfl dX8_askingWord_174) rfl ?_
  refine okL_cons (ok_invV (M' := 90) kw_352 kw_353 kw_354 kw_140 kw_355 cf_X8 rfl (by decide +kernel) dX8_askingWord_175) rfl ?_
  refine okL_cons (ok_if_eq rfl dX8_askingWord_178) rfl ?_
  refine okL_cons (ok_sipush rfl dX8_askingWord_181) rfl ?_
  refine okL_cons (ok_goto rfl dX8_askingWord_184) rfl ?_
  refine okL_cons (ok_sipush rfl dX8_askingWord_187) rfl ?_
  exact okL_one (ok_ireturn rfl dX8_askingWord_190)
theorem dX8_is_0 : decode cX8_is 0 = .ok (.iload_n 3, 1) := by decide +kernel
theorem dX8_is_1 : decode cX8_is 1 = .ok (.iload_n 2, 1) := by decide +kernel
theorem dX8_is_2 : decode cX8_is 2 = .ok (.isub, 1) := by decide +kernel
theorem dX8_is_3 : decode cX8_is 3 = .ok (.aload_n 1, 1) := by decide +kernel
theorem dX8_is_4 : decode cX8_is 4 = .ok (.invokevirtual 114, 3) := by decide +kernel
theorem dX8_is_7 : decode cX8_is 7 = .ok (.if_icmp .eq 5, 3) := by decide +kernel
theorem dX8_is_10 : decode cX8_is 10 = .ok (.iconst 0, 1) := by decide +kernel
theorem dX8_is_11 : decode cX8_is 11 = .ok (.ireturn, 1) := by decide +kernel
theorem dX8_is_12 : decode cX8_is 12 = .ok (.iconst 0, 1) := by decide +kernel
theorem dX8_is_13 : decode cX8_is 13 = .ok (.istore 4, 2) := by decide +kernel
theorem dX8_is_15 : decode cX8_is 15 = .ok (.iload 4, 2) := by decide +kernel
theorem dX8_is_17 : decode cX8_is 17 = .ok (.aload_n 1, 1) := by decide +kernel
theorem dX8_is_18 : decode cX8_is 18 = .ok (.invokevirtual 114, 3) := by decide +kernel
theorem dX8_is_21 : decode cX8_is 21 = .ok (.if_icmp .ge 29, 3) := by decide +kernel
theorem dX8_is_24 : decode cX8_is 24 = .ok (.aload_n 0, 1) := by decide +kernel
theorem dX8_is_25 : decode cX8_is 25 = .ok (.getfield 9, 3) := by decide +kernel
theorem dX8_is_28 : decode cX8_is 28 = .ok (.iload_n 2, 1) := by decide +kernel
theorem dX8_is_29 : decode cX8_is 29 = .ok (.iload 4, 2) := by decide +kernel
theorem dX8_is_31 : decode cX8_is 31 = .ok (.iadd, 1) := by decide +kernel
theorem dX8_is_32 : decode cX8_is 32 = .ok (.iaload, 1) := by decide +kernel
theorem dX8_is_33 : decode cX8_is 33 = .ok (.aload_n 1, 1) := by decide +kernel
theorem dX8_is_34 : decode cX8_is 34 = .ok (.iload 4, 2) := by decide +kernel
theorem dX8_is_36 : decode cX8_is 36 = .ok (.invokevirtual 120, 3) := by decide +kernel
theorem dX8_is_39 : decode cX8_is 39 = .ok (.if_icmp .eq 5, 3) := by decide +kernel
theorem dX8_is_42 : decode cX8_is 42 = .ok (.iconst 0, 1) := by decide +kernel
theorem dX8_is_43 : decode cX8_is 43 = .ok (.ireturn, 1) := by decide +kernel
theorem dX8_is_44 : decode cX8_is 44 = .ok (.iinc 4 1, 3) := by decide +kernel
theorem dX8_is_47 : decode cX8_is 47 = .ok (.goto (-32), 3) := by decide +kernel
theorem dX8_is_50 : decode cX8_is 50 = .ok (.iconst 1, 1) := by decide +kernel
theorem dX8_is_51 : decode cX8_is 51 = .ok (.ireturn, 1) := by decide +kernel
set_option maxRecDepth 100000 in
theorem okm_X8_is : okL RX8 cX8_is 5 (some .boolean) "is" pcX8_is opX8_is pcX8_is := by
  unfold opX8_is
  refine okL_cons (ok_iload_n rfl dX8_is_0) rfl ?_
  refine okL_cons (ok_iload_n rfl dX8_is_1) rfl ?_
  refine okL_cons (ok_isub dX8_is_2) rfl ?_
  refine okL_cons (ok_aload_n rfl dX8_is_3) rfl ?_
  refine okL_cons (ok_invT (M' := 0) kw_356 kw_357 kw_358 kw_4 kw_359 rfl (by decide +kernel) dX8_is_4) rfl ?_
  refine okL_cons (ok_icmp_eq rfl dX8_is_7) rfl ?_
  refine okL_cons (ok_iconst rfl dX8_is_10) rfl ?_
  refine okL_cons (ok_zreturn rfl dX8_is_11) rfl ?_
  refine okL_cons (ok_iconst rfl dX8_is_12) rfl ?_
  refine okL_cons (ok_istore dX8_is_13) rfl ?_
  refine okL_cons (ok_iload dX8_is_15) rfl ?_
  refine okL_cons (ok_aload_n rfl dX8_is_17) rfl ?_
  refine okL_cons (ok_invT (M' := 0) kw_356 kw_357 kw_358 kw_4 kw_359 rfl (by decide +kernel) dX8_is_18) rfl ?_
  refine okL_cons (ok_icmp_ge rfl dX8_is_21) rfl ?_
  refine okL_cons (ok_aload_n rfl dX8_is_24) rfl ?_
  refine okL_cons (ok_getP kw_316 cf_X8 rfl rfl (by decide) dX8_is_25) rfl ?_
  refine okL_cons (ok_iload_n rfl dX8_is_28) rfl ?_
  refine okL_cons (ok_iload dX8_is_29) rfl ?_
  refine okL_cons (ok_iadd dX8_is_31) rfl ?_
  refine okL_cons (ok_iaload dX8_is_32) rfl ?_
  refine okL_cons (ok_aload_n rfl dX8_is_33) rfl ?_
  refine okL_cons (ok_iload dX8_is_34) rfl ?_
  refine okL_cons (ok_invT (M' := 1) kw_360 kw_361 kw_362 kw_4 kw_363 rfl (by decide +kernel) dX8_is_36) rfl ?_
  refine okL_cons (ok_icmp_eq rfl dX8_is_39) rfl ?_
  refine okL_cons (ok_iconst rfl dX8_is_42) rfl ?_
  refine okL_cons (ok_zreturn rfl dX8_is_43) rfl ?_
  refine okL_cons (ok_iinc rfl dX8_is_44) rfl ?_
  refine okL_cons (ok_goto rfl dX8_is_47) rfl ?_
  refine okL_cons (ok_iconst rfl dX8_is_50) rfl ?_
  exact okL_one (ok_zreturn rfl dX8_is_51)
theorem dX9_init_0 : decode cX9_init 0 = .ok (.aload_n 0, 1) := by decide +kernel
theorem dX9_init_1 : decode cX9_init 1 = .ok (.invokespecial 3, 3) := by decide +kernel
theorem dX9_init_4 : decode cX9_init 4 = .ok (.aload_n 0, 1) := by decide +kernel
theorem dX9_init_5 : decode cX9_init 5 = .ok (.sipush 402, 3) := by decide +kernel
theorem dX9_init_8 : decode cX9_init 8 = .ok (.newarray .int, 2) := by decide +kernel
theorem dX9_init_10 : decode cX9_init 10 = .ok (.putfield 9, 3) := by decide +kernel
theorem dX9_init_13 : decode cX9_init 13 = .ok (.aload_n 0, 1) := by decide +kernel
theorem dX9_init_14 : decode cX9_init 14 = .ok (.bipush 12, 2) := by decide +kernel
theorem dX9_init_16 : decode cX9_init 16 = .ok (.newarray .int, 2) := by decide +kernel
theorem dX9_init_18 : decode cX9_init 18 = .ok (.putfield 15, 3) := by decide +kernel
theorem dX9_init_21 : decode cX9_init 21 = .ok (.aload_n 0, 1) := by decide +kernel
theorem dX9_init_22 : decode cX9_init 22 = .ok (.bipush 12, 2) := by decide +kernel
theorem dX9_init_24 : decode cX9_init 24 = .ok (.newarray .int, 2) := by decide +kernel
theorem dX9_init_26 : decode cX9_init 26 = .ok (.putfield 18, 3) := by decide +kernel
theorem dX9_init_29 : decode cX9_init 29 = .ok (.aload_n 0, 1) := by decide +kernel
theorem dX9_init_30 : decode cX9_init 30 = .ok (.bipush 12, 2) := by decide +kernel
theorem dX9_init_32 : decode cX9_init 32 = .ok (.newarray .int, 2) := by decide +kernel
theorem dX9_init_34 : decode cX9_init 34 = .ok (.putfield 21, 3) := by decide +kernel
theorem dX9_init_37 : decode cX9_init 37 = .ok (.aload_n 0, 1) := by decide +kernel
theorem dX9_init_38 : decode cX9_init 38 = .ok (.bipush 12, 2) := by decide +kernel
theorem dX9_init_40 : decode cX9_init 40 = .ok (.newarray .int, 2) := by decide +kernel
theorem dX9_init_42 : decode cX9_init 42 = .ok (.putfield 24, 3) := by decide +kernel
theorem dX9_init_45 : decode cX9_init 45 = .ok (.aload_n 0, 1) := by decide +kernel
theorem dX9_init_46 : decode cX9_init 46 = .ok (.bipush 12, 2) := by decide +kernel
theorem dX9_init_48 : decode cX9_init 48 = .ok (.newarray .int, 2) := by decide +kernel
theorem dX9_init_50 : decode cX9_init 50 = .ok (.putfield 27, 3) := by decide +kernel
theorem dX9_init_53 : decode cX9_init 53 = .ok (.return_, 1) := by decide +kernel
set_option maxRecDepth 100000 in
theorem okm_X9_init : okL RX9 cX9_init 1 none "<init>" pcX9_init opX9_init pcX9_init := by
  unfold opX9_init
  refine okL_cons (ok_aload_n rfl dX9_init_0) rfl ?_
  refine okL_cons (ok_obj kw_364 kw_29 kw_30 dX9_init_1) rfl ?_
  refine okL_cons (ok_aload_n rfl dX9_init_4) rfl ?_
  refine okL_cons (ok_sipush rfl dX9_init_5) rfl ?_
  refine okL_cons (ok_newarray_int kw_31 dX9_init_8) rfl ?_
  refine okL_cons (ok_putPF kw_365 cf_X9 rfl rfl (by decide) rfl rfl rfl dX9_init_10) rfl ?_
  refine okL_cons (ok_aload_n rfl dX9_init_13) rfl ?_
  refine okL_cons (ok_bipush rfl dX9_init_14) rfl ?_
  refine okL_cons (ok_newarray_int kw_31 dX9_init_16) rfl ?_
  refine okL_cons (ok_putPF kw_366 cf_X9 rfl rfl (by decide) rfl rfl rfl dX9_init_18) rfl ?_
  refine okL_cons (ok_aload_n rfl dX9_init_21) rfl ?_
  refine okL_cons (ok_bipush rfl dX9_init_22) rfl ?_
  refine okL_cons (ok_newarray_int kw_31 dX9_init_24) rfl ?_
  refine okL_cons (ok_putPF kw_367 cf_X9 rfl rfl (by decide) rfl rfl rfl dX9_init_26) rfl ?_
  refine okL_cons (ok_aload_n rfl dX9_init_29) rfl ?_
  refine okL_cons (ok_bipush rfl dX9_init_30) rfl ?_
  refine okL_cons (ok_newarray_int kw_31 dX9_init_32) rfl ?_
  refine okL_cons (ok_putPF kw_368 cf_X9 rfl rfl (by decide) rfl rfl rfl dX9_init_34) rfl ?_
  refine okL_cons (ok_aload_n rfl dX9_init_37) rfl ?_
  refine okL_cons (ok_bipush rfl dX9_init_38) rfl ?_
  refine okL_cons (ok_newarray_int kw_31 dX9_init_40) rfl ?_
  refine okL_cons (ok_putPF kw_369 cf_X9 rfl rfl (by decide) rfl rfl rfl dX9_init_42) rfl ?_
  refine okL_cons (ok_aload_n rfl dX9_init_45) rfl ?_
  refine okL_cons (ok_bipush rfl dX9_init_46) rfl ?_
  refine okL_cons (ok_newarray_int kw_31 dX9_init_48) rfl ?_
  refine okL_cons (ok_putPF kw_370 cf_X9 rfl rfl (by decide) rfl rfl rfl dX9_init_50) rfl ?_
  exact okL_one (ok_return rfl dX9_init_53)
theorem dX9_copy_0 : decode cX9_copy 0 = .ok (.aload_n 1, 1) := by decide +kernel
theorem dX9_copy_1 : decode cX9_copy 1 = .ok (.getfield 9, 3) := by decide +kernel
theorem dX9_copy_4 : decode cX9_copy 4 = .ok (.iconst 0, 1) := by decide +kernel
theorem dX9_copy_5 : decode cX9_copy 5 = .ok (.aload_n 0, 1) := by decide +kernel
theorem dX9_copy_6 : decode cX9_copy 6 = .ok (.getfield 9, 3) := by decide +kernel
theorem dX9_copy_9 : decode cX9_copy 9 = .ok (.iconst 0, 1) := by decide +kernel
theorem dX9_copy_10 : decode cX9_copy 10 = .ok (.aload_n 0, 1) := by decide +kernel
theorem dX9_copy_11 : decode cX9_copy 11 = .ok (.getfield 9, 3) := by decide +kernel
theorem dX9_copy_14 : decode cX9_copy 14 = .ok (.arraylength, 1) := by decide +kernel
theorem dX9_copy_15 : decode cX9_copy 15 = .ok (.invokestatic 30, 3) := by decide +kernel
theorem dX9_copy_18 : decode cX9_copy 18 = .ok (.aload_n 0, 1) := by decide +kernel
theorem dX9_copy_19 : decode cX9_copy 19 = .ok (.aload_n 1, 1) := by decide +kernel
theorem dX9_copy_20 : decode cX9_copy 20 = .ok (.getfield 36, 3) := by decide +kernel
theorem dX9_copy_23 : decode cX9_copy 23 = .ok (.putfield 36, 3) := by decide +kernel
theorem dX9_copy_26 : decode cX9_copy 26 = .ok (.aload_n 0, 1) := by decide +kernel
theorem dX9_copy_27 : decode cX9_copy 27 = .ok (.aload_n 1, 1) := by decide +kernel
theorem dX9_copy_28 : decode cX9_copy 28 = .ok (.getfield 40, 3) := by decide +kernel
theorem dX9_copy_31 : decode cX9_copy 31 = .ok (.putfield 40, 3) := by decide +kernel
theorem dX9_copy_34 : decode cX9_copy 34 = .ok (.aload_n 1, 1) := by decide +kernel
theorem dX9_copy_35 : decode cX9_copy 35 = .ok (.getfield 15, 3) := by decide +kernel
theorem dX9_copy_38 : decode cX9_copy 38 = .ok (.iconst 0, 1) := by decide +kernel
theorem dX9_copy_39 : decode cX9_copy 39 = .ok (.aload_n 0, 1) := by decide +kernel
theorem dX9_copy_40 : decode cX9_copy 40 = .ok (.getfield 15, 3) := by decide +kernel
theorem dX9_copy_43 : decode cX9_copy 43 = .ok (.iconst 0, 1) := by decide +kernel
theorem dX9_copy_44 : decode cX9_copy 44 = .ok (.bipush 12, 2) := by decide +kernel
theorem dX9_copy_46 : decode cX9_copy 46 = .ok (.invokestatic 30, 3) := by decide +kernel
theorem dX9_copy_49 : decode cX9_copy 49 = .ok (.aload_n 1, 1) := by decide +kernel
theorem dX9_copy_50 : decode cX9_copy 50 = .ok (.getfield 18, 3) := by decide +kernel
theorem dX9_copy_53 : decode cX9_copy 53 = .ok (.iconst 0, 1) := by decide +kernel
theorem dX9_copy_54 : decode cX9_copy 54 = .ok (.aload_n 0, 1) := by decide +kernel
theorem dX9_copy_55 : decode cX9_copy 55 = .ok (.getfield 18, 3) := by decide +kernel
theorem dX9_copy_58 : decode cX9_copy 58 = .ok (.iconst 0, 1) := by decide +kernel
theorem dX9_copy_59 : decode cX9_copy 59 = .ok (.bipush 12, 2) := by decide +kernel
theorem dX9_copy_61 : decode cX9_copy 61 = .ok (.invokestatic 30, 3) := by decide +kernel
theorem dX9_copy_64 : decode cX9_copy 64 = .ok (.aload_n 1, 1) := by decide +kernel
theorem dX9_copy_65 : decode cX9_copy 65 = .ok (.getfield 21, 3) := by decide +kernel
theorem dX9_copy_68 : decode cX9_copy 68 = .ok (.iconst 0, 1) := by decide +kernel
theorem dX9_copy_69 : decode cX9_copy 69 = .ok (.aload_n 0, 1) := by decide +kernel
theorem dX9_copy_70 : decode cX9_copy 70 = .ok (.getfield 21, 3) := by decide +kernel
theorem dX9_copy_73 : decode cX9_copy 73 = .ok (.iconst 0, 1) := by decide +kernel
theorem dX9_copy_74 : decode cX9_copy 74 = .ok (.bipush 12, 2) := by decide +kernel
theorem dX9_copy_76 : decode cX9_copy 76 = .ok (.invokestatic 30, 3) := by decide +kernel
theorem dX9_copy_79 : decode cX9_copy 79 = .ok (.aload_n 1, 1) := by decide +kernel
theorem dX9_copy_80 : decode cX9_copy 80 = .ok (.getfield 24, 3) := by decide +kernel
theorem dX9_copy_83 : decode cX9_copy 83 = .ok (.iconst 0, 1) := by decide +kernel
theorem dX9_copy_84 : decode cX9_copy 84 = .ok (.aload_n 0, 1) := by decide +kernel
theorem dX9_copy_85 : decode cX9_copy 85 = .ok (.getfield 24, 3) := by decide +kernel
theorem dX9_copy_88 : decode cX9_copy 88 = .ok (.iconst 0, 1) := by decide +kernel
theorem dX9_copy_89 : decode cX9_copy 89 = .ok (.bipush 12, 2) := by decide +kernel
theorem dX9_copy_91 : decode cX9_copy 91 = .ok (.invokestatic 30, 3) := by decide +kernel
theorem dX9_copy_94 : decode cX9_copy 94 = .ok (.aload_n 1, 1) := by decide +kernel
theorem dX9_copy_95 : decode cX9_copy 95 = .ok (.getfield 27, 3) := by decide +kernel
theorem dX9_copy_98 : decode cX9_copy 98 = .ok (.iconst 0, 1) := by decide +kernel
theorem dX9_copy_99 : decode cX9_copy 99 = .ok (.aload_n 0, 1) := by decide +kernel
theorem dX9_copy_100 : decode cX9_copy 100 = .ok (.getfield 27, 3) := by decide +kernel
theorem dX9_copy_103 : decode cX9_copy 103 = .ok (.iconst 0, 1) := by decide +kernel
theorem dX9_copy_104 : decode cX9_copy 104 = .ok (.bipush 12, 2) := by decide +kernel
theorem dX9_copy_106 : decode cX9_copy 106 = .ok (.invokestatic 30, 3) := by decide +kernel
theorem dX9_copy_109 : decode cX9_copy 109 = .ok (.return_, 1) := by decide +kernel
set_option maxRecDepth 100000 in
theorem okm_X9_copy : okL RX9 cX9_copy 2 none "copy" pcX9_copy opX9_copy pcX9_copy := by
  unfold opX9_copy
  refine okL_cons (ok_aload_n rfl dX9_copy_0) rfl ?_
  refine okL_cons (ok_getP kw_365 cf_X9 rfl rfl (by decide) dX9_copy_1) rfl ?_
  refine okL_cons (ok_iconst rfl dX9_copy_4) rfl ?_
  refine okL_cons (ok_aload_n rfl dX9_copy_5) rfl ?_
  refine okL_cons (ok_getP kw_365 cf_X9 rfl rfl (by decide) dX9_copy_6) rfl ?_
  refine okL_cons (ok_iconst rfl dX9_copy_9) rfl ?_
  refine okL_cons (ok_aload_n rfl dX9_copy_10) rfl ?_
  refine okL_cons (ok_getP kw_365 cf_X9 rfl rfl (by decide) dX9_copy_11) rfl ?_
  refine okL_cons (ok_alen dX9_copy_14) rfl ?_
  refine okL_cons (ok_cpy kw_371 kw_69 kw_70 kw_71 dX9_copy_15) rfl ?_
  refine okL_cons (ok_aload_n rfl dX9_copy_18) rfl ?_
  refine okL_cons (ok_aload_n rfl dX9_copy_19) rfl ?_
  refine okL_cons (ok_getI kw_372 cf_X9 rfl rfl (by decide) dX9_copy_20) rfl ?_
  refine okL_cons (ok_putI kw_372 cf_X9 rfl rfl (by decide) rfl dX9_copy_23) rfl ?_
  refine okL_cons (ok_aload_n rfl dX9_copy_26) rfl ?_
  refine okL_cons (ok_aload_n rfl dX9_copy_27) rfl ?_
  refine okL_cons (ok_getI kw_373 cf_X9 rfl rfl (by decide) dX9_copy_28) rfl ?_
  refine okL_cons (ok_putI kw_373 cf_X9 rfl rfl (by decide) rfl dX9_copy_31) rfl ?_
  refine okL_cons (ok_aload_n rfl dX9_copy_34) rfl ?_
  refine okL_cons (ok_getP kw_366 cf_X9 rfl rfl (by decide) dX9_copy_35) rfl ?_
  refine okL_cons (ok_iconst rfl dX9_copy_38) rfl ?_
  refine okL_cons (ok_aload_n rfl dX9_copy_39) rfl ?_
  refine okL_cons (ok_getP kw_366 cf_X9 rfl rfl (by decide) dX9_copy_40) rfl ?_
  refine okL_cons (ok_iconst rfl dX9_copy_43) rfl ?_
  refine okL_cons (ok_bipush rfl dX9_copy_44) rfl ?_
  refine okL_cons (ok_cpy kw_371 kw_69 kw_70 kw_71 dX9_copy_46) rfl ?_
  refine okL_cons (ok_aload_n rfl dX9_copy_49) rfl ?_
  refine okL_cons (ok_getP kw_367 cf_X9 rfl rfl (by decide) dX9_copy_50) rfl ?_
  refine okL_cons (ok_iconst rfl dX9_copy_53) rfl ?_
  refine okL_cons (ok_aload_n rfl dX9_copy_54) rfl ?_
  refine okL_cons (ok_getP kw_367 cf_X9 rfl rfl (by decide) dX9_copy_55) rfl ?_
  refine okL_cons (ok_iconst rfl dX9_copy_58) rfl ?_
  refine okL_cons (ok_bipush rfl dX9_copy_59) rfl ?_
  refine okL_cons (ok_cpy kw_371 kw_69 kw_70 kw_71 dX9_copy_61) rfl ?_
  refine okL_cons (ok_aload_n rfl dX9_copy_64) rfl ?_
  refine okL_cons (ok_getP kw_368 cf_X9 rfl rfl (by decide) dX9_copy_65) rfl ?_
  refine okL_cons (ok_iconst rfl dX9_copy_68) rfl ?_
  refine okL_cons (ok_aload_n rfl dX9_copy_69) rfl ?_
  refine okL_cons (ok_getP kw_368 cf_X9 rfl rfl (by decide) dX9_copy_70) rfl ?_
  refine okL_cons (ok_iconst rfl dX9_copy_73) rfl ?_
  refine okL_cons (ok_bipush rfl dX9_copy_74) rfl ?_
  refine okL_cons (ok_cpy kw_371 kw_69 kw_70 kw_71 dX9_copy_76) rfl ?_
  refine okL_cons (ok_aload_n rfl dX9_copy_79) rfl ?_
  refine okL_cons (ok_getP kw_369 cf_X9 rfl rfl (by decide) dX9_copy_80) rfl ?_
  refine okL_cons (ok_iconst rfl dX9_copy_83) rfl ?_
  refine okL_cons (ok_aload_n rfl dX9_copy_84) rfl ?_
  refine okL_cons (ok_getP kw_369 cf_X9 rfl rfl (by decide) dX9_copy_85) rfl ?_
  refine okL_cons (ok_iconst rfl dX9_copy_88) rfl ?_
  refine okL_cons (ok_bipush rfl dX9_copy_89) rfl ?_
  refine okL_cons (ok_cpy kw_371 kw_69 kw_70 kw_71 dX9_copy_91) rfl ?_
  refine okL_cons (ok_aload_n rfl dX9_copy_94) rfl ?_
  refine okL_cons (ok_getP kw_370 cf_X9 rfl rfl (by decide) dX9_copy_95) rfl ?_
  refine okL_cons (ok_iconst rfl dX9_copy_98) rfl ?_
  refine okL_cons (ok_aload_n rfl dX9_copy_99) rfl ?_
  refine okL_cons (ok_getP kw_370 cf_X9 rfl rfl (by decide) dX9_copy_100) rfl ?_
  refine okL_cons (ok_iconst rfl dX9_copy_103) rfl ?_
  refine okL_cons (ok_bipush rfl dX9_copy_104) rfl ?_
  refine okL_cons (ok_cpy kw_371 kw_69 kw_70 kw_71 dX9_copy_106) rfl ?_
  exact okL_one (ok_return rfl dX9_copy_109)
theorem dX9_clear_0 : decode cX9_clear 0 = .ok (.aload_n 0, 1) := by decide +kernel
theorem dX9_clear_1 : decode cX9_clear 1 = .ok (.iconst 0, 1) := by decide +kernel
theorem dX9_clear_2 : decode cX9_clear 2 = .ok (.putfield 36, 3) := by decide +kernel
theorem dX9_clear_5 : decode cX9_clear 5 = .ok (.aload_n 0, 1) := by decide +kernel
theorem dX9_clear_6 : decode cX9_clear 6 = .ok (.iconst 0, 1) := by decide +kernel
theorem dX9_clear_7 : decode cX9_clear 7 = .ok (.putfield 40, 3) := by decide +kernel
theorem dX9_clear_10 : decode cX9_clear 10 = .ok (.aload_n 0, 1) := by decide +kernel
theorem dX9_clear_11 : decode cX9_clear 11 = .ok (.iconst 0, 1) := by decide +kernel
theorem dX9_clear_12 : decode cX9_clear 12 = .ok (.iconst 1, 1) := by decide +kernel
theorem dX9_clear_13 : decode cX9_clear 13 = .ok (.invokevirtual 43, 3) := by decide +kernel
theorem dX9_clear_16 : decode cX9_clear 16 = .ok (.aload_n 0, 1) := by decide +kernel
theorem dX9_clear_17 : decode cX9_clear 17 = .ok (.bipush 13, 2) := by decide +kernel
theorem dX9_clear_19 : decode cX9_clear 19 = .ok (.iconst 0, 1) := by decide +kernel
theorem dX9_clear_20 : decode cX9_clear 20 = .ok (.invokevirtual 43, 3) := by decide +kernel
theorem dX9_clear_23 : decode cX9_clear 23 = .ok (.return_, 1) := by decide +kernel
set_option maxRecDepth 100000 in
theorem okm_X9_clear : okL RX9 cX9_clear 1 none "clear" pcX9_clear opX9_clear pcX9_clear := by
  unfold opX9_clear
  refine okL_cons (ok_aload_n rfl dX9_clear_0) rfl ?_
  refine okL_cons (ok_iconst rfl dX9_clear_1) rfl ?_
  refine okL_cons (ok_putI kw_372 cf_X9 rfl rfl (by decide) rfl dX9_clear_2) rfl ?_
  refine okL_cons (ok_aload_n rfl dX9_clear_5) rfl ?_
  refine okL_cons (ok_iconst rfl dX9_clear_6) rfl ?_
  refine okL_cons (ok_putI kw_373 cf_X9 rfl rfl (by decide) rfl dX9_clear_7) rfl ?_
  refine okL_cons (ok_aload_n rfl dX9_clear_10) rfl ?_
  refine okL_cons (ok_iconst rfl dX9_clear_11) rfl ?_
  refine okL_cons (ok_iconst rfl dX9_clear_12) rfl ?_
  refine okL_cons (ok_invV (M' := 95) kw_374 kw_192 kw_193 kw_59 kw_194 cf_X9 rfl (by decide +kernel) dX9_clear_13) rfl ?_
  refine okL_cons (ok_aload_n rfl dX9_clear_16) rfl ?_
  refine okL_cons (ok_bipush rfl dX9_clear_17) rfl ?_
  refine okL_cons (ok_iconst rfl dX9_clear_19) rfl ?_
  refine okL_cons (ok_invV (M' := 95) kw_374 kw_192 kw_193 kw_59 kw_194 cf_X9 rfl (by decide +kernel) dX9_clear_20) rfl ?_
  exact okL_one (ok_return rfl dX9_clear_23)
theorem dX9_open_0 : decode cX9_open 0 = .ok (.aload_n 0, 1) := by decide +kernel
theorem dX9_open_1 : decode cX9_open 1 = .ok (.getfield 40, 3) := by decide +kernel
theorem dX9_open_4 : decode cX9_open 4 = .ok (.bipush 12, 2) := by decide +kernel
theorem dX9_open_6 : decode cX9_open 6 = .ok (.if_icmp .lt 5, 3) := by decide +kernel
theorem dX9_open_9 : decode cX9_open 9 = .ok (.iconst 0, 1) := by decide +kernel
theorem dX9_open_10 : decode cX9_open 10 = .ok (.ireturn, 1) := by decide +kernel
theorem dX9_open_11 : decode cX9_open 11 = .ok (.aload_n 0, 1) := by decide +kernel
theorem dX9_open_12 : decode cX9_open 12 = .ok (.getfield 15, 3) := by decide +kernel
theorem dX9_open_15 : decode cX9_open 15 = .ok (.aload_n 0, 1) := by decide +kernel
theorem dX9_open_16 : decode cX9_open 16 = .ok (.getfield 40, 3) := by decide +kernel
theorem dX9_open_19 : decode cX9_open 19 = .ok (.iconst (-1), 1) := by decide +kernel
theorem dX9_open_20 : decode cX9_open 20 = .ok (.iastore, 1) := by decide +kernel
theorem dX9_open_21 : decode cX9_open 21 = .ok (.aload_n 0, 1) := by decide +kernel
theorem dX9_open_22 : decode cX9_open 22 = .ok (.getfield 18, 3) := by decide +kernel
theorem dX9_open_25 : decode cX9_open 25 = .ok (.aload_n 0, 1) := by decide +kernel
theorem dX9_open_26 : decode cX9_open 26 = .ok (.getfield 40, 3) := by decide +kernel
theorem dX9_open_29 : decode cX9_open 29 = .ok (.iconst 0, 1) := by decide +kernel
theorem dX9_open_30 : decode cX9_open 30 = .ok (.iastore, 1) := by decide +kernel
theorem dX9_open_31 : decode cX9_open 31 = .ok (.aload_n 0, 1) := by decide +kernel
theorem dX9_open_32 : decode cX9_open 32 = .ok (.getfield 21, 3) := by decide +kernel
theorem dX9_open_35 : decode cX9_open 35 = .ok (.aload_n 0, 1) := by decide +kernel
theorem dX9_open_36 : decode cX9_open 36 = .ok (.getfield 40, 3) := by decide +kernel
theorem dX9_open_39 : decode cX9_open 39 = .ok (.iconst 0, 1) := by decide +kernel
theorem dX9_open_40 : decode cX9_open 40 = .ok (.iastore, 1) := by decide +kernel
theorem dX9_open_41 : decode cX9_open 41 = .ok (.aload_n 0, 1) := by decide +kernel
theorem dX9_open_42 : decode cX9_open 42 = .ok (.getfield 24, 3) := by decide +kernel
theorem dX9_open_45 : decode cX9_open 45 = .ok (.aload_n 0, 1) := by decide +kernel
theorem dX9_open_46 : decode cX9_open 46 = .ok (.getfield 40, 3) := by decide +kernel
theorem dX9_open_49 : decode cX9_open 49 = .ok (.iconst 1, 1) := by decide +kernel
theorem dX9_open_50 : decode cX9_open 50 = .ok (.iastore, 1) := by decide +kernel
theorem dX9_open_51 : decode cX9_open 51 = .ok (.aload_n 0, 1) := by decide +kernel
theorem dX9_open_52 : decode cX9_open 52 = .ok (.getfield 27, 3) := by decide +kernel
theorem dX9_open_55 : decode cX9_open 55 = .ok (.aload_n 0, 1) := by decide +kernel
theorem dX9_open_56 : decode cX9_open 56 = .ok (.getfield 40, 3) := by decide +kernel
theorem dX9_open_59 : decode cX9_open 59 = .ok (.iconst 0, 1) := by decide +kernel
theorem dX9_open_60 : decode cX9_open 60 = .ok (.iastore, 1) := by decide +kernel
theorem dX9_open_61 : decode cX9_open 61 = .ok (.aload_n 0, 1) := by decide +kernel
theorem dX9_open_62 : decode cX9_open 62 = .ok (.dup, 1) := by decide +kernel
theorem dX9_open_63 : decode cX9_open 63 = .ok (.getfield 40, 3) := by decide +kernel
theorem dX9_open_66 : decode cX9_open 66 = .ok (.iconst 1, 1) := by decide +kernel
theorem dX9_open_67 : decode cX9_open 67 = .ok (.iadd, 1) := by decide +kernel
theorem dX9_open_68 : decode cX9_open 68 = .ok (.putfield 40, 3) := by decide +kernel
theorem dX9_open_71 : decode cX9_open 71 = .ok (.iconst 1, 1) := by decide +kernel
theorem dX9_open_72 : decode cX9_open 72 = .ok (.ireturn, 1) := by decide +kernel
set_option maxRecDepth 100000 in
theorem okm_X9_open : okL RX9 cX9_open 1 (some .boolean) "open" pcX9_open opX9_open pcX9_open := by
  unfold opX9_open
  refine okL_cons (ok_aload_n rfl dX9_open_0) rfl ?_
  refine okL_cons (ok_getI kw_373 cf_X9 rfl rfl (by decide) dX9_open_1) rfl ?_
  refine okL_cons (ok_bipush rfl dX9_open_4) rfl ?_
  refine okL_cons (ok_icmp_lt rfl dX9_open_6) rfl ?_
  refine okL_cons (ok_iconst rfl dX9_open_9) rfl ?_
  refine okL_cons (ok_zreturn rfl dX9_open_10) rfl ?_
  refine okL_cons (ok_aload_n rfl dX9_open_11) rfl ?_
  refine okL_cons (ok_getP kw_366 cf_X9 rfl rfl (by decide) dX9_open_12) rfl ?_
  refine okL_cons (ok_aload_n rfl dX9_open_15) rfl ?_
  refine okL_cons (ok_getI kw_373 cf_X9 rfl rfl (by decide) dX9_open_16) rfl ?_
  refine okL_cons (ok_iconst rfl dX9_open_19) rfl ?_
  refine okL_cons (ok_iastore dX9_open_20) rfl ?_
  refine okL_cons (ok_aload_n rfl dX9_open_21) rfl ?_
  refine okL_cons (ok_getP kw_367 cf_X9 rfl rfl (by decide) dX9_open_22) rfl ?_
  refine okL_cons (ok_aload_n rfl dX9_open_25) rfl ?_
  refine okL_cons (ok_getI kw_373 cf_X9 rfl rfl (by decide) dX9_open_26) rfl ?_
  refine okL_cons (ok_iconst rfl dX9_open_29) rfl ?_
  refine okL_cons (ok_iastore dX9_open_30) rfl ?_
  refine okL_cons (ok_aload_n rfl dX9_open_31) rfl ?_
  refine okL_cons (ok_getP kw_368 cf_X9 rfl rfl (by decide) dX9_open_32) rfl ?_
  refine okL_cons (ok_aload_n rfl dX9_open_35) rfl ?_
  refine okL_cons (ok_getI kw_373 cf_X9 rfl rfl (by decide) dX9_open_36) rfl ?_
  refine okL_cons (ok_iconst rfl dX9_open_39) rfl ?_
  refine okL_cons (ok_iastore dX9_open_40) rfl ?_
  refine okL_cons (ok_aload_n rfl dX9_open_41) rfl ?_
  refine okL_cons (ok_getP kw_369 cf_X9 rfl rfl (by decide) dX9_open_42) rfl ?_
  refine okL_cons (ok_aload_n rfl dX9_open_45) rfl ?_
  refine okL_cons (ok_getI kw_373 cf_X9 rfl rfl (by decide) dX9_open_46) rfl ?_
  refine okL_cons (ok_iconst rfl dX9_open_49) rfl ?_
  refine okL_cons (ok_iastore dX9_open_50) rfl ?_
  refine okL_cons (ok_aload_n rfl dX9_open_51) rfl ?_
  refine okL_cons (ok_getP kw_370 cf_X9 rfl rfl (by decide) dX9_open_52) rfl ?_
  refine okL_cons (ok_aload_n rfl dX9_open_55) rfl ?_
  refine okL_cons (ok_getI kw_373 cf_X9 rfl rfl (by decide) dX9_open_56) rfl ?_
  refine okL_cons (ok_iconst rfl dX9_open_59) rfl ?_
  refine okL_cons (ok_iastore dX9_open_60) rfl ?_
  refine okL_cons (ok_aload_n rfl dX9_open_61) rfl ?_
  refine okL_cons (ok_dup dX9_open_62) rfl ?_
  refine okL_cons (ok_getI kw_373 cf_X9 rfl rfl (by decide) dX9_open_63) rfl ?_
  refine okL_cons (ok_iconst rfl dX9_open_66) rfl ?_
  refine okL_cons (ok_iadd dX9_open_67) rfl ?_
  refine okL_cons (ok_putI kw_373 cf_X9 rfl rfl (by decide) rfl dX9_open_68) rfl ?_
  refine okL_cons (ok_iconst rfl dX9_open_71) rfl ?_
  exact okL_one (ok_zreturn rfl dX9_open_72)
theorem dX9_add_0 : decode cX9_add 0 = .ok (.aload_n 0, 1) := by decide +kernel
theorem dX9_add_1 : decode cX9_add 1 = .ok (.getfield 36, 3) := by decide +kernel
theorem dX9_add_4 : decode cX9_add 4 = .ok (.aload_n 0, 1) := by decide +kernel
theorem dX9_add_5 : decode cX9_add 5 = .ok (.getfield 9, 3) := by decide +kernel
theorem dX9_add_8 : decode cX9_add 8 = .ok (.arraylength, 1) := by decide +kernel
theorem dX9_add_9 : decode cX9_add 9 = .ok (.if_icmp .ge 27, 3) := by decide +kernel
theorem dX9_add_12 : decode cX9_add 12 = .ok (.aload_n 0, 1) := by decide +kernel
theorem dX9_add_13 : decode cX9_add 13 = .ok (.getfield 9, 3) := by decide +kernel
theorem dX9_add_16 : decode cX9_add 16 = .ok (.aload_n 0, 1) := by decide +kernel
theorem dX9_add_17 : decode cX9_add 17 = .ok (.getfield 36, 3) := by decide +kernel
theorem dX9_add_20 : decode cX9_add 20 = .ok (.iload_n 2, 1) := by decide +kernel
theorem dX9_add_21 : decode cX9_add 21 = .ok (.iconst 4, 1) := by decide +kernel
theorem dX9_add_22 : decode cX9_add 22 = .ok (.ishl, 1) := by decide +kernel
theorem dX9_add_23 : decode cX9_add 23 = .ok (.iload_n 1, 1) := by decide +kernel
theorem dX9_add_24 : decode cX9_add 24 = .ok (.ior, 1) := by decide +kernel
theorem dX9_add_25 : decode cX9_add 25 = .ok (.iastore, 1) := by decide +kernel
theorem dX9_add_26 : decode cX9_add 26 = .ok (.aload_n 0, 1) := by decide +kernel
theorem dX9_add_27 : decode cX9_add 27 = .ok (.dup, 1) := by decide +kernel
theorem dX9_add_28 : decode cX9_add 28 = .ok (.getfield 36, 3) := by decide +kernel
theorem dX9_add_31 : decode cX9_add 31 = .ok (.iconst 1, 1) := by decide +kernel
theorem dX9_add_32 : decode cX9_add 32 = .ok (.iadd, 1) := by decide +kernel
theorem dX9_add_33 : decode cX9_add 33 = .ok (.putfield 36, 3) := by decide +kernel
theorem dX9_add_36 : decode cX9_add 36 = .ok (.return_, 1) := by decide +kernel
set_option maxRecDepth 100000 in
theorem okm_X9_add : okL RX9 cX9_add 3 none "add" pcX9_add opX9_add pcX9_add := by
  unfold opX9_add
  refine okL_cons (ok_aload_n rfl dX9_add_0) rfl ?_
  refine okL_cons (ok_getI kw_372 cf_X9 rfl rfl (by decide) dX9_add_1) rfl ?_
  refine okL_cons (ok_aload_n rfl dX9_add_4) rfl ?_
  refine okL_cons (ok_getP kw_365 cf_X9 rfl rfl (by decide) dX9_add_5) rfl ?_
  refine okL_cons (ok_alen dX9_add_8) rfl ?_
  refine okL_cons (ok_icmp_ge rfl dX9_add_9) rfl ?_
  refine okL_cons (ok_aload_n rfl dX9_add_12) rfl ?_
  refine okL_cons (ok_getP kw_365 cf_X9 rfl rfl (by decide) dX9_add_13) rfl ?_
  refine okL_cons (ok_aload_n rfl dX9_add_16) rfl ?_
  refine okL_cons (ok_getI kw_372 cf_X9 rfl rfl (by decide) dX9_add_17) rfl ?_
  refine okL_cons (ok_iload_n rfl dX9_add_20) rfl ?_
  refine okL_cons (ok_iconst rfl dX9_add_21) rfl ?_
  refine okL_cons (ok_ishl dX9_add_22) rfl ?_
  refine okL_cons (ok_iload_n rfl dX9_add_23) rfl ?_
  refine okL_cons (ok_ior dX9_add_24) rfl ?_
  refine okL_cons (ok_iastore dX9_add_25) rfl ?_
  refine okL_cons (ok_aload_n rfl dX9_add_26) rfl ?_
  refine okL_cons (ok_dup dX9_add_27) rfl ?_
  refine okL_cons (ok_getI kw_372 cf_X9 rfl rfl (by decide) dX9_add_28) rfl ?_
  refine okL_cons (ok_iconst rfl dX9_add_31) rfl ?_
  refine okL_cons (ok_iadd dX9_add_32) rfl ?_
  refine okL_cons (ok_putI kw_372 cf_X9 rfl rfl (by decide) rfl dX9_add_33) rfl ?_
  exact okL_one (ok_return rfl dX9_add_36)
theorem dX9_leadHere_0 : decode cX9_leadHere 0 = .ok (.iload_n 1, 1) := by decide +kernel
theorem dX9_leadHere_1 : decode cX9_leadHere 1 = .ok (.ifCond .lt 33, 3) := by decide +kernel
theorem dX9_leadHere_4 : decode cX9_leadHere 4 = .ok (.iload_n 1, 1) := by decide +kernel
theorem dX9_leadHere_5 : decode cX9_leadHere 5 = .ok (.aload_n 0, 1) := by decide +kernel
theorem dX9_leadHere_6 : decode cX9_leadHere 6 = .ok (.getfield 36, 3) := by decide +kernel
theorem dX9_leadHere_9 : decode cX9_leadHere 9 = .ok (.if_icmp .ge 25, 3) := by decide +kernel
theorem dX9_leadHere_12 : decode cX9_leadHere 12 = .ok (.aload_n 0, 1) := by decide +kernel
theorem dX9_leadHere_13 : decode cX9_leadHere 13 = .ok (.getfield 9, 3) := by decide +kernel
theorem dX9_leadHere_16 : decode cX9_leadHere 16 = .ok (.iload_n 1, 1) := by decide +kernel
theorem dX9_leadHere_17 : decode cX9_leadHere 17 = .ok (.aload_n 0, 1) := by decide +kernel
theorem dX9_leadHere_18 : decode cX9_leadHere 18 = .ok (.getfield 36, 3) := by decide +kernel
theorem dX9_leadHere_21 : decode cX9_leadHere 21 = .ok (.iconst 4, 1) := by decide +kernel
theorem dX9_leadHere_22 : decode cX9_leadHere 22 = .ok (.ishl, 1) := by decide +kernel
theorem dX9_leadHere_23 : decode cX9_leadHere 23 = .ok (.aload_n 0, 1) := by decide +kernel
theorem dX9_leadHere_24 : decode cX9_leadHere 24 = .ok (.getfield 9, 3) := by decide +kernel
theorem dX9_leadHere_27 : decode cX9_leadHere 27 = .ok (.iload_n 1, 1) := by decide +kernel
theorem dX9_leadHere_28 : decode cX9_leadHere 28 = .ok (.iaload, 1) := by decide +kernel
theorem dX9_leadHere_29 : decode cX9_leadHere 29 = .ok (.bipush 15, 2) := by decide +kernel
theorem dX9_leadHere_31 : decode cX9_leadHere 31 = .ok (.iand, 1) := by decide +kernel
theorem dX9_leadHere_32 : decode cX9_leadHere 32 = .ok (.ior, 1) := by decide +kernel
theorem dX9_leadHere_33 : decode cX9_leadHere 33 = .ok (.iastore, 1) := by decide +kernel
theorem dX9_leadHere_34 : decode cX9_leadHere 34 = .ok (.return_, 1) := by decide +kernel
set_option maxRecDepth 100000 in
theorem okm_X9_leadHere : okL RX9 cX9_leadHere 2 none "leadHere" pcX9_leadHere opX9_leadHere pcX9_leadHere := by
  unfold opX9_leadHere
  refine okL_cons (ok_iload_n rfl dX9_leadHere_0) rfl ?_
  refine okL_cons (ok_if_lt rfl dX9_leadHere_1) rfl ?_
  refine okL_cons (ok_iload_n rfl dX9_leadHere_4) rfl ?_
  refine okL_cons (ok_aload_n rfl dX9_leadHere_5) rfl ?_
  refine okL_cons (ok_getI kw_372 cf_X9 rfl rfl (by decide) dX9_leadHere_6) rfl ?_
  refine okL_cons (ok_icmp_ge rfl dX9_leadHere_9) rfl ?_
  refine okL_cons (ok_aload_n rfl dX9_leadHere_12) rfl ?_
  refine okL_cons (ok_getP kw_365 cf_X9 rfl rfl (by decide) dX9_leadHere_13) rfl ?_
  refine okL_cons (ok_iload_n rfl dX9_leadHere_16) rfl ?_
  refine okL_cons (ok_aload_n rfl dX9_leadHere_17) rfl ?_
  refine okL_cons (ok_getI kw_372 cf_X9 rfl rfl (by decide) dX9_leadHere_18) rfl ?_
  refine okL_cons (ok_iconst rfl dX9_leadHere_21) rfl ?_
  refine okL_cons (ok_ishl dX9_leadHere_22) rfl ?_
  refine okL_cons (ok_aload_n rfl dX9_leadHere_23) rfl ?_
  refine okL_cons (ok_getP kw_365 cf_X9 rfl rfl (by decide) dX9_leadHere_24) rfl ?_
  refine okL_cons (ok_iload_n rfl dX9_leadHere_27) rfl ?_
  refine okL_cons (ok_iaload dX9_leadHere_28) rfl ?_
  refine okL_cons (ok_bipush rfl dX9_leadHere_29) rfl ?_
  refine okL_cons (ok_iand dX9_leadHere_31) rfl ?_
  refine okL_cons (ok_ior dX9_leadHere_32) rfl ?_
  refine okL_cons (ok_iastore dX9_leadHere_33) rfl ?_
  exact okL_one (ok_return rfl dX9_leadHere_34)
theorem dX10_init_0 : decode cX10_init 0 = .ok (.aload_n 0, 1) := by decide +kernel
theorem dX10_init_1 : decode cX10_init 1 = .ok (.invokespecial 3, 3) := by decide +kernel
theorem dX10_init_4 : decode cX10_init 4 = .ok (.aload_n 0, 1) := by decide +kernel
theorem dX10_init_5 : decode cX10_init 5 = .ok (.sipush 248, 3) := by decide +kernel
theorem dX10_init_8 : decode cX10_init 8 = .ok (.newarray .int, 2) := by decide +kernel
theorem dX10_init_10 : decode cX10_init 10 = .ok (.putfield 9, 3) := by decide +kernel
theorem dX10_init_13 : decode cX10_init 13 = .ok (.return_, 1) := by decide +kernel
set_option maxRecDepth 100000 in
theorem okm_X10_init : okL RX10 cX10_init 1 none "<init>" pcX10_init opX10_init pcX10_init := by
  unfold opX10_init
  refine okL_cons (ok_aload_n rfl dX10_init_0) rfl ?_
  refine okL_cons (ok_obj kw_375 kw_29 kw_30 dX10_init_1) rfl ?_
  refine okL_cons (ok_aload_n rfl dX10_init_4) rfl ?_
  refine okL_cons (ok_sipush rfl dX10_init_5) rfl ?_
  refine okL_cons (ok_newarray_int kw_31 dX10_init_8) rfl ?_
  refine okL_cons (ok_putPF kw_376 cf_X10 rfl rfl (by decide) rfl rfl rfl dX10_init_10) rfl ?_
  exact okL_one (ok_return rfl dX10_init_13)
theorem dX10_note_0 : decode cX10_note 0 = .ok (.aload_n 2, 1) := by decide +kernel
theorem dX10_note_1 : decode cX10_note 1 = .ok (.getfield 15, 3) := by decide +kernel
theorem dX10_note_4 : decode cX10_note 4 = .ok (.iconst 0, 1) := by decide +kernel
theorem dX10_note_5 : decode cX10_note 5 = .ok (.aload_n 0, 1) := by decide +kernel
theorem dX10_note_6 : decode cX10_note 6 = .ok (.getfield 9, 3) := by decide +kernel
theorem dX10_note_9 : decode cX10_note 9 = .ok (.iload_n 1, 1) := by decide +kernel
theorem dX10_note_10 : decode cX10_note 10 = .ok (.bipush 8, 2) := by decide +kernel
theorem dX10_note_12 : decode cX10_note 12 = .ok (.imul, 1) := by decide +kernel
theorem dX10_note_13 : decode cX10_note 13 = .ok (.bipush 8, 2) := by decide +kernel
theorem dX10_note_15 : decode cX10_note 15 = .ok (.invokestatic 20, 3) := by decide +kernel
theorem dX10_note_18 : decode cX10_note 18 = .ok (.return_, 1) := by decide +kernel
set_option maxRecDepth 100000 in
theorem okm_X10_note : okL RX10 cX10_note 3 none "note" pcX10_note opX10_note pcX10_note := by
  unfold opX10_note
  refine okL_cons (ok_aload_n rfl dX10_note_0) rfl ?_
  refine okL_cons (ok_getNP 2 cf_X2 rfl rfl rfl (by decide) dX10_note_1) rfl ?_
  refine okL_cons (ok_iconst rfl dX10_note_4) rfl ?_
  refine okL_cons (ok_aload_n rfl dX10_note_5) rfl ?_
  refine okL_cons (ok_getP kw_376 cf_X10 rfl rfl (by decide) dX10_note_6) rfl ?_
  refine okL_cons (ok_iload_n rfl dX10_note_9) rfl ?_
  refine okL_cons (ok_bipush rfl dX10_note_10) rfl ?_
  refine okL_cons (ok_imul dX10_note_12) rfl ?_
  refine okL_cons (ok_bipush rfl dX10_note_13) rfl ?_
  refine okL_cons (ok_cpy kw_377 kw_69 kw_70 kw_71 dX10_note_15) rfl ?_
  exact okL_one (ok_return rfl dX10_note_18)
theorem dX10_lettersSeen_0 : decode cX10_lettersSeen 0 = .ok (.iconst 0, 1) := by decide +kernel
theorem dX10_lettersSeen_1 : decode cX10_lettersSeen 1 = .ok (.istore_n 3, 1) := by decide +kernel
theorem dX10_lettersSeen_2 : decode cX10_lettersSeen 2 = .ok (.iconst 0, 1) := by decide +kernel
theorem dX10_lettersSeen_3 : decode cX10_lettersSeen 3 = .ok (.istore 4, 2) := by decide +kernel
theorem dX10_lettersSeen_5 : decode cX10_lettersSeen 5 = .ok (.iload 4, 2) := by decide +kernel
theorem dX10_lettersSeen_7 : decode cX10_lettersSeen 7 = .ok (.bipush 8, 2) := by decide +kernel
theorem dX10_lettersSeen_9 : decode cX10_lettersSeen 9 = .ok (.if_icmp .ge 36, 3) := by decide +kernel
theorem dX10_lettersSeen_12 : decode cX10_lettersSeen 12 = .ok (.aload_n 2, 1) := by decide +kernel
theorem dX10_lettersSeen_13 : decode cX10_lettersSeen 13 = .ok (.getfield 26, 3) := by decide +kernel
theorem dX10_lettersSeen_16 : decode cX10_lettersSeen 16 = .ok (.iload 4, 2) := by decide +kernel
theorem dX10_lettersSeen_18 : decode cX10_lettersSeen 18 = .ok (.iaload, 1) := by decide +kernel
theorem dX10_lettersSeen_19 : decode cX10_lettersSeen 19 = .ok (.ifCond .eq 20, 3) := by decide +kernel
theorem dX10_lettersSeen_22 : decode cX10_lettersSeen 22 = .ok (.aload_n 0, 1) := by decide +kernel
theorem dX10_lettersSeen_23 : decode cX10_lettersSeen 23 = .ok (.aload_n 1, 1) := by decide +kernel
theorem dX10_lettersSeen_24 : decode cX10_lettersSeen 24 = .ok (.iload 4, 2) := by decide +kernel
theorem dX10_lettersSeen_26 : decode cX10_lettersSeen 26 = .ok (.invokevirtual 29, 3) := by decide +kernel
theorem dX10_lettersSeen_29 : decode cX10_lettersSeen 29 = .ok (.ifCond .eq 10, 3) := by decide +kernel
theorem dX10_lettersSeen_32 : decode cX10_lettersSeen 32 = .ok (.iload_n 3, 1) := by decide +kernel
theorem dX10_lettersSeen_33 : decode cX10_lettersSeen 33 = .ok (.iconst 1, 1) := by decide +kernel
theorem dX10_lettersSeen_34 : decode cX10_lettersSeen 34 = .ok (.iload 4, 2) := by decide +kernel
theorem dX10_lettersSeen_36 : decode cX10_lettersSeen 36 = .ok (.ishl, 1) := by decide +kernel
theorem dX10_lettersSeen_37 : decode cX10_lettersSeen 37 = .ok (.ior, 1) := by decide +kernel
theorem dX10_lettersSeen_38 : decode cX10_lettersSeen 38 = .ok (.istore_n 3, 1) := by decide +kernel
theorem dX10_lettersSeen_39 : decode cX10_lettersSeen 39 = .ok (.iinc 4 1, 3) := by decide +kernel
theorem dX10_lettersSeen_42 : decode cX10_lettersSeen 42 = .ok (.goto (-37), 3) := by decide +kernel
theorem dX10_lettersSeen_45 : decode cX10_lettersSeen 45 = .ok (.iload_n 3, 1) := by decide +kernel
theorem dX10_lettersSeen_46 : decode cX10_lettersSeen 46 = .ok (.ireturn, 1) := by decide +kernel
set_option maxRecDepth 100000 in
theorem okm_X10_lettersSeen : okL RX10 cX10_lettersSeen 5 (some .int) "lettersSeen" pcX10_lettersSeen opX10_lettersSeen pcX10_lettersSeen := by
  unfold opX10_lettersSeen
  refine okL_cons (ok_iconst rfl dX10_lettersSeen_0) rfl ?_
  refine okL_cons (ok_istore_n rfl dX10_lettersSeen_1) rfl ?_
  refine okL_cons (ok_iconst rfl dX10_lettersSeen_2) rfl ?_
  refine okL_cons (ok_istore dX10_lettersSeen_3) rfl ?_
  refine okL_cons (ok_iload dX10_lettersSeen_5) rfl ?_
  refine okL_cons (ok_bipush rfl dX10_lettersSeen_7) rfl ?_
  refine okL_cons (ok_icmp_ge rfl dX10_lettersSeen_9) rfl ?_
  refine okL_cons (ok_aload_n rfl dX10_lettersSeen_12) rfl ?_
  refine okL_cons (ok_getNP 0 cf_X2 rfl rfl rfl (by decide) dX10_lettersSeen_13) rfl ?_
  refine okL_cons (ok_iload dX10_lettersSeen_16) rfl ?_
  refine okL_cons (ok_iaload dX10_lettersSeen_18) rfl ?_
  refine okL_cons (ok_if_eq rfl dX10_lettersSeen_19) rfl ?_
  refine okL_cons (ok_aload_n rfl dX10_lettersSeen_22) rfl ?_
  refine okL_cons (ok_aload_n rfl dX10_lettersSeen_23) rfl ?_
  refine okL_cons (ok_iload dX10_lettersSeen_24) rfl ?_
  refine okL_cons (ok_invV (M' := 100) kw_378 kw_379 kw_380 kw_381 kw_382 cf_X10 rfl (by decide +kernel) dX10_lettersSeen_26) rfl ?_
  refine okL_cons (ok_if_eq rfl dX10_lettersSeen_29) rfl ?_
  refine okL_cons (ok_iload_n rfl dX10_lettersSeen_32) rfl ?_
  refine okL_cons (ok_iconst rfl dX10_lettersSeen_33) rfl ?_
  refine okL_cons (ok_iload dX10_lettersSeen_34) rfl ?_
  refine okL_cons (ok_ishl dX10_lettersSeen_36) rfl ?_
  refine okL_cons (ok_ior dX10_lettersSeen_37) rfl ?_
  refine okL_cons (ok_istore_n rfl dX10_lettersSeen_38) rfl ?_
  refine okL_cons (ok_iinc rfl dX10_lettersSeen_39) rfl ?_
  refine okL_cons (ok_goto rfl dX10_lettersSeen_42) rfl ?_
  refine okL_cons (ok_iload_n rfl dX10_lettersSeen_45) rfl ?_
  exact okL_one (ok_ireturn rfl dX10_lettersSeen_46)
theorem dX10_isAtAllSeen_0 : decode cX10_isAtAllSeen 0 = .ok (.iconst 0, 1) := by decide +kernel
theorem dX10_isAtAllSeen_1 : decode cX10_isAtAllSeen 1 = .ok (.istore_n 3, 1) := by decide +kernel
theorem dX10_isAtAllSeen_2 : decode cX10_isAtAllSeen 2 = .ok (.iload_n 3, 1) := by decide +kernel
theorem dX10_isAtAllSeen_3 : decode cX10_isAtAllSeen 3 = .ok (.aload_n 1, 1) := by decide +kernel
theorem dX10_isAtAllSeen_4 : decode cX10_isAtAllSeen 4 = .ok (.getfield 33, 3) := by decide +kernel
theorem dX10_isAtAllSeen_7 : decode cX10_isAtAllSeen 7 = .ok (.if_icmp .ge 36, 3) := by decide +kernel
theorem dX10_isAtAllSeen_10 : decode cX10_isAtAllSeen 10 = .ok (.aload_n 0, 1) := by decide +kernel
theorem dX10_isAtAllSeen_11 : decode cX10_isAtAllSeen 11 = .ok (.getfield 9, 3) := by decide +kernel
theorem dX10_isAtAllSeen_14 : decode cX10_isAtAllSeen 14 = .ok (.aload_n 1, 1) := by decide +kernel
theorem dX10_isAtAllSeen_15 : decode cX10_isAtAllSeen 15 = .ok (.getfield 39, 3) := by decide +kernel
theorem dX10_isAtAllSeen_18 : decode cX10_isAtAllSeen 18 = .ok (.iload_n 3, 1) := by decide +kernel
theorem dX10_isAtAllSeen_19 : decode cX10_isAtAllSeen 19 = .ok (.iaload, 1) := by decide +kernel
theorem dX10_isAtAllSeen_20 : decode cX10_isAtAllSeen 20 = .ok (.bipush 8, 2) := by decide +kernel
theorem dX10_isAtAllSeen_22 : decode cX10_isAtAllSeen 22 = .ok (.imul, 1) := by decide +kernel
theorem dX10_isAtAllSeen_23 : decode cX10_isAtAllSeen 23 = .ok (.iload_n 2, 1) := by decide +kernel
theorem dX10_isAtAllSeen_24 : decode cX10_isAtAllSeen 24 = .ok (.iadd, 1) := by decide +kernel
theorem dX10_isAtAllSeen_25 : decode cX10_isAtAllSeen 25 = .ok (.iaload, 1) := by decide +kernel
theorem dX10_isAtAllSeen_26 : decode cX10_isAtAllSeen 26 = .ok (.aload_n 1, 1) := by decide +kernel
theorem dX10_isAtAllSeen_27 : decode cX10_isAtAllSeen 27 = .ok (.getfield 42, 3) := by decide +kernel
theorem dX10_isAtAllSeen_30 : decode cX10_isAtAllSeen 30 = .ok (.iload_n 3, 1) := by decide +kernel
theorem dX10_isAtAllSeen_31 : decode cX10_isAtAllSeen 31 = .ok (.iaload, 1) := by decide +kernel
theorem dX10_isAtAllSeen_32 : decode cX10_isAtAllSeen 32 = .ok (.if_icmp .eq 5, 3) := by decide +kernel
theorem dX10_isAtAllSeen_35 : decode cX10_isAtAllSeen 35 = .ok (.iconst 0, 1) := by decide +kernel
theorem dX10_isAtAllSeen_36 : decode cX10_isAtAllSeen 36 = .ok (.ireturn, 1) := by decide +kernel
theorem dX10_isAtAllSeen_37 : decode cX10_isAtAllSeen 37 = .ok (.iinc 3 1, 3) := by decide +kernel
theorem dX10_isAtAllSeen_40 : decode cX10_isAtAllSeen 40 = .ok (.goto (-38), 3) := by decide +kernel
theorem dX10_isAtAllSeen_43 : decode cX10_isAtAllSeen 43 = .ok (.iconst 1, 1) := by decide +kernel
theorem dX10_isAtAllSeen_44 : decode cX10_isAtAllSeen 44 = .ok (.ireturn, 1) := by decide +kernel
set_option maxRecDepth 100000 in
theorem okm_X10_isAtAllSeen : okL RX10 cX10_isAtAllSeen 4 (some .boolean) "isAtAllSeen" pcX10_isAtAllSeen opX10_isAtAllSeen pcX10_isAtAllSeen := by
  unfold opX10_isAtAllSeen
  refine okL_cons (ok_iconst rfl dX10_isAtAllSeen_0) rfl ?_
  refine okL_cons (ok_istore_n rfl dX10_isAtAllSeen_1) rfl ?_
  refine okL_cons (ok_iload_n rfl dX10_isAtAllSeen_2) rfl ?_
  refine okL_cons (ok_aload_n rfl dX10_isAtAllSeen_3) rfl ?_
  refine okL_cons (ok_getNI 39 cf_X1 rfl rfl rfl (by decide) dX10_isAtAllSeen_4) rfl ?_
  refine okL_cons (ok_icmp_ge rfl dX10_isAtAllSeen_7) rfl ?_
  refine okL_cons (ok_aload_n rfl dX10_isAtAllSeen_10) rfl ?_
  refine okL_cons (ok_getP kw_376 cf_X10 rfl rfl (by decide) dX10_isAtAllSeen_11) rfl ?_
  refine okL_cons (ok_aload_n rfl dX10_isAtAllSeen_14) rfl ?_
  refine okL_cons (ok_getNP 35 cf_X1 rfl rfl rfl (by decide) dX10_isAtAllSeen_15) rfl ?_
  refine okL_cons (ok_iload_n rfl dX10_isAtAllSeen_18) rfl ?_
  refine okL_cons (ok_iaload dX10_isAtAllSeen_19) rfl ?_
  refine okL_cons (ok_bipush rfl dX10_isAtAllSeen_20) rfl ?_
  refine okL_cons (ok_imul dX10_isAtAllSeen_22) rfl ?_
  refine okL_cons (ok_iload_n rfl dX10_isAtAllSeen_23) rfl ?_
  refine okL_cons (ok_iadd dX10_isAtAllSeen_24) rfl ?_
  refine okL_cons (ok_iaload dX10_isAtAllSeen_25) rfl ?_
  refine okL_cons (ok_aload_n rfl dX10_isAtAllSeen_26) rfl ?_
  refine okL_cons (ok_getNP 37 cf_X1 rfl rfl rfl (by decide) dX10_isAtAllSeen_27) rfl ?_
  refine okL_cons (ok_iload_n rfl dX10_isAtAllSeen_30) rfl ?_
  refine okL_cons (ok_iaload dX10_isAtAllSeen_31) rfl ?_
  refine okL_cons (ok_icmp_eq rfl dX10_isAtAllSeen_32) rfl ?_
  refine okL_cons (ok_iconst rfl dX10_isAtAllSeen_35) rfl ?_
  refine okL_cons (ok_zreturn rfl dX10_isAtAllSeen_36) rfl ?_
  refine okL_cons (ok_iinc rfl dX10_isAtAllSeen_37) rfl ?_
  refine okL_cons (ok_goto rfl dX10_isAtAllSeen_40) rfl ?_
  refine okL_cons (ok_iconst rfl dX10_isAtAllSeen_43) rfl ?_
  exact okL_one (ok_zreturn rfl dX10_isAtAllSeen_44)
theorem dX10_mostAtOne_0 : decode cX10_mostAtOne 0 = .ok (.iconst 0, 1) := by decide +kernel
theorem dX10_mostAtOne_1 : decode cX10_mostAtOne 1 = .ok (.istore_n 3, 1) := by decide +kernel
theorem dX10_mostAtOne_2 : decode cX10_mostAtOne 2 = .ok (.iconst 0, 1) := by decide +kernel
theorem dX10_mostAtOne_3 : decode cX10_mostAtOne 3 = .ok (.istore 4, 2) := by decide +kernel
theorem dX10_mostAtOne_5 : decode cX10_mostAtOne 5 = .ok (.iload 4, 2) := by decide +kernel
theorem dX10_mostAtOne_7 : decode cX10_mostAtOne 7 = .ok (.bipush 8, 2) := by decide +kernel
theorem dX10_mostAtOne_9 : decode cX10_mostAtOne 9 = .ok (.if_icmp .ge 83, 3) := by decide +kernel
theorem dX10_mostAtOne_12 : decode cX10_mostAtOne 12 = .ok (.iconst 0, 1) := by decide +kernel
theorem dX10_mostAtOne_13 : decode cX10_mostAtOne 13 = .ok (.istore 5, 2) := by decide +kernel
theorem dX10_mostAtOne_15 : decode cX10_mostAtOne 15 = .ok (.iconst 0, 1) := by decide +kernel
theorem dX10_mostAtOne_16 : decode cX10_mostAtOne 16 = .ok (.istore 6, 2) := by decide +kernel
theorem dX10_mostAtOne_18 : decode cX10_mostAtOne 18 = .ok (.iload 6, 2) := by decide +kernel
theorem dX10_mostAtOne_20 : decode cX10_mostAtOne 20 = .ok (.bipush 8, 2) := by decide +kernel
theorem dX10_mostAtOne_22 : decode cX10_mostAtOne 22 = .ok (.if_icmp .ge 48, 3) := by decide +kernel
theorem dX10_mostAtOne_25 : decode cX10_mostAtOne 25 = .ok (.iload 6, 2) := by decide +kernel
theorem dX10_mostAtOne_27 : decode cX10_mostAtOne 27 = .ok (.iload_n 2, 1) := by decide +kernel
theorem dX10_mostAtOne_28 : decode cX10_mostAtOne 28 = .ok (.invokestatic 45, 3) := by decide +kernel
theorem dX10_mostAtOne_31 : decode cX10_mostAtOne 31 = .ok (.ifCond .eq 33, 3) := by decide +kernel
theorem dX10_mostAtOne_34 : decode cX10_mostAtOne 34 = .ok (.aload_n 0, 1) := by decide +kernel
theorem dX10_mostAtOne_35 : decode cX10_mostAtOne 35 = .ok (.getfield 9, 3) := by decide +kernel
theorem dX10_mostAtOne_38 : decode cX10_mostAtOne 38 = .ok (.iload_n 1, 1) := by decide +kernel
theorem dX10_mostAtOne_39 : decode cX10_mostAtOne 39 = .ok (.bipush 8, 2) := by decide +kernel
theorem dX10_mostAtOne_41 : decode cX10_mostAtOne 41 = .ok (.imul, 1) := by decide +kernel
theorem dX10_mostAtOne_42 : decode cX10_mostAtOne 42 = .ok (.iload 6, 2) := by decide +kernel
theorem dX10_mostAtOne_44 : decode cX10_mostAtOne 44 = .ok (.iadd, 1) := by decide +kernel
theorem dX10_mostAtOne_45 : decode cX10_mostAtOne 45 = .ok (.iaload, 1) := by decide +kernel
theorem dX10_mostAtOne_46 : decode cX10_mostAtOne 46 = .ok (.aload_n 0, 1) := by decide +kernel
theorem dX10_mostAtOne_47 : decode cX10_mostAtOne 47 = .ok (.getfield 9, 3) := by decide +kernel
theorem dX10_mostAtOne_50 : decode cX10_mostAtOne 50 = .ok (.iload_n 1, 1) := by decide +kernel
theorem dX10_mostAtOne_51 : decode cX10_mostAtOne 51 = .ok (.bipush 8, 2) := by decide +kernel
theorem dX10_mostAtOne_53 : decode cX10_mostAtOne 53 = .ok (.imul, 1) := by decide +kernel
theorem dX10_mostAtOne_54 : decode cX10_mostAtOne 54 = .ok (.iload 4, 2) := by decide +kernel
theorem dX10_mostAtOne_56 : decode cX10_mostAtOne 56 = .ok (.iadd, 1) := by decide +kernel
theorem dX10_mostAtOne_57 : decode cX10_mostAtOne 57 = .ok (.iaload, 1) := by decide +kernel
theorem dX10_mostAtOne_58 : decode cX10_mostAtOne 58 = .ok (.if_icmp .ne 6, 3) := by decide +kernel
theorem dX10_mostAtOne_61 : decode cX10_mostAtOne 61 = .ok (.iinc 5 1, 3) := by decide +kernel
theorem dX10_mostAtOne_64 : decode cX10_mostAtOne 64 = .ok (.iinc 6 1, 3) := by decide +kernel
theorem dX10_mostAtOne_67 : decode cX10_mostAtOne 67 = .ok (.goto (-49), 3) := by decide +kernel
theorem dX10_mostAtOne_70 : decode cX10_mostAtOne 70 = .ok (.iload 4, 2) := by decide +kernel
theorem dX10_mostAtOne_72 : decode cX10_mostAtOne 72 = .ok (.iload_n 2, 1) := by decide +kernel
theorem dX10_mostAtOne_73 : decode cX10_mostAtOne 73 = .ok (.invokestatic 45, 3) := by decide +kernel
theorem dX10_mostAtOne_76 : decode cX10_mostAtOne 76 = .ok (.ifCond .eq 10, 3) := by decide +kernel
theorem dX10_mostAtOne_79 : decode cX10_mostAtOne 79 = .ok (.iload_n 3, 1) := by decide +kernel
theorem dX10_mostAtOne_80 : decode cX10_mostAtOne 80 = .ok (.iload 5, 2) := by decide +kernel
theorem dX10_mostAtOne_82 : decode cX10_mostAtOne 82 = .ok (.invokestatic 49, 3) := by decide +kernel
theorem dX10_mostAtOne_85 : decode cX10_mostAtOne 85 = .ok (.istore_n 3, 1) := by decide +kernel
theorem dX10_mostAtOne_86 : decode cX10_mostAtOne 86 = .ok (.iinc 4 1, 3) := by decide +kernel
theorem dX10_mostAtOne_89 : decode cX10_mostAtOne 89 = .ok (.goto (-84), 3) := by decide +kernel
theorem dX10_mostAtOne_92 : decode cX10_mostAtOne 92 = .ok (.iload_n 3, 1) := by decide +kernel
theorem dX10_mostAtOne_93 : decode cX10_mostAtOne 93 = .ok (.ireturn, 1) := by decide +kernel
set_option maxRecDepth 100000 in
theorem okm_X10_mostAtOne : okL RX10 cX10_mostAtOne 7 (some .int) "mostAtOne" pcX10_mostAtOne opX10_mostAtOne pcX10_mostAtOne := by
  unfold opX10_mostAtOne
  refine okL_cons (ok_iconst rfl dX10_mostAtOne_0) rfl ?_
  refine okL_cons (ok_istore_n rfl dX10_mostAtOne_1) rfl ?_
  refine okL_cons (ok_iconst rfl dX10_mostAtOne_2) rfl ?_
  refine okL_cons (ok_istore dX10_mostAtOne_3) rfl ?_
  refine okL_cons (ok_iload dX10_mostAtOne_5) rfl ?_
  refine okL_cons (ok_bipush rfl dX10_mostAtOne_7) rfl ?_
  refine okL_cons (ok_icmp_ge rfl dX10_mostAtOne_9) rfl ?_
  refine okL_cons (ok_iconst rfl dX10_mostAtOne_12) rfl ?_
  refine okL_cons (ok_istore dX10_mostAtOne_13) rfl ?_
  refine okL_cons (ok_iconst rfl dX10_mostAtOne_15) rfl ?_
  refine okL_cons (ok_istore dX10_mostAtOne_16) rfl ?_
  refine okL_cons (ok_iload dX10_mostAtOne_18) rfl ?_
  refine okL_cons (ok_bipush rfl dX10_mostAtOne_20) rfl ?_
  refine okL_cons (ok_icmp_ge rfl dX10_mostAtOne_22) rfl ?_
  refine okL_cons (ok_iload dX10_mostAtOne_25) rfl ?_
  refine okL_cons (ok_iload_n rfl dX10_mostAtOne_27) rfl ?_
  refine okL_cons (ok_invNS (M' := 162) 14 kw_78 kw_79 kw_80 rfl rfl (by decide +kernel) dX10_mostAtOne_28) rfl ?_
  refine okL_cons (ok_if_eq rfl dX10_mostAtOne_31) rfl ?_
  refine okL_cons (ok_aload_n rfl dX10_mostAtOne_34) rfl ?_
  refine okL_cons (ok_getP kw_376 cf_X10 rfl rfl (by decide) dX10_mostAtOne_35) rfl ?_
  refine okL_cons (ok_iload_n rfl dX10_mostAtOne_38) rfl ?_
  refine okL_cons (ok_bipush rfl dX10_mostAtOne_39) rfl ?_
  refine okL_cons (ok_imul dX10_mostAtOne_41) rfl ?_
  refine okL_cons (ok_iload dX10_mostAtOne_42) rfl ?_
  refine okL_cons (ok_iadd dX10_mostAtOne_44) rfl ?_
  refine okL_cons (ok_iaload dX10_mostAtOne_45) rfl ?_
  refine okL_cons (ok_aload_n rfl dX10_mostAtOne_46) rfl ?_
  refine okL_cons (ok_getP kw_376 cf_X10 rfl rfl (by decide) dX10_mostAtOne_47) rfl ?_
  refine okL_cons (ok_iload_n rfl dX10_mostAtOne_50) rfl ?_
  refine okL_cons (ok_bipush rfl dX10_mostAtOne_51) rfl ?_
  refine okL_cons (ok_imul dX10_mostAtOne_53) rfl ?_
  refine okL_cons (ok_iload dX10_mostAtOne_54) rfl ?_
  refine okL_cons (ok_iadd dX10_mostAtOne_56) rfl ?_
  refine okL_cons (ok_iaload dX10_mostAtOne_57) rfl ?_
  refine okL_cons (ok_icmp_ne rfl dX10_mostAtOne_58) rfl ?_
  refine okL_cons (ok_iinc rfl dX10_mostAtOne_61) rfl ?_
  refine okL_cons (ok_iinc rfl dX10_mostAtOne_64) rfl ?_
  refine okL_cons (ok_goto rfl dX10_mostAtOne_67) rfl ?_
  refine okL_cons (ok_iload dX10_mostAtOne_70) rfl ?_
  refine okL_cons (ok_iload_n rfl dX10_mostAtOne_72) rfl ?_
  refine okL_cons (ok_invNS (M' := 162) 14 kw_78 kw_79 kw_80 rfl rfl (by decide +kernel) dX10_mostAtOne_73) rfl ?_
  refine okL_cons (ok_if_eq rfl dX10_mostAtOne_76) rfl ?_
  refine okL_cons (ok_iload_n rfl dX10_mostAtOne_79) rfl ?_
  refine okL_cons (ok_iload dX10_mostAtOne_80) rfl ?_
  refine okL_cons (ok_max kw_383 kw_35 kw_36 kw_37 dX10_mostAtOne_82) rfl ?_
  refine okL_cons (ok_istore_n rfl dX10_mostAtOne_85) rfl ?_
  refine okL_cons (ok_iinc rfl dX10_mostAtOne_86) rfl ?_
  refine okL_cons (ok_goto rfl dX10_mostAtOne_89) rfl ?_
  refine okL_cons (ok_iload_n rfl dX10_mostAtOne_92) rfl ?_
  exact okL_one (ok_ireturn rfl dX10_mostAtOne_93)
theorem dX10_bestHour_0 : decode cX10_bestHour 0 = .ok (.iconst 0, 1) := by decide +kernel
theorem dX10_bestHour_1 : decode cX10_bestHour 1 = .ok (.istore_n 2, 1) := by decide +kernel
theorem dX10_bestHour_2 : decode cX10_bestHour 2 = .ok (.iconst 1, 1) := by decide +kernel
theorem dX10_bestHour_3 : decode cX10_bestHour 3 = .ok (.istore_n 3, 1) := by decide +kernel
theorem dX10_bestHour_4 : decode cX10_bestHour 4 = .ok (.iload_n 3, 1) := by decide +kernel
theorem dX10_bestHour_5 : decode cX10_bestHour 5 = .ok (.bipush 30, 2) := by decide +kernel
theorem dX10_bestHour_7 : decode cX10_bestHour 7 = .ok (.if_icmp .gt 26, 3) := by decide +kernel
theorem dX10_bestHour_10 : decode cX10_bestHour 10 = .ok (.aload_n 0, 1) := by decide +kernel
theorem dX10_bestHour_11 : decode cX10_bestHour 11 = .ok (.iload_n 3, 1) := by decide +kernel
theorem dX10_bestHour_12 : decode cX10_bestHour 12 = .ok (.iload_n 1, 1) := by decide +kernel
theorem dX10_bestHour_13 : decode cX10_bestHour 13 = .ok (.invokevirtual 55, 3) := by decide +kernel
theorem dX10_bestHour_16 : decode cX10_bestHour 16 = .ok (.aload_n 0, 1) := by decide +kernel
theorem dX10_bestHour_17 : decode cX10_bestHour 17 = .ok (.iload_n 2, 1) := by decide +kernel
theorem dX10_bestHour_18 : decode cX10_bestHour 18 = .ok (.iload_n 1, 1) := by decide +kernel
theorem dX10_bestHour_19 : decode cX10_bestHour 19 = .ok (.invokevirtual 55, 3) := by decide +kernel
theorem dX10_bestHour_22 : decode cX10_bestHour 22 = .ok (.if_icmp .ge 5, 3) := by decide +kernel
theorem dX10_bestHour_25 : decode cX10_bestHour 25 = .ok (.iload_n 3, 1) := by decide +kernel
theorem dX10_bestHour_26 : decode cX10_bestHour 26 = .ok (.istore_n 2, 1) := by decide +kernel
theorem dX10_bestHour_27 : decode cX10_bestHour 27 = .ok (.iinc 3 1, 3) := by decide +kernel
theorem dX10_bestHour_30 : decode cX10_bestHour 30 = .ok (.goto (-26), 3) := by decide +kernel
theorem dX10_bestHour_33 : decode cX10_bestHour 33 = .ok (.iload_n 2, 1) := by decide +kernel
theorem dX10_bestHour_34 : decode cX10_bestHour 34 = .ok (.ireturn, 1) := by decide +kernel
set_option maxRecDepth 100000 in
theorem okm_X10_bestHour : okL RX10 cX10_bestHour 4 (some .int) "bestHour" pcX10_bestHour opX10_bestHour pcX10_bestHour := by
  unfold opX10_bestHour
  refine okL_cons (ok_iconst rfl dX10_bestHour_0) rfl ?_
  refine okL_cons (ok_istore_n rfl dX10_bestHour_1) rfl ?_
  refine okL_cons (ok_iconst rfl dX10_bestHour_2) rfl ?_
  refine okL_cons (ok_istore_n rfl dX10_bestHour_3) rfl ?_
  refine okL_cons (ok_iload_n rfl dX10_bestHour_4) rfl ?_
  refine okL_cons (ok_bipush rfl dX10_bestHour_5) rfl ?_
  refine okL_cons (ok_icmp_gt rfl dX10_bestHour_7) rfl ?_
  refine okL_cons (ok_aload_n rfl dX10_bestHour_10) rfl ?_
  refine okL_cons (ok_iload_n rfl dX10_bestHour_11) rfl ?_
  refine okL_cons (ok_iload_n rfl dX10_bestHour_12) rfl ?_
  refine okL_cons (ok_invV (M' := 101) kw_384 kw_385 kw_386 kw_381 kw_387 cf_X10 rfl (by decide +kernel) dX10_bestHour_13) rfl ?_
  refine okL_cons (ok_aload_n rfl dX10_bestHour_16) rfl ?_
  refine okL_cons (ok_iload_n rfl dX10_bestHour_17) rfl ?_
  refine okL_cons (ok_iload_n rfl dX10_bestHour_18) rfl ?_
  refine okL_cons (ok_invV (M' := 101) kw_384 kw_385 kw_386 kw_381 kw_387 cf_X10 rfl (by decide +kernel) dX10_bestHour_19) rfl ?_
  refine okL_cons (ok_icmp_ge rfl dX10_bestHour_22) rfl ?_
  refine okL_cons (ok_iload_n rfl dX10_bestHour_25) rfl ?_
  refine okL_cons (ok_istore_n rfl dX10_bestHour_26) rfl ?_
  refine okL_cons (ok_iinc rfl dX10_bestHour_27) rfl ?_
  refine okL_cons (ok_goto rfl dX10_bestHour_30) rfl ?_
  refine okL_cons (ok_iload_n rfl dX10_bestHour_33) rfl ?_
  exact okL_one (ok_ireturn rfl dX10_bestHour_34)
theorem dX11_init_0 : decode cX11_init 0 = .ok (.aload_n 0, 1) := by decide +kernel
theorem dX11_init_1 : decode cX11_init 1 = .ok (.invokespecial 3, 3) := by decide +kernel
theorem dX11_init_4 : decode cX11_init 4 = .ok (.aload_n 0, 1) := by decide +kernel
theorem dX11_init_5 : decode cX11_init 5 = .ok (.new 9, 3) := by decide +kernel
theorem dX11_init_8 : decode cX11_init 8 = .ok (.dup, 1) := by decide +kernel
theorem dX11_init_9 : decode cX11_init 9 = .ok (.invokespecial 11, 3) := by decide +kernel
theorem dX11_init_12 : decode cX11_init 12 = .ok (.putfield 12, 3) := by decide +kernel
theorem dX11_init_15 : decode cX11_init 15 = .ok (.aload_n 0, 1) := by decide +kernel
theorem dX11_init_16 : decode cX11_init 16 = .ok (.aload_n 0, 1) := by decide +kernel
theorem dX11_init_17 : decode cX11_init 17 = .ok (.getfield 12, 3) := by decide +kernel
theorem dX11_init_20 : decode cX11_init 20 = .ok (.getfield 16, 3) := by decide +kernel
theorem dX11_init_23 : decode cX11_init 23 = .ok (.putfield 20, 3) := by decide +kernel
theorem dX11_init_26 : decode cX11_init 26 = .ok (.aload_n 0, 1) := by decide +kernel
theorem dX11_init_27 : decode cX11_init 27 = .ok (.iconst 2, 1) := by decide +kernel
theorem dX11_init_28 : decode cX11_init 28 = .ok (.anewarray 9, 3) := by decide +kernel
theorem dX11_init_31 : decode cX11_init 31 = .ok (.putfield 23, 3) := by decide +kernel
theorem dX11_init_34 : decode cX11_init 34 = .ok (.aload_n 0, 1) := by decide +kernel
theorem dX11_init_35 : decode cX11_init 35 = .ok (.iconst 2, 1) := by decide +kernel
theorem dX11_init_36 : decode cX11_init 36 = .ok (.newarray .boolean, 2) := by decide +kernel
theorem dX11_init_38 : decode cX11_init 38 = .ok (.putfield 27, 3) := by decide +kernel
theorem dX11_init_41 : decode cX11_init 41 = .ok (.aload_n 0, 1) := by decide +kernel
theorem dX11_init_42 : decode cX11_init 42 = .ok (.new 31, 3) := by decide +kernel
theorem dX11_init_45 : decode cX11_init 45 = .ok (.dup, 1) := by decide +kernel
theorem dX11_init_46 : decode cX11_init 46 = .ok (.invokespecial 33, 3) := by decide +kernel
theorem dX11_init_49 : decode cX11_init 49 = .ok (.putfield 34, 3) := by decide +kernel
theorem dX11_init_52 : decode cX11_init 52 = .ok (.aload_n 0, 1) := by decide +kernel
theorem dX11_init_53 : decode cX11_init 53 = .ok (.new 31, 3) := by decide +kernel
theorem dX11_init_56 : decode cX11_init 56 = .ok (.dup, 1) := by decide +kernel
theorem dX11_init_57 : decode cX11_init 57 = .ok (.invokespecial 33, 3) := by decide +kernel
theorem dX11_init_60 : decode cX11_init 60 = .ok (.putfield 38, 3) := by decide +kernel
theorem dX11_init_63 : decode cX11_init 63 = .ok (.aload_n 0, 1) := by decide +kernel
theorem dX11_init_64 : decode cX11_init 64 = .ok (.new 41, 3) := by decide +kernel
theorem dX11_init_67 : decode cX11_init 67 = .ok (.dup, 1) := by decide +kernel
theorem dX11_init_68 : decode cX11_init 68 = .ok (.invokespecial 43, 3) := by decide +kernel
theorem dX11_init_71 : decode cX11_init 71 = .ok (.putfield 44, 3) := by decide +kernel
theorem dX11_init_74 : decode cX11_init 74 = .ok (.aload_n 0, 1) := by decide +kernel
theorem dX11_init_75 : decode cX11_init 75 = .ok (.new 41, 3) := by decide +kernel
theorem dX11_init_78 : decode cX11_init 78 = .ok (.dup, 1) := by decide +kernel
theorem dX11_init_79 : decode cX11_init 79 = .ok (.invokespecial 43, 3) := by decide +kernel
theorem dX11_init_82 : decode cX11_init 82 = .ok (.putfield 47, 3) := by decide +kernel
theorem dX11_init_85 : decode cX11_init 85 = .ok (.aload_n 0, 1) := by decide +kernel
theorem dX11_init_86 : decode cX11_init 86 = .ok (.new 41, 3) := by decide +kernel
theorem dX11_init_89 : decode cX11_init 89 = .ok (.dup, 1) := by decide +kernel
theorem dX11_init_90 : decode cX11_init 90 = .ok (.invokespecial 43, 3) := by decide +kernel
theorem dX11_init_93 : decode cX11_init 93 = .ok (.putfield 50, 3) := by decide +kernel
theorem dX11_init_96 : decode cX11_init 96 = .ok (.aload_n 0, 1) := by decide +kernel
theorem dX11_init_97 : decode cX11_init 97 = .ok (.new 53, 3) := by decide +kernel
theorem dX11_init_100 : decode cX11_init 100 = .ok (.dup, 1) := by decide +kernel
theorem dX11_init_101 : decode cX11_init 101 = .ok (.invokespecial 55, 3) := by decide +kernel
theorem dX11_init_104 : decode cX11_init 104 = .ok (.putfield 56, 3) := by decide +kernel
theorem dX11_init_107 : decode cX11_init 107 = .ok (.aload_n 0, 1) := by decide +kernel
theorem dX11_init_108 : decode cX11_init 108 = .ok (.new 60, 3) := by decide +kernel
theorem dX11_init_111 : decode cX11_init 111 = .ok (.dup, 1) := by decide +kernel
theorem dX11_init_112 : decode cX11_init 112 = .ok (.aload_n 0, 1) := by decide +kernel
theorem dX11_init_113 : decode cX11_init 113 = .ok (.getfield 56, 3) := by decide +kernel
theorem dX11_init_116 : decode cX11_init 116 = .ok (.invokespecial 62, 3) := by decide +kernel
theorem dX11_init_119 : decode cX11_init 119 = .ok (.putfield 65, 3) := by decide +kernel
theorem dX11_init_122 : decode cX11_init 122 = .ok (.aload_n 0, 1) := by decide +kernel
theorem dX11_init_123 : decode cX11_init 123 = .ok (.new 69, 3) := by decide +kernel
theorem dX11_init_126 : decode cX11_init 126 = .ok (.dup, 1) := by decide +kernel
theorem dX11_init_127 : decode cX11_init 127 = .ok (.invokespecial 71, 3) := by decide +kernel
theorem dX11_init_130 : decode cX11_init 130 = .ok (.putfield 72, 3) := by decide +kernel
theorem dX11_init_133 : decode cX11_init 133 = .ok (.aload_n 0, 1) := by decide +kernel
theorem dX11_init_134 : decode cX11_init 134 = .ok (.new 76, 3) := by decide +kernel
theorem dX11_init_137 : decode cX11_init 137 = .ok (.dup, 1) := by decide +kernel
theorem dX11_init_138 : decode cX11_init 138 = .ok (.invokespecial 78, 3) := by decide +kernel
theorem dX11_init_141 : decode cX11_init 141 = .ok (.putfield 79, 3) := by decide +kernel
theorem dX11_init_144 : decode cX11_init 144 = .ok (.aload_n 0, 1) := by decide +kernel
theorem dX11_init_145 : decode cX11_init 145 = .ok (.bipush 38, 2) := by decide +kernel
theorem dX11_init_147 : decode cX11_init 147 = .ok (.newarray .int, 2) := by decide +kernel
theorem dX11_init_149 : decode cX11_init 149 = .ok (.putfield 83, 3) := by decide +kernel
theorem dX11_init_152 : decode cX11_init 152 = .ok (.aload_n 0, 1) := by decide +kernel
theorem dX11_init_153 : decode cX11_init 153 = .ok (.new 87, 3) := by decide +kernel
theorem dX11_init_156 : decode cX11_init 156 = .ok (.dup, 1) := by decide +kernel
theorem dX11_init_157 : decode cX11_init 157 = .ok (.aload_n 0, 1) := by decide +kernel
theorem dX11_init_158 : decode cX11_init 158 = .ok (.getfield 79, 3) := by decide +kernel
theorem dX11_init_161 : decode cX11_init 161 = .ok (.aload_n 0, 1) := by decide +kernel
theorem dX11_init_162 : decode cX11_init 162 = .ok (.getfield 12, 3) := by decide +kernel
theorem dX11_init_165 : decode cX11_init 165 = .ok (.invokespecial 89, 3) := by decide +kernel
theorem dX11_init_168 : decode cX11_init 168 = .ok (.putfield 92, 3) := by decide +kernel
theorem dX11_init_171 : decode cX11_init 171 = .ok (.aload_n 0, 1) := by decide +kernel
theorem dX11_init_172 : decode cX11_init 172 = .ok (.new 96, 3) := by decide +kernel
theorem dX11_init_175 : decode cX11_init 175 = .ok (.dup, 1) := by decide +kernel
theorem dX11_init_176 : decode cX11_init 176 = .ok (.invokespecial 98, 3) := by decide +kernel
theorem dX11_init_179 : decode cX11_init 179 = .ok (.putfield 99, 3) := by decide +kernel
theorem dX11_init_182 : decode cX11_init 182 = .ok (.aload_n 0, 1) := by decide +kernel
theorem dX11_init_183 : decode cX11_init 183 = .ok (.new 103, 3) := by decide +kernel
theorem dX11_init_186 : decode cX11_init 186 = .ok (.dup, 1) := by decide +kernel
theorem dX11_init_187 : decode cX11_init 187 = .ok (.invokespecial 105, 3) := by decide +kernel
theorem dX11_init_190 : decode cX11_init 190 = .ok (.putfield 106, 3) := by decide +kernel
theorem dX11_init_193 : decode cX11_init 193 = .ok (.aload_n 0, 1) := by decide +kernel
theorem dX11_init_194 : decode cX11_init 194 = .ok (.bipush 20, 2) := by decide +kernel
theorem dX11_init_196 : decode cX11_init 196 = .ok (.newarray .long, 2) := by decide +kernel
theorem dX11_init_198 : decode cX11_init 198 = .ok (.putfield 110, 3) := by decide +kernel
theorem dX11_init_201 : decode cX11_init 201 = .ok (.aload_n 0, 1) := by decide +kernel
theorem dX11_init_202 : decode cX11_init 202 = .ok (.new 114, 3) := by decide +kernel
theorem dX11_init_205 : decode cX11_init 205 = .ok (.dup, 1) := by decide +kernel
theorem dX11_init_206 : decode cX11_init 206 = .ok (.invokespecial 116, 3) := by decide +kernel
theorem dX11_init_209 : decode cX11_init 209 = .ok (.putfield 117, 3) := by decide +kernel
theorem dX11_init_212 : decode cX11_init 212 = .ok (.iconst 0, 1) := by decide +kernel
theorem dX11_init_213 : decode cX11_init 213 = .ok (.istore_n 1, 1) := by decide +kernel
theorem dX11_init_214 : decode cX11_init 214 = .ok (.iload_n 1, 1) := by decide +kernel
theorem dX11_init_215 : decode cX11_init 215 = .ok (.iconst 2, 1) := by decide +kernel
theorem dX11_init_216 : decode cX11_init 216 = .ok (.if_icmp .ge 22, 3) := by decide +kernel
theorem dX11_init_219 : decode cX11_init 219 = .ok (.aload_n 0, 1) := by decide +kernel
theorem dX11_init_220 : decode cX11_init 220 = .ok (.getfield 23, 3) := by decide +kernel
theorem dX11_init_223 : decode cX11_init 223 = .ok (.iload_n 1, 1) := by decide +kernel
theorem dX11_init_224 : decode cX11_init 224 = .ok (.new 9, 3) := by decide +kernel
theorem dX11_init_227 : decode cX11_init 227 = .ok (.dup, 1) := by decide +kernel
theorem dX11_init_228 : decode cX11_init 228 = .ok (.invokespecial 11, 3) := by decide +kernel
theorem dX11_init_231 : decode cX11_init 231 = .ok (.aastore, 1) := by decide +kernel
theorem dX11_init_232 : decode cX11_init 232 = .ok (.iinc 1 1, 3) := by decide +kernel
theorem dX11_init_235 : decode cX11_init 235 = .ok (.goto (-21), 3) := by decide +kernel
theorem dX11_init_238 : decode cX11_init 238 = .ok (.return_, 1) := by decide +kernel
set_option maxRecDepth 100000 in
theorem okm_X11_init : okL RX11 cX11_init 2 none "<init>" pcX11_init opX11_init pcX11_init := by
  unfold opX11_init
  refine okL_cons (ok_aload_n rfl dX11_init_0) rfl ?_
  refine okL_cons (ok_obj kw_388 kw_29 kw_30 dX11_init_1) rfl ?_
  refine okL_cons (ok_aload_n rfl dX11_init_4) rfl ?_
  refine okL_cons (ok_new kw_389 kw_390 kw_258 cf_X1 dX11_init_5) rfl ?_
  refine okL_cons (ok_dup dX11_init_8) rfl ?_
  refine okL_cons (ok_invI (M' := 12) kw_391 kw_392 kw_258 kw_393 cf_X1 rfl rfl rfl (by decide +kernel) dX11_init_9) rfl ?_
  refine okL_cons (ok_putPF kw_394 cf_X11 rfl rfl (by decide) rfl rfl rfl dX11_init_12) rfl ?_
  refine okL_cons (ok_aload_n rfl dX11_init_15) rfl ?_
  refine okL_cons (ok_aload_n rfl dX11_init_16) rfl ?_
  refine okL_cons (ok_getP kw_394 cf_X11 rfl rfl (by decide) dX11_init_17) rfl ?_
  refine okL_cons (ok_getNP 28 cf_X1 rfl rfl rfl (by decide) dX11_init_20) rfl ?_
  refine okL_cons (ok_putPF kw_395 cf_X11 rfl rfl (by decide) rfl rfl rfl dX11_init_23) rfl ?_
  refine okL_cons (ok_aload_n rfl dX11_init_26) rfl ?_
  refine okL_cons (ok_iconst rfl dX11_init_27) rfl ?_
  refine okL_cons (ok_newQ (by decide) kw_389 dX11_init_28) rfl ?_
  refine okL_cons (ok_putPF kw_396 cf_X11 rfl rfl (by decide) rfl rfl rfl dX11_init_31) rfl ?_
  refine okL_cons (ok_aload_n rfl dX11_init_34) rfl ?_
  refine okL_cons (ok_iconst rfl dX11_init_35) rfl ?_
  refine okL_cons (ok_newarray_boolean kw_397 dX11_init_36) rfl ?_
  refine okL_cons (ok_putPF kw_398 cf_X11 rfl rfl (by decide) rfl rfl rfl dX11_init_38) rfl ?_
  refine okL_cons (ok_aload_n rfl dX11_init_41) rfl ?_
  refine okL_cons (ok_new kw_399 kw_400 kw_401 cf_X4 dX11_init_42) rfl ?_
  refine okL_cons (ok_dup dX11_init_45) rfl ?_
  refine okL_cons (ok_invI (M' := 28) kw_402 kw_403 kw_401 kw_404 cf_X4 rfl rfl rfl (by decide +kernel) dX11_init_46) rfl ?_
  refine okL_cons (ok_putPF kw_405 cf_X11 rfl rfl (by decide) rfl rfl rfl dX11_init_49) rfl ?_
  refine okL_cons (ok_aload_n rfl dX11_init_52) rfl ?_
  refine okL_cons (ok_new kw_399 kw_400 kw_401 cf_X4 dX11_init_53) rfl ?_
  refine okL_cons (ok_dup dX11_init_56) rfl ?_
  refine okL_cons (ok_invI (M' := 28) kw_402 kw_403 kw_401 kw_404 cf_X4 rfl rfl rfl (by decide +kernel) dX11_init_57) rfl ?_
  refine okL_cons (ok_putPF kw_406 cf_X11 rfl rfl (by decide) rfl rfl rfl dX11_init_60) rfl ?_
  refine okL_cons (ok_aload_n rfl dX11_init_63) rfl ?_
  refine okL_cons (ok_new kw_407 kw_46 kw_47 cf_X2 dX11_init_64) rfl ?_
  refine okL_cons (ok_dup dX11_init_67) rfl ?_
  refine okL_cons (ok_invI (M' := 16) kw_408 kw_49 kw_47 kw_50 cf_X2 rfl rfl rfl (by decide +kernel) dX11_init_68) rfl ?_
  refine okL_cons (ok_putPF kw_409 cf_X11 rfl rfl (by decide) rfl rfl rfl dX11_init_71) rfl ?_
  refine okL_cons (ok_aload_n rfl dX11_init_74) rfl ?_
  refine okL_cons (ok_new kw_407 kw_46 kw_47 cf_X2 dX11_init_75) rfl ?_
  refine okL_cons (ok_dup dX11_init_78) rfl ?_
  refine okL_cons (ok_invI (M' := 16) kw_408 kw_49 kw_47 kw_50 cf_X2 rfl rfl rfl (by decide +kernel) dX11_init_79) rfl ?_
  refine okL_cons (ok_putPF kw_410 cf_X11 rfl rfl (by decide) rfl rfl rfl dX11_init_82) rfl ?_
  refine okL_cons (ok_aload_n rfl dX11_init_85) rfl ?_
  refine okL_cons (ok_new kw_407 kw_46 kw_47 cf_X2 dX11_init_86) rfl ?_
  refine okL_cons (ok_dup dX11_init_89) rfl ?_
  refine okL_cons (ok_invI (M' := 16) kw_408 kw_49 kw_47 kw_50 cf_X2 rfl rfl rfl (by decide +kernel) dX11_init_90) rfl ?_
  refine okL_cons (ok_putPF kw_411 cf_X11 rfl rfl (by decide) rfl rfl rfl dX11_init_93) rfl ?_
  refine okL_cons (ok_aload_n rfl dX11_init_96) rfl ?_
  refine okL_cons (ok_new kw_412 kw_413 kw_140 cf_X8 dX11_init_97) rfl ?_
  refine okL_cons (ok_dup dX11_init_100) rfl ?_
  refine okL_cons (ok_invNI (M' := 78) 1 kw_414 kw_140 kw_415 cf_X8 rfl rfl rfl rfl (by decide +kernel) dX11_init_101) rfl ?_
  refine okL_cons (ok_putPF kw_416 cf_X11 rfl rfl (by decide) rfl rfl rfl dX11_init_104) rfl ?_
  refine okL_cons (ok_aload_n rfl dX11_init_107) rfl ?_
  refine okL_cons (ok_new kw_417 kw_418 kw_149 cf_X5 dX11_init_108) rfl ?_
  refine okL_cons (ok_dup dX11_init_111) rfl ?_
  refine okL_cons (ok_aload_n rfl dX11_init_112) rfl ?_
  refine okL_cons (ok_getP kw_416 cf_X11 rfl rfl (by decide) dX11_init_113) rfl ?_
  refine okL_cons (ok_invI (M' := 33) kw_419 kw_420 kw_149 kw_421 cf_X5 rfl rfl rfl (by decide +kernel) dX11_init_116) rfl ?_
  refine okL_cons (ok_putPF kw_422 cf_X11 rfl rfl (by decide) rfl rfl rfl dX11_init_119) rfl ?_
  refine okL_cons (ok_aload_n rfl dX11_init_122) rfl ?_
  refine okL_cons (ok_new kw_423 kw_58 kw_59 cf_X9 dX11_init_123) rfl ?_
  refine okL_cons (ok_dup dX11_init_126) rfl ?_
  refine okL_cons (ok_invNI (M' := 91) 2 kw_60 kw_59 kw_61 cf_X9 rfl rfl rfl rfl (by decide +kernel) dX11_init_127) rfl ?_
  refine okL_cons (ok_putPF kw_424 cf_X11 rfl rfl (by decide) rfl rfl rfl dX11_init_130) rfl ?_
  refine okL_cons (ok_aload_n rfl dX11_init_133) rfl ?_
  refine okL_cons (ok_new kw_425 kw_426 kw_40 cf_X0 dX11_init_134) rfl ?_
  refine okL_cons (ok_dup dX11_init_137) rfl ?_
  refine okL_cons (ok_invNI (M' := 9) 3 kw_427 kw_40 kw_428 cf_X0 rfl rfl rfl rfl (by decide +kernel) dX11_init_138) rfl ?_
  refine okL_cons (ok_putPF kw_429 cf_X11 rfl rfl (by decide) rfl rfl rfl dX11_init_141) rfl ?_
  refine okL_cons (ok_aload_n rfl dX11_init_144) rfl ?_
  refine okL_cons (ok_bipush rfl dX11_init_145) rfl ?_
  refine okL_cons (ok_newarray_int kw_31 dX11_init_147) rfl ?_
  refine okL_cons (ok_putPF kw_430 cf_X11 rfl rfl (by decide) rfl rfl rfl dX11_init_149) rfl ?_
  refine okL_cons (ok_aload_n rfl dX11_init_152) rfl ?_
  refine okL_cons (ok_new kw_431 kw_432 kw_252 cf_X6 dX11_init_153) rfl ?_
  refine okL_cons (ok_dup dX11_init_156) rfl ?_
  refine okL_cons (ok_aload_n rfl dX11_init_157) rfl ?_
  refine okL_cons (ok_getP kw_429 cf_X11 rfl rfl (by decide) dX11_init_158) rfl ?_
  refine okL_cons (ok_aload_n rfl dX11_init_161) rfl ?_
  refine okL_cons (ok_getP kw_394 cf_X11 rfl rfl (by decide) dX11_init_162) rfl ?_
  refine okL_cons (ok_invI (M' := 56) kw_433 kw_434 kw_252 kw_435 cf_X6 rfl rfl rfl (by decide +kernel) dX11_init_165) rfl ?_
  refine okL_cons (ok_putPF kw_436 cf_X11 rfl rfl (by decide) rfl rfl rfl dX11_init_168) rfl ?_
  refine okL_cons (ok_aload_n rfl dX11_init_171) rfl ?_
  refine okL_cons (ok_new kw_437 kw_438 kw_292 cf_X7 dX11_init_172) rfl ?_
  refine okL_cons (ok_dup dX11_init_175) rfl ?_
  refine okL_cons (ok_invNI (M' := 65) 4 kw_439 kw_292 kw_440 cf_X7 rfl rfl rfl rfl (by decide +kernel) dX11_init_176) rfl ?_
  refine okL_cons (ok_putPF kw_441 cf_X11 rfl rfl (by decide) rfl rfl rfl dX11_init_179) rfl ?_
  refine okL_cons (ok_aload_n rfl dX11_init_182) rfl ?_
  refine okL_cons (ok_new kw_442 kw_443 kw_381 cf_X10 dX11_init_183) rfl ?_
  refine okL_cons (ok_dup dX11_init_186) rfl ?_
  refine okL_cons (ok_invNI (M' := 97) 5 kw_444 kw_381 kw_445 cf_X10 rfl rfl rfl rfl (by decide +kernel) dX11_init_187) rfl ?_
  refine okL_cons (ok_putPF kw_446 cf_X11 rfl rfl (by decide) rfl rfl rfl dX11_init_190) rfl ?_
  refine okL_cons (ok_aload_n rfl dX11_init_193) rfl ?_
  refine okL_cons (ok_bipush rfl dX11_init_194) rfl ?_
  refine okL_cons (ok_newarray_long kw_447 dX11_init_196) rfl ?_
  refine okL_cons (ok_putPF kw_448 cf_X11 rfl rfl (by decide) rfl rfl rfl dX11_init_198) rfl ?_
  refine okL_cons (ok_aload_n rfl dX11_init_201) rfl ?_
  refine okL_cons (ok_new kw_449 kw_450 kw_110 cf_X3 dX11_init_202) rfl ?_
  refine okL_cons (ok_dup dX11_init_205) rfl ?_
  refine okL_cons (ok_invNI (M' := 24) 6 kw_451 kw_110 kw_452 cf_X3 rfl rfl rfl rfl (by decide +kernel) dX11_init_206) rfl ?_
  refine okL_cons (ok_putPF kw_453 cf_X11 rfl rfl (by decide) rfl rfl rfl dX11_init_209) rfl ?_
  refine okL_cons (ok_iconst rfl dX11_init_212) rfl ?_
  refine okL_cons (ok_istore_n rfl dX11_init_213) rfl ?_
  refine okL_cons (ok_iload_n rfl dX11_init_214) rfl ?_
  refine okL_cons (ok_iconst rfl dX11_init_215) rfl ?_
  refine okL_cons (ok_icmp_ge rfl dX11_init_216) rfl ?_
  refine okL_cons (ok_aload_n rfl dX11_init_219) rfl ?_
  refine okL_cons (ok_getP kw_396 cf_X11 rfl rfl (by decide) dX11_init_220) rfl ?_
  refine okL_cons (ok_iload_n rfl dX11_init_223) rfl ?_
  refine okL_cons (ok_new kw_389 kw_390 kw_258 cf_X1 dX11_init_224) rfl ?_
  refine okL_cons (ok_dup dX11_init_227) rfl ?_
  refine okL_cons (ok_invI (M' := 12) kw_391 kw_392 kw_258 kw_393 cf_X1 rfl rfl rfl (by decide +kernel) dX11_init_228) rfl ?_
  refine okL_cons (ok_aastore (by decide) (by decide) rfl dX11_init_231) rfl ?_
  refine okL_cons (ok_iinc rfl dX11_init_232) rfl ?_
  refine okL_cons (ok_goto rfl dX11_init_235) rfl ?_
  exact okL_one (ok_return rfl dX11_init_238)
theorem dX11_cell_0 : decode cX11_cell 0 = .ok (.iload_n 1, 1) := by decide +kernel
theorem dX11_cell_1 : decode cX11_cell 1 = .ok (.invokestatic 121, 3) := by decide +kernel
theorem dX11_cell_4 : decode cX11_cell 4 = .ok (.ifCond .ne 5, 3) := by decide +kernel
theorem dX11_cell_7 : decode cX11_cell 7 = .ok (.iconst (-1), 1) := by decide +kernel
theorem dX11_cell_8 : decode cX11_cell 8 = .ok (.ireturn, 1) := by decide +kernel
theorem dX11_cell_9 : decode cX11_cell 9 = .ok (.aload_n 0, 1) := by decide +kernel
theorem dX11_cell_10 : decode cX11_cell 10 = .ok (.getfield 92, 3) := by decide +kernel
theorem dX11_cell_13 : decode cX11_cell 13 = .ok (.aload_n 0, 1) := by decide +kernel
theorem dX11_cell_14 : decode cX11_cell 14 = .ok (.getfield 20, 3) := by decide +kernel
theorem dX11_cell_17 : decode cX11_cell 17 = .ok (.aload_n 0, 1) := by decide +kernel
theorem dX11_cell_18 : decode cX11_cell 18 = .ok (.getfield 12, 3) := by decide +kernel
theorem dX11_cell_21 : decode cX11_cell 21 = .ok (.getfield 125, 3) := by decide +kernel
theorem dX11_cell_24 : decode cX11_cell 24 = .ok (.invokevirtual 129, 3) := by decide +kernel
theorem dX11_cell_27 : decode cX11_cell 27 = .ok (.iload_n 2, 1) := by decide +kernel
theorem dX11_cell_28 : decode cX11_cell 28 = .ok (.tableswitch 111 0 5 #[40, 50, 67, 76, 85, 102], 40) := by decide +kernel
theorem dX11_cell_68 : decode cX11_cell 68 = .ok (.aload_n 0, 1) := by decide +kernel
theorem dX11_cell_69 : decode cX11_cell 69 = .ok (.getfield 20, 3) := by decide +kernel
theorem dX11_cell_72 : decode cX11_cell 72 = .ok (.getfield 133, 3) := by decide +kernel
theorem dX11_cell_75 : decode cX11_cell 75 = .ok (.iload_n 1, 1) := by decide +kernel
theorem dX11_cell_76 : decode cX11_cell 76 = .ok (.iaload, 1) := by decide +kernel
theorem dX11_cell_77 : decode cX11_cell 77 = .ok (.ireturn, 1) := by decide +kernel
theorem dX11_cell_78 : decode cX11_cell 78 = .ok (.aload_n 0, 1) := by decide +kernel
theorem dX11_cell_79 : decode cX11_cell 79 = .ok (.getfield 12, 3) := by decide +kernel
theorem dX11_cell_82 : decode cX11_cell 82 = .ok (.iload_n 1, 1) := by decide +kernel
theorem dX11_cell_83 : decode cX11_cell 83 = .ok (.invokevirtual 136, 3) := by decide +kernel
theorem dX11_cell_86 : decode cX11_cell 86 = .ok (.ifCond .eq 7, 3) := by decide +kernel
theorem dX11_cell_89 : decode cX11_cell 89 = .ok (.iconst 1, 1) := by decide +kernel
theorem dX11_cell_90 : decode cX11_cell 90 = .ok (.goto 4, 3) := by decide +kernel
theorem dX11_cell_93 : decode cX11_cell 93 = .ok (.iconst 0, 1) := by decide +kernel
theorem dX11_cell_94 : decode cX11_cell 94 = .ok (.ireturn, 1) := by decide +kernel
theorem dX11_cell_95 : decode cX11_cell 95 = .ok (.aload_n 0, 1) := by decide +kernel
theorem dX11_cell_96 : decode cX11_cell 96 = .ok (.getfield 20, 3) := by decide +kernel
theorem dX11_cell_99 : decode cX11_cell 99 = .ok (.iload_n 1, 1) := by decide +kernel
theorem dX11_cell_100 : decode cX11_cell 100 = .ok (.invokevirtual 139, 3) := by decide +kernel
theorem dX11_cell_103 : decode cX11_cell 103 = .ok (.ireturn, 1) := by decide +kernel
theorem dX11_cell_104 : decode cX11_cell 104 = .ok (.aload_n 0, 1) := by decide +kernel
theorem dX11_cell_105 : decode cX11_cell 105 = .ok (.getfield 92, 3) := by decide +kernel
theorem dX11_cell_108 : decode cX11_cell 108 = .ok (.iload_n 1, 1) := by decide +kernel
theorem dX11_cell_109 : decode cX11_cell 109 = .ok (.invokevirtual 143, 3) := by decide +kernel
theorem dX11_cell_112 : decode cX11_cell 112 = .ok (.ireturn, 1) := by decide +kernel
theorem dX11_cell_113 : decode cX11_cell 113 = .ok (.aload_n 0, 1) := by decide +kernel
theorem dX11_cell_114 : decode cX11_cell 114 = .ok (.getfield 92, 3) := by decide +kernel
theorem dX11_cell_117 : decode cX11_cell 117 = .ok (.iload_n 1, 1) := by decide +kernel
theorem dX11_cell_118 : decode cX11_cell 118 = .ok (.invokevirtual 146, 3) := by decide +kernel
theorem dX11_cell_121 : decode cX11_cell 121 = .ok (.ifCond .eq 7, 3) := by decide +kernel
theorem dX11_cell_124 : decode cX11_cell 124 = .ok (.iconst 1, 1) := by decide +kernel
theorem dX11_cell_125 : decode cX11_cell 125 = .ok (.goto 4, 3) := by decide +kernel
theorem dX11_cell_128 : decode cX11_cell 128 = .ok (.iconst 0, 1) := by decide +kernel
theorem dX11_cell_129 : decode cX11_cell 129 = .ok (.ireturn, 1) := by decide +kernel
theorem dX11_cell_130 : decode cX11_cell 130 = .ok (.aload_n 0, 1) := by decide +kernel
theorem dX11_cell_131 : decode cX11_cell 131 = .ok (.getfield 92, 3) := by decide +kernel
theorem dX11_cell_134 : decode cX11_cell 134 = .ok (.iload_n 1, 1) := by decide +kernel
theorem dX11_cell_135 : decode cX11_cell 135 = .ok (.invokevirtual 149, 3) := by decide +kernel
theorem dX11_cell_138 : decode cX11_cell 138 = .ok (.ireturn, 1) := by decide +kernel
theorem dX11_cell_139 : decode cX11_cell 139 = .ok (.iconst (-1), 1) := by decide +kernel
theorem dX11_cell_140 : decode cX11_cell 140 = .ok (.ireturn, 1) := by decide +kernel
set_option maxRecDepth 100000 in
theorem okm_X11_cell : okL RX11 cX11_cell 3 (some .int) "cell" pcX11_cell opX11_cell pcX11_cell := by
  unfold opX11_cell
  refine okL_cons (ok_iload_n rfl dX11_cell_0) rfl ?_
  refine okL_cons (ok_invS (M' := 159) kw_454 kw_90 kw_79 kw_91 rfl (by decide +kernel) dX11_cell_1) rfl ?_
  refine okL_cons (ok_if_ne rfl dX11_cell_4) rfl ?_
  refine okL_cons (ok_iconst rfl dX11_cell_7) rfl ?_
  refine okL_cons (ok_ireturn rfl dX11_cell_8) rfl ?_
  refine okL_cons (ok_aload_n rfl dX11_cell_9) rfl ?_
  refine okL_cons (ok_getP kw_436 cf_X11 rfl rfl (by decide) dX11_cell_10) rfl ?_
  refine okL_cons (ok_aload_n rfl dX11_cell_13) rfl ?_
  refine okL_cons (ok_getP kw_395 cf_X11 rfl rfl (by decide) dX11_cell_14) rfl ?_
  refine okL_cons (ok_aload_n rfl dX11_cell_17) rfl ?_
  refine okL_cons (ok_getP kw_394 cf_X11 rfl rfl (by decide) dX11_cell_18) rfl ?_
  refine okL_cons (ok_getNI 45 cf_X1 rfl rfl rfl (by decide) dX11_cell_21) rfl ?_
  refine okL_cons (ok_invV (M' := 57) kw_455 kw_278 kw_279 kw_252 kw_280 cf_X6 rfl (by decide +kernel) dX11_cell_24) rfl ?_
  refine okL_cons (ok_iload_n rfl dX11_cell_27) rfl ?_
  refine okL_cons (ok_sw rfl rfl (sw_all rfl) dX11_cell_28) rfl ?_
  refine okL_cons (ok_aload_n rfl dX11_cell_68) rfl ?_
  refine okL_cons (ok_getP kw_395 cf_X11 rfl rfl (by decide) dX11_cell_69) rfl ?_
  refine okL_cons (ok_getNP 6 cf_X2 rfl rfl rfl (by decide) dX11_cell_72) rfl ?_
  refine okL_cons (ok_iload_n rfl dX11_cell_75) rfl ?_
  refine okL_cons (ok_iaload dX11_cell_76) rfl ?_
  refine okL_cons (ok_ireturn rfl dX11_cell_77) rfl ?_
  refine okL_cons (ok_aload_n rfl dX11_cell_78) rfl ?_
  refine okL_cons (ok_getP kw_394 cf_X11 rfl rfl (by decide) dX11_cell_79) rfl ?_
  refine okL_cons (ok_iload_n rfl dX11_cell_82) rfl ?_
  refine okL_cons (ok_invV (M' := 14) kw_456 kw_256 kw_257 kw_258 kw_259 cf_X1 rfl (by decide +kernel) dX11_cell_83) rfl ?_
  refine okL_cons (ok_if_eq rfl dX11_cell_86) rfl ?_
  refine okL_cons (ok_iconst rfl dX11_cell_89) rfl ?_
  refine okL_cons (ok_goto rfl dX11_cell_90) rfl ?_
  refine okL_cons (ok_iconst rfl dX11_cell_93) rfl ?_
  refine okL_cons (ok_ireturn rfl dX11_cell_94) rfl ?_
  refine okL_cons (ok_aload_n rfl dX11_cell_95) rfl ?_
  refine okL_cons (ok_getP kw_395 cf_X11 rfl rfl (by decide) dX11_cell_96) rfl ?_
  refine okL_cons (ok_iload_n rfl dX11_cell_99) rfl ?_
  refine okL_cons (ok_invV (M' := 19) kw_457 kw_95 kw_96 kw_47 kw_97 cf_X2 rfl (by decide +kernel) dX11_cell_100) rfl ?_
  refine okL_cons (ok_ireturn rfl dX11_cell_103) rfl ?_
  refine okL_cons (ok_aload_n rfl dX11_cell_104) rfl ?_
  refine okL_cons (ok_getP kw_436 cf_X11 rfl rfl (by decide) dX11_cell_105) rfl ?_
  refine okL_cons (ok_iload_n rfl dX11_cell_108) rfl ?_
  refine okL_cons (ok_invV (M' := 58) kw_458 kw_459 kw_460 kw_252 kw_461 cf_X6 rfl (by decide +kernel) dX11_cell_109) rfl ?_
  refine okL_cons (ok_ireturn rfl dX11_cell_112) rfl ?_
  refine okL_cons (ok_aload_n rfl dX11_cell_113) rfl ?_
  refine okL_cons (ok_getP kw_436 cf_X11 rfl rfl (by decide) dX11_cell_114) rfl ?_
  refine okL_cons (ok_iload_n rfl dX11_cell_117) rfl ?_
  refine okL_cons (ok_invV (M' := 59) kw_462 kw_463 kw_464 kw_252 kw_465 cf_X6 rfl (by decide +kernel) dX11_cell_118) rfl ?_
  refine okL_cons (ok_if_eq rfl dX11_cell_121) rfl ?_
  refine okL_cons (ok_iconst rfl dX11_cell_124) rfl ?_
  refine okL_cons (ok_goto rfl dX11_cell_125) rfl ?_
  refine okL_cons (ok_iconst rfl dX11_cell_128) rfl ?_
  refine okL_cons (ok_ireturn rfl dX11_cell_129) rfl ?_
  refine okL_cons (ok_aload_n rfl dX11_cell_130) rfl ?_
  refine okL_cons (ok_getP kw_436 cf_X11 rfl rfl (by decide) dX11_cell_131) rfl ?_
  refine okL_cons (ok_iload_n rfl dX11_cell_134) rfl ?_
  refine okL_cons (ok_invV (M' := 60) kw_466 kw_274 kw_275 kw_252 kw_276 cf_X6 rfl (by decide +kernel) dX11_cell_135) rfl ?_
  refine okL_cons (ok_ireturn rfl dX11_cell_138) rfl ?_
  refine okL_cons (ok_iconst rfl dX11_cell_139) rfl ?_
  exact okL_one (ok_ireturn rfl dX11_cell_140)
theorem dX11_door_0 : decode cX11_door 0 = .ok (.iload_n 1, 1) := by decide +kernel
theorem dX11_door_1 : decode cX11_door 1 = .ok (.invokestatic 121, 3) := by decide +kernel
theorem dX11_door_4 : decode cX11_door 4 = .ok (.ifCond .eq 12, 3) := by decide +kernel
theorem dX11_door_7 : decode cX11_door 7 = .ok (.iload_n 2, 1) := by decide +kernel
theorem dX11_door_8 : decode cX11_door 8 = .ok (.ifCond .lt 8, 3) := by decide +kernel
theorem dX11_door_11 : decode cX11_door 11 = .ok (.iload_n 2, 1) := by decide +kernel
theorem dX11_door_12 : decode cX11_door 12 = .ok (.iconst 1, 1) := by decide +kernel
theorem dX11_door_13 : decode cX11_door 13 = .ok (.if_icmp .le 12, 3) := by decide +kernel
theorem dX11_door_16 : decode cX11_door 16 = .ok (.aload_n 0, 1) := by decide +kernel
theorem dX11_door_17 : decode cX11_door 17 = .ok (.getfield 117, 3) := by decide +kernel
theorem dX11_door_20 : decode cX11_door 20 = .ok (.iconst (-1), 1) := by decide +kernel
theorem dX11_door_21 : decode cX11_door 21 = .ok (.invokevirtual 152, 3) := by decide +kernel
theorem dX11_door_24 : decode cX11_door 24 = .ok (.ireturn, 1) := by decide +kernel
theorem dX11_door_25 : decode cX11_door 25 = .ok (.aload_n 0, 1) := by decide +kernel
theorem dX11_door_26 : decode cX11_door 26 = .ok (.getfield 12, 3) := by decide +kernel
theorem dX11_door_29 : decode cX11_door 29 = .ok (.iload_n 1, 1) := by decide +kernel
theorem dX11_door_30 : decode cX11_door 30 = .ok (.invokevirtual 136, 3) := by decide +kernel
theorem dX11_door_33 : decode cX11_door 33 = .ok (.ifCond .eq 7, 3) := by decide +kernel
theorem dX11_door_36 : decode cX11_door 36 = .ok (.iconst 1, 1) := by decide +kernel
theorem dX11_door_37 : decode cX11_door 37 = .ok (.goto 4, 3) := by decide +kernel
theorem dX11_door_40 : decode cX11_door 40 = .ok (.iconst 0, 1) := by decide +kernel
theorem dX11_door_41 : decode cX11_door 41 = .ok (.istore_n 3, 1) := by decide +kernel
theorem dX11_door_42 : decode cX11_door 42 = .ok (.aload_n 0, 1) := by decide +kernel
theorem dX11_door_43 : decode cX11_door 43 = .ok (.getfield 12, 3) := by decide +kernel
theorem dX11_door_46 : decode cX11_door 46 = .ok (.iload_n 1, 1) := by decide +kernel
theorem dX11_door_47 : decode cX11_door 47 = .ok (.iload_n 2, 1) := by decide +kernel
theorem dX11_door_48 : decode cX11_door 48 = .ok (.iconst 1, 1) := by decide +kernel
theorem dX11_door_49 : decode cX11_door 49 = .ok (.if_icmp .ne 7, 3) := by decide +kernel
theorem dX11_door_52 : decode cX11_door 52 = .ok (.iconst 1, 1) := by decide +kernel
theorem dX11_door_53 : decode cX11_door 53 = .ok (.goto 4, 3) := by decide +kernel
theorem dX11_door_56 : decode cX11_door 56 = .ok (.iconst 0, 1) := by decide +kernel
theorem dX11_door_57 : decode cX11_door 57 = .ok (.invokevirtual 155, 3) := by decide +kernel
theorem dX11_door_60 : decode cX11_door 60 = .ok (.aload_n 0, 1) := by decide +kernel
theorem dX11_door_61 : decode cX11_door 61 = .ok (.getfield 117, 3) := by decide +kernel
theorem dX11_door_64 : decode cX11_door 64 = .ok (.iload_n 3, 1) := by decide +kernel
theorem dX11_door_65 : decode cX11_door 65 = .ok (.invokevirtual 159, 3) := by decide +kernel
theorem dX11_door_68 : decode cX11_door 68 = .ok (.ireturn, 1) := by decide +kernel
set_option maxRecDepth 100000 in
theorem okm_X11_door : okL RX11 cX11_door 4 (some .int) "door" pcX11_door opX11_door pcX11_door := by
  unfold opX11_door
  refine okL_cons (ok_iload_n rfl dX11_door_0) rfl ?_
  refine okL_cons (ok_invS (M' := 159) kw_454 kw_90 kw_79 kw_91 rfl (by decide +kernel) dX11_door_1) rfl ?_
  refine okL_cons (ok_if_eq rfl dX11_door_4) rfl ?_
  refine okL_cons (ok_iload_n rfl dX11_door_7) rfl ?_
  refine okL_cons (ok_if_lt rfl dX11_door_8) rfl ?_
  refine okL_cons (ok_iload_n rfl dX11_door_11) rfl ?_
  refine okL_cons (ok_iconst rfl dX11_door_12) rfl ?_
  refine okL_cons (ok_icmp_le rfl dX11_door_13) rfl ?_
  refine okL_cons (ok_aload_n rfl dX11_door_16) rfl ?_
  refine okL_cons (ok_getP kw_453 cf_X11 rfl rfl (by decide) dX11_door_17) rfl ?_
  refine okL_cons (ok_iconst rfl dX11_door_20) rfl ?_
  refine okL_cons (ok_invV (M' := 25) kw_467 kw_108 kw_109 kw_110 kw_111 cf_X3 rfl (by decide +kernel) dX11_door_21) rfl ?_
  refine okL_cons (ok_ireturn rfl dX11_door_24) rfl ?_
  refine okL_cons (ok_aload_n rfl dX11_door_25) rfl ?_
  refine okL_cons (ok_getP kw_394 cf_X11 rfl rfl (by decide) dX11_door_26) rfl ?_
  refine okL_cons (ok_iload_n rfl dX11_door_29) rfl ?_
  refine okL_cons (ok_invV (M' := 14) kw_456 kw_256 kw_257 kw_258 kw_259 cf_X1 rfl (by decide +kernel) dX11_door_30) rfl ?_
  refine okL_cons (ok_if_eq rfl dX11_door_33) rfl ?_
  refine okL_cons (ok_iconst rfl dX11_door_36) rfl ?_
  refine okL_cons (ok_goto rfl dX11_door_37) rfl ?_
  refine okL_cons (ok_iconst rfl dX11_door_40) rfl ?_
  refine okL_cons (ok_istore_n rfl dX11_door_41) rfl ?_
  refine okL_cons (ok_aload_n rfl dX11_door_42) rfl ?_
  refine okL_cons (ok_getP kw_394 cf_X11 rfl rfl (by decide) dX11_door_43) rfl ?_
  refine okL_cons (ok_iload_n rfl dX11_door_46) rfl ?_
  refine okL_cons (ok_iload_n rfl dX11_door_47) rfl ?_
  refine okL_cons (ok_iconst rfl dX11_door_48) rfl ?_
  refine okL_cons (ok_icmp_ne rfl dX11_door_49) rfl ?_
  refine okL_cons (ok_iconst rfl dX11_door_52) rfl ?_
  refine okL_cons (ok_goto rfl dX11_door_53) rfl ?_
  refine okL_cons (ok_iconst rfl dX11_door_56) rfl ?_
  refine okL_cons (ok_invV (M' := 15) kw_468 kw_469 kw_470 kw_258 kw_471 cf_X1 rfl (by decide +kernel) dX11_door_57) rfl ?_
  refine okL_cons (ok_aload_n rfl dX11_door_60) rfl ?_
  refine okL_cons (ok_getP kw_453 cf_X11 rfl rfl (by decide) dX11_door_61) rfl ?_
  refine okL_cons (ok_iload_n rfl dX11_door_64) rfl ?_
  refine okL_cons (ok_invV (M' := 26) kw_472 kw_113 kw_114 kw_110 kw_115 cf_X3 rfl (by decide +kernel) dX11_door_65) rfl ?_
  exact okL_one (ok_ireturn rfl dX11_door_68)
theorem dX11_letter_0 : decode cX11_letter 0 = .ok (.aload_n 0, 1) := by decide +kernel
theorem dX11_letter_1 : decode cX11_letter 1 = .ok (.getfield 20, 3) := by decide +kernel
theorem dX11_letter_4 : decode cX11_letter 4 = .ok (.iload_n 1, 1) := by decide +kernel
theorem dX11_letter_5 : decode cX11_letter 5 = .ok (.iload_n 2, 1) := by decide +kernel
theorem dX11_letter_6 : decode cX11_letter 6 = .ok (.invokevirtual 162, 3) := by decide +kernel
theorem dX11_letter_9 : decode cX11_letter 9 = .ok (.ireturn, 1) := by decide +kernel
set_option maxRecDepth 100000 in
theorem okm_X11_letter : okL RX11 cX11_letter 3 (some .int) "letter" pcX11_letter opX11_letter pcX11_letter := by
  unfold opX11_letter
  refine okL_cons (ok_aload_n rfl dX11_letter_0) rfl ?_
  refine okL_cons (ok_getP kw_395 cf_X11 rfl rfl (by decide) dX11_letter_1) rfl ?_
  refine okL_cons (ok_iload_n rfl dX11_letter_4) rfl ?_
  refine okL_cons (ok_iload_n rfl dX11_letter_5) rfl ?_
  refine okL_cons (ok_invV (M' := 18) kw_473 kw_474 kw_475 kw_47 kw_476 cf_X2 rfl (by decide +kernel) dX11_letter_6) rfl ?_
  exact okL_one (ok_ireturn rfl dX11_letter_9)
theorem dX11_terms_0 : decode cX11_terms 0 = .ok (.iload_n 1, 1) := by decide +kernel
theorem dX11_terms_1 : decode cX11_terms 1 = .ok (.ifCond .ne 9, 3) := by decide +kernel
theorem dX11_terms_4 : decode cX11_terms 4 = .ok (.sipush 999, 3) := by decide +kernel
theorem dX11_terms_7 : decode cX11_terms 7 = .ok (.goto 15, 3) := by decide +kernel
theorem dX11_terms_10 : decode cX11_terms 10 = .ok (.iload_n 1, 1) := by decide +kernel
theorem dX11_terms_11 : decode cX11_terms 11 = .ok (.iconst 1, 1) := by decide +kernel
theorem dX11_terms_12 : decode cX11_terms 12 = .ok (.if_icmp .ne 8, 3) := by decide +kernel
theorem dX11_terms_15 : decode cX11_terms 15 = .ok (.bipush 10, 2) := by decide +kernel
theorem dX11_terms_17 : decode cX11_terms 17 = .ok (.goto 5, 3) := by decide +kernel
theorem dX11_terms_20 : decode cX11_terms 20 = .ok (.bipush 9, 2) := by decide +kernel
theorem dX11_terms_22 : decode cX11_terms 22 = .ok (.istore_n 3, 1) := by decide +kernel
theorem dX11_terms_23 : decode cX11_terms 23 = .ok (.iload_n 1, 1) := by decide +kernel
theorem dX11_terms_24 : decode cX11_terms 24 = .ok (.ifCond .lt 17, 3) := by decide +kernel
theorem dX11_terms_27 : decode cX11_terms 27 = .ok (.iload_n 1, 1) := by decide +kernel
theorem dX11_terms_28 : decode cX11_terms 28 = .ok (.iconst 2, 1) := by decide +kernel
theorem dX11_terms_29 : decode cX11_terms 29 = .ok (.if_icmp .gt 12, 3) := by decide +kernel
theorem dX11_terms_32 : decode cX11_terms 32 = .ok (.iload_n 2, 1) := by decide +kernel
theorem dX11_terms_33 : decode cX11_terms 33 = .ok (.ifCond .lt 8, 3) := by decide +kernel
theorem dX11_terms_36 : decode cX11_terms 36 = .ok (.iload_n 2, 1) := by decide +kernel
theorem dX11_terms_37 : decode cX11_terms 37 = .ok (.iload_n 3, 1) := by decide +kernel
theorem dX11_terms_38 : decode cX11_terms 38 = .ok (.if_icmp .le 12, 3) := by decide +kernel
theorem dX11_terms_41 : decode cX11_terms 41 = .ok (.aload_n 0, 1) := by decide +kernel
theorem dX11_terms_42 : decode cX11_terms 42 = .ok (.getfield 117, 3) := by decide +kernel
theorem dX11_terms_45 : decode cX11_terms 45 = .ok (.iconst (-1), 1) := by decide +kernel
theorem dX11_terms_46 : decode cX11_terms 46 = .ok (.invokevirtual 152, 3) := by decide +kernel
theorem dX11_terms_49 : decode cX11_terms 49 = .ok (.ireturn, 1) := by decide +kernel
theorem dX11_terms_50 : decode cX11_terms 50 = .ok (.aload_n 0, 1) := by decide +kernel
theorem dX11_terms_51 : decode cX11_terms 51 = .ok (.iload_n 1, 1) := by decide +kernel
theorem dX11_terms_52 : decode cX11_terms 52 = .ok (.invokevirtual 166, 3) := by decide +kernel
theorem dX11_terms_55 : decode cX11_terms 55 = .ok (.istore 4, 2) := by decide +kernel
theorem dX11_terms_57 : decode cX11_terms 57 = .ok (.iload_n 1, 1) := by decide +kernel
theorem dX11_terms_58 : decode cX11_terms 58 = .ok (.ifCond .ne 14, 3) := by decide +kernel
theorem dX11_terms_61 : decode cX11_terms 61 = .ok (.aload_n 0, 1) := by decide +kernel
theorem dX11_terms_62 : decode cX11_terms 62 = .ok (.getfield 20, 3) := by decide +kernel
theorem dX11_terms_65 : decode cX11_terms 65 = .ok (.iload_n 2, 1) := by decide +kernel
theorem dX11_terms_66 : decode cX11_terms 66 = .ok (.putfield 169, 3) := by decide +kernel
theorem dX11_terms_69 : decode cX11_terms 69 = .ok (.goto 27, 3) := by decide +kernel
theorem dX11_terms_72 : decode cX11_terms 72 = .ok (.iload_n 1, 1) := by decide +kernel
theorem dX11_terms_73 : decode cX11_terms 73 = .ok (.iconst 1, 1) := by decide +kernel
theorem dX11_terms_74 : decode cX11_terms 74 = .ok (.if_icmp .ne 14, 3) := by decide +kernel
theorem dX11_terms_77 : decode cX11_terms 77 = .ok (.aload_n 0, 1) := by decide +kernel
theorem dX11_terms_78 : decode cX11_terms 78 = .ok (.getfield 12, 3) := by decide +kernel
theorem dX11_terms_81 : decode cX11_terms 81 = .ok (.iload_n 2, 1) := by decide +kernel
theorem dX11_terms_82 : decode cX11_terms 82 = .ok (.putfield 172, 3) := by decide +kernel
theorem dX11_terms_85 : decode cX11_terms 85 = .ok (.goto 11, 3) := by decide +kernel
theorem dX11_terms_88 : decode cX11_terms 88 = .ok (.aload_n 0, 1) := by decide +kernel
theorem dX11_terms_89 : decode cX11_terms 89 = .ok (.getfield 12, 3) := by decide +kernel
theorem dX11_terms_92 : decode cX11_terms 92 = .ok (.iload_n 2, 1) := by decide +kernel
theorem dX11_terms_93 : decode cX11_terms 93 = .ok (.putfield 175, 3) := by decide +kernel
theorem dX11_terms_96 : decode cX11_terms 96 = .ok (.aload_n 0, 1) := by decide +kernel
theorem dX11_terms_97 : decode cX11_terms 97 = .ok (.getfield 34, 3) := by decide +kernel
theorem dX11_terms_100 : decode cX11_terms 100 = .ok (.invokevirtual 178, 3) := by decide +kernel
theorem dX11_terms_103 : decode cX11_terms 103 = .ok (.aload_n 0, 1) := by decide +kernel
theorem dX11_terms_104 : decode cX11_terms 104 = .ok (.getfield 117, 3) := by decide +kernel
theorem dX11_terms_107 : decode cX11_terms 107 = .ok (.iload 4, 2) := by decide +kernel
theorem dX11_terms_109 : decode cX11_terms 109 = .ok (.invokevirtual 159, 3) := by decide +kernel
theorem dX11_terms_112 : decode cX11_terms 112 = .ok (.ireturn, 1) := by decide +kernel
set_option maxRecDepth 100000 in
theorem okm_X11_terms : okL RX11 cX11_terms 5 (some .int) "terms" pcX11_terms opX11_terms pcX11_terms := by
  unfold opX11_terms
  refine okL_cons (ok_iload_n rfl dX11_terms_0) rfl ?_
  refine okL_cons (ok_if_ne rfl dX11_terms_1) rfl ?_
  refine okL_cons (ok_sipush rfl dX11_terms_4) rfl ?_
  refine okL_cons (ok_goto rfl dX11_terms_7) rfl ?_
  refine okL_cons (ok_iload_n rfl dX11_terms_10) rfl ?_
  refine okL_cons (ok_iconst rfl dX11_terms_11) rfl ?_
  refine okL_cons (ok_icmp_ne rfl dX11_terms_12) rfl ?_
  refine okL_cons (ok_bipush rfl dX11_terms_15) rfl ?_
  refine okL_cons (ok_goto rfl dX11_terms_17) rfl ?_
  refine okL_cons (ok_bipush rfl dX11_terms_20) rfl ?_
  refine okL_cons (ok_istore_n rfl dX11_terms_22) rfl ?_
  refine okL_cons (ok_iload_n rfl dX11_terms_23) rfl ?_
  refine okL_cons (ok_if_lt rfl dX11_terms_24) rfl ?_
  refine okL_cons (ok_iload_n rfl dX11_terms_27) rfl ?_
  refine okL_cons (ok_iconst rfl dX11_terms_28) rfl ?_
  refine okL_cons (ok_icmp_gt rfl dX11_terms_29) rfl ?_
  refine okL_cons (ok_iload_n rfl dX11_terms_32) rfl ?_
  refine okL_cons (ok_if_lt rfl dX11_terms_33) rfl ?_
  refine okL_cons (ok_iload_n rfl dX11_terms_36) rfl ?_
  refine okL_cons (ok_iload_n rfl dX11_terms_37) rfl ?_
  refine okL_cons (ok_icmp_le rfl dX11_terms_38) rfl ?_
  refine okL_cons (ok_aload_n rfl dX11_terms_41) rfl ?_
  refine okL_cons (ok_getP kw_453 cf_X11 rfl rfl (by decide) dX11_terms_42) rfl ?_
  refine okL_cons (ok_iconst rfl dX11_terms_45) rfl ?_
  refine okL_cons (ok_invV (M' := 25) kw_467 kw_108 kw_109 kw_110 kw_111 cf_X3 rfl (by decide +kernel) dX11_terms_46) rfl ?_
  refine okL_cons (ok_ireturn rfl dX11_terms_49) rfl ?_
  refine okL_cons (ok_aload_n rfl dX11_terms_50) rfl ?_
  refine okL_cons (ok_iload_n rfl dX11_terms_51) rfl ?_
  refine okL_cons (ok_invV (M' := 108) kw_477 kw_478 kw_479 kw_79 kw_480 cf_X11 rfl (by decide +kernel) dX11_terms_52) rfl ?_
  refine okL_cons (ok_istore dX11_terms_55) rfl ?_
  refine okL_cons (ok_iload_n rfl dX11_terms_57) rfl ?_
  refine okL_cons (ok_if_ne rfl dX11_terms_58) rfl ?_
  refine okL_cons (ok_aload_n rfl dX11_terms_61) rfl ?_
  refine okL_cons (ok_getP kw_395 cf_X11 rfl rfl (by decide) dX11_terms_62) rfl ?_
  refine okL_cons (ok_iload_n rfl dX11_terms_65) rfl ?_
  refine okL_cons (ok_putNI 8 cf_X2 rfl rfl rfl (by decide) rfl dX11_terms_66) rfl ?_
  refine okL_cons (ok_goto rfl dX11_terms_69) rfl ?_
  refine okL_cons (ok_iload_n rfl dX11_terms_72) rfl ?_
  refine okL_cons (ok_iconst rfl dX11_terms_73) rfl ?_
  refine okL_cons (ok_icmp_ne rfl dX11_terms_74) rfl ?_
  refine okL_cons (ok_aload_n rfl dX11_terms_77) rfl ?_
  refine okL_cons (ok_getP kw_394 cf_X11 rfl rfl (by decide) dX11_terms_78) rfl ?_
  refine okL_cons (ok_iload_n rfl dX11_terms_81) rfl ?_
  refine okL_cons (ok_putNI 31 cf_X1 rfl rfl rfl (by decide) rfl dX11_terms_82) rfl ?_
  refine okL_cons (ok_goto rfl dX11_terms_85) rfl ?_
  refine okL_cons (ok_aload_n rfl dX11_terms_88) rfl ?_
  refine okL_cons (ok_getP kw_394 cf_X11 rfl rfl (by decide) dX11_terms_89) rfl ?_
  refine okL_cons (ok_iload_n rfl dX11_terms_92) rfl ?_
  refine okL_cons (ok_putNI 33 cf_X1 rfl rfl rfl (by decide) rfl dX11_terms_93) rfl ?_
  refine okL_cons (ok_aload_n rfl dX11_terms_96) rfl ?_
  refine okL_cons (ok_getP kw_405 cf_X11 rfl rfl (by decide) dX11_terms_97) rfl ?_
  refine okL_cons (ok_invV (M' := 30) kw_481 kw_482 kw_483 kw_401 kw_484 cf_X4 rfl (by decide +kernel) dX11_terms_100) rfl ?_
  refine okL_cons (ok_aload_n rfl dX11_terms_103) rfl ?_
  refine okL_cons (ok_getP kw_453 cf_X11 rfl rfl (by decide) dX11_terms_104) rfl ?_
  refine okL_cons (ok_iload dX11_terms_107) rfl ?_
  refine okL_cons (ok_invV (M' := 26) kw_472 kw_113 kw_114 kw_110 kw_115 cf_X3 rfl (by decide +kernel) dX11_terms_109) rfl ?_
  exact okL_one (ok_ireturn rfl dX11_terms_112)
theorem dX11_termNow_0 : decode cX11_termNow 0 = .ok (.iload_n 1, 1) := by decide +kernel
theorem dX11_termNow_1 : decode cX11_termNow 1 = .ok (.ifCond .ne 13, 3) := by decide +kernel
theorem dX11_termNow_4 : decode cX11_termNow 4 = .ok (.aload_n 0, 1) := by decide +kernel
theorem dX11_termNow_5 : decode cX11_termNow 5 = .ok (.getfield 20, 3) := by decide +kernel
theorem dX11_termNow_8 : decode cX11_termNow 8 = .ok (.getfield 169, 3) := by decide +kernel
theorem dX11_termNow_11 : decode cX11_termNow 11 = .ok (.goto 25, 3) := by decide +kernel
theorem dX11_termNow_14 : decode cX11_termNow 14 = .ok (.iload_n 1, 1) := by decide +kernel
theorem dX11_termNow_15 : decode cX11_termNow 15 = .ok (.iconst 1, 1) := by decide +kernel
theorem dX11_termNow_16 : decode cX11_termNow 16 = .ok (.if_icmp .ne 13, 3) := by decide +kernel
theorem dX11_termNow_19 : decode cX11_termNow 19 = .ok (.aload_n 0, 1) := by decide +kernel
theorem dX11_termNow_20 : decode cX11_termNow 20 = .ok (.getfield 12, 3) := by decide +kernel
theorem dX11_termNow_23 : decode cX11_termNow 23 = .ok (.getfield 172, 3) := by decide +kernel
theorem dX11_termNow_26 : decode cX11_termNow 26 = .ok (.goto 10, 3) := by decide +kernel
theorem dX11_termNow_29 : decode cX11_termNow 29 = .ok (.aload_n 0, 1) := by decide +kernel
theorem dX11_termNow_30 : decode cX11_termNow 30 = .ok (.getfield 12, 3) := by decide +kernel
theorem dX11_termNow_33 : decode cX11_termNow 33 = .ok (.getfield 175, 3) := by decide +kernel
theorem dX11_termNow_36 : decode cX11_termNow 36 = .ok (.ireturn, 1) := by decide +kernel
set_option maxRecDepth 100000 in
theorem okm_X11_termNow : okL RX11 cX11_termNow 2 (some .int) "termNow" pcX11_termNow opX11_termNow pcX11_termNow := by
  unfold opX11_termNow
  refine okL_cons (ok_iload_n rfl dX11_termNow_0) rfl ?_
  refine okL_cons (ok_if_ne rfl dX11_termNow_1) rfl ?_
  refine okL_cons (ok_aload_n rfl dX11_termNow_4) rfl ?_
  refine okL_cons (ok_getP kw_395 cf_X11 rfl rfl (by decide) dX11_termNow_5) rfl ?_
  refine okL_cons (ok_getNI 8 cf_X2 rfl rfl rfl (by decide) dX11_termNow_8) rfl ?_
  refine okL_cons (ok_goto rfl dX11_termNow_11) rfl ?_
  refine okL_cons (ok_iload_n rfl dX11_termNow_14) rfl ?_
  refine okL_cons (ok_iconst rfl dX11_termNow_15) rfl ?_
  refine okL_cons (ok_icmp_ne rfl dX11_termNow_16) rfl ?_
  refine okL_cons (ok_aload_n rfl dX11_termNow_19) rfl ?_
  refine okL_cons (ok_getP kw_394 cf_X11 rfl rfl (by decide) dX11_termNow_20) rfl ?_
  refine okL_cons (ok_getNI 31 cf_X1 rfl rfl rfl (by decide) dX11_termNow_23) rfl ?_
  refine okL_cons (ok_goto rfl dX11_termNow_26) rfl ?_
  refine okL_cons (ok_aload_n rfl dX11_termNow_29) rfl ?_
  refine okL_cons (ok_getP kw_394 cf_X11 rfl rfl (by decide) dX11_termNow_30) rfl ?_
  refine okL_cons (ok_getNI 33 cf_X1 rfl rfl rfl (by decide) dX11_termNow_33) rfl ?_
  exact okL_one (ok_ireturn rfl dX11_termNow_36)
theorem dX11_feed_0 : decode cX11_feed 0 = .ok (.aload_n 0, 1) := by decide +kernel
theorem dX11_feed_1 : decode cX11_feed 1 = .ok (.getfield 56, 3) := by decide +kernel
theorem dX11_feed_4 : decode cX11_feed 4 = .ok (.invokevirtual 181, 3) := by decide +kernel
theorem dX11_feed_7 : decode cX11_feed 7 = .ok (.ifCond .ne 5, 3) := by decide +kernel
theorem dX11_feed_10 : decode cX11_feed 10 = .ok (.iconst (-1), 1) := by decide +kernel
theorem dX11_feed_11 : decode cX11_feed 11 = .ok (.ireturn, 1) := by decide +kernel
theorem dX11_feed_12 : decode cX11_feed 12 = .ok (.aload_n 0, 1) := by decide +kernel
theorem dX11_feed_13 : decode cX11_feed 13 = .ok (.getfield 56, 3) := by decide +kernel
theorem dX11_feed_16 : decode cX11_feed 16 = .ok (.iload_n 1, 1) := by decide +kernel
theorem dX11_feed_17 : decode cX11_feed 17 = .ok (.invokevirtual 185, 3) := by decide +kernel
theorem dX11_feed_20 : decode cX11_feed 20 = .ok (.aload_n 0, 1) := by decide +kernel
theorem dX11_feed_21 : decode cX11_feed 21 = .ok (.getfield 56, 3) := by decide +kernel
theorem dX11_feed_24 : decode cX11_feed 24 = .ok (.iload_n 2, 1) := by decide +kernel
theorem dX11_feed_25 : decode cX11_feed 25 = .ok (.invokevirtual 185, 3) := by decide +kernel
theorem dX11_feed_28 : decode cX11_feed 28 = .ok (.aload_n 0, 1) := by decide +kernel
theorem dX11_feed_29 : decode cX11_feed 29 = .ok (.getfield 56, 3) := by decide +kernel
theorem dX11_feed_32 : decode cX11_feed 32 = .ok (.iload_n 3, 1) := by decide +kernel
theorem dX11_feed_33 : decode cX11_feed 33 = .ok (.invokevirtual 185, 3) := by decide +kernel
theorem dX11_feed_36 : decode cX11_feed 36 = .ok (.aload_n 0, 1) := by decide +kernel
theorem dX11_feed_37 : decode cX11_feed 37 = .ok (.getfield 56, 3) := by decide +kernel
theorem dX11_feed_40 : decode cX11_feed 40 = .ok (.iload 4, 2) := by decide +kernel
theorem dX11_feed_42 : decode cX11_feed 42 = .ok (.invokevirtual 185, 3) := by decide +kernel
theorem dX11_feed_45 : decode cX11_feed 45 = .ok (.aload_n 0, 1) := by decide +kernel
theorem dX11_feed_46 : decode cX11_feed 46 = .ok (.getfield 56, 3) := by decide +kernel
theorem dX11_feed_49 : decode cX11_feed 49 = .ok (.iload 5, 2) := by decide +kernel
theorem dX11_feed_51 : decode cX11_feed 51 = .ok (.invokevirtual 185, 3) := by decide +kernel
theorem dX11_feed_54 : decode cX11_feed 54 = .ok (.aload_n 0, 1) := by decide +kernel
theorem dX11_feed_55 : decode cX11_feed 55 = .ok (.getfield 56, 3) := by decide +kernel
theorem dX11_feed_58 : decode cX11_feed 58 = .ok (.getfield 189, 3) := by decide +kernel
theorem dX11_feed_61 : decode cX11_feed 61 = .ok (.ireturn, 1) := by decide +kernel
set_option maxRecDepth 100000 in
theorem okm_X11_feed : okL RX11 cX11_feed 6 (some .int) "feed" pcX11_feed opX11_feed pcX11_feed := by
  unfold opX11_feed
  refine okL_cons (ok_aload_n rfl dX11_feed_0) rfl ?_
  refine okL_cons (ok_getP kw_416 cf_X11 rfl rfl (by decide) dX11_feed_1) rfl ?_
  refine okL_cons (ok_invV (M' := 79) kw_485 kw_486 kw_487 kw_140 kw_488 cf_X8 rfl (by decide +kernel) dX11_feed_4) rfl ?_
  refine okL_cons (ok_if_ne rfl dX11_feed_7) rfl ?_
  refine okL_cons (ok_iconst rfl dX11_feed_10) rfl ?_
  refine okL_cons (ok_ireturn rfl dX11_feed_11) rfl ?_
  refine okL_cons (ok_aload_n rfl dX11_feed_12) rfl ?_
  refine okL_cons (ok_getP kw_416 cf_X11 rfl rfl (by decide) dX11_feed_13) rfl ?_
  refine okL_cons (ok_iload_n rfl dX11_feed_16) rfl ?_
  refine okL_cons (ok_invV (M' := 80) kw_489 kw_490 kw_491 kw_140 kw_492 cf_X8 rfl (by decide +kernel) dX11_feed_17) rfl ?_
  refine okL_cons (ok_aload_n rfl dX11_feed_20) rfl ?_
  refine okL_cons (ok_getP kw_416 cf_X11 rfl rfl (by decide) dX11_feed_21) rfl ?_
  refine okL_cons (ok_iload_n rfl dX11_feed_24) rfl ?_
  refine okL_cons (ok_invV (M' := 80) kw_489 kw_490 kw_491 kw_140 kw_492 cf_X8 rfl (by decide +kernel) dX11_feed_25) rfl ?_
  refine okL_cons (ok_aload_n rfl dX11_feed_28) rfl ?_
  refine okL_cons (ok_getP kw_416 cf_X11 rfl rfl (by decide) dX11_feed_29) rfl ?_
  refine okL_cons (ok_iload_n rfl dX11_feed_32) rfl ?_
  refine okL_cons (ok_invV (M' := 80) kw_489 kw_490 kw_491 kw_140 kw_492 cf_X8 rfl (by decide +kernel) dX11_feed_33) rfl ?_
  refine okL_cons (ok_aload_n rfl dX11_feed_36) rfl ?_
  refine okL_cons (ok_getP kw_416 cf_X11 rfl rfl (by decide) dX11_feed_37) rfl ?_
  refine okL_cons (ok_iload dX11_feed_40) rfl ?_
  refine okL_cons (ok_invV (M' := 80) kw_489 kw_490 kw_491 kw_140 kw_492 cf_X8 rfl (by decide +kernel) dX11_feed_42) rfl ?_
  refine okL_cons (ok_aload_n rfl dX11_feed_45) rfl ?_
  refine okL_cons (ok_getP kw_416 cf_X11 rfl rfl (by decide) dX11_feed_46) rfl ?_
  refine okL_cons (ok_iload dX11_feed_49) rfl ?_
  refine okL_cons (ok_invV (M' := 80) kw_489 kw_490 kw_491 kw_140 kw_492 cf_X8 rfl (by decide +kernel) dX11_feed_51) rfl ?_
  refine okL_cons (ok_aload_n rfl dX11_feed_54) rfl ?_
  refine okL_cons (ok_getP kw_416 cf_X11 rfl rfl (by decide) dX11_feed_55) rfl ?_
  refine okL_cons (ok_getNI 49 cf_X8 rfl rfl rfl (by decide) dX11_feed_58) rfl ?_
  exact okL_one (ok_ireturn rfl dX11_feed_61)
theorem dX11_end_0 : decode cX11_end 0 = .ok (.iload_n 1, 1) := by decide +kernel
theorem dX11_end_1 : decode cX11_end 1 = .ok (.ifCond .lt 14, 3) := by decide +kernel
theorem dX11_end_4 : decode cX11_end 4 = .ok (.iload_n 1, 1) := by decide +kernel
theorem dX11_end_5 : decode cX11_end 5 = .ok (.aload_n 0, 1) := by decide +kernel
theorem dX11_end_6 : decode cX11_end 6 = .ok (.getfield 56, 3) := by decide +kernel
theorem dX11_end_9 : decode cX11_end 9 = .ok (.getfield 189, 3) := by decide +kernel
theorem dX11_end_12 : decode cX11_end 12 = .ok (.if_icmp .le 5, 3) := by decide +kernel
theorem dX11_end_15 : decode cX11_end 15 = .ok (.iconst (-1), 1) := by decide +kernel
theorem dX11_end_16 : decode cX11_end 16 = .ok (.ireturn, 1) := by decide +kernel
theorem dX11_end_17 : decode cX11_end 17 = .ok (.aload_n 0, 1) := by decide +kernel
theorem dX11_end_18 : decode cX11_end 18 = .ok (.getfield 56, 3) := by decide +kernel
theorem dX11_end_21 : decode cX11_end 21 = .ok (.iload_n 1, 1) := by decide +kernel
theorem dX11_end_22 : decode cX11_end 22 = .ok (.putfield 189, 3) := by decide +kernel
theorem dX11_end_25 : decode cX11_end 25 = .ok (.iload_n 1, 1) := by decide +kernel
theorem dX11_end_26 : decode cX11_end 26 = .ok (.ireturn, 1) := by decide +kernel
set_option maxRecDepth 100000 in
theorem okm_X11_end : okL RX11 cX11_end 2 (some .int) "end" pcX11_end opX11_end pcX11_end := by
  unfold opX11_end
  refine okL_cons (ok_iload_n rfl dX11_end_0) rfl ?_
  refine okL_cons (ok_if_lt rfl dX11_end_1) rfl ?_
  refine okL_cons (ok_iload_n rfl dX11_end_4) rfl ?_
  refine okL_cons (ok_aload_n rfl dX11_end_5) rfl ?_
  refine okL_cons (ok_getP kw_416 cf_X11 rfl rfl (by decide) dX11_end_6) rfl ?_
  refine okL_cons (ok_getNI 49 cf_X8 rfl rfl rfl (by decide) dX11_end_9) rfl ?_
  refine okL_cons (ok_icmp_le rfl dX11_end_12) rfl ?_
  refine okL_cons (ok_iconst rfl dX11_end_15) rfl ?_
  refine okL_cons (ok_ireturn rfl dX11_end_16) rfl ?_
  refine okL_cons (ok_aload_n rfl dX11_end_17) rfl ?_
  refine okL_cons (ok_getP kw_416 cf_X11 rfl rfl (by decide) dX11_end_18) rfl ?_
  refine okL_cons (ok_iload_n rfl dX11_end_21) rfl ?_
  refine okL_cons (ok_putNI 49 cf_X8 rfl rfl rfl (by decide) rfl dX11_end_22) rfl ?_
  refine okL_cons (ok_iload_n rfl dX11_end_25) rfl ?_
  exact okL_one (ok_ireturn rfl dX11_end_26)
theorem dX11_row_0 : decode cX11_row 0 = .ok (.aload_n 0, 1) := by decide +kernel
theorem dX11_row_1 : decode cX11_row 1 = .ok (.getfield 56, 3) := by decide +kernel
theorem dX11_row_4 : decode cX11_row 4 = .ok (.getfield 189, 3) := by decide +kernel
theorem dX11_row_7 : decode cX11_row 7 = .ok (.ifCond .ne 13, 3) := by decide +kernel
theorem dX11_row_10 : decode cX11_row 10 = .ok (.aload_n 0, 1) := by decide +kernel
theorem dX11_row_11 : decode cX11_row 11 = .ok (.getfield 117, 3) := by decide +kernel
theorem dX11_row_14 : decode cX11_row 14 = .ok (.bipush (-6), 2) := by decide +kernel
theorem dX11_row_16 : decode cX11_row 16 = .ok (.invokevirtual 152, 3) := by decide +kernel
theorem dX11_row_19 : decode cX11_row 19 = .ok (.ireturn, 1) := by decide +kernel
theorem dX11_row_20 : decode cX11_row 20 = .ok (.iconst 0, 1) := by decide +kernel
theorem dX11_row_21 : decode cX11_row 21 = .ok (.istore_n 1, 1) := by decide +kernel
theorem dX11_row_22 : decode cX11_row 22 = .ok (.iconst 0, 1) := by decide +kernel
theorem dX11_row_23 : decode cX11_row 23 = .ok (.istore_n 2, 1) := by decide +kernel
theorem dX11_row_24 : decode cX11_row 24 = .ok (.iconst 0, 1) := by decide +kernel
theorem dX11_row_25 : decode cX11_row 25 = .ok (.istore_n 3, 1) := by decide +kernel
theorem dX11_row_26 : decode cX11_row 26 = .ok (.iload_n 3, 1) := by decide +kernel
theorem dX11_row_27 : decode cX11_row 27 = .ok (.aload_n 0, 1) := by decide +kernel
theorem dX11_row_28 : decode cX11_row 28 = .ok (.getfield 56, 3) := by decide +kernel
theorem dX11_row_31 : decode cX11_row 31 = .ok (.getfield 189, 3) := by decide +kernel
theorem dX11_row_34 : decode cX11_row 34 = .ok (.if_icmp .ge 26, 3) := by decide +kernel
theorem dX11_row_37 : decode cX11_row 37 = .ok (.aload_n 0, 1) := by decide +kernel
theorem dX11_row_38 : decode cX11_row 38 = .ok (.iload_n 3, 1) := by decide +kernel
theorem dX11_row_39 : decode cX11_row 39 = .ok (.invokevirtual 192, 3) := by decide +kernel
theorem dX11_row_42 : decode cX11_row 42 = .ok (.ifCond .eq 9, 3) := by decide +kernel
theorem dX11_row_45 : decode cX11_row 45 = .ok (.iinc 1 1, 3) := by decide +kernel
theorem dX11_row_48 : decode cX11_row 48 = .ok (.goto 6, 3) := by decide +kernel
theorem dX11_row_51 : decode cX11_row 51 = .ok (.iinc 2 1, 3) := by decide +kernel
theorem dX11_row_54 : decode cX11_row 54 = .ok (.iinc 3 3, 3) := by decide +kernel
theorem dX11_row_57 : decode cX11_row 57 = .ok (.goto (-31), 3) := by decide +kernel
theorem dX11_row_60 : decode cX11_row 60 = .ok (.aload_n 0, 1) := by decide +kernel
theorem dX11_row_61 : decode cX11_row 61 = .ok (.getfield 56, 3) := by decide +kernel
theorem dX11_row_64 : decode cX11_row 64 = .ok (.iconst 0, 1) := by decide +kernel
theorem dX11_row_65 : decode cX11_row 65 = .ok (.putfield 189, 3) := by decide +kernel
theorem dX11_row_68 : decode cX11_row 68 = .ok (.aload_n 0, 1) := by decide +kernel
theorem dX11_row_69 : decode cX11_row 69 = .ok (.getfield 117, 3) := by decide +kernel
theorem dX11_row_72 : decode cX11_row 72 = .ok (.iload_n 2, 1) := by decide +kernel
theorem dX11_row_73 : decode cX11_row 73 = .ok (.putfield 195, 3) := by decide +kernel
theorem dX11_row_76 : decode cX11_row 76 = .ok (.aload_n 0, 1) := by decide +kernel
theorem dX11_row_77 : decode cX11_row 77 = .ok (.getfield 34, 3) := by decide +kernel
theorem dX11_row_80 : decode cX11_row 80 = .ok (.invokevirtual 178, 3) := by decide +kernel
theorem dX11_row_83 : decode cX11_row 83 = .ok (.aload_n 0, 1) := by decide +kernel
theorem dX11_row_84 : decode cX11_row 84 = .ok (.getfield 117, 3) := by decide +kernel
theorem dX11_row_87 : decode cX11_row 87 = .ok (.iload_n 1, 1) := by decide +kernel
theorem dX11_row_88 : decode cX11_row 88 = .ok (.invokevirtual 159, 3) := by decide +kernel
theorem dX11_row_91 : decode cX11_row 91 = .ok (.ireturn, 1) := by decide +kernel
set_option maxRecDepth 100000 in
theorem okm_X11_row : okL RX11 cX11_row 4 (some .int) "row" pcX11_row opX11_row pcX11_row := by
  unfold opX11_row
  refine okL_cons (ok_aload_n rfl dX11_row_0) rfl ?_
  refine okL_cons (ok_getP kw_416 cf_X11 rfl rfl (by decide) dX11_row_1) rfl ?_
  refine okL_cons (ok_getNI 49 cf_X8 rfl rfl rfl (by decide) dX11_row_4) rfl ?_
  refine okL_cons (ok_if_ne rfl dX11_row_7) rfl ?_
  refine okL_cons (ok_aload_n rfl dX11_row_10) rfl ?_
  refine okL_cons (ok_getP kw_453 cf_X11 rfl rfl (by decide) dX11_row_11) rfl ?_
  refine okL_cons (ok_bipush rfl dX11_row_14) rfl ?_
  refine okL_cons (ok_invV (M' := 25) kw_467 kw_108 kw_109 kw_110 kw_111 cf_X3 rfl (by decide +kernel) dX11_row_16) rfl ?_
  refine okL_cons (ok_ireturn rfl dX11_row_19) rfl ?_
  refine okL_cons (ok_iconst rfl dX11_row_20) rfl ?_
  refine okL_cons (ok_istore_n rfl dX11_row_21) rfl ?_
  refine okL_cons (ok_iconst rfl dX11_row_22) rfl ?_
  refine okL_cons (ok_istore_n rfl dX11_row_23) rfl ?_
  refine okL_cons (ok_iconst rfl dX11_row_24) rfl ?_
  refine okL_cons (ok_istore_n rfl dX11_row_25) rfl ?_
  refine okL_cons (ok_iload_n rfl dX11_row_26) rfl ?_
  refine okL_cons (ok_aload_n rfl dX11_row_27) rfl ?_
  refine okL_cons (ok_getP kw_416 cf_X11 rfl rfl (by decide) dX11_row_28) rfl ?_
  refine okL_cons (ok_getNI 49 cf_X8 rfl rfl rfl (by decide) dX11_row_31) rfl ?_
  refine okL_cons (ok_icmp_ge rfl dX11_row_34) rfl ?_
  refine okL_cons (ok_aload_n rfl dX11_row_37) rfl ?_
  refine okL_cons (ok_iload_n rfl dX11_row_38) rfl ?_
  refine okL_cons (ok_invV (M' := 112) kw_493 kw_494 kw_495 kw_79 kw_496 cf_X11 rfl (by decide +kernel) dX11_row_39) rfl ?_
  refine okL_cons (ok_if_eq rfl dX11_row_42) rfl ?_
  refine okL_cons (ok_iinc rfl dX11_row_45) rfl ?_
  refine okL_cons (ok_goto rfl dX11_row_48) rfl ?_
  refine okL_cons (ok_iinc rfl dX11_row_51) rfl ?_
  refine okL_cons (ok_iinc rfl dX11_row_54) rfl ?_
  refine okL_cons (ok_goto rfl dX11_row_57) rfl ?_
  refine okL_cons (ok_aload_n rfl dX11_row_60) rfl ?_
  refine okL_cons (ok_getP kw_416 cf_X11 rfl rfl (by decide) dX11_row_61) rfl ?_
  refine okL_cons (ok_iconst rfl dX11_row_64) rfl ?_
  refine okL_cons (ok_putNI 49 cf_X8 rfl rfl rfl (by decide) rfl dX11_row_65) rfl ?_
  refine okL_cons (ok_aload_n rfl dX11_row_68) rfl ?_
  refine okL_cons (ok_getP kw_453 cf_X11 rfl rfl (by decide) dX11_row_69) rfl ?_
  refine okL_cons (ok_iload_n rfl dX11_row_72) rfl ?_
  refine okL_cons (ok_putNI 59 cf_X3 rfl rfl rfl (by decide) rfl dX11_row_73) rfl ?_
  refine okL_cons (ok_aload_n rfl dX11_row_76) rfl ?_
  refine okL_cons (ok_getP kw_405 cf_X11 rfl rfl (by decide) dX11_row_77) rfl ?_
  refine okL_cons (ok_invV (M' := 30) kw_481 kw_482 kw_483 kw_401 kw_484 cf_X4 rfl (by decide +kernel) dX11_row_80) rfl ?_
  refine okL_cons (ok_aload_n rfl dX11_row_83) rfl ?_
  refine okL_cons (ok_getP kw_453 cf_X11 rfl rfl (by decide) dX11_row_84) rfl ?_
  refine okL_cons (ok_iload_n rfl dX11_row_87) rfl ?_
  refine okL_cons (ok_invV (M' := 26) kw_472 kw_113 kw_114 kw_110 kw_115 cf_X3 rfl (by decide +kernel) dX11_row_88) rfl ?_
  exact okL_one (ok_ireturn rfl dX11_row_91)
theorem dX11_tellCell_0 : decode cX11_tellCell 0 = .ok (.iload_n 1, 1) := by decide +kernel
theorem dX11_tellCell_1 : decode cX11_tellCell 1 = .ok (.iconst 2, 1) := by decide +kernel
theorem dX11_tellCell_2 : decode cX11_tellCell 2 = .ok (.iadd, 1) := by decide +kernel
theorem dX11_tellCell_3 : decode cX11_tellCell 3 = .ok (.aload_n 0, 1) := by decide +kernel
theorem dX11_tellCell_4 : decode cX11_tellCell 4 = .ok (.getfield 56, 3) := by decide +kernel
theorem dX11_tellCell_7 : decode cX11_tellCell 7 = .ok (.getfield 189, 3) := by decide +kernel
theorem dX11_tellCell_10 : decode cX11_tellCell 10 = .ok (.if_icmp .lt 5, 3) := by decide +kernel
theorem dX11_tellCell_13 : decode cX11_tellCell 13 = .ok (.iconst 0, 1) := by decide +kernel
theorem dX11_tellCell_14 : decode cX11_tellCell 14 = .ok (.ireturn, 1) := by decide +kernel
theorem dX11_tellCell_15 : decode cX11_tellCell 15 = .ok (.aload_n 0, 1) := by decide +kernel
theorem dX11_tellCell_16 : decode cX11_tellCell 16 = .ok (.getfield 56, 3) := by decide +kernel
theorem dX11_tellCell_19 : decode cX11_tellCell 19 = .ok (.getfield 198, 3) := by decide +kernel
theorem dX11_tellCell_22 : decode cX11_tellCell 22 = .ok (.iload_n 1, 1) := by decide +kernel
theorem dX11_tellCell_23 : decode cX11_tellCell 23 = .ok (.iaload, 1) := by decide +kernel
theorem dX11_tellCell_24 : decode cX11_tellCell 24 = .ok (.istore_n 2, 1) := by decide +kernel
theorem dX11_tellCell_25 : decode cX11_tellCell 25 = .ok (.aload_n 0, 1) := by decide +kernel
theorem dX11_tellCell_26 : decode cX11_tellCell 26 = .ok (.getfield 56, 3) := by decide +kernel
theorem dX11_tellCell_29 : decode cX11_tellCell 29 = .ok (.getfield 198, 3) := by decide +kernel
theorem dX11_tellCell_32 : decode cX11_tellCell 32 = .ok (.iload_n 1, 1) := by decide +kernel
theorem dX11_tellCell_33 : decode cX11_tellCell 33 = .ok (.iconst 1, 1) := by decide +kernel
theorem dX11_tellCell_34 : decode cX11_tellCell 34 = .ok (.iadd, 1) := by decide +kernel
theorem dX11_tellCell_35 : decode cX11_tellCell 35 = .ok (.iaload, 1) := by decide +kernel
theorem dX11_tellCell_36 : decode cX11_tellCell 36 = .ok (.istore_n 3, 1) := by decide +kernel
theorem dX11_tellCell_37 : decode cX11_tellCell 37 = .ok (.aload_n 0, 1) := by decide +kernel
theorem dX11_tellCell_38 : decode cX11_tellCell 38 = .ok (.getfield 56, 3) := by decide +kernel
theorem dX11_tellCell_41 : decode cX11_tellCell 41 = .ok (.getfield 198, 3) := by decide +kernel
theorem dX11_tellCell_44 : decode cX11_tellCell 44 = .ok (.iload_n 1, 1) := by decide +kernel
theorem dX11_tellCell_45 : decode cX11_tellCell 45 = .ok (.iconst 2, 1) := by decide +kernel
theorem dX11_tellCell_46 : decode cX11_tellCell 46 = .ok (.iadd, 1) := by decide +kernel
theorem dX11_tellCell_47 : decode cX11_tellCell 47 = .ok (.iaload, 1) := by decide +kernel
theorem dX11_tellCell_48 : decode cX11_tellCell 48 = .ok (.istore 4, 2) := by decide +kernel
theorem dX11_tellCell_50 : decode cX11_tellCell 50 = .ok (.iload_n 2, 1) := by decide +kernel
theorem dX11_tellCell_51 : decode cX11_tellCell 51 = .ok (.invokestatic 121, 3) := by decide +kernel
theorem dX11_tellCell_54 : decode cX11_tellCell 54 = .ok (.ifCond .eq 15, 3) := by decide +kernel
theorem dX11_tellCell_57 : decode cX11_tellCell 57 = .ok (.iload_n 3, 1) := by decide +kernel
theorem dX11_tellCell_58 : decode cX11_tellCell 58 = .ok (.bipush 9, 2) := by decide +kernel
theorem dX11_tellCell_60 : decode cX11_tellCell 60 = .ok (.if_icmp .gt 9, 3) := by decide +kernel
theorem dX11_tellCell_63 : decode cX11_tellCell 63 = .ok (.iload 4, 2) := by decide +kernel
theorem dX11_tellCell_65 : decode cX11_tellCell 65 = .ok (.iconst 1, 1) := by decide +kernel
theorem dX11_tellCell_66 : decode cX11_tellCell 66 = .ok (.if_icmp .le 5, 3) := by decide +kernel
theorem dX11_tellCell_69 : decode cX11_tellCell 69 = .ok (.iconst 0, 1) := by decide +kernel
theorem dX11_tellCell_70 : decode cX11_tellCell 70 = .ok (.ireturn, 1) := by decide +kernel
theorem dX11_tellCell_71 : decode cX11_tellCell 71 = .ok (.aload_n 0, 1) := by decide +kernel
theorem dX11_tellCell_72 : decode cX11_tellCell 72 = .ok (.getfield 20, 3) := by decide +kernel
theorem dX11_tellCell_75 : decode cX11_tellCell 75 = .ok (.getfield 133, 3) := by decide +kernel
theorem dX11_tellCell_78 : decode cX11_tellCell 78 = .ok (.iload_n 2, 1) := by decide +kernel
theorem dX11_tellCell_79 : decode cX11_tellCell 79 = .ok (.iload_n 3, 1) := by decide +kernel
theorem dX11_tellCell_80 : decode cX11_tellCell 80 = .ok (.iastore, 1) := by decide +kernel
theorem dX11_tellCell_81 : decode cX11_tellCell 81 = .ok (.aload_n 0, 1) := by decide +kernel
theorem dX11_tellCell_82 : decode cX11_tellCell 82 = .ok (.getfield 12, 3) := by decide +kernel
theorem dX11_tellCell_85 : decode cX11_tellCell 85 = .ok (.iload_n 2, 1) := by decide +kernel
theorem dX11_tellCell_86 : decode cX11_tellCell 86 = .ok (.iload 4, 2) := by decide +kernel
theorem dX11_tellCell_88 : decode cX11_tellCell 88 = .ok (.iconst 1, 1) := by decide +kernel
theorem dX11_tellCell_89 : decode cX11_tellCell 89 = .ok (.if_icmp .ne 7, 3) := by decide +kernel
theorem dX11_tellCell_92 : decode cX11_tellCell 92 = .ok (.iconst 1, 1) := by decide +kernel
theorem dX11_tellCell_93 : decode cX11_tellCell 93 = .ok (.goto 4, 3) := by decide +kernel
theorem dX11_tellCell_96 : decode cX11_tellCell 96 = .ok (.iconst 0, 1) := by decide +kernel
theorem dX11_tellCell_97 : decode cX11_tellCell 97 = .ok (.invokevirtual 155, 3) := by decide +kernel
theorem dX11_tellCell_100 : decode cX11_tellCell 100 = .ok (.iconst 1, 1) := by decide +kernel
theorem dX11_tellCell_101 : decode cX11_tellCell 101 = .ok (.ireturn, 1) := by decide +kernel
set_option maxRecDepth 100000 in
theorem okm_X11_tellCell : okL RX11 cX11_tellCell 5 (some .boolean) "tellCell" pcX11_tellCell opX11_tellCell pcX11_tellCell := by
  unfold opX11_tellCell
  refine okL_cons (ok_iload_n rfl dX11_tellCell_0) rfl ?_
  refine okL_cons (ok_iconst rfl dX11_tellCell_1) rfl ?_
  refine okL_cons (ok_iadd dX11_tellCell_2) rfl ?_
  refine okL_cons (ok_aload_n rfl dX11_tellCell_3) rfl ?_
  refine okL_cons (ok_getP kw_416 cf_X11 rfl rfl (by decide) dX11_tellCell_4) rfl ?_
  refine okL_cons (ok_getNI 49 cf_X8 rfl rfl rfl (by decide) dX11_tellCell_7) rfl ?_
  refine okL_cons (ok_icmp_lt rfl dX11_tellCell_10) rfl ?_
  refine okL_cons (ok_iconst rfl dX11_tellCell_13) rfl ?_
  refine okL_cons (ok_zreturn rfl dX11_tellCell_14) rfl ?_
  refine okL_cons (ok_aload_n rfl dX11_tellCell_15) rfl ?_
  refine okL_cons (ok_getP kw_416 cf_X11 rfl rfl (by decide) dX11_tellCell_16) rfl ?_
  refine okL_cons (ok_getNP 48 cf_X8 rfl rfl rfl (by decide) dX11_tellCell_19) rfl ?_
  refine okL_cons (ok_iload_n rfl dX11_tellCell_22) rfl ?_
  refine okL_cons (ok_iaload dX11_tellCell_23) rfl ?_
  refine okL_cons (ok_istore_n rfl dX11_tellCell_24) rfl ?_
  refine okL_cons (ok_aload_n rfl dX11_tellCell_25) rfl ?_
  refine okL_cons (ok_getP kw_416 cf_X11 rfl rfl (by decide) dX11_tellCell_26) rfl ?_
  refine okL_cons (ok_getNP 48 cf_X8 rfl rfl rfl (by decide) dX11_tellCell_29) rfl ?_
  refine okL_cons (ok_iload_n rfl dX11_tellCell_32) rfl ?_
  refine okL_cons (ok_iconst rfl dX11_tellCell_33) rfl ?_
  refine okL_cons (ok_iadd dX11_tellCell_34) rfl ?_
  refine okL_cons (ok_iaload dX11_tellCell_35) rfl ?_
  refine okL_cons (ok_istore_n rfl dX11_tellCell_36) rfl ?_
  refine okL_cons (ok_aload_n rfl dX11_tellCell_37) rfl ?_
  refine okL_cons (ok_getP kw_416 cf_X11 rfl rfl (by decide) dX11_tellCell_38) rfl ?_
  refine okL_cons (ok_getNP 48 cf_X8 rfl rfl rfl (by decide) dX11_tellCell_41) rfl ?_
  refine okL_cons (ok_iload_n rfl dX11_tellCell_44) rfl ?_
  refine okL_cons (ok_iconst rfl dX11_tellCell_45) rfl ?_
  refine okL_cons (ok_iadd dX11_tellCell_46) rfl ?_
  refine okL_cons (ok_iaload dX11_tellCell_47) rfl ?_
  refine okL_cons (ok_istore dX11_tellCell_48) rfl ?_
  refine okL_cons (ok_iload_n rfl dX11_tellCell_50) rfl ?_
  refine okL_cons (ok_invS (M' := 159) kw_454 kw_90 kw_79 kw_91 rfl (by decide +kernel) dX11_tellCell_51) rfl ?_
  refine okL_cons (ok_if_eq rfl dX11_tellCell_54) rfl ?_
  refine okL_cons (ok_iload_n rfl dX11_tellCell_57) rfl ?_
  refine okL_cons (ok_bipush rfl dX11_tellCell_58) rfl ?_
  refine okL_cons (ok_icmp_gt rfl dX11_tellCell_60) rfl ?_
  refine okL_cons (ok_iload dX11_tellCell_63) rfl ?_
  refine okL_cons (ok_iconst rfl dX11_tellCell_65) rfl ?_
  refine okL_cons (ok_icmp_le rfl dX11_tellCell_66) rfl ?_
  refine okL_cons (ok_iconst rfl dX11_tellCell_69) rfl ?_
  refine okL_cons (ok_zreturn rfl dX11_tellCell_70) rfl ?_
  refine okL_cons (ok_aload_n rfl dX11_tellCell_71) rfl ?_
  refine okL_cons (ok_getP kw_395 cf_X11 rfl rfl (by decide) dX11_tellCell_72) rfl ?_
  refine okL_cons (ok_getNP 6 cf_X2 rfl rfl rfl (by decide) dX11_tellCell_75) rfl ?_
  refine okL_cons (ok_iload_n rfl dX11_tellCell_78) rfl ?_
  refine okL_cons (ok_iload_n rfl dX11_tellCell_79) rfl ?_
  refine okL_cons (ok_iastore dX11_tellCell_80) rfl ?_
  refine okL_cons (ok_aload_n rfl dX11_tellCell_81) rfl ?_
  refine okL_cons (ok_getP kw_394 cf_X11 rfl rfl (by decide) dX11_tellCell_82) rfl ?_
  refine okL_cons (ok_iload_n rfl dX11_tellCell_85) rfl ?_
  refine okL_cons (ok_iload dX11_tellCell_86) rfl ?_
  refine okL_cons (ok_iconst rfl dX11_tellCell_88) rfl ?_
  refine okL_cons (ok_icmp_ne rfl dX11_tellCell_89) rfl ?_
  refine okL_cons (ok_iconst rfl dX11_tellCell_92) rfl ?_
  refine okL_cons (ok_goto rfl dX11_tellCell_93) rfl ?_
  refine okL_cons (ok_iconst rfl dX11_tellCell_96) rfl ?_
  refine okL_cons (ok_invV (M' := 15) kw_468 kw_469 kw_470 kw_258 kw_471 cf_X1 rfl (by decide +kernel) dX11_tellCell_97) rfl ?_
  refine okL_cons (ok_iconst rfl dX11_tellCell_100) rfl ?_
  exact okL_one (ok_zreturn rfl dX11_tellCell_101)
theorem dX11_beads_0 : decode cX11_beads 0 = .ok (.aload_n 0, 1) := by decide +kernel
theorem dX11_beads_1 : decode cX11_beads 1 = .ok (.getfield 117, 3) := by decide +kernel
theorem dX11_beads_4 : decode cX11_beads 4 = .ok (.getfield 195, 3) := by decide +kernel
theorem dX11_beads_7 : decode cX11_beads 7 = .ok (.ireturn, 1) := by decide +kernel
set_option maxRecDepth 100000 in
theorem okm_X11_beads : okL RX11 cX11_beads 1 (some .int) "beads" pcX11_beads opX11_beads pcX11_beads := by
  unfold opX11_beads
  refine okL_cons (ok_aload_n rfl dX11_beads_0) rfl ?_
  refine okL_cons (ok_getP kw_453 cf_X11 rfl rfl (by decide) dX11_beads_1) rfl ?_
  refine okL_cons (ok_getNI 59 cf_X3 rfl rfl rfl (by decide) dX11_beads_4) rfl ?_
  exact okL_one (ok_ireturn rfl dX11_beads_7)
theorem dX11_law_0 : decode cX11_law 0 = .ok (.aload_n 0, 1) := by decide +kernel
theorem dX11_law_1 : decode cX11_law 1 = .ok (.getfield 12, 3) := by decide +kernel
theorem dX11_law_4 : decode cX11_law 4 = .ok (.getfield 201, 3) := by decide +kernel
theorem dX11_law_7 : decode cX11_law 7 = .ok (.bipush 6, 2) := by decide +kernel
theorem dX11_law_9 : decode cX11_law 9 = .ok (.if_icmp .lt 21, 3) := by decide +kernel
theorem dX11_law_12 : decode cX11_law 12 = .ok (.aload_n 0, 1) := by decide +kernel
theorem dX11_law_13 : decode cX11_law 13 = .ok (.getfield 56, 3) := by decide +kernel
theorem dX11_law_16 : decode cX11_law 16 = .ok (.iconst 0, 1) := by decide +kernel
theorem dX11_law_17 : decode cX11_law 17 = .ok (.putfield 189, 3) := by decide +kernel
theorem dX11_law_20 : decode cX11_law 20 = .ok (.aload_n 0, 1) := by decide +kernel
theorem dX11_law_21 : decode cX11_law 21 = .ok (.getfield 117, 3) := by decide +kernel
theorem dX11_law_24 : decode cX11_law 24 = .ok (.bipush (-5), 2) := by decide +kernel
theorem dX11_law_26 : decode cX11_law 26 = .ok (.invokevirtual 152, 3) := by decide +kernel
theorem dX11_law_29 : decode cX11_law 29 = .ok (.ireturn, 1) := by decide +kernel
theorem dX11_law_30 : decode cX11_law 30 = .ok (.aload_n 0, 1) := by decide +kernel
theorem dX11_law_31 : decode cX11_law 31 = .ok (.getfield 117, 3) := by decide +kernel
theorem dX11_law_34 : decode cX11_law 34 = .ok (.aload_n 0, 1) := by decide +kernel
theorem dX11_law_35 : decode cX11_law 35 = .ok (.getfield 65, 3) := by decide +kernel
theorem dX11_law_38 : decode cX11_law 38 = .ok (.aload_n 0, 1) := by decide +kernel
theorem dX11_law_39 : decode cX11_law 39 = .ok (.getfield 12, 3) := by decide +kernel
theorem dX11_law_42 : decode cX11_law 42 = .ok (.getfield 204, 3) := by decide +kernel
theorem dX11_law_45 : decode cX11_law 45 = .ok (.aload_n 0, 1) := by decide +kernel
theorem dX11_law_46 : decode cX11_law 46 = .ok (.getfield 12, 3) := by decide +kernel
theorem dX11_law_49 : decode cX11_law 49 = .ok (.getfield 201, 3) := by decide +kernel
theorem dX11_law_52 : decode cX11_law 52 = .ok (.aaload, 1) := by decide +kernel
theorem dX11_law_53 : decode cX11_law 53 = .ok (.iconst 0, 1) := by decide +kernel
theorem dX11_law_54 : decode cX11_law 54 = .ok (.invokevirtual 208, 3) := by decide +kernel
theorem dX11_law_57 : decode cX11_law 57 = .ok (.putfield 212, 3) := by decide +kernel
theorem dX11_law_60 : decode cX11_law 60 = .ok (.aload_n 0, 1) := by decide +kernel
theorem dX11_law_61 : decode cX11_law 61 = .ok (.getfield 56, 3) := by decide +kernel
theorem dX11_law_64 : decode cX11_law 64 = .ok (.iconst 0, 1) := by decide +kernel
theorem dX11_law_65 : decode cX11_law 65 = .ok (.putfield 189, 3) := by decide +kernel
theorem dX11_law_68 : decode cX11_law 68 = .ok (.aload_n 0, 1) := by decide +kernel
theorem dX11_law_69 : decode cX11_law 69 = .ok (.getfield 117, 3) := by decide +kernel
theorem dX11_law_72 : decode cX11_law 72 = .ok (.getfield 212, 3) := by decide +kernel
theorem dX11_law_75 : decode cX11_law 75 = .ok (.iconst (-1), 1) := by decide +kernel
theorem dX11_law_76 : decode cX11_law 76 = .ok (.if_icmp .eq 13, 3) := by decide +kernel
theorem dX11_law_79 : decode cX11_law 79 = .ok (.aload_n 0, 1) := by decide +kernel
theorem dX11_law_80 : decode cX11_law 80 = .ok (.getfield 117, 3) := by decide +kernel
theorem dX11_law_83 : decode cX11_law 83 = .ok (.bipush (-6), 2) := by decide +kernel
theorem dX11_law_85 : decode cX11_law 85 = .ok (.invokevirtual 152, 3) := by decide +kernel
theorem dX11_law_88 : decode cX11_law 88 = .ok (.ireturn, 1) := by decide +kernel
theorem dX11_law_89 : decode cX11_law 89 = .ok (.aload_n 0, 1) := by decide +kernel
theorem dX11_law_90 : decode cX11_law 90 = .ok (.getfield 12, 3) := by decide +kernel
theorem dX11_law_93 : decode cX11_law 93 = .ok (.dup, 1) := by decide +kernel
theorem dX11_law_94 : decode cX11_law 94 = .ok (.getfield 201, 3) := by decide +kernel
theorem dX11_law_97 : decode cX11_law 97 = .ok (.iconst 1, 1) := by decide +kernel
theorem dX11_law_98 : decode cX11_law 98 = .ok (.iadd, 1) := by decide +kernel
theorem dX11_law_99 : decode cX11_law 99 = .ok (.putfield 201, 3) := by decide +kernel
theorem dX11_law_102 : decode cX11_law 102 = .ok (.aload_n 0, 1) := by decide +kernel
theorem dX11_law_103 : decode cX11_law 103 = .ok (.getfield 117, 3) := by decide +kernel
theorem dX11_law_106 : decode cX11_law 106 = .ok (.aload_n 0, 1) := by decide +kernel
theorem dX11_law_107 : decode cX11_law 107 = .ok (.getfield 12, 3) := by decide +kernel
theorem dX11_law_110 : decode cX11_law 110 = .ok (.getfield 201, 3) := by decide +kernel
theorem dX11_law_113 : decode cX11_law 113 = .ok (.iconst 1, 1) := by decide +kernel
theorem dX11_law_114 : decode cX11_law 114 = .ok (.isub, 1) := by decide +kernel
theorem dX11_law_115 : decode cX11_law 115 = .ok (.invokevirtual 159, 3) := by decide +kernel
theorem dX11_law_118 : decode cX11_law 118 = .ok (.ireturn, 1) := by decide +kernel
set_option maxRecDepth 100000 in
theorem okm_X11_law : okL RX11 cX11_law 1 (some .int) "law" pcX11_law opX11_law pcX11_law := by
  unfold opX11_law
  refine okL_cons (ok_aload_n rfl dX11_law_0) rfl ?_
  refine okL_cons (ok_getP kw_394 cf_X11 rfl rfl (by decide) dX11_law_1) rfl ?_
  refine okL_cons (ok_getNI 44 cf_X1 rfl rfl rfl (by decide) dX11_law_4) rfl ?_
  refine okL_cons (ok_bipush rfl dX11_law_7) rfl ?_
  refine okL_cons (ok_icmp_lt rfl dX11_law_9) rfl ?_
  refine okL_cons (ok_aload_n rfl dX11_law_12) rfl ?_
  refine okL_cons (ok_getP kw_416 cf_X11 rfl rfl (by decide) dX11_law_13) rfl ?_
  refine okL_cons (ok_iconst rfl dX11_law_16) rfl ?_
  refine okL_cons (ok_putNI 49 cf_X8 rfl rfl rfl (by decide) rfl dX11_law_17) rfl ?_
  refine okL_cons (ok_aload_n rfl dX11_law_20) rfl ?_
  refine okL_cons (ok_getP kw_453 cf_X11 rfl rfl (by decide) dX11_law_21) rfl ?_
  refine okL_cons (ok_bipush rfl dX11_law_24) rfl ?_
  refine okL_cons (ok_invV (M' := 25) kw_467 kw_108 kw_109 kw_110 kw_111 cf_X3 rfl (by decide +kernel) dX11_law_26) rfl ?_
  refine okL_cons (ok_ireturn rfl dX11_law_29) rfl ?_
  refine okL_cons (ok_aload_n rfl dX11_law_30) rfl ?_
  refine okL_cons (ok_getP kw_453 cf_X11 rfl rfl (by decide) dX11_law_31) rfl ?_
  refine okL_cons (ok_aload_n rfl dX11_law_34) rfl ?_
  refine okL_cons (ok_getP kw_422 cf_X11 rfl rfl (by decide) dX11_law_35) rfl ?_
  refine okL_cons (ok_aload_n rfl dX11_law_38) rfl ?_
  refine okL_cons (ok_getP kw_394 cf_X11 rfl rfl (by decide) dX11_law_39) rfl ?_
  refine okL_cons (ok_getNP 42 cf_X1 rfl rfl rfl (by decide) dX11_law_42) rfl ?_
  refine okL_cons (ok_aload_n rfl dX11_law_45) rfl ?_
  refine okL_cons (ok_getP kw_394 cf_X11 rfl rfl (by decide) dX11_law_46) rfl ?_
  refine okL_cons (ok_getNI 44 cf_X1 rfl rfl rfl (by decide) dX11_law_49) rfl ?_
  refine okL_cons (ok_aaload (by decide) dX11_law_52) rfl ?_
  refine okL_cons (ok_iconst rfl dX11_law_53) rfl ?_
  refine okL_cons (ok_invV (M' := 34) kw_497 kw_498 kw_499 kw_149 kw_500 cf_X5 rfl (by decide +kernel) dX11_law_54) rfl ?_
  refine okL_cons (ok_putNI 57 cf_X3 rfl rfl rfl (by decide) rfl dX11_law_57) rfl ?_
  refine okL_cons (ok_aload_n rfl dX11_law_60) rfl ?_
  refine okL_cons (ok_getP kw_416 cf_X11 rfl rfl (by decide) dX11_law_61) rfl ?_
  refine okL_cons (ok_iconst rfl dX11_law_64) rfl ?_
  refine okL_cons (ok_putNI 49 cf_X8 rfl rfl rfl (by decide) rfl dX11_law_65) rfl ?_
  refine okL_cons (ok_aload_n rfl dX11_law_68) rfl ?_
  refine okL_cons (ok_getP kw_453 cf_X11 rfl rfl (by decide) dX11_law_69) rfl ?_
  refine okL_cons (ok_getNI 57 cf_X3 rfl rfl rfl (by decide) dX11_law_72) rfl ?_
  refine okL_cons (ok_iconst rfl dX11_law_75) rfl ?_
  refine okL_cons (ok_icmp_eq rfl dX11_law_76) rfl ?_
  refine okL_cons (ok_aload_n rfl dX11_law_79) rfl ?_
  refine okL_cons (ok_getP kw_453 cf_X11 rfl rfl (by decide) dX11_law_80) rfl ?_
  refine okL_cons (ok_bipush rfl dX11_law_83) rfl ?_
  refine okL_cons (ok_invV (M' := 25) kw_467 kw_108 kw_109 kw_110 kw_111 cf_X3 rfl (by decide +kernel) dX11_law_85) rfl ?_
  refine okL_cons (ok_ireturn rfl dX11_law_88) rfl ?_
  refine okL_cons (ok_aload_n rfl dX11_law_89) rfl ?_
  refine okL_cons (ok_getP kw_394 cf_X11 rfl rfl (by decide) dX11_law_90) rfl ?_
  refine okL_cons (ok_dup dX11_law_93) rfl ?_
  refine okL_cons (ok_getNI 44 cf_X1 rfl rfl rfl (by decide) dX11_law_94) rfl ?_
  refine okL_cons (ok_iconst rfl dX11_law_97) rfl ?_
  refine okL_cons (ok_iadd dX11_law_98) rfl ?_
  refine okL_cons (ok_putNI 44 cf_X1 rfl rfl rfl (by decide) rfl dX11_law_99) rfl ?_
  refine okL_cons (ok_aload_n rfl dX11_law_102) rfl ?_
  refine okL_cons (ok_getP kw_453 cf_X11 rfl rfl (by decide) dX11_law_103) rfl ?_
  refine okL_cons (ok_aload_n rfl dX11_law_106) rfl ?_
  refine okL_cons (ok_getP kw_394 cf_X11 rfl rfl (by decide) dX11_law_107) rfl ?_
  refine okL_cons (ok_getNI 44 cf_X1 rfl rfl rfl (by decide) dX11_law_110) rfl ?_
  refine okL_cons (ok_iconst rfl dX11_law_113) rfl ?_
  refine okL_cons (ok_isub dX11_law_114) rfl ?_
  refine okL_cons (ok_invV (M' := 26) kw_472 kw_113 kw_114 kw_110 kw_115 cf_X3 rfl (by decide +kernel) dX11_law_115) rfl ?_
  exact okL_one (ok_ireturn rfl dX11_law_118)
theorem dX11_orders_0 : decode cX11_orders 0 = .ok (.aload_n 0, 1) := by decide +kernel
theorem dX11_orders_1 : decode cX11_orders 1 = .ok (.getfield 117, 3) := by decide +kernel
theorem dX11_orders_4 : decode cX11_orders 4 = .ok (.aload_n 0, 1) := by decide +kernel
theorem dX11_orders_5 : decode cX11_orders 5 = .ok (.getfield 65, 3) := by decide +kernel
theorem dX11_orders_8 : decode cX11_orders 8 = .ok (.aload_n 0, 1) := by decide +kernel
theorem dX11_orders_9 : decode cX11_orders 9 = .ok (.getfield 72, 3) := by decide +kernel
theorem dX11_orders_12 : decode cX11_orders 12 = .ok (.iconst 1, 1) := by decide +kernel
theorem dX11_orders_13 : decode cX11_orders 13 = .ok (.invokevirtual 208, 3) := by decide +kernel
theorem dX11_orders_16 : decode cX11_orders 16 = .ok (.putfield 212, 3) := by decide +kernel
theorem dX11_orders_19 : decode cX11_orders 19 = .ok (.aload_n 0, 1) := by decide +kernel
theorem dX11_orders_20 : decode cX11_orders 20 = .ok (.getfield 117, 3) := by decide +kernel
theorem dX11_orders_23 : decode cX11_orders 23 = .ok (.iconst (-1), 1) := by decide +kernel
theorem dX11_orders_24 : decode cX11_orders 24 = .ok (.putfield 215, 3) := by decide +kernel
theorem dX11_orders_27 : decode cX11_orders 27 = .ok (.aload_n 0, 1) := by decide +kernel
theorem dX11_orders_28 : decode cX11_orders 28 = .ok (.getfield 56, 3) := by decide +kernel
theorem dX11_orders_31 : decode cX11_orders 31 = .ok (.iconst 0, 1) := by decide +kernel
theorem dX11_orders_32 : decode cX11_orders 32 = .ok (.putfield 189, 3) := by decide +kernel
theorem dX11_orders_35 : decode cX11_orders 35 = .ok (.aload_n 0, 1) := by decide +kernel
theorem dX11_orders_36 : decode cX11_orders 36 = .ok (.getfield 117, 3) := by decide +kernel
theorem dX11_orders_39 : decode cX11_orders 39 = .ok (.getfield 212, 3) := by decide +kernel
theorem dX11_orders_42 : decode cX11_orders 42 = .ok (.iconst (-1), 1) := by decide +kernel
theorem dX11_orders_43 : decode cX11_orders 43 = .ok (.if_icmp .eq 13, 3) := by decide +kernel
theorem dX11_orders_46 : decode cX11_orders 46 = .ok (.aload_n 0, 1) := by decide +kernel
theorem dX11_orders_47 : decode cX11_orders 47 = .ok (.getfield 117, 3) := by decide +kernel
theorem dX11_orders_50 : decode cX11_orders 50 = .ok (.bipush (-6), 2) := by decide +kernel
theorem dX11_orders_52 : decode cX11_orders 52 = .ok (.invokevirtual 152, 3) := by decide +kernel
theorem dX11_orders_55 : decode cX11_orders 55 = .ok (.ireturn, 1) := by decide +kernel
theorem dX11_orders_56 : decode cX11_orders 56 = .ok (.aload_n 0, 1) := by decide +kernel
theorem dX11_orders_57 : decode cX11_orders 57 = .ok (.getfield 44, 3) := by decide +kernel
theorem dX11_orders_60 : decode cX11_orders 60 = .ok (.aload_n 0, 1) := by decide +kernel
theorem dX11_orders_61 : decode cX11_orders 61 = .ok (.getfield 20, 3) := by decide +kernel
theorem dX11_orders_64 : decode cX11_orders 64 = .ok (.invokevirtual 218, 3) := by decide +kernel
theorem dX11_orders_67 : decode cX11_orders 67 = .ok (.aload_n 0, 1) := by decide +kernel
theorem dX11_orders_68 : decode cX11_orders 68 = .ok (.getfield 38, 3) := by decide +kernel
theorem dX11_orders_71 : decode cX11_orders 71 = .ok (.aload_n 0, 1) := by decide +kernel
theorem dX11_orders_72 : decode cX11_orders 72 = .ok (.getfield 34, 3) := by decide +kernel
theorem dX11_orders_75 : decode cX11_orders 75 = .ok (.invokevirtual 222, 3) := by decide +kernel
theorem dX11_orders_78 : decode cX11_orders 78 = .ok (.aload_n 0, 1) := by decide +kernel
theorem dX11_orders_79 : decode cX11_orders 79 = .ok (.invokevirtual 225, 3) := by decide +kernel
theorem dX11_orders_82 : decode cX11_orders 82 = .ok (.istore_n 1, 1) := by decide +kernel
theorem dX11_orders_83 : decode cX11_orders 83 = .ok (.iload_n 1, 1) := by decide +kernel
theorem dX11_orders_84 : decode cX11_orders 84 = .ok (.iconst (-1), 1) := by decide +kernel
theorem dX11_orders_85 : decode cX11_orders 85 = .ok (.if_icmp .ne 35, 3) := by decide +kernel
theorem dX11_orders_88 : decode cX11_orders 88 = .ok (.aload_n 0, 1) := by decide +kernel
theorem dX11_orders_89 : decode cX11_orders 89 = .ok (.getfield 20, 3) := by decide +kernel
theorem dX11_orders_92 : decode cX11_orders 92 = .ok (.aload_n 0, 1) := by decide +kernel
theorem dX11_orders_93 : decode cX11_orders 93 = .ok (.getfield 44, 3) := by decide +kernel
theorem dX11_orders_96 : decode cX11_orders 96 = .ok (.invokevirtual 218, 3) := by decide +kernel
theorem dX11_orders_99 : decode cX11_orders 99 = .ok (.aload_n 0, 1) := by decide +kernel
theorem dX11_orders_100 : decode cX11_orders 100 = .ok (.getfield 34, 3) := by decide +kernel
theorem dX11_orders_103 : decode cX11_orders 103 = .ok (.aload_n 0, 1) := by decide +kernel
theorem dX11_orders_104 : decode cX11_orders 104 = .ok (.getfield 38, 3) := by decide +kernel
theorem dX11_orders_107 : decode cX11_orders 107 = .ok (.invokevirtual 222, 3) := by decide +kernel
theorem dX11_orders_110 : decode cX11_orders 110 = .ok (.aload_n 0, 1) := by decide +kernel
theorem dX11_orders_111 : decode cX11_orders 111 = .ok (.getfield 117, 3) := by decide +kernel
theorem dX11_orders_114 : decode cX11_orders 114 = .ok (.bipush (-3), 2) := by decide +kernel
theorem dX11_orders_116 : decode cX11_orders 116 = .ok (.invokevirtual 152, 3) := by decide +kernel
theorem dX11_orders_119 : decode cX11_orders 119 = .ok (.ireturn, 1) := by decide +kernel
theorem dX11_orders_120 : decode cX11_orders 120 = .ok (.aload_n 0, 1) := by decide +kernel
theorem dX11_orders_121 : decode cX11_orders 121 = .ok (.getfield 117, 3) := by decide +kernel
theorem dX11_orders_124 : decode cX11_orders 124 = .ok (.iload_n 1, 1) := by decide +kernel
theorem dX11_orders_125 : decode cX11_orders 125 = .ok (.invokevirtual 159, 3) := by decide +kernel
theorem dX11_orders_128 : decode cX11_orders 128 = .ok (.ireturn, 1) := by decide +kernel
set_option maxRecDepth 100000 in
theorem okm_X11_orders : okL RX11 cX11_orders 2 (some .int) "orders" pcX11_orders opX11_orders pcX11_orders := by
  unfold opX11_orders
  refine okL_cons (ok_aload_n rfl dX11_orders_0) rfl ?_
  refine okL_cons (ok_getP kw_453 cf_X11 rfl rfl (by decide) dX11_orders_1) rfl ?_
  refine okL_cons (ok_aload_n rfl dX11_orders_4) rfl ?_
  refine okL_cons (ok_getP kw_422 cf_X11 rfl rfl (by decide) dX11_orders_5) rfl ?_
  refine okL_cons (ok_aload_n rfl dX11_orders_8) rfl ?_
  refine okL_cons (ok_getP kw_424 cf_X11 rfl rfl (by decide) dX11_orders_9) rfl ?_
  refine okL_cons (ok_iconst rfl dX11_orders_12) rfl ?_
  refine okL_cons (ok_invV (M' := 34) kw_497 kw_498 kw_499 kw_149 kw_500 cf_X5 rfl (by decide +kernel) dX11_orders_13) rfl ?_
  refine okL_cons (ok_putNI 57 cf_X3 rfl rfl rfl (by decide) rfl dX11_orders_16) rfl ?_
  refine okL_cons (ok_aload_n rfl dX11_orders_19) rfl ?_
  refine okL_cons (ok_getP kw_453 cf_X11 rfl rfl (by decide) dX11_orders_20) rfl ?_
  refine okL_cons (ok_iconst rfl dX11_orders_23) rfl ?_
  refine okL_cons (ok_putNI 58 cf_X3 rfl rfl rfl (by decide) rfl dX11_orders_24) rfl ?_
  refine okL_cons (ok_aload_n rfl dX11_orders_27) rfl ?_
  refine okL_cons (ok_getP kw_416 cf_X11 rfl rfl (by decide) dX11_orders_28) rfl ?_
  refine okL_cons (ok_iconst rfl dX11_orders_31) rfl ?_
  refine okL_cons (ok_putNI 49 cf_X8 rfl rfl rfl (by decide) rfl dX11_orders_32) rfl ?_
  refine okL_cons (ok_aload_n rfl dX11_orders_35) rfl ?_
  refine okL_cons (ok_getP kw_453 cf_X11 rfl rfl (by decide) dX11_orders_36) rfl ?_
  refine okL_cons (ok_getNI 57 cf_X3 rfl rfl rfl (by decide) dX11_orders_39) rfl ?_
  refine okL_cons (ok_iconst rfl dX11_orders_42) rfl ?_
  refine okL_cons (ok_icmp_eq rfl dX11_orders_43) rfl ?_
  refine okL_cons (ok_aload_n rfl dX11_orders_46) rfl ?_
  refine okL_cons (ok_getP kw_453 cf_X11 rfl rfl (by decide) dX11_orders_47) rfl ?_
  refine okL_cons (ok_bipush rfl dX11_orders_50) rfl ?_
  refine okL_cons (ok_invV (M' := 25) kw_467 kw_108 kw_109 kw_110 kw_111 cf_X3 rfl (by decide +kernel) dX11_orders_52) rfl ?_
  refine okL_cons (ok_ireturn rfl dX11_orders_55) rfl ?_
  refine okL_cons (ok_aload_n rfl dX11_orders_56) rfl ?_
  refine okL_cons (ok_getP kw_409 cf_X11 rfl rfl (by decide) dX11_orders_57) rfl ?_
  refine okL_cons (ok_aload_n rfl dX11_orders_60) rfl ?_
  refine okL_cons (ok_getP kw_395 cf_X11 rfl rfl (by decide) dX11_orders_61) rfl ?_
  refine okL_cons (ok_invV (M' := 17) kw_501 kw_63 kw_64 kw_47 kw_65 cf_X2 rfl (by decide +kernel) dX11_orders_64) rfl ?_
  refine okL_cons (ok_aload_n rfl dX11_orders_67) rfl ?_
  refine okL_cons (ok_getP kw_406 cf_X11 rfl rfl (by decide) dX11_orders_68) rfl ?_
  refine okL_cons (ok_aload_n rfl dX11_orders_71) rfl ?_
  refine okL_cons (ok_getP kw_405 cf_X11 rfl rfl (by decide) dX11_orders_72) rfl ?_
  refine okL_cons (ok_invV (M' := 29) kw_502 kw_503 kw_504 kw_401 kw_505 cf_X4 rfl (by decide +kernel) dX11_orders_75) rfl ?_
  refine okL_cons (ok_aload_n rfl dX11_orders_78) rfl ?_
  refine okL_cons (ok_invV (M' := 116) kw_506 kw_507 kw_508 kw_79 kw_509 cf_X11 rfl (by decide +kernel) dX11_orders_79) rfl ?_
  refine okL_cons (ok_istore_n rfl dX11_orders_82) rfl ?_
  refine okL_cons (ok_iload_n rfl dX11_orders_83) rfl ?_
  refine okL_cons (ok_iconst rfl dX11_orders_84) rfl ?_
  refine okL_cons (ok_icmp_ne rfl dX11_orders_85) rfl ?_
  refine okL_cons (ok_aload_n rfl dX11_orders_88) rfl ?_
  refine okL_cons (ok_getP kw_395 cf_X11 rfl rfl (by decide) dX11_orders_89) rfl ?_
  refine okL_cons (ok_aload_n rfl dX11_orders_92) rfl ?_
  refine okL_cons (ok_getP kw_409 cf_X11 rfl rfl (by decide) dX11_orders_93) rfl ?_
  refine okL_cons (ok_invV (M' := 17) kw_501 kw_63 kw_64 kw_47 kw_65 cf_X2 rfl (by decide +kernel) dX11_orders_96) rfl ?_
  refine okL_cons (ok_aload_n rfl dX11_orders_99) rfl ?_
  refine okL_cons (ok_getP kw_405 cf_X11 rfl rfl (by decide) dX11_orders_100) rfl ?_
  refine okL_cons (ok_aload_n rfl dX11_orders_103) rfl ?_
  refine okL_cons (ok_getP kw_406 cf_X11 rfl rfl (by decide) dX11_orders_104) rfl ?_
  refine okL_cons (ok_invV (M' := 29) kw_502 kw_503 kw_504 kw_401 kw_505 cf_X4 rfl (by decide +kernel) dX11_orders_107) rfl ?_
  refine okL_cons (ok_aload_n rfl dX11_orders_110) rfl ?_
  refine okL_cons (ok_getP kw_453 cf_X11 rfl rfl (by decide) dX11_orders_111) rfl ?_
  refine okL_cons (ok_bipush rfl dX11_orders_114) rfl ?_
  refine okL_cons (ok_invV (M' := 25) kw_467 kw_108 kw_109 kw_110 kw_111 cf_X3 rfl (by decide +kernel) dX11_orders_116) rfl ?_
  refine okL_cons (ok_ireturn rfl dX11_orders_119) rfl ?_
  refine okL_cons (ok_aload_n rfl dX11_orders_120) rfl ?_
  refine okL_cons (ok_getP kw_453 cf_X11 rfl rfl (by decide) dX11_orders_121) rfl ?_
  refine okL_cons (ok_iload_n rfl dX11_orders_124) rfl ?_
  refine okL_cons (ok_invV (M' := 26) kw_472 kw_113 kw_114 kw_110 kw_115 cf_X3 rfl (by decide +kernel) dX11_orders_125) rfl ?_
  exact okL_one (ok_ireturn rfl dX11_orders_128)
theorem dX11_carryOut_0 : decode cX11_carryOut 0 = .ok (.iconst 0, 1) := by decide +kernel
theorem dX11_carryOut_1 : decode cX11_carryOut 1 = .ok (.istore_n 1, 1) := by decide +kernel
theorem dX11_carryOut_2 : decode cX11_carryOut 2 = .ok (.iconst (-1), 1) := by decide +kernel
theorem dX11_carryOut_3 : decode cX11_carryOut 3 = .ok (.istore_n 2, 1) := by decide +kernel
theorem dX11_carryOut_4 : decode cX11_carryOut 4 = .ok (.iconst 0, 1) := by decide +kernel
theorem dX11_carryOut_5 : decode cX11_carryOut 5 = .ok (.istore_n 3, 1) := by decide +kernel
theorem dX11_carryOut_6 : decode cX11_carryOut 6 = .ok (.iload_n 3, 1) := by decide +kernel
theorem dX11_carryOut_7 : decode cX11_carryOut 7 = .ok (.aload_n 0, 1) := by decide +kernel
theorem dX11_carryOut_8 : decode cX11_carryOut 8 = .ok (.getfield 72, 3) := by decide +kernel
theorem dX11_carryOut_11 : decode cX11_carryOut 11 = .ok (.getfield 229, 3) := by decide +kernel
theorem dX11_carryOut_14 : decode cX11_carryOut 14 = .ok (.if_icmp .ge 205, 3) := by decide +kernel
theorem dX11_carryOut_17 : decode cX11_carryOut 17 = .ok (.iconst 0, 1) := by decide +kernel
theorem dX11_carryOut_18 : decode cX11_carryOut 18 = .ok (.istore 4, 2) := by decide +kernel
theorem dX11_carryOut_20 : decode cX11_carryOut 20 = .ok (.iload 4, 2) := by decide +kernel
theorem dX11_carryOut_22 : decode cX11_carryOut 22 = .ok (.aload_n 0, 1) := by decide +kernel
theorem dX11_carryOut_23 : decode cX11_carryOut 23 = .ok (.getfield 72, 3) := by decide +kernel
theorem dX11_carryOut_26 : decode cX11_carryOut 26 = .ok (.getfield 232, 3) := by decide +kernel
theorem dX11_carryOut_29 : decode cX11_carryOut 29 = .ok (.iload_n 3, 1) := by decide +kernel
theorem dX11_carryOut_30 : decode cX11_carryOut 30 = .ok (.iaload, 1) := by decide +kernel
theorem dX11_carryOut_31 : decode cX11_carryOut 31 = .ok (.if_icmp .ge 182, 3) := by decide +kernel
theorem dX11_carryOut_34 : decode cX11_carryOut 34 = .ok (.aload_n 0, 1) := by decide +kernel
theorem dX11_carryOut_35 : decode cX11_carryOut 35 = .ok (.iload_n 1, 1) := by decide +kernel
theorem dX11_carryOut_36 : decode cX11_carryOut 36 = .ok (.iload_n 2, 1) := by decide +kernel
theorem dX11_carryOut_37 : decode cX11_carryOut 37 = .ok (.invokevirtual 235, 3) := by decide +kernel
theorem dX11_carryOut_40 : decode cX11_carryOut 40 = .ok (.aload_n 0, 1) := by decide +kernel
theorem dX11_carryOut_41 : decode cX11_carryOut 41 = .ok (.getfield 79, 3) := by decide +kernel
theorem dX11_carryOut_44 : decode cX11_carryOut 44 = .ok (.aload_n 0, 1) := by decide +kernel
theorem dX11_carryOut_45 : decode cX11_carryOut 45 = .ok (.getfield 72, 3) := by decide +kernel
theorem dX11_carryOut_48 : decode cX11_carryOut 48 = .ok (.aload_n 0, 1) := by decide +kernel
theorem dX11_carryOut_49 : decode cX11_carryOut 49 = .ok (.getfield 72, 3) := by decide +kernel
theorem dX11_carryOut_52 : decode cX11_carryOut 52 = .ok (.getfield 239, 3) := by decide +kernel
theorem dX11_carryOut_55 : decode cX11_carryOut 55 = .ok (.iload_n 3, 1) := by decide +kernel
theorem dX11_carryOut_56 : decode cX11_carryOut 56 = .ok (.iaload, 1) := by decide +kernel
theorem dX11_carryOut_57 : decode cX11_carryOut 57 = .ok (.aload_n 0, 1) := by decide +kernel
theorem dX11_carryOut_58 : decode cX11_carryOut 58 = .ok (.getfield 83, 3) := by decide +kernel
theorem dX11_carryOut_61 : decode cX11_carryOut 61 = .ok (.invokevirtual 242, 3) := by decide +kernel
theorem dX11_carryOut_64 : decode cX11_carryOut 64 = .ok (.iconst 1, 1) := by decide +kernel
theorem dX11_carryOut_65 : decode cX11_carryOut 65 = .ok (.if_icmp .eq 6, 3) := by decide +kernel
theorem dX11_carryOut_68 : decode cX11_carryOut 68 = .ok (.goto 139, 3) := by decide +kernel
theorem dX11_carryOut_71 : decode cX11_carryOut 71 = .ok (.aload_n 0, 1) := by decide +kernel
theorem dX11_carryOut_72 : decode cX11_carryOut 72 = .ok (.getfield 79, 3) := by decide +kernel
theorem dX11_carryOut_75 : decode cX11_carryOut 75 = .ok (.aload_n 0, 1) := by decide +kernel
theorem dX11_carryOut_76 : decode cX11_carryOut 76 = .ok (.getfield 72, 3) := by decide +kernel
theorem dX11_carryOut_79 : decode cX11_carryOut 79 = .ok (.aload_n 0, 1) := by decide +kernel
theorem dX11_carryOut_80 : decode cX11_carryOut 80 = .ok (.getfield 72, 3) := by decide +kernel
theorem dX11_carryOut_83 : decode cX11_carryOut 83 = .ok (.getfield 246, 3) := by decide +kernel
theorem dX11_carryOut_86 : decode cX11_carryOut 86 = .ok (.iload_n 3, 1) := by decide +kernel
theorem dX11_carryOut_87 : decode cX11_carryOut 87 = .ok (.iaload, 1) := by decide +kernel
theorem dX11_carryOut_88 : decode cX11_carryOut 88 = .ok (.aload_n 0, 1) := by decide +kernel
theorem dX11_carryOut_89 : decode cX11_carryOut 89 = .ok (.getfield 83, 3) := by decide +kernel
theorem dX11_carryOut_92 : decode cX11_carryOut 92 = .ok (.invokevirtual 242, 3) := by decide +kernel
theorem dX11_carryOut_95 : decode cX11_carryOut 95 = .ok (.istore 5, 2) := by decide +kernel
theorem dX11_carryOut_97 : decode cX11_carryOut 97 = .ok (.aload_n 0, 1) := by decide +kernel
theorem dX11_carryOut_98 : decode cX11_carryOut 98 = .ok (.getfield 79, 3) := by decide +kernel
theorem dX11_carryOut_101 : decode cX11_carryOut 101 = .ok (.aload_n 0, 1) := by decide +kernel
theorem dX11_carryOut_102 : decode cX11_carryOut 102 = .ok (.getfield 72, 3) := by decide +kernel
theorem dX11_carryOut_105 : decode cX11_carryOut 105 = .ok (.aload_n 0, 1) := by decide +kernel
theorem dX11_carryOut_106 : decode cX11_carryOut 106 = .ok (.getfield 72, 3) := by decide +kernel
theorem dX11_carryOut_109 : decode cX11_carryOut 109 = .ok (.getfield 249, 3) := by decide +kernel
theorem dX11_carryOut_112 : decode cX11_carryOut 112 = .ok (.iload_n 3, 1) := by decide +kernel
theorem dX11_carryOut_113 : decode cX11_carryOut 113 = .ok (.iaload, 1) := by decide +kernel
theorem dX11_carryOut_114 : decode cX11_carryOut 114 = .ok (.aload_n 0, 1) := by decide +kernel
theorem dX11_carryOut_115 : decode cX11_carryOut 115 = .ok (.getfield 83, 3) := by decide +kernel
theorem dX11_carryOut_118 : decode cX11_carryOut 118 = .ok (.invokevirtual 242, 3) := by decide +kernel
theorem dX11_carryOut_121 : decode cX11_carryOut 121 = .ok (.istore 6, 2) := by decide +kernel
theorem dX11_carryOut_123 : decode cX11_carryOut 123 = .ok (.iload 5, 2) := by decide +kernel
theorem dX11_carryOut_125 : decode cX11_carryOut 125 = .ok (.ldc 252, 2) := by decide +kernel
theorem dX11_carryOut_127 : decode cX11_carryOut 127 = .ok (.if_icmp .eq 10, 3) := by decide +kernel
theorem dX11_carryOut_130 : decode cX11_carryOut 130 = .ok (.iload 6, 2) := by decide +kernel
theorem dX11_carryOut_132 : decode cX11_carryOut 132 = .ok (.ldc 252, 2) := by decide +kernel
theorem dX11_carryOut_134 : decode cX11_carryOut 134 = .ok (.if_icmp .ne 7, 3) := by decide +kernel
theorem dX11_carryOut_137 : decode cX11_carryOut 137 = .ok (.iconst 1, 1) := by decide +kernel
theorem dX11_carryOut_138 : decode cX11_carryOut 138 = .ok (.goto 4, 3) := by decide +kernel
theorem dX11_carryOut_141 : decode cX11_carryOut 141 = .ok (.iconst 0, 1) := by decide +kernel
theorem dX11_carryOut_142 : decode cX11_carryOut 142 = .ok (.istore 7, 2) := by decide +kernel
theorem dX11_carryOut_144 : decode cX11_carryOut 144 = .ok (.iload 7, 2) := by decide +kernel
theorem dX11_carryOut_146 : decode cX11_carryOut 146 = .ok (.ifCond .eq 8, 3) := by decide +kernel
theorem dX11_carryOut_149 : decode cX11_carryOut 149 = .ok (.bipush (-3), 2) := by decide +kernel
theorem dX11_carryOut_151 : decode cX11_carryOut 151 = .ok (.goto 20, 3) := by decide +kernel
theorem dX11_carryOut_154 : decode cX11_carryOut 154 = .ok (.aload_n 0, 1) := by decide +kernel
theorem dX11_carryOut_155 : decode cX11_carryOut 155 = .ok (.aload_n 0, 1) := by decide +kernel
theorem dX11_carryOut_156 : decode cX11_carryOut 156 = .ok (.getfield 72, 3) := by decide +kernel
theorem dX11_carryOut_159 : decode cX11_carryOut 159 = .ok (.getfield 253, 3) := by decide +kernel
theorem dX11_carryOut_162 : decode cX11_carryOut 162 = .ok (.iload_n 3, 1) := by decide +kernel
theorem dX11_carryOut_163 : decode cX11_carryOut 163 = .ok (.iaload, 1) := by decide +kernel
theorem dX11_carryOut_164 : decode cX11_carryOut 164 = .ok (.iload 5, 2) := by decide +kernel
theorem dX11_carryOut_166 : decode cX11_carryOut 166 = .ok (.iload 6, 2) := by decide +kernel
theorem dX11_carryOut_168 : decode cX11_carryOut 168 = .ok (.invokevirtual 256, 3) := by decide +kernel
theorem dX11_carryOut_171 : decode cX11_carryOut 171 = .ok (.istore 8, 2) := by decide +kernel
theorem dX11_carryOut_173 : decode cX11_carryOut 173 = .ok (.iload 8, 2) := by decide +kernel
theorem dX11_carryOut_175 : decode cX11_carryOut 175 = .ok (.ifCond .ge 13, 3) := by decide +kernel
theorem dX11_carryOut_178 : decode cX11_carryOut 178 = .ok (.aload_n 0, 1) := by decide +kernel
theorem dX11_carryOut_179 : decode cX11_carryOut 179 = .ok (.getfield 117, 3) := by decide +kernel
theorem dX11_carryOut_182 : decode cX11_carryOut 182 = .ok (.iload_n 3, 1) := by decide +kernel
theorem dX11_carryOut_183 : decode cX11_carryOut 183 = .ok (.putfield 215, 3) := by decide +kernel
theorem dX11_carryOut_186 : decode cX11_carryOut 186 = .ok (.iconst (-1), 1) := by decide +kernel
theorem dX11_carryOut_187 : decode cX11_carryOut 187 = .ok (.ireturn, 1) := by decide +kernel
theorem dX11_carryOut_188 : decode cX11_carryOut 188 = .ok (.iinc 1 1, 3) := by decide +kernel
theorem dX11_carryOut_191 : decode cX11_carryOut 191 = .ok (.aload_n 0, 1) := by decide +kernel
theorem dX11_carryOut_192 : decode cX11_carryOut 192 = .ok (.getfield 72, 3) := by decide +kernel
theorem dX11_carryOut_195 : decode cX11_carryOut 195 = .ok (.getfield 253, 3) := by decide +kernel
theorem dX11_carryOut_198 : decode cX11_carryOut 198 = .ok (.iload_n 3, 1) := by decide +kernel
theorem dX11_carryOut_199 : decode cX11_carryOut 199 = .ok (.iaload, 1) := by decide +kernel
theorem dX11_carryOut_200 : decode cX11_carryOut 200 = .ok (.iconst 3, 1) := by decide +kernel
theorem dX11_carryOut_201 : decode cX11_carryOut 201 = .ok (.if_icmp .ne 6, 3) := by decide +kernel
theorem dX11_carryOut_204 : decode cX11_carryOut 204 = .ok (.iload 8, 2) := by decide +kernel
theorem dX11_carryOut_206 : decode cX11_carryOut 206 = .ok (.istore_n 2, 1) := by decide +kernel
theorem dX11_carryOut_207 : decode cX11_carryOut 207 = .ok (.iinc 4 1, 3) := by decide +kernel
theorem dX11_carryOut_210 : decode cX11_carryOut 210 = .ok (.goto (-190), 3) := by decide +kernel
theorem dX11_carryOut_213 : decode cX11_carryOut 213 = .ok (.iinc 3 1, 3) := by decide +kernel
theorem dX11_carryOut_216 : decode cX11_carryOut 216 = .ok (.goto (-210), 3) := by decide +kernel
theorem dX11_carryOut_219 : decode cX11_carryOut 219 = .ok (.iload_n 1, 1) := by decide +kernel
theorem dX11_carryOut_220 : decode cX11_carryOut 220 = .ok (.ireturn, 1) := by decide +kernel
set_option maxRecDepth 100000 in
theorem okm_X11_carryOut : okL RX11 cX11_carryOut 9 (some .int) "carryOut" pcX11_carryOut opX11_carryOut pcX11_carryOut := by
  unfold opX11_carryOut
  refine okL_cons (ok_iconst rfl dX11_carryOut_0) rfl ?_
  refine okL_cons (ok_istore_n rfl dX11_carryOut_1) rfl ?_
  refine okL_cons (ok_iconst rfl dX11_carryOut_2) rfl ?_
  refine okL_cons (ok_istore_n rfl dX11_carryOut_3) rfl ?_
  refine okL_cons (ok_iconst rfl dX11_carryOut_4) rfl ?_
  refine okL_cons (ok_istore_n rfl dX11_carryOut_5) rfl ?_
  refine okL_cons (ok_iload_n rfl dX11_carryOut_6) rfl ?_
  refine okL_cons (ok_aload_n rfl dX11_carryOut_7) rfl ?_
  refine okL_cons (ok_getP kw_424 cf_X11 rfl rfl (by decide) dX11_carryOut_8) rfl ?_
  refine okL_cons (ok_getNI 14 cf_X9 rfl rfl rfl (by decide) dX11_carryOut_11) rfl ?_
  refine okL_cons (ok_icmp_ge rfl dX11_carryOut_14) rfl ?_
  refine okL_cons (ok_iconst rfl dX11_carryOut_17) rfl ?_
  refine okL_cons (ok_istore dX11_carryOut_18) rfl ?_
  refine okL_cons (ok_iload dX11_carryOut_20) rfl ?_
  refine okL_cons (ok_aload_n rfl dX11_carryOut_22) rfl ?_
  refine okL_cons (ok_getP kw_424 cf_X11 rfl rfl (by decide) dX11_carryOut_23) rfl ?_
  refine okL_cons (ok_getNP 24 cf_X9 rfl rfl rfl (by decide) dX11_carryOut_26) rfl ?_
  refine okL_cons (ok_iload_n rfl dX11_carryOut_29) rfl ?_
  refine okL_cons (ok_iaload dX11_carryOut_30) rfl ?_
  refine okL_cons (ok_icmp_ge rfl dX11_carryOut_31) rfl ?_
  refine okL_cons (ok_aload_n rfl dX11_carryOut_34) rfl ?_
  refine okL_cons (ok_iload_n rfl dX11_carryOut_35) rfl ?_
  refine okL_cons (ok_iload_n rfl dX11_carryOut_36) rfl ?_
  refine okL_cons (ok_invV (M' := 117) kw_510 kw_511 kw_512 kw_79 kw_513 cf_X11 rfl (by decide +kernel) dX11_carryOut_37) rfl ?_
  refine okL_cons (ok_aload_n rfl dX11_carryOut_40) rfl ?_
  refine okL_cons (ok_getP kw_429 cf_X11 rfl rfl (by decide) dX11_carryOut_41) rfl ?_
  refine okL_cons (ok_aload_n rfl dX11_carryOut_44) rfl ?_
  refine okL_cons (ok_getP kw_424 cf_X11 rfl rfl (by decide) dX11_carryOut_45) rfl ?_
  refine okL_cons (ok_aload_n rfl dX11_carryOut_48) rfl ?_
  refine okL_cons (ok_getP kw_424 cf_X11 rfl rfl (by decide) dX11_carryOut_49) rfl ?_
  refine okL_cons (ok_getNP 27 cf_X9 rfl rfl rfl (by decide) dX11_carryOut_52) rfl ?_
  refine okL_cons (ok_iload_n rfl dX11_carryOut_55) rfl ?_
  refine okL_cons (ok_iaload dX11_carryOut_56) rfl ?_
  refine okL_cons (ok_aload_n rfl dX11_carryOut_57) rfl ?_
  refine okL_cons (ok_getP kw_430 cf_X11 rfl rfl (by decide) dX11_carryOut_58) rfl ?_
  refine okL_cons (ok_invV (M' := 10) kw_514 kw_265 kw_266 kw_40 kw_267 cf_X0 rfl (by decide +kernel) dX11_carryOut_61) rfl ?_
  refine okL_cons (ok_iconst rfl dX11_carryOut_64) rfl ?_
  refine okL_cons (ok_icmp_eq rfl dX11_carryOut_65) rfl ?_
  refine okL_cons (ok_goto rfl dX11_carryOut_68) rfl ?_
  refine okL_cons (ok_aload_n rfl dX11_carryOut_71) rfl ?_
  refine okL_cons (ok_getP kw_429 cf_X11 rfl rfl (by decide) dX11_carryOut_72) rfl ?_
  refine okL_cons (ok_aload_n rfl dX11_carryOut_75) rfl ?_
  refine okL_cons (ok_getP kw_424 cf_X11 rfl rfl (by decide) dX11_carryOut_76) rfl ?_
  refine okL_cons (ok_aload_n rfl dX11_carryOut_79) rfl ?_
  refine okL_cons (ok_getP kw_424 cf_X11 rfl rfl (by decide) dX11_carryOut_80) rfl ?_
  refine okL_cons (ok_getNP 20 cf_X9 rfl rfl rfl (by decide) dX11_carryOut_83) rfl ?_
  refine okL_cons (ok_iload_n rfl dX11_carryOut_86) rfl ?_
  refine okL_cons (ok_iaload dX11_carryOut_87) rfl ?_
  refine okL_cons (ok_aload_n rfl dX11_carryOut_88) rfl ?_
  refine okL_cons (ok_getP kw_430 cf_X11 rfl rfl (by decide) dX11_carryOut_89) rfl ?_
  refine okL_cons (ok_invV (M' := 10) kw_514 kw_265 kw_266 kw_40 kw_267 cf_X0 rfl (by decide +kernel) dX11_carryOut_92) rfl ?_
  refine okL_cons (ok_istore dX11_carryOut_95) rfl ?_
  refine okL_cons (ok_aload_n rfl dX11_carryOut_97) rfl ?_
  refine okL_cons (ok_getP kw_429 cf_X11 rfl rfl (by decide) dX11_carryOut_98) rfl ?_
  refine okL_cons (ok_aload_n rfl dX11_carryOut_101) rfl ?_
  refine okL_cons (ok_getP kw_424 cf_X11 rfl rfl (by decide) dX11_carryOut_102) rfl ?_
  refine okL_cons (ok_aload_n rfl dX11_carryOut_105) rfl ?_
  refine okL_cons (ok_getP kw_424 cf_X11 rfl rfl (by decide) dX11_carryOut_106) rfl ?_
  refine okL_cons (ok_getNP 22 cf_X9 rfl rfl rfl (by decide) dX11_carryOut_109) rfl ?_
  refine okL_cons (ok_iload_n rfl dX11_carryOut_112) rfl ?_
  refine okL_cons (ok_iaload dX11_carryOut_113) rfl ?_
  refine okL_cons (ok_aload_n rfl dX11_carryOut_114) rfl ?_
  refine okL_cons (ok_getP kw_430 cf_X11 rfl rfl (by decide) dX11_carryOut_115) rfl ?_
  refine okL_cons (ok_invV (M' := 10) kw_514 kw_265 kw_266 kw_40 kw_267 cf_X0 rfl (by decide +kernel) dX11_carryOut_118) rfl ?_
  refine okL_cons (ok_istore dX11_carryOut_121) rfl ?_
  refine okL_cons (ok_iload dX11_carryOut_123) rfl ?_
  refine okL_cons (ok_ldc kw_515 dX11_carryOut_125) rfl ?_
  refine okL_cons (ok_icmp_eq rfl dX11_carryOut_127) rfl ?_
  refine okL_cons (ok_iload dX11_carryOut_130) rfl ?_
  refine okL_cons (ok_ldc kw_515 dX11_carryOut_132) rfl ?_
  refine okL_cons (ok_icmp_ne rfl dX11_carryOut_134) rfl ?_
  refine okL_cons (ok_iconst rfl dX11_carryOut_137) rfl ?_
  refine okL_cons (ok_goto rfl dX11_carryOut_138) rfl ?_
  refine okL_cons (ok_iconst rfl dX11_carryOut_141) rfl ?_
  refine okL_cons (ok_istore dX11_carryOut_142) rfl ?_
  refine okL_cons (ok_iload dX11_carryOut_144) rfl ?_
  refine okL_cons (ok_if_eq rfl dX11_carryOut_146) rfl ?_
  refine okL_cons (ok_bipush rfl dX11_carryOut_149) rfl ?_
  refine okL_cons (ok_goto rfl dX11_carryOut_151) rfl ?_
  refine okL_cons (ok_aload_n rfl dX11_carryOut_154) rfl ?_
  refine okL_cons (ok_aload_n rfl dX11_carryOut_155) rfl ?_
  refine okL_cons (ok_getP kw_424 cf_X11 rfl rfl (by decide) dX11_carryOut_156) rfl ?_
  refine okL_cons (ok_getNP 17 cf_X9 rfl rfl rfl (by decide) dX11_carryOut_159) rfl ?_
  refine okL_cons (ok_iload_n rfl dX11_carryOut_162) rfl ?_
  refine okL_cons (ok_iaload dX11_carryOut_163) rfl ?_
  refine okL_cons (ok_iload dX11_carryOut_164) rfl ?_
  refine okL_cons (ok_iload dX11_carryOut_166) rfl ?_
  refine okL_cons (ok_invV (M' := 126) kw_516 kw_517 kw_518 kw_79 kw_519 cf_X11 rfl (by decide +kernel) dX11_carryOut_168) rfl ?_
  refine okL_cons (ok_istore dX11_carryOut_171) rfl ?_
  refine okL_cons (ok_iload dX11_carryOut_173) rfl ?_
  refine okL_cons (ok_if_ge rfl dX11_carryOut_175) rfl ?_
  refine okL_cons (ok_aload_n rfl dX11_carryOut_178) rfl ?_
  refine okL_cons (ok_getP kw_453 cf_X11 rfl rfl (by decide) dX11_carryOut_179) rfl ?_
  refine okL_cons (ok_iload_n rfl dX11_carryOut_182) rfl ?_
  refine okL_cons (ok_putNI 58 cf_X3 rfl rfl rfl (by decide) rfl dX11_carryOut_183) rfl ?_
  refine okL_cons (ok_iconst rfl dX11_carryOut_186) rfl ?_
  refine okL_cons (ok_ireturn rfl dX11_carryOut_187) rfl ?_
  refine okL_cons (ok_iinc rfl dX11_carryOut_188) rfl ?_
  refine okL_cons (ok_aload_n rfl dX11_carryOut_191) rfl ?_
  refine okL_cons (ok_getP kw_424 cf_X11 rfl rfl (by decide) dX11_carryOut_192) rfl ?_
  refine okL_cons (ok_getNP 17 cf_X9 rfl rfl rfl (by decide) dX11_carryOut_195) rfl ?_
  refine okL_cons (ok_iload_n rfl dX11_carryOut_198) rfl ?_
  refine okL_cons (ok_iaload dX11_carryOut_199) rfl ?_
  refine okL_cons (ok_iconst rfl dX11_carryOut_200) rfl ?_
  refine okL_cons (ok_icmp_ne rfl dX11_carryOut_201) rfl ?_
  refine okL_cons (ok_iload dX11_carryOut_204) rfl ?_
  refine okL_cons (ok_istore_n rfl dX11_carryOut_206) rfl ?_
  refine okL_cons (ok_iinc rfl dX11_carryOut_207) rfl ?_
  refine okL_cons (ok_goto rfl dX11_carryOut_210) rfl ?_
  refine okL_cons (ok_iinc rfl dX11_carryOut_213) rfl ?_
  refine okL_cons (ok_goto rfl dX11_carryOut_216) rfl ?_
  refine okL_cons (ok_iload_n rfl dX11_carryOut_219) rfl ?_
  exact okL_one (ok_ireturn rfl dX11_carryOut_220)
theorem dX11_fillOrderFacts_0 : decode cX11_fillOrderFacts 0 = .ok (.aload_n 0, 1) := by decide +kernel
theorem dX11_fillOrderFacts_1 : decode cX11_fillOrderFacts 1 = .ok (.getfield 83, 3) := by decide +kernel
theorem dX11_fillOrderFacts_4 : decode cX11_fillOrderFacts 4 = .ok (.iconst 0, 1) := by decide +kernel
theorem dX11_fillOrderFacts_5 : decode cX11_fillOrderFacts 5 = .ok (.aload_n 0, 1) := by decide +kernel
theorem dX11_fillOrderFacts_6 : decode cX11_fillOrderFacts 6 = .ok (.getfield 20, 3) := by decide +kernel
theorem dX11_fillOrderFacts_9 : decode cX11_fillOrderFacts 9 = .ok (.getfield 169, 3) := by decide +kernel
theorem dX11_fillOrderFacts_12 : decode cX11_fillOrderFacts 12 = .ok (.iastore, 1) := by decide +kernel
theorem dX11_fillOrderFacts_13 : decode cX11_fillOrderFacts 13 = .ok (.aload_n 0, 1) := by decide +kernel
theorem dX11_fillOrderFacts_14 : decode cX11_fillOrderFacts 14 = .ok (.getfield 83, 3) := by decide +kernel
theorem dX11_fillOrderFacts_17 : decode cX11_fillOrderFacts 17 = .ok (.iconst 1, 1) := by decide +kernel
theorem dX11_fillOrderFacts_18 : decode cX11_fillOrderFacts 18 = .ok (.iload_n 1, 1) := by decide +kernel
theorem dX11_fillOrderFacts_19 : decode cX11_fillOrderFacts 19 = .ok (.iastore, 1) := by decide +kernel
theorem dX11_fillOrderFacts_20 : decode cX11_fillOrderFacts 20 = .ok (.aload_n 0, 1) := by decide +kernel
theorem dX11_fillOrderFacts_21 : decode cX11_fillOrderFacts 21 = .ok (.getfield 83, 3) := by decide +kernel
theorem dX11_fillOrderFacts_24 : decode cX11_fillOrderFacts 24 = .ok (.iconst 2, 1) := by decide +kernel
theorem dX11_fillOrderFacts_25 : decode cX11_fillOrderFacts 25 = .ok (.iload_n 2, 1) := by decide +kernel
theorem dX11_fillOrderFacts_26 : decode cX11_fillOrderFacts 26 = .ok (.iastore, 1) := by decide +kernel
theorem dX11_fillOrderFacts_27 : decode cX11_fillOrderFacts 27 = .ok (.aload_n 0, 1) := by decide +kernel
theorem dX11_fillOrderFacts_28 : decode cX11_fillOrderFacts 28 = .ok (.getfield 83, 3) := by decide +kernel
theorem dX11_fillOrderFacts_31 : decode cX11_fillOrderFacts 31 = .ok (.iconst 3, 1) := by decide +kernel
theorem dX11_fillOrderFacts_32 : decode cX11_fillOrderFacts 32 = .ok (.aload_n 0, 1) := by decide +kernel
theorem dX11_fillOrderFacts_33 : decode cX11_fillOrderFacts 33 = .ok (.getfield 20, 3) := by decide +kernel
theorem dX11_fillOrderFacts_36 : decode cX11_fillOrderFacts 36 = .ok (.iconst 0, 1) := by decide +kernel
theorem dX11_fillOrderFacts_37 : decode cX11_fillOrderFacts 37 = .ok (.invokevirtual 260, 3) := by decide +kernel
theorem dX11_fillOrderFacts_40 : decode cX11_fillOrderFacts 40 = .ok (.iastore, 1) := by decide +kernel
theorem dX11_fillOrderFacts_41 : decode cX11_fillOrderFacts 41 = .ok (.aload_n 0, 1) := by decide +kernel
theorem dX11_fillOrderFacts_42 : decode cX11_fillOrderFacts 42 = .ok (.getfield 83, 3) := by decide +kernel
theorem dX11_fillOrderFacts_45 : decode cX11_fillOrderFacts 45 = .ok (.iconst 4, 1) := by decide +kernel
theorem dX11_fillOrderFacts_46 : decode cX11_fillOrderFacts 46 = .ok (.aload_n 0, 1) := by decide +kernel
theorem dX11_fillOrderFacts_47 : decode cX11_fillOrderFacts 47 = .ok (.getfield 20, 3) := by decide +kernel
theorem dX11_fillOrderFacts_50 : decode cX11_fillOrderFacts 50 = .ok (.iconst 2, 1) := by decide +kernel
theorem dX11_fillOrderFacts_51 : decode cX11_fillOrderFacts 51 = .ok (.invokevirtual 260, 3) := by decide +kernel
theorem dX11_fillOrderFacts_54 : decode cX11_fillOrderFacts 54 = .ok (.iastore, 1) := by decide +kernel
theorem dX11_fillOrderFacts_55 : decode cX11_fillOrderFacts 55 = .ok (.aload_n 0, 1) := by decide +kernel
theorem dX11_fillOrderFacts_56 : decode cX11_fillOrderFacts 56 = .ok (.getfield 20, 3) := by decide +kernel
theorem dX11_fillOrderFacts_59 : decode cX11_fillOrderFacts 59 = .ok (.getfield 263, 3) := by decide +kernel
theorem dX11_fillOrderFacts_62 : decode cX11_fillOrderFacts 62 = .ok (.iconst 0, 1) := by decide +kernel
theorem dX11_fillOrderFacts_63 : decode cX11_fillOrderFacts 63 = .ok (.aload_n 0, 1) := by decide +kernel
theorem dX11_fillOrderFacts_64 : decode cX11_fillOrderFacts 64 = .ok (.getfield 83, 3) := by decide +kernel
theorem dX11_fillOrderFacts_67 : decode cX11_fillOrderFacts 67 = .ok (.iconst 5, 1) := by decide +kernel
theorem dX11_fillOrderFacts_68 : decode cX11_fillOrderFacts 68 = .ok (.bipush 8, 2) := by decide +kernel
theorem dX11_fillOrderFacts_70 : decode cX11_fillOrderFacts 70 = .ok (.invokestatic 266, 3) := by decide +kernel
theorem dX11_fillOrderFacts_73 : decode cX11_fillOrderFacts 73 = .ok (.aload_n 0, 1) := by decide +kernel
theorem dX11_fillOrderFacts_74 : decode cX11_fillOrderFacts 74 = .ok (.getfield 20, 3) := by decide +kernel
theorem dX11_fillOrderFacts_77 : decode cX11_fillOrderFacts 77 = .ok (.getfield 133, 3) := by decide +kernel
theorem dX11_fillOrderFacts_80 : decode cX11_fillOrderFacts 80 = .ok (.iconst 0, 1) := by decide +kernel
theorem dX11_fillOrderFacts_81 : decode cX11_fillOrderFacts 81 = .ok (.aload_n 0, 1) := by decide +kernel
theorem dX11_fillOrderFacts_82 : decode cX11_fillOrderFacts 82 = .ok (.getfield 83, 3) := by decide +kernel
theorem dX11_fillOrderFacts_85 : decode cX11_fillOrderFacts 85 = .ok (.bipush 13, 2) := by decide +kernel
theorem dX11_fillOrderFacts_87 : decode cX11_fillOrderFacts 87 = .ok (.bipush 25, 2) := by decide +kernel
theorem dX11_fillOrderFacts_89 : decode cX11_fillOrderFacts 89 = .ok (.invokestatic 266, 3) := by decide +kernel
theorem dX11_fillOrderFacts_92 : decode cX11_fillOrderFacts 92 = .ok (.return_, 1) := by decide +kernel
set_option maxRecDepth 100000 in
theorem okm_X11_fillOrderFacts : okL RX11 cX11_fillOrderFacts 3 none "fillOrderFacts" pcX11_fillOrderFacts opX11_fillOrderFacts pcX11_fillOrderFacts := by
  unfold opX11_fillOrderFacts
  refine okL_cons (ok_aload_n rfl dX11_fillOrderFacts_0) rfl ?_
  refine okL_cons (ok_getP kw_430 cf_X11 rfl rfl (by decide) dX11_fillOrderFacts_1) rfl ?_
  refine okL_cons (ok_iconst rfl dX11_fillOrderFacts_4) rfl ?_
  refine okL_cons (ok_aload_n rfl dX11_fillOrderFacts_5) rfl ?_
  refine okL_cons (ok_getP kw_395 cf_X11 rfl rfl (by decide) dX11_fillOrderFacts_6) rfl ?_
  refine okL_cons (ok_getNI 8 cf_X2 rfl rfl rfl (by decide) dX11_fillOrderFacts_9) rfl ?_
  refine okL_cons (ok_iastore dX11_fillOrderFacts_12) rfl ?_
  refine okL_cons (ok_aload_n rfl dX11_fillOrderFacts_13) rfl ?_
  refine okL_cons (ok_getP kw_430 cf_X11 rfl rfl (by decide) dX11_fillOrderFacts_14) rfl ?_
  refine okL_cons (ok_iconst rfl dX11_fillOrderFacts_17) rfl ?_
  refine okL_cons (ok_iload_n rfl dX11_fillOrderFacts_18) rfl ?_
  refine okL_cons (ok_iastore dX11_fillOrderFacts_19) rfl ?_
  refine okL_cons (ok_aload_n rfl dX11_fillOrderFacts_20) rfl ?_
  refine okL_cons (ok_getP kw_430 cf_X11 rfl rfl (by decide) dX11_fillOrderFacts_21) rfl ?_
  refine okL_cons (ok_iconst rfl dX11_fillOrderFacts_24) rfl ?_
  refine okL_cons (ok_iload_n rfl dX11_fillOrderFacts_25) rfl ?_
  refine okL_cons (ok_iastore dX11_fillOrderFacts_26) rfl ?_
  refine okL_cons (ok_aload_n rfl dX11_fillOrderFacts_27) rfl ?_
  refine okL_cons (ok_getP kw_430 cf_X11 rfl rfl (by decide) dX11_fillOrderFacts_28) rfl ?_
  refine okL_cons (ok_iconst rfl dX11_fillOrderFacts_31) rfl ?_
  refine okL_cons (ok_aload_n rfl dX11_fillOrderFacts_32) rfl ?_
  refine okL_cons (ok_getP kw_395 cf_X11 rfl rfl (by decide) dX11_fillOrderFacts_33) rfl ?_
  refine okL_cons (ok_iconst rfl dX11_fillOrderFacts_36) rfl ?_
  refine okL_cons (ok_invV (M' := 20) kw_520 kw_521 kw_522 kw_47 kw_523 cf_X2 rfl (by decide +kernel) dX11_fillOrderFacts_37) rfl ?_
  refine okL_cons (ok_iastore dX11_fillOrderFacts_40) rfl ?_
  refine okL_cons (ok_aload_n rfl dX11_fillOrderFacts_41) rfl ?_
  refine okL_cons (ok_getP kw_430 cf_X11 rfl rfl (by decide) dX11_fillOrderFacts_42) rfl ?_
  refine okL_cons (ok_iconst rfl dX11_fillOrderFacts_45) rfl ?_
  refine okL_cons (ok_aload_n rfl dX11_fillOrderFacts_46) rfl ?_
  refine okL_cons (ok_getP kw_395 cf_X11 rfl rfl (by decide) dX11_fillOrderFacts_47) rfl ?_
  refine okL_cons (ok_iconst rfl dX11_fillOrderFacts_50) rfl ?_
  refine okL_cons (ok_invV (M' := 20) kw_520 kw_521 kw_522 kw_47 kw_523 cf_X2 rfl (by decide +kernel) dX11_fillOrderFacts_51) rfl ?_
  refine okL_cons (ok_iastore dX11_fillOrderFacts_54) rfl ?_
  refine okL_cons (ok_aload_n rfl dX11_fillOrderFacts_55) rfl ?_
  refine okL_cons (ok_getP kw_395 cf_X11 rfl rfl (by decide) dX11_fillOrderFacts_56) rfl ?_
  refine okL_cons (ok_getNP 4 cf_X2 rfl rfl rfl (by decide) dX11_fillOrderFacts_59) rfl ?_
  refine okL_cons (ok_iconst rfl dX11_fillOrderFacts_62) rfl ?_
  refine okL_cons (ok_aload_n rfl dX11_fillOrderFacts_63) rfl ?_
  refine okL_cons (ok_getP kw_430 cf_X11 rfl rfl (by decide) dX11_fillOrderFacts_64) rfl ?_
  refine okL_cons (ok_iconst rfl dX11_fillOrderFacts_67) rfl ?_
  refine okL_cons (ok_bipush rfl dX11_fillOrderFacts_68) rfl ?_
  refine okL_cons (ok_cpy kw_524 kw_69 kw_70 kw_71 dX11_fillOrderFacts_70) rfl ?_
  refine okL_cons (ok_aload_n rfl dX11_fillOrderFacts_73) rfl ?_
  refine okL_cons (ok_getP kw_395 cf_X11 rfl rfl (by decide) dX11_fillOrderFacts_74) rfl ?_
  refine okL_cons (ok_getNP 6 cf_X2 rfl rfl rfl (by decide) dX11_fillOrderFacts_77) rfl ?_
  refine okL_cons (ok_iconst rfl dX11_fillOrderFacts_80) rfl ?_
  refine okL_cons (ok_aload_n rfl dX11_fillOrderFacts_81) rfl ?_
  refine okL_cons (ok_getP kw_430 cf_X11 rfl rfl (by decide) dX11_fillOrderFacts_82) rfl ?_
  refine okL_cons (ok_bipush rfl dX11_fillOrderFacts_85) rfl ?_
  refine okL_cons (ok_bipush rfl dX11_fillOrderFacts_87) rfl ?_
  refine okL_cons (ok_cpy kw_524 kw_69 kw_70 kw_71 dX11_fillOrderFacts_89) rfl ?_
  exact okL_one (ok_return rfl dX11_fillOrderFacts_92)
theorem dX11_fault_0 : decode cX11_fault 0 = .ok (.aload_n 0, 1) := by decide +kernel
theorem dX11_fault_1 : decode cX11_fault 1 = .ok (.getfield 117, 3) := by decide +kernel
theorem dX11_fault_4 : decode cX11_fault 4 = .ok (.getfield 212, 3) := by decide +kernel
theorem dX11_fault_7 : decode cX11_fault 7 = .ok (.ireturn, 1) := by decide +kernel
set_option maxRecDepth 100000 in
theorem okm_X11_fault : okL RX11 cX11_fault 1 (some .int) "fault" pcX11_fault opX11_fault pcX11_fault := by
  unfold opX11_fault
  refine okL_cons (ok_aload_n rfl dX11_fault_0) rfl ?_
  refine okL_cons (ok_getP kw_453 cf_X11 rfl rfl (by decide) dX11_fault_1) rfl ?_
  refine okL_cons (ok_getNI 57 cf_X3 rfl rfl rfl (by decide) dX11_fault_4) rfl ?_
  exact okL_one (ok_ireturn rfl dX11_fault_7)
theorem dX11_stopped_0 : decode cX11_stopped 0 = .ok (.aload_n 0, 1) := by decide +kernel
theorem dX11_stopped_1 : decode cX11_stopped 1 = .ok (.getfield 117, 3) := by decide +kernel
theorem dX11_stopped_4 : decode cX11_stopped 4 = .ok (.getfield 215, 3) := by decide +kernel
theorem dX11_stopped_7 : decode cX11_stopped 7 = .ok (.ireturn, 1) := by decide +kernel
set_option maxRecDepth 100000 in
theorem okm_X11_stopped : okL RX11 cX11_stopped 1 (some .int) "stopped" pcX11_stopped opX11_stopped pcX11_stopped := by
  unfold opX11_stopped
  refine okL_cons (ok_aload_n rfl dX11_stopped_0) rfl ?_
  refine okL_cons (ok_getP kw_453 cf_X11 rfl rfl (by decide) dX11_stopped_1) rfl ?_
  refine okL_cons (ok_getNI 58 cf_X3 rfl rfl rfl (by decide) dX11_stopped_4) rfl ?_
  exact okL_one (ok_ireturn rfl dX11_stopped_7)
theorem dX11_force_0 : decode cX11_force 0 = .ok (.aload_n 0, 1) := by decide +kernel
theorem dX11_force_1 : decode cX11_force 1 = .ok (.iload_n 1, 1) := by decide +kernel
theorem dX11_force_2 : decode cX11_force 2 = .ok (.invokevirtual 272, 3) := by decide +kernel
theorem dX11_force_5 : decode cX11_force 5 = .ok (.ifCond .ne 13, 3) := by decide +kernel
theorem dX11_force_8 : decode cX11_force 8 = .ok (.aload_n 0, 1) := by decide +kernel
theorem dX11_force_9 : decode cX11_force 9 = .ok (.getfield 117, 3) := by decide +kernel
theorem dX11_force_12 : decode cX11_force 12 = .ok (.bipush (-2), 2) := by decide +kernel
theorem dX11_force_14 : decode cX11_force 14 = .ok (.invokevirtual 152, 3) := by decide +kernel
theorem dX11_force_17 : decode cX11_force 17 = .ok (.ireturn, 1) := by decide +kernel
theorem dX11_force_18 : decode cX11_force 18 = .ok (.aload_n 0, 1) := by decide +kernel
theorem dX11_force_19 : decode cX11_force 19 = .ok (.getfield 12, 3) := by decide +kernel
theorem dX11_force_22 : decode cX11_force 22 = .ok (.getfield 125, 3) := by decide +kernel
theorem dX11_force_25 : decode cX11_force 25 = .ok (.istore_n 2, 1) := by decide +kernel
theorem dX11_force_26 : decode cX11_force 26 = .ok (.aload_n 0, 1) := by decide +kernel
theorem dX11_force_27 : decode cX11_force 27 = .ok (.getfield 12, 3) := by decide +kernel
theorem dX11_force_30 : decode cX11_force 30 = .ok (.iload_n 1, 1) := by decide +kernel
theorem dX11_force_31 : decode cX11_force 31 = .ok (.putfield 125, 3) := by decide +kernel
theorem dX11_force_34 : decode cX11_force 34 = .ok (.aload_n 0, 1) := by decide +kernel
theorem dX11_force_35 : decode cX11_force 35 = .ok (.getfield 117, 3) := by decide +kernel
theorem dX11_force_38 : decode cX11_force 38 = .ok (.iload_n 2, 1) := by decide +kernel
theorem dX11_force_39 : decode cX11_force 39 = .ok (.invokevirtual 159, 3) := by decide +kernel
theorem dX11_force_42 : decode cX11_force 42 = .ok (.ireturn, 1) := by decide +kernel
set_option maxRecDepth 100000 in
theorem okm_X11_force : okL RX11 cX11_force 3 (some .int) "force" pcX11_force opX11_force pcX11_force := by
  unfold opX11_force
  refine okL_cons (ok_aload_n rfl dX11_force_0) rfl ?_
  refine okL_cons (ok_iload_n rfl dX11_force_1) rfl ?_
  refine okL_cons (ok_invV (M' := 121) kw_525 kw_526 kw_527 kw_79 kw_528 cf_X11 rfl (by decide +kernel) dX11_force_2) rfl ?_
  refine okL_cons (ok_if_ne rfl dX11_force_5) rfl ?_
  refine okL_cons (ok_aload_n rfl dX11_force_8) rfl ?_
  refine okL_cons (ok_getP kw_453 cf_X11 rfl rfl (by decide) dX11_force_9) rfl ?_
  refine okL_cons (ok_bipush rfl dX11_force_12) rfl ?_
  refine okL_cons (ok_invV (M' := 25) kw_467 kw_108 kw_109 kw_110 kw_111 cf_X3 rfl (by decide +kernel) dX11_force_14) rfl ?_
  refine okL_cons (ok_ireturn rfl dX11_force_17) rfl ?_
  refine okL_cons (ok_aload_n rfl dX11_force_18) rfl ?_
  refine okL_cons (ok_getP kw_394 cf_X11 rfl rfl (by decide) dX11_force_19) rfl ?_
  refine okL_cons (ok_getNI 45 cf_X1 rfl rfl rfl (by decide) dX11_force_22) rfl ?_
  refine okL_cons (ok_istore_n rfl dX11_force_25) rfl ?_
  refine okL_cons (ok_aload_n rfl dX11_force_26) rfl ?_
  refine okL_cons (ok_getP kw_394 cf_X11 rfl rfl (by decide) dX11_force_27) rfl ?_
  refine okL_cons (ok_iload_n rfl dX11_force_30) rfl ?_
  refine okL_cons (ok_putNI 45 cf_X1 rfl rfl rfl (by decide) rfl dX11_force_31) rfl ?_
  refine okL_cons (ok_aload_n rfl dX11_force_34) rfl ?_
  refine okL_cons (ok_getP kw_453 cf_X11 rfl rfl (by decide) dX11_force_35) rfl ?_
  refine okL_cons (ok_iload_n rfl dX11_force_38) rfl ?_
  refine okL_cons (ok_invV (M' := 26) kw_472 kw_113 kw_114 kw_110 kw_115 cf_X3 rfl (by decide +kernel) dX11_force_39) rfl ?_
  exact okL_one (ok_ireturn rfl dX11_force_42)
theorem dX11_isLawOrNone_0 : decode cX11_isLawOrNone 0 = .ok (.iload_n 1, 1) := by decide +kernel
theorem dX11_isLawOrNone_1 : decode cX11_isLawOrNone 1 = .ok (.iconst (-1), 1) := by decide +kernel
theorem dX11_isLawOrNone_2 : decode cX11_isLawOrNone 2 = .ok (.if_icmp .lt 18, 3) := by decide +kernel
theorem dX11_isLawOrNone_5 : decode cX11_isLawOrNone 5 = .ok (.iload_n 1, 1) := by decide +kernel
theorem dX11_isLawOrNone_6 : decode cX11_isLawOrNone 6 = .ok (.aload_n 0, 1) := by decide +kernel
theorem dX11_isLawOrNone_7 : decode cX11_isLawOrNone 7 = .ok (.getfield 12, 3) := by decide +kernel
theorem dX11_isLawOrNone_10 : decode cX11_isLawOrNone 10 = .ok (.getfield 201, 3) := by decide +kernel
theorem dX11_isLawOrNone_13 : decode cX11_isLawOrNone 13 = .ok (.if_icmp .ge 7, 3) := by decide +kernel
theorem dX11_isLawOrNone_16 : decode cX11_isLawOrNone 16 = .ok (.iconst 1, 1) := by decide +kernel
theorem dX11_isLawOrNone_17 : decode cX11_isLawOrNone 17 = .ok (.goto 4, 3) := by decide +kernel
theorem dX11_isLawOrNone_20 : decode cX11_isLawOrNone 20 = .ok (.iconst 0, 1) := by decide +kernel
theorem dX11_isLawOrNone_21 : decode cX11_isLawOrNone 21 = .ok (.ireturn, 1) := by decide +kernel
set_option maxRecDepth 100000 in
theorem okm_X11_isLawOrNone : okL RX11 cX11_isLawOrNone 2 (some .boolean) "isLawOrNone" pcX11_isLawOrNone opX11_isLawOrNone pcX11_isLawOrNone := by
  unfold opX11_isLawOrNone
  refine okL_cons (ok_iload_n rfl dX11_isLawOrNone_0) rfl ?_
  refine okL_cons (ok_iconst rfl dX11_isLawOrNone_1) rfl ?_
  refine okL_cons (ok_icmp_lt rfl dX11_isLawOrNone_2) rfl ?_
  refine okL_cons (ok_iload_n rfl dX11_isLawOrNone_5) rfl ?_
  refine okL_cons (ok_aload_n rfl dX11_isLawOrNone_6) rfl ?_
  refine okL_cons (ok_getP kw_394 cf_X11 rfl rfl (by decide) dX11_isLawOrNone_7) rfl ?_
  refine okL_cons (ok_getNI 44 cf_X1 rfl rfl rfl (by decide) dX11_isLawOrNone_10) rfl ?_
  refine okL_cons (ok_icmp_ge rfl dX11_isLawOrNone_13) rfl ?_
  refine okL_cons (ok_iconst rfl dX11_isLawOrNone_16) rfl ?_
  refine okL_cons (ok_goto rfl dX11_isLawOrNone_17) rfl ?_
  refine okL_cons (ok_iconst rfl dX11_isLawOrNone_20) rfl ?_
  exact okL_one (ok_zreturn rfl dX11_isLawOrNone_21)
theorem dX11_spill_0 : decode cX11_spill 0 = .ok (.aload_n 0, 1) := by decide +kernel
theorem dX11_spill_1 : decode cX11_spill 1 = .ok (.getfield 117, 3) := by decide +kernel
theorem dX11_spill_4 : decode cX11_spill 4 = .ok (.aload_n 0, 1) := by decide +kernel
theorem dX11_spill_5 : decode cX11_spill 5 = .ok (.iconst 0, 1) := by decide +kernel
theorem dX11_spill_6 : decode cX11_spill 6 = .ok (.iload_n 1, 1) := by decide +kernel
theorem dX11_spill_7 : decode cX11_spill 7 = .ok (.iload_n 2, 1) := by decide +kernel
theorem dX11_spill_8 : decode cX11_spill 8 = .ok (.invokevirtual 256, 3) := by decide +kernel
theorem dX11_spill_11 : decode cX11_spill 11 = .ok (.invokevirtual 275, 3) := by decide +kernel
theorem dX11_spill_14 : decode cX11_spill 14 = .ok (.ireturn, 1) := by decide +kernel
set_option maxRecDepth 100000 in
theorem okm_X11_spill : okL RX11 cX11_spill 3 (some .int) "spill" pcX11_spill opX11_spill pcX11_spill := by
  unfold opX11_spill
  refine okL_cons (ok_aload_n rfl dX11_spill_0) rfl ?_
  refine okL_cons (ok_getP kw_453 cf_X11 rfl rfl (by decide) dX11_spill_1) rfl ?_
  refine okL_cons (ok_aload_n rfl dX11_spill_4) rfl ?_
  refine okL_cons (ok_iconst rfl dX11_spill_5) rfl ?_
  refine okL_cons (ok_iload_n rfl dX11_spill_6) rfl ?_
  refine okL_cons (ok_iload_n rfl dX11_spill_7) rfl ?_
  refine okL_cons (ok_invV (M' := 126) kw_516 kw_517 kw_518 kw_79 kw_519 cf_X11 rfl (by decide +kernel) dX11_spill_8) rfl ?_
  refine okL_cons (ok_invV (M' := 27) kw_529 kw_530 kw_531 kw_110 kw_532 cf_X3 rfl (by decide +kernel) dX11_spill_11) rfl ?_
  exact okL_one (ok_ireturn rfl dX11_spill_14)
theorem dX11_raise_0 : decode cX11_raise 0 = .ok (.aload_n 0, 1) := by decide +kernel
theorem dX11_raise_1 : decode cX11_raise 1 = .ok (.getfield 117, 3) := by decide +kernel
theorem dX11_raise_4 : decode cX11_raise 4 = .ok (.aload_n 0, 1) := by decide +kernel
theorem dX11_raise_5 : decode cX11_raise 5 = .ok (.iconst 1, 1) := by decide +kernel
theorem dX11_raise_6 : decode cX11_raise 6 = .ok (.iload_n 1, 1) := by decide +kernel
theorem dX11_raise_7 : decode cX11_raise 7 = .ok (.iload_n 2, 1) := by decide +kernel
theorem dX11_raise_8 : decode cX11_raise 8 = .ok (.invokevirtual 256, 3) := by decide +kernel
theorem dX11_raise_11 : decode cX11_raise 11 = .ok (.invokevirtual 275, 3) := by decide +kernel
theorem dX11_raise_14 : decode cX11_raise 14 = .ok (.ireturn, 1) := by decide +kernel
set_option maxRecDepth 100000 in
theorem okm_X11_raise : okL RX11 cX11_raise 3 (some .int) "raise" pcX11_raise opX11_raise pcX11_raise := by
  unfold opX11_raise
  refine okL_cons (ok_aload_n rfl dX11_raise_0) rfl ?_
  refine okL_cons (ok_getP kw_453 cf_X11 rfl rfl (by decide) dX11_raise_1) rfl ?_
  refine okL_cons (ok_aload_n rfl dX11_raise_4) rfl ?_
  refine okL_cons (ok_iconst rfl dX11_raise_5) rfl ?_
  refine okL_cons (ok_iload_n rfl dX11_raise_6) rfl ?_
  refine okL_cons (ok_iload_n rfl dX11_raise_7) rfl ?_
  refine okL_cons (ok_invV (M' := 126) kw_516 kw_517 kw_518 kw_79 kw_519 cf_X11 rfl (by decide +kernel) dX11_raise_8) rfl ?_
  refine okL_cons (ok_invV (M' := 27) kw_529 kw_530 kw_531 kw_110 kw_532 cf_X3 rfl (by decide +kernel) dX11_raise_11) rfl ?_
  exact okL_one (ok_ireturn rfl dX11_raise_14)
theorem dX11_split_0 : decode cX11_split 0 = .ok (.aload_n 0, 1) := by decide +kernel
theorem dX11_split_1 : decode cX11_split 1 = .ok (.getfield 117, 3) := by decide +kernel
theorem dX11_split_4 : decode cX11_split 4 = .ok (.aload_n 0, 1) := by decide +kernel
theorem dX11_split_5 : decode cX11_split 5 = .ok (.iconst 2, 1) := by decide +kernel
theorem dX11_split_6 : decode cX11_split 6 = .ok (.iload_n 1, 1) := by decide +kernel
theorem dX11_split_7 : decode cX11_split 7 = .ok (.iload_n 2, 1) := by decide +kernel
theorem dX11_split_8 : decode cX11_split 8 = .ok (.invokevirtual 256, 3) := by decide +kernel
theorem dX11_split_11 : decode cX11_split 11 = .ok (.invokevirtual 275, 3) := by decide +kernel
theorem dX11_split_14 : decode cX11_split 14 = .ok (.ireturn, 1) := by decide +kernel
set_option maxRecDepth 100000 in
theorem okm_X11_split : okL RX11 cX11_split 3 (some .int) "split" pcX11_split opX11_split pcX11_split := by
  unfold opX11_split
  refine okL_cons (ok_aload_n rfl dX11_split_0) rfl ?_
  refine okL_cons (ok_getP kw_453 cf_X11 rfl rfl (by decide) dX11_split_1) rfl ?_
  refine okL_cons (ok_aload_n rfl dX11_split_4) rfl ?_
  refine okL_cons (ok_iconst rfl dX11_split_5) rfl ?_
  refine okL_cons (ok_iload_n rfl dX11_split_6) rfl ?_
  refine okL_cons (ok_iload_n rfl dX11_split_7) rfl ?_
  refine okL_cons (ok_invV (M' := 126) kw_516 kw_517 kw_518 kw_79 kw_519 cf_X11 rfl (by decide +kernel) dX11_split_8) rfl ?_
  refine okL_cons (ok_invV (M' := 27) kw_529 kw_530 kw_531 kw_110 kw_532 cf_X3 rfl (by decide +kernel) dX11_split_11) rfl ?_
  exact okL_one (ok_ireturn rfl dX11_split_14)
theorem dX11_pass_0 : decode cX11_pass 0 = .ok (.aload_n 0, 1) := by decide +kernel
theorem dX11_pass_1 : decode cX11_pass 1 = .ok (.getfield 117, 3) := by decide +kernel
theorem dX11_pass_4 : decode cX11_pass 4 = .ok (.aload_n 0, 1) := by decide +kernel
theorem dX11_pass_5 : decode cX11_pass 5 = .ok (.iconst 3, 1) := by decide +kernel
theorem dX11_pass_6 : decode cX11_pass 6 = .ok (.iconst 0, 1) := by decide +kernel
theorem dX11_pass_7 : decode cX11_pass 7 = .ok (.iconst 0, 1) := by decide +kernel
theorem dX11_pass_8 : decode cX11_pass 8 = .ok (.invokevirtual 256, 3) := by decide +kernel
theorem dX11_pass_11 : decode cX11_pass 11 = .ok (.invokevirtual 275, 3) := by decide +kernel
theorem dX11_pass_14 : decode cX11_pass 14 = .ok (.ireturn, 1) := by decide +kernel
set_option maxRecDepth 100000 in
theorem okm_X11_pass : okL RX11 cX11_pass 1 (some .int) "pass" pcX11_pass opX11_pass pcX11_pass := by
  unfold opX11_pass
  refine okL_cons (ok_aload_n rfl dX11_pass_0) rfl ?_
  refine okL_cons (ok_getP kw_453 cf_X11 rfl rfl (by decide) dX11_pass_1) rfl ?_
  refine okL_cons (ok_aload_n rfl dX11_pass_4) rfl ?_
  refine okL_cons (ok_iconst rfl dX11_pass_5) rfl ?_
  refine okL_cons (ok_iconst rfl dX11_pass_6) rfl ?_
  refine okL_cons (ok_iconst rfl dX11_pass_7) rfl ?_
  refine okL_cons (ok_invV (M' := 126) kw_516 kw_517 kw_518 kw_79 kw_519 cf_X11 rfl (by decide +kernel) dX11_pass_8) rfl ?_
  refine okL_cons (ok_invV (M' := 27) kw_529 kw_530 kw_531 kw_110 kw_532 cf_X3 rfl (by decide +kernel) dX11_pass_11) rfl ?_
  exact okL_one (ok_ireturn rfl dX11_pass_14)
