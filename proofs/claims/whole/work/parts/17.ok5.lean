theorem dX12_behindSum_0 : decode cX12_behindSum 0 = .ok (.aload_n 0, 1) := by decide +kernel
theorem dX12_behindSum_1 : decode cX12_behindSum 1 = .ok (.bipush 43, 2) := by decide +kernel
theorem dX12_behindSum_3 : decode cX12_behindSum 3 = .ok (.invokevirtual 301, 3) := by decide +kernel
theorem dX12_behindSum_6 : decode cX12_behindSum 6 = .ok (.ifCond .eq 8, 3) := by decide +kernel
theorem dX12_behindSum_9 : decode cX12_behindSum 9 = .ok (.bipush 20, 2) := by decide +kernel
theorem dX12_behindSum_11 : decode cX12_behindSum 11 = .ok (.goto 60, 3) := by decide +kernel
theorem dX12_behindSum_14 : decode cX12_behindSum 14 = .ok (.aload_n 0, 1) := by decide +kernel
theorem dX12_behindSum_15 : decode cX12_behindSum 15 = .ok (.bipush 45, 2) := by decide +kernel
theorem dX12_behindSum_17 : decode cX12_behindSum 17 = .ok (.invokevirtual 301, 3) := by decide +kernel
theorem dX12_behindSum_20 : decode cX12_behindSum 20 = .ok (.ifCond .eq 8, 3) := by decide +kernel
theorem dX12_behindSum_23 : decode cX12_behindSum 23 = .ok (.bipush 21, 2) := by decide +kernel
theorem dX12_behindSum_25 : decode cX12_behindSum 25 = .ok (.goto 46, 3) := by decide +kernel
theorem dX12_behindSum_28 : decode cX12_behindSum 28 = .ok (.aload_n 0, 1) := by decide +kernel
theorem dX12_behindSum_29 : decode cX12_behindSum 29 = .ok (.bipush 42, 2) := by decide +kernel
theorem dX12_behindSum_31 : decode cX12_behindSum 31 = .ok (.invokevirtual 301, 3) := by decide +kernel
theorem dX12_behindSum_34 : decode cX12_behindSum 34 = .ok (.ifCond .eq 8, 3) := by decide +kernel
theorem dX12_behindSum_37 : decode cX12_behindSum 37 = .ok (.bipush 22, 2) := by decide +kernel
theorem dX12_behindSum_39 : decode cX12_behindSum 39 = .ok (.goto 32, 3) := by decide +kernel
theorem dX12_behindSum_42 : decode cX12_behindSum 42 = .ok (.aload_n 0, 1) := by decide +kernel
theorem dX12_behindSum_43 : decode cX12_behindSum 43 = .ok (.bipush 47, 2) := by decide +kernel
theorem dX12_behindSum_45 : decode cX12_behindSum 45 = .ok (.invokevirtual 301, 3) := by decide +kernel
theorem dX12_behindSum_48 : decode cX12_behindSum 48 = .ok (.ifCond .eq 8, 3) := by decide +kernel
theorem dX12_behindSum_51 : decode cX12_behindSum 51 = .ok (.bipush 23, 2) := by decide +kernel
theorem dX12_behindSum_53 : decode cX12_behindSum 53 = .ok (.goto 18, 3) := by decide +kernel
theorem dX12_behindSum_56 : decode cX12_behindSum 56 = .ok (.aload_n 0, 1) := by decide +kernel
theorem dX12_behindSum_57 : decode cX12_behindSum 57 = .ok (.bipush 37, 2) := by decide +kernel
theorem dX12_behindSum_59 : decode cX12_behindSum 59 = .ok (.invokevirtual 301, 3) := by decide +kernel
theorem dX12_behindSum_62 : decode cX12_behindSum 62 = .ok (.ifCond .eq 8, 3) := by decide +kernel
theorem dX12_behindSum_65 : decode cX12_behindSum 65 = .ok (.bipush 24, 2) := by decide +kernel
theorem dX12_behindSum_67 : decode cX12_behindSum 67 = .ok (.goto 4, 3) := by decide +kernel
theorem dX12_behindSum_70 : decode cX12_behindSum 70 = .ok (.iconst (-1), 1) := by decide +kernel
theorem dX12_behindSum_71 : decode cX12_behindSum 71 = .ok (.istore_n 2, 1) := by decide +kernel
theorem dX12_behindSum_72 : decode cX12_behindSum 72 = .ok (.iload_n 2, 1) := by decide +kernel
theorem dX12_behindSum_73 : decode cX12_behindSum 73 = .ok (.iconst (-1), 1) := by decide +kernel
theorem dX12_behindSum_74 : decode cX12_behindSum 74 = .ok (.if_icmp .eq 23, 3) := by decide +kernel
theorem dX12_behindSum_77 : decode cX12_behindSum 77 = .ok (.aload_n 0, 1) := by decide +kernel
theorem dX12_behindSum_78 : decode cX12_behindSum 78 = .ok (.iload_n 2, 1) := by decide +kernel
theorem dX12_behindSum_79 : decode cX12_behindSum 79 = .ok (.invokestatic 278, 3) := by decide +kernel
theorem dX12_behindSum_82 : decode cX12_behindSum 82 = .ok (.invokevirtual 332, 3) := by decide +kernel
theorem dX12_behindSum_85 : decode cX12_behindSum 85 = .ok (.aload_n 0, 1) := by decide +kernel
theorem dX12_behindSum_86 : decode cX12_behindSum 86 = .ok (.iload_n 2, 1) := by decide +kernel
theorem dX12_behindSum_87 : decode cX12_behindSum 87 = .ok (.iconst 0, 1) := by decide +kernel
theorem dX12_behindSum_88 : decode cX12_behindSum 88 = .ok (.invokevirtual 295, 3) := by decide +kernel
theorem dX12_behindSum_91 : decode cX12_behindSum 91 = .ok (.aload_n 0, 1) := by decide +kernel
theorem dX12_behindSum_92 : decode cX12_behindSum 92 = .ok (.invokevirtual 239, 3) := by decide +kernel
theorem dX12_behindSum_95 : decode cX12_behindSum 95 = .ok (.iconst 1, 1) := by decide +kernel
theorem dX12_behindSum_96 : decode cX12_behindSum 96 = .ok (.ireturn, 1) := by decide +kernel
theorem dX12_behindSum_97 : decode cX12_behindSum 97 = .ok (.aload_n 0, 1) := by decide +kernel
theorem dX12_behindSum_98 : decode cX12_behindSum 98 = .ok (.invokevirtual 335, 3) := by decide +kernel
theorem dX12_behindSum_101 : decode cX12_behindSum 101 = .ok (.istore_n 3, 1) := by decide +kernel
theorem dX12_behindSum_102 : decode cX12_behindSum 102 = .ok (.iload_n 3, 1) := by decide +kernel
theorem dX12_behindSum_103 : decode cX12_behindSum 103 = .ok (.bipush 32, 2) := by decide +kernel
theorem dX12_behindSum_105 : decode cX12_behindSum 105 = .ok (.if_icmp .ne 47, 3) := by decide +kernel
theorem dX12_behindSum_108 : decode cX12_behindSum 108 = .ok (.aload_n 0, 1) := by decide +kernel
theorem dX12_behindSum_109 : decode cX12_behindSum 109 = .ok (.aload_n 0, 1) := by decide +kernel
theorem dX12_behindSum_110 : decode cX12_behindSum 110 = .ok (.bipush 93, 2) := by decide +kernel
theorem dX12_behindSum_112 : decode cX12_behindSum 112 = .ok (.invokevirtual 301, 3) := by decide +kernel
theorem dX12_behindSum_115 : decode cX12_behindSum 115 = .ok (.invokevirtual 268, 3) := by decide +kernel
theorem dX12_behindSum_118 : decode cX12_behindSum 118 = .ok (.aload_n 0, 1) := by decide +kernel
theorem dX12_behindSum_119 : decode cX12_behindSum 119 = .ok (.getfield 235, 3) := by decide +kernel
theorem dX12_behindSum_122 : decode cX12_behindSum 122 = .ok (.ifCond .ne 28, 3) := by decide +kernel
theorem dX12_behindSum_125 : decode cX12_behindSum 125 = .ok (.aload_n 0, 1) := by decide +kernel
theorem dX12_behindSum_126 : decode cX12_behindSum 126 = .ok (.iconst 5, 1) := by decide +kernel
theorem dX12_behindSum_127 : decode cX12_behindSum 127 = .ok (.invokevirtual 332, 3) := by decide +kernel
theorem dX12_behindSum_130 : decode cX12_behindSum 130 = .ok (.aload_n 0, 1) := by decide +kernel
theorem dX12_behindSum_131 : decode cX12_behindSum 131 = .ok (.dup, 1) := by decide +kernel
theorem dX12_behindSum_132 : decode cX12_behindSum 132 = .ok (.getfield 275, 3) := by decide +kernel
theorem dX12_behindSum_135 : decode cX12_behindSum 135 = .ok (.iconst 1, 1) := by decide +kernel
theorem dX12_behindSum_136 : decode cX12_behindSum 136 = .ok (.isub, 1) := by decide +kernel
theorem dX12_behindSum_137 : decode cX12_behindSum 137 = .ok (.putfield 275, 3) := by decide +kernel
theorem dX12_behindSum_140 : decode cX12_behindSum 140 = .ok (.aload_n 0, 1) := by decide +kernel
theorem dX12_behindSum_141 : decode cX12_behindSum 141 = .ok (.dup, 1) := by decide +kernel
theorem dX12_behindSum_142 : decode cX12_behindSum 142 = .ok (.getfield 292, 3) := by decide +kernel
theorem dX12_behindSum_145 : decode cX12_behindSum 145 = .ok (.iconst 1, 1) := by decide +kernel
theorem dX12_behindSum_146 : decode cX12_behindSum 146 = .ok (.isub, 1) := by decide +kernel
theorem dX12_behindSum_147 : decode cX12_behindSum 147 = .ok (.putfield 292, 3) := by decide +kernel
theorem dX12_behindSum_150 : decode cX12_behindSum 150 = .ok (.iconst 3, 1) := by decide +kernel
theorem dX12_behindSum_151 : decode cX12_behindSum 151 = .ok (.ireturn, 1) := by decide +kernel
theorem dX12_behindSum_152 : decode cX12_behindSum 152 = .ok (.iload_n 3, 1) := by decide +kernel
theorem dX12_behindSum_153 : decode cX12_behindSum 153 = .ok (.iconst (-1), 1) := by decide +kernel
theorem dX12_behindSum_154 : decode cX12_behindSum 154 = .ok (.if_icmp .ne 9, 3) := by decide +kernel
theorem dX12_behindSum_157 : decode cX12_behindSum 157 = .ok (.iload_n 1, 1) := by decide +kernel
theorem dX12_behindSum_158 : decode cX12_behindSum 158 = .ok (.ifCond .ne 5, 3) := by decide +kernel
theorem dX12_behindSum_161 : decode cX12_behindSum 161 = .ok (.iconst 4, 1) := by decide +kernel
theorem dX12_behindSum_162 : decode cX12_behindSum 162 = .ok (.ireturn, 1) := by decide +kernel
theorem dX12_behindSum_163 : decode cX12_behindSum 163 = .ok (.aload_n 0, 1) := by decide +kernel
theorem dX12_behindSum_164 : decode cX12_behindSum 164 = .ok (.invokevirtual 338, 3) := by decide +kernel
theorem dX12_behindSum_167 : decode cX12_behindSum 167 = .ok (.ifCond .eq 5, 3) := by decide +kernel
theorem dX12_behindSum_170 : decode cX12_behindSum 170 = .ok (.iconst 2, 1) := by decide +kernel
theorem dX12_behindSum_171 : decode cX12_behindSum 171 = .ok (.ireturn, 1) := by decide +kernel
theorem dX12_behindSum_172 : decode cX12_behindSum 172 = .ok (.aload_n 0, 1) := by decide +kernel
theorem dX12_behindSum_173 : decode cX12_behindSum 173 = .ok (.bipush 60, 2) := by decide +kernel
theorem dX12_behindSum_175 : decode cX12_behindSum 175 = .ok (.invokevirtual 301, 3) := by decide +kernel
theorem dX12_behindSum_178 : decode cX12_behindSum 178 = .ok (.ifCond .eq 8, 3) := by decide +kernel
theorem dX12_behindSum_181 : decode cX12_behindSum 181 = .ok (.bipush 25, 2) := by decide +kernel
theorem dX12_behindSum_183 : decode cX12_behindSum 183 = .ok (.goto 19, 3) := by decide +kernel
theorem dX12_behindSum_186 : decode cX12_behindSum 186 = .ok (.aload_n 0, 1) := by decide +kernel
theorem dX12_behindSum_187 : decode cX12_behindSum 187 = .ok (.bipush 62, 2) := by decide +kernel
theorem dX12_behindSum_189 : decode cX12_behindSum 189 = .ok (.invokevirtual 301, 3) := by decide +kernel
theorem dX12_behindSum_192 : decode cX12_behindSum 192 = .ok (.ifCond .eq 8, 3) := by decide +kernel
theorem dX12_behindSum_195 : decode cX12_behindSum 195 = .ok (.bipush 26, 2) := by decide +kernel
theorem dX12_behindSum_197 : decode cX12_behindSum 197 = .ok (.goto 5, 3) := by decide +kernel
theorem dX12_behindSum_200 : decode cX12_behindSum 200 = .ok (.bipush 27, 2) := by decide +kernel
theorem dX12_behindSum_202 : decode cX12_behindSum 202 = .ok (.istore_n 2, 1) := by decide +kernel
theorem dX12_behindSum_203 : decode cX12_behindSum 203 = .ok (.aload_n 0, 1) := by decide +kernel
theorem dX12_behindSum_204 : decode cX12_behindSum 204 = .ok (.iload_n 2, 1) := by decide +kernel
theorem dX12_behindSum_205 : decode cX12_behindSum 205 = .ok (.bipush 27, 2) := by decide +kernel
theorem dX12_behindSum_207 : decode cX12_behindSum 207 = .ok (.if_icmp .ne 12, 3) := by decide +kernel
theorem dX12_behindSum_210 : decode cX12_behindSum 210 = .ok (.aload_n 0, 1) := by decide +kernel
theorem dX12_behindSum_211 : decode cX12_behindSum 211 = .ok (.bipush 61, 2) := by decide +kernel
theorem dX12_behindSum_213 : decode cX12_behindSum 213 = .ok (.invokevirtual 301, 3) := by decide +kernel
theorem dX12_behindSum_216 : decode cX12_behindSum 216 = .ok (.ifCond .eq 7, 3) := by decide +kernel
theorem dX12_behindSum_219 : decode cX12_behindSum 219 = .ok (.iconst 1, 1) := by decide +kernel
theorem dX12_behindSum_220 : decode cX12_behindSum 220 = .ok (.goto 4, 3) := by decide +kernel
theorem dX12_behindSum_223 : decode cX12_behindSum 223 = .ok (.iconst 0, 1) := by decide +kernel
theorem dX12_behindSum_224 : decode cX12_behindSum 224 = .ok (.invokevirtual 268, 3) := by decide +kernel
theorem dX12_behindSum_227 : decode cX12_behindSum 227 = .ok (.aload_n 0, 1) := by decide +kernel
theorem dX12_behindSum_228 : decode cX12_behindSum 228 = .ok (.getfield 235, 3) := by decide +kernel
theorem dX12_behindSum_231 : decode cX12_behindSum 231 = .ok (.ifCond .ne 14, 3) := by decide +kernel
theorem dX12_behindSum_234 : decode cX12_behindSum 234 = .ok (.aload_n 0, 1) := by decide +kernel
theorem dX12_behindSum_235 : decode cX12_behindSum 235 = .ok (.iconst 5, 1) := by decide +kernel
theorem dX12_behindSum_236 : decode cX12_behindSum 236 = .ok (.invokevirtual 332, 3) := by decide +kernel
theorem dX12_behindSum_239 : decode cX12_behindSum 239 = .ok (.aload_n 0, 1) := by decide +kernel
theorem dX12_behindSum_240 : decode cX12_behindSum 240 = .ok (.iload_n 2, 1) := by decide +kernel
theorem dX12_behindSum_241 : decode cX12_behindSum 241 = .ok (.iconst 0, 1) := by decide +kernel
theorem dX12_behindSum_242 : decode cX12_behindSum 242 = .ok (.invokevirtual 295, 3) := by decide +kernel
theorem dX12_behindSum_245 : decode cX12_behindSum 245 = .ok (.iconst 1, 1) := by decide +kernel
theorem dX12_behindSum_246 : decode cX12_behindSum 246 = .ok (.ireturn, 1) := by decide +kernel
set_option maxRecDepth 100000 in
theorem okm_X12_behindSum : okL RX12 cX12_behindSum 4 (some .int) "behindSum" pcX12_behindSum opX12_behindSum pcX12_behindSum := by
  unfold opX12_behindSum
  refine okL_cons (ok_aload_n rfl dX12_behindSum_0) rfl ?_
  refine okL_cons (ok_bipush rfl dX12_behindSum_1) rfl ?_
  refine okL_cons (ok_invV (M' := 199) kw_822 kw_823 kw_824 kw_711 kw_825 cf_X12 rfl (by decide +kernel) dX12_behindSum_3) rfl ?_
  refine okL_cons (ok_if_eq rfl dX12_behindSum_6) rfl ?_
  refine okL_cons (ok_bipush rfl dX12_behindSum_9) rfl ?_
  refine okL_cons (ok_goto rfl dX12_behindSum_11) rfl ?_
  refine okL_cons (ok_aload_n rfl dX12_behindSum_14) rfl ?_
  refine okL_cons (ok_bipush rfl dX12_behindSum_15) rfl ?_
  refine okL_cons (ok_invV (M' := 199) kw_822 kw_823 kw_824 kw_711 kw_825 cf_X12 rfl (by decide +kernel) dX12_behindSum_17) rfl ?_
  refine okL_cons (ok_if_eq rfl dX12_behindSum_20) rfl ?_
  refine okL_cons (ok_bipush rfl dX12_behindSum_23) rfl ?_
  refine okL_cons (ok_goto rfl dX12_behindSum_25) rfl ?_
  refine okL_cons (ok_aload_n rfl dX12_behindSum_28) rfl ?_
  refine okL_cons (ok_bipush rfl dX12_behindSum_29) rfl ?_
  refine okL_cons (ok_invV (M' := 199) kw_822 kw_823 kw_824 kw_711 kw_825 cf_X12 rfl (by decide +kernel) dX12_behindSum_31) rfl ?_
  refine okL_cons (ok_if_eq rfl dX12_behindSum_34) rfl ?_
  refine okL_cons (ok_bipush rfl dX12_behindSum_37) rfl ?_
  refine okL_cons (ok_goto rfl dX12_behindSum_39) rfl ?_
  refine okL_cons (ok_aload_n rfl dX12_behindSum_42) rfl ?_
  refine okL_cons (ok_bipush rfl dX12_behindSum_43) rfl ?_
  refine okL_cons (ok_invV (M' := 199) kw_822 kw_823 kw_824 kw_711 kw_825 cf_X12 rfl (by decide +kernel) dX12_behindSum_45) rfl ?_
  refine okL_cons (ok_if_eq rfl dX12_behindSum_48) rfl ?_
  refine okL_cons (ok_bipush rfl dX12_behindSum_51) rfl ?_
  refine okL_cons (ok_goto rfl dX12_behindSum_53) rfl ?_
  refine okL_cons (ok_aload_n rfl dX12_behindSum_56) rfl ?_
  refine okL_cons (ok_bipush rfl dX12_behindSum_57) rfl ?_
  refine okL_cons (ok_invV (M' := 199) kw_822 kw_823 kw_824 kw_711 kw_825 cf_X12 rfl (by decide +kernel) dX12_behindSum_59) rfl ?_
  refine okL_cons (ok_if_eq rfl dX12_behindSum_62) rfl ?_
  refine okL_cons (ok_bipush rfl dX12_behindSum_65) rfl ?_
  refine okL_cons (ok_goto rfl dX12_behindSum_67) rfl ?_
  refine okL_cons (ok_iconst rfl dX12_behindSum_70) rfl ?_
  refine okL_cons (ok_istore_n rfl dX12_behindSum_71) rfl ?_
  refine okL_cons (ok_iload_n rfl dX12_behindSum_72) rfl ?_
  refine okL_cons (ok_iconst rfl dX12_behindSum_73) rfl ?_
  refine okL_cons (ok_icmp_eq rfl dX12_behindSum_74) rfl ?_
  refine okL_cons (ok_aload_n rfl dX12_behindSum_77) rfl ?_
  refine okL_cons (ok_iload_n rfl dX12_behindSum_78) rfl ?_
  refine okL_cons (ok_invS (M' := 205) kw_803 kw_804 kw_711 kw_805 rfl (by decide +kernel) dX12_behindSum_79) rfl ?_
  refine okL_cons (ok_invV (M' := 206) kw_853 kw_854 kw_855 kw_711 kw_856 cf_X12 rfl (by decide +kernel) dX12_behindSum_82) rfl ?_
  refine okL_cons (ok_aload_n rfl dX12_behindSum_85) rfl ?_
  refine okL_cons (ok_iload_n rfl dX12_behindSum_86) rfl ?_
  refine okL_cons (ok_iconst rfl dX12_behindSum_87) rfl ?_
  refine okL_cons (ok_invV (M' := 204) kw_817 kw_818 kw_819 kw_711 kw_820 cf_X12 rfl (by decide +kernel) dX12_behindSum_88) rfl ?_
  refine okL_cons (ok_aload_n rfl dX12_behindSum_91) rfl ?_
  refine okL_cons (ok_invV (M' := 197) kw_779 kw_780 kw_781 kw_711 kw_782 cf_X12 rfl (by decide +kernel) dX12_behindSum_92) rfl ?_
  refine okL_cons (ok_iconst rfl dX12_behindSum_95) rfl ?_
  refine okL_cons (ok_ireturn rfl dX12_behindSum_96) rfl ?_
  refine okL_cons (ok_aload_n rfl dX12_behindSum_97) rfl ?_
  refine okL_cons (ok_invV (M' := 207) kw_857 kw_858 kw_859 kw_711 kw_860 cf_X12 rfl (by decide +kernel) dX12_behindSum_98) rfl ?_
  refine okL_cons (ok_istore_n rfl dX12_behindSum_101) rfl ?_
  refine okL_cons (ok_iload_n rfl dX12_behindSum_102) rfl ?_
  refine okL_cons (ok_bipush rfl dX12_behindSum_103) rfl ?_
  refine okL_cons (ok_icmp_ne rfl dX12_behindSum_105) rfl ?_
  refine okL_cons (ok_aload_n rfl dX12_behindSum_108) rfl ?_
  refine okL_cons (ok_aload_n rfl dX12_behindSum_109) rfl ?_
  refine okL_cons (ok_bipush rfl dX12_behindSum_110) rfl ?_
  refine okL_cons (ok_invV (M' := 199) kw_822 kw_823 kw_824 kw_711 kw_825 cf_X12 rfl (by decide +kernel) dX12_behindSum_112) rfl ?_
  refine okL_cons (ok_invV (M' := 200) kw_797 kw_798 kw_799 kw_711 kw_800 cf_X12 rfl (by decide +kernel) dX12_behindSum_115) rfl ?_
  refine okL_cons (ok_aload_n rfl dX12_behindSum_118) rfl ?_
  refine okL_cons (ok_getI kw_778 cf_X12 rfl rfl (by decide) dX12_behindSum_119) rfl ?_
  refine okL_cons (ok_if_ne rfl dX12_behindSum_122) rfl ?_
  refine okL_cons (ok_aload_n rfl dX12_behindSum_125) rfl ?_
  refine okL_cons (ok_iconst rfl dX12_behindSum_126) rfl ?_
  refine okL_cons (ok_invV (M' := 206) kw_853 kw_854 kw_855 kw_711 kw_856 cf_X12 rfl (by decide +kernel) dX12_behindSum_127) rfl ?_
  refine okL_cons (ok_aload_n rfl dX12_behindSum_130) rfl ?_
  refine okL_cons (ok_dup dX12_behindSum_131) rfl ?_
  refine okL_cons (ok_getI kw_802 cf_X12 rfl rfl (by decide) dX12_behindSum_132) rfl ?_
  refine okL_cons (ok_iconst rfl dX12_behindSum_135) rfl ?_
  refine okL_cons (ok_isub dX12_behindSum_136) rfl ?_
  refine okL_cons (ok_putI kw_802 cf_X12 rfl rfl (by decide) rfl dX12_behindSum_137) rfl ?_
  refine okL_cons (ok_aload_n rfl dX12_behindSum_140) rfl ?_
  refine okL_cons (ok_dup dX12_behindSum_141) rfl ?_
  refine okL_cons (ok_getI kw_816 cf_X12 rfl rfl (by decide) dX12_behindSum_142) rfl ?_
  refine okL_cons (ok_iconst rfl dX12_behindSum_145) rfl ?_
  refine okL_cons (ok_isub dX12_behindSum_146) rfl ?_
  refine okL_cons (ok_putI kw_816 cf_X12 rfl rfl (by decide) rfl dX12_behindSum_147) rfl ?_
  refine okL_cons (ok_iconst rfl dX12_behindSum_150) rfl ?_
  refine okL_cons (ok_ireturn rfl dX12_behindSum_151) rfl ?_
  refine okL_cons (ok_iload_n rfl dX12_behindSum_152) rfl ?_
  refine okL_cons (ok_iconst rfl dX12_behindSum_153) rfl ?_
  refine okL_cons (ok_icmp_ne rfl dX12_behindSum_154) rfl ?_
  refine okL_cons (ok_iload_n rfl dX12_behindSum_157) rfl ?_
  refine okL_cons (ok_if_ne rfl dX12_behindSum_158) rfl ?_
  refine okL_cons (ok_iconst rfl dX12_behindSum_161) rfl ?_
  refine okL_cons (ok_ireturn rfl dX12_behindSum_162) rfl ?_
  refine okL_cons (ok_aload_n rfl dX12_behindSum_163) rfl ?_
  refine okL_cons (ok_invV (M' := 208) kw_861 kw_862 kw_863 kw_711 kw_864 cf_X12 rfl (by decide +kernel) dX12_behindSum_164) rfl ?_
  refine okL_cons (ok_if_eq rfl dX12_behindSum_167) rfl ?_
  refine okL_cons (ok_iconst rfl dX12_behindSum_170) rfl ?_
  refine okL_cons (ok_ireturn rfl dX12_behindSum_171) rfl ?_
  refine okL_cons (ok_aload_n rfl dX12_behindSum_172) rfl ?_
  refine okL_cons (ok_bipush rfl dX12_behindSum_173) rfl ?_
  refine okL_cons (ok_invV (M' := 199) kw_822 kw_823 kw_824 kw_711 kw_825 cf_X12 rfl (by decide +kernel) dX12_behindSum_175) rfl ?_
  refine okL_cons (ok_if_eq rfl dX12_behindSum_178) rfl ?_
  refine okL_cons (ok_bipush rfl dX12_behindSum_181) rfl ?_
  refine okL_cons (ok_goto rfl dX12_behindSum_183) rfl ?_
  refine okL_cons (ok_aload_n rfl dX12_behindSum_186) rfl ?_
  refine okL_cons (ok_bipush rfl dX12_behindSum_187) rfl ?_
  refine okL_cons (ok_invV (M' := 199) kw_822 kw_823 kw_824 kw_711 kw_825 cf_X12 rfl (by decide +kernel) dX12_behindSum_189) rfl ?_
  refine okL_cons (ok_if_eq rfl dX12_behindSum_192) rfl ?_
  refine okL_cons (ok_bipush rfl dX12_behindSum_195) rfl ?_
  refine okL_cons (ok_goto rfl dX12_behindSum_197) rfl ?_
  refine okL_cons (ok_bipush rfl dX12_behindSum_200) rfl ?_
  refine okL_cons (ok_istore_n rfl dX12_behindSum_202) rfl ?_
  refine okL_cons (ok_aload_n rfl dX12_behindSum_203) rfl ?_
  refine okL_cons (ok_iload_n rfl dX12_behindSum_204) rfl ?_
  refine okL_cons (ok_bipush rfl dX12_behindSum_205) rfl ?_
  refine okL_cons (ok_icmp_ne rfl dX12_behindSum_207) rfl ?_
  refine okL_cons (ok_aload_n rfl dX12_behindSum_210) rfl ?_
  refine okL_cons (ok_bipush rfl dX12_behindSum_211) rfl ?_
  refine okL_cons (ok_invV (M' := 199) kw_822 kw_823 kw_824 kw_711 kw_825 cf_X12 rfl (by decide +kernel) dX12_behindSum_213) rfl ?_
  refine okL_cons (ok_if_eq rfl dX12_behindSum_216) rfl ?_
  refine okL_cons (ok_iconst rfl dX12_behindSum_219) rfl ?_
  refine okL_cons (ok_goto rfl dX12_behindSum_220) rfl ?_
  refine okL_cons (ok_iconst rfl dX12_behindSum_223) rfl ?_
  refine okL_cons (ok_invV (M' := 200) kw_797 kw_798 kw_799 kw_711 kw_800 cf_X12 rfl (by decide +kernel) dX12_behindSum_224) rfl ?_
  refine okL_cons (ok_aload_n rfl dX12_behindSum_227) rfl ?_
  refine okL_cons (ok_getI kw_778 cf_X12 rfl rfl (by decide) dX12_behindSum_228) rfl ?_
  refine okL_cons (ok_if_ne rfl dX12_behindSum_231) rfl ?_
  refine okL_cons (ok_aload_n rfl dX12_behindSum_234) rfl ?_
  refine okL_cons (ok_iconst rfl dX12_behindSum_235) rfl ?_
  refine okL_cons (ok_invV (M' := 206) kw_853 kw_854 kw_855 kw_711 kw_856 cf_X12 rfl (by decide +kernel) dX12_behindSum_236) rfl ?_
  refine okL_cons (ok_aload_n rfl dX12_behindSum_239) rfl ?_
  refine okL_cons (ok_iload_n rfl dX12_behindSum_240) rfl ?_
  refine okL_cons (ok_iconst rfl dX12_behindSum_241) rfl ?_
  refine okL_cons (ok_invV (M' := 204) kw_817 kw_818 kw_819 kw_711 kw_820 cf_X12 rfl (by decide +kernel) dX12_behindSum_242) rfl ?_
  refine okL_cons (ok_iconst rfl dX12_behindSum_245) rfl ?_
  exact okL_one (ok_ireturn rfl dX12_behindSum_246)
theorem dX12_behindTest_0 : decode cX12_behindTest 0 = .ok (.aload_n 0, 1) := by decide +kernel
theorem dX12_behindTest_1 : decode cX12_behindTest 1 = .ok (.ldc2_w 342, 3) := by decide +kernel
theorem dX12_behindTest_4 : decode cX12_behindTest 4 = .ok (.invokevirtual 288, 3) := by decide +kernel
theorem dX12_behindTest_7 : decode cX12_behindTest 7 = .ok (.istore_n 1, 1) := by decide +kernel
theorem dX12_behindTest_8 : decode cX12_behindTest 8 = .ok (.iload_n 1, 1) := by decide +kernel
theorem dX12_behindTest_9 : decode cX12_behindTest 9 = .ok (.ifCond .ne 13, 3) := by decide +kernel
theorem dX12_behindTest_12 : decode cX12_behindTest 12 = .ok (.aload_n 0, 1) := by decide +kernel
theorem dX12_behindTest_13 : decode cX12_behindTest 13 = .ok (.ldc2_w 344, 3) := by decide +kernel
theorem dX12_behindTest_16 : decode cX12_behindTest 16 = .ok (.invokevirtual 288, 3) := by decide +kernel
theorem dX12_behindTest_19 : decode cX12_behindTest 19 = .ok (.ifCond .eq 57, 3) := by decide +kernel
theorem dX12_behindTest_22 : decode cX12_behindTest 22 = .ok (.aload_n 0, 1) := by decide +kernel
theorem dX12_behindTest_23 : decode cX12_behindTest 23 = .ok (.iload_n 1, 1) := by decide +kernel
theorem dX12_behindTest_24 : decode cX12_behindTest 24 = .ok (.ifCond .eq 7, 3) := by decide +kernel
theorem dX12_behindTest_27 : decode cX12_behindTest 27 = .ok (.iconst 2, 1) := by decide +kernel
theorem dX12_behindTest_28 : decode cX12_behindTest 28 = .ok (.goto 4, 3) := by decide +kernel
theorem dX12_behindTest_31 : decode cX12_behindTest 31 = .ok (.iconst 1, 1) := by decide +kernel
theorem dX12_behindTest_32 : decode cX12_behindTest 32 = .ok (.invokevirtual 332, 3) := by decide +kernel
theorem dX12_behindTest_35 : decode cX12_behindTest 35 = .ok (.aload_n 0, 1) := by decide +kernel
theorem dX12_behindTest_36 : decode cX12_behindTest 36 = .ok (.iload_n 1, 1) := by decide +kernel
theorem dX12_behindTest_37 : decode cX12_behindTest 37 = .ok (.ifCond .eq 8, 3) := by decide +kernel
theorem dX12_behindTest_40 : decode cX12_behindTest 40 = .ok (.bipush 29, 2) := by decide +kernel
theorem dX12_behindTest_42 : decode cX12_behindTest 42 = .ok (.goto 5, 3) := by decide +kernel
theorem dX12_behindTest_45 : decode cX12_behindTest 45 = .ok (.bipush 30, 2) := by decide +kernel
theorem dX12_behindTest_47 : decode cX12_behindTest 47 = .ok (.aload_n 0, 1) := by decide +kernel
theorem dX12_behindTest_48 : decode cX12_behindTest 48 = .ok (.getfield 272, 3) := by decide +kernel
theorem dX12_behindTest_51 : decode cX12_behindTest 51 = .ok (.invokevirtual 295, 3) := by decide +kernel
theorem dX12_behindTest_54 : decode cX12_behindTest 54 = .ok (.aload_n 0, 1) := by decide +kernel
theorem dX12_behindTest_55 : decode cX12_behindTest 55 = .ok (.iload_n 1, 1) := by decide +kernel
theorem dX12_behindTest_56 : decode cX12_behindTest 56 = .ok (.ifCond .eq 8, 3) := by decide +kernel
theorem dX12_behindTest_59 : decode cX12_behindTest 59 = .ok (.bipush 29, 2) := by decide +kernel
theorem dX12_behindTest_61 : decode cX12_behindTest 61 = .ok (.goto 5, 3) := by decide +kernel
theorem dX12_behindTest_64 : decode cX12_behindTest 64 = .ok (.bipush 30, 2) := by decide +kernel
theorem dX12_behindTest_66 : decode cX12_behindTest 66 = .ok (.iconst 0, 1) := by decide +kernel
theorem dX12_behindTest_67 : decode cX12_behindTest 67 = .ok (.invokevirtual 281, 3) := by decide +kernel
theorem dX12_behindTest_70 : decode cX12_behindTest 70 = .ok (.aload_n 0, 1) := by decide +kernel
theorem dX12_behindTest_71 : decode cX12_behindTest 71 = .ok (.invokevirtual 239, 3) := by decide +kernel
theorem dX12_behindTest_74 : decode cX12_behindTest 74 = .ok (.iconst 0, 1) := by decide +kernel
theorem dX12_behindTest_75 : decode cX12_behindTest 75 = .ok (.ireturn, 1) := by decide +kernel
theorem dX12_behindTest_76 : decode cX12_behindTest 76 = .ok (.aload_n 0, 1) := by decide +kernel
theorem dX12_behindTest_77 : decode cX12_behindTest 77 = .ok (.invokevirtual 335, 3) := by decide +kernel
theorem dX12_behindTest_80 : decode cX12_behindTest 80 = .ok (.iconst (-1), 1) := by decide +kernel
theorem dX12_behindTest_81 : decode cX12_behindTest 81 = .ok (.if_icmp .ne 5, 3) := by decide +kernel
theorem dX12_behindTest_84 : decode cX12_behindTest 84 = .ok (.iconst 4, 1) := by decide +kernel
theorem dX12_behindTest_85 : decode cX12_behindTest 85 = .ok (.ireturn, 1) := by decide +kernel
theorem dX12_behindTest_86 : decode cX12_behindTest 86 = .ok (.aload_n 0, 1) := by decide +kernel
theorem dX12_behindTest_87 : decode cX12_behindTest 87 = .ok (.aload_n 0, 1) := by decide +kernel
theorem dX12_behindTest_88 : decode cX12_behindTest 88 = .ok (.bipush 41, 2) := by decide +kernel
theorem dX12_behindTest_90 : decode cX12_behindTest 90 = .ok (.invokevirtual 301, 3) := by decide +kernel
theorem dX12_behindTest_93 : decode cX12_behindTest 93 = .ok (.invokevirtual 268, 3) := by decide +kernel
theorem dX12_behindTest_96 : decode cX12_behindTest 96 = .ok (.aload_n 0, 1) := by decide +kernel
theorem dX12_behindTest_97 : decode cX12_behindTest 97 = .ok (.getfield 235, 3) := by decide +kernel
theorem dX12_behindTest_100 : decode cX12_behindTest 100 = .ok (.ifCond .ne 28, 3) := by decide +kernel
theorem dX12_behindTest_103 : decode cX12_behindTest 103 = .ok (.aload_n 0, 1) := by decide +kernel
theorem dX12_behindTest_104 : decode cX12_behindTest 104 = .ok (.iconst 1, 1) := by decide +kernel
theorem dX12_behindTest_105 : decode cX12_behindTest 105 = .ok (.invokevirtual 332, 3) := by decide +kernel
theorem dX12_behindTest_108 : decode cX12_behindTest 108 = .ok (.aload_n 0, 1) := by decide +kernel
theorem dX12_behindTest_109 : decode cX12_behindTest 109 = .ok (.dup, 1) := by decide +kernel
theorem dX12_behindTest_110 : decode cX12_behindTest 110 = .ok (.getfield 275, 3) := by decide +kernel
theorem dX12_behindTest_113 : decode cX12_behindTest 113 = .ok (.iconst 1, 1) := by decide +kernel
theorem dX12_behindTest_114 : decode cX12_behindTest 114 = .ok (.isub, 1) := by decide +kernel
theorem dX12_behindTest_115 : decode cX12_behindTest 115 = .ok (.putfield 275, 3) := by decide +kernel
theorem dX12_behindTest_118 : decode cX12_behindTest 118 = .ok (.aload_n 0, 1) := by decide +kernel
theorem dX12_behindTest_119 : decode cX12_behindTest 119 = .ok (.dup, 1) := by decide +kernel
theorem dX12_behindTest_120 : decode cX12_behindTest 120 = .ok (.getfield 292, 3) := by decide +kernel
theorem dX12_behindTest_123 : decode cX12_behindTest 123 = .ok (.iconst 1, 1) := by decide +kernel
theorem dX12_behindTest_124 : decode cX12_behindTest 124 = .ok (.isub, 1) := by decide +kernel
theorem dX12_behindTest_125 : decode cX12_behindTest 125 = .ok (.putfield 292, 3) := by decide +kernel
theorem dX12_behindTest_128 : decode cX12_behindTest 128 = .ok (.iconst 2, 1) := by decide +kernel
theorem dX12_behindTest_129 : decode cX12_behindTest 129 = .ok (.ireturn, 1) := by decide +kernel
set_option maxRecDepth 100000 in
theorem okm_X12_behindTest : okL RX12 cX12_behindTest 2 (some .int) "behindTest" pcX12_behindTest opX12_behindTest pcX12_behindTest := by
  unfold opX12_behindTest
  refine okL_cons (ok_aload_n rfl dX12_behindTest_0) rfl ?_
  refine okL_cons (ok_ldc2 kw_865 dX12_behindTest_1) rfl ?_
  refine okL_cons (ok_invV (M' := 198) kw_812 kw_813 kw_814 kw_711 kw_815 cf_X12 rfl (by decide +kernel) dX12_behindTest_4) rfl ?_
  refine okL_cons (ok_istore_n rfl dX12_behindTest_7) rfl ?_
  refine okL_cons (ok_iload_n rfl dX12_behindTest_8) rfl ?_
  refine okL_cons (ok_if_ne rfl dX12_behindTest_9) rfl ?_
  refine okL_cons (ok_aload_n rfl dX12_behindTest_12) rfl ?_
  refine okL_cons (ok_ldc2 kw_866 dX12_behindTest_13) rfl ?_
  refine okL_cons (ok_invV (M' := 198) kw_812 kw_813 kw_814 kw_711 kw_815 cf_X12 rfl (by decide +kernel) dX12_behindTest_16) rfl ?_
  refine okL_cons (ok_if_eq rfl dX12_behindTest_19) rfl ?_
  refine okL_cons (ok_aload_n rfl dX12_behindTest_22) rfl ?_
  refine okL_cons (ok_iload_n rfl dX12_behindTest_23) rfl ?_
  refine okL_cons (ok_if_eq rfl dX12_behindTest_24) rfl ?_
  refine okL_cons (ok_iconst rfl dX12_behindTest_27) rfl ?_
  refine okL_cons (ok_goto rfl dX12_behindTest_28) rfl ?_
  refine okL_cons (ok_iconst rfl dX12_behindTest_31) rfl ?_
  refine okL_cons (ok_invV (M' := 206) kw_853 kw_854 kw_855 kw_711 kw_856 cf_X12 rfl (by decide +kernel) dX12_behindTest_32) rfl ?_
  refine okL_cons (ok_aload_n rfl dX12_behindTest_35) rfl ?_
  refine okL_cons (ok_iload_n rfl dX12_behindTest_36) rfl ?_
  refine okL_cons (ok_if_eq rfl dX12_behindTest_37) rfl ?_
  refine okL_cons (ok_bipush rfl dX12_behindTest_40) rfl ?_
  refine okL_cons (ok_goto rfl dX12_behindTest_42) rfl ?_
  refine okL_cons (ok_bipush rfl dX12_behindTest_45) rfl ?_
  refine okL_cons (ok_aload_n rfl dX12_behindTest_47) rfl ?_
  refine okL_cons (ok_getI kw_801 cf_X12 rfl rfl (by decide) dX12_behindTest_48) rfl ?_
  refine okL_cons (ok_invV (M' := 204) kw_817 kw_818 kw_819 kw_711 kw_820 cf_X12 rfl (by decide +kernel) dX12_behindTest_51) rfl ?_
  refine okL_cons (ok_aload_n rfl dX12_behindTest_54) rfl ?_
  refine okL_cons (ok_iload_n rfl dX12_behindTest_55) rfl ?_
  refine okL_cons (ok_if_eq rfl dX12_behindTest_56) rfl ?_
  refine okL_cons (ok_bipush rfl dX12_behindTest_59) rfl ?_
  refine okL_cons (ok_goto rfl dX12_behindTest_61) rfl ?_
  refine okL_cons (ok_bipush rfl dX12_behindTest_64) rfl ?_
  refine okL_cons (ok_iconst rfl dX12_behindTest_66) rfl ?_
  refine okL_cons (ok_invV (M' := 203) kw_806 kw_807 kw_808 kw_711 kw_809 cf_X12 rfl (by decide +kernel) dX12_behindTest_67) rfl ?_
  refine okL_cons (ok_aload_n rfl dX12_behindTest_70) rfl ?_
  refine okL_cons (ok_invV (M' := 197) kw_779 kw_780 kw_781 kw_711 kw_782 cf_X12 rfl (by decide +kernel) dX12_behindTest_71) rfl ?_
  refine okL_cons (ok_iconst rfl dX12_behindTest_74) rfl ?_
  refine okL_cons (ok_ireturn rfl dX12_behindTest_75) rfl ?_
  refine okL_cons (ok_aload_n rfl dX12_behindTest_76) rfl ?_
  refine okL_cons (ok_invV (M' := 207) kw_857 kw_858 kw_859 kw_711 kw_860 cf_X12 rfl (by decide +kernel) dX12_behindTest_77) rfl ?_
  refine okL_cons (ok_iconst rfl dX12_behindTest_80) rfl ?_
  refine okL_cons (ok_icmp_ne rfl dX12_behindTest_81) rfl ?_
  refine okL_cons (ok_iconst rfl dX12_behindTest_84) rfl ?_
  refine okL_cons (ok_ireturn rfl dX12_behindTest_85) rfl ?_
  refine okL_cons (ok_aload_n rfl dX12_behindTest_86) rfl ?_
  refine okL_cons (ok_aload_n rfl dX12_behindTest_87) rfl ?_
  refine okL_cons (ok_bipush rfl dX12_behindTest_88) rfl ?_
  refine okL_cons (ok_invV (M' := 199) kw_822 kw_823 kw_824 kw_711 kw_825 cf_X12 rfl (by decide +kernel) dX12_behindTest_90) rfl ?_
  refine okL_cons (ok_invV (M' := 200) kw_797 kw_798 kw_799 kw_711 kw_800 cf_X12 rfl (by decide +kernel) dX12_behindTest_93) rfl ?_
  refine okL_cons (ok_aload_n rfl dX12_behindTest_96) rfl ?_
  refine okL_cons (ok_getI kw_778 cf_X12 rfl rfl (by decide) dX12_behindTest_97) rfl ?_
  refine okL_cons (ok_if_ne rfl dX12_behindTest_100) rfl ?_
  refine okL_cons (ok_aload_n rfl dX12_behindTest_103) rfl ?_
  refine okL_cons (ok_iconst rfl dX12_behindTest_104) rfl ?_
  refine okL_cons (ok_invV (M' := 206) kw_853 kw_854 kw_855 kw_711 kw_856 cf_X12 rfl (by decide +kernel) dX12_behindTest_105) rfl ?_
  refine okL_cons (ok_aload_n rfl dX12_behindTest_108) rfl ?_
  refine okL_cons (ok_dup dX12_behindTest_109) rfl ?_
  refine okL_cons (ok_getI kw_802 cf_X12 rfl rfl (by decide) dX12_behindTest_110) rfl ?_
  refine okL_cons (ok_iconst rfl dX12_behindTest_113) rfl ?_
  refine okL_cons (ok_isub dX12_behindTest_114) rfl ?_
  refine okL_cons (ok_putI kw_802 cf_X12 rfl rfl (by decide) rfl dX12_behindTest_115) rfl ?_
  refine okL_cons (ok_aload_n rfl dX12_behindTest_118) rfl ?_
  refine okL_cons (ok_dup dX12_behindTest_119) rfl ?_
  refine okL_cons (ok_getI kw_816 cf_X12 rfl rfl (by decide) dX12_behindTest_120) rfl ?_
  refine okL_cons (ok_iconst rfl dX12_behindTest_123) rfl ?_
  refine okL_cons (ok_isub dX12_behindTest_124) rfl ?_
  refine okL_cons (ok_putI kw_816 cf_X12 rfl rfl (by decide) rfl dX12_behindTest_125) rfl ?_
  refine okL_cons (ok_iconst rfl dX12_behindTest_128) rfl ?_
  exact okL_one (ok_ireturn rfl dX12_behindTest_129)
theorem dX12_readExpression_0 : decode cX12_readExpression 0 = .ok (.aload_n 0, 1) := by decide +kernel
theorem dX12_readExpression_1 : decode cX12_readExpression 1 = .ok (.iconst 0, 1) := by decide +kernel
theorem dX12_readExpression_2 : decode cX12_readExpression 2 = .ok (.putfield 275, 3) := by decide +kernel
theorem dX12_readExpression_5 : decode cX12_readExpression 5 = .ok (.aload_n 0, 1) := by decide +kernel
theorem dX12_readExpression_6 : decode cX12_readExpression 6 = .ok (.iconst 0, 1) := by decide +kernel
theorem dX12_readExpression_7 : decode cX12_readExpression 7 = .ok (.putfield 292, 3) := by decide +kernel
theorem dX12_readExpression_10 : decode cX12_readExpression 10 = .ok (.iload_n 1, 1) := by decide +kernel
theorem dX12_readExpression_11 : decode cX12_readExpression 11 = .ok (.ifCond .eq 7, 3) := by decide +kernel
theorem dX12_readExpression_14 : decode cX12_readExpression 14 = .ok (.iconst 0, 1) := by decide +kernel
theorem dX12_readExpression_15 : decode cX12_readExpression 15 = .ok (.goto 4, 3) := by decide +kernel
theorem dX12_readExpression_18 : decode cX12_readExpression 18 = .ok (.iconst 1, 1) := by decide +kernel
theorem dX12_readExpression_19 : decode cX12_readExpression 19 = .ok (.istore_n 2, 1) := by decide +kernel
theorem dX12_readExpression_20 : decode cX12_readExpression 20 = .ok (.aload_n 0, 1) := by decide +kernel
theorem dX12_readExpression_21 : decode cX12_readExpression 21 = .ok (.getfield 235, 3) := by decide +kernel
theorem dX12_readExpression_24 : decode cX12_readExpression 24 = .ok (.ifCond .ne 52, 3) := by decide +kernel
theorem dX12_readExpression_27 : decode cX12_readExpression 27 = .ok (.iload_n 2, 1) := by decide +kernel
theorem dX12_readExpression_28 : decode cX12_readExpression 28 = .ok (.iconst 4, 1) := by decide +kernel
theorem dX12_readExpression_29 : decode cX12_readExpression 29 = .ok (.if_icmp .eq 47, 3) := by decide +kernel
theorem dX12_readExpression_32 : decode cX12_readExpression 32 = .ok (.iload_n 2, 1) := by decide +kernel
theorem dX12_readExpression_33 : decode cX12_readExpression 33 = .ok (.ifCond .ne 10, 3) := by decide +kernel
theorem dX12_readExpression_36 : decode cX12_readExpression 36 = .ok (.aload_n 0, 1) := by decide +kernel
theorem dX12_readExpression_37 : decode cX12_readExpression 37 = .ok (.invokevirtual 346, 3) := by decide +kernel
theorem dX12_readExpression_40 : decode cX12_readExpression 40 = .ok (.goto 32, 3) := by decide +kernel
theorem dX12_readExpression_43 : decode cX12_readExpression 43 = .ok (.iload_n 2, 1) := by decide +kernel
theorem dX12_readExpression_44 : decode cX12_readExpression 44 = .ok (.iconst 1, 1) := by decide +kernel
theorem dX12_readExpression_45 : decode cX12_readExpression 45 = .ok (.if_icmp .ne 10, 3) := by decide +kernel
theorem dX12_readExpression_48 : decode cX12_readExpression 48 = .ok (.aload_n 0, 1) := by decide +kernel
theorem dX12_readExpression_49 : decode cX12_readExpression 49 = .ok (.invokevirtual 329, 3) := by decide +kernel
theorem dX12_readExpression_52 : decode cX12_readExpression 52 = .ok (.goto 20, 3) := by decide +kernel
theorem dX12_readExpression_55 : decode cX12_readExpression 55 = .ok (.iload_n 2, 1) := by decide +kernel
theorem dX12_readExpression_56 : decode cX12_readExpression 56 = .ok (.iconst 3, 1) := by decide +kernel
theorem dX12_readExpression_57 : decode cX12_readExpression 57 = .ok (.if_icmp .ne 11, 3) := by decide +kernel
theorem dX12_readExpression_60 : decode cX12_readExpression 60 = .ok (.aload_n 0, 1) := by decide +kernel
theorem dX12_readExpression_61 : decode cX12_readExpression 61 = .ok (.iload_n 1, 1) := by decide +kernel
theorem dX12_readExpression_62 : decode cX12_readExpression 62 = .ok (.invokevirtual 349, 3) := by decide +kernel
theorem dX12_readExpression_65 : decode cX12_readExpression 65 = .ok (.goto 7, 3) := by decide +kernel
theorem dX12_readExpression_68 : decode cX12_readExpression 68 = .ok (.aload_n 0, 1) := by decide +kernel
theorem dX12_readExpression_69 : decode cX12_readExpression 69 = .ok (.invokevirtual 353, 3) := by decide +kernel
theorem dX12_readExpression_72 : decode cX12_readExpression 72 = .ok (.istore_n 2, 1) := by decide +kernel
theorem dX12_readExpression_73 : decode cX12_readExpression 73 = .ok (.goto (-53), 3) := by decide +kernel
theorem dX12_readExpression_76 : decode cX12_readExpression 76 = .ok (.aload_n 0, 1) := by decide +kernel
theorem dX12_readExpression_77 : decode cX12_readExpression 77 = .ok (.iconst 1, 1) := by decide +kernel
theorem dX12_readExpression_78 : decode cX12_readExpression 78 = .ok (.invokevirtual 332, 3) := by decide +kernel
theorem dX12_readExpression_81 : decode cX12_readExpression 81 = .ok (.return_, 1) := by decide +kernel
set_option maxRecDepth 100000 in
theorem okm_X12_readExpression : okL RX12 cX12_readExpression 3 none "readExpression" pcX12_readExpression opX12_readExpression pcX12_readExpression := by
  unfold opX12_readExpression
  refine okL_cons (ok_aload_n rfl dX12_readExpression_0) rfl ?_
  refine okL_cons (ok_iconst rfl dX12_readExpression_1) rfl ?_
  refine okL_cons (ok_putI kw_802 cf_X12 rfl rfl (by decide) rfl dX12_readExpression_2) rfl ?_
  refine okL_cons (ok_aload_n rfl dX12_readExpression_5) rfl ?_
  refine okL_cons (ok_iconst rfl dX12_readExpression_6) rfl ?_
  refine okL_cons (ok_putI kw_816 cf_X12 rfl rfl (by decide) rfl dX12_readExpression_7) rfl ?_
  refine okL_cons (ok_iload_n rfl dX12_readExpression_10) rfl ?_
  refine okL_cons (ok_if_eq rfl dX12_readExpression_11) rfl ?_
  refine okL_cons (ok_iconst rfl dX12_readExpression_14) rfl ?_
  refine okL_cons (ok_goto rfl dX12_readExpression_15) rfl ?_
  refine okL_cons (ok_iconst rfl dX12_readExpression_18) rfl ?_
  refine okL_cons (ok_istore_n rfl dX12_readExpression_19) rfl ?_
  refine okL_cons (ok_aload_n rfl dX12_readExpression_20) rfl ?_
  refine okL_cons (ok_getI kw_778 cf_X12 rfl rfl (by decide) dX12_readExpression_21) rfl ?_
  refine okL_cons (ok_if_ne rfl dX12_readExpression_24) rfl ?_
  refine okL_cons (ok_iload_n rfl dX12_readExpression_27) rfl ?_
  refine okL_cons (ok_iconst rfl dX12_readExpression_28) rfl ?_
  refine okL_cons (ok_icmp_eq rfl dX12_readExpression_29) rfl ?_
  refine okL_cons (ok_iload_n rfl dX12_readExpression_32) rfl ?_
  refine okL_cons (ok_if_ne rfl dX12_readExpression_33) rfl ?_
  refine okL_cons (ok_aload_n rfl dX12_readExpression_36) rfl ?_
  refine okL_cons (ok_invV (M' := 214) kw_867 kw_868 kw_869 kw_711 kw_870 cf_X12 rfl (by decide +kernel) dX12_readExpression_37) rfl ?_
  refine okL_cons (ok_goto rfl dX12_readExpression_40) rfl ?_
  refine okL_cons (ok_iload_n rfl dX12_readExpression_43) rfl ?_
  refine okL_cons (ok_iconst rfl dX12_readExpression_44) rfl ?_
  refine okL_cons (ok_icmp_ne rfl dX12_readExpression_45) rfl ?_
  refine okL_cons (ok_aload_n rfl dX12_readExpression_48) rfl ?_
  refine okL_cons (ok_invV (M' := 213) kw_849 kw_850 kw_851 kw_711 kw_852 cf_X12 rfl (by decide +kernel) dX12_readExpression_49) rfl ?_
  refine okL_cons (ok_goto rfl dX12_readExpression_52) rfl ?_
  refine okL_cons (ok_iload_n rfl dX12_readExpression_55) rfl ?_
  refine okL_cons (ok_iconst rfl dX12_readExpression_56) rfl ?_
  refine okL_cons (ok_icmp_ne rfl dX12_readExpression_57) rfl ?_
  refine okL_cons (ok_aload_n rfl dX12_readExpression_60) rfl ?_
  refine okL_cons (ok_iload_n rfl dX12_readExpression_61) rfl ?_
  refine okL_cons (ok_invV (M' := 215) kw_871 kw_872 kw_873 kw_711 kw_874 cf_X12 rfl (by decide +kernel) dX12_readExpression_62) rfl ?_
  refine okL_cons (ok_goto rfl dX12_readExpression_65) rfl ?_
  refine okL_cons (ok_aload_n rfl dX12_readExpression_68) rfl ?_
  refine okL_cons (ok_invV (M' := 216) kw_875 kw_876 kw_877 kw_711 kw_878 cf_X12 rfl (by decide +kernel) dX12_readExpression_69) rfl ?_
  refine okL_cons (ok_istore_n rfl dX12_readExpression_72) rfl ?_
  refine okL_cons (ok_goto rfl dX12_readExpression_73) rfl ?_
  refine okL_cons (ok_aload_n rfl dX12_readExpression_76) rfl ?_
  refine okL_cons (ok_iconst rfl dX12_readExpression_77) rfl ?_
  refine okL_cons (ok_invV (M' := 206) kw_853 kw_854 kw_855 kw_711 kw_856 cf_X12 rfl (by decide +kernel) dX12_readExpression_78) rfl ?_
  exact okL_one (ok_return rfl dX12_readExpression_81)
theorem dX12_beginText_0 : decode cX12_beginText 0 = .ok (.aload_n 0, 1) := by decide +kernel
theorem dX12_beginText_1 : decode cX12_beginText 1 = .ok (.iload_n 1, 1) := by decide +kernel
theorem dX12_beginText_2 : decode cX12_beginText 2 = .ok (.putfield 307, 3) := by decide +kernel
theorem dX12_beginText_5 : decode cX12_beginText 5 = .ok (.aload_n 0, 1) := by decide +kernel
theorem dX12_beginText_6 : decode cX12_beginText 6 = .ok (.invokevirtual 356, 3) := by decide +kernel
theorem dX12_beginText_9 : decode cX12_beginText 9 = .ok (.aload_n 0, 1) := by decide +kernel
theorem dX12_beginText_10 : decode cX12_beginText 10 = .ok (.iconst 0, 1) := by decide +kernel
theorem dX12_beginText_11 : decode cX12_beginText 11 = .ok (.putfield 359, 3) := by decide +kernel
theorem dX12_beginText_14 : decode cX12_beginText 14 = .ok (.aload_n 0, 1) := by decide +kernel
theorem dX12_beginText_15 : decode cX12_beginText 15 = .ok (.iconst 0, 1) := by decide +kernel
theorem dX12_beginText_16 : decode cX12_beginText 16 = .ok (.putfield 272, 3) := by decide +kernel
theorem dX12_beginText_19 : decode cX12_beginText 19 = .ok (.aload_n 0, 1) := by decide +kernel
theorem dX12_beginText_20 : decode cX12_beginText 20 = .ok (.iconst 0, 1) := by decide +kernel
theorem dX12_beginText_21 : decode cX12_beginText 21 = .ok (.putfield 298, 3) := by decide +kernel
theorem dX12_beginText_24 : decode cX12_beginText 24 = .ok (.return_, 1) := by decide +kernel
set_option maxRecDepth 100000 in
theorem okm_X12_beginText : okL RX12 cX12_beginText 2 none "beginText" pcX12_beginText opX12_beginText pcX12_beginText := by
  unfold opX12_beginText
  refine okL_cons (ok_aload_n rfl dX12_beginText_0) rfl ?_
  refine okL_cons (ok_iload_n rfl dX12_beginText_1) rfl ?_
  refine okL_cons (ok_putZ kw_830 cf_X12 rfl rfl (by decide) rfl dX12_beginText_2) rfl ?_
  refine okL_cons (ok_aload_n rfl dX12_beginText_5) rfl ?_
  refine okL_cons (ok_invV (M' := 196) kw_879 kw_880 kw_881 kw_711 kw_882 cf_X12 rfl (by decide +kernel) dX12_beginText_6) rfl ?_
  refine okL_cons (ok_aload_n rfl dX12_beginText_9) rfl ?_
  refine okL_cons (ok_iconst rfl dX12_beginText_10) rfl ?_
  refine okL_cons (ok_putI kw_883 cf_X12 rfl rfl (by decide) rfl dX12_beginText_11) rfl ?_
  refine okL_cons (ok_aload_n rfl dX12_beginText_14) rfl ?_
  refine okL_cons (ok_iconst rfl dX12_beginText_15) rfl ?_
  refine okL_cons (ok_putI kw_801 cf_X12 rfl rfl (by decide) rfl dX12_beginText_16) rfl ?_
  refine okL_cons (ok_aload_n rfl dX12_beginText_19) rfl ?_
  refine okL_cons (ok_iconst rfl dX12_beginText_20) rfl ?_
  refine okL_cons (ok_putI kw_821 cf_X12 rfl rfl (by decide) rfl dX12_beginText_21) rfl ?_
  exact okL_one (ok_return rfl dX12_beginText_24)
theorem dX12_endText_0 : decode cX12_endText 0 = .ok (.aload_n 0, 1) := by decide +kernel
theorem dX12_endText_1 : decode cX12_endText 1 = .ok (.getfield 235, 3) := by decide +kernel
theorem dX12_endText_4 : decode cX12_endText 4 = .ok (.ifCond .ne 15, 3) := by decide +kernel
theorem dX12_endText_7 : decode cX12_endText 7 = .ok (.aload_n 0, 1) := by decide +kernel
theorem dX12_endText_8 : decode cX12_endText 8 = .ok (.getfield 255, 3) := by decide +kernel
theorem dX12_endText_11 : decode cX12_endText 11 = .ok (.ifCond .eq 8, 3) := by decide +kernel
theorem dX12_endText_14 : decode cX12_endText 14 = .ok (.aload_n 0, 1) := by decide +kernel
theorem dX12_endText_15 : decode cX12_endText 15 = .ok (.iconst 0, 1) := by decide +kernel
theorem dX12_endText_16 : decode cX12_endText 16 = .ok (.invokevirtual 268, 3) := by decide +kernel
theorem dX12_endText_19 : decode cX12_endText 19 = .ok (.aload_n 0, 1) := by decide +kernel
theorem dX12_endText_20 : decode cX12_endText 20 = .ok (.iconst 0, 1) := by decide +kernel
theorem dX12_endText_21 : decode cX12_endText 21 = .ok (.putfield 307, 3) := by decide +kernel
theorem dX12_endText_24 : decode cX12_endText 24 = .ok (.aload_n 0, 1) := by decide +kernel
theorem dX12_endText_25 : decode cX12_endText 25 = .ok (.iconst 0, 1) := by decide +kernel
theorem dX12_endText_26 : decode cX12_endText 26 = .ok (.putfield 223, 3) := by decide +kernel
theorem dX12_endText_29 : decode cX12_endText 29 = .ok (.return_, 1) := by decide +kernel
set_option maxRecDepth 100000 in
theorem okm_X12_endText : okL RX12 cX12_endText 1 none "endText" pcX12_endText opX12_endText pcX12_endText := by
  unfold opX12_endText
  refine okL_cons (ok_aload_n rfl dX12_endText_0) rfl ?_
  refine okL_cons (ok_getI kw_778 cf_X12 rfl rfl (by decide) dX12_endText_1) rfl ?_
  refine okL_cons (ok_if_ne rfl dX12_endText_4) rfl ?_
  refine okL_cons (ok_aload_n rfl dX12_endText_7) rfl ?_
  refine okL_cons (ok_getI kw_791 cf_X12 rfl rfl (by decide) dX12_endText_8) rfl ?_
  refine okL_cons (ok_if_eq rfl dX12_endText_11) rfl ?_
  refine okL_cons (ok_aload_n rfl dX12_endText_14) rfl ?_
  refine okL_cons (ok_iconst rfl dX12_endText_15) rfl ?_
  refine okL_cons (ok_invV (M' := 200) kw_797 kw_798 kw_799 kw_711 kw_800 cf_X12 rfl (by decide +kernel) dX12_endText_16) rfl ?_
  refine okL_cons (ok_aload_n rfl dX12_endText_19) rfl ?_
  refine okL_cons (ok_iconst rfl dX12_endText_20) rfl ?_
  refine okL_cons (ok_putZ kw_830 cf_X12 rfl rfl (by decide) rfl dX12_endText_21) rfl ?_
  refine okL_cons (ok_aload_n rfl dX12_endText_24) rfl ?_
  refine okL_cons (ok_iconst rfl dX12_endText_25) rfl ?_
  refine okL_cons (ok_putI kw_771 cf_X12 rfl rfl (by decide) rfl dX12_endText_26) rfl ?_
  exact okL_one (ok_return rfl dX12_endText_29)
theorem dX12_readLaw_0 : decode cX12_readLaw 0 = .ok (.iconst (-1), 1) := by decide +kernel
theorem dX12_readLaw_1 : decode cX12_readLaw 1 = .ok (.istore_n 1, 1) := by decide +kernel
theorem dX12_readLaw_2 : decode cX12_readLaw 2 = .ok (.iconst 0, 1) := by decide +kernel
theorem dX12_readLaw_3 : decode cX12_readLaw 3 = .ok (.istore_n 2, 1) := by decide +kernel
theorem dX12_readLaw_4 : decode cX12_readLaw 4 = .ok (.iload_n 2, 1) := by decide +kernel
theorem dX12_readLaw_5 : decode cX12_readLaw 5 = .ok (.iconst 2, 1) := by decide +kernel
theorem dX12_readLaw_6 : decode cX12_readLaw 6 = .ok (.if_icmp .ge 28, 3) := by decide +kernel
theorem dX12_readLaw_9 : decode cX12_readLaw 9 = .ok (.aload_n 0, 1) := by decide +kernel
theorem dX12_readLaw_10 : decode cX12_readLaw 10 = .ok (.aload_n 0, 1) := by decide +kernel
theorem dX12_readLaw_11 : decode cX12_readLaw 11 = .ok (.getfield 92, 3) := by decide +kernel
theorem dX12_readLaw_14 : decode cX12_readLaw 14 = .ok (.iload_n 2, 1) := by decide +kernel
theorem dX12_readLaw_15 : decode cX12_readLaw 15 = .ok (.laload, 1) := by decide +kernel
theorem dX12_readLaw_16 : decode cX12_readLaw 16 = .ok (.invokevirtual 288, 3) := by decide +kernel
theorem dX12_readLaw_19 : decode cX12_readLaw 19 = .ok (.ifCond .eq 7, 3) := by decide +kernel
theorem dX12_readLaw_22 : decode cX12_readLaw 22 = .ok (.iload_n 2, 1) := by decide +kernel
theorem dX12_readLaw_23 : decode cX12_readLaw 23 = .ok (.goto 4, 3) := by decide +kernel
theorem dX12_readLaw_26 : decode cX12_readLaw 26 = .ok (.iload_n 1, 1) := by decide +kernel
theorem dX12_readLaw_27 : decode cX12_readLaw 27 = .ok (.istore_n 1, 1) := by decide +kernel
theorem dX12_readLaw_28 : decode cX12_readLaw 28 = .ok (.iinc 2 1, 3) := by decide +kernel
theorem dX12_readLaw_31 : decode cX12_readLaw 31 = .ok (.goto (-27), 3) := by decide +kernel
theorem dX12_readLaw_34 : decode cX12_readLaw 34 = .ok (.aload_n 0, 1) := by decide +kernel
theorem dX12_readLaw_35 : decode cX12_readLaw 35 = .ok (.iload_n 1, 1) := by decide +kernel
theorem dX12_readLaw_36 : decode cX12_readLaw 36 = .ok (.iconst (-1), 1) := by decide +kernel
theorem dX12_readLaw_37 : decode cX12_readLaw 37 = .ok (.if_icmp .eq 16, 3) := by decide +kernel
theorem dX12_readLaw_40 : decode cX12_readLaw 40 = .ok (.aload_n 0, 1) := by decide +kernel
theorem dX12_readLaw_41 : decode cX12_readLaw 41 = .ok (.getfield 359, 3) := by decide +kernel
theorem dX12_readLaw_44 : decode cX12_readLaw 44 = .ok (.bipush 12, 2) := by decide +kernel
theorem dX12_readLaw_46 : decode cX12_readLaw 46 = .ok (.if_icmp .ge 7, 3) := by decide +kernel
theorem dX12_readLaw_49 : decode cX12_readLaw 49 = .ok (.iconst 1, 1) := by decide +kernel
theorem dX12_readLaw_50 : decode cX12_readLaw 50 = .ok (.goto 4, 3) := by decide +kernel
theorem dX12_readLaw_53 : decode cX12_readLaw 53 = .ok (.iconst 0, 1) := by decide +kernel
theorem dX12_readLaw_54 : decode cX12_readLaw 54 = .ok (.invokevirtual 268, 3) := by decide +kernel
theorem dX12_readLaw_57 : decode cX12_readLaw 57 = .ok (.aload_n 0, 1) := by decide +kernel
theorem dX12_readLaw_58 : decode cX12_readLaw 58 = .ok (.getfield 235, 3) := by decide +kernel
theorem dX12_readLaw_61 : decode cX12_readLaw 61 = .ok (.ifCond .eq 4, 3) := by decide +kernel
theorem dX12_readLaw_64 : decode cX12_readLaw 64 = .ok (.return_, 1) := by decide +kernel
theorem dX12_readLaw_65 : decode cX12_readLaw 65 = .ok (.bipush 8, 2) := by decide +kernel
theorem dX12_readLaw_67 : decode cX12_readLaw 67 = .ok (.aload_n 0, 1) := by decide +kernel
theorem dX12_readLaw_68 : decode cX12_readLaw 68 = .ok (.getfield 359, 3) := by decide +kernel
theorem dX12_readLaw_71 : decode cX12_readLaw 71 = .ok (.imul, 1) := by decide +kernel
theorem dX12_readLaw_72 : decode cX12_readLaw 72 = .ok (.istore_n 2, 1) := by decide +kernel
theorem dX12_readLaw_73 : decode cX12_readLaw 73 = .ok (.iconst 0, 1) := by decide +kernel
theorem dX12_readLaw_74 : decode cX12_readLaw 74 = .ok (.istore_n 3, 1) := by decide +kernel
theorem dX12_readLaw_75 : decode cX12_readLaw 75 = .ok (.iload_n 3, 1) := by decide +kernel
theorem dX12_readLaw_76 : decode cX12_readLaw 76 = .ok (.bipush 8, 2) := by decide +kernel
theorem dX12_readLaw_78 : decode cX12_readLaw 78 = .ok (.if_icmp .ge 18, 3) := by decide +kernel
theorem dX12_readLaw_81 : decode cX12_readLaw 81 = .ok (.aload_n 0, 1) := by decide +kernel
theorem dX12_readLaw_82 : decode cX12_readLaw 82 = .ok (.getfield 42, 3) := by decide +kernel
theorem dX12_readLaw_85 : decode cX12_readLaw 85 = .ok (.iload_n 2, 1) := by decide +kernel
theorem dX12_readLaw_86 : decode cX12_readLaw 86 = .ok (.iload_n 3, 1) := by decide +kernel
theorem dX12_readLaw_87 : decode cX12_readLaw 87 = .ok (.iadd, 1) := by decide +kernel
theorem dX12_readLaw_88 : decode cX12_readLaw 88 = .ok (.iconst 0, 1) := by decide +kernel
theorem dX12_readLaw_89 : decode cX12_readLaw 89 = .ok (.iastore, 1) := by decide +kernel
theorem dX12_readLaw_90 : decode cX12_readLaw 90 = .ok (.iinc 3 1, 3) := by decide +kernel
theorem dX12_readLaw_93 : decode cX12_readLaw 93 = .ok (.goto (-18), 3) := by decide +kernel
theorem dX12_readLaw_96 : decode cX12_readLaw 96 = .ok (.aload_n 0, 1) := by decide +kernel
theorem dX12_readLaw_97 : decode cX12_readLaw 97 = .ok (.getfield 42, 3) := by decide +kernel
theorem dX12_readLaw_100 : decode cX12_readLaw 100 = .ok (.iload_n 2, 1) := by decide +kernel
theorem dX12_readLaw_101 : decode cX12_readLaw 101 = .ok (.iload_n 1, 1) := by decide +kernel
theorem dX12_readLaw_102 : decode cX12_readLaw 102 = .ok (.iastore, 1) := by decide +kernel
theorem dX12_readLaw_103 : decode cX12_readLaw 103 = .ok (.aload_n 0, 1) := by decide +kernel
theorem dX12_readLaw_104 : decode cX12_readLaw 104 = .ok (.dup, 1) := by decide +kernel
theorem dX12_readLaw_105 : decode cX12_readLaw 105 = .ok (.getfield 359, 3) := by decide +kernel
theorem dX12_readLaw_108 : decode cX12_readLaw 108 = .ok (.iconst 1, 1) := by decide +kernel
theorem dX12_readLaw_109 : decode cX12_readLaw 109 = .ok (.iadd, 1) := by decide +kernel
theorem dX12_readLaw_110 : decode cX12_readLaw 110 = .ok (.putfield 359, 3) := by decide +kernel
theorem dX12_readLaw_113 : decode cX12_readLaw 113 = .ok (.aload_n 0, 1) := by decide +kernel
theorem dX12_readLaw_114 : decode cX12_readLaw 114 = .ok (.getfield 42, 3) := by decide +kernel
theorem dX12_readLaw_117 : decode cX12_readLaw 117 = .ok (.iload_n 2, 1) := by decide +kernel
theorem dX12_readLaw_118 : decode cX12_readLaw 118 = .ok (.iconst 3, 1) := by decide +kernel
theorem dX12_readLaw_119 : decode cX12_readLaw 119 = .ok (.iadd, 1) := by decide +kernel
theorem dX12_readLaw_120 : decode cX12_readLaw 120 = .ok (.aload_n 0, 1) := by decide +kernel
theorem dX12_readLaw_121 : decode cX12_readLaw 121 = .ok (.getfield 272, 3) := by decide +kernel
theorem dX12_readLaw_124 : decode cX12_readLaw 124 = .ok (.iastore, 1) := by decide +kernel
theorem dX12_readLaw_125 : decode cX12_readLaw 125 = .ok (.iload_n 1, 1) := by decide +kernel
theorem dX12_readLaw_126 : decode cX12_readLaw 126 = .ok (.iconst 1, 1) := by decide +kernel
theorem dX12_readLaw_127 : decode cX12_readLaw 127 = .ok (.if_icmp .eq 8, 3) := by decide +kernel
theorem dX12_readLaw_130 : decode cX12_readLaw 130 = .ok (.aload_n 0, 1) := by decide +kernel
theorem dX12_readLaw_131 : decode cX12_readLaw 131 = .ok (.iconst 0, 1) := by decide +kernel
theorem dX12_readLaw_132 : decode cX12_readLaw 132 = .ok (.invokevirtual 362, 3) := by decide +kernel
theorem dX12_readLaw_135 : decode cX12_readLaw 135 = .ok (.aload_n 0, 1) := by decide +kernel
theorem dX12_readLaw_136 : decode cX12_readLaw 136 = .ok (.getfield 42, 3) := by decide +kernel
theorem dX12_readLaw_139 : decode cX12_readLaw 139 = .ok (.iload_n 2, 1) := by decide +kernel
theorem dX12_readLaw_140 : decode cX12_readLaw 140 = .ok (.iconst 4, 1) := by decide +kernel
theorem dX12_readLaw_141 : decode cX12_readLaw 141 = .ok (.iadd, 1) := by decide +kernel
theorem dX12_readLaw_142 : decode cX12_readLaw 142 = .ok (.aload_n 0, 1) := by decide +kernel
theorem dX12_readLaw_143 : decode cX12_readLaw 143 = .ok (.getfield 272, 3) := by decide +kernel
theorem dX12_readLaw_146 : decode cX12_readLaw 146 = .ok (.iastore, 1) := by decide +kernel
theorem dX12_readLaw_147 : decode cX12_readLaw 147 = .ok (.aload_n 0, 1) := by decide +kernel
theorem dX12_readLaw_148 : decode cX12_readLaw 148 = .ok (.getfield 42, 3) := by decide +kernel
theorem dX12_readLaw_151 : decode cX12_readLaw 151 = .ok (.iload_n 2, 1) := by decide +kernel
theorem dX12_readLaw_152 : decode cX12_readLaw 152 = .ok (.iconst 5, 1) := by decide +kernel
theorem dX12_readLaw_153 : decode cX12_readLaw 153 = .ok (.iadd, 1) := by decide +kernel
theorem dX12_readLaw_154 : decode cX12_readLaw 154 = .ok (.aload_n 0, 1) := by decide +kernel
theorem dX12_readLaw_155 : decode cX12_readLaw 155 = .ok (.getfield 272, 3) := by decide +kernel
theorem dX12_readLaw_158 : decode cX12_readLaw 158 = .ok (.iastore, 1) := by decide +kernel
theorem dX12_readLaw_159 : decode cX12_readLaw 159 = .ok (.aload_n 0, 1) := by decide +kernel
theorem dX12_readLaw_160 : decode cX12_readLaw 160 = .ok (.getfield 235, 3) := by decide +kernel
theorem dX12_readLaw_163 : decode cX12_readLaw 163 = .ok (.ifCond .ne 22, 3) := by decide +kernel
theorem dX12_readLaw_166 : decode cX12_readLaw 166 = .ok (.aload_n 0, 1) := by decide +kernel
theorem dX12_readLaw_167 : decode cX12_readLaw 167 = .ok (.ldc2_w 365, 3) := by decide +kernel
theorem dX12_readLaw_170 : decode cX12_readLaw 170 = .ok (.invokevirtual 288, 3) := by decide +kernel
theorem dX12_readLaw_173 : decode cX12_readLaw 173 = .ok (.ifCond .eq 12, 3) := by decide +kernel
theorem dX12_readLaw_176 : decode cX12_readLaw 176 = .ok (.aload_n 0, 1) := by decide +kernel
theorem dX12_readLaw_177 : decode cX12_readLaw 177 = .ok (.invokevirtual 239, 3) := by decide +kernel
theorem dX12_readLaw_180 : decode cX12_readLaw 180 = .ok (.aload_n 0, 1) := by decide +kernel
theorem dX12_readLaw_181 : decode cX12_readLaw 181 = .ok (.iconst 1, 1) := by decide +kernel
theorem dX12_readLaw_182 : decode cX12_readLaw 182 = .ok (.invokevirtual 362, 3) := by decide +kernel
theorem dX12_readLaw_185 : decode cX12_readLaw 185 = .ok (.aload_n 0, 1) := by decide +kernel
theorem dX12_readLaw_186 : decode cX12_readLaw 186 = .ok (.getfield 42, 3) := by decide +kernel
theorem dX12_readLaw_189 : decode cX12_readLaw 189 = .ok (.iload_n 2, 1) := by decide +kernel
theorem dX12_readLaw_190 : decode cX12_readLaw 190 = .ok (.bipush 6, 2) := by decide +kernel
theorem dX12_readLaw_192 : decode cX12_readLaw 192 = .ok (.iadd, 1) := by decide +kernel
theorem dX12_readLaw_193 : decode cX12_readLaw 193 = .ok (.aload_n 0, 1) := by decide +kernel
theorem dX12_readLaw_194 : decode cX12_readLaw 194 = .ok (.getfield 272, 3) := by decide +kernel
theorem dX12_readLaw_197 : decode cX12_readLaw 197 = .ok (.iastore, 1) := by decide +kernel
theorem dX12_readLaw_198 : decode cX12_readLaw 198 = .ok (.return_, 1) := by decide +kernel
set_option maxRecDepth 100000 in
theorem okm_X12_readLaw : okL RX12 cX12_readLaw 4 none "readLaw" pcX12_readLaw opX12_readLaw pcX12_readLaw := by
  unfold opX12_readLaw
  refine okL_cons (ok_iconst rfl dX12_readLaw_0) rfl ?_
  refine okL_cons (ok_istore_n rfl dX12_readLaw_1) rfl ?_
  refine okL_cons (ok_iconst rfl dX12_readLaw_2) rfl ?_
  refine okL_cons (ok_istore_n rfl dX12_readLaw_3) rfl ?_
  refine okL_cons (ok_iload_n rfl dX12_readLaw_4) rfl ?_
  refine okL_cons (ok_iconst rfl dX12_readLaw_5) rfl ?_
  refine okL_cons (ok_icmp_ge rfl dX12_readLaw_6) rfl ?_
  refine okL_cons (ok_aload_n rfl dX12_readLaw_9) rfl ?_
  refine okL_cons (ok_aload_n rfl dX12_readLaw_10) rfl ?_
  refine okL_cons (ok_getP kw_684 cf_X12 rfl rfl (by decide) dX12_readLaw_11) rfl ?_
  refine okL_cons (ok_iload_n rfl dX12_readLaw_14) rfl ?_
  refine okL_cons (ok_laload dX12_readLaw_15) rfl ?_
  refine okL_cons (ok_invV (M' := 198) kw_812 kw_813 kw_814 kw_711 kw_815 cf_X12 rfl (by decide +kernel) dX12_readLaw_16) rfl ?_
  refine okL_cons (ok_if_eq rfl dX12_readLaw_19) rfl ?_
  refine okL_cons (ok_iload_n rfl dX12_readLaw_22) rfl ?_
  refine okL_cons (ok_goto rfl dX12_readLaw_23) rfl ?_
  refine okL_cons (ok_iload_n rfl dX12_readLaw_26) rfl ?_
  refine okL_cons (ok_istore_n rfl dX12_readLaw_27) rfl ?_
  refine okL_cons (ok_iinc rfl dX12_readLaw_28) rfl ?_
  refine okL_cons (ok_goto rfl dX12_readLaw_31) rfl ?_
  refine okL_cons (ok_aload_n rfl dX12_readLaw_34) rfl ?_
  refine okL_cons (ok_iload_n rfl dX12_readLaw_35) rfl ?_
  refine okL_cons (ok_iconst rfl dX12_readLaw_36) rfl ?_
  refine okL_cons (ok_icmp_eq rfl dX12_readLaw_37) rfl ?_
  refine okL_cons (ok_aload_n rfl dX12_readLaw_40) rfl ?_
  refine okL_cons (ok_getI kw_883 cf_X12 rfl rfl (by decide) dX12_readLaw_41) rfl ?_
  refine okL_cons (ok_bipush rfl dX12_readLaw_44) rfl ?_
  refine okL_cons (ok_icmp_ge rfl dX12_readLaw_46) rfl ?_
  refine okL_cons (ok_iconst rfl dX12_readLaw_49) rfl ?_
  refine okL_cons (ok_goto rfl dX12_readLaw_50) rfl ?_
  refine okL_cons (ok_iconst rfl dX12_readLaw_53) rfl ?_
  refine okL_cons (ok_invV (M' := 200) kw_797 kw_798 kw_799 kw_711 kw_800 cf_X12 rfl (by decide +kernel) dX12_readLaw_54) rfl ?_
  refine okL_cons (ok_aload_n rfl dX12_readLaw_57) rfl ?_
  refine okL_cons (ok_getI kw_778 cf_X12 rfl rfl (by decide) dX12_readLaw_58) rfl ?_
  refine okL_cons (ok_if_eq rfl dX12_readLaw_61) rfl ?_
  refine okL_cons (ok_return rfl dX12_readLaw_64) rfl ?_
  refine okL_cons (ok_bipush rfl dX12_readLaw_65) rfl ?_
  refine okL_cons (ok_aload_n rfl dX12_readLaw_67) rfl ?_
  refine okL_cons (ok_getI kw_883 cf_X12 rfl rfl (by decide) dX12_readLaw_68) rfl ?_
  refine okL_cons (ok_imul dX12_readLaw_71) rfl ?_
  refine okL_cons (ok_istore_n rfl dX12_readLaw_72) rfl ?_
  refine okL_cons (ok_iconst rfl dX12_readLaw_73) rfl ?_
  refine okL_cons (ok_istore_n rfl dX12_readLaw_74) rfl ?_
  refine okL_cons (ok_iload_n rfl dX12_readLaw_75) rfl ?_
  refine okL_cons (ok_bipush rfl dX12_readLaw_76) rfl ?_
  refine okL_cons (ok_icmp_ge rfl dX12_readLaw_78) rfl ?_
  refine okL_cons (ok_aload_n rfl dX12_readLaw_81) rfl ?_
  refine okL_cons (ok_getP kw_663 cf_X12 rfl rfl (by decide) dX12_readLaw_82) rfl ?_
  refine okL_cons (ok_iload_n rfl dX12_readLaw_85) rfl ?_
  refine okL_cons (ok_iload_n rfl dX12_readLaw_86) rfl ?_
  refine okL_cons (ok_iadd dX12_readLaw_87) rfl ?_
  refine okL_cons (ok_iconst rfl dX12_readLaw_88) rfl ?_
  refine okL_cons (ok_iastore dX12_readLaw_89) rfl ?_
  refine okL_cons (ok_iinc rfl dX12_readLaw_90) rfl ?_
  refine okL_cons (ok_goto rfl dX12_readLaw_93) rfl ?_
  refine okL_cons (ok_aload_n rfl dX12_readLaw_96) rfl ?_
  refine okL_cons (ok_getP kw_663 cf_X12 rfl rfl (by decide) dX12_readLaw_97) rfl ?_
  refine okL_cons (ok_iload_n rfl dX12_readLaw_100) rfl ?_
  refine okL_cons (ok_iload_n rfl dX12_readLaw_101) rfl ?_
  refine okL_cons (ok_iastore dX12_readLaw_102) rfl ?_
  refine okL_cons (ok_aload_n rfl dX12_readLaw_103) rfl ?_
  refine okL_cons (ok_dup dX12_readLaw_104) rfl ?_
  refine okL_cons (ok_getI kw_883 cf_X12 rfl rfl (by decide) dX12_readLaw_105) rfl ?_
  refine okL_cons (ok_iconst rfl dX12_readLaw_108) rfl ?_
  refine okL_cons (ok_iadd dX12_readLaw_109) rfl ?_
  refine okL_cons (ok_putI kw_883 cf_X12 rfl rfl (by decide) rfl dX12_readLaw_110) rfl ?_
  refine okL_cons (ok_aload_n rfl dX12_readLaw_113) rfl ?_
  refine okL_cons (ok_getP kw_663 cf_X12 rfl rfl (by decide) dX12_readLaw_114) rfl ?_
  refine okL_cons (ok_iload_n rfl dX12_readLaw_117) rfl ?_
  refine okL_cons (ok_iconst rfl dX12_readLaw_118) rfl ?_
  refine okL_cons (ok_iadd dX12_readLaw_119) rfl ?_
  refine okL_cons (ok_aload_n rfl dX12_readLaw_120) rfl ?_
  refine okL_cons (ok_getI kw_801 cf_X12 rfl rfl (by decide) dX12_readLaw_121) rfl ?_
  refine okL_cons (ok_iastore dX12_readLaw_124) rfl ?_
  refine okL_cons (ok_iload_n rfl dX12_readLaw_125) rfl ?_
  refine okL_cons (ok_iconst rfl dX12_readLaw_126) rfl ?_
  refine okL_cons (ok_icmp_eq rfl dX12_readLaw_127) rfl ?_
  refine okL_cons (ok_aload_n rfl dX12_readLaw_130) rfl ?_
  refine okL_cons (ok_iconst rfl dX12_readLaw_131) rfl ?_
  refine okL_cons (ok_invV (M' := 217) kw_884 kw_885 kw_886 kw_711 kw_887 cf_X12 rfl (by decide +kernel) dX12_readLaw_132) rfl ?_
  refine okL_cons (ok_aload_n rfl dX12_readLaw_135) rfl ?_
  refine okL_cons (ok_getP kw_663 cf_X12 rfl rfl (by decide) dX12_readLaw_136) rfl ?_
  refine okL_cons (ok_iload_n rfl dX12_readLaw_139) rfl ?_
  refine okL_cons (ok_iconst rfl dX12_readLaw_140) rfl ?_
  refine okL_cons (ok_iadd dX12_readLaw_141) rfl ?_
  refine okL_cons (ok_aload_n rfl dX12_readLaw_142) rfl ?_
  refine okL_cons (ok_getI kw_801 cf_X12 rfl rfl (by decide) dX12_readLaw_143) rfl ?_
  refine okL_cons (ok_iastore dX12_readLaw_146) rfl ?_
  refine okL_cons (ok_aload_n rfl dX12_readLaw_147) rfl ?_
  refine okL_cons (ok_getP kw_663 cf_X12 rfl rfl (by decide) dX12_readLaw_148) rfl ?_
  refine okL_cons (ok_iload_n rfl dX12_readLaw_151) rfl ?_
  refine okL_cons (ok_iconst rfl dX12_readLaw_152) rfl ?_
  refine okL_cons (ok_iadd dX12_readLaw_153) rfl ?_
  refine okL_cons (ok_aload_n rfl dX12_readLaw_154) rfl ?_
  refine okL_cons (ok_getI kw_801 cf_X12 rfl rfl (by decide) dX12_readLaw_155) rfl ?_
  refine okL_cons (ok_iastore dX12_readLaw_158) rfl ?_
  refine okL_cons (ok_aload_n rfl dX12_readLaw_159) rfl ?_
  refine okL_cons (ok_getI kw_778 cf_X12 rfl rfl (by decide) dX12_readLaw_160) rfl ?_
  refine okL_cons (ok_if_ne rfl dX12_readLaw_163) rfl ?_
  refine okL_cons (ok_aload_n rfl dX12_readLaw_166) rfl ?_
  refine okL_cons (ok_ldc2 kw_888 dX12_readLaw_167) rfl ?_
  refine okL_cons (ok_invV (M' := 198) kw_812 kw_813 kw_814 kw_711 kw_815 cf_X12 rfl (by decide +kernel) dX12_readLaw_170) rfl ?_
  refine okL_cons (ok_if_eq rfl dX12_readLaw_173) rfl ?_
  refine okL_cons (ok_aload_n rfl dX12_readLaw_176) rfl ?_
  refine okL_cons (ok_invV (M' := 197) kw_779 kw_780 kw_781 kw_711 kw_782 cf_X12 rfl (by decide +kernel) dX12_readLaw_177) rfl ?_
  refine okL_cons (ok_aload_n rfl dX12_readLaw_180) rfl ?_
  refine okL_cons (ok_iconst rfl dX12_readLaw_181) rfl ?_
  refine okL_cons (ok_invV (M' := 217) kw_884 kw_885 kw_886 kw_711 kw_887 cf_X12 rfl (by decide +kernel) dX12_readLaw_182) rfl ?_
  refine okL_cons (ok_aload_n rfl dX12_readLaw_185) rfl ?_
  refine okL_cons (ok_getP kw_663 cf_X12 rfl rfl (by decide) dX12_readLaw_186) rfl ?_
  refine okL_cons (ok_iload_n rfl dX12_readLaw_189) rfl ?_
  refine okL_cons (ok_bipush rfl dX12_readLaw_190) rfl ?_
  refine okL_cons (ok_iadd dX12_readLaw_192) rfl ?_
  refine okL_cons (ok_aload_n rfl dX12_readLaw_193) rfl ?_
  refine okL_cons (ok_getI kw_801 cf_X12 rfl rfl (by decide) dX12_readLaw_194) rfl ?_
  refine okL_cons (ok_iastore dX12_readLaw_197) rfl ?_
  exact okL_one (ok_return rfl dX12_readLaw_198)
theorem dX12_law_0 : decode cX12_law 0 = .ok (.aload_n 0, 1) := by decide +kernel
theorem dX12_law_1 : decode cX12_law 1 = .ok (.iconst 0, 1) := by decide +kernel
theorem dX12_law_2 : decode cX12_law 2 = .ok (.putfield 152, 3) := by decide +kernel
theorem dX12_law_5 : decode cX12_law 5 = .ok (.aload_n 0, 1) := by decide +kernel
theorem dX12_law_6 : decode cX12_law 6 = .ok (.getfield 13, 3) := by decide +kernel
theorem dX12_law_9 : decode cX12_law 9 = .ok (.iconst 1, 1) := by decide +kernel
theorem dX12_law_10 : decode cX12_law 10 = .ok (.iaload, 1) := by decide +kernel
theorem dX12_law_11 : decode cX12_law 11 = .ok (.bipush 6, 2) := by decide +kernel
theorem dX12_law_13 : decode cX12_law 13 = .ok (.if_icmp .ne 15, 3) := by decide +kernel
theorem dX12_law_16 : decode cX12_law 16 = .ok (.aload_n 0, 1) := by decide +kernel
theorem dX12_law_17 : decode cX12_law 17 = .ok (.iconst 0, 1) := by decide +kernel
theorem dX12_law_18 : decode cX12_law 18 = .ok (.putfield 223, 3) := by decide +kernel
theorem dX12_law_21 : decode cX12_law 21 = .ok (.aload_n 0, 1) := by decide +kernel
theorem dX12_law_22 : decode cX12_law 22 = .ok (.bipush (-5), 2) := by decide +kernel
theorem dX12_law_24 : decode cX12_law 24 = .ok (.invokevirtual 161, 3) := by decide +kernel
theorem dX12_law_27 : decode cX12_law 27 = .ok (.ireturn, 1) := by decide +kernel
theorem dX12_law_28 : decode cX12_law 28 = .ok (.aload_n 0, 1) := by decide +kernel
theorem dX12_law_29 : decode cX12_law 29 = .ok (.iconst 0, 1) := by decide +kernel
theorem dX12_law_30 : decode cX12_law 30 = .ok (.invokevirtual 367, 3) := by decide +kernel
theorem dX12_law_33 : decode cX12_law 33 = .ok (.aload_n 0, 1) := by decide +kernel
theorem dX12_law_34 : decode cX12_law 34 = .ok (.invokevirtual 370, 3) := by decide +kernel
theorem dX12_law_37 : decode cX12_law 37 = .ok (.aload_n 0, 1) := by decide +kernel
theorem dX12_law_38 : decode cX12_law 38 = .ok (.getfield 235, 3) := by decide +kernel
theorem dX12_law_41 : decode cX12_law 41 = .ok (.ifCond .ne 23, 3) := by decide +kernel
theorem dX12_law_44 : decode cX12_law 44 = .ok (.aload_n 0, 1) := by decide +kernel
theorem dX12_law_45 : decode cX12_law 45 = .ok (.bipush 59, 2) := by decide +kernel
theorem dX12_law_47 : decode cX12_law 47 = .ok (.invokevirtual 301, 3) := by decide +kernel
theorem dX12_law_50 : decode cX12_law 50 = .ok (.ifCond .eq 14, 3) := by decide +kernel
theorem dX12_law_53 : decode cX12_law 53 = .ok (.aload_n 0, 1) := by decide +kernel
theorem dX12_law_54 : decode cX12_law 54 = .ok (.invokevirtual 239, 3) := by decide +kernel
theorem dX12_law_57 : decode cX12_law 57 = .ok (.aload_n 0, 1) := by decide +kernel
theorem dX12_law_58 : decode cX12_law 58 = .ok (.invokevirtual 370, 3) := by decide +kernel
theorem dX12_law_61 : decode cX12_law 61 = .ok (.goto (-24), 3) := by decide +kernel
theorem dX12_law_64 : decode cX12_law 64 = .ok (.aload_n 0, 1) := by decide +kernel
theorem dX12_law_65 : decode cX12_law 65 = .ok (.invokevirtual 373, 3) := by decide +kernel
theorem dX12_law_68 : decode cX12_law 68 = .ok (.aload_n 0, 1) := by decide +kernel
theorem dX12_law_69 : decode cX12_law 69 = .ok (.getfield 235, 3) := by decide +kernel
theorem dX12_law_72 : decode cX12_law 72 = .ok (.ifCond .eq 10, 3) := by decide +kernel
theorem dX12_law_75 : decode cX12_law 75 = .ok (.aload_n 0, 1) := by decide +kernel
theorem dX12_law_76 : decode cX12_law 76 = .ok (.bipush (-6), 2) := by decide +kernel
theorem dX12_law_78 : decode cX12_law 78 = .ok (.invokevirtual 161, 3) := by decide +kernel
theorem dX12_law_81 : decode cX12_law 81 = .ok (.ireturn, 1) := by decide +kernel
theorem dX12_law_82 : decode cX12_law 82 = .ok (.bipush 68, 2) := by decide +kernel
theorem dX12_law_84 : decode cX12_law 84 = .ok (.sipush 900, 3) := by decide +kernel
theorem dX12_law_87 : decode cX12_law 87 = .ok (.aload_n 0, 1) := by decide +kernel
theorem dX12_law_88 : decode cX12_law 88 = .ok (.getfield 13, 3) := by decide +kernel
theorem dX12_law_91 : decode cX12_law 91 = .ok (.iconst 1, 1) := by decide +kernel
theorem dX12_law_92 : decode cX12_law 92 = .ok (.iaload, 1) := by decide +kernel
theorem dX12_law_93 : decode cX12_law 93 = .ok (.imul, 1) := by decide +kernel
theorem dX12_law_94 : decode cX12_law 94 = .ok (.iadd, 1) := by decide +kernel
theorem dX12_law_95 : decode cX12_law 95 = .ok (.istore_n 1, 1) := by decide +kernel
theorem dX12_law_96 : decode cX12_law 96 = .ok (.aload_n 0, 1) := by decide +kernel
theorem dX12_law_97 : decode cX12_law 97 = .ok (.getfield 13, 3) := by decide +kernel
theorem dX12_law_100 : decode cX12_law 100 = .ok (.iload_n 1, 1) := by decide +kernel
theorem dX12_law_101 : decode cX12_law 101 = .ok (.iconst 1, 1) := by decide +kernel
theorem dX12_law_102 : decode cX12_law 102 = .ok (.iadd, 1) := by decide +kernel
theorem dX12_law_103 : decode cX12_law 103 = .ok (.aload_n 0, 1) := by decide +kernel
theorem dX12_law_104 : decode cX12_law 104 = .ok (.getfield 359, 3) := by decide +kernel
theorem dX12_law_107 : decode cX12_law 107 = .ok (.iastore, 1) := by decide +kernel
theorem dX12_law_108 : decode cX12_law 108 = .ok (.iconst 0, 1) := by decide +kernel
theorem dX12_law_109 : decode cX12_law 109 = .ok (.istore_n 2, 1) := by decide +kernel
theorem dX12_law_110 : decode cX12_law 110 = .ok (.iload_n 2, 1) := by decide +kernel
theorem dX12_law_111 : decode cX12_law 111 = .ok (.bipush 8, 2) := by decide +kernel
theorem dX12_law_113 : decode cX12_law 113 = .ok (.aload_n 0, 1) := by decide +kernel
theorem dX12_law_114 : decode cX12_law 114 = .ok (.getfield 359, 3) := by decide +kernel
theorem dX12_law_117 : decode cX12_law 117 = .ok (.imul, 1) := by decide +kernel
theorem dX12_law_118 : decode cX12_law 118 = .ok (.if_icmp .ge 25, 3) := by decide +kernel
theorem dX12_law_121 : decode cX12_law 121 = .ok (.aload_n 0, 1) := by decide +kernel
theorem dX12_law_122 : decode cX12_law 122 = .ok (.getfield 13, 3) := by decide +kernel
theorem dX12_law_125 : decode cX12_law 125 = .ok (.iload_n 1, 1) := by decide +kernel
theorem dX12_law_126 : decode cX12_law 126 = .ok (.iconst 2, 1) := by decide +kernel
theorem dX12_law_127 : decode cX12_law 127 = .ok (.iadd, 1) := by decide +kernel
theorem dX12_law_128 : decode cX12_law 128 = .ok (.iload_n 2, 1) := by decide +kernel
theorem dX12_law_129 : decode cX12_law 129 = .ok (.iadd, 1) := by decide +kernel
theorem dX12_law_130 : decode cX12_law 130 = .ok (.aload_n 0, 1) := by decide +kernel
theorem dX12_law_131 : decode cX12_law 131 = .ok (.getfield 42, 3) := by decide +kernel
theorem dX12_law_134 : decode cX12_law 134 = .ok (.iload_n 2, 1) := by decide +kernel
theorem dX12_law_135 : decode cX12_law 135 = .ok (.iaload, 1) := by decide +kernel
theorem dX12_law_136 : decode cX12_law 136 = .ok (.iastore, 1) := by decide +kernel
theorem dX12_law_137 : decode cX12_law 137 = .ok (.iinc 2 1, 3) := by decide +kernel
theorem dX12_law_140 : decode cX12_law 140 = .ok (.goto (-30), 3) := by decide +kernel
theorem dX12_law_143 : decode cX12_law 143 = .ok (.iconst 0, 1) := by decide +kernel
theorem dX12_law_144 : decode cX12_law 144 = .ok (.istore_n 2, 1) := by decide +kernel
theorem dX12_law_145 : decode cX12_law 145 = .ok (.iload_n 2, 1) := by decide +kernel
theorem dX12_law_146 : decode cX12_law 146 = .ok (.aload_n 0, 1) := by decide +kernel
theorem dX12_law_147 : decode cX12_law 147 = .ok (.getfield 272, 3) := by decide +kernel
theorem dX12_law_150 : decode cX12_law 150 = .ok (.if_icmp .ge 49, 3) := by decide +kernel
theorem dX12_law_153 : decode cX12_law 153 = .ok (.aload_n 0, 1) := by decide +kernel
theorem dX12_law_154 : decode cX12_law 154 = .ok (.getfield 13, 3) := by decide +kernel
theorem dX12_law_157 : decode cX12_law 157 = .ok (.iload_n 1, 1) := by decide +kernel
theorem dX12_law_158 : decode cX12_law 158 = .ok (.bipush 98, 2) := by decide +kernel
theorem dX12_law_160 : decode cX12_law 160 = .ok (.iadd, 1) := by decide +kernel
theorem dX12_law_161 : decode cX12_law 161 = .ok (.iconst 2, 1) := by decide +kernel
theorem dX12_law_162 : decode cX12_law 162 = .ok (.iload_n 2, 1) := by decide +kernel
theorem dX12_law_163 : decode cX12_law 163 = .ok (.imul, 1) := by decide +kernel
theorem dX12_law_164 : decode cX12_law 164 = .ok (.iadd, 1) := by decide +kernel
theorem dX12_law_165 : decode cX12_law 165 = .ok (.aload_n 0, 1) := by decide +kernel
theorem dX12_law_166 : decode cX12_law 166 = .ok (.getfield 45, 3) := by decide +kernel
theorem dX12_law_169 : decode cX12_law 169 = .ok (.iload_n 2, 1) := by decide +kernel
theorem dX12_law_170 : decode cX12_law 170 = .ok (.iaload, 1) := by decide +kernel
theorem dX12_law_171 : decode cX12_law 171 = .ok (.iastore, 1) := by decide +kernel
theorem dX12_law_172 : decode cX12_law 172 = .ok (.aload_n 0, 1) := by decide +kernel
theorem dX12_law_173 : decode cX12_law 173 = .ok (.getfield 13, 3) := by decide +kernel
theorem dX12_law_176 : decode cX12_law 176 = .ok (.iload_n 1, 1) := by decide +kernel
theorem dX12_law_177 : decode cX12_law 177 = .ok (.bipush 98, 2) := by decide +kernel
theorem dX12_law_179 : decode cX12_law 179 = .ok (.iadd, 1) := by decide +kernel
theorem dX12_law_180 : decode cX12_law 180 = .ok (.iconst 2, 1) := by decide +kernel
theorem dX12_law_181 : decode cX12_law 181 = .ok (.iload_n 2, 1) := by decide +kernel
theorem dX12_law_182 : decode cX12_law 182 = .ok (.imul, 1) := by decide +kernel
theorem dX12_law_183 : decode cX12_law 183 = .ok (.iadd, 1) := by decide +kernel
theorem dX12_law_184 : decode cX12_law 184 = .ok (.iconst 1, 1) := by decide +kernel
theorem dX12_law_185 : decode cX12_law 185 = .ok (.iadd, 1) := by decide +kernel
theorem dX12_law_186 : decode cX12_law 186 = .ok (.aload_n 0, 1) := by decide +kernel
theorem dX12_law_187 : decode cX12_law 187 = .ok (.getfield 48, 3) := by decide +kernel
theorem dX12_law_190 : decode cX12_law 190 = .ok (.iload_n 2, 1) := by decide +kernel
theorem dX12_law_191 : decode cX12_law 191 = .ok (.iaload, 1) := by decide +kernel
theorem dX12_law_192 : decode cX12_law 192 = .ok (.iastore, 1) := by decide +kernel
theorem dX12_law_193 : decode cX12_law 193 = .ok (.iinc 2 1, 3) := by decide +kernel
theorem dX12_law_196 : decode cX12_law 196 = .ok (.goto (-51), 3) := by decide +kernel
theorem dX12_law_199 : decode cX12_law 199 = .ok (.aload_n 0, 1) := by decide +kernel
theorem dX12_law_200 : decode cX12_law 200 = .ok (.getfield 13, 3) := by decide +kernel
theorem dX12_law_203 : decode cX12_law 203 = .ok (.iconst 1, 1) := by decide +kernel
theorem dX12_law_204 : decode cX12_law 204 = .ok (.dup2, 1) := by decide +kernel
theorem dX12_law_205 : decode cX12_law 205 = .ok (.iaload, 1) := by decide +kernel
theorem dX12_law_206 : decode cX12_law 206 = .ok (.iconst 1, 1) := by decide +kernel
theorem dX12_law_207 : decode cX12_law 207 = .ok (.iadd, 1) := by decide +kernel
theorem dX12_law_208 : decode cX12_law 208 = .ok (.iastore, 1) := by decide +kernel
theorem dX12_law_209 : decode cX12_law 209 = .ok (.aload_n 0, 1) := by decide +kernel
theorem dX12_law_210 : decode cX12_law 210 = .ok (.aload_n 0, 1) := by decide +kernel
theorem dX12_law_211 : decode cX12_law 211 = .ok (.getfield 13, 3) := by decide +kernel
theorem dX12_law_214 : decode cX12_law 214 = .ok (.iconst 1, 1) := by decide +kernel
theorem dX12_law_215 : decode cX12_law 215 = .ok (.iaload, 1) := by decide +kernel
theorem dX12_law_216 : decode cX12_law 216 = .ok (.iconst 1, 1) := by decide +kernel
theorem dX12_law_217 : decode cX12_law 217 = .ok (.isub, 1) := by decide +kernel
theorem dX12_law_218 : decode cX12_law 218 = .ok (.invokevirtual 161, 3) := by decide +kernel
theorem dX12_law_221 : decode cX12_law 221 = .ok (.ireturn, 1) := by decide +kernel
set_option maxRecDepth 100000 in
theorem okm_X12_law : okL RX12 cX12_law 3 (some .int) "law" pcX12_law opX12_law pcX12_law := by
  unfold opX12_law
  refine okL_cons (ok_aload_n rfl dX12_law_0) rfl ?_
  refine okL_cons (ok_iconst rfl dX12_law_1) rfl ?_
  refine okL_cons (ok_putI kw_717 cf_X12 rfl rfl (by decide) rfl dX12_law_2) rfl ?_
  refine okL_cons (ok_aload_n rfl dX12_law_5) rfl ?_
  refine okL_cons (ok_getP kw_654 cf_X12 rfl rfl (by decide) dX12_law_6) rfl ?_
  refine okL_cons (ok_iconst rfl dX12_law_9) rfl ?_
  refine okL_cons (ok_iaload dX12_law_10) rfl ?_
  refine okL_cons (ok_bipush rfl dX12_law_11) rfl ?_
  refine okL_cons (ok_icmp_ne rfl dX12_law_13) rfl ?_
  refine okL_cons (ok_aload_n rfl dX12_law_16) rfl ?_
  refine okL_cons (ok_iconst rfl dX12_law_17) rfl ?_
  refine okL_cons (ok_putI kw_771 cf_X12 rfl rfl (by decide) rfl dX12_law_18) rfl ?_
  refine okL_cons (ok_aload_n rfl dX12_law_21) rfl ?_
  refine okL_cons (ok_bipush rfl dX12_law_22) rfl ?_
  refine okL_cons (ok_invV (M' := 169) kw_708 kw_709 kw_710 kw_711 kw_712 cf_X12 rfl (by decide +kernel) dX12_law_24) rfl ?_
  refine okL_cons (ok_ireturn rfl dX12_law_27) rfl ?_
  refine okL_cons (ok_aload_n rfl dX12_law_28) rfl ?_
  refine okL_cons (ok_iconst rfl dX12_law_29) rfl ?_
  refine okL_cons (ok_invV (M' := 218) kw_889 kw_890 kw_891 kw_711 kw_892 cf_X12 rfl (by decide +kernel) dX12_law_30) rfl ?_
  refine okL_cons (ok_aload_n rfl dX12_law_33) rfl ?_
  refine okL_cons (ok_invV (M' := 220) kw_893 kw_894 kw_895 kw_711 kw_896 cf_X12 rfl (by decide +kernel) dX12_law_34) rfl ?_
  refine okL_cons (ok_aload_n rfl dX12_law_37) rfl ?_
  refine okL_cons (ok_getI kw_778 cf_X12 rfl rfl (by decide) dX12_law_38) rfl ?_
  refine okL_cons (ok_if_ne rfl dX12_law_41) rfl ?_
  refine okL_cons (ok_aload_n rfl dX12_law_44) rfl ?_
  refine okL_cons (ok_bipush rfl dX12_law_45) rfl ?_
  refine okL_cons (ok_invV (M' := 199) kw_822 kw_823 kw_824 kw_711 kw_825 cf_X12 rfl (by decide +kernel) dX12_law_47) rfl ?_
  refine okL_cons (ok_if_eq rfl dX12_law_50) rfl ?_
  refine okL_cons (ok_aload_n rfl dX12_law_53) rfl ?_
  refine okL_cons (ok_invV (M' := 197) kw_779 kw_780 kw_781 kw_711 kw_782 cf_X12 rfl (by decide +kernel) dX12_law_54) rfl ?_
  refine okL_cons (ok_aload_n rfl dX12_law_57) rfl ?_
  refine okL_cons (ok_invV (M' := 220) kw_893 kw_894 kw_895 kw_711 kw_896 cf_X12 rfl (by decide +kernel) dX12_law_58) rfl ?_
  refine okL_cons (ok_goto rfl dX12_law_61) rfl ?_
  refine okL_cons (ok_aload_n rfl dX12_law_64) rfl ?_
  refine okL_cons (ok_invV (M' := 219) kw_897 kw_898 kw_899 kw_711 kw_900 cf_X12 rfl (by decide +kernel) dX12_law_65) rfl ?_
  refine okL_cons (ok_aload_n rfl dX12_law_68) rfl ?_
  refine okL_cons (ok_getI kw_778 cf_X12 rfl rfl (by decide) dX12_law_69) rfl ?_
  refine okL_cons (ok_if_eq rfl dX12_law_72) rfl ?_
  refine okL_cons (ok_aload_n rfl dX12_law_75) rfl ?_
  refine okL_cons (ok_bipush rfl dX12_law_76) rfl ?_
  refine okL_cons (ok_invV (M' := 169) kw_708 kw_709 kw_710 kw_711 kw_712 cf_X12 rfl (by decide +kernel) dX12_law_78) rfl ?_
  refine okL_cons (ok_ireturn rfl dX12_law_81) rfl ?_
  refine okL_cons (ok_bipush rfl dX12_law_82) rfl ?_
  refine okL_cons (ok_sipush rfl dX12_law_84) rfl ?_
  refine okL_cons (ok_aload_n rfl dX12_law_87) rfl ?_
  refine okL_cons (ok_getP kw_654 cf_X12 rfl rfl (by decide) dX12_law_88) rfl ?_
  refine okL_cons (ok_iconst rfl dX12_law_91) rfl ?_
  refine okL_cons (ok_iaload dX12_law_92) rfl ?_
  refine okL_cons (ok_imul dX12_law_93) rfl ?_
  refine okL_cons (ok_iadd dX12_law_94) rfl ?_
  refine okL_cons (ok_istore_n rfl dX12_law_95) rfl ?_
  refine okL_cons (ok_aload_n rfl dX12_law_96) rfl ?_
  refine okL_cons (ok_getP kw_654 cf_X12 rfl rfl (by decide) dX12_law_97) rfl ?_
  refine okL_cons (ok_iload_n rfl dX12_law_100) rfl ?_
  refine okL_cons (ok_iconst rfl dX12_law_101) rfl ?_
  refine okL_cons (ok_iadd dX12_law_102) rfl ?_
  refine okL_cons (ok_aload_n rfl dX12_law_103) rfl ?_
  refine okL_cons (ok_getI kw_883 cf_X12 rfl rfl (by decide) dX12_law_104) rfl ?_
  refine okL_cons (ok_iastore dX12_law_107) rfl ?_
  refine okL_cons (ok_iconst rfl dX12_law_108) rfl ?_
  refine okL_cons (ok_istore_n rfl dX12_law_109) rfl ?_
  refine okL_cons (ok_iload_n rfl dX12_law_110) rfl ?_
  refine okL_cons (ok_bipush rfl dX12_law_111) rfl ?_
  refine okL_cons (ok_aload_n rfl dX12_law_113) rfl ?_
  refine okL_cons (ok_getI kw_883 cf_X12 rfl rfl (by decide) dX12_law_114) rfl ?_
  refine okL_cons (ok_imul dX12_law_117) rfl ?_
  refine okL_cons (ok_icmp_ge rfl dX12_law_118) rfl ?_
  refine okL_cons (ok_aload_n rfl dX12_law_121) rfl ?_
  refine okL_cons (ok_getP kw_654 cf_X12 rfl rfl (by decide) dX12_law_122) rfl ?_
  refine okL_cons (ok_iload_n rfl dX12_law_125) rfl ?_
  refine okL_cons (ok_iconst rfl dX12_law_126) rfl ?_
  refine okL_cons (ok_iadd dX12_law_127) rfl ?_
  refine okL_cons (ok_iload_n rfl dX12_law_128) rfl ?_
  refine okL_cons (ok_iadd dX12_law_129) rfl ?_
  refine okL_cons (ok_aload_n rfl dX12_law_130) rfl ?_
  refine okL_cons (ok_getP kw_663 cf_X12 rfl rfl (by decide) dX12_law_131) rfl ?_
  refine okL_cons (ok_iload_n rfl dX12_law_134) rfl ?_
  refine okL_cons (ok_iaload dX12_law_135) rfl ?_
  refine okL_cons (ok_iastore dX12_law_136) rfl ?_
  refine okL_cons (ok_iinc rfl dX12_law_137) rfl ?_
  refine okL_cons (ok_goto rfl dX12_law_140) rfl ?_
  refine okL_cons (ok_iconst rfl dX12_law_143) rfl ?_
  refine okL_cons (ok_istore_n rfl dX12_law_144) rfl ?_
  refine okL_cons (ok_iload_n rfl dX12_law_145) rfl ?_
  refine okL_cons (ok_aload_n rfl dX12_law_146) rfl ?_
  refine okL_cons (ok_getI kw_801 cf_X12 rfl rfl (by decide) dX12_law_147) rfl ?_
  refine okL_cons (ok_icmp_ge rfl dX12_law_150) rfl ?_
  refine okL_cons (ok_aload_n rfl dX12_law_153) rfl ?_
  refine okL_cons (ok_getP kw_654 cf_X12 rfl rfl (by decide) dX12_law_154) rfl ?_
  refine okL_cons (ok_iload_n rfl dX12_law_157) rfl ?_
  refine okL_cons (ok_bipush rfl dX12_law_158) rfl ?_
  refine okL_cons (ok_iadd dX12_law_160) rfl ?_
  refine okL_cons (ok_iconst rfl dX12_law_161) rfl ?_
  refine okL_cons (ok_iload_n rfl dX12_law_162) rfl ?_
  refine okL_cons (ok_imul dX12_law_163) rfl ?_
  refine okL_cons (ok_iadd dX12_law_164) rfl ?_
  refine okL_cons (ok_aload_n rfl dX12_law_165) rfl ?_
  refine okL_cons (ok_getP kw_664 cf_X12 rfl rfl (by decide) dX12_law_166) rfl ?_
  refine okL_cons (ok_iload_n rfl dX12_law_169) rfl ?_
  refine okL_cons (ok_iaload dX12_law_170) rfl ?_
  refine okL_cons (ok_iastore dX12_law_171) rfl ?_
  refine okL_cons (ok_aload_n rfl dX12_law_172) rfl ?_
  refine okL_cons (ok_getP kw_654 cf_X12 rfl rfl (by decide) dX12_law_173) rfl ?_
  refine okL_cons (ok_iload_n rfl dX12_law_176) rfl ?_
  refine okL_cons (ok_bipush rfl dX12_law_177) rfl ?_
  refine okL_cons (ok_iadd dX12_law_179) rfl ?_
  refine okL_cons (ok_iconst rfl dX12_law_180) rfl ?_
  refine okL_cons (ok_iload_n rfl dX12_law_181) rfl ?_
  refine okL_cons (ok_imul dX12_law_182) rfl ?_
  refine okL_cons (ok_iadd dX12_law_183) rfl ?_
  refine okL_cons (ok_iconst rfl dX12_law_184) rfl ?_
  refine okL_cons (ok_iadd dX12_law_185) rfl ?_
  refine okL_cons (ok_aload_n rfl dX12_law_186) rfl ?_
  refine okL_cons (ok_getP kw_665 cf_X12 rfl rfl (by decide) dX12_law_187) rfl ?_
  refine okL_cons (ok_iload_n rfl dX12_law_190) rfl ?_
  refine okL_cons (ok_iaload dX12_law_191) rfl ?_
  refine okL_cons (ok_iastore dX12_law_192) rfl ?_
  refine okL_cons (ok_iinc rfl dX12_law_193) rfl ?_
  refine okL_cons (ok_goto rfl dX12_law_196) rfl ?_
  refine okL_cons (ok_aload_n rfl dX12_law_199) rfl ?_
  refine okL_cons (ok_getP kw_654 cf_X12 rfl rfl (by decide) dX12_law_200) rfl ?_
  refine okL_cons (ok_iconst rfl dX12_law_203) rfl ?_
  refine okL_cons (ok_dup2 dX12_law_204) rfl ?_
  refine okL_cons (ok_iaload dX12_law_205) rfl ?_
  refine okL_cons (ok_iconst rfl dX12_law_206) rfl ?_
  refine okL_cons (ok_iadd dX12_law_207) rfl ?_
  refine okL_cons (ok_iastore dX12_law_208) rfl ?_
  refine okL_cons (ok_aload_n rfl dX12_law_209) rfl ?_
  refine okL_cons (ok_aload_n rfl dX12_law_210) rfl ?_
  refine okL_cons (ok_getP kw_654 cf_X12 rfl rfl (by decide) dX12_law_211) rfl ?_
  refine okL_cons (ok_iconst rfl dX12_law_214) rfl ?_
  refine okL_cons (ok_iaload dX12_law_215) rfl ?_
  refine okL_cons (ok_iconst rfl dX12_law_216) rfl ?_
  refine okL_cons (ok_isub dX12_law_217) rfl ?_
  refine okL_cons (ok_invV (M' := 169) kw_708 kw_709 kw_710 kw_711 kw_712 cf_X12 rfl (by decide +kernel) dX12_law_218) rfl ?_
  exact okL_one (ok_ireturn rfl dX12_law_221)
theorem dX12_isLaw_0 : decode cX12_isLaw 0 = .ok (.iload_n 1, 1) := by decide +kernel
theorem dX12_isLaw_1 : decode cX12_isLaw 1 = .ok (.iconst (-1), 1) := by decide +kernel
theorem dX12_isLaw_2 : decode cX12_isLaw 2 = .ok (.if_icmp .eq 21, 3) := by decide +kernel
theorem dX12_isLaw_5 : decode cX12_isLaw 5 = .ok (.iload_n 1, 1) := by decide +kernel
theorem dX12_isLaw_6 : decode cX12_isLaw 6 = .ok (.i2l, 1) := by decide +kernel
theorem dX12_isLaw_7 : decode cX12_isLaw 7 = .ok (.lconst 0, 1) := by decide +kernel
theorem dX12_isLaw_8 : decode cX12_isLaw 8 = .ok (.aload_n 0, 1) := by decide +kernel
theorem dX12_isLaw_9 : decode cX12_isLaw 9 = .ok (.getfield 13, 3) := by decide +kernel
theorem dX12_isLaw_12 : decode cX12_isLaw 12 = .ok (.iconst 1, 1) := by decide +kernel
theorem dX12_isLaw_13 : decode cX12_isLaw 13 = .ok (.iaload, 1) := by decide +kernel
theorem dX12_isLaw_14 : decode cX12_isLaw 14 = .ok (.i2l, 1) := by decide +kernel
theorem dX12_isLaw_15 : decode cX12_isLaw 15 = .ok (.lconst 1, 1) := by decide +kernel
theorem dX12_isLaw_16 : decode cX12_isLaw 16 = .ok (.lsub, 1) := by decide +kernel
theorem dX12_isLaw_17 : decode cX12_isLaw 17 = .ok (.invokestatic 172, 3) := by decide +kernel
theorem dX12_isLaw_20 : decode cX12_isLaw 20 = .ok (.ifCond .eq 7, 3) := by decide +kernel
theorem dX12_isLaw_23 : decode cX12_isLaw 23 = .ok (.iconst 1, 1) := by decide +kernel
theorem dX12_isLaw_24 : decode cX12_isLaw 24 = .ok (.goto 4, 3) := by decide +kernel
theorem dX12_isLaw_27 : decode cX12_isLaw 27 = .ok (.iconst 0, 1) := by decide +kernel
theorem dX12_isLaw_28 : decode cX12_isLaw 28 = .ok (.ireturn, 1) := by decide +kernel
set_option maxRecDepth 100000 in
theorem okm_X12_isLaw : okL RX12 cX12_isLaw 2 (some .boolean) "isLaw" pcX12_isLaw opX12_isLaw pcX12_isLaw := by
  unfold opX12_isLaw
  refine okL_cons (ok_iload_n rfl dX12_isLaw_0) rfl ?_
  refine okL_cons (ok_iconst rfl dX12_isLaw_1) rfl ?_
  refine okL_cons (ok_icmp_eq rfl dX12_isLaw_2) rfl ?_
  refine okL_cons (ok_iload_n rfl dX12_isLaw_5) rfl ?_
  refine okL_cons (ok_i2l dX12_isLaw_6) rfl ?_
  refine okL_cons (ok_lconst rfl dX12_isLaw_7) rfl ?_
  refine okL_cons (ok_aload_n rfl dX12_isLaw_8) rfl ?_
  refine okL_cons (ok_getP kw_654 cf_X12 rfl rfl (by decide) dX12_isLaw_9) rfl ?_
  refine okL_cons (ok_iconst rfl dX12_isLaw_12) rfl ?_
  refine okL_cons (ok_iaload dX12_isLaw_13) rfl ?_
  refine okL_cons (ok_i2l dX12_isLaw_14) rfl ?_
  refine okL_cons (ok_lconst rfl dX12_isLaw_15) rfl ?_
  refine okL_cons (ok_lsub dX12_isLaw_16) rfl ?_
  refine okL_cons (ok_invS (M' := 165) kw_722 kw_723 kw_711 kw_724 rfl (by decide +kernel) dX12_isLaw_17) rfl ?_
  refine okL_cons (ok_if_eq rfl dX12_isLaw_20) rfl ?_
  refine okL_cons (ok_iconst rfl dX12_isLaw_23) rfl ?_
  refine okL_cons (ok_goto rfl dX12_isLaw_24) rfl ?_
  refine okL_cons (ok_iconst rfl dX12_isLaw_27) rfl ?_
  exact okL_one (ok_zreturn rfl dX12_isLaw_28)
theorem dX12_force_0 : decode cX12_force 0 = .ok (.aload_n 0, 1) := by decide +kernel
theorem dX12_force_1 : decode cX12_force 1 = .ok (.iconst 0, 1) := by decide +kernel
theorem dX12_force_2 : decode cX12_force 2 = .ok (.putfield 152, 3) := by decide +kernel
theorem dX12_force_5 : decode cX12_force 5 = .ok (.aload_n 0, 1) := by decide +kernel
theorem dX12_force_6 : decode cX12_force 6 = .ok (.iload_n 1, 1) := by decide +kernel
theorem dX12_force_7 : decode cX12_force 7 = .ok (.invokevirtual 376, 3) := by decide +kernel
theorem dX12_force_10 : decode cX12_force 10 = .ok (.ifCond .eq 12, 3) := by decide +kernel
theorem dX12_force_13 : decode cX12_force 13 = .ok (.aload_n 0, 1) := by decide +kernel
theorem dX12_force_14 : decode cX12_force 14 = .ok (.iconst 2, 1) := by decide +kernel
theorem dX12_force_15 : decode cX12_force 15 = .ok (.iload_n 1, 1) := by decide +kernel
theorem dX12_force_16 : decode cX12_force 16 = .ok (.invokevirtual 219, 3) := by decide +kernel
theorem dX12_force_19 : decode cX12_force 19 = .ok (.goto 9, 3) := by decide +kernel
theorem dX12_force_22 : decode cX12_force 22 = .ok (.aload_n 0, 1) := by decide +kernel
theorem dX12_force_23 : decode cX12_force 23 = .ok (.bipush (-2), 2) := by decide +kernel
theorem dX12_force_25 : decode cX12_force 25 = .ok (.invokevirtual 161, 3) := by decide +kernel
theorem dX12_force_28 : decode cX12_force 28 = .ok (.ireturn, 1) := by decide +kernel
set_option maxRecDepth 100000 in
theorem okm_X12_force : okL RX12 cX12_force 2 (some .int) "force" pcX12_force opX12_force pcX12_force := by
  unfold opX12_force
  refine okL_cons (ok_aload_n rfl dX12_force_0) rfl ?_
  refine okL_cons (ok_iconst rfl dX12_force_1) rfl ?_
  refine okL_cons (ok_putI kw_717 cf_X12 rfl rfl (by decide) rfl dX12_force_2) rfl ?_
  refine okL_cons (ok_aload_n rfl dX12_force_5) rfl ?_
  refine okL_cons (ok_iload_n rfl dX12_force_6) rfl ?_
  refine okL_cons (ok_invV (M' := 222) kw_901 kw_902 kw_903 kw_711 kw_904 cf_X12 rfl (by decide +kernel) dX12_force_7) rfl ?_
  refine okL_cons (ok_if_eq rfl dX12_force_10) rfl ?_
  refine okL_cons (ok_aload_n rfl dX12_force_13) rfl ?_
  refine okL_cons (ok_iconst rfl dX12_force_14) rfl ?_
  refine okL_cons (ok_iload_n rfl dX12_force_15) rfl ?_
  refine okL_cons (ok_invV (M' := 170) kw_767 kw_768 kw_769 kw_711 kw_770 cf_X12 rfl (by decide +kernel) dX12_force_16) rfl ?_
  refine okL_cons (ok_goto rfl dX12_force_19) rfl ?_
  refine okL_cons (ok_aload_n rfl dX12_force_22) rfl ?_
  refine okL_cons (ok_bipush rfl dX12_force_23) rfl ?_
  refine okL_cons (ok_invV (M' := 169) kw_708 kw_709 kw_710 kw_711 kw_712 cf_X12 rfl (by decide +kernel) dX12_force_25) rfl ?_
  exact okL_one (ok_ireturn rfl dX12_force_28)
theorem dX12_reckon_0 : decode cX12_reckon 0 = .ok (.iload_n 1, 1) := by decide +kernel
theorem dX12_reckon_1 : decode cX12_reckon 1 = .ok (.tableswitch 148 20 26 #[43, 48, 53, 58, 90, 122, 135], 43) := by decide +kernel
theorem dX12_reckon_44 : decode cX12_reckon 44 = .ok (.lload_n 2, 1) := by decide +kernel
theorem dX12_reckon_45 : decode cX12_reckon 45 = .ok (.lload 4, 2) := by decide +kernel
theorem dX12_reckon_47 : decode cX12_reckon 47 = .ok (.ladd, 1) := by decide +kernel
theorem dX12_reckon_48 : decode cX12_reckon 48 = .ok (.lreturn, 1) := by decide +kernel
theorem dX12_reckon_49 : decode cX12_reckon 49 = .ok (.lload_n 2, 1) := by decide +kernel
theorem dX12_reckon_50 : decode cX12_reckon 50 = .ok (.lload 4, 2) := by decide +kernel
theorem dX12_reckon_52 : decode cX12_reckon 52 = .ok (.lsub, 1) := by decide +kernel
theorem dX12_reckon_53 : decode cX12_reckon 53 = .ok (.lreturn, 1) := by decide +kernel
theorem dX12_reckon_54 : decode cX12_reckon 54 = .ok (.lload_n 2, 1) := by decide +kernel
theorem dX12_reckon_55 : decode cX12_reckon 55 = .ok (.lload 4, 2) := by decide +kernel
theorem dX12_reckon_57 : decode cX12_reckon 57 = .ok (.lmul, 1) := by decide +kernel
theorem dX12_reckon_58 : decode cX12_reckon 58 = .ok (.lreturn, 1) := by decide +kernel
theorem dX12_reckon_59 : decode cX12_reckon 59 = .ok (.aload_n 0, 1) := by decide +kernel
theorem dX12_reckon_60 : decode cX12_reckon 60 = .ok (.lload 4, 2) := by decide +kernel
theorem dX12_reckon_62 : decode cX12_reckon 62 = .ok (.lconst 0, 1) := by decide +kernel
theorem dX12_reckon_63 : decode cX12_reckon 63 = .ok (.lcmp, 1) := by decide +kernel
theorem dX12_reckon_64 : decode cX12_reckon 64 = .ok (.ifCond .ne 7, 3) := by decide +kernel
theorem dX12_reckon_67 : decode cX12_reckon 67 = .ok (.iconst 1, 1) := by decide +kernel
theorem dX12_reckon_68 : decode cX12_reckon 68 = .ok (.goto 4, 3) := by decide +kernel
theorem dX12_reckon_71 : decode cX12_reckon 71 = .ok (.iconst 0, 1) := by decide +kernel
theorem dX12_reckon_72 : decode cX12_reckon 72 = .ok (.putfield 379, 3) := by decide +kernel
theorem dX12_reckon_75 : decode cX12_reckon 75 = .ok (.aload_n 0, 1) := by decide +kernel
theorem dX12_reckon_76 : decode cX12_reckon 76 = .ok (.getfield 379, 3) := by decide +kernel
theorem dX12_reckon_79 : decode cX12_reckon 79 = .ok (.ifCond .eq 7, 3) := by decide +kernel
theorem dX12_reckon_82 : decode cX12_reckon 82 = .ok (.lconst 0, 1) := by decide +kernel
theorem dX12_reckon_83 : decode cX12_reckon 83 = .ok (.goto 7, 3) := by decide +kernel
theorem dX12_reckon_86 : decode cX12_reckon 86 = .ok (.lload_n 2, 1) := by decide +kernel
theorem dX12_reckon_87 : decode cX12_reckon 87 = .ok (.lload 4, 2) := by decide +kernel
theorem dX12_reckon_89 : decode cX12_reckon 89 = .ok (.ldiv, 1) := by decide +kernel
theorem dX12_reckon_90 : decode cX12_reckon 90 = .ok (.lreturn, 1) := by decide +kernel
theorem dX12_reckon_91 : decode cX12_reckon 91 = .ok (.aload_n 0, 1) := by decide +kernel
theorem dX12_reckon_92 : decode cX12_reckon 92 = .ok (.lload 4, 2) := by decide +kernel
theorem dX12_reckon_94 : decode cX12_reckon 94 = .ok (.lconst 0, 1) := by decide +kernel
theorem dX12_reckon_95 : decode cX12_reckon 95 = .ok (.lcmp, 1) := by decide +kernel
theorem dX12_reckon_96 : decode cX12_reckon 96 = .ok (.ifCond .ne 7, 3) := by decide +kernel
theorem dX12_reckon_99 : decode cX12_reckon 99 = .ok (.iconst 1, 1) := by decide +kernel
theorem dX12_reckon_100 : decode cX12_reckon 100 = .ok (.goto 4, 3) := by decide +kernel
theorem dX12_reckon_103 : decode cX12_reckon 103 = .ok (.iconst 0, 1) := by decide +kernel
theorem dX12_reckon_104 : decode cX12_reckon 104 = .ok (.putfield 379, 3) := by decide +kernel
theorem dX12_reckon_107 : decode cX12_reckon 107 = .ok (.aload_n 0, 1) := by decide +kernel
theorem dX12_reckon_108 : decode cX12_reckon 108 = .ok (.getfield 379, 3) := by decide +kernel
theorem dX12_reckon_111 : decode cX12_reckon 111 = .ok (.ifCond .eq 7, 3) := by decide +kernel
theorem dX12_reckon_114 : decode cX12_reckon 114 = .ok (.lconst 0, 1) := by decide +kernel
theorem dX12_reckon_115 : decode cX12_reckon 115 = .ok (.goto 7, 3) := by decide +kernel
theorem dX12_reckon_118 : decode cX12_reckon 118 = .ok (.lload_n 2, 1) := by decide +kernel
theorem dX12_reckon_119 : decode cX12_reckon 119 = .ok (.lload 4, 2) := by decide +kernel
theorem dX12_reckon_121 : decode cX12_reckon 121 = .ok (.lrem, 1) := by decide +kernel
theorem dX12_reckon_122 : decode cX12_reckon 122 = .ok (.lreturn, 1) := by decide +kernel
theorem dX12_reckon_123 : decode cX12_reckon 123 = .ok (.lload_n 2, 1) := by decide +kernel
theorem dX12_reckon_124 : decode cX12_reckon 124 = .ok (.lload 4, 2) := by decide +kernel
theorem dX12_reckon_126 : decode cX12_reckon 126 = .ok (.lcmp, 1) := by decide +kernel
theorem dX12_reckon_127 : decode cX12_reckon 127 = .ok (.ifCond .ge 7, 3) := by decide +kernel
theorem dX12_reckon_130 : decode cX12_reckon 130 = .ok (.lconst 1, 1) := by decide +kernel
theorem dX12_reckon_131 : decode cX12_reckon 131 = .ok (.goto 4, 3) := by decide +kernel
theorem dX12_reckon_134 : decode cX12_reckon 134 = .ok (.lconst 0, 1) := by decide +kernel
theorem dX12_reckon_135 : decode cX12_reckon 135 = .ok (.lreturn, 1) := by decide +kernel
theorem dX12_reckon_136 : decode cX12_reckon 136 = .ok (.lload_n 2, 1) := by decide +kernel
theorem dX12_reckon_137 : decode cX12_reckon 137 = .ok (.lload 4, 2) := by decide +kernel
theorem dX12_reckon_139 : decode cX12_reckon 139 = .ok (.lcmp, 1) := by decide +kernel
theorem dX12_reckon_140 : decode cX12_reckon 140 = .ok (.ifCond .le 7, 3) := by decide +kernel
theorem dX12_reckon_143 : decode cX12_reckon 143 = .ok (.lconst 1, 1) := by decide +kernel
theorem dX12_reckon_144 : decode cX12_reckon 144 = .ok (.goto 4, 3) := by decide +kernel
theorem dX12_reckon_147 : decode cX12_reckon 147 = .ok (.lconst 0, 1) := by decide +kernel
theorem dX12_reckon_148 : decode cX12_reckon 148 = .ok (.lreturn, 1) := by decide +kernel
theorem dX12_reckon_149 : decode cX12_reckon 149 = .ok (.lload_n 2, 1) := by decide +kernel
theorem dX12_reckon_150 : decode cX12_reckon 150 = .ok (.lload 4, 2) := by decide +kernel
theorem dX12_reckon_152 : decode cX12_reckon 152 = .ok (.lcmp, 1) := by decide +kernel
theorem dX12_reckon_153 : decode cX12_reckon 153 = .ok (.ifCond .ne 7, 3) := by decide +kernel
theorem dX12_reckon_156 : decode cX12_reckon 156 = .ok (.lconst 1, 1) := by decide +kernel
theorem dX12_reckon_157 : decode cX12_reckon 157 = .ok (.goto 4, 3) := by decide +kernel
theorem dX12_reckon_160 : decode cX12_reckon 160 = .ok (.lconst 0, 1) := by decide +kernel
theorem dX12_reckon_161 : decode cX12_reckon 161 = .ok (.lreturn, 1) := by decide +kernel
set_option maxRecDepth 100000 in
theorem okm_X12_reckon : okL RX12 cX12_reckon 6 (some .long) "reckon" pcX12_reckon opX12_reckon pcX12_reckon := by
  unfold opX12_reckon
  refine okL_cons (ok_iload_n rfl dX12_reckon_0) rfl ?_
  refine okL_cons (ok_sw rfl rfl (sw_all rfl) dX12_reckon_1) rfl ?_
  refine okL_cons (ok_lload_n rfl dX12_reckon_44) rfl ?_
  refine okL_cons (ok_lload dX12_reckon_45) rfl ?_
  refine okL_cons (ok_ladd dX12_reckon_47) rfl ?_
  refine okL_cons (ok_lreturn rfl dX12_reckon_48) rfl ?_
  refine okL_cons (ok_lload_n rfl dX12_reckon_49) rfl ?_
  refine okL_cons (ok_lload dX12_reckon_50) rfl ?_
  refine okL_cons (ok_lsub dX12_reckon_52) rfl ?_
  refine okL_cons (ok_lreturn rfl dX12_reckon_53) rfl ?_
  refine okL_cons (ok_lload_n rfl dX12_reckon_54) rfl ?_
  refine okL_cons (ok_lload dX12_reckon_55) rfl ?_
  refine okL_cons (ok_lmul dX12_reckon_57) rfl ?_
  refine okL_cons (ok_lreturn rfl dX12_reckon_58) rfl ?_
  refine okL_cons (ok_aload_n rfl dX12_reckon_59) rfl ?_
  refine okL_cons (ok_lload dX12_reckon_60) rfl ?_
  refine okL_cons (ok_lconst rfl dX12_reckon_62) rfl ?_
  refine okL_cons (ok_lcmp dX12_reckon_63) rfl ?_
  refine okL_cons (ok_if_ne rfl dX12_reckon_64) rfl ?_
  refine okL_cons (ok_iconst rfl dX12_reckon_67) rfl ?_
  refine okL_cons (ok_goto rfl dX12_reckon_68) rfl ?_
  refine okL_cons (ok_iconst rfl dX12_reckon_71) rfl ?_
  refine okL_cons (ok_putZ kw_905 cf_X12 rfl rfl (by decide) rfl dX12_reckon_72) rfl ?_
  refine okL_cons (ok_aload_n rfl dX12_reckon_75) rfl ?_
  refine okL_cons (ok_getI kw_905 cf_X12 rfl rfl (by decide) dX12_reckon_76) rfl ?_
  refine okL_cons (ok_if_eq rfl dX12_reckon_79) rfl ?_
  refine okL_cons (ok_lconst rfl dX12_reckon_82) rfl ?_
  refine okL_cons (ok_goto rfl dX12_reckon_83) rfl ?_
  refine okL_cons (ok_lload_n rfl dX12_reckon_86) rfl ?_
  refine okL_cons (ok_lload dX12_reckon_87) rfl ?_
  refine okL_cons (ok_ldiv dX12_reckon_89) rfl ?_
  refine okL_cons (ok_lreturn rfl dX12_reckon_90) rfl ?_
  refine okL_cons (ok_aload_n rfl dX12_reckon_91) rfl ?_
  refine okL_cons (ok_lload dX12_reckon_92) rfl ?_
  refine okL_cons (ok_lconst rfl dX12_reckon_94) rfl ?_
  refine okL_cons (ok_lcmp dX12_reckon_95) rfl ?_
  refine okL_cons (ok_if_ne rfl dX12_reckon_96) rfl ?_
  refine okL_cons (ok_iconst rfl dX12_reckon_99) rfl ?_
  refine okL_cons (ok_goto rfl dX12_reckon_100) rfl ?_
  refine okL_cons (ok_iconst rfl dX12_reckon_103) rfl ?_
  refine okL_cons (ok_putZ kw_905 cf_X12 rfl rfl (by decide) rfl dX12_reckon_104) rfl ?_
  refine okL_cons (ok_aload_n rfl dX12_reckon_107) rfl ?_
  refine okL_cons (ok_getI kw_905 cf_X12 rfl rfl (by decide) dX12_reckon_108) rfl ?_
  refine okL_cons (ok_if_eq rfl dX12_reckon_111) rfl ?_
  refine okL_cons (ok_lconst rfl dX12_reckon_114) rfl ?_
  refine okL_cons (ok_goto rfl dX12_reckon_115) rfl ?_
  refine okL_cons (ok_lload_n rfl dX12_reckon_118) rfl ?_
  refine okL_cons (ok_lload dX12_reckon_119) rfl ?_
  refine okL_cons (ok_lrem dX12_reckon_121) rfl ?_
  refine okL_cons (ok_lreturn rfl dX12_reckon_122) rfl ?_
  refine okL_cons (ok_lload_n rfl dX12_reckon_123) rfl ?_
  refine okL_cons (ok_lload dX12_reckon_124) rfl ?_
  refine okL_cons (ok_lcmp dX12_reckon_126) rfl ?_
  refine okL_cons (ok_if_ge rfl dX12_reckon_127) rfl ?_
  refine okL_cons (ok_lconst rfl dX12_reckon_130) rfl ?_
  refine okL_cons (ok_goto rfl dX12_reckon_131) rfl ?_
  refine okL_cons (ok_lconst rfl dX12_reckon_134) rfl ?_
  refine okL_cons (ok_lreturn rfl dX12_reckon_135) rfl ?_
  refine okL_cons (ok_lload_n rfl dX12_reckon_136) rfl ?_
  refine okL_cons (ok_lload dX12_reckon_137) rfl ?_
  refine okL_cons (ok_lcmp dX12_reckon_139) rfl ?_
  refine okL_cons (ok_if_le rfl dX12_reckon_140) rfl ?_
  refine okL_cons (ok_lconst rfl dX12_reckon_143) rfl ?_
  refine okL_cons (ok_goto rfl dX12_reckon_144) rfl ?_
  refine okL_cons (ok_lconst rfl dX12_reckon_147) rfl ?_
  refine okL_cons (ok_lreturn rfl dX12_reckon_148) rfl ?_
  refine okL_cons (ok_lload_n rfl dX12_reckon_149) rfl ?_
  refine okL_cons (ok_lload dX12_reckon_150) rfl ?_
  refine okL_cons (ok_lcmp dX12_reckon_152) rfl ?_
  refine okL_cons (ok_if_ne rfl dX12_reckon_153) rfl ?_
  refine okL_cons (ok_lconst rfl dX12_reckon_156) rfl ?_
  refine okL_cons (ok_goto rfl dX12_reckon_157) rfl ?_
  refine okL_cons (ok_lconst rfl dX12_reckon_160) rfl ?_
  exact okL_one (ok_lreturn rfl dX12_reckon_161)
theorem dX12_reckonAll_0 : decode cX12_reckonAll 0 = .ok (.aload_n 0, 1) := by decide +kernel
theorem dX12_reckonAll_1 : decode cX12_reckonAll 1 = .ok (.iconst 0, 1) := by decide +kernel
theorem dX12_reckonAll_2 : decode cX12_reckonAll 2 = .ok (.putfield 379, 3) := by decide +kernel
theorem dX12_reckonAll_5 : decode cX12_reckonAll 5 = .ok (.iconst 0, 1) := by decide +kernel
theorem dX12_reckonAll_6 : decode cX12_reckonAll 6 = .ok (.istore_n 3, 1) := by decide +kernel
theorem dX12_reckonAll_7 : decode cX12_reckonAll 7 = .ok (.iload_n 1, 1) := by decide +kernel
theorem dX12_reckonAll_8 : decode cX12_reckonAll 8 = .ok (.istore 4, 2) := by decide +kernel
theorem dX12_reckonAll_10 : decode cX12_reckonAll 10 = .ok (.iload 4, 2) := by decide +kernel
theorem dX12_reckonAll_12 : decode cX12_reckonAll 12 = .ok (.iload_n 2, 1) := by decide +kernel
theorem dX12_reckonAll_13 : decode cX12_reckonAll 13 = .ok (.if_icmp .ge 325, 3) := by decide +kernel
theorem dX12_reckonAll_16 : decode cX12_reckonAll 16 = .ok (.aload_n 0, 1) := by decide +kernel
theorem dX12_reckonAll_17 : decode cX12_reckonAll 17 = .ok (.getfield 379, 3) := by decide +kernel
theorem dX12_reckonAll_20 : decode cX12_reckonAll 20 = .ok (.ifCond .ne 318, 3) := by decide +kernel
theorem dX12_reckonAll_23 : decode cX12_reckonAll 23 = .ok (.aload_n 0, 1) := by decide +kernel
theorem dX12_reckonAll_24 : decode cX12_reckonAll 24 = .ok (.getfield 307, 3) := by decide +kernel
theorem dX12_reckonAll_27 : decode cX12_reckonAll 27 = .ok (.ifCond .eq 13, 3) := by decide +kernel
theorem dX12_reckonAll_30 : decode cX12_reckonAll 30 = .ok (.aload_n 0, 1) := by decide +kernel
theorem dX12_reckonAll_31 : decode cX12_reckonAll 31 = .ok (.getfield 45, 3) := by decide +kernel
theorem dX12_reckonAll_34 : decode cX12_reckonAll 34 = .ok (.iload 4, 2) := by decide +kernel
theorem dX12_reckonAll_36 : decode cX12_reckonAll 36 = .ok (.iaload, 1) := by decide +kernel
theorem dX12_reckonAll_37 : decode cX12_reckonAll 37 = .ok (.goto 20, 3) := by decide +kernel
theorem dX12_reckonAll_40 : decode cX12_reckonAll 40 = .ok (.aload_n 0, 1) := by decide +kernel
theorem dX12_reckonAll_41 : decode cX12_reckonAll 41 = .ok (.getfield 13, 3) := by decide +kernel
theorem dX12_reckonAll_44 : decode cX12_reckonAll 44 = .ok (.aload_n 0, 1) := by decide +kernel
theorem dX12_reckonAll_45 : decode cX12_reckonAll 45 = .ok (.getfield 382, 3) := by decide +kernel
theorem dX12_reckonAll_48 : decode cX12_reckonAll 48 = .ok (.bipush 98, 2) := by decide +kernel
theorem dX12_reckonAll_50 : decode cX12_reckonAll 50 = .ok (.iadd, 1) := by decide +kernel
theorem dX12_reckonAll_51 : decode cX12_reckonAll 51 = .ok (.iconst 2, 1) := by decide +kernel
theorem dX12_reckonAll_52 : decode cX12_reckonAll 52 = .ok (.iload 4, 2) := by decide +kernel
theorem dX12_reckonAll_54 : decode cX12_reckonAll 54 = .ok (.imul, 1) := by decide +kernel
theorem dX12_reckonAll_55 : decode cX12_reckonAll 55 = .ok (.iadd, 1) := by decide +kernel
theorem dX12_reckonAll_56 : decode cX12_reckonAll 56 = .ok (.iaload, 1) := by decide +kernel
theorem dX12_reckonAll_57 : decode cX12_reckonAll 57 = .ok (.istore 5, 2) := by decide +kernel
theorem dX12_reckonAll_59 : decode cX12_reckonAll 59 = .ok (.aload_n 0, 1) := by decide +kernel
theorem dX12_reckonAll_60 : decode cX12_reckonAll 60 = .ok (.getfield 307, 3) := by decide +kernel
theorem dX12_reckonAll_63 : decode cX12_reckonAll 63 = .ok (.ifCond .eq 13, 3) := by decide +kernel
theorem dX12_reckonAll_66 : decode cX12_reckonAll 66 = .ok (.aload_n 0, 1) := by decide +kernel
theorem dX12_reckonAll_67 : decode cX12_reckonAll 67 = .ok (.getfield 48, 3) := by decide +kernel
theorem dX12_reckonAll_70 : decode cX12_reckonAll 70 = .ok (.iload 4, 2) := by decide +kernel
theorem dX12_reckonAll_72 : decode cX12_reckonAll 72 = .ok (.iaload, 1) := by decide +kernel
theorem dX12_reckonAll_73 : decode cX12_reckonAll 73 = .ok (.goto 22, 3) := by decide +kernel
theorem dX12_reckonAll_76 : decode cX12_reckonAll 76 = .ok (.aload_n 0, 1) := by decide +kernel
theorem dX12_reckonAll_77 : decode cX12_reckonAll 77 = .ok (.getfield 13, 3) := by decide +kernel
theorem dX12_reckonAll_80 : decode cX12_reckonAll 80 = .ok (.aload_n 0, 1) := by decide +kernel
theorem dX12_reckonAll_81 : decode cX12_reckonAll 81 = .ok (.getfield 382, 3) := by decide +kernel
theorem dX12_reckonAll_84 : decode cX12_reckonAll 84 = .ok (.bipush 98, 2) := by decide +kernel
theorem dX12_reckonAll_86 : decode cX12_reckonAll 86 = .ok (.iadd, 1) := by decide +kernel
theorem dX12_reckonAll_87 : decode cX12_reckonAll 87 = .ok (.iconst 2, 1) := by decide +kernel
theorem dX12_reckonAll_88 : decode cX12_reckonAll 88 = .ok (.iload 4, 2) := by decide +kernel
theorem dX12_reckonAll_90 : decode cX12_reckonAll 90 = .ok (.imul, 1) := by decide +kernel
theorem dX12_reckonAll_91 : decode cX12_reckonAll 91 = .ok (.iadd, 1) := by decide +kernel
theorem dX12_reckonAll_92 : decode cX12_reckonAll 92 = .ok (.iconst 1, 1) := by decide +kernel
theorem dX12_reckonAll_93 : decode cX12_reckonAll 93 = .ok (.iadd, 1) := by decide +kernel
theorem dX12_reckonAll_94 : decode cX12_reckonAll 94 = .ok (.iaload, 1) := by decide +kernel
theorem dX12_reckonAll_95 : decode cX12_reckonAll 95 = .ok (.istore 6, 2) := by decide +kernel
theorem dX12_reckonAll_97 : decode cX12_reckonAll 97 = .ok (.iinc 4 1, 3) := by decide +kernel
theorem dX12_reckonAll_100 : decode cX12_reckonAll 100 = .ok (.iload 5, 2) := by decide +kernel
theorem dX12_reckonAll_102 : decode cX12_reckonAll 102 = .ok (.bipush 20, 2) := by decide +kernel
theorem dX12_reckonAll_104 : decode cX12_reckonAll 104 = .ok (.if_icmp .ge 92, 3) := by decide +kernel
theorem dX12_reckonAll_107 : decode cX12_reckonAll 107 = .ok (.aload_n 0, 1) := by decide +kernel
theorem dX12_reckonAll_108 : decode cX12_reckonAll 108 = .ok (.getfield 101, 3) := by decide +kernel
theorem dX12_reckonAll_111 : decode cX12_reckonAll 111 = .ok (.iload_n 3, 1) := by decide +kernel
theorem dX12_reckonAll_112 : decode cX12_reckonAll 112 = .ok (.iload 5, 2) := by decide +kernel
theorem dX12_reckonAll_114 : decode cX12_reckonAll 114 = .ok (.ifCond .ne 9, 3) := by decide +kernel
theorem dX12_reckonAll_117 : decode cX12_reckonAll 117 = .ok (.iload 6, 2) := by decide +kernel
theorem dX12_reckonAll_119 : decode cX12_reckonAll 119 = .ok (.i2l, 1) := by decide +kernel
theorem dX12_reckonAll_120 : decode cX12_reckonAll 120 = .ok (.goto 69, 3) := by decide +kernel
theorem dX12_reckonAll_123 : decode cX12_reckonAll 123 = .ok (.aload_n 0, 1) := by decide +kernel
theorem dX12_reckonAll_124 : decode cX12_reckonAll 124 = .ok (.getfield 307, 3) := by decide +kernel
theorem dX12_reckonAll_127 : decode cX12_reckonAll 127 = .ok (.ifCond .ne 13, 3) := by decide +kernel
theorem dX12_reckonAll_130 : decode cX12_reckonAll 130 = .ok (.aload_n 0, 1) := by decide +kernel
theorem dX12_reckonAll_131 : decode cX12_reckonAll 131 = .ok (.getfield 95, 3) := by decide +kernel
theorem dX12_reckonAll_134 : decode cX12_reckonAll 134 = .ok (.iload 5, 2) := by decide +kernel
theorem dX12_reckonAll_136 : decode cX12_reckonAll 136 = .ok (.laload, 1) := by decide +kernel
theorem dX12_reckonAll_137 : decode cX12_reckonAll 137 = .ok (.goto 52, 3) := by decide +kernel
theorem dX12_reckonAll_140 : decode cX12_reckonAll 140 = .ok (.iload 5, 2) := by decide +kernel
theorem dX12_reckonAll_142 : decode cX12_reckonAll 142 = .ok (.bipush 6, 2) := by decide +kernel
theorem dX12_reckonAll_144 : decode cX12_reckonAll 144 = .ok (.if_icmp .ge 13, 3) := by decide +kernel
theorem dX12_reckonAll_147 : decode cX12_reckonAll 147 = .ok (.aload_n 0, 1) := by decide +kernel
theorem dX12_reckonAll_148 : decode cX12_reckonAll 148 = .ok (.getfield 98, 3) := by decide +kernel
theorem dX12_reckonAll_151 : decode cX12_reckonAll 151 = .ok (.iload 5, 2) := by decide +kernel
theorem dX12_reckonAll_153 : decode cX12_reckonAll 153 = .ok (.laload, 1) := by decide +kernel
theorem dX12_reckonAll_154 : decode cX12_reckonAll 154 = .ok (.goto 35, 3) := by decide +kernel
theorem dX12_reckonAll_157 : decode cX12_reckonAll 157 = .ok (.iload 5, 2) := by decide +kernel
theorem dX12_reckonAll_159 : decode cX12_reckonAll 159 = .ok (.bipush 6, 2) := by decide +kernel
theorem dX12_reckonAll_161 : decode cX12_reckonAll 161 = .ok (.if_icmp .ne 17, 3) := by decide +kernel
theorem dX12_reckonAll_164 : decode cX12_reckonAll 164 = .ok (.aload_n 0, 1) := by decide +kernel
theorem dX12_reckonAll_165 : decode cX12_reckonAll 165 = .ok (.getfield 13, 3) := by decide +kernel
theorem dX12_reckonAll_168 : decode cX12_reckonAll 168 = .ok (.bipush 40, 2) := by decide +kernel
theorem dX12_reckonAll_170 : decode cX12_reckonAll 170 = .ok (.iload 6, 2) := by decide +kernel
theorem dX12_reckonAll_172 : decode cX12_reckonAll 172 = .ok (.iadd, 1) := by decide +kernel
theorem dX12_reckonAll_173 : decode cX12_reckonAll 173 = .ok (.iaload, 1) := by decide +kernel
theorem dX12_reckonAll_174 : decode cX12_reckonAll 174 = .ok (.i2l, 1) := by decide +kernel
theorem dX12_reckonAll_175 : decode cX12_reckonAll 175 = .ok (.goto 14, 3) := by decide +kernel
theorem dX12_reckonAll_178 : decode cX12_reckonAll 178 = .ok (.aload_n 0, 1) := by decide +kernel
theorem dX12_reckonAll_179 : decode cX12_reckonAll 179 = .ok (.getfield 13, 3) := by decide +kernel
theorem dX12_reckonAll_182 : decode cX12_reckonAll 182 = .ok (.bipush 7, 2) := by decide +kernel
theorem dX12_reckonAll_184 : decode cX12_reckonAll 184 = .ok (.iload 6, 2) := by decide +kernel
theorem dX12_reckonAll_186 : decode cX12_reckonAll 186 = .ok (.iadd, 1) := by decide +kernel
theorem dX12_reckonAll_187 : decode cX12_reckonAll 187 = .ok (.iaload, 1) := by decide +kernel
theorem dX12_reckonAll_188 : decode cX12_reckonAll 188 = .ok (.i2l, 1) := by decide +kernel
theorem dX12_reckonAll_189 : decode cX12_reckonAll 189 = .ok (.lastore, 1) := by decide +kernel
theorem dX12_reckonAll_190 : decode cX12_reckonAll 190 = .ok (.iinc 3 1, 3) := by decide +kernel
theorem dX12_reckonAll_193 : decode cX12_reckonAll 193 = .ok (.goto 142, 3) := by decide +kernel
theorem dX12_reckonAll_196 : decode cX12_reckonAll 196 = .ok (.iload 5, 2) := by decide +kernel
theorem dX12_reckonAll_198 : decode cX12_reckonAll 198 = .ok (.bipush 28, 2) := by decide +kernel
theorem dX12_reckonAll_200 : decode cX12_reckonAll 200 = .ok (.if_icmp .ge 73, 3) := by decide +kernel
theorem dX12_reckonAll_203 : decode cX12_reckonAll 203 = .ok (.iinc 3 (-1), 3) := by decide +kernel
theorem dX12_reckonAll_206 : decode cX12_reckonAll 206 = .ok (.aload_n 0, 1) := by decide +kernel
theorem dX12_reckonAll_207 : decode cX12_reckonAll 207 = .ok (.getfield 101, 3) := by decide +kernel
theorem dX12_reckonAll_210 : decode cX12_reckonAll 210 = .ok (.iload_n 3, 1) := by decide +kernel
theorem dX12_reckonAll_211 : decode cX12_reckonAll 211 = .ok (.iconst 1, 1) := by decide +kernel
theorem dX12_reckonAll_212 : decode cX12_reckonAll 212 = .ok (.isub, 1) := by decide +kernel
theorem dX12_reckonAll_213 : decode cX12_reckonAll 213 = .ok (.aload_n 0, 1) := by decide +kernel
theorem dX12_reckonAll_214 : decode cX12_reckonAll 214 = .ok (.iload 5, 2) := by decide +kernel
theorem dX12_reckonAll_216 : decode cX12_reckonAll 216 = .ok (.aload_n 0, 1) := by decide +kernel
theorem dX12_reckonAll_217 : decode cX12_reckonAll 217 = .ok (.getfield 101, 3) := by decide +kernel
theorem dX12_reckonAll_220 : decode cX12_reckonAll 220 = .ok (.iload_n 3, 1) := by decide +kernel
theorem dX12_reckonAll_221 : decode cX12_reckonAll 221 = .ok (.iconst 1, 1) := by decide +kernel
theorem dX12_reckonAll_222 : decode cX12_reckonAll 222 = .ok (.isub, 1) := by decide +kernel
theorem dX12_reckonAll_223 : decode cX12_reckonAll 223 = .ok (.laload, 1) := by decide +kernel
theorem dX12_reckonAll_224 : decode cX12_reckonAll 224 = .ok (.aload_n 0, 1) := by decide +kernel
theorem dX12_reckonAll_225 : decode cX12_reckonAll 225 = .ok (.getfield 101, 3) := by decide +kernel
theorem dX12_reckonAll_228 : decode cX12_reckonAll 228 = .ok (.iload_n 3, 1) := by decide +kernel
theorem dX12_reckonAll_229 : decode cX12_reckonAll 229 = .ok (.laload, 1) := by decide +kernel
theorem dX12_reckonAll_230 : decode cX12_reckonAll 230 = .ok (.invokevirtual 385, 3) := by decide +kernel
theorem dX12_reckonAll_233 : decode cX12_reckonAll 233 = .ok (.lastore, 1) := by decide +kernel
theorem dX12_reckonAll_234 : decode cX12_reckonAll 234 = .ok (.aload_n 0, 1) := by decide +kernel
theorem dX12_reckonAll_235 : decode cX12_reckonAll 235 = .ok (.aload_n 0, 1) := by decide +kernel
theorem dX12_reckonAll_236 : decode cX12_reckonAll 236 = .ok (.getfield 379, 3) := by decide +kernel
theorem dX12_reckonAll_239 : decode cX12_reckonAll 239 = .ok (.ifCond .ne 23, 3) := by decide +kernel
theorem dX12_reckonAll_242 : decode cX12_reckonAll 242 = .ok (.aload_n 0, 1) := by decide +kernel
theorem dX12_reckonAll_243 : decode cX12_reckonAll 243 = .ok (.getfield 101, 3) := by decide +kernel
theorem dX12_reckonAll_246 : decode cX12_reckonAll 246 = .ok (.iload_n 3, 1) := by decide +kernel
theorem dX12_reckonAll_247 : decode cX12_reckonAll 247 = .ok (.iconst 1, 1) := by decide +kernel
theorem dX12_reckonAll_248 : decode cX12_reckonAll 248 = .ok (.isub, 1) := by decide +kernel
theorem dX12_reckonAll_249 : decode cX12_reckonAll 249 = .ok (.laload, 1) := by decide +kernel
theorem dX12_reckonAll_250 : decode cX12_reckonAll 250 = .ok (.ldc2_w 389, 3) := by decide +kernel
theorem dX12_reckonAll_253 : decode cX12_reckonAll 253 = .ok (.ldc2_w 391, 3) := by decide +kernel
theorem dX12_reckonAll_256 : decode cX12_reckonAll 256 = .ok (.invokestatic 172, 3) := by decide +kernel
theorem dX12_reckonAll_259 : decode cX12_reckonAll 259 = .ok (.ifCond .ne 7, 3) := by decide +kernel
theorem dX12_reckonAll_262 : decode cX12_reckonAll 262 = .ok (.iconst 1, 1) := by decide +kernel
theorem dX12_reckonAll_263 : decode cX12_reckonAll 263 = .ok (.goto 4, 3) := by decide +kernel
theorem dX12_reckonAll_266 : decode cX12_reckonAll 266 = .ok (.iconst 0, 1) := by decide +kernel
theorem dX12_reckonAll_267 : decode cX12_reckonAll 267 = .ok (.putfield 379, 3) := by decide +kernel
theorem dX12_reckonAll_270 : decode cX12_reckonAll 270 = .ok (.goto 65, 3) := by decide +kernel
theorem dX12_reckonAll_273 : decode cX12_reckonAll 273 = .ok (.iload 5, 2) := by decide +kernel
theorem dX12_reckonAll_275 : decode cX12_reckonAll 275 = .ok (.bipush 28, 2) := by decide +kernel
theorem dX12_reckonAll_277 : decode cX12_reckonAll 277 = .ok (.if_icmp .ne 24, 3) := by decide +kernel
theorem dX12_reckonAll_280 : decode cX12_reckonAll 280 = .ok (.aload_n 0, 1) := by decide +kernel
theorem dX12_reckonAll_281 : decode cX12_reckonAll 281 = .ok (.getfield 101, 3) := by decide +kernel
theorem dX12_reckonAll_284 : decode cX12_reckonAll 284 = .ok (.iload_n 3, 1) := by decide +kernel
theorem dX12_reckonAll_285 : decode cX12_reckonAll 285 = .ok (.iconst 1, 1) := by decide +kernel
theorem dX12_reckonAll_286 : decode cX12_reckonAll 286 = .ok (.isub, 1) := by decide +kernel
theorem dX12_reckonAll_287 : decode cX12_reckonAll 287 = .ok (.lconst 1, 1) := by decide +kernel
theorem dX12_reckonAll_288 : decode cX12_reckonAll 288 = .ok (.aload_n 0, 1) := by decide +kernel
theorem dX12_reckonAll_289 : decode cX12_reckonAll 289 = .ok (.getfield 101, 3) := by decide +kernel
theorem dX12_reckonAll_292 : decode cX12_reckonAll 292 = .ok (.iload_n 3, 1) := by decide +kernel
theorem dX12_reckonAll_293 : decode cX12_reckonAll 293 = .ok (.iconst 1, 1) := by decide +kernel
theorem dX12_reckonAll_294 : decode cX12_reckonAll 294 = .ok (.isub, 1) := by decide +kernel
theorem dX12_reckonAll_295 : decode cX12_reckonAll 295 = .ok (.laload, 1) := by decide +kernel
theorem dX12_reckonAll_296 : decode cX12_reckonAll 296 = .ok (.lsub, 1) := by decide +kernel
theorem dX12_reckonAll_297 : decode cX12_reckonAll 297 = .ok (.lastore, 1) := by decide +kernel
theorem dX12_reckonAll_298 : decode cX12_reckonAll 298 = .ok (.goto 37, 3) := by decide +kernel
theorem dX12_reckonAll_301 : decode cX12_reckonAll 301 = .ok (.aload_n 0, 1) := by decide +kernel
theorem dX12_reckonAll_302 : decode cX12_reckonAll 302 = .ok (.getfield 101, 3) := by decide +kernel
theorem dX12_reckonAll_305 : decode cX12_reckonAll 305 = .ok (.iload_n 3, 1) := by decide +kernel
theorem dX12_reckonAll_306 : decode cX12_reckonAll 306 = .ok (.iconst 1, 1) := by decide +kernel
theorem dX12_reckonAll_307 : decode cX12_reckonAll 307 = .ok (.isub, 1) := by decide +kernel
theorem dX12_reckonAll_308 : decode cX12_reckonAll 308 = .ok (.laload, 1) := by decide +kernel
theorem dX12_reckonAll_309 : decode cX12_reckonAll 309 = .ok (.iload 5, 2) := by decide +kernel
theorem dX12_reckonAll_311 : decode cX12_reckonAll 311 = .ok (.bipush 29, 2) := by decide +kernel
theorem dX12_reckonAll_313 : decode cX12_reckonAll 313 = .ok (.if_icmp .ne 7, 3) := by decide +kernel
theorem dX12_reckonAll_316 : decode cX12_reckonAll 316 = .ok (.lconst 0, 1) := by decide +kernel
theorem dX12_reckonAll_317 : decode cX12_reckonAll 317 = .ok (.goto 4, 3) := by decide +kernel
theorem dX12_reckonAll_320 : decode cX12_reckonAll 320 = .ok (.lconst 1, 1) := by decide +kernel
theorem dX12_reckonAll_321 : decode cX12_reckonAll 321 = .ok (.lcmp, 1) := by decide +kernel
theorem dX12_reckonAll_322 : decode cX12_reckonAll 322 = .ok (.ifCond .ne 10, 3) := by decide +kernel
theorem dX12_reckonAll_325 : decode cX12_reckonAll 325 = .ok (.iload 6, 2) := by decide +kernel
theorem dX12_reckonAll_327 : decode cX12_reckonAll 327 = .ok (.istore 4, 2) := by decide +kernel
theorem dX12_reckonAll_329 : decode cX12_reckonAll 329 = .ok (.goto 6, 3) := by decide +kernel
theorem dX12_reckonAll_332 : decode cX12_reckonAll 332 = .ok (.iinc 3 (-1), 3) := by decide +kernel
theorem dX12_reckonAll_335 : decode cX12_reckonAll 335 = .ok (.goto (-325), 3) := by decide +kernel
theorem dX12_reckonAll_338 : decode cX12_reckonAll 338 = .ok (.aload_n 0, 1) := by decide +kernel
theorem dX12_reckonAll_339 : decode cX12_reckonAll 339 = .ok (.iload_n 3, 1) := by decide +kernel
theorem dX12_reckonAll_340 : decode cX12_reckonAll 340 = .ok (.ifCond .le 12, 3) := by decide +kernel
theorem dX12_reckonAll_343 : decode cX12_reckonAll 343 = .ok (.aload_n 0, 1) := by decide +kernel
theorem dX12_reckonAll_344 : decode cX12_reckonAll 344 = .ok (.getfield 101, 3) := by decide +kernel
theorem dX12_reckonAll_347 : decode cX12_reckonAll 347 = .ok (.iconst 0, 1) := by decide +kernel
theorem dX12_reckonAll_348 : decode cX12_reckonAll 348 = .ok (.laload, 1) := by decide +kernel
theorem dX12_reckonAll_349 : decode cX12_reckonAll 349 = .ok (.goto 4, 3) := by decide +kernel
theorem dX12_reckonAll_352 : decode cX12_reckonAll 352 = .ok (.lconst 0, 1) := by decide +kernel
theorem dX12_reckonAll_353 : decode cX12_reckonAll 353 = .ok (.putfield 393, 3) := by decide +kernel
theorem dX12_reckonAll_356 : decode cX12_reckonAll 356 = .ok (.return_, 1) := by decide +kernel
set_option maxRecDepth 100000 in
theorem okm_X12_reckonAll : okL RX12 cX12_reckonAll 7 none "reckonAll" pcX12_reckonAll opX12_reckonAll pcX12_reckonAll := by
  unfold opX12_reckonAll
  refine okL_cons (ok_aload_n rfl dX12_reckonAll_0) rfl ?_
  refine okL_cons (ok_iconst rfl dX12_reckonAll_1) rfl ?_
  refine okL_cons (ok_putZ kw_905 cf_X12 rfl rfl (by decide) rfl dX12_reckonAll_2) rfl ?_
  refine okL_cons (ok_iconst rfl dX12_reckonAll_5) rfl ?_
  refine okL_cons (ok_istore_n rfl dX12_reckonAll_6) rfl ?_
  refine okL_cons (ok_iload_n rfl dX12_reckonAll_7) rfl ?_
  refine okL_cons (ok_istore dX12_reckonAll_8) rfl ?_
  refine okL_cons (ok_iload dX12_reckonAll_10) rfl ?_
  refine okL_cons (ok_iload_n rfl dX12_reckonAll_12) rfl ?_
  refine okL_cons (ok_icmp_ge rfl dX12_reckonAll_13) rfl ?_
  refine okL_cons (ok_aload_n rfl dX12_reckonAll_16) rfl ?_
  refine okL_cons (ok_getI kw_905 cf_X12 rfl rfl (by decide) dX12_reckonAll_17) rfl ?_
  refine okL_cons (ok_if_ne rfl dX12_reckonAll_20) rfl ?_
  refine okL_cons (ok_aload_n rfl dX12_reckonAll_23) rfl ?_
  refine okL_cons (ok_getI kw_830 cf_X12 rfl rfl (by decide) dX12_reckonAll_24) rfl ?_
  refine okL_cons (ok_if_eq rfl dX12_reckonAll_27) rfl ?_
  refine okL_cons (ok_aload_n rfl dX12_reckonAll_30) rfl ?_
  refine okL_cons (ok_getP kw_664 cf_X12 rfl rfl (by decide) dX12_reckonAll_31) rfl ?_
  refine okL_cons (ok_iload dX12_reckonAll_34) rfl ?_
  refine okL_cons (ok_iaload dX12_reckonAll_36) rfl ?_
  refine okL_cons (ok_goto rfl dX12_reckonAll_37) rfl ?_
  refine okL_cons (ok_aload_n rfl dX12_reckonAll_40) rfl ?_
  refine okL_cons (ok_getP kw_654 cf_X12 rfl rfl (by decide) dX12_reckonAll_41) rfl ?_
  refine okL_cons (ok_aload_n rfl dX12_reckonAll_44) rfl ?_
  refine okL_cons (ok_getI kw_906 cf_X12 rfl rfl (by decide) dX12_reckonAll_45) rfl ?_
  refine okL_cons (ok_bipush rfl dX12_reckonAll_48) rfl ?_
  refine okL_cons (ok_iadd dX12_reckonAll_50) rfl ?_
  refine okL_cons (ok_iconst rfl dX12_reckonAll_51) rfl ?_
  refine okL_cons (ok_iload dX12_reckonAll_52) rfl ?_
  refine okL_cons (ok_imul dX12_reckonAll_54) rfl ?_
  refine okL_cons (ok_iadd dX12_reckonAll_55) rfl ?_
  refine okL_cons (ok_iaload dX12_reckonAll_56) rfl ?_
  refine okL_cons (ok_istore dX12_reckonAll_57) rfl ?_
  refine okL_cons (ok_aload_n rfl dX12_reckonAll_59) rfl ?_
  refine okL_cons (ok_getI kw_830 cf_X12 rfl rfl (by decide) dX12_reckonAll_60) rfl ?_
  refine okL_cons (ok_if_eq rfl dX12_reckonAll_63) rfl ?_
  refine okL_cons (ok_aload_n rfl dX12_reckonAll_66) rfl ?_
  refine okL_cons (ok_getP kw_665 cf_X12 rfl rfl (by decide) dX12_reckonAll_67) rfl ?_
  refine okL_cons (ok_iload dX12_reckonAll_70) rfl ?_
  refine okL_cons (ok_iaload dX12_reckonAll_72) rfl ?_
  refine okL_cons (ok_goto rfl dX12_reckonAll_73) rfl ?_
  refine okL_cons (ok_aload_n rfl dX12_reckonAll_76) rfl ?_
  refine okL_cons (ok_getP kw_654 cf_X12 rfl rfl (by decide) dX12_reckonAll_77) rfl ?_
  refine okL_cons (ok_aload_n rfl dX12_reckonAll_80) rfl ?_
  refine okL_cons (ok_getI kw_906 cf_X12 rfl rfl (by decide) dX12_reckonAll_81) rfl ?_
  refine okL_cons (ok_bipush rfl dX12_reckonAll_84) rfl ?_
  refine okL_cons (ok_iadd dX12_reckonAll_86) rfl ?_
  refine okL_cons (ok_iconst rfl dX12_reckonAll_87) rfl ?_
  refine okL_cons (ok_iload dX12_reckonAll_88) rfl ?_
  refine okL_cons (ok_imul dX12_reckonAll_90) rfl ?_
  refine okL_cons (ok_iadd dX12_reckonAll_91) rfl ?_
  refine okL_cons (ok_iconst rfl dX12_reckonAll_92) rfl ?_
  refine okL_cons (ok_iadd dX12_reckonAll_93) rfl ?_
  refine okL_cons (ok_iaload dX12_reckonAll_94) rfl ?_
  refine okL_cons (ok_istore dX12_reckonAll_95) rfl ?_
  refine okL_cons (ok_iinc rfl dX12_reckonAll_97) rfl ?_
  refine okL_cons (ok_iload dX12_reckonAll_100) rfl ?_
  refine okL_cons (ok_bipush rfl dX12_reckonAll_102) rfl ?_
  refine okL_cons (ok_icmp_ge rfl dX12_reckonAll_104) rfl ?_
  refine okL_cons (ok_aload_n rfl dX12_reckonAll_107) rfl ?_
  refine okL_cons (ok_getP kw_687 cf_X12 rfl rfl (by decide) dX12_reckonAll_108) rfl ?_
  refine okL_cons (ok_iload_n rfl dX12_reckonAll_111) rfl ?_
  refine okL_cons (ok_iload dX12_reckonAll_112) rfl ?_
  refine okL_cons (ok_if_ne rfl dX12_reckonAll_114) rfl ?_
  refine okL_cons (ok_iload dX12_reckonAll_117) rfl ?_
  refine okL_cons (ok_i2l dX12_reckonAll_119) rfl ?_
  refine okL_cons (ok_goto rfl dX12_reckonAll_120) rfl ?_
  refine okL_cons (ok_aload_n rfl dX12_reckonAll_123) rfl ?_
  refine okL_cons (ok_getI kw_830 cf_X12 rfl rfl (by decide) dX12_reckonAll_124) rfl ?_
  refine okL_cons (ok_if_ne rfl dX12_reckonAll_127) rfl ?_
  refine okL_cons (ok_aload_n rfl dX12_reckonAll_130) rfl ?_
  refine okL_cons (ok_getP kw_685 cf_X12 rfl rfl (by decide) dX12_reckonAll_131) rfl ?_
  refine okL_cons (ok_iload dX12_reckonAll_134) rfl ?_
  refine okL_cons (ok_laload dX12_reckonAll_136) rfl ?_
  refine okL_cons (ok_goto rfl dX12_reckonAll_137) rfl ?_
  refine okL_cons (ok_iload dX12_reckonAll_140) rfl ?_
  refine okL_cons (ok_bipush rfl dX12_reckonAll_142) rfl ?_
  refine okL_cons (ok_icmp_ge rfl dX12_reckonAll_144) rfl ?_
  refine okL_cons (ok_aload_n rfl dX12_reckonAll_147) rfl ?_
  refine okL_cons (ok_getP kw_686 cf_X12 rfl rfl (by decide) dX12_reckonAll_148) rfl ?_
  refine okL_cons (ok_iload dX12_reckonAll_151) rfl ?_
  refine okL_cons (ok_laload dX12_reckonAll_153) rfl ?_
  refine okL_cons (ok_goto rfl dX12_reckonAll_154) rfl ?_
  refine okL_cons (ok_iload dX12_reckonAll_157) rfl ?_
  refine okL_cons (ok_bipush rfl dX12_reckonAll_159) rfl ?_
  refine okL_cons (ok_icmp_ne rfl dX12_reckonAll_161) rfl ?_
  refine okL_cons (ok_aload_n rfl dX12_reckonAll_164) rfl ?_
  refine okL_cons (ok_getP kw_654 cf_X12 rfl rfl (by decide) dX12_reckonAll_165) rfl ?_
  refine okL_cons (ok_bipush rfl dX12_reckonAll_168) rfl ?_
  refine okL_cons (ok_iload dX12_reckonAll_170) rfl ?_
  refine okL_cons (ok_iadd dX12_reckonAll_172) rfl ?_
  refine okL_cons (ok_iaload dX12_reckonAll_173) rfl ?_
  refine okL_cons (ok_i2l dX12_reckonAll_174) rfl ?_
  refine okL_cons (ok_goto rfl dX12_reckonAll_175) rfl ?_
  refine okL_cons (ok_aload_n rfl dX12_reckonAll_178) rfl ?_
  refine okL_cons (ok_getP kw_654 cf_X12 rfl rfl (by decide) dX12_reckonAll_179) rfl ?_
  refine okL_cons (ok_bipush rfl dX12_reckonAll_182) rfl ?_
  refine okL_cons (ok_iload dX12_reckonAll_184) rfl ?_
  refine okL_cons (ok_iadd dX12_reckonAll_186) rfl ?_
  refine okL_cons (ok_iaload dX12_reckonAll_187) rfl ?_
  refine okL_cons (ok_i2l dX12_reckonAll_188) rfl ?_
  refine okL_cons (ok_lastore dX12_reckonAll_189) rfl ?_
  refine okL_cons (ok_iinc rfl dX12_reckonAll_190) rfl ?_
  refine okL_cons (ok_goto rfl dX12_reckonAll_193) rfl ?_
  refine okL_cons (ok_iload dX12_reckonAll_196) rfl ?_
  refine okL_cons (ok_bipush rfl dX12_reckonAll_198) rfl ?_
  refine okL_cons (ok_icmp_ge rfl dX12_reckonAll_200) rfl ?_
  refine okL_cons (ok_iinc rfl dX12_reckonAll_203) rfl ?_
  refine okL_cons (ok_aload_n rfl dX12_reckonAll_206) rfl ?_
  refine okL_cons (ok_getP kw_687 cf_X12 rfl rfl (by decide) dX12_reckonAll_207) rfl ?_
  refine okL_cons (ok_iload_n rfl dX12_reckonAll_210) rfl ?_
  refine okL_cons (ok_iconst rfl dX12_reckonAll_211) rfl ?_
  refine okL_cons (ok_isub dX12_reckonAll_212) rfl ?_
  refine okL_cons (ok_aload_n rfl dX12_reckonAll_213) rfl ?_
  refine okL_cons (ok_iload dX12_reckonAll_214) rfl ?_
  refine okL_cons (ok_aload_n rfl dX12_reckonAll_216) rfl ?_
  refine okL_cons (ok_getP kw_687 cf_X12 rfl rfl (by decide) dX12_reckonAll_217) rfl ?_
  refine okL_cons (ok_iload_n rfl dX12_reckonAll_220) rfl ?_
  refine okL_cons (ok_iconst rfl dX12_reckonAll_221) rfl ?_
  refine okL_cons (ok_isub dX12_reckonAll_222) rfl ?_
  refine okL_cons (ok_laload dX12_reckonAll_223) rfl ?_
  refine okL_cons (ok_aload_n rfl dX12_reckonAll_224) rfl ?_
  refine okL_cons (ok_getP kw_687 cf_X12 rfl rfl (by decide) dX12_reckonAll_225) rfl ?_
  refine okL_cons (ok_iload_n rfl dX12_reckonAll_228) rfl ?_
  refine okL_cons (ok_laload dX12_reckonAll_229) rfl ?_
  refine okL_cons (ok_invV (M' := 224) kw_907 kw_908 kw_909 kw_711 kw_910 cf_X12 rfl (by decide +kernel) dX12_reckonAll_230) rfl ?_
  refine okL_cons (ok_lastore dX12_reckonAll_233) rfl ?_
  refine okL_cons (ok_aload_n rfl dX12_reckonAll_234) rfl ?_
  refine okL_cons (ok_aload_n rfl dX12_reckonAll_235) rfl ?_
  refine okL_cons (ok_getI kw_905 cf_X12 rfl rfl (by decide) dX12_reckonAll_236) rfl ?_
  refine okL_cons (ok_if_ne rfl dX12_reckonAll_239) rfl ?_
  refine okL_cons (ok_aload_n rfl dX12_reckonAll_242) rfl ?_
  refine okL_cons (ok_getP kw_687 cf_X12 rfl rfl (by decide) dX12_reckonAll_243) rfl ?_
  refine okL_cons (ok_iload_n rfl dX12_reckonAll_246) rfl ?_
  refine okL_cons (ok_iconst rfl dX12_reckonAll_247) rfl ?_
  refine okL_cons (ok_isub dX12_reckonAll_248) rfl ?_
  refine okL_cons (ok_laload dX12_reckonAll_249) rfl ?_
  refine okL_cons (ok_ldc2 kw_911 dX12_reckonAll_250) rfl ?_
  refine okL_cons (ok_ldc2 kw_912 dX12_reckonAll_253) rfl ?_
  refine okL_cons (ok_invS (M' := 165) kw_722 kw_723 kw_711 kw_724 rfl (by decide +kernel) dX12_reckonAll_256) rfl ?_
  refine okL_cons (ok_if_ne rfl dX12_reckonAll_259) rfl ?_
  refine okL_cons (ok_iconst rfl dX12_reckonAll_262) rfl ?_
  refine okL_cons (ok_goto rfl dX12_reckonAll_263) rfl ?_
  refine okL_cons (ok_iconst rfl dX12_reckonAll_266) rfl ?_
  refine okL_cons (ok_putZ kw_905 cf_X12 rfl rfl (by decide) rfl dX12_reckonAll_267) rfl ?_
  refine okL_cons (ok_goto rfl dX12_reckonAll_270) rfl ?_
  refine okL_cons (ok_iload dX12_reckonAll_273) rfl ?_
  refine okL_cons (ok_bipush rfl dX12_reckonAll_275) rfl ?_
  refine okL_cons (ok_icmp_ne rfl dX12_reckonAll_277) rfl ?_
  refine okL_cons (ok_aload_n rfl dX12_reckonAll_280) rfl ?_
  refine okL_cons (ok_getP kw_687 cf_X12 rfl rfl (by decide) dX12_reckonAll_281) rfl ?_
  refine okL_cons (ok_iload_n rfl dX12_reckonAll_284) rfl ?_
  refine okL_cons (ok_iconst rfl dX12_reckonAll_285) rfl ?_
  refine okL_cons (ok_isub dX12_reckonAll_286) rfl ?_
  refine okL_cons (ok_lconst rfl dX12_reckonAll_287) rfl ?_
  refine okL_cons (ok_aload_n rfl dX12_reckonAll_288) rfl ?_
  refine okL_cons (ok_getP kw_687 cf_X12 rfl rfl (by decide) dX12_reckonAll_289) rfl ?_
  refine okL_cons (ok_iload_n rfl dX12_reckonAll_292) rfl ?_
  refine okL_cons (ok_iconst rfl dX12_reckonAll_293) rfl ?_
  refine okL_cons (ok_isub dX12_reckonAll_294) rfl ?_
  refine okL_cons (ok_laload dX12_reckonAll_295) rfl ?_
  refine okL_cons (ok_lsub dX12_reckonAll_296) rfl ?_
  refine okL_cons (ok_lastore dX12_reckonAll_297) rfl ?_
  refine okL_cons (ok_goto rfl dX12_reckonAll_298) rfl ?_
  refine okL_cons (ok_aload_n rfl dX12_reckonAll_301) rfl ?_
  refine okL_cons (ok_getP kw_687 cf_X12 rfl rfl (by decide) dX12_reckonAll_302) rfl ?_
  refine okL_cons (ok_iload_n rfl dX12_reckonAll_305) rfl ?_
  refine okL_cons (ok_iconst rfl dX12_reckonAll_306) rfl ?_
  refine okL_cons (ok_isub dX12_reckonAll_307) rfl ?_
  refine okL_cons (ok_laload dX12_reckonAll_308) rfl ?_
  refine okL_cons (ok_iload dX12_reckonAll_309) rfl ?_
  refine okL_cons (ok_bipush rfl dX12_reckonAll_311) rfl ?_
  refine okL_cons (ok_icmp_ne rfl dX12_reckonAll_313) rfl ?_
  refine okL_cons (ok_lconst rfl dX12_reckonAll_316) rfl ?_
  refine okL_cons (ok_goto rfl dX12_reckonAll_317) rfl ?_
  refine okL_cons (ok_lconst rfl dX12_reckonAll_320) rfl ?_
  refine okL_cons (ok_lcmp dX12_reckonAll_321) rfl ?_
  refine okL_cons (ok_if_ne rfl dX12_reckonAll_322) rfl ?_
  refine okL_cons (ok_iload dX12_reckonAll_325) rfl ?_
  refine okL_cons (ok_istore dX12_reckonAll_327) rfl ?_
  refine okL_cons (ok_goto rfl dX12_reckonAll_329) rfl ?_
  refine okL_cons (ok_iinc rfl dX12_reckonAll_332) rfl ?_
  refine okL_cons (ok_goto rfl dX12_reckonAll_335) rfl ?_
  refine okL_cons (ok_aload_n rfl dX12_reckonAll_338) rfl ?_
  refine okL_cons (ok_iload_n rfl dX12_reckonAll_339) rfl ?_
  refine okL_cons (ok_if_le rfl dX12_reckonAll_340) rfl ?_
  refine okL_cons (ok_aload_n rfl dX12_reckonAll_343) rfl ?_
  refine okL_cons (ok_getP kw_687 cf_X12 rfl rfl (by decide) dX12_reckonAll_344) rfl ?_
  refine okL_cons (ok_iconst rfl dX12_reckonAll_347) rfl ?_
  refine okL_cons (ok_laload dX12_reckonAll_348) rfl ?_
  refine okL_cons (ok_goto rfl dX12_reckonAll_349) rfl ?_
  refine okL_cons (ok_lconst rfl dX12_reckonAll_352) rfl ?_
  refine okL_cons (ok_putJ kw_913 cf_X12 rfl rfl (by decide) rfl dX12_reckonAll_353) rfl ?_
  exact okL_one (ok_return rfl dX12_reckonAll_356)
theorem dX12_isSo_0 : decode cX12_isSo 0 = .ok (.aload_n 0, 1) := by decide +kernel
theorem dX12_isSo_1 : decode cX12_isSo 1 = .ok (.getfield 13, 3) := by decide +kernel
theorem dX12_isSo_4 : decode cX12_isSo 4 = .ok (.iload_n 1, 1) := by decide +kernel
theorem dX12_isSo_5 : decode cX12_isSo 5 = .ok (.iconst 5, 1) := by decide +kernel
theorem dX12_isSo_6 : decode cX12_isSo 6 = .ok (.iadd, 1) := by decide +kernel
theorem dX12_isSo_7 : decode cX12_isSo 7 = .ok (.iaload, 1) := by decide +kernel
theorem dX12_isSo_8 : decode cX12_isSo 8 = .ok (.aload_n 0, 1) := by decide +kernel
theorem dX12_isSo_9 : decode cX12_isSo 9 = .ok (.getfield 13, 3) := by decide +kernel
theorem dX12_isSo_12 : decode cX12_isSo 12 = .ok (.iload_n 1, 1) := by decide +kernel
theorem dX12_isSo_13 : decode cX12_isSo 13 = .ok (.bipush 6, 2) := by decide +kernel
theorem dX12_isSo_15 : decode cX12_isSo 15 = .ok (.iadd, 1) := by decide +kernel
theorem dX12_isSo_16 : decode cX12_isSo 16 = .ok (.iaload, 1) := by decide +kernel
theorem dX12_isSo_17 : decode cX12_isSo 17 = .ok (.if_icmp .ge 42, 3) := by decide +kernel
theorem dX12_isSo_20 : decode cX12_isSo 20 = .ok (.aload_n 0, 1) := by decide +kernel
theorem dX12_isSo_21 : decode cX12_isSo 21 = .ok (.aload_n 0, 1) := by decide +kernel
theorem dX12_isSo_22 : decode cX12_isSo 22 = .ok (.getfield 13, 3) := by decide +kernel
theorem dX12_isSo_25 : decode cX12_isSo 25 = .ok (.iload_n 1, 1) := by decide +kernel
theorem dX12_isSo_26 : decode cX12_isSo 26 = .ok (.iconst 5, 1) := by decide +kernel
theorem dX12_isSo_27 : decode cX12_isSo 27 = .ok (.iadd, 1) := by decide +kernel
theorem dX12_isSo_28 : decode cX12_isSo 28 = .ok (.iaload, 1) := by decide +kernel
theorem dX12_isSo_29 : decode cX12_isSo 29 = .ok (.aload_n 0, 1) := by decide +kernel
theorem dX12_isSo_30 : decode cX12_isSo 30 = .ok (.getfield 13, 3) := by decide +kernel
theorem dX12_isSo_33 : decode cX12_isSo 33 = .ok (.iload_n 1, 1) := by decide +kernel
theorem dX12_isSo_34 : decode cX12_isSo 34 = .ok (.bipush 6, 2) := by decide +kernel
theorem dX12_isSo_36 : decode cX12_isSo 36 = .ok (.iadd, 1) := by decide +kernel
theorem dX12_isSo_37 : decode cX12_isSo 37 = .ok (.iaload, 1) := by decide +kernel
theorem dX12_isSo_38 : decode cX12_isSo 38 = .ok (.invokevirtual 396, 3) := by decide +kernel
theorem dX12_isSo_41 : decode cX12_isSo 41 = .ok (.aload_n 0, 1) := by decide +kernel
theorem dX12_isSo_42 : decode cX12_isSo 42 = .ok (.getfield 379, 3) := by decide +kernel
theorem dX12_isSo_45 : decode cX12_isSo 45 = .ok (.ifCond .ne 12, 3) := by decide +kernel
theorem dX12_isSo_48 : decode cX12_isSo 48 = .ok (.aload_n 0, 1) := by decide +kernel
theorem dX12_isSo_49 : decode cX12_isSo 49 = .ok (.getfield 393, 3) := by decide +kernel
theorem dX12_isSo_52 : decode cX12_isSo 52 = .ok (.lconst 0, 1) := by decide +kernel
theorem dX12_isSo_53 : decode cX12_isSo 53 = .ok (.lcmp, 1) := by decide +kernel
theorem dX12_isSo_54 : decode cX12_isSo 54 = .ok (.ifCond .ne 5, 3) := by decide +kernel
theorem dX12_isSo_57 : decode cX12_isSo 57 = .ok (.iconst 0, 1) := by decide +kernel
theorem dX12_isSo_58 : decode cX12_isSo 58 = .ok (.ireturn, 1) := by decide +kernel
theorem dX12_isSo_59 : decode cX12_isSo 59 = .ok (.aload_n 0, 1) := by decide +kernel
theorem dX12_isSo_60 : decode cX12_isSo 60 = .ok (.getfield 13, 3) := by decide +kernel
theorem dX12_isSo_63 : decode cX12_isSo 63 = .ok (.iload_n 1, 1) := by decide +kernel
theorem dX12_isSo_64 : decode cX12_isSo 64 = .ok (.iaload, 1) := by decide +kernel
theorem dX12_isSo_65 : decode cX12_isSo 65 = .ok (.iconst 1, 1) := by decide +kernel
theorem dX12_isSo_66 : decode cX12_isSo 66 = .ok (.if_icmp .eq 44, 3) := by decide +kernel
theorem dX12_isSo_69 : decode cX12_isSo 69 = .ok (.aload_n 0, 1) := by decide +kernel
theorem dX12_isSo_70 : decode cX12_isSo 70 = .ok (.aload_n 0, 1) := by decide +kernel
theorem dX12_isSo_71 : decode cX12_isSo 71 = .ok (.getfield 13, 3) := by decide +kernel
theorem dX12_isSo_74 : decode cX12_isSo 74 = .ok (.iload_n 1, 1) := by decide +kernel
theorem dX12_isSo_75 : decode cX12_isSo 75 = .ok (.iconst 3, 1) := by decide +kernel
theorem dX12_isSo_76 : decode cX12_isSo 76 = .ok (.iadd, 1) := by decide +kernel
theorem dX12_isSo_77 : decode cX12_isSo 77 = .ok (.iaload, 1) := by decide +kernel
theorem dX12_isSo_78 : decode cX12_isSo 78 = .ok (.aload_n 0, 1) := by decide +kernel
theorem dX12_isSo_79 : decode cX12_isSo 79 = .ok (.getfield 13, 3) := by decide +kernel
theorem dX12_isSo_82 : decode cX12_isSo 82 = .ok (.iload_n 1, 1) := by decide +kernel
theorem dX12_isSo_83 : decode cX12_isSo 83 = .ok (.iconst 4, 1) := by decide +kernel
theorem dX12_isSo_84 : decode cX12_isSo 84 = .ok (.iadd, 1) := by decide +kernel
theorem dX12_isSo_85 : decode cX12_isSo 85 = .ok (.iaload, 1) := by decide +kernel
theorem dX12_isSo_86 : decode cX12_isSo 86 = .ok (.invokevirtual 396, 3) := by decide +kernel
theorem dX12_isSo_89 : decode cX12_isSo 89 = .ok (.aload_n 0, 1) := by decide +kernel
theorem dX12_isSo_90 : decode cX12_isSo 90 = .ok (.aload_n 0, 1) := by decide +kernel
theorem dX12_isSo_91 : decode cX12_isSo 91 = .ok (.getfield 393, 3) := by decide +kernel
theorem dX12_isSo_94 : decode cX12_isSo 94 = .ok (.putfield 399, 3) := by decide +kernel
theorem dX12_isSo_97 : decode cX12_isSo 97 = .ok (.aload_n 0, 1) := by decide +kernel
theorem dX12_isSo_98 : decode cX12_isSo 98 = .ok (.getfield 379, 3) := by decide +kernel
theorem dX12_isSo_101 : decode cX12_isSo 101 = .ok (.ifCond .ne 7, 3) := by decide +kernel
theorem dX12_isSo_104 : decode cX12_isSo 104 = .ok (.iconst 1, 1) := by decide +kernel
theorem dX12_isSo_105 : decode cX12_isSo 105 = .ok (.goto 4, 3) := by decide +kernel
theorem dX12_isSo_108 : decode cX12_isSo 108 = .ok (.iconst 0, 1) := by decide +kernel
theorem dX12_isSo_109 : decode cX12_isSo 109 = .ok (.ireturn, 1) := by decide +kernel
theorem dX12_isSo_110 : decode cX12_isSo 110 = .ok (.iconst 1, 1) := by decide +kernel
theorem dX12_isSo_111 : decode cX12_isSo 111 = .ok (.ireturn, 1) := by decide +kernel
set_option maxRecDepth 100000 in
theorem okm_X12_isSo : okL RX12 cX12_isSo 2 (some .boolean) "isSo" pcX12_isSo opX12_isSo pcX12_isSo := by
  unfold opX12_isSo
  refine okL_cons (ok_aload_n rfl dX12_isSo_0) rfl ?_
  refine okL_cons (ok_getP kw_654 cf_X12 rfl rfl (by decide) dX12_isSo_1) rfl ?_
  refine okL_cons (ok_iload_n rfl dX12_isSo_4) rfl ?_
  refine okL_cons (ok_iconst rfl dX12_isSo_5) rfl ?_
  refine okL_cons (ok_iadd dX12_isSo_6) rfl ?_
  refine okL_cons (ok_iaload dX12_isSo_7) rfl ?_
  refine okL_cons (ok_aload_n rfl dX12_isSo_8) rfl ?_
  refine okL_cons (ok_getP kw_654 cf_X12 rfl rfl (by decide) dX12_isSo_9) rfl ?_
  refine okL_cons (ok_iload_n rfl dX12_isSo_12) rfl ?_
  refine okL_cons (ok_bipush rfl dX12_isSo_13) rfl ?_
  refine okL_cons (ok_iadd dX12_isSo_15) rfl ?_
  refine okL_cons (ok_iaload dX12_isSo_16) rfl ?_
  refine okL_cons (ok_icmp_ge rfl dX12_isSo_17) rfl ?_
  refine okL_cons (ok_aload_n rfl dX12_isSo_20) rfl ?_
  refine okL_cons (ok_aload_n rfl dX12_isSo_21) rfl ?_
  refine okL_cons (ok_getP kw_654 cf_X12 rfl rfl (by decide) dX12_isSo_22) rfl ?_
  refine okL_cons (ok_iload_n rfl dX12_isSo_25) rfl ?_
  refine okL_cons (ok_iconst rfl dX12_isSo_26) rfl ?_
  refine okL_cons (ok_iadd dX12_isSo_27) rfl ?_
  refine okL_cons (ok_iaload dX12_isSo_28) rfl ?_
  refine okL_cons (ok_aload_n rfl dX12_isSo_29) rfl ?_
  refine okL_cons (ok_getP kw_654 cf_X12 rfl rfl (by decide) dX12_isSo_30) rfl ?_
  refine okL_cons (ok_iload_n rfl dX12_isSo_33) rfl ?_
  refine okL_cons (ok_bipush rfl dX12_isSo_34) rfl ?_
  refine okL_cons (ok_iadd dX12_isSo_36) rfl ?_
  refine okL_cons (ok_iaload dX12_isSo_37) rfl ?_
  refine okL_cons (ok_invV (M' := 225) kw_914 kw_915 kw_916 kw_711 kw_917 cf_X12 rfl (by decide +kernel) dX12_isSo_38) rfl ?_
  refine okL_cons (ok_aload_n rfl dX12_isSo_41) rfl ?_
  refine okL_cons (ok_getI kw_905 cf_X12 rfl rfl (by decide) dX12_isSo_42) rfl ?_
  refine okL_cons (ok_if_ne rfl dX12_isSo_45) rfl ?_
  refine okL_cons (ok_aload_n rfl dX12_isSo_48) rfl ?_
  refine okL_cons (ok_getJ kw_913 cf_X12 rfl rfl (by decide) dX12_isSo_49) rfl ?_
  refine okL_cons (ok_lconst rfl dX12_isSo_52) rfl ?_
  refine okL_cons (ok_lcmp dX12_isSo_53) rfl ?_
  refine okL_cons (ok_if_ne rfl dX12_isSo_54) rfl ?_
  refine okL_cons (ok_iconst rfl dX12_isSo_57) rfl ?_
  refine okL_cons (ok_zreturn rfl dX12_isSo_58) rfl ?_
  refine okL_cons (ok_aload_n rfl dX12_isSo_59) rfl ?_
  refine okL_cons (ok_getP kw_654 cf_X12 rfl rfl (by decide) dX12_isSo_60) rfl ?_
  refine okL_cons (ok_iload_n rfl dX12_isSo_63) rfl ?_
  refine okL_cons (ok_iaload dX12_isSo_64) rfl ?_
  refine okL_cons (ok_iconst rfl dX12_isSo_65) rfl ?_
  refine okL_cons (ok_icmp_eq rfl dX12_isSo_66) rfl ?_
  refine okL_cons (ok_aload_n rfl dX12_isSo_69) rfl ?_
  refine okL_cons (ok_aload_n rfl dX12_isSo_70) rfl ?_
  refine okL_cons (ok_getP kw_654 cf_X12 rfl rfl (by decide) dX12_isSo_71) rfl ?_
  refine okL_cons (ok_iload_n rfl dX12_isSo_74) rfl ?_
  refine okL_cons (ok_iconst rfl dX12_isSo_75) rfl ?_
  refine okL_cons (ok_iadd dX12_isSo_76) rfl ?_
  refine okL_cons (ok_iaload dX12_isSo_77) rfl ?_
  refine okL_cons (ok_aload_n rfl dX12_isSo_78) rfl ?_
  refine okL_cons (ok_getP kw_654 cf_X12 rfl rfl (by decide) dX12_isSo_79) rfl ?_
  refine okL_cons (ok_iload_n rfl dX12_isSo_82) rfl ?_
  refine okL_cons (ok_iconst rfl dX12_isSo_83) rfl ?_
  refine okL_cons (ok_iadd dX12_isSo_84) rfl ?_
  refine okL_cons (ok_iaload dX12_isSo_85) rfl ?_
  refine okL_cons (ok_invV (M' := 225) kw_914 kw_915 kw_916 kw_711 kw_917 cf_X12 rfl (by decide +kernel) dX12_isSo_86) rfl ?_
  refine okL_cons (ok_aload_n rfl dX12_isSo_89) rfl ?_
  refine okL_cons (ok_aload_n rfl dX12_isSo_90) rfl ?_
  refine okL_cons (ok_getJ kw_913 cf_X12 rfl rfl (by decide) dX12_isSo_91) rfl ?_
  refine okL_cons (ok_putJ kw_918 cf_X12 rfl rfl (by decide) rfl dX12_isSo_94) rfl ?_
  refine okL_cons (ok_aload_n rfl dX12_isSo_97) rfl ?_
  refine okL_cons (ok_getI kw_905 cf_X12 rfl rfl (by decide) dX12_isSo_98) rfl ?_
  refine okL_cons (ok_if_ne rfl dX12_isSo_101) rfl ?_
  refine okL_cons (ok_iconst rfl dX12_isSo_104) rfl ?_
  refine okL_cons (ok_goto rfl dX12_isSo_105) rfl ?_
  refine okL_cons (ok_iconst rfl dX12_isSo_108) rfl ?_
  refine okL_cons (ok_zreturn rfl dX12_isSo_109) rfl ?_
  refine okL_cons (ok_iconst rfl dX12_isSo_110) rfl ?_
  exact okL_one (ok_zreturn rfl dX12_isSo_111)
theorem dX12_tells_0 : decode cX12_tells 0 = .ok (.aload_n 0, 1) := by decide +kernel
theorem dX12_tells_1 : decode cX12_tells 1 = .ok (.getfield 13, 3) := by decide +kernel
theorem dX12_tells_4 : decode cX12_tells 4 = .ok (.iconst 2, 1) := by decide +kernel
theorem dX12_tells_5 : decode cX12_tells 5 = .ok (.iaload, 1) := by decide +kernel
theorem dX12_tells_6 : decode cX12_tells 6 = .ok (.iconst (-1), 1) := by decide +kernel
theorem dX12_tells_7 : decode cX12_tells 7 = .ok (.if_icmp .ne 5, 3) := by decide +kernel
theorem dX12_tells_10 : decode cX12_tells 10 = .ok (.lload_n 3, 1) := by decide +kernel
theorem dX12_tells_11 : decode cX12_tells 11 = .ok (.lreturn, 1) := by decide +kernel
theorem dX12_tells_12 : decode cX12_tells 12 = .ok (.aload_n 0, 1) := by decide +kernel
theorem dX12_tells_13 : decode cX12_tells 13 = .ok (.bipush 68, 2) := by decide +kernel
theorem dX12_tells_15 : decode cX12_tells 15 = .ok (.sipush 900, 3) := by decide +kernel
theorem dX12_tells_18 : decode cX12_tells 18 = .ok (.aload_n 0, 1) := by decide +kernel
theorem dX12_tells_19 : decode cX12_tells 19 = .ok (.getfield 13, 3) := by decide +kernel
theorem dX12_tells_22 : decode cX12_tells 22 = .ok (.iconst 2, 1) := by decide +kernel
theorem dX12_tells_23 : decode cX12_tells 23 = .ok (.iaload, 1) := by decide +kernel
theorem dX12_tells_24 : decode cX12_tells 24 = .ok (.imul, 1) := by decide +kernel
theorem dX12_tells_25 : decode cX12_tells 25 = .ok (.iadd, 1) := by decide +kernel
theorem dX12_tells_26 : decode cX12_tells 26 = .ok (.putfield 382, 3) := by decide +kernel
theorem dX12_tells_29 : decode cX12_tells 29 = .ok (.aload_n 0, 1) := by decide +kernel
theorem dX12_tells_30 : decode cX12_tells 30 = .ok (.getfield 95, 3) := by decide +kernel
theorem dX12_tells_33 : decode cX12_tells 33 = .ok (.iconst 1, 1) := by decide +kernel
theorem dX12_tells_34 : decode cX12_tells 34 = .ok (.iload_n 2, 1) := by decide +kernel
theorem dX12_tells_35 : decode cX12_tells 35 = .ok (.iconst 5, 1) := by decide +kernel
theorem dX12_tells_36 : decode cX12_tells 36 = .ok (.irem, 1) := by decide +kernel
theorem dX12_tells_37 : decode cX12_tells 37 = .ok (.i2l, 1) := by decide +kernel
theorem dX12_tells_38 : decode cX12_tells 38 = .ok (.lastore, 1) := by decide +kernel
theorem dX12_tells_39 : decode cX12_tells 39 = .ok (.aload_n 0, 1) := by decide +kernel
theorem dX12_tells_40 : decode cX12_tells 40 = .ok (.getfield 95, 3) := by decide +kernel
theorem dX12_tells_43 : decode cX12_tells 43 = .ok (.iconst 2, 1) := by decide +kernel
theorem dX12_tells_44 : decode cX12_tells 44 = .ok (.iload_n 2, 1) := by decide +kernel
theorem dX12_tells_45 : decode cX12_tells 45 = .ok (.iconst 5, 1) := by decide +kernel
theorem dX12_tells_46 : decode cX12_tells 46 = .ok (.idiv, 1) := by decide +kernel
theorem dX12_tells_47 : decode cX12_tells 47 = .ok (.i2l, 1) := by decide +kernel
theorem dX12_tells_48 : decode cX12_tells 48 = .ok (.lastore, 1) := by decide +kernel
theorem dX12_tells_49 : decode cX12_tells 49 = .ok (.aload_n 0, 1) := by decide +kernel
theorem dX12_tells_50 : decode cX12_tells 50 = .ok (.getfield 95, 3) := by decide +kernel
theorem dX12_tells_53 : decode cX12_tells 53 = .ok (.iconst 3, 1) := by decide +kernel
theorem dX12_tells_54 : decode cX12_tells 54 = .ok (.aload_n 0, 1) := by decide +kernel
theorem dX12_tells_55 : decode cX12_tells 55 = .ok (.getfield 13, 3) := by decide +kernel
theorem dX12_tells_58 : decode cX12_tells 58 = .ok (.bipush 7, 2) := by decide +kernel
theorem dX12_tells_60 : decode cX12_tells 60 = .ok (.iload_n 2, 1) := by decide +kernel
theorem dX12_tells_61 : decode cX12_tells 61 = .ok (.iadd, 1) := by decide +kernel
theorem dX12_tells_62 : decode cX12_tells 62 = .ok (.iaload, 1) := by decide +kernel
theorem dX12_tells_63 : decode cX12_tells 63 = .ok (.i2l, 1) := by decide +kernel
theorem dX12_tells_64 : decode cX12_tells 64 = .ok (.lastore, 1) := by decide +kernel
theorem dX12_tells_65 : decode cX12_tells 65 = .ok (.aload_n 0, 1) := by decide +kernel
theorem dX12_tells_66 : decode cX12_tells 66 = .ok (.getfield 95, 3) := by decide +kernel
theorem dX12_tells_69 : decode cX12_tells 69 = .ok (.iconst 4, 1) := by decide +kernel
theorem dX12_tells_70 : decode cX12_tells 70 = .ok (.aload_n 0, 1) := by decide +kernel
theorem dX12_tells_71 : decode cX12_tells 71 = .ok (.iload_n 2, 1) := by decide +kernel
theorem dX12_tells_72 : decode cX12_tells 72 = .ok (.invokevirtual 194, 3) := by decide +kernel
theorem dX12_tells_75 : decode cX12_tells 75 = .ok (.invokestatic 402, 3) := by decide +kernel
theorem dX12_tells_78 : decode cX12_tells 78 = .ok (.i2l, 1) := by decide +kernel
theorem dX12_tells_79 : decode cX12_tells 79 = .ok (.lastore, 1) := by decide +kernel
theorem dX12_tells_80 : decode cX12_tells 80 = .ok (.aload_n 0, 1) := by decide +kernel
theorem dX12_tells_81 : decode cX12_tells 81 = .ok (.getfield 95, 3) := by decide +kernel
theorem dX12_tells_84 : decode cX12_tells 84 = .ok (.iconst 5, 1) := by decide +kernel
theorem dX12_tells_85 : decode cX12_tells 85 = .ok (.aload_n 0, 1) := by decide +kernel
theorem dX12_tells_86 : decode cX12_tells 86 = .ok (.getfield 13, 3) := by decide +kernel
theorem dX12_tells_89 : decode cX12_tells 89 = .ok (.iconst 4, 1) := by decide +kernel
theorem dX12_tells_90 : decode cX12_tells 90 = .ok (.iaload, 1) := by decide +kernel
theorem dX12_tells_91 : decode cX12_tells 91 = .ok (.i2l, 1) := by decide +kernel
theorem dX12_tells_92 : decode cX12_tells 92 = .ok (.lastore, 1) := by decide +kernel
theorem dX12_tells_93 : decode cX12_tells 93 = .ok (.aload_n 0, 1) := by decide +kernel
theorem dX12_tells_94 : decode cX12_tells 94 = .ok (.getfield 95, 3) := by decide +kernel
theorem dX12_tells_97 : decode cX12_tells 97 = .ok (.bipush 6, 2) := by decide +kernel
theorem dX12_tells_99 : decode cX12_tells 99 = .ok (.aload_n 0, 1) := by decide +kernel
theorem dX12_tells_100 : decode cX12_tells 100 = .ok (.getfield 13, 3) := by decide +kernel
theorem dX12_tells_103 : decode cX12_tells 103 = .ok (.iconst 5, 1) := by decide +kernel
theorem dX12_tells_104 : decode cX12_tells 104 = .ok (.iaload, 1) := by decide +kernel
theorem dX12_tells_105 : decode cX12_tells 105 = .ok (.i2l, 1) := by decide +kernel
theorem dX12_tells_106 : decode cX12_tells 106 = .ok (.lastore, 1) := by decide +kernel
theorem dX12_tells_107 : decode cX12_tells 107 = .ok (.aload_n 0, 1) := by decide +kernel
theorem dX12_tells_108 : decode cX12_tells 108 = .ok (.getfield 95, 3) := by decide +kernel
theorem dX12_tells_111 : decode cX12_tells 111 = .ok (.bipush 7, 2) := by decide +kernel
theorem dX12_tells_113 : decode cX12_tells 113 = .ok (.aload_n 0, 1) := by decide +kernel
theorem dX12_tells_114 : decode cX12_tells 114 = .ok (.getfield 13, 3) := by decide +kernel
theorem dX12_tells_117 : decode cX12_tells 117 = .ok (.bipush 6, 2) := by decide +kernel
theorem dX12_tells_119 : decode cX12_tells 119 = .ok (.iaload, 1) := by decide +kernel
theorem dX12_tells_120 : decode cX12_tells 120 = .ok (.i2l, 1) := by decide +kernel
theorem dX12_tells_121 : decode cX12_tells 121 = .ok (.lastore, 1) := by decide +kernel
theorem dX12_tells_122 : decode cX12_tells 122 = .ok (.lload_n 3, 1) := by decide +kernel
theorem dX12_tells_123 : decode cX12_tells 123 = .ok (.lstore 5, 2) := by decide +kernel
theorem dX12_tells_125 : decode cX12_tells 125 = .ok (.iconst 0, 1) := by decide +kernel
theorem dX12_tells_126 : decode cX12_tells 126 = .ok (.istore 7, 2) := by decide +kernel
theorem dX12_tells_128 : decode cX12_tells 128 = .ok (.iload 7, 2) := by decide +kernel
theorem dX12_tells_130 : decode cX12_tells 130 = .ok (.aload_n 0, 1) := by decide +kernel
theorem dX12_tells_131 : decode cX12_tells 131 = .ok (.getfield 13, 3) := by decide +kernel
theorem dX12_tells_134 : decode cX12_tells 134 = .ok (.aload_n 0, 1) := by decide +kernel
theorem dX12_tells_135 : decode cX12_tells 135 = .ok (.getfield 382, 3) := by decide +kernel
theorem dX12_tells_138 : decode cX12_tells 138 = .ok (.iconst 1, 1) := by decide +kernel
theorem dX12_tells_139 : decode cX12_tells 139 = .ok (.iadd, 1) := by decide +kernel
theorem dX12_tells_140 : decode cX12_tells 140 = .ok (.iaload, 1) := by decide +kernel
theorem dX12_tells_141 : decode cX12_tells 141 = .ok (.if_icmp .ge 58, 3) := by decide +kernel
theorem dX12_tells_144 : decode cX12_tells 144 = .ok (.aload_n 0, 1) := by decide +kernel
theorem dX12_tells_145 : decode cX12_tells 145 = .ok (.getfield 382, 3) := by decide +kernel
theorem dX12_tells_148 : decode cX12_tells 148 = .ok (.iconst 2, 1) := by decide +kernel
theorem dX12_tells_149 : decode cX12_tells 149 = .ok (.iadd, 1) := by decide +kernel
theorem dX12_tells_150 : decode cX12_tells 150 = .ok (.bipush 8, 2) := by decide +kernel
theorem dX12_tells_152 : decode cX12_tells 152 = .ok (.iload 7, 2) := by decide +kernel
theorem dX12_tells_154 : decode cX12_tells 154 = .ok (.imul, 1) := by decide +kernel
theorem dX12_tells_155 : decode cX12_tells 155 = .ok (.iadd, 1) := by decide +kernel
theorem dX12_tells_156 : decode cX12_tells 156 = .ok (.istore 8, 2) := by decide +kernel
theorem dX12_tells_158 : decode cX12_tells 158 = .ok (.aload_n 0, 1) := by decide +kernel
theorem dX12_tells_159 : decode cX12_tells 159 = .ok (.getfield 13, 3) := by decide +kernel
theorem dX12_tells_162 : decode cX12_tells 162 = .ok (.iload 8, 2) := by decide +kernel
theorem dX12_tells_164 : decode cX12_tells 164 = .ok (.iaload, 1) := by decide +kernel
theorem dX12_tells_165 : decode cX12_tells 165 = .ok (.iload_n 1, 1) := by decide +kernel
theorem dX12_tells_166 : decode cX12_tells 166 = .ok (.if_icmp .ne 27, 3) := by decide +kernel
theorem dX12_tells_169 : decode cX12_tells 169 = .ok (.aload_n 0, 1) := by decide +kernel
theorem dX12_tells_170 : decode cX12_tells 170 = .ok (.iload 8, 2) := by decide +kernel
theorem dX12_tells_172 : decode cX12_tells 172 = .ok (.invokevirtual 405, 3) := by decide +kernel
theorem dX12_tells_175 : decode cX12_tells 175 = .ok (.ifCond .eq 18, 3) := by decide +kernel
theorem dX12_tells_178 : decode cX12_tells 178 = .ok (.iload_n 1, 1) := by decide +kernel
theorem dX12_tells_179 : decode cX12_tells 179 = .ok (.iconst 1, 1) := by decide +kernel
theorem dX12_tells_180 : decode cX12_tells 180 = .ok (.if_icmp .ne 7, 3) := by decide +kernel
theorem dX12_tells_183 : decode cX12_tells 183 = .ok (.lconst 1, 1) := by decide +kernel
theorem dX12_tells_184 : decode cX12_tells 184 = .ok (.goto 7, 3) := by decide +kernel
theorem dX12_tells_187 : decode cX12_tells 187 = .ok (.aload_n 0, 1) := by decide +kernel
theorem dX12_tells_188 : decode cX12_tells 188 = .ok (.getfield 399, 3) := by decide +kernel
theorem dX12_tells_191 : decode cX12_tells 191 = .ok (.lstore 5, 2) := by decide +kernel
theorem dX12_tells_193 : decode cX12_tells 193 = .ok (.iinc 7 1, 3) := by decide +kernel
theorem dX12_tells_196 : decode cX12_tells 196 = .ok (.goto (-68), 3) := by decide +kernel
theorem dX12_tells_199 : decode cX12_tells 199 = .ok (.lload 5, 2) := by decide +kernel
theorem dX12_tells_201 : decode cX12_tells 201 = .ok (.lreturn, 1) := by decide +kernel
set_option maxRecDepth 100000 in
theorem okm_X12_tells : okL RX12 cX12_tells 9 (some .long) "tells" pcX12_tells opX12_tells pcX12_tells := by
  unfold opX12_tells
  refine okL_cons (ok_aload_n rfl dX12_tells_0) rfl ?_
  refine okL_cons (ok_getP kw_654 cf_X12 rfl rfl (by decide) dX12_tells_1) rfl ?_
  refine okL_cons (ok_iconst rfl dX12_tells_4) rfl ?_
  refine okL_cons (ok_iaload dX12_tells_5) rfl ?_
  refine okL_cons (ok_iconst rfl dX12_tells_6) rfl ?_
  refine okL_cons (ok_icmp_ne rfl dX12_tells_7) rfl ?_
  refine okL_cons (ok_lload_n rfl dX12_tells_10) rfl ?_
  refine okL_cons (ok_lreturn rfl dX12_tells_11) rfl ?_
  refine okL_cons (ok_aload_n rfl dX12_tells_12) rfl ?_
  refine okL_cons (ok_bipush rfl dX12_tells_13) rfl ?_
  refine okL_cons (ok_sipush rfl dX12_tells_15) rfl ?_
  refine okL_cons (ok_aload_n rfl dX12_tells_18) rfl ?_
  refine okL_cons (ok_getP kw_654 cf_X12 rfl rfl (by decide) dX12_tells_19) rfl ?_
  refine okL_cons (ok_iconst rfl dX12_tells_22) rfl ?_
  refine okL_cons (ok_iaload dX12_tells_23) rfl ?_
  refine okL_cons (ok_imul dX12_tells_24) rfl ?_
  refine okL_cons (ok_iadd dX12_tells_25) rfl ?_
  refine okL_cons (ok_putI kw_906 cf_X12 rfl rfl (by decide) rfl dX12_tells_26) rfl ?_
  refine okL_cons (ok_aload_n rfl dX12_tells_29) rfl ?_
  refine okL_cons (ok_getP kw_685 cf_X12 rfl rfl (by decide) dX12_tells_30) rfl ?_
  refine okL_cons (ok_iconst rfl dX12_tells_33) rfl ?_
  refine okL_cons (ok_iload_n rfl dX12_tells_34) rfl ?_
  refine okL_cons (ok_iconst rfl dX12_tells_35) rfl ?_
  refine okL_cons (ok_irem dX12_tells_36) rfl ?_
  refine okL_cons (ok_i2l dX12_tells_37) rfl ?_
  refine okL_cons (ok_lastore dX12_tells_38) rfl ?_
  refine okL_cons (ok_aload_n rfl dX12_tells_39) rfl ?_
  refine okL_cons (ok_getP kw_685 cf_X12 rfl rfl (by decide) dX12_tells_40) rfl ?_
  refine okL_cons (ok_iconst rfl dX12_tells_43) rfl ?_
  refine okL_cons (ok_iload_n rfl dX12_tells_44) rfl ?_
  refine okL_cons (ok_iconst rfl dX12_tells_45) rfl ?_
  refine okL_cons (ok_idiv dX12_tells_46) rfl ?_
  refine okL_cons (ok_i2l dX12_tells_47) rfl ?_
  refine okL_cons (ok_lastore dX12_tells_48) rfl ?_
  refine okL_cons (ok_aload_n rfl dX12_tells_49) rfl ?_
  refine okL_cons (ok_getP kw_685 cf_X12 rfl rfl (by decide) dX12_tells_50) rfl ?_
  refine okL_cons (ok_iconst rfl dX12_tells_53) rfl ?_
  refine okL_cons (ok_aload_n rfl dX12_tells_54) rfl ?_
  refine okL_cons (ok_getP kw_654 cf_X12 rfl rfl (by decide) dX12_tells_55) rfl ?_
  refine okL_cons (ok_bipush rfl dX12_tells_58) rfl ?_
  refine okL_cons (ok_iload_n rfl dX12_tells_60) rfl ?_
  refine okL_cons (ok_iadd dX12_tells_61) rfl ?_
  refine okL_cons (ok_iaload dX12_tells_62) rfl ?_
  refine okL_cons (ok_i2l dX12_tells_63) rfl ?_
  refine okL_cons (ok_lastore dX12_tells_64) rfl ?_
  refine okL_cons (ok_aload_n rfl dX12_tells_65) rfl ?_
  refine okL_cons (ok_getP kw_685 cf_X12 rfl rfl (by decide) dX12_tells_66) rfl ?_
  refine okL_cons (ok_iconst rfl dX12_tells_69) rfl ?_
  refine okL_cons (ok_aload_n rfl dX12_tells_70) rfl ?_
  refine okL_cons (ok_iload_n rfl dX12_tells_71) rfl ?_
  refine okL_cons (ok_invV (M' := 181) kw_741 kw_742 kw_743 kw_711 kw_744 cf_X12 rfl (by decide +kernel) dX12_tells_72) rfl ?_
  refine okL_cons (ok_invS (M' := 167) kw_919 kw_920 kw_711 kw_921 rfl (by decide +kernel) dX12_tells_75) rfl ?_
  refine okL_cons (ok_i2l dX12_tells_78) rfl ?_
  refine okL_cons (ok_lastore dX12_tells_79) rfl ?_
  refine okL_cons (ok_aload_n rfl dX12_tells_80) rfl ?_
  refine okL_cons (ok_getP kw_685 cf_X12 rfl rfl (by decide) dX12_tells_81) rfl ?_
  refine okL_cons (ok_iconst rfl dX12_tells_84) rfl ?_
  refine okL_cons (ok_aload_n rfl dX12_tells_85) rfl ?_
  refine okL_cons (ok_getP kw_654 cf_X12 rfl rfl (by decide) dX12_tells_86) rfl ?_
  refine okL_cons (ok_iconst rfl dX12_tells_89) rfl ?_
  refine okL_cons (ok_iaload dX12_tells_90) rfl ?_
  refine okL_cons (ok_i2l dX12_tells_91) rfl ?_
  refine okL_cons (ok_lastore dX12_tells_92) rfl ?_
  refine okL_cons (ok_aload_n rfl dX12_tells_93) rfl ?_
  refine okL_cons (ok_getP kw_685 cf_X12 rfl rfl (by decide) dX12_tells_94) rfl ?_
  refine okL_cons (ok_bipush rfl dX12_tells_97) rfl ?_
  refine okL_cons (ok_aload_n rfl dX12_tells_99) rfl ?_
  refine okL_cons (ok_getP kw_654 cf_X12 rfl rfl (by decide) dX12_tells_100) rfl ?_
  refine okL_cons (ok_iconst rfl dX12_tells_103) rfl ?_
  refine okL_cons (ok_iaload dX12_tells_104) rfl ?_
  refine okL_cons (ok_i2l dX12_tells_105) rfl ?_
  refine okL_cons (ok_lastore dX12_tells_106) rfl ?_
  refine okL_cons (ok_aload_n rfl dX12_tells_107) rfl ?_
  refine okL_cons (ok_getP kw_685 cf_X12 rfl rfl (by decide) dX12_tells_108) rfl ?_
  refine okL_cons (ok_bipush rfl dX12_tells_111) rfl ?_
  refine okL_cons (ok_aload_n rfl dX12_tells_113) rfl ?_
  refine okL_cons (ok_getP kw_654 cf_X12 rfl rfl (by decide) dX12_tells_114) rfl ?_
  refine okL_cons (ok_bipush rfl dX12_tells_117) rfl ?_
  refine okL_cons (ok_iaload dX12_tells_119) rfl ?_
  refine okL_cons (ok_i2l dX12_tells_120) rfl ?_
  refine okL_cons (ok_lastore dX12_tells_121) rfl ?_
  refine okL_cons (ok_lload_n rfl dX12_tells_122) rfl ?_
  refine okL_cons (ok_lstore dX12_tells_123) rfl ?_
  refine okL_cons (ok_iconst rfl dX12_tells_125) rfl ?_
  refine okL_cons (ok_istore dX12_tells_126) rfl ?_
  refine okL_cons (ok_iload dX12_tells_128) rfl ?_
  refine okL_cons (ok_aload_n rfl dX12_tells_130) rfl ?_
  refine okL_cons (ok_getP kw_654 cf_X12 rfl rfl (by decide) dX12_tells_131) rfl ?_
  refine okL_cons (ok_aload_n rfl dX12_tells_134) rfl ?_
  refine okL_cons (ok_getI kw_906 cf_X12 rfl rfl (by decide) dX12_tells_135) rfl ?_
  refine okL_cons (ok_iconst rfl dX12_tells_138) rfl ?_
  refine okL_cons (ok_iadd dX12_tells_139) rfl ?_
  refine okL_cons (ok_iaload dX12_tells_140) rfl ?_
  refine okL_cons (ok_icmp_ge rfl dX12_tells_141) rfl ?_
  refine okL_cons (ok_aload_n rfl dX12_tells_144) rfl ?_
  refine okL_cons (ok_getI kw_906 cf_X12 rfl rfl (by decide) dX12_tells_145) rfl ?_
  refine okL_cons (ok_iconst rfl dX12_tells_148) rfl ?_
  refine okL_cons (ok_iadd dX12_tells_149) rfl ?_
  refine okL_cons (ok_bipush rfl dX12_tells_150) rfl ?_
  refine okL_cons (ok_iload dX12_tells_152) rfl ?_
  refine okL_cons (ok_imul dX12_tells_154) rfl ?_
  refine okL_cons (ok_iadd dX12_tells_155) rfl ?_
  refine okL_cons (ok_istore dX12_tells_156) rfl ?_
  refine okL_cons (ok_aload_n rfl dX12_tells_158) rfl ?_
  refine okL_cons (ok_getP kw_654 cf_X12 rfl rfl (by decide) dX12_tells_159) rfl ?_
  refine okL_cons (ok_iload dX12_tells_162) rfl ?_
  refine okL_cons (ok_iaload dX12_tells_164) rfl ?_
  refine okL_cons (ok_iload_n rfl dX12_tells_165) rfl ?_
  refine okL_cons (ok_icmp_ne rfl dX12_tells_166) rfl ?_
  refine okL_cons (ok_aload_n rfl dX12_tells_169) rfl ?_
  refine okL_cons (ok_iload dX12_tells_170) rfl ?_
  refine okL_cons (ok_invV (M' := 226) kw_922 kw_923 kw_924 kw_711 kw_925 cf_X12 rfl (by decide +kernel) dX12_tells_172) rfl ?_
  refine okL_cons (ok_if_eq rfl dX12_tells_175) rfl ?_
  refine okL_cons (ok_iload_n rfl dX12_tells_178) rfl ?_
  refine okL_cons (ok_iconst rfl dX12_tells_179) rfl ?_
  refine okL_cons (ok_icmp_ne rfl dX12_tells_180) rfl ?_
  refine okL_cons (ok_lconst rfl dX12_tells_183) rfl ?_
  refine okL_cons (ok_goto rfl dX12_tells_184) rfl ?_
  refine okL_cons (ok_aload_n rfl dX12_tells_187) rfl ?_
  refine okL_cons (ok_getJ kw_918 cf_X12 rfl rfl (by decide) dX12_tells_188) rfl ?_
  refine okL_cons (ok_lstore dX12_tells_191) rfl ?_
  refine okL_cons (ok_iinc rfl dX12_tells_193) rfl ?_
  refine okL_cons (ok_goto rfl dX12_tells_196) rfl ?_
  refine okL_cons (ok_lload dX12_tells_199) rfl ?_
  exact okL_one (ok_lreturn rfl dX12_tells_201)
theorem dX12_standsAt_0 : decode cX12_standsAt 0 = .ok (.aload_n 0, 1) := by decide +kernel
theorem dX12_standsAt_1 : decode cX12_standsAt 1 = .ok (.iconst 0, 1) := by decide +kernel
theorem dX12_standsAt_2 : decode cX12_standsAt 2 = .ok (.iload_n 1, 1) := by decide +kernel
theorem dX12_standsAt_3 : decode cX12_standsAt 3 = .ok (.aload_n 0, 1) := by decide +kernel
theorem dX12_standsAt_4 : decode cX12_standsAt 4 = .ok (.getfield 13, 3) := by decide +kernel
theorem dX12_standsAt_7 : decode cX12_standsAt 7 = .ok (.bipush 7, 2) := by decide +kernel
theorem dX12_standsAt_9 : decode cX12_standsAt 9 = .ok (.iload_n 1, 1) := by decide +kernel
theorem dX12_standsAt_10 : decode cX12_standsAt 10 = .ok (.iadd, 1) := by decide +kernel
theorem dX12_standsAt_11 : decode cX12_standsAt 11 = .ok (.iaload, 1) := by decide +kernel
theorem dX12_standsAt_12 : decode cX12_standsAt 12 = .ok (.i2l, 1) := by decide +kernel
theorem dX12_standsAt_13 : decode cX12_standsAt 13 = .ok (.invokevirtual 408, 3) := by decide +kernel
theorem dX12_standsAt_16 : decode cX12_standsAt 16 = .ok (.iconst 0, 1) := by decide +kernel
theorem dX12_standsAt_17 : decode cX12_standsAt 17 = .ok (.bipush 99, 2) := by decide +kernel
theorem dX12_standsAt_19 : decode cX12_standsAt 19 = .ok (.invokestatic 412, 3) := by decide +kernel
theorem dX12_standsAt_22 : decode cX12_standsAt 22 = .ok (.ireturn, 1) := by decide +kernel
set_option maxRecDepth 100000 in
theorem okm_X12_standsAt : okL RX12 cX12_standsAt 2 (some .int) "standsAt" pcX12_standsAt opX12_standsAt pcX12_standsAt := by
  unfold opX12_standsAt
  refine okL_cons (ok_aload_n rfl dX12_standsAt_0) rfl ?_
  refine okL_cons (ok_iconst rfl dX12_standsAt_1) rfl ?_
  refine okL_cons (ok_iload_n rfl dX12_standsAt_2) rfl ?_
  refine okL_cons (ok_aload_n rfl dX12_standsAt_3) rfl ?_
  refine okL_cons (ok_getP kw_654 cf_X12 rfl rfl (by decide) dX12_standsAt_4) rfl ?_
  refine okL_cons (ok_bipush rfl dX12_standsAt_7) rfl ?_
  refine okL_cons (ok_iload_n rfl dX12_standsAt_9) rfl ?_
  refine okL_cons (ok_iadd dX12_standsAt_10) rfl ?_
  refine okL_cons (ok_iaload dX12_standsAt_11) rfl ?_
  refine okL_cons (ok_i2l dX12_standsAt_12) rfl ?_
  refine okL_cons (ok_invV (M' := 227) kw_926 kw_927 kw_928 kw_711 kw_929 cf_X12 rfl (by decide +kernel) dX12_standsAt_13) rfl ?_
  refine okL_cons (ok_iconst rfl dX12_standsAt_16) rfl ?_
  refine okL_cons (ok_bipush rfl dX12_standsAt_17) rfl ?_
  refine okL_cons (ok_invS (M' := 168) kw_930 kw_931 kw_711 kw_932 rfl (by decide +kernel) dX12_standsAt_19) rfl ?_
  exact okL_one (ok_ireturn rfl dX12_standsAt_22)
theorem dX12_isHeld_0 : decode cX12_isHeld 0 = .ok (.aload_n 0, 1) := by decide +kernel
theorem dX12_isHeld_1 : decode cX12_isHeld 1 = .ok (.iconst 1, 1) := by decide +kernel
theorem dX12_isHeld_2 : decode cX12_isHeld 2 = .ok (.iload_n 1, 1) := by decide +kernel
theorem dX12_isHeld_3 : decode cX12_isHeld 3 = .ok (.lconst 0, 1) := by decide +kernel
theorem dX12_isHeld_4 : decode cX12_isHeld 4 = .ok (.invokevirtual 408, 3) := by decide +kernel
theorem dX12_isHeld_7 : decode cX12_isHeld 7 = .ok (.lconst 1, 1) := by decide +kernel
theorem dX12_isHeld_8 : decode cX12_isHeld 8 = .ok (.lcmp, 1) := by decide +kernel
theorem dX12_isHeld_9 : decode cX12_isHeld 9 = .ok (.ifCond .ne 7, 3) := by decide +kernel
theorem dX12_isHeld_12 : decode cX12_isHeld 12 = .ok (.iconst 1, 1) := by decide +kernel
theorem dX12_isHeld_13 : decode cX12_isHeld 13 = .ok (.goto 4, 3) := by decide +kernel
theorem dX12_isHeld_16 : decode cX12_isHeld 16 = .ok (.iconst 0, 1) := by decide +kernel
theorem dX12_isHeld_17 : decode cX12_isHeld 17 = .ok (.ireturn, 1) := by decide +kernel
set_option maxRecDepth 100000 in
theorem okm_X12_isHeld : okL RX12 cX12_isHeld 2 (some .boolean) "isHeld" pcX12_isHeld opX12_isHeld pcX12_isHeld := by
  unfold opX12_isHeld
  refine okL_cons (ok_aload_n rfl dX12_isHeld_0) rfl ?_
  refine okL_cons (ok_iconst rfl dX12_isHeld_1) rfl ?_
  refine okL_cons (ok_iload_n rfl dX12_isHeld_2) rfl ?_
  refine okL_cons (ok_lconst rfl dX12_isHeld_3) rfl ?_
  refine okL_cons (ok_invV (M' := 227) kw_926 kw_927 kw_928 kw_711 kw_929 cf_X12 rfl (by decide +kernel) dX12_isHeld_4) rfl ?_
  refine okL_cons (ok_lconst rfl dX12_isHeld_7) rfl ?_
  refine okL_cons (ok_lcmp dX12_isHeld_8) rfl ?_
  refine okL_cons (ok_if_ne rfl dX12_isHeld_9) rfl ?_
  refine okL_cons (ok_iconst rfl dX12_isHeld_12) rfl ?_
  refine okL_cons (ok_goto rfl dX12_isHeld_13) rfl ?_
  refine okL_cons (ok_iconst rfl dX12_isHeld_16) rfl ?_
  exact okL_one (ok_zreturn rfl dX12_isHeld_17)
theorem dX12_layRuns_0 : decode cX12_layRuns 0 = .ok (.iconst 0, 1) := by decide +kernel
theorem dX12_layRuns_1 : decode cX12_layRuns 1 = .ok (.istore_n 1, 1) := by decide +kernel
theorem dX12_layRuns_2 : decode cX12_layRuns 2 = .ok (.iload_n 1, 1) := by decide +kernel
theorem dX12_layRuns_3 : decode cX12_layRuns 3 = .ok (.bipush 25, 2) := by decide +kernel
theorem dX12_layRuns_5 : decode cX12_layRuns 5 = .ok (.if_icmp .ge 20, 3) := by decide +kernel
theorem dX12_layRuns_8 : decode cX12_layRuns 8 = .ok (.aload_n 0, 1) := by decide +kernel
theorem dX12_layRuns_9 : decode cX12_layRuns 9 = .ok (.getfield 104, 3) := by decide +kernel
theorem dX12_layRuns_12 : decode cX12_layRuns 12 = .ok (.iload_n 1, 1) := by decide +kernel
theorem dX12_layRuns_13 : decode cX12_layRuns 13 = .ok (.aload_n 0, 1) := by decide +kernel
theorem dX12_layRuns_14 : decode cX12_layRuns 14 = .ok (.iload_n 1, 1) := by decide +kernel
theorem dX12_layRuns_15 : decode cX12_layRuns 15 = .ok (.invokevirtual 197, 3) := by decide +kernel
theorem dX12_layRuns_18 : decode cX12_layRuns 18 = .ok (.iastore, 1) := by decide +kernel
theorem dX12_layRuns_19 : decode cX12_layRuns 19 = .ok (.iinc 1 1, 3) := by decide +kernel
theorem dX12_layRuns_22 : decode cX12_layRuns 22 = .ok (.goto (-20), 3) := by decide +kernel
theorem dX12_layRuns_25 : decode cX12_layRuns 25 = .ok (.iconst 0, 1) := by decide +kernel
theorem dX12_layRuns_26 : decode cX12_layRuns 26 = .ok (.istore_n 1, 1) := by decide +kernel
theorem dX12_layRuns_27 : decode cX12_layRuns 27 = .ok (.iload_n 1, 1) := by decide +kernel
theorem dX12_layRuns_28 : decode cX12_layRuns 28 = .ok (.bipush 25, 2) := by decide +kernel
theorem dX12_layRuns_30 : decode cX12_layRuns 30 = .ok (.if_icmp .ge 87, 3) := by decide +kernel
theorem dX12_layRuns_33 : decode cX12_layRuns 33 = .ok (.iload_n 1, 1) := by decide +kernel
theorem dX12_layRuns_34 : decode cX12_layRuns 34 = .ok (.istore_n 2, 1) := by decide +kernel
theorem dX12_layRuns_35 : decode cX12_layRuns 35 = .ok (.iconst 0, 1) := by decide +kernel
theorem dX12_layRuns_36 : decode cX12_layRuns 36 = .ok (.istore_n 3, 1) := by decide +kernel
theorem dX12_layRuns_37 : decode cX12_layRuns 37 = .ok (.iload_n 3, 1) := by decide +kernel
theorem dX12_layRuns_38 : decode cX12_layRuns 38 = .ok (.iconst 4, 1) := by decide +kernel
theorem dX12_layRuns_39 : decode cX12_layRuns 39 = .ok (.if_icmp .ge 45, 3) := by decide +kernel
theorem dX12_layRuns_42 : decode cX12_layRuns 42 = .ok (.iload_n 1, 1) := by decide +kernel
theorem dX12_layRuns_43 : decode cX12_layRuns 43 = .ok (.iload_n 3, 1) := by decide +kernel
theorem dX12_layRuns_44 : decode cX12_layRuns 44 = .ok (.invokestatic 416, 3) := by decide +kernel
theorem dX12_layRuns_47 : decode cX12_layRuns 47 = .ok (.istore 4, 2) := by decide +kernel
theorem dX12_layRuns_49 : decode cX12_layRuns 49 = .ok (.iload 4, 2) := by decide +kernel
theorem dX12_layRuns_51 : decode cX12_layRuns 51 = .ok (.iconst (-1), 1) := by decide +kernel
theorem dX12_layRuns_52 : decode cX12_layRuns 52 = .ok (.if_icmp .eq 24, 3) := by decide +kernel
theorem dX12_layRuns_55 : decode cX12_layRuns 55 = .ok (.aload_n 0, 1) := by decide +kernel
theorem dX12_layRuns_56 : decode cX12_layRuns 56 = .ok (.getfield 104, 3) := by decide +kernel
theorem dX12_layRuns_59 : decode cX12_layRuns 59 = .ok (.iload 4, 2) := by decide +kernel
theorem dX12_layRuns_61 : decode cX12_layRuns 61 = .ok (.iaload, 1) := by decide +kernel
theorem dX12_layRuns_62 : decode cX12_layRuns 62 = .ok (.aload_n 0, 1) := by decide +kernel
theorem dX12_layRuns_63 : decode cX12_layRuns 63 = .ok (.getfield 104, 3) := by decide +kernel
theorem dX12_layRuns_66 : decode cX12_layRuns 66 = .ok (.iload_n 2, 1) := by decide +kernel
theorem dX12_layRuns_67 : decode cX12_layRuns 67 = .ok (.iaload, 1) := by decide +kernel
theorem dX12_layRuns_68 : decode cX12_layRuns 68 = .ok (.if_icmp .ge 8, 3) := by decide +kernel
theorem dX12_layRuns_71 : decode cX12_layRuns 71 = .ok (.iload 4, 2) := by decide +kernel
theorem dX12_layRuns_73 : decode cX12_layRuns 73 = .ok (.goto 4, 3) := by decide +kernel
theorem dX12_layRuns_76 : decode cX12_layRuns 76 = .ok (.iload_n 2, 1) := by decide +kernel
theorem dX12_layRuns_77 : decode cX12_layRuns 77 = .ok (.istore_n 2, 1) := by decide +kernel
theorem dX12_layRuns_78 : decode cX12_layRuns 78 = .ok (.iinc 3 1, 3) := by decide +kernel
theorem dX12_layRuns_81 : decode cX12_layRuns 81 = .ok (.goto (-44), 3) := by decide +kernel
theorem dX12_layRuns_84 : decode cX12_layRuns 84 = .ok (.aload_n 0, 1) := by decide +kernel
theorem dX12_layRuns_85 : decode cX12_layRuns 85 = .ok (.getfield 107, 3) := by decide +kernel
theorem dX12_layRuns_88 : decode cX12_layRuns 88 = .ok (.iload_n 1, 1) := by decide +kernel
theorem dX12_layRuns_89 : decode cX12_layRuns 89 = .ok (.aload_n 0, 1) := by decide +kernel
theorem dX12_layRuns_90 : decode cX12_layRuns 90 = .ok (.iload_n 1, 1) := by decide +kernel
theorem dX12_layRuns_91 : decode cX12_layRuns 91 = .ok (.invokevirtual 191, 3) := by decide +kernel
theorem dX12_layRuns_94 : decode cX12_layRuns 94 = .ok (.ifCond .ne 11, 3) := by decide +kernel
theorem dX12_layRuns_97 : decode cX12_layRuns 97 = .ok (.aload_n 0, 1) := by decide +kernel
theorem dX12_layRuns_98 : decode cX12_layRuns 98 = .ok (.iload_n 1, 1) := by decide +kernel
theorem dX12_layRuns_99 : decode cX12_layRuns 99 = .ok (.invokevirtual 200, 3) := by decide +kernel
theorem dX12_layRuns_102 : decode cX12_layRuns 102 = .ok (.ifCond .eq 7, 3) := by decide +kernel
theorem dX12_layRuns_105 : decode cX12_layRuns 105 = .ok (.iload_n 1, 1) := by decide +kernel
theorem dX12_layRuns_106 : decode cX12_layRuns 106 = .ok (.goto 4, 3) := by decide +kernel
theorem dX12_layRuns_109 : decode cX12_layRuns 109 = .ok (.iload_n 2, 1) := by decide +kernel
theorem dX12_layRuns_110 : decode cX12_layRuns 110 = .ok (.iastore, 1) := by decide +kernel
theorem dX12_layRuns_111 : decode cX12_layRuns 111 = .ok (.iinc 1 1, 3) := by decide +kernel
theorem dX12_layRuns_114 : decode cX12_layRuns 114 = .ok (.goto (-87), 3) := by decide +kernel
theorem dX12_layRuns_117 : decode cX12_layRuns 117 = .ok (.return_, 1) := by decide +kernel
set_option maxRecDepth 100000 in
theorem okm_X12_layRuns : okL RX12 cX12_layRuns 5 none "layRuns" pcX12_layRuns opX12_layRuns pcX12_layRuns := by
  unfold opX12_layRuns
  refine okL_cons (ok_iconst rfl dX12_layRuns_0) rfl ?_
  refine okL_cons (ok_istore_n rfl dX12_layRuns_1) rfl ?_
  refine okL_cons (ok_iload_n rfl dX12_layRuns_2) rfl ?_
  refine okL_cons (ok_bipush rfl dX12_layRuns_3) rfl ?_
  refine okL_cons (ok_icmp_ge rfl dX12_layRuns_5) rfl ?_
  refine okL_cons (ok_aload_n rfl dX12_layRuns_8) rfl ?_
  refine okL_cons (ok_getP kw_688 cf_X12 rfl rfl (by decide) dX12_layRuns_9) rfl ?_
  refine okL_cons (ok_iload_n rfl dX12_layRuns_12) rfl ?_
  refine okL_cons (ok_aload_n rfl dX12_layRuns_13) rfl ?_
  refine okL_cons (ok_iload_n rfl dX12_layRuns_14) rfl ?_
  refine okL_cons (ok_invV (M' := 228) kw_745 kw_746 kw_747 kw_711 kw_748 cf_X12 rfl (by decide +kernel) dX12_layRuns_15) rfl ?_
  refine okL_cons (ok_iastore dX12_layRuns_18) rfl ?_
  refine okL_cons (ok_iinc rfl dX12_layRuns_19) rfl ?_
  refine okL_cons (ok_goto rfl dX12_layRuns_22) rfl ?_
  refine okL_cons (ok_iconst rfl dX12_layRuns_25) rfl ?_
  refine okL_cons (ok_istore_n rfl dX12_layRuns_26) rfl ?_
  refine okL_cons (ok_iload_n rfl dX12_layRuns_27) rfl ?_
  refine okL_cons (ok_bipush rfl dX12_layRuns_28) rfl ?_
  refine okL_cons (ok_icmp_ge rfl dX12_layRuns_30) rfl ?_
  refine okL_cons (ok_iload_n rfl dX12_layRuns_33) rfl ?_
  refine okL_cons (ok_istore_n rfl dX12_layRuns_34) rfl ?_
  refine okL_cons (ok_iconst rfl dX12_layRuns_35) rfl ?_
  refine okL_cons (ok_istore_n rfl dX12_layRuns_36) rfl ?_
  refine okL_cons (ok_iload_n rfl dX12_layRuns_37) rfl ?_
  refine okL_cons (ok_iconst rfl dX12_layRuns_38) rfl ?_
  refine okL_cons (ok_icmp_ge rfl dX12_layRuns_39) rfl ?_
  refine okL_cons (ok_iload_n rfl dX12_layRuns_42) rfl ?_
  refine okL_cons (ok_iload_n rfl dX12_layRuns_43) rfl ?_
  refine okL_cons (ok_invS (M' := 183) kw_933 kw_934 kw_711 kw_935 rfl (by decide +kernel) dX12_layRuns_44) rfl ?_
  refine okL_cons (ok_istore dX12_layRuns_47) rfl ?_
  refine okL_cons (ok_iload dX12_layRuns_49) rfl ?_
  refine okL_cons (ok_iconst rfl dX12_layRuns_51) rfl ?_
  refine okL_cons (ok_icmp_eq rfl dX12_layRuns_52) rfl ?_
  refine okL_cons (ok_aload_n rfl dX12_layRuns_55) rfl ?_
  refine okL_cons (ok_getP kw_688 cf_X12 rfl rfl (by decide) dX12_layRuns_56) rfl ?_
  refine okL_cons (ok_iload dX12_layRuns_59) rfl ?_
  refine okL_cons (ok_iaload dX12_layRuns_61) rfl ?_
  refine okL_cons (ok_aload_n rfl dX12_layRuns_62) rfl ?_
  refine okL_cons (ok_getP kw_688 cf_X12 rfl rfl (by decide) dX12_layRuns_63) rfl ?_
  refine okL_cons (ok_iload_n rfl dX12_layRuns_66) rfl ?_
  refine okL_cons (ok_iaload dX12_layRuns_67) rfl ?_
  refine okL_cons (ok_icmp_ge rfl dX12_layRuns_68) rfl ?_
  refine okL_cons (ok_iload dX12_layRuns_71) rfl ?_
  refine okL_cons (ok_goto rfl dX12_layRuns_73) rfl ?_
  refine okL_cons (ok_iload_n rfl dX12_layRuns_76) rfl ?_
  refine okL_cons (ok_istore_n rfl dX12_layRuns_77) rfl ?_
  refine okL_cons (ok_iinc rfl dX12_layRuns_78) rfl ?_
  refine okL_cons (ok_goto rfl dX12_layRuns_81) rfl ?_
  refine okL_cons (ok_aload_n rfl dX12_layRuns_84) rfl ?_
  refine okL_cons (ok_getP kw_689 cf_X12 rfl rfl (by decide) dX12_layRuns_85) rfl ?_
  refine okL_cons (ok_iload_n rfl dX12_layRuns_88) rfl ?_
  refine okL_cons (ok_aload_n rfl dX12_layRuns_89) rfl ?_
  refine okL_cons (ok_iload_n rfl dX12_layRuns_90) rfl ?_
  refine okL_cons (ok_invV (M' := 180) kw_737 kw_738 kw_739 kw_711 kw_740 cf_X12 rfl (by decide +kernel) dX12_layRuns_91) rfl ?_
  refine okL_cons (ok_if_ne rfl dX12_layRuns_94) rfl ?_
  refine okL_cons (ok_aload_n rfl dX12_layRuns_97) rfl ?_
  refine okL_cons (ok_iload_n rfl dX12_layRuns_98) rfl ?_
  refine okL_cons (ok_invV (M' := 229) kw_749 kw_750 kw_751 kw_711 kw_752 cf_X12 rfl (by decide +kernel) dX12_layRuns_99) rfl ?_
  refine okL_cons (ok_if_eq rfl dX12_layRuns_102) rfl ?_
  refine okL_cons (ok_iload_n rfl dX12_layRuns_105) rfl ?_
  refine okL_cons (ok_goto rfl dX12_layRuns_106) rfl ?_
  refine okL_cons (ok_iload_n rfl dX12_layRuns_109) rfl ?_
  refine okL_cons (ok_iastore dX12_layRuns_110) rfl ?_
  refine okL_cons (ok_iinc rfl dX12_layRuns_111) rfl ?_
  refine okL_cons (ok_goto rfl dX12_layRuns_114) rfl ?_
  exact okL_one (ok_return rfl dX12_layRuns_117)
theorem dX12_spillNow_0 : decode cX12_spillNow 0 = .ok (.iload_n 1, 1) := by decide +kernel
theorem dX12_spillNow_1 : decode cX12_spillNow 1 = .ok (.invokestatic 210, 3) := by decide +kernel
theorem dX12_spillNow_4 : decode cX12_spillNow 4 = .ok (.ifCond .eq 10, 3) := by decide +kernel
theorem dX12_spillNow_7 : decode cX12_spillNow 7 = .ok (.iload_n 2, 1) := by decide +kernel
theorem dX12_spillNow_8 : decode cX12_spillNow 8 = .ok (.invokestatic 187, 3) := by decide +kernel
theorem dX12_spillNow_11 : decode cX12_spillNow 11 = .ok (.ifCond .ne 5, 3) := by decide +kernel
theorem dX12_spillNow_14 : decode cX12_spillNow 14 = .ok (.iconst (-1), 1) := by decide +kernel
theorem dX12_spillNow_15 : decode cX12_spillNow 15 = .ok (.ireturn, 1) := by decide +kernel
theorem dX12_spillNow_16 : decode cX12_spillNow 16 = .ok (.aload_n 0, 1) := by decide +kernel
theorem dX12_spillNow_17 : decode cX12_spillNow 17 = .ok (.getfield 13, 3) := by decide +kernel
theorem dX12_spillNow_20 : decode cX12_spillNow 20 = .ok (.bipush 32, 2) := by decide +kernel
theorem dX12_spillNow_22 : decode cX12_spillNow 22 = .ok (.iload_n 1, 1) := by decide +kernel
theorem dX12_spillNow_23 : decode cX12_spillNow 23 = .ok (.iadd, 1) := by decide +kernel
theorem dX12_spillNow_24 : decode cX12_spillNow 24 = .ok (.iaload, 1) := by decide +kernel
theorem dX12_spillNow_25 : decode cX12_spillNow 25 = .ok (.ifCond .eq 6, 3) := by decide +kernel
theorem dX12_spillNow_28 : decode cX12_spillNow 28 = .ok (.bipush (-3), 2) := by decide +kernel
theorem dX12_spillNow_30 : decode cX12_spillNow 30 = .ok (.ireturn, 1) := by decide +kernel
theorem dX12_spillNow_31 : decode cX12_spillNow 31 = .ok (.aload_n 0, 1) := by decide +kernel
theorem dX12_spillNow_32 : decode cX12_spillNow 32 = .ok (.iconst 0, 1) := by decide +kernel
theorem dX12_spillNow_33 : decode cX12_spillNow 33 = .ok (.invokevirtual 419, 3) := by decide +kernel
theorem dX12_spillNow_36 : decode cX12_spillNow 36 = .ok (.aload_n 0, 1) := by decide +kernel
theorem dX12_spillNow_37 : decode cX12_spillNow 37 = .ok (.getfield 13, 3) := by decide +kernel
theorem dX12_spillNow_40 : decode cX12_spillNow 40 = .ok (.bipush 32, 2) := by decide +kernel
theorem dX12_spillNow_42 : decode cX12_spillNow 42 = .ok (.iload_n 1, 1) := by decide +kernel
theorem dX12_spillNow_43 : decode cX12_spillNow 43 = .ok (.iadd, 1) := by decide +kernel
theorem dX12_spillNow_44 : decode cX12_spillNow 44 = .ok (.iconst 1, 1) := by decide +kernel
theorem dX12_spillNow_45 : decode cX12_spillNow 45 = .ok (.iastore, 1) := by decide +kernel
theorem dX12_spillNow_46 : decode cX12_spillNow 46 = .ok (.aload_n 0, 1) := by decide +kernel
theorem dX12_spillNow_47 : decode cX12_spillNow 47 = .ok (.getfield 13, 3) := by decide +kernel
theorem dX12_spillNow_50 : decode cX12_spillNow 50 = .ok (.bipush 40, 2) := by decide +kernel
theorem dX12_spillNow_52 : decode cX12_spillNow 52 = .ok (.iload_n 1, 1) := by decide +kernel
theorem dX12_spillNow_53 : decode cX12_spillNow 53 = .ok (.iadd, 1) := by decide +kernel
theorem dX12_spillNow_54 : decode cX12_spillNow 54 = .ok (.iload_n 2, 1) := by decide +kernel
theorem dX12_spillNow_55 : decode cX12_spillNow 55 = .ok (.iastore, 1) := by decide +kernel
theorem dX12_spillNow_56 : decode cX12_spillNow 56 = .ok (.aload_n 0, 1) := by decide +kernel
theorem dX12_spillNow_57 : decode cX12_spillNow 57 = .ok (.iload_n 2, 1) := by decide +kernel
theorem dX12_spillNow_58 : decode cX12_spillNow 58 = .ok (.invokevirtual 194, 3) := by decide +kernel
theorem dX12_spillNow_61 : decode cX12_spillNow 61 = .ok (.invokestatic 402, 3) := by decide +kernel
theorem dX12_spillNow_64 : decode cX12_spillNow 64 = .ok (.ireturn, 1) := by decide +kernel
set_option maxRecDepth 100000 in
theorem okm_X12_spillNow : okL RX12 cX12_spillNow 3 (some .int) "spillNow" pcX12_spillNow opX12_spillNow pcX12_spillNow := by
  unfold opX12_spillNow
  refine okL_cons (ok_iload_n rfl dX12_spillNow_0) rfl ?_
  refine okL_cons (ok_invS (M' := 179) kw_761 kw_762 kw_711 kw_763 rfl (by decide +kernel) dX12_spillNow_1) rfl ?_
  refine okL_cons (ok_if_eq rfl dX12_spillNow_4) rfl ?_
  refine okL_cons (ok_iload_n rfl dX12_spillNow_7) rfl ?_
  refine okL_cons (ok_invS (M' := 178) kw_734 kw_735 kw_711 kw_736 rfl (by decide +kernel) dX12_spillNow_8) rfl ?_
  refine okL_cons (ok_if_ne rfl dX12_spillNow_11) rfl ?_
  refine okL_cons (ok_iconst rfl dX12_spillNow_14) rfl ?_
  refine okL_cons (ok_ireturn rfl dX12_spillNow_15) rfl ?_
  refine okL_cons (ok_aload_n rfl dX12_spillNow_16) rfl ?_
  refine okL_cons (ok_getP kw_654 cf_X12 rfl rfl (by decide) dX12_spillNow_17) rfl ?_
  refine okL_cons (ok_bipush rfl dX12_spillNow_20) rfl ?_
  refine okL_cons (ok_iload_n rfl dX12_spillNow_22) rfl ?_
  refine okL_cons (ok_iadd dX12_spillNow_23) rfl ?_
  refine okL_cons (ok_iaload dX12_spillNow_24) rfl ?_
  refine okL_cons (ok_if_eq rfl dX12_spillNow_25) rfl ?_
  refine okL_cons (ok_bipush rfl dX12_spillNow_28) rfl ?_
  refine okL_cons (ok_ireturn rfl dX12_spillNow_30) rfl ?_
  refine okL_cons (ok_aload_n rfl dX12_spillNow_31) rfl ?_
  refine okL_cons (ok_iconst rfl dX12_spillNow_32) rfl ?_
  refine okL_cons (ok_invV (M' := 174) kw_936 kw_937 kw_938 kw_711 kw_939 cf_X12 rfl (by decide +kernel) dX12_spillNow_33) rfl ?_
  refine okL_cons (ok_aload_n rfl dX12_spillNow_36) rfl ?_
  refine okL_cons (ok_getP kw_654 cf_X12 rfl rfl (by decide) dX12_spillNow_37) rfl ?_
  refine okL_cons (ok_bipush rfl dX12_spillNow_40) rfl ?_
  refine okL_cons (ok_iload_n rfl dX12_spillNow_42) rfl ?_
  refine okL_cons (ok_iadd dX12_spillNow_43) rfl ?_
  refine okL_cons (ok_iconst rfl dX12_spillNow_44) rfl ?_
  refine okL_cons (ok_iastore dX12_spillNow_45) rfl ?_
  refine okL_cons (ok_aload_n rfl dX12_spillNow_46) rfl ?_
  refine okL_cons (ok_getP kw_654 cf_X12 rfl rfl (by decide) dX12_spillNow_47) rfl ?_
  refine okL_cons (ok_bipush rfl dX12_spillNow_50) rfl ?_
  refine okL_cons (ok_iload_n rfl dX12_spillNow_52) rfl ?_
  refine okL_cons (ok_iadd dX12_spillNow_53) rfl ?_
  refine okL_cons (ok_iload_n rfl dX12_spillNow_54) rfl ?_
  refine okL_cons (ok_iastore dX12_spillNow_55) rfl ?_
  refine okL_cons (ok_aload_n rfl dX12_spillNow_56) rfl ?_
  refine okL_cons (ok_iload_n rfl dX12_spillNow_57) rfl ?_
  refine okL_cons (ok_invV (M' := 181) kw_741 kw_742 kw_743 kw_711 kw_744 cf_X12 rfl (by decide +kernel) dX12_spillNow_58) rfl ?_
  refine okL_cons (ok_invS (M' := 167) kw_919 kw_920 kw_711 kw_921 rfl (by decide +kernel) dX12_spillNow_61) rfl ?_
  exact okL_one (ok_ireturn rfl dX12_spillNow_64)
theorem dX12_spill_0 : decode cX12_spill 0 = .ok (.aload_n 0, 1) := by decide +kernel
theorem dX12_spill_1 : decode cX12_spill 1 = .ok (.iconst 0, 1) := by decide +kernel
theorem dX12_spill_2 : decode cX12_spill 2 = .ok (.putfield 152, 3) := by decide +kernel
theorem dX12_spill_5 : decode cX12_spill 5 = .ok (.aload_n 0, 1) := by decide +kernel
theorem dX12_spill_6 : decode cX12_spill 6 = .ok (.aload_n 0, 1) := by decide +kernel
theorem dX12_spill_7 : decode cX12_spill 7 = .ok (.iload_n 1, 1) := by decide +kernel
theorem dX12_spill_8 : decode cX12_spill 8 = .ok (.iload_n 2, 1) := by decide +kernel
theorem dX12_spill_9 : decode cX12_spill 9 = .ok (.invokevirtual 422, 3) := by decide +kernel
theorem dX12_spill_12 : decode cX12_spill 12 = .ok (.invokevirtual 161, 3) := by decide +kernel
theorem dX12_spill_15 : decode cX12_spill 15 = .ok (.ireturn, 1) := by decide +kernel
set_option maxRecDepth 100000 in
theorem okm_X12_spill : okL RX12 cX12_spill 3 (some .int) "spill" pcX12_spill opX12_spill pcX12_spill := by
  unfold opX12_spill
  refine okL_cons (ok_aload_n rfl dX12_spill_0) rfl ?_
  refine okL_cons (ok_iconst rfl dX12_spill_1) rfl ?_
  refine okL_cons (ok_putI kw_717 cf_X12 rfl rfl (by decide) rfl dX12_spill_2) rfl ?_
  refine okL_cons (ok_aload_n rfl dX12_spill_5) rfl ?_
  refine okL_cons (ok_aload_n rfl dX12_spill_6) rfl ?_
  refine okL_cons (ok_iload_n rfl dX12_spill_7) rfl ?_
  refine okL_cons (ok_iload_n rfl dX12_spill_8) rfl ?_
  refine okL_cons (ok_invV (M' := 231) kw_940 kw_941 kw_942 kw_711 kw_943 cf_X12 rfl (by decide +kernel) dX12_spill_9) rfl ?_
  refine okL_cons (ok_invV (M' := 169) kw_708 kw_709 kw_710 kw_711 kw_712 cf_X12 rfl (by decide +kernel) dX12_spill_12) rfl ?_
  exact okL_one (ok_ireturn rfl dX12_spill_15)
theorem dX12_raiseNow_0 : decode cX12_raiseNow 0 = .ok (.iload_n 1, 1) := by decide +kernel
theorem dX12_raiseNow_1 : decode cX12_raiseNow 1 = .ok (.invokestatic 187, 3) := by decide +kernel
theorem dX12_raiseNow_4 : decode cX12_raiseNow 4 = .ok (.ifCond .eq 15, 3) := by decide +kernel
theorem dX12_raiseNow_7 : decode cX12_raiseNow 7 = .ok (.iload_n 2, 1) := by decide +kernel
theorem dX12_raiseNow_8 : decode cX12_raiseNow 8 = .ok (.i2l, 1) := by decide +kernel
theorem dX12_raiseNow_9 : decode cX12_raiseNow 9 = .ok (.lconst 0, 1) := by decide +kernel
theorem dX12_raiseNow_10 : decode cX12_raiseNow 10 = .ok (.ldc2_w 217, 3) := by decide +kernel
theorem dX12_raiseNow_13 : decode cX12_raiseNow 13 = .ok (.invokestatic 172, 3) := by decide +kernel
theorem dX12_raiseNow_16 : decode cX12_raiseNow 16 = .ok (.ifCond .ne 5, 3) := by decide +kernel
theorem dX12_raiseNow_19 : decode cX12_raiseNow 19 = .ok (.iconst (-1), 1) := by decide +kernel
theorem dX12_raiseNow_20 : decode cX12_raiseNow 20 = .ok (.ireturn, 1) := by decide +kernel
theorem dX12_raiseNow_21 : decode cX12_raiseNow 21 = .ok (.aload_n 0, 1) := by decide +kernel
theorem dX12_raiseNow_22 : decode cX12_raiseNow 22 = .ok (.getfield 13, 3) := by decide +kernel
theorem dX12_raiseNow_25 : decode cX12_raiseNow 25 = .ok (.bipush 7, 2) := by decide +kernel
theorem dX12_raiseNow_27 : decode cX12_raiseNow 27 = .ok (.iload_n 1, 1) := by decide +kernel
theorem dX12_raiseNow_28 : decode cX12_raiseNow 28 = .ok (.iadd, 1) := by decide +kernel
theorem dX12_raiseNow_29 : decode cX12_raiseNow 29 = .ok (.iaload, 1) := by decide +kernel
theorem dX12_raiseNow_30 : decode cX12_raiseNow 30 = .ok (.istore_n 3, 1) := by decide +kernel
theorem dX12_raiseNow_31 : decode cX12_raiseNow 31 = .ok (.iload_n 3, 1) := by decide +kernel
theorem dX12_raiseNow_32 : decode cX12_raiseNow 32 = .ok (.iload_n 2, 1) := by decide +kernel
theorem dX12_raiseNow_33 : decode cX12_raiseNow 33 = .ok (.if_icmp .ne 6, 3) := by decide +kernel
theorem dX12_raiseNow_36 : decode cX12_raiseNow 36 = .ok (.bipush (-3), 2) := by decide +kernel
theorem dX12_raiseNow_38 : decode cX12_raiseNow 38 = .ok (.ireturn, 1) := by decide +kernel
theorem dX12_raiseNow_39 : decode cX12_raiseNow 39 = .ok (.aload_n 0, 1) := by decide +kernel
theorem dX12_raiseNow_40 : decode cX12_raiseNow 40 = .ok (.iconst 1, 1) := by decide +kernel
theorem dX12_raiseNow_41 : decode cX12_raiseNow 41 = .ok (.invokevirtual 419, 3) := by decide +kernel
theorem dX12_raiseNow_44 : decode cX12_raiseNow 44 = .ok (.aload_n 0, 1) := by decide +kernel
theorem dX12_raiseNow_45 : decode cX12_raiseNow 45 = .ok (.getfield 13, 3) := by decide +kernel
theorem dX12_raiseNow_48 : decode cX12_raiseNow 48 = .ok (.bipush 7, 2) := by decide +kernel
theorem dX12_raiseNow_50 : decode cX12_raiseNow 50 = .ok (.iload_n 1, 1) := by decide +kernel
theorem dX12_raiseNow_51 : decode cX12_raiseNow 51 = .ok (.iadd, 1) := by decide +kernel
theorem dX12_raiseNow_52 : decode cX12_raiseNow 52 = .ok (.iload_n 2, 1) := by decide +kernel
theorem dX12_raiseNow_53 : decode cX12_raiseNow 53 = .ok (.iastore, 1) := by decide +kernel
theorem dX12_raiseNow_54 : decode cX12_raiseNow 54 = .ok (.iload_n 3, 1) := by decide +kernel
theorem dX12_raiseNow_55 : decode cX12_raiseNow 55 = .ok (.ireturn, 1) := by decide +kernel
set_option maxRecDepth 100000 in
theorem okm_X12_raiseNow : okL RX12 cX12_raiseNow 4 (some .int) "raiseNow" pcX12_raiseNow opX12_raiseNow pcX12_raiseNow := by
  unfold opX12_raiseNow
  refine okL_cons (ok_iload_n rfl dX12_raiseNow_0) rfl ?_
  refine okL_cons (ok_invS (M' := 178) kw_734 kw_735 kw_711 kw_736 rfl (by decide +kernel) dX12_raiseNow_1) rfl ?_
  refine okL_cons (ok_if_eq rfl dX12_raiseNow_4) rfl ?_
  refine okL_cons (ok_iload_n rfl dX12_raiseNow_7) rfl ?_
  refine okL_cons (ok_i2l dX12_raiseNow_8) rfl ?_
  refine okL_cons (ok_lconst rfl dX12_raiseNow_9) rfl ?_
  refine okL_cons (ok_ldc2 kw_766 dX12_raiseNow_10) rfl ?_
  refine okL_cons (ok_invS (M' := 165) kw_722 kw_723 kw_711 kw_724 rfl (by decide +kernel) dX12_raiseNow_13) rfl ?_
  refine okL_cons (ok_if_ne rfl dX12_raiseNow_16) rfl ?_
  refine okL_cons (ok_iconst rfl dX12_raiseNow_19) rfl ?_
  refine okL_cons (ok_ireturn rfl dX12_raiseNow_20) rfl ?_
  refine okL_cons (ok_aload_n rfl dX12_raiseNow_21) rfl ?_
  refine okL_cons (ok_getP kw_654 cf_X12 rfl rfl (by decide) dX12_raiseNow_22) rfl ?_
  refine okL_cons (ok_bipush rfl dX12_raiseNow_25) rfl ?_
  refine okL_cons (ok_iload_n rfl dX12_raiseNow_27) rfl ?_
  refine okL_cons (ok_iadd dX12_raiseNow_28) rfl ?_
  refine okL_cons (ok_iaload dX12_raiseNow_29) rfl ?_
  refine okL_cons (ok_istore_n rfl dX12_raiseNow_30) rfl ?_
  refine okL_cons (ok_iload_n rfl dX12_raiseNow_31) rfl ?_
  refine okL_cons (ok_iload_n rfl dX12_raiseNow_32) rfl ?_
  refine okL_cons (ok_icmp_ne rfl dX12_raiseNow_33) rfl ?_
  refine okL_cons (ok_bipush rfl dX12_raiseNow_36) rfl ?_
  refine okL_cons (ok_ireturn rfl dX12_raiseNow_38) rfl ?_
  refine okL_cons (ok_aload_n rfl dX12_raiseNow_39) rfl ?_
  refine okL_cons (ok_iconst rfl dX12_raiseNow_40) rfl ?_
  refine okL_cons (ok_invV (M' := 174) kw_936 kw_937 kw_938 kw_711 kw_939 cf_X12 rfl (by decide +kernel) dX12_raiseNow_41) rfl ?_
  refine okL_cons (ok_aload_n rfl dX12_raiseNow_44) rfl ?_
  refine okL_cons (ok_getP kw_654 cf_X12 rfl rfl (by decide) dX12_raiseNow_45) rfl ?_
  refine okL_cons (ok_bipush rfl dX12_raiseNow_48) rfl ?_
  refine okL_cons (ok_iload_n rfl dX12_raiseNow_50) rfl ?_
  refine okL_cons (ok_iadd dX12_raiseNow_51) rfl ?_
  refine okL_cons (ok_iload_n rfl dX12_raiseNow_52) rfl ?_
  refine okL_cons (ok_iastore dX12_raiseNow_53) rfl ?_
  refine okL_cons (ok_iload_n rfl dX12_raiseNow_54) rfl ?_
  exact okL_one (ok_ireturn rfl dX12_raiseNow_55)
theorem dX12_raise_0 : decode cX12_raise 0 = .ok (.aload_n 0, 1) := by decide +kernel
theorem dX12_raise_1 : decode cX12_raise 1 = .ok (.iconst 0, 1) := by decide +kernel
theorem dX12_raise_2 : decode cX12_raise 2 = .ok (.putfield 152, 3) := by decide +kernel
theorem dX12_raise_5 : decode cX12_raise 5 = .ok (.aload_n 0, 1) := by decide +kernel
theorem dX12_raise_6 : decode cX12_raise 6 = .ok (.aload_n 0, 1) := by decide +kernel
theorem dX12_raise_7 : decode cX12_raise 7 = .ok (.iload_n 1, 1) := by decide +kernel
theorem dX12_raise_8 : decode cX12_raise 8 = .ok (.iload_n 2, 1) := by decide +kernel
theorem dX12_raise_9 : decode cX12_raise 9 = .ok (.invokevirtual 425, 3) := by decide +kernel
theorem dX12_raise_12 : decode cX12_raise 12 = .ok (.invokevirtual 161, 3) := by decide +kernel
theorem dX12_raise_15 : decode cX12_raise 15 = .ok (.ireturn, 1) := by decide +kernel
set_option maxRecDepth 100000 in
theorem okm_X12_raise : okL RX12 cX12_raise 3 (some .int) "raise" pcX12_raise opX12_raise pcX12_raise := by
  unfold opX12_raise
  refine okL_cons (ok_aload_n rfl dX12_raise_0) rfl ?_
  refine okL_cons (ok_iconst rfl dX12_raise_1) rfl ?_
  refine okL_cons (ok_putI kw_717 cf_X12 rfl rfl (by decide) rfl dX12_raise_2) rfl ?_
  refine okL_cons (ok_aload_n rfl dX12_raise_5) rfl ?_
  refine okL_cons (ok_aload_n rfl dX12_raise_6) rfl ?_
  refine okL_cons (ok_iload_n rfl dX12_raise_7) rfl ?_
  refine okL_cons (ok_iload_n rfl dX12_raise_8) rfl ?_
  refine okL_cons (ok_invV (M' := 233) kw_944 kw_945 kw_946 kw_711 kw_947 cf_X12 rfl (by decide +kernel) dX12_raise_9) rfl ?_
  refine okL_cons (ok_invV (M' := 169) kw_708 kw_709 kw_710 kw_711 kw_712 cf_X12 rfl (by decide +kernel) dX12_raise_12) rfl ?_
  exact okL_one (ok_ireturn rfl dX12_raise_15)
theorem dX12_splitTo_0 : decode cX12_splitTo 0 = .ok (.aload_n 0, 1) := by decide +kernel
theorem dX12_splitTo_1 : decode cX12_splitTo 1 = .ok (.getfield 13, 3) := by decide +kernel
theorem dX12_splitTo_4 : decode cX12_splitTo 4 = .ok (.bipush 32, 2) := by decide +kernel
theorem dX12_splitTo_6 : decode cX12_splitTo 6 = .ok (.iload_n 1, 1) := by decide +kernel
theorem dX12_splitTo_7 : decode cX12_splitTo 7 = .ok (.iadd, 1) := by decide +kernel
theorem dX12_splitTo_8 : decode cX12_splitTo 8 = .ok (.iaload, 1) := by decide +kernel
theorem dX12_splitTo_9 : decode cX12_splitTo 9 = .ok (.iconst 1, 1) := by decide +kernel
theorem dX12_splitTo_10 : decode cX12_splitTo 10 = .ok (.if_icmp .eq 7, 3) := by decide +kernel
theorem dX12_splitTo_13 : decode cX12_splitTo 13 = .ok (.iconst (-1), 1) := by decide +kernel
theorem dX12_splitTo_14 : decode cX12_splitTo 14 = .ok (.goto 16, 3) := by decide +kernel
theorem dX12_splitTo_17 : decode cX12_splitTo 17 = .ok (.aload_n 0, 1) := by decide +kernel
theorem dX12_splitTo_18 : decode cX12_splitTo 18 = .ok (.getfield 13, 3) := by decide +kernel
theorem dX12_splitTo_21 : decode cX12_splitTo 21 = .ok (.bipush 40, 2) := by decide +kernel
theorem dX12_splitTo_23 : decode cX12_splitTo 23 = .ok (.iload_n 1, 1) := by decide +kernel
theorem dX12_splitTo_24 : decode cX12_splitTo 24 = .ok (.iadd, 1) := by decide +kernel
theorem dX12_splitTo_25 : decode cX12_splitTo 25 = .ok (.iaload, 1) := by decide +kernel
theorem dX12_splitTo_26 : decode cX12_splitTo 26 = .ok (.iload_n 2, 1) := by decide +kernel
theorem dX12_splitTo_27 : decode cX12_splitTo 27 = .ok (.invokestatic 416, 3) := by decide +kernel
theorem dX12_splitTo_30 : decode cX12_splitTo 30 = .ok (.ireturn, 1) := by decide +kernel
set_option maxRecDepth 100000 in
theorem okm_X12_splitTo : okL RX12 cX12_splitTo 3 (some .int) "splitTo" pcX12_splitTo opX12_splitTo pcX12_splitTo := by
  unfold opX12_splitTo
  refine okL_cons (ok_aload_n rfl dX12_splitTo_0) rfl ?_
  refine okL_cons (ok_getP kw_654 cf_X12 rfl rfl (by decide) dX12_splitTo_1) rfl ?_
  refine okL_cons (ok_bipush rfl dX12_splitTo_4) rfl ?_
  refine okL_cons (ok_iload_n rfl dX12_splitTo_6) rfl ?_
  refine okL_cons (ok_iadd dX12_splitTo_7) rfl ?_
  refine okL_cons (ok_iaload dX12_splitTo_8) rfl ?_
  refine okL_cons (ok_iconst rfl dX12_splitTo_9) rfl ?_
  refine okL_cons (ok_icmp_eq rfl dX12_splitTo_10) rfl ?_
  refine okL_cons (ok_iconst rfl dX12_splitTo_13) rfl ?_
  refine okL_cons (ok_goto rfl dX12_splitTo_14) rfl ?_
  refine okL_cons (ok_aload_n rfl dX12_splitTo_17) rfl ?_
  refine okL_cons (ok_getP kw_654 cf_X12 rfl rfl (by decide) dX12_splitTo_18) rfl ?_
  refine okL_cons (ok_bipush rfl dX12_splitTo_21) rfl ?_
  refine okL_cons (ok_iload_n rfl dX12_splitTo_23) rfl ?_
  refine okL_cons (ok_iadd dX12_splitTo_24) rfl ?_
  refine okL_cons (ok_iaload dX12_splitTo_25) rfl ?_
  refine okL_cons (ok_iload_n rfl dX12_splitTo_26) rfl ?_
  refine okL_cons (ok_invS (M' := 183) kw_933 kw_934 kw_711 kw_935 rfl (by decide +kernel) dX12_splitTo_27) rfl ?_
  exact okL_one (ok_ireturn rfl dX12_splitTo_30)
theorem dX12_splitNow_0 : decode cX12_splitNow 0 = .ok (.iload_n 1, 1) := by decide +kernel
theorem dX12_splitNow_1 : decode cX12_splitNow 1 = .ok (.invokestatic 210, 3) := by decide +kernel
theorem dX12_splitNow_4 : decode cX12_splitNow 4 = .ok (.ifCond .eq 15, 3) := by decide +kernel
theorem dX12_splitNow_7 : decode cX12_splitNow 7 = .ok (.iload_n 2, 1) := by decide +kernel
theorem dX12_splitNow_8 : decode cX12_splitNow 8 = .ok (.i2l, 1) := by decide +kernel
theorem dX12_splitNow_9 : decode cX12_splitNow 9 = .ok (.lconst 0, 1) := by decide +kernel
theorem dX12_splitNow_10 : decode cX12_splitNow 10 = .ok (.ldc2_w 428, 3) := by decide +kernel
theorem dX12_splitNow_13 : decode cX12_splitNow 13 = .ok (.invokestatic 172, 3) := by decide +kernel
theorem dX12_splitNow_16 : decode cX12_splitNow 16 = .ok (.ifCond .ne 5, 3) := by decide +kernel
theorem dX12_splitNow_19 : decode cX12_splitNow 19 = .ok (.iconst (-1), 1) := by decide +kernel
theorem dX12_splitNow_20 : decode cX12_splitNow 20 = .ok (.ireturn, 1) := by decide +kernel
theorem dX12_splitNow_21 : decode cX12_splitNow 21 = .ok (.aload_n 0, 1) := by decide +kernel
theorem dX12_splitNow_22 : decode cX12_splitNow 22 = .ok (.iload_n 1, 1) := by decide +kernel
theorem dX12_splitNow_23 : decode cX12_splitNow 23 = .ok (.iload_n 2, 1) := by decide +kernel
theorem dX12_splitNow_24 : decode cX12_splitNow 24 = .ok (.invokevirtual 430, 3) := by decide +kernel
theorem dX12_splitNow_27 : decode cX12_splitNow 27 = .ok (.istore_n 3, 1) := by decide +kernel
theorem dX12_splitNow_28 : decode cX12_splitNow 28 = .ok (.iload_n 3, 1) := by decide +kernel
theorem dX12_splitNow_29 : decode cX12_splitNow 29 = .ok (.iconst (-1), 1) := by decide +kernel
theorem dX12_splitNow_30 : decode cX12_splitNow 30 = .ok (.if_icmp .ne 6, 3) := by decide +kernel
theorem dX12_splitNow_33 : decode cX12_splitNow 33 = .ok (.bipush (-3), 2) := by decide +kernel
theorem dX12_splitNow_35 : decode cX12_splitNow 35 = .ok (.ireturn, 1) := by decide +kernel
theorem dX12_splitNow_36 : decode cX12_splitNow 36 = .ok (.aload_n 0, 1) := by decide +kernel
theorem dX12_splitNow_37 : decode cX12_splitNow 37 = .ok (.iconst 2, 1) := by decide +kernel
theorem dX12_splitNow_38 : decode cX12_splitNow 38 = .ok (.invokevirtual 419, 3) := by decide +kernel
theorem dX12_splitNow_41 : decode cX12_splitNow 41 = .ok (.aload_n 0, 1) := by decide +kernel
theorem dX12_splitNow_42 : decode cX12_splitNow 42 = .ok (.getfield 13, 3) := by decide +kernel
theorem dX12_splitNow_45 : decode cX12_splitNow 45 = .ok (.bipush 40, 2) := by decide +kernel
theorem dX12_splitNow_47 : decode cX12_splitNow 47 = .ok (.iload_n 1, 1) := by decide +kernel
theorem dX12_splitNow_48 : decode cX12_splitNow 48 = .ok (.iadd, 1) := by decide +kernel
theorem dX12_splitNow_49 : decode cX12_splitNow 49 = .ok (.iload_n 3, 1) := by decide +kernel
theorem dX12_splitNow_50 : decode cX12_splitNow 50 = .ok (.iastore, 1) := by decide +kernel
theorem dX12_splitNow_51 : decode cX12_splitNow 51 = .ok (.iload_n 3, 1) := by decide +kernel
theorem dX12_splitNow_52 : decode cX12_splitNow 52 = .ok (.ireturn, 1) := by decide +kernel
set_option maxRecDepth 100000 in
theorem okm_X12_splitNow : okL RX12 cX12_splitNow 4 (some .int) "splitNow" pcX12_splitNow opX12_splitNow pcX12_splitNow := by
  unfold opX12_splitNow
  refine okL_cons (ok_iload_n rfl dX12_splitNow_0) rfl ?_
  refine okL_cons (ok_invS (M' := 179) kw_761 kw_762 kw_711 kw_763 rfl (by decide +kernel) dX12_splitNow_1) rfl ?_
  refine okL_cons (ok_if_eq rfl dX12_splitNow_4) rfl ?_
  refine okL_cons (ok_iload_n rfl dX12_splitNow_7) rfl ?_
  refine okL_cons (ok_i2l dX12_splitNow_8) rfl ?_
  refine okL_cons (ok_lconst rfl dX12_splitNow_9) rfl ?_
  refine okL_cons (ok_ldc2 kw_948 dX12_splitNow_10) rfl ?_
  refine okL_cons (ok_invS (M' := 165) kw_722 kw_723 kw_711 kw_724 rfl (by decide +kernel) dX12_splitNow_13) rfl ?_
  refine okL_cons (ok_if_ne rfl dX12_splitNow_16) rfl ?_
  refine okL_cons (ok_iconst rfl dX12_splitNow_19) rfl ?_
  refine okL_cons (ok_ireturn rfl dX12_splitNow_20) rfl ?_
  refine okL_cons (ok_aload_n rfl dX12_splitNow_21) rfl ?_
  refine okL_cons (ok_iload_n rfl dX12_splitNow_22) rfl ?_
  refine okL_cons (ok_iload_n rfl dX12_splitNow_23) rfl ?_
  refine okL_cons (ok_invV (M' := 235) kw_949 kw_950 kw_951 kw_711 kw_952 cf_X12 rfl (by decide +kernel) dX12_splitNow_24) rfl ?_
  refine okL_cons (ok_istore_n rfl dX12_splitNow_27) rfl ?_
  refine okL_cons (ok_iload_n rfl dX12_splitNow_28) rfl ?_
  refine okL_cons (ok_iconst rfl dX12_splitNow_29) rfl ?_
  refine okL_cons (ok_icmp_ne rfl dX12_splitNow_30) rfl ?_
  refine okL_cons (ok_bipush rfl dX12_splitNow_33) rfl ?_
  refine okL_cons (ok_ireturn rfl dX12_splitNow_35) rfl ?_
  refine okL_cons (ok_aload_n rfl dX12_splitNow_36) rfl ?_
  refine okL_cons (ok_iconst rfl dX12_splitNow_37) rfl ?_
  refine okL_cons (ok_invV (M' := 174) kw_936 kw_937 kw_938 kw_711 kw_939 cf_X12 rfl (by decide +kernel) dX12_splitNow_38) rfl ?_
  refine okL_cons (ok_aload_n rfl dX12_splitNow_41) rfl ?_
  refine okL_cons (ok_getP kw_654 cf_X12 rfl rfl (by decide) dX12_splitNow_42) rfl ?_
  refine okL_cons (ok_bipush rfl dX12_splitNow_45) rfl ?_
  refine okL_cons (ok_iload_n rfl dX12_splitNow_47) rfl ?_
  refine okL_cons (ok_iadd dX12_splitNow_48) rfl ?_
  refine okL_cons (ok_iload_n rfl dX12_splitNow_49) rfl ?_
  refine okL_cons (ok_iastore dX12_splitNow_50) rfl ?_
  refine okL_cons (ok_iload_n rfl dX12_splitNow_51) rfl ?_
  exact okL_one (ok_ireturn rfl dX12_splitNow_52)
theorem dX12_split_0 : decode cX12_split 0 = .ok (.aload_n 0, 1) := by decide +kernel
theorem dX12_split_1 : decode cX12_split 1 = .ok (.iconst 0, 1) := by decide +kernel
theorem dX12_split_2 : decode cX12_split 2 = .ok (.putfield 152, 3) := by decide +kernel
theorem dX12_split_5 : decode cX12_split 5 = .ok (.aload_n 0, 1) := by decide +kernel
theorem dX12_split_6 : decode cX12_split 6 = .ok (.aload_n 0, 1) := by decide +kernel
theorem dX12_split_7 : decode cX12_split 7 = .ok (.iload_n 1, 1) := by decide +kernel
theorem dX12_split_8 : decode cX12_split 8 = .ok (.iload_n 2, 1) := by decide +kernel
theorem dX12_split_9 : decode cX12_split 9 = .ok (.invokevirtual 433, 3) := by decide +kernel
theorem dX12_split_12 : decode cX12_split 12 = .ok (.invokevirtual 161, 3) := by decide +kernel
theorem dX12_split_15 : decode cX12_split 15 = .ok (.ireturn, 1) := by decide +kernel
set_option maxRecDepth 100000 in
theorem okm_X12_split : okL RX12 cX12_split 3 (some .int) "split" pcX12_split opX12_split pcX12_split := by
  unfold opX12_split
  refine okL_cons (ok_aload_n rfl dX12_split_0) rfl ?_
  refine okL_cons (ok_iconst rfl dX12_split_1) rfl ?_
  refine okL_cons (ok_putI kw_717 cf_X12 rfl rfl (by decide) rfl dX12_split_2) rfl ?_
  refine okL_cons (ok_aload_n rfl dX12_split_5) rfl ?_
  refine okL_cons (ok_aload_n rfl dX12_split_6) rfl ?_
  refine okL_cons (ok_iload_n rfl dX12_split_7) rfl ?_
  refine okL_cons (ok_iload_n rfl dX12_split_8) rfl ?_
  refine okL_cons (ok_invV (M' := 236) kw_953 kw_954 kw_955 kw_711 kw_956 cf_X12 rfl (by decide +kernel) dX12_split_9) rfl ?_
  refine okL_cons (ok_invV (M' := 169) kw_708 kw_709 kw_710 kw_711 kw_712 cf_X12 rfl (by decide +kernel) dX12_split_12) rfl ?_
  exact okL_one (ok_ireturn rfl dX12_split_15)
theorem dX12_passIt_0 : decode cX12_passIt 0 = .ok (.aload_n 0, 1) := by decide +kernel
theorem dX12_passIt_1 : decode cX12_passIt 1 = .ok (.invokevirtual 203, 3) := by decide +kernel
theorem dX12_passIt_4 : decode cX12_passIt 4 = .ok (.iconst 0, 1) := by decide +kernel
theorem dX12_passIt_5 : decode cX12_passIt 5 = .ok (.istore_n 1, 1) := by decide +kernel
theorem dX12_passIt_6 : decode cX12_passIt 6 = .ok (.iconst 0, 1) := by decide +kernel
theorem dX12_passIt_7 : decode cX12_passIt 7 = .ok (.istore_n 2, 1) := by decide +kernel
theorem dX12_passIt_8 : decode cX12_passIt 8 = .ok (.iload_n 2, 1) := by decide +kernel
theorem dX12_passIt_9 : decode cX12_passIt 9 = .ok (.bipush 8, 2) := by decide +kernel
theorem dX12_passIt_11 : decode cX12_passIt 11 = .ok (.if_icmp .ge 83, 3) := by decide +kernel
theorem dX12_passIt_14 : decode cX12_passIt 14 = .ok (.aload_n 0, 1) := by decide +kernel
theorem dX12_passIt_15 : decode cX12_passIt 15 = .ok (.getfield 13, 3) := by decide +kernel
theorem dX12_passIt_18 : decode cX12_passIt 18 = .ok (.bipush 32, 2) := by decide +kernel
theorem dX12_passIt_20 : decode cX12_passIt 20 = .ok (.iload_n 2, 1) := by decide +kernel
theorem dX12_passIt_21 : decode cX12_passIt 21 = .ok (.iadd, 1) := by decide +kernel
theorem dX12_passIt_22 : decode cX12_passIt 22 = .ok (.iaload, 1) := by decide +kernel
theorem dX12_passIt_23 : decode cX12_passIt 23 = .ok (.iconst 1, 1) := by decide +kernel
theorem dX12_passIt_24 : decode cX12_passIt 24 = .ok (.if_icmp .ne 64, 3) := by decide +kernel
theorem dX12_passIt_27 : decode cX12_passIt 27 = .ok (.aload_n 0, 1) := by decide +kernel
theorem dX12_passIt_28 : decode cX12_passIt 28 = .ok (.getfield 13, 3) := by decide +kernel
theorem dX12_passIt_31 : decode cX12_passIt 31 = .ok (.bipush 40, 2) := by decide +kernel
theorem dX12_passIt_33 : decode cX12_passIt 33 = .ok (.iload_n 2, 1) := by decide +kernel
theorem dX12_passIt_34 : decode cX12_passIt 34 = .ok (.iadd, 1) := by decide +kernel
theorem dX12_passIt_35 : decode cX12_passIt 35 = .ok (.iaload, 1) := by decide +kernel
theorem dX12_passIt_36 : decode cX12_passIt 36 = .ok (.istore_n 3, 1) := by decide +kernel
theorem dX12_passIt_37 : decode cX12_passIt 37 = .ok (.aload_n 0, 1) := by decide +kernel
theorem dX12_passIt_38 : decode cX12_passIt 38 = .ok (.iload_n 3, 1) := by decide +kernel
theorem dX12_passIt_39 : decode cX12_passIt 39 = .ok (.invokevirtual 191, 3) := by decide +kernel
theorem dX12_passIt_42 : decode cX12_passIt 42 = .ok (.ifCond .eq 31, 3) := by decide +kernel
theorem dX12_passIt_45 : decode cX12_passIt 45 = .ok (.aload_n 0, 1) := by decide +kernel
theorem dX12_passIt_46 : decode cX12_passIt 46 = .ok (.getfield 13, 3) := by decide +kernel
theorem dX12_passIt_49 : decode cX12_passIt 49 = .ok (.bipush 32, 2) := by decide +kernel
theorem dX12_passIt_51 : decode cX12_passIt 51 = .ok (.iload_n 2, 1) := by decide +kernel
theorem dX12_passIt_52 : decode cX12_passIt 52 = .ok (.iadd, 1) := by decide +kernel
theorem dX12_passIt_53 : decode cX12_passIt 53 = .ok (.iconst 2, 1) := by decide +kernel
theorem dX12_passIt_54 : decode cX12_passIt 54 = .ok (.iastore, 1) := by decide +kernel
theorem dX12_passIt_55 : decode cX12_passIt 55 = .ok (.aload_n 0, 1) := by decide +kernel
theorem dX12_passIt_56 : decode cX12_passIt 56 = .ok (.getfield 13, 3) := by decide +kernel
theorem dX12_passIt_59 : decode cX12_passIt 59 = .ok (.bipush 48, 2) := by decide +kernel
theorem dX12_passIt_61 : decode cX12_passIt 61 = .ok (.iload_n 2, 1) := by decide +kernel
theorem dX12_passIt_62 : decode cX12_passIt 62 = .ok (.iadd, 1) := by decide +kernel
theorem dX12_passIt_63 : decode cX12_passIt 63 = .ok (.aload_n 0, 1) := by decide +kernel
theorem dX12_passIt_64 : decode cX12_passIt 64 = .ok (.getfield 13, 3) := by decide +kernel
theorem dX12_passIt_67 : decode cX12_passIt 67 = .ok (.iconst 4, 1) := by decide +kernel
theorem dX12_passIt_68 : decode cX12_passIt 68 = .ok (.iaload, 1) := by decide +kernel
theorem dX12_passIt_69 : decode cX12_passIt 69 = .ok (.iastore, 1) := by decide +kernel
theorem dX12_passIt_70 : decode cX12_passIt 70 = .ok (.iinc 1 1, 3) := by decide +kernel
theorem dX12_passIt_73 : decode cX12_passIt 73 = .ok (.aload_n 0, 1) := by decide +kernel
theorem dX12_passIt_74 : decode cX12_passIt 74 = .ok (.getfield 13, 3) := by decide +kernel
theorem dX12_passIt_77 : decode cX12_passIt 77 = .ok (.bipush 40, 2) := by decide +kernel
theorem dX12_passIt_79 : decode cX12_passIt 79 = .ok (.iload_n 2, 1) := by decide +kernel
theorem dX12_passIt_80 : decode cX12_passIt 80 = .ok (.iadd, 1) := by decide +kernel
theorem dX12_passIt_81 : decode cX12_passIt 81 = .ok (.aload_n 0, 1) := by decide +kernel
theorem dX12_passIt_82 : decode cX12_passIt 82 = .ok (.getfield 107, 3) := by decide +kernel
theorem dX12_passIt_85 : decode cX12_passIt 85 = .ok (.iload_n 3, 1) := by decide +kernel
theorem dX12_passIt_86 : decode cX12_passIt 86 = .ok (.iaload, 1) := by decide +kernel
theorem dX12_passIt_87 : decode cX12_passIt 87 = .ok (.iastore, 1) := by decide +kernel
theorem dX12_passIt_88 : decode cX12_passIt 88 = .ok (.iinc 2 1, 3) := by decide +kernel
theorem dX12_passIt_91 : decode cX12_passIt 91 = .ok (.goto (-83), 3) := by decide +kernel
theorem dX12_passIt_94 : decode cX12_passIt 94 = .ok (.aload_n 0, 1) := by decide +kernel
theorem dX12_passIt_95 : decode cX12_passIt 95 = .ok (.getfield 13, 3) := by decide +kernel
theorem dX12_passIt_98 : decode cX12_passIt 98 = .ok (.iconst 4, 1) := by decide +kernel
theorem dX12_passIt_99 : decode cX12_passIt 99 = .ok (.dup2, 1) := by decide +kernel
theorem dX12_passIt_100 : decode cX12_passIt 100 = .ok (.iaload, 1) := by decide +kernel
theorem dX12_passIt_101 : decode cX12_passIt 101 = .ok (.iconst 1, 1) := by decide +kernel
theorem dX12_passIt_102 : decode cX12_passIt 102 = .ok (.iadd, 1) := by decide +kernel
theorem dX12_passIt_103 : decode cX12_passIt 103 = .ok (.iastore, 1) := by decide +kernel
theorem dX12_passIt_104 : decode cX12_passIt 104 = .ok (.iload_n 1, 1) := by decide +kernel
theorem dX12_passIt_105 : decode cX12_passIt 105 = .ok (.ireturn, 1) := by decide +kernel
set_option maxRecDepth 100000 in
theorem okm_X12_passIt : okL RX12 cX12_passIt 4 (some .int) "passIt" pcX12_passIt opX12_passIt pcX12_passIt := by
  unfold opX12_passIt
  refine okL_cons (ok_aload_n rfl dX12_passIt_0) rfl ?_
  refine okL_cons (ok_invV (M' := 230) kw_753 kw_754 kw_755 kw_711 kw_756 cf_X12 rfl (by decide +kernel) dX12_passIt_1) rfl ?_
  refine okL_cons (ok_iconst rfl dX12_passIt_4) rfl ?_
  refine okL_cons (ok_istore_n rfl dX12_passIt_5) rfl ?_
  refine okL_cons (ok_iconst rfl dX12_passIt_6) rfl ?_
  refine okL_cons (ok_istore_n rfl dX12_passIt_7) rfl ?_
  refine okL_cons (ok_iload_n rfl dX12_passIt_8) rfl ?_
  refine okL_cons (ok_bipush rfl dX12_passIt_9) rfl ?_
  refine okL_cons (ok_icmp_ge rfl dX12_passIt_11) rfl ?_
  refine okL_cons (ok_aload_n rfl dX12_passIt_14) rfl ?_
  refine okL_cons (ok_getP kw_654 cf_X12 rfl rfl (by decide) dX12_passIt_15) rfl ?_
  refine okL_cons (ok_bipush rfl dX12_passIt_18) rfl ?_
  refine okL_cons (ok_iload_n rfl dX12_passIt_20) rfl ?_
  refine okL_cons (ok_iadd dX12_passIt_21) rfl ?_
  refine okL_cons (ok_iaload dX12_passIt_22) rfl ?_
  refine okL_cons (ok_iconst rfl dX12_passIt_23) rfl ?_
  refine okL_cons (ok_icmp_ne rfl dX12_passIt_24) rfl ?_
  refine okL_cons (ok_aload_n rfl dX12_passIt_27) rfl ?_
  refine okL_cons (ok_getP kw_654 cf_X12 rfl rfl (by decide) dX12_passIt_28) rfl ?_
  refine okL_cons (ok_bipush rfl dX12_passIt_31) rfl ?_
  refine okL_cons (ok_iload_n rfl dX12_passIt_33) rfl ?_
  refine okL_cons (ok_iadd dX12_passIt_34) rfl ?_
  refine okL_cons (ok_iaload dX12_passIt_35) rfl ?_
  refine okL_cons (ok_istore_n rfl dX12_passIt_36) rfl ?_
  refine okL_cons (ok_aload_n rfl dX12_passIt_37) rfl ?_
  refine okL_cons (ok_iload_n rfl dX12_passIt_38) rfl ?_
  refine okL_cons (ok_invV (M' := 180) kw_737 kw_738 kw_739 kw_711 kw_740 cf_X12 rfl (by decide +kernel) dX12_passIt_39) rfl ?_
  refine okL_cons (ok_if_eq rfl dX12_passIt_42) rfl ?_
  refine okL_cons (ok_aload_n rfl dX12_passIt_45) rfl ?_
  refine okL_cons (ok_getP kw_654 cf_X12 rfl rfl (by decide) dX12_passIt_46) rfl ?_
  refine okL_cons (ok_bipush rfl dX12_passIt_49) rfl ?_
  refine okL_cons (ok_iload_n rfl dX12_passIt_51) rfl ?_
  refine okL_cons (ok_iadd dX12_passIt_52) rfl ?_
  refine okL_cons (ok_iconst rfl dX12_passIt_53) rfl ?_
  refine okL_cons (ok_iastore dX12_passIt_54) rfl ?_
  refine okL_cons (ok_aload_n rfl dX12_passIt_55) rfl ?_
  refine okL_cons (ok_getP kw_654 cf_X12 rfl rfl (by decide) dX12_passIt_56) rfl ?_
  refine okL_cons (ok_bipush rfl dX12_passIt_59) rfl ?_
  refine okL_cons (ok_iload_n rfl dX12_passIt_61) rfl ?_
  refine okL_cons (ok_iadd dX12_passIt_62) rfl ?_
  refine okL_cons (ok_aload_n rfl dX12_passIt_63) rfl ?_
  refine okL_cons (ok_getP kw_654 cf_X12 rfl rfl (by decide) dX12_passIt_64) rfl ?_
  refine okL_cons (ok_iconst rfl dX12_passIt_67) rfl ?_
  refine okL_cons (ok_iaload dX12_passIt_68) rfl ?_
  refine okL_cons (ok_iastore dX12_passIt_69) rfl ?_
  refine okL_cons (ok_iinc rfl dX12_passIt_70) rfl ?_
  refine okL_cons (ok_aload_n rfl dX12_passIt_73) rfl ?_
  refine okL_cons (ok_getP kw_654 cf_X12 rfl rfl (by decide) dX12_passIt_74) rfl ?_
  refine okL_cons (ok_bipush rfl dX12_passIt_77) rfl ?_
  refine okL_cons (ok_iload_n rfl dX12_passIt_79) rfl ?_
  refine okL_cons (ok_iadd dX12_passIt_80) rfl ?_
  refine okL_cons (ok_aload_n rfl dX12_passIt_81) rfl ?_
  refine okL_cons (ok_getP kw_689 cf_X12 rfl rfl (by decide) dX12_passIt_82) rfl ?_
  refine okL_cons (ok_iload_n rfl dX12_passIt_85) rfl ?_
  refine okL_cons (ok_iaload dX12_passIt_86) rfl ?_
  refine okL_cons (ok_iastore dX12_passIt_87) rfl ?_
  refine okL_cons (ok_iinc rfl dX12_passIt_88) rfl ?_
  refine okL_cons (ok_goto rfl dX12_passIt_91) rfl ?_
  refine okL_cons (ok_aload_n rfl dX12_passIt_94) rfl ?_
  refine okL_cons (ok_getP kw_654 cf_X12 rfl rfl (by decide) dX12_passIt_95) rfl ?_
  refine okL_cons (ok_iconst rfl dX12_passIt_98) rfl ?_
  refine okL_cons (ok_dup2 dX12_passIt_99) rfl ?_
  refine okL_cons (ok_iaload dX12_passIt_100) rfl ?_
  refine okL_cons (ok_iconst rfl dX12_passIt_101) rfl ?_
  refine okL_cons (ok_iadd dX12_passIt_102) rfl ?_
  refine okL_cons (ok_iastore dX12_passIt_103) rfl ?_
  refine okL_cons (ok_iload_n rfl dX12_passIt_104) rfl ?_
  exact okL_one (ok_ireturn rfl dX12_passIt_105)
theorem dX12_passNow_0 : decode cX12_passNow 0 = .ok (.aload_n 0, 1) := by decide +kernel
theorem dX12_passNow_1 : decode cX12_passNow 1 = .ok (.getfield 13, 3) := by decide +kernel
theorem dX12_passNow_4 : decode cX12_passNow 4 = .ok (.iconst 4, 1) := by decide +kernel
theorem dX12_passNow_5 : decode cX12_passNow 5 = .ok (.iaload, 1) := by decide +kernel
theorem dX12_passNow_6 : decode cX12_passNow 6 = .ok (.sipush 999, 3) := by decide +kernel
theorem dX12_passNow_9 : decode cX12_passNow 9 = .ok (.if_icmp .ne 6, 3) := by decide +kernel
theorem dX12_passNow_12 : decode cX12_passNow 12 = .ok (.bipush (-3), 2) := by decide +kernel
theorem dX12_passNow_14 : decode cX12_passNow 14 = .ok (.ireturn, 1) := by decide +kernel
theorem dX12_passNow_15 : decode cX12_passNow 15 = .ok (.aload_n 0, 1) := by decide +kernel
theorem dX12_passNow_16 : decode cX12_passNow 16 = .ok (.iconst 3, 1) := by decide +kernel
theorem dX12_passNow_17 : decode cX12_passNow 17 = .ok (.invokevirtual 419, 3) := by decide +kernel
theorem dX12_passNow_20 : decode cX12_passNow 20 = .ok (.aload_n 0, 1) := by decide +kernel
theorem dX12_passNow_21 : decode cX12_passNow 21 = .ok (.invokevirtual 436, 3) := by decide +kernel
theorem dX12_passNow_24 : decode cX12_passNow 24 = .ok (.ireturn, 1) := by decide +kernel
set_option maxRecDepth 100000 in
theorem okm_X12_passNow : okL RX12 cX12_passNow 1 (some .int) "passNow" pcX12_passNow opX12_passNow pcX12_passNow := by
  unfold opX12_passNow
  refine okL_cons (ok_aload_n rfl dX12_passNow_0) rfl ?_
  refine okL_cons (ok_getP kw_654 cf_X12 rfl rfl (by decide) dX12_passNow_1) rfl ?_
  refine okL_cons (ok_iconst rfl dX12_passNow_4) rfl ?_
  refine okL_cons (ok_iaload dX12_passNow_5) rfl ?_
  refine okL_cons (ok_sipush rfl dX12_passNow_6) rfl ?_
  refine okL_cons (ok_icmp_ne rfl dX12_passNow_9) rfl ?_
  refine okL_cons (ok_bipush rfl dX12_passNow_12) rfl ?_
  refine okL_cons (ok_ireturn rfl dX12_passNow_14) rfl ?_
  refine okL_cons (ok_aload_n rfl dX12_passNow_15) rfl ?_
  refine okL_cons (ok_iconst rfl dX12_passNow_16) rfl ?_
  refine okL_cons (ok_invV (M' := 174) kw_936 kw_937 kw_938 kw_711 kw_939 cf_X12 rfl (by decide +kernel) dX12_passNow_17) rfl ?_
  refine okL_cons (ok_aload_n rfl dX12_passNow_20) rfl ?_
  refine okL_cons (ok_invV (M' := 238) kw_957 kw_958 kw_959 kw_711 kw_960 cf_X12 rfl (by decide +kernel) dX12_passNow_21) rfl ?_
  exact okL_one (ok_ireturn rfl dX12_passNow_24)
theorem dX12_pass_0 : decode cX12_pass 0 = .ok (.aload_n 0, 1) := by decide +kernel
theorem dX12_pass_1 : decode cX12_pass 1 = .ok (.iconst 0, 1) := by decide +kernel
theorem dX12_pass_2 : decode cX12_pass 2 = .ok (.putfield 152, 3) := by decide +kernel
theorem dX12_pass_5 : decode cX12_pass 5 = .ok (.aload_n 0, 1) := by decide +kernel
theorem dX12_pass_6 : decode cX12_pass 6 = .ok (.aload_n 0, 1) := by decide +kernel
theorem dX12_pass_7 : decode cX12_pass 7 = .ok (.invokevirtual 439, 3) := by decide +kernel
theorem dX12_pass_10 : decode cX12_pass 10 = .ok (.invokevirtual 161, 3) := by decide +kernel
theorem dX12_pass_13 : decode cX12_pass 13 = .ok (.ireturn, 1) := by decide +kernel
set_option maxRecDepth 100000 in
theorem okm_X12_pass : okL RX12 cX12_pass 1 (some .int) "pass" pcX12_pass opX12_pass pcX12_pass := by
  unfold opX12_pass
  refine okL_cons (ok_aload_n rfl dX12_pass_0) rfl ?_
  refine okL_cons (ok_iconst rfl dX12_pass_1) rfl ?_
  refine okL_cons (ok_putI kw_717 cf_X12 rfl rfl (by decide) rfl dX12_pass_2) rfl ?_
  refine okL_cons (ok_aload_n rfl dX12_pass_5) rfl ?_
  refine okL_cons (ok_aload_n rfl dX12_pass_6) rfl ?_
  refine okL_cons (ok_invV (M' := 239) kw_961 kw_962 kw_963 kw_711 kw_964 cf_X12 rfl (by decide +kernel) dX12_pass_7) rfl ?_
  refine okL_cons (ok_invV (M' := 169) kw_708 kw_709 kw_710 kw_711 kw_712 cf_X12 rfl (by decide +kernel) dX12_pass_10) rfl ?_
  exact okL_one (ok_ireturn rfl dX12_pass_13)
