theorem dX12_readOrder_0 : decode cX12_readOrder 0 = .ok (.iconst (-1), 1) := by decide +kernel
theorem dX12_readOrder_1 : decode cX12_readOrder 1 = .ok (.istore_n 1, 1) := by decide +kernel
theorem dX12_readOrder_2 : decode cX12_readOrder 2 = .ok (.iconst 0, 1) := by decide +kernel
theorem dX12_readOrder_3 : decode cX12_readOrder 3 = .ok (.istore_n 2, 1) := by decide +kernel
theorem dX12_readOrder_4 : decode cX12_readOrder 4 = .ok (.iload_n 2, 1) := by decide +kernel
theorem dX12_readOrder_5 : decode cX12_readOrder 5 = .ok (.iconst 4, 1) := by decide +kernel
theorem dX12_readOrder_6 : decode cX12_readOrder 6 = .ok (.if_icmp .ge 28, 3) := by decide +kernel
theorem dX12_readOrder_9 : decode cX12_readOrder 9 = .ok (.aload_n 0, 1) := by decide +kernel
theorem dX12_readOrder_10 : decode cX12_readOrder 10 = .ok (.aload_n 0, 1) := by decide +kernel
theorem dX12_readOrder_11 : decode cX12_readOrder 11 = .ok (.getfield 133, 3) := by decide +kernel
theorem dX12_readOrder_14 : decode cX12_readOrder 14 = .ok (.iload_n 2, 1) := by decide +kernel
theorem dX12_readOrder_15 : decode cX12_readOrder 15 = .ok (.laload, 1) := by decide +kernel
theorem dX12_readOrder_16 : decode cX12_readOrder 16 = .ok (.invokevirtual 288, 3) := by decide +kernel
theorem dX12_readOrder_19 : decode cX12_readOrder 19 = .ok (.ifCond .eq 7, 3) := by decide +kernel
theorem dX12_readOrder_22 : decode cX12_readOrder 22 = .ok (.iload_n 2, 1) := by decide +kernel
theorem dX12_readOrder_23 : decode cX12_readOrder 23 = .ok (.goto 4, 3) := by decide +kernel
theorem dX12_readOrder_26 : decode cX12_readOrder 26 = .ok (.iload_n 1, 1) := by decide +kernel
theorem dX12_readOrder_27 : decode cX12_readOrder 27 = .ok (.istore_n 1, 1) := by decide +kernel
theorem dX12_readOrder_28 : decode cX12_readOrder 28 = .ok (.iinc 2 1, 3) := by decide +kernel
theorem dX12_readOrder_31 : decode cX12_readOrder 31 = .ok (.goto (-27), 3) := by decide +kernel
theorem dX12_readOrder_34 : decode cX12_readOrder 34 = .ok (.aload_n 0, 1) := by decide +kernel
theorem dX12_readOrder_35 : decode cX12_readOrder 35 = .ok (.iload_n 1, 1) := by decide +kernel
theorem dX12_readOrder_36 : decode cX12_readOrder 36 = .ok (.iconst (-1), 1) := by decide +kernel
theorem dX12_readOrder_37 : decode cX12_readOrder 37 = .ok (.if_icmp .eq 16, 3) := by decide +kernel
theorem dX12_readOrder_40 : decode cX12_readOrder 40 = .ok (.aload_n 0, 1) := by decide +kernel
theorem dX12_readOrder_41 : decode cX12_readOrder 41 = .ok (.getfield 359, 3) := by decide +kernel
theorem dX12_readOrder_44 : decode cX12_readOrder 44 = .ok (.bipush 12, 2) := by decide +kernel
theorem dX12_readOrder_46 : decode cX12_readOrder 46 = .ok (.if_icmp .ge 7, 3) := by decide +kernel
theorem dX12_readOrder_49 : decode cX12_readOrder 49 = .ok (.iconst 1, 1) := by decide +kernel
theorem dX12_readOrder_50 : decode cX12_readOrder 50 = .ok (.goto 4, 3) := by decide +kernel
theorem dX12_readOrder_53 : decode cX12_readOrder 53 = .ok (.iconst 0, 1) := by decide +kernel
theorem dX12_readOrder_54 : decode cX12_readOrder 54 = .ok (.invokevirtual 268, 3) := by decide +kernel
theorem dX12_readOrder_57 : decode cX12_readOrder 57 = .ok (.aload_n 0, 1) := by decide +kernel
theorem dX12_readOrder_58 : decode cX12_readOrder 58 = .ok (.getfield 235, 3) := by decide +kernel
theorem dX12_readOrder_61 : decode cX12_readOrder 61 = .ok (.ifCond .eq 4, 3) := by decide +kernel
theorem dX12_readOrder_64 : decode cX12_readOrder 64 = .ok (.return_, 1) := by decide +kernel
theorem dX12_readOrder_65 : decode cX12_readOrder 65 = .ok (.bipush 8, 2) := by decide +kernel
theorem dX12_readOrder_67 : decode cX12_readOrder 67 = .ok (.aload_n 0, 1) := by decide +kernel
theorem dX12_readOrder_68 : decode cX12_readOrder 68 = .ok (.getfield 359, 3) := by decide +kernel
theorem dX12_readOrder_71 : decode cX12_readOrder 71 = .ok (.imul, 1) := by decide +kernel
theorem dX12_readOrder_72 : decode cX12_readOrder 72 = .ok (.istore_n 2, 1) := by decide +kernel
theorem dX12_readOrder_73 : decode cX12_readOrder 73 = .ok (.aload_n 0, 1) := by decide +kernel
theorem dX12_readOrder_74 : decode cX12_readOrder 74 = .ok (.dup, 1) := by decide +kernel
theorem dX12_readOrder_75 : decode cX12_readOrder 75 = .ok (.getfield 359, 3) := by decide +kernel
theorem dX12_readOrder_78 : decode cX12_readOrder 78 = .ok (.iconst 1, 1) := by decide +kernel
theorem dX12_readOrder_79 : decode cX12_readOrder 79 = .ok (.iadd, 1) := by decide +kernel
theorem dX12_readOrder_80 : decode cX12_readOrder 80 = .ok (.putfield 359, 3) := by decide +kernel
theorem dX12_readOrder_83 : decode cX12_readOrder 83 = .ok (.iconst 0, 1) := by decide +kernel
theorem dX12_readOrder_84 : decode cX12_readOrder 84 = .ok (.istore_n 3, 1) := by decide +kernel
theorem dX12_readOrder_85 : decode cX12_readOrder 85 = .ok (.iload_n 3, 1) := by decide +kernel
theorem dX12_readOrder_86 : decode cX12_readOrder 86 = .ok (.bipush 8, 2) := by decide +kernel
theorem dX12_readOrder_88 : decode cX12_readOrder 88 = .ok (.if_icmp .ge 18, 3) := by decide +kernel
theorem dX12_readOrder_91 : decode cX12_readOrder 91 = .ok (.aload_n 0, 1) := by decide +kernel
theorem dX12_readOrder_92 : decode cX12_readOrder 92 = .ok (.getfield 143, 3) := by decide +kernel
theorem dX12_readOrder_95 : decode cX12_readOrder 95 = .ok (.iload_n 2, 1) := by decide +kernel
theorem dX12_readOrder_96 : decode cX12_readOrder 96 = .ok (.iload_n 3, 1) := by decide +kernel
theorem dX12_readOrder_97 : decode cX12_readOrder 97 = .ok (.iadd, 1) := by decide +kernel
theorem dX12_readOrder_98 : decode cX12_readOrder 98 = .ok (.iconst 0, 1) := by decide +kernel
theorem dX12_readOrder_99 : decode cX12_readOrder 99 = .ok (.iastore, 1) := by decide +kernel
theorem dX12_readOrder_100 : decode cX12_readOrder 100 = .ok (.iinc 3 1, 3) := by decide +kernel
theorem dX12_readOrder_103 : decode cX12_readOrder 103 = .ok (.goto (-18), 3) := by decide +kernel
theorem dX12_readOrder_106 : decode cX12_readOrder 106 = .ok (.aload_n 0, 1) := by decide +kernel
theorem dX12_readOrder_107 : decode cX12_readOrder 107 = .ok (.getfield 143, 3) := by decide +kernel
theorem dX12_readOrder_110 : decode cX12_readOrder 110 = .ok (.iload_n 2, 1) := by decide +kernel
theorem dX12_readOrder_111 : decode cX12_readOrder 111 = .ok (.iload_n 1, 1) := by decide +kernel
theorem dX12_readOrder_112 : decode cX12_readOrder 112 = .ok (.iastore, 1) := by decide +kernel
theorem dX12_readOrder_113 : decode cX12_readOrder 113 = .ok (.iload_n 1, 1) := by decide +kernel
theorem dX12_readOrder_114 : decode cX12_readOrder 114 = .ok (.iconst 3, 1) := by decide +kernel
theorem dX12_readOrder_115 : decode cX12_readOrder 115 = .ok (.if_icmp .eq 38, 3) := by decide +kernel
theorem dX12_readOrder_118 : decode cX12_readOrder 118 = .ok (.aload_n 0, 1) := by decide +kernel
theorem dX12_readOrder_119 : decode cX12_readOrder 119 = .ok (.iload_n 2, 1) := by decide +kernel
theorem dX12_readOrder_120 : decode cX12_readOrder 120 = .ok (.iconst 1, 1) := by decide +kernel
theorem dX12_readOrder_121 : decode cX12_readOrder 121 = .ok (.iadd, 1) := by decide +kernel
theorem dX12_readOrder_122 : decode cX12_readOrder 122 = .ok (.invokevirtual 501, 3) := by decide +kernel
theorem dX12_readOrder_125 : decode cX12_readOrder 125 = .ok (.aload_n 0, 1) := by decide +kernel
theorem dX12_readOrder_126 : decode cX12_readOrder 126 = .ok (.getfield 235, 3) := by decide +kernel
theorem dX12_readOrder_129 : decode cX12_readOrder 129 = .ok (.ifCond .ne 17, 3) := by decide +kernel
theorem dX12_readOrder_132 : decode cX12_readOrder 132 = .ok (.aload_n 0, 1) := by decide +kernel
theorem dX12_readOrder_133 : decode cX12_readOrder 133 = .ok (.aload_n 0, 1) := by decide +kernel
theorem dX12_readOrder_134 : decode cX12_readOrder 134 = .ok (.aload_n 0, 1) := by decide +kernel
theorem dX12_readOrder_135 : decode cX12_readOrder 135 = .ok (.getfield 140, 3) := by decide +kernel
theorem dX12_readOrder_138 : decode cX12_readOrder 138 = .ok (.iload_n 1, 1) := by decide +kernel
theorem dX12_readOrder_139 : decode cX12_readOrder 139 = .ok (.laload, 1) := by decide +kernel
theorem dX12_readOrder_140 : decode cX12_readOrder 140 = .ok (.invokevirtual 288, 3) := by decide +kernel
theorem dX12_readOrder_143 : decode cX12_readOrder 143 = .ok (.invokevirtual 268, 3) := by decide +kernel
theorem dX12_readOrder_146 : decode cX12_readOrder 146 = .ok (.aload_n 0, 1) := by decide +kernel
theorem dX12_readOrder_147 : decode cX12_readOrder 147 = .ok (.iload_n 2, 1) := by decide +kernel
theorem dX12_readOrder_148 : decode cX12_readOrder 148 = .ok (.iconst 3, 1) := by decide +kernel
theorem dX12_readOrder_149 : decode cX12_readOrder 149 = .ok (.iadd, 1) := by decide +kernel
theorem dX12_readOrder_150 : decode cX12_readOrder 150 = .ok (.invokevirtual 501, 3) := by decide +kernel
theorem dX12_readOrder_153 : decode cX12_readOrder 153 = .ok (.aload_n 0, 1) := by decide +kernel
theorem dX12_readOrder_154 : decode cX12_readOrder 154 = .ok (.getfield 143, 3) := by decide +kernel
theorem dX12_readOrder_157 : decode cX12_readOrder 157 = .ok (.iload_n 2, 1) := by decide +kernel
theorem dX12_readOrder_158 : decode cX12_readOrder 158 = .ok (.bipush 7, 2) := by decide +kernel
theorem dX12_readOrder_160 : decode cX12_readOrder 160 = .ok (.iadd, 1) := by decide +kernel
theorem dX12_readOrder_161 : decode cX12_readOrder 161 = .ok (.iconst 1, 1) := by decide +kernel
theorem dX12_readOrder_162 : decode cX12_readOrder 162 = .ok (.iastore, 1) := by decide +kernel
theorem dX12_readOrder_163 : decode cX12_readOrder 163 = .ok (.aload_n 0, 1) := by decide +kernel
theorem dX12_readOrder_164 : decode cX12_readOrder 164 = .ok (.getfield 235, 3) := by decide +kernel
theorem dX12_readOrder_167 : decode cX12_readOrder 167 = .ok (.ifCond .ne 34, 3) := by decide +kernel
theorem dX12_readOrder_170 : decode cX12_readOrder 170 = .ok (.aload_n 0, 1) := by decide +kernel
theorem dX12_readOrder_171 : decode cX12_readOrder 171 = .ok (.ldc2_w 504, 3) := by decide +kernel
theorem dX12_readOrder_174 : decode cX12_readOrder 174 = .ok (.invokevirtual 288, 3) := by decide +kernel
theorem dX12_readOrder_177 : decode cX12_readOrder 177 = .ok (.ifCond .eq 24, 3) := by decide +kernel
theorem dX12_readOrder_180 : decode cX12_readOrder 180 = .ok (.aload_n 0, 1) := by decide +kernel
theorem dX12_readOrder_181 : decode cX12_readOrder 181 = .ok (.invokevirtual 239, 3) := by decide +kernel
theorem dX12_readOrder_184 : decode cX12_readOrder 184 = .ok (.aload_n 0, 1) := by decide +kernel
theorem dX12_readOrder_185 : decode cX12_readOrder 185 = .ok (.getfield 143, 3) := by decide +kernel
theorem dX12_readOrder_188 : decode cX12_readOrder 188 = .ok (.iload_n 2, 1) := by decide +kernel
theorem dX12_readOrder_189 : decode cX12_readOrder 189 = .ok (.bipush 7, 2) := by decide +kernel
theorem dX12_readOrder_191 : decode cX12_readOrder 191 = .ok (.iadd, 1) := by decide +kernel
theorem dX12_readOrder_192 : decode cX12_readOrder 192 = .ok (.aload_n 0, 1) := by decide +kernel
theorem dX12_readOrder_193 : decode cX12_readOrder 193 = .ok (.lconst 1, 1) := by decide +kernel
theorem dX12_readOrder_194 : decode cX12_readOrder 194 = .ok (.ldc2_w 284, 3) := by decide +kernel
theorem dX12_readOrder_197 : decode cX12_readOrder 197 = .ok (.invokevirtual 323, 3) := by decide +kernel
theorem dX12_readOrder_200 : decode cX12_readOrder 200 = .ok (.iastore, 1) := by decide +kernel
theorem dX12_readOrder_201 : decode cX12_readOrder 201 = .ok (.aload_n 0, 1) := by decide +kernel
theorem dX12_readOrder_202 : decode cX12_readOrder 202 = .ok (.getfield 143, 3) := by decide +kernel
theorem dX12_readOrder_205 : decode cX12_readOrder 205 = .ok (.iload_n 2, 1) := by decide +kernel
theorem dX12_readOrder_206 : decode cX12_readOrder 206 = .ok (.iconst 5, 1) := by decide +kernel
theorem dX12_readOrder_207 : decode cX12_readOrder 207 = .ok (.iadd, 1) := by decide +kernel
theorem dX12_readOrder_208 : decode cX12_readOrder 208 = .ok (.aload_n 0, 1) := by decide +kernel
theorem dX12_readOrder_209 : decode cX12_readOrder 209 = .ok (.getfield 272, 3) := by decide +kernel
theorem dX12_readOrder_212 : decode cX12_readOrder 212 = .ok (.iastore, 1) := by decide +kernel
theorem dX12_readOrder_213 : decode cX12_readOrder 213 = .ok (.aload_n 0, 1) := by decide +kernel
theorem dX12_readOrder_214 : decode cX12_readOrder 214 = .ok (.getfield 235, 3) := by decide +kernel
theorem dX12_readOrder_217 : decode cX12_readOrder 217 = .ok (.ifCond .ne 22, 3) := by decide +kernel
theorem dX12_readOrder_220 : decode cX12_readOrder 220 = .ok (.aload_n 0, 1) := by decide +kernel
theorem dX12_readOrder_221 : decode cX12_readOrder 221 = .ok (.ldc2_w 365, 3) := by decide +kernel
theorem dX12_readOrder_224 : decode cX12_readOrder 224 = .ok (.invokevirtual 288, 3) := by decide +kernel
theorem dX12_readOrder_227 : decode cX12_readOrder 227 = .ok (.ifCond .eq 12, 3) := by decide +kernel
theorem dX12_readOrder_230 : decode cX12_readOrder 230 = .ok (.aload_n 0, 1) := by decide +kernel
theorem dX12_readOrder_231 : decode cX12_readOrder 231 = .ok (.invokevirtual 239, 3) := by decide +kernel
theorem dX12_readOrder_234 : decode cX12_readOrder 234 = .ok (.aload_n 0, 1) := by decide +kernel
theorem dX12_readOrder_235 : decode cX12_readOrder 235 = .ok (.iconst 1, 1) := by decide +kernel
theorem dX12_readOrder_236 : decode cX12_readOrder 236 = .ok (.invokevirtual 362, 3) := by decide +kernel
theorem dX12_readOrder_239 : decode cX12_readOrder 239 = .ok (.aload_n 0, 1) := by decide +kernel
theorem dX12_readOrder_240 : decode cX12_readOrder 240 = .ok (.getfield 143, 3) := by decide +kernel
theorem dX12_readOrder_243 : decode cX12_readOrder 243 = .ok (.iload_n 2, 1) := by decide +kernel
theorem dX12_readOrder_244 : decode cX12_readOrder 244 = .ok (.bipush 6, 2) := by decide +kernel
theorem dX12_readOrder_246 : decode cX12_readOrder 246 = .ok (.iadd, 1) := by decide +kernel
theorem dX12_readOrder_247 : decode cX12_readOrder 247 = .ok (.aload_n 0, 1) := by decide +kernel
theorem dX12_readOrder_248 : decode cX12_readOrder 248 = .ok (.getfield 272, 3) := by decide +kernel
theorem dX12_readOrder_251 : decode cX12_readOrder 251 = .ok (.iastore, 1) := by decide +kernel
theorem dX12_readOrder_252 : decode cX12_readOrder 252 = .ok (.return_, 1) := by decide +kernel
set_option maxRecDepth 100000 in
theorem okm_X12_readOrder : okL RX12 cX12_readOrder 4 none "readOrder" pcX12_readOrder opX12_readOrder pcX12_readOrder := by
  unfold opX12_readOrder
  refine okL_cons (ok_iconst rfl dX12_readOrder_0) rfl ?_
  refine okL_cons (ok_istore_n rfl dX12_readOrder_1) rfl ?_
  refine okL_cons (ok_iconst rfl dX12_readOrder_2) rfl ?_
  refine okL_cons (ok_istore_n rfl dX12_readOrder_3) rfl ?_
  refine okL_cons (ok_iload_n rfl dX12_readOrder_4) rfl ?_
  refine okL_cons (ok_iconst rfl dX12_readOrder_5) rfl ?_
  refine okL_cons (ok_icmp_ge rfl dX12_readOrder_6) rfl ?_
  refine okL_cons (ok_aload_n rfl dX12_readOrder_9) rfl ?_
  refine okL_cons (ok_aload_n rfl dX12_readOrder_10) rfl ?_
  refine okL_cons (ok_getP kw_699 cf_X12 rfl rfl (by decide) dX12_readOrder_11) rfl ?_
  refine okL_cons (ok_iload_n rfl dX12_readOrder_14) rfl ?_
  refine okL_cons (ok_laload dX12_readOrder_15) rfl ?_
  refine okL_cons (ok_invV (M' := 198) kw_812 kw_813 kw_814 kw_711 kw_815 cf_X12 rfl (by decide +kernel) dX12_readOrder_16) rfl ?_
  refine okL_cons (ok_if_eq rfl dX12_readOrder_19) rfl ?_
  refine okL_cons (ok_iload_n rfl dX12_readOrder_22) rfl ?_
  refine okL_cons (ok_goto rfl dX12_readOrder_23) rfl ?_
  refine okL_cons (ok_iload_n rfl dX12_readOrder_26) rfl ?_
  refine okL_cons (ok_istore_n rfl dX12_readOrder_27) rfl ?_
  refine okL_cons (ok_iinc rfl dX12_readOrder_28) rfl ?_
  refine okL_cons (ok_goto rfl dX12_readOrder_31) rfl ?_
  refine okL_cons (ok_aload_n rfl dX12_readOrder_34) rfl ?_
  refine okL_cons (ok_iload_n rfl dX12_readOrder_35) rfl ?_
  refine okL_cons (ok_iconst rfl dX12_readOrder_36) rfl ?_
  refine okL_cons (ok_icmp_eq rfl dX12_readOrder_37) rfl ?_
  refine okL_cons (ok_aload_n rfl dX12_readOrder_40) rfl ?_
  refine okL_cons (ok_getI kw_883 cf_X12 rfl rfl (by decide) dX12_readOrder_41) rfl ?_
  refine okL_cons (ok_bipush rfl dX12_readOrder_44) rfl ?_
  refine okL_cons (ok_icmp_ge rfl dX12_readOrder_46) rfl ?_
  refine okL_cons (ok_iconst rfl dX12_readOrder_49) rfl ?_
  refine okL_cons (ok_goto rfl dX12_readOrder_50) rfl ?_
  refine okL_cons (ok_iconst rfl dX12_readOrder_53) rfl ?_
  refine okL_cons (ok_invV (M' := 200) kw_797 kw_798 kw_799 kw_711 kw_800 cf_X12 rfl (by decide +kernel) dX12_readOrder_54) rfl ?_
  refine okL_cons (ok_aload_n rfl dX12_readOrder_57) rfl ?_
  refine okL_cons (ok_getI kw_778 cf_X12 rfl rfl (by decide) dX12_readOrder_58) rfl ?_
  refine okL_cons (ok_if_eq rfl dX12_readOrder_61) rfl ?_
  refine okL_cons (ok_return rfl dX12_readOrder_64) rfl ?_
  refine okL_cons (ok_bipush rfl dX12_readOrder_65) rfl ?_
  refine okL_cons (ok_aload_n rfl dX12_readOrder_67) rfl ?_
  refine okL_cons (ok_getI kw_883 cf_X12 rfl rfl (by decide) dX12_readOrder_68) rfl ?_
  refine okL_cons (ok_imul dX12_readOrder_71) rfl ?_
  refine okL_cons (ok_istore_n rfl dX12_readOrder_72) rfl ?_
  refine okL_cons (ok_aload_n rfl dX12_readOrder_73) rfl ?_
  refine okL_cons (ok_dup dX12_readOrder_74) rfl ?_
  refine okL_cons (ok_getI kw_883 cf_X12 rfl rfl (by decide) dX12_readOrder_75) rfl ?_
  refine okL_cons (ok_iconst rfl dX12_readOrder_78) rfl ?_
  refine okL_cons (ok_iadd dX12_readOrder_79) rfl ?_
  refine okL_cons (ok_putI kw_883 cf_X12 rfl rfl (by decide) rfl dX12_readOrder_80) rfl ?_
  refine okL_cons (ok_iconst rfl dX12_readOrder_83) rfl ?_
  refine okL_cons (ok_istore_n rfl dX12_readOrder_84) rfl ?_
  refine okL_cons (ok_iload_n rfl dX12_readOrder_85) rfl ?_
  refine okL_cons (ok_bipush rfl dX12_readOrder_86) rfl ?_
  refine okL_cons (ok_icmp_ge rfl dX12_readOrder_88) rfl ?_
  refine okL_cons (ok_aload_n rfl dX12_readOrder_91) rfl ?_
  refine okL_cons (ok_getP kw_703 cf_X12 rfl rfl (by decide) dX12_readOrder_92) rfl ?_
  refine okL_cons (ok_iload_n rfl dX12_readOrder_95) rfl ?_
  refine okL_cons (ok_iload_n rfl dX12_readOrder_96) rfl ?_
  refine okL_cons (ok_iadd dX12_readOrder_97) rfl ?_
  refine okL_cons (ok_iconst rfl dX12_readOrder_98) rfl ?_
  refine okL_cons (ok_iastore dX12_readOrder_99) rfl ?_
  refine okL_cons (ok_iinc rfl dX12_readOrder_100) rfl ?_
  refine okL_cons (ok_goto rfl dX12_readOrder_103) rfl ?_
  refine okL_cons (ok_aload_n rfl dX12_readOrder_106) rfl ?_
  refine okL_cons (ok_getP kw_703 cf_X12 rfl rfl (by decide) dX12_readOrder_107) rfl ?_
  refine okL_cons (ok_iload_n rfl dX12_readOrder_110) rfl ?_
  refine okL_cons (ok_iload_n rfl dX12_readOrder_111) rfl ?_
  refine okL_cons (ok_iastore dX12_readOrder_112) rfl ?_
  refine okL_cons (ok_iload_n rfl dX12_readOrder_113) rfl ?_
  refine okL_cons (ok_iconst rfl dX12_readOrder_114) rfl ?_
  refine okL_cons (ok_icmp_eq rfl dX12_readOrder_115) rfl ?_
  refine okL_cons (ok_aload_n rfl dX12_readOrder_118) rfl ?_
  refine okL_cons (ok_iload_n rfl dX12_readOrder_119) rfl ?_
  refine okL_cons (ok_iconst rfl dX12_readOrder_120) rfl ?_
  refine okL_cons (ok_iadd dX12_readOrder_121) rfl ?_
  refine okL_cons (ok_invV (M' := 273) kw_1032 kw_1033 kw_1034 kw_711 kw_1035 cf_X12 rfl (by decide +kernel) dX12_readOrder_122) rfl ?_
  refine okL_cons (ok_aload_n rfl dX12_readOrder_125) rfl ?_
  refine okL_cons (ok_getI kw_778 cf_X12 rfl rfl (by decide) dX12_readOrder_126) rfl ?_
  refine okL_cons (ok_if_ne rfl dX12_readOrder_129) rfl ?_
  refine okL_cons (ok_aload_n rfl dX12_readOrder_132) rfl ?_
  refine okL_cons (ok_aload_n rfl dX12_readOrder_133) rfl ?_
  refine okL_cons (ok_aload_n rfl dX12_readOrder_134) rfl ?_
  refine okL_cons (ok_getP kw_702 cf_X12 rfl rfl (by decide) dX12_readOrder_135) rfl ?_
  refine okL_cons (ok_iload_n rfl dX12_readOrder_138) rfl ?_
  refine okL_cons (ok_laload dX12_readOrder_139) rfl ?_
  refine okL_cons (ok_invV (M' := 198) kw_812 kw_813 kw_814 kw_711 kw_815 cf_X12 rfl (by decide +kernel) dX12_readOrder_140) rfl ?_
  refine okL_cons (ok_invV (M' := 200) kw_797 kw_798 kw_799 kw_711 kw_800 cf_X12 rfl (by decide +kernel) dX12_readOrder_143) rfl ?_
  refine okL_cons (ok_aload_n rfl dX12_readOrder_146) rfl ?_
  refine okL_cons (ok_iload_n rfl dX12_readOrder_147) rfl ?_
  refine okL_cons (ok_iconst rfl dX12_readOrder_148) rfl ?_
  refine okL_cons (ok_iadd dX12_readOrder_149) rfl ?_
  refine okL_cons (ok_invV (M' := 273) kw_1032 kw_1033 kw_1034 kw_711 kw_1035 cf_X12 rfl (by decide +kernel) dX12_readOrder_150) rfl ?_
  refine okL_cons (ok_aload_n rfl dX12_readOrder_153) rfl ?_
  refine okL_cons (ok_getP kw_703 cf_X12 rfl rfl (by decide) dX12_readOrder_154) rfl ?_
  refine okL_cons (ok_iload_n rfl dX12_readOrder_157) rfl ?_
  refine okL_cons (ok_bipush rfl dX12_readOrder_158) rfl ?_
  refine okL_cons (ok_iadd dX12_readOrder_160) rfl ?_
  refine okL_cons (ok_iconst rfl dX12_readOrder_161) rfl ?_
  refine okL_cons (ok_iastore dX12_readOrder_162) rfl ?_
  refine okL_cons (ok_aload_n rfl dX12_readOrder_163) rfl ?_
  refine okL_cons (ok_getI kw_778 cf_X12 rfl rfl (by decide) dX12_readOrder_164) rfl ?_
  refine okL_cons (ok_if_ne rfl dX12_readOrder_167) rfl ?_
  refine okL_cons (ok_aload_n rfl dX12_readOrder_170) rfl ?_
  refine okL_cons (ok_ldc2 kw_1036 dX12_readOrder_171) rfl ?_
  refine okL_cons (ok_invV (M' := 198) kw_812 kw_813 kw_814 kw_711 kw_815 cf_X12 rfl (by decide +kernel) dX12_readOrder_174) rfl ?_
  refine okL_cons (ok_if_eq rfl dX12_readOrder_177) rfl ?_
  refine okL_cons (ok_aload_n rfl dX12_readOrder_180) rfl ?_
  refine okL_cons (ok_invV (M' := 197) kw_779 kw_780 kw_781 kw_711 kw_782 cf_X12 rfl (by decide +kernel) dX12_readOrder_181) rfl ?_
  refine okL_cons (ok_aload_n rfl dX12_readOrder_184) rfl ?_
  refine okL_cons (ok_getP kw_703 cf_X12 rfl rfl (by decide) dX12_readOrder_185) rfl ?_
  refine okL_cons (ok_iload_n rfl dX12_readOrder_188) rfl ?_
  refine okL_cons (ok_bipush rfl dX12_readOrder_189) rfl ?_
  refine okL_cons (ok_iadd dX12_readOrder_191) rfl ?_
  refine okL_cons (ok_aload_n rfl dX12_readOrder_192) rfl ?_
  refine okL_cons (ok_lconst rfl dX12_readOrder_193) rfl ?_
  refine okL_cons (ok_ldc2 kw_810 dX12_readOrder_194) rfl ?_
  refine okL_cons (ok_invV (M' := 201) kw_844 kw_845 kw_846 kw_711 kw_847 cf_X12 rfl (by decide +kernel) dX12_readOrder_197) rfl ?_
  refine okL_cons (ok_iastore dX12_readOrder_200) rfl ?_
  refine okL_cons (ok_aload_n rfl dX12_readOrder_201) rfl ?_
  refine okL_cons (ok_getP kw_703 cf_X12 rfl rfl (by decide) dX12_readOrder_202) rfl ?_
  refine okL_cons (ok_iload_n rfl dX12_readOrder_205) rfl ?_
  refine okL_cons (ok_iconst rfl dX12_readOrder_206) rfl ?_
  refine okL_cons (ok_iadd dX12_readOrder_207) rfl ?_
  refine okL_cons (ok_aload_n rfl dX12_readOrder_208) rfl ?_
  refine okL_cons (ok_getI kw_801 cf_X12 rfl rfl (by decide) dX12_readOrder_209) rfl ?_
  refine okL_cons (ok_iastore dX12_readOrder_212) rfl ?_
  refine okL_cons (ok_aload_n rfl dX12_readOrder_213) rfl ?_
  refine okL_cons (ok_getI kw_778 cf_X12 rfl rfl (by decide) dX12_readOrder_214) rfl ?_
  refine okL_cons (ok_if_ne rfl dX12_readOrder_217) rfl ?_
  refine okL_cons (ok_aload_n rfl dX12_readOrder_220) rfl ?_
  refine okL_cons (ok_ldc2 kw_888 dX12_readOrder_221) rfl ?_
  refine okL_cons (ok_invV (M' := 198) kw_812 kw_813 kw_814 kw_711 kw_815 cf_X12 rfl (by decide +kernel) dX12_readOrder_224) rfl ?_
  refine okL_cons (ok_if_eq rfl dX12_readOrder_227) rfl ?_
  refine okL_cons (ok_aload_n rfl dX12_readOrder_230) rfl ?_
  refine okL_cons (ok_invV (M' := 197) kw_779 kw_780 kw_781 kw_711 kw_782 cf_X12 rfl (by decide +kernel) dX12_readOrder_231) rfl ?_
  refine okL_cons (ok_aload_n rfl dX12_readOrder_234) rfl ?_
  refine okL_cons (ok_iconst rfl dX12_readOrder_235) rfl ?_
  refine okL_cons (ok_invV (M' := 217) kw_884 kw_885 kw_886 kw_711 kw_887 cf_X12 rfl (by decide +kernel) dX12_readOrder_236) rfl ?_
  refine okL_cons (ok_aload_n rfl dX12_readOrder_239) rfl ?_
  refine okL_cons (ok_getP kw_703 cf_X12 rfl rfl (by decide) dX12_readOrder_240) rfl ?_
  refine okL_cons (ok_iload_n rfl dX12_readOrder_243) rfl ?_
  refine okL_cons (ok_bipush rfl dX12_readOrder_244) rfl ?_
  refine okL_cons (ok_iadd dX12_readOrder_246) rfl ?_
  refine okL_cons (ok_aload_n rfl dX12_readOrder_247) rfl ?_
  refine okL_cons (ok_getI kw_801 cf_X12 rfl rfl (by decide) dX12_readOrder_248) rfl ?_
  refine okL_cons (ok_iastore dX12_readOrder_251) rfl ?_
  exact okL_one (ok_return rfl dX12_readOrder_252)
theorem dX12_sumOf_0 : decode cX12_sumOf 0 = .ok (.aload_n 0, 1) := by decide +kernel
theorem dX12_sumOf_1 : decode cX12_sumOf 1 = .ok (.getfield 506, 3) := by decide +kernel
theorem dX12_sumOf_4 : decode cX12_sumOf 4 = .ok (.ifCond .ne 20, 3) := by decide +kernel
theorem dX12_sumOf_7 : decode cX12_sumOf 7 = .ok (.aload_n 0, 1) := by decide +kernel
theorem dX12_sumOf_8 : decode cX12_sumOf 8 = .ok (.getfield 143, 3) := by decide +kernel
theorem dX12_sumOf_11 : decode cX12_sumOf 11 = .ok (.iload_n 1, 1) := by decide +kernel
theorem dX12_sumOf_12 : decode cX12_sumOf 12 = .ok (.iaload, 1) := by decide +kernel
theorem dX12_sumOf_13 : decode cX12_sumOf 13 = .ok (.aload_n 0, 1) := by decide +kernel
theorem dX12_sumOf_14 : decode cX12_sumOf 14 = .ok (.getfield 143, 3) := by decide +kernel
theorem dX12_sumOf_17 : decode cX12_sumOf 17 = .ok (.iload_n 1, 1) := by decide +kernel
theorem dX12_sumOf_18 : decode cX12_sumOf 18 = .ok (.iconst 1, 1) := by decide +kernel
theorem dX12_sumOf_19 : decode cX12_sumOf 19 = .ok (.iadd, 1) := by decide +kernel
theorem dX12_sumOf_20 : decode cX12_sumOf 20 = .ok (.iaload, 1) := by decide +kernel
theorem dX12_sumOf_21 : decode cX12_sumOf 21 = .ok (.if_icmp .ne 5, 3) := by decide +kernel
theorem dX12_sumOf_24 : decode cX12_sumOf 24 = .ok (.iconst (-1), 1) := by decide +kernel
theorem dX12_sumOf_25 : decode cX12_sumOf 25 = .ok (.ireturn, 1) := by decide +kernel
theorem dX12_sumOf_26 : decode cX12_sumOf 26 = .ok (.aload_n 0, 1) := by decide +kernel
theorem dX12_sumOf_27 : decode cX12_sumOf 27 = .ok (.iconst 1, 1) := by decide +kernel
theorem dX12_sumOf_28 : decode cX12_sumOf 28 = .ok (.putfield 307, 3) := by decide +kernel
theorem dX12_sumOf_31 : decode cX12_sumOf 31 = .ok (.aload_n 0, 1) := by decide +kernel
theorem dX12_sumOf_32 : decode cX12_sumOf 32 = .ok (.aload_n 0, 1) := by decide +kernel
theorem dX12_sumOf_33 : decode cX12_sumOf 33 = .ok (.getfield 143, 3) := by decide +kernel
theorem dX12_sumOf_36 : decode cX12_sumOf 36 = .ok (.iload_n 1, 1) := by decide +kernel
theorem dX12_sumOf_37 : decode cX12_sumOf 37 = .ok (.iaload, 1) := by decide +kernel
theorem dX12_sumOf_38 : decode cX12_sumOf 38 = .ok (.aload_n 0, 1) := by decide +kernel
theorem dX12_sumOf_39 : decode cX12_sumOf 39 = .ok (.getfield 143, 3) := by decide +kernel
theorem dX12_sumOf_42 : decode cX12_sumOf 42 = .ok (.iload_n 1, 1) := by decide +kernel
theorem dX12_sumOf_43 : decode cX12_sumOf 43 = .ok (.iconst 1, 1) := by decide +kernel
theorem dX12_sumOf_44 : decode cX12_sumOf 44 = .ok (.iadd, 1) := by decide +kernel
theorem dX12_sumOf_45 : decode cX12_sumOf 45 = .ok (.iaload, 1) := by decide +kernel
theorem dX12_sumOf_46 : decode cX12_sumOf 46 = .ok (.invokevirtual 396, 3) := by decide +kernel
theorem dX12_sumOf_49 : decode cX12_sumOf 49 = .ok (.aload_n 0, 1) := by decide +kernel
theorem dX12_sumOf_50 : decode cX12_sumOf 50 = .ok (.iconst 0, 1) := by decide +kernel
theorem dX12_sumOf_51 : decode cX12_sumOf 51 = .ok (.putfield 307, 3) := by decide +kernel
theorem dX12_sumOf_54 : decode cX12_sumOf 54 = .ok (.aload_n 0, 1) := by decide +kernel
theorem dX12_sumOf_55 : decode cX12_sumOf 55 = .ok (.aload_n 0, 1) := by decide +kernel
theorem dX12_sumOf_56 : decode cX12_sumOf 56 = .ok (.getfield 379, 3) := by decide +kernel
theorem dX12_sumOf_59 : decode cX12_sumOf 59 = .ok (.putfield 506, 3) := by decide +kernel
theorem dX12_sumOf_62 : decode cX12_sumOf 62 = .ok (.aload_n 0, 1) := by decide +kernel
theorem dX12_sumOf_63 : decode cX12_sumOf 63 = .ok (.getfield 393, 3) := by decide +kernel
theorem dX12_sumOf_66 : decode cX12_sumOf 66 = .ok (.l2i, 1) := by decide +kernel
theorem dX12_sumOf_67 : decode cX12_sumOf 67 = .ok (.ireturn, 1) := by decide +kernel
set_option maxRecDepth 100000 in
theorem okm_X12_sumOf : okL RX12 cX12_sumOf 2 (some .int) "sumOf" pcX12_sumOf opX12_sumOf pcX12_sumOf := by
  unfold opX12_sumOf
  refine okL_cons (ok_aload_n rfl dX12_sumOf_0) rfl ?_
  refine okL_cons (ok_getI kw_1037 cf_X12 rfl rfl (by decide) dX12_sumOf_1) rfl ?_
  refine okL_cons (ok_if_ne rfl dX12_sumOf_4) rfl ?_
  refine okL_cons (ok_aload_n rfl dX12_sumOf_7) rfl ?_
  refine okL_cons (ok_getP kw_703 cf_X12 rfl rfl (by decide) dX12_sumOf_8) rfl ?_
  refine okL_cons (ok_iload_n rfl dX12_sumOf_11) rfl ?_
  refine okL_cons (ok_iaload dX12_sumOf_12) rfl ?_
  refine okL_cons (ok_aload_n rfl dX12_sumOf_13) rfl ?_
  refine okL_cons (ok_getP kw_703 cf_X12 rfl rfl (by decide) dX12_sumOf_14) rfl ?_
  refine okL_cons (ok_iload_n rfl dX12_sumOf_17) rfl ?_
  refine okL_cons (ok_iconst rfl dX12_sumOf_18) rfl ?_
  refine okL_cons (ok_iadd dX12_sumOf_19) rfl ?_
  refine okL_cons (ok_iaload dX12_sumOf_20) rfl ?_
  refine okL_cons (ok_icmp_ne rfl dX12_sumOf_21) rfl ?_
  refine okL_cons (ok_iconst rfl dX12_sumOf_24) rfl ?_
  refine okL_cons (ok_ireturn rfl dX12_sumOf_25) rfl ?_
  refine okL_cons (ok_aload_n rfl dX12_sumOf_26) rfl ?_
  refine okL_cons (ok_iconst rfl dX12_sumOf_27) rfl ?_
  refine okL_cons (ok_putZ kw_830 cf_X12 rfl rfl (by decide) rfl dX12_sumOf_28) rfl ?_
  refine okL_cons (ok_aload_n rfl dX12_sumOf_31) rfl ?_
  refine okL_cons (ok_aload_n rfl dX12_sumOf_32) rfl ?_
  refine okL_cons (ok_getP kw_703 cf_X12 rfl rfl (by decide) dX12_sumOf_33) rfl ?_
  refine okL_cons (ok_iload_n rfl dX12_sumOf_36) rfl ?_
  refine okL_cons (ok_iaload dX12_sumOf_37) rfl ?_
  refine okL_cons (ok_aload_n rfl dX12_sumOf_38) rfl ?_
  refine okL_cons (ok_getP kw_703 cf_X12 rfl rfl (by decide) dX12_sumOf_39) rfl ?_
  refine okL_cons (ok_iload_n rfl dX12_sumOf_42) rfl ?_
  refine okL_cons (ok_iconst rfl dX12_sumOf_43) rfl ?_
  refine okL_cons (ok_iadd dX12_sumOf_44) rfl ?_
  refine okL_cons (ok_iaload dX12_sumOf_45) rfl ?_
  refine okL_cons (ok_invV (M' := 225) kw_914 kw_915 kw_916 kw_711 kw_917 cf_X12 rfl (by decide +kernel) dX12_sumOf_46) rfl ?_
  refine okL_cons (ok_aload_n rfl dX12_sumOf_49) rfl ?_
  refine okL_cons (ok_iconst rfl dX12_sumOf_50) rfl ?_
  refine okL_cons (ok_putZ kw_830 cf_X12 rfl rfl (by decide) rfl dX12_sumOf_51) rfl ?_
  refine okL_cons (ok_aload_n rfl dX12_sumOf_54) rfl ?_
  refine okL_cons (ok_aload_n rfl dX12_sumOf_55) rfl ?_
  refine okL_cons (ok_getI kw_905 cf_X12 rfl rfl (by decide) dX12_sumOf_56) rfl ?_
  refine okL_cons (ok_putZ kw_1037 cf_X12 rfl rfl (by decide) rfl dX12_sumOf_59) rfl ?_
  refine okL_cons (ok_aload_n rfl dX12_sumOf_62) rfl ?_
  refine okL_cons (ok_getJ kw_913 cf_X12 rfl rfl (by decide) dX12_sumOf_63) rfl ?_
  refine okL_cons (ok_l2i dX12_sumOf_66) rfl ?_
  exact okL_one (ok_ireturn rfl dX12_sumOf_67)
theorem dX12_act_0 : decode cX12_act 0 = .ok (.iload_n 1, 1) := by decide +kernel
theorem dX12_act_1 : decode cX12_act 1 = .ok (.tableswitch 48 0 2 #[27, 34, 41], 27) := by decide +kernel
theorem dX12_act_28 : decode cX12_act 28 = .ok (.aload_n 0, 1) := by decide +kernel
theorem dX12_act_29 : decode cX12_act 29 = .ok (.iload_n 2, 1) := by decide +kernel
theorem dX12_act_30 : decode cX12_act 30 = .ok (.iload_n 3, 1) := by decide +kernel
theorem dX12_act_31 : decode cX12_act 31 = .ok (.invokevirtual 422, 3) := by decide +kernel
theorem dX12_act_34 : decode cX12_act 34 = .ok (.ireturn, 1) := by decide +kernel
theorem dX12_act_35 : decode cX12_act 35 = .ok (.aload_n 0, 1) := by decide +kernel
theorem dX12_act_36 : decode cX12_act 36 = .ok (.iload_n 2, 1) := by decide +kernel
theorem dX12_act_37 : decode cX12_act 37 = .ok (.iload_n 3, 1) := by decide +kernel
theorem dX12_act_38 : decode cX12_act 38 = .ok (.invokevirtual 425, 3) := by decide +kernel
theorem dX12_act_41 : decode cX12_act 41 = .ok (.ireturn, 1) := by decide +kernel
theorem dX12_act_42 : decode cX12_act 42 = .ok (.aload_n 0, 1) := by decide +kernel
theorem dX12_act_43 : decode cX12_act 43 = .ok (.iload_n 2, 1) := by decide +kernel
theorem dX12_act_44 : decode cX12_act 44 = .ok (.iload_n 3, 1) := by decide +kernel
theorem dX12_act_45 : decode cX12_act 45 = .ok (.invokevirtual 433, 3) := by decide +kernel
theorem dX12_act_48 : decode cX12_act 48 = .ok (.ireturn, 1) := by decide +kernel
theorem dX12_act_49 : decode cX12_act 49 = .ok (.aload_n 0, 1) := by decide +kernel
theorem dX12_act_50 : decode cX12_act 50 = .ok (.invokevirtual 439, 3) := by decide +kernel
theorem dX12_act_53 : decode cX12_act 53 = .ok (.ireturn, 1) := by decide +kernel
set_option maxRecDepth 100000 in
theorem okm_X12_act : okL RX12 cX12_act 4 (some .int) "act" pcX12_act opX12_act pcX12_act := by
  unfold opX12_act
  refine okL_cons (ok_iload_n rfl dX12_act_0) rfl ?_
  refine okL_cons (ok_sw rfl rfl (sw_all rfl) dX12_act_1) rfl ?_
  refine okL_cons (ok_aload_n rfl dX12_act_28) rfl ?_
  refine okL_cons (ok_iload_n rfl dX12_act_29) rfl ?_
  refine okL_cons (ok_iload_n rfl dX12_act_30) rfl ?_
  refine okL_cons (ok_invV (M' := 231) kw_940 kw_941 kw_942 kw_711 kw_943 cf_X12 rfl (by decide +kernel) dX12_act_31) rfl ?_
  refine okL_cons (ok_ireturn rfl dX12_act_34) rfl ?_
  refine okL_cons (ok_aload_n rfl dX12_act_35) rfl ?_
  refine okL_cons (ok_iload_n rfl dX12_act_36) rfl ?_
  refine okL_cons (ok_iload_n rfl dX12_act_37) rfl ?_
  refine okL_cons (ok_invV (M' := 233) kw_944 kw_945 kw_946 kw_711 kw_947 cf_X12 rfl (by decide +kernel) dX12_act_38) rfl ?_
  refine okL_cons (ok_ireturn rfl dX12_act_41) rfl ?_
  refine okL_cons (ok_aload_n rfl dX12_act_42) rfl ?_
  refine okL_cons (ok_iload_n rfl dX12_act_43) rfl ?_
  refine okL_cons (ok_iload_n rfl dX12_act_44) rfl ?_
  refine okL_cons (ok_invV (M' := 236) kw_953 kw_954 kw_955 kw_711 kw_956 cf_X12 rfl (by decide +kernel) dX12_act_45) rfl ?_
  refine okL_cons (ok_ireturn rfl dX12_act_48) rfl ?_
  refine okL_cons (ok_aload_n rfl dX12_act_49) rfl ?_
  refine okL_cons (ok_invV (M' := 239) kw_961 kw_962 kw_963 kw_711 kw_964 cf_X12 rfl (by decide +kernel) dX12_act_50) rfl ?_
  exact okL_one (ok_ireturn rfl dX12_act_53)
theorem dX12_runOnce_0 : decode cX12_runOnce 0 = .ok (.aload_n 0, 1) := by decide +kernel
theorem dX12_runOnce_1 : decode cX12_runOnce 1 = .ok (.getfield 98, 3) := by decide +kernel
theorem dX12_runOnce_4 : decode cX12_runOnce 4 = .ok (.iconst 1, 1) := by decide +kernel
theorem dX12_runOnce_5 : decode cX12_runOnce 5 = .ok (.aload_n 0, 1) := by decide +kernel
theorem dX12_runOnce_6 : decode cX12_runOnce 6 = .ok (.getfield 13, 3) := by decide +kernel
theorem dX12_runOnce_9 : decode cX12_runOnce 9 = .ok (.iconst 4, 1) := by decide +kernel
theorem dX12_runOnce_10 : decode cX12_runOnce 10 = .ok (.iaload, 1) := by decide +kernel
theorem dX12_runOnce_11 : decode cX12_runOnce 11 = .ok (.i2l, 1) := by decide +kernel
theorem dX12_runOnce_12 : decode cX12_runOnce 12 = .ok (.lastore, 1) := by decide +kernel
theorem dX12_runOnce_13 : decode cX12_runOnce 13 = .ok (.aload_n 0, 1) := by decide +kernel
theorem dX12_runOnce_14 : decode cX12_runOnce 14 = .ok (.getfield 98, 3) := by decide +kernel
theorem dX12_runOnce_17 : decode cX12_runOnce 17 = .ok (.iconst 2, 1) := by decide +kernel
theorem dX12_runOnce_18 : decode cX12_runOnce 18 = .ok (.aload_n 0, 1) := by decide +kernel
theorem dX12_runOnce_19 : decode cX12_runOnce 19 = .ok (.getfield 509, 3) := by decide +kernel
theorem dX12_runOnce_22 : decode cX12_runOnce 22 = .ok (.i2l, 1) := by decide +kernel
theorem dX12_runOnce_23 : decode cX12_runOnce 23 = .ok (.lastore, 1) := by decide +kernel
theorem dX12_runOnce_24 : decode cX12_runOnce 24 = .ok (.aload_n 0, 1) := by decide +kernel
theorem dX12_runOnce_25 : decode cX12_runOnce 25 = .ok (.getfield 98, 3) := by decide +kernel
theorem dX12_runOnce_28 : decode cX12_runOnce 28 = .ok (.iconst 3, 1) := by decide +kernel
theorem dX12_runOnce_29 : decode cX12_runOnce 29 = .ok (.aload_n 0, 1) := by decide +kernel
theorem dX12_runOnce_30 : decode cX12_runOnce 30 = .ok (.getfield 512, 3) := by decide +kernel
theorem dX12_runOnce_33 : decode cX12_runOnce 33 = .ok (.i2l, 1) := by decide +kernel
theorem dX12_runOnce_34 : decode cX12_runOnce 34 = .ok (.lastore, 1) := by decide +kernel
theorem dX12_runOnce_35 : decode cX12_runOnce 35 = .ok (.aload_n 0, 1) := by decide +kernel
theorem dX12_runOnce_36 : decode cX12_runOnce 36 = .ok (.getfield 98, 3) := by decide +kernel
theorem dX12_runOnce_39 : decode cX12_runOnce 39 = .ok (.iconst 4, 1) := by decide +kernel
theorem dX12_runOnce_40 : decode cX12_runOnce 40 = .ok (.aload_n 0, 1) := by decide +kernel
theorem dX12_runOnce_41 : decode cX12_runOnce 41 = .ok (.iconst 0, 1) := by decide +kernel
theorem dX12_runOnce_42 : decode cX12_runOnce 42 = .ok (.invokevirtual 515, 3) := by decide +kernel
theorem dX12_runOnce_45 : decode cX12_runOnce 45 = .ok (.i2l, 1) := by decide +kernel
theorem dX12_runOnce_46 : decode cX12_runOnce 46 = .ok (.lastore, 1) := by decide +kernel
theorem dX12_runOnce_47 : decode cX12_runOnce 47 = .ok (.aload_n 0, 1) := by decide +kernel
theorem dX12_runOnce_48 : decode cX12_runOnce 48 = .ok (.getfield 98, 3) := by decide +kernel
theorem dX12_runOnce_51 : decode cX12_runOnce 51 = .ok (.iconst 5, 1) := by decide +kernel
theorem dX12_runOnce_52 : decode cX12_runOnce 52 = .ok (.aload_n 0, 1) := by decide +kernel
theorem dX12_runOnce_53 : decode cX12_runOnce 53 = .ok (.iconst 2, 1) := by decide +kernel
theorem dX12_runOnce_54 : decode cX12_runOnce 54 = .ok (.invokevirtual 515, 3) := by decide +kernel
theorem dX12_runOnce_57 : decode cX12_runOnce 57 = .ok (.i2l, 1) := by decide +kernel
theorem dX12_runOnce_58 : decode cX12_runOnce 58 = .ok (.lastore, 1) := by decide +kernel
theorem dX12_runOnce_59 : decode cX12_runOnce 59 = .ok (.aload_n 0, 1) := by decide +kernel
theorem dX12_runOnce_60 : decode cX12_runOnce 60 = .ok (.iconst 0, 1) := by decide +kernel
theorem dX12_runOnce_61 : decode cX12_runOnce 61 = .ok (.putfield 506, 3) := by decide +kernel
theorem dX12_runOnce_64 : decode cX12_runOnce 64 = .ok (.aload_n 0, 1) := by decide +kernel
theorem dX12_runOnce_65 : decode cX12_runOnce 65 = .ok (.getfield 143, 3) := by decide +kernel
theorem dX12_runOnce_68 : decode cX12_runOnce 68 = .ok (.iload_n 1, 1) := by decide +kernel
theorem dX12_runOnce_69 : decode cX12_runOnce 69 = .ok (.iconst 5, 1) := by decide +kernel
theorem dX12_runOnce_70 : decode cX12_runOnce 70 = .ok (.iadd, 1) := by decide +kernel
theorem dX12_runOnce_71 : decode cX12_runOnce 71 = .ok (.iaload, 1) := by decide +kernel
theorem dX12_runOnce_72 : decode cX12_runOnce 72 = .ok (.aload_n 0, 1) := by decide +kernel
theorem dX12_runOnce_73 : decode cX12_runOnce 73 = .ok (.getfield 143, 3) := by decide +kernel
theorem dX12_runOnce_76 : decode cX12_runOnce 76 = .ok (.iload_n 1, 1) := by decide +kernel
theorem dX12_runOnce_77 : decode cX12_runOnce 77 = .ok (.bipush 6, 2) := by decide +kernel
theorem dX12_runOnce_79 : decode cX12_runOnce 79 = .ok (.iadd, 1) := by decide +kernel
theorem dX12_runOnce_80 : decode cX12_runOnce 80 = .ok (.iaload, 1) := by decide +kernel
theorem dX12_runOnce_81 : decode cX12_runOnce 81 = .ok (.if_icmp .ge 24, 3) := by decide +kernel
theorem dX12_runOnce_84 : decode cX12_runOnce 84 = .ok (.aload_n 0, 1) := by decide +kernel
theorem dX12_runOnce_85 : decode cX12_runOnce 85 = .ok (.iload_n 1, 1) := by decide +kernel
theorem dX12_runOnce_86 : decode cX12_runOnce 86 = .ok (.iconst 5, 1) := by decide +kernel
theorem dX12_runOnce_87 : decode cX12_runOnce 87 = .ok (.iadd, 1) := by decide +kernel
theorem dX12_runOnce_88 : decode cX12_runOnce 88 = .ok (.invokevirtual 518, 3) := by decide +kernel
theorem dX12_runOnce_91 : decode cX12_runOnce 91 = .ok (.istore_n 2, 1) := by decide +kernel
theorem dX12_runOnce_92 : decode cX12_runOnce 92 = .ok (.aload_n 0, 1) := by decide +kernel
theorem dX12_runOnce_93 : decode cX12_runOnce 93 = .ok (.getfield 506, 3) := by decide +kernel
theorem dX12_runOnce_96 : decode cX12_runOnce 96 = .ok (.ifCond .ne 7, 3) := by decide +kernel
theorem dX12_runOnce_99 : decode cX12_runOnce 99 = .ok (.iload_n 2, 1) := by decide +kernel
theorem dX12_runOnce_100 : decode cX12_runOnce 100 = .ok (.ifCond .ne 5, 3) := by decide +kernel
theorem dX12_runOnce_103 : decode cX12_runOnce 103 = .ok (.iconst 0, 1) := by decide +kernel
theorem dX12_runOnce_104 : decode cX12_runOnce 104 = .ok (.ireturn, 1) := by decide +kernel
theorem dX12_runOnce_105 : decode cX12_runOnce 105 = .ok (.aload_n 0, 1) := by decide +kernel
theorem dX12_runOnce_106 : decode cX12_runOnce 106 = .ok (.iload_n 1, 1) := by decide +kernel
theorem dX12_runOnce_107 : decode cX12_runOnce 107 = .ok (.iconst 1, 1) := by decide +kernel
theorem dX12_runOnce_108 : decode cX12_runOnce 108 = .ok (.iadd, 1) := by decide +kernel
theorem dX12_runOnce_109 : decode cX12_runOnce 109 = .ok (.invokevirtual 518, 3) := by decide +kernel
theorem dX12_runOnce_112 : decode cX12_runOnce 112 = .ok (.istore_n 2, 1) := by decide +kernel
theorem dX12_runOnce_113 : decode cX12_runOnce 113 = .ok (.aload_n 0, 1) := by decide +kernel
theorem dX12_runOnce_114 : decode cX12_runOnce 114 = .ok (.iload_n 1, 1) := by decide +kernel
theorem dX12_runOnce_115 : decode cX12_runOnce 115 = .ok (.iconst 3, 1) := by decide +kernel
theorem dX12_runOnce_116 : decode cX12_runOnce 116 = .ok (.iadd, 1) := by decide +kernel
theorem dX12_runOnce_117 : decode cX12_runOnce 117 = .ok (.invokevirtual 518, 3) := by decide +kernel
theorem dX12_runOnce_120 : decode cX12_runOnce 120 = .ok (.istore_n 3, 1) := by decide +kernel
theorem dX12_runOnce_121 : decode cX12_runOnce 121 = .ok (.aload_n 0, 1) := by decide +kernel
theorem dX12_runOnce_122 : decode cX12_runOnce 122 = .ok (.getfield 506, 3) := by decide +kernel
theorem dX12_runOnce_125 : decode cX12_runOnce 125 = .ok (.ifCond .eq 6, 3) := by decide +kernel
theorem dX12_runOnce_128 : decode cX12_runOnce 128 = .ok (.bipush (-3), 2) := by decide +kernel
theorem dX12_runOnce_130 : decode cX12_runOnce 130 = .ok (.ireturn, 1) := by decide +kernel
theorem dX12_runOnce_131 : decode cX12_runOnce 131 = .ok (.aload_n 0, 1) := by decide +kernel
theorem dX12_runOnce_132 : decode cX12_runOnce 132 = .ok (.aload_n 0, 1) := by decide +kernel
theorem dX12_runOnce_133 : decode cX12_runOnce 133 = .ok (.getfield 143, 3) := by decide +kernel
theorem dX12_runOnce_136 : decode cX12_runOnce 136 = .ok (.iload_n 1, 1) := by decide +kernel
theorem dX12_runOnce_137 : decode cX12_runOnce 137 = .ok (.iaload, 1) := by decide +kernel
theorem dX12_runOnce_138 : decode cX12_runOnce 138 = .ok (.iload_n 2, 1) := by decide +kernel
theorem dX12_runOnce_139 : decode cX12_runOnce 139 = .ok (.iload_n 3, 1) := by decide +kernel
theorem dX12_runOnce_140 : decode cX12_runOnce 140 = .ok (.invokevirtual 521, 3) := by decide +kernel
theorem dX12_runOnce_143 : decode cX12_runOnce 143 = .ok (.istore 4, 2) := by decide +kernel
theorem dX12_runOnce_145 : decode cX12_runOnce 145 = .ok (.iload 4, 2) := by decide +kernel
theorem dX12_runOnce_147 : decode cX12_runOnce 147 = .ok (.ifCond .ge 6, 3) := by decide +kernel
theorem dX12_runOnce_150 : decode cX12_runOnce 150 = .ok (.bipush (-3), 2) := by decide +kernel
theorem dX12_runOnce_152 : decode cX12_runOnce 152 = .ok (.ireturn, 1) := by decide +kernel
theorem dX12_runOnce_153 : decode cX12_runOnce 153 = .ok (.aload_n 0, 1) := by decide +kernel
theorem dX12_runOnce_154 : decode cX12_runOnce 154 = .ok (.aload_n 0, 1) := by decide +kernel
theorem dX12_runOnce_155 : decode cX12_runOnce 155 = .ok (.getfield 143, 3) := by decide +kernel
theorem dX12_runOnce_158 : decode cX12_runOnce 158 = .ok (.iload_n 1, 1) := by decide +kernel
theorem dX12_runOnce_159 : decode cX12_runOnce 159 = .ok (.iaload, 1) := by decide +kernel
theorem dX12_runOnce_160 : decode cX12_runOnce 160 = .ok (.iconst 3, 1) := by decide +kernel
theorem dX12_runOnce_161 : decode cX12_runOnce 161 = .ok (.if_icmp .ne 8, 3) := by decide +kernel
theorem dX12_runOnce_164 : decode cX12_runOnce 164 = .ok (.iload 4, 2) := by decide +kernel
theorem dX12_runOnce_166 : decode cX12_runOnce 166 = .ok (.goto 7, 3) := by decide +kernel
theorem dX12_runOnce_169 : decode cX12_runOnce 169 = .ok (.aload_n 0, 1) := by decide +kernel
theorem dX12_runOnce_170 : decode cX12_runOnce 170 = .ok (.getfield 512, 3) := by decide +kernel
theorem dX12_runOnce_173 : decode cX12_runOnce 173 = .ok (.putfield 512, 3) := by decide +kernel
theorem dX12_runOnce_176 : decode cX12_runOnce 176 = .ok (.aload_n 0, 1) := by decide +kernel
theorem dX12_runOnce_177 : decode cX12_runOnce 177 = .ok (.dup, 1) := by decide +kernel
theorem dX12_runOnce_178 : decode cX12_runOnce 178 = .ok (.getfield 509, 3) := by decide +kernel
theorem dX12_runOnce_181 : decode cX12_runOnce 181 = .ok (.iconst 1, 1) := by decide +kernel
theorem dX12_runOnce_182 : decode cX12_runOnce 182 = .ok (.iadd, 1) := by decide +kernel
theorem dX12_runOnce_183 : decode cX12_runOnce 183 = .ok (.putfield 509, 3) := by decide +kernel
theorem dX12_runOnce_186 : decode cX12_runOnce 186 = .ok (.iconst 0, 1) := by decide +kernel
theorem dX12_runOnce_187 : decode cX12_runOnce 187 = .ok (.ireturn, 1) := by decide +kernel
set_option maxRecDepth 100000 in
theorem okm_X12_runOnce : okL RX12 cX12_runOnce 5 (some .int) "runOnce" pcX12_runOnce opX12_runOnce pcX12_runOnce := by
  unfold opX12_runOnce
  refine okL_cons (ok_aload_n rfl dX12_runOnce_0) rfl ?_
  refine okL_cons (ok_getP kw_686 cf_X12 rfl rfl (by decide) dX12_runOnce_1) rfl ?_
  refine okL_cons (ok_iconst rfl dX12_runOnce_4) rfl ?_
  refine okL_cons (ok_aload_n rfl dX12_runOnce_5) rfl ?_
  refine okL_cons (ok_getP kw_654 cf_X12 rfl rfl (by decide) dX12_runOnce_6) rfl ?_
  refine okL_cons (ok_iconst rfl dX12_runOnce_9) rfl ?_
  refine okL_cons (ok_iaload dX12_runOnce_10) rfl ?_
  refine okL_cons (ok_i2l dX12_runOnce_11) rfl ?_
  refine okL_cons (ok_lastore dX12_runOnce_12) rfl ?_
  refine okL_cons (ok_aload_n rfl dX12_runOnce_13) rfl ?_
  refine okL_cons (ok_getP kw_686 cf_X12 rfl rfl (by decide) dX12_runOnce_14) rfl ?_
  refine okL_cons (ok_iconst rfl dX12_runOnce_17) rfl ?_
  refine okL_cons (ok_aload_n rfl dX12_runOnce_18) rfl ?_
  refine okL_cons (ok_getI kw_1038 cf_X12 rfl rfl (by decide) dX12_runOnce_19) rfl ?_
  refine okL_cons (ok_i2l dX12_runOnce_22) rfl ?_
  refine okL_cons (ok_lastore dX12_runOnce_23) rfl ?_
  refine okL_cons (ok_aload_n rfl dX12_runOnce_24) rfl ?_
  refine okL_cons (ok_getP kw_686 cf_X12 rfl rfl (by decide) dX12_runOnce_25) rfl ?_
  refine okL_cons (ok_iconst rfl dX12_runOnce_28) rfl ?_
  refine okL_cons (ok_aload_n rfl dX12_runOnce_29) rfl ?_
  refine okL_cons (ok_getI kw_1039 cf_X12 rfl rfl (by decide) dX12_runOnce_30) rfl ?_
  refine okL_cons (ok_i2l dX12_runOnce_33) rfl ?_
  refine okL_cons (ok_lastore dX12_runOnce_34) rfl ?_
  refine okL_cons (ok_aload_n rfl dX12_runOnce_35) rfl ?_
  refine okL_cons (ok_getP kw_686 cf_X12 rfl rfl (by decide) dX12_runOnce_36) rfl ?_
  refine okL_cons (ok_iconst rfl dX12_runOnce_39) rfl ?_
  refine okL_cons (ok_aload_n rfl dX12_runOnce_40) rfl ?_
  refine okL_cons (ok_iconst rfl dX12_runOnce_41) rfl ?_
  refine okL_cons (ok_invV (M' := 182) kw_1040 kw_1041 kw_1042 kw_711 kw_1043 cf_X12 rfl (by decide +kernel) dX12_runOnce_42) rfl ?_
  refine okL_cons (ok_i2l dX12_runOnce_45) rfl ?_
  refine okL_cons (ok_lastore dX12_runOnce_46) rfl ?_
  refine okL_cons (ok_aload_n rfl dX12_runOnce_47) rfl ?_
  refine okL_cons (ok_getP kw_686 cf_X12 rfl rfl (by decide) dX12_runOnce_48) rfl ?_
  refine okL_cons (ok_iconst rfl dX12_runOnce_51) rfl ?_
  refine okL_cons (ok_aload_n rfl dX12_runOnce_52) rfl ?_
  refine okL_cons (ok_iconst rfl dX12_runOnce_53) rfl ?_
  refine okL_cons (ok_invV (M' := 182) kw_1040 kw_1041 kw_1042 kw_711 kw_1043 cf_X12 rfl (by decide +kernel) dX12_runOnce_54) rfl ?_
  refine okL_cons (ok_i2l dX12_runOnce_57) rfl ?_
  refine okL_cons (ok_lastore dX12_runOnce_58) rfl ?_
  refine okL_cons (ok_aload_n rfl dX12_runOnce_59) rfl ?_
  refine okL_cons (ok_iconst rfl dX12_runOnce_60) rfl ?_
  refine okL_cons (ok_putZ kw_1037 cf_X12 rfl rfl (by decide) rfl dX12_runOnce_61) rfl ?_
  refine okL_cons (ok_aload_n rfl dX12_runOnce_64) rfl ?_
  refine okL_cons (ok_getP kw_703 cf_X12 rfl rfl (by decide) dX12_runOnce_65) rfl ?_
  refine okL_cons (ok_iload_n rfl dX12_runOnce_68) rfl ?_
  refine okL_cons (ok_iconst rfl dX12_runOnce_69) rfl ?_
  refine okL_cons (ok_iadd dX12_runOnce_70) rfl ?_
  refine okL_cons (ok_iaload dX12_runOnce_71) rfl ?_
  refine okL_cons (ok_aload_n rfl dX12_runOnce_72) rfl ?_
  refine okL_cons (ok_getP kw_703 cf_X12 rfl rfl (by decide) dX12_runOnce_73) rfl ?_
  refine okL_cons (ok_iload_n rfl dX12_runOnce_76) rfl ?_
  refine okL_cons (ok_bipush rfl dX12_runOnce_77) rfl ?_
  refine okL_cons (ok_iadd dX12_runOnce_79) rfl ?_
  refine okL_cons (ok_iaload dX12_runOnce_80) rfl ?_
  refine okL_cons (ok_icmp_ge rfl dX12_runOnce_81) rfl ?_
  refine okL_cons (ok_aload_n rfl dX12_runOnce_84) rfl ?_
  refine okL_cons (ok_iload_n rfl dX12_runOnce_85) rfl ?_
  refine okL_cons (ok_iconst rfl dX12_runOnce_86) rfl ?_
  refine okL_cons (ok_iadd dX12_runOnce_87) rfl ?_
  refine okL_cons (ok_invV (M' := 275) kw_1044 kw_1045 kw_1046 kw_711 kw_1047 cf_X12 rfl (by decide +kernel) dX12_runOnce_88) rfl ?_
  refine okL_cons (ok_istore_n rfl dX12_runOnce_91) rfl ?_
  refine okL_cons (ok_aload_n rfl dX12_runOnce_92) rfl ?_
  refine okL_cons (ok_getI kw_1037 cf_X12 rfl rfl (by decide) dX12_runOnce_93) rfl ?_
  refine okL_cons (ok_if_ne rfl dX12_runOnce_96) rfl ?_
  refine okL_cons (ok_iload_n rfl dX12_runOnce_99) rfl ?_
  refine okL_cons (ok_if_ne rfl dX12_runOnce_100) rfl ?_
  refine okL_cons (ok_iconst rfl dX12_runOnce_103) rfl ?_
  refine okL_cons (ok_ireturn rfl dX12_runOnce_104) rfl ?_
  refine okL_cons (ok_aload_n rfl dX12_runOnce_105) rfl ?_
  refine okL_cons (ok_iload_n rfl dX12_runOnce_106) rfl ?_
  refine okL_cons (ok_iconst rfl dX12_runOnce_107) rfl ?_
  refine okL_cons (ok_iadd dX12_runOnce_108) rfl ?_
  refine okL_cons (ok_invV (M' := 275) kw_1044 kw_1045 kw_1046 kw_711 kw_1047 cf_X12 rfl (by decide +kernel) dX12_runOnce_109) rfl ?_
  refine okL_cons (ok_istore_n rfl dX12_runOnce_112) rfl ?_
  refine okL_cons (ok_aload_n rfl dX12_runOnce_113) rfl ?_
  refine okL_cons (ok_iload_n rfl dX12_runOnce_114) rfl ?_
  refine okL_cons (ok_iconst rfl dX12_runOnce_115) rfl ?_
  refine okL_cons (ok_iadd dX12_runOnce_116) rfl ?_
  refine okL_cons (ok_invV (M' := 275) kw_1044 kw_1045 kw_1046 kw_711 kw_1047 cf_X12 rfl (by decide +kernel) dX12_runOnce_117) rfl ?_
  refine okL_cons (ok_istore_n rfl dX12_runOnce_120) rfl ?_
  refine okL_cons (ok_aload_n rfl dX12_runOnce_121) rfl ?_
  refine okL_cons (ok_getI kw_1037 cf_X12 rfl rfl (by decide) dX12_runOnce_122) rfl ?_
  refine okL_cons (ok_if_eq rfl dX12_runOnce_125) rfl ?_
  refine okL_cons (ok_bipush rfl dX12_runOnce_128) rfl ?_
  refine okL_cons (ok_ireturn rfl dX12_runOnce_130) rfl ?_
  refine okL_cons (ok_aload_n rfl dX12_runOnce_131) rfl ?_
  refine okL_cons (ok_aload_n rfl dX12_runOnce_132) rfl ?_
  refine okL_cons (ok_getP kw_703 cf_X12 rfl rfl (by decide) dX12_runOnce_133) rfl ?_
  refine okL_cons (ok_iload_n rfl dX12_runOnce_136) rfl ?_
  refine okL_cons (ok_iaload dX12_runOnce_137) rfl ?_
  refine okL_cons (ok_iload_n rfl dX12_runOnce_138) rfl ?_
  refine okL_cons (ok_iload_n rfl dX12_runOnce_139) rfl ?_
  refine okL_cons (ok_invV (M' := 276) kw_1048 kw_1049 kw_1050 kw_711 kw_1051 cf_X12 rfl (by decide +kernel) dX12_runOnce_140) rfl ?_
  refine okL_cons (ok_istore dX12_runOnce_143) rfl ?_
  refine okL_cons (ok_iload dX12_runOnce_145) rfl ?_
  refine okL_cons (ok_if_ge rfl dX12_runOnce_147) rfl ?_
  refine okL_cons (ok_bipush rfl dX12_runOnce_150) rfl ?_
  refine okL_cons (ok_ireturn rfl dX12_runOnce_152) rfl ?_
  refine okL_cons (ok_aload_n rfl dX12_runOnce_153) rfl ?_
  refine okL_cons (ok_aload_n rfl dX12_runOnce_154) rfl ?_
  refine okL_cons (ok_getP kw_703 cf_X12 rfl rfl (by decide) dX12_runOnce_155) rfl ?_
  refine okL_cons (ok_iload_n rfl dX12_runOnce_158) rfl ?_
  refine okL_cons (ok_iaload dX12_runOnce_159) rfl ?_
  refine okL_cons (ok_iconst rfl dX12_runOnce_160) rfl ?_
  refine okL_cons (ok_icmp_ne rfl dX12_runOnce_161) rfl ?_
  refine okL_cons (ok_iload dX12_runOnce_164) rfl ?_
  refine okL_cons (ok_goto rfl dX12_runOnce_166) rfl ?_
  refine okL_cons (ok_aload_n rfl dX12_runOnce_169) rfl ?_
  refine okL_cons (ok_getI kw_1039 cf_X12 rfl rfl (by decide) dX12_runOnce_170) rfl ?_
  refine okL_cons (ok_putI kw_1039 cf_X12 rfl rfl (by decide) rfl dX12_runOnce_173) rfl ?_
  refine okL_cons (ok_aload_n rfl dX12_runOnce_176) rfl ?_
  refine okL_cons (ok_dup dX12_runOnce_177) rfl ?_
  refine okL_cons (ok_getI kw_1038 cf_X12 rfl rfl (by decide) dX12_runOnce_178) rfl ?_
  refine okL_cons (ok_iconst rfl dX12_runOnce_181) rfl ?_
  refine okL_cons (ok_iadd dX12_runOnce_182) rfl ?_
  refine okL_cons (ok_putI kw_1038 cf_X12 rfl rfl (by decide) rfl dX12_runOnce_183) rfl ?_
  refine okL_cons (ok_iconst rfl dX12_runOnce_186) rfl ?_
  exact okL_one (ok_ireturn rfl dX12_runOnce_187)
theorem dX12_orders_0 : decode cX12_orders 0 = .ok (.aload_n 0, 1) := by decide +kernel
theorem dX12_orders_1 : decode cX12_orders 1 = .ok (.iconst 0, 1) := by decide +kernel
theorem dX12_orders_2 : decode cX12_orders 2 = .ok (.putfield 152, 3) := by decide +kernel
theorem dX12_orders_5 : decode cX12_orders 5 = .ok (.aload_n 0, 1) := by decide +kernel
theorem dX12_orders_6 : decode cX12_orders 6 = .ok (.iconst (-1), 1) := by decide +kernel
theorem dX12_orders_7 : decode cX12_orders 7 = .ok (.putfield 146, 3) := by decide +kernel
theorem dX12_orders_10 : decode cX12_orders 10 = .ok (.aload_n 0, 1) := by decide +kernel
theorem dX12_orders_11 : decode cX12_orders 11 = .ok (.iconst 1, 1) := by decide +kernel
theorem dX12_orders_12 : decode cX12_orders 12 = .ok (.invokevirtual 367, 3) := by decide +kernel
theorem dX12_orders_15 : decode cX12_orders 15 = .ok (.aload_n 0, 1) := by decide +kernel
theorem dX12_orders_16 : decode cX12_orders 16 = .ok (.invokevirtual 525, 3) := by decide +kernel
theorem dX12_orders_19 : decode cX12_orders 19 = .ok (.aload_n 0, 1) := by decide +kernel
theorem dX12_orders_20 : decode cX12_orders 20 = .ok (.getfield 235, 3) := by decide +kernel
theorem dX12_orders_23 : decode cX12_orders 23 = .ok (.ifCond .ne 23, 3) := by decide +kernel
theorem dX12_orders_26 : decode cX12_orders 26 = .ok (.aload_n 0, 1) := by decide +kernel
theorem dX12_orders_27 : decode cX12_orders 27 = .ok (.bipush 59, 2) := by decide +kernel
theorem dX12_orders_29 : decode cX12_orders 29 = .ok (.invokevirtual 301, 3) := by decide +kernel
theorem dX12_orders_32 : decode cX12_orders 32 = .ok (.ifCond .eq 14, 3) := by decide +kernel
theorem dX12_orders_35 : decode cX12_orders 35 = .ok (.aload_n 0, 1) := by decide +kernel
theorem dX12_orders_36 : decode cX12_orders 36 = .ok (.invokevirtual 239, 3) := by decide +kernel
theorem dX12_orders_39 : decode cX12_orders 39 = .ok (.aload_n 0, 1) := by decide +kernel
theorem dX12_orders_40 : decode cX12_orders 40 = .ok (.invokevirtual 525, 3) := by decide +kernel
theorem dX12_orders_43 : decode cX12_orders 43 = .ok (.goto (-24), 3) := by decide +kernel
theorem dX12_orders_46 : decode cX12_orders 46 = .ok (.aload_n 0, 1) := by decide +kernel
theorem dX12_orders_47 : decode cX12_orders 47 = .ok (.invokevirtual 373, 3) := by decide +kernel
theorem dX12_orders_50 : decode cX12_orders 50 = .ok (.aload_n 0, 1) := by decide +kernel
theorem dX12_orders_51 : decode cX12_orders 51 = .ok (.getfield 235, 3) := by decide +kernel
theorem dX12_orders_54 : decode cX12_orders 54 = .ok (.ifCond .eq 10, 3) := by decide +kernel
theorem dX12_orders_57 : decode cX12_orders 57 = .ok (.aload_n 0, 1) := by decide +kernel
theorem dX12_orders_58 : decode cX12_orders 58 = .ok (.bipush (-6), 2) := by decide +kernel
theorem dX12_orders_60 : decode cX12_orders 60 = .ok (.invokevirtual 161, 3) := by decide +kernel
theorem dX12_orders_63 : decode cX12_orders 63 = .ok (.ireturn, 1) := by decide +kernel
theorem dX12_orders_64 : decode cX12_orders 64 = .ok (.aload_n 0, 1) := by decide +kernel
theorem dX12_orders_65 : decode cX12_orders 65 = .ok (.bipush 17, 2) := by decide +kernel
theorem dX12_orders_67 : decode cX12_orders 67 = .ok (.invokevirtual 165, 3) := by decide +kernel
theorem dX12_orders_70 : decode cX12_orders 70 = .ok (.aload_n 0, 1) := by decide +kernel
theorem dX12_orders_71 : decode cX12_orders 71 = .ok (.getfield 158, 3) := by decide +kernel
theorem dX12_orders_74 : decode cX12_orders 74 = .ok (.istore_n 1, 1) := by decide +kernel
theorem dX12_orders_75 : decode cX12_orders 75 = .ok (.iconst 0, 1) := by decide +kernel
theorem dX12_orders_76 : decode cX12_orders 76 = .ok (.istore_n 2, 1) := by decide +kernel
theorem dX12_orders_77 : decode cX12_orders 77 = .ok (.iload_n 2, 1) := by decide +kernel
theorem dX12_orders_78 : decode cX12_orders 78 = .ok (.sipush 832, 3) := by decide +kernel
theorem dX12_orders_81 : decode cX12_orders 81 = .ok (.if_icmp .ge 21, 3) := by decide +kernel
theorem dX12_orders_84 : decode cX12_orders 84 = .ok (.aload_n 0, 1) := by decide +kernel
theorem dX12_orders_85 : decode cX12_orders 85 = .ok (.getfield 29, 3) := by decide +kernel
theorem dX12_orders_88 : decode cX12_orders 88 = .ok (.iload_n 2, 1) := by decide +kernel
theorem dX12_orders_89 : decode cX12_orders 89 = .ok (.aload_n 0, 1) := by decide +kernel
theorem dX12_orders_90 : decode cX12_orders 90 = .ok (.getfield 23, 3) := by decide +kernel
theorem dX12_orders_93 : decode cX12_orders 93 = .ok (.iload_n 2, 1) := by decide +kernel
theorem dX12_orders_94 : decode cX12_orders 94 = .ok (.iaload, 1) := by decide +kernel
theorem dX12_orders_95 : decode cX12_orders 95 = .ok (.iastore, 1) := by decide +kernel
theorem dX12_orders_96 : decode cX12_orders 96 = .ok (.iinc 2 1, 3) := by decide +kernel
theorem dX12_orders_99 : decode cX12_orders 99 = .ok (.goto (-22), 3) := by decide +kernel
theorem dX12_orders_102 : decode cX12_orders 102 = .ok (.iconst 0, 1) := by decide +kernel
theorem dX12_orders_103 : decode cX12_orders 103 = .ok (.istore_n 2, 1) := by decide +kernel
theorem dX12_orders_104 : decode cX12_orders 104 = .ok (.iload_n 2, 1) := by decide +kernel
theorem dX12_orders_105 : decode cX12_orders 105 = .ok (.bipush 16, 2) := by decide +kernel
theorem dX12_orders_107 : decode cX12_orders 107 = .ok (.if_icmp .ge 21, 3) := by decide +kernel
theorem dX12_orders_110 : decode cX12_orders 110 = .ok (.aload_n 0, 1) := by decide +kernel
theorem dX12_orders_111 : decode cX12_orders 111 = .ok (.getfield 32, 3) := by decide +kernel
theorem dX12_orders_114 : decode cX12_orders 114 = .ok (.iload_n 2, 1) := by decide +kernel
theorem dX12_orders_115 : decode cX12_orders 115 = .ok (.aload_n 0, 1) := by decide +kernel
theorem dX12_orders_116 : decode cX12_orders 116 = .ok (.getfield 26, 3) := by decide +kernel
theorem dX12_orders_119 : decode cX12_orders 119 = .ok (.iload_n 2, 1) := by decide +kernel
theorem dX12_orders_120 : decode cX12_orders 120 = .ok (.iaload, 1) := by decide +kernel
theorem dX12_orders_121 : decode cX12_orders 121 = .ok (.iastore, 1) := by decide +kernel
theorem dX12_orders_122 : decode cX12_orders 122 = .ok (.iinc 2 1, 3) := by decide +kernel
theorem dX12_orders_125 : decode cX12_orders 125 = .ok (.goto (-21), 3) := by decide +kernel
theorem dX12_orders_128 : decode cX12_orders 128 = .ok (.aload_n 0, 1) := by decide +kernel
theorem dX12_orders_129 : decode cX12_orders 129 = .ok (.iconst 0, 1) := by decide +kernel
theorem dX12_orders_130 : decode cX12_orders 130 = .ok (.putfield 509, 3) := by decide +kernel
theorem dX12_orders_133 : decode cX12_orders 133 = .ok (.aload_n 0, 1) := by decide +kernel
theorem dX12_orders_134 : decode cX12_orders 134 = .ok (.iconst (-1), 1) := by decide +kernel
theorem dX12_orders_135 : decode cX12_orders 135 = .ok (.putfield 512, 3) := by decide +kernel
theorem dX12_orders_138 : decode cX12_orders 138 = .ok (.iconst 0, 1) := by decide +kernel
theorem dX12_orders_139 : decode cX12_orders 139 = .ok (.istore_n 2, 1) := by decide +kernel
theorem dX12_orders_140 : decode cX12_orders 140 = .ok (.iload_n 2, 1) := by decide +kernel
theorem dX12_orders_141 : decode cX12_orders 141 = .ok (.aload_n 0, 1) := by decide +kernel
theorem dX12_orders_142 : decode cX12_orders 142 = .ok (.getfield 359, 3) := by decide +kernel
theorem dX12_orders_145 : decode cX12_orders 145 = .ok (.if_icmp .ge 61, 3) := by decide +kernel
theorem dX12_orders_148 : decode cX12_orders 148 = .ok (.iconst 0, 1) := by decide +kernel
theorem dX12_orders_149 : decode cX12_orders 149 = .ok (.istore_n 3, 1) := by decide +kernel
theorem dX12_orders_150 : decode cX12_orders 150 = .ok (.iload_n 3, 1) := by decide +kernel
theorem dX12_orders_151 : decode cX12_orders 151 = .ok (.aload_n 0, 1) := by decide +kernel
theorem dX12_orders_152 : decode cX12_orders 152 = .ok (.getfield 143, 3) := by decide +kernel
theorem dX12_orders_155 : decode cX12_orders 155 = .ok (.bipush 8, 2) := by decide +kernel
theorem dX12_orders_157 : decode cX12_orders 157 = .ok (.iload_n 2, 1) := by decide +kernel
theorem dX12_orders_158 : decode cX12_orders 158 = .ok (.imul, 1) := by decide +kernel
theorem dX12_orders_159 : decode cX12_orders 159 = .ok (.bipush 7, 2) := by decide +kernel
theorem dX12_orders_161 : decode cX12_orders 161 = .ok (.iadd, 1) := by decide +kernel
theorem dX12_orders_162 : decode cX12_orders 162 = .ok (.iaload, 1) := by decide +kernel
theorem dX12_orders_163 : decode cX12_orders 163 = .ok (.if_icmp .ge 37, 3) := by decide +kernel
theorem dX12_orders_166 : decode cX12_orders 166 = .ok (.aload_n 0, 1) := by decide +kernel
theorem dX12_orders_167 : decode cX12_orders 167 = .ok (.bipush 8, 2) := by decide +kernel
theorem dX12_orders_169 : decode cX12_orders 169 = .ok (.iload_n 2, 1) := by decide +kernel
theorem dX12_orders_170 : decode cX12_orders 170 = .ok (.imul, 1) := by decide +kernel
theorem dX12_orders_171 : decode cX12_orders 171 = .ok (.invokevirtual 528, 3) := by decide +kernel
theorem dX12_orders_174 : decode cX12_orders 174 = .ok (.ifCond .ge 20, 3) := by decide +kernel
theorem dX12_orders_177 : decode cX12_orders 177 = .ok (.aload_n 0, 1) := by decide +kernel
theorem dX12_orders_178 : decode cX12_orders 178 = .ok (.iload_n 1, 1) := by decide +kernel
theorem dX12_orders_179 : decode cX12_orders 179 = .ok (.invokevirtual 531, 3) := by decide +kernel
theorem dX12_orders_182 : decode cX12_orders 182 = .ok (.aload_n 0, 1) := by decide +kernel
theorem dX12_orders_183 : decode cX12_orders 183 = .ok (.iload_n 2, 1) := by decide +kernel
theorem dX12_orders_184 : decode cX12_orders 184 = .ok (.putfield 146, 3) := by decide +kernel
theorem dX12_orders_187 : decode cX12_orders 187 = .ok (.aload_n 0, 1) := by decide +kernel
theorem dX12_orders_188 : decode cX12_orders 188 = .ok (.bipush (-3), 2) := by decide +kernel
theorem dX12_orders_190 : decode cX12_orders 190 = .ok (.invokevirtual 161, 3) := by decide +kernel
theorem dX12_orders_193 : decode cX12_orders 193 = .ok (.ireturn, 1) := by decide +kernel
theorem dX12_orders_194 : decode cX12_orders 194 = .ok (.iinc 3 1, 3) := by decide +kernel
theorem dX12_orders_197 : decode cX12_orders 197 = .ok (.goto (-47), 3) := by decide +kernel
theorem dX12_orders_200 : decode cX12_orders 200 = .ok (.iinc 2 1, 3) := by decide +kernel
theorem dX12_orders_203 : decode cX12_orders 203 = .ok (.goto (-63), 3) := by decide +kernel
theorem dX12_orders_206 : decode cX12_orders 206 = .ok (.aload_n 0, 1) := by decide +kernel
theorem dX12_orders_207 : decode cX12_orders 207 = .ok (.aload_n 0, 1) := by decide +kernel
theorem dX12_orders_208 : decode cX12_orders 208 = .ok (.getfield 509, 3) := by decide +kernel
theorem dX12_orders_211 : decode cX12_orders 211 = .ok (.invokevirtual 161, 3) := by decide +kernel
theorem dX12_orders_214 : decode cX12_orders 214 = .ok (.ireturn, 1) := by decide +kernel
set_option maxRecDepth 100000 in
theorem okm_X12_orders : okL RX12 cX12_orders 4 (some .int) "orders" pcX12_orders opX12_orders pcX12_orders := by
  unfold opX12_orders
  refine okL_cons (ok_aload_n rfl dX12_orders_0) rfl ?_
  refine okL_cons (ok_iconst rfl dX12_orders_1) rfl ?_
  refine okL_cons (ok_putI kw_717 cf_X12 rfl rfl (by decide) rfl dX12_orders_2) rfl ?_
  refine okL_cons (ok_aload_n rfl dX12_orders_5) rfl ?_
  refine okL_cons (ok_iconst rfl dX12_orders_6) rfl ?_
  refine okL_cons (ok_putI kw_704 cf_X12 rfl rfl (by decide) rfl dX12_orders_7) rfl ?_
  refine okL_cons (ok_aload_n rfl dX12_orders_10) rfl ?_
  refine okL_cons (ok_iconst rfl dX12_orders_11) rfl ?_
  refine okL_cons (ok_invV (M' := 218) kw_889 kw_890 kw_891 kw_711 kw_892 cf_X12 rfl (by decide +kernel) dX12_orders_12) rfl ?_
  refine okL_cons (ok_aload_n rfl dX12_orders_15) rfl ?_
  refine okL_cons (ok_invV (M' := 274) kw_1052 kw_1053 kw_1054 kw_711 kw_1055 cf_X12 rfl (by decide +kernel) dX12_orders_16) rfl ?_
  refine okL_cons (ok_aload_n rfl dX12_orders_19) rfl ?_
  refine okL_cons (ok_getI kw_778 cf_X12 rfl rfl (by decide) dX12_orders_20) rfl ?_
  refine okL_cons (ok_if_ne rfl dX12_orders_23) rfl ?_
  refine okL_cons (ok_aload_n rfl dX12_orders_26) rfl ?_
  refine okL_cons (ok_bipush rfl dX12_orders_27) rfl ?_
  refine okL_cons (ok_invV (M' := 199) kw_822 kw_823 kw_824 kw_711 kw_825 cf_X12 rfl (by decide +kernel) dX12_orders_29) rfl ?_
  refine okL_cons (ok_if_eq rfl dX12_orders_32) rfl ?_
  refine okL_cons (ok_aload_n rfl dX12_orders_35) rfl ?_
  refine okL_cons (ok_invV (M' := 197) kw_779 kw_780 kw_781 kw_711 kw_782 cf_X12 rfl (by decide +kernel) dX12_orders_36) rfl ?_
  refine okL_cons (ok_aload_n rfl dX12_orders_39) rfl ?_
  refine okL_cons (ok_invV (M' := 274) kw_1052 kw_1053 kw_1054 kw_711 kw_1055 cf_X12 rfl (by decide +kernel) dX12_orders_40) rfl ?_
  refine okL_cons (ok_goto rfl dX12_orders_43) rfl ?_
  refine okL_cons (ok_aload_n rfl dX12_orders_46) rfl ?_
  refine okL_cons (ok_invV (M' := 219) kw_897 kw_898 kw_899 kw_711 kw_900 cf_X12 rfl (by decide +kernel) dX12_orders_47) rfl ?_
  refine okL_cons (ok_aload_n rfl dX12_orders_50) rfl ?_
  refine okL_cons (ok_getI kw_778 cf_X12 rfl rfl (by decide) dX12_orders_51) rfl ?_
  refine okL_cons (ok_if_eq rfl dX12_orders_54) rfl ?_
  refine okL_cons (ok_aload_n rfl dX12_orders_57) rfl ?_
  refine okL_cons (ok_bipush rfl dX12_orders_58) rfl ?_
  refine okL_cons (ok_invV (M' := 169) kw_708 kw_709 kw_710 kw_711 kw_712 cf_X12 rfl (by decide +kernel) dX12_orders_60) rfl ?_
  refine okL_cons (ok_ireturn rfl dX12_orders_63) rfl ?_
  refine okL_cons (ok_aload_n rfl dX12_orders_64) rfl ?_
  refine okL_cons (ok_bipush rfl dX12_orders_65) rfl ?_
  refine okL_cons (ok_invV (M' := 172) kw_713 kw_714 kw_715 kw_711 kw_716 cf_X12 rfl (by decide +kernel) dX12_orders_67) rfl ?_
  refine okL_cons (ok_aload_n rfl dX12_orders_70) rfl ?_
  refine okL_cons (ok_getI kw_707 cf_X12 rfl rfl (by decide) dX12_orders_71) rfl ?_
  refine okL_cons (ok_istore_n rfl dX12_orders_74) rfl ?_
  refine okL_cons (ok_iconst rfl dX12_orders_75) rfl ?_
  refine okL_cons (ok_istore_n rfl dX12_orders_76) rfl ?_
  refine okL_cons (ok_iload_n rfl dX12_orders_77) rfl ?_
  refine okL_cons (ok_sipush rfl dX12_orders_78) rfl ?_
  refine okL_cons (ok_icmp_ge rfl dX12_orders_81) rfl ?_
  refine okL_cons (ok_aload_n rfl dX12_orders_84) rfl ?_
  refine okL_cons (ok_getP kw_659 cf_X12 rfl rfl (by decide) dX12_orders_85) rfl ?_
  refine okL_cons (ok_iload_n rfl dX12_orders_88) rfl ?_
  refine okL_cons (ok_aload_n rfl dX12_orders_89) rfl ?_
  refine okL_cons (ok_getP kw_657 cf_X12 rfl rfl (by decide) dX12_orders_90) rfl ?_
  refine okL_cons (ok_iload_n rfl dX12_orders_93) rfl ?_
  refine okL_cons (ok_iaload dX12_orders_94) rfl ?_
  refine okL_cons (ok_iastore dX12_orders_95) rfl ?_
  refine okL_cons (ok_iinc rfl dX12_orders_96) rfl ?_
  refine okL_cons (ok_goto rfl dX12_orders_99) rfl ?_
  refine okL_cons (ok_iconst rfl dX12_orders_102) rfl ?_
  refine okL_cons (ok_istore_n rfl dX12_orders_103) rfl ?_
  refine okL_cons (ok_iload_n rfl dX12_orders_104) rfl ?_
  refine okL_cons (ok_bipush rfl dX12_orders_105) rfl ?_
  refine okL_cons (ok_icmp_ge rfl dX12_orders_107) rfl ?_
  refine okL_cons (ok_aload_n rfl dX12_orders_110) rfl ?_
  refine okL_cons (ok_getP kw_660 cf_X12 rfl rfl (by decide) dX12_orders_111) rfl ?_
  refine okL_cons (ok_iload_n rfl dX12_orders_114) rfl ?_
  refine okL_cons (ok_aload_n rfl dX12_orders_115) rfl ?_
  refine okL_cons (ok_getP kw_658 cf_X12 rfl rfl (by decide) dX12_orders_116) rfl ?_
  refine okL_cons (ok_iload_n rfl dX12_orders_119) rfl ?_
  refine okL_cons (ok_iaload dX12_orders_120) rfl ?_
  refine okL_cons (ok_iastore dX12_orders_121) rfl ?_
  refine okL_cons (ok_iinc rfl dX12_orders_122) rfl ?_
  refine okL_cons (ok_goto rfl dX12_orders_125) rfl ?_
  refine okL_cons (ok_aload_n rfl dX12_orders_128) rfl ?_
  refine okL_cons (ok_iconst rfl dX12_orders_129) rfl ?_
  refine okL_cons (ok_putI kw_1038 cf_X12 rfl rfl (by decide) rfl dX12_orders_130) rfl ?_
  refine okL_cons (ok_aload_n rfl dX12_orders_133) rfl ?_
  refine okL_cons (ok_iconst rfl dX12_orders_134) rfl ?_
  refine okL_cons (ok_putI kw_1039 cf_X12 rfl rfl (by decide) rfl dX12_orders_135) rfl ?_
  refine okL_cons (ok_iconst rfl dX12_orders_138) rfl ?_
  refine okL_cons (ok_istore_n rfl dX12_orders_139) rfl ?_
  refine okL_cons (ok_iload_n rfl dX12_orders_140) rfl ?_
  refine okL_cons (ok_aload_n rfl dX12_orders_141) rfl ?_
  refine okL_cons (ok_getI kw_883 cf_X12 rfl rfl (by decide) dX12_orders_142) rfl ?_
  refine okL_cons (ok_icmp_ge rfl dX12_orders_145) rfl ?_
  refine okL_cons (ok_iconst rfl dX12_orders_148) rfl ?_
  refine okL_cons (ok_istore_n rfl dX12_orders_149) rfl ?_
  refine okL_cons (ok_iload_n rfl dX12_orders_150) rfl ?_
  refine okL_cons (ok_aload_n rfl dX12_orders_151) rfl ?_
  refine okL_cons (ok_getP kw_703 cf_X12 rfl rfl (by decide) dX12_orders_152) rfl ?_
  refine okL_cons (ok_bipush rfl dX12_orders_155) rfl ?_
  refine okL_cons (ok_iload_n rfl dX12_orders_157) rfl ?_
  refine okL_cons (ok_imul dX12_orders_158) rfl ?_
  refine okL_cons (ok_bipush rfl dX12_orders_159) rfl ?_
  refine okL_cons (ok_iadd dX12_orders_161) rfl ?_
  refine okL_cons (ok_iaload dX12_orders_162) rfl ?_
  refine okL_cons (ok_icmp_ge rfl dX12_orders_163) rfl ?_
  refine okL_cons (ok_aload_n rfl dX12_orders_166) rfl ?_
  refine okL_cons (ok_bipush rfl dX12_orders_167) rfl ?_
  refine okL_cons (ok_iload_n rfl dX12_orders_169) rfl ?_
  refine okL_cons (ok_imul dX12_orders_170) rfl ?_
  refine okL_cons (ok_invV (M' := 277) kw_1056 kw_1057 kw_1058 kw_711 kw_1059 cf_X12 rfl (by decide +kernel) dX12_orders_171) rfl ?_
  refine okL_cons (ok_if_ge rfl dX12_orders_174) rfl ?_
  refine okL_cons (ok_aload_n rfl dX12_orders_177) rfl ?_
  refine okL_cons (ok_iload_n rfl dX12_orders_178) rfl ?_
  refine okL_cons (ok_invV (M' := 279) kw_1060 kw_1061 kw_1062 kw_711 kw_1063 cf_X12 rfl (by decide +kernel) dX12_orders_179) rfl ?_
  refine okL_cons (ok_aload_n rfl dX12_orders_182) rfl ?_
  refine okL_cons (ok_iload_n rfl dX12_orders_183) rfl ?_
  refine okL_cons (ok_putI kw_704 cf_X12 rfl rfl (by decide) rfl dX12_orders_184) rfl ?_
  refine okL_cons (ok_aload_n rfl dX12_orders_187) rfl ?_
  refine okL_cons (ok_bipush rfl dX12_orders_188) rfl ?_
  refine okL_cons (ok_invV (M' := 169) kw_708 kw_709 kw_710 kw_711 kw_712 cf_X12 rfl (by decide +kernel) dX12_orders_190) rfl ?_
  refine okL_cons (ok_ireturn rfl dX12_orders_193) rfl ?_
  refine okL_cons (ok_iinc rfl dX12_orders_194) rfl ?_
  refine okL_cons (ok_goto rfl dX12_orders_197) rfl ?_
  refine okL_cons (ok_iinc rfl dX12_orders_200) rfl ?_
  refine okL_cons (ok_goto rfl dX12_orders_203) rfl ?_
  refine okL_cons (ok_aload_n rfl dX12_orders_206) rfl ?_
  refine okL_cons (ok_aload_n rfl dX12_orders_207) rfl ?_
  refine okL_cons (ok_getI kw_1038 cf_X12 rfl rfl (by decide) dX12_orders_208) rfl ?_
  refine okL_cons (ok_invV (M' := 169) kw_708 kw_709 kw_710 kw_711 kw_712 cf_X12 rfl (by decide +kernel) dX12_orders_211) rfl ?_
  exact okL_one (ok_ireturn rfl dX12_orders_214)
theorem dX12_giveBack_0 : decode cX12_giveBack 0 = .ok (.aload_n 0, 1) := by decide +kernel
theorem dX12_giveBack_1 : decode cX12_giveBack 1 = .ok (.bipush 17, 2) := by decide +kernel
theorem dX12_giveBack_3 : decode cX12_giveBack 3 = .ok (.invokevirtual 169, 3) := by decide +kernel
theorem dX12_giveBack_6 : decode cX12_giveBack 6 = .ok (.iconst 0, 1) := by decide +kernel
theorem dX12_giveBack_7 : decode cX12_giveBack 7 = .ok (.istore_n 2, 1) := by decide +kernel
theorem dX12_giveBack_8 : decode cX12_giveBack 8 = .ok (.iload_n 2, 1) := by decide +kernel
theorem dX12_giveBack_9 : decode cX12_giveBack 9 = .ok (.sipush 832, 3) := by decide +kernel
theorem dX12_giveBack_12 : decode cX12_giveBack 12 = .ok (.if_icmp .ge 21, 3) := by decide +kernel
theorem dX12_giveBack_15 : decode cX12_giveBack 15 = .ok (.aload_n 0, 1) := by decide +kernel
theorem dX12_giveBack_16 : decode cX12_giveBack 16 = .ok (.getfield 23, 3) := by decide +kernel
theorem dX12_giveBack_19 : decode cX12_giveBack 19 = .ok (.iload_n 2, 1) := by decide +kernel
theorem dX12_giveBack_20 : decode cX12_giveBack 20 = .ok (.aload_n 0, 1) := by decide +kernel
theorem dX12_giveBack_21 : decode cX12_giveBack 21 = .ok (.getfield 29, 3) := by decide +kernel
theorem dX12_giveBack_24 : decode cX12_giveBack 24 = .ok (.iload_n 2, 1) := by decide +kernel
theorem dX12_giveBack_25 : decode cX12_giveBack 25 = .ok (.iaload, 1) := by decide +kernel
theorem dX12_giveBack_26 : decode cX12_giveBack 26 = .ok (.iastore, 1) := by decide +kernel
theorem dX12_giveBack_27 : decode cX12_giveBack 27 = .ok (.iinc 2 1, 3) := by decide +kernel
theorem dX12_giveBack_30 : decode cX12_giveBack 30 = .ok (.goto (-22), 3) := by decide +kernel
theorem dX12_giveBack_33 : decode cX12_giveBack 33 = .ok (.iconst 0, 1) := by decide +kernel
theorem dX12_giveBack_34 : decode cX12_giveBack 34 = .ok (.istore_n 2, 1) := by decide +kernel
theorem dX12_giveBack_35 : decode cX12_giveBack 35 = .ok (.iload_n 2, 1) := by decide +kernel
theorem dX12_giveBack_36 : decode cX12_giveBack 36 = .ok (.bipush 16, 2) := by decide +kernel
theorem dX12_giveBack_38 : decode cX12_giveBack 38 = .ok (.if_icmp .ge 21, 3) := by decide +kernel
theorem dX12_giveBack_41 : decode cX12_giveBack 41 = .ok (.aload_n 0, 1) := by decide +kernel
theorem dX12_giveBack_42 : decode cX12_giveBack 42 = .ok (.getfield 26, 3) := by decide +kernel
theorem dX12_giveBack_45 : decode cX12_giveBack 45 = .ok (.iload_n 2, 1) := by decide +kernel
theorem dX12_giveBack_46 : decode cX12_giveBack 46 = .ok (.aload_n 0, 1) := by decide +kernel
theorem dX12_giveBack_47 : decode cX12_giveBack 47 = .ok (.getfield 32, 3) := by decide +kernel
theorem dX12_giveBack_50 : decode cX12_giveBack 50 = .ok (.iload_n 2, 1) := by decide +kernel
theorem dX12_giveBack_51 : decode cX12_giveBack 51 = .ok (.iaload, 1) := by decide +kernel
theorem dX12_giveBack_52 : decode cX12_giveBack 52 = .ok (.iastore, 1) := by decide +kernel
theorem dX12_giveBack_53 : decode cX12_giveBack 53 = .ok (.iinc 2 1, 3) := by decide +kernel
theorem dX12_giveBack_56 : decode cX12_giveBack 56 = .ok (.goto (-21), 3) := by decide +kernel
theorem dX12_giveBack_59 : decode cX12_giveBack 59 = .ok (.aload_n 0, 1) := by decide +kernel
theorem dX12_giveBack_60 : decode cX12_giveBack 60 = .ok (.iload_n 1, 1) := by decide +kernel
theorem dX12_giveBack_61 : decode cX12_giveBack 61 = .ok (.putfield 158, 3) := by decide +kernel
theorem dX12_giveBack_64 : decode cX12_giveBack 64 = .ok (.return_, 1) := by decide +kernel
set_option maxRecDepth 100000 in
theorem okm_X12_giveBack : okL RX12 cX12_giveBack 3 none "giveBack" pcX12_giveBack opX12_giveBack pcX12_giveBack := by
  unfold opX12_giveBack
  refine okL_cons (ok_aload_n rfl dX12_giveBack_0) rfl ?_
  refine okL_cons (ok_bipush rfl dX12_giveBack_1) rfl ?_
  refine okL_cons (ok_invV (M' := 173) kw_718 kw_719 kw_720 kw_711 kw_721 cf_X12 rfl (by decide +kernel) dX12_giveBack_3) rfl ?_
  refine okL_cons (ok_iconst rfl dX12_giveBack_6) rfl ?_
  refine okL_cons (ok_istore_n rfl dX12_giveBack_7) rfl ?_
  refine okL_cons (ok_iload_n rfl dX12_giveBack_8) rfl ?_
  refine okL_cons (ok_sipush rfl dX12_giveBack_9) rfl ?_
  refine okL_cons (ok_icmp_ge rfl dX12_giveBack_12) rfl ?_
  refine okL_cons (ok_aload_n rfl dX12_giveBack_15) rfl ?_
  refine okL_cons (ok_getP kw_657 cf_X12 rfl rfl (by decide) dX12_giveBack_16) rfl ?_
  refine okL_cons (ok_iload_n rfl dX12_giveBack_19) rfl ?_
  refine okL_cons (ok_aload_n rfl dX12_giveBack_20) rfl ?_
  refine okL_cons (ok_getP kw_659 cf_X12 rfl rfl (by decide) dX12_giveBack_21) rfl ?_
  refine okL_cons (ok_iload_n rfl dX12_giveBack_24) rfl ?_
  refine okL_cons (ok_iaload dX12_giveBack_25) rfl ?_
  refine okL_cons (ok_iastore dX12_giveBack_26) rfl ?_
  refine okL_cons (ok_iinc rfl dX12_giveBack_27) rfl ?_
  refine okL_cons (ok_goto rfl dX12_giveBack_30) rfl ?_
  refine okL_cons (ok_iconst rfl dX12_giveBack_33) rfl ?_
  refine okL_cons (ok_istore_n rfl dX12_giveBack_34) rfl ?_
  refine okL_cons (ok_iload_n rfl dX12_giveBack_35) rfl ?_
  refine okL_cons (ok_bipush rfl dX12_giveBack_36) rfl ?_
  refine okL_cons (ok_icmp_ge rfl dX12_giveBack_38) rfl ?_
  refine okL_cons (ok_aload_n rfl dX12_giveBack_41) rfl ?_
  refine okL_cons (ok_getP kw_658 cf_X12 rfl rfl (by decide) dX12_giveBack_42) rfl ?_
  refine okL_cons (ok_iload_n rfl dX12_giveBack_45) rfl ?_
  refine okL_cons (ok_aload_n rfl dX12_giveBack_46) rfl ?_
  refine okL_cons (ok_getP kw_660 cf_X12 rfl rfl (by decide) dX12_giveBack_47) rfl ?_
  refine okL_cons (ok_iload_n rfl dX12_giveBack_50) rfl ?_
  refine okL_cons (ok_iaload dX12_giveBack_51) rfl ?_
  refine okL_cons (ok_iastore dX12_giveBack_52) rfl ?_
  refine okL_cons (ok_iinc rfl dX12_giveBack_53) rfl ?_
  refine okL_cons (ok_goto rfl dX12_giveBack_56) rfl ?_
  refine okL_cons (ok_aload_n rfl dX12_giveBack_59) rfl ?_
  refine okL_cons (ok_iload_n rfl dX12_giveBack_60) rfl ?_
  refine okL_cons (ok_putI kw_707 cf_X12 rfl rfl (by decide) rfl dX12_giveBack_61) rfl ?_
  exact okL_one (ok_return rfl dX12_giveBack_64)
theorem dX12_stopped_0 : decode cX12_stopped 0 = .ok (.aload_n 0, 1) := by decide +kernel
theorem dX12_stopped_1 : decode cX12_stopped 1 = .ok (.iconst 0, 1) := by decide +kernel
theorem dX12_stopped_2 : decode cX12_stopped 2 = .ok (.putfield 152, 3) := by decide +kernel
theorem dX12_stopped_5 : decode cX12_stopped 5 = .ok (.aload_n 0, 1) := by decide +kernel
theorem dX12_stopped_6 : decode cX12_stopped 6 = .ok (.getfield 146, 3) := by decide +kernel
theorem dX12_stopped_9 : decode cX12_stopped 9 = .ok (.ireturn, 1) := by decide +kernel
set_option maxRecDepth 100000 in
theorem okm_X12_stopped : okL RX12 cX12_stopped 1 (some .int) "stopped" pcX12_stopped opX12_stopped pcX12_stopped := by
  unfold opX12_stopped
  refine okL_cons (ok_aload_n rfl dX12_stopped_0) rfl ?_
  refine okL_cons (ok_iconst rfl dX12_stopped_1) rfl ?_
  refine okL_cons (ok_putI kw_717 cf_X12 rfl rfl (by decide) rfl dX12_stopped_2) rfl ?_
  refine okL_cons (ok_aload_n rfl dX12_stopped_5) rfl ?_
  refine okL_cons (ok_getI kw_704 cf_X12 rfl rfl (by decide) dX12_stopped_6) rfl ?_
  exact okL_one (ok_ireturn rfl dX12_stopped_9)
theorem dX12_draw_0 : decode cX12_draw 0 = .ok (.aload_n 0, 1) := by decide +kernel
theorem dX12_draw_1 : decode cX12_draw 1 = .ok (.aload_n 0, 1) := by decide +kernel
theorem dX12_draw_2 : decode cX12_draw 2 = .ok (.getfield 534, 3) := by decide +kernel
theorem dX12_draw_5 : decode cX12_draw 5 = .ok (.ldc2_w 537, 3) := by decide +kernel
theorem dX12_draw_8 : decode cX12_draw 8 = .ok (.lmul, 1) := by decide +kernel
theorem dX12_draw_9 : decode cX12_draw 9 = .ok (.ldc2_w 539, 3) := by decide +kernel
theorem dX12_draw_12 : decode cX12_draw 12 = .ok (.ladd, 1) := by decide +kernel
theorem dX12_draw_13 : decode cX12_draw 13 = .ok (.ldc2_w 541, 3) := by decide +kernel
theorem dX12_draw_16 : decode cX12_draw 16 = .ok (.lrem, 1) := by decide +kernel
theorem dX12_draw_17 : decode cX12_draw 17 = .ok (.putfield 534, 3) := by decide +kernel
theorem dX12_draw_20 : decode cX12_draw 20 = .ok (.aload_n 0, 1) := by decide +kernel
theorem dX12_draw_21 : decode cX12_draw 21 = .ok (.getfield 534, 3) := by decide +kernel
theorem dX12_draw_24 : decode cX12_draw 24 = .ok (.iload_n 1, 1) := by decide +kernel
theorem dX12_draw_25 : decode cX12_draw 25 = .ok (.i2l, 1) := by decide +kernel
theorem dX12_draw_26 : decode cX12_draw 26 = .ok (.lrem, 1) := by decide +kernel
theorem dX12_draw_27 : decode cX12_draw 27 = .ok (.l2i, 1) := by decide +kernel
theorem dX12_draw_28 : decode cX12_draw 28 = .ok (.ireturn, 1) := by decide +kernel
set_option maxRecDepth 100000 in
theorem okm_X12_draw : okL RX12 cX12_draw 2 (some .int) "draw" pcX12_draw opX12_draw pcX12_draw := by
  unfold opX12_draw
  refine okL_cons (ok_aload_n rfl dX12_draw_0) rfl ?_
  refine okL_cons (ok_aload_n rfl dX12_draw_1) rfl ?_
  refine okL_cons (ok_getJ kw_1064 cf_X12 rfl rfl (by decide) dX12_draw_2) rfl ?_
  refine okL_cons (ok_ldc2 kw_1065 dX12_draw_5) rfl ?_
  refine okL_cons (ok_lmul dX12_draw_8) rfl ?_
  refine okL_cons (ok_ldc2 kw_1066 dX12_draw_9) rfl ?_
  refine okL_cons (ok_ladd dX12_draw_12) rfl ?_
  refine okL_cons (ok_ldc2 kw_1067 dX12_draw_13) rfl ?_
  refine okL_cons (ok_lrem dX12_draw_16) rfl ?_
  refine okL_cons (ok_putJ kw_1064 cf_X12 rfl rfl (by decide) rfl dX12_draw_17) rfl ?_
  refine okL_cons (ok_aload_n rfl dX12_draw_20) rfl ?_
  refine okL_cons (ok_getJ kw_1064 cf_X12 rfl rfl (by decide) dX12_draw_21) rfl ?_
  refine okL_cons (ok_iload_n rfl dX12_draw_24) rfl ?_
  refine okL_cons (ok_i2l dX12_draw_25) rfl ?_
  refine okL_cons (ok_lrem dX12_draw_26) rfl ?_
  refine okL_cons (ok_l2i dX12_draw_27) rfl ?_
  exact okL_one (ok_ireturn rfl dX12_draw_28)
theorem dX12_days_0 : decode cX12_days 0 = .ok (.aload_n 0, 1) := by decide +kernel
theorem dX12_days_1 : decode cX12_days 1 = .ok (.iconst 0, 1) := by decide +kernel
theorem dX12_days_2 : decode cX12_days 2 = .ok (.putfield 152, 3) := by decide +kernel
theorem dX12_days_5 : decode cX12_days 5 = .ok (.iload_n 1, 1) := by decide +kernel
theorem dX12_days_6 : decode cX12_days 6 = .ok (.i2l, 1) := by decide +kernel
theorem dX12_days_7 : decode cX12_days 7 = .ok (.lconst 0, 1) := by decide +kernel
theorem dX12_days_8 : decode cX12_days 8 = .ok (.ldc2_w 264, 3) := by decide +kernel
theorem dX12_days_11 : decode cX12_days 11 = .ok (.invokestatic 172, 3) := by decide +kernel
theorem dX12_days_14 : decode cX12_days 14 = .ok (.ifCond .eq 15, 3) := by decide +kernel
theorem dX12_days_17 : decode cX12_days 17 = .ok (.iload_n 2, 1) := by decide +kernel
theorem dX12_days_18 : decode cX12_days 18 = .ok (.i2l, 1) := by decide +kernel
theorem dX12_days_19 : decode cX12_days 19 = .ok (.lconst 1, 1) := by decide +kernel
theorem dX12_days_20 : decode cX12_days 20 = .ok (.ldc2_w 442, 3) := by decide +kernel
theorem dX12_days_23 : decode cX12_days 23 = .ok (.invokestatic 172, 3) := by decide +kernel
theorem dX12_days_26 : decode cX12_days 26 = .ok (.ifCond .ne 9, 3) := by decide +kernel
theorem dX12_days_29 : decode cX12_days 29 = .ok (.aload_n 0, 1) := by decide +kernel
theorem dX12_days_30 : decode cX12_days 30 = .ok (.iconst (-1), 1) := by decide +kernel
theorem dX12_days_31 : decode cX12_days 31 = .ok (.invokevirtual 161, 3) := by decide +kernel
theorem dX12_days_34 : decode cX12_days 34 = .ok (.ireturn, 1) := by decide +kernel
theorem dX12_days_35 : decode cX12_days 35 = .ok (.aload_n 0, 1) := by decide +kernel
theorem dX12_days_36 : decode cX12_days 36 = .ok (.bipush 16, 2) := by decide +kernel
theorem dX12_days_38 : decode cX12_days 38 = .ok (.invokevirtual 165, 3) := by decide +kernel
theorem dX12_days_41 : decode cX12_days 41 = .ok (.aload_n 0, 1) := by decide +kernel
theorem dX12_days_42 : decode cX12_days 42 = .ok (.iload_n 1, 1) := by decide +kernel
theorem dX12_days_43 : decode cX12_days 43 = .ok (.i2l, 1) := by decide +kernel
theorem dX12_days_44 : decode cX12_days 44 = .ok (.putfield 534, 3) := by decide +kernel
theorem dX12_days_47 : decode cX12_days 47 = .ok (.iconst 0, 1) := by decide +kernel
theorem dX12_days_48 : decode cX12_days 48 = .ok (.istore_n 3, 1) := by decide +kernel
theorem dX12_days_49 : decode cX12_days 49 = .ok (.iload_n 3, 1) := by decide +kernel
theorem dX12_days_50 : decode cX12_days 50 = .ok (.iload_n 2, 1) := by decide +kernel
theorem dX12_days_51 : decode cX12_days 51 = .ok (.if_icmp .ge 131, 3) := by decide +kernel
theorem dX12_days_54 : decode cX12_days 54 = .ok (.aload_n 0, 1) := by decide +kernel
theorem dX12_days_55 : decode cX12_days 55 = .ok (.getfield 13, 3) := by decide +kernel
theorem dX12_days_58 : decode cX12_days 58 = .ok (.iconst 4, 1) := by decide +kernel
theorem dX12_days_59 : decode cX12_days 59 = .ok (.iaload, 1) := by decide +kernel
theorem dX12_days_60 : decode cX12_days 60 = .ok (.sipush 999, 3) := by decide +kernel
theorem dX12_days_63 : decode cX12_days 63 = .ok (.if_icmp .ge 119, 3) := by decide +kernel
theorem dX12_days_66 : decode cX12_days 66 = .ok (.aload_n 0, 1) := by decide +kernel
theorem dX12_days_67 : decode cX12_days 67 = .ok (.bipush 8, 2) := by decide +kernel
theorem dX12_days_69 : decode cX12_days 69 = .ok (.invokevirtual 543, 3) := by decide +kernel
theorem dX12_days_72 : decode cX12_days 72 = .ok (.istore 4, 2) := by decide +kernel
theorem dX12_days_74 : decode cX12_days 74 = .ok (.aload_n 0, 1) := by decide +kernel
theorem dX12_days_75 : decode cX12_days 75 = .ok (.bipush 25, 2) := by decide +kernel
theorem dX12_days_77 : decode cX12_days 77 = .ok (.invokevirtual 543, 3) := by decide +kernel
theorem dX12_days_80 : decode cX12_days 80 = .ok (.istore 5, 2) := by decide +kernel
theorem dX12_days_82 : decode cX12_days 82 = .ok (.aload_n 0, 1) := by decide +kernel
theorem dX12_days_83 : decode cX12_days 83 = .ok (.iconst 4, 1) := by decide +kernel
theorem dX12_days_84 : decode cX12_days 84 = .ok (.invokevirtual 543, 3) := by decide +kernel
theorem dX12_days_87 : decode cX12_days 87 = .ok (.istore 6, 2) := by decide +kernel
theorem dX12_days_89 : decode cX12_days 89 = .ok (.iload 6, 2) := by decide +kernel
theorem dX12_days_91 : decode cX12_days 91 = .ok (.iconst 2, 1) := by decide +kernel
theorem dX12_days_92 : decode cX12_days 92 = .ok (.if_icmp .ge 39, 3) := by decide +kernel
theorem dX12_days_95 : decode cX12_days 95 = .ok (.aload_n 0, 1) := by decide +kernel
theorem dX12_days_96 : decode cX12_days 96 = .ok (.getfield 13, 3) := by decide +kernel
theorem dX12_days_99 : decode cX12_days 99 = .ok (.bipush 32, 2) := by decide +kernel
theorem dX12_days_101 : decode cX12_days 101 = .ok (.iload 4, 2) := by decide +kernel
theorem dX12_days_103 : decode cX12_days 103 = .ok (.iadd, 1) := by decide +kernel
theorem dX12_days_104 : decode cX12_days 104 = .ok (.iaload, 1) := by decide +kernel
theorem dX12_days_105 : decode cX12_days 105 = .ok (.ifCond .ne 26, 3) := by decide +kernel
theorem dX12_days_108 : decode cX12_days 108 = .ok (.aload_n 0, 1) := by decide +kernel
theorem dX12_days_109 : decode cX12_days 109 = .ok (.getfield 13, 3) := by decide +kernel
theorem dX12_days_112 : decode cX12_days 112 = .ok (.bipush 32, 2) := by decide +kernel
theorem dX12_days_114 : decode cX12_days 114 = .ok (.iload 4, 2) := by decide +kernel
theorem dX12_days_116 : decode cX12_days 116 = .ok (.iadd, 1) := by decide +kernel
theorem dX12_days_117 : decode cX12_days 117 = .ok (.iconst 1, 1) := by decide +kernel
theorem dX12_days_118 : decode cX12_days 118 = .ok (.iastore, 1) := by decide +kernel
theorem dX12_days_119 : decode cX12_days 119 = .ok (.aload_n 0, 1) := by decide +kernel
theorem dX12_days_120 : decode cX12_days 120 = .ok (.getfield 13, 3) := by decide +kernel
theorem dX12_days_123 : decode cX12_days 123 = .ok (.bipush 40, 2) := by decide +kernel
theorem dX12_days_125 : decode cX12_days 125 = .ok (.iload 4, 2) := by decide +kernel
theorem dX12_days_127 : decode cX12_days 127 = .ok (.iadd, 1) := by decide +kernel
theorem dX12_days_128 : decode cX12_days 128 = .ok (.iload 5, 2) := by decide +kernel
theorem dX12_days_130 : decode cX12_days 130 = .ok (.iastore, 1) := by decide +kernel
theorem dX12_days_131 : decode cX12_days 131 = .ok (.iload 6, 2) := by decide +kernel
theorem dX12_days_133 : decode cX12_days 133 = .ok (.iconst 2, 1) := by decide +kernel
theorem dX12_days_134 : decode cX12_days 134 = .ok (.if_icmp .ne 37, 3) := by decide +kernel
theorem dX12_days_137 : decode cX12_days 137 = .ok (.aload_n 0, 1) := by decide +kernel
theorem dX12_days_138 : decode cX12_days 138 = .ok (.iload 4, 2) := by decide +kernel
theorem dX12_days_140 : decode cX12_days 140 = .ok (.iload 5, 2) := by decide +kernel
theorem dX12_days_142 : decode cX12_days 142 = .ok (.iconst 4, 1) := by decide +kernel
theorem dX12_days_143 : decode cX12_days 143 = .ok (.irem, 1) := by decide +kernel
theorem dX12_days_144 : decode cX12_days 144 = .ok (.invokevirtual 430, 3) := by decide +kernel
theorem dX12_days_147 : decode cX12_days 147 = .ok (.iconst (-1), 1) := by decide +kernel
theorem dX12_days_148 : decode cX12_days 148 = .ok (.if_icmp .eq 23, 3) := by decide +kernel
theorem dX12_days_151 : decode cX12_days 151 = .ok (.aload_n 0, 1) := by decide +kernel
theorem dX12_days_152 : decode cX12_days 152 = .ok (.getfield 13, 3) := by decide +kernel
theorem dX12_days_155 : decode cX12_days 155 = .ok (.bipush 40, 2) := by decide +kernel
theorem dX12_days_157 : decode cX12_days 157 = .ok (.iload 4, 2) := by decide +kernel
theorem dX12_days_159 : decode cX12_days 159 = .ok (.iadd, 1) := by decide +kernel
theorem dX12_days_160 : decode cX12_days 160 = .ok (.aload_n 0, 1) := by decide +kernel
theorem dX12_days_161 : decode cX12_days 161 = .ok (.iload 4, 2) := by decide +kernel
theorem dX12_days_163 : decode cX12_days 163 = .ok (.iload 5, 2) := by decide +kernel
theorem dX12_days_165 : decode cX12_days 165 = .ok (.iconst 4, 1) := by decide +kernel
theorem dX12_days_166 : decode cX12_days 166 = .ok (.irem, 1) := by decide +kernel
theorem dX12_days_167 : decode cX12_days 167 = .ok (.invokevirtual 430, 3) := by decide +kernel
theorem dX12_days_170 : decode cX12_days 170 = .ok (.iastore, 1) := by decide +kernel
theorem dX12_days_171 : decode cX12_days 171 = .ok (.aload_n 0, 1) := by decide +kernel
theorem dX12_days_172 : decode cX12_days 172 = .ok (.invokevirtual 436, 3) := by decide +kernel
theorem dX12_days_175 : decode cX12_days 175 = .ok (.pop, 1) := by decide +kernel
theorem dX12_days_176 : decode cX12_days 176 = .ok (.iinc 3 1, 3) := by decide +kernel
theorem dX12_days_179 : decode cX12_days 179 = .ok (.goto (-130), 3) := by decide +kernel
theorem dX12_days_182 : decode cX12_days 182 = .ok (.iconst 0, 1) := by decide +kernel
theorem dX12_days_183 : decode cX12_days 183 = .ok (.istore_n 3, 1) := by decide +kernel
theorem dX12_days_184 : decode cX12_days 184 = .ok (.iload_n 3, 1) := by decide +kernel
theorem dX12_days_185 : decode cX12_days 185 = .ok (.bipush 52, 2) := by decide +kernel
theorem dX12_days_187 : decode cX12_days 187 = .ok (.if_icmp .ge 23, 3) := by decide +kernel
theorem dX12_days_190 : decode cX12_days 190 = .ok (.aload_n 0, 1) := by decide +kernel
theorem dX12_days_191 : decode cX12_days 191 = .ok (.getfield 149, 3) := by decide +kernel
theorem dX12_days_194 : decode cX12_days 194 = .ok (.iload_n 3, 1) := by decide +kernel
theorem dX12_days_195 : decode cX12_days 195 = .ok (.aload_n 0, 1) := by decide +kernel
theorem dX12_days_196 : decode cX12_days 196 = .ok (.getfield 13, 3) := by decide +kernel
theorem dX12_days_199 : decode cX12_days 199 = .ok (.iconst 4, 1) := by decide +kernel
theorem dX12_days_200 : decode cX12_days 200 = .ok (.iload_n 3, 1) := by decide +kernel
theorem dX12_days_201 : decode cX12_days 201 = .ok (.iadd, 1) := by decide +kernel
theorem dX12_days_202 : decode cX12_days 202 = .ok (.iaload, 1) := by decide +kernel
theorem dX12_days_203 : decode cX12_days 203 = .ok (.iastore, 1) := by decide +kernel
theorem dX12_days_204 : decode cX12_days 204 = .ok (.iinc 3 1, 3) := by decide +kernel
theorem dX12_days_207 : decode cX12_days 207 = .ok (.goto (-23), 3) := by decide +kernel
theorem dX12_days_210 : decode cX12_days 210 = .ok (.aload_n 0, 1) := by decide +kernel
theorem dX12_days_211 : decode cX12_days 211 = .ok (.iconst 1, 1) := by decide +kernel
theorem dX12_days_212 : decode cX12_days 212 = .ok (.putfield 546, 3) := by decide +kernel
theorem dX12_days_215 : decode cX12_days 215 = .ok (.aload_n 0, 1) := by decide +kernel
theorem dX12_days_216 : decode cX12_days 216 = .ok (.iconst 2, 1) := by decide +kernel
theorem dX12_days_217 : decode cX12_days 217 = .ok (.invokevirtual 515, 3) := by decide +kernel
theorem dX12_days_220 : decode cX12_days 220 = .ok (.istore_n 3, 1) := by decide +kernel
theorem dX12_days_221 : decode cX12_days 221 = .ok (.aload_n 0, 1) := by decide +kernel
theorem dX12_days_222 : decode cX12_days 222 = .ok (.bipush 16, 2) := by decide +kernel
theorem dX12_days_224 : decode cX12_days 224 = .ok (.invokevirtual 169, 3) := by decide +kernel
theorem dX12_days_227 : decode cX12_days 227 = .ok (.aload_n 0, 1) := by decide +kernel
theorem dX12_days_228 : decode cX12_days 228 = .ok (.iload_n 3, 1) := by decide +kernel
theorem dX12_days_229 : decode cX12_days 229 = .ok (.invokevirtual 161, 3) := by decide +kernel
theorem dX12_days_232 : decode cX12_days 232 = .ok (.ireturn, 1) := by decide +kernel
set_option maxRecDepth 100000 in
theorem okm_X12_days : okL RX12 cX12_days 7 (some .int) "days" pcX12_days opX12_days pcX12_days := by
  unfold opX12_days
  refine okL_cons (ok_aload_n rfl dX12_days_0) rfl ?_
  refine okL_cons (ok_iconst rfl dX12_days_1) rfl ?_
  refine okL_cons (ok_putI kw_717 cf_X12 rfl rfl (by decide) rfl dX12_days_2) rfl ?_
  refine okL_cons (ok_iload_n rfl dX12_days_5) rfl ?_
  refine okL_cons (ok_i2l dX12_days_6) rfl ?_
  refine okL_cons (ok_lconst rfl dX12_days_7) rfl ?_
  refine okL_cons (ok_ldc2 kw_795 dX12_days_8) rfl ?_
  refine okL_cons (ok_invS (M' := 165) kw_722 kw_723 kw_711 kw_724 rfl (by decide +kernel) dX12_days_11) rfl ?_
  refine okL_cons (ok_if_eq rfl dX12_days_14) rfl ?_
  refine okL_cons (ok_iload_n rfl dX12_days_17) rfl ?_
  refine okL_cons (ok_i2l dX12_days_18) rfl ?_
  refine okL_cons (ok_lconst rfl dX12_days_19) rfl ?_
  refine okL_cons (ok_ldc2 kw_965 dX12_days_20) rfl ?_
  refine okL_cons (ok_invS (M' := 165) kw_722 kw_723 kw_711 kw_724 rfl (by decide +kernel) dX12_days_23) rfl ?_
  refine okL_cons (ok_if_ne rfl dX12_days_26) rfl ?_
  refine okL_cons (ok_aload_n rfl dX12_days_29) rfl ?_
  refine okL_cons (ok_iconst rfl dX12_days_30) rfl ?_
  refine okL_cons (ok_invV (M' := 169) kw_708 kw_709 kw_710 kw_711 kw_712 cf_X12 rfl (by decide +kernel) dX12_days_31) rfl ?_
  refine okL_cons (ok_ireturn rfl dX12_days_34) rfl ?_
  refine okL_cons (ok_aload_n rfl dX12_days_35) rfl ?_
  refine okL_cons (ok_bipush rfl dX12_days_36) rfl ?_
  refine okL_cons (ok_invV (M' := 172) kw_713 kw_714 kw_715 kw_711 kw_716 cf_X12 rfl (by decide +kernel) dX12_days_38) rfl ?_
  refine okL_cons (ok_aload_n rfl dX12_days_41) rfl ?_
  refine okL_cons (ok_iload_n rfl dX12_days_42) rfl ?_
  refine okL_cons (ok_i2l dX12_days_43) rfl ?_
  refine okL_cons (ok_putJ kw_1064 cf_X12 rfl rfl (by decide) rfl dX12_days_44) rfl ?_
  refine okL_cons (ok_iconst rfl dX12_days_47) rfl ?_
  refine okL_cons (ok_istore_n rfl dX12_days_48) rfl ?_
  refine okL_cons (ok_iload_n rfl dX12_days_49) rfl ?_
  refine okL_cons (ok_iload_n rfl dX12_days_50) rfl ?_
  refine okL_cons (ok_icmp_ge rfl dX12_days_51) rfl ?_
  refine okL_cons (ok_aload_n rfl dX12_days_54) rfl ?_
  refine okL_cons (ok_getP kw_654 cf_X12 rfl rfl (by decide) dX12_days_55) rfl ?_
  refine okL_cons (ok_iconst rfl dX12_days_58) rfl ?_
  refine okL_cons (ok_iaload dX12_days_59) rfl ?_
  refine okL_cons (ok_sipush rfl dX12_days_60) rfl ?_
  refine okL_cons (ok_icmp_ge rfl dX12_days_63) rfl ?_
  refine okL_cons (ok_aload_n rfl dX12_days_66) rfl ?_
  refine okL_cons (ok_bipush rfl dX12_days_67) rfl ?_
  refine okL_cons (ok_invV (M' := 281) kw_1068 kw_1069 kw_1070 kw_711 kw_1071 cf_X12 rfl (by decide +kernel) dX12_days_69) rfl ?_
  refine okL_cons (ok_istore dX12_days_72) rfl ?_
  refine okL_cons (ok_aload_n rfl dX12_days_74) rfl ?_
  refine okL_cons (ok_bipush rfl dX12_days_75) rfl ?_
  refine okL_cons (ok_invV (M' := 281) kw_1068 kw_1069 kw_1070 kw_711 kw_1071 cf_X12 rfl (by decide +kernel) dX12_days_77) rfl ?_
  refine okL_cons (ok_istore dX12_days_80) rfl ?_
  refine okL_cons (ok_aload_n rfl dX12_days_82) rfl ?_
  refine okL_cons (ok_iconst rfl dX12_days_83) rfl ?_
  refine okL_cons (ok_invV (M' := 281) kw_1068 kw_1069 kw_1070 kw_711 kw_1071 cf_X12 rfl (by decide +kernel) dX12_days_84) rfl ?_
  refine okL_cons (ok_istore dX12_days_87) rfl ?_
  refine okL_cons (ok_iload dX12_days_89) rfl ?_
  refine okL_cons (ok_iconst rfl dX12_days_91) rfl ?_
  refine okL_cons (ok_icmp_ge rfl dX12_days_92) rfl ?_
  refine okL_cons (ok_aload_n rfl dX12_days_95) rfl ?_
  refine okL_cons (ok_getP kw_654 cf_X12 rfl rfl (by decide) dX12_days_96) rfl ?_
  refine okL_cons (ok_bipush rfl dX12_days_99) rfl ?_
  refine okL_cons (ok_iload dX12_days_101) rfl ?_
  refine okL_cons (ok_iadd dX12_days_103) rfl ?_
  refine okL_cons (ok_iaload dX12_days_104) rfl ?_
  refine okL_cons (ok_if_ne rfl dX12_days_105) rfl ?_
  refine okL_cons (ok_aload_n rfl dX12_days_108) rfl ?_
  refine okL_cons (ok_getP kw_654 cf_X12 rfl rfl (by decide) dX12_days_109) rfl ?_
  refine okL_cons (ok_bipush rfl dX12_days_112) rfl ?_
  refine okL_cons (ok_iload dX12_days_114) rfl ?_
  refine okL_cons (ok_iadd dX12_days_116) rfl ?_
  refine okL_cons (ok_iconst rfl dX12_days_117) rfl ?_
  refine okL_cons (ok_iastore dX12_days_118) rfl ?_
  refine okL_cons (ok_aload_n rfl dX12_days_119) rfl ?_
  refine okL_cons (ok_getP kw_654 cf_X12 rfl rfl (by decide) dX12_days_120) rfl ?_
  refine okL_cons (ok_bipush rfl dX12_days_123) rfl ?_
  refine okL_cons (ok_iload dX12_days_125) rfl ?_
  refine okL_cons (ok_iadd dX12_days_127) rfl ?_
  refine okL_cons (ok_iload dX12_days_128) rfl ?_
  refine okL_cons (ok_iastore dX12_days_130) rfl ?_
  refine okL_cons (ok_iload dX12_days_131) rfl ?_
  refine okL_cons (ok_iconst rfl dX12_days_133) rfl ?_
  refine okL_cons (ok_icmp_ne rfl dX12_days_134) rfl ?_
  refine okL_cons (ok_aload_n rfl dX12_days_137) rfl ?_
  refine okL_cons (ok_iload dX12_days_138) rfl ?_
  refine okL_cons (ok_iload dX12_days_140) rfl ?_
  refine okL_cons (ok_iconst rfl dX12_days_142) rfl ?_
  refine okL_cons (ok_irem dX12_days_143) rfl ?_
  refine okL_cons (ok_invV (M' := 235) kw_949 kw_950 kw_951 kw_711 kw_952 cf_X12 rfl (by decide +kernel) dX12_days_144) rfl ?_
  refine okL_cons (ok_iconst rfl dX12_days_147) rfl ?_
  refine okL_cons (ok_icmp_eq rfl dX12_days_148) rfl ?_
  refine okL_cons (ok_aload_n rfl dX12_days_151) rfl ?_
  refine okL_cons (ok_getP kw_654 cf_X12 rfl rfl (by decide) dX12_days_152) rfl ?_
  refine okL_cons (ok_bipush rfl dX12_days_155) rfl ?_
  refine okL_cons (ok_iload dX12_days_157) rfl ?_
  refine okL_cons (ok_iadd dX12_days_159) rfl ?_
  refine okL_cons (ok_aload_n rfl dX12_days_160) rfl ?_
  refine okL_cons (ok_iload dX12_days_161) rfl ?_
  refine okL_cons (ok_iload dX12_days_163) rfl ?_
  refine okL_cons (ok_iconst rfl dX12_days_165) rfl ?_
  refine okL_cons (ok_irem dX12_days_166) rfl ?_
  refine okL_cons (ok_invV (M' := 235) kw_949 kw_950 kw_951 kw_711 kw_952 cf_X12 rfl (by decide +kernel) dX12_days_167) rfl ?_
  refine okL_cons (ok_iastore dX12_days_170) rfl ?_
  refine okL_cons (ok_aload_n rfl dX12_days_171) rfl ?_
  refine okL_cons (ok_invV (M' := 238) kw_957 kw_958 kw_959 kw_711 kw_960 cf_X12 rfl (by decide +kernel) dX12_days_172) rfl ?_
  refine okL_cons (ok_pop dX12_days_175) rfl ?_
  refine okL_cons (ok_iinc rfl dX12_days_176) rfl ?_
  refine okL_cons (ok_goto rfl dX12_days_179) rfl ?_
  refine okL_cons (ok_iconst rfl dX12_days_182) rfl ?_
  refine okL_cons (ok_istore_n rfl dX12_days_183) rfl ?_
  refine okL_cons (ok_iload_n rfl dX12_days_184) rfl ?_
  refine okL_cons (ok_bipush rfl dX12_days_185) rfl ?_
  refine okL_cons (ok_icmp_ge rfl dX12_days_187) rfl ?_
  refine okL_cons (ok_aload_n rfl dX12_days_190) rfl ?_
  refine okL_cons (ok_getP kw_705 cf_X12 rfl rfl (by decide) dX12_days_191) rfl ?_
  refine okL_cons (ok_iload_n rfl dX12_days_194) rfl ?_
  refine okL_cons (ok_aload_n rfl dX12_days_195) rfl ?_
  refine okL_cons (ok_getP kw_654 cf_X12 rfl rfl (by decide) dX12_days_196) rfl ?_
  refine okL_cons (ok_iconst rfl dX12_days_199) rfl ?_
  refine okL_cons (ok_iload_n rfl dX12_days_200) rfl ?_
  refine okL_cons (ok_iadd dX12_days_201) rfl ?_
  refine okL_cons (ok_iaload dX12_days_202) rfl ?_
  refine okL_cons (ok_iastore dX12_days_203) rfl ?_
  refine okL_cons (ok_iinc rfl dX12_days_204) rfl ?_
  refine okL_cons (ok_goto rfl dX12_days_207) rfl ?_
  refine okL_cons (ok_aload_n rfl dX12_days_210) rfl ?_
  refine okL_cons (ok_iconst rfl dX12_days_211) rfl ?_
  refine okL_cons (ok_putZ kw_1072 cf_X12 rfl rfl (by decide) rfl dX12_days_212) rfl ?_
  refine okL_cons (ok_aload_n rfl dX12_days_215) rfl ?_
  refine okL_cons (ok_iconst rfl dX12_days_216) rfl ?_
  refine okL_cons (ok_invV (M' := 182) kw_1040 kw_1041 kw_1042 kw_711 kw_1043 cf_X12 rfl (by decide +kernel) dX12_days_217) rfl ?_
  refine okL_cons (ok_istore_n rfl dX12_days_220) rfl ?_
  refine okL_cons (ok_aload_n rfl dX12_days_221) rfl ?_
  refine okL_cons (ok_bipush rfl dX12_days_222) rfl ?_
  refine okL_cons (ok_invV (M' := 173) kw_718 kw_719 kw_720 kw_711 kw_721 cf_X12 rfl (by decide +kernel) dX12_days_224) rfl ?_
  refine okL_cons (ok_aload_n rfl dX12_days_227) rfl ?_
  refine okL_cons (ok_iload_n rfl dX12_days_228) rfl ?_
  refine okL_cons (ok_invV (M' := 169) kw_708 kw_709 kw_710 kw_711 kw_712 cf_X12 rfl (by decide +kernel) dX12_days_229) rfl ?_
  exact okL_one (ok_ireturn rfl dX12_days_232)
theorem dX12_drawn_0 : decode cX12_drawn 0 = .ok (.aload_n 0, 1) := by decide +kernel
theorem dX12_drawn_1 : decode cX12_drawn 1 = .ok (.iconst 0, 1) := by decide +kernel
theorem dX12_drawn_2 : decode cX12_drawn 2 = .ok (.putfield 152, 3) := by decide +kernel
theorem dX12_drawn_5 : decode cX12_drawn 5 = .ok (.aload_n 0, 1) := by decide +kernel
theorem dX12_drawn_6 : decode cX12_drawn 6 = .ok (.getfield 546, 3) := by decide +kernel
theorem dX12_drawn_9 : decode cX12_drawn 9 = .ok (.ifCond .eq 22, 3) := by decide +kernel
theorem dX12_drawn_12 : decode cX12_drawn 12 = .ok (.iload_n 1, 1) := by decide +kernel
theorem dX12_drawn_13 : decode cX12_drawn 13 = .ok (.invokestatic 210, 3) := by decide +kernel
theorem dX12_drawn_16 : decode cX12_drawn 16 = .ok (.ifCond .eq 15, 3) := by decide +kernel
theorem dX12_drawn_19 : decode cX12_drawn 19 = .ok (.iload_n 2, 1) := by decide +kernel
theorem dX12_drawn_20 : decode cX12_drawn 20 = .ok (.i2l, 1) := by decide +kernel
theorem dX12_drawn_21 : decode cX12_drawn 21 = .ok (.lconst 0, 1) := by decide +kernel
theorem dX12_drawn_22 : decode cX12_drawn 22 = .ok (.ldc2_w 549, 3) := by decide +kernel
theorem dX12_drawn_25 : decode cX12_drawn 25 = .ok (.invokestatic 172, 3) := by decide +kernel
theorem dX12_drawn_28 : decode cX12_drawn 28 = .ok (.ifCond .ne 5, 3) := by decide +kernel
theorem dX12_drawn_31 : decode cX12_drawn 31 = .ok (.iconst (-1), 1) := by decide +kernel
theorem dX12_drawn_32 : decode cX12_drawn 32 = .ok (.ireturn, 1) := by decide +kernel
theorem dX12_drawn_33 : decode cX12_drawn 33 = .ok (.aload_n 0, 1) := by decide +kernel
theorem dX12_drawn_34 : decode cX12_drawn 34 = .ok (.getfield 149, 3) := by decide +kernel
theorem dX12_drawn_37 : decode cX12_drawn 37 = .ok (.iload_n 2, 1) := by decide +kernel
theorem dX12_drawn_38 : decode cX12_drawn 38 = .ok (.ifCond .ne 8, 3) := by decide +kernel
theorem dX12_drawn_41 : decode cX12_drawn 41 = .ok (.bipush 32, 2) := by decide +kernel
theorem dX12_drawn_43 : decode cX12_drawn 43 = .ok (.goto 15, 3) := by decide +kernel
theorem dX12_drawn_46 : decode cX12_drawn 46 = .ok (.iload_n 2, 1) := by decide +kernel
theorem dX12_drawn_47 : decode cX12_drawn 47 = .ok (.iconst 1, 1) := by decide +kernel
theorem dX12_drawn_48 : decode cX12_drawn 48 = .ok (.if_icmp .ne 8, 3) := by decide +kernel
theorem dX12_drawn_51 : decode cX12_drawn 51 = .ok (.bipush 40, 2) := by decide +kernel
theorem dX12_drawn_53 : decode cX12_drawn 53 = .ok (.goto 5, 3) := by decide +kernel
theorem dX12_drawn_56 : decode cX12_drawn 56 = .ok (.bipush 48, 2) := by decide +kernel
theorem dX12_drawn_58 : decode cX12_drawn 58 = .ok (.iconst 4, 1) := by decide +kernel
theorem dX12_drawn_59 : decode cX12_drawn 59 = .ok (.isub, 1) := by decide +kernel
theorem dX12_drawn_60 : decode cX12_drawn 60 = .ok (.iload_n 1, 1) := by decide +kernel
theorem dX12_drawn_61 : decode cX12_drawn 61 = .ok (.iadd, 1) := by decide +kernel
theorem dX12_drawn_62 : decode cX12_drawn 62 = .ok (.iaload, 1) := by decide +kernel
theorem dX12_drawn_63 : decode cX12_drawn 63 = .ok (.ireturn, 1) := by decide +kernel
set_option maxRecDepth 100000 in
theorem okm_X12_drawn : okL RX12 cX12_drawn 3 (some .int) "drawn" pcX12_drawn opX12_drawn pcX12_drawn := by
  unfold opX12_drawn
  refine okL_cons (ok_aload_n rfl dX12_drawn_0) rfl ?_
  refine okL_cons (ok_iconst rfl dX12_drawn_1) rfl ?_
  refine okL_cons (ok_putI kw_717 cf_X12 rfl rfl (by decide) rfl dX12_drawn_2) rfl ?_
  refine okL_cons (ok_aload_n rfl dX12_drawn_5) rfl ?_
  refine okL_cons (ok_getI kw_1072 cf_X12 rfl rfl (by decide) dX12_drawn_6) rfl ?_
  refine okL_cons (ok_if_eq rfl dX12_drawn_9) rfl ?_
  refine okL_cons (ok_iload_n rfl dX12_drawn_12) rfl ?_
  refine okL_cons (ok_invS (M' := 179) kw_761 kw_762 kw_711 kw_763 rfl (by decide +kernel) dX12_drawn_13) rfl ?_
  refine okL_cons (ok_if_eq rfl dX12_drawn_16) rfl ?_
  refine okL_cons (ok_iload_n rfl dX12_drawn_19) rfl ?_
  refine okL_cons (ok_i2l dX12_drawn_20) rfl ?_
  refine okL_cons (ok_lconst rfl dX12_drawn_21) rfl ?_
  refine okL_cons (ok_ldc2 kw_1073 dX12_drawn_22) rfl ?_
  refine okL_cons (ok_invS (M' := 165) kw_722 kw_723 kw_711 kw_724 rfl (by decide +kernel) dX12_drawn_25) rfl ?_
  refine okL_cons (ok_if_ne rfl dX12_drawn_28) rfl ?_
  refine okL_cons (ok_iconst rfl dX12_drawn_31) rfl ?_
  refine okL_cons (ok_ireturn rfl dX12_drawn_32) rfl ?_
  refine okL_cons (ok_aload_n rfl dX12_drawn_33) rfl ?_
  refine okL_cons (ok_getP kw_705 cf_X12 rfl rfl (by decide) dX12_drawn_34) rfl ?_
  refine okL_cons (ok_iload_n rfl dX12_drawn_37) rfl ?_
  refine okL_cons (ok_if_ne rfl dX12_drawn_38) rfl ?_
  refine okL_cons (ok_bipush rfl dX12_drawn_41) rfl ?_
  refine okL_cons (ok_goto rfl dX12_drawn_43) rfl ?_
  refine okL_cons (ok_iload_n rfl dX12_drawn_46) rfl ?_
  refine okL_cons (ok_iconst rfl dX12_drawn_47) rfl ?_
  refine okL_cons (ok_icmp_ne rfl dX12_drawn_48) rfl ?_
  refine okL_cons (ok_bipush rfl dX12_drawn_51) rfl ?_
  refine okL_cons (ok_goto rfl dX12_drawn_53) rfl ?_
  refine okL_cons (ok_bipush rfl dX12_drawn_56) rfl ?_
  refine okL_cons (ok_iconst rfl dX12_drawn_58) rfl ?_
  refine okL_cons (ok_isub dX12_drawn_59) rfl ?_
  refine okL_cons (ok_iload_n rfl dX12_drawn_60) rfl ?_
  refine okL_cons (ok_iadd dX12_drawn_61) rfl ?_
  refine okL_cons (ok_iaload dX12_drawn_62) rfl ?_
  exact okL_one (ok_ireturn rfl dX12_drawn_63)
theorem dX12_count_0 : decode cX12_count 0 = .ok (.aload_n 0, 1) := by decide +kernel
theorem dX12_count_1 : decode cX12_count 1 = .ok (.iconst 0, 1) := by decide +kernel
theorem dX12_count_2 : decode cX12_count 2 = .ok (.putfield 152, 3) := by decide +kernel
theorem dX12_count_5 : decode cX12_count 5 = .ok (.iload_n 1, 1) := by decide +kernel
theorem dX12_count_6 : decode cX12_count 6 = .ok (.tableswitch 152 0 12 #[66, 73, 79, 85, 92, 99, 104, 109, 116, 123, 130, 137, 145], 66) := by decide +kernel
theorem dX12_count_72 : decode cX12_count 72 = .ok (.aload_n 0, 1) := by decide +kernel
theorem dX12_count_73 : decode cX12_count 73 = .ok (.getfield 13, 3) := by decide +kernel
theorem dX12_count_76 : decode cX12_count 76 = .ok (.iconst 3, 1) := by decide +kernel
theorem dX12_count_77 : decode cX12_count 77 = .ok (.iaload, 1) := by decide +kernel
theorem dX12_count_78 : decode cX12_count 78 = .ok (.ireturn, 1) := by decide +kernel
theorem dX12_count_79 : decode cX12_count 79 = .ok (.aload_n 0, 1) := by decide +kernel
theorem dX12_count_80 : decode cX12_count 80 = .ok (.iconst 0, 1) := by decide +kernel
theorem dX12_count_81 : decode cX12_count 81 = .ok (.invokevirtual 515, 3) := by decide +kernel
theorem dX12_count_84 : decode cX12_count 84 = .ok (.ireturn, 1) := by decide +kernel
theorem dX12_count_85 : decode cX12_count 85 = .ok (.aload_n 0, 1) := by decide +kernel
theorem dX12_count_86 : decode cX12_count 86 = .ok (.iconst 2, 1) := by decide +kernel
theorem dX12_count_87 : decode cX12_count 87 = .ok (.invokevirtual 515, 3) := by decide +kernel
theorem dX12_count_90 : decode cX12_count 90 = .ok (.ireturn, 1) := by decide +kernel
theorem dX12_count_91 : decode cX12_count 91 = .ok (.aload_n 0, 1) := by decide +kernel
theorem dX12_count_92 : decode cX12_count 92 = .ok (.getfield 13, 3) := by decide +kernel
theorem dX12_count_95 : decode cX12_count 95 = .ok (.iconst 0, 1) := by decide +kernel
theorem dX12_count_96 : decode cX12_count 96 = .ok (.iaload, 1) := by decide +kernel
theorem dX12_count_97 : decode cX12_count 97 = .ok (.ireturn, 1) := by decide +kernel
theorem dX12_count_98 : decode cX12_count 98 = .ok (.aload_n 0, 1) := by decide +kernel
theorem dX12_count_99 : decode cX12_count 99 = .ok (.getfield 13, 3) := by decide +kernel
theorem dX12_count_102 : decode cX12_count 102 = .ok (.iconst 1, 1) := by decide +kernel
theorem dX12_count_103 : decode cX12_count 103 = .ok (.iaload, 1) := by decide +kernel
theorem dX12_count_104 : decode cX12_count 104 = .ok (.ireturn, 1) := by decide +kernel
theorem dX12_count_105 : decode cX12_count 105 = .ok (.aload_n 0, 1) := by decide +kernel
theorem dX12_count_106 : decode cX12_count 106 = .ok (.getfield 158, 3) := by decide +kernel
theorem dX12_count_109 : decode cX12_count 109 = .ok (.ireturn, 1) := by decide +kernel
theorem dX12_count_110 : decode cX12_count 110 = .ok (.aload_n 0, 1) := by decide +kernel
theorem dX12_count_111 : decode cX12_count 111 = .ok (.getfield 223, 3) := by decide +kernel
theorem dX12_count_114 : decode cX12_count 114 = .ok (.ireturn, 1) := by decide +kernel
theorem dX12_count_115 : decode cX12_count 115 = .ok (.aload_n 0, 1) := by decide +kernel
theorem dX12_count_116 : decode cX12_count 116 = .ok (.getfield 7, 3) := by decide +kernel
theorem dX12_count_119 : decode cX12_count 119 = .ok (.iconst 1, 1) := by decide +kernel
theorem dX12_count_120 : decode cX12_count 120 = .ok (.iaload, 1) := by decide +kernel
theorem dX12_count_121 : decode cX12_count 121 = .ok (.ireturn, 1) := by decide +kernel
theorem dX12_count_122 : decode cX12_count 122 = .ok (.aload_n 0, 1) := by decide +kernel
theorem dX12_count_123 : decode cX12_count 123 = .ok (.getfield 7, 3) := by decide +kernel
theorem dX12_count_126 : decode cX12_count 126 = .ok (.iconst 2, 1) := by decide +kernel
theorem dX12_count_127 : decode cX12_count 127 = .ok (.iaload, 1) := by decide +kernel
theorem dX12_count_128 : decode cX12_count 128 = .ok (.ireturn, 1) := by decide +kernel
theorem dX12_count_129 : decode cX12_count 129 = .ok (.aload_n 0, 1) := by decide +kernel
theorem dX12_count_130 : decode cX12_count 130 = .ok (.getfield 7, 3) := by decide +kernel
theorem dX12_count_133 : decode cX12_count 133 = .ok (.iconst 3, 1) := by decide +kernel
theorem dX12_count_134 : decode cX12_count 134 = .ok (.iaload, 1) := by decide +kernel
theorem dX12_count_135 : decode cX12_count 135 = .ok (.ireturn, 1) := by decide +kernel
theorem dX12_count_136 : decode cX12_count 136 = .ok (.aload_n 0, 1) := by decide +kernel
theorem dX12_count_137 : decode cX12_count 137 = .ok (.getfield 7, 3) := by decide +kernel
theorem dX12_count_140 : decode cX12_count 140 = .ok (.iconst 5, 1) := by decide +kernel
theorem dX12_count_141 : decode cX12_count 141 = .ok (.iaload, 1) := by decide +kernel
theorem dX12_count_142 : decode cX12_count 142 = .ok (.ireturn, 1) := by decide +kernel
theorem dX12_count_143 : decode cX12_count 143 = .ok (.aload_n 0, 1) := by decide +kernel
theorem dX12_count_144 : decode cX12_count 144 = .ok (.getfield 7, 3) := by decide +kernel
theorem dX12_count_147 : decode cX12_count 147 = .ok (.bipush 6, 2) := by decide +kernel
theorem dX12_count_149 : decode cX12_count 149 = .ok (.iaload, 1) := by decide +kernel
theorem dX12_count_150 : decode cX12_count 150 = .ok (.ireturn, 1) := by decide +kernel
theorem dX12_count_151 : decode cX12_count 151 = .ok (.aload_n 0, 1) := by decide +kernel
theorem dX12_count_152 : decode cX12_count 152 = .ok (.getfield 13, 3) := by decide +kernel
theorem dX12_count_155 : decode cX12_count 155 = .ok (.iconst 2, 1) := by decide +kernel
theorem dX12_count_156 : decode cX12_count 156 = .ok (.iaload, 1) := by decide +kernel
theorem dX12_count_157 : decode cX12_count 157 = .ok (.ireturn, 1) := by decide +kernel
theorem dX12_count_158 : decode cX12_count 158 = .ok (.iload_n 1, 1) := by decide +kernel
theorem dX12_count_159 : decode cX12_count 159 = .ok (.i2l, 1) := by decide +kernel
theorem dX12_count_160 : decode cX12_count 160 = .ok (.ldc2_w 551, 3) := by decide +kernel
theorem dX12_count_163 : decode cX12_count 163 = .ok (.ldc2_w 553, 3) := by decide +kernel
theorem dX12_count_166 : decode cX12_count 166 = .ok (.invokestatic 172, 3) := by decide +kernel
theorem dX12_count_169 : decode cX12_count 169 = .ok (.ifCond .eq 17, 3) := by decide +kernel
theorem dX12_count_172 : decode cX12_count 172 = .ok (.aload_n 0, 1) := by decide +kernel
theorem dX12_count_173 : decode cX12_count 173 = .ok (.getfield 13, 3) := by decide +kernel
theorem dX12_count_176 : decode cX12_count 176 = .ok (.iconst 4, 1) := by decide +kernel
theorem dX12_count_177 : decode cX12_count 177 = .ok (.iload_n 1, 1) := by decide +kernel
theorem dX12_count_178 : decode cX12_count 178 = .ok (.iadd, 1) := by decide +kernel
theorem dX12_count_179 : decode cX12_count 179 = .ok (.bipush 13, 2) := by decide +kernel
theorem dX12_count_181 : decode cX12_count 181 = .ok (.isub, 1) := by decide +kernel
theorem dX12_count_182 : decode cX12_count 182 = .ok (.iaload, 1) := by decide +kernel
theorem dX12_count_183 : decode cX12_count 183 = .ok (.goto 4, 3) := by decide +kernel
theorem dX12_count_186 : decode cX12_count 186 = .ok (.iconst (-1), 1) := by decide +kernel
theorem dX12_count_187 : decode cX12_count 187 = .ok (.ireturn, 1) := by decide +kernel
set_option maxRecDepth 100000 in
theorem okm_X12_count : okL RX12 cX12_count 2 (some .int) "count" pcX12_count opX12_count pcX12_count := by
  unfold opX12_count
  refine okL_cons (ok_aload_n rfl dX12_count_0) rfl ?_
  refine okL_cons (ok_iconst rfl dX12_count_1) rfl ?_
  refine okL_cons (ok_putI kw_717 cf_X12 rfl rfl (by decide) rfl dX12_count_2) rfl ?_
  refine okL_cons (ok_iload_n rfl dX12_count_5) rfl ?_
  refine okL_cons (ok_sw rfl rfl (sw_all rfl) dX12_count_6) rfl ?_
  refine okL_cons (ok_aload_n rfl dX12_count_72) rfl ?_
  refine okL_cons (ok_getP kw_654 cf_X12 rfl rfl (by decide) dX12_count_73) rfl ?_
  refine okL_cons (ok_iconst rfl dX12_count_76) rfl ?_
  refine okL_cons (ok_iaload dX12_count_77) rfl ?_
  refine okL_cons (ok_ireturn rfl dX12_count_78) rfl ?_
  refine okL_cons (ok_aload_n rfl dX12_count_79) rfl ?_
  refine okL_cons (ok_iconst rfl dX12_count_80) rfl ?_
  refine okL_cons (ok_invV (M' := 182) kw_1040 kw_1041 kw_1042 kw_711 kw_1043 cf_X12 rfl (by decide +kernel) dX12_count_81) rfl ?_
  refine okL_cons (ok_ireturn rfl dX12_count_84) rfl ?_
  refine okL_cons (ok_aload_n rfl dX12_count_85) rfl ?_
  refine okL_cons (ok_iconst rfl dX12_count_86) rfl ?_
  refine okL_cons (ok_invV (M' := 182) kw_1040 kw_1041 kw_1042 kw_711 kw_1043 cf_X12 rfl (by decide +kernel) dX12_count_87) rfl ?_
  refine okL_cons (ok_ireturn rfl dX12_count_90) rfl ?_
  refine okL_cons (ok_aload_n rfl dX12_count_91) rfl ?_
  refine okL_cons (ok_getP kw_654 cf_X12 rfl rfl (by decide) dX12_count_92) rfl ?_
  refine okL_cons (ok_iconst rfl dX12_count_95) rfl ?_
  refine okL_cons (ok_iaload dX12_count_96) rfl ?_
  refine okL_cons (ok_ireturn rfl dX12_count_97) rfl ?_
  refine okL_cons (ok_aload_n rfl dX12_count_98) rfl ?_
  refine okL_cons (ok_getP kw_654 cf_X12 rfl rfl (by decide) dX12_count_99) rfl ?_
  refine okL_cons (ok_iconst rfl dX12_count_102) rfl ?_
  refine okL_cons (ok_iaload dX12_count_103) rfl ?_
  refine okL_cons (ok_ireturn rfl dX12_count_104) rfl ?_
  refine okL_cons (ok_aload_n rfl dX12_count_105) rfl ?_
  refine okL_cons (ok_getI kw_707 cf_X12 rfl rfl (by decide) dX12_count_106) rfl ?_
  refine okL_cons (ok_ireturn rfl dX12_count_109) rfl ?_
  refine okL_cons (ok_aload_n rfl dX12_count_110) rfl ?_
  refine okL_cons (ok_getI kw_771 cf_X12 rfl rfl (by decide) dX12_count_111) rfl ?_
  refine okL_cons (ok_ireturn rfl dX12_count_114) rfl ?_
  refine okL_cons (ok_aload_n rfl dX12_count_115) rfl ?_
  refine okL_cons (ok_getP kw_653 cf_X12 rfl rfl (by decide) dX12_count_116) rfl ?_
  refine okL_cons (ok_iconst rfl dX12_count_119) rfl ?_
  refine okL_cons (ok_iaload dX12_count_120) rfl ?_
  refine okL_cons (ok_ireturn rfl dX12_count_121) rfl ?_
  refine okL_cons (ok_aload_n rfl dX12_count_122) rfl ?_
  refine okL_cons (ok_getP kw_653 cf_X12 rfl rfl (by decide) dX12_count_123) rfl ?_
  refine okL_cons (ok_iconst rfl dX12_count_126) rfl ?_
  refine okL_cons (ok_iaload dX12_count_127) rfl ?_
  refine okL_cons (ok_ireturn rfl dX12_count_128) rfl ?_
  refine okL_cons (ok_aload_n rfl dX12_count_129) rfl ?_
  refine okL_cons (ok_getP kw_653 cf_X12 rfl rfl (by decide) dX12_count_130) rfl ?_
  refine okL_cons (ok_iconst rfl dX12_count_133) rfl ?_
  refine okL_cons (ok_iaload dX12_count_134) rfl ?_
  refine okL_cons (ok_ireturn rfl dX12_count_135) rfl ?_
  refine okL_cons (ok_aload_n rfl dX12_count_136) rfl ?_
  refine okL_cons (ok_getP kw_653 cf_X12 rfl rfl (by decide) dX12_count_137) rfl ?_
  refine okL_cons (ok_iconst rfl dX12_count_140) rfl ?_
  refine okL_cons (ok_iaload dX12_count_141) rfl ?_
  refine okL_cons (ok_ireturn rfl dX12_count_142) rfl ?_
  refine okL_cons (ok_aload_n rfl dX12_count_143) rfl ?_
  refine okL_cons (ok_getP kw_653 cf_X12 rfl rfl (by decide) dX12_count_144) rfl ?_
  refine okL_cons (ok_bipush rfl dX12_count_147) rfl ?_
  refine okL_cons (ok_iaload dX12_count_149) rfl ?_
  refine okL_cons (ok_ireturn rfl dX12_count_150) rfl ?_
  refine okL_cons (ok_aload_n rfl dX12_count_151) rfl ?_
  refine okL_cons (ok_getP kw_654 cf_X12 rfl rfl (by decide) dX12_count_152) rfl ?_
  refine okL_cons (ok_iconst rfl dX12_count_155) rfl ?_
  refine okL_cons (ok_iaload dX12_count_156) rfl ?_
  refine okL_cons (ok_ireturn rfl dX12_count_157) rfl ?_
  refine okL_cons (ok_iload_n rfl dX12_count_158) rfl ?_
  refine okL_cons (ok_i2l dX12_count_159) rfl ?_
  refine okL_cons (ok_ldc2 kw_1074 dX12_count_160) rfl ?_
  refine okL_cons (ok_ldc2 kw_1075 dX12_count_163) rfl ?_
  refine okL_cons (ok_invS (M' := 165) kw_722 kw_723 kw_711 kw_724 rfl (by decide +kernel) dX12_count_166) rfl ?_
  refine okL_cons (ok_if_eq rfl dX12_count_169) rfl ?_
  refine okL_cons (ok_aload_n rfl dX12_count_172) rfl ?_
  refine okL_cons (ok_getP kw_654 cf_X12 rfl rfl (by decide) dX12_count_173) rfl ?_
  refine okL_cons (ok_iconst rfl dX12_count_176) rfl ?_
  refine okL_cons (ok_iload_n rfl dX12_count_177) rfl ?_
  refine okL_cons (ok_iadd dX12_count_178) rfl ?_
  refine okL_cons (ok_bipush rfl dX12_count_179) rfl ?_
  refine okL_cons (ok_isub dX12_count_181) rfl ?_
  refine okL_cons (ok_iaload dX12_count_182) rfl ?_
  refine okL_cons (ok_goto rfl dX12_count_183) rfl ?_
  refine okL_cons (ok_iconst rfl dX12_count_186) rfl ?_
  exact okL_one (ok_ireturn rfl dX12_count_187)
theorem dX12_status_0 : decode cX12_status 0 = .ok (.aload_n 0, 1) := by decide +kernel
theorem dX12_status_1 : decode cX12_status 1 = .ok (.iconst 0, 1) := by decide +kernel
theorem dX12_status_2 : decode cX12_status 2 = .ok (.putfield 152, 3) := by decide +kernel
theorem dX12_status_5 : decode cX12_status 5 = .ok (.aload_n 0, 1) := by decide +kernel
theorem dX12_status_6 : decode cX12_status 6 = .ok (.getfield 155, 3) := by decide +kernel
theorem dX12_status_9 : decode cX12_status 9 = .ok (.ireturn, 1) := by decide +kernel
set_option maxRecDepth 100000 in
theorem okm_X12_status : okL RX12 cX12_status 1 (some .int) "status" pcX12_status opX12_status pcX12_status := by
  unfold opX12_status
  refine okL_cons (ok_aload_n rfl dX12_status_0) rfl ?_
  refine okL_cons (ok_iconst rfl dX12_status_1) rfl ?_
  refine okL_cons (ok_putI kw_717 cf_X12 rfl rfl (by decide) rfl dX12_status_2) rfl ?_
  refine okL_cons (ok_aload_n rfl dX12_status_5) rfl ?_
  refine okL_cons (ok_getI kw_706 cf_X12 rfl rfl (by decide) dX12_status_6) rfl ?_
  exact okL_one (ok_ireturn rfl dX12_status_9)
