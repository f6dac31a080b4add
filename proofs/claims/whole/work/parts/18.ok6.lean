theorem dX12_later_0 : decode cX12_later 0 = .ok (.aload_n 0, 1) := by decide +kernel
theorem dX12_later_1 : decode cX12_later 1 = .ok (.iconst 0, 1) := by decide +kernel
theorem dX12_later_2 : decode cX12_later 2 = .ok (.putfield 152, 3) := by decide +kernel
theorem dX12_later_5 : decode cX12_later 5 = .ok (.iload_n 1, 1) := by decide +kernel
theorem dX12_later_6 : decode cX12_later 6 = .ok (.invokestatic 210, 3) := by decide +kernel
theorem dX12_later_9 : decode cX12_later 9 = .ok (.ifCond .eq 15, 3) := by decide +kernel
theorem dX12_later_12 : decode cX12_later 12 = .ok (.iload_n 2, 1) := by decide +kernel
theorem dX12_later_13 : decode cX12_later 13 = .ok (.i2l, 1) := by decide +kernel
theorem dX12_later_14 : decode cX12_later 14 = .ok (.lconst 0, 1) := by decide +kernel
theorem dX12_later_15 : decode cX12_later 15 = .ok (.ldc2_w 442, 3) := by decide +kernel
theorem dX12_later_18 : decode cX12_later 18 = .ok (.invokestatic 172, 3) := by decide +kernel
theorem dX12_later_21 : decode cX12_later 21 = .ok (.ifCond .ne 5, 3) := by decide +kernel
theorem dX12_later_24 : decode cX12_later 24 = .ok (.iconst (-1), 1) := by decide +kernel
theorem dX12_later_25 : decode cX12_later 25 = .ok (.ireturn, 1) := by decide +kernel
theorem dX12_later_26 : decode cX12_later 26 = .ok (.aload_n 0, 1) := by decide +kernel
theorem dX12_later_27 : decode cX12_later 27 = .ok (.bipush 16, 2) := by decide +kernel
theorem dX12_later_29 : decode cX12_later 29 = .ok (.invokevirtual 165, 3) := by decide +kernel
theorem dX12_later_32 : decode cX12_later 32 = .ok (.iconst 0, 1) := by decide +kernel
theorem dX12_later_33 : decode cX12_later 33 = .ok (.istore_n 3, 1) := by decide +kernel
theorem dX12_later_34 : decode cX12_later 34 = .ok (.iload_n 3, 1) := by decide +kernel
theorem dX12_later_35 : decode cX12_later 35 = .ok (.iload_n 2, 1) := by decide +kernel
theorem dX12_later_36 : decode cX12_later 36 = .ok (.if_icmp .ge 14, 3) := by decide +kernel
theorem dX12_later_39 : decode cX12_later 39 = .ok (.aload_n 0, 1) := by decide +kernel
theorem dX12_later_40 : decode cX12_later 40 = .ok (.invokevirtual 436, 3) := by decide +kernel
theorem dX12_later_43 : decode cX12_later 43 = .ok (.pop, 1) := by decide +kernel
theorem dX12_later_44 : decode cX12_later 44 = .ok (.iinc 3 1, 3) := by decide +kernel
theorem dX12_later_47 : decode cX12_later 47 = .ok (.goto (-13), 3) := by decide +kernel
theorem dX12_later_50 : decode cX12_later 50 = .ok (.aload_n 0, 1) := by decide +kernel
theorem dX12_later_51 : decode cX12_later 51 = .ok (.getfield 13, 3) := by decide +kernel
theorem dX12_later_54 : decode cX12_later 54 = .ok (.bipush 40, 2) := by decide +kernel
theorem dX12_later_56 : decode cX12_later 56 = .ok (.iload_n 1, 1) := by decide +kernel
theorem dX12_later_57 : decode cX12_later 57 = .ok (.iadd, 1) := by decide +kernel
theorem dX12_later_58 : decode cX12_later 58 = .ok (.iaload, 1) := by decide +kernel
theorem dX12_later_59 : decode cX12_later 59 = .ok (.istore_n 3, 1) := by decide +kernel
theorem dX12_later_60 : decode cX12_later 60 = .ok (.aload_n 0, 1) := by decide +kernel
theorem dX12_later_61 : decode cX12_later 61 = .ok (.bipush 16, 2) := by decide +kernel
theorem dX12_later_63 : decode cX12_later 63 = .ok (.invokevirtual 169, 3) := by decide +kernel
theorem dX12_later_66 : decode cX12_later 66 = .ok (.iload_n 3, 1) := by decide +kernel
theorem dX12_later_67 : decode cX12_later 67 = .ok (.ireturn, 1) := by decide +kernel
set_option maxRecDepth 100000 in
theorem okm_X12_later : okL RX12 cX12_later 4 (some .int) "later" pcX12_later opX12_later pcX12_later := by
  unfold opX12_later
  refine okL_cons (ok_aload_n rfl dX12_later_0) rfl ?_
  refine okL_cons (ok_iconst rfl dX12_later_1) rfl ?_
  refine okL_cons (ok_putI kw_717 cf_X12 rfl rfl (by decide) rfl dX12_later_2) rfl ?_
  refine okL_cons (ok_iload_n rfl dX12_later_5) rfl ?_
  refine okL_cons (ok_invS (M' := 179) kw_761 kw_762 kw_711 kw_763 rfl (by decide +kernel) dX12_later_6) rfl ?_
  refine okL_cons (ok_if_eq rfl dX12_later_9) rfl ?_
  refine okL_cons (ok_iload_n rfl dX12_later_12) rfl ?_
  refine okL_cons (ok_i2l dX12_later_13) rfl ?_
  refine okL_cons (ok_lconst rfl dX12_later_14) rfl ?_
  refine okL_cons (ok_ldc2 kw_965 dX12_later_15) rfl ?_
  refine okL_cons (ok_invS (M' := 165) kw_722 kw_723 kw_711 kw_724 rfl (by decide +kernel) dX12_later_18) rfl ?_
  refine okL_cons (ok_if_ne rfl dX12_later_21) rfl ?_
  refine okL_cons (ok_iconst rfl dX12_later_24) rfl ?_
  refine okL_cons (ok_ireturn rfl dX12_later_25) rfl ?_
  refine okL_cons (ok_aload_n rfl dX12_later_26) rfl ?_
  refine okL_cons (ok_bipush rfl dX12_later_27) rfl ?_
  refine okL_cons (ok_invV (M' := 172) kw_713 kw_714 kw_715 kw_711 kw_716 cf_X12 rfl (by decide +kernel) dX12_later_29) rfl ?_
  refine okL_cons (ok_iconst rfl dX12_later_32) rfl ?_
  refine okL_cons (ok_istore_n rfl dX12_later_33) rfl ?_
  refine okL_cons (ok_iload_n rfl dX12_later_34) rfl ?_
  refine okL_cons (ok_iload_n rfl dX12_later_35) rfl ?_
  refine okL_cons (ok_icmp_ge rfl dX12_later_36) rfl ?_
  refine okL_cons (ok_aload_n rfl dX12_later_39) rfl ?_
  refine okL_cons (ok_invV (M' := 238) kw_957 kw_958 kw_959 kw_711 kw_960 cf_X12 rfl (by decide +kernel) dX12_later_40) rfl ?_
  refine okL_cons (ok_pop dX12_later_43) rfl ?_
  refine okL_cons (ok_iinc rfl dX12_later_44) rfl ?_
  refine okL_cons (ok_goto rfl dX12_later_47) rfl ?_
  refine okL_cons (ok_aload_n rfl dX12_later_50) rfl ?_
  refine okL_cons (ok_getP kw_654 cf_X12 rfl rfl (by decide) dX12_later_51) rfl ?_
  refine okL_cons (ok_bipush rfl dX12_later_54) rfl ?_
  refine okL_cons (ok_iload_n rfl dX12_later_56) rfl ?_
  refine okL_cons (ok_iadd dX12_later_57) rfl ?_
  refine okL_cons (ok_iaload dX12_later_58) rfl ?_
  refine okL_cons (ok_istore_n rfl dX12_later_59) rfl ?_
  refine okL_cons (ok_aload_n rfl dX12_later_60) rfl ?_
  refine okL_cons (ok_bipush rfl dX12_later_61) rfl ?_
  refine okL_cons (ok_invV (M' := 173) kw_718 kw_719 kw_720 kw_711 kw_721 cf_X12 rfl (by decide +kernel) dX12_later_63) rfl ?_
  refine okL_cons (ok_iload_n rfl dX12_later_66) rfl ?_
  exact okL_one (ok_ireturn rfl dX12_later_67)
theorem dX12_readWith_0 : decode cX12_readWith 0 = .ok (.aload_n 0, 1) := by decide +kernel
theorem dX12_readWith_1 : decode cX12_readWith 1 = .ok (.iconst 0, 1) := by decide +kernel
theorem dX12_readWith_2 : decode cX12_readWith 2 = .ok (.putfield 152, 3) := by decide +kernel
theorem dX12_readWith_5 : decode cX12_readWith 5 = .ok (.iload_n 1, 1) := by decide +kernel
theorem dX12_readWith_6 : decode cX12_readWith 6 = .ok (.invokestatic 210, 3) := by decide +kernel
theorem dX12_readWith_9 : decode cX12_readWith 9 = .ok (.ifCond .ne 5, 3) := by decide +kernel
theorem dX12_readWith_12 : decode cX12_readWith 12 = .ok (.iconst (-1), 1) := by decide +kernel
theorem dX12_readWith_13 : decode cX12_readWith 13 = .ok (.ireturn, 1) := by decide +kernel
theorem dX12_readWith_14 : decode cX12_readWith 14 = .ok (.aload_n 0, 1) := by decide +kernel
theorem dX12_readWith_15 : decode cX12_readWith 15 = .ok (.bipush 16, 2) := by decide +kernel
theorem dX12_readWith_17 : decode cX12_readWith 17 = .ok (.invokevirtual 165, 3) := by decide +kernel
theorem dX12_readWith_20 : decode cX12_readWith 20 = .ok (.iconst 0, 1) := by decide +kernel
theorem dX12_readWith_21 : decode cX12_readWith 21 = .ok (.istore_n 2, 1) := by decide +kernel
theorem dX12_readWith_22 : decode cX12_readWith 22 = .ok (.iload_n 2, 1) := by decide +kernel
theorem dX12_readWith_23 : decode cX12_readWith 23 = .ok (.bipush 60, 2) := by decide +kernel
theorem dX12_readWith_25 : decode cX12_readWith 25 = .ok (.if_icmp .ge 14, 3) := by decide +kernel
theorem dX12_readWith_28 : decode cX12_readWith 28 = .ok (.aload_n 0, 1) := by decide +kernel
theorem dX12_readWith_29 : decode cX12_readWith 29 = .ok (.invokevirtual 436, 3) := by decide +kernel
theorem dX12_readWith_32 : decode cX12_readWith 32 = .ok (.pop, 1) := by decide +kernel
theorem dX12_readWith_33 : decode cX12_readWith 33 = .ok (.iinc 2 1, 3) := by decide +kernel
theorem dX12_readWith_36 : decode cX12_readWith 36 = .ok (.goto (-14), 3) := by decide +kernel
theorem dX12_readWith_39 : decode cX12_readWith 39 = .ok (.iconst 0, 1) := by decide +kernel
theorem dX12_readWith_40 : decode cX12_readWith 40 = .ok (.istore_n 2, 1) := by decide +kernel
theorem dX12_readWith_41 : decode cX12_readWith 41 = .ok (.iconst 0, 1) := by decide +kernel
theorem dX12_readWith_42 : decode cX12_readWith 42 = .ok (.istore_n 3, 1) := by decide +kernel
theorem dX12_readWith_43 : decode cX12_readWith 43 = .ok (.iload_n 3, 1) := by decide +kernel
theorem dX12_readWith_44 : decode cX12_readWith 44 = .ok (.bipush 8, 2) := by decide +kernel
theorem dX12_readWith_46 : decode cX12_readWith 46 = .ok (.if_icmp .ge 86, 3) := by decide +kernel
theorem dX12_readWith_49 : decode cX12_readWith 49 = .ok (.aload_n 0, 1) := by decide +kernel
theorem dX12_readWith_50 : decode cX12_readWith 50 = .ok (.getfield 13, 3) := by decide +kernel
theorem dX12_readWith_53 : decode cX12_readWith 53 = .ok (.bipush 32, 2) := by decide +kernel
theorem dX12_readWith_55 : decode cX12_readWith 55 = .ok (.iload_n 3, 1) := by decide +kernel
theorem dX12_readWith_56 : decode cX12_readWith 56 = .ok (.iadd, 1) := by decide +kernel
theorem dX12_readWith_57 : decode cX12_readWith 57 = .ok (.iaload, 1) := by decide +kernel
theorem dX12_readWith_58 : decode cX12_readWith 58 = .ok (.iconst 2, 1) := by decide +kernel
theorem dX12_readWith_59 : decode cX12_readWith 59 = .ok (.if_icmp .ne 49, 3) := by decide +kernel
theorem dX12_readWith_62 : decode cX12_readWith 62 = .ok (.aload_n 0, 1) := by decide +kernel
theorem dX12_readWith_63 : decode cX12_readWith 63 = .ok (.getfield 13, 3) := by decide +kernel
theorem dX12_readWith_66 : decode cX12_readWith 66 = .ok (.bipush 40, 2) := by decide +kernel
theorem dX12_readWith_68 : decode cX12_readWith 68 = .ok (.iload_n 3, 1) := by decide +kernel
theorem dX12_readWith_69 : decode cX12_readWith 69 = .ok (.iadd, 1) := by decide +kernel
theorem dX12_readWith_70 : decode cX12_readWith 70 = .ok (.iaload, 1) := by decide +kernel
theorem dX12_readWith_71 : decode cX12_readWith 71 = .ok (.aload_n 0, 1) := by decide +kernel
theorem dX12_readWith_72 : decode cX12_readWith 72 = .ok (.getfield 13, 3) := by decide +kernel
theorem dX12_readWith_75 : decode cX12_readWith 75 = .ok (.bipush 40, 2) := by decide +kernel
theorem dX12_readWith_77 : decode cX12_readWith 77 = .ok (.iload_n 1, 1) := by decide +kernel
theorem dX12_readWith_78 : decode cX12_readWith 78 = .ok (.iadd, 1) := by decide +kernel
theorem dX12_readWith_79 : decode cX12_readWith 79 = .ok (.iaload, 1) := by decide +kernel
theorem dX12_readWith_80 : decode cX12_readWith 80 = .ok (.if_icmp .ne 28, 3) := by decide +kernel
theorem dX12_readWith_83 : decode cX12_readWith 83 = .ok (.aload_n 0, 1) := by decide +kernel
theorem dX12_readWith_84 : decode cX12_readWith 84 = .ok (.getfield 13, 3) := by decide +kernel
theorem dX12_readWith_87 : decode cX12_readWith 87 = .ok (.bipush 48, 2) := by decide +kernel
theorem dX12_readWith_89 : decode cX12_readWith 89 = .ok (.iload_n 3, 1) := by decide +kernel
theorem dX12_readWith_90 : decode cX12_readWith 90 = .ok (.iadd, 1) := by decide +kernel
theorem dX12_readWith_91 : decode cX12_readWith 91 = .ok (.iaload, 1) := by decide +kernel
theorem dX12_readWith_92 : decode cX12_readWith 92 = .ok (.aload_n 0, 1) := by decide +kernel
theorem dX12_readWith_93 : decode cX12_readWith 93 = .ok (.getfield 13, 3) := by decide +kernel
theorem dX12_readWith_96 : decode cX12_readWith 96 = .ok (.bipush 48, 2) := by decide +kernel
theorem dX12_readWith_98 : decode cX12_readWith 98 = .ok (.iload_n 1, 1) := by decide +kernel
theorem dX12_readWith_99 : decode cX12_readWith 99 = .ok (.iadd, 1) := by decide +kernel
theorem dX12_readWith_100 : decode cX12_readWith 100 = .ok (.iaload, 1) := by decide +kernel
theorem dX12_readWith_101 : decode cX12_readWith 101 = .ok (.if_icmp .ne 7, 3) := by decide +kernel
theorem dX12_readWith_104 : decode cX12_readWith 104 = .ok (.iconst 1, 1) := by decide +kernel
theorem dX12_readWith_105 : decode cX12_readWith 105 = .ok (.goto 4, 3) := by decide +kernel
theorem dX12_readWith_108 : decode cX12_readWith 108 = .ok (.iconst 0, 1) := by decide +kernel
theorem dX12_readWith_109 : decode cX12_readWith 109 = .ok (.istore 4, 2) := by decide +kernel
theorem dX12_readWith_111 : decode cX12_readWith 111 = .ok (.iload_n 2, 1) := by decide +kernel
theorem dX12_readWith_112 : decode cX12_readWith 112 = .ok (.iload 4, 2) := by decide +kernel
theorem dX12_readWith_114 : decode cX12_readWith 114 = .ok (.ifCond .eq 9, 3) := by decide +kernel
theorem dX12_readWith_117 : decode cX12_readWith 117 = .ok (.iconst 1, 1) := by decide +kernel
theorem dX12_readWith_118 : decode cX12_readWith 118 = .ok (.iload_n 3, 1) := by decide +kernel
theorem dX12_readWith_119 : decode cX12_readWith 119 = .ok (.ishl, 1) := by decide +kernel
theorem dX12_readWith_120 : decode cX12_readWith 120 = .ok (.goto 4, 3) := by decide +kernel
theorem dX12_readWith_123 : decode cX12_readWith 123 = .ok (.iconst 0, 1) := by decide +kernel
theorem dX12_readWith_124 : decode cX12_readWith 124 = .ok (.ior, 1) := by decide +kernel
theorem dX12_readWith_125 : decode cX12_readWith 125 = .ok (.istore_n 2, 1) := by decide +kernel
theorem dX12_readWith_126 : decode cX12_readWith 126 = .ok (.iinc 3 1, 3) := by decide +kernel
theorem dX12_readWith_129 : decode cX12_readWith 129 = .ok (.goto (-86), 3) := by decide +kernel
theorem dX12_readWith_132 : decode cX12_readWith 132 = .ok (.aload_n 0, 1) := by decide +kernel
theorem dX12_readWith_133 : decode cX12_readWith 133 = .ok (.getfield 13, 3) := by decide +kernel
theorem dX12_readWith_136 : decode cX12_readWith 136 = .ok (.bipush 32, 2) := by decide +kernel
theorem dX12_readWith_138 : decode cX12_readWith 138 = .ok (.iload_n 1, 1) := by decide +kernel
theorem dX12_readWith_139 : decode cX12_readWith 139 = .ok (.iadd, 1) := by decide +kernel
theorem dX12_readWith_140 : decode cX12_readWith 140 = .ok (.iaload, 1) := by decide +kernel
theorem dX12_readWith_141 : decode cX12_readWith 141 = .ok (.iconst 2, 1) := by decide +kernel
theorem dX12_readWith_142 : decode cX12_readWith 142 = .ok (.if_icmp .ne 7, 3) := by decide +kernel
theorem dX12_readWith_145 : decode cX12_readWith 145 = .ok (.iload_n 2, 1) := by decide +kernel
theorem dX12_readWith_146 : decode cX12_readWith 146 = .ok (.goto 4, 3) := by decide +kernel
theorem dX12_readWith_149 : decode cX12_readWith 149 = .ok (.iconst (-1), 1) := by decide +kernel
theorem dX12_readWith_150 : decode cX12_readWith 150 = .ok (.istore_n 2, 1) := by decide +kernel
theorem dX12_readWith_151 : decode cX12_readWith 151 = .ok (.aload_n 0, 1) := by decide +kernel
theorem dX12_readWith_152 : decode cX12_readWith 152 = .ok (.bipush 16, 2) := by decide +kernel
theorem dX12_readWith_154 : decode cX12_readWith 154 = .ok (.invokevirtual 169, 3) := by decide +kernel
theorem dX12_readWith_157 : decode cX12_readWith 157 = .ok (.iload_n 2, 1) := by decide +kernel
theorem dX12_readWith_158 : decode cX12_readWith 158 = .ok (.ireturn, 1) := by decide +kernel
set_option maxRecDepth 100000 in
theorem okm_X12_readWith : okL RX12 cX12_readWith 5 (some .int) "readWith" pcX12_readWith opX12_readWith pcX12_readWith := by
  unfold opX12_readWith
  refine okL_cons (ok_aload_n rfl dX12_readWith_0) rfl ?_
  refine okL_cons (ok_iconst rfl dX12_readWith_1) rfl ?_
  refine okL_cons (ok_putI kw_717 cf_X12 rfl rfl (by decide) rfl dX12_readWith_2) rfl ?_
  refine okL_cons (ok_iload_n rfl dX12_readWith_5) rfl ?_
  refine okL_cons (ok_invS (M' := 179) kw_761 kw_762 kw_711 kw_763 rfl (by decide +kernel) dX12_readWith_6) rfl ?_
  refine okL_cons (ok_if_ne rfl dX12_readWith_9) rfl ?_
  refine okL_cons (ok_iconst rfl dX12_readWith_12) rfl ?_
  refine okL_cons (ok_ireturn rfl dX12_readWith_13) rfl ?_
  refine okL_cons (ok_aload_n rfl dX12_readWith_14) rfl ?_
  refine okL_cons (ok_bipush rfl dX12_readWith_15) rfl ?_
  refine okL_cons (ok_invV (M' := 172) kw_713 kw_714 kw_715 kw_711 kw_716 cf_X12 rfl (by decide +kernel) dX12_readWith_17) rfl ?_
  refine okL_cons (ok_iconst rfl dX12_readWith_20) rfl ?_
  refine okL_cons (ok_istore_n rfl dX12_readWith_21) rfl ?_
  refine okL_cons (ok_iload_n rfl dX12_readWith_22) rfl ?_
  refine okL_cons (ok_bipush rfl dX12_readWith_23) rfl ?_
  refine okL_cons (ok_icmp_ge rfl dX12_readWith_25) rfl ?_
  refine okL_cons (ok_aload_n rfl dX12_readWith_28) rfl ?_
  refine okL_cons (ok_invV (M' := 238) kw_957 kw_958 kw_959 kw_711 kw_960 cf_X12 rfl (by decide +kernel) dX12_readWith_29) rfl ?_
  refine okL_cons (ok_pop dX12_readWith_32) rfl ?_
  refine okL_cons (ok_iinc rfl dX12_readWith_33) rfl ?_
  refine okL_cons (ok_goto rfl dX12_readWith_36) rfl ?_
  refine okL_cons (ok_iconst rfl dX12_readWith_39) rfl ?_
  refine okL_cons (ok_istore_n rfl dX12_readWith_40) rfl ?_
  refine okL_cons (ok_iconst rfl dX12_readWith_41) rfl ?_
  refine okL_cons (ok_istore_n rfl dX12_readWith_42) rfl ?_
  refine okL_cons (ok_iload_n rfl dX12_readWith_43) rfl ?_
  refine okL_cons (ok_bipush rfl dX12_readWith_44) rfl ?_
  refine okL_cons (ok_icmp_ge rfl dX12_readWith_46) rfl ?_
  refine okL_cons (ok_aload_n rfl dX12_readWith_49) rfl ?_
  refine okL_cons (ok_getP kw_654 cf_X12 rfl rfl (by decide) dX12_readWith_50) rfl ?_
  refine okL_cons (ok_bipush rfl dX12_readWith_53) rfl ?_
  refine okL_cons (ok_iload_n rfl dX12_readWith_55) rfl ?_
  refine okL_cons (ok_iadd dX12_readWith_56) rfl ?_
  refine okL_cons (ok_iaload dX12_readWith_57) rfl ?_
  refine okL_cons (ok_iconst rfl dX12_readWith_58) rfl ?_
  refine okL_cons (ok_icmp_ne rfl dX12_readWith_59) rfl ?_
  refine okL_cons (ok_aload_n rfl dX12_readWith_62) rfl ?_
  refine okL_cons (ok_getP kw_654 cf_X12 rfl rfl (by decide) dX12_readWith_63) rfl ?_
  refine okL_cons (ok_bipush rfl dX12_readWith_66) rfl ?_
  refine okL_cons (ok_iload_n rfl dX12_readWith_68) rfl ?_
  refine okL_cons (ok_iadd dX12_readWith_69) rfl ?_
  refine okL_cons (ok_iaload dX12_readWith_70) rfl ?_
  refine okL_cons (ok_aload_n rfl dX12_readWith_71) rfl ?_
  refine okL_cons (ok_getP kw_654 cf_X12 rfl rfl (by decide) dX12_readWith_72) rfl ?_
  refine okL_cons (ok_bipush rfl dX12_readWith_75) rfl ?_
  refine okL_cons (ok_iload_n rfl dX12_readWith_77) rfl ?_
  refine okL_cons (ok_iadd dX12_readWith_78) rfl ?_
  refine okL_cons (ok_iaload dX12_readWith_79) rfl ?_
  refine okL_cons (ok_icmp_ne rfl dX12_readWith_80) rfl ?_
  refine okL_cons (ok_aload_n rfl dX12_readWith_83) rfl ?_
  refine okL_cons (ok_getP kw_654 cf_X12 rfl rfl (by decide) dX12_readWith_84) rfl ?_
  refine okL_cons (ok_bipush rfl dX12_readWith_87) rfl ?_
  refine okL_cons (ok_iload_n rfl dX12_readWith_89) rfl ?_
  refine okL_cons (ok_iadd dX12_readWith_90) rfl ?_
  refine okL_cons (ok_iaload dX12_readWith_91) rfl ?_
  refine okL_cons (ok_aload_n rfl dX12_readWith_92) rfl ?_
  refine okL_cons (ok_getP kw_654 cf_X12 rfl rfl (by decide) dX12_readWith_93) rfl ?_
  refine okL_cons (ok_bipush rfl dX12_readWith_96) rfl ?_
  refine okL_cons (ok_iload_n rfl dX12_readWith_98) rfl ?_
  refine okL_cons (ok_iadd dX12_readWith_99) rfl ?_
  refine okL_cons (ok_iaload dX12_readWith_100) rfl ?_
  refine okL_cons (ok_icmp_ne rfl dX12_readWith_101) rfl ?_
  refine okL_cons (ok_iconst rfl dX12_readWith_104) rfl ?_
  refine okL_cons (ok_goto rfl dX12_readWith_105) rfl ?_
  refine okL_cons (ok_iconst rfl dX12_readWith_108) rfl ?_
  refine okL_cons (ok_istore dX12_readWith_109) rfl ?_
  refine okL_cons (ok_iload_n rfl dX12_readWith_111) rfl ?_
  refine okL_cons (ok_iload dX12_readWith_112) rfl ?_
  refine okL_cons (ok_if_eq rfl dX12_readWith_114) rfl ?_
  refine okL_cons (ok_iconst rfl dX12_readWith_117) rfl ?_
  refine okL_cons (ok_iload_n rfl dX12_readWith_118) rfl ?_
  refine okL_cons (ok_ishl dX12_readWith_119) rfl ?_
  refine okL_cons (ok_goto rfl dX12_readWith_120) rfl ?_
  refine okL_cons (ok_iconst rfl dX12_readWith_123) rfl ?_
  refine okL_cons (ok_ior dX12_readWith_124) rfl ?_
  refine okL_cons (ok_istore_n rfl dX12_readWith_125) rfl ?_
  refine okL_cons (ok_iinc rfl dX12_readWith_126) rfl ?_
  refine okL_cons (ok_goto rfl dX12_readWith_129) rfl ?_
  refine okL_cons (ok_aload_n rfl dX12_readWith_132) rfl ?_
  refine okL_cons (ok_getP kw_654 cf_X12 rfl rfl (by decide) dX12_readWith_133) rfl ?_
  refine okL_cons (ok_bipush rfl dX12_readWith_136) rfl ?_
  refine okL_cons (ok_iload_n rfl dX12_readWith_138) rfl ?_
  refine okL_cons (ok_iadd dX12_readWith_139) rfl ?_
  refine okL_cons (ok_iaload dX12_readWith_140) rfl ?_
  refine okL_cons (ok_iconst rfl dX12_readWith_141) rfl ?_
  refine okL_cons (ok_icmp_ne rfl dX12_readWith_142) rfl ?_
  refine okL_cons (ok_iload_n rfl dX12_readWith_145) rfl ?_
  refine okL_cons (ok_goto rfl dX12_readWith_146) rfl ?_
  refine okL_cons (ok_iconst rfl dX12_readWith_149) rfl ?_
  refine okL_cons (ok_istore_n rfl dX12_readWith_150) rfl ?_
  refine okL_cons (ok_aload_n rfl dX12_readWith_151) rfl ?_
  refine okL_cons (ok_bipush rfl dX12_readWith_152) rfl ?_
  refine okL_cons (ok_invV (M' := 173) kw_718 kw_719 kw_720 kw_711 kw_721 cf_X12 rfl (by decide +kernel) dX12_readWith_154) rfl ?_
  refine okL_cons (ok_iload_n rfl dX12_readWith_157) rfl ?_
  exact okL_one (ok_ireturn rfl dX12_readWith_158)
theorem dX12_hoursOf_0 : decode cX12_hoursOf 0 = .ok (.iload_n 1, 1) := by decide +kernel
theorem dX12_hoursOf_1 : decode cX12_hoursOf 1 = .ok (.istore_n 2, 1) := by decide +kernel
theorem dX12_hoursOf_2 : decode cX12_hoursOf 2 = .ok (.iconst 0, 1) := by decide +kernel
theorem dX12_hoursOf_3 : decode cX12_hoursOf 3 = .ok (.istore_n 3, 1) := by decide +kernel
theorem dX12_hoursOf_4 : decode cX12_hoursOf 4 = .ok (.aload_n 0, 1) := by decide +kernel
theorem dX12_hoursOf_5 : decode cX12_hoursOf 5 = .ok (.getfield 107, 3) := by decide +kernel
theorem dX12_hoursOf_8 : decode cX12_hoursOf 8 = .ok (.iload_n 2, 1) := by decide +kernel
theorem dX12_hoursOf_9 : decode cX12_hoursOf 9 = .ok (.iaload, 1) := by decide +kernel
theorem dX12_hoursOf_10 : decode cX12_hoursOf 10 = .ok (.iload_n 2, 1) := by decide +kernel
theorem dX12_hoursOf_11 : decode cX12_hoursOf 11 = .ok (.if_icmp .eq 16, 3) := by decide +kernel
theorem dX12_hoursOf_14 : decode cX12_hoursOf 14 = .ok (.aload_n 0, 1) := by decide +kernel
theorem dX12_hoursOf_15 : decode cX12_hoursOf 15 = .ok (.getfield 107, 3) := by decide +kernel
theorem dX12_hoursOf_18 : decode cX12_hoursOf 18 = .ok (.iload_n 2, 1) := by decide +kernel
theorem dX12_hoursOf_19 : decode cX12_hoursOf 19 = .ok (.iaload, 1) := by decide +kernel
theorem dX12_hoursOf_20 : decode cX12_hoursOf 20 = .ok (.istore_n 2, 1) := by decide +kernel
theorem dX12_hoursOf_21 : decode cX12_hoursOf 21 = .ok (.iinc 3 1, 3) := by decide +kernel
theorem dX12_hoursOf_24 : decode cX12_hoursOf 24 = .ok (.goto (-20), 3) := by decide +kernel
theorem dX12_hoursOf_27 : decode cX12_hoursOf 27 = .ok (.iload_n 3, 1) := by decide +kernel
theorem dX12_hoursOf_28 : decode cX12_hoursOf 28 = .ok (.ireturn, 1) := by decide +kernel
set_option maxRecDepth 100000 in
theorem okm_X12_hoursOf : okL RX12 cX12_hoursOf 4 (some .int) "hoursOf" pcX12_hoursOf opX12_hoursOf pcX12_hoursOf := by
  unfold opX12_hoursOf
  refine okL_cons (ok_iload_n rfl dX12_hoursOf_0) rfl ?_
  refine okL_cons (ok_istore_n rfl dX12_hoursOf_1) rfl ?_
  refine okL_cons (ok_iconst rfl dX12_hoursOf_2) rfl ?_
  refine okL_cons (ok_istore_n rfl dX12_hoursOf_3) rfl ?_
  refine okL_cons (ok_aload_n rfl dX12_hoursOf_4) rfl ?_
  refine okL_cons (ok_getP kw_689 cf_X12 rfl rfl (by decide) dX12_hoursOf_5) rfl ?_
  refine okL_cons (ok_iload_n rfl dX12_hoursOf_8) rfl ?_
  refine okL_cons (ok_iaload dX12_hoursOf_9) rfl ?_
  refine okL_cons (ok_iload_n rfl dX12_hoursOf_10) rfl ?_
  refine okL_cons (ok_icmp_eq rfl dX12_hoursOf_11) rfl ?_
  refine okL_cons (ok_aload_n rfl dX12_hoursOf_14) rfl ?_
  refine okL_cons (ok_getP kw_689 cf_X12 rfl rfl (by decide) dX12_hoursOf_15) rfl ?_
  refine okL_cons (ok_iload_n rfl dX12_hoursOf_18) rfl ?_
  refine okL_cons (ok_iaload dX12_hoursOf_19) rfl ?_
  refine okL_cons (ok_istore_n rfl dX12_hoursOf_20) rfl ?_
  refine okL_cons (ok_iinc rfl dX12_hoursOf_21) rfl ?_
  refine okL_cons (ok_goto rfl dX12_hoursOf_24) rfl ?_
  refine okL_cons (ok_iload_n rfl dX12_hoursOf_27) rfl ?_
  exact okL_one (ok_ireturn rfl dX12_hoursOf_28)
theorem dX12_behind_0 : decode cX12_behind 0 = .ok (.iload_n 1, 1) := by decide +kernel
theorem dX12_behind_1 : decode cX12_behind 1 = .ok (.istore_n 3, 1) := by decide +kernel
theorem dX12_behind_2 : decode cX12_behind 2 = .ok (.iconst 0, 1) := by decide +kernel
theorem dX12_behind_3 : decode cX12_behind 3 = .ok (.istore 4, 2) := by decide +kernel
theorem dX12_behind_5 : decode cX12_behind 5 = .ok (.iload 4, 2) := by decide +kernel
theorem dX12_behind_7 : decode cX12_behind 7 = .ok (.iload_n 2, 1) := by decide +kernel
theorem dX12_behind_8 : decode cX12_behind 8 = .ok (.if_icmp .ge 26, 3) := by decide +kernel
theorem dX12_behind_11 : decode cX12_behind 11 = .ok (.aload_n 0, 1) := by decide +kernel
theorem dX12_behind_12 : decode cX12_behind 12 = .ok (.getfield 107, 3) := by decide +kernel
theorem dX12_behind_15 : decode cX12_behind 15 = .ok (.iload_n 3, 1) := by decide +kernel
theorem dX12_behind_16 : decode cX12_behind 16 = .ok (.iaload, 1) := by decide +kernel
theorem dX12_behind_17 : decode cX12_behind 17 = .ok (.iload_n 3, 1) := by decide +kernel
theorem dX12_behind_18 : decode cX12_behind 18 = .ok (.if_icmp .eq 16, 3) := by decide +kernel
theorem dX12_behind_21 : decode cX12_behind 21 = .ok (.aload_n 0, 1) := by decide +kernel
theorem dX12_behind_22 : decode cX12_behind 22 = .ok (.getfield 107, 3) := by decide +kernel
theorem dX12_behind_25 : decode cX12_behind 25 = .ok (.iload_n 3, 1) := by decide +kernel
theorem dX12_behind_26 : decode cX12_behind 26 = .ok (.iaload, 1) := by decide +kernel
theorem dX12_behind_27 : decode cX12_behind 27 = .ok (.istore_n 3, 1) := by decide +kernel
theorem dX12_behind_28 : decode cX12_behind 28 = .ok (.iinc 4 1, 3) := by decide +kernel
theorem dX12_behind_31 : decode cX12_behind 31 = .ok (.goto (-26), 3) := by decide +kernel
theorem dX12_behind_34 : decode cX12_behind 34 = .ok (.iload_n 3, 1) := by decide +kernel
theorem dX12_behind_35 : decode cX12_behind 35 = .ok (.ireturn, 1) := by decide +kernel
set_option maxRecDepth 100000 in
theorem okm_X12_behind : okL RX12 cX12_behind 5 (some .int) "behind" pcX12_behind opX12_behind pcX12_behind := by
  unfold opX12_behind
  refine okL_cons (ok_iload_n rfl dX12_behind_0) rfl ?_
  refine okL_cons (ok_istore_n rfl dX12_behind_1) rfl ?_
  refine okL_cons (ok_iconst rfl dX12_behind_2) rfl ?_
  refine okL_cons (ok_istore dX12_behind_3) rfl ?_
  refine okL_cons (ok_iload dX12_behind_5) rfl ?_
  refine okL_cons (ok_iload_n rfl dX12_behind_7) rfl ?_
  refine okL_cons (ok_icmp_ge rfl dX12_behind_8) rfl ?_
  refine okL_cons (ok_aload_n rfl dX12_behind_11) rfl ?_
  refine okL_cons (ok_getP kw_689 cf_X12 rfl rfl (by decide) dX12_behind_12) rfl ?_
  refine okL_cons (ok_iload_n rfl dX12_behind_15) rfl ?_
  refine okL_cons (ok_iaload dX12_behind_16) rfl ?_
  refine okL_cons (ok_iload_n rfl dX12_behind_17) rfl ?_
  refine okL_cons (ok_icmp_eq rfl dX12_behind_18) rfl ?_
  refine okL_cons (ok_aload_n rfl dX12_behind_21) rfl ?_
  refine okL_cons (ok_getP kw_689 cf_X12 rfl rfl (by decide) dX12_behind_22) rfl ?_
  refine okL_cons (ok_iload_n rfl dX12_behind_25) rfl ?_
  refine okL_cons (ok_iaload dX12_behind_26) rfl ?_
  refine okL_cons (ok_istore_n rfl dX12_behind_27) rfl ?_
  refine okL_cons (ok_iinc rfl dX12_behind_28) rfl ?_
  refine okL_cons (ok_goto rfl dX12_behind_31) rfl ?_
  refine okL_cons (ok_iload_n rfl dX12_behind_34) rfl ?_
  exact okL_one (ok_ireturn rfl dX12_behind_35)
theorem dX12_endOf_0 : decode cX12_endOf 0 = .ok (.aload_n 0, 1) := by decide +kernel
theorem dX12_endOf_1 : decode cX12_endOf 1 = .ok (.iload_n 1, 1) := by decide +kernel
theorem dX12_endOf_2 : decode cX12_endOf 2 = .ok (.bipush 25, 2) := by decide +kernel
theorem dX12_endOf_4 : decode cX12_endOf 4 = .ok (.invokevirtual 444, 3) := by decide +kernel
theorem dX12_endOf_7 : decode cX12_endOf 7 = .ok (.ireturn, 1) := by decide +kernel
set_option maxRecDepth 100000 in
theorem okm_X12_endOf : okL RX12 cX12_endOf 2 (some .int) "endOf" pcX12_endOf opX12_endOf pcX12_endOf := by
  unfold opX12_endOf
  refine okL_cons (ok_aload_n rfl dX12_endOf_0) rfl ?_
  refine okL_cons (ok_iload_n rfl dX12_endOf_1) rfl ?_
  refine okL_cons (ok_bipush rfl dX12_endOf_2) rfl ?_
  refine okL_cons (ok_invV (M' := 244) kw_966 kw_967 kw_968 kw_711 kw_969 cf_X12 rfl (by decide +kernel) dX12_endOf_4) rfl ?_
  exact okL_one (ok_ireturn rfl dX12_endOf_7)
theorem dX12_run_0 : decode cX12_run 0 = .ok (.aload_n 0, 1) := by decide +kernel
theorem dX12_run_1 : decode cX12_run 1 = .ok (.iconst 0, 1) := by decide +kernel
theorem dX12_run_2 : decode cX12_run 2 = .ok (.putfield 152, 3) := by decide +kernel
theorem dX12_run_5 : decode cX12_run 5 = .ok (.iload_n 1, 1) := by decide +kernel
theorem dX12_run_6 : decode cX12_run 6 = .ok (.invokestatic 187, 3) := by decide +kernel
theorem dX12_run_9 : decode cX12_run 9 = .ok (.ifCond .eq 8, 3) := by decide +kernel
theorem dX12_run_12 : decode cX12_run 12 = .ok (.iload_n 2, 1) := by decide +kernel
theorem dX12_run_13 : decode cX12_run 13 = .ok (.iconst (-1), 1) := by decide +kernel
theorem dX12_run_14 : decode cX12_run 14 = .ok (.if_icmp .ge 5, 3) := by decide +kernel
theorem dX12_run_17 : decode cX12_run 17 = .ok (.iconst (-1), 1) := by decide +kernel
theorem dX12_run_18 : decode cX12_run 18 = .ok (.ireturn, 1) := by decide +kernel
theorem dX12_run_19 : decode cX12_run 19 = .ok (.aload_n 0, 1) := by decide +kernel
theorem dX12_run_20 : decode cX12_run 20 = .ok (.invokevirtual 203, 3) := by decide +kernel
theorem dX12_run_23 : decode cX12_run 23 = .ok (.iload_n 2, 1) := by decide +kernel
theorem dX12_run_24 : decode cX12_run 24 = .ok (.iconst (-1), 1) := by decide +kernel
theorem dX12_run_25 : decode cX12_run 25 = .ok (.if_icmp .ne 11, 3) := by decide +kernel
theorem dX12_run_28 : decode cX12_run 28 = .ok (.aload_n 0, 1) := by decide +kernel
theorem dX12_run_29 : decode cX12_run 29 = .ok (.iload_n 1, 1) := by decide +kernel
theorem dX12_run_30 : decode cX12_run 30 = .ok (.invokevirtual 447, 3) := by decide +kernel
theorem dX12_run_33 : decode cX12_run 33 = .ok (.goto 9, 3) := by decide +kernel
theorem dX12_run_36 : decode cX12_run 36 = .ok (.aload_n 0, 1) := by decide +kernel
theorem dX12_run_37 : decode cX12_run 37 = .ok (.iload_n 1, 1) := by decide +kernel
theorem dX12_run_38 : decode cX12_run 38 = .ok (.iload_n 2, 1) := by decide +kernel
theorem dX12_run_39 : decode cX12_run 39 = .ok (.invokevirtual 444, 3) := by decide +kernel
theorem dX12_run_42 : decode cX12_run 42 = .ok (.ireturn, 1) := by decide +kernel
set_option maxRecDepth 100000 in
theorem okm_X12_run : okL RX12 cX12_run 3 (some .int) "run" pcX12_run opX12_run pcX12_run := by
  unfold opX12_run
  refine okL_cons (ok_aload_n rfl dX12_run_0) rfl ?_
  refine okL_cons (ok_iconst rfl dX12_run_1) rfl ?_
  refine okL_cons (ok_putI kw_717 cf_X12 rfl rfl (by decide) rfl dX12_run_2) rfl ?_
  refine okL_cons (ok_iload_n rfl dX12_run_5) rfl ?_
  refine okL_cons (ok_invS (M' := 178) kw_734 kw_735 kw_711 kw_736 rfl (by decide +kernel) dX12_run_6) rfl ?_
  refine okL_cons (ok_if_eq rfl dX12_run_9) rfl ?_
  refine okL_cons (ok_iload_n rfl dX12_run_12) rfl ?_
  refine okL_cons (ok_iconst rfl dX12_run_13) rfl ?_
  refine okL_cons (ok_icmp_ge rfl dX12_run_14) rfl ?_
  refine okL_cons (ok_iconst rfl dX12_run_17) rfl ?_
  refine okL_cons (ok_ireturn rfl dX12_run_18) rfl ?_
  refine okL_cons (ok_aload_n rfl dX12_run_19) rfl ?_
  refine okL_cons (ok_invV (M' := 230) kw_753 kw_754 kw_755 kw_711 kw_756 cf_X12 rfl (by decide +kernel) dX12_run_20) rfl ?_
  refine okL_cons (ok_iload_n rfl dX12_run_23) rfl ?_
  refine okL_cons (ok_iconst rfl dX12_run_24) rfl ?_
  refine okL_cons (ok_icmp_ne rfl dX12_run_25) rfl ?_
  refine okL_cons (ok_aload_n rfl dX12_run_28) rfl ?_
  refine okL_cons (ok_iload_n rfl dX12_run_29) rfl ?_
  refine okL_cons (ok_invV (M' := 243) kw_970 kw_971 kw_972 kw_711 kw_973 cf_X12 rfl (by decide +kernel) dX12_run_30) rfl ?_
  refine okL_cons (ok_goto rfl dX12_run_33) rfl ?_
  refine okL_cons (ok_aload_n rfl dX12_run_36) rfl ?_
  refine okL_cons (ok_iload_n rfl dX12_run_37) rfl ?_
  refine okL_cons (ok_iload_n rfl dX12_run_38) rfl ?_
  refine okL_cons (ok_invV (M' := 244) kw_966 kw_967 kw_968 kw_711 kw_969 cf_X12 rfl (by decide +kernel) dX12_run_39) rfl ?_
  exact okL_one (ok_ireturn rfl dX12_run_42)
theorem dX12_basin_0 : decode cX12_basin 0 = .ok (.aload_n 0, 1) := by decide +kernel
theorem dX12_basin_1 : decode cX12_basin 1 = .ok (.iconst 0, 1) := by decide +kernel
theorem dX12_basin_2 : decode cX12_basin 2 = .ok (.putfield 152, 3) := by decide +kernel
theorem dX12_basin_5 : decode cX12_basin 5 = .ok (.iload_n 1, 1) := by decide +kernel
theorem dX12_basin_6 : decode cX12_basin 6 = .ok (.invokestatic 187, 3) := by decide +kernel
theorem dX12_basin_9 : decode cX12_basin 9 = .ok (.ifCond .ne 5, 3) := by decide +kernel
theorem dX12_basin_12 : decode cX12_basin 12 = .ok (.iconst (-1), 1) := by decide +kernel
theorem dX12_basin_13 : decode cX12_basin 13 = .ok (.ireturn, 1) := by decide +kernel
theorem dX12_basin_14 : decode cX12_basin 14 = .ok (.aload_n 0, 1) := by decide +kernel
theorem dX12_basin_15 : decode cX12_basin 15 = .ok (.invokevirtual 203, 3) := by decide +kernel
theorem dX12_basin_18 : decode cX12_basin 18 = .ok (.iconst 0, 1) := by decide +kernel
theorem dX12_basin_19 : decode cX12_basin 19 = .ok (.istore_n 2, 1) := by decide +kernel
theorem dX12_basin_20 : decode cX12_basin 20 = .ok (.iconst 0, 1) := by decide +kernel
theorem dX12_basin_21 : decode cX12_basin 21 = .ok (.istore_n 3, 1) := by decide +kernel
theorem dX12_basin_22 : decode cX12_basin 22 = .ok (.iload_n 3, 1) := by decide +kernel
theorem dX12_basin_23 : decode cX12_basin 23 = .ok (.bipush 25, 2) := by decide +kernel
theorem dX12_basin_25 : decode cX12_basin 25 = .ok (.if_icmp .ge 28, 3) := by decide +kernel
theorem dX12_basin_28 : decode cX12_basin 28 = .ok (.iload_n 2, 1) := by decide +kernel
theorem dX12_basin_29 : decode cX12_basin 29 = .ok (.aload_n 0, 1) := by decide +kernel
theorem dX12_basin_30 : decode cX12_basin 30 = .ok (.iload_n 3, 1) := by decide +kernel
theorem dX12_basin_31 : decode cX12_basin 31 = .ok (.invokevirtual 450, 3) := by decide +kernel
theorem dX12_basin_34 : decode cX12_basin 34 = .ok (.iload_n 1, 1) := by decide +kernel
theorem dX12_basin_35 : decode cX12_basin 35 = .ok (.if_icmp .ne 9, 3) := by decide +kernel
theorem dX12_basin_38 : decode cX12_basin 38 = .ok (.iconst 1, 1) := by decide +kernel
theorem dX12_basin_39 : decode cX12_basin 39 = .ok (.iload_n 3, 1) := by decide +kernel
theorem dX12_basin_40 : decode cX12_basin 40 = .ok (.ishl, 1) := by decide +kernel
theorem dX12_basin_41 : decode cX12_basin 41 = .ok (.goto 4, 3) := by decide +kernel
theorem dX12_basin_44 : decode cX12_basin 44 = .ok (.iconst 0, 1) := by decide +kernel
theorem dX12_basin_45 : decode cX12_basin 45 = .ok (.ior, 1) := by decide +kernel
theorem dX12_basin_46 : decode cX12_basin 46 = .ok (.istore_n 2, 1) := by decide +kernel
theorem dX12_basin_47 : decode cX12_basin 47 = .ok (.iinc 3 1, 3) := by decide +kernel
theorem dX12_basin_50 : decode cX12_basin 50 = .ok (.goto (-28), 3) := by decide +kernel
theorem dX12_basin_53 : decode cX12_basin 53 = .ok (.iload_n 2, 1) := by decide +kernel
theorem dX12_basin_54 : decode cX12_basin 54 = .ok (.ireturn, 1) := by decide +kernel
set_option maxRecDepth 100000 in
theorem okm_X12_basin : okL RX12 cX12_basin 4 (some .int) "basin" pcX12_basin opX12_basin pcX12_basin := by
  unfold opX12_basin
  refine okL_cons (ok_aload_n rfl dX12_basin_0) rfl ?_
  refine okL_cons (ok_iconst rfl dX12_basin_1) rfl ?_
  refine okL_cons (ok_putI kw_717 cf_X12 rfl rfl (by decide) rfl dX12_basin_2) rfl ?_
  refine okL_cons (ok_iload_n rfl dX12_basin_5) rfl ?_
  refine okL_cons (ok_invS (M' := 178) kw_734 kw_735 kw_711 kw_736 rfl (by decide +kernel) dX12_basin_6) rfl ?_
  refine okL_cons (ok_if_ne rfl dX12_basin_9) rfl ?_
  refine okL_cons (ok_iconst rfl dX12_basin_12) rfl ?_
  refine okL_cons (ok_ireturn rfl dX12_basin_13) rfl ?_
  refine okL_cons (ok_aload_n rfl dX12_basin_14) rfl ?_
  refine okL_cons (ok_invV (M' := 230) kw_753 kw_754 kw_755 kw_711 kw_756 cf_X12 rfl (by decide +kernel) dX12_basin_15) rfl ?_
  refine okL_cons (ok_iconst rfl dX12_basin_18) rfl ?_
  refine okL_cons (ok_istore_n rfl dX12_basin_19) rfl ?_
  refine okL_cons (ok_iconst rfl dX12_basin_20) rfl ?_
  refine okL_cons (ok_istore_n rfl dX12_basin_21) rfl ?_
  refine okL_cons (ok_iload_n rfl dX12_basin_22) rfl ?_
  refine okL_cons (ok_bipush rfl dX12_basin_23) rfl ?_
  refine okL_cons (ok_icmp_ge rfl dX12_basin_25) rfl ?_
  refine okL_cons (ok_iload_n rfl dX12_basin_28) rfl ?_
  refine okL_cons (ok_aload_n rfl dX12_basin_29) rfl ?_
  refine okL_cons (ok_iload_n rfl dX12_basin_30) rfl ?_
  refine okL_cons (ok_invV (M' := 245) kw_974 kw_975 kw_976 kw_711 kw_977 cf_X12 rfl (by decide +kernel) dX12_basin_31) rfl ?_
  refine okL_cons (ok_iload_n rfl dX12_basin_34) rfl ?_
  refine okL_cons (ok_icmp_ne rfl dX12_basin_35) rfl ?_
  refine okL_cons (ok_iconst rfl dX12_basin_38) rfl ?_
  refine okL_cons (ok_iload_n rfl dX12_basin_39) rfl ?_
  refine okL_cons (ok_ishl dX12_basin_40) rfl ?_
  refine okL_cons (ok_goto rfl dX12_basin_41) rfl ?_
  refine okL_cons (ok_iconst rfl dX12_basin_44) rfl ?_
  refine okL_cons (ok_ior dX12_basin_45) rfl ?_
  refine okL_cons (ok_istore_n rfl dX12_basin_46) rfl ?_
  refine okL_cons (ok_iinc rfl dX12_basin_47) rfl ?_
  refine okL_cons (ok_goto rfl dX12_basin_50) rfl ?_
  refine okL_cons (ok_iload_n rfl dX12_basin_53) rfl ?_
  exact okL_one (ok_ireturn rfl dX12_basin_54)
theorem dX12_cellsOf_0 : decode cX12_cellsOf 0 = .ok (.iconst 0, 1) := by decide +kernel
theorem dX12_cellsOf_1 : decode cX12_cellsOf 1 = .ok (.istore_n 2, 1) := by decide +kernel
theorem dX12_cellsOf_2 : decode cX12_cellsOf 2 = .ok (.iconst 0, 1) := by decide +kernel
theorem dX12_cellsOf_3 : decode cX12_cellsOf 3 = .ok (.istore_n 3, 1) := by decide +kernel
theorem dX12_cellsOf_4 : decode cX12_cellsOf 4 = .ok (.iload_n 3, 1) := by decide +kernel
theorem dX12_cellsOf_5 : decode cX12_cellsOf 5 = .ok (.aload_n 0, 1) := by decide +kernel
theorem dX12_cellsOf_6 : decode cX12_cellsOf 6 = .ok (.iload_n 1, 1) := by decide +kernel
theorem dX12_cellsOf_7 : decode cX12_cellsOf 7 = .ok (.invokevirtual 447, 3) := by decide +kernel
theorem dX12_cellsOf_10 : decode cX12_cellsOf 10 = .ok (.if_icmp .gt 20, 3) := by decide +kernel
theorem dX12_cellsOf_13 : decode cX12_cellsOf 13 = .ok (.iload_n 2, 1) := by decide +kernel
theorem dX12_cellsOf_14 : decode cX12_cellsOf 14 = .ok (.iconst 1, 1) := by decide +kernel
theorem dX12_cellsOf_15 : decode cX12_cellsOf 15 = .ok (.aload_n 0, 1) := by decide +kernel
theorem dX12_cellsOf_16 : decode cX12_cellsOf 16 = .ok (.iload_n 1, 1) := by decide +kernel
theorem dX12_cellsOf_17 : decode cX12_cellsOf 17 = .ok (.iload_n 3, 1) := by decide +kernel
theorem dX12_cellsOf_18 : decode cX12_cellsOf 18 = .ok (.invokevirtual 444, 3) := by decide +kernel
theorem dX12_cellsOf_21 : decode cX12_cellsOf 21 = .ok (.ishl, 1) := by decide +kernel
theorem dX12_cellsOf_22 : decode cX12_cellsOf 22 = .ok (.ior, 1) := by decide +kernel
theorem dX12_cellsOf_23 : decode cX12_cellsOf 23 = .ok (.istore_n 2, 1) := by decide +kernel
theorem dX12_cellsOf_24 : decode cX12_cellsOf 24 = .ok (.iinc 3 1, 3) := by decide +kernel
theorem dX12_cellsOf_27 : decode cX12_cellsOf 27 = .ok (.goto (-23), 3) := by decide +kernel
theorem dX12_cellsOf_30 : decode cX12_cellsOf 30 = .ok (.iload_n 2, 1) := by decide +kernel
theorem dX12_cellsOf_31 : decode cX12_cellsOf 31 = .ok (.ireturn, 1) := by decide +kernel
set_option maxRecDepth 100000 in
theorem okm_X12_cellsOf : okL RX12 cX12_cellsOf 4 (some .int) "cellsOf" pcX12_cellsOf opX12_cellsOf pcX12_cellsOf := by
  unfold opX12_cellsOf
  refine okL_cons (ok_iconst rfl dX12_cellsOf_0) rfl ?_
  refine okL_cons (ok_istore_n rfl dX12_cellsOf_1) rfl ?_
  refine okL_cons (ok_iconst rfl dX12_cellsOf_2) rfl ?_
  refine okL_cons (ok_istore_n rfl dX12_cellsOf_3) rfl ?_
  refine okL_cons (ok_iload_n rfl dX12_cellsOf_4) rfl ?_
  refine okL_cons (ok_aload_n rfl dX12_cellsOf_5) rfl ?_
  refine okL_cons (ok_iload_n rfl dX12_cellsOf_6) rfl ?_
  refine okL_cons (ok_invV (M' := 243) kw_970 kw_971 kw_972 kw_711 kw_973 cf_X12 rfl (by decide +kernel) dX12_cellsOf_7) rfl ?_
  refine okL_cons (ok_icmp_gt rfl dX12_cellsOf_10) rfl ?_
  refine okL_cons (ok_iload_n rfl dX12_cellsOf_13) rfl ?_
  refine okL_cons (ok_iconst rfl dX12_cellsOf_14) rfl ?_
  refine okL_cons (ok_aload_n rfl dX12_cellsOf_15) rfl ?_
  refine okL_cons (ok_iload_n rfl dX12_cellsOf_16) rfl ?_
  refine okL_cons (ok_iload_n rfl dX12_cellsOf_17) rfl ?_
  refine okL_cons (ok_invV (M' := 244) kw_966 kw_967 kw_968 kw_711 kw_969 cf_X12 rfl (by decide +kernel) dX12_cellsOf_18) rfl ?_
  refine okL_cons (ok_ishl dX12_cellsOf_21) rfl ?_
  refine okL_cons (ok_ior dX12_cellsOf_22) rfl ?_
  refine okL_cons (ok_istore_n rfl dX12_cellsOf_23) rfl ?_
  refine okL_cons (ok_iinc rfl dX12_cellsOf_24) rfl ?_
  refine okL_cons (ok_goto rfl dX12_cellsOf_27) rfl ?_
  refine okL_cons (ok_iload_n rfl dX12_cellsOf_30) rfl ?_
  exact okL_one (ok_ireturn rfl dX12_cellsOf_31)
theorem dX12_meeting_0 : decode cX12_meeting 0 = .ok (.aload_n 0, 1) := by decide +kernel
theorem dX12_meeting_1 : decode cX12_meeting 1 = .ok (.iconst 0, 1) := by decide +kernel
theorem dX12_meeting_2 : decode cX12_meeting 2 = .ok (.putfield 152, 3) := by decide +kernel
theorem dX12_meeting_5 : decode cX12_meeting 5 = .ok (.iload_n 1, 1) := by decide +kernel
theorem dX12_meeting_6 : decode cX12_meeting 6 = .ok (.invokestatic 187, 3) := by decide +kernel
theorem dX12_meeting_9 : decode cX12_meeting 9 = .ok (.ifCond .eq 10, 3) := by decide +kernel
theorem dX12_meeting_12 : decode cX12_meeting 12 = .ok (.iload_n 2, 1) := by decide +kernel
theorem dX12_meeting_13 : decode cX12_meeting 13 = .ok (.invokestatic 187, 3) := by decide +kernel
theorem dX12_meeting_16 : decode cX12_meeting 16 = .ok (.ifCond .ne 5, 3) := by decide +kernel
theorem dX12_meeting_19 : decode cX12_meeting 19 = .ok (.iconst (-1), 1) := by decide +kernel
theorem dX12_meeting_20 : decode cX12_meeting 20 = .ok (.ireturn, 1) := by decide +kernel
theorem dX12_meeting_21 : decode cX12_meeting 21 = .ok (.aload_n 0, 1) := by decide +kernel
theorem dX12_meeting_22 : decode cX12_meeting 22 = .ok (.invokevirtual 203, 3) := by decide +kernel
theorem dX12_meeting_25 : decode cX12_meeting 25 = .ok (.iconst (-1), 1) := by decide +kernel
theorem dX12_meeting_26 : decode cX12_meeting 26 = .ok (.istore_n 3, 1) := by decide +kernel
theorem dX12_meeting_27 : decode cX12_meeting 27 = .ok (.aload_n 0, 1) := by decide +kernel
theorem dX12_meeting_28 : decode cX12_meeting 28 = .ok (.iload_n 1, 1) := by decide +kernel
theorem dX12_meeting_29 : decode cX12_meeting 29 = .ok (.invokevirtual 447, 3) := by decide +kernel
theorem dX12_meeting_32 : decode cX12_meeting 32 = .ok (.istore 4, 2) := by decide +kernel
theorem dX12_meeting_34 : decode cX12_meeting 34 = .ok (.iload 4, 2) := by decide +kernel
theorem dX12_meeting_36 : decode cX12_meeting 36 = .ok (.ifCond .lt 39, 3) := by decide +kernel
theorem dX12_meeting_39 : decode cX12_meeting 39 = .ok (.aload_n 0, 1) := by decide +kernel
theorem dX12_meeting_40 : decode cX12_meeting 40 = .ok (.iload_n 2, 1) := by decide +kernel
theorem dX12_meeting_41 : decode cX12_meeting 41 = .ok (.invokevirtual 453, 3) := by decide +kernel
theorem dX12_meeting_44 : decode cX12_meeting 44 = .ok (.aload_n 0, 1) := by decide +kernel
theorem dX12_meeting_45 : decode cX12_meeting 45 = .ok (.iload_n 1, 1) := by decide +kernel
theorem dX12_meeting_46 : decode cX12_meeting 46 = .ok (.iload 4, 2) := by decide +kernel
theorem dX12_meeting_48 : decode cX12_meeting 48 = .ok (.invokevirtual 444, 3) := by decide +kernel
theorem dX12_meeting_51 : decode cX12_meeting 51 = .ok (.invokestatic 181, 3) := by decide +kernel
theorem dX12_meeting_54 : decode cX12_meeting 54 = .ok (.ifCond .eq 13, 3) := by decide +kernel
theorem dX12_meeting_57 : decode cX12_meeting 57 = .ok (.aload_n 0, 1) := by decide +kernel
theorem dX12_meeting_58 : decode cX12_meeting 58 = .ok (.iload_n 1, 1) := by decide +kernel
theorem dX12_meeting_59 : decode cX12_meeting 59 = .ok (.iload 4, 2) := by decide +kernel
theorem dX12_meeting_61 : decode cX12_meeting 61 = .ok (.invokevirtual 444, 3) := by decide +kernel
theorem dX12_meeting_64 : decode cX12_meeting 64 = .ok (.goto 4, 3) := by decide +kernel
theorem dX12_meeting_67 : decode cX12_meeting 67 = .ok (.iload_n 3, 1) := by decide +kernel
theorem dX12_meeting_68 : decode cX12_meeting 68 = .ok (.istore_n 3, 1) := by decide +kernel
theorem dX12_meeting_69 : decode cX12_meeting 69 = .ok (.iinc 4 (-1), 3) := by decide +kernel
theorem dX12_meeting_72 : decode cX12_meeting 72 = .ok (.goto (-38), 3) := by decide +kernel
theorem dX12_meeting_75 : decode cX12_meeting 75 = .ok (.iload_n 3, 1) := by decide +kernel
theorem dX12_meeting_76 : decode cX12_meeting 76 = .ok (.ireturn, 1) := by decide +kernel
set_option maxRecDepth 100000 in
theorem okm_X12_meeting : okL RX12 cX12_meeting 5 (some .int) "meeting" pcX12_meeting opX12_meeting pcX12_meeting := by
  unfold opX12_meeting
  refine okL_cons (ok_aload_n rfl dX12_meeting_0) rfl ?_
  refine okL_cons (ok_iconst rfl dX12_meeting_1) rfl ?_
  refine okL_cons (ok_putI kw_717 cf_X12 rfl rfl (by decide) rfl dX12_meeting_2) rfl ?_
  refine okL_cons (ok_iload_n rfl dX12_meeting_5) rfl ?_
  refine okL_cons (ok_invS (M' := 178) kw_734 kw_735 kw_711 kw_736 rfl (by decide +kernel) dX12_meeting_6) rfl ?_
  refine okL_cons (ok_if_eq rfl dX12_meeting_9) rfl ?_
  refine okL_cons (ok_iload_n rfl dX12_meeting_12) rfl ?_
  refine okL_cons (ok_invS (M' := 178) kw_734 kw_735 kw_711 kw_736 rfl (by decide +kernel) dX12_meeting_13) rfl ?_
  refine okL_cons (ok_if_ne rfl dX12_meeting_16) rfl ?_
  refine okL_cons (ok_iconst rfl dX12_meeting_19) rfl ?_
  refine okL_cons (ok_ireturn rfl dX12_meeting_20) rfl ?_
  refine okL_cons (ok_aload_n rfl dX12_meeting_21) rfl ?_
  refine okL_cons (ok_invV (M' := 230) kw_753 kw_754 kw_755 kw_711 kw_756 cf_X12 rfl (by decide +kernel) dX12_meeting_22) rfl ?_
  refine okL_cons (ok_iconst rfl dX12_meeting_25) rfl ?_
  refine okL_cons (ok_istore_n rfl dX12_meeting_26) rfl ?_
  refine okL_cons (ok_aload_n rfl dX12_meeting_27) rfl ?_
  refine okL_cons (ok_iload_n rfl dX12_meeting_28) rfl ?_
  refine okL_cons (ok_invV (M' := 243) kw_970 kw_971 kw_972 kw_711 kw_973 cf_X12 rfl (by decide +kernel) dX12_meeting_29) rfl ?_
  refine okL_cons (ok_istore dX12_meeting_32) rfl ?_
  refine okL_cons (ok_iload dX12_meeting_34) rfl ?_
  refine okL_cons (ok_if_lt rfl dX12_meeting_36) rfl ?_
  refine okL_cons (ok_aload_n rfl dX12_meeting_39) rfl ?_
  refine okL_cons (ok_iload_n rfl dX12_meeting_40) rfl ?_
  refine okL_cons (ok_invV (M' := 248) kw_978 kw_979 kw_980 kw_711 kw_981 cf_X12 rfl (by decide +kernel) dX12_meeting_41) rfl ?_
  refine okL_cons (ok_aload_n rfl dX12_meeting_44) rfl ?_
  refine okL_cons (ok_iload_n rfl dX12_meeting_45) rfl ?_
  refine okL_cons (ok_iload dX12_meeting_46) rfl ?_
  refine okL_cons (ok_invV (M' := 244) kw_966 kw_967 kw_968 kw_711 kw_969 cf_X12 rfl (by decide +kernel) dX12_meeting_48) rfl ?_
  refine okL_cons (ok_invS (M' := 166) kw_730 kw_731 kw_711 kw_732 rfl (by decide +kernel) dX12_meeting_51) rfl ?_
  refine okL_cons (ok_if_eq rfl dX12_meeting_54) rfl ?_
  refine okL_cons (ok_aload_n rfl dX12_meeting_57) rfl ?_
  refine okL_cons (ok_iload_n rfl dX12_meeting_58) rfl ?_
  refine okL_cons (ok_iload dX12_meeting_59) rfl ?_
  refine okL_cons (ok_invV (M' := 244) kw_966 kw_967 kw_968 kw_711 kw_969 cf_X12 rfl (by decide +kernel) dX12_meeting_61) rfl ?_
  refine okL_cons (ok_goto rfl dX12_meeting_64) rfl ?_
  refine okL_cons (ok_iload_n rfl dX12_meeting_67) rfl ?_
  refine okL_cons (ok_istore_n rfl dX12_meeting_68) rfl ?_
  refine okL_cons (ok_iinc rfl dX12_meeting_69) rfl ?_
  refine okL_cons (ok_goto rfl dX12_meeting_72) rfl ?_
  refine okL_cons (ok_iload_n rfl dX12_meeting_75) rfl ?_
  exact okL_one (ok_ireturn rfl dX12_meeting_76)
theorem dX12_liesBehind_0 : decode cX12_liesBehind 0 = .ok (.iload_n 2, 1) := by decide +kernel
theorem dX12_liesBehind_1 : decode cX12_liesBehind 1 = .ok (.aload_n 0, 1) := by decide +kernel
theorem dX12_liesBehind_2 : decode cX12_liesBehind 2 = .ok (.iload_n 1, 1) := by decide +kernel
theorem dX12_liesBehind_3 : decode cX12_liesBehind 3 = .ok (.invokevirtual 447, 3) := by decide +kernel
theorem dX12_liesBehind_6 : decode cX12_liesBehind 6 = .ok (.if_icmp .le 19, 3) := by decide +kernel
theorem dX12_liesBehind_9 : decode cX12_liesBehind 9 = .ok (.aload_n 0, 1) := by decide +kernel
theorem dX12_liesBehind_10 : decode cX12_liesBehind 10 = .ok (.aload_n 0, 1) := by decide +kernel
theorem dX12_liesBehind_11 : decode cX12_liesBehind 11 = .ok (.iload_n 1, 1) := by decide +kernel
theorem dX12_liesBehind_12 : decode cX12_liesBehind 12 = .ok (.invokevirtual 450, 3) := by decide +kernel
theorem dX12_liesBehind_15 : decode cX12_liesBehind 15 = .ok (.invokevirtual 191, 3) := by decide +kernel
theorem dX12_liesBehind_18 : decode cX12_liesBehind 18 = .ok (.ifCond .eq 7, 3) := by decide +kernel
theorem dX12_liesBehind_21 : decode cX12_liesBehind 21 = .ok (.iconst (-1), 1) := by decide +kernel
theorem dX12_liesBehind_22 : decode cX12_liesBehind 22 = .ok (.goto 9, 3) := by decide +kernel
theorem dX12_liesBehind_25 : decode cX12_liesBehind 25 = .ok (.aload_n 0, 1) := by decide +kernel
theorem dX12_liesBehind_26 : decode cX12_liesBehind 26 = .ok (.iload_n 1, 1) := by decide +kernel
theorem dX12_liesBehind_27 : decode cX12_liesBehind 27 = .ok (.iload_n 2, 1) := by decide +kernel
theorem dX12_liesBehind_28 : decode cX12_liesBehind 28 = .ok (.invokevirtual 444, 3) := by decide +kernel
theorem dX12_liesBehind_31 : decode cX12_liesBehind 31 = .ok (.ireturn, 1) := by decide +kernel
set_option maxRecDepth 100000 in
theorem okm_X12_liesBehind : okL RX12 cX12_liesBehind 3 (some .int) "liesBehind" pcX12_liesBehind opX12_liesBehind pcX12_liesBehind := by
  unfold opX12_liesBehind
  refine okL_cons (ok_iload_n rfl dX12_liesBehind_0) rfl ?_
  refine okL_cons (ok_aload_n rfl dX12_liesBehind_1) rfl ?_
  refine okL_cons (ok_iload_n rfl dX12_liesBehind_2) rfl ?_
  refine okL_cons (ok_invV (M' := 243) kw_970 kw_971 kw_972 kw_711 kw_973 cf_X12 rfl (by decide +kernel) dX12_liesBehind_3) rfl ?_
  refine okL_cons (ok_icmp_le rfl dX12_liesBehind_6) rfl ?_
  refine okL_cons (ok_aload_n rfl dX12_liesBehind_9) rfl ?_
  refine okL_cons (ok_aload_n rfl dX12_liesBehind_10) rfl ?_
  refine okL_cons (ok_iload_n rfl dX12_liesBehind_11) rfl ?_
  refine okL_cons (ok_invV (M' := 245) kw_974 kw_975 kw_976 kw_711 kw_977 cf_X12 rfl (by decide +kernel) dX12_liesBehind_12) rfl ?_
  refine okL_cons (ok_invV (M' := 180) kw_737 kw_738 kw_739 kw_711 kw_740 cf_X12 rfl (by decide +kernel) dX12_liesBehind_15) rfl ?_
  refine okL_cons (ok_if_eq rfl dX12_liesBehind_18) rfl ?_
  refine okL_cons (ok_iconst rfl dX12_liesBehind_21) rfl ?_
  refine okL_cons (ok_goto rfl dX12_liesBehind_22) rfl ?_
  refine okL_cons (ok_aload_n rfl dX12_liesBehind_25) rfl ?_
  refine okL_cons (ok_iload_n rfl dX12_liesBehind_26) rfl ?_
  refine okL_cons (ok_iload_n rfl dX12_liesBehind_27) rfl ?_
  refine okL_cons (ok_invV (M' := 244) kw_966 kw_967 kw_968 kw_711 kw_969 cf_X12 rfl (by decide +kernel) dX12_liesBehind_28) rfl ?_
  exact okL_one (ok_ireturn rfl dX12_liesBehind_31)
theorem dX12_clash_0 : decode cX12_clash 0 = .ok (.iconst 0, 1) := by decide +kernel
theorem dX12_clash_1 : decode cX12_clash 1 = .ok (.istore 4, 2) := by decide +kernel
theorem dX12_clash_3 : decode cX12_clash 3 = .ok (.iconst 0, 1) := by decide +kernel
theorem dX12_clash_4 : decode cX12_clash 4 = .ok (.istore 5, 2) := by decide +kernel
theorem dX12_clash_6 : decode cX12_clash 6 = .ok (.iload 5, 2) := by decide +kernel
theorem dX12_clash_8 : decode cX12_clash 8 = .ok (.bipush 100, 2) := by decide +kernel
theorem dX12_clash_10 : decode cX12_clash 10 = .ok (.if_icmp .ge 50, 3) := by decide +kernel
theorem dX12_clash_13 : decode cX12_clash 13 = .ok (.aload_n 0, 1) := by decide +kernel
theorem dX12_clash_14 : decode cX12_clash 14 = .ok (.iload_n 1, 1) := by decide +kernel
theorem dX12_clash_15 : decode cX12_clash 15 = .ok (.iload 5, 2) := by decide +kernel
theorem dX12_clash_17 : decode cX12_clash 17 = .ok (.iload_n 3, 1) := by decide +kernel
theorem dX12_clash_18 : decode cX12_clash 18 = .ok (.iadd, 1) := by decide +kernel
theorem dX12_clash_19 : decode cX12_clash 19 = .ok (.invokevirtual 456, 3) := by decide +kernel
theorem dX12_clash_22 : decode cX12_clash 22 = .ok (.istore 6, 2) := by decide +kernel
theorem dX12_clash_24 : decode cX12_clash 24 = .ok (.iload 4, 2) := by decide +kernel
theorem dX12_clash_26 : decode cX12_clash 26 = .ok (.ifCond .ne 21, 3) := by decide +kernel
theorem dX12_clash_29 : decode cX12_clash 29 = .ok (.iload 6, 2) := by decide +kernel
theorem dX12_clash_31 : decode cX12_clash 31 = .ok (.iconst (-1), 1) := by decide +kernel
theorem dX12_clash_32 : decode cX12_clash 32 = .ok (.if_icmp .eq 19, 3) := by decide +kernel
theorem dX12_clash_35 : decode cX12_clash 35 = .ok (.iload 6, 2) := by decide +kernel
theorem dX12_clash_37 : decode cX12_clash 37 = .ok (.aload_n 0, 1) := by decide +kernel
theorem dX12_clash_38 : decode cX12_clash 38 = .ok (.iload_n 2, 1) := by decide +kernel
theorem dX12_clash_39 : decode cX12_clash 39 = .ok (.iload 5, 2) := by decide +kernel
theorem dX12_clash_41 : decode cX12_clash 41 = .ok (.invokevirtual 456, 3) := by decide +kernel
theorem dX12_clash_44 : decode cX12_clash 44 = .ok (.if_icmp .ne 7, 3) := by decide +kernel
theorem dX12_clash_47 : decode cX12_clash 47 = .ok (.iconst 1, 1) := by decide +kernel
theorem dX12_clash_48 : decode cX12_clash 48 = .ok (.goto 4, 3) := by decide +kernel
theorem dX12_clash_51 : decode cX12_clash 51 = .ok (.iconst 0, 1) := by decide +kernel
theorem dX12_clash_52 : decode cX12_clash 52 = .ok (.istore 4, 2) := by decide +kernel
theorem dX12_clash_54 : decode cX12_clash 54 = .ok (.iinc 5 1, 3) := by decide +kernel
theorem dX12_clash_57 : decode cX12_clash 57 = .ok (.goto (-51), 3) := by decide +kernel
theorem dX12_clash_60 : decode cX12_clash 60 = .ok (.iload 4, 2) := by decide +kernel
theorem dX12_clash_62 : decode cX12_clash 62 = .ok (.ireturn, 1) := by decide +kernel
set_option maxRecDepth 100000 in
theorem okm_X12_clash : okL RX12 cX12_clash 7 (some .boolean) "clash" pcX12_clash opX12_clash pcX12_clash := by
  unfold opX12_clash
  refine okL_cons (ok_iconst rfl dX12_clash_0) rfl ?_
  refine okL_cons (ok_istore dX12_clash_1) rfl ?_
  refine okL_cons (ok_iconst rfl dX12_clash_3) rfl ?_
  refine okL_cons (ok_istore dX12_clash_4) rfl ?_
  refine okL_cons (ok_iload dX12_clash_6) rfl ?_
  refine okL_cons (ok_bipush rfl dX12_clash_8) rfl ?_
  refine okL_cons (ok_icmp_ge rfl dX12_clash_10) rfl ?_
  refine okL_cons (ok_aload_n rfl dX12_clash_13) rfl ?_
  refine okL_cons (ok_iload_n rfl dX12_clash_14) rfl ?_
  refine okL_cons (ok_iload dX12_clash_15) rfl ?_
  refine okL_cons (ok_iload_n rfl dX12_clash_17) rfl ?_
  refine okL_cons (ok_iadd dX12_clash_18) rfl ?_
  refine okL_cons (ok_invV (M' := 250) kw_982 kw_983 kw_984 kw_711 kw_985 cf_X12 rfl (by decide +kernel) dX12_clash_19) rfl ?_
  refine okL_cons (ok_istore dX12_clash_22) rfl ?_
  refine okL_cons (ok_iload dX12_clash_24) rfl ?_
  refine okL_cons (ok_if_ne rfl dX12_clash_26) rfl ?_
  refine okL_cons (ok_iload dX12_clash_29) rfl ?_
  refine okL_cons (ok_iconst rfl dX12_clash_31) rfl ?_
  refine okL_cons (ok_icmp_eq rfl dX12_clash_32) rfl ?_
  refine okL_cons (ok_iload dX12_clash_35) rfl ?_
  refine okL_cons (ok_aload_n rfl dX12_clash_37) rfl ?_
  refine okL_cons (ok_iload_n rfl dX12_clash_38) rfl ?_
  refine okL_cons (ok_iload dX12_clash_39) rfl ?_
  refine okL_cons (ok_invV (M' := 250) kw_982 kw_983 kw_984 kw_711 kw_985 cf_X12 rfl (by decide +kernel) dX12_clash_41) rfl ?_
  refine okL_cons (ok_icmp_ne rfl dX12_clash_44) rfl ?_
  refine okL_cons (ok_iconst rfl dX12_clash_47) rfl ?_
  refine okL_cons (ok_goto rfl dX12_clash_48) rfl ?_
  refine okL_cons (ok_iconst rfl dX12_clash_51) rfl ?_
  refine okL_cons (ok_istore dX12_clash_52) rfl ?_
  refine okL_cons (ok_iinc rfl dX12_clash_54) rfl ?_
  refine okL_cons (ok_goto rfl dX12_clash_57) rfl ?_
  refine okL_cons (ok_iload dX12_clash_60) rfl ?_
  exact okL_one (ok_zreturn rfl dX12_clash_62)
theorem dX12_delay_0 : decode cX12_delay 0 = .ok (.aload_n 0, 1) := by decide +kernel
theorem dX12_delay_1 : decode cX12_delay 1 = .ok (.iconst 0, 1) := by decide +kernel
theorem dX12_delay_2 : decode cX12_delay 2 = .ok (.putfield 152, 3) := by decide +kernel
theorem dX12_delay_5 : decode cX12_delay 5 = .ok (.iload_n 1, 1) := by decide +kernel
theorem dX12_delay_6 : decode cX12_delay 6 = .ok (.invokestatic 187, 3) := by decide +kernel
theorem dX12_delay_9 : decode cX12_delay 9 = .ok (.ifCond .eq 10, 3) := by decide +kernel
theorem dX12_delay_12 : decode cX12_delay 12 = .ok (.iload_n 2, 1) := by decide +kernel
theorem dX12_delay_13 : decode cX12_delay 13 = .ok (.invokestatic 187, 3) := by decide +kernel
theorem dX12_delay_16 : decode cX12_delay 16 = .ok (.ifCond .ne 5, 3) := by decide +kernel
theorem dX12_delay_19 : decode cX12_delay 19 = .ok (.iconst (-1), 1) := by decide +kernel
theorem dX12_delay_20 : decode cX12_delay 20 = .ok (.ireturn, 1) := by decide +kernel
theorem dX12_delay_21 : decode cX12_delay 21 = .ok (.aload_n 0, 1) := by decide +kernel
theorem dX12_delay_22 : decode cX12_delay 22 = .ok (.invokevirtual 203, 3) := by decide +kernel
theorem dX12_delay_25 : decode cX12_delay 25 = .ok (.iconst 0, 1) := by decide +kernel
theorem dX12_delay_26 : decode cX12_delay 26 = .ok (.istore_n 3, 1) := by decide +kernel
theorem dX12_delay_27 : decode cX12_delay 27 = .ok (.iload_n 3, 1) := by decide +kernel
theorem dX12_delay_28 : decode cX12_delay 28 = .ok (.bipush 30, 2) := by decide +kernel
theorem dX12_delay_30 : decode cX12_delay 30 = .ok (.if_icmp .gt 19, 3) := by decide +kernel
theorem dX12_delay_33 : decode cX12_delay 33 = .ok (.aload_n 0, 1) := by decide +kernel
theorem dX12_delay_34 : decode cX12_delay 34 = .ok (.iload_n 1, 1) := by decide +kernel
theorem dX12_delay_35 : decode cX12_delay 35 = .ok (.iload_n 2, 1) := by decide +kernel
theorem dX12_delay_36 : decode cX12_delay 36 = .ok (.iload_n 3, 1) := by decide +kernel
theorem dX12_delay_37 : decode cX12_delay 37 = .ok (.invokevirtual 459, 3) := by decide +kernel
theorem dX12_delay_40 : decode cX12_delay 40 = .ok (.ifCond .eq 9, 3) := by decide +kernel
theorem dX12_delay_43 : decode cX12_delay 43 = .ok (.iinc 3 1, 3) := by decide +kernel
theorem dX12_delay_46 : decode cX12_delay 46 = .ok (.goto (-19), 3) := by decide +kernel
theorem dX12_delay_49 : decode cX12_delay 49 = .ok (.iload_n 3, 1) := by decide +kernel
theorem dX12_delay_50 : decode cX12_delay 50 = .ok (.bipush 30, 2) := by decide +kernel
theorem dX12_delay_52 : decode cX12_delay 52 = .ok (.if_icmp .le 7, 3) := by decide +kernel
theorem dX12_delay_55 : decode cX12_delay 55 = .ok (.iconst (-1), 1) := by decide +kernel
theorem dX12_delay_56 : decode cX12_delay 56 = .ok (.goto 4, 3) := by decide +kernel
theorem dX12_delay_59 : decode cX12_delay 59 = .ok (.iload_n 3, 1) := by decide +kernel
theorem dX12_delay_60 : decode cX12_delay 60 = .ok (.ireturn, 1) := by decide +kernel
set_option maxRecDepth 100000 in
theorem okm_X12_delay : okL RX12 cX12_delay 4 (some .int) "delay" pcX12_delay opX12_delay pcX12_delay := by
  unfold opX12_delay
  refine okL_cons (ok_aload_n rfl dX12_delay_0) rfl ?_
  refine okL_cons (ok_iconst rfl dX12_delay_1) rfl ?_
  refine okL_cons (ok_putI kw_717 cf_X12 rfl rfl (by decide) rfl dX12_delay_2) rfl ?_
  refine okL_cons (ok_iload_n rfl dX12_delay_5) rfl ?_
  refine okL_cons (ok_invS (M' := 178) kw_734 kw_735 kw_711 kw_736 rfl (by decide +kernel) dX12_delay_6) rfl ?_
  refine okL_cons (ok_if_eq rfl dX12_delay_9) rfl ?_
  refine okL_cons (ok_iload_n rfl dX12_delay_12) rfl ?_
  refine okL_cons (ok_invS (M' := 178) kw_734 kw_735 kw_711 kw_736 rfl (by decide +kernel) dX12_delay_13) rfl ?_
  refine okL_cons (ok_if_ne rfl dX12_delay_16) rfl ?_
  refine okL_cons (ok_iconst rfl dX12_delay_19) rfl ?_
  refine okL_cons (ok_ireturn rfl dX12_delay_20) rfl ?_
  refine okL_cons (ok_aload_n rfl dX12_delay_21) rfl ?_
  refine okL_cons (ok_invV (M' := 230) kw_753 kw_754 kw_755 kw_711 kw_756 cf_X12 rfl (by decide +kernel) dX12_delay_22) rfl ?_
  refine okL_cons (ok_iconst rfl dX12_delay_25) rfl ?_
  refine okL_cons (ok_istore_n rfl dX12_delay_26) rfl ?_
  refine okL_cons (ok_iload_n rfl dX12_delay_27) rfl ?_
  refine okL_cons (ok_bipush rfl dX12_delay_28) rfl ?_
  refine okL_cons (ok_icmp_gt rfl dX12_delay_30) rfl ?_
  refine okL_cons (ok_aload_n rfl dX12_delay_33) rfl ?_
  refine okL_cons (ok_iload_n rfl dX12_delay_34) rfl ?_
  refine okL_cons (ok_iload_n rfl dX12_delay_35) rfl ?_
  refine okL_cons (ok_iload_n rfl dX12_delay_36) rfl ?_
  refine okL_cons (ok_invV (M' := 251) kw_986 kw_987 kw_988 kw_711 kw_989 cf_X12 rfl (by decide +kernel) dX12_delay_37) rfl ?_
  refine okL_cons (ok_if_eq rfl dX12_delay_40) rfl ?_
  refine okL_cons (ok_iinc rfl dX12_delay_43) rfl ?_
  refine okL_cons (ok_goto rfl dX12_delay_46) rfl ?_
  refine okL_cons (ok_iload_n rfl dX12_delay_49) rfl ?_
  refine okL_cons (ok_bipush rfl dX12_delay_50) rfl ?_
  refine okL_cons (ok_icmp_le rfl dX12_delay_52) rfl ?_
  refine okL_cons (ok_iconst rfl dX12_delay_55) rfl ?_
  refine okL_cons (ok_goto rfl dX12_delay_56) rfl ?_
  refine okL_cons (ok_iload_n rfl dX12_delay_59) rfl ?_
  exact okL_one (ok_ireturn rfl dX12_delay_60)
theorem dX12_fitsKind_0 : decode cX12_fitsKind 0 = .ok (.iconst 1, 1) := by decide +kernel
theorem dX12_fitsKind_1 : decode cX12_fitsKind 1 = .ok (.istore_n 2, 1) := by decide +kernel
theorem dX12_fitsKind_2 : decode cX12_fitsKind 2 = .ok (.iconst 0, 1) := by decide +kernel
theorem dX12_fitsKind_3 : decode cX12_fitsKind 3 = .ok (.istore_n 3, 1) := by decide +kernel
theorem dX12_fitsKind_4 : decode cX12_fitsKind 4 = .ok (.iload_n 3, 1) := by decide +kernel
theorem dX12_fitsKind_5 : decode cX12_fitsKind 5 = .ok (.iload_n 1, 1) := by decide +kernel
theorem dX12_fitsKind_6 : decode cX12_fitsKind 6 = .ok (.if_icmp .ge 48, 3) := by decide +kernel
theorem dX12_fitsKind_9 : decode cX12_fitsKind 9 = .ok (.iload_n 2, 1) := by decide +kernel
theorem dX12_fitsKind_10 : decode cX12_fitsKind 10 = .ok (.ifCond .eq 36, 3) := by decide +kernel
theorem dX12_fitsKind_13 : decode cX12_fitsKind 13 = .ok (.aload_n 0, 1) := by decide +kernel
theorem dX12_fitsKind_14 : decode cX12_fitsKind 14 = .ok (.getfield 113, 3) := by decide +kernel
theorem dX12_fitsKind_17 : decode cX12_fitsKind 17 = .ok (.iload_n 3, 1) := by decide +kernel
theorem dX12_fitsKind_18 : decode cX12_fitsKind 18 = .ok (.iaload, 1) := by decide +kernel
theorem dX12_fitsKind_19 : decode cX12_fitsKind 19 = .ok (.aload_n 0, 1) := by decide +kernel
theorem dX12_fitsKind_20 : decode cX12_fitsKind 20 = .ok (.getfield 113, 3) := by decide +kernel
theorem dX12_fitsKind_23 : decode cX12_fitsKind 23 = .ok (.iload_n 1, 1) := by decide +kernel
theorem dX12_fitsKind_24 : decode cX12_fitsKind 24 = .ok (.iaload, 1) := by decide +kernel
theorem dX12_fitsKind_25 : decode cX12_fitsKind 25 = .ok (.if_icmp .ne 17, 3) := by decide +kernel
theorem dX12_fitsKind_28 : decode cX12_fitsKind 28 = .ok (.aload_n 0, 1) := by decide +kernel
theorem dX12_fitsKind_29 : decode cX12_fitsKind 29 = .ok (.getfield 116, 3) := by decide +kernel
theorem dX12_fitsKind_32 : decode cX12_fitsKind 32 = .ok (.bipush 8, 2) := by decide +kernel
theorem dX12_fitsKind_34 : decode cX12_fitsKind 34 = .ok (.iload_n 3, 1) := by decide +kernel
theorem dX12_fitsKind_35 : decode cX12_fitsKind 35 = .ok (.imul, 1) := by decide +kernel
theorem dX12_fitsKind_36 : decode cX12_fitsKind 36 = .ok (.iload_n 1, 1) := by decide +kernel
theorem dX12_fitsKind_37 : decode cX12_fitsKind 37 = .ok (.iadd, 1) := by decide +kernel
theorem dX12_fitsKind_38 : decode cX12_fitsKind 38 = .ok (.baload, 1) := by decide +kernel
theorem dX12_fitsKind_39 : decode cX12_fitsKind 39 = .ok (.ifCond .ne 7, 3) := by decide +kernel
theorem dX12_fitsKind_42 : decode cX12_fitsKind 42 = .ok (.iconst 1, 1) := by decide +kernel
theorem dX12_fitsKind_43 : decode cX12_fitsKind 43 = .ok (.goto 4, 3) := by decide +kernel
theorem dX12_fitsKind_46 : decode cX12_fitsKind 46 = .ok (.iconst 0, 1) := by decide +kernel
theorem dX12_fitsKind_47 : decode cX12_fitsKind 47 = .ok (.istore_n 2, 1) := by decide +kernel
theorem dX12_fitsKind_48 : decode cX12_fitsKind 48 = .ok (.iinc 3 1, 3) := by decide +kernel
theorem dX12_fitsKind_51 : decode cX12_fitsKind 51 = .ok (.goto (-47), 3) := by decide +kernel
theorem dX12_fitsKind_54 : decode cX12_fitsKind 54 = .ok (.iload_n 2, 1) := by decide +kernel
theorem dX12_fitsKind_55 : decode cX12_fitsKind 55 = .ok (.ireturn, 1) := by decide +kernel
set_option maxRecDepth 100000 in
theorem okm_X12_fitsKind : okL RX12 cX12_fitsKind 4 (some .boolean) "fitsKind" pcX12_fitsKind opX12_fitsKind pcX12_fitsKind := by
  unfold opX12_fitsKind
  refine okL_cons (ok_iconst rfl dX12_fitsKind_0) rfl ?_
  refine okL_cons (ok_istore_n rfl dX12_fitsKind_1) rfl ?_
  refine okL_cons (ok_iconst rfl dX12_fitsKind_2) rfl ?_
  refine okL_cons (ok_istore_n rfl dX12_fitsKind_3) rfl ?_
  refine okL_cons (ok_iload_n rfl dX12_fitsKind_4) rfl ?_
  refine okL_cons (ok_iload_n rfl dX12_fitsKind_5) rfl ?_
  refine okL_cons (ok_icmp_ge rfl dX12_fitsKind_6) rfl ?_
  refine okL_cons (ok_iload_n rfl dX12_fitsKind_9) rfl ?_
  refine okL_cons (ok_if_eq rfl dX12_fitsKind_10) rfl ?_
  refine okL_cons (ok_aload_n rfl dX12_fitsKind_13) rfl ?_
  refine okL_cons (ok_getP kw_691 cf_X12 rfl rfl (by decide) dX12_fitsKind_14) rfl ?_
  refine okL_cons (ok_iload_n rfl dX12_fitsKind_17) rfl ?_
  refine okL_cons (ok_iaload dX12_fitsKind_18) rfl ?_
  refine okL_cons (ok_aload_n rfl dX12_fitsKind_19) rfl ?_
  refine okL_cons (ok_getP kw_691 cf_X12 rfl rfl (by decide) dX12_fitsKind_20) rfl ?_
  refine okL_cons (ok_iload_n rfl dX12_fitsKind_23) rfl ?_
  refine okL_cons (ok_iaload dX12_fitsKind_24) rfl ?_
  refine okL_cons (ok_icmp_ne rfl dX12_fitsKind_25) rfl ?_
  refine okL_cons (ok_aload_n rfl dX12_fitsKind_28) rfl ?_
  refine okL_cons (ok_getP kw_692 cf_X12 rfl rfl (by decide) dX12_fitsKind_29) rfl ?_
  refine okL_cons (ok_bipush rfl dX12_fitsKind_32) rfl ?_
  refine okL_cons (ok_iload_n rfl dX12_fitsKind_34) rfl ?_
  refine okL_cons (ok_imul dX12_fitsKind_35) rfl ?_
  refine okL_cons (ok_iload_n rfl dX12_fitsKind_36) rfl ?_
  refine okL_cons (ok_iadd dX12_fitsKind_37) rfl ?_
  refine okL_cons (ok_baload dX12_fitsKind_38) rfl ?_
  refine okL_cons (ok_if_ne rfl dX12_fitsKind_39) rfl ?_
  refine okL_cons (ok_iconst rfl dX12_fitsKind_42) rfl ?_
  refine okL_cons (ok_goto rfl dX12_fitsKind_43) rfl ?_
  refine okL_cons (ok_iconst rfl dX12_fitsKind_46) rfl ?_
  refine okL_cons (ok_istore_n rfl dX12_fitsKind_47) rfl ?_
  refine okL_cons (ok_iinc rfl dX12_fitsKind_48) rfl ?_
  refine okL_cons (ok_goto rfl dX12_fitsKind_51) rfl ?_
  refine okL_cons (ok_iload_n rfl dX12_fitsKind_54) rfl ?_
  exact okL_one (ok_zreturn rfl dX12_fitsKind_55)
theorem dX12_kindsAhead_0 : decode cX12_kindsAhead 0 = .ok (.iconst 0, 1) := by decide +kernel
theorem dX12_kindsAhead_1 : decode cX12_kindsAhead 1 = .ok (.istore_n 2, 1) := by decide +kernel
theorem dX12_kindsAhead_2 : decode cX12_kindsAhead 2 = .ok (.iconst 0, 1) := by decide +kernel
theorem dX12_kindsAhead_3 : decode cX12_kindsAhead 3 = .ok (.istore_n 3, 1) := by decide +kernel
theorem dX12_kindsAhead_4 : decode cX12_kindsAhead 4 = .ok (.iload_n 3, 1) := by decide +kernel
theorem dX12_kindsAhead_5 : decode cX12_kindsAhead 5 = .ok (.iload_n 1, 1) := by decide +kernel
theorem dX12_kindsAhead_6 : decode cX12_kindsAhead 6 = .ok (.if_icmp .ge 32, 3) := by decide +kernel
theorem dX12_kindsAhead_9 : decode cX12_kindsAhead 9 = .ok (.aload_n 0, 1) := by decide +kernel
theorem dX12_kindsAhead_10 : decode cX12_kindsAhead 10 = .ok (.getfield 113, 3) := by decide +kernel
theorem dX12_kindsAhead_13 : decode cX12_kindsAhead 13 = .ok (.iload_n 3, 1) := by decide +kernel
theorem dX12_kindsAhead_14 : decode cX12_kindsAhead 14 = .ok (.iaload, 1) := by decide +kernel
theorem dX12_kindsAhead_15 : decode cX12_kindsAhead 15 = .ok (.iload_n 2, 1) := by decide +kernel
theorem dX12_kindsAhead_16 : decode cX12_kindsAhead 16 = .ok (.if_icmp .lt 14, 3) := by decide +kernel
theorem dX12_kindsAhead_19 : decode cX12_kindsAhead 19 = .ok (.aload_n 0, 1) := by decide +kernel
theorem dX12_kindsAhead_20 : decode cX12_kindsAhead 20 = .ok (.getfield 113, 3) := by decide +kernel
theorem dX12_kindsAhead_23 : decode cX12_kindsAhead 23 = .ok (.iload_n 3, 1) := by decide +kernel
theorem dX12_kindsAhead_24 : decode cX12_kindsAhead 24 = .ok (.iaload, 1) := by decide +kernel
theorem dX12_kindsAhead_25 : decode cX12_kindsAhead 25 = .ok (.iconst 1, 1) := by decide +kernel
theorem dX12_kindsAhead_26 : decode cX12_kindsAhead 26 = .ok (.iadd, 1) := by decide +kernel
theorem dX12_kindsAhead_27 : decode cX12_kindsAhead 27 = .ok (.goto 4, 3) := by decide +kernel
theorem dX12_kindsAhead_30 : decode cX12_kindsAhead 30 = .ok (.iload_n 2, 1) := by decide +kernel
theorem dX12_kindsAhead_31 : decode cX12_kindsAhead 31 = .ok (.istore_n 2, 1) := by decide +kernel
theorem dX12_kindsAhead_32 : decode cX12_kindsAhead 32 = .ok (.iinc 3 1, 3) := by decide +kernel
theorem dX12_kindsAhead_35 : decode cX12_kindsAhead 35 = .ok (.goto (-31), 3) := by decide +kernel
theorem dX12_kindsAhead_38 : decode cX12_kindsAhead 38 = .ok (.iload_n 2, 1) := by decide +kernel
theorem dX12_kindsAhead_39 : decode cX12_kindsAhead 39 = .ok (.ireturn, 1) := by decide +kernel
set_option maxRecDepth 100000 in
theorem okm_X12_kindsAhead : okL RX12 cX12_kindsAhead 4 (some .int) "kindsAhead" pcX12_kindsAhead opX12_kindsAhead pcX12_kindsAhead := by
  unfold opX12_kindsAhead
  refine okL_cons (ok_iconst rfl dX12_kindsAhead_0) rfl ?_
  refine okL_cons (ok_istore_n rfl dX12_kindsAhead_1) rfl ?_
  refine okL_cons (ok_iconst rfl dX12_kindsAhead_2) rfl ?_
  refine okL_cons (ok_istore_n rfl dX12_kindsAhead_3) rfl ?_
  refine okL_cons (ok_iload_n rfl dX12_kindsAhead_4) rfl ?_
  refine okL_cons (ok_iload_n rfl dX12_kindsAhead_5) rfl ?_
  refine okL_cons (ok_icmp_ge rfl dX12_kindsAhead_6) rfl ?_
  refine okL_cons (ok_aload_n rfl dX12_kindsAhead_9) rfl ?_
  refine okL_cons (ok_getP kw_691 cf_X12 rfl rfl (by decide) dX12_kindsAhead_10) rfl ?_
  refine okL_cons (ok_iload_n rfl dX12_kindsAhead_13) rfl ?_
  refine okL_cons (ok_iaload dX12_kindsAhead_14) rfl ?_
  refine okL_cons (ok_iload_n rfl dX12_kindsAhead_15) rfl ?_
  refine okL_cons (ok_icmp_lt rfl dX12_kindsAhead_16) rfl ?_
  refine okL_cons (ok_aload_n rfl dX12_kindsAhead_19) rfl ?_
  refine okL_cons (ok_getP kw_691 cf_X12 rfl rfl (by decide) dX12_kindsAhead_20) rfl ?_
  refine okL_cons (ok_iload_n rfl dX12_kindsAhead_23) rfl ?_
  refine okL_cons (ok_iaload dX12_kindsAhead_24) rfl ?_
  refine okL_cons (ok_iconst rfl dX12_kindsAhead_25) rfl ?_
  refine okL_cons (ok_iadd dX12_kindsAhead_26) rfl ?_
  refine okL_cons (ok_goto rfl dX12_kindsAhead_27) rfl ?_
  refine okL_cons (ok_iload_n rfl dX12_kindsAhead_30) rfl ?_
  refine okL_cons (ok_istore_n rfl dX12_kindsAhead_31) rfl ?_
  refine okL_cons (ok_iinc rfl dX12_kindsAhead_32) rfl ?_
  refine okL_cons (ok_goto rfl dX12_kindsAhead_35) rfl ?_
  refine okL_cons (ok_iload_n rfl dX12_kindsAhead_38) rfl ?_
  exact okL_one (ok_ireturn rfl dX12_kindsAhead_39)
theorem dX12_findKinds_0 : decode cX12_findKinds 0 = .ok (.iconst 0, 1) := by decide +kernel
theorem dX12_findKinds_1 : decode cX12_findKinds 1 = .ok (.istore_n 3, 1) := by decide +kernel
theorem dX12_findKinds_2 : decode cX12_findKinds 2 = .ok (.aload_n 0, 1) := by decide +kernel
theorem dX12_findKinds_3 : decode cX12_findKinds 3 = .ok (.getfield 113, 3) := by decide +kernel
theorem dX12_findKinds_6 : decode cX12_findKinds 6 = .ok (.iconst 0, 1) := by decide +kernel
theorem dX12_findKinds_7 : decode cX12_findKinds 7 = .ok (.iconst (-1), 1) := by decide +kernel
theorem dX12_findKinds_8 : decode cX12_findKinds 8 = .ok (.iastore, 1) := by decide +kernel
theorem dX12_findKinds_9 : decode cX12_findKinds 9 = .ok (.iload_n 3, 1) := by decide +kernel
theorem dX12_findKinds_10 : decode cX12_findKinds 10 = .ok (.ifCond .lt 69, 3) := by decide +kernel
theorem dX12_findKinds_13 : decode cX12_findKinds 13 = .ok (.iload_n 3, 1) := by decide +kernel
theorem dX12_findKinds_14 : decode cX12_findKinds 14 = .ok (.iload_n 1, 1) := by decide +kernel
theorem dX12_findKinds_15 : decode cX12_findKinds 15 = .ok (.if_icmp .ge 64, 3) := by decide +kernel
theorem dX12_findKinds_18 : decode cX12_findKinds 18 = .ok (.aload_n 0, 1) := by decide +kernel
theorem dX12_findKinds_19 : decode cX12_findKinds 19 = .ok (.getfield 113, 3) := by decide +kernel
theorem dX12_findKinds_22 : decode cX12_findKinds 22 = .ok (.iload_n 3, 1) := by decide +kernel
theorem dX12_findKinds_23 : decode cX12_findKinds 23 = .ok (.dup2, 1) := by decide +kernel
theorem dX12_findKinds_24 : decode cX12_findKinds 24 = .ok (.iaload, 1) := by decide +kernel
theorem dX12_findKinds_25 : decode cX12_findKinds 25 = .ok (.iconst 1, 1) := by decide +kernel
theorem dX12_findKinds_26 : decode cX12_findKinds 26 = .ok (.iadd, 1) := by decide +kernel
theorem dX12_findKinds_27 : decode cX12_findKinds 27 = .ok (.iastore, 1) := by decide +kernel
theorem dX12_findKinds_28 : decode cX12_findKinds 28 = .ok (.aload_n 0, 1) := by decide +kernel
theorem dX12_findKinds_29 : decode cX12_findKinds 29 = .ok (.getfield 113, 3) := by decide +kernel
theorem dX12_findKinds_32 : decode cX12_findKinds 32 = .ok (.iload_n 3, 1) := by decide +kernel
theorem dX12_findKinds_33 : decode cX12_findKinds 33 = .ok (.iaload, 1) := by decide +kernel
theorem dX12_findKinds_34 : decode cX12_findKinds 34 = .ok (.iload_n 2, 1) := by decide +kernel
theorem dX12_findKinds_35 : decode cX12_findKinds 35 = .ok (.if_icmp .ge 17, 3) := by decide +kernel
theorem dX12_findKinds_38 : decode cX12_findKinds 38 = .ok (.aload_n 0, 1) := by decide +kernel
theorem dX12_findKinds_39 : decode cX12_findKinds 39 = .ok (.getfield 113, 3) := by decide +kernel
theorem dX12_findKinds_42 : decode cX12_findKinds 42 = .ok (.iload_n 3, 1) := by decide +kernel
theorem dX12_findKinds_43 : decode cX12_findKinds 43 = .ok (.iaload, 1) := by decide +kernel
theorem dX12_findKinds_44 : decode cX12_findKinds 44 = .ok (.aload_n 0, 1) := by decide +kernel
theorem dX12_findKinds_45 : decode cX12_findKinds 45 = .ok (.iload_n 3, 1) := by decide +kernel
theorem dX12_findKinds_46 : decode cX12_findKinds 46 = .ok (.invokevirtual 463, 3) := by decide +kernel
theorem dX12_findKinds_49 : decode cX12_findKinds 49 = .ok (.if_icmp .le 9, 3) := by decide +kernel
theorem dX12_findKinds_52 : decode cX12_findKinds 52 = .ok (.iinc 3 (-1), 3) := by decide +kernel
theorem dX12_findKinds_55 : decode cX12_findKinds 55 = .ok (.goto (-46), 3) := by decide +kernel
theorem dX12_findKinds_58 : decode cX12_findKinds 58 = .ok (.aload_n 0, 1) := by decide +kernel
theorem dX12_findKinds_59 : decode cX12_findKinds 59 = .ok (.iload_n 3, 1) := by decide +kernel
theorem dX12_findKinds_60 : decode cX12_findKinds 60 = .ok (.invokevirtual 466, 3) := by decide +kernel
theorem dX12_findKinds_63 : decode cX12_findKinds 63 = .ok (.ifCond .eq (-54), 3) := by decide +kernel
theorem dX12_findKinds_66 : decode cX12_findKinds 66 = .ok (.iinc 3 1, 3) := by decide +kernel
theorem dX12_findKinds_69 : decode cX12_findKinds 69 = .ok (.aload_n 0, 1) := by decide +kernel
theorem dX12_findKinds_70 : decode cX12_findKinds 70 = .ok (.getfield 113, 3) := by decide +kernel
theorem dX12_findKinds_73 : decode cX12_findKinds 73 = .ok (.iload_n 3, 1) := by decide +kernel
theorem dX12_findKinds_74 : decode cX12_findKinds 74 = .ok (.iconst (-1), 1) := by decide +kernel
theorem dX12_findKinds_75 : decode cX12_findKinds 75 = .ok (.iastore, 1) := by decide +kernel
theorem dX12_findKinds_76 : decode cX12_findKinds 76 = .ok (.goto (-67), 3) := by decide +kernel
theorem dX12_findKinds_79 : decode cX12_findKinds 79 = .ok (.iload_n 3, 1) := by decide +kernel
theorem dX12_findKinds_80 : decode cX12_findKinds 80 = .ok (.iload_n 1, 1) := by decide +kernel
theorem dX12_findKinds_81 : decode cX12_findKinds 81 = .ok (.if_icmp .ne 7, 3) := by decide +kernel
theorem dX12_findKinds_84 : decode cX12_findKinds 84 = .ok (.iconst 1, 1) := by decide +kernel
theorem dX12_findKinds_85 : decode cX12_findKinds 85 = .ok (.goto 4, 3) := by decide +kernel
theorem dX12_findKinds_88 : decode cX12_findKinds 88 = .ok (.iconst 0, 1) := by decide +kernel
theorem dX12_findKinds_89 : decode cX12_findKinds 89 = .ok (.ireturn, 1) := by decide +kernel
set_option maxRecDepth 100000 in
theorem okm_X12_findKinds : okL RX12 cX12_findKinds 4 (some .boolean) "findKinds" pcX12_findKinds opX12_findKinds pcX12_findKinds := by
  unfold opX12_findKinds
  refine okL_cons (ok_iconst rfl dX12_findKinds_0) rfl ?_
  refine okL_cons (ok_istore_n rfl dX12_findKinds_1) rfl ?_
  refine okL_cons (ok_aload_n rfl dX12_findKinds_2) rfl ?_
  refine okL_cons (ok_getP kw_691 cf_X12 rfl rfl (by decide) dX12_findKinds_3) rfl ?_
  refine okL_cons (ok_iconst rfl dX12_findKinds_6) rfl ?_
  refine okL_cons (ok_iconst rfl dX12_findKinds_7) rfl ?_
  refine okL_cons (ok_iastore dX12_findKinds_8) rfl ?_
  refine okL_cons (ok_iload_n rfl dX12_findKinds_9) rfl ?_
  refine okL_cons (ok_if_lt rfl dX12_findKinds_10) rfl ?_
  refine okL_cons (ok_iload_n rfl dX12_findKinds_13) rfl ?_
  refine okL_cons (ok_iload_n rfl dX12_findKinds_14) rfl ?_
  refine okL_cons (ok_icmp_ge rfl dX12_findKinds_15) rfl ?_
  refine okL_cons (ok_aload_n rfl dX12_findKinds_18) rfl ?_
  refine okL_cons (ok_getP kw_691 cf_X12 rfl rfl (by decide) dX12_findKinds_19) rfl ?_
  refine okL_cons (ok_iload_n rfl dX12_findKinds_22) rfl ?_
  refine okL_cons (ok_dup2 dX12_findKinds_23) rfl ?_
  refine okL_cons (ok_iaload dX12_findKinds_24) rfl ?_
  refine okL_cons (ok_iconst rfl dX12_findKinds_25) rfl ?_
  refine okL_cons (ok_iadd dX12_findKinds_26) rfl ?_
  refine okL_cons (ok_iastore dX12_findKinds_27) rfl ?_
  refine okL_cons (ok_aload_n rfl dX12_findKinds_28) rfl ?_
  refine okL_cons (ok_getP kw_691 cf_X12 rfl rfl (by decide) dX12_findKinds_29) rfl ?_
  refine okL_cons (ok_iload_n rfl dX12_findKinds_32) rfl ?_
  refine okL_cons (ok_iaload dX12_findKinds_33) rfl ?_
  refine okL_cons (ok_iload_n rfl dX12_findKinds_34) rfl ?_
  refine okL_cons (ok_icmp_ge rfl dX12_findKinds_35) rfl ?_
  refine okL_cons (ok_aload_n rfl dX12_findKinds_38) rfl ?_
  refine okL_cons (ok_getP kw_691 cf_X12 rfl rfl (by decide) dX12_findKinds_39) rfl ?_
  refine okL_cons (ok_iload_n rfl dX12_findKinds_42) rfl ?_
  refine okL_cons (ok_iaload dX12_findKinds_43) rfl ?_
  refine okL_cons (ok_aload_n rfl dX12_findKinds_44) rfl ?_
  refine okL_cons (ok_iload_n rfl dX12_findKinds_45) rfl ?_
  refine okL_cons (ok_invV (M' := 254) kw_990 kw_991 kw_992 kw_711 kw_993 cf_X12 rfl (by decide +kernel) dX12_findKinds_46) rfl ?_
  refine okL_cons (ok_icmp_le rfl dX12_findKinds_49) rfl ?_
  refine okL_cons (ok_iinc rfl dX12_findKinds_52) rfl ?_
  refine okL_cons (ok_goto rfl dX12_findKinds_55) rfl ?_
  refine okL_cons (ok_aload_n rfl dX12_findKinds_58) rfl ?_
  refine okL_cons (ok_iload_n rfl dX12_findKinds_59) rfl ?_
  refine okL_cons (ok_invV (M' := 253) kw_994 kw_995 kw_996 kw_711 kw_997 cf_X12 rfl (by decide +kernel) dX12_findKinds_60) rfl ?_
  refine okL_cons (ok_if_eq rfl dX12_findKinds_63) rfl ?_
  refine okL_cons (ok_iinc rfl dX12_findKinds_66) rfl ?_
  refine okL_cons (ok_aload_n rfl dX12_findKinds_69) rfl ?_
  refine okL_cons (ok_getP kw_691 cf_X12 rfl rfl (by decide) dX12_findKinds_70) rfl ?_
  refine okL_cons (ok_iload_n rfl dX12_findKinds_73) rfl ?_
  refine okL_cons (ok_iconst rfl dX12_findKinds_74) rfl ?_
  refine okL_cons (ok_iastore dX12_findKinds_75) rfl ?_
  refine okL_cons (ok_goto rfl dX12_findKinds_76) rfl ?_
  refine okL_cons (ok_iload_n rfl dX12_findKinds_79) rfl ?_
  refine okL_cons (ok_iload_n rfl dX12_findKinds_80) rfl ?_
  refine okL_cons (ok_icmp_ne rfl dX12_findKinds_81) rfl ?_
  refine okL_cons (ok_iconst rfl dX12_findKinds_84) rfl ?_
  refine okL_cons (ok_goto rfl dX12_findKinds_85) rfl ?_
  refine okL_cons (ok_iconst rfl dX12_findKinds_88) rfl ?_
  exact okL_one (ok_zreturn rfl dX12_findKinds_89)
theorem dX12_apart_0 : decode cX12_apart 0 = .ok (.aload_n 0, 1) := by decide +kernel
theorem dX12_apart_1 : decode cX12_apart 1 = .ok (.iconst 0, 1) := by decide +kernel
theorem dX12_apart_2 : decode cX12_apart 2 = .ok (.putfield 152, 3) := by decide +kernel
theorem dX12_apart_5 : decode cX12_apart 5 = .ok (.iload_n 1, 1) := by decide +kernel
theorem dX12_apart_6 : decode cX12_apart 6 = .ok (.i2l, 1) := by decide +kernel
theorem dX12_apart_7 : decode cX12_apart 7 = .ok (.lconst 0, 1) := by decide +kernel
theorem dX12_apart_8 : decode cX12_apart 8 = .ok (.ldc2_w 469, 3) := by decide +kernel
theorem dX12_apart_11 : decode cX12_apart 11 = .ok (.invokestatic 172, 3) := by decide +kernel
theorem dX12_apart_14 : decode cX12_apart 14 = .ok (.ifCond .eq 30, 3) := by decide +kernel
theorem dX12_apart_17 : decode cX12_apart 17 = .ok (.iload_n 1, 1) := by decide +kernel
theorem dX12_apart_18 : decode cX12_apart 18 = .ok (.invokestatic 402, 3) := by decide +kernel
theorem dX12_apart_21 : decode cX12_apart 21 = .ok (.bipush 8, 2) := by decide +kernel
theorem dX12_apart_23 : decode cX12_apart 23 = .ok (.if_icmp .gt 21, 3) := by decide +kernel
theorem dX12_apart_26 : decode cX12_apart 26 = .ok (.iload_n 2, 1) := by decide +kernel
theorem dX12_apart_27 : decode cX12_apart 27 = .ok (.i2l, 1) := by decide +kernel
theorem dX12_apart_28 : decode cX12_apart 28 = .ok (.ldc2_w 262, 3) := by decide +kernel
theorem dX12_apart_31 : decode cX12_apart 31 = .ok (.iload_n 1, 1) := by decide +kernel
theorem dX12_apart_32 : decode cX12_apart 32 = .ok (.invokestatic 402, 3) := by decide +kernel
theorem dX12_apart_35 : decode cX12_apart 35 = .ok (.i2l, 1) := by decide +kernel
theorem dX12_apart_36 : decode cX12_apart 36 = .ok (.lconst 1, 1) := by decide +kernel
theorem dX12_apart_37 : decode cX12_apart 37 = .ok (.lsub, 1) := by decide +kernel
theorem dX12_apart_38 : decode cX12_apart 38 = .ok (.invokestatic 172, 3) := by decide +kernel
theorem dX12_apart_41 : decode cX12_apart 41 = .ok (.ifCond .ne 5, 3) := by decide +kernel
theorem dX12_apart_44 : decode cX12_apart 44 = .ok (.iconst (-1), 1) := by decide +kernel
theorem dX12_apart_45 : decode cX12_apart 45 = .ok (.ireturn, 1) := by decide +kernel
theorem dX12_apart_46 : decode cX12_apart 46 = .ok (.aload_n 0, 1) := by decide +kernel
theorem dX12_apart_47 : decode cX12_apart 47 = .ok (.invokevirtual 203, 3) := by decide +kernel
theorem dX12_apart_50 : decode cX12_apart 50 = .ok (.iconst 0, 1) := by decide +kernel
theorem dX12_apart_51 : decode cX12_apart 51 = .ok (.istore_n 3, 1) := by decide +kernel
theorem dX12_apart_52 : decode cX12_apart 52 = .ok (.iconst 0, 1) := by decide +kernel
theorem dX12_apart_53 : decode cX12_apart 53 = .ok (.istore 4, 2) := by decide +kernel
theorem dX12_apart_55 : decode cX12_apart 55 = .ok (.iload 4, 2) := by decide +kernel
theorem dX12_apart_57 : decode cX12_apart 57 = .ok (.bipush 25, 2) := by decide +kernel
theorem dX12_apart_59 : decode cX12_apart 59 = .ok (.if_icmp .ge 29, 3) := by decide +kernel
theorem dX12_apart_62 : decode cX12_apart 62 = .ok (.iload_n 1, 1) := by decide +kernel
theorem dX12_apart_63 : decode cX12_apart 63 = .ok (.iload 4, 2) := by decide +kernel
theorem dX12_apart_65 : decode cX12_apart 65 = .ok (.invokestatic 181, 3) := by decide +kernel
theorem dX12_apart_68 : decode cX12_apart 68 = .ok (.ifCond .eq 14, 3) := by decide +kernel
theorem dX12_apart_71 : decode cX12_apart 71 = .ok (.aload_n 0, 1) := by decide +kernel
theorem dX12_apart_72 : decode cX12_apart 72 = .ok (.getfield 110, 3) := by decide +kernel
theorem dX12_apart_75 : decode cX12_apart 75 = .ok (.iload_n 3, 1) := by decide +kernel
theorem dX12_apart_76 : decode cX12_apart 76 = .ok (.iload 4, 2) := by decide +kernel
theorem dX12_apart_78 : decode cX12_apart 78 = .ok (.iastore, 1) := by decide +kernel
theorem dX12_apart_79 : decode cX12_apart 79 = .ok (.iinc 3 1, 3) := by decide +kernel
theorem dX12_apart_82 : decode cX12_apart 82 = .ok (.iinc 4 1, 3) := by decide +kernel
theorem dX12_apart_85 : decode cX12_apart 85 = .ok (.goto (-30), 3) := by decide +kernel
theorem dX12_apart_88 : decode cX12_apart 88 = .ok (.iconst 0, 1) := by decide +kernel
theorem dX12_apart_89 : decode cX12_apart 89 = .ok (.istore 4, 2) := by decide +kernel
theorem dX12_apart_91 : decode cX12_apart 91 = .ok (.iload 4, 2) := by decide +kernel
theorem dX12_apart_93 : decode cX12_apart 93 = .ok (.iload_n 3, 1) := by decide +kernel
theorem dX12_apart_94 : decode cX12_apart 94 = .ok (.if_icmp .ge 71, 3) := by decide +kernel
theorem dX12_apart_97 : decode cX12_apart 97 = .ok (.iconst 0, 1) := by decide +kernel
theorem dX12_apart_98 : decode cX12_apart 98 = .ok (.istore 5, 2) := by decide +kernel
theorem dX12_apart_100 : decode cX12_apart 100 = .ok (.iload 5, 2) := by decide +kernel
theorem dX12_apart_102 : decode cX12_apart 102 = .ok (.iload_n 3, 1) := by decide +kernel
theorem dX12_apart_103 : decode cX12_apart 103 = .ok (.if_icmp .ge 56, 3) := by decide +kernel
theorem dX12_apart_106 : decode cX12_apart 106 = .ok (.aload_n 0, 1) := by decide +kernel
theorem dX12_apart_107 : decode cX12_apart 107 = .ok (.getfield 116, 3) := by decide +kernel
theorem dX12_apart_110 : decode cX12_apart 110 = .ok (.bipush 8, 2) := by decide +kernel
theorem dX12_apart_112 : decode cX12_apart 112 = .ok (.iload 4, 2) := by decide +kernel
theorem dX12_apart_114 : decode cX12_apart 114 = .ok (.imul, 1) := by decide +kernel
theorem dX12_apart_115 : decode cX12_apart 115 = .ok (.iload 5, 2) := by decide +kernel
theorem dX12_apart_117 : decode cX12_apart 117 = .ok (.iadd, 1) := by decide +kernel
theorem dX12_apart_118 : decode cX12_apart 118 = .ok (.iload 4, 2) := by decide +kernel
theorem dX12_apart_120 : decode cX12_apart 120 = .ok (.iload 5, 2) := by decide +kernel
theorem dX12_apart_122 : decode cX12_apart 122 = .ok (.if_icmp .eq 29, 3) := by decide +kernel
theorem dX12_apart_125 : decode cX12_apart 125 = .ok (.aload_n 0, 1) := by decide +kernel
theorem dX12_apart_126 : decode cX12_apart 126 = .ok (.aload_n 0, 1) := by decide +kernel
theorem dX12_apart_127 : decode cX12_apart 127 = .ok (.getfield 110, 3) := by decide +kernel
theorem dX12_apart_130 : decode cX12_apart 130 = .ok (.iload 4, 2) := by decide +kernel
theorem dX12_apart_132 : decode cX12_apart 132 = .ok (.iaload, 1) := by decide +kernel
theorem dX12_apart_133 : decode cX12_apart 133 = .ok (.aload_n 0, 1) := by decide +kernel
theorem dX12_apart_134 : decode cX12_apart 134 = .ok (.getfield 110, 3) := by decide +kernel
theorem dX12_apart_137 : decode cX12_apart 137 = .ok (.iload 5, 2) := by decide +kernel
theorem dX12_apart_139 : decode cX12_apart 139 = .ok (.iaload, 1) := by decide +kernel
theorem dX12_apart_140 : decode cX12_apart 140 = .ok (.iconst 0, 1) := by decide +kernel
theorem dX12_apart_141 : decode cX12_apart 141 = .ok (.invokevirtual 459, 3) := by decide +kernel
theorem dX12_apart_144 : decode cX12_apart 144 = .ok (.ifCond .eq 7, 3) := by decide +kernel
theorem dX12_apart_147 : decode cX12_apart 147 = .ok (.iconst 1, 1) := by decide +kernel
theorem dX12_apart_148 : decode cX12_apart 148 = .ok (.goto 4, 3) := by decide +kernel
theorem dX12_apart_151 : decode cX12_apart 151 = .ok (.iconst 0, 1) := by decide +kernel
theorem dX12_apart_152 : decode cX12_apart 152 = .ok (.bastore, 1) := by decide +kernel
theorem dX12_apart_153 : decode cX12_apart 153 = .ok (.iinc 5 1, 3) := by decide +kernel
theorem dX12_apart_156 : decode cX12_apart 156 = .ok (.goto (-56), 3) := by decide +kernel
theorem dX12_apart_159 : decode cX12_apart 159 = .ok (.iinc 4 1, 3) := by decide +kernel
theorem dX12_apart_162 : decode cX12_apart 162 = .ok (.goto (-71), 3) := by decide +kernel
theorem dX12_apart_165 : decode cX12_apart 165 = .ok (.iconst 0, 1) := by decide +kernel
theorem dX12_apart_166 : decode cX12_apart 166 = .ok (.istore 4, 2) := by decide +kernel
theorem dX12_apart_168 : decode cX12_apart 168 = .ok (.aload_n 0, 1) := by decide +kernel
theorem dX12_apart_169 : decode cX12_apart 169 = .ok (.iload_n 3, 1) := by decide +kernel
theorem dX12_apart_170 : decode cX12_apart 170 = .ok (.iload 4, 2) := by decide +kernel
theorem dX12_apart_172 : decode cX12_apart 172 = .ok (.invokevirtual 471, 3) := by decide +kernel
theorem dX12_apart_175 : decode cX12_apart 175 = .ok (.ifCond .ne 9, 3) := by decide +kernel
theorem dX12_apart_178 : decode cX12_apart 178 = .ok (.iinc 4 1, 3) := by decide +kernel
theorem dX12_apart_181 : decode cX12_apart 181 = .ok (.goto (-13), 3) := by decide +kernel
theorem dX12_apart_184 : decode cX12_apart 184 = .ok (.iload_n 2, 1) := by decide +kernel
theorem dX12_apart_185 : decode cX12_apart 185 = .ok (.iconst (-1), 1) := by decide +kernel
theorem dX12_apart_186 : decode cX12_apart 186 = .ok (.if_icmp .ne 8, 3) := by decide +kernel
theorem dX12_apart_189 : decode cX12_apart 189 = .ok (.iload 4, 2) := by decide +kernel
theorem dX12_apart_191 : decode cX12_apart 191 = .ok (.goto 9, 3) := by decide +kernel
theorem dX12_apart_194 : decode cX12_apart 194 = .ok (.aload_n 0, 1) := by decide +kernel
theorem dX12_apart_195 : decode cX12_apart 195 = .ok (.getfield 113, 3) := by decide +kernel
theorem dX12_apart_198 : decode cX12_apart 198 = .ok (.iload_n 2, 1) := by decide +kernel
theorem dX12_apart_199 : decode cX12_apart 199 = .ok (.iaload, 1) := by decide +kernel
theorem dX12_apart_200 : decode cX12_apart 200 = .ok (.ireturn, 1) := by decide +kernel
set_option maxRecDepth 100000 in
theorem okm_X12_apart : okL RX12 cX12_apart 6 (some .int) "apart" pcX12_apart opX12_apart pcX12_apart := by
  unfold opX12_apart
  refine okL_cons (ok_aload_n rfl dX12_apart_0) rfl ?_
  refine okL_cons (ok_iconst rfl dX12_apart_1) rfl ?_
  refine okL_cons (ok_putI kw_717 cf_X12 rfl rfl (by decide) rfl dX12_apart_2) rfl ?_
  refine okL_cons (ok_iload_n rfl dX12_apart_5) rfl ?_
  refine okL_cons (ok_i2l dX12_apart_6) rfl ?_
  refine okL_cons (ok_lconst rfl dX12_apart_7) rfl ?_
  refine okL_cons (ok_ldc2 kw_998 dX12_apart_8) rfl ?_
  refine okL_cons (ok_invS (M' := 165) kw_722 kw_723 kw_711 kw_724 rfl (by decide +kernel) dX12_apart_11) rfl ?_
  refine okL_cons (ok_if_eq rfl dX12_apart_14) rfl ?_
  refine okL_cons (ok_iload_n rfl dX12_apart_17) rfl ?_
  refine okL_cons (ok_invS (M' := 167) kw_919 kw_920 kw_711 kw_921 rfl (by decide +kernel) dX12_apart_18) rfl ?_
  refine okL_cons (ok_bipush rfl dX12_apart_21) rfl ?_
  refine okL_cons (ok_icmp_gt rfl dX12_apart_23) rfl ?_
  refine okL_cons (ok_iload_n rfl dX12_apart_26) rfl ?_
  refine okL_cons (ok_i2l dX12_apart_27) rfl ?_
  refine okL_cons (ok_ldc2 kw_794 dX12_apart_28) rfl ?_
  refine okL_cons (ok_iload_n rfl dX12_apart_31) rfl ?_
  refine okL_cons (ok_invS (M' := 167) kw_919 kw_920 kw_711 kw_921 rfl (by decide +kernel) dX12_apart_32) rfl ?_
  refine okL_cons (ok_i2l dX12_apart_35) rfl ?_
  refine okL_cons (ok_lconst rfl dX12_apart_36) rfl ?_
  refine okL_cons (ok_lsub dX12_apart_37) rfl ?_
  refine okL_cons (ok_invS (M' := 165) kw_722 kw_723 kw_711 kw_724 rfl (by decide +kernel) dX12_apart_38) rfl ?_
  refine okL_cons (ok_if_ne rfl dX12_apart_41) rfl ?_
  refine okL_cons (ok_iconst rfl dX12_apart_44) rfl ?_
  refine okL_cons (ok_ireturn rfl dX12_apart_45) rfl ?_
  refine okL_cons (ok_aload_n rfl dX12_apart_46) rfl ?_
  refine okL_cons (ok_invV (M' := 230) kw_753 kw_754 kw_755 kw_711 kw_756 cf_X12 rfl (by decide +kernel) dX12_apart_47) rfl ?_
  refine okL_cons (ok_iconst rfl dX12_apart_50) rfl ?_
  refine okL_cons (ok_istore_n rfl dX12_apart_51) rfl ?_
  refine okL_cons (ok_iconst rfl dX12_apart_52) rfl ?_
  refine okL_cons (ok_istore dX12_apart_53) rfl ?_
  refine okL_cons (ok_iload dX12_apart_55) rfl ?_
  refine okL_cons (ok_bipush rfl dX12_apart_57) rfl ?_
  refine okL_cons (ok_icmp_ge rfl dX12_apart_59) rfl ?_
  refine okL_cons (ok_iload_n rfl dX12_apart_62) rfl ?_
  refine okL_cons (ok_iload dX12_apart_63) rfl ?_
  refine okL_cons (ok_invS (M' := 166) kw_730 kw_731 kw_711 kw_732 rfl (by decide +kernel) dX12_apart_65) rfl ?_
  refine okL_cons (ok_if_eq rfl dX12_apart_68) rfl ?_
  refine okL_cons (ok_aload_n rfl dX12_apart_71) rfl ?_
  refine okL_cons (ok_getP kw_690 cf_X12 rfl rfl (by decide) dX12_apart_72) rfl ?_
  refine okL_cons (ok_iload_n rfl dX12_apart_75) rfl ?_
  refine okL_cons (ok_iload dX12_apart_76) rfl ?_
  refine okL_cons (ok_iastore dX12_apart_78) rfl ?_
  refine okL_cons (ok_iinc rfl dX12_apart_79) rfl ?_
  refine okL_cons (ok_iinc rfl dX12_apart_82) rfl ?_
  refine okL_cons (ok_goto rfl dX12_apart_85) rfl ?_
  refine okL_cons (ok_iconst rfl dX12_apart_88) rfl ?_
  refine okL_cons (ok_istore dX12_apart_89) rfl ?_
  refine okL_cons (ok_iload dX12_apart_91) rfl ?_
  refine okL_cons (ok_iload_n rfl dX12_apart_93) rfl ?_
  refine okL_cons (ok_icmp_ge rfl dX12_apart_94) rfl ?_
  refine okL_cons (ok_iconst rfl dX12_apart_97) rfl ?_
  refine okL_cons (ok_istore dX12_apart_98) rfl ?_
  refine okL_cons (ok_iload dX12_apart_100) rfl ?_
  refine okL_cons (ok_iload_n rfl dX12_apart_102) rfl ?_
  refine okL_cons (ok_icmp_ge rfl dX12_apart_103) rfl ?_
  refine okL_cons (ok_aload_n rfl dX12_apart_106) rfl ?_
  refine okL_cons (ok_getP kw_692 cf_X12 rfl rfl (by decide) dX12_apart_107) rfl ?_
  refine okL_cons (ok_bipush rfl dX12_apart_110) rfl ?_
  refine okL_cons (ok_iload dX12_apart_112) rfl ?_
  refine okL_cons (ok_imul dX12_apart_114) rfl ?_
  refine okL_cons (ok_iload dX12_apart_115) rfl ?_
  refine okL_cons (ok_iadd dX12_apart_117) rfl ?_
  refine okL_cons (ok_iload dX12_apart_118) rfl ?_
  refine okL_cons (ok_iload dX12_apart_120) rfl ?_
  refine okL_cons (ok_icmp_eq rfl dX12_apart_122) rfl ?_
  refine okL_cons (ok_aload_n rfl dX12_apart_125) rfl ?_
  refine okL_cons (ok_aload_n rfl dX12_apart_126) rfl ?_
  refine okL_cons (ok_getP kw_690 cf_X12 rfl rfl (by decide) dX12_apart_127) rfl ?_
  refine okL_cons (ok_iload dX12_apart_130) rfl ?_
  refine okL_cons (ok_iaload dX12_apart_132) rfl ?_
  refine okL_cons (ok_aload_n rfl dX12_apart_133) rfl ?_
  refine okL_cons (ok_getP kw_690 cf_X12 rfl rfl (by decide) dX12_apart_134) rfl ?_
  refine okL_cons (ok_iload dX12_apart_137) rfl ?_
  refine okL_cons (ok_iaload dX12_apart_139) rfl ?_
  refine okL_cons (ok_iconst rfl dX12_apart_140) rfl ?_
  refine okL_cons (ok_invV (M' := 251) kw_986 kw_987 kw_988 kw_711 kw_989 cf_X12 rfl (by decide +kernel) dX12_apart_141) rfl ?_
  refine okL_cons (ok_if_eq rfl dX12_apart_144) rfl ?_
  refine okL_cons (ok_iconst rfl dX12_apart_147) rfl ?_
  refine okL_cons (ok_goto rfl dX12_apart_148) rfl ?_
  refine okL_cons (ok_iconst rfl dX12_apart_151) rfl ?_
  refine okL_cons (ok_bastore dX12_apart_152) rfl ?_
  refine okL_cons (ok_iinc rfl dX12_apart_153) rfl ?_
  refine okL_cons (ok_goto rfl dX12_apart_156) rfl ?_
  refine okL_cons (ok_iinc rfl dX12_apart_159) rfl ?_
  refine okL_cons (ok_goto rfl dX12_apart_162) rfl ?_
  refine okL_cons (ok_iconst rfl dX12_apart_165) rfl ?_
  refine okL_cons (ok_istore dX12_apart_166) rfl ?_
  refine okL_cons (ok_aload_n rfl dX12_apart_168) rfl ?_
  refine okL_cons (ok_iload_n rfl dX12_apart_169) rfl ?_
  refine okL_cons (ok_iload dX12_apart_170) rfl ?_
  refine okL_cons (ok_invV (M' := 255) kw_999 kw_1000 kw_1001 kw_711 kw_1002 cf_X12 rfl (by decide +kernel) dX12_apart_172) rfl ?_
  refine okL_cons (ok_if_ne rfl dX12_apart_175) rfl ?_
  refine okL_cons (ok_iinc rfl dX12_apart_178) rfl ?_
  refine okL_cons (ok_goto rfl dX12_apart_181) rfl ?_
  refine okL_cons (ok_iload_n rfl dX12_apart_184) rfl ?_
  refine okL_cons (ok_iconst rfl dX12_apart_185) rfl ?_
  refine okL_cons (ok_icmp_ne rfl dX12_apart_186) rfl ?_
  refine okL_cons (ok_iload dX12_apart_189) rfl ?_
  refine okL_cons (ok_goto rfl dX12_apart_191) rfl ?_
  refine okL_cons (ok_aload_n rfl dX12_apart_194) rfl ?_
  refine okL_cons (ok_getP kw_691 cf_X12 rfl rfl (by decide) dX12_apart_195) rfl ?_
  refine okL_cons (ok_iload_n rfl dX12_apart_198) rfl ?_
  refine okL_cons (ok_iaload dX12_apart_199) rfl ?_
  exact okL_one (ok_ireturn rfl dX12_apart_200)
theorem dX12_endsSo_0 : decode cX12_endsSo 0 = .ok (.iload_n 3, 1) := by decide +kernel
theorem dX12_endsSo_1 : decode cX12_endsSo 1 = .ok (.iconst (-1), 1) := by decide +kernel
theorem dX12_endsSo_2 : decode cX12_endsSo 2 = .ok (.if_icmp .ne 7, 3) := by decide +kernel
theorem dX12_endsSo_5 : decode cX12_endsSo 5 = .ok (.iconst 0, 1) := by decide +kernel
theorem dX12_endsSo_6 : decode cX12_endsSo 6 = .ok (.goto 12, 3) := by decide +kernel
theorem dX12_endsSo_9 : decode cX12_endsSo 9 = .ok (.aload_n 0, 1) := by decide +kernel
theorem dX12_endsSo_10 : decode cX12_endsSo 10 = .ok (.getfield 13, 3) := by decide +kernel
theorem dX12_endsSo_13 : decode cX12_endsSo 13 = .ok (.bipush 7, 2) := by decide +kernel
theorem dX12_endsSo_15 : decode cX12_endsSo 15 = .ok (.iload_n 3, 1) := by decide +kernel
theorem dX12_endsSo_16 : decode cX12_endsSo 16 = .ok (.iadd, 1) := by decide +kernel
theorem dX12_endsSo_17 : decode cX12_endsSo 17 = .ok (.iaload, 1) := by decide +kernel
theorem dX12_endsSo_18 : decode cX12_endsSo 18 = .ok (.istore 5, 2) := by decide +kernel
theorem dX12_endsSo_20 : decode cX12_endsSo 20 = .ok (.iload 4, 2) := by decide +kernel
theorem dX12_endsSo_22 : decode cX12_endsSo 22 = .ok (.iconst (-1), 1) := by decide +kernel
theorem dX12_endsSo_23 : decode cX12_endsSo 23 = .ok (.if_icmp .ne 7, 3) := by decide +kernel
theorem dX12_endsSo_26 : decode cX12_endsSo 26 = .ok (.iconst 0, 1) := by decide +kernel
theorem dX12_endsSo_27 : decode cX12_endsSo 27 = .ok (.goto 13, 3) := by decide +kernel
theorem dX12_endsSo_30 : decode cX12_endsSo 30 = .ok (.aload_n 0, 1) := by decide +kernel
theorem dX12_endsSo_31 : decode cX12_endsSo 31 = .ok (.getfield 13, 3) := by decide +kernel
theorem dX12_endsSo_34 : decode cX12_endsSo 34 = .ok (.bipush 7, 2) := by decide +kernel
theorem dX12_endsSo_36 : decode cX12_endsSo 36 = .ok (.iload 4, 2) := by decide +kernel
theorem dX12_endsSo_38 : decode cX12_endsSo 38 = .ok (.iadd, 1) := by decide +kernel
theorem dX12_endsSo_39 : decode cX12_endsSo 39 = .ok (.iaload, 1) := by decide +kernel
theorem dX12_endsSo_40 : decode cX12_endsSo 40 = .ok (.istore 6, 2) := by decide +kernel
theorem dX12_endsSo_42 : decode cX12_endsSo 42 = .ok (.iload_n 3, 1) := by decide +kernel
theorem dX12_endsSo_43 : decode cX12_endsSo 43 = .ok (.iconst (-1), 1) := by decide +kernel
theorem dX12_endsSo_44 : decode cX12_endsSo 44 = .ok (.if_icmp .eq 14, 3) := by decide +kernel
theorem dX12_endsSo_47 : decode cX12_endsSo 47 = .ok (.aload_n 0, 1) := by decide +kernel
theorem dX12_endsSo_48 : decode cX12_endsSo 48 = .ok (.getfield 13, 3) := by decide +kernel
theorem dX12_endsSo_51 : decode cX12_endsSo 51 = .ok (.bipush 7, 2) := by decide +kernel
theorem dX12_endsSo_53 : decode cX12_endsSo 53 = .ok (.iload_n 3, 1) := by decide +kernel
theorem dX12_endsSo_54 : decode cX12_endsSo 54 = .ok (.iadd, 1) := by decide +kernel
theorem dX12_endsSo_55 : decode cX12_endsSo 55 = .ok (.bipush 9, 2) := by decide +kernel
theorem dX12_endsSo_57 : decode cX12_endsSo 57 = .ok (.iastore, 1) := by decide +kernel
theorem dX12_endsSo_58 : decode cX12_endsSo 58 = .ok (.iload 4, 2) := by decide +kernel
theorem dX12_endsSo_60 : decode cX12_endsSo 60 = .ok (.iconst (-1), 1) := by decide +kernel
theorem dX12_endsSo_61 : decode cX12_endsSo 61 = .ok (.if_icmp .eq 15, 3) := by decide +kernel
theorem dX12_endsSo_64 : decode cX12_endsSo 64 = .ok (.aload_n 0, 1) := by decide +kernel
theorem dX12_endsSo_65 : decode cX12_endsSo 65 = .ok (.getfield 13, 3) := by decide +kernel
theorem dX12_endsSo_68 : decode cX12_endsSo 68 = .ok (.bipush 7, 2) := by decide +kernel
theorem dX12_endsSo_70 : decode cX12_endsSo 70 = .ok (.iload 4, 2) := by decide +kernel
theorem dX12_endsSo_72 : decode cX12_endsSo 72 = .ok (.iadd, 1) := by decide +kernel
theorem dX12_endsSo_73 : decode cX12_endsSo 73 = .ok (.bipush 9, 2) := by decide +kernel
theorem dX12_endsSo_75 : decode cX12_endsSo 75 = .ok (.iastore, 1) := by decide +kernel
theorem dX12_endsSo_76 : decode cX12_endsSo 76 = .ok (.aload_n 0, 1) := by decide +kernel
theorem dX12_endsSo_77 : decode cX12_endsSo 77 = .ok (.invokevirtual 203, 3) := by decide +kernel
theorem dX12_endsSo_80 : decode cX12_endsSo 80 = .ok (.aload_n 0, 1) := by decide +kernel
theorem dX12_endsSo_81 : decode cX12_endsSo 81 = .ok (.iload_n 1, 1) := by decide +kernel
theorem dX12_endsSo_82 : decode cX12_endsSo 82 = .ok (.invokevirtual 450, 3) := by decide +kernel
theorem dX12_endsSo_85 : decode cX12_endsSo 85 = .ok (.iload_n 2, 1) := by decide +kernel
theorem dX12_endsSo_86 : decode cX12_endsSo 86 = .ok (.if_icmp .ne 7, 3) := by decide +kernel
theorem dX12_endsSo_89 : decode cX12_endsSo 89 = .ok (.iconst 1, 1) := by decide +kernel
theorem dX12_endsSo_90 : decode cX12_endsSo 90 = .ok (.goto 4, 3) := by decide +kernel
theorem dX12_endsSo_93 : decode cX12_endsSo 93 = .ok (.iconst 0, 1) := by decide +kernel
theorem dX12_endsSo_94 : decode cX12_endsSo 94 = .ok (.istore 7, 2) := by decide +kernel
theorem dX12_endsSo_96 : decode cX12_endsSo 96 = .ok (.iload 4, 2) := by decide +kernel
theorem dX12_endsSo_98 : decode cX12_endsSo 98 = .ok (.iconst (-1), 1) := by decide +kernel
theorem dX12_endsSo_99 : decode cX12_endsSo 99 = .ok (.if_icmp .eq 15, 3) := by decide +kernel
theorem dX12_endsSo_102 : decode cX12_endsSo 102 = .ok (.aload_n 0, 1) := by decide +kernel
theorem dX12_endsSo_103 : decode cX12_endsSo 103 = .ok (.getfield 13, 3) := by decide +kernel
theorem dX12_endsSo_106 : decode cX12_endsSo 106 = .ok (.bipush 7, 2) := by decide +kernel
theorem dX12_endsSo_108 : decode cX12_endsSo 108 = .ok (.iload 4, 2) := by decide +kernel
theorem dX12_endsSo_110 : decode cX12_endsSo 110 = .ok (.iadd, 1) := by decide +kernel
theorem dX12_endsSo_111 : decode cX12_endsSo 111 = .ok (.iload 6, 2) := by decide +kernel
theorem dX12_endsSo_113 : decode cX12_endsSo 113 = .ok (.iastore, 1) := by decide +kernel
theorem dX12_endsSo_114 : decode cX12_endsSo 114 = .ok (.iload_n 3, 1) := by decide +kernel
theorem dX12_endsSo_115 : decode cX12_endsSo 115 = .ok (.iconst (-1), 1) := by decide +kernel
theorem dX12_endsSo_116 : decode cX12_endsSo 116 = .ok (.if_icmp .eq 14, 3) := by decide +kernel
theorem dX12_endsSo_119 : decode cX12_endsSo 119 = .ok (.aload_n 0, 1) := by decide +kernel
theorem dX12_endsSo_120 : decode cX12_endsSo 120 = .ok (.getfield 13, 3) := by decide +kernel
theorem dX12_endsSo_123 : decode cX12_endsSo 123 = .ok (.bipush 7, 2) := by decide +kernel
theorem dX12_endsSo_125 : decode cX12_endsSo 125 = .ok (.iload_n 3, 1) := by decide +kernel
theorem dX12_endsSo_126 : decode cX12_endsSo 126 = .ok (.iadd, 1) := by decide +kernel
theorem dX12_endsSo_127 : decode cX12_endsSo 127 = .ok (.iload 5, 2) := by decide +kernel
theorem dX12_endsSo_129 : decode cX12_endsSo 129 = .ok (.iastore, 1) := by decide +kernel
theorem dX12_endsSo_130 : decode cX12_endsSo 130 = .ok (.iload 7, 2) := by decide +kernel
theorem dX12_endsSo_132 : decode cX12_endsSo 132 = .ok (.ireturn, 1) := by decide +kernel
set_option maxRecDepth 100000 in
theorem okm_X12_endsSo : okL RX12 cX12_endsSo 8 (some .boolean) "endsSo" pcX12_endsSo opX12_endsSo pcX12_endsSo := by
  unfold opX12_endsSo
  refine okL_cons (ok_iload_n rfl dX12_endsSo_0) rfl ?_
  refine okL_cons (ok_iconst rfl dX12_endsSo_1) rfl ?_
  refine okL_cons (ok_icmp_ne rfl dX12_endsSo_2) rfl ?_
  refine okL_cons (ok_iconst rfl dX12_endsSo_5) rfl ?_
  refine okL_cons (ok_goto rfl dX12_endsSo_6) rfl ?_
  refine okL_cons (ok_aload_n rfl dX12_endsSo_9) rfl ?_
  refine okL_cons (ok_getP kw_654 cf_X12 rfl rfl (by decide) dX12_endsSo_10) rfl ?_
  refine okL_cons (ok_bipush rfl dX12_endsSo_13) rfl ?_
  refine okL_cons (ok_iload_n rfl dX12_endsSo_15) rfl ?_
  refine okL_cons (ok_iadd dX12_endsSo_16) rfl ?_
  refine okL_cons (ok_iaload dX12_endsSo_17) rfl ?_
  refine okL_cons (ok_istore dX12_endsSo_18) rfl ?_
  refine okL_cons (ok_iload dX12_endsSo_20) rfl ?_
  refine okL_cons (ok_iconst rfl dX12_endsSo_22) rfl ?_
  refine okL_cons (ok_icmp_ne rfl dX12_endsSo_23) rfl ?_
  refine okL_cons (ok_iconst rfl dX12_endsSo_26) rfl ?_
  refine okL_cons (ok_goto rfl dX12_endsSo_27) rfl ?_
  refine okL_cons (ok_aload_n rfl dX12_endsSo_30) rfl ?_
  refine okL_cons (ok_getP kw_654 cf_X12 rfl rfl (by decide) dX12_endsSo_31) rfl ?_
  refine okL_cons (ok_bipush rfl dX12_endsSo_34) rfl ?_
  refine okL_cons (ok_iload dX12_endsSo_36) rfl ?_
  refine okL_cons (ok_iadd dX12_endsSo_38) rfl ?_
  refine okL_cons (ok_iaload dX12_endsSo_39) rfl ?_
  refine okL_cons (ok_istore dX12_endsSo_40) rfl ?_
  refine okL_cons (ok_iload_n rfl dX12_endsSo_42) rfl ?_
  refine okL_cons (ok_iconst rfl dX12_endsSo_43) rfl ?_
  refine okL_cons (ok_icmp_eq rfl dX12_endsSo_44) rfl ?_
  refine okL_cons (ok_aload_n rfl dX12_endsSo_47) rfl ?_
  refine okL_cons (ok_getP kw_654 cf_X12 rfl rfl (by decide) dX12_endsSo_48) rfl ?_
  refine okL_cons (ok_bipush rfl dX12_endsSo_51) rfl ?_
  refine okL_cons (ok_iload_n rfl dX12_endsSo_53) rfl ?_
  refine okL_cons (ok_iadd dX12_endsSo_54) rfl ?_
  refine okL_cons (ok_bipush rfl dX12_endsSo_55) rfl ?_
  refine okL_cons (ok_iastore dX12_endsSo_57) rfl ?_
  refine okL_cons (ok_iload dX12_endsSo_58) rfl ?_
  refine okL_cons (ok_iconst rfl dX12_endsSo_60) rfl ?_
  refine okL_cons (ok_icmp_eq rfl dX12_endsSo_61) rfl ?_
  refine okL_cons (ok_aload_n rfl dX12_endsSo_64) rfl ?_
  refine okL_cons (ok_getP kw_654 cf_X12 rfl rfl (by decide) dX12_endsSo_65) rfl ?_
  refine okL_cons (ok_bipush rfl dX12_endsSo_68) rfl ?_
  refine okL_cons (ok_iload dX12_endsSo_70) rfl ?_
  refine okL_cons (ok_iadd dX12_endsSo_72) rfl ?_
  refine okL_cons (ok_bipush rfl dX12_endsSo_73) rfl ?_
  refine okL_cons (ok_iastore dX12_endsSo_75) rfl ?_
  refine okL_cons (ok_aload_n rfl dX12_endsSo_76) rfl ?_
  refine okL_cons (ok_invV (M' := 230) kw_753 kw_754 kw_755 kw_711 kw_756 cf_X12 rfl (by decide +kernel) dX12_endsSo_77) rfl ?_
  refine okL_cons (ok_aload_n rfl dX12_endsSo_80) rfl ?_
  refine okL_cons (ok_iload_n rfl dX12_endsSo_81) rfl ?_
  refine okL_cons (ok_invV (M' := 245) kw_974 kw_975 kw_976 kw_711 kw_977 cf_X12 rfl (by decide +kernel) dX12_endsSo_82) rfl ?_
  refine okL_cons (ok_iload_n rfl dX12_endsSo_85) rfl ?_
  refine okL_cons (ok_icmp_ne rfl dX12_endsSo_86) rfl ?_
  refine okL_cons (ok_iconst rfl dX12_endsSo_89) rfl ?_
  refine okL_cons (ok_goto rfl dX12_endsSo_90) rfl ?_
  refine okL_cons (ok_iconst rfl dX12_endsSo_93) rfl ?_
  refine okL_cons (ok_istore dX12_endsSo_94) rfl ?_
  refine okL_cons (ok_iload dX12_endsSo_96) rfl ?_
  refine okL_cons (ok_iconst rfl dX12_endsSo_98) rfl ?_
  refine okL_cons (ok_icmp_eq rfl dX12_endsSo_99) rfl ?_
  refine okL_cons (ok_aload_n rfl dX12_endsSo_102) rfl ?_
  refine okL_cons (ok_getP kw_654 cf_X12 rfl rfl (by decide) dX12_endsSo_103) rfl ?_
  refine okL_cons (ok_bipush rfl dX12_endsSo_106) rfl ?_
  refine okL_cons (ok_iload dX12_endsSo_108) rfl ?_
  refine okL_cons (ok_iadd dX12_endsSo_110) rfl ?_
  refine okL_cons (ok_iload dX12_endsSo_111) rfl ?_
  refine okL_cons (ok_iastore dX12_endsSo_113) rfl ?_
  refine okL_cons (ok_iload_n rfl dX12_endsSo_114) rfl ?_
  refine okL_cons (ok_iconst rfl dX12_endsSo_115) rfl ?_
  refine okL_cons (ok_icmp_eq rfl dX12_endsSo_116) rfl ?_
  refine okL_cons (ok_aload_n rfl dX12_endsSo_119) rfl ?_
  refine okL_cons (ok_getP kw_654 cf_X12 rfl rfl (by decide) dX12_endsSo_120) rfl ?_
  refine okL_cons (ok_bipush rfl dX12_endsSo_123) rfl ?_
  refine okL_cons (ok_iload_n rfl dX12_endsSo_125) rfl ?_
  refine okL_cons (ok_iadd dX12_endsSo_126) rfl ?_
  refine okL_cons (ok_iload dX12_endsSo_127) rfl ?_
  refine okL_cons (ok_iastore dX12_endsSo_129) rfl ?_
  refine okL_cons (ok_iload dX12_endsSo_130) rfl ?_
  exact okL_one (ok_zreturn rfl dX12_endsSo_132)
theorem dX12_canRaise_0 : decode cX12_canRaise 0 = .ok (.iload_n 3, 1) := by decide +kernel
theorem dX12_canRaise_1 : decode cX12_canRaise 1 = .ok (.iload_n 1, 1) := by decide +kernel
theorem dX12_canRaise_2 : decode cX12_canRaise 2 = .ok (.if_icmp .eq 26, 3) := by decide +kernel
theorem dX12_canRaise_5 : decode cX12_canRaise 5 = .ok (.iload_n 3, 1) := by decide +kernel
theorem dX12_canRaise_6 : decode cX12_canRaise 6 = .ok (.iload_n 2, 1) := by decide +kernel
theorem dX12_canRaise_7 : decode cX12_canRaise 7 = .ok (.if_icmp .eq 21, 3) := by decide +kernel
theorem dX12_canRaise_10 : decode cX12_canRaise 10 = .ok (.aload_n 0, 1) := by decide +kernel
theorem dX12_canRaise_11 : decode cX12_canRaise 11 = .ok (.getfield 13, 3) := by decide +kernel
theorem dX12_canRaise_14 : decode cX12_canRaise 14 = .ok (.bipush 7, 2) := by decide +kernel
theorem dX12_canRaise_16 : decode cX12_canRaise 16 = .ok (.iload_n 3, 1) := by decide +kernel
theorem dX12_canRaise_17 : decode cX12_canRaise 17 = .ok (.iadd, 1) := by decide +kernel
theorem dX12_canRaise_18 : decode cX12_canRaise 18 = .ok (.iaload, 1) := by decide +kernel
theorem dX12_canRaise_19 : decode cX12_canRaise 19 = .ok (.bipush 9, 2) := by decide +kernel
theorem dX12_canRaise_21 : decode cX12_canRaise 21 = .ok (.if_icmp .ge 7, 3) := by decide +kernel
theorem dX12_canRaise_24 : decode cX12_canRaise 24 = .ok (.iconst 1, 1) := by decide +kernel
theorem dX12_canRaise_25 : decode cX12_canRaise 25 = .ok (.goto 4, 3) := by decide +kernel
theorem dX12_canRaise_28 : decode cX12_canRaise 28 = .ok (.iconst 0, 1) := by decide +kernel
theorem dX12_canRaise_29 : decode cX12_canRaise 29 = .ok (.ireturn, 1) := by decide +kernel
set_option maxRecDepth 100000 in
theorem okm_X12_canRaise : okL RX12 cX12_canRaise 4 (some .boolean) "canRaise" pcX12_canRaise opX12_canRaise pcX12_canRaise := by
  unfold opX12_canRaise
  refine okL_cons (ok_iload_n rfl dX12_canRaise_0) rfl ?_
  refine okL_cons (ok_iload_n rfl dX12_canRaise_1) rfl ?_
  refine okL_cons (ok_icmp_eq rfl dX12_canRaise_2) rfl ?_
  refine okL_cons (ok_iload_n rfl dX12_canRaise_5) rfl ?_
  refine okL_cons (ok_iload_n rfl dX12_canRaise_6) rfl ?_
  refine okL_cons (ok_icmp_eq rfl dX12_canRaise_7) rfl ?_
  refine okL_cons (ok_aload_n rfl dX12_canRaise_10) rfl ?_
  refine okL_cons (ok_getP kw_654 cf_X12 rfl rfl (by decide) dX12_canRaise_11) rfl ?_
  refine okL_cons (ok_bipush rfl dX12_canRaise_14) rfl ?_
  refine okL_cons (ok_iload_n rfl dX12_canRaise_16) rfl ?_
  refine okL_cons (ok_iadd dX12_canRaise_17) rfl ?_
  refine okL_cons (ok_iaload dX12_canRaise_18) rfl ?_
  refine okL_cons (ok_bipush rfl dX12_canRaise_19) rfl ?_
  refine okL_cons (ok_icmp_ge rfl dX12_canRaise_21) rfl ?_
  refine okL_cons (ok_iconst rfl dX12_canRaise_24) rfl ?_
  refine okL_cons (ok_goto rfl dX12_canRaise_25) rfl ?_
  refine okL_cons (ok_iconst rfl dX12_canRaise_28) rfl ?_
  exact okL_one (ok_zreturn rfl dX12_canRaise_29)
theorem dX12_kerbSet_0 : decode cX12_kerbSet 0 = .ok (.aload_n 0, 1) := by decide +kernel
theorem dX12_kerbSet_1 : decode cX12_kerbSet 1 = .ok (.iload_n 1, 1) := by decide +kernel
theorem dX12_kerbSet_2 : decode cX12_kerbSet 2 = .ok (.iload_n 2, 1) := by decide +kernel
theorem dX12_kerbSet_3 : decode cX12_kerbSet 3 = .ok (.iconst (-1), 1) := by decide +kernel
theorem dX12_kerbSet_4 : decode cX12_kerbSet 4 = .ok (.iconst (-1), 1) := by decide +kernel
theorem dX12_kerbSet_5 : decode cX12_kerbSet 5 = .ok (.invokevirtual 474, 3) := by decide +kernel
theorem dX12_kerbSet_8 : decode cX12_kerbSet 8 = .ok (.ifCond .eq 5, 3) := by decide +kernel
theorem dX12_kerbSet_11 : decode cX12_kerbSet 11 = .ok (.iconst 0, 1) := by decide +kernel
theorem dX12_kerbSet_12 : decode cX12_kerbSet 12 = .ok (.ireturn, 1) := by decide +kernel
theorem dX12_kerbSet_13 : decode cX12_kerbSet 13 = .ok (.iconst 0, 1) := by decide +kernel
theorem dX12_kerbSet_14 : decode cX12_kerbSet 14 = .ok (.istore_n 3, 1) := by decide +kernel
theorem dX12_kerbSet_15 : decode cX12_kerbSet 15 = .ok (.iload_n 3, 1) := by decide +kernel
theorem dX12_kerbSet_16 : decode cX12_kerbSet 16 = .ok (.bipush 25, 2) := by decide +kernel
theorem dX12_kerbSet_18 : decode cX12_kerbSet 18 = .ok (.if_icmp .ge 34, 3) := by decide +kernel
theorem dX12_kerbSet_21 : decode cX12_kerbSet 21 = .ok (.aload_n 0, 1) := by decide +kernel
theorem dX12_kerbSet_22 : decode cX12_kerbSet 22 = .ok (.iload_n 1, 1) := by decide +kernel
theorem dX12_kerbSet_23 : decode cX12_kerbSet 23 = .ok (.iload_n 2, 1) := by decide +kernel
theorem dX12_kerbSet_24 : decode cX12_kerbSet 24 = .ok (.iload_n 3, 1) := by decide +kernel
theorem dX12_kerbSet_25 : decode cX12_kerbSet 25 = .ok (.invokevirtual 478, 3) := by decide +kernel
theorem dX12_kerbSet_28 : decode cX12_kerbSet 28 = .ok (.ifCond .eq 18, 3) := by decide +kernel
theorem dX12_kerbSet_31 : decode cX12_kerbSet 31 = .ok (.aload_n 0, 1) := by decide +kernel
theorem dX12_kerbSet_32 : decode cX12_kerbSet 32 = .ok (.iload_n 1, 1) := by decide +kernel
theorem dX12_kerbSet_33 : decode cX12_kerbSet 33 = .ok (.iload_n 2, 1) := by decide +kernel
theorem dX12_kerbSet_34 : decode cX12_kerbSet 34 = .ok (.iload_n 3, 1) := by decide +kernel
theorem dX12_kerbSet_35 : decode cX12_kerbSet 35 = .ok (.iconst (-1), 1) := by decide +kernel
theorem dX12_kerbSet_36 : decode cX12_kerbSet 36 = .ok (.invokevirtual 474, 3) := by decide +kernel
theorem dX12_kerbSet_39 : decode cX12_kerbSet 39 = .ok (.ifCond .eq 7, 3) := by decide +kernel
theorem dX12_kerbSet_42 : decode cX12_kerbSet 42 = .ok (.iconst 1, 1) := by decide +kernel
theorem dX12_kerbSet_43 : decode cX12_kerbSet 43 = .ok (.iload_n 3, 1) := by decide +kernel
theorem dX12_kerbSet_44 : decode cX12_kerbSet 44 = .ok (.ishl, 1) := by decide +kernel
theorem dX12_kerbSet_45 : decode cX12_kerbSet 45 = .ok (.ireturn, 1) := by decide +kernel
theorem dX12_kerbSet_46 : decode cX12_kerbSet 46 = .ok (.iinc 3 1, 3) := by decide +kernel
theorem dX12_kerbSet_49 : decode cX12_kerbSet 49 = .ok (.goto (-34), 3) := by decide +kernel
theorem dX12_kerbSet_52 : decode cX12_kerbSet 52 = .ok (.iconst 0, 1) := by decide +kernel
theorem dX12_kerbSet_53 : decode cX12_kerbSet 53 = .ok (.istore_n 3, 1) := by decide +kernel
theorem dX12_kerbSet_54 : decode cX12_kerbSet 54 = .ok (.iload_n 3, 1) := by decide +kernel
theorem dX12_kerbSet_55 : decode cX12_kerbSet 55 = .ok (.bipush 25, 2) := by decide +kernel
theorem dX12_kerbSet_57 : decode cX12_kerbSet 57 = .ok (.if_icmp .ge 66, 3) := by decide +kernel
theorem dX12_kerbSet_60 : decode cX12_kerbSet 60 = .ok (.iconst 0, 1) := by decide +kernel
theorem dX12_kerbSet_61 : decode cX12_kerbSet 61 = .ok (.istore 4, 2) := by decide +kernel
theorem dX12_kerbSet_63 : decode cX12_kerbSet 63 = .ok (.iload 4, 2) := by decide +kernel
theorem dX12_kerbSet_65 : decode cX12_kerbSet 65 = .ok (.iload_n 3, 1) := by decide +kernel
theorem dX12_kerbSet_66 : decode cX12_kerbSet 66 = .ok (.if_icmp .ge 51, 3) := by decide +kernel
theorem dX12_kerbSet_69 : decode cX12_kerbSet 69 = .ok (.aload_n 0, 1) := by decide +kernel
theorem dX12_kerbSet_70 : decode cX12_kerbSet 70 = .ok (.iload_n 1, 1) := by decide +kernel
theorem dX12_kerbSet_71 : decode cX12_kerbSet 71 = .ok (.iload_n 2, 1) := by decide +kernel
theorem dX12_kerbSet_72 : decode cX12_kerbSet 72 = .ok (.iload 4, 2) := by decide +kernel
theorem dX12_kerbSet_74 : decode cX12_kerbSet 74 = .ok (.invokevirtual 478, 3) := by decide +kernel
theorem dX12_kerbSet_77 : decode cX12_kerbSet 77 = .ok (.ifCond .eq 34, 3) := by decide +kernel
theorem dX12_kerbSet_80 : decode cX12_kerbSet 80 = .ok (.aload_n 0, 1) := by decide +kernel
theorem dX12_kerbSet_81 : decode cX12_kerbSet 81 = .ok (.iload_n 1, 1) := by decide +kernel
theorem dX12_kerbSet_82 : decode cX12_kerbSet 82 = .ok (.iload_n 2, 1) := by decide +kernel
theorem dX12_kerbSet_83 : decode cX12_kerbSet 83 = .ok (.iload_n 3, 1) := by decide +kernel
theorem dX12_kerbSet_84 : decode cX12_kerbSet 84 = .ok (.invokevirtual 478, 3) := by decide +kernel
theorem dX12_kerbSet_87 : decode cX12_kerbSet 87 = .ok (.ifCond .eq 24, 3) := by decide +kernel
theorem dX12_kerbSet_90 : decode cX12_kerbSet 90 = .ok (.aload_n 0, 1) := by decide +kernel
theorem dX12_kerbSet_91 : decode cX12_kerbSet 91 = .ok (.iload_n 1, 1) := by decide +kernel
theorem dX12_kerbSet_92 : decode cX12_kerbSet 92 = .ok (.iload_n 2, 1) := by decide +kernel
theorem dX12_kerbSet_93 : decode cX12_kerbSet 93 = .ok (.iload 4, 2) := by decide +kernel
theorem dX12_kerbSet_95 : decode cX12_kerbSet 95 = .ok (.iload_n 3, 1) := by decide +kernel
theorem dX12_kerbSet_96 : decode cX12_kerbSet 96 = .ok (.invokevirtual 474, 3) := by decide +kernel
theorem dX12_kerbSet_99 : decode cX12_kerbSet 99 = .ok (.ifCond .eq 12, 3) := by decide +kernel
theorem dX12_kerbSet_102 : decode cX12_kerbSet 102 = .ok (.iconst 1, 1) := by decide +kernel
theorem dX12_kerbSet_103 : decode cX12_kerbSet 103 = .ok (.iload 4, 2) := by decide +kernel
theorem dX12_kerbSet_105 : decode cX12_kerbSet 105 = .ok (.ishl, 1) := by decide +kernel
theorem dX12_kerbSet_106 : decode cX12_kerbSet 106 = .ok (.iconst 1, 1) := by decide +kernel
theorem dX12_kerbSet_107 : decode cX12_kerbSet 107 = .ok (.iload_n 3, 1) := by decide +kernel
theorem dX12_kerbSet_108 : decode cX12_kerbSet 108 = .ok (.ishl, 1) := by decide +kernel
theorem dX12_kerbSet_109 : decode cX12_kerbSet 109 = .ok (.ior, 1) := by decide +kernel
theorem dX12_kerbSet_110 : decode cX12_kerbSet 110 = .ok (.ireturn, 1) := by decide +kernel
theorem dX12_kerbSet_111 : decode cX12_kerbSet 111 = .ok (.iinc 4 1, 3) := by decide +kernel
theorem dX12_kerbSet_114 : decode cX12_kerbSet 114 = .ok (.goto (-51), 3) := by decide +kernel
theorem dX12_kerbSet_117 : decode cX12_kerbSet 117 = .ok (.iinc 3 1, 3) := by decide +kernel
theorem dX12_kerbSet_120 : decode cX12_kerbSet 120 = .ok (.goto (-66), 3) := by decide +kernel
theorem dX12_kerbSet_123 : decode cX12_kerbSet 123 = .ok (.iconst (-1), 1) := by decide +kernel
theorem dX12_kerbSet_124 : decode cX12_kerbSet 124 = .ok (.ireturn, 1) := by decide +kernel
set_option maxRecDepth 100000 in
theorem okm_X12_kerbSet : okL RX12 cX12_kerbSet 5 (some .int) "kerbSet" pcX12_kerbSet opX12_kerbSet pcX12_kerbSet := by
  unfold opX12_kerbSet
  refine okL_cons (ok_aload_n rfl dX12_kerbSet_0) rfl ?_
  refine okL_cons (ok_iload_n rfl dX12_kerbSet_1) rfl ?_
  refine okL_cons (ok_iload_n rfl dX12_kerbSet_2) rfl ?_
  refine okL_cons (ok_iconst rfl dX12_kerbSet_3) rfl ?_
  refine okL_cons (ok_iconst rfl dX12_kerbSet_4) rfl ?_
  refine okL_cons (ok_invV (M' := 257) kw_1003 kw_1004 kw_1005 kw_711 kw_1006 cf_X12 rfl (by decide +kernel) dX12_kerbSet_5) rfl ?_
  refine okL_cons (ok_if_eq rfl dX12_kerbSet_8) rfl ?_
  refine okL_cons (ok_iconst rfl dX12_kerbSet_11) rfl ?_
  refine okL_cons (ok_ireturn rfl dX12_kerbSet_12) rfl ?_
  refine okL_cons (ok_iconst rfl dX12_kerbSet_13) rfl ?_
  refine okL_cons (ok_istore_n rfl dX12_kerbSet_14) rfl ?_
  refine okL_cons (ok_iload_n rfl dX12_kerbSet_15) rfl ?_
  refine okL_cons (ok_bipush rfl dX12_kerbSet_16) rfl ?_
  refine okL_cons (ok_icmp_ge rfl dX12_kerbSet_18) rfl ?_
  refine okL_cons (ok_aload_n rfl dX12_kerbSet_21) rfl ?_
  refine okL_cons (ok_iload_n rfl dX12_kerbSet_22) rfl ?_
  refine okL_cons (ok_iload_n rfl dX12_kerbSet_23) rfl ?_
  refine okL_cons (ok_iload_n rfl dX12_kerbSet_24) rfl ?_
  refine okL_cons (ok_invV (M' := 258) kw_1007 kw_1008 kw_1009 kw_711 kw_1010 cf_X12 rfl (by decide +kernel) dX12_kerbSet_25) rfl ?_
  refine okL_cons (ok_if_eq rfl dX12_kerbSet_28) rfl ?_
  refine okL_cons (ok_aload_n rfl dX12_kerbSet_31) rfl ?_
  refine okL_cons (ok_iload_n rfl dX12_kerbSet_32) rfl ?_
  refine okL_cons (ok_iload_n rfl dX12_kerbSet_33) rfl ?_
  refine okL_cons (ok_iload_n rfl dX12_kerbSet_34) rfl ?_
  refine okL_cons (ok_iconst rfl dX12_kerbSet_35) rfl ?_
  refine okL_cons (ok_invV (M' := 257) kw_1003 kw_1004 kw_1005 kw_711 kw_1006 cf_X12 rfl (by decide +kernel) dX12_kerbSet_36) rfl ?_
  refine okL_cons (ok_if_eq rfl dX12_kerbSet_39) rfl ?_
  refine okL_cons (ok_iconst rfl dX12_kerbSet_42) rfl ?_
  refine okL_cons (ok_iload_n rfl dX12_kerbSet_43) rfl ?_
  refine okL_cons (ok_ishl dX12_kerbSet_44) rfl ?_
  refine okL_cons (ok_ireturn rfl dX12_kerbSet_45) rfl ?_
  refine okL_cons (ok_iinc rfl dX12_kerbSet_46) rfl ?_
  refine okL_cons (ok_goto rfl dX12_kerbSet_49) rfl ?_
  refine okL_cons (ok_iconst rfl dX12_kerbSet_52) rfl ?_
  refine okL_cons (ok_istore_n rfl dX12_kerbSet_53) rfl ?_
  refine okL_cons (ok_iload_n rfl dX12_kerbSet_54) rfl ?_
  refine okL_cons (ok_bipush rfl dX12_kerbSet_55) rfl ?_
  refine okL_cons (ok_icmp_ge rfl dX12_kerbSet_57) rfl ?_
  refine okL_cons (ok_iconst rfl dX12_kerbSet_60) rfl ?_
  refine okL_cons (ok_istore dX12_kerbSet_61) rfl ?_
  refine okL_cons (ok_iload dX12_kerbSet_63) rfl ?_
  refine okL_cons (ok_iload_n rfl dX12_kerbSet_65) rfl ?_
  refine okL_cons (ok_icmp_ge rfl dX12_kerbSet_66) rfl ?_
  refine okL_cons (ok_aload_n rfl dX12_kerbSet_69) rfl ?_
  refine okL_cons (ok_iload_n rfl dX12_kerbSet_70) rfl ?_
  refine okL_cons (ok_iload_n rfl dX12_kerbSet_71) rfl ?_
  refine okL_cons (ok_iload dX12_kerbSet_72) rfl ?_
  refine okL_cons (ok_invV (M' := 258) kw_1007 kw_1008 kw_1009 kw_711 kw_1010 cf_X12 rfl (by decide +kernel) dX12_kerbSet_74) rfl ?_
  refine okL_cons (ok_if_eq rfl dX12_kerbSet_77) rfl ?_
  refine okL_cons (ok_aload_n rfl dX12_kerbSet_80) rfl ?_
  refine okL_cons (ok_iload_n rfl dX12_kerbSet_81) rfl ?_
  refine okL_cons (ok_iload_n rfl dX12_kerbSet_82) rfl ?_
  refine okL_cons (ok_iload_n rfl dX12_kerbSet_83) rfl ?_
  refine okL_cons (ok_invV (M' := 258) kw_1007 kw_1008 kw_1009 kw_711 kw_1010 cf_X12 rfl (by decide +kernel) dX12_kerbSet_84) rfl ?_
  refine okL_cons (ok_if_eq rfl dX12_kerbSet_87) rfl ?_
  refine okL_cons (ok_aload_n rfl dX12_kerbSet_90) rfl ?_
  refine okL_cons (ok_iload_n rfl dX12_kerbSet_91) rfl ?_
  refine okL_cons (ok_iload_n rfl dX12_kerbSet_92) rfl ?_
  refine okL_cons (ok_iload dX12_kerbSet_93) rfl ?_
  refine okL_cons (ok_iload_n rfl dX12_kerbSet_95) rfl ?_
  refine okL_cons (ok_invV (M' := 257) kw_1003 kw_1004 kw_1005 kw_711 kw_1006 cf_X12 rfl (by decide +kernel) dX12_kerbSet_96) rfl ?_
  refine okL_cons (ok_if_eq rfl dX12_kerbSet_99) rfl ?_
  refine okL_cons (ok_iconst rfl dX12_kerbSet_102) rfl ?_
  refine okL_cons (ok_iload dX12_kerbSet_103) rfl ?_
  refine okL_cons (ok_ishl dX12_kerbSet_105) rfl ?_
  refine okL_cons (ok_iconst rfl dX12_kerbSet_106) rfl ?_
  refine okL_cons (ok_iload_n rfl dX12_kerbSet_107) rfl ?_
  refine okL_cons (ok_ishl dX12_kerbSet_108) rfl ?_
  refine okL_cons (ok_ior dX12_kerbSet_109) rfl ?_
  refine okL_cons (ok_ireturn rfl dX12_kerbSet_110) rfl ?_
  refine okL_cons (ok_iinc rfl dX12_kerbSet_111) rfl ?_
  refine okL_cons (ok_goto rfl dX12_kerbSet_114) rfl ?_
  refine okL_cons (ok_iinc rfl dX12_kerbSet_117) rfl ?_
  refine okL_cons (ok_goto rfl dX12_kerbSet_120) rfl ?_
  refine okL_cons (ok_iconst rfl dX12_kerbSet_123) rfl ?_
  exact okL_one (ok_ireturn rfl dX12_kerbSet_124)
theorem dX12_kerbs_0 : decode cX12_kerbs 0 = .ok (.aload_n 0, 1) := by decide +kernel
theorem dX12_kerbs_1 : decode cX12_kerbs 1 = .ok (.iconst 0, 1) := by decide +kernel
theorem dX12_kerbs_2 : decode cX12_kerbs 2 = .ok (.putfield 152, 3) := by decide +kernel
theorem dX12_kerbs_5 : decode cX12_kerbs 5 = .ok (.iload_n 1, 1) := by decide +kernel
theorem dX12_kerbs_6 : decode cX12_kerbs 6 = .ok (.invokestatic 187, 3) := by decide +kernel
theorem dX12_kerbs_9 : decode cX12_kerbs 9 = .ok (.ifCond .eq 28, 3) := by decide +kernel
theorem dX12_kerbs_12 : decode cX12_kerbs 12 = .ok (.iload_n 2, 1) := by decide +kernel
theorem dX12_kerbs_13 : decode cX12_kerbs 13 = .ok (.invokestatic 187, 3) := by decide +kernel
theorem dX12_kerbs_16 : decode cX12_kerbs 16 = .ok (.ifCond .eq 21, 3) := by decide +kernel
theorem dX12_kerbs_19 : decode cX12_kerbs 19 = .ok (.iload_n 3, 1) := by decide +kernel
theorem dX12_kerbs_20 : decode cX12_kerbs 20 = .ok (.i2l, 1) := by decide +kernel
theorem dX12_kerbs_21 : decode cX12_kerbs 21 = .ok (.lconst 0, 1) := by decide +kernel
theorem dX12_kerbs_22 : decode cX12_kerbs 22 = .ok (.lconst 1, 1) := by decide +kernel
theorem dX12_kerbs_23 : decode cX12_kerbs 23 = .ok (.invokestatic 172, 3) := by decide +kernel
theorem dX12_kerbs_26 : decode cX12_kerbs 26 = .ok (.ifCond .eq 11, 3) := by decide +kernel
theorem dX12_kerbs_29 : decode cX12_kerbs 29 = .ok (.aload_n 0, 1) := by decide +kernel
theorem dX12_kerbs_30 : decode cX12_kerbs 30 = .ok (.iload_n 2, 1) := by decide +kernel
theorem dX12_kerbs_31 : decode cX12_kerbs 31 = .ok (.invokevirtual 191, 3) := by decide +kernel
theorem dX12_kerbs_34 : decode cX12_kerbs 34 = .ok (.ifCond .ne 5, 3) := by decide +kernel
theorem dX12_kerbs_37 : decode cX12_kerbs 37 = .ok (.iconst (-1), 1) := by decide +kernel
theorem dX12_kerbs_38 : decode cX12_kerbs 38 = .ok (.ireturn, 1) := by decide +kernel
theorem dX12_kerbs_39 : decode cX12_kerbs 39 = .ok (.aload_n 0, 1) := by decide +kernel
theorem dX12_kerbs_40 : decode cX12_kerbs 40 = .ok (.iload_n 1, 1) := by decide +kernel
theorem dX12_kerbs_41 : decode cX12_kerbs 41 = .ok (.iload_n 2, 1) := by decide +kernel
theorem dX12_kerbs_42 : decode cX12_kerbs 42 = .ok (.invokevirtual 481, 3) := by decide +kernel
theorem dX12_kerbs_45 : decode cX12_kerbs 45 = .ok (.istore 4, 2) := by decide +kernel
theorem dX12_kerbs_47 : decode cX12_kerbs 47 = .ok (.iload 4, 2) := by decide +kernel
theorem dX12_kerbs_49 : decode cX12_kerbs 49 = .ok (.iconst (-1), 1) := by decide +kernel
theorem dX12_kerbs_50 : decode cX12_kerbs 50 = .ok (.if_icmp .eq 8, 3) := by decide +kernel
theorem dX12_kerbs_53 : decode cX12_kerbs 53 = .ok (.iload_n 3, 1) := by decide +kernel
theorem dX12_kerbs_54 : decode cX12_kerbs 54 = .ok (.iconst 1, 1) := by decide +kernel
theorem dX12_kerbs_55 : decode cX12_kerbs 55 = .ok (.if_icmp .ne 8, 3) := by decide +kernel
theorem dX12_kerbs_58 : decode cX12_kerbs 58 = .ok (.iload 4, 2) := by decide +kernel
theorem dX12_kerbs_60 : decode cX12_kerbs 60 = .ok (.goto 8, 3) := by decide +kernel
theorem dX12_kerbs_63 : decode cX12_kerbs 63 = .ok (.iload 4, 2) := by decide +kernel
theorem dX12_kerbs_65 : decode cX12_kerbs 65 = .ok (.invokestatic 402, 3) := by decide +kernel
theorem dX12_kerbs_68 : decode cX12_kerbs 68 = .ok (.ireturn, 1) := by decide +kernel
set_option maxRecDepth 100000 in
theorem okm_X12_kerbs : okL RX12 cX12_kerbs 5 (some .int) "kerbs" pcX12_kerbs opX12_kerbs pcX12_kerbs := by
  unfold opX12_kerbs
  refine okL_cons (ok_aload_n rfl dX12_kerbs_0) rfl ?_
  refine okL_cons (ok_iconst rfl dX12_kerbs_1) rfl ?_
  refine okL_cons (ok_putI kw_717 cf_X12 rfl rfl (by decide) rfl dX12_kerbs_2) rfl ?_
  refine okL_cons (ok_iload_n rfl dX12_kerbs_5) rfl ?_
  refine okL_cons (ok_invS (M' := 178) kw_734 kw_735 kw_711 kw_736 rfl (by decide +kernel) dX12_kerbs_6) rfl ?_
  refine okL_cons (ok_if_eq rfl dX12_kerbs_9) rfl ?_
  refine okL_cons (ok_iload_n rfl dX12_kerbs_12) rfl ?_
  refine okL_cons (ok_invS (M' := 178) kw_734 kw_735 kw_711 kw_736 rfl (by decide +kernel) dX12_kerbs_13) rfl ?_
  refine okL_cons (ok_if_eq rfl dX12_kerbs_16) rfl ?_
  refine okL_cons (ok_iload_n rfl dX12_kerbs_19) rfl ?_
  refine okL_cons (ok_i2l dX12_kerbs_20) rfl ?_
  refine okL_cons (ok_lconst rfl dX12_kerbs_21) rfl ?_
  refine okL_cons (ok_lconst rfl dX12_kerbs_22) rfl ?_
  refine okL_cons (ok_invS (M' := 165) kw_722 kw_723 kw_711 kw_724 rfl (by decide +kernel) dX12_kerbs_23) rfl ?_
  refine okL_cons (ok_if_eq rfl dX12_kerbs_26) rfl ?_
  refine okL_cons (ok_aload_n rfl dX12_kerbs_29) rfl ?_
  refine okL_cons (ok_iload_n rfl dX12_kerbs_30) rfl ?_
  refine okL_cons (ok_invV (M' := 180) kw_737 kw_738 kw_739 kw_711 kw_740 cf_X12 rfl (by decide +kernel) dX12_kerbs_31) rfl ?_
  refine okL_cons (ok_if_ne rfl dX12_kerbs_34) rfl ?_
  refine okL_cons (ok_iconst rfl dX12_kerbs_37) rfl ?_
  refine okL_cons (ok_ireturn rfl dX12_kerbs_38) rfl ?_
  refine okL_cons (ok_aload_n rfl dX12_kerbs_39) rfl ?_
  refine okL_cons (ok_iload_n rfl dX12_kerbs_40) rfl ?_
  refine okL_cons (ok_iload_n rfl dX12_kerbs_41) rfl ?_
  refine okL_cons (ok_invV (M' := 259) kw_1011 kw_1012 kw_1013 kw_711 kw_1014 cf_X12 rfl (by decide +kernel) dX12_kerbs_42) rfl ?_
  refine okL_cons (ok_istore dX12_kerbs_45) rfl ?_
  refine okL_cons (ok_iload dX12_kerbs_47) rfl ?_
  refine okL_cons (ok_iconst rfl dX12_kerbs_49) rfl ?_
  refine okL_cons (ok_icmp_eq rfl dX12_kerbs_50) rfl ?_
  refine okL_cons (ok_iload_n rfl dX12_kerbs_53) rfl ?_
  refine okL_cons (ok_iconst rfl dX12_kerbs_54) rfl ?_
  refine okL_cons (ok_icmp_ne rfl dX12_kerbs_55) rfl ?_
  refine okL_cons (ok_iload dX12_kerbs_58) rfl ?_
  refine okL_cons (ok_goto rfl dX12_kerbs_60) rfl ?_
  refine okL_cons (ok_iload dX12_kerbs_63) rfl ?_
  refine okL_cons (ok_invS (M' := 167) kw_919 kw_920 kw_711 kw_921 rfl (by decide +kernel) dX12_kerbs_65) rfl ?_
  exact okL_one (ok_ireturn rfl dX12_kerbs_68)
theorem dX12_springs_0 : decode cX12_springs 0 = .ok (.aload_n 0, 1) := by decide +kernel
theorem dX12_springs_1 : decode cX12_springs 1 = .ok (.iconst 0, 1) := by decide +kernel
theorem dX12_springs_2 : decode cX12_springs 2 = .ok (.putfield 152, 3) := by decide +kernel
theorem dX12_springs_5 : decode cX12_springs 5 = .ok (.aload_n 0, 1) := by decide +kernel
theorem dX12_springs_6 : decode cX12_springs 6 = .ok (.invokevirtual 203, 3) := by decide +kernel
theorem dX12_springs_9 : decode cX12_springs 9 = .ok (.ldc_w 484, 3) := by decide +kernel
theorem dX12_springs_12 : decode cX12_springs 12 = .ok (.istore_n 1, 1) := by decide +kernel
theorem dX12_springs_13 : decode cX12_springs 13 = .ok (.iconst 0, 1) := by decide +kernel
theorem dX12_springs_14 : decode cX12_springs 14 = .ok (.istore_n 2, 1) := by decide +kernel
theorem dX12_springs_15 : decode cX12_springs 15 = .ok (.iload_n 2, 1) := by decide +kernel
theorem dX12_springs_16 : decode cX12_springs 16 = .ok (.bipush 25, 2) := by decide +kernel
theorem dX12_springs_18 : decode cX12_springs 18 = .ok (.if_icmp .ge 36, 3) := by decide +kernel
theorem dX12_springs_21 : decode cX12_springs 21 = .ok (.iload_n 1, 1) := by decide +kernel
theorem dX12_springs_22 : decode cX12_springs 22 = .ok (.aload_n 0, 1) := by decide +kernel
theorem dX12_springs_23 : decode cX12_springs 23 = .ok (.getfield 107, 3) := by decide +kernel
theorem dX12_springs_26 : decode cX12_springs 26 = .ok (.iload_n 2, 1) := by decide +kernel
theorem dX12_springs_27 : decode cX12_springs 27 = .ok (.iaload, 1) := by decide +kernel
theorem dX12_springs_28 : decode cX12_springs 28 = .ok (.iload_n 2, 1) := by decide +kernel
theorem dX12_springs_29 : decode cX12_springs 29 = .ok (.if_icmp .ne 7, 3) := by decide +kernel
theorem dX12_springs_32 : decode cX12_springs 32 = .ok (.iconst (-1), 1) := by decide +kernel
theorem dX12_springs_33 : decode cX12_springs 33 = .ok (.goto 13, 3) := by decide +kernel
theorem dX12_springs_36 : decode cX12_springs 36 = .ok (.iconst 1, 1) := by decide +kernel
theorem dX12_springs_37 : decode cX12_springs 37 = .ok (.aload_n 0, 1) := by decide +kernel
theorem dX12_springs_38 : decode cX12_springs 38 = .ok (.getfield 107, 3) := by decide +kernel
theorem dX12_springs_41 : decode cX12_springs 41 = .ok (.iload_n 2, 1) := by decide +kernel
theorem dX12_springs_42 : decode cX12_springs 42 = .ok (.iaload, 1) := by decide +kernel
theorem dX12_springs_43 : decode cX12_springs 43 = .ok (.ishl, 1) := by decide +kernel
theorem dX12_springs_44 : decode cX12_springs 44 = .ok (.iconst (-1), 1) := by decide +kernel
theorem dX12_springs_45 : decode cX12_springs 45 = .ok (.ixor, 1) := by decide +kernel
theorem dX12_springs_46 : decode cX12_springs 46 = .ok (.iand, 1) := by decide +kernel
theorem dX12_springs_47 : decode cX12_springs 47 = .ok (.istore_n 1, 1) := by decide +kernel
theorem dX12_springs_48 : decode cX12_springs 48 = .ok (.iinc 2 1, 3) := by decide +kernel
theorem dX12_springs_51 : decode cX12_springs 51 = .ok (.goto (-36), 3) := by decide +kernel
theorem dX12_springs_54 : decode cX12_springs 54 = .ok (.iload_n 1, 1) := by decide +kernel
theorem dX12_springs_55 : decode cX12_springs 55 = .ok (.ireturn, 1) := by decide +kernel
set_option maxRecDepth 100000 in
theorem okm_X12_springs : okL RX12 cX12_springs 3 (some .int) "springs" pcX12_springs opX12_springs pcX12_springs := by
  unfold opX12_springs
  refine okL_cons (ok_aload_n rfl dX12_springs_0) rfl ?_
  refine okL_cons (ok_iconst rfl dX12_springs_1) rfl ?_
  refine okL_cons (ok_putI kw_717 cf_X12 rfl rfl (by decide) rfl dX12_springs_2) rfl ?_
  refine okL_cons (ok_aload_n rfl dX12_springs_5) rfl ?_
  refine okL_cons (ok_invV (M' := 230) kw_753 kw_754 kw_755 kw_711 kw_756 cf_X12 rfl (by decide +kernel) dX12_springs_6) rfl ?_
  refine okL_cons (ok_ldc_w kw_1015 dX12_springs_9) rfl ?_
  refine okL_cons (ok_istore_n rfl dX12_springs_12) rfl ?_
  refine okL_cons (ok_iconst rfl dX12_springs_13) rfl ?_
  refine okL_cons (ok_istore_n rfl dX12_springs_14) rfl ?_
  refine okL_cons (ok_iload_n rfl dX12_springs_15) rfl ?_
  refine okL_cons (ok_bipush rfl dX12_springs_16) rfl ?_
  refine okL_cons (ok_icmp_ge rfl dX12_springs_18) rfl ?_
  refine okL_cons (ok_iload_n rfl dX12_springs_21) rfl ?_
  refine okL_cons (ok_aload_n rfl dX12_springs_22) rfl ?_
  refine okL_cons (ok_getP kw_689 cf_X12 rfl rfl (by decide) dX12_springs_23) rfl ?_
  refine okL_cons (ok_iload_n rfl dX12_springs_26) rfl ?_
  refine okL_cons (ok_iaload dX12_springs_27) rfl ?_
  refine okL_cons (ok_iload_n rfl dX12_springs_28) rfl ?_
  refine okL_cons (ok_icmp_ne rfl dX12_springs_29) rfl ?_
  refine okL_cons (ok_iconst rfl dX12_springs_32) rfl ?_
  refine okL_cons (ok_goto rfl dX12_springs_33) rfl ?_
  refine okL_cons (ok_iconst rfl dX12_springs_36) rfl ?_
  refine okL_cons (ok_aload_n rfl dX12_springs_37) rfl ?_
  refine okL_cons (ok_getP kw_689 cf_X12 rfl rfl (by decide) dX12_springs_38) rfl ?_
  refine okL_cons (ok_iload_n rfl dX12_springs_41) rfl ?_
  refine okL_cons (ok_iaload dX12_springs_42) rfl ?_
  refine okL_cons (ok_ishl dX12_springs_43) rfl ?_
  refine okL_cons (ok_iconst rfl dX12_springs_44) rfl ?_
  refine okL_cons (ok_ixor dX12_springs_45) rfl ?_
  refine okL_cons (ok_iand dX12_springs_46) rfl ?_
  refine okL_cons (ok_istore_n rfl dX12_springs_47) rfl ?_
  refine okL_cons (ok_iinc rfl dX12_springs_48) rfl ?_
  refine okL_cons (ok_goto rfl dX12_springs_51) rfl ?_
  refine okL_cons (ok_iload_n rfl dX12_springs_54) rfl ?_
  exact okL_one (ok_ireturn rfl dX12_springs_55)
theorem dX12_pools_0 : decode cX12_pools 0 = .ok (.aload_n 0, 1) := by decide +kernel
theorem dX12_pools_1 : decode cX12_pools 1 = .ok (.iconst 0, 1) := by decide +kernel
theorem dX12_pools_2 : decode cX12_pools 2 = .ok (.putfield 152, 3) := by decide +kernel
theorem dX12_pools_5 : decode cX12_pools 5 = .ok (.aload_n 0, 1) := by decide +kernel
theorem dX12_pools_6 : decode cX12_pools 6 = .ok (.invokevirtual 203, 3) := by decide +kernel
theorem dX12_pools_9 : decode cX12_pools 9 = .ok (.iconst 0, 1) := by decide +kernel
theorem dX12_pools_10 : decode cX12_pools 10 = .ok (.istore_n 1, 1) := by decide +kernel
theorem dX12_pools_11 : decode cX12_pools 11 = .ok (.iconst 0, 1) := by decide +kernel
theorem dX12_pools_12 : decode cX12_pools 12 = .ok (.istore_n 2, 1) := by decide +kernel
theorem dX12_pools_13 : decode cX12_pools 13 = .ok (.iload_n 2, 1) := by decide +kernel
theorem dX12_pools_14 : decode cX12_pools 14 = .ok (.bipush 25, 2) := by decide +kernel
theorem dX12_pools_16 : decode cX12_pools 16 = .ok (.if_icmp .ge 37, 3) := by decide +kernel
theorem dX12_pools_19 : decode cX12_pools 19 = .ok (.iload_n 1, 1) := by decide +kernel
theorem dX12_pools_20 : decode cX12_pools 20 = .ok (.aload_n 0, 1) := by decide +kernel
theorem dX12_pools_21 : decode cX12_pools 21 = .ok (.getfield 107, 3) := by decide +kernel
theorem dX12_pools_24 : decode cX12_pools 24 = .ok (.iload_n 2, 1) := by decide +kernel
theorem dX12_pools_25 : decode cX12_pools 25 = .ok (.iaload, 1) := by decide +kernel
theorem dX12_pools_26 : decode cX12_pools 26 = .ok (.iload_n 2, 1) := by decide +kernel
theorem dX12_pools_27 : decode cX12_pools 27 = .ok (.if_icmp .ne 17, 3) := by decide +kernel
theorem dX12_pools_30 : decode cX12_pools 30 = .ok (.aload_n 0, 1) := by decide +kernel
theorem dX12_pools_31 : decode cX12_pools 31 = .ok (.iload_n 2, 1) := by decide +kernel
theorem dX12_pools_32 : decode cX12_pools 32 = .ok (.invokevirtual 191, 3) := by decide +kernel
theorem dX12_pools_35 : decode cX12_pools 35 = .ok (.ifCond .ne 9, 3) := by decide +kernel
theorem dX12_pools_38 : decode cX12_pools 38 = .ok (.iconst 1, 1) := by decide +kernel
theorem dX12_pools_39 : decode cX12_pools 39 = .ok (.iload_n 2, 1) := by decide +kernel
theorem dX12_pools_40 : decode cX12_pools 40 = .ok (.ishl, 1) := by decide +kernel
theorem dX12_pools_41 : decode cX12_pools 41 = .ok (.goto 4, 3) := by decide +kernel
theorem dX12_pools_44 : decode cX12_pools 44 = .ok (.iconst 0, 1) := by decide +kernel
theorem dX12_pools_45 : decode cX12_pools 45 = .ok (.ior, 1) := by decide +kernel
theorem dX12_pools_46 : decode cX12_pools 46 = .ok (.istore_n 1, 1) := by decide +kernel
theorem dX12_pools_47 : decode cX12_pools 47 = .ok (.iinc 2 1, 3) := by decide +kernel
theorem dX12_pools_50 : decode cX12_pools 50 = .ok (.goto (-37), 3) := by decide +kernel
theorem dX12_pools_53 : decode cX12_pools 53 = .ok (.iload_n 1, 1) := by decide +kernel
theorem dX12_pools_54 : decode cX12_pools 54 = .ok (.ireturn, 1) := by decide +kernel
set_option maxRecDepth 100000 in
theorem okm_X12_pools : okL RX12 cX12_pools 3 (some .int) "pools" pcX12_pools opX12_pools pcX12_pools := by
  unfold opX12_pools
  refine okL_cons (ok_aload_n rfl dX12_pools_0) rfl ?_
  refine okL_cons (ok_iconst rfl dX12_pools_1) rfl ?_
  refine okL_cons (ok_putI kw_717 cf_X12 rfl rfl (by decide) rfl dX12_pools_2) rfl ?_
  refine okL_cons (ok_aload_n rfl dX12_pools_5) rfl ?_
  refine okL_cons (ok_invV (M' := 230) kw_753 kw_754 kw_755 kw_711 kw_756 cf_X12 rfl (by decide +kernel) dX12_pools_6) rfl ?_
  refine okL_cons (ok_iconst rfl dX12_pools_9) rfl ?_
  refine okL_cons (ok_istore_n rfl dX12_pools_10) rfl ?_
  refine okL_cons (ok_iconst rfl dX12_pools_11) rfl ?_
  refine okL_cons (ok_istore_n rfl dX12_pools_12) rfl ?_
  refine okL_cons (ok_iload_n rfl dX12_pools_13) rfl ?_
  refine okL_cons (ok_bipush rfl dX12_pools_14) rfl ?_
  refine okL_cons (ok_icmp_ge rfl dX12_pools_16) rfl ?_
  refine okL_cons (ok_iload_n rfl dX12_pools_19) rfl ?_
  refine okL_cons (ok_aload_n rfl dX12_pools_20) rfl ?_
  refine okL_cons (ok_getP kw_689 cf_X12 rfl rfl (by decide) dX12_pools_21) rfl ?_
  refine okL_cons (ok_iload_n rfl dX12_pools_24) rfl ?_
  refine okL_cons (ok_iaload dX12_pools_25) rfl ?_
  refine okL_cons (ok_iload_n rfl dX12_pools_26) rfl ?_
  refine okL_cons (ok_icmp_ne rfl dX12_pools_27) rfl ?_
  refine okL_cons (ok_aload_n rfl dX12_pools_30) rfl ?_
  refine okL_cons (ok_iload_n rfl dX12_pools_31) rfl ?_
  refine okL_cons (ok_invV (M' := 180) kw_737 kw_738 kw_739 kw_711 kw_740 cf_X12 rfl (by decide +kernel) dX12_pools_32) rfl ?_
  refine okL_cons (ok_if_ne rfl dX12_pools_35) rfl ?_
  refine okL_cons (ok_iconst rfl dX12_pools_38) rfl ?_
  refine okL_cons (ok_iload_n rfl dX12_pools_39) rfl ?_
  refine okL_cons (ok_ishl dX12_pools_40) rfl ?_
  refine okL_cons (ok_goto rfl dX12_pools_41) rfl ?_
  refine okL_cons (ok_iconst rfl dX12_pools_44) rfl ?_
  refine okL_cons (ok_ior dX12_pools_45) rfl ?_
  refine okL_cons (ok_istore_n rfl dX12_pools_46) rfl ?_
  refine okL_cons (ok_iinc rfl dX12_pools_47) rfl ?_
  refine okL_cons (ok_goto rfl dX12_pools_50) rfl ?_
  refine okL_cons (ok_iload_n rfl dX12_pools_53) rfl ?_
  exact okL_one (ok_ireturn rfl dX12_pools_54)
theorem dX12_longest_0 : decode cX12_longest 0 = .ok (.aload_n 0, 1) := by decide +kernel
theorem dX12_longest_1 : decode cX12_longest 1 = .ok (.iconst 0, 1) := by decide +kernel
theorem dX12_longest_2 : decode cX12_longest 2 = .ok (.putfield 152, 3) := by decide +kernel
theorem dX12_longest_5 : decode cX12_longest 5 = .ok (.iload_n 1, 1) := by decide +kernel
theorem dX12_longest_6 : decode cX12_longest 6 = .ok (.i2l, 1) := by decide +kernel
theorem dX12_longest_7 : decode cX12_longest 7 = .ok (.lconst 0, 1) := by decide +kernel
theorem dX12_longest_8 : decode cX12_longest 8 = .ok (.lconst 1, 1) := by decide +kernel
theorem dX12_longest_9 : decode cX12_longest 9 = .ok (.invokestatic 172, 3) := by decide +kernel
theorem dX12_longest_12 : decode cX12_longest 12 = .ok (.ifCond .ne 5, 3) := by decide +kernel
theorem dX12_longest_15 : decode cX12_longest 15 = .ok (.iconst (-1), 1) := by decide +kernel
theorem dX12_longest_16 : decode cX12_longest 16 = .ok (.ireturn, 1) := by decide +kernel
theorem dX12_longest_17 : decode cX12_longest 17 = .ok (.aload_n 0, 1) := by decide +kernel
theorem dX12_longest_18 : decode cX12_longest 18 = .ok (.invokevirtual 203, 3) := by decide +kernel
theorem dX12_longest_21 : decode cX12_longest 21 = .ok (.iconst (-1), 1) := by decide +kernel
theorem dX12_longest_22 : decode cX12_longest 22 = .ok (.istore_n 2, 1) := by decide +kernel
theorem dX12_longest_23 : decode cX12_longest 23 = .ok (.iconst (-1), 1) := by decide +kernel
theorem dX12_longest_24 : decode cX12_longest 24 = .ok (.istore_n 3, 1) := by decide +kernel
theorem dX12_longest_25 : decode cX12_longest 25 = .ok (.iconst 0, 1) := by decide +kernel
theorem dX12_longest_26 : decode cX12_longest 26 = .ok (.istore 4, 2) := by decide +kernel
theorem dX12_longest_28 : decode cX12_longest 28 = .ok (.iload 4, 2) := by decide +kernel
theorem dX12_longest_30 : decode cX12_longest 30 = .ok (.bipush 25, 2) := by decide +kernel
theorem dX12_longest_32 : decode cX12_longest 32 = .ok (.if_icmp .ge 43, 3) := by decide +kernel
theorem dX12_longest_35 : decode cX12_longest 35 = .ok (.aload_n 0, 1) := by decide +kernel
theorem dX12_longest_36 : decode cX12_longest 36 = .ok (.iload 4, 2) := by decide +kernel
theorem dX12_longest_38 : decode cX12_longest 38 = .ok (.invokevirtual 447, 3) := by decide +kernel
theorem dX12_longest_41 : decode cX12_longest 41 = .ok (.istore 5, 2) := by decide +kernel
theorem dX12_longest_43 : decode cX12_longest 43 = .ok (.iload 5, 2) := by decide +kernel
theorem dX12_longest_45 : decode cX12_longest 45 = .ok (.iload_n 2, 1) := by decide +kernel
theorem dX12_longest_46 : decode cX12_longest 46 = .ok (.if_icmp .le 8, 3) := by decide +kernel
theorem dX12_longest_49 : decode cX12_longest 49 = .ok (.iload 4, 2) := by decide +kernel
theorem dX12_longest_51 : decode cX12_longest 51 = .ok (.goto 4, 3) := by decide +kernel
theorem dX12_longest_54 : decode cX12_longest 54 = .ok (.iload_n 3, 1) := by decide +kernel
theorem dX12_longest_55 : decode cX12_longest 55 = .ok (.istore_n 3, 1) := by decide +kernel
theorem dX12_longest_56 : decode cX12_longest 56 = .ok (.iload 5, 2) := by decide +kernel
theorem dX12_longest_58 : decode cX12_longest 58 = .ok (.iload_n 2, 1) := by decide +kernel
theorem dX12_longest_59 : decode cX12_longest 59 = .ok (.if_icmp .le 8, 3) := by decide +kernel
theorem dX12_longest_62 : decode cX12_longest 62 = .ok (.iload 5, 2) := by decide +kernel
theorem dX12_longest_64 : decode cX12_longest 64 = .ok (.goto 4, 3) := by decide +kernel
theorem dX12_longest_67 : decode cX12_longest 67 = .ok (.iload_n 2, 1) := by decide +kernel
theorem dX12_longest_68 : decode cX12_longest 68 = .ok (.istore_n 2, 1) := by decide +kernel
theorem dX12_longest_69 : decode cX12_longest 69 = .ok (.iinc 4 1, 3) := by decide +kernel
theorem dX12_longest_72 : decode cX12_longest 72 = .ok (.goto (-44), 3) := by decide +kernel
theorem dX12_longest_75 : decode cX12_longest 75 = .ok (.iload_n 1, 1) := by decide +kernel
theorem dX12_longest_76 : decode cX12_longest 76 = .ok (.ifCond .ne 7, 3) := by decide +kernel
theorem dX12_longest_79 : decode cX12_longest 79 = .ok (.iload_n 2, 1) := by decide +kernel
theorem dX12_longest_80 : decode cX12_longest 80 = .ok (.goto 4, 3) := by decide +kernel
theorem dX12_longest_83 : decode cX12_longest 83 = .ok (.iload_n 3, 1) := by decide +kernel
theorem dX12_longest_84 : decode cX12_longest 84 = .ok (.ireturn, 1) := by decide +kernel
set_option maxRecDepth 100000 in
theorem okm_X12_longest : okL RX12 cX12_longest 6 (some .int) "longest" pcX12_longest opX12_longest pcX12_longest := by
  unfold opX12_longest
  refine okL_cons (ok_aload_n rfl dX12_longest_0) rfl ?_
  refine okL_cons (ok_iconst rfl dX12_longest_1) rfl ?_
  refine okL_cons (ok_putI kw_717 cf_X12 rfl rfl (by decide) rfl dX12_longest_2) rfl ?_
  refine okL_cons (ok_iload_n rfl dX12_longest_5) rfl ?_
  refine okL_cons (ok_i2l dX12_longest_6) rfl ?_
  refine okL_cons (ok_lconst rfl dX12_longest_7) rfl ?_
  refine okL_cons (ok_lconst rfl dX12_longest_8) rfl ?_
  refine okL_cons (ok_invS (M' := 165) kw_722 kw_723 kw_711 kw_724 rfl (by decide +kernel) dX12_longest_9) rfl ?_
  refine okL_cons (ok_if_ne rfl dX12_longest_12) rfl ?_
  refine okL_cons (ok_iconst rfl dX12_longest_15) rfl ?_
  refine okL_cons (ok_ireturn rfl dX12_longest_16) rfl ?_
  refine okL_cons (ok_aload_n rfl dX12_longest_17) rfl ?_
  refine okL_cons (ok_invV (M' := 230) kw_753 kw_754 kw_755 kw_711 kw_756 cf_X12 rfl (by decide +kernel) dX12_longest_18) rfl ?_
  refine okL_cons (ok_iconst rfl dX12_longest_21) rfl ?_
  refine okL_cons (ok_istore_n rfl dX12_longest_22) rfl ?_
  refine okL_cons (ok_iconst rfl dX12_longest_23) rfl ?_
  refine okL_cons (ok_istore_n rfl dX12_longest_24) rfl ?_
  refine okL_cons (ok_iconst rfl dX12_longest_25) rfl ?_
  refine okL_cons (ok_istore dX12_longest_26) rfl ?_
  refine okL_cons (ok_iload dX12_longest_28) rfl ?_
  refine okL_cons (ok_bipush rfl dX12_longest_30) rfl ?_
  refine okL_cons (ok_icmp_ge rfl dX12_longest_32) rfl ?_
  refine okL_cons (ok_aload_n rfl dX12_longest_35) rfl ?_
  refine okL_cons (ok_iload dX12_longest_36) rfl ?_
  refine okL_cons (ok_invV (M' := 243) kw_970 kw_971 kw_972 kw_711 kw_973 cf_X12 rfl (by decide +kernel) dX12_longest_38) rfl ?_
  refine okL_cons (ok_istore dX12_longest_41) rfl ?_
  refine okL_cons (ok_iload dX12_longest_43) rfl ?_
  refine okL_cons (ok_iload_n rfl dX12_longest_45) rfl ?_
  refine okL_cons (ok_icmp_le rfl dX12_longest_46) rfl ?_
  refine okL_cons (ok_iload dX12_longest_49) rfl ?_
  refine okL_cons (ok_goto rfl dX12_longest_51) rfl ?_
  refine okL_cons (ok_iload_n rfl dX12_longest_54) rfl ?_
  refine okL_cons (ok_istore_n rfl dX12_longest_55) rfl ?_
  refine okL_cons (ok_iload dX12_longest_56) rfl ?_
  refine okL_cons (ok_iload_n rfl dX12_longest_58) rfl ?_
  refine okL_cons (ok_icmp_le rfl dX12_longest_59) rfl ?_
  refine okL_cons (ok_iload dX12_longest_62) rfl ?_
  refine okL_cons (ok_goto rfl dX12_longest_64) rfl ?_
  refine okL_cons (ok_iload_n rfl dX12_longest_67) rfl ?_
  refine okL_cons (ok_istore_n rfl dX12_longest_68) rfl ?_
  refine okL_cons (ok_iinc rfl dX12_longest_69) rfl ?_
  refine okL_cons (ok_goto rfl dX12_longest_72) rfl ?_
  refine okL_cons (ok_iload_n rfl dX12_longest_75) rfl ?_
  refine okL_cons (ok_if_ne rfl dX12_longest_76) rfl ?_
  refine okL_cons (ok_iload_n rfl dX12_longest_79) rfl ?_
  refine okL_cons (ok_goto rfl dX12_longest_80) rfl ?_
  refine okL_cons (ok_iload_n rfl dX12_longest_83) rfl ?_
  exact okL_one (ok_ireturn rfl dX12_longest_84)
theorem dX12_compare_0 : decode cX12_compare 0 = .ok (.aload_n 0, 1) := by decide +kernel
theorem dX12_compare_1 : decode cX12_compare 1 = .ok (.iconst 0, 1) := by decide +kernel
theorem dX12_compare_2 : decode cX12_compare 2 = .ok (.putfield 152, 3) := by decide +kernel
theorem dX12_compare_5 : decode cX12_compare 5 = .ok (.aload_n 0, 1) := by decide +kernel
theorem dX12_compare_6 : decode cX12_compare 6 = .ok (.iload_n 1, 1) := by decide +kernel
theorem dX12_compare_7 : decode cX12_compare 7 = .ok (.invokevirtual 376, 3) := by decide +kernel
theorem dX12_compare_10 : decode cX12_compare 10 = .ok (.ifCond .eq 10, 3) := by decide +kernel
theorem dX12_compare_13 : decode cX12_compare 13 = .ok (.iload_n 2, 1) := by decide +kernel
theorem dX12_compare_14 : decode cX12_compare 14 = .ok (.invokestatic 187, 3) := by decide +kernel
theorem dX12_compare_17 : decode cX12_compare 17 = .ok (.ifCond .ne 5, 3) := by decide +kernel
theorem dX12_compare_20 : decode cX12_compare 20 = .ok (.iconst (-1), 1) := by decide +kernel
theorem dX12_compare_21 : decode cX12_compare 21 = .ok (.ireturn, 1) := by decide +kernel
theorem dX12_compare_22 : decode cX12_compare 22 = .ok (.aload_n 0, 1) := by decide +kernel
theorem dX12_compare_23 : decode cX12_compare 23 = .ok (.getfield 13, 3) := by decide +kernel
theorem dX12_compare_26 : decode cX12_compare 26 = .ok (.iconst 2, 1) := by decide +kernel
theorem dX12_compare_27 : decode cX12_compare 27 = .ok (.iaload, 1) := by decide +kernel
theorem dX12_compare_28 : decode cX12_compare 28 = .ok (.istore_n 3, 1) := by decide +kernel
theorem dX12_compare_29 : decode cX12_compare 29 = .ok (.aload_n 0, 1) := by decide +kernel
theorem dX12_compare_30 : decode cX12_compare 30 = .ok (.getfield 13, 3) := by decide +kernel
theorem dX12_compare_33 : decode cX12_compare 33 = .ok (.iconst 2, 1) := by decide +kernel
theorem dX12_compare_34 : decode cX12_compare 34 = .ok (.iload_n 1, 1) := by decide +kernel
theorem dX12_compare_35 : decode cX12_compare 35 = .ok (.iastore, 1) := by decide +kernel
theorem dX12_compare_36 : decode cX12_compare 36 = .ok (.aload_n 0, 1) := by decide +kernel
theorem dX12_compare_37 : decode cX12_compare 37 = .ok (.invokevirtual 203, 3) := by decide +kernel
theorem dX12_compare_40 : decode cX12_compare 40 = .ok (.aload_n 0, 1) := by decide +kernel
theorem dX12_compare_41 : decode cX12_compare 41 = .ok (.getfield 13, 3) := by decide +kernel
theorem dX12_compare_44 : decode cX12_compare 44 = .ok (.iconst 2, 1) := by decide +kernel
theorem dX12_compare_45 : decode cX12_compare 45 = .ok (.iload_n 3, 1) := by decide +kernel
theorem dX12_compare_46 : decode cX12_compare 46 = .ok (.iastore, 1) := by decide +kernel
theorem dX12_compare_47 : decode cX12_compare 47 = .ok (.aload_n 0, 1) := by decide +kernel
theorem dX12_compare_48 : decode cX12_compare 48 = .ok (.getfield 107, 3) := by decide +kernel
theorem dX12_compare_51 : decode cX12_compare 51 = .ok (.iload_n 2, 1) := by decide +kernel
theorem dX12_compare_52 : decode cX12_compare 52 = .ok (.iaload, 1) := by decide +kernel
theorem dX12_compare_53 : decode cX12_compare 53 = .ok (.ireturn, 1) := by decide +kernel
set_option maxRecDepth 100000 in
theorem okm_X12_compare : okL RX12 cX12_compare 4 (some .int) "compare" pcX12_compare opX12_compare pcX12_compare := by
  unfold opX12_compare
  refine okL_cons (ok_aload_n rfl dX12_compare_0) rfl ?_
  refine okL_cons (ok_iconst rfl dX12_compare_1) rfl ?_
  refine okL_cons (ok_putI kw_717 cf_X12 rfl rfl (by decide) rfl dX12_compare_2) rfl ?_
  refine okL_cons (ok_aload_n rfl dX12_compare_5) rfl ?_
  refine okL_cons (ok_iload_n rfl dX12_compare_6) rfl ?_
  refine okL_cons (ok_invV (M' := 222) kw_901 kw_902 kw_903 kw_711 kw_904 cf_X12 rfl (by decide +kernel) dX12_compare_7) rfl ?_
  refine okL_cons (ok_if_eq rfl dX12_compare_10) rfl ?_
  refine okL_cons (ok_iload_n rfl dX12_compare_13) rfl ?_
  refine okL_cons (ok_invS (M' := 178) kw_734 kw_735 kw_711 kw_736 rfl (by decide +kernel) dX12_compare_14) rfl ?_
  refine okL_cons (ok_if_ne rfl dX12_compare_17) rfl ?_
  refine okL_cons (ok_iconst rfl dX12_compare_20) rfl ?_
  refine okL_cons (ok_ireturn rfl dX12_compare_21) rfl ?_
  refine okL_cons (ok_aload_n rfl dX12_compare_22) rfl ?_
  refine okL_cons (ok_getP kw_654 cf_X12 rfl rfl (by decide) dX12_compare_23) rfl ?_
  refine okL_cons (ok_iconst rfl dX12_compare_26) rfl ?_
  refine okL_cons (ok_iaload dX12_compare_27) rfl ?_
  refine okL_cons (ok_istore_n rfl dX12_compare_28) rfl ?_
  refine okL_cons (ok_aload_n rfl dX12_compare_29) rfl ?_
  refine okL_cons (ok_getP kw_654 cf_X12 rfl rfl (by decide) dX12_compare_30) rfl ?_
  refine okL_cons (ok_iconst rfl dX12_compare_33) rfl ?_
  refine okL_cons (ok_iload_n rfl dX12_compare_34) rfl ?_
  refine okL_cons (ok_iastore dX12_compare_35) rfl ?_
  refine okL_cons (ok_aload_n rfl dX12_compare_36) rfl ?_
  refine okL_cons (ok_invV (M' := 230) kw_753 kw_754 kw_755 kw_711 kw_756 cf_X12 rfl (by decide +kernel) dX12_compare_37) rfl ?_
  refine okL_cons (ok_aload_n rfl dX12_compare_40) rfl ?_
  refine okL_cons (ok_getP kw_654 cf_X12 rfl rfl (by decide) dX12_compare_41) rfl ?_
  refine okL_cons (ok_iconst rfl dX12_compare_44) rfl ?_
  refine okL_cons (ok_iload_n rfl dX12_compare_45) rfl ?_
  refine okL_cons (ok_iastore dX12_compare_46) rfl ?_
  refine okL_cons (ok_aload_n rfl dX12_compare_47) rfl ?_
  refine okL_cons (ok_getP kw_689 cf_X12 rfl rfl (by decide) dX12_compare_48) rfl ?_
  refine okL_cons (ok_iload_n rfl dX12_compare_51) rfl ?_
  refine okL_cons (ok_iaload dX12_compare_52) rfl ?_
  exact okL_one (ok_ireturn rfl dX12_compare_53)
theorem dX12_seen_0 : decode cX12_seen 0 = .ok (.aload_n 0, 1) := by decide +kernel
theorem dX12_seen_1 : decode cX12_seen 1 = .ok (.iconst 0, 1) := by decide +kernel
theorem dX12_seen_2 : decode cX12_seen 2 = .ok (.putfield 152, 3) := by decide +kernel
theorem dX12_seen_5 : decode cX12_seen 5 = .ok (.iload_n 1, 1) := by decide +kernel
theorem dX12_seen_6 : decode cX12_seen 6 = .ok (.i2l, 1) := by decide +kernel
theorem dX12_seen_7 : decode cX12_seen 7 = .ok (.lconst 0, 1) := by decide +kernel
theorem dX12_seen_8 : decode cX12_seen 8 = .ok (.ldc2_w 485, 3) := by decide +kernel
theorem dX12_seen_11 : decode cX12_seen 11 = .ok (.invokestatic 172, 3) := by decide +kernel
theorem dX12_seen_14 : decode cX12_seen 14 = .ok (.ifCond .eq 10, 3) := by decide +kernel
theorem dX12_seen_17 : decode cX12_seen 17 = .ok (.iload_n 2, 1) := by decide +kernel
theorem dX12_seen_18 : decode cX12_seen 18 = .ok (.invokestatic 187, 3) := by decide +kernel
theorem dX12_seen_21 : decode cX12_seen 21 = .ok (.ifCond .ne 9, 3) := by decide +kernel
theorem dX12_seen_24 : decode cX12_seen 24 = .ok (.aload_n 0, 1) := by decide +kernel
theorem dX12_seen_25 : decode cX12_seen 25 = .ok (.iconst (-1), 1) := by decide +kernel
theorem dX12_seen_26 : decode cX12_seen 26 = .ok (.invokevirtual 161, 3) := by decide +kernel
theorem dX12_seen_29 : decode cX12_seen 29 = .ok (.ireturn, 1) := by decide +kernel
theorem dX12_seen_30 : decode cX12_seen 30 = .ok (.aload_n 0, 1) := by decide +kernel
theorem dX12_seen_31 : decode cX12_seen 31 = .ok (.getfield 13, 3) := by decide +kernel
theorem dX12_seen_34 : decode cX12_seen 34 = .ok (.iconst 0, 1) := by decide +kernel
theorem dX12_seen_35 : decode cX12_seen 35 = .ok (.iaload, 1) := by decide +kernel
theorem dX12_seen_36 : decode cX12_seen 36 = .ok (.istore_n 3, 1) := by decide +kernel
theorem dX12_seen_37 : decode cX12_seen 37 = .ok (.iload_n 3, 1) := by decide +kernel
theorem dX12_seen_38 : decode cX12_seen 38 = .ok (.bipush 6, 2) := by decide +kernel
theorem dX12_seen_40 : decode cX12_seen 40 = .ok (.if_icmp .ne 10, 3) := by decide +kernel
theorem dX12_seen_43 : decode cX12_seen 43 = .ok (.aload_n 0, 1) := by decide +kernel
theorem dX12_seen_44 : decode cX12_seen 44 = .ok (.bipush (-5), 2) := by decide +kernel
theorem dX12_seen_46 : decode cX12_seen 46 = .ok (.invokevirtual 161, 3) := by decide +kernel
theorem dX12_seen_49 : decode cX12_seen 49 = .ok (.ireturn, 1) := by decide +kernel
theorem dX12_seen_50 : decode cX12_seen 50 = .ok (.aload_n 0, 1) := by decide +kernel
theorem dX12_seen_51 : decode cX12_seen 51 = .ok (.getfield 13, 3) := by decide +kernel
theorem dX12_seen_54 : decode cX12_seen 54 = .ok (.bipush 56, 2) := by decide +kernel
theorem dX12_seen_56 : decode cX12_seen 56 = .ok (.iconst 2, 1) := by decide +kernel
theorem dX12_seen_57 : decode cX12_seen 57 = .ok (.iload_n 3, 1) := by decide +kernel
theorem dX12_seen_58 : decode cX12_seen 58 = .ok (.imul, 1) := by decide +kernel
theorem dX12_seen_59 : decode cX12_seen 59 = .ok (.iadd, 1) := by decide +kernel
theorem dX12_seen_60 : decode cX12_seen 60 = .ok (.iload_n 1, 1) := by decide +kernel
theorem dX12_seen_61 : decode cX12_seen 61 = .ok (.iastore, 1) := by decide +kernel
theorem dX12_seen_62 : decode cX12_seen 62 = .ok (.aload_n 0, 1) := by decide +kernel
theorem dX12_seen_63 : decode cX12_seen 63 = .ok (.getfield 13, 3) := by decide +kernel
theorem dX12_seen_66 : decode cX12_seen 66 = .ok (.bipush 56, 2) := by decide +kernel
theorem dX12_seen_68 : decode cX12_seen 68 = .ok (.iconst 2, 1) := by decide +kernel
theorem dX12_seen_69 : decode cX12_seen 69 = .ok (.iload_n 3, 1) := by decide +kernel
theorem dX12_seen_70 : decode cX12_seen 70 = .ok (.imul, 1) := by decide +kernel
theorem dX12_seen_71 : decode cX12_seen 71 = .ok (.iadd, 1) := by decide +kernel
theorem dX12_seen_72 : decode cX12_seen 72 = .ok (.iconst 1, 1) := by decide +kernel
theorem dX12_seen_73 : decode cX12_seen 73 = .ok (.iadd, 1) := by decide +kernel
theorem dX12_seen_74 : decode cX12_seen 74 = .ok (.iload_n 2, 1) := by decide +kernel
theorem dX12_seen_75 : decode cX12_seen 75 = .ok (.iastore, 1) := by decide +kernel
theorem dX12_seen_76 : decode cX12_seen 76 = .ok (.aload_n 0, 1) := by decide +kernel
theorem dX12_seen_77 : decode cX12_seen 77 = .ok (.getfield 13, 3) := by decide +kernel
theorem dX12_seen_80 : decode cX12_seen 80 = .ok (.iconst 0, 1) := by decide +kernel
theorem dX12_seen_81 : decode cX12_seen 81 = .ok (.dup2, 1) := by decide +kernel
theorem dX12_seen_82 : decode cX12_seen 82 = .ok (.iaload, 1) := by decide +kernel
theorem dX12_seen_83 : decode cX12_seen 83 = .ok (.iconst 1, 1) := by decide +kernel
theorem dX12_seen_84 : decode cX12_seen 84 = .ok (.iadd, 1) := by decide +kernel
theorem dX12_seen_85 : decode cX12_seen 85 = .ok (.iastore, 1) := by decide +kernel
theorem dX12_seen_86 : decode cX12_seen 86 = .ok (.aload_n 0, 1) := by decide +kernel
theorem dX12_seen_87 : decode cX12_seen 87 = .ok (.iload_n 3, 1) := by decide +kernel
theorem dX12_seen_88 : decode cX12_seen 88 = .ok (.iconst 1, 1) := by decide +kernel
theorem dX12_seen_89 : decode cX12_seen 89 = .ok (.iadd, 1) := by decide +kernel
theorem dX12_seen_90 : decode cX12_seen 90 = .ok (.invokevirtual 161, 3) := by decide +kernel
theorem dX12_seen_93 : decode cX12_seen 93 = .ok (.ireturn, 1) := by decide +kernel
set_option maxRecDepth 100000 in
theorem okm_X12_seen : okL RX12 cX12_seen 4 (some .int) "seen" pcX12_seen opX12_seen pcX12_seen := by
  unfold opX12_seen
  refine okL_cons (ok_aload_n rfl dX12_seen_0) rfl ?_
  refine okL_cons (ok_iconst rfl dX12_seen_1) rfl ?_
  refine okL_cons (ok_putI kw_717 cf_X12 rfl rfl (by decide) rfl dX12_seen_2) rfl ?_
  refine okL_cons (ok_iload_n rfl dX12_seen_5) rfl ?_
  refine okL_cons (ok_i2l dX12_seen_6) rfl ?_
  refine okL_cons (ok_lconst rfl dX12_seen_7) rfl ?_
  refine okL_cons (ok_ldc2 kw_1016 dX12_seen_8) rfl ?_
  refine okL_cons (ok_invS (M' := 165) kw_722 kw_723 kw_711 kw_724 rfl (by decide +kernel) dX12_seen_11) rfl ?_
  refine okL_cons (ok_if_eq rfl dX12_seen_14) rfl ?_
  refine okL_cons (ok_iload_n rfl dX12_seen_17) rfl ?_
  refine okL_cons (ok_invS (M' := 178) kw_734 kw_735 kw_711 kw_736 rfl (by decide +kernel) dX12_seen_18) rfl ?_
  refine okL_cons (ok_if_ne rfl dX12_seen_21) rfl ?_
  refine okL_cons (ok_aload_n rfl dX12_seen_24) rfl ?_
  refine okL_cons (ok_iconst rfl dX12_seen_25) rfl ?_
  refine okL_cons (ok_invV (M' := 169) kw_708 kw_709 kw_710 kw_711 kw_712 cf_X12 rfl (by decide +kernel) dX12_seen_26) rfl ?_
  refine okL_cons (ok_ireturn rfl dX12_seen_29) rfl ?_
  refine okL_cons (ok_aload_n rfl dX12_seen_30) rfl ?_
  refine okL_cons (ok_getP kw_654 cf_X12 rfl rfl (by decide) dX12_seen_31) rfl ?_
  refine okL_cons (ok_iconst rfl dX12_seen_34) rfl ?_
  refine okL_cons (ok_iaload dX12_seen_35) rfl ?_
  refine okL_cons (ok_istore_n rfl dX12_seen_36) rfl ?_
  refine okL_cons (ok_iload_n rfl dX12_seen_37) rfl ?_
  refine okL_cons (ok_bipush rfl dX12_seen_38) rfl ?_
  refine okL_cons (ok_icmp_ne rfl dX12_seen_40) rfl ?_
  refine okL_cons (ok_aload_n rfl dX12_seen_43) rfl ?_
  refine okL_cons (ok_bipush rfl dX12_seen_44) rfl ?_
  refine okL_cons (ok_invV (M' := 169) kw_708 kw_709 kw_710 kw_711 kw_712 cf_X12 rfl (by decide +kernel) dX12_seen_46) rfl ?_
  refine okL_cons (ok_ireturn rfl dX12_seen_49) rfl ?_
  refine okL_cons (ok_aload_n rfl dX12_seen_50) rfl ?_
  refine okL_cons (ok_getP kw_654 cf_X12 rfl rfl (by decide) dX12_seen_51) rfl ?_
  refine okL_cons (ok_bipush rfl dX12_seen_54) rfl ?_
  refine okL_cons (ok_iconst rfl dX12_seen_56) rfl ?_
  refine okL_cons (ok_iload_n rfl dX12_seen_57) rfl ?_
  refine okL_cons (ok_imul dX12_seen_58) rfl ?_
  refine okL_cons (ok_iadd dX12_seen_59) rfl ?_
  refine okL_cons (ok_iload_n rfl dX12_seen_60) rfl ?_
  refine okL_cons (ok_iastore dX12_seen_61) rfl ?_
  refine okL_cons (ok_aload_n rfl dX12_seen_62) rfl ?_
  refine okL_cons (ok_getP kw_654 cf_X12 rfl rfl (by decide) dX12_seen_63) rfl ?_
  refine okL_cons (ok_bipush rfl dX12_seen_66) rfl ?_
  refine okL_cons (ok_iconst rfl dX12_seen_68) rfl ?_
  refine okL_cons (ok_iload_n rfl dX12_seen_69) rfl ?_
  refine okL_cons (ok_imul dX12_seen_70) rfl ?_
  refine okL_cons (ok_iadd dX12_seen_71) rfl ?_
  refine okL_cons (ok_iconst rfl dX12_seen_72) rfl ?_
  refine okL_cons (ok_iadd dX12_seen_73) rfl ?_
  refine okL_cons (ok_iload_n rfl dX12_seen_74) rfl ?_
  refine okL_cons (ok_iastore dX12_seen_75) rfl ?_
  refine okL_cons (ok_aload_n rfl dX12_seen_76) rfl ?_
  refine okL_cons (ok_getP kw_654 cf_X12 rfl rfl (by decide) dX12_seen_77) rfl ?_
  refine okL_cons (ok_iconst rfl dX12_seen_80) rfl ?_
  refine okL_cons (ok_dup2 dX12_seen_81) rfl ?_
  refine okL_cons (ok_iaload dX12_seen_82) rfl ?_
  refine okL_cons (ok_iconst rfl dX12_seen_83) rfl ?_
  refine okL_cons (ok_iadd dX12_seen_84) rfl ?_
  refine okL_cons (ok_iastore dX12_seen_85) rfl ?_
  refine okL_cons (ok_aload_n rfl dX12_seen_86) rfl ?_
  refine okL_cons (ok_iload_n rfl dX12_seen_87) rfl ?_
  refine okL_cons (ok_iconst rfl dX12_seen_88) rfl ?_
  refine okL_cons (ok_iadd dX12_seen_89) rfl ?_
  refine okL_cons (ok_invV (M' := 169) kw_708 kw_709 kw_710 kw_711 kw_712 cf_X12 rfl (by decide +kernel) dX12_seen_90) rfl ?_
  exact okL_one (ok_ireturn rfl dX12_seen_93)
theorem dX12_forget_0 : decode cX12_forget 0 = .ok (.aload_n 0, 1) := by decide +kernel
theorem dX12_forget_1 : decode cX12_forget 1 = .ok (.iconst 0, 1) := by decide +kernel
theorem dX12_forget_2 : decode cX12_forget 2 = .ok (.putfield 152, 3) := by decide +kernel
theorem dX12_forget_5 : decode cX12_forget 5 = .ok (.aload_n 0, 1) := by decide +kernel
theorem dX12_forget_6 : decode cX12_forget 6 = .ok (.getfield 13, 3) := by decide +kernel
theorem dX12_forget_9 : decode cX12_forget 9 = .ok (.iconst 0, 1) := by decide +kernel
theorem dX12_forget_10 : decode cX12_forget 10 = .ok (.iaload, 1) := by decide +kernel
theorem dX12_forget_11 : decode cX12_forget 11 = .ok (.istore_n 1, 1) := by decide +kernel
theorem dX12_forget_12 : decode cX12_forget 12 = .ok (.aload_n 0, 1) := by decide +kernel
theorem dX12_forget_13 : decode cX12_forget 13 = .ok (.getfield 13, 3) := by decide +kernel
theorem dX12_forget_16 : decode cX12_forget 16 = .ok (.iconst 0, 1) := by decide +kernel
theorem dX12_forget_17 : decode cX12_forget 17 = .ok (.iconst 0, 1) := by decide +kernel
theorem dX12_forget_18 : decode cX12_forget 18 = .ok (.iastore, 1) := by decide +kernel
theorem dX12_forget_19 : decode cX12_forget 19 = .ok (.iload_n 1, 1) := by decide +kernel
theorem dX12_forget_20 : decode cX12_forget 20 = .ok (.ireturn, 1) := by decide +kernel
set_option maxRecDepth 100000 in
theorem okm_X12_forget : okL RX12 cX12_forget 2 (some .int) "forget" pcX12_forget opX12_forget pcX12_forget := by
  unfold opX12_forget
  refine okL_cons (ok_aload_n rfl dX12_forget_0) rfl ?_
  refine okL_cons (ok_iconst rfl dX12_forget_1) rfl ?_
  refine okL_cons (ok_putI kw_717 cf_X12 rfl rfl (by decide) rfl dX12_forget_2) rfl ?_
  refine okL_cons (ok_aload_n rfl dX12_forget_5) rfl ?_
  refine okL_cons (ok_getP kw_654 cf_X12 rfl rfl (by decide) dX12_forget_6) rfl ?_
  refine okL_cons (ok_iconst rfl dX12_forget_9) rfl ?_
  refine okL_cons (ok_iaload dX12_forget_10) rfl ?_
  refine okL_cons (ok_istore_n rfl dX12_forget_11) rfl ?_
  refine okL_cons (ok_aload_n rfl dX12_forget_12) rfl ?_
  refine okL_cons (ok_getP kw_654 cf_X12 rfl rfl (by decide) dX12_forget_13) rfl ?_
  refine okL_cons (ok_iconst rfl dX12_forget_16) rfl ?_
  refine okL_cons (ok_iconst rfl dX12_forget_17) rfl ?_
  refine okL_cons (ok_iastore dX12_forget_18) rfl ?_
  refine okL_cons (ok_iload_n rfl dX12_forget_19) rfl ?_
  exact okL_one (ok_ireturn rfl dX12_forget_20)
theorem dX12_layPlaces_0 : decode cX12_layPlaces 0 = .ok (.aload_n 0, 1) := by decide +kernel
theorem dX12_layPlaces_1 : decode cX12_layPlaces 1 = .ok (.bipush 16, 2) := by decide +kernel
theorem dX12_layPlaces_3 : decode cX12_layPlaces 3 = .ok (.invokevirtual 165, 3) := by decide +kernel
theorem dX12_layPlaces_6 : decode cX12_layPlaces 6 = .ok (.iconst 0, 1) := by decide +kernel
theorem dX12_layPlaces_7 : decode cX12_layPlaces 7 = .ok (.istore_n 1, 1) := by decide +kernel
theorem dX12_layPlaces_8 : decode cX12_layPlaces 8 = .ok (.iload_n 1, 1) := by decide +kernel
theorem dX12_layPlaces_9 : decode cX12_layPlaces 9 = .ok (.bipush 30, 2) := by decide +kernel
theorem dX12_layPlaces_11 : decode cX12_layPlaces 11 = .ok (.if_icmp .gt 48, 3) := by decide +kernel
theorem dX12_layPlaces_14 : decode cX12_layPlaces 14 = .ok (.iconst 0, 1) := by decide +kernel
theorem dX12_layPlaces_15 : decode cX12_layPlaces 15 = .ok (.istore_n 2, 1) := by decide +kernel
theorem dX12_layPlaces_16 : decode cX12_layPlaces 16 = .ok (.iload_n 2, 1) := by decide +kernel
theorem dX12_layPlaces_17 : decode cX12_layPlaces 17 = .ok (.bipush 8, 2) := by decide +kernel
theorem dX12_layPlaces_19 : decode cX12_layPlaces 19 = .ok (.if_icmp .ge 29, 3) := by decide +kernel
theorem dX12_layPlaces_22 : decode cX12_layPlaces 22 = .ok (.aload_n 0, 1) := by decide +kernel
theorem dX12_layPlaces_23 : decode cX12_layPlaces 23 = .ok (.getfield 119, 3) := by decide +kernel
theorem dX12_layPlaces_26 : decode cX12_layPlaces 26 = .ok (.bipush 8, 2) := by decide +kernel
theorem dX12_layPlaces_28 : decode cX12_layPlaces 28 = .ok (.iload_n 1, 1) := by decide +kernel
theorem dX12_layPlaces_29 : decode cX12_layPlaces 29 = .ok (.imul, 1) := by decide +kernel
theorem dX12_layPlaces_30 : decode cX12_layPlaces 30 = .ok (.iload_n 2, 1) := by decide +kernel
theorem dX12_layPlaces_31 : decode cX12_layPlaces 31 = .ok (.iadd, 1) := by decide +kernel
theorem dX12_layPlaces_32 : decode cX12_layPlaces 32 = .ok (.aload_n 0, 1) := by decide +kernel
theorem dX12_layPlaces_33 : decode cX12_layPlaces 33 = .ok (.getfield 13, 3) := by decide +kernel
theorem dX12_layPlaces_36 : decode cX12_layPlaces 36 = .ok (.bipush 40, 2) := by decide +kernel
theorem dX12_layPlaces_38 : decode cX12_layPlaces 38 = .ok (.iload_n 2, 1) := by decide +kernel
theorem dX12_layPlaces_39 : decode cX12_layPlaces 39 = .ok (.iadd, 1) := by decide +kernel
theorem dX12_layPlaces_40 : decode cX12_layPlaces 40 = .ok (.iaload, 1) := by decide +kernel
theorem dX12_layPlaces_41 : decode cX12_layPlaces 41 = .ok (.iastore, 1) := by decide +kernel
theorem dX12_layPlaces_42 : decode cX12_layPlaces 42 = .ok (.iinc 2 1, 3) := by decide +kernel
theorem dX12_layPlaces_45 : decode cX12_layPlaces 45 = .ok (.goto (-29), 3) := by decide +kernel
theorem dX12_layPlaces_48 : decode cX12_layPlaces 48 = .ok (.aload_n 0, 1) := by decide +kernel
theorem dX12_layPlaces_49 : decode cX12_layPlaces 49 = .ok (.invokevirtual 436, 3) := by decide +kernel
theorem dX12_layPlaces_52 : decode cX12_layPlaces 52 = .ok (.pop, 1) := by decide +kernel
theorem dX12_layPlaces_53 : decode cX12_layPlaces 53 = .ok (.iinc 1 1, 3) := by decide +kernel
theorem dX12_layPlaces_56 : decode cX12_layPlaces 56 = .ok (.goto (-48), 3) := by decide +kernel
theorem dX12_layPlaces_59 : decode cX12_layPlaces 59 = .ok (.aload_n 0, 1) := by decide +kernel
theorem dX12_layPlaces_60 : decode cX12_layPlaces 60 = .ok (.bipush 16, 2) := by decide +kernel
theorem dX12_layPlaces_62 : decode cX12_layPlaces 62 = .ok (.invokevirtual 169, 3) := by decide +kernel
theorem dX12_layPlaces_65 : decode cX12_layPlaces 65 = .ok (.return_, 1) := by decide +kernel
set_option maxRecDepth 100000 in
theorem okm_X12_layPlaces : okL RX12 cX12_layPlaces 3 none "layPlaces" pcX12_layPlaces opX12_layPlaces pcX12_layPlaces := by
  unfold opX12_layPlaces
  refine okL_cons (ok_aload_n rfl dX12_layPlaces_0) rfl ?_
  refine okL_cons (ok_bipush rfl dX12_layPlaces_1) rfl ?_
  refine okL_cons (ok_invV (M' := 172) kw_713 kw_714 kw_715 kw_711 kw_716 cf_X12 rfl (by decide +kernel) dX12_layPlaces_3) rfl ?_
  refine okL_cons (ok_iconst rfl dX12_layPlaces_6) rfl ?_
  refine okL_cons (ok_istore_n rfl dX12_layPlaces_7) rfl ?_
  refine okL_cons (ok_iload_n rfl dX12_layPlaces_8) rfl ?_
  refine okL_cons (ok_bipush rfl dX12_layPlaces_9) rfl ?_
  refine okL_cons (ok_icmp_gt rfl dX12_layPlaces_11) rfl ?_
  refine okL_cons (ok_iconst rfl dX12_layPlaces_14) rfl ?_
  refine okL_cons (ok_istore_n rfl dX12_layPlaces_15) rfl ?_
  refine okL_cons (ok_iload_n rfl dX12_layPlaces_16) rfl ?_
  refine okL_cons (ok_bipush rfl dX12_layPlaces_17) rfl ?_
  refine okL_cons (ok_icmp_ge rfl dX12_layPlaces_19) rfl ?_
  refine okL_cons (ok_aload_n rfl dX12_layPlaces_22) rfl ?_
  refine okL_cons (ok_getP kw_693 cf_X12 rfl rfl (by decide) dX12_layPlaces_23) rfl ?_
  refine okL_cons (ok_bipush rfl dX12_layPlaces_26) rfl ?_
  refine okL_cons (ok_iload_n rfl dX12_layPlaces_28) rfl ?_
  refine okL_cons (ok_imul dX12_layPlaces_29) rfl ?_
  refine okL_cons (ok_iload_n rfl dX12_layPlaces_30) rfl ?_
  refine okL_cons (ok_iadd dX12_layPlaces_31) rfl ?_
  refine okL_cons (ok_aload_n rfl dX12_layPlaces_32) rfl ?_
  refine okL_cons (ok_getP kw_654 cf_X12 rfl rfl (by decide) dX12_layPlaces_33) rfl ?_
  refine okL_cons (ok_bipush rfl dX12_layPlaces_36) rfl ?_
  refine okL_cons (ok_iload_n rfl dX12_layPlaces_38) rfl ?_
  refine okL_cons (ok_iadd dX12_layPlaces_39) rfl ?_
  refine okL_cons (ok_iaload dX12_layPlaces_40) rfl ?_
  refine okL_cons (ok_iastore dX12_layPlaces_41) rfl ?_
  refine okL_cons (ok_iinc rfl dX12_layPlaces_42) rfl ?_
  refine okL_cons (ok_goto rfl dX12_layPlaces_45) rfl ?_
  refine okL_cons (ok_aload_n rfl dX12_layPlaces_48) rfl ?_
  refine okL_cons (ok_invV (M' := 238) kw_957 kw_958 kw_959 kw_711 kw_960 cf_X12 rfl (by decide +kernel) dX12_layPlaces_49) rfl ?_
  refine okL_cons (ok_pop dX12_layPlaces_52) rfl ?_
  refine okL_cons (ok_iinc rfl dX12_layPlaces_53) rfl ?_
  refine okL_cons (ok_goto rfl dX12_layPlaces_56) rfl ?_
  refine okL_cons (ok_aload_n rfl dX12_layPlaces_59) rfl ?_
  refine okL_cons (ok_bipush rfl dX12_layPlaces_60) rfl ?_
  refine okL_cons (ok_invV (M' := 173) kw_718 kw_719 kw_720 kw_711 kw_721 cf_X12 rfl (by decide +kernel) dX12_layPlaces_62) rfl ?_
  exact okL_one (ok_return rfl dX12_layPlaces_65)
theorem dX12_thatCanBe_0 : decode cX12_thatCanBe 0 = .ok (.iconst 0, 1) := by decide +kernel
theorem dX12_thatCanBe_1 : decode cX12_thatCanBe 1 = .ok (.istore_n 1, 1) := by decide +kernel
theorem dX12_thatCanBe_2 : decode cX12_thatCanBe 2 = .ok (.iconst 0, 1) := by decide +kernel
theorem dX12_thatCanBe_3 : decode cX12_thatCanBe 3 = .ok (.istore_n 2, 1) := by decide +kernel
theorem dX12_thatCanBe_4 : decode cX12_thatCanBe 4 = .ok (.iload_n 2, 1) := by decide +kernel
theorem dX12_thatCanBe_5 : decode cX12_thatCanBe 5 = .ok (.bipush 8, 2) := by decide +kernel
theorem dX12_thatCanBe_7 : decode cX12_thatCanBe 7 = .ok (.if_icmp .ge 110, 3) := by decide +kernel
theorem dX12_thatCanBe_10 : decode cX12_thatCanBe 10 = .ok (.aload_n 0, 1) := by decide +kernel
theorem dX12_thatCanBe_11 : decode cX12_thatCanBe 11 = .ok (.getfield 13, 3) := by decide +kernel
theorem dX12_thatCanBe_14 : decode cX12_thatCanBe 14 = .ok (.bipush 32, 2) := by decide +kernel
theorem dX12_thatCanBe_16 : decode cX12_thatCanBe 16 = .ok (.iload_n 2, 1) := by decide +kernel
theorem dX12_thatCanBe_17 : decode cX12_thatCanBe 17 = .ok (.iadd, 1) := by decide +kernel
theorem dX12_thatCanBe_18 : decode cX12_thatCanBe 18 = .ok (.iaload, 1) := by decide +kernel
theorem dX12_thatCanBe_19 : decode cX12_thatCanBe 19 = .ok (.ifCond .eq 7, 3) := by decide +kernel
theorem dX12_thatCanBe_22 : decode cX12_thatCanBe 22 = .ok (.iconst 1, 1) := by decide +kernel
theorem dX12_thatCanBe_23 : decode cX12_thatCanBe 23 = .ok (.goto 4, 3) := by decide +kernel
theorem dX12_thatCanBe_26 : decode cX12_thatCanBe 26 = .ok (.iconst 0, 1) := by decide +kernel
theorem dX12_thatCanBe_27 : decode cX12_thatCanBe 27 = .ok (.istore_n 3, 1) := by decide +kernel
theorem dX12_thatCanBe_28 : decode cX12_thatCanBe 28 = .ok (.iconst 0, 1) := by decide +kernel
theorem dX12_thatCanBe_29 : decode cX12_thatCanBe 29 = .ok (.istore 4, 2) := by decide +kernel
theorem dX12_thatCanBe_31 : decode cX12_thatCanBe 31 = .ok (.iload 4, 2) := by decide +kernel
theorem dX12_thatCanBe_33 : decode cX12_thatCanBe 33 = .ok (.aload_n 0, 1) := by decide +kernel
theorem dX12_thatCanBe_34 : decode cX12_thatCanBe 34 = .ok (.getfield 13, 3) := by decide +kernel
theorem dX12_thatCanBe_37 : decode cX12_thatCanBe 37 = .ok (.iconst 0, 1) := by decide +kernel
theorem dX12_thatCanBe_38 : decode cX12_thatCanBe 38 = .ok (.iaload, 1) := by decide +kernel
theorem dX12_thatCanBe_39 : decode cX12_thatCanBe 39 = .ok (.if_icmp .ge 58, 3) := by decide +kernel
theorem dX12_thatCanBe_42 : decode cX12_thatCanBe 42 = .ok (.iload_n 3, 1) := by decide +kernel
theorem dX12_thatCanBe_43 : decode cX12_thatCanBe 43 = .ok (.ifCond .eq 46, 3) := by decide +kernel
theorem dX12_thatCanBe_46 : decode cX12_thatCanBe 46 = .ok (.aload_n 0, 1) := by decide +kernel
theorem dX12_thatCanBe_47 : decode cX12_thatCanBe 47 = .ok (.getfield 119, 3) := by decide +kernel
theorem dX12_thatCanBe_50 : decode cX12_thatCanBe 50 = .ok (.bipush 8, 2) := by decide +kernel
theorem dX12_thatCanBe_52 : decode cX12_thatCanBe 52 = .ok (.aload_n 0, 1) := by decide +kernel
theorem dX12_thatCanBe_53 : decode cX12_thatCanBe 53 = .ok (.getfield 13, 3) := by decide +kernel
theorem dX12_thatCanBe_56 : decode cX12_thatCanBe 56 = .ok (.bipush 56, 2) := by decide +kernel
theorem dX12_thatCanBe_58 : decode cX12_thatCanBe 58 = .ok (.iconst 2, 1) := by decide +kernel
theorem dX12_thatCanBe_59 : decode cX12_thatCanBe 59 = .ok (.iload 4, 2) := by decide +kernel
theorem dX12_thatCanBe_61 : decode cX12_thatCanBe 61 = .ok (.imul, 1) := by decide +kernel
theorem dX12_thatCanBe_62 : decode cX12_thatCanBe 62 = .ok (.iadd, 1) := by decide +kernel
theorem dX12_thatCanBe_63 : decode cX12_thatCanBe 63 = .ok (.iaload, 1) := by decide +kernel
theorem dX12_thatCanBe_64 : decode cX12_thatCanBe 64 = .ok (.imul, 1) := by decide +kernel
theorem dX12_thatCanBe_65 : decode cX12_thatCanBe 65 = .ok (.iload_n 2, 1) := by decide +kernel
theorem dX12_thatCanBe_66 : decode cX12_thatCanBe 66 = .ok (.iadd, 1) := by decide +kernel
theorem dX12_thatCanBe_67 : decode cX12_thatCanBe 67 = .ok (.iaload, 1) := by decide +kernel
theorem dX12_thatCanBe_68 : decode cX12_thatCanBe 68 = .ok (.aload_n 0, 1) := by decide +kernel
theorem dX12_thatCanBe_69 : decode cX12_thatCanBe 69 = .ok (.getfield 13, 3) := by decide +kernel
theorem dX12_thatCanBe_72 : decode cX12_thatCanBe 72 = .ok (.bipush 56, 2) := by decide +kernel
theorem dX12_thatCanBe_74 : decode cX12_thatCanBe 74 = .ok (.iconst 2, 1) := by decide +kernel
theorem dX12_thatCanBe_75 : decode cX12_thatCanBe 75 = .ok (.iload 4, 2) := by decide +kernel
theorem dX12_thatCanBe_77 : decode cX12_thatCanBe 77 = .ok (.imul, 1) := by decide +kernel
theorem dX12_thatCanBe_78 : decode cX12_thatCanBe 78 = .ok (.iadd, 1) := by decide +kernel
theorem dX12_thatCanBe_79 : decode cX12_thatCanBe 79 = .ok (.iconst 1, 1) := by decide +kernel
theorem dX12_thatCanBe_80 : decode cX12_thatCanBe 80 = .ok (.iadd, 1) := by decide +kernel
theorem dX12_thatCanBe_81 : decode cX12_thatCanBe 81 = .ok (.iaload, 1) := by decide +kernel
theorem dX12_thatCanBe_82 : decode cX12_thatCanBe 82 = .ok (.if_icmp .ne 7, 3) := by decide +kernel
theorem dX12_thatCanBe_85 : decode cX12_thatCanBe 85 = .ok (.iconst 1, 1) := by decide +kernel
theorem dX12_thatCanBe_86 : decode cX12_thatCanBe 86 = .ok (.goto 4, 3) := by decide +kernel
theorem dX12_thatCanBe_89 : decode cX12_thatCanBe 89 = .ok (.iconst 0, 1) := by decide +kernel
theorem dX12_thatCanBe_90 : decode cX12_thatCanBe 90 = .ok (.istore_n 3, 1) := by decide +kernel
theorem dX12_thatCanBe_91 : decode cX12_thatCanBe 91 = .ok (.iinc 4 1, 3) := by decide +kernel
theorem dX12_thatCanBe_94 : decode cX12_thatCanBe 94 = .ok (.goto (-63), 3) := by decide +kernel
theorem dX12_thatCanBe_97 : decode cX12_thatCanBe 97 = .ok (.iload_n 1, 1) := by decide +kernel
theorem dX12_thatCanBe_98 : decode cX12_thatCanBe 98 = .ok (.iload_n 3, 1) := by decide +kernel
theorem dX12_thatCanBe_99 : decode cX12_thatCanBe 99 = .ok (.ifCond .eq 9, 3) := by decide +kernel
theorem dX12_thatCanBe_102 : decode cX12_thatCanBe 102 = .ok (.iconst 1, 1) := by decide +kernel
theorem dX12_thatCanBe_103 : decode cX12_thatCanBe 103 = .ok (.iload_n 2, 1) := by decide +kernel
theorem dX12_thatCanBe_104 : decode cX12_thatCanBe 104 = .ok (.ishl, 1) := by decide +kernel
theorem dX12_thatCanBe_105 : decode cX12_thatCanBe 105 = .ok (.goto 4, 3) := by decide +kernel
theorem dX12_thatCanBe_108 : decode cX12_thatCanBe 108 = .ok (.iconst 0, 1) := by decide +kernel
theorem dX12_thatCanBe_109 : decode cX12_thatCanBe 109 = .ok (.ior, 1) := by decide +kernel
theorem dX12_thatCanBe_110 : decode cX12_thatCanBe 110 = .ok (.istore_n 1, 1) := by decide +kernel
theorem dX12_thatCanBe_111 : decode cX12_thatCanBe 111 = .ok (.iinc 2 1, 3) := by decide +kernel
theorem dX12_thatCanBe_114 : decode cX12_thatCanBe 114 = .ok (.goto (-110), 3) := by decide +kernel
theorem dX12_thatCanBe_117 : decode cX12_thatCanBe 117 = .ok (.iload_n 1, 1) := by decide +kernel
theorem dX12_thatCanBe_118 : decode cX12_thatCanBe 118 = .ok (.ireturn, 1) := by decide +kernel
set_option maxRecDepth 100000 in
theorem okm_X12_thatCanBe : okL RX12 cX12_thatCanBe 5 (some .int) "thatCanBe" pcX12_thatCanBe opX12_thatCanBe pcX12_thatCanBe := by
  unfold opX12_thatCanBe
  refine okL_cons (ok_iconst rfl dX12_thatCanBe_0) rfl ?_
  refine okL_cons (ok_istore_n rfl dX12_thatCanBe_1) rfl ?_
  refine okL_cons (ok_iconst rfl dX12_thatCanBe_2) rfl ?_
  refine okL_cons (ok_istore_n rfl dX12_thatCanBe_3) rfl ?_
  refine okL_cons (ok_iload_n rfl dX12_thatCanBe_4) rfl ?_
  refine okL_cons (ok_bipush rfl dX12_thatCanBe_5) rfl ?_
  refine okL_cons (ok_icmp_ge rfl dX12_thatCanBe_7) rfl ?_
  refine okL_cons (ok_aload_n rfl dX12_thatCanBe_10) rfl ?_
  refine okL_cons (ok_getP kw_654 cf_X12 rfl rfl (by decide) dX12_thatCanBe_11) rfl ?_
  refine okL_cons (ok_bipush rfl dX12_thatCanBe_14) rfl ?_
  refine okL_cons (ok_iload_n rfl dX12_thatCanBe_16) rfl ?_
  refine okL_cons (ok_iadd dX12_thatCanBe_17) rfl ?_
  refine okL_cons (ok_iaload dX12_thatCanBe_18) rfl ?_
  refine okL_cons (ok_if_eq rfl dX12_thatCanBe_19) rfl ?_
  refine okL_cons (ok_iconst rfl dX12_thatCanBe_22) rfl ?_
  refine okL_cons (ok_goto rfl dX12_thatCanBe_23) rfl ?_
  refine okL_cons (ok_iconst rfl dX12_thatCanBe_26) rfl ?_
  refine okL_cons (ok_istore_n rfl dX12_thatCanBe_27) rfl ?_
  refine okL_cons (ok_iconst rfl dX12_thatCanBe_28) rfl ?_
  refine okL_cons (ok_istore dX12_thatCanBe_29) rfl ?_
  refine okL_cons (ok_iload dX12_thatCanBe_31) rfl ?_
  refine okL_cons (ok_aload_n rfl dX12_thatCanBe_33) rfl ?_
  refine okL_cons (ok_getP kw_654 cf_X12 rfl rfl (by decide) dX12_thatCanBe_34) rfl ?_
  refine okL_cons (ok_iconst rfl dX12_thatCanBe_37) rfl ?_
  refine okL_cons (ok_iaload dX12_thatCanBe_38) rfl ?_
  refine okL_cons (ok_icmp_ge rfl dX12_thatCanBe_39) rfl ?_
  refine okL_cons (ok_iload_n rfl dX12_thatCanBe_42) rfl ?_
  refine okL_cons (ok_if_eq rfl dX12_thatCanBe_43) rfl ?_
  refine okL_cons (ok_aload_n rfl dX12_thatCanBe_46) rfl ?_
  refine okL_cons (ok_getP kw_693 cf_X12 rfl rfl (by decide) dX12_thatCanBe_47) rfl ?_
  refine okL_cons (ok_bipush rfl dX12_thatCanBe_50) rfl ?_
  refine okL_cons (ok_aload_n rfl dX12_thatCanBe_52) rfl ?_
  refine okL_cons (ok_getP kw_654 cf_X12 rfl rfl (by decide) dX12_thatCanBe_53) rfl ?_
  refine okL_cons (ok_bipush rfl dX12_thatCanBe_56) rfl ?_
  refine okL_cons (ok_iconst rfl dX12_thatCanBe_58) rfl ?_
  refine okL_cons (ok_iload dX12_thatCanBe_59) rfl ?_
  refine okL_cons (ok_imul dX12_thatCanBe_61) rfl ?_
  refine okL_cons (ok_iadd dX12_thatCanBe_62) rfl ?_
  refine okL_cons (ok_iaload dX12_thatCanBe_63) rfl ?_
  refine okL_cons (ok_imul dX12_thatCanBe_64) rfl ?_
  refine okL_cons (ok_iload_n rfl dX12_thatCanBe_65) rfl ?_
  refine okL_cons (ok_iadd dX12_thatCanBe_66) rfl ?_
  refine okL_cons (ok_iaload dX12_thatCanBe_67) rfl ?_
  refine okL_cons (ok_aload_n rfl dX12_thatCanBe_68) rfl ?_
  refine okL_cons (ok_getP kw_654 cf_X12 rfl rfl (by decide) dX12_thatCanBe_69) rfl ?_
  refine okL_cons (ok_bipush rfl dX12_thatCanBe_72) rfl ?_
  refine okL_cons (ok_iconst rfl dX12_thatCanBe_74) rfl ?_
  refine okL_cons (ok_iload dX12_thatCanBe_75) rfl ?_
  refine okL_cons (ok_imul dX12_thatCanBe_77) rfl ?_
  refine okL_cons (ok_iadd dX12_thatCanBe_78) rfl ?_
  refine okL_cons (ok_iconst rfl dX12_thatCanBe_79) rfl ?_
  refine okL_cons (ok_iadd dX12_thatCanBe_80) rfl ?_
  refine okL_cons (ok_iaload dX12_thatCanBe_81) rfl ?_
  refine okL_cons (ok_icmp_ne rfl dX12_thatCanBe_82) rfl ?_
  refine okL_cons (ok_iconst rfl dX12_thatCanBe_85) rfl ?_
  refine okL_cons (ok_goto rfl dX12_thatCanBe_86) rfl ?_
  refine okL_cons (ok_iconst rfl dX12_thatCanBe_89) rfl ?_
  refine okL_cons (ok_istore_n rfl dX12_thatCanBe_90) rfl ?_
  refine okL_cons (ok_iinc rfl dX12_thatCanBe_91) rfl ?_
  refine okL_cons (ok_goto rfl dX12_thatCanBe_94) rfl ?_
  refine okL_cons (ok_iload_n rfl dX12_thatCanBe_97) rfl ?_
  refine okL_cons (ok_iload_n rfl dX12_thatCanBe_98) rfl ?_
  refine okL_cons (ok_if_eq rfl dX12_thatCanBe_99) rfl ?_
  refine okL_cons (ok_iconst rfl dX12_thatCanBe_102) rfl ?_
  refine okL_cons (ok_iload_n rfl dX12_thatCanBe_103) rfl ?_
  refine okL_cons (ok_ishl dX12_thatCanBe_104) rfl ?_
  refine okL_cons (ok_goto rfl dX12_thatCanBe_105) rfl ?_
  refine okL_cons (ok_iconst rfl dX12_thatCanBe_108) rfl ?_
  refine okL_cons (ok_ior dX12_thatCanBe_109) rfl ?_
  refine okL_cons (ok_istore_n rfl dX12_thatCanBe_110) rfl ?_
  refine okL_cons (ok_iinc rfl dX12_thatCanBe_111) rfl ?_
  refine okL_cons (ok_goto rfl dX12_thatCanBe_114) rfl ?_
  refine okL_cons (ok_iload_n rfl dX12_thatCanBe_117) rfl ?_
  exact okL_one (ok_ireturn rfl dX12_thatCanBe_118)
theorem dX12_canBe_0 : decode cX12_canBe 0 = .ok (.aload_n 0, 1) := by decide +kernel
theorem dX12_canBe_1 : decode cX12_canBe 1 = .ok (.iconst 0, 1) := by decide +kernel
theorem dX12_canBe_2 : decode cX12_canBe 2 = .ok (.putfield 152, 3) := by decide +kernel
theorem dX12_canBe_5 : decode cX12_canBe 5 = .ok (.aload_n 0, 1) := by decide +kernel
theorem dX12_canBe_6 : decode cX12_canBe 6 = .ok (.invokevirtual 487, 3) := by decide +kernel
theorem dX12_canBe_9 : decode cX12_canBe 9 = .ok (.aload_n 0, 1) := by decide +kernel
theorem dX12_canBe_10 : decode cX12_canBe 10 = .ok (.invokevirtual 490, 3) := by decide +kernel
theorem dX12_canBe_13 : decode cX12_canBe 13 = .ok (.ireturn, 1) := by decide +kernel
set_option maxRecDepth 100000 in
theorem okm_X12_canBe : okL RX12 cX12_canBe 1 (some .int) "canBe" pcX12_canBe opX12_canBe pcX12_canBe := by
  unfold opX12_canBe
  refine okL_cons (ok_aload_n rfl dX12_canBe_0) rfl ?_
  refine okL_cons (ok_iconst rfl dX12_canBe_1) rfl ?_
  refine okL_cons (ok_putI kw_717 cf_X12 rfl rfl (by decide) rfl dX12_canBe_2) rfl ?_
  refine okL_cons (ok_aload_n rfl dX12_canBe_5) rfl ?_
  refine okL_cons (ok_invV (M' := 267) kw_1017 kw_1018 kw_1019 kw_711 kw_1020 cf_X12 rfl (by decide +kernel) dX12_canBe_6) rfl ?_
  refine okL_cons (ok_aload_n rfl dX12_canBe_9) rfl ?_
  refine okL_cons (ok_invV (M' := 268) kw_1021 kw_1022 kw_1023 kw_711 kw_1024 cf_X12 rfl (by decide +kernel) dX12_canBe_10) rfl ?_
  exact okL_one (ok_ireturn rfl dX12_canBe_13)
theorem dX12_mostAlike_0 : decode cX12_mostAlike 0 = .ok (.iconst 0, 1) := by decide +kernel
theorem dX12_mostAlike_1 : decode cX12_mostAlike 1 = .ok (.istore_n 3, 1) := by decide +kernel
theorem dX12_mostAlike_2 : decode cX12_mostAlike 2 = .ok (.iconst 0, 1) := by decide +kernel
theorem dX12_mostAlike_3 : decode cX12_mostAlike 3 = .ok (.istore 4, 2) := by decide +kernel
theorem dX12_mostAlike_5 : decode cX12_mostAlike 5 = .ok (.iload 4, 2) := by decide +kernel
theorem dX12_mostAlike_7 : decode cX12_mostAlike 7 = .ok (.bipush 25, 2) := by decide +kernel
theorem dX12_mostAlike_9 : decode cX12_mostAlike 9 = .ok (.if_icmp .ge 77, 3) := by decide +kernel
theorem dX12_mostAlike_12 : decode cX12_mostAlike 12 = .ok (.iconst 0, 1) := by decide +kernel
theorem dX12_mostAlike_13 : decode cX12_mostAlike 13 = .ok (.istore 5, 2) := by decide +kernel
theorem dX12_mostAlike_15 : decode cX12_mostAlike 15 = .ok (.iconst 0, 1) := by decide +kernel
theorem dX12_mostAlike_16 : decode cX12_mostAlike 16 = .ok (.istore 6, 2) := by decide +kernel
theorem dX12_mostAlike_18 : decode cX12_mostAlike 18 = .ok (.iload 6, 2) := by decide +kernel
theorem dX12_mostAlike_20 : decode cX12_mostAlike 20 = .ok (.bipush 8, 2) := by decide +kernel
theorem dX12_mostAlike_22 : decode cX12_mostAlike 22 = .ok (.if_icmp .ge 45, 3) := by decide +kernel
theorem dX12_mostAlike_25 : decode cX12_mostAlike 25 = .ok (.iload 5, 2) := by decide +kernel
theorem dX12_mostAlike_27 : decode cX12_mostAlike 27 = .ok (.iload_n 1, 1) := by decide +kernel
theorem dX12_mostAlike_28 : decode cX12_mostAlike 28 = .ok (.iload 6, 2) := by decide +kernel
theorem dX12_mostAlike_30 : decode cX12_mostAlike 30 = .ok (.invokestatic 181, 3) := by decide +kernel
theorem dX12_mostAlike_33 : decode cX12_mostAlike 33 = .ok (.ifCond .eq 24, 3) := by decide +kernel
theorem dX12_mostAlike_36 : decode cX12_mostAlike 36 = .ok (.aload_n 0, 1) := by decide +kernel
theorem dX12_mostAlike_37 : decode cX12_mostAlike 37 = .ok (.getfield 119, 3) := by decide +kernel
theorem dX12_mostAlike_40 : decode cX12_mostAlike 40 = .ok (.bipush 8, 2) := by decide +kernel
theorem dX12_mostAlike_42 : decode cX12_mostAlike 42 = .ok (.iload_n 2, 1) := by decide +kernel
theorem dX12_mostAlike_43 : decode cX12_mostAlike 43 = .ok (.imul, 1) := by decide +kernel
theorem dX12_mostAlike_44 : decode cX12_mostAlike 44 = .ok (.iload 6, 2) := by decide +kernel
theorem dX12_mostAlike_46 : decode cX12_mostAlike 46 = .ok (.iadd, 1) := by decide +kernel
theorem dX12_mostAlike_47 : decode cX12_mostAlike 47 = .ok (.iaload, 1) := by decide +kernel
theorem dX12_mostAlike_48 : decode cX12_mostAlike 48 = .ok (.iload 4, 2) := by decide +kernel
theorem dX12_mostAlike_50 : decode cX12_mostAlike 50 = .ok (.if_icmp .ne 7, 3) := by decide +kernel
theorem dX12_mostAlike_53 : decode cX12_mostAlike 53 = .ok (.iconst 1, 1) := by decide +kernel
theorem dX12_mostAlike_54 : decode cX12_mostAlike 54 = .ok (.goto 4, 3) := by decide +kernel
theorem dX12_mostAlike_57 : decode cX12_mostAlike 57 = .ok (.iconst 0, 1) := by decide +kernel
theorem dX12_mostAlike_58 : decode cX12_mostAlike 58 = .ok (.iadd, 1) := by decide +kernel
theorem dX12_mostAlike_59 : decode cX12_mostAlike 59 = .ok (.istore 5, 2) := by decide +kernel
theorem dX12_mostAlike_61 : decode cX12_mostAlike 61 = .ok (.iinc 6 1, 3) := by decide +kernel
theorem dX12_mostAlike_64 : decode cX12_mostAlike 64 = .ok (.goto (-46), 3) := by decide +kernel
theorem dX12_mostAlike_67 : decode cX12_mostAlike 67 = .ok (.iload 5, 2) := by decide +kernel
theorem dX12_mostAlike_69 : decode cX12_mostAlike 69 = .ok (.iload_n 3, 1) := by decide +kernel
theorem dX12_mostAlike_70 : decode cX12_mostAlike 70 = .ok (.if_icmp .le 8, 3) := by decide +kernel
theorem dX12_mostAlike_73 : decode cX12_mostAlike 73 = .ok (.iload 5, 2) := by decide +kernel
theorem dX12_mostAlike_75 : decode cX12_mostAlike 75 = .ok (.goto 4, 3) := by decide +kernel
theorem dX12_mostAlike_78 : decode cX12_mostAlike 78 = .ok (.iload_n 3, 1) := by decide +kernel
theorem dX12_mostAlike_79 : decode cX12_mostAlike 79 = .ok (.istore_n 3, 1) := by decide +kernel
theorem dX12_mostAlike_80 : decode cX12_mostAlike 80 = .ok (.iinc 4 1, 3) := by decide +kernel
theorem dX12_mostAlike_83 : decode cX12_mostAlike 83 = .ok (.goto (-78), 3) := by decide +kernel
theorem dX12_mostAlike_86 : decode cX12_mostAlike 86 = .ok (.iload_n 3, 1) := by decide +kernel
theorem dX12_mostAlike_87 : decode cX12_mostAlike 87 = .ok (.ireturn, 1) := by decide +kernel
set_option maxRecDepth 100000 in
theorem okm_X12_mostAlike : okL RX12 cX12_mostAlike 7 (some .int) "mostAlike" pcX12_mostAlike opX12_mostAlike pcX12_mostAlike := by
  unfold opX12_mostAlike
  refine okL_cons (ok_iconst rfl dX12_mostAlike_0) rfl ?_
  refine okL_cons (ok_istore_n rfl dX12_mostAlike_1) rfl ?_
  refine okL_cons (ok_iconst rfl dX12_mostAlike_2) rfl ?_
  refine okL_cons (ok_istore dX12_mostAlike_3) rfl ?_
  refine okL_cons (ok_iload dX12_mostAlike_5) rfl ?_
  refine okL_cons (ok_bipush rfl dX12_mostAlike_7) rfl ?_
  refine okL_cons (ok_icmp_ge rfl dX12_mostAlike_9) rfl ?_
  refine okL_cons (ok_iconst rfl dX12_mostAlike_12) rfl ?_
  refine okL_cons (ok_istore dX12_mostAlike_13) rfl ?_
  refine okL_cons (ok_iconst rfl dX12_mostAlike_15) rfl ?_
  refine okL_cons (ok_istore dX12_mostAlike_16) rfl ?_
  refine okL_cons (ok_iload dX12_mostAlike_18) rfl ?_
  refine okL_cons (ok_bipush rfl dX12_mostAlike_20) rfl ?_
  refine okL_cons (ok_icmp_ge rfl dX12_mostAlike_22) rfl ?_
  refine okL_cons (ok_iload dX12_mostAlike_25) rfl ?_
  refine okL_cons (ok_iload_n rfl dX12_mostAlike_27) rfl ?_
  refine okL_cons (ok_iload dX12_mostAlike_28) rfl ?_
  refine okL_cons (ok_invS (M' := 166) kw_730 kw_731 kw_711 kw_732 rfl (by decide +kernel) dX12_mostAlike_30) rfl ?_
  refine okL_cons (ok_if_eq rfl dX12_mostAlike_33) rfl ?_
  refine okL_cons (ok_aload_n rfl dX12_mostAlike_36) rfl ?_
  refine okL_cons (ok_getP kw_693 cf_X12 rfl rfl (by decide) dX12_mostAlike_37) rfl ?_
  refine okL_cons (ok_bipush rfl dX12_mostAlike_40) rfl ?_
  refine okL_cons (ok_iload_n rfl dX12_mostAlike_42) rfl ?_
  refine okL_cons (ok_imul dX12_mostAlike_43) rfl ?_
  refine okL_cons (ok_iload dX12_mostAlike_44) rfl ?_
  refine okL_cons (ok_iadd dX12_mostAlike_46) rfl ?_
  refine okL_cons (ok_iaload dX12_mostAlike_47) rfl ?_
  refine okL_cons (ok_iload dX12_mostAlike_48) rfl ?_
  refine okL_cons (ok_icmp_ne rfl dX12_mostAlike_50) rfl ?_
  refine okL_cons (ok_iconst rfl dX12_mostAlike_53) rfl ?_
  refine okL_cons (ok_goto rfl dX12_mostAlike_54) rfl ?_
  refine okL_cons (ok_iconst rfl dX12_mostAlike_57) rfl ?_
  refine okL_cons (ok_iadd dX12_mostAlike_58) rfl ?_
  refine okL_cons (ok_istore dX12_mostAlike_59) rfl ?_
  refine okL_cons (ok_iinc rfl dX12_mostAlike_61) rfl ?_
  refine okL_cons (ok_goto rfl dX12_mostAlike_64) rfl ?_
  refine okL_cons (ok_iload dX12_mostAlike_67) rfl ?_
  refine okL_cons (ok_iload_n rfl dX12_mostAlike_69) rfl ?_
  refine okL_cons (ok_icmp_le rfl dX12_mostAlike_70) rfl ?_
  refine okL_cons (ok_iload dX12_mostAlike_73) rfl ?_
  refine okL_cons (ok_goto rfl dX12_mostAlike_75) rfl ?_
  refine okL_cons (ok_iload_n rfl dX12_mostAlike_78) rfl ?_
  refine okL_cons (ok_istore_n rfl dX12_mostAlike_79) rfl ?_
  refine okL_cons (ok_iinc rfl dX12_mostAlike_80) rfl ?_
  refine okL_cons (ok_goto rfl dX12_mostAlike_83) rfl ?_
  refine okL_cons (ok_iload_n rfl dX12_mostAlike_86) rfl ?_
  exact okL_one (ok_ireturn rfl dX12_mostAlike_87)
theorem dX12_look_0 : decode cX12_look 0 = .ok (.aload_n 0, 1) := by decide +kernel
theorem dX12_look_1 : decode cX12_look 1 = .ok (.iconst 0, 1) := by decide +kernel
theorem dX12_look_2 : decode cX12_look 2 = .ok (.putfield 152, 3) := by decide +kernel
theorem dX12_look_5 : decode cX12_look 5 = .ok (.aload_n 0, 1) := by decide +kernel
theorem dX12_look_6 : decode cX12_look 6 = .ok (.invokevirtual 487, 3) := by decide +kernel
theorem dX12_look_9 : decode cX12_look 9 = .ok (.aload_n 0, 1) := by decide +kernel
theorem dX12_look_10 : decode cX12_look 10 = .ok (.invokevirtual 490, 3) := by decide +kernel
theorem dX12_look_13 : decode cX12_look 13 = .ok (.istore_n 2, 1) := by decide +kernel
theorem dX12_look_14 : decode cX12_look 14 = .ok (.iload_n 1, 1) := by decide +kernel
theorem dX12_look_15 : decode cX12_look 15 = .ok (.i2l, 1) := by decide +kernel
theorem dX12_look_16 : decode cX12_look 16 = .ok (.lconst 0, 1) := by decide +kernel
theorem dX12_look_17 : decode cX12_look 17 = .ok (.lconst 1, 1) := by decide +kernel
theorem dX12_look_18 : decode cX12_look 18 = .ok (.invokestatic 172, 3) := by decide +kernel
theorem dX12_look_21 : decode cX12_look 21 = .ok (.ifCond .eq 7, 3) := by decide +kernel
theorem dX12_look_24 : decode cX12_look 24 = .ok (.iload_n 2, 1) := by decide +kernel
theorem dX12_look_25 : decode cX12_look 25 = .ok (.ifCond .ne 5, 3) := by decide +kernel
theorem dX12_look_28 : decode cX12_look 28 = .ok (.iconst (-1), 1) := by decide +kernel
theorem dX12_look_29 : decode cX12_look 29 = .ok (.ireturn, 1) := by decide +kernel
theorem dX12_look_30 : decode cX12_look 30 = .ok (.ldc_w 493, 3) := by decide +kernel
theorem dX12_look_33 : decode cX12_look 33 = .ok (.istore_n 3, 1) := by decide +kernel
theorem dX12_look_34 : decode cX12_look 34 = .ok (.iconst (-1), 1) := by decide +kernel
theorem dX12_look_35 : decode cX12_look 35 = .ok (.istore 4, 2) := by decide +kernel
theorem dX12_look_37 : decode cX12_look 37 = .ok (.iconst 0, 1) := by decide +kernel
theorem dX12_look_38 : decode cX12_look 38 = .ok (.istore 5, 2) := by decide +kernel
theorem dX12_look_40 : decode cX12_look 40 = .ok (.iload 5, 2) := by decide +kernel
theorem dX12_look_42 : decode cX12_look 42 = .ok (.bipush 30, 2) := by decide +kernel
theorem dX12_look_44 : decode cX12_look 44 = .ok (.if_icmp .gt 46, 3) := by decide +kernel
theorem dX12_look_47 : decode cX12_look 47 = .ok (.aload_n 0, 1) := by decide +kernel
theorem dX12_look_48 : decode cX12_look 48 = .ok (.iload_n 2, 1) := by decide +kernel
theorem dX12_look_49 : decode cX12_look 49 = .ok (.iload 5, 2) := by decide +kernel
theorem dX12_look_51 : decode cX12_look 51 = .ok (.invokevirtual 494, 3) := by decide +kernel
theorem dX12_look_54 : decode cX12_look 54 = .ok (.istore 6, 2) := by decide +kernel
theorem dX12_look_56 : decode cX12_look 56 = .ok (.iload 6, 2) := by decide +kernel
theorem dX12_look_58 : decode cX12_look 58 = .ok (.iload_n 3, 1) := by decide +kernel
theorem dX12_look_59 : decode cX12_look 59 = .ok (.if_icmp .ge 8, 3) := by decide +kernel
theorem dX12_look_62 : decode cX12_look 62 = .ok (.iload 5, 2) := by decide +kernel
theorem dX12_look_64 : decode cX12_look 64 = .ok (.goto 5, 3) := by decide +kernel
theorem dX12_look_67 : decode cX12_look 67 = .ok (.iload 4, 2) := by decide +kernel
theorem dX12_look_69 : decode cX12_look 69 = .ok (.istore 4, 2) := by decide +kernel
theorem dX12_look_71 : decode cX12_look 71 = .ok (.iload 6, 2) := by decide +kernel
theorem dX12_look_73 : decode cX12_look 73 = .ok (.iload_n 3, 1) := by decide +kernel
theorem dX12_look_74 : decode cX12_look 74 = .ok (.if_icmp .ge 8, 3) := by decide +kernel
theorem dX12_look_77 : decode cX12_look 77 = .ok (.iload 6, 2) := by decide +kernel
theorem dX12_look_79 : decode cX12_look 79 = .ok (.goto 4, 3) := by decide +kernel
theorem dX12_look_82 : decode cX12_look 82 = .ok (.iload_n 3, 1) := by decide +kernel
theorem dX12_look_83 : decode cX12_look 83 = .ok (.istore_n 3, 1) := by decide +kernel
theorem dX12_look_84 : decode cX12_look 84 = .ok (.iinc 5 1, 3) := by decide +kernel
theorem dX12_look_87 : decode cX12_look 87 = .ok (.goto (-47), 3) := by decide +kernel
theorem dX12_look_90 : decode cX12_look 90 = .ok (.iload_n 1, 1) := by decide +kernel
theorem dX12_look_91 : decode cX12_look 91 = .ok (.ifCond .ne 8, 3) := by decide +kernel
theorem dX12_look_94 : decode cX12_look 94 = .ok (.iload 4, 2) := by decide +kernel
theorem dX12_look_96 : decode cX12_look 96 = .ok (.goto 4, 3) := by decide +kernel
theorem dX12_look_99 : decode cX12_look 99 = .ok (.iload_n 3, 1) := by decide +kernel
theorem dX12_look_100 : decode cX12_look 100 = .ok (.ireturn, 1) := by decide +kernel
set_option maxRecDepth 100000 in
theorem okm_X12_look : okL RX12 cX12_look 7 (some .int) "look" pcX12_look opX12_look pcX12_look := by
  unfold opX12_look
  refine okL_cons (ok_aload_n rfl dX12_look_0) rfl ?_
  refine okL_cons (ok_iconst rfl dX12_look_1) rfl ?_
  refine okL_cons (ok_putI kw_717 cf_X12 rfl rfl (by decide) rfl dX12_look_2) rfl ?_
  refine okL_cons (ok_aload_n rfl dX12_look_5) rfl ?_
  refine okL_cons (ok_invV (M' := 267) kw_1017 kw_1018 kw_1019 kw_711 kw_1020 cf_X12 rfl (by decide +kernel) dX12_look_6) rfl ?_
  refine okL_cons (ok_aload_n rfl dX12_look_9) rfl ?_
  refine okL_cons (ok_invV (M' := 268) kw_1021 kw_1022 kw_1023 kw_711 kw_1024 cf_X12 rfl (by decide +kernel) dX12_look_10) rfl ?_
  refine okL_cons (ok_istore_n rfl dX12_look_13) rfl ?_
  refine okL_cons (ok_iload_n rfl dX12_look_14) rfl ?_
  refine okL_cons (ok_i2l dX12_look_15) rfl ?_
  refine okL_cons (ok_lconst rfl dX12_look_16) rfl ?_
  refine okL_cons (ok_lconst rfl dX12_look_17) rfl ?_
  refine okL_cons (ok_invS (M' := 165) kw_722 kw_723 kw_711 kw_724 rfl (by decide +kernel) dX12_look_18) rfl ?_
  refine okL_cons (ok_if_eq rfl dX12_look_21) rfl ?_
  refine okL_cons (ok_iload_n rfl dX12_look_24) rfl ?_
  refine okL_cons (ok_if_ne rfl dX12_look_25) rfl ?_
  refine okL_cons (ok_iconst rfl dX12_look_28) rfl ?_
  refine okL_cons (ok_ireturn rfl dX12_look_29) rfl ?_
  refine okL_cons (ok_ldc_w kw_1025 dX12_look_30) rfl ?_
  refine okL_cons (ok_istore_n rfl dX12_look_33) rfl ?_
  refine okL_cons (ok_iconst rfl dX12_look_34) rfl ?_
  refine okL_cons (ok_istore dX12_look_35) rfl ?_
  refine okL_cons (ok_iconst rfl dX12_look_37) rfl ?_
  refine okL_cons (ok_istore dX12_look_38) rfl ?_
  refine okL_cons (ok_iload dX12_look_40) rfl ?_
  refine okL_cons (ok_bipush rfl dX12_look_42) rfl ?_
  refine okL_cons (ok_icmp_gt rfl dX12_look_44) rfl ?_
  refine okL_cons (ok_aload_n rfl dX12_look_47) rfl ?_
  refine okL_cons (ok_iload_n rfl dX12_look_48) rfl ?_
  refine okL_cons (ok_iload dX12_look_49) rfl ?_
  refine okL_cons (ok_invV (M' := 270) kw_1026 kw_1027 kw_1028 kw_711 kw_1029 cf_X12 rfl (by decide +kernel) dX12_look_51) rfl ?_
  refine okL_cons (ok_istore dX12_look_54) rfl ?_
  refine okL_cons (ok_iload dX12_look_56) rfl ?_
  refine okL_cons (ok_iload_n rfl dX12_look_58) rfl ?_
  refine okL_cons (ok_icmp_ge rfl dX12_look_59) rfl ?_
  refine okL_cons (ok_iload dX12_look_62) rfl ?_
  refine okL_cons (ok_goto rfl dX12_look_64) rfl ?_
  refine okL_cons (ok_iload dX12_look_67) rfl ?_
  refine okL_cons (ok_istore dX12_look_69) rfl ?_
  refine okL_cons (ok_iload dX12_look_71) rfl ?_
  refine okL_cons (ok_iload_n rfl dX12_look_73) rfl ?_
  refine okL_cons (ok_icmp_ge rfl dX12_look_74) rfl ?_
  refine okL_cons (ok_iload dX12_look_77) rfl ?_
  refine okL_cons (ok_goto rfl dX12_look_79) rfl ?_
  refine okL_cons (ok_iload_n rfl dX12_look_82) rfl ?_
  refine okL_cons (ok_istore_n rfl dX12_look_83) rfl ?_
  refine okL_cons (ok_iinc rfl dX12_look_84) rfl ?_
  refine okL_cons (ok_goto rfl dX12_look_87) rfl ?_
  refine okL_cons (ok_iload_n rfl dX12_look_90) rfl ?_
  refine okL_cons (ok_if_ne rfl dX12_look_91) rfl ?_
  refine okL_cons (ok_iload dX12_look_94) rfl ?_
  refine okL_cons (ok_goto rfl dX12_look_96) rfl ?_
  refine okL_cons (ok_iload_n rfl dX12_look_99) rfl ?_
  exact okL_one (ok_ireturn rfl dX12_look_100)
theorem dX12_few_0 : decode cX12_few 0 = .ok (.aload_n 0, 1) := by decide +kernel
theorem dX12_few_1 : decode cX12_few 1 = .ok (.iconst 0, 1) := by decide +kernel
theorem dX12_few_2 : decode cX12_few 2 = .ok (.putfield 152, 3) := by decide +kernel
theorem dX12_few_5 : decode cX12_few 5 = .ok (.iload_n 1, 1) := by decide +kernel
theorem dX12_few_6 : decode cX12_few 6 = .ok (.i2l, 1) := by decide +kernel
theorem dX12_few_7 : decode cX12_few 7 = .ok (.lconst 1, 1) := by decide +kernel
theorem dX12_few_8 : decode cX12_few 8 = .ok (.ldc2_w 284, 3) := by decide +kernel
theorem dX12_few_11 : decode cX12_few 11 = .ok (.invokestatic 172, 3) := by decide +kernel
theorem dX12_few_14 : decode cX12_few 14 = .ok (.ifCond .eq 15, 3) := by decide +kernel
theorem dX12_few_17 : decode cX12_few 17 = .ok (.iload_n 2, 1) := by decide +kernel
theorem dX12_few_18 : decode cX12_few 18 = .ok (.i2l, 1) := by decide +kernel
theorem dX12_few_19 : decode cX12_few 19 = .ok (.lconst 0, 1) := by decide +kernel
theorem dX12_few_20 : decode cX12_few 20 = .ok (.ldc2_w 497, 3) := by decide +kernel
theorem dX12_few_23 : decode cX12_few 23 = .ok (.invokestatic 172, 3) := by decide +kernel
theorem dX12_few_26 : decode cX12_few 26 = .ok (.ifCond .ne 7, 3) := by decide +kernel
theorem dX12_few_29 : decode cX12_few 29 = .ok (.ldc2_w 262, 3) := by decide +kernel
theorem dX12_few_32 : decode cX12_few 32 = .ok (.lreturn, 1) := by decide +kernel
theorem dX12_few_33 : decode cX12_few 33 = .ok (.iconst 0, 1) := by decide +kernel
theorem dX12_few_34 : decode cX12_few 34 = .ok (.istore_n 3, 1) := by decide +kernel
theorem dX12_few_35 : decode cX12_few 35 = .ok (.iload_n 3, 1) := by decide +kernel
theorem dX12_few_36 : decode cX12_few 36 = .ok (.bipush 21, 2) := by decide +kernel
theorem dX12_few_38 : decode cX12_few 38 = .ok (.if_icmp .ge 26, 3) := by decide +kernel
theorem dX12_few_41 : decode cX12_few 41 = .ok (.aload_n 0, 1) := by decide +kernel
theorem dX12_few_42 : decode cX12_few 42 = .ok (.getfield 122, 3) := by decide +kernel
theorem dX12_few_45 : decode cX12_few 45 = .ok (.iload_n 3, 1) := by decide +kernel
theorem dX12_few_46 : decode cX12_few 46 = .ok (.iload_n 3, 1) := by decide +kernel
theorem dX12_few_47 : decode cX12_few 47 = .ok (.ifCond .ne 9, 3) := by decide +kernel
theorem dX12_few_50 : decode cX12_few 50 = .ok (.ldc2_w 499, 3) := by decide +kernel
theorem dX12_few_53 : decode cX12_few 53 = .ok (.goto 4, 3) := by decide +kernel
theorem dX12_few_56 : decode cX12_few 56 = .ok (.lconst 0, 1) := by decide +kernel
theorem dX12_few_57 : decode cX12_few 57 = .ok (.lastore, 1) := by decide +kernel
theorem dX12_few_58 : decode cX12_few 58 = .ok (.iinc 3 1, 3) := by decide +kernel
theorem dX12_few_61 : decode cX12_few 61 = .ok (.goto (-26), 3) := by decide +kernel
theorem dX12_few_64 : decode cX12_few 64 = .ok (.aload_n 0, 1) := by decide +kernel
theorem dX12_few_65 : decode cX12_few 65 = .ok (.getfield 13, 3) := by decide +kernel
theorem dX12_few_68 : decode cX12_few 68 = .ok (.iconst 5, 1) := by decide +kernel
theorem dX12_few_69 : decode cX12_few 69 = .ok (.iaload, 1) := by decide +kernel
theorem dX12_few_70 : decode cX12_few 70 = .ok (.istore_n 3, 1) := by decide +kernel
theorem dX12_few_71 : decode cX12_few 71 = .ok (.iconst 0, 1) := by decide +kernel
theorem dX12_few_72 : decode cX12_few 72 = .ok (.istore 4, 2) := by decide +kernel
theorem dX12_few_74 : decode cX12_few 74 = .ok (.iload 4, 2) := by decide +kernel
theorem dX12_few_76 : decode cX12_few 76 = .ok (.iload_n 2, 1) := by decide +kernel
theorem dX12_few_77 : decode cX12_few 77 = .ok (.if_icmp .ge 74, 3) := by decide +kernel
theorem dX12_few_80 : decode cX12_few 80 = .ok (.iload_n 1, 1) := by decide +kernel
theorem dX12_few_81 : decode cX12_few 81 = .ok (.iconst 1, 1) := by decide +kernel
theorem dX12_few_82 : decode cX12_few 82 = .ok (.isub, 1) := by decide +kernel
theorem dX12_few_83 : decode cX12_few 83 = .ok (.istore 5, 2) := by decide +kernel
theorem dX12_few_85 : decode cX12_few 85 = .ok (.iload 5, 2) := by decide +kernel
theorem dX12_few_87 : decode cX12_few 87 = .ok (.ifCond .lt 58, 3) := by decide +kernel
theorem dX12_few_90 : decode cX12_few 90 = .ok (.aload_n 0, 1) := by decide +kernel
theorem dX12_few_91 : decode cX12_few 91 = .ok (.getfield 122, 3) := by decide +kernel
theorem dX12_few_94 : decode cX12_few 94 = .ok (.iload 5, 2) := by decide +kernel
theorem dX12_few_96 : decode cX12_few 96 = .ok (.laload, 1) := by decide +kernel
theorem dX12_few_97 : decode cX12_few 97 = .ok (.lstore 6, 2) := by decide +kernel
theorem dX12_few_99 : decode cX12_few 99 = .ok (.aload_n 0, 1) := by decide +kernel
theorem dX12_few_100 : decode cX12_few 100 = .ok (.getfield 122, 3) := by decide +kernel
theorem dX12_few_103 : decode cX12_few 103 = .ok (.iload 5, 2) := by decide +kernel
theorem dX12_few_105 : decode cX12_few 105 = .ok (.lload 6, 2) := by decide +kernel
theorem dX12_few_107 : decode cX12_few 107 = .ok (.bipush 10, 2) := by decide +kernel
theorem dX12_few_109 : decode cX12_few 109 = .ok (.iload_n 3, 1) := by decide +kernel
theorem dX12_few_110 : decode cX12_few 110 = .ok (.isub, 1) := by decide +kernel
theorem dX12_few_111 : decode cX12_few 111 = .ok (.i2l, 1) := by decide +kernel
theorem dX12_few_112 : decode cX12_few 112 = .ok (.lmul, 1) := by decide +kernel
theorem dX12_few_113 : decode cX12_few 113 = .ok (.ldc2_w 215, 3) := by decide +kernel
theorem dX12_few_116 : decode cX12_few 116 = .ok (.ldiv, 1) := by decide +kernel
theorem dX12_few_117 : decode cX12_few 117 = .ok (.lastore, 1) := by decide +kernel
theorem dX12_few_118 : decode cX12_few 118 = .ok (.aload_n 0, 1) := by decide +kernel
theorem dX12_few_119 : decode cX12_few 119 = .ok (.getfield 122, 3) := by decide +kernel
theorem dX12_few_122 : decode cX12_few 122 = .ok (.iload 5, 2) := by decide +kernel
theorem dX12_few_124 : decode cX12_few 124 = .ok (.iconst 1, 1) := by decide +kernel
theorem dX12_few_125 : decode cX12_few 125 = .ok (.iadd, 1) := by decide +kernel
theorem dX12_few_126 : decode cX12_few 126 = .ok (.dup2, 1) := by decide +kernel
theorem dX12_few_127 : decode cX12_few 127 = .ok (.laload, 1) := by decide +kernel
theorem dX12_few_128 : decode cX12_few 128 = .ok (.lload 6, 2) := by decide +kernel
theorem dX12_few_130 : decode cX12_few 130 = .ok (.iload_n 3, 1) := by decide +kernel
theorem dX12_few_131 : decode cX12_few 131 = .ok (.i2l, 1) := by decide +kernel
theorem dX12_few_132 : decode cX12_few 132 = .ok (.lmul, 1) := by decide +kernel
theorem dX12_few_133 : decode cX12_few 133 = .ok (.ldc2_w 215, 3) := by decide +kernel
theorem dX12_few_136 : decode cX12_few 136 = .ok (.ldiv, 1) := by decide +kernel
theorem dX12_few_137 : decode cX12_few 137 = .ok (.ladd, 1) := by decide +kernel
theorem dX12_few_138 : decode cX12_few 138 = .ok (.lastore, 1) := by decide +kernel
theorem dX12_few_139 : decode cX12_few 139 = .ok (.iinc 5 (-1), 3) := by decide +kernel
theorem dX12_few_142 : decode cX12_few 142 = .ok (.goto (-57), 3) := by decide +kernel
theorem dX12_few_145 : decode cX12_few 145 = .ok (.iinc 4 1, 3) := by decide +kernel
theorem dX12_few_148 : decode cX12_few 148 = .ok (.goto (-74), 3) := by decide +kernel
theorem dX12_few_151 : decode cX12_few 151 = .ok (.lconst 0, 1) := by decide +kernel
theorem dX12_few_152 : decode cX12_few 152 = .ok (.lstore 4, 2) := by decide +kernel
theorem dX12_few_154 : decode cX12_few 154 = .ok (.iconst 0, 1) := by decide +kernel
theorem dX12_few_155 : decode cX12_few 155 = .ok (.istore 6, 2) := by decide +kernel
theorem dX12_few_157 : decode cX12_few 157 = .ok (.iload 6, 2) := by decide +kernel
theorem dX12_few_159 : decode cX12_few 159 = .ok (.iload_n 1, 1) := by decide +kernel
theorem dX12_few_160 : decode cX12_few 160 = .ok (.if_icmp .ge 21, 3) := by decide +kernel
theorem dX12_few_163 : decode cX12_few 163 = .ok (.lload 4, 2) := by decide +kernel
theorem dX12_few_165 : decode cX12_few 165 = .ok (.aload_n 0, 1) := by decide +kernel
theorem dX12_few_166 : decode cX12_few 166 = .ok (.getfield 122, 3) := by decide +kernel
theorem dX12_few_169 : decode cX12_few 169 = .ok (.iload 6, 2) := by decide +kernel
theorem dX12_few_171 : decode cX12_few 171 = .ok (.laload, 1) := by decide +kernel
theorem dX12_few_172 : decode cX12_few 172 = .ok (.ladd, 1) := by decide +kernel
theorem dX12_few_173 : decode cX12_few 173 = .ok (.lstore 4, 2) := by decide +kernel
theorem dX12_few_175 : decode cX12_few 175 = .ok (.iinc 6 1, 3) := by decide +kernel
theorem dX12_few_178 : decode cX12_few 178 = .ok (.goto (-21), 3) := by decide +kernel
theorem dX12_few_181 : decode cX12_few 181 = .ok (.lload 4, 2) := by decide +kernel
theorem dX12_few_183 : decode cX12_few 183 = .ok (.lreturn, 1) := by decide +kernel
set_option maxRecDepth 100000 in
theorem okm_X12_few : okL RX12 cX12_few 8 (some .long) "few" pcX12_few opX12_few pcX12_few := by
  unfold opX12_few
  refine okL_cons (ok_aload_n rfl dX12_few_0) rfl ?_
  refine okL_cons (ok_iconst rfl dX12_few_1) rfl ?_
  refine okL_cons (ok_putI kw_717 cf_X12 rfl rfl (by decide) rfl dX12_few_2) rfl ?_
  refine okL_cons (ok_iload_n rfl dX12_few_5) rfl ?_
  refine okL_cons (ok_i2l dX12_few_6) rfl ?_
  refine okL_cons (ok_lconst rfl dX12_few_7) rfl ?_
  refine okL_cons (ok_ldc2 kw_810 dX12_few_8) rfl ?_
  refine okL_cons (ok_invS (M' := 165) kw_722 kw_723 kw_711 kw_724 rfl (by decide +kernel) dX12_few_11) rfl ?_
  refine okL_cons (ok_if_eq rfl dX12_few_14) rfl ?_
  refine okL_cons (ok_iload_n rfl dX12_few_17) rfl ?_
  refine okL_cons (ok_i2l dX12_few_18) rfl ?_
  refine okL_cons (ok_lconst rfl dX12_few_19) rfl ?_
  refine okL_cons (ok_ldc2 kw_1030 dX12_few_20) rfl ?_
  refine okL_cons (ok_invS (M' := 165) kw_722 kw_723 kw_711 kw_724 rfl (by decide +kernel) dX12_few_23) rfl ?_
  refine okL_cons (ok_if_ne rfl dX12_few_26) rfl ?_
  refine okL_cons (ok_ldc2 kw_794 dX12_few_29) rfl ?_
  refine okL_cons (ok_lreturn rfl dX12_few_32) rfl ?_
  refine okL_cons (ok_iconst rfl dX12_few_33) rfl ?_
  refine okL_cons (ok_istore_n rfl dX12_few_34) rfl ?_
  refine okL_cons (ok_iload_n rfl dX12_few_35) rfl ?_
  refine okL_cons (ok_bipush rfl dX12_few_36) rfl ?_
  refine okL_cons (ok_icmp_ge rfl dX12_few_38) rfl ?_
  refine okL_cons (ok_aload_n rfl dX12_few_41) rfl ?_
  refine okL_cons (ok_getP kw_694 cf_X12 rfl rfl (by decide) dX12_few_42) rfl ?_
  refine okL_cons (ok_iload_n rfl dX12_few_45) rfl ?_
  refine okL_cons (ok_iload_n rfl dX12_few_46) rfl ?_
  refine okL_cons (ok_if_ne rfl dX12_few_47) rfl ?_
  refine okL_cons (ok_ldc2 kw_1031 dX12_few_50) rfl ?_
  refine okL_cons (ok_goto rfl dX12_few_53) rfl ?_
  refine okL_cons (ok_lconst rfl dX12_few_56) rfl ?_
  refine okL_cons (ok_lastore dX12_few_57) rfl ?_
  refine okL_cons (ok_iinc rfl dX12_few_58) rfl ?_
  refine okL_cons (ok_goto rfl dX12_few_61) rfl ?_
  refine okL_cons (ok_aload_n rfl dX12_few_64) rfl ?_
  refine okL_cons (ok_getP kw_654 cf_X12 rfl rfl (by decide) dX12_few_65) rfl ?_
  refine okL_cons (ok_iconst rfl dX12_few_68) rfl ?_
  refine okL_cons (ok_iaload dX12_few_69) rfl ?_
  refine okL_cons (ok_istore_n rfl dX12_few_70) rfl ?_
  refine okL_cons (ok_iconst rfl dX12_few_71) rfl ?_
  refine okL_cons (ok_istore dX12_few_72) rfl ?_
  refine okL_cons (ok_iload dX12_few_74) rfl ?_
  refine okL_cons (ok_iload_n rfl dX12_few_76) rfl ?_
  refine okL_cons (ok_icmp_ge rfl dX12_few_77) rfl ?_
  refine okL_cons (ok_iload_n rfl dX12_few_80) rfl ?_
  refine okL_cons (ok_iconst rfl dX12_few_81) rfl ?_
  refine okL_cons (ok_isub dX12_few_82) rfl ?_
  refine okL_cons (ok_istore dX12_few_83) rfl ?_
  refine okL_cons (ok_iload dX12_few_85) rfl ?_
  refine okL_cons (ok_if_lt rfl dX12_few_87) rfl ?_
  refine okL_cons (ok_aload_n rfl dX12_few_90) rfl ?_
  refine okL_cons (ok_getP kw_694 cf_X12 rfl rfl (by decide) dX12_few_91) rfl ?_
  refine okL_cons (ok_iload dX12_few_94) rfl ?_
  refine okL_cons (ok_laload dX12_few_96) rfl ?_
  refine okL_cons (ok_lstore dX12_few_97) rfl ?_
  refine okL_cons (ok_aload_n rfl dX12_few_99) rfl ?_
  refine okL_cons (ok_getP kw_694 cf_X12 rfl rfl (by decide) dX12_few_100) rfl ?_
  refine okL_cons (ok_iload dX12_few_103) rfl ?_
  refine okL_cons (ok_lload dX12_few_105) rfl ?_
  refine okL_cons (ok_bipush rfl dX12_few_107) rfl ?_
  refine okL_cons (ok_iload_n rfl dX12_few_109) rfl ?_
  refine okL_cons (ok_isub dX12_few_110) rfl ?_
  refine okL_cons (ok_i2l dX12_few_111) rfl ?_
  refine okL_cons (ok_lmul dX12_few_112) rfl ?_
  refine okL_cons (ok_ldc2 kw_765 dX12_few_113) rfl ?_
  refine okL_cons (ok_ldiv dX12_few_116) rfl ?_
  refine okL_cons (ok_lastore dX12_few_117) rfl ?_
  refine okL_cons (ok_aload_n rfl dX12_few_118) rfl ?_
  refine okL_cons (ok_getP kw_694 cf_X12 rfl rfl (by decide) dX12_few_119) rfl ?_
  refine okL_cons (ok_iload dX12_few_122) rfl ?_
  refine okL_cons (ok_iconst rfl dX12_few_124) rfl ?_
  refine okL_cons (ok_iadd dX12_few_125) rfl ?_
  refine okL_cons (ok_dup2 dX12_few_126) rfl ?_
  refine okL_cons (ok_laload dX12_few_127) rfl ?_
  refine okL_cons (ok_lload dX12_few_128) rfl ?_
  refine okL_cons (ok_iload_n rfl dX12_few_130) rfl ?_
  refine okL_cons (ok_i2l dX12_few_131) rfl ?_
  refine okL_cons (ok_lmul dX12_few_132) rfl ?_
  refine okL_cons (ok_ldc2 kw_765 dX12_few_133) rfl ?_
  refine okL_cons (ok_ldiv dX12_few_136) rfl ?_
  refine okL_cons (ok_ladd dX12_few_137) rfl ?_
  refine okL_cons (ok_lastore dX12_few_138) rfl ?_
  refine okL_cons (ok_iinc rfl dX12_few_139) rfl ?_
  refine okL_cons (ok_goto rfl dX12_few_142) rfl ?_
  refine okL_cons (ok_iinc rfl dX12_few_145) rfl ?_
  refine okL_cons (ok_goto rfl dX12_few_148) rfl ?_
  refine okL_cons (ok_lconst rfl dX12_few_151) rfl ?_
  refine okL_cons (ok_lstore dX12_few_152) rfl ?_
  refine okL_cons (ok_iconst rfl dX12_few_154) rfl ?_
  refine okL_cons (ok_istore dX12_few_155) rfl ?_
  refine okL_cons (ok_iload dX12_few_157) rfl ?_
  refine okL_cons (ok_iload_n rfl dX12_few_159) rfl ?_
  refine okL_cons (ok_icmp_ge rfl dX12_few_160) rfl ?_
  refine okL_cons (ok_lload dX12_few_163) rfl ?_
  refine okL_cons (ok_aload_n rfl dX12_few_165) rfl ?_
  refine okL_cons (ok_getP kw_694 cf_X12 rfl rfl (by decide) dX12_few_166) rfl ?_
  refine okL_cons (ok_iload dX12_few_169) rfl ?_
  refine okL_cons (ok_laload dX12_few_171) rfl ?_
  refine okL_cons (ok_ladd dX12_few_172) rfl ?_
  refine okL_cons (ok_lstore dX12_few_173) rfl ?_
  refine okL_cons (ok_iinc rfl dX12_few_175) rfl ?_
  refine okL_cons (ok_goto rfl dX12_few_178) rfl ?_
  refine okL_cons (ok_lload dX12_few_181) rfl ?_
  exact okL_one (ok_lreturn rfl dX12_few_183)
theorem dX12_readSum_0 : decode cX12_readSum 0 = .ok (.aload_n 0, 1) := by decide +kernel
theorem dX12_readSum_1 : decode cX12_readSum 1 = .ok (.getfield 143, 3) := by decide +kernel
theorem dX12_readSum_4 : decode cX12_readSum 4 = .ok (.iload_n 1, 1) := by decide +kernel
theorem dX12_readSum_5 : decode cX12_readSum 5 = .ok (.aload_n 0, 1) := by decide +kernel
theorem dX12_readSum_6 : decode cX12_readSum 6 = .ok (.getfield 272, 3) := by decide +kernel
theorem dX12_readSum_9 : decode cX12_readSum 9 = .ok (.iastore, 1) := by decide +kernel
theorem dX12_readSum_10 : decode cX12_readSum 10 = .ok (.aload_n 0, 1) := by decide +kernel
theorem dX12_readSum_11 : decode cX12_readSum 11 = .ok (.getfield 235, 3) := by decide +kernel
theorem dX12_readSum_14 : decode cX12_readSum 14 = .ok (.ifCond .ne 8, 3) := by decide +kernel
theorem dX12_readSum_17 : decode cX12_readSum 17 = .ok (.aload_n 0, 1) := by decide +kernel
theorem dX12_readSum_18 : decode cX12_readSum 18 = .ok (.iconst 0, 1) := by decide +kernel
theorem dX12_readSum_19 : decode cX12_readSum 19 = .ok (.invokevirtual 362, 3) := by decide +kernel
theorem dX12_readSum_22 : decode cX12_readSum 22 = .ok (.aload_n 0, 1) := by decide +kernel
theorem dX12_readSum_23 : decode cX12_readSum 23 = .ok (.getfield 143, 3) := by decide +kernel
theorem dX12_readSum_26 : decode cX12_readSum 26 = .ok (.iload_n 1, 1) := by decide +kernel
theorem dX12_readSum_27 : decode cX12_readSum 27 = .ok (.iconst 1, 1) := by decide +kernel
theorem dX12_readSum_28 : decode cX12_readSum 28 = .ok (.iadd, 1) := by decide +kernel
theorem dX12_readSum_29 : decode cX12_readSum 29 = .ok (.aload_n 0, 1) := by decide +kernel
theorem dX12_readSum_30 : decode cX12_readSum 30 = .ok (.getfield 272, 3) := by decide +kernel
theorem dX12_readSum_33 : decode cX12_readSum 33 = .ok (.iastore, 1) := by decide +kernel
theorem dX12_readSum_34 : decode cX12_readSum 34 = .ok (.return_, 1) := by decide +kernel
set_option maxRecDepth 100000 in
theorem okm_X12_readSum : okL RX12 cX12_readSum 2 none "readSum" pcX12_readSum opX12_readSum pcX12_readSum := by
  unfold opX12_readSum
  refine okL_cons (ok_aload_n rfl dX12_readSum_0) rfl ?_
  refine okL_cons (ok_getP kw_703 cf_X12 rfl rfl (by decide) dX12_readSum_1) rfl ?_
  refine okL_cons (ok_iload_n rfl dX12_readSum_4) rfl ?_
  refine okL_cons (ok_aload_n rfl dX12_readSum_5) rfl ?_
  refine okL_cons (ok_getI kw_801 cf_X12 rfl rfl (by decide) dX12_readSum_6) rfl ?_
  refine okL_cons (ok_iastore dX12_readSum_9) rfl ?_
  refine okL_cons (ok_aload_n rfl dX12_readSum_10) rfl ?_
  refine okL_cons (ok_getI kw_778 cf_X12 rfl rfl (by decide) dX12_readSum_11) rfl ?_
  refine okL_cons (ok_if_ne rfl dX12_readSum_14) rfl ?_
  refine okL_cons (ok_aload_n rfl dX12_readSum_17) rfl ?_
  refine okL_cons (ok_iconst rfl dX12_readSum_18) rfl ?_
  refine okL_cons (ok_invV (M' := 217) kw_884 kw_885 kw_886 kw_711 kw_887 cf_X12 rfl (by decide +kernel) dX12_readSum_19) rfl ?_
  refine okL_cons (ok_aload_n rfl dX12_readSum_22) rfl ?_
  refine okL_cons (ok_getP kw_703 cf_X12 rfl rfl (by decide) dX12_readSum_23) rfl ?_
  refine okL_cons (ok_iload_n rfl dX12_readSum_26) rfl ?_
  refine okL_cons (ok_iconst rfl dX12_readSum_27) rfl ?_
  refine okL_cons (ok_iadd dX12_readSum_28) rfl ?_
  refine okL_cons (ok_aload_n rfl dX12_readSum_29) rfl ?_
  refine okL_cons (ok_getI kw_801 cf_X12 rfl rfl (by decide) dX12_readSum_30) rfl ?_
  refine okL_cons (ok_iastore dX12_readSum_33) rfl ?_
  exact okL_one (ok_return rfl dX12_readSum_34)
