theorem dX12_keepAll_0 : decode cX12_keepAll 0 = .ok (.iconst 0, 1) := by decide +kernel
theorem dX12_keepAll_1 : decode cX12_keepAll 1 = .ok (.istore_n 2, 1) := by decide +kernel
theorem dX12_keepAll_2 : decode cX12_keepAll 2 = .ok (.iload_n 2, 1) := by decide +kernel
theorem dX12_keepAll_3 : decode cX12_keepAll 3 = .ok (.bipush 52, 2) := by decide +kernel
theorem dX12_keepAll_5 : decode cX12_keepAll 5 = .ok (.if_icmp .ge 28, 3) := by decide +kernel
theorem dX12_keepAll_8 : decode cX12_keepAll 8 = .ok (.aload_n 0, 1) := by decide +kernel
theorem dX12_keepAll_9 : decode cX12_keepAll 9 = .ok (.getfield 23, 3) := by decide +kernel
theorem dX12_keepAll_12 : decode cX12_keepAll 12 = .ok (.bipush 52, 2) := by decide +kernel
theorem dX12_keepAll_14 : decode cX12_keepAll 14 = .ok (.iload_n 1, 1) := by decide +kernel
theorem dX12_keepAll_15 : decode cX12_keepAll 15 = .ok (.imul, 1) := by decide +kernel
theorem dX12_keepAll_16 : decode cX12_keepAll 16 = .ok (.iload_n 2, 1) := by decide +kernel
theorem dX12_keepAll_17 : decode cX12_keepAll 17 = .ok (.iadd, 1) := by decide +kernel
theorem dX12_keepAll_18 : decode cX12_keepAll 18 = .ok (.aload_n 0, 1) := by decide +kernel
theorem dX12_keepAll_19 : decode cX12_keepAll 19 = .ok (.getfield 13, 3) := by decide +kernel
theorem dX12_keepAll_22 : decode cX12_keepAll 22 = .ok (.iconst 4, 1) := by decide +kernel
theorem dX12_keepAll_23 : decode cX12_keepAll 23 = .ok (.iload_n 2, 1) := by decide +kernel
theorem dX12_keepAll_24 : decode cX12_keepAll 24 = .ok (.iadd, 1) := by decide +kernel
theorem dX12_keepAll_25 : decode cX12_keepAll 25 = .ok (.iaload, 1) := by decide +kernel
theorem dX12_keepAll_26 : decode cX12_keepAll 26 = .ok (.iastore, 1) := by decide +kernel
theorem dX12_keepAll_27 : decode cX12_keepAll 27 = .ok (.iinc 2 1, 3) := by decide +kernel
theorem dX12_keepAll_30 : decode cX12_keepAll 30 = .ok (.goto (-28), 3) := by decide +kernel
theorem dX12_keepAll_33 : decode cX12_keepAll 33 = .ok (.return_, 1) := by decide +kernel
set_option maxRecDepth 100000 in
theorem okm_X12_keepAll : okL RX12 cX12_keepAll 3 none "keepAll" pcX12_keepAll opX12_keepAll pcX12_keepAll := by
  unfold opX12_keepAll
  refine okL_cons (ok_iconst rfl dX12_keepAll_0) rfl ?_
  refine okL_cons (ok_istore_n rfl dX12_keepAll_1) rfl ?_
  refine okL_cons (ok_iload_n rfl dX12_keepAll_2) rfl ?_
  refine okL_cons (ok_bipush rfl dX12_keepAll_3) rfl ?_
  refine okL_cons (ok_icmp_ge rfl dX12_keepAll_5) rfl ?_
  refine okL_cons (ok_aload_n rfl dX12_keepAll_8) rfl ?_
  refine okL_cons (ok_getP kw_657 cf_X12 rfl rfl (by decide) dX12_keepAll_9) rfl ?_
  refine okL_cons (ok_bipush rfl dX12_keepAll_12) rfl ?_
  refine okL_cons (ok_iload_n rfl dX12_keepAll_14) rfl ?_
  refine okL_cons (ok_imul dX12_keepAll_15) rfl ?_
  refine okL_cons (ok_iload_n rfl dX12_keepAll_16) rfl ?_
  refine okL_cons (ok_iadd dX12_keepAll_17) rfl ?_
  refine okL_cons (ok_aload_n rfl dX12_keepAll_18) rfl ?_
  refine okL_cons (ok_getP kw_654 cf_X12 rfl rfl (by decide) dX12_keepAll_19) rfl ?_
  refine okL_cons (ok_iconst rfl dX12_keepAll_22) rfl ?_
  refine okL_cons (ok_iload_n rfl dX12_keepAll_23) rfl ?_
  refine okL_cons (ok_iadd dX12_keepAll_24) rfl ?_
  refine okL_cons (ok_iaload dX12_keepAll_25) rfl ?_
  refine okL_cons (ok_iastore dX12_keepAll_26) rfl ?_
  refine okL_cons (ok_iinc rfl dX12_keepAll_27) rfl ?_
  refine okL_cons (ok_goto rfl dX12_keepAll_30) rfl ?_
  exact okL_one (ok_return rfl dX12_keepAll_33)
theorem dX12_putBack_0 : decode cX12_putBack 0 = .ok (.iconst 0, 1) := by decide +kernel
theorem dX12_putBack_1 : decode cX12_putBack 1 = .ok (.istore_n 2, 1) := by decide +kernel
theorem dX12_putBack_2 : decode cX12_putBack 2 = .ok (.iload_n 2, 1) := by decide +kernel
theorem dX12_putBack_3 : decode cX12_putBack 3 = .ok (.bipush 52, 2) := by decide +kernel
theorem dX12_putBack_5 : decode cX12_putBack 5 = .ok (.if_icmp .ge 28, 3) := by decide +kernel
theorem dX12_putBack_8 : decode cX12_putBack 8 = .ok (.aload_n 0, 1) := by decide +kernel
theorem dX12_putBack_9 : decode cX12_putBack 9 = .ok (.getfield 13, 3) := by decide +kernel
theorem dX12_putBack_12 : decode cX12_putBack 12 = .ok (.iconst 4, 1) := by decide +kernel
theorem dX12_putBack_13 : decode cX12_putBack 13 = .ok (.iload_n 2, 1) := by decide +kernel
theorem dX12_putBack_14 : decode cX12_putBack 14 = .ok (.iadd, 1) := by decide +kernel
theorem dX12_putBack_15 : decode cX12_putBack 15 = .ok (.aload_n 0, 1) := by decide +kernel
theorem dX12_putBack_16 : decode cX12_putBack 16 = .ok (.getfield 23, 3) := by decide +kernel
theorem dX12_putBack_19 : decode cX12_putBack 19 = .ok (.bipush 52, 2) := by decide +kernel
theorem dX12_putBack_21 : decode cX12_putBack 21 = .ok (.iload_n 1, 1) := by decide +kernel
theorem dX12_putBack_22 : decode cX12_putBack 22 = .ok (.imul, 1) := by decide +kernel
theorem dX12_putBack_23 : decode cX12_putBack 23 = .ok (.iload_n 2, 1) := by decide +kernel
theorem dX12_putBack_24 : decode cX12_putBack 24 = .ok (.iadd, 1) := by decide +kernel
theorem dX12_putBack_25 : decode cX12_putBack 25 = .ok (.iaload, 1) := by decide +kernel
theorem dX12_putBack_26 : decode cX12_putBack 26 = .ok (.iastore, 1) := by decide +kernel
theorem dX12_putBack_27 : decode cX12_putBack 27 = .ok (.iinc 2 1, 3) := by decide +kernel
theorem dX12_putBack_30 : decode cX12_putBack 30 = .ok (.goto (-28), 3) := by decide +kernel
theorem dX12_putBack_33 : decode cX12_putBack 33 = .ok (.return_, 1) := by decide +kernel
set_option maxRecDepth 100000 in
theorem okm_X12_putBack : okL RX12 cX12_putBack 3 none "putBack" pcX12_putBack opX12_putBack pcX12_putBack := by
  unfold opX12_putBack
  refine okL_cons (ok_iconst rfl dX12_putBack_0) rfl ?_
  refine okL_cons (ok_istore_n rfl dX12_putBack_1) rfl ?_
  refine okL_cons (ok_iload_n rfl dX12_putBack_2) rfl ?_
  refine okL_cons (ok_bipush rfl dX12_putBack_3) rfl ?_
  refine okL_cons (ok_icmp_ge rfl dX12_putBack_5) rfl ?_
  refine okL_cons (ok_aload_n rfl dX12_putBack_8) rfl ?_
  refine okL_cons (ok_getP kw_654 cf_X12 rfl rfl (by decide) dX12_putBack_9) rfl ?_
  refine okL_cons (ok_iconst rfl dX12_putBack_12) rfl ?_
  refine okL_cons (ok_iload_n rfl dX12_putBack_13) rfl ?_
  refine okL_cons (ok_iadd dX12_putBack_14) rfl ?_
  refine okL_cons (ok_aload_n rfl dX12_putBack_15) rfl ?_
  refine okL_cons (ok_getP kw_657 cf_X12 rfl rfl (by decide) dX12_putBack_16) rfl ?_
  refine okL_cons (ok_bipush rfl dX12_putBack_19) rfl ?_
  refine okL_cons (ok_iload_n rfl dX12_putBack_21) rfl ?_
  refine okL_cons (ok_imul dX12_putBack_22) rfl ?_
  refine okL_cons (ok_iload_n rfl dX12_putBack_23) rfl ?_
  refine okL_cons (ok_iadd dX12_putBack_24) rfl ?_
  refine okL_cons (ok_iaload dX12_putBack_25) rfl ?_
  refine okL_cons (ok_iastore dX12_putBack_26) rfl ?_
  refine okL_cons (ok_iinc rfl dX12_putBack_27) rfl ?_
  refine okL_cons (ok_goto rfl dX12_putBack_30) rfl ?_
  exact okL_one (ok_return rfl dX12_putBack_33)
theorem dX12_remember_0 : decode cX12_remember 0 = .ok (.aload_n 0, 1) := by decide +kernel
theorem dX12_remember_1 : decode cX12_remember 1 = .ok (.getfield 158, 3) := by decide +kernel
theorem dX12_remember_4 : decode cX12_remember 4 = .ok (.bipush 16, 2) := by decide +kernel
theorem dX12_remember_6 : decode cX12_remember 6 = .ok (.if_icmp .ne 71, 3) := by decide +kernel
theorem dX12_remember_9 : decode cX12_remember 9 = .ok (.iconst 0, 1) := by decide +kernel
theorem dX12_remember_10 : decode cX12_remember 10 = .ok (.istore_n 2, 1) := by decide +kernel
theorem dX12_remember_11 : decode cX12_remember 11 = .ok (.iload_n 2, 1) := by decide +kernel
theorem dX12_remember_12 : decode cX12_remember 12 = .ok (.sipush 780, 3) := by decide +kernel
theorem dX12_remember_15 : decode cX12_remember 15 = .ok (.if_icmp .ge 24, 3) := by decide +kernel
theorem dX12_remember_18 : decode cX12_remember 18 = .ok (.aload_n 0, 1) := by decide +kernel
theorem dX12_remember_19 : decode cX12_remember 19 = .ok (.getfield 23, 3) := by decide +kernel
theorem dX12_remember_22 : decode cX12_remember 22 = .ok (.iload_n 2, 1) := by decide +kernel
theorem dX12_remember_23 : decode cX12_remember 23 = .ok (.aload_n 0, 1) := by decide +kernel
theorem dX12_remember_24 : decode cX12_remember 24 = .ok (.getfield 23, 3) := by decide +kernel
theorem dX12_remember_27 : decode cX12_remember 27 = .ok (.iload_n 2, 1) := by decide +kernel
theorem dX12_remember_28 : decode cX12_remember 28 = .ok (.bipush 52, 2) := by decide +kernel
theorem dX12_remember_30 : decode cX12_remember 30 = .ok (.iadd, 1) := by decide +kernel
theorem dX12_remember_31 : decode cX12_remember 31 = .ok (.iaload, 1) := by decide +kernel
theorem dX12_remember_32 : decode cX12_remember 32 = .ok (.iastore, 1) := by decide +kernel
theorem dX12_remember_33 : decode cX12_remember 33 = .ok (.iinc 2 1, 3) := by decide +kernel
theorem dX12_remember_36 : decode cX12_remember 36 = .ok (.goto (-25), 3) := by decide +kernel
theorem dX12_remember_39 : decode cX12_remember 39 = .ok (.iconst 0, 1) := by decide +kernel
theorem dX12_remember_40 : decode cX12_remember 40 = .ok (.istore_n 2, 1) := by decide +kernel
theorem dX12_remember_41 : decode cX12_remember 41 = .ok (.iload_n 2, 1) := by decide +kernel
theorem dX12_remember_42 : decode cX12_remember 42 = .ok (.bipush 15, 2) := by decide +kernel
theorem dX12_remember_44 : decode cX12_remember 44 = .ok (.if_icmp .ge 23, 3) := by decide +kernel
theorem dX12_remember_47 : decode cX12_remember 47 = .ok (.aload_n 0, 1) := by decide +kernel
theorem dX12_remember_48 : decode cX12_remember 48 = .ok (.getfield 26, 3) := by decide +kernel
theorem dX12_remember_51 : decode cX12_remember 51 = .ok (.iload_n 2, 1) := by decide +kernel
theorem dX12_remember_52 : decode cX12_remember 52 = .ok (.aload_n 0, 1) := by decide +kernel
theorem dX12_remember_53 : decode cX12_remember 53 = .ok (.getfield 26, 3) := by decide +kernel
theorem dX12_remember_56 : decode cX12_remember 56 = .ok (.iload_n 2, 1) := by decide +kernel
theorem dX12_remember_57 : decode cX12_remember 57 = .ok (.iconst 1, 1) := by decide +kernel
theorem dX12_remember_58 : decode cX12_remember 58 = .ok (.iadd, 1) := by decide +kernel
theorem dX12_remember_59 : decode cX12_remember 59 = .ok (.iaload, 1) := by decide +kernel
theorem dX12_remember_60 : decode cX12_remember 60 = .ok (.iastore, 1) := by decide +kernel
theorem dX12_remember_61 : decode cX12_remember 61 = .ok (.iinc 2 1, 3) := by decide +kernel
theorem dX12_remember_64 : decode cX12_remember 64 = .ok (.goto (-23), 3) := by decide +kernel
theorem dX12_remember_67 : decode cX12_remember 67 = .ok (.aload_n 0, 1) := by decide +kernel
theorem dX12_remember_68 : decode cX12_remember 68 = .ok (.dup, 1) := by decide +kernel
theorem dX12_remember_69 : decode cX12_remember 69 = .ok (.getfield 158, 3) := by decide +kernel
theorem dX12_remember_72 : decode cX12_remember 72 = .ok (.iconst 1, 1) := by decide +kernel
theorem dX12_remember_73 : decode cX12_remember 73 = .ok (.isub, 1) := by decide +kernel
theorem dX12_remember_74 : decode cX12_remember 74 = .ok (.putfield 158, 3) := by decide +kernel
theorem dX12_remember_77 : decode cX12_remember 77 = .ok (.aload_n 0, 1) := by decide +kernel
theorem dX12_remember_78 : decode cX12_remember 78 = .ok (.aload_n 0, 1) := by decide +kernel
theorem dX12_remember_79 : decode cX12_remember 79 = .ok (.getfield 158, 3) := by decide +kernel
theorem dX12_remember_82 : decode cX12_remember 82 = .ok (.invokevirtual 165, 3) := by decide +kernel
theorem dX12_remember_85 : decode cX12_remember 85 = .ok (.aload_n 0, 1) := by decide +kernel
theorem dX12_remember_86 : decode cX12_remember 86 = .ok (.getfield 26, 3) := by decide +kernel
theorem dX12_remember_89 : decode cX12_remember 89 = .ok (.aload_n 0, 1) := by decide +kernel
theorem dX12_remember_90 : decode cX12_remember 90 = .ok (.getfield 158, 3) := by decide +kernel
theorem dX12_remember_93 : decode cX12_remember 93 = .ok (.iload_n 1, 1) := by decide +kernel
theorem dX12_remember_94 : decode cX12_remember 94 = .ok (.iastore, 1) := by decide +kernel
theorem dX12_remember_95 : decode cX12_remember 95 = .ok (.aload_n 0, 1) := by decide +kernel
theorem dX12_remember_96 : decode cX12_remember 96 = .ok (.dup, 1) := by decide +kernel
theorem dX12_remember_97 : decode cX12_remember 97 = .ok (.getfield 158, 3) := by decide +kernel
theorem dX12_remember_100 : decode cX12_remember 100 = .ok (.iconst 1, 1) := by decide +kernel
theorem dX12_remember_101 : decode cX12_remember 101 = .ok (.iadd, 1) := by decide +kernel
theorem dX12_remember_102 : decode cX12_remember 102 = .ok (.putfield 158, 3) := by decide +kernel
theorem dX12_remember_105 : decode cX12_remember 105 = .ok (.return_, 1) := by decide +kernel
set_option maxRecDepth 100000 in
theorem okm_X12_remember : okL RX12 cX12_remember 3 none "remember" pcX12_remember opX12_remember pcX12_remember := by
  unfold opX12_remember
  refine okL_cons (ok_aload_n rfl dX12_remember_0) rfl ?_
  refine okL_cons (ok_getI kw_707 cf_X12 rfl rfl (by decide) dX12_remember_1) rfl ?_
  refine okL_cons (ok_bipush rfl dX12_remember_4) rfl ?_
  refine okL_cons (ok_icmp_ne rfl dX12_remember_6) rfl ?_
  refine okL_cons (ok_iconst rfl dX12_remember_9) rfl ?_
  refine okL_cons (ok_istore_n rfl dX12_remember_10) rfl ?_
  refine okL_cons (ok_iload_n rfl dX12_remember_11) rfl ?_
  refine okL_cons (ok_sipush rfl dX12_remember_12) rfl ?_
  refine okL_cons (ok_icmp_ge rfl dX12_remember_15) rfl ?_
  refine okL_cons (ok_aload_n rfl dX12_remember_18) rfl ?_
  refine okL_cons (ok_getP kw_657 cf_X12 rfl rfl (by decide) dX12_remember_19) rfl ?_
  refine okL_cons (ok_iload_n rfl dX12_remember_22) rfl ?_
  refine okL_cons (ok_aload_n rfl dX12_remember_23) rfl ?_
  refine okL_cons (ok_getP kw_657 cf_X12 rfl rfl (by decide) dX12_remember_24) rfl ?_
  refine okL_cons (ok_iload_n rfl dX12_remember_27) rfl ?_
  refine okL_cons (ok_bipush rfl dX12_remember_28) rfl ?_
  refine okL_cons (ok_iadd dX12_remember_30) rfl ?_
  refine okL_cons (ok_iaload dX12_remember_31) rfl ?_
  refine okL_cons (ok_iastore dX12_remember_32) rfl ?_
  refine okL_cons (ok_iinc rfl dX12_remember_33) rfl ?_
  refine okL_cons (ok_goto rfl dX12_remember_36) rfl ?_
  refine okL_cons (ok_iconst rfl dX12_remember_39) rfl ?_
  refine okL_cons (ok_istore_n rfl dX12_remember_40) rfl ?_
  refine okL_cons (ok_iload_n rfl dX12_remember_41) rfl ?_
  refine okL_cons (ok_bipush rfl dX12_remember_42) rfl ?_
  refine okL_cons (ok_icmp_ge rfl dX12_remember_44) rfl ?_
  refine okL_cons (ok_aload_n rfl dX12_remember_47) rfl ?_
  refine okL_cons (ok_getP kw_658 cf_X12 rfl rfl (by decide) dX12_remember_48) rfl ?_
  refine okL_cons (ok_iload_n rfl dX12_remember_51) rfl ?_
  refine okL_cons (ok_aload_n rfl dX12_remember_52) rfl ?_
  refine okL_cons (ok_getP kw_658 cf_X12 rfl rfl (by decide) dX12_remember_53) rfl ?_
  refine okL_cons (ok_iload_n rfl dX12_remember_56) rfl ?_
  refine okL_cons (ok_iconst rfl dX12_remember_57) rfl ?_
  refine okL_cons (ok_iadd dX12_remember_58) rfl ?_
  refine okL_cons (ok_iaload dX12_remember_59) rfl ?_
  refine okL_cons (ok_iastore dX12_remember_60) rfl ?_
  refine okL_cons (ok_iinc rfl dX12_remember_61) rfl ?_
  refine okL_cons (ok_goto rfl dX12_remember_64) rfl ?_
  refine okL_cons (ok_aload_n rfl dX12_remember_67) rfl ?_
  refine okL_cons (ok_dup dX12_remember_68) rfl ?_
  refine okL_cons (ok_getI kw_707 cf_X12 rfl rfl (by decide) dX12_remember_69) rfl ?_
  refine okL_cons (ok_iconst rfl dX12_remember_72) rfl ?_
  refine okL_cons (ok_isub dX12_remember_73) rfl ?_
  refine okL_cons (ok_putI kw_707 cf_X12 rfl rfl (by decide) rfl dX12_remember_74) rfl ?_
  refine okL_cons (ok_aload_n rfl dX12_remember_77) rfl ?_
  refine okL_cons (ok_aload_n rfl dX12_remember_78) rfl ?_
  refine okL_cons (ok_getI kw_707 cf_X12 rfl rfl (by decide) dX12_remember_79) rfl ?_
  refine okL_cons (ok_invV (M' := 172) kw_713 kw_714 kw_715 kw_711 kw_716 cf_X12 rfl (by decide +kernel) dX12_remember_82) rfl ?_
  refine okL_cons (ok_aload_n rfl dX12_remember_85) rfl ?_
  refine okL_cons (ok_getP kw_658 cf_X12 rfl rfl (by decide) dX12_remember_86) rfl ?_
  refine okL_cons (ok_aload_n rfl dX12_remember_89) rfl ?_
  refine okL_cons (ok_getI kw_707 cf_X12 rfl rfl (by decide) dX12_remember_90) rfl ?_
  refine okL_cons (ok_iload_n rfl dX12_remember_93) rfl ?_
  refine okL_cons (ok_iastore dX12_remember_94) rfl ?_
  refine okL_cons (ok_aload_n rfl dX12_remember_95) rfl ?_
  refine okL_cons (ok_dup dX12_remember_96) rfl ?_
  refine okL_cons (ok_getI kw_707 cf_X12 rfl rfl (by decide) dX12_remember_97) rfl ?_
  refine okL_cons (ok_iconst rfl dX12_remember_100) rfl ?_
  refine okL_cons (ok_iadd dX12_remember_101) rfl ?_
  refine okL_cons (ok_putI kw_707 cf_X12 rfl rfl (by decide) rfl dX12_remember_102) rfl ?_
  exact okL_one (ok_return rfl dX12_remember_105)
theorem dX12_undo_0 : decode cX12_undo 0 = .ok (.aload_n 0, 1) := by decide +kernel
theorem dX12_undo_1 : decode cX12_undo 1 = .ok (.iconst 0, 1) := by decide +kernel
theorem dX12_undo_2 : decode cX12_undo 2 = .ok (.putfield 152, 3) := by decide +kernel
theorem dX12_undo_5 : decode cX12_undo 5 = .ok (.aload_n 0, 1) := by decide +kernel
theorem dX12_undo_6 : decode cX12_undo 6 = .ok (.getfield 158, 3) := by decide +kernel
theorem dX12_undo_9 : decode cX12_undo 9 = .ok (.ifCond .ne 10, 3) := by decide +kernel
theorem dX12_undo_12 : decode cX12_undo 12 = .ok (.aload_n 0, 1) := by decide +kernel
theorem dX12_undo_13 : decode cX12_undo 13 = .ok (.bipush (-3), 2) := by decide +kernel
theorem dX12_undo_15 : decode cX12_undo 15 = .ok (.invokevirtual 161, 3) := by decide +kernel
theorem dX12_undo_18 : decode cX12_undo 18 = .ok (.ireturn, 1) := by decide +kernel
theorem dX12_undo_19 : decode cX12_undo 19 = .ok (.aload_n 0, 1) := by decide +kernel
theorem dX12_undo_20 : decode cX12_undo 20 = .ok (.dup, 1) := by decide +kernel
theorem dX12_undo_21 : decode cX12_undo 21 = .ok (.getfield 158, 3) := by decide +kernel
theorem dX12_undo_24 : decode cX12_undo 24 = .ok (.iconst 1, 1) := by decide +kernel
theorem dX12_undo_25 : decode cX12_undo 25 = .ok (.isub, 1) := by decide +kernel
theorem dX12_undo_26 : decode cX12_undo 26 = .ok (.putfield 158, 3) := by decide +kernel
theorem dX12_undo_29 : decode cX12_undo 29 = .ok (.aload_n 0, 1) := by decide +kernel
theorem dX12_undo_30 : decode cX12_undo 30 = .ok (.aload_n 0, 1) := by decide +kernel
theorem dX12_undo_31 : decode cX12_undo 31 = .ok (.getfield 158, 3) := by decide +kernel
theorem dX12_undo_34 : decode cX12_undo 34 = .ok (.invokevirtual 169, 3) := by decide +kernel
theorem dX12_undo_37 : decode cX12_undo 37 = .ok (.aload_n 0, 1) := by decide +kernel
theorem dX12_undo_38 : decode cX12_undo 38 = .ok (.aload_n 0, 1) := by decide +kernel
theorem dX12_undo_39 : decode cX12_undo 39 = .ok (.getfield 26, 3) := by decide +kernel
theorem dX12_undo_42 : decode cX12_undo 42 = .ok (.aload_n 0, 1) := by decide +kernel
theorem dX12_undo_43 : decode cX12_undo 43 = .ok (.getfield 158, 3) := by decide +kernel
theorem dX12_undo_46 : decode cX12_undo 46 = .ok (.iaload, 1) := by decide +kernel
theorem dX12_undo_47 : decode cX12_undo 47 = .ok (.invokevirtual 161, 3) := by decide +kernel
theorem dX12_undo_50 : decode cX12_undo 50 = .ok (.ireturn, 1) := by decide +kernel
set_option maxRecDepth 100000 in
theorem okm_X12_undo : okL RX12 cX12_undo 1 (some .int) "undo" pcX12_undo opX12_undo pcX12_undo := by
  unfold opX12_undo
  refine okL_cons (ok_aload_n rfl dX12_undo_0) rfl ?_
  refine okL_cons (ok_iconst rfl dX12_undo_1) rfl ?_
  refine okL_cons (ok_putI kw_717 cf_X12 rfl rfl (by decide) rfl dX12_undo_2) rfl ?_
  refine okL_cons (ok_aload_n rfl dX12_undo_5) rfl ?_
  refine okL_cons (ok_getI kw_707 cf_X12 rfl rfl (by decide) dX12_undo_6) rfl ?_
  refine okL_cons (ok_if_ne rfl dX12_undo_9) rfl ?_
  refine okL_cons (ok_aload_n rfl dX12_undo_12) rfl ?_
  refine okL_cons (ok_bipush rfl dX12_undo_13) rfl ?_
  refine okL_cons (ok_invV (M' := 169) kw_708 kw_709 kw_710 kw_711 kw_712 cf_X12 rfl (by decide +kernel) dX12_undo_15) rfl ?_
  refine okL_cons (ok_ireturn rfl dX12_undo_18) rfl ?_
  refine okL_cons (ok_aload_n rfl dX12_undo_19) rfl ?_
  refine okL_cons (ok_dup dX12_undo_20) rfl ?_
  refine okL_cons (ok_getI kw_707 cf_X12 rfl rfl (by decide) dX12_undo_21) rfl ?_
  refine okL_cons (ok_iconst rfl dX12_undo_24) rfl ?_
  refine okL_cons (ok_isub dX12_undo_25) rfl ?_
  refine okL_cons (ok_putI kw_707 cf_X12 rfl rfl (by decide) rfl dX12_undo_26) rfl ?_
  refine okL_cons (ok_aload_n rfl dX12_undo_29) rfl ?_
  refine okL_cons (ok_aload_n rfl dX12_undo_30) rfl ?_
  refine okL_cons (ok_getI kw_707 cf_X12 rfl rfl (by decide) dX12_undo_31) rfl ?_
  refine okL_cons (ok_invV (M' := 173) kw_718 kw_719 kw_720 kw_711 kw_721 cf_X12 rfl (by decide +kernel) dX12_undo_34) rfl ?_
  refine okL_cons (ok_aload_n rfl dX12_undo_37) rfl ?_
  refine okL_cons (ok_aload_n rfl dX12_undo_38) rfl ?_
  refine okL_cons (ok_getP kw_658 cf_X12 rfl rfl (by decide) dX12_undo_39) rfl ?_
  refine okL_cons (ok_aload_n rfl dX12_undo_42) rfl ?_
  refine okL_cons (ok_getI kw_707 cf_X12 rfl rfl (by decide) dX12_undo_43) rfl ?_
  refine okL_cons (ok_iaload dX12_undo_46) rfl ?_
  refine okL_cons (ok_invV (M' := 169) kw_708 kw_709 kw_710 kw_711 kw_712 cf_X12 rfl (by decide +kernel) dX12_undo_47) rfl ?_
  exact okL_one (ok_ireturn rfl dX12_undo_50)
theorem dX12_image_0 : decode cX12_image 0 = .ok (.aload_n 0, 1) := by decide +kernel
theorem dX12_image_1 : decode cX12_image 1 = .ok (.iconst 0, 1) := by decide +kernel
theorem dX12_image_2 : decode cX12_image 2 = .ok (.putfield 152, 3) := by decide +kernel
theorem dX12_image_5 : decode cX12_image 5 = .ok (.iload_n 1, 1) := by decide +kernel
theorem dX12_image_6 : decode cX12_image 6 = .ok (.i2l, 1) := by decide +kernel
theorem dX12_image_7 : decode cX12_image 7 = .ok (.lconst 0, 1) := by decide +kernel
theorem dX12_image_8 : decode cX12_image 8 = .ok (.lconst 1, 1) := by decide +kernel
theorem dX12_image_9 : decode cX12_image 9 = .ok (.invokestatic 172, 3) := by decide +kernel
theorem dX12_image_12 : decode cX12_image 12 = .ok (.ifCond .ne 9, 3) := by decide +kernel
theorem dX12_image_15 : decode cX12_image 15 = .ok (.aload_n 0, 1) := by decide +kernel
theorem dX12_image_16 : decode cX12_image 16 = .ok (.iconst (-1), 1) := by decide +kernel
theorem dX12_image_17 : decode cX12_image 17 = .ok (.invokevirtual 161, 3) := by decide +kernel
theorem dX12_image_20 : decode cX12_image 20 = .ok (.ireturn, 1) := by decide +kernel
theorem dX12_image_21 : decode cX12_image 21 = .ok (.iconst 0, 1) := by decide +kernel
theorem dX12_image_22 : decode cX12_image 22 = .ok (.istore_n 2, 1) := by decide +kernel
theorem dX12_image_23 : decode cX12_image 23 = .ok (.iload_n 2, 1) := by decide +kernel
theorem dX12_image_24 : decode cX12_image 24 = .ok (.sipush 5468, 3) := by decide +kernel
theorem dX12_image_27 : decode cX12_image 27 = .ok (.if_icmp .ge 27, 3) := by decide +kernel
theorem dX12_image_30 : decode cX12_image 30 = .ok (.aload_n 0, 1) := by decide +kernel
theorem dX12_image_31 : decode cX12_image 31 = .ok (.getfield 16, 3) := by decide +kernel
theorem dX12_image_34 : decode cX12_image 34 = .ok (.sipush 5468, 3) := by decide +kernel
theorem dX12_image_37 : decode cX12_image 37 = .ok (.iload_n 1, 1) := by decide +kernel
theorem dX12_image_38 : decode cX12_image 38 = .ok (.imul, 1) := by decide +kernel
theorem dX12_image_39 : decode cX12_image 39 = .ok (.iload_n 2, 1) := by decide +kernel
theorem dX12_image_40 : decode cX12_image 40 = .ok (.iadd, 1) := by decide +kernel
theorem dX12_image_41 : decode cX12_image 41 = .ok (.aload_n 0, 1) := by decide +kernel
theorem dX12_image_42 : decode cX12_image 42 = .ok (.getfield 13, 3) := by decide +kernel
theorem dX12_image_45 : decode cX12_image 45 = .ok (.iload_n 2, 1) := by decide +kernel
theorem dX12_image_46 : decode cX12_image 46 = .ok (.iaload, 1) := by decide +kernel
theorem dX12_image_47 : decode cX12_image 47 = .ok (.iastore, 1) := by decide +kernel
theorem dX12_image_48 : decode cX12_image 48 = .ok (.iinc 2 1, 3) := by decide +kernel
theorem dX12_image_51 : decode cX12_image 51 = .ok (.goto (-28), 3) := by decide +kernel
theorem dX12_image_54 : decode cX12_image 54 = .ok (.aload_n 0, 1) := by decide +kernel
theorem dX12_image_55 : decode cX12_image 55 = .ok (.getfield 19, 3) := by decide +kernel
theorem dX12_image_58 : decode cX12_image 58 = .ok (.iload_n 1, 1) := by decide +kernel
theorem dX12_image_59 : decode cX12_image 59 = .ok (.iconst 1, 1) := by decide +kernel
theorem dX12_image_60 : decode cX12_image 60 = .ok (.bastore, 1) := by decide +kernel
theorem dX12_image_61 : decode cX12_image 61 = .ok (.aload_n 0, 1) := by decide +kernel
theorem dX12_image_62 : decode cX12_image 62 = .ok (.iconst 0, 1) := by decide +kernel
theorem dX12_image_63 : decode cX12_image 63 = .ok (.invokevirtual 161, 3) := by decide +kernel
theorem dX12_image_66 : decode cX12_image 66 = .ok (.ireturn, 1) := by decide +kernel
set_option maxRecDepth 100000 in
theorem okm_X12_image : okL RX12 cX12_image 3 (some .int) "image" pcX12_image opX12_image pcX12_image := by
  unfold opX12_image
  refine okL_cons (ok_aload_n rfl dX12_image_0) rfl ?_
  refine okL_cons (ok_iconst rfl dX12_image_1) rfl ?_
  refine okL_cons (ok_putI kw_717 cf_X12 rfl rfl (by decide) rfl dX12_image_2) rfl ?_
  refine okL_cons (ok_iload_n rfl dX12_image_5) rfl ?_
  refine okL_cons (ok_i2l dX12_image_6) rfl ?_
  refine okL_cons (ok_lconst rfl dX12_image_7) rfl ?_
  refine okL_cons (ok_lconst rfl dX12_image_8) rfl ?_
  refine okL_cons (ok_invS (M' := 165) kw_722 kw_723 kw_711 kw_724 rfl (by decide +kernel) dX12_image_9) rfl ?_
  refine okL_cons (ok_if_ne rfl dX12_image_12) rfl ?_
  refine okL_cons (ok_aload_n rfl dX12_image_15) rfl ?_
  refine okL_cons (ok_iconst rfl dX12_image_16) rfl ?_
  refine okL_cons (ok_invV (M' := 169) kw_708 kw_709 kw_710 kw_711 kw_712 cf_X12 rfl (by decide +kernel) dX12_image_17) rfl ?_
  refine okL_cons (ok_ireturn rfl dX12_image_20) rfl ?_
  refine okL_cons (ok_iconst rfl dX12_image_21) rfl ?_
  refine okL_cons (ok_istore_n rfl dX12_image_22) rfl ?_
  refine okL_cons (ok_iload_n rfl dX12_image_23) rfl ?_
  refine okL_cons (ok_sipush rfl dX12_image_24) rfl ?_
  refine okL_cons (ok_icmp_ge rfl dX12_image_27) rfl ?_
  refine okL_cons (ok_aload_n rfl dX12_image_30) rfl ?_
  refine okL_cons (ok_getP kw_655 cf_X12 rfl rfl (by decide) dX12_image_31) rfl ?_
  refine okL_cons (ok_sipush rfl dX12_image_34) rfl ?_
  refine okL_cons (ok_iload_n rfl dX12_image_37) rfl ?_
  refine okL_cons (ok_imul dX12_image_38) rfl ?_
  refine okL_cons (ok_iload_n rfl dX12_image_39) rfl ?_
  refine okL_cons (ok_iadd dX12_image_40) rfl ?_
  refine okL_cons (ok_aload_n rfl dX12_image_41) rfl ?_
  refine okL_cons (ok_getP kw_654 cf_X12 rfl rfl (by decide) dX12_image_42) rfl ?_
  refine okL_cons (ok_iload_n rfl dX12_image_45) rfl ?_
  refine okL_cons (ok_iaload dX12_image_46) rfl ?_
  refine okL_cons (ok_iastore dX12_image_47) rfl ?_
  refine okL_cons (ok_iinc rfl dX12_image_48) rfl ?_
  refine okL_cons (ok_goto rfl dX12_image_51) rfl ?_
  refine okL_cons (ok_aload_n rfl dX12_image_54) rfl ?_
  refine okL_cons (ok_getP kw_656 cf_X12 rfl rfl (by decide) dX12_image_55) rfl ?_
  refine okL_cons (ok_iload_n rfl dX12_image_58) rfl ?_
  refine okL_cons (ok_iconst rfl dX12_image_59) rfl ?_
  refine okL_cons (ok_bastore dX12_image_60) rfl ?_
  refine okL_cons (ok_aload_n rfl dX12_image_61) rfl ?_
  refine okL_cons (ok_iconst rfl dX12_image_62) rfl ?_
  refine okL_cons (ok_invV (M' := 169) kw_708 kw_709 kw_710 kw_711 kw_712 cf_X12 rfl (by decide +kernel) dX12_image_63) rfl ?_
  exact okL_one (ok_ireturn rfl dX12_image_66)
theorem dX12_back_0 : decode cX12_back 0 = .ok (.aload_n 0, 1) := by decide +kernel
theorem dX12_back_1 : decode cX12_back 1 = .ok (.iconst 0, 1) := by decide +kernel
theorem dX12_back_2 : decode cX12_back 2 = .ok (.putfield 152, 3) := by decide +kernel
theorem dX12_back_5 : decode cX12_back 5 = .ok (.iload_n 1, 1) := by decide +kernel
theorem dX12_back_6 : decode cX12_back 6 = .ok (.i2l, 1) := by decide +kernel
theorem dX12_back_7 : decode cX12_back 7 = .ok (.lconst 0, 1) := by decide +kernel
theorem dX12_back_8 : decode cX12_back 8 = .ok (.lconst 1, 1) := by decide +kernel
theorem dX12_back_9 : decode cX12_back 9 = .ok (.invokestatic 172, 3) := by decide +kernel
theorem dX12_back_12 : decode cX12_back 12 = .ok (.ifCond .ne 9, 3) := by decide +kernel
theorem dX12_back_15 : decode cX12_back 15 = .ok (.aload_n 0, 1) := by decide +kernel
theorem dX12_back_16 : decode cX12_back 16 = .ok (.iconst (-1), 1) := by decide +kernel
theorem dX12_back_17 : decode cX12_back 17 = .ok (.invokevirtual 161, 3) := by decide +kernel
theorem dX12_back_20 : decode cX12_back 20 = .ok (.ireturn, 1) := by decide +kernel
theorem dX12_back_21 : decode cX12_back 21 = .ok (.aload_n 0, 1) := by decide +kernel
theorem dX12_back_22 : decode cX12_back 22 = .ok (.getfield 19, 3) := by decide +kernel
theorem dX12_back_25 : decode cX12_back 25 = .ok (.iload_n 1, 1) := by decide +kernel
theorem dX12_back_26 : decode cX12_back 26 = .ok (.baload, 1) := by decide +kernel
theorem dX12_back_27 : decode cX12_back 27 = .ok (.ifCond .ne 10, 3) := by decide +kernel
theorem dX12_back_30 : decode cX12_back 30 = .ok (.aload_n 0, 1) := by decide +kernel
theorem dX12_back_31 : decode cX12_back 31 = .ok (.bipush (-2), 2) := by decide +kernel
theorem dX12_back_33 : decode cX12_back 33 = .ok (.invokevirtual 161, 3) := by decide +kernel
theorem dX12_back_36 : decode cX12_back 36 = .ok (.ireturn, 1) := by decide +kernel
theorem dX12_back_37 : decode cX12_back 37 = .ok (.iconst 0, 1) := by decide +kernel
theorem dX12_back_38 : decode cX12_back 38 = .ok (.istore_n 2, 1) := by decide +kernel
theorem dX12_back_39 : decode cX12_back 39 = .ok (.iload_n 2, 1) := by decide +kernel
theorem dX12_back_40 : decode cX12_back 40 = .ok (.sipush 5468, 3) := by decide +kernel
theorem dX12_back_43 : decode cX12_back 43 = .ok (.if_icmp .ge 27, 3) := by decide +kernel
theorem dX12_back_46 : decode cX12_back 46 = .ok (.aload_n 0, 1) := by decide +kernel
theorem dX12_back_47 : decode cX12_back 47 = .ok (.getfield 13, 3) := by decide +kernel
theorem dX12_back_50 : decode cX12_back 50 = .ok (.iload_n 2, 1) := by decide +kernel
theorem dX12_back_51 : decode cX12_back 51 = .ok (.aload_n 0, 1) := by decide +kernel
theorem dX12_back_52 : decode cX12_back 52 = .ok (.getfield 16, 3) := by decide +kernel
theorem dX12_back_55 : decode cX12_back 55 = .ok (.sipush 5468, 3) := by decide +kernel
theorem dX12_back_58 : decode cX12_back 58 = .ok (.iload_n 1, 1) := by decide +kernel
theorem dX12_back_59 : decode cX12_back 59 = .ok (.imul, 1) := by decide +kernel
theorem dX12_back_60 : decode cX12_back 60 = .ok (.iload_n 2, 1) := by decide +kernel
theorem dX12_back_61 : decode cX12_back 61 = .ok (.iadd, 1) := by decide +kernel
theorem dX12_back_62 : decode cX12_back 62 = .ok (.iaload, 1) := by decide +kernel
theorem dX12_back_63 : decode cX12_back 63 = .ok (.iastore, 1) := by decide +kernel
theorem dX12_back_64 : decode cX12_back 64 = .ok (.iinc 2 1, 3) := by decide +kernel
theorem dX12_back_67 : decode cX12_back 67 = .ok (.goto (-28), 3) := by decide +kernel
theorem dX12_back_70 : decode cX12_back 70 = .ok (.aload_n 0, 1) := by decide +kernel
theorem dX12_back_71 : decode cX12_back 71 = .ok (.iconst 0, 1) := by decide +kernel
theorem dX12_back_72 : decode cX12_back 72 = .ok (.invokevirtual 176, 3) := by decide +kernel
theorem dX12_back_75 : decode cX12_back 75 = .ok (.ireturn, 1) := by decide +kernel
set_option maxRecDepth 100000 in
theorem okm_X12_back : okL RX12 cX12_back 3 (some .int) "back" pcX12_back opX12_back pcX12_back := by
  unfold opX12_back
  refine okL_cons (ok_aload_n rfl dX12_back_0) rfl ?_
  refine okL_cons (ok_iconst rfl dX12_back_1) rfl ?_
  refine okL_cons (ok_putI kw_717 cf_X12 rfl rfl (by decide) rfl dX12_back_2) rfl ?_
  refine okL_cons (ok_iload_n rfl dX12_back_5) rfl ?_
  refine okL_cons (ok_i2l dX12_back_6) rfl ?_
  refine okL_cons (ok_lconst rfl dX12_back_7) rfl ?_
  refine okL_cons (ok_lconst rfl dX12_back_8) rfl ?_
  refine okL_cons (ok_invS (M' := 165) kw_722 kw_723 kw_711 kw_724 rfl (by decide +kernel) dX12_back_9) rfl ?_
  refine okL_cons (ok_if_ne rfl dX12_back_12) rfl ?_
  refine okL_cons (ok_aload_n rfl dX12_back_15) rfl ?_
  refine okL_cons (ok_iconst rfl dX12_back_16) rfl ?_
  refine okL_cons (ok_invV (M' := 169) kw_708 kw_709 kw_710 kw_711 kw_712 cf_X12 rfl (by decide +kernel) dX12_back_17) rfl ?_
  refine okL_cons (ok_ireturn rfl dX12_back_20) rfl ?_
  refine okL_cons (ok_aload_n rfl dX12_back_21) rfl ?_
  refine okL_cons (ok_getP kw_656 cf_X12 rfl rfl (by decide) dX12_back_22) rfl ?_
  refine okL_cons (ok_iload_n rfl dX12_back_25) rfl ?_
  refine okL_cons (ok_baload dX12_back_26) rfl ?_
  refine okL_cons (ok_if_ne rfl dX12_back_27) rfl ?_
  refine okL_cons (ok_aload_n rfl dX12_back_30) rfl ?_
  refine okL_cons (ok_bipush rfl dX12_back_31) rfl ?_
  refine okL_cons (ok_invV (M' := 169) kw_708 kw_709 kw_710 kw_711 kw_712 cf_X12 rfl (by decide +kernel) dX12_back_33) rfl ?_
  refine okL_cons (ok_ireturn rfl dX12_back_36) rfl ?_
  refine okL_cons (ok_iconst rfl dX12_back_37) rfl ?_
  refine okL_cons (ok_istore_n rfl dX12_back_38) rfl ?_
  refine okL_cons (ok_iload_n rfl dX12_back_39) rfl ?_
  refine okL_cons (ok_sipush rfl dX12_back_40) rfl ?_
  refine okL_cons (ok_icmp_ge rfl dX12_back_43) rfl ?_
  refine okL_cons (ok_aload_n rfl dX12_back_46) rfl ?_
  refine okL_cons (ok_getP kw_654 cf_X12 rfl rfl (by decide) dX12_back_47) rfl ?_
  refine okL_cons (ok_iload_n rfl dX12_back_50) rfl ?_
  refine okL_cons (ok_aload_n rfl dX12_back_51) rfl ?_
  refine okL_cons (ok_getP kw_655 cf_X12 rfl rfl (by decide) dX12_back_52) rfl ?_
  refine okL_cons (ok_sipush rfl dX12_back_55) rfl ?_
  refine okL_cons (ok_iload_n rfl dX12_back_58) rfl ?_
  refine okL_cons (ok_imul dX12_back_59) rfl ?_
  refine okL_cons (ok_iload_n rfl dX12_back_60) rfl ?_
  refine okL_cons (ok_iadd dX12_back_61) rfl ?_
  refine okL_cons (ok_iaload dX12_back_62) rfl ?_
  refine okL_cons (ok_iastore dX12_back_63) rfl ?_
  refine okL_cons (ok_iinc rfl dX12_back_64) rfl ?_
  refine okL_cons (ok_goto rfl dX12_back_67) rfl ?_
  refine okL_cons (ok_aload_n rfl dX12_back_70) rfl ?_
  refine okL_cons (ok_iconst rfl dX12_back_71) rfl ?_
  refine okL_cons (ok_invV (M' := 171) kw_725 kw_726 kw_727 kw_711 kw_728 cf_X12 rfl (by decide +kernel) dX12_back_72) rfl ?_
  exact okL_one (ok_ireturn rfl dX12_back_75)
theorem dX12_isCell_0 : decode cX12_isCell 0 = .ok (.iload_n 0, 1) := by decide +kernel
theorem dX12_isCell_1 : decode cX12_isCell 1 = .ok (.i2l, 1) := by decide +kernel
theorem dX12_isCell_2 : decode cX12_isCell 2 = .ok (.lconst 0, 1) := by decide +kernel
theorem dX12_isCell_3 : decode cX12_isCell 3 = .ok (.ldc2_w 57, 3) := by decide +kernel
theorem dX12_isCell_6 : decode cX12_isCell 6 = .ok (.invokestatic 172, 3) := by decide +kernel
theorem dX12_isCell_9 : decode cX12_isCell 9 = .ok (.ireturn, 1) := by decide +kernel
set_option maxRecDepth 100000 in
theorem okm_X12_isCell : okL RX12 cX12_isCell 1 (some .boolean) "isCell" pcX12_isCell opX12_isCell pcX12_isCell := by
  unfold opX12_isCell
  refine okL_cons (ok_iload_n rfl dX12_isCell_0) rfl ?_
  refine okL_cons (ok_i2l dX12_isCell_1) rfl ?_
  refine okL_cons (ok_lconst rfl dX12_isCell_2) rfl ?_
  refine okL_cons (ok_ldc2 kw_668 dX12_isCell_3) rfl ?_
  refine okL_cons (ok_invS (M' := 165) kw_722 kw_723 kw_711 kw_724 rfl (by decide +kernel) dX12_isCell_6) rfl ?_
  exact okL_one (ok_zreturn rfl dX12_isCell_9)
theorem dX12_isLetter1_0 : decode cX12_isLetter1 0 = .ok (.iload_n 0, 1) := by decide +kernel
theorem dX12_isLetter1_1 : decode cX12_isLetter1 1 = .ok (.i2l, 1) := by decide +kernel
theorem dX12_isLetter1_2 : decode cX12_isLetter1 2 = .ok (.lconst 0, 1) := by decide +kernel
theorem dX12_isLetter1_3 : decode cX12_isLetter1 3 = .ok (.ldc2_w 179, 3) := by decide +kernel
theorem dX12_isLetter1_6 : decode cX12_isLetter1 6 = .ok (.invokestatic 172, 3) := by decide +kernel
theorem dX12_isLetter1_9 : decode cX12_isLetter1 9 = .ok (.ireturn, 1) := by decide +kernel
set_option maxRecDepth 100000 in
theorem okm_X12_isLetter1 : okL RX12 cX12_isLetter1 1 (some .boolean) "isLetter1" pcX12_isLetter1 opX12_isLetter1 pcX12_isLetter1 := by
  unfold opX12_isLetter1
  refine okL_cons (ok_iload_n rfl dX12_isLetter1_0) rfl ?_
  refine okL_cons (ok_i2l dX12_isLetter1_1) rfl ?_
  refine okL_cons (ok_lconst rfl dX12_isLetter1_2) rfl ?_
  refine okL_cons (ok_ldc2 kw_729 dX12_isLetter1_3) rfl ?_
  refine okL_cons (ok_invS (M' := 165) kw_722 kw_723 kw_711 kw_724 rfl (by decide +kernel) dX12_isLetter1_6) rfl ?_
  exact okL_one (ok_zreturn rfl dX12_isLetter1_9)
theorem dX12_hasDoor_0 : decode cX12_hasDoor 0 = .ok (.aload_n 0, 1) := by decide +kernel
theorem dX12_hasDoor_1 : decode cX12_hasDoor 1 = .ok (.getfield 13, 3) := by decide +kernel
theorem dX12_hasDoor_4 : decode cX12_hasDoor 4 = .ok (.iconst 3, 1) := by decide +kernel
theorem dX12_hasDoor_5 : decode cX12_hasDoor 5 = .ok (.iaload, 1) := by decide +kernel
theorem dX12_hasDoor_6 : decode cX12_hasDoor 6 = .ok (.iload_n 1, 1) := by decide +kernel
theorem dX12_hasDoor_7 : decode cX12_hasDoor 7 = .ok (.invokestatic 181, 3) := by decide +kernel
theorem dX12_hasDoor_10 : decode cX12_hasDoor 10 = .ok (.ireturn, 1) := by decide +kernel
set_option maxRecDepth 100000 in
theorem okm_X12_hasDoor : okL RX12 cX12_hasDoor 2 (some .boolean) "hasDoor" pcX12_hasDoor opX12_hasDoor pcX12_hasDoor := by
  unfold opX12_hasDoor
  refine okL_cons (ok_aload_n rfl dX12_hasDoor_0) rfl ?_
  refine okL_cons (ok_getP kw_654 cf_X12 rfl rfl (by decide) dX12_hasDoor_1) rfl ?_
  refine okL_cons (ok_iconst rfl dX12_hasDoor_4) rfl ?_
  refine okL_cons (ok_iaload dX12_hasDoor_5) rfl ?_
  refine okL_cons (ok_iload_n rfl dX12_hasDoor_6) rfl ?_
  refine okL_cons (ok_invS (M' := 166) kw_730 kw_731 kw_711 kw_732 rfl (by decide +kernel) dX12_hasDoor_7) rfl ?_
  exact okL_one (ok_zreturn rfl dX12_hasDoor_10)
theorem dX12_lettersOn_0 : decode cX12_lettersOn 0 = .ok (.iconst 0, 1) := by decide +kernel
theorem dX12_lettersOn_1 : decode cX12_lettersOn 1 = .ok (.istore_n 2, 1) := by decide +kernel
theorem dX12_lettersOn_2 : decode cX12_lettersOn 2 = .ok (.iconst 0, 1) := by decide +kernel
theorem dX12_lettersOn_3 : decode cX12_lettersOn 3 = .ok (.istore_n 3, 1) := by decide +kernel
theorem dX12_lettersOn_4 : decode cX12_lettersOn 4 = .ok (.iload_n 3, 1) := by decide +kernel
theorem dX12_lettersOn_5 : decode cX12_lettersOn 5 = .ok (.bipush 8, 2) := by decide +kernel
theorem dX12_lettersOn_7 : decode cX12_lettersOn 7 = .ok (.if_icmp .ge 45, 3) := by decide +kernel
theorem dX12_lettersOn_10 : decode cX12_lettersOn 10 = .ok (.iload_n 2, 1) := by decide +kernel
theorem dX12_lettersOn_11 : decode cX12_lettersOn 11 = .ok (.aload_n 0, 1) := by decide +kernel
theorem dX12_lettersOn_12 : decode cX12_lettersOn 12 = .ok (.getfield 13, 3) := by decide +kernel
theorem dX12_lettersOn_15 : decode cX12_lettersOn 15 = .ok (.bipush 32, 2) := by decide +kernel
theorem dX12_lettersOn_17 : decode cX12_lettersOn 17 = .ok (.iload_n 3, 1) := by decide +kernel
theorem dX12_lettersOn_18 : decode cX12_lettersOn 18 = .ok (.iadd, 1) := by decide +kernel
theorem dX12_lettersOn_19 : decode cX12_lettersOn 19 = .ok (.iaload, 1) := by decide +kernel
theorem dX12_lettersOn_20 : decode cX12_lettersOn 20 = .ok (.iconst 1, 1) := by decide +kernel
theorem dX12_lettersOn_21 : decode cX12_lettersOn 21 = .ok (.if_icmp .ne 22, 3) := by decide +kernel
theorem dX12_lettersOn_24 : decode cX12_lettersOn 24 = .ok (.aload_n 0, 1) := by decide +kernel
theorem dX12_lettersOn_25 : decode cX12_lettersOn 25 = .ok (.getfield 13, 3) := by decide +kernel
theorem dX12_lettersOn_28 : decode cX12_lettersOn 28 = .ok (.bipush 40, 2) := by decide +kernel
theorem dX12_lettersOn_30 : decode cX12_lettersOn 30 = .ok (.iload_n 3, 1) := by decide +kernel
theorem dX12_lettersOn_31 : decode cX12_lettersOn 31 = .ok (.iadd, 1) := by decide +kernel
theorem dX12_lettersOn_32 : decode cX12_lettersOn 32 = .ok (.iaload, 1) := by decide +kernel
theorem dX12_lettersOn_33 : decode cX12_lettersOn 33 = .ok (.iload_n 1, 1) := by decide +kernel
theorem dX12_lettersOn_34 : decode cX12_lettersOn 34 = .ok (.if_icmp .ne 9, 3) := by decide +kernel
theorem dX12_lettersOn_37 : decode cX12_lettersOn 37 = .ok (.iconst 1, 1) := by decide +kernel
theorem dX12_lettersOn_38 : decode cX12_lettersOn 38 = .ok (.iload_n 3, 1) := by decide +kernel
theorem dX12_lettersOn_39 : decode cX12_lettersOn 39 = .ok (.ishl, 1) := by decide +kernel
theorem dX12_lettersOn_40 : decode cX12_lettersOn 40 = .ok (.goto 4, 3) := by decide +kernel
theorem dX12_lettersOn_43 : decode cX12_lettersOn 43 = .ok (.iconst 0, 1) := by decide +kernel
theorem dX12_lettersOn_44 : decode cX12_lettersOn 44 = .ok (.ior, 1) := by decide +kernel
theorem dX12_lettersOn_45 : decode cX12_lettersOn 45 = .ok (.istore_n 2, 1) := by decide +kernel
theorem dX12_lettersOn_46 : decode cX12_lettersOn 46 = .ok (.iinc 3 1, 3) := by decide +kernel
theorem dX12_lettersOn_49 : decode cX12_lettersOn 49 = .ok (.goto (-45), 3) := by decide +kernel
theorem dX12_lettersOn_52 : decode cX12_lettersOn 52 = .ok (.iload_n 2, 1) := by decide +kernel
theorem dX12_lettersOn_53 : decode cX12_lettersOn 53 = .ok (.ireturn, 1) := by decide +kernel
set_option maxRecDepth 100000 in
theorem okm_X12_lettersOn : okL RX12 cX12_lettersOn 4 (some .int) "lettersOn" pcX12_lettersOn opX12_lettersOn pcX12_lettersOn := by
  unfold opX12_lettersOn
  refine okL_cons (ok_iconst rfl dX12_lettersOn_0) rfl ?_
  refine okL_cons (ok_istore_n rfl dX12_lettersOn_1) rfl ?_
  refine okL_cons (ok_iconst rfl dX12_lettersOn_2) rfl ?_
  refine okL_cons (ok_istore_n rfl dX12_lettersOn_3) rfl ?_
  refine okL_cons (ok_iload_n rfl dX12_lettersOn_4) rfl ?_
  refine okL_cons (ok_bipush rfl dX12_lettersOn_5) rfl ?_
  refine okL_cons (ok_icmp_ge rfl dX12_lettersOn_7) rfl ?_
  refine okL_cons (ok_iload_n rfl dX12_lettersOn_10) rfl ?_
  refine okL_cons (ok_aload_n rfl dX12_lettersOn_11) rfl ?_
  refine okL_cons (ok_getP kw_654 cf_X12 rfl rfl (by decide) dX12_lettersOn_12) rfl ?_
  refine okL_cons (ok_bipush rfl dX12_lettersOn_15) rfl ?_
  refine okL_cons (ok_iload_n rfl dX12_lettersOn_17) rfl ?_
  refine okL_cons (ok_iadd dX12_lettersOn_18) rfl ?_
  refine okL_cons (ok_iaload dX12_lettersOn_19) rfl ?_
  refine okL_cons (ok_iconst rfl dX12_lettersOn_20) rfl ?_
  refine okL_cons (ok_icmp_ne rfl dX12_lettersOn_21) rfl ?_
  refine okL_cons (ok_aload_n rfl dX12_lettersOn_24) rfl ?_
  refine okL_cons (ok_getP kw_654 cf_X12 rfl rfl (by decide) dX12_lettersOn_25) rfl ?_
  refine okL_cons (ok_bipush rfl dX12_lettersOn_28) rfl ?_
  refine okL_cons (ok_iload_n rfl dX12_lettersOn_30) rfl ?_
  refine okL_cons (ok_iadd dX12_lettersOn_31) rfl ?_
  refine okL_cons (ok_iaload dX12_lettersOn_32) rfl ?_
  refine okL_cons (ok_iload_n rfl dX12_lettersOn_33) rfl ?_
  refine okL_cons (ok_icmp_ne rfl dX12_lettersOn_34) rfl ?_
  refine okL_cons (ok_iconst rfl dX12_lettersOn_37) rfl ?_
  refine okL_cons (ok_iload_n rfl dX12_lettersOn_38) rfl ?_
  refine okL_cons (ok_ishl dX12_lettersOn_39) rfl ?_
  refine okL_cons (ok_goto rfl dX12_lettersOn_40) rfl ?_
  refine okL_cons (ok_iconst rfl dX12_lettersOn_43) rfl ?_
  refine okL_cons (ok_ior dX12_lettersOn_44) rfl ?_
  refine okL_cons (ok_istore_n rfl dX12_lettersOn_45) rfl ?_
  refine okL_cons (ok_iinc rfl dX12_lettersOn_46) rfl ?_
  refine okL_cons (ok_goto rfl dX12_lettersOn_49) rfl ?_
  refine okL_cons (ok_iload_n rfl dX12_lettersOn_52) rfl ?_
  exact okL_one (ok_ireturn rfl dX12_lettersOn_53)
theorem dX12_howMany_0 : decode cX12_howMany 0 = .ok (.iconst 0, 1) := by decide +kernel
theorem dX12_howMany_1 : decode cX12_howMany 1 = .ok (.istore_n 2, 1) := by decide +kernel
theorem dX12_howMany_2 : decode cX12_howMany 2 = .ok (.iconst 0, 1) := by decide +kernel
theorem dX12_howMany_3 : decode cX12_howMany 3 = .ok (.istore_n 3, 1) := by decide +kernel
theorem dX12_howMany_4 : decode cX12_howMany 4 = .ok (.iload_n 3, 1) := by decide +kernel
theorem dX12_howMany_5 : decode cX12_howMany 5 = .ok (.bipush 8, 2) := by decide +kernel
theorem dX12_howMany_7 : decode cX12_howMany 7 = .ok (.if_icmp .ge 30, 3) := by decide +kernel
theorem dX12_howMany_10 : decode cX12_howMany 10 = .ok (.iload_n 2, 1) := by decide +kernel
theorem dX12_howMany_11 : decode cX12_howMany 11 = .ok (.aload_n 0, 1) := by decide +kernel
theorem dX12_howMany_12 : decode cX12_howMany 12 = .ok (.getfield 13, 3) := by decide +kernel
theorem dX12_howMany_15 : decode cX12_howMany 15 = .ok (.bipush 32, 2) := by decide +kernel
theorem dX12_howMany_17 : decode cX12_howMany 17 = .ok (.iload_n 3, 1) := by decide +kernel
theorem dX12_howMany_18 : decode cX12_howMany 18 = .ok (.iadd, 1) := by decide +kernel
theorem dX12_howMany_19 : decode cX12_howMany 19 = .ok (.iaload, 1) := by decide +kernel
theorem dX12_howMany_20 : decode cX12_howMany 20 = .ok (.iload_n 1, 1) := by decide +kernel
theorem dX12_howMany_21 : decode cX12_howMany 21 = .ok (.if_icmp .ne 7, 3) := by decide +kernel
theorem dX12_howMany_24 : decode cX12_howMany 24 = .ok (.iconst 1, 1) := by decide +kernel
theorem dX12_howMany_25 : decode cX12_howMany 25 = .ok (.goto 4, 3) := by decide +kernel
theorem dX12_howMany_28 : decode cX12_howMany 28 = .ok (.iconst 0, 1) := by decide +kernel
theorem dX12_howMany_29 : decode cX12_howMany 29 = .ok (.iadd, 1) := by decide +kernel
theorem dX12_howMany_30 : decode cX12_howMany 30 = .ok (.istore_n 2, 1) := by decide +kernel
theorem dX12_howMany_31 : decode cX12_howMany 31 = .ok (.iinc 3 1, 3) := by decide +kernel
theorem dX12_howMany_34 : decode cX12_howMany 34 = .ok (.goto (-30), 3) := by decide +kernel
theorem dX12_howMany_37 : decode cX12_howMany 37 = .ok (.iload_n 2, 1) := by decide +kernel
theorem dX12_howMany_38 : decode cX12_howMany 38 = .ok (.ireturn, 1) := by decide +kernel
set_option maxRecDepth 100000 in
theorem okm_X12_howMany : okL RX12 cX12_howMany 4 (some .int) "howMany" pcX12_howMany opX12_howMany pcX12_howMany := by
  unfold opX12_howMany
  refine okL_cons (ok_iconst rfl dX12_howMany_0) rfl ?_
  refine okL_cons (ok_istore_n rfl dX12_howMany_1) rfl ?_
  refine okL_cons (ok_iconst rfl dX12_howMany_2) rfl ?_
  refine okL_cons (ok_istore_n rfl dX12_howMany_3) rfl ?_
  refine okL_cons (ok_iload_n rfl dX12_howMany_4) rfl ?_
  refine okL_cons (ok_bipush rfl dX12_howMany_5) rfl ?_
  refine okL_cons (ok_icmp_ge rfl dX12_howMany_7) rfl ?_
  refine okL_cons (ok_iload_n rfl dX12_howMany_10) rfl ?_
  refine okL_cons (ok_aload_n rfl dX12_howMany_11) rfl ?_
  refine okL_cons (ok_getP kw_654 cf_X12 rfl rfl (by decide) dX12_howMany_12) rfl ?_
  refine okL_cons (ok_bipush rfl dX12_howMany_15) rfl ?_
  refine okL_cons (ok_iload_n rfl dX12_howMany_17) rfl ?_
  refine okL_cons (ok_iadd dX12_howMany_18) rfl ?_
  refine okL_cons (ok_iaload dX12_howMany_19) rfl ?_
  refine okL_cons (ok_iload_n rfl dX12_howMany_20) rfl ?_
  refine okL_cons (ok_icmp_ne rfl dX12_howMany_21) rfl ?_
  refine okL_cons (ok_iconst rfl dX12_howMany_24) rfl ?_
  refine okL_cons (ok_goto rfl dX12_howMany_25) rfl ?_
  refine okL_cons (ok_iconst rfl dX12_howMany_28) rfl ?_
  refine okL_cons (ok_iadd dX12_howMany_29) rfl ?_
  refine okL_cons (ok_istore_n rfl dX12_howMany_30) rfl ?_
  refine okL_cons (ok_iinc rfl dX12_howMany_31) rfl ?_
  refine okL_cons (ok_goto rfl dX12_howMany_34) rfl ?_
  refine okL_cons (ok_iload_n rfl dX12_howMany_37) rfl ?_
  exact okL_one (ok_ireturn rfl dX12_howMany_38)
theorem dX12_beside_0 : decode cX12_beside 0 = .ok (.iload_n 0, 1) := by decide +kernel
theorem dX12_beside_1 : decode cX12_beside 1 = .ok (.iconst 5, 1) := by decide +kernel
theorem dX12_beside_2 : decode cX12_beside 2 = .ok (.irem, 1) := by decide +kernel
theorem dX12_beside_3 : decode cX12_beside 3 = .ok (.iload_n 1, 1) := by decide +kernel
theorem dX12_beside_4 : decode cX12_beside 4 = .ok (.iconst 1, 1) := by decide +kernel
theorem dX12_beside_5 : decode cX12_beside 5 = .ok (.if_icmp .ne 7, 3) := by decide +kernel
theorem dX12_beside_8 : decode cX12_beside 8 = .ok (.iconst 1, 1) := by decide +kernel
theorem dX12_beside_9 : decode cX12_beside 9 = .ok (.goto 13, 3) := by decide +kernel
theorem dX12_beside_12 : decode cX12_beside 12 = .ok (.iload_n 1, 1) := by decide +kernel
theorem dX12_beside_13 : decode cX12_beside 13 = .ok (.iconst 3, 1) := by decide +kernel
theorem dX12_beside_14 : decode cX12_beside 14 = .ok (.if_icmp .ne 7, 3) := by decide +kernel
theorem dX12_beside_17 : decode cX12_beside 17 = .ok (.iconst (-1), 1) := by decide +kernel
theorem dX12_beside_18 : decode cX12_beside 18 = .ok (.goto 4, 3) := by decide +kernel
theorem dX12_beside_21 : decode cX12_beside 21 = .ok (.iconst 0, 1) := by decide +kernel
theorem dX12_beside_22 : decode cX12_beside 22 = .ok (.iadd, 1) := by decide +kernel
theorem dX12_beside_23 : decode cX12_beside 23 = .ok (.istore_n 2, 1) := by decide +kernel
theorem dX12_beside_24 : decode cX12_beside 24 = .ok (.iload_n 0, 1) := by decide +kernel
theorem dX12_beside_25 : decode cX12_beside 25 = .ok (.iconst 5, 1) := by decide +kernel
theorem dX12_beside_26 : decode cX12_beside 26 = .ok (.idiv, 1) := by decide +kernel
theorem dX12_beside_27 : decode cX12_beside 27 = .ok (.iload_n 1, 1) := by decide +kernel
theorem dX12_beside_28 : decode cX12_beside 28 = .ok (.ifCond .ne 7, 3) := by decide +kernel
theorem dX12_beside_31 : decode cX12_beside 31 = .ok (.iconst 1, 1) := by decide +kernel
theorem dX12_beside_32 : decode cX12_beside 32 = .ok (.goto 13, 3) := by decide +kernel
theorem dX12_beside_35 : decode cX12_beside 35 = .ok (.iload_n 1, 1) := by decide +kernel
theorem dX12_beside_36 : decode cX12_beside 36 = .ok (.iconst 2, 1) := by decide +kernel
theorem dX12_beside_37 : decode cX12_beside 37 = .ok (.if_icmp .ne 7, 3) := by decide +kernel
theorem dX12_beside_40 : decode cX12_beside 40 = .ok (.iconst (-1), 1) := by decide +kernel
theorem dX12_beside_41 : decode cX12_beside 41 = .ok (.goto 4, 3) := by decide +kernel
theorem dX12_beside_44 : decode cX12_beside 44 = .ok (.iconst 0, 1) := by decide +kernel
theorem dX12_beside_45 : decode cX12_beside 45 = .ok (.iadd, 1) := by decide +kernel
theorem dX12_beside_46 : decode cX12_beside 46 = .ok (.istore_n 3, 1) := by decide +kernel
theorem dX12_beside_47 : decode cX12_beside 47 = .ok (.iload_n 2, 1) := by decide +kernel
theorem dX12_beside_48 : decode cX12_beside 48 = .ok (.i2l, 1) := by decide +kernel
theorem dX12_beside_49 : decode cX12_beside 49 = .ok (.lconst 0, 1) := by decide +kernel
theorem dX12_beside_50 : decode cX12_beside 50 = .ok (.ldc2_w 185, 3) := by decide +kernel
theorem dX12_beside_53 : decode cX12_beside 53 = .ok (.invokestatic 172, 3) := by decide +kernel
theorem dX12_beside_56 : decode cX12_beside 56 = .ok (.ifCond .eq 23, 3) := by decide +kernel
theorem dX12_beside_59 : decode cX12_beside 59 = .ok (.iload_n 3, 1) := by decide +kernel
theorem dX12_beside_60 : decode cX12_beside 60 = .ok (.i2l, 1) := by decide +kernel
theorem dX12_beside_61 : decode cX12_beside 61 = .ok (.lconst 0, 1) := by decide +kernel
theorem dX12_beside_62 : decode cX12_beside 62 = .ok (.ldc2_w 185, 3) := by decide +kernel
theorem dX12_beside_65 : decode cX12_beside 65 = .ok (.invokestatic 172, 3) := by decide +kernel
theorem dX12_beside_68 : decode cX12_beside 68 = .ok (.ifCond .eq 11, 3) := by decide +kernel
theorem dX12_beside_71 : decode cX12_beside 71 = .ok (.iconst 5, 1) := by decide +kernel
theorem dX12_beside_72 : decode cX12_beside 72 = .ok (.iload_n 3, 1) := by decide +kernel
theorem dX12_beside_73 : decode cX12_beside 73 = .ok (.imul, 1) := by decide +kernel
theorem dX12_beside_74 : decode cX12_beside 74 = .ok (.iload_n 2, 1) := by decide +kernel
theorem dX12_beside_75 : decode cX12_beside 75 = .ok (.iadd, 1) := by decide +kernel
theorem dX12_beside_76 : decode cX12_beside 76 = .ok (.goto 4, 3) := by decide +kernel
theorem dX12_beside_79 : decode cX12_beside 79 = .ok (.iconst (-1), 1) := by decide +kernel
theorem dX12_beside_80 : decode cX12_beside 80 = .ok (.ireturn, 1) := by decide +kernel
set_option maxRecDepth 100000 in
theorem okm_X12_beside : okL RX12 cX12_beside 4 (some .int) "beside" pcX12_beside opX12_beside pcX12_beside := by
  unfold opX12_beside
  refine okL_cons (ok_iload_n rfl dX12_beside_0) rfl ?_
  refine okL_cons (ok_iconst rfl dX12_beside_1) rfl ?_
  refine okL_cons (ok_irem dX12_beside_2) rfl ?_
  refine okL_cons (ok_iload_n rfl dX12_beside_3) rfl ?_
  refine okL_cons (ok_iconst rfl dX12_beside_4) rfl ?_
  refine okL_cons (ok_icmp_ne rfl dX12_beside_5) rfl ?_
  refine okL_cons (ok_iconst rfl dX12_beside_8) rfl ?_
  refine okL_cons (ok_goto rfl dX12_beside_9) rfl ?_
  refine okL_cons (ok_iload_n rfl dX12_beside_12) rfl ?_
  refine okL_cons (ok_iconst rfl dX12_beside_13) rfl ?_
  refine okL_cons (ok_icmp_ne rfl dX12_beside_14) rfl ?_
  refine okL_cons (ok_iconst rfl dX12_beside_17) rfl ?_
  refine okL_cons (ok_goto rfl dX12_beside_18) rfl ?_
  refine okL_cons (ok_iconst rfl dX12_beside_21) rfl ?_
  refine okL_cons (ok_iadd dX12_beside_22) rfl ?_
  refine okL_cons (ok_istore_n rfl dX12_beside_23) rfl ?_
  refine okL_cons (ok_iload_n rfl dX12_beside_24) rfl ?_
  refine okL_cons (ok_iconst rfl dX12_beside_25) rfl ?_
  refine okL_cons (ok_idiv dX12_beside_26) rfl ?_
  refine okL_cons (ok_iload_n rfl dX12_beside_27) rfl ?_
  refine okL_cons (ok_if_ne rfl dX12_beside_28) rfl ?_
  refine okL_cons (ok_iconst rfl dX12_beside_31) rfl ?_
  refine okL_cons (ok_goto rfl dX12_beside_32) rfl ?_
  refine okL_cons (ok_iload_n rfl dX12_beside_35) rfl ?_
  refine okL_cons (ok_iconst rfl dX12_beside_36) rfl ?_
  refine okL_cons (ok_icmp_ne rfl dX12_beside_37) rfl ?_
  refine okL_cons (ok_iconst rfl dX12_beside_40) rfl ?_
  refine okL_cons (ok_goto rfl dX12_beside_41) rfl ?_
  refine okL_cons (ok_iconst rfl dX12_beside_44) rfl ?_
  refine okL_cons (ok_iadd dX12_beside_45) rfl ?_
  refine okL_cons (ok_istore_n rfl dX12_beside_46) rfl ?_
  refine okL_cons (ok_iload_n rfl dX12_beside_47) rfl ?_
  refine okL_cons (ok_i2l dX12_beside_48) rfl ?_
  refine okL_cons (ok_lconst rfl dX12_beside_49) rfl ?_
  refine okL_cons (ok_ldc2 kw_733 dX12_beside_50) rfl ?_
  refine okL_cons (ok_invS (M' := 165) kw_722 kw_723 kw_711 kw_724 rfl (by decide +kernel) dX12_beside_53) rfl ?_
  refine okL_cons (ok_if_eq rfl dX12_beside_56) rfl ?_
  refine okL_cons (ok_iload_n rfl dX12_beside_59) rfl ?_
  refine okL_cons (ok_i2l dX12_beside_60) rfl ?_
  refine okL_cons (ok_lconst rfl dX12_beside_61) rfl ?_
  refine okL_cons (ok_ldc2 kw_733 dX12_beside_62) rfl ?_
  refine okL_cons (ok_invS (M' := 165) kw_722 kw_723 kw_711 kw_724 rfl (by decide +kernel) dX12_beside_65) rfl ?_
  refine okL_cons (ok_if_eq rfl dX12_beside_68) rfl ?_
  refine okL_cons (ok_iconst rfl dX12_beside_71) rfl ?_
  refine okL_cons (ok_iload_n rfl dX12_beside_72) rfl ?_
  refine okL_cons (ok_imul dX12_beside_73) rfl ?_
  refine okL_cons (ok_iload_n rfl dX12_beside_74) rfl ?_
  refine okL_cons (ok_iadd dX12_beside_75) rfl ?_
  refine okL_cons (ok_goto rfl dX12_beside_76) rfl ?_
  refine okL_cons (ok_iconst rfl dX12_beside_79) rfl ?_
  exact okL_one (ok_ireturn rfl dX12_beside_80)
theorem dX12_cell_0 : decode cX12_cell 0 = .ok (.aload_n 0, 1) := by decide +kernel
theorem dX12_cell_1 : decode cX12_cell 1 = .ok (.iconst 0, 1) := by decide +kernel
theorem dX12_cell_2 : decode cX12_cell 2 = .ok (.putfield 152, 3) := by decide +kernel
theorem dX12_cell_5 : decode cX12_cell 5 = .ok (.iload_n 1, 1) := by decide +kernel
theorem dX12_cell_6 : decode cX12_cell 6 = .ok (.invokestatic 187, 3) := by decide +kernel
theorem dX12_cell_9 : decode cX12_cell 9 = .ok (.ifCond .ne 5, 3) := by decide +kernel
theorem dX12_cell_12 : decode cX12_cell 12 = .ok (.iconst (-1), 1) := by decide +kernel
theorem dX12_cell_13 : decode cX12_cell 13 = .ok (.ireturn, 1) := by decide +kernel
theorem dX12_cell_14 : decode cX12_cell 14 = .ok (.iload_n 2, 1) := by decide +kernel
theorem dX12_cell_15 : decode cX12_cell 15 = .ok (.tableswitch 98 0 5 #[37, 47, 61, 67, 73, 87], 37) := by decide +kernel
theorem dX12_cell_52 : decode cX12_cell 52 = .ok (.aload_n 0, 1) := by decide +kernel
theorem dX12_cell_53 : decode cX12_cell 53 = .ok (.getfield 13, 3) := by decide +kernel
theorem dX12_cell_56 : decode cX12_cell 56 = .ok (.bipush 7, 2) := by decide +kernel
theorem dX12_cell_58 : decode cX12_cell 58 = .ok (.iload_n 1, 1) := by decide +kernel
theorem dX12_cell_59 : decode cX12_cell 59 = .ok (.iadd, 1) := by decide +kernel
theorem dX12_cell_60 : decode cX12_cell 60 = .ok (.iaload, 1) := by decide +kernel
theorem dX12_cell_61 : decode cX12_cell 61 = .ok (.ireturn, 1) := by decide +kernel
theorem dX12_cell_62 : decode cX12_cell 62 = .ok (.aload_n 0, 1) := by decide +kernel
theorem dX12_cell_63 : decode cX12_cell 63 = .ok (.iload_n 1, 1) := by decide +kernel
theorem dX12_cell_64 : decode cX12_cell 64 = .ok (.invokevirtual 191, 3) := by decide +kernel
theorem dX12_cell_67 : decode cX12_cell 67 = .ok (.ifCond .eq 7, 3) := by decide +kernel
theorem dX12_cell_70 : decode cX12_cell 70 = .ok (.iconst 1, 1) := by decide +kernel
theorem dX12_cell_71 : decode cX12_cell 71 = .ok (.goto 4, 3) := by decide +kernel
theorem dX12_cell_74 : decode cX12_cell 74 = .ok (.iconst 0, 1) := by decide +kernel
theorem dX12_cell_75 : decode cX12_cell 75 = .ok (.ireturn, 1) := by decide +kernel
theorem dX12_cell_76 : decode cX12_cell 76 = .ok (.aload_n 0, 1) := by decide +kernel
theorem dX12_cell_77 : decode cX12_cell 77 = .ok (.iload_n 1, 1) := by decide +kernel
theorem dX12_cell_78 : decode cX12_cell 78 = .ok (.invokevirtual 194, 3) := by decide +kernel
theorem dX12_cell_81 : decode cX12_cell 81 = .ok (.ireturn, 1) := by decide +kernel
theorem dX12_cell_82 : decode cX12_cell 82 = .ok (.aload_n 0, 1) := by decide +kernel
theorem dX12_cell_83 : decode cX12_cell 83 = .ok (.iload_n 1, 1) := by decide +kernel
theorem dX12_cell_84 : decode cX12_cell 84 = .ok (.invokevirtual 197, 3) := by decide +kernel
theorem dX12_cell_87 : decode cX12_cell 87 = .ok (.ireturn, 1) := by decide +kernel
theorem dX12_cell_88 : decode cX12_cell 88 = .ok (.aload_n 0, 1) := by decide +kernel
theorem dX12_cell_89 : decode cX12_cell 89 = .ok (.iload_n 1, 1) := by decide +kernel
theorem dX12_cell_90 : decode cX12_cell 90 = .ok (.invokevirtual 200, 3) := by decide +kernel
theorem dX12_cell_93 : decode cX12_cell 93 = .ok (.ifCond .eq 7, 3) := by decide +kernel
theorem dX12_cell_96 : decode cX12_cell 96 = .ok (.iconst 1, 1) := by decide +kernel
theorem dX12_cell_97 : decode cX12_cell 97 = .ok (.goto 4, 3) := by decide +kernel
theorem dX12_cell_100 : decode cX12_cell 100 = .ok (.iconst 0, 1) := by decide +kernel
theorem dX12_cell_101 : decode cX12_cell 101 = .ok (.ireturn, 1) := by decide +kernel
theorem dX12_cell_102 : decode cX12_cell 102 = .ok (.aload_n 0, 1) := by decide +kernel
theorem dX12_cell_103 : decode cX12_cell 103 = .ok (.invokevirtual 203, 3) := by decide +kernel
theorem dX12_cell_106 : decode cX12_cell 106 = .ok (.aload_n 0, 1) := by decide +kernel
theorem dX12_cell_107 : decode cX12_cell 107 = .ok (.getfield 107, 3) := by decide +kernel
theorem dX12_cell_110 : decode cX12_cell 110 = .ok (.iload_n 1, 1) := by decide +kernel
theorem dX12_cell_111 : decode cX12_cell 111 = .ok (.iaload, 1) := by decide +kernel
theorem dX12_cell_112 : decode cX12_cell 112 = .ok (.ireturn, 1) := by decide +kernel
theorem dX12_cell_113 : decode cX12_cell 113 = .ok (.iconst (-1), 1) := by decide +kernel
theorem dX12_cell_114 : decode cX12_cell 114 = .ok (.ireturn, 1) := by decide +kernel
set_option maxRecDepth 100000 in
theorem okm_X12_cell : okL RX12 cX12_cell 3 (some .int) "cell" pcX12_cell opX12_cell pcX12_cell := by
  unfold opX12_cell
  refine okL_cons (ok_aload_n rfl dX12_cell_0) rfl ?_
  refine okL_cons (ok_iconst rfl dX12_cell_1) rfl ?_
  refine okL_cons (ok_putI kw_717 cf_X12 rfl rfl (by decide) rfl dX12_cell_2) rfl ?_
  refine okL_cons (ok_iload_n rfl dX12_cell_5) rfl ?_
  refine okL_cons (ok_invS (M' := 178) kw_734 kw_735 kw_711 kw_736 rfl (by decide +kernel) dX12_cell_6) rfl ?_
  refine okL_cons (ok_if_ne rfl dX12_cell_9) rfl ?_
  refine okL_cons (ok_iconst rfl dX12_cell_12) rfl ?_
  refine okL_cons (ok_ireturn rfl dX12_cell_13) rfl ?_
  refine okL_cons (ok_iload_n rfl dX12_cell_14) rfl ?_
  refine okL_cons (ok_sw rfl rfl (sw_all rfl) dX12_cell_15) rfl ?_
  refine okL_cons (ok_aload_n rfl dX12_cell_52) rfl ?_
  refine okL_cons (ok_getP kw_654 cf_X12 rfl rfl (by decide) dX12_cell_53) rfl ?_
  refine okL_cons (ok_bipush rfl dX12_cell_56) rfl ?_
  refine okL_cons (ok_iload_n rfl dX12_cell_58) rfl ?_
  refine okL_cons (ok_iadd dX12_cell_59) rfl ?_
  refine okL_cons (ok_iaload dX12_cell_60) rfl ?_
  refine okL_cons (ok_ireturn rfl dX12_cell_61) rfl ?_
  refine okL_cons (ok_aload_n rfl dX12_cell_62) rfl ?_
  refine okL_cons (ok_iload_n rfl dX12_cell_63) rfl ?_
  refine okL_cons (ok_invV (M' := 180) kw_737 kw_738 kw_739 kw_711 kw_740 cf_X12 rfl (by decide +kernel) dX12_cell_64) rfl ?_
  refine okL_cons (ok_if_eq rfl dX12_cell_67) rfl ?_
  refine okL_cons (ok_iconst rfl dX12_cell_70) rfl ?_
  refine okL_cons (ok_goto rfl dX12_cell_71) rfl ?_
  refine okL_cons (ok_iconst rfl dX12_cell_74) rfl ?_
  refine okL_cons (ok_ireturn rfl dX12_cell_75) rfl ?_
  refine okL_cons (ok_aload_n rfl dX12_cell_76) rfl ?_
  refine okL_cons (ok_iload_n rfl dX12_cell_77) rfl ?_
  refine okL_cons (ok_invV (M' := 181) kw_741 kw_742 kw_743 kw_711 kw_744 cf_X12 rfl (by decide +kernel) dX12_cell_78) rfl ?_
  refine okL_cons (ok_ireturn rfl dX12_cell_81) rfl ?_
  refine okL_cons (ok_aload_n rfl dX12_cell_82) rfl ?_
  refine okL_cons (ok_iload_n rfl dX12_cell_83) rfl ?_
  refine okL_cons (ok_invV (M' := 228) kw_745 kw_746 kw_747 kw_711 kw_748 cf_X12 rfl (by decide +kernel) dX12_cell_84) rfl ?_
  refine okL_cons (ok_ireturn rfl dX12_cell_87) rfl ?_
  refine okL_cons (ok_aload_n rfl dX12_cell_88) rfl ?_
  refine okL_cons (ok_iload_n rfl dX12_cell_89) rfl ?_
  refine okL_cons (ok_invV (M' := 229) kw_749 kw_750 kw_751 kw_711 kw_752 cf_X12 rfl (by decide +kernel) dX12_cell_90) rfl ?_
  refine okL_cons (ok_if_eq rfl dX12_cell_93) rfl ?_
  refine okL_cons (ok_iconst rfl dX12_cell_96) rfl ?_
  refine okL_cons (ok_goto rfl dX12_cell_97) rfl ?_
  refine okL_cons (ok_iconst rfl dX12_cell_100) rfl ?_
  refine okL_cons (ok_ireturn rfl dX12_cell_101) rfl ?_
  refine okL_cons (ok_aload_n rfl dX12_cell_102) rfl ?_
  refine okL_cons (ok_invV (M' := 230) kw_753 kw_754 kw_755 kw_711 kw_756 cf_X12 rfl (by decide +kernel) dX12_cell_103) rfl ?_
  refine okL_cons (ok_aload_n rfl dX12_cell_106) rfl ?_
  refine okL_cons (ok_getP kw_689 cf_X12 rfl rfl (by decide) dX12_cell_107) rfl ?_
  refine okL_cons (ok_iload_n rfl dX12_cell_110) rfl ?_
  refine okL_cons (ok_iaload dX12_cell_111) rfl ?_
  refine okL_cons (ok_ireturn rfl dX12_cell_112) rfl ?_
  refine okL_cons (ok_iconst rfl dX12_cell_113) rfl ?_
  exact okL_one (ok_ireturn rfl dX12_cell_114)
theorem dX12_setDoor_0 : decode cX12_setDoor 0 = .ok (.aload_n 0, 1) := by decide +kernel
theorem dX12_setDoor_1 : decode cX12_setDoor 1 = .ok (.getfield 13, 3) := by decide +kernel
theorem dX12_setDoor_4 : decode cX12_setDoor 4 = .ok (.iconst 3, 1) := by decide +kernel
theorem dX12_setDoor_5 : decode cX12_setDoor 5 = .ok (.aload_n 0, 1) := by decide +kernel
theorem dX12_setDoor_6 : decode cX12_setDoor 6 = .ok (.getfield 13, 3) := by decide +kernel
theorem dX12_setDoor_9 : decode cX12_setDoor 9 = .ok (.iconst 3, 1) := by decide +kernel
theorem dX12_setDoor_10 : decode cX12_setDoor 10 = .ok (.iaload, 1) := by decide +kernel
theorem dX12_setDoor_11 : decode cX12_setDoor 11 = .ok (.iconst 1, 1) := by decide +kernel
theorem dX12_setDoor_12 : decode cX12_setDoor 12 = .ok (.iload_n 1, 1) := by decide +kernel
theorem dX12_setDoor_13 : decode cX12_setDoor 13 = .ok (.ishl, 1) := by decide +kernel
theorem dX12_setDoor_14 : decode cX12_setDoor 14 = .ok (.iconst (-1), 1) := by decide +kernel
theorem dX12_setDoor_15 : decode cX12_setDoor 15 = .ok (.ixor, 1) := by decide +kernel
theorem dX12_setDoor_16 : decode cX12_setDoor 16 = .ok (.iand, 1) := by decide +kernel
theorem dX12_setDoor_17 : decode cX12_setDoor 17 = .ok (.iload_n 2, 1) := by decide +kernel
theorem dX12_setDoor_18 : decode cX12_setDoor 18 = .ok (.iload_n 1, 1) := by decide +kernel
theorem dX12_setDoor_19 : decode cX12_setDoor 19 = .ok (.ishl, 1) := by decide +kernel
theorem dX12_setDoor_20 : decode cX12_setDoor 20 = .ok (.ior, 1) := by decide +kernel
theorem dX12_setDoor_21 : decode cX12_setDoor 21 = .ok (.iastore, 1) := by decide +kernel
theorem dX12_setDoor_22 : decode cX12_setDoor 22 = .ok (.return_, 1) := by decide +kernel
set_option maxRecDepth 100000 in
theorem okm_X12_setDoor : okL RX12 cX12_setDoor 3 none "setDoor" pcX12_setDoor opX12_setDoor pcX12_setDoor := by
  unfold opX12_setDoor
  refine okL_cons (ok_aload_n rfl dX12_setDoor_0) rfl ?_
  refine okL_cons (ok_getP kw_654 cf_X12 rfl rfl (by decide) dX12_setDoor_1) rfl ?_
  refine okL_cons (ok_iconst rfl dX12_setDoor_4) rfl ?_
  refine okL_cons (ok_aload_n rfl dX12_setDoor_5) rfl ?_
  refine okL_cons (ok_getP kw_654 cf_X12 rfl rfl (by decide) dX12_setDoor_6) rfl ?_
  refine okL_cons (ok_iconst rfl dX12_setDoor_9) rfl ?_
  refine okL_cons (ok_iaload dX12_setDoor_10) rfl ?_
  refine okL_cons (ok_iconst rfl dX12_setDoor_11) rfl ?_
  refine okL_cons (ok_iload_n rfl dX12_setDoor_12) rfl ?_
  refine okL_cons (ok_ishl dX12_setDoor_13) rfl ?_
  refine okL_cons (ok_iconst rfl dX12_setDoor_14) rfl ?_
  refine okL_cons (ok_ixor dX12_setDoor_15) rfl ?_
  refine okL_cons (ok_iand dX12_setDoor_16) rfl ?_
  refine okL_cons (ok_iload_n rfl dX12_setDoor_17) rfl ?_
  refine okL_cons (ok_iload_n rfl dX12_setDoor_18) rfl ?_
  refine okL_cons (ok_ishl dX12_setDoor_19) rfl ?_
  refine okL_cons (ok_ior dX12_setDoor_20) rfl ?_
  refine okL_cons (ok_iastore dX12_setDoor_21) rfl ?_
  exact okL_one (ok_return rfl dX12_setDoor_22)
theorem dX12_door_0 : decode cX12_door 0 = .ok (.aload_n 0, 1) := by decide +kernel
theorem dX12_door_1 : decode cX12_door 1 = .ok (.iconst 0, 1) := by decide +kernel
theorem dX12_door_2 : decode cX12_door 2 = .ok (.putfield 152, 3) := by decide +kernel
theorem dX12_door_5 : decode cX12_door 5 = .ok (.iload_n 1, 1) := by decide +kernel
theorem dX12_door_6 : decode cX12_door 6 = .ok (.invokestatic 187, 3) := by decide +kernel
theorem dX12_door_9 : decode cX12_door 9 = .ok (.ifCond .eq 13, 3) := by decide +kernel
theorem dX12_door_12 : decode cX12_door 12 = .ok (.iload_n 2, 1) := by decide +kernel
theorem dX12_door_13 : decode cX12_door 13 = .ok (.i2l, 1) := by decide +kernel
theorem dX12_door_14 : decode cX12_door 14 = .ok (.lconst 0, 1) := by decide +kernel
theorem dX12_door_15 : decode cX12_door 15 = .ok (.lconst 1, 1) := by decide +kernel
theorem dX12_door_16 : decode cX12_door 16 = .ok (.invokestatic 172, 3) := by decide +kernel
theorem dX12_door_19 : decode cX12_door 19 = .ok (.ifCond .ne 9, 3) := by decide +kernel
theorem dX12_door_22 : decode cX12_door 22 = .ok (.aload_n 0, 1) := by decide +kernel
theorem dX12_door_23 : decode cX12_door 23 = .ok (.iconst (-1), 1) := by decide +kernel
theorem dX12_door_24 : decode cX12_door 24 = .ok (.invokevirtual 161, 3) := by decide +kernel
theorem dX12_door_27 : decode cX12_door 27 = .ok (.ireturn, 1) := by decide +kernel
theorem dX12_door_28 : decode cX12_door 28 = .ok (.aload_n 0, 1) := by decide +kernel
theorem dX12_door_29 : decode cX12_door 29 = .ok (.getfield 13, 3) := by decide +kernel
theorem dX12_door_32 : decode cX12_door 32 = .ok (.iconst 3, 1) := by decide +kernel
theorem dX12_door_33 : decode cX12_door 33 = .ok (.iaload, 1) := by decide +kernel
theorem dX12_door_34 : decode cX12_door 34 = .ok (.iload_n 1, 1) := by decide +kernel
theorem dX12_door_35 : decode cX12_door 35 = .ok (.ishr, 1) := by decide +kernel
theorem dX12_door_36 : decode cX12_door 36 = .ok (.iconst 1, 1) := by decide +kernel
theorem dX12_door_37 : decode cX12_door 37 = .ok (.iand, 1) := by decide +kernel
theorem dX12_door_38 : decode cX12_door 38 = .ok (.istore_n 3, 1) := by decide +kernel
theorem dX12_door_39 : decode cX12_door 39 = .ok (.aload_n 0, 1) := by decide +kernel
theorem dX12_door_40 : decode cX12_door 40 = .ok (.iload_n 1, 1) := by decide +kernel
theorem dX12_door_41 : decode cX12_door 41 = .ok (.iload_n 2, 1) := by decide +kernel
theorem dX12_door_42 : decode cX12_door 42 = .ok (.invokevirtual 206, 3) := by decide +kernel
theorem dX12_door_45 : decode cX12_door 45 = .ok (.aload_n 0, 1) := by decide +kernel
theorem dX12_door_46 : decode cX12_door 46 = .ok (.iload_n 3, 1) := by decide +kernel
theorem dX12_door_47 : decode cX12_door 47 = .ok (.invokevirtual 161, 3) := by decide +kernel
theorem dX12_door_50 : decode cX12_door 50 = .ok (.ireturn, 1) := by decide +kernel
set_option maxRecDepth 100000 in
theorem okm_X12_door : okL RX12 cX12_door 4 (some .int) "door" pcX12_door opX12_door pcX12_door := by
  unfold opX12_door
  refine okL_cons (ok_aload_n rfl dX12_door_0) rfl ?_
  refine okL_cons (ok_iconst rfl dX12_door_1) rfl ?_
  refine okL_cons (ok_putI kw_717 cf_X12 rfl rfl (by decide) rfl dX12_door_2) rfl ?_
  refine okL_cons (ok_iload_n rfl dX12_door_5) rfl ?_
  refine okL_cons (ok_invS (M' := 178) kw_734 kw_735 kw_711 kw_736 rfl (by decide +kernel) dX12_door_6) rfl ?_
  refine okL_cons (ok_if_eq rfl dX12_door_9) rfl ?_
  refine okL_cons (ok_iload_n rfl dX12_door_12) rfl ?_
  refine okL_cons (ok_i2l dX12_door_13) rfl ?_
  refine okL_cons (ok_lconst rfl dX12_door_14) rfl ?_
  refine okL_cons (ok_lconst rfl dX12_door_15) rfl ?_
  refine okL_cons (ok_invS (M' := 165) kw_722 kw_723 kw_711 kw_724 rfl (by decide +kernel) dX12_door_16) rfl ?_
  refine okL_cons (ok_if_ne rfl dX12_door_19) rfl ?_
  refine okL_cons (ok_aload_n rfl dX12_door_22) rfl ?_
  refine okL_cons (ok_iconst rfl dX12_door_23) rfl ?_
  refine okL_cons (ok_invV (M' := 169) kw_708 kw_709 kw_710 kw_711 kw_712 cf_X12 rfl (by decide +kernel) dX12_door_24) rfl ?_
  refine okL_cons (ok_ireturn rfl dX12_door_27) rfl ?_
  refine okL_cons (ok_aload_n rfl dX12_door_28) rfl ?_
  refine okL_cons (ok_getP kw_654 cf_X12 rfl rfl (by decide) dX12_door_29) rfl ?_
  refine okL_cons (ok_iconst rfl dX12_door_32) rfl ?_
  refine okL_cons (ok_iaload dX12_door_33) rfl ?_
  refine okL_cons (ok_iload_n rfl dX12_door_34) rfl ?_
  refine okL_cons (ok_ishr dX12_door_35) rfl ?_
  refine okL_cons (ok_iconst rfl dX12_door_36) rfl ?_
  refine okL_cons (ok_iand dX12_door_37) rfl ?_
  refine okL_cons (ok_istore_n rfl dX12_door_38) rfl ?_
  refine okL_cons (ok_aload_n rfl dX12_door_39) rfl ?_
  refine okL_cons (ok_iload_n rfl dX12_door_40) rfl ?_
  refine okL_cons (ok_iload_n rfl dX12_door_41) rfl ?_
  refine okL_cons (ok_invV (M' := 185) kw_757 kw_758 kw_759 kw_711 kw_760 cf_X12 rfl (by decide +kernel) dX12_door_42) rfl ?_
  refine okL_cons (ok_aload_n rfl dX12_door_45) rfl ?_
  refine okL_cons (ok_iload_n rfl dX12_door_46) rfl ?_
  refine okL_cons (ok_invV (M' := 169) kw_708 kw_709 kw_710 kw_711 kw_712 cf_X12 rfl (by decide +kernel) dX12_door_47) rfl ?_
  exact okL_one (ok_ireturn rfl dX12_door_50)
theorem dX12_letter_0 : decode cX12_letter 0 = .ok (.aload_n 0, 1) := by decide +kernel
theorem dX12_letter_1 : decode cX12_letter 1 = .ok (.iconst 0, 1) := by decide +kernel
theorem dX12_letter_2 : decode cX12_letter 2 = .ok (.putfield 152, 3) := by decide +kernel
theorem dX12_letter_5 : decode cX12_letter 5 = .ok (.iload_n 1, 1) := by decide +kernel
theorem dX12_letter_6 : decode cX12_letter 6 = .ok (.invokestatic 210, 3) := by decide +kernel
theorem dX12_letter_9 : decode cX12_letter 9 = .ok (.ifCond .ne 5, 3) := by decide +kernel
theorem dX12_letter_12 : decode cX12_letter 12 = .ok (.iconst (-1), 1) := by decide +kernel
theorem dX12_letter_13 : decode cX12_letter 13 = .ok (.ireturn, 1) := by decide +kernel
theorem dX12_letter_14 : decode cX12_letter 14 = .ok (.iload_n 2, 1) := by decide +kernel
theorem dX12_letter_15 : decode cX12_letter 15 = .ok (.tableswitch 55 0 2 #[25, 35, 45], 25) := by decide +kernel
theorem dX12_letter_40 : decode cX12_letter 40 = .ok (.aload_n 0, 1) := by decide +kernel
theorem dX12_letter_41 : decode cX12_letter 41 = .ok (.getfield 13, 3) := by decide +kernel
theorem dX12_letter_44 : decode cX12_letter 44 = .ok (.bipush 32, 2) := by decide +kernel
theorem dX12_letter_46 : decode cX12_letter 46 = .ok (.iload_n 1, 1) := by decide +kernel
theorem dX12_letter_47 : decode cX12_letter 47 = .ok (.iadd, 1) := by decide +kernel
theorem dX12_letter_48 : decode cX12_letter 48 = .ok (.iaload, 1) := by decide +kernel
theorem dX12_letter_49 : decode cX12_letter 49 = .ok (.ireturn, 1) := by decide +kernel
theorem dX12_letter_50 : decode cX12_letter 50 = .ok (.aload_n 0, 1) := by decide +kernel
theorem dX12_letter_51 : decode cX12_letter 51 = .ok (.getfield 13, 3) := by decide +kernel
theorem dX12_letter_54 : decode cX12_letter 54 = .ok (.bipush 40, 2) := by decide +kernel
theorem dX12_letter_56 : decode cX12_letter 56 = .ok (.iload_n 1, 1) := by decide +kernel
theorem dX12_letter_57 : decode cX12_letter 57 = .ok (.iadd, 1) := by decide +kernel
theorem dX12_letter_58 : decode cX12_letter 58 = .ok (.iaload, 1) := by decide +kernel
theorem dX12_letter_59 : decode cX12_letter 59 = .ok (.ireturn, 1) := by decide +kernel
theorem dX12_letter_60 : decode cX12_letter 60 = .ok (.aload_n 0, 1) := by decide +kernel
theorem dX12_letter_61 : decode cX12_letter 61 = .ok (.getfield 13, 3) := by decide +kernel
theorem dX12_letter_64 : decode cX12_letter 64 = .ok (.bipush 48, 2) := by decide +kernel
theorem dX12_letter_66 : decode cX12_letter 66 = .ok (.iload_n 1, 1) := by decide +kernel
theorem dX12_letter_67 : decode cX12_letter 67 = .ok (.iadd, 1) := by decide +kernel
theorem dX12_letter_68 : decode cX12_letter 68 = .ok (.iaload, 1) := by decide +kernel
theorem dX12_letter_69 : decode cX12_letter 69 = .ok (.ireturn, 1) := by decide +kernel
theorem dX12_letter_70 : decode cX12_letter 70 = .ok (.iconst (-1), 1) := by decide +kernel
theorem dX12_letter_71 : decode cX12_letter 71 = .ok (.ireturn, 1) := by decide +kernel
set_option maxRecDepth 100000 in
theorem okm_X12_letter : okL RX12 cX12_letter 3 (some .int) "letter" pcX12_letter opX12_letter pcX12_letter := by
  unfold opX12_letter
  refine okL_cons (ok_aload_n rfl dX12_letter_0) rfl ?_
  refine okL_cons (ok_iconst rfl dX12_letter_1) rfl ?_
  refine okL_cons (ok_putI kw_717 cf_X12 rfl rfl (by decide) rfl dX12_letter_2) rfl ?_
  refine okL_cons (ok_iload_n rfl dX12_letter_5) rfl ?_
  refine okL_cons (ok_invS (M' := 179) kw_761 kw_762 kw_711 kw_763 rfl (by decide +kernel) dX12_letter_6) rfl ?_
  refine okL_cons (ok_if_ne rfl dX12_letter_9) rfl ?_
  refine okL_cons (ok_iconst rfl dX12_letter_12) rfl ?_
  refine okL_cons (ok_ireturn rfl dX12_letter_13) rfl ?_
  refine okL_cons (ok_iload_n rfl dX12_letter_14) rfl ?_
  refine okL_cons (ok_sw rfl rfl (sw_all rfl) dX12_letter_15) rfl ?_
  refine okL_cons (ok_aload_n rfl dX12_letter_40) rfl ?_
  refine okL_cons (ok_getP kw_654 cf_X12 rfl rfl (by decide) dX12_letter_41) rfl ?_
  refine okL_cons (ok_bipush rfl dX12_letter_44) rfl ?_
  refine okL_cons (ok_iload_n rfl dX12_letter_46) rfl ?_
  refine okL_cons (ok_iadd dX12_letter_47) rfl ?_
  refine okL_cons (ok_iaload dX12_letter_48) rfl ?_
  refine okL_cons (ok_ireturn rfl dX12_letter_49) rfl ?_
  refine okL_cons (ok_aload_n rfl dX12_letter_50) rfl ?_
  refine okL_cons (ok_getP kw_654 cf_X12 rfl rfl (by decide) dX12_letter_51) rfl ?_
  refine okL_cons (ok_bipush rfl dX12_letter_54) rfl ?_
  refine okL_cons (ok_iload_n rfl dX12_letter_56) rfl ?_
  refine okL_cons (ok_iadd dX12_letter_57) rfl ?_
  refine okL_cons (ok_iaload dX12_letter_58) rfl ?_
  refine okL_cons (ok_ireturn rfl dX12_letter_59) rfl ?_
  refine okL_cons (ok_aload_n rfl dX12_letter_60) rfl ?_
  refine okL_cons (ok_getP kw_654 cf_X12 rfl rfl (by decide) dX12_letter_61) rfl ?_
  refine okL_cons (ok_bipush rfl dX12_letter_64) rfl ?_
  refine okL_cons (ok_iload_n rfl dX12_letter_66) rfl ?_
  refine okL_cons (ok_iadd dX12_letter_67) rfl ?_
  refine okL_cons (ok_iaload dX12_letter_68) rfl ?_
  refine okL_cons (ok_ireturn rfl dX12_letter_69) rfl ?_
  refine okL_cons (ok_iconst rfl dX12_letter_70) rfl ?_
  exact okL_one (ok_ireturn rfl dX12_letter_71)
theorem dX12_terms_0 : decode cX12_terms 0 = .ok (.aload_n 0, 1) := by decide +kernel
theorem dX12_terms_1 : decode cX12_terms 1 = .ok (.iconst 0, 1) := by decide +kernel
theorem dX12_terms_2 : decode cX12_terms 2 = .ok (.putfield 152, 3) := by decide +kernel
theorem dX12_terms_5 : decode cX12_terms 5 = .ok (.iload_n 1, 1) := by decide +kernel
theorem dX12_terms_6 : decode cX12_terms 6 = .ok (.ifCond .ne 15, 3) := by decide +kernel
theorem dX12_terms_9 : decode cX12_terms 9 = .ok (.iload_n 2, 1) := by decide +kernel
theorem dX12_terms_10 : decode cX12_terms 10 = .ok (.i2l, 1) := by decide +kernel
theorem dX12_terms_11 : decode cX12_terms 11 = .ok (.lconst 0, 1) := by decide +kernel
theorem dX12_terms_12 : decode cX12_terms 12 = .ok (.ldc2_w 213, 3) := by decide +kernel
theorem dX12_terms_15 : decode cX12_terms 15 = .ok (.invokestatic 172, 3) := by decide +kernel
theorem dX12_terms_18 : decode cX12_terms 18 = .ok (.goto 42, 3) := by decide +kernel
theorem dX12_terms_21 : decode cX12_terms 21 = .ok (.iload_n 1, 1) := by decide +kernel
theorem dX12_terms_22 : decode cX12_terms 22 = .ok (.iconst 1, 1) := by decide +kernel
theorem dX12_terms_23 : decode cX12_terms 23 = .ok (.if_icmp .ne 15, 3) := by decide +kernel
theorem dX12_terms_26 : decode cX12_terms 26 = .ok (.iload_n 2, 1) := by decide +kernel
theorem dX12_terms_27 : decode cX12_terms 27 = .ok (.i2l, 1) := by decide +kernel
theorem dX12_terms_28 : decode cX12_terms 28 = .ok (.lconst 0, 1) := by decide +kernel
theorem dX12_terms_29 : decode cX12_terms 29 = .ok (.ldc2_w 215, 3) := by decide +kernel
theorem dX12_terms_32 : decode cX12_terms 32 = .ok (.invokestatic 172, 3) := by decide +kernel
theorem dX12_terms_35 : decode cX12_terms 35 = .ok (.goto 25, 3) := by decide +kernel
theorem dX12_terms_38 : decode cX12_terms 38 = .ok (.iload_n 1, 1) := by decide +kernel
theorem dX12_terms_39 : decode cX12_terms 39 = .ok (.iconst 2, 1) := by decide +kernel
theorem dX12_terms_40 : decode cX12_terms 40 = .ok (.if_icmp .ne 19, 3) := by decide +kernel
theorem dX12_terms_43 : decode cX12_terms 43 = .ok (.iload_n 2, 1) := by decide +kernel
theorem dX12_terms_44 : decode cX12_terms 44 = .ok (.i2l, 1) := by decide +kernel
theorem dX12_terms_45 : decode cX12_terms 45 = .ok (.lconst 0, 1) := by decide +kernel
theorem dX12_terms_46 : decode cX12_terms 46 = .ok (.ldc2_w 217, 3) := by decide +kernel
theorem dX12_terms_49 : decode cX12_terms 49 = .ok (.invokestatic 172, 3) := by decide +kernel
theorem dX12_terms_52 : decode cX12_terms 52 = .ok (.ifCond .eq 7, 3) := by decide +kernel
theorem dX12_terms_55 : decode cX12_terms 55 = .ok (.iconst 1, 1) := by decide +kernel
theorem dX12_terms_56 : decode cX12_terms 56 = .ok (.goto 4, 3) := by decide +kernel
theorem dX12_terms_59 : decode cX12_terms 59 = .ok (.iconst 0, 1) := by decide +kernel
theorem dX12_terms_60 : decode cX12_terms 60 = .ok (.istore_n 3, 1) := by decide +kernel
theorem dX12_terms_61 : decode cX12_terms 61 = .ok (.iload_n 3, 1) := by decide +kernel
theorem dX12_terms_62 : decode cX12_terms 62 = .ok (.ifCond .ne 9, 3) := by decide +kernel
theorem dX12_terms_65 : decode cX12_terms 65 = .ok (.aload_n 0, 1) := by decide +kernel
theorem dX12_terms_66 : decode cX12_terms 66 = .ok (.iconst (-1), 1) := by decide +kernel
theorem dX12_terms_67 : decode cX12_terms 67 = .ok (.invokevirtual 161, 3) := by decide +kernel
theorem dX12_terms_70 : decode cX12_terms 70 = .ok (.ireturn, 1) := by decide +kernel
theorem dX12_terms_71 : decode cX12_terms 71 = .ok (.aload_n 0, 1) := by decide +kernel
theorem dX12_terms_72 : decode cX12_terms 72 = .ok (.iconst 0, 1) := by decide +kernel
theorem dX12_terms_73 : decode cX12_terms 73 = .ok (.putfield 158, 3) := by decide +kernel
theorem dX12_terms_76 : decode cX12_terms 76 = .ok (.aload_n 0, 1) := by decide +kernel
theorem dX12_terms_77 : decode cX12_terms 77 = .ok (.iconst 4, 1) := by decide +kernel
theorem dX12_terms_78 : decode cX12_terms 78 = .ok (.iload_n 1, 1) := by decide +kernel
theorem dX12_terms_79 : decode cX12_terms 79 = .ok (.iadd, 1) := by decide +kernel
theorem dX12_terms_80 : decode cX12_terms 80 = .ok (.iload_n 2, 1) := by decide +kernel
theorem dX12_terms_81 : decode cX12_terms 81 = .ok (.invokevirtual 219, 3) := by decide +kernel
theorem dX12_terms_84 : decode cX12_terms 84 = .ok (.ireturn, 1) := by decide +kernel
set_option maxRecDepth 100000 in
theorem okm_X12_terms : okL RX12 cX12_terms 4 (some .int) "terms" pcX12_terms opX12_terms pcX12_terms := by
  unfold opX12_terms
  refine okL_cons (ok_aload_n rfl dX12_terms_0) rfl ?_
  refine okL_cons (ok_iconst rfl dX12_terms_1) rfl ?_
  refine okL_cons (ok_putI kw_717 cf_X12 rfl rfl (by decide) rfl dX12_terms_2) rfl ?_
  refine okL_cons (ok_iload_n rfl dX12_terms_5) rfl ?_
  refine okL_cons (ok_if_ne rfl dX12_terms_6) rfl ?_
  refine okL_cons (ok_iload_n rfl dX12_terms_9) rfl ?_
  refine okL_cons (ok_i2l dX12_terms_10) rfl ?_
  refine okL_cons (ok_lconst rfl dX12_terms_11) rfl ?_
  refine okL_cons (ok_ldc2 kw_764 dX12_terms_12) rfl ?_
  refine okL_cons (ok_invS (M' := 165) kw_722 kw_723 kw_711 kw_724 rfl (by decide +kernel) dX12_terms_15) rfl ?_
  refine okL_cons (ok_goto rfl dX12_terms_18) rfl ?_
  refine okL_cons (ok_iload_n rfl dX12_terms_21) rfl ?_
  refine okL_cons (ok_iconst rfl dX12_terms_22) rfl ?_
  refine okL_cons (ok_icmp_ne rfl dX12_terms_23) rfl ?_
  refine okL_cons (ok_iload_n rfl dX12_terms_26) rfl ?_
  refine okL_cons (ok_i2l dX12_terms_27) rfl ?_
  refine okL_cons (ok_lconst rfl dX12_terms_28) rfl ?_
  refine okL_cons (ok_ldc2 kw_765 dX12_terms_29) rfl ?_
  refine okL_cons (ok_invS (M' := 165) kw_722 kw_723 kw_711 kw_724 rfl (by decide +kernel) dX12_terms_32) rfl ?_
  refine okL_cons (ok_goto rfl dX12_terms_35) rfl ?_
  refine okL_cons (ok_iload_n rfl dX12_terms_38) rfl ?_
  refine okL_cons (ok_iconst rfl dX12_terms_39) rfl ?_
  refine okL_cons (ok_icmp_ne rfl dX12_terms_40) rfl ?_
  refine okL_cons (ok_iload_n rfl dX12_terms_43) rfl ?_
  refine okL_cons (ok_i2l dX12_terms_44) rfl ?_
  refine okL_cons (ok_lconst rfl dX12_terms_45) rfl ?_
  refine okL_cons (ok_ldc2 kw_766 dX12_terms_46) rfl ?_
  refine okL_cons (ok_invS (M' := 165) kw_722 kw_723 kw_711 kw_724 rfl (by decide +kernel) dX12_terms_49) rfl ?_
  refine okL_cons (ok_if_eq rfl dX12_terms_52) rfl ?_
  refine okL_cons (ok_iconst rfl dX12_terms_55) rfl ?_
  refine okL_cons (ok_goto rfl dX12_terms_56) rfl ?_
  refine okL_cons (ok_iconst rfl dX12_terms_59) rfl ?_
  refine okL_cons (ok_istore_n rfl dX12_terms_60) rfl ?_
  refine okL_cons (ok_iload_n rfl dX12_terms_61) rfl ?_
  refine okL_cons (ok_if_ne rfl dX12_terms_62) rfl ?_
  refine okL_cons (ok_aload_n rfl dX12_terms_65) rfl ?_
  refine okL_cons (ok_iconst rfl dX12_terms_66) rfl ?_
  refine okL_cons (ok_invV (M' := 169) kw_708 kw_709 kw_710 kw_711 kw_712 cf_X12 rfl (by decide +kernel) dX12_terms_67) rfl ?_
  refine okL_cons (ok_ireturn rfl dX12_terms_70) rfl ?_
  refine okL_cons (ok_aload_n rfl dX12_terms_71) rfl ?_
  refine okL_cons (ok_iconst rfl dX12_terms_72) rfl ?_
  refine okL_cons (ok_putI kw_707 cf_X12 rfl rfl (by decide) rfl dX12_terms_73) rfl ?_
  refine okL_cons (ok_aload_n rfl dX12_terms_76) rfl ?_
  refine okL_cons (ok_iconst rfl dX12_terms_77) rfl ?_
  refine okL_cons (ok_iload_n rfl dX12_terms_78) rfl ?_
  refine okL_cons (ok_iadd dX12_terms_79) rfl ?_
  refine okL_cons (ok_iload_n rfl dX12_terms_80) rfl ?_
  refine okL_cons (ok_invV (M' := 170) kw_767 kw_768 kw_769 kw_711 kw_770 cf_X12 rfl (by decide +kernel) dX12_terms_81) rfl ?_
  exact okL_one (ok_ireturn rfl dX12_terms_84)
theorem dX12_row_0 : decode cX12_row 0 = .ok (.aload_n 0, 1) := by decide +kernel
theorem dX12_row_1 : decode cX12_row 1 = .ok (.iconst 0, 1) := by decide +kernel
theorem dX12_row_2 : decode cX12_row 2 = .ok (.putfield 152, 3) := by decide +kernel
theorem dX12_row_5 : decode cX12_row 5 = .ok (.aload_n 0, 1) := by decide +kernel
theorem dX12_row_6 : decode cX12_row 6 = .ok (.getfield 223, 3) := by decide +kernel
theorem dX12_row_9 : decode cX12_row 9 = .ok (.istore_n 1, 1) := by decide +kernel
theorem dX12_row_10 : decode cX12_row 10 = .ok (.aload_n 0, 1) := by decide +kernel
theorem dX12_row_11 : decode cX12_row 11 = .ok (.iconst 0, 1) := by decide +kernel
theorem dX12_row_12 : decode cX12_row 12 = .ok (.putfield 223, 3) := by decide +kernel
theorem dX12_row_15 : decode cX12_row 15 = .ok (.iload_n 1, 1) := by decide +kernel
theorem dX12_row_16 : decode cX12_row 16 = .ok (.ifCond .ne 10, 3) := by decide +kernel
theorem dX12_row_19 : decode cX12_row 19 = .ok (.aload_n 0, 1) := by decide +kernel
theorem dX12_row_20 : decode cX12_row 20 = .ok (.bipush (-6), 2) := by decide +kernel
theorem dX12_row_22 : decode cX12_row 22 = .ok (.invokevirtual 161, 3) := by decide +kernel
theorem dX12_row_25 : decode cX12_row 25 = .ok (.ireturn, 1) := by decide +kernel
theorem dX12_row_26 : decode cX12_row 26 = .ok (.aload_n 0, 1) := by decide +kernel
theorem dX12_row_27 : decode cX12_row 27 = .ok (.iconst 0, 1) := by decide +kernel
theorem dX12_row_28 : decode cX12_row 28 = .ok (.putfield 226, 3) := by decide +kernel
theorem dX12_row_31 : decode cX12_row 31 = .ok (.iconst 0, 1) := by decide +kernel
theorem dX12_row_32 : decode cX12_row 32 = .ok (.istore_n 2, 1) := by decide +kernel
theorem dX12_row_33 : decode cX12_row 33 = .ok (.iconst 0, 1) := by decide +kernel
theorem dX12_row_34 : decode cX12_row 34 = .ok (.istore_n 3, 1) := by decide +kernel
theorem dX12_row_35 : decode cX12_row 35 = .ok (.iload_n 3, 1) := by decide +kernel
theorem dX12_row_36 : decode cX12_row 36 = .ok (.iload_n 1, 1) := by decide +kernel
theorem dX12_row_37 : decode cX12_row 37 = .ok (.if_icmp .ge 109, 3) := by decide +kernel
theorem dX12_row_40 : decode cX12_row 40 = .ok (.iload_n 3, 1) := by decide +kernel
theorem dX12_row_41 : decode cX12_row 41 = .ok (.iconst 2, 1) := by decide +kernel
theorem dX12_row_42 : decode cX12_row 42 = .ok (.iadd, 1) := by decide +kernel
theorem dX12_row_43 : decode cX12_row 43 = .ok (.iload_n 1, 1) := by decide +kernel
theorem dX12_row_44 : decode cX12_row 44 = .ok (.if_icmp .ge 86, 3) := by decide +kernel
theorem dX12_row_47 : decode cX12_row 47 = .ok (.aload_n 0, 1) := by decide +kernel
theorem dX12_row_48 : decode cX12_row 48 = .ok (.getfield 35, 3) := by decide +kernel
theorem dX12_row_51 : decode cX12_row 51 = .ok (.iload_n 3, 1) := by decide +kernel
theorem dX12_row_52 : decode cX12_row 52 = .ok (.iaload, 1) := by decide +kernel
theorem dX12_row_53 : decode cX12_row 53 = .ok (.invokestatic 187, 3) := by decide +kernel
theorem dX12_row_56 : decode cX12_row 56 = .ok (.ifCond .eq 74, 3) := by decide +kernel
theorem dX12_row_59 : decode cX12_row 59 = .ok (.aload_n 0, 1) := by decide +kernel
theorem dX12_row_60 : decode cX12_row 60 = .ok (.getfield 35, 3) := by decide +kernel
theorem dX12_row_63 : decode cX12_row 63 = .ok (.iload_n 3, 1) := by decide +kernel
theorem dX12_row_64 : decode cX12_row 64 = .ok (.iconst 1, 1) := by decide +kernel
theorem dX12_row_65 : decode cX12_row 65 = .ok (.iadd, 1) := by decide +kernel
theorem dX12_row_66 : decode cX12_row 66 = .ok (.iaload, 1) := by decide +kernel
theorem dX12_row_67 : decode cX12_row 67 = .ok (.bipush 9, 2) := by decide +kernel
theorem dX12_row_69 : decode cX12_row 69 = .ok (.if_icmp .gt 61, 3) := by decide +kernel
theorem dX12_row_72 : decode cX12_row 72 = .ok (.aload_n 0, 1) := by decide +kernel
theorem dX12_row_73 : decode cX12_row 73 = .ok (.getfield 35, 3) := by decide +kernel
theorem dX12_row_76 : decode cX12_row 76 = .ok (.iload_n 3, 1) := by decide +kernel
theorem dX12_row_77 : decode cX12_row 77 = .ok (.iconst 2, 1) := by decide +kernel
theorem dX12_row_78 : decode cX12_row 78 = .ok (.iadd, 1) := by decide +kernel
theorem dX12_row_79 : decode cX12_row 79 = .ok (.iaload, 1) := by decide +kernel
theorem dX12_row_80 : decode cX12_row 80 = .ok (.iconst 1, 1) := by decide +kernel
theorem dX12_row_81 : decode cX12_row 81 = .ok (.if_icmp .gt 49, 3) := by decide +kernel
theorem dX12_row_84 : decode cX12_row 84 = .ok (.aload_n 0, 1) := by decide +kernel
theorem dX12_row_85 : decode cX12_row 85 = .ok (.getfield 13, 3) := by decide +kernel
theorem dX12_row_88 : decode cX12_row 88 = .ok (.bipush 7, 2) := by decide +kernel
theorem dX12_row_90 : decode cX12_row 90 = .ok (.aload_n 0, 1) := by decide +kernel
theorem dX12_row_91 : decode cX12_row 91 = .ok (.getfield 35, 3) := by decide +kernel
theorem dX12_row_94 : decode cX12_row 94 = .ok (.iload_n 3, 1) := by decide +kernel
theorem dX12_row_95 : decode cX12_row 95 = .ok (.iaload, 1) := by decide +kernel
theorem dX12_row_96 : decode cX12_row 96 = .ok (.iadd, 1) := by decide +kernel
theorem dX12_row_97 : decode cX12_row 97 = .ok (.aload_n 0, 1) := by decide +kernel
theorem dX12_row_98 : decode cX12_row 98 = .ok (.getfield 35, 3) := by decide +kernel
theorem dX12_row_101 : decode cX12_row 101 = .ok (.iload_n 3, 1) := by decide +kernel
theorem dX12_row_102 : decode cX12_row 102 = .ok (.iconst 1, 1) := by decide +kernel
theorem dX12_row_103 : decode cX12_row 103 = .ok (.iadd, 1) := by decide +kernel
theorem dX12_row_104 : decode cX12_row 104 = .ok (.iaload, 1) := by decide +kernel
theorem dX12_row_105 : decode cX12_row 105 = .ok (.iastore, 1) := by decide +kernel
theorem dX12_row_106 : decode cX12_row 106 = .ok (.aload_n 0, 1) := by decide +kernel
theorem dX12_row_107 : decode cX12_row 107 = .ok (.aload_n 0, 1) := by decide +kernel
theorem dX12_row_108 : decode cX12_row 108 = .ok (.getfield 35, 3) := by decide +kernel
theorem dX12_row_111 : decode cX12_row 111 = .ok (.iload_n 3, 1) := by decide +kernel
theorem dX12_row_112 : decode cX12_row 112 = .ok (.iaload, 1) := by decide +kernel
theorem dX12_row_113 : decode cX12_row 113 = .ok (.aload_n 0, 1) := by decide +kernel
theorem dX12_row_114 : decode cX12_row 114 = .ok (.getfield 35, 3) := by decide +kernel
theorem dX12_row_117 : decode cX12_row 117 = .ok (.iload_n 3, 1) := by decide +kernel
theorem dX12_row_118 : decode cX12_row 118 = .ok (.iconst 2, 1) := by decide +kernel
theorem dX12_row_119 : decode cX12_row 119 = .ok (.iadd, 1) := by decide +kernel
theorem dX12_row_120 : decode cX12_row 120 = .ok (.iaload, 1) := by decide +kernel
theorem dX12_row_121 : decode cX12_row 121 = .ok (.invokevirtual 206, 3) := by decide +kernel
theorem dX12_row_124 : decode cX12_row 124 = .ok (.iinc 2 1, 3) := by decide +kernel
theorem dX12_row_127 : decode cX12_row 127 = .ok (.goto 13, 3) := by decide +kernel
theorem dX12_row_130 : decode cX12_row 130 = .ok (.aload_n 0, 1) := by decide +kernel
theorem dX12_row_131 : decode cX12_row 131 = .ok (.dup, 1) := by decide +kernel
theorem dX12_row_132 : decode cX12_row 132 = .ok (.getfield 226, 3) := by decide +kernel
theorem dX12_row_135 : decode cX12_row 135 = .ok (.iconst 1, 1) := by decide +kernel
theorem dX12_row_136 : decode cX12_row 136 = .ok (.iadd, 1) := by decide +kernel
theorem dX12_row_137 : decode cX12_row 137 = .ok (.putfield 226, 3) := by decide +kernel
theorem dX12_row_140 : decode cX12_row 140 = .ok (.iinc 3 3, 3) := by decide +kernel
theorem dX12_row_143 : decode cX12_row 143 = .ok (.goto (-108), 3) := by decide +kernel
theorem dX12_row_146 : decode cX12_row 146 = .ok (.aload_n 0, 1) := by decide +kernel
theorem dX12_row_147 : decode cX12_row 147 = .ok (.iload_n 2, 1) := by decide +kernel
theorem dX12_row_148 : decode cX12_row 148 = .ok (.invokevirtual 176, 3) := by decide +kernel
theorem dX12_row_151 : decode cX12_row 151 = .ok (.ireturn, 1) := by decide +kernel
set_option maxRecDepth 100000 in
theorem okm_X12_row : okL RX12 cX12_row 4 (some .int) "row" pcX12_row opX12_row pcX12_row := by
  unfold opX12_row
  refine okL_cons (ok_aload_n rfl dX12_row_0) rfl ?_
  refine okL_cons (ok_iconst rfl dX12_row_1) rfl ?_
  refine okL_cons (ok_putI kw_717 cf_X12 rfl rfl (by decide) rfl dX12_row_2) rfl ?_
  refine okL_cons (ok_aload_n rfl dX12_row_5) rfl ?_
  refine okL_cons (ok_getI kw_771 cf_X12 rfl rfl (by decide) dX12_row_6) rfl ?_
  refine okL_cons (ok_istore_n rfl dX12_row_9) rfl ?_
  refine okL_cons (ok_aload_n rfl dX12_row_10) rfl ?_
  refine okL_cons (ok_iconst rfl dX12_row_11) rfl ?_
  refine okL_cons (ok_putI kw_771 cf_X12 rfl rfl (by decide) rfl dX12_row_12) rfl ?_
  refine okL_cons (ok_iload_n rfl dX12_row_15) rfl ?_
  refine okL_cons (ok_if_ne rfl dX12_row_16) rfl ?_
  refine okL_cons (ok_aload_n rfl dX12_row_19) rfl ?_
  refine okL_cons (ok_bipush rfl dX12_row_20) rfl ?_
  refine okL_cons (ok_invV (M' := 169) kw_708 kw_709 kw_710 kw_711 kw_712 cf_X12 rfl (by decide +kernel) dX12_row_22) rfl ?_
  refine okL_cons (ok_ireturn rfl dX12_row_25) rfl ?_
  refine okL_cons (ok_aload_n rfl dX12_row_26) rfl ?_
  refine okL_cons (ok_iconst rfl dX12_row_27) rfl ?_
  refine okL_cons (ok_putI kw_772 cf_X12 rfl rfl (by decide) rfl dX12_row_28) rfl ?_
  refine okL_cons (ok_iconst rfl dX12_row_31) rfl ?_
  refine okL_cons (ok_istore_n rfl dX12_row_32) rfl ?_
  refine okL_cons (ok_iconst rfl dX12_row_33) rfl ?_
  refine okL_cons (ok_istore_n rfl dX12_row_34) rfl ?_
  refine okL_cons (ok_iload_n rfl dX12_row_35) rfl ?_
  refine okL_cons (ok_iload_n rfl dX12_row_36) rfl ?_
  refine okL_cons (ok_icmp_ge rfl dX12_row_37) rfl ?_
  refine okL_cons (ok_iload_n rfl dX12_row_40) rfl ?_
  refine okL_cons (ok_iconst rfl dX12_row_41) rfl ?_
  refine okL_cons (ok_iadd dX12_row_42) rfl ?_
  refine okL_cons (ok_iload_n rfl dX12_row_43) rfl ?_
  refine okL_cons (ok_icmp_ge rfl dX12_row_44) rfl ?_
  refine okL_cons (ok_aload_n rfl dX12_row_47) rfl ?_
  refine okL_cons (ok_getP kw_661 cf_X12 rfl rfl (by decide) dX12_row_48) rfl ?_
  refine okL_cons (ok_iload_n rfl dX12_row_51) rfl ?_
  refine okL_cons (ok_iaload dX12_row_52) rfl ?_
  refine okL_cons (ok_invS (M' := 178) kw_734 kw_735 kw_711 kw_736 rfl (by decide +kernel) dX12_row_53) rfl ?_
  refine okL_cons (ok_if_eq rfl dX12_row_56) rfl ?_
  refine okL_cons (ok_aload_n rfl dX12_row_59) rfl ?_
  refine okL_cons (ok_getP kw_661 cf_X12 rfl rfl (by decide) dX12_row_60) rfl ?_
  refine okL_cons (ok_iload_n rfl dX12_row_63) rfl ?_
  refine okL_cons (ok_iconst rfl dX12_row_64) rfl ?_
  refine okL_cons (ok_iadd dX12_row_65) rfl ?_
  refine okL_cons (ok_iaload dX12_row_66) rfl ?_
  refine okL_cons (ok_bipush rfl dX12_row_67) rfl ?_
  refine okL_cons (ok_icmp_gt rfl dX12_row_69) rfl ?_
  refine okL_cons (ok_aload_n rfl dX12_row_72) rfl ?_
  refine okL_cons (ok_getP kw_661 cf_X12 rfl rfl (by decide) dX12_row_73) rfl ?_
  refine okL_cons (ok_iload_n rfl dX12_row_76) rfl ?_
  refine okL_cons (ok_iconst rfl dX12_row_77) rfl ?_
  refine okL_cons (ok_iadd dX12_row_78) rfl ?_
  refine okL_cons (ok_iaload dX12_row_79) rfl ?_
  refine okL_cons (ok_iconst rfl dX12_row_80) rfl ?_
  refine okL_cons (ok_icmp_gt rfl dX12_row_81) rfl ?_
  refine okL_cons (ok_aload_n rfl dX12_row_84) rfl ?_
  refine okL_cons (ok_getP kw_654 cf_X12 rfl rfl (by decide) dX12_row_85) rfl ?_
  refine okL_cons (ok_bipush rfl dX12_row_88) rfl ?_
  refine okL_cons (ok_aload_n rfl dX12_row_90) rfl ?_
  refine okL_cons (ok_getP kw_661 cf_X12 rfl rfl (by decide) dX12_row_91) rfl ?_
  refine okL_cons (ok_iload_n rfl dX12_row_94) rfl ?_
  refine okL_cons (ok_iaload dX12_row_95) rfl ?_
  refine okL_cons (ok_iadd dX12_row_96) rfl ?_
  refine okL_cons (ok_aload_n rfl dX12_row_97) rfl ?_
  refine okL_cons (ok_getP kw_661 cf_X12 rfl rfl (by decide) dX12_row_98) rfl ?_
  refine okL_cons (ok_iload_n rfl dX12_row_101) rfl ?_
  refine okL_cons (ok_iconst rfl dX12_row_102) rfl ?_
  refine okL_cons (ok_iadd dX12_row_103) rfl ?_
  refine okL_cons (ok_iaload dX12_row_104) rfl ?_
  refine okL_cons (ok_iastore dX12_row_105) rfl ?_
  refine okL_cons (ok_aload_n rfl dX12_row_106) rfl ?_
  refine okL_cons (ok_aload_n rfl dX12_row_107) rfl ?_
  refine okL_cons (ok_getP kw_661 cf_X12 rfl rfl (by decide) dX12_row_108) rfl ?_
  refine okL_cons (ok_iload_n rfl dX12_row_111) rfl ?_
  refine okL_cons (ok_iaload dX12_row_112) rfl ?_
  refine okL_cons (ok_aload_n rfl dX12_row_113) rfl ?_
  refine okL_cons (ok_getP kw_661 cf_X12 rfl rfl (by decide) dX12_row_114) rfl ?_
  refine okL_cons (ok_iload_n rfl dX12_row_117) rfl ?_
  refine okL_cons (ok_iconst rfl dX12_row_118) rfl ?_
  refine okL_cons (ok_iadd dX12_row_119) rfl ?_
  refine okL_cons (ok_iaload dX12_row_120) rfl ?_
  refine okL_cons (ok_invV (M' := 185) kw_757 kw_758 kw_759 kw_711 kw_760 cf_X12 rfl (by decide +kernel) dX12_row_121) rfl ?_
  refine okL_cons (ok_iinc rfl dX12_row_124) rfl ?_
  refine okL_cons (ok_goto rfl dX12_row_127) rfl ?_
  refine okL_cons (ok_aload_n rfl dX12_row_130) rfl ?_
  refine okL_cons (ok_dup dX12_row_131) rfl ?_
  refine okL_cons (ok_getI kw_772 cf_X12 rfl rfl (by decide) dX12_row_132) rfl ?_
  refine okL_cons (ok_iconst rfl dX12_row_135) rfl ?_
  refine okL_cons (ok_iadd dX12_row_136) rfl ?_
  refine okL_cons (ok_putI kw_772 cf_X12 rfl rfl (by decide) rfl dX12_row_137) rfl ?_
  refine okL_cons (ok_iinc rfl dX12_row_140) rfl ?_
  refine okL_cons (ok_goto rfl dX12_row_143) rfl ?_
  refine okL_cons (ok_aload_n rfl dX12_row_146) rfl ?_
  refine okL_cons (ok_iload_n rfl dX12_row_147) rfl ?_
  refine okL_cons (ok_invV (M' := 171) kw_725 kw_726 kw_727 kw_711 kw_728 cf_X12 rfl (by decide +kernel) dX12_row_148) rfl ?_
  exact okL_one (ok_ireturn rfl dX12_row_151)
theorem dX12_beads_0 : decode cX12_beads 0 = .ok (.aload_n 0, 1) := by decide +kernel
theorem dX12_beads_1 : decode cX12_beads 1 = .ok (.iconst 0, 1) := by decide +kernel
theorem dX12_beads_2 : decode cX12_beads 2 = .ok (.putfield 152, 3) := by decide +kernel
theorem dX12_beads_5 : decode cX12_beads 5 = .ok (.aload_n 0, 1) := by decide +kernel
theorem dX12_beads_6 : decode cX12_beads 6 = .ok (.getfield 226, 3) := by decide +kernel
theorem dX12_beads_9 : decode cX12_beads 9 = .ok (.ireturn, 1) := by decide +kernel
set_option maxRecDepth 100000 in
theorem okm_X12_beads : okL RX12 cX12_beads 1 (some .int) "beads" pcX12_beads opX12_beads pcX12_beads := by
  unfold opX12_beads
  refine okL_cons (ok_aload_n rfl dX12_beads_0) rfl ?_
  refine okL_cons (ok_iconst rfl dX12_beads_1) rfl ?_
  refine okL_cons (ok_putI kw_717 cf_X12 rfl rfl (by decide) rfl dX12_beads_2) rfl ?_
  refine okL_cons (ok_aload_n rfl dX12_beads_5) rfl ?_
  refine okL_cons (ok_getI kw_772 cf_X12 rfl rfl (by decide) dX12_beads_6) rfl ?_
  exact okL_one (ok_ireturn rfl dX12_beads_9)
theorem dX12_four_0 : decode cX12_four 0 = .ok (.bipush 24, 2) := by decide +kernel
theorem dX12_four_2 : decode cX12_four 2 = .ok (.istore_n 2, 1) := by decide +kernel
theorem dX12_four_3 : decode cX12_four 3 = .ok (.iload_n 2, 1) := by decide +kernel
theorem dX12_four_4 : decode cX12_four 4 = .ok (.ifCond .lt 35, 3) := by decide +kernel
theorem dX12_four_7 : decode cX12_four 7 = .ok (.aload_n 0, 1) := by decide +kernel
theorem dX12_four_8 : decode cX12_four 8 = .ok (.getfield 35, 3) := by decide +kernel
theorem dX12_four_11 : decode cX12_four 11 = .ok (.aload_n 0, 1) := by decide +kernel
theorem dX12_four_12 : decode cX12_four 12 = .ok (.getfield 223, 3) := by decide +kernel
theorem dX12_four_15 : decode cX12_four 15 = .ok (.iload_n 1, 1) := by decide +kernel
theorem dX12_four_16 : decode cX12_four 16 = .ok (.iload_n 2, 1) := by decide +kernel
theorem dX12_four_17 : decode cX12_four 17 = .ok (.ishr, 1) := by decide +kernel
theorem dX12_four_18 : decode cX12_four 18 = .ok (.sipush 255, 3) := by decide +kernel
theorem dX12_four_21 : decode cX12_four 21 = .ok (.iand, 1) := by decide +kernel
theorem dX12_four_22 : decode cX12_four 22 = .ok (.iastore, 1) := by decide +kernel
theorem dX12_four_23 : decode cX12_four 23 = .ok (.aload_n 0, 1) := by decide +kernel
theorem dX12_four_24 : decode cX12_four 24 = .ok (.dup, 1) := by decide +kernel
theorem dX12_four_25 : decode cX12_four 25 = .ok (.getfield 223, 3) := by decide +kernel
theorem dX12_four_28 : decode cX12_four 28 = .ok (.iconst 1, 1) := by decide +kernel
theorem dX12_four_29 : decode cX12_four 29 = .ok (.iadd, 1) := by decide +kernel
theorem dX12_four_30 : decode cX12_four 30 = .ok (.putfield 223, 3) := by decide +kernel
theorem dX12_four_33 : decode cX12_four 33 = .ok (.iinc 2 (-8), 3) := by decide +kernel
theorem dX12_four_36 : decode cX12_four 36 = .ok (.goto (-33), 3) := by decide +kernel
theorem dX12_four_39 : decode cX12_four 39 = .ok (.return_, 1) := by decide +kernel
set_option maxRecDepth 100000 in
theorem okm_X12_four : okL RX12 cX12_four 3 none "four" pcX12_four opX12_four pcX12_four := by
  unfold opX12_four
  refine okL_cons (ok_bipush rfl dX12_four_0) rfl ?_
  refine okL_cons (ok_istore_n rfl dX12_four_2) rfl ?_
  refine okL_cons (ok_iload_n rfl dX12_four_3) rfl ?_
  refine okL_cons (ok_if_lt rfl dX12_four_4) rfl ?_
  refine okL_cons (ok_aload_n rfl dX12_four_7) rfl ?_
  refine okL_cons (ok_getP kw_661 cf_X12 rfl rfl (by decide) dX12_four_8) rfl ?_
  refine okL_cons (ok_aload_n rfl dX12_four_11) rfl ?_
  refine okL_cons (ok_getI kw_771 cf_X12 rfl rfl (by decide) dX12_four_12) rfl ?_
  refine okL_cons (ok_iload_n rfl dX12_four_15) rfl ?_
  refine okL_cons (ok_iload_n rfl dX12_four_16) rfl ?_
  refine okL_cons (ok_ishr dX12_four_17) rfl ?_
  refine okL_cons (ok_sipush rfl dX12_four_18) rfl ?_
  refine okL_cons (ok_iand dX12_four_21) rfl ?_
  refine okL_cons (ok_iastore dX12_four_22) rfl ?_
  refine okL_cons (ok_aload_n rfl dX12_four_23) rfl ?_
  refine okL_cons (ok_dup dX12_four_24) rfl ?_
  refine okL_cons (ok_getI kw_771 cf_X12 rfl rfl (by decide) dX12_four_25) rfl ?_
  refine okL_cons (ok_iconst rfl dX12_four_28) rfl ?_
  refine okL_cons (ok_iadd dX12_four_29) rfl ?_
  refine okL_cons (ok_putI kw_771 cf_X12 rfl rfl (by decide) rfl dX12_four_30) rfl ?_
  refine okL_cons (ok_iinc rfl dX12_four_33) rfl ?_
  refine okL_cons (ok_goto rfl dX12_four_36) rfl ?_
  exact okL_one (ok_return rfl dX12_four_39)
theorem dX12_feed_0 : decode cX12_feed 0 = .ok (.aload_n 0, 1) := by decide +kernel
theorem dX12_feed_1 : decode cX12_feed 1 = .ok (.iconst 0, 1) := by decide +kernel
theorem dX12_feed_2 : decode cX12_feed 2 = .ok (.putfield 152, 3) := by decide +kernel
theorem dX12_feed_5 : decode cX12_feed 5 = .ok (.aload_n 0, 1) := by decide +kernel
theorem dX12_feed_6 : decode cX12_feed 6 = .ok (.getfield 223, 3) := by decide +kernel
theorem dX12_feed_9 : decode cX12_feed 9 = .ok (.bipush 20, 2) := by decide +kernel
theorem dX12_feed_11 : decode cX12_feed 11 = .ok (.iadd, 1) := by decide +kernel
theorem dX12_feed_12 : decode cX12_feed 12 = .ok (.sipush 400, 3) := by decide +kernel
theorem dX12_feed_15 : decode cX12_feed 15 = .ok (.if_icmp .le 5, 3) := by decide +kernel
theorem dX12_feed_18 : decode cX12_feed 18 = .ok (.iconst (-1), 1) := by decide +kernel
theorem dX12_feed_19 : decode cX12_feed 19 = .ok (.ireturn, 1) := by decide +kernel
theorem dX12_feed_20 : decode cX12_feed 20 = .ok (.aload_n 0, 1) := by decide +kernel
theorem dX12_feed_21 : decode cX12_feed 21 = .ok (.iload_n 1, 1) := by decide +kernel
theorem dX12_feed_22 : decode cX12_feed 22 = .ok (.invokevirtual 229, 3) := by decide +kernel
theorem dX12_feed_25 : decode cX12_feed 25 = .ok (.aload_n 0, 1) := by decide +kernel
theorem dX12_feed_26 : decode cX12_feed 26 = .ok (.iload_n 2, 1) := by decide +kernel
theorem dX12_feed_27 : decode cX12_feed 27 = .ok (.invokevirtual 229, 3) := by decide +kernel
theorem dX12_feed_30 : decode cX12_feed 30 = .ok (.aload_n 0, 1) := by decide +kernel
theorem dX12_feed_31 : decode cX12_feed 31 = .ok (.iload_n 3, 1) := by decide +kernel
theorem dX12_feed_32 : decode cX12_feed 32 = .ok (.invokevirtual 229, 3) := by decide +kernel
theorem dX12_feed_35 : decode cX12_feed 35 = .ok (.aload_n 0, 1) := by decide +kernel
theorem dX12_feed_36 : decode cX12_feed 36 = .ok (.iload 4, 2) := by decide +kernel
theorem dX12_feed_38 : decode cX12_feed 38 = .ok (.invokevirtual 229, 3) := by decide +kernel
theorem dX12_feed_41 : decode cX12_feed 41 = .ok (.aload_n 0, 1) := by decide +kernel
theorem dX12_feed_42 : decode cX12_feed 42 = .ok (.iload 5, 2) := by decide +kernel
theorem dX12_feed_44 : decode cX12_feed 44 = .ok (.invokevirtual 229, 3) := by decide +kernel
theorem dX12_feed_47 : decode cX12_feed 47 = .ok (.aload_n 0, 1) := by decide +kernel
theorem dX12_feed_48 : decode cX12_feed 48 = .ok (.getfield 223, 3) := by decide +kernel
theorem dX12_feed_51 : decode cX12_feed 51 = .ok (.ireturn, 1) := by decide +kernel
set_option maxRecDepth 100000 in
theorem okm_X12_feed : okL RX12 cX12_feed 6 (some .int) "feed" pcX12_feed opX12_feed pcX12_feed := by
  unfold opX12_feed
  refine okL_cons (ok_aload_n rfl dX12_feed_0) rfl ?_
  refine okL_cons (ok_iconst rfl dX12_feed_1) rfl ?_
  refine okL_cons (ok_putI kw_717 cf_X12 rfl rfl (by decide) rfl dX12_feed_2) rfl ?_
  refine okL_cons (ok_aload_n rfl dX12_feed_5) rfl ?_
  refine okL_cons (ok_getI kw_771 cf_X12 rfl rfl (by decide) dX12_feed_6) rfl ?_
  refine okL_cons (ok_bipush rfl dX12_feed_9) rfl ?_
  refine okL_cons (ok_iadd dX12_feed_11) rfl ?_
  refine okL_cons (ok_sipush rfl dX12_feed_12) rfl ?_
  refine okL_cons (ok_icmp_le rfl dX12_feed_15) rfl ?_
  refine okL_cons (ok_iconst rfl dX12_feed_18) rfl ?_
  refine okL_cons (ok_ireturn rfl dX12_feed_19) rfl ?_
  refine okL_cons (ok_aload_n rfl dX12_feed_20) rfl ?_
  refine okL_cons (ok_iload_n rfl dX12_feed_21) rfl ?_
  refine okL_cons (ok_invV (M' := 191) kw_773 kw_774 kw_775 kw_711 kw_776 cf_X12 rfl (by decide +kernel) dX12_feed_22) rfl ?_
  refine okL_cons (ok_aload_n rfl dX12_feed_25) rfl ?_
  refine okL_cons (ok_iload_n rfl dX12_feed_26) rfl ?_
  refine okL_cons (ok_invV (M' := 191) kw_773 kw_774 kw_775 kw_711 kw_776 cf_X12 rfl (by decide +kernel) dX12_feed_27) rfl ?_
  refine okL_cons (ok_aload_n rfl dX12_feed_30) rfl ?_
  refine okL_cons (ok_iload_n rfl dX12_feed_31) rfl ?_
  refine okL_cons (ok_invV (M' := 191) kw_773 kw_774 kw_775 kw_711 kw_776 cf_X12 rfl (by decide +kernel) dX12_feed_32) rfl ?_
  refine okL_cons (ok_aload_n rfl dX12_feed_35) rfl ?_
  refine okL_cons (ok_iload dX12_feed_36) rfl ?_
  refine okL_cons (ok_invV (M' := 191) kw_773 kw_774 kw_775 kw_711 kw_776 cf_X12 rfl (by decide +kernel) dX12_feed_38) rfl ?_
  refine okL_cons (ok_aload_n rfl dX12_feed_41) rfl ?_
  refine okL_cons (ok_iload dX12_feed_42) rfl ?_
  refine okL_cons (ok_invV (M' := 191) kw_773 kw_774 kw_775 kw_711 kw_776 cf_X12 rfl (by decide +kernel) dX12_feed_44) rfl ?_
  refine okL_cons (ok_aload_n rfl dX12_feed_47) rfl ?_
  refine okL_cons (ok_getI kw_771 cf_X12 rfl rfl (by decide) dX12_feed_48) rfl ?_
  exact okL_one (ok_ireturn rfl dX12_feed_51)
theorem dX12_end_0 : decode cX12_end 0 = .ok (.aload_n 0, 1) := by decide +kernel
theorem dX12_end_1 : decode cX12_end 1 = .ok (.iconst 0, 1) := by decide +kernel
theorem dX12_end_2 : decode cX12_end 2 = .ok (.putfield 152, 3) := by decide +kernel
theorem dX12_end_5 : decode cX12_end 5 = .ok (.iload_n 1, 1) := by decide +kernel
theorem dX12_end_6 : decode cX12_end 6 = .ok (.ifCond .lt 11, 3) := by decide +kernel
theorem dX12_end_9 : decode cX12_end 9 = .ok (.iload_n 1, 1) := by decide +kernel
theorem dX12_end_10 : decode cX12_end 10 = .ok (.aload_n 0, 1) := by decide +kernel
theorem dX12_end_11 : decode cX12_end 11 = .ok (.getfield 223, 3) := by decide +kernel
theorem dX12_end_14 : decode cX12_end 14 = .ok (.if_icmp .le 5, 3) := by decide +kernel
theorem dX12_end_17 : decode cX12_end 17 = .ok (.iconst (-1), 1) := by decide +kernel
theorem dX12_end_18 : decode cX12_end 18 = .ok (.ireturn, 1) := by decide +kernel
theorem dX12_end_19 : decode cX12_end 19 = .ok (.aload_n 0, 1) := by decide +kernel
theorem dX12_end_20 : decode cX12_end 20 = .ok (.iload_n 1, 1) := by decide +kernel
theorem dX12_end_21 : decode cX12_end 21 = .ok (.putfield 223, 3) := by decide +kernel
theorem dX12_end_24 : decode cX12_end 24 = .ok (.iload_n 1, 1) := by decide +kernel
theorem dX12_end_25 : decode cX12_end 25 = .ok (.ireturn, 1) := by decide +kernel
set_option maxRecDepth 100000 in
theorem okm_X12_end : okL RX12 cX12_end 2 (some .int) "end" pcX12_end opX12_end pcX12_end := by
  unfold opX12_end
  refine okL_cons (ok_aload_n rfl dX12_end_0) rfl ?_
  refine okL_cons (ok_iconst rfl dX12_end_1) rfl ?_
  refine okL_cons (ok_putI kw_717 cf_X12 rfl rfl (by decide) rfl dX12_end_2) rfl ?_
  refine okL_cons (ok_iload_n rfl dX12_end_5) rfl ?_
  refine okL_cons (ok_if_lt rfl dX12_end_6) rfl ?_
  refine okL_cons (ok_iload_n rfl dX12_end_9) rfl ?_
  refine okL_cons (ok_aload_n rfl dX12_end_10) rfl ?_
  refine okL_cons (ok_getI kw_771 cf_X12 rfl rfl (by decide) dX12_end_11) rfl ?_
  refine okL_cons (ok_icmp_le rfl dX12_end_14) rfl ?_
  refine okL_cons (ok_iconst rfl dX12_end_17) rfl ?_
  refine okL_cons (ok_ireturn rfl dX12_end_18) rfl ?_
  refine okL_cons (ok_aload_n rfl dX12_end_19) rfl ?_
  refine okL_cons (ok_iload_n rfl dX12_end_20) rfl ?_
  refine okL_cons (ok_putI kw_771 cf_X12 rfl rfl (by decide) rfl dX12_end_21) rfl ?_
  refine okL_cons (ok_iload_n rfl dX12_end_24) rfl ?_
  exact okL_one (ok_ireturn rfl dX12_end_25)
theorem dX12_isSmall_0 : decode cX12_isSmall 0 = .ok (.iload_n 0, 1) := by decide +kernel
theorem dX12_isSmall_1 : decode cX12_isSmall 1 = .ok (.bipush 97, 2) := by decide +kernel
theorem dX12_isSmall_3 : decode cX12_isSmall 3 = .ok (.if_icmp .lt 13, 3) := by decide +kernel
theorem dX12_isSmall_6 : decode cX12_isSmall 6 = .ok (.iload_n 0, 1) := by decide +kernel
theorem dX12_isSmall_7 : decode cX12_isSmall 7 = .ok (.bipush 122, 2) := by decide +kernel
theorem dX12_isSmall_9 : decode cX12_isSmall 9 = .ok (.if_icmp .gt 7, 3) := by decide +kernel
theorem dX12_isSmall_12 : decode cX12_isSmall 12 = .ok (.iconst 1, 1) := by decide +kernel
theorem dX12_isSmall_13 : decode cX12_isSmall 13 = .ok (.goto 4, 3) := by decide +kernel
theorem dX12_isSmall_16 : decode cX12_isSmall 16 = .ok (.iconst 0, 1) := by decide +kernel
theorem dX12_isSmall_17 : decode cX12_isSmall 17 = .ok (.ireturn, 1) := by decide +kernel
set_option maxRecDepth 100000 in
theorem okm_X12_isSmall : okL RX12 cX12_isSmall 1 (some .boolean) "isSmall" pcX12_isSmall opX12_isSmall pcX12_isSmall := by
  unfold opX12_isSmall
  refine okL_cons (ok_iload_n rfl dX12_isSmall_0) rfl ?_
  refine okL_cons (ok_bipush rfl dX12_isSmall_1) rfl ?_
  refine okL_cons (ok_icmp_lt rfl dX12_isSmall_3) rfl ?_
  refine okL_cons (ok_iload_n rfl dX12_isSmall_6) rfl ?_
  refine okL_cons (ok_bipush rfl dX12_isSmall_7) rfl ?_
  refine okL_cons (ok_icmp_gt rfl dX12_isSmall_9) rfl ?_
  refine okL_cons (ok_iconst rfl dX12_isSmall_12) rfl ?_
  refine okL_cons (ok_goto rfl dX12_isSmall_13) rfl ?_
  refine okL_cons (ok_iconst rfl dX12_isSmall_16) rfl ?_
  exact okL_one (ok_zreturn rfl dX12_isSmall_17)
theorem dX12_isDigit_0 : decode cX12_isDigit 0 = .ok (.iload_n 0, 1) := by decide +kernel
theorem dX12_isDigit_1 : decode cX12_isDigit 1 = .ok (.bipush 48, 2) := by decide +kernel
theorem dX12_isDigit_3 : decode cX12_isDigit 3 = .ok (.if_icmp .lt 13, 3) := by decide +kernel
theorem dX12_isDigit_6 : decode cX12_isDigit 6 = .ok (.iload_n 0, 1) := by decide +kernel
theorem dX12_isDigit_7 : decode cX12_isDigit 7 = .ok (.bipush 57, 2) := by decide +kernel
theorem dX12_isDigit_9 : decode cX12_isDigit 9 = .ok (.if_icmp .gt 7, 3) := by decide +kernel
theorem dX12_isDigit_12 : decode cX12_isDigit 12 = .ok (.iconst 1, 1) := by decide +kernel
theorem dX12_isDigit_13 : decode cX12_isDigit 13 = .ok (.goto 4, 3) := by decide +kernel
theorem dX12_isDigit_16 : decode cX12_isDigit 16 = .ok (.iconst 0, 1) := by decide +kernel
theorem dX12_isDigit_17 : decode cX12_isDigit 17 = .ok (.ireturn, 1) := by decide +kernel
set_option maxRecDepth 100000 in
theorem okm_X12_isDigit : okL RX12 cX12_isDigit 1 (some .boolean) "isDigit" pcX12_isDigit opX12_isDigit pcX12_isDigit := by
  unfold opX12_isDigit
  refine okL_cons (ok_iload_n rfl dX12_isDigit_0) rfl ?_
  refine okL_cons (ok_bipush rfl dX12_isDigit_1) rfl ?_
  refine okL_cons (ok_icmp_lt rfl dX12_isDigit_3) rfl ?_
  refine okL_cons (ok_iload_n rfl dX12_isDigit_6) rfl ?_
  refine okL_cons (ok_bipush rfl dX12_isDigit_7) rfl ?_
  refine okL_cons (ok_icmp_gt rfl dX12_isDigit_9) rfl ?_
  refine okL_cons (ok_iconst rfl dX12_isDigit_12) rfl ?_
  refine okL_cons (ok_goto rfl dX12_isDigit_13) rfl ?_
  refine okL_cons (ok_iconst rfl dX12_isDigit_16) rfl ?_
  exact okL_one (ok_zreturn rfl dX12_isDigit_17)
theorem dX12_begin_0 : decode cX12_begin 0 = .ok (.aload_n 0, 1) := by decide +kernel
theorem dX12_begin_1 : decode cX12_begin 1 = .ok (.iconst 0, 1) := by decide +kernel
theorem dX12_begin_2 : decode cX12_begin 2 = .ok (.putfield 232, 3) := by decide +kernel
theorem dX12_begin_5 : decode cX12_begin 5 = .ok (.aload_n 0, 1) := by decide +kernel
theorem dX12_begin_6 : decode cX12_begin 6 = .ok (.iconst 0, 1) := by decide +kernel
theorem dX12_begin_7 : decode cX12_begin 7 = .ok (.putfield 235, 3) := by decide +kernel
theorem dX12_begin_10 : decode cX12_begin 10 = .ok (.aload_n 0, 1) := by decide +kernel
theorem dX12_begin_11 : decode cX12_begin 11 = .ok (.iconst (-1), 1) := by decide +kernel
theorem dX12_begin_12 : decode cX12_begin 12 = .ok (.putfield 38, 3) := by decide +kernel
theorem dX12_begin_15 : decode cX12_begin 15 = .ok (.aload_n 0, 1) := by decide +kernel
theorem dX12_begin_16 : decode cX12_begin 16 = .ok (.invokevirtual 239, 3) := by decide +kernel
theorem dX12_begin_19 : decode cX12_begin 19 = .ok (.return_, 1) := by decide +kernel
set_option maxRecDepth 100000 in
theorem okm_X12_begin : okL RX12 cX12_begin 1 none "begin" pcX12_begin opX12_begin pcX12_begin := by
  unfold opX12_begin
  refine okL_cons (ok_aload_n rfl dX12_begin_0) rfl ?_
  refine okL_cons (ok_iconst rfl dX12_begin_1) rfl ?_
  refine okL_cons (ok_putI kw_777 cf_X12 rfl rfl (by decide) rfl dX12_begin_2) rfl ?_
  refine okL_cons (ok_aload_n rfl dX12_begin_5) rfl ?_
  refine okL_cons (ok_iconst rfl dX12_begin_6) rfl ?_
  refine okL_cons (ok_putZ kw_778 cf_X12 rfl rfl (by decide) rfl dX12_begin_7) rfl ?_
  refine okL_cons (ok_aload_n rfl dX12_begin_10) rfl ?_
  refine okL_cons (ok_iconst rfl dX12_begin_11) rfl ?_
  refine okL_cons (ok_putI kw_662 cf_X12 rfl rfl (by decide) rfl dX12_begin_12) rfl ?_
  refine okL_cons (ok_aload_n rfl dX12_begin_15) rfl ?_
  refine okL_cons (ok_invV (M' := 197) kw_779 kw_780 kw_781 kw_711 kw_782 cf_X12 rfl (by decide +kernel) dX12_begin_16) rfl ?_
  exact okL_one (ok_return rfl dX12_begin_19)
theorem dX12_next_0 : decode cX12_next 0 = .ok (.aload_n 0, 1) := by decide +kernel
theorem dX12_next_1 : decode cX12_next 1 = .ok (.aload_n 0, 1) := by decide +kernel
theorem dX12_next_2 : decode cX12_next 2 = .ok (.getfield 232, 3) := by decide +kernel
theorem dX12_next_5 : decode cX12_next 5 = .ok (.putfield 242, 3) := by decide +kernel
theorem dX12_next_8 : decode cX12_next 8 = .ok (.aload_n 0, 1) := by decide +kernel
theorem dX12_next_9 : decode cX12_next 9 = .ok (.getfield 242, 3) := by decide +kernel
theorem dX12_next_12 : decode cX12_next 12 = .ok (.aload_n 0, 1) := by decide +kernel
theorem dX12_next_13 : decode cX12_next 13 = .ok (.getfield 223, 3) := by decide +kernel
theorem dX12_next_16 : decode cX12_next 16 = .ok (.if_icmp .ge 30, 3) := by decide +kernel
theorem dX12_next_19 : decode cX12_next 19 = .ok (.aload_n 0, 1) := by decide +kernel
theorem dX12_next_20 : decode cX12_next 20 = .ok (.getfield 35, 3) := by decide +kernel
theorem dX12_next_23 : decode cX12_next 23 = .ok (.aload_n 0, 1) := by decide +kernel
theorem dX12_next_24 : decode cX12_next 24 = .ok (.getfield 242, 3) := by decide +kernel
theorem dX12_next_27 : decode cX12_next 27 = .ok (.iaload, 1) := by decide +kernel
theorem dX12_next_28 : decode cX12_next 28 = .ok (.bipush 32, 2) := by decide +kernel
theorem dX12_next_30 : decode cX12_next 30 = .ok (.if_icmp .ne 16, 3) := by decide +kernel
theorem dX12_next_33 : decode cX12_next 33 = .ok (.aload_n 0, 1) := by decide +kernel
theorem dX12_next_34 : decode cX12_next 34 = .ok (.dup, 1) := by decide +kernel
theorem dX12_next_35 : decode cX12_next 35 = .ok (.getfield 242, 3) := by decide +kernel
theorem dX12_next_38 : decode cX12_next 38 = .ok (.iconst 1, 1) := by decide +kernel
theorem dX12_next_39 : decode cX12_next 39 = .ok (.iadd, 1) := by decide +kernel
theorem dX12_next_40 : decode cX12_next 40 = .ok (.putfield 242, 3) := by decide +kernel
theorem dX12_next_43 : decode cX12_next 43 = .ok (.goto (-35), 3) := by decide +kernel
theorem dX12_next_46 : decode cX12_next 46 = .ok (.aload_n 0, 1) := by decide +kernel
theorem dX12_next_47 : decode cX12_next 47 = .ok (.aload_n 0, 1) := by decide +kernel
theorem dX12_next_48 : decode cX12_next 48 = .ok (.getfield 242, 3) := by decide +kernel
theorem dX12_next_51 : decode cX12_next 51 = .ok (.putfield 232, 3) := by decide +kernel
theorem dX12_next_54 : decode cX12_next 54 = .ok (.aload_n 0, 1) := by decide +kernel
theorem dX12_next_55 : decode cX12_next 55 = .ok (.lconst 0, 1) := by decide +kernel
theorem dX12_next_56 : decode cX12_next 56 = .ok (.putfield 245, 3) := by decide +kernel
theorem dX12_next_59 : decode cX12_next 59 = .ok (.aload_n 0, 1) := by decide +kernel
theorem dX12_next_60 : decode cX12_next 60 = .ok (.aload_n 0, 1) := by decide +kernel
theorem dX12_next_61 : decode cX12_next 61 = .ok (.getfield 242, 3) := by decide +kernel
theorem dX12_next_64 : decode cX12_next 64 = .ok (.aload_n 0, 1) := by decide +kernel
theorem dX12_next_65 : decode cX12_next 65 = .ok (.getfield 223, 3) := by decide +kernel
theorem dX12_next_68 : decode cX12_next 68 = .ok (.if_icmp .ne 7, 3) := by decide +kernel
theorem dX12_next_71 : decode cX12_next 71 = .ok (.iconst 0, 1) := by decide +kernel
theorem dX12_next_72 : decode cX12_next 72 = .ok (.goto 42, 3) := by decide +kernel
theorem dX12_next_75 : decode cX12_next 75 = .ok (.aload_n 0, 1) := by decide +kernel
theorem dX12_next_76 : decode cX12_next 76 = .ok (.getfield 35, 3) := by decide +kernel
theorem dX12_next_79 : decode cX12_next 79 = .ok (.aload_n 0, 1) := by decide +kernel
theorem dX12_next_80 : decode cX12_next 80 = .ok (.getfield 242, 3) := by decide +kernel
theorem dX12_next_83 : decode cX12_next 83 = .ok (.iaload, 1) := by decide +kernel
theorem dX12_next_84 : decode cX12_next 84 = .ok (.invokestatic 249, 3) := by decide +kernel
theorem dX12_next_87 : decode cX12_next 87 = .ok (.ifCond .eq 7, 3) := by decide +kernel
theorem dX12_next_90 : decode cX12_next 90 = .ok (.iconst 1, 1) := by decide +kernel
theorem dX12_next_91 : decode cX12_next 91 = .ok (.goto 23, 3) := by decide +kernel
theorem dX12_next_94 : decode cX12_next 94 = .ok (.aload_n 0, 1) := by decide +kernel
theorem dX12_next_95 : decode cX12_next 95 = .ok (.getfield 35, 3) := by decide +kernel
theorem dX12_next_98 : decode cX12_next 98 = .ok (.aload_n 0, 1) := by decide +kernel
theorem dX12_next_99 : decode cX12_next 99 = .ok (.getfield 242, 3) := by decide +kernel
theorem dX12_next_102 : decode cX12_next 102 = .ok (.iaload, 1) := by decide +kernel
theorem dX12_next_103 : decode cX12_next 103 = .ok (.invokestatic 252, 3) := by decide +kernel
theorem dX12_next_106 : decode cX12_next 106 = .ok (.ifCond .eq 7, 3) := by decide +kernel
theorem dX12_next_109 : decode cX12_next 109 = .ok (.iconst 2, 1) := by decide +kernel
theorem dX12_next_110 : decode cX12_next 110 = .ok (.goto 4, 3) := by decide +kernel
theorem dX12_next_113 : decode cX12_next 113 = .ok (.iconst 3, 1) := by decide +kernel
theorem dX12_next_114 : decode cX12_next 114 = .ok (.putfield 255, 3) := by decide +kernel
theorem dX12_next_117 : decode cX12_next 117 = .ok (.aload_n 0, 1) := by decide +kernel
theorem dX12_next_118 : decode cX12_next 118 = .ok (.getfield 255, 3) := by decide +kernel
theorem dX12_next_121 : decode cX12_next 121 = .ok (.iconst 3, 1) := by decide +kernel
theorem dX12_next_122 : decode cX12_next 122 = .ok (.if_icmp .ne 27, 3) := by decide +kernel
theorem dX12_next_125 : decode cX12_next 125 = .ok (.aload_n 0, 1) := by decide +kernel
theorem dX12_next_126 : decode cX12_next 126 = .ok (.aload_n 0, 1) := by decide +kernel
theorem dX12_next_127 : decode cX12_next 127 = .ok (.getfield 35, 3) := by decide +kernel
theorem dX12_next_130 : decode cX12_next 130 = .ok (.aload_n 0, 1) := by decide +kernel
theorem dX12_next_131 : decode cX12_next 131 = .ok (.getfield 242, 3) := by decide +kernel
theorem dX12_next_134 : decode cX12_next 134 = .ok (.iaload, 1) := by decide +kernel
theorem dX12_next_135 : decode cX12_next 135 = .ok (.i2l, 1) := by decide +kernel
theorem dX12_next_136 : decode cX12_next 136 = .ok (.putfield 245, 3) := by decide +kernel
theorem dX12_next_139 : decode cX12_next 139 = .ok (.aload_n 0, 1) := by decide +kernel
theorem dX12_next_140 : decode cX12_next 140 = .ok (.dup, 1) := by decide +kernel
theorem dX12_next_141 : decode cX12_next 141 = .ok (.getfield 232, 3) := by decide +kernel
theorem dX12_next_144 : decode cX12_next 144 = .ok (.iconst 1, 1) := by decide +kernel
theorem dX12_next_145 : decode cX12_next 145 = .ok (.iadd, 1) := by decide +kernel
theorem dX12_next_146 : decode cX12_next 146 = .ok (.putfield 232, 3) := by decide +kernel
theorem dX12_next_149 : decode cX12_next 149 = .ok (.aload_n 0, 1) := by decide +kernel
theorem dX12_next_150 : decode cX12_next 150 = .ok (.getfield 255, 3) := by decide +kernel
theorem dX12_next_153 : decode cX12_next 153 = .ok (.iconst 1, 1) := by decide +kernel
theorem dX12_next_154 : decode cX12_next 154 = .ok (.if_icmp .ne 89, 3) := by decide +kernel
theorem dX12_next_157 : decode cX12_next 157 = .ok (.aload_n 0, 1) := by decide +kernel
theorem dX12_next_158 : decode cX12_next 158 = .ok (.getfield 232, 3) := by decide +kernel
theorem dX12_next_161 : decode cX12_next 161 = .ok (.aload_n 0, 1) := by decide +kernel
theorem dX12_next_162 : decode cX12_next 162 = .ok (.getfield 223, 3) := by decide +kernel
theorem dX12_next_165 : decode cX12_next 165 = .ok (.if_icmp .ge 78, 3) := by decide +kernel
theorem dX12_next_168 : decode cX12_next 168 = .ok (.aload_n 0, 1) := by decide +kernel
theorem dX12_next_169 : decode cX12_next 169 = .ok (.getfield 35, 3) := by decide +kernel
theorem dX12_next_172 : decode cX12_next 172 = .ok (.aload_n 0, 1) := by decide +kernel
theorem dX12_next_173 : decode cX12_next 173 = .ok (.getfield 232, 3) := by decide +kernel
theorem dX12_next_176 : decode cX12_next 176 = .ok (.iaload, 1) := by decide +kernel
theorem dX12_next_177 : decode cX12_next 177 = .ok (.invokestatic 249, 3) := by decide +kernel
theorem dX12_next_180 : decode cX12_next 180 = .ok (.ifCond .eq 63, 3) := by decide +kernel
theorem dX12_next_183 : decode cX12_next 183 = .ok (.aload_n 0, 1) := by decide +kernel
theorem dX12_next_184 : decode cX12_next 184 = .ok (.aload_n 0, 1) := by decide +kernel
theorem dX12_next_185 : decode cX12_next 185 = .ok (.getfield 232, 3) := by decide +kernel
theorem dX12_next_188 : decode cX12_next 188 = .ok (.aload_n 0, 1) := by decide +kernel
theorem dX12_next_189 : decode cX12_next 189 = .ok (.getfield 242, 3) := by decide +kernel
theorem dX12_next_192 : decode cX12_next 192 = .ok (.isub, 1) := by decide +kernel
theorem dX12_next_193 : decode cX12_next 193 = .ok (.bipush 10, 2) := by decide +kernel
theorem dX12_next_195 : decode cX12_next 195 = .ok (.if_icmp .ge 29, 3) := by decide +kernel
theorem dX12_next_198 : decode cX12_next 198 = .ok (.aload_n 0, 1) := by decide +kernel
theorem dX12_next_199 : decode cX12_next 199 = .ok (.getfield 245, 3) := by decide +kernel
theorem dX12_next_202 : decode cX12_next 202 = .ok (.ldc2_w 258, 3) := by decide +kernel
theorem dX12_next_205 : decode cX12_next 205 = .ok (.lmul, 1) := by decide +kernel
theorem dX12_next_206 : decode cX12_next 206 = .ok (.aload_n 0, 1) := by decide +kernel
theorem dX12_next_207 : decode cX12_next 207 = .ok (.getfield 35, 3) := by decide +kernel
theorem dX12_next_210 : decode cX12_next 210 = .ok (.aload_n 0, 1) := by decide +kernel
theorem dX12_next_211 : decode cX12_next 211 = .ok (.getfield 232, 3) := by decide +kernel
theorem dX12_next_214 : decode cX12_next 214 = .ok (.iaload, 1) := by decide +kernel
theorem dX12_next_215 : decode cX12_next 215 = .ok (.i2l, 1) := by decide +kernel
theorem dX12_next_216 : decode cX12_next 216 = .ok (.ladd, 1) := by decide +kernel
theorem dX12_next_217 : decode cX12_next 217 = .ok (.ldc2_w 260, 3) := by decide +kernel
theorem dX12_next_220 : decode cX12_next 220 = .ok (.lsub, 1) := by decide +kernel
theorem dX12_next_221 : decode cX12_next 221 = .ok (.goto 6, 3) := by decide +kernel
theorem dX12_next_224 : decode cX12_next 224 = .ok (.ldc2_w 262, 3) := by decide +kernel
theorem dX12_next_227 : decode cX12_next 227 = .ok (.putfield 245, 3) := by decide +kernel
theorem dX12_next_230 : decode cX12_next 230 = .ok (.aload_n 0, 1) := by decide +kernel
theorem dX12_next_231 : decode cX12_next 231 = .ok (.dup, 1) := by decide +kernel
theorem dX12_next_232 : decode cX12_next 232 = .ok (.getfield 232, 3) := by decide +kernel
theorem dX12_next_235 : decode cX12_next 235 = .ok (.iconst 1, 1) := by decide +kernel
theorem dX12_next_236 : decode cX12_next 236 = .ok (.iadd, 1) := by decide +kernel
theorem dX12_next_237 : decode cX12_next 237 = .ok (.putfield 232, 3) := by decide +kernel
theorem dX12_next_240 : decode cX12_next 240 = .ok (.goto (-91), 3) := by decide +kernel
theorem dX12_next_243 : decode cX12_next 243 = .ok (.aload_n 0, 1) := by decide +kernel
theorem dX12_next_244 : decode cX12_next 244 = .ok (.getfield 255, 3) := by decide +kernel
theorem dX12_next_247 : decode cX12_next 247 = .ok (.iconst 2, 1) := by decide +kernel
theorem dX12_next_248 : decode cX12_next 248 = .ok (.if_icmp .ne 87, 3) := by decide +kernel
theorem dX12_next_251 : decode cX12_next 251 = .ok (.aload_n 0, 1) := by decide +kernel
theorem dX12_next_252 : decode cX12_next 252 = .ok (.getfield 232, 3) := by decide +kernel
theorem dX12_next_255 : decode cX12_next 255 = .ok (.aload_n 0, 1) := by decide +kernel
theorem dX12_next_256 : decode cX12_next 256 = .ok (.getfield 223, 3) := by decide +kernel
theorem dX12_next_259 : decode cX12_next 259 = .ok (.if_icmp .ge 76, 3) := by decide +kernel
theorem dX12_next_262 : decode cX12_next 262 = .ok (.aload_n 0, 1) := by decide +kernel
theorem dX12_next_263 : decode cX12_next 263 = .ok (.getfield 35, 3) := by decide +kernel
theorem dX12_next_266 : decode cX12_next 266 = .ok (.aload_n 0, 1) := by decide +kernel
theorem dX12_next_267 : decode cX12_next 267 = .ok (.getfield 232, 3) := by decide +kernel
theorem dX12_next_270 : decode cX12_next 270 = .ok (.iaload, 1) := by decide +kernel
theorem dX12_next_271 : decode cX12_next 271 = .ok (.invokestatic 252, 3) := by decide +kernel
theorem dX12_next_274 : decode cX12_next 274 = .ok (.ifCond .eq 61, 3) := by decide +kernel
theorem dX12_next_277 : decode cX12_next 277 = .ok (.aload_n 0, 1) := by decide +kernel
theorem dX12_next_278 : decode cX12_next 278 = .ok (.aload_n 0, 1) := by decide +kernel
theorem dX12_next_279 : decode cX12_next 279 = .ok (.getfield 245, 3) := by decide +kernel
theorem dX12_next_282 : decode cX12_next 282 = .ok (.ldc2_w 264, 3) := by decide +kernel
theorem dX12_next_285 : decode cX12_next 285 = .ok (.lcmp, 1) := by decide +kernel
theorem dX12_next_286 : decode cX12_next 286 = .ok (.ifCond .le 10, 3) := by decide +kernel
theorem dX12_next_289 : decode cX12_next 289 = .ok (.aload_n 0, 1) := by decide +kernel
theorem dX12_next_290 : decode cX12_next 290 = .ok (.getfield 245, 3) := by decide +kernel
theorem dX12_next_293 : decode cX12_next 293 = .ok (.goto 26, 3) := by decide +kernel
theorem dX12_next_296 : decode cX12_next 296 = .ok (.aload_n 0, 1) := by decide +kernel
theorem dX12_next_297 : decode cX12_next 297 = .ok (.getfield 245, 3) := by decide +kernel
theorem dX12_next_300 : decode cX12_next 300 = .ok (.ldc2_w 215, 3) := by decide +kernel
theorem dX12_next_303 : decode cX12_next 303 = .ok (.lmul, 1) := by decide +kernel
theorem dX12_next_304 : decode cX12_next 304 = .ok (.aload_n 0, 1) := by decide +kernel
theorem dX12_next_305 : decode cX12_next 305 = .ok (.getfield 35, 3) := by decide +kernel
theorem dX12_next_308 : decode cX12_next 308 = .ok (.aload_n 0, 1) := by decide +kernel
theorem dX12_next_309 : decode cX12_next 309 = .ok (.getfield 232, 3) := by decide +kernel
theorem dX12_next_312 : decode cX12_next 312 = .ok (.iaload, 1) := by decide +kernel
theorem dX12_next_313 : decode cX12_next 313 = .ok (.i2l, 1) := by decide +kernel
theorem dX12_next_314 : decode cX12_next 314 = .ok (.ladd, 1) := by decide +kernel
theorem dX12_next_315 : decode cX12_next 315 = .ok (.ldc2_w 266, 3) := by decide +kernel
theorem dX12_next_318 : decode cX12_next 318 = .ok (.lsub, 1) := by decide +kernel
theorem dX12_next_319 : decode cX12_next 319 = .ok (.putfield 245, 3) := by decide +kernel
theorem dX12_next_322 : decode cX12_next 322 = .ok (.aload_n 0, 1) := by decide +kernel
theorem dX12_next_323 : decode cX12_next 323 = .ok (.dup, 1) := by decide +kernel
theorem dX12_next_324 : decode cX12_next 324 = .ok (.getfield 232, 3) := by decide +kernel
theorem dX12_next_327 : decode cX12_next 327 = .ok (.iconst 1, 1) := by decide +kernel
theorem dX12_next_328 : decode cX12_next 328 = .ok (.iadd, 1) := by decide +kernel
theorem dX12_next_329 : decode cX12_next 329 = .ok (.putfield 232, 3) := by decide +kernel
theorem dX12_next_332 : decode cX12_next 332 = .ok (.goto (-89), 3) := by decide +kernel
theorem dX12_next_335 : decode cX12_next 335 = .ok (.return_, 1) := by decide +kernel
set_option maxRecDepth 100000 in
theorem okm_X12_next : okL RX12 cX12_next 1 none "next" pcX12_next opX12_next pcX12_next := by
  unfold opX12_next
  refine okL_cons (ok_aload_n rfl dX12_next_0) rfl ?_
  refine okL_cons (ok_aload_n rfl dX12_next_1) rfl ?_
  refine okL_cons (ok_getI kw_777 cf_X12 rfl rfl (by decide) dX12_next_2) rfl ?_
  refine okL_cons (ok_putI kw_783 cf_X12 rfl rfl (by decide) rfl dX12_next_5) rfl ?_
  refine okL_cons (ok_aload_n rfl dX12_next_8) rfl ?_
  refine okL_cons (ok_getI kw_783 cf_X12 rfl rfl (by decide) dX12_next_9) rfl ?_
  refine okL_cons (ok_aload_n rfl dX12_next_12) rfl ?_
  refine okL_cons (ok_getI kw_771 cf_X12 rfl rfl (by decide) dX12_next_13) rfl ?_
  refine okL_cons (ok_icmp_ge rfl dX12_next_16) rfl ?_
  refine okL_cons (ok_aload_n rfl dX12_next_19) rfl ?_
  refine okL_cons (ok_getP kw_661 cf_X12 rfl rfl (by decide) dX12_next_20) rfl ?_
  refine okL_cons (ok_aload_n rfl dX12_next_23) rfl ?_
  refine okL_cons (ok_getI kw_783 cf_X12 rfl rfl (by decide) dX12_next_24) rfl ?_
  refine okL_cons (ok_iaload dX12_next_27) rfl ?_
  refine okL_cons (ok_bipush rfl dX12_next_28) rfl ?_
  refine okL_cons (ok_icmp_ne rfl dX12_next_30) rfl ?_
  refine okL_cons (ok_aload_n rfl dX12_next_33) rfl ?_
  refine okL_cons (ok_dup dX12_next_34) rfl ?_
  refine okL_cons (ok_getI kw_783 cf_X12 rfl rfl (by decide) dX12_next_35) rfl ?_
  refine okL_cons (ok_iconst rfl dX12_next_38) rfl ?_
  refine okL_cons (ok_iadd dX12_next_39) rfl ?_
  refine okL_cons (ok_putI kw_783 cf_X12 rfl rfl (by decide) rfl dX12_next_40) rfl ?_
  refine okL_cons (ok_goto rfl dX12_next_43) rfl ?_
  refine okL_cons (ok_aload_n rfl dX12_next_46) rfl ?_
  refine okL_cons (ok_aload_n rfl dX12_next_47) rfl ?_
  refine okL_cons (ok_getI kw_783 cf_X12 rfl rfl (by decide) dX12_next_48) rfl ?_
  refine okL_cons (ok_putI kw_777 cf_X12 rfl rfl (by decide) rfl dX12_next_51) rfl ?_
  refine okL_cons (ok_aload_n rfl dX12_next_54) rfl ?_
  refine okL_cons (ok_lconst rfl dX12_next_55) rfl ?_
  refine okL_cons (ok_putJ kw_784 cf_X12 rfl rfl (by decide) rfl dX12_next_56) rfl ?_
  refine okL_cons (ok_aload_n rfl dX12_next_59) rfl ?_
  refine okL_cons (ok_aload_n rfl dX12_next_60) rfl ?_
  refine okL_cons (ok_getI kw_783 cf_X12 rfl rfl (by decide) dX12_next_61) rfl ?_
  refine okL_cons (ok_aload_n rfl dX12_next_64) rfl ?_
  refine okL_cons (ok_getI kw_771 cf_X12 rfl rfl (by decide) dX12_next_65) rfl ?_
  refine okL_cons (ok_icmp_ne rfl dX12_next_68) rfl ?_
  refine okL_cons (ok_iconst rfl dX12_next_71) rfl ?_
  refine okL_cons (ok_goto rfl dX12_next_72) rfl ?_
  refine okL_cons (ok_aload_n rfl dX12_next_75) rfl ?_
  refine okL_cons (ok_getP kw_661 cf_X12 rfl rfl (by decide) dX12_next_76) rfl ?_
  refine okL_cons (ok_aload_n rfl dX12_next_79) rfl ?_
  refine okL_cons (ok_getI kw_783 cf_X12 rfl rfl (by decide) dX12_next_80) rfl ?_
  refine okL_cons (ok_iaload dX12_next_83) rfl ?_
  refine okL_cons (ok_invS (M' := 194) kw_785 kw_786 kw_711 kw_787 rfl (by decide +kernel) dX12_next_84) rfl ?_
  refine okL_cons (ok_if_eq rfl dX12_next_87) rfl ?_
  refine okL_cons (ok_iconst rfl dX12_next_90) rfl ?_
  refine okL_cons (ok_goto rfl dX12_next_91) rfl ?_
  refine okL_cons (ok_aload_n rfl dX12_next_94) rfl ?_
  refine okL_cons (ok_getP kw_661 cf_X12 rfl rfl (by decide) dX12_next_95) rfl ?_
  refine okL_cons (ok_aload_n rfl dX12_next_98) rfl ?_
  refine okL_cons (ok_getI kw_783 cf_X12 rfl rfl (by decide) dX12_next_99) rfl ?_
  refine okL_cons (ok_iaload dX12_next_102) rfl ?_
  refine okL_cons (ok_invS (M' := 195) kw_788 kw_789 kw_711 kw_790 rfl (by decide +kernel) dX12_next_103) rfl ?_
  refine okL_cons (ok_if_eq rfl dX12_next_106) rfl ?_
  refine okL_cons (ok_iconst rfl dX12_next_109) rfl ?_
  refine okL_cons (ok_goto rfl dX12_next_110) rfl ?_
  refine okL_cons (ok_iconst rfl dX12_next_113) rfl ?_
  refine okL_cons (ok_putI kw_791 cf_X12 rfl rfl (by decide) rfl dX12_next_114) rfl ?_
  refine okL_cons (ok_aload_n rfl dX12_next_117) rfl ?_
  refine okL_cons (ok_getI kw_791 cf_X12 rfl rfl (by decide) dX12_next_118) rfl ?_
  refine okL_cons (ok_iconst rfl dX12_next_121) rfl ?_
  refine okL_cons (ok_icmp_ne rfl dX12_next_122) rfl ?_
  refine okL_cons (ok_aload_n rfl dX12_next_125) rfl ?_
  refine okL_cons (ok_aload_n rfl dX12_next_126) rfl ?_
  refine okL_cons (ok_getP kw_661 cf_X12 rfl rfl (by decide) dX12_next_127) rfl ?_
  refine okL_cons (ok_aload_n rfl dX12_next_130) rfl ?_
  refine okL_cons (ok_getI kw_783 cf_X12 rfl rfl (by decide) dX12_next_131) rfl ?_
  refine okL_cons (ok_iaload dX12_next_134) rfl ?_
  refine okL_cons (ok_i2l dX12_next_135) rfl ?_
  refine okL_cons (ok_putJ kw_784 cf_X12 rfl rfl (by decide) rfl dX12_next_136) rfl ?_
  refine okL_cons (ok_aload_n rfl dX12_next_139) rfl ?_
  refine okL_cons (ok_dup dX12_next_140) rfl ?_
  refine okL_cons (ok_getI kw_777 cf_X12 rfl rfl (by decide) dX12_next_141) rfl ?_
  refine okL_cons (ok_iconst rfl dX12_next_144) rfl ?_
  refine okL_cons (ok_iadd dX12_next_145) rfl ?_
  refine okL_cons (ok_putI kw_777 cf_X12 rfl rfl (by decide) rfl dX12_next_146) rfl ?_
  refine okL_cons (ok_aload_n rfl dX12_next_149) rfl ?_
  refine okL_cons (ok_getI kw_791 cf_X12 rfl rfl (by decide) dX12_next_150) rfl ?_
  refine okL_cons (ok_iconst rfl dX12_next_153) rfl ?_
  refine okL_cons (ok_icmp_ne rfl dX12_next_154) rfl ?_
  refine okL_cons (ok_aload_n rfl dX12_next_157) rfl ?_
  refine okL_cons (ok_getI kw_777 cf_X12 rfl rfl (by decide) dX12_next_158) rfl ?_
  refine okL_cons (ok_aload_n rfl dX12_next_161) rfl ?_
  refine okL_cons (ok_getI kw_771 cf_X12 rfl rfl (by decide) dX12_next_162) rfl ?_
  refine okL_cons (ok_icmp_ge rfl dX12_next_165) rfl ?_
  refine okL_cons (ok_aload_n rfl dX12_next_168) rfl ?_
  refine okL_cons (ok_getP kw_661 cf_X12 rfl rfl (by decide) dX12_next_169) rfl ?_
  refine okL_cons (ok_aload_n rfl dX12_next_172) rfl ?_
  refine okL_cons (ok_getI kw_777 cf_X12 rfl rfl (by decide) dX12_next_173) rfl ?_
  refine okL_cons (ok_iaload dX12_next_176) rfl ?_
  refine okL_cons (ok_invS (M' := 194) kw_785 kw_786 kw_711 kw_787 rfl (by decide +kernel) dX12_next_177) rfl ?_
  refine okL_cons (ok_if_eq rfl dX12_next_180) rfl ?_
  refine okL_cons (ok_aload_n rfl dX12_next_183) rfl ?_
  refine okL_cons (ok_aload_n rfl dX12_next_184) rfl ?_
  refine okL_cons (ok_getI kw_777 cf_X12 rfl rfl (by decide) dX12_next_185) rfl ?_
  refine okL_cons (ok_aload_n rfl dX12_next_188) rfl ?_
  refine okL_cons (ok_getI kw_783 cf_X12 rfl rfl (by decide) dX12_next_189) rfl ?_
  refine okL_cons (ok_isub dX12_next_192) rfl ?_
  refine okL_cons (ok_bipush rfl dX12_next_193) rfl ?_
  refine okL_cons (ok_icmp_ge rfl dX12_next_195) rfl ?_
  refine okL_cons (ok_aload_n rfl dX12_next_198) rfl ?_
  refine okL_cons (ok_getJ kw_784 cf_X12 rfl rfl (by decide) dX12_next_199) rfl ?_
  refine okL_cons (ok_ldc2 kw_792 dX12_next_202) rfl ?_
  refine okL_cons (ok_lmul dX12_next_205) rfl ?_
  refine okL_cons (ok_aload_n rfl dX12_next_206) rfl ?_
  refine okL_cons (ok_getP kw_661 cf_X12 rfl rfl (by decide) dX12_next_207) rfl ?_
  refine okL_cons (ok_aload_n rfl dX12_next_210) rfl ?_
  refine okL_cons (ok_getI kw_777 cf_X12 rfl rfl (by decide) dX12_next_211) rfl ?_
  refine okL_cons (ok_iaload dX12_next_214) rfl ?_
  refine okL_cons (ok_i2l dX12_next_215) rfl ?_
  refine okL_cons (ok_ladd dX12_next_216) rfl ?_
  refine okL_cons (ok_ldc2 kw_793 dX12_next_217) rfl ?_
  refine okL_cons (ok_lsub dX12_next_220) rfl ?_
  refine okL_cons (ok_goto rfl dX12_next_221) rfl ?_
  refine okL_cons (ok_ldc2 kw_794 dX12_next_224) rfl ?_
  refine okL_cons (ok_putJ kw_784 cf_X12 rfl rfl (by decide) rfl dX12_next_227) rfl ?_
  refine okL_cons (ok_aload_n rfl dX12_next_230) rfl ?_
  refine okL_cons (ok_dup dX12_next_231) rfl ?_
  refine okL_cons (ok_getI kw_777 cf_X12 rfl rfl (by decide) dX12_next_232) rfl ?_
  refine okL_cons (ok_iconst rfl dX12_next_235) rfl ?_
  refine okL_cons (ok_iadd dX12_next_236) rfl ?_
  refine okL_cons (ok_putI kw_777 cf_X12 rfl rfl (by decide) rfl dX12_next_237) rfl ?_
  refine okL_cons (ok_goto rfl dX12_next_240) rfl ?_
  refine okL_cons (ok_aload_n rfl dX12_next_243) rfl ?_
  refine okL_cons (ok_getI kw_791 cf_X12 rfl rfl (by decide) dX12_next_244) rfl ?_
  refine okL_cons (ok_iconst rfl dX12_next_247) rfl ?_
  refine okL_cons (ok_icmp_ne rfl dX12_next_248) rfl ?_
  refine okL_cons (ok_aload_n rfl dX12_next_251) rfl ?_
  refine okL_cons (ok_getI kw_777 cf_X12 rfl rfl (by decide) dX12_next_252) rfl ?_
  refine okL_cons (ok_aload_n rfl dX12_next_255) rfl ?_
  refine okL_cons (ok_getI kw_771 cf_X12 rfl rfl (by decide) dX12_next_256) rfl ?_
  refine okL_cons (ok_icmp_ge rfl dX12_next_259) rfl ?_
  refine okL_cons (ok_aload_n rfl dX12_next_262) rfl ?_
  refine okL_cons (ok_getP kw_661 cf_X12 rfl rfl (by decide) dX12_next_263) rfl ?_
  refine okL_cons (ok_aload_n rfl dX12_next_266) rfl ?_
  refine okL_cons (ok_getI kw_777 cf_X12 rfl rfl (by decide) dX12_next_267) rfl ?_
  refine okL_cons (ok_iaload dX12_next_270) rfl ?_
  refine okL_cons (ok_invS (M' := 195) kw_788 kw_789 kw_711 kw_790 rfl (by decide +kernel) dX12_next_271) rfl ?_
  refine okL_cons (ok_if_eq rfl dX12_next_274) rfl ?_
  refine okL_cons (ok_aload_n rfl dX12_next_277) rfl ?_
  refine okL_cons (ok_aload_n rfl dX12_next_278) rfl ?_
  refine okL_cons (ok_getJ kw_784 cf_X12 rfl rfl (by decide) dX12_next_279) rfl ?_
  refine okL_cons (ok_ldc2 kw_795 dX12_next_282) rfl ?_
  refine okL_cons (ok_lcmp dX12_next_285) rfl ?_
  refine okL_cons (ok_if_le rfl dX12_next_286) rfl ?_
  refine okL_cons (ok_aload_n rfl dX12_next_289) rfl ?_
  refine okL_cons (ok_getJ kw_784 cf_X12 rfl rfl (by decide) dX12_next_290) rfl ?_
  refine okL_cons (ok_goto rfl dX12_next_293) rfl ?_
  refine okL_cons (ok_aload_n rfl dX12_next_296) rfl ?_
  refine okL_cons (ok_getJ kw_784 cf_X12 rfl rfl (by decide) dX12_next_297) rfl ?_
  refine okL_cons (ok_ldc2 kw_765 dX12_next_300) rfl ?_
  refine okL_cons (ok_lmul dX12_next_303) rfl ?_
  refine okL_cons (ok_aload_n rfl dX12_next_304) rfl ?_
  refine okL_cons (ok_getP kw_661 cf_X12 rfl rfl (by decide) dX12_next_305) rfl ?_
  refine okL_cons (ok_aload_n rfl dX12_next_308) rfl ?_
  refine okL_cons (ok_getI kw_777 cf_X12 rfl rfl (by decide) dX12_next_309) rfl ?_
  refine okL_cons (ok_iaload dX12_next_312) rfl ?_
  refine okL_cons (ok_i2l dX12_next_313) rfl ?_
  refine okL_cons (ok_ladd dX12_next_314) rfl ?_
  refine okL_cons (ok_ldc2 kw_796 dX12_next_315) rfl ?_
  refine okL_cons (ok_lsub dX12_next_318) rfl ?_
  refine okL_cons (ok_putJ kw_784 cf_X12 rfl rfl (by decide) rfl dX12_next_319) rfl ?_
  refine okL_cons (ok_aload_n rfl dX12_next_322) rfl ?_
  refine okL_cons (ok_dup dX12_next_323) rfl ?_
  refine okL_cons (ok_getI kw_777 cf_X12 rfl rfl (by decide) dX12_next_324) rfl ?_
  refine okL_cons (ok_iconst rfl dX12_next_327) rfl ?_
  refine okL_cons (ok_iadd dX12_next_328) rfl ?_
  refine okL_cons (ok_putI kw_777 cf_X12 rfl rfl (by decide) rfl dX12_next_329) rfl ?_
  refine okL_cons (ok_goto rfl dX12_next_332) rfl ?_
  exact okL_one (ok_return rfl dX12_next_335)
theorem dX12_isWord_0 : decode cX12_isWord 0 = .ok (.aload_n 0, 1) := by decide +kernel
theorem dX12_isWord_1 : decode cX12_isWord 1 = .ok (.getfield 255, 3) := by decide +kernel
theorem dX12_isWord_4 : decode cX12_isWord 4 = .ok (.iconst 1, 1) := by decide +kernel
theorem dX12_isWord_5 : decode cX12_isWord 5 = .ok (.if_icmp .ne 16, 3) := by decide +kernel
theorem dX12_isWord_8 : decode cX12_isWord 8 = .ok (.aload_n 0, 1) := by decide +kernel
theorem dX12_isWord_9 : decode cX12_isWord 9 = .ok (.getfield 245, 3) := by decide +kernel
theorem dX12_isWord_12 : decode cX12_isWord 12 = .ok (.lload_n 1, 1) := by decide +kernel
theorem dX12_isWord_13 : decode cX12_isWord 13 = .ok (.lcmp, 1) := by decide +kernel
theorem dX12_isWord_14 : decode cX12_isWord 14 = .ok (.ifCond .ne 7, 3) := by decide +kernel
theorem dX12_isWord_17 : decode cX12_isWord 17 = .ok (.iconst 1, 1) := by decide +kernel
theorem dX12_isWord_18 : decode cX12_isWord 18 = .ok (.goto 4, 3) := by decide +kernel
theorem dX12_isWord_21 : decode cX12_isWord 21 = .ok (.iconst 0, 1) := by decide +kernel
theorem dX12_isWord_22 : decode cX12_isWord 22 = .ok (.ireturn, 1) := by decide +kernel
set_option maxRecDepth 100000 in
theorem okm_X12_isWord : okL RX12 cX12_isWord 3 (some .boolean) "isWord" pcX12_isWord opX12_isWord pcX12_isWord := by
  unfold opX12_isWord
  refine okL_cons (ok_aload_n rfl dX12_isWord_0) rfl ?_
  refine okL_cons (ok_getI kw_791 cf_X12 rfl rfl (by decide) dX12_isWord_1) rfl ?_
  refine okL_cons (ok_iconst rfl dX12_isWord_4) rfl ?_
  refine okL_cons (ok_icmp_ne rfl dX12_isWord_5) rfl ?_
  refine okL_cons (ok_aload_n rfl dX12_isWord_8) rfl ?_
  refine okL_cons (ok_getJ kw_784 cf_X12 rfl rfl (by decide) dX12_isWord_9) rfl ?_
  refine okL_cons (ok_lload_n rfl dX12_isWord_12) rfl ?_
  refine okL_cons (ok_lcmp dX12_isWord_13) rfl ?_
  refine okL_cons (ok_if_ne rfl dX12_isWord_14) rfl ?_
  refine okL_cons (ok_iconst rfl dX12_isWord_17) rfl ?_
  refine okL_cons (ok_goto rfl dX12_isWord_18) rfl ?_
  refine okL_cons (ok_iconst rfl dX12_isWord_21) rfl ?_
  exact okL_one (ok_zreturn rfl dX12_isWord_22)
theorem dX12_isSign_0 : decode cX12_isSign 0 = .ok (.aload_n 0, 1) := by decide +kernel
theorem dX12_isSign_1 : decode cX12_isSign 1 = .ok (.getfield 255, 3) := by decide +kernel
theorem dX12_isSign_4 : decode cX12_isSign 4 = .ok (.iconst 3, 1) := by decide +kernel
theorem dX12_isSign_5 : decode cX12_isSign 5 = .ok (.if_icmp .ne 17, 3) := by decide +kernel
theorem dX12_isSign_8 : decode cX12_isSign 8 = .ok (.aload_n 0, 1) := by decide +kernel
theorem dX12_isSign_9 : decode cX12_isSign 9 = .ok (.getfield 245, 3) := by decide +kernel
theorem dX12_isSign_12 : decode cX12_isSign 12 = .ok (.iload_n 1, 1) := by decide +kernel
theorem dX12_isSign_13 : decode cX12_isSign 13 = .ok (.i2l, 1) := by decide +kernel
theorem dX12_isSign_14 : decode cX12_isSign 14 = .ok (.lcmp, 1) := by decide +kernel
theorem dX12_isSign_15 : decode cX12_isSign 15 = .ok (.ifCond .ne 7, 3) := by decide +kernel
theorem dX12_isSign_18 : decode cX12_isSign 18 = .ok (.iconst 1, 1) := by decide +kernel
theorem dX12_isSign_19 : decode cX12_isSign 19 = .ok (.goto 4, 3) := by decide +kernel
theorem dX12_isSign_22 : decode cX12_isSign 22 = .ok (.iconst 0, 1) := by decide +kernel
theorem dX12_isSign_23 : decode cX12_isSign 23 = .ok (.ireturn, 1) := by decide +kernel
set_option maxRecDepth 100000 in
theorem okm_X12_isSign : okL RX12 cX12_isSign 2 (some .boolean) "isSign" pcX12_isSign opX12_isSign pcX12_isSign := by
  unfold opX12_isSign
  refine okL_cons (ok_aload_n rfl dX12_isSign_0) rfl ?_
  refine okL_cons (ok_getI kw_791 cf_X12 rfl rfl (by decide) dX12_isSign_1) rfl ?_
  refine okL_cons (ok_iconst rfl dX12_isSign_4) rfl ?_
  refine okL_cons (ok_icmp_ne rfl dX12_isSign_5) rfl ?_
  refine okL_cons (ok_aload_n rfl dX12_isSign_8) rfl ?_
  refine okL_cons (ok_getJ kw_784 cf_X12 rfl rfl (by decide) dX12_isSign_9) rfl ?_
  refine okL_cons (ok_iload_n rfl dX12_isSign_12) rfl ?_
  refine okL_cons (ok_i2l dX12_isSign_13) rfl ?_
  refine okL_cons (ok_lcmp dX12_isSign_14) rfl ?_
  refine okL_cons (ok_if_ne rfl dX12_isSign_15) rfl ?_
  refine okL_cons (ok_iconst rfl dX12_isSign_18) rfl ?_
  refine okL_cons (ok_goto rfl dX12_isSign_19) rfl ?_
  refine okL_cons (ok_iconst rfl dX12_isSign_22) rfl ?_
  exact okL_one (ok_zreturn rfl dX12_isSign_23)
theorem dX12_must_0 : decode cX12_must 0 = .ok (.aload_n 0, 1) := by decide +kernel
theorem dX12_must_1 : decode cX12_must 1 = .ok (.getfield 235, 3) := by decide +kernel
theorem dX12_must_4 : decode cX12_must 4 = .ok (.ifCond .ne 20, 3) := by decide +kernel
theorem dX12_must_7 : decode cX12_must 7 = .ok (.iload_n 1, 1) := by decide +kernel
theorem dX12_must_8 : decode cX12_must 8 = .ok (.ifCond .ne 16, 3) := by decide +kernel
theorem dX12_must_11 : decode cX12_must 11 = .ok (.aload_n 0, 1) := by decide +kernel
theorem dX12_must_12 : decode cX12_must 12 = .ok (.iconst 1, 1) := by decide +kernel
theorem dX12_must_13 : decode cX12_must 13 = .ok (.putfield 235, 3) := by decide +kernel
theorem dX12_must_16 : decode cX12_must 16 = .ok (.aload_n 0, 1) := by decide +kernel
theorem dX12_must_17 : decode cX12_must 17 = .ok (.aload_n 0, 1) := by decide +kernel
theorem dX12_must_18 : decode cX12_must 18 = .ok (.getfield 242, 3) := by decide +kernel
theorem dX12_must_21 : decode cX12_must 21 = .ok (.putfield 38, 3) := by decide +kernel
theorem dX12_must_24 : decode cX12_must 24 = .ok (.aload_n 0, 1) := by decide +kernel
theorem dX12_must_25 : decode cX12_must 25 = .ok (.getfield 235, 3) := by decide +kernel
theorem dX12_must_28 : decode cX12_must 28 = .ok (.ifCond .ne 7, 3) := by decide +kernel
theorem dX12_must_31 : decode cX12_must 31 = .ok (.aload_n 0, 1) := by decide +kernel
theorem dX12_must_32 : decode cX12_must 32 = .ok (.invokevirtual 239, 3) := by decide +kernel
theorem dX12_must_35 : decode cX12_must 35 = .ok (.return_, 1) := by decide +kernel
set_option maxRecDepth 100000 in
theorem okm_X12_must : okL RX12 cX12_must 2 none "must" pcX12_must opX12_must pcX12_must := by
  unfold opX12_must
  refine okL_cons (ok_aload_n rfl dX12_must_0) rfl ?_
  refine okL_cons (ok_getI kw_778 cf_X12 rfl rfl (by decide) dX12_must_1) rfl ?_
  refine okL_cons (ok_if_ne rfl dX12_must_4) rfl ?_
  refine okL_cons (ok_iload_n rfl dX12_must_7) rfl ?_
  refine okL_cons (ok_if_ne rfl dX12_must_8) rfl ?_
  refine okL_cons (ok_aload_n rfl dX12_must_11) rfl ?_
  refine okL_cons (ok_iconst rfl dX12_must_12) rfl ?_
  refine okL_cons (ok_putZ kw_778 cf_X12 rfl rfl (by decide) rfl dX12_must_13) rfl ?_
  refine okL_cons (ok_aload_n rfl dX12_must_16) rfl ?_
  refine okL_cons (ok_aload_n rfl dX12_must_17) rfl ?_
  refine okL_cons (ok_getI kw_783 cf_X12 rfl rfl (by decide) dX12_must_18) rfl ?_
  refine okL_cons (ok_putI kw_662 cf_X12 rfl rfl (by decide) rfl dX12_must_21) rfl ?_
  refine okL_cons (ok_aload_n rfl dX12_must_24) rfl ?_
  refine okL_cons (ok_getI kw_778 cf_X12 rfl rfl (by decide) dX12_must_25) rfl ?_
  refine okL_cons (ok_if_ne rfl dX12_must_28) rfl ?_
  refine okL_cons (ok_aload_n rfl dX12_must_31) rfl ?_
  refine okL_cons (ok_invV (M' := 197) kw_779 kw_780 kw_781 kw_711 kw_782 cf_X12 rfl (by decide +kernel) dX12_must_32) rfl ?_
  exact okL_one (ok_return rfl dX12_must_35)
theorem dX12_number_0 : decode cX12_number 0 = .ok (.aload_n 0, 1) := by decide +kernel
theorem dX12_number_1 : decode cX12_number 1 = .ok (.getfield 245, 3) := by decide +kernel
theorem dX12_number_4 : decode cX12_number 4 = .ok (.l2i, 1) := by decide +kernel
theorem dX12_number_5 : decode cX12_number 5 = .ok (.istore 5, 2) := by decide +kernel
theorem dX12_number_7 : decode cX12_number 7 = .ok (.aload_n 0, 1) := by decide +kernel
theorem dX12_number_8 : decode cX12_number 8 = .ok (.aload_n 0, 1) := by decide +kernel
theorem dX12_number_9 : decode cX12_number 9 = .ok (.getfield 255, 3) := by decide +kernel
theorem dX12_number_12 : decode cX12_number 12 = .ok (.iconst 2, 1) := by decide +kernel
theorem dX12_number_13 : decode cX12_number 13 = .ok (.if_icmp .ne 19, 3) := by decide +kernel
theorem dX12_number_16 : decode cX12_number 16 = .ok (.aload_n 0, 1) := by decide +kernel
theorem dX12_number_17 : decode cX12_number 17 = .ok (.getfield 245, 3) := by decide +kernel
theorem dX12_number_20 : decode cX12_number 20 = .ok (.lload_n 1, 1) := by decide +kernel
theorem dX12_number_21 : decode cX12_number 21 = .ok (.lload_n 3, 1) := by decide +kernel
theorem dX12_number_22 : decode cX12_number 22 = .ok (.invokestatic 172, 3) := by decide +kernel
theorem dX12_number_25 : decode cX12_number 25 = .ok (.ifCond .eq 7, 3) := by decide +kernel
theorem dX12_number_28 : decode cX12_number 28 = .ok (.iconst 1, 1) := by decide +kernel
theorem dX12_number_29 : decode cX12_number 29 = .ok (.goto 4, 3) := by decide +kernel
theorem dX12_number_32 : decode cX12_number 32 = .ok (.iconst 0, 1) := by decide +kernel
theorem dX12_number_33 : decode cX12_number 33 = .ok (.invokevirtual 268, 3) := by decide +kernel
theorem dX12_number_36 : decode cX12_number 36 = .ok (.iload 5, 2) := by decide +kernel
theorem dX12_number_38 : decode cX12_number 38 = .ok (.ireturn, 1) := by decide +kernel
set_option maxRecDepth 100000 in
theorem okm_X12_number : okL RX12 cX12_number 6 (some .int) "number" pcX12_number opX12_number pcX12_number := by
  unfold opX12_number
  refine okL_cons (ok_aload_n rfl dX12_number_0) rfl ?_
  refine okL_cons (ok_getJ kw_784 cf_X12 rfl rfl (by decide) dX12_number_1) rfl ?_
  refine okL_cons (ok_l2i dX12_number_4) rfl ?_
  refine okL_cons (ok_istore dX12_number_5) rfl ?_
  refine okL_cons (ok_aload_n rfl dX12_number_7) rfl ?_
  refine okL_cons (ok_aload_n rfl dX12_number_8) rfl ?_
  refine okL_cons (ok_getI kw_791 cf_X12 rfl rfl (by decide) dX12_number_9) rfl ?_
  refine okL_cons (ok_iconst rfl dX12_number_12) rfl ?_
  refine okL_cons (ok_icmp_ne rfl dX12_number_13) rfl ?_
  refine okL_cons (ok_aload_n rfl dX12_number_16) rfl ?_
  refine okL_cons (ok_getJ kw_784 cf_X12 rfl rfl (by decide) dX12_number_17) rfl ?_
  refine okL_cons (ok_lload_n rfl dX12_number_20) rfl ?_
  refine okL_cons (ok_lload_n rfl dX12_number_21) rfl ?_
  refine okL_cons (ok_invS (M' := 165) kw_722 kw_723 kw_711 kw_724 rfl (by decide +kernel) dX12_number_22) rfl ?_
  refine okL_cons (ok_if_eq rfl dX12_number_25) rfl ?_
  refine okL_cons (ok_iconst rfl dX12_number_28) rfl ?_
  refine okL_cons (ok_goto rfl dX12_number_29) rfl ?_
  refine okL_cons (ok_iconst rfl dX12_number_32) rfl ?_
  refine okL_cons (ok_invV (M' := 200) kw_797 kw_798 kw_799 kw_711 kw_800 cf_X12 rfl (by decide +kernel) dX12_number_33) rfl ?_
  refine okL_cons (ok_iload dX12_number_36) rfl ?_
  exact okL_one (ok_ireturn rfl dX12_number_38)
theorem dX12_fault_0 : decode cX12_fault 0 = .ok (.aload_n 0, 1) := by decide +kernel
theorem dX12_fault_1 : decode cX12_fault 1 = .ok (.iconst 0, 1) := by decide +kernel
theorem dX12_fault_2 : decode cX12_fault 2 = .ok (.putfield 152, 3) := by decide +kernel
theorem dX12_fault_5 : decode cX12_fault 5 = .ok (.aload_n 0, 1) := by decide +kernel
theorem dX12_fault_6 : decode cX12_fault 6 = .ok (.getfield 38, 3) := by decide +kernel
theorem dX12_fault_9 : decode cX12_fault 9 = .ok (.ireturn, 1) := by decide +kernel
set_option maxRecDepth 100000 in
theorem okm_X12_fault : okL RX12 cX12_fault 1 (some .int) "fault" pcX12_fault opX12_fault pcX12_fault := by
  unfold opX12_fault
  refine okL_cons (ok_aload_n rfl dX12_fault_0) rfl ?_
  refine okL_cons (ok_iconst rfl dX12_fault_1) rfl ?_
  refine okL_cons (ok_putI kw_717 cf_X12 rfl rfl (by decide) rfl dX12_fault_2) rfl ?_
  refine okL_cons (ok_aload_n rfl dX12_fault_5) rfl ?_
  refine okL_cons (ok_getI kw_662 cf_X12 rfl rfl (by decide) dX12_fault_6) rfl ?_
  exact okL_one (ok_ireturn rfl dX12_fault_9)
theorem dX12_emit_0 : decode cX12_emit 0 = .ok (.aload_n 0, 1) := by decide +kernel
theorem dX12_emit_1 : decode cX12_emit 1 = .ok (.getfield 45, 3) := by decide +kernel
theorem dX12_emit_4 : decode cX12_emit 4 = .ok (.aload_n 0, 1) := by decide +kernel
theorem dX12_emit_5 : decode cX12_emit 5 = .ok (.getfield 272, 3) := by decide +kernel
theorem dX12_emit_8 : decode cX12_emit 8 = .ok (.iload_n 1, 1) := by decide +kernel
theorem dX12_emit_9 : decode cX12_emit 9 = .ok (.iastore, 1) := by decide +kernel
theorem dX12_emit_10 : decode cX12_emit 10 = .ok (.aload_n 0, 1) := by decide +kernel
theorem dX12_emit_11 : decode cX12_emit 11 = .ok (.getfield 48, 3) := by decide +kernel
theorem dX12_emit_14 : decode cX12_emit 14 = .ok (.aload_n 0, 1) := by decide +kernel
theorem dX12_emit_15 : decode cX12_emit 15 = .ok (.getfield 272, 3) := by decide +kernel
theorem dX12_emit_18 : decode cX12_emit 18 = .ok (.iload_n 2, 1) := by decide +kernel
theorem dX12_emit_19 : decode cX12_emit 19 = .ok (.iastore, 1) := by decide +kernel
theorem dX12_emit_20 : decode cX12_emit 20 = .ok (.aload_n 0, 1) := by decide +kernel
theorem dX12_emit_21 : decode cX12_emit 21 = .ok (.dup, 1) := by decide +kernel
theorem dX12_emit_22 : decode cX12_emit 22 = .ok (.getfield 272, 3) := by decide +kernel
theorem dX12_emit_25 : decode cX12_emit 25 = .ok (.iconst 1, 1) := by decide +kernel
theorem dX12_emit_26 : decode cX12_emit 26 = .ok (.iadd, 1) := by decide +kernel
theorem dX12_emit_27 : decode cX12_emit 27 = .ok (.putfield 272, 3) := by decide +kernel
theorem dX12_emit_30 : decode cX12_emit 30 = .ok (.return_, 1) := by decide +kernel
set_option maxRecDepth 100000 in
theorem okm_X12_emit : okL RX12 cX12_emit 3 none "emit" pcX12_emit opX12_emit pcX12_emit := by
  unfold opX12_emit
  refine okL_cons (ok_aload_n rfl dX12_emit_0) rfl ?_
  refine okL_cons (ok_getP kw_664 cf_X12 rfl rfl (by decide) dX12_emit_1) rfl ?_
  refine okL_cons (ok_aload_n rfl dX12_emit_4) rfl ?_
  refine okL_cons (ok_getI kw_801 cf_X12 rfl rfl (by decide) dX12_emit_5) rfl ?_
  refine okL_cons (ok_iload_n rfl dX12_emit_8) rfl ?_
  refine okL_cons (ok_iastore dX12_emit_9) rfl ?_
  refine okL_cons (ok_aload_n rfl dX12_emit_10) rfl ?_
  refine okL_cons (ok_getP kw_665 cf_X12 rfl rfl (by decide) dX12_emit_11) rfl ?_
  refine okL_cons (ok_aload_n rfl dX12_emit_14) rfl ?_
  refine okL_cons (ok_getI kw_801 cf_X12 rfl rfl (by decide) dX12_emit_15) rfl ?_
  refine okL_cons (ok_iload_n rfl dX12_emit_18) rfl ?_
  refine okL_cons (ok_iastore dX12_emit_19) rfl ?_
  refine okL_cons (ok_aload_n rfl dX12_emit_20) rfl ?_
  refine okL_cons (ok_dup dX12_emit_21) rfl ?_
  refine okL_cons (ok_getI kw_801 cf_X12 rfl rfl (by decide) dX12_emit_22) rfl ?_
  refine okL_cons (ok_iconst rfl dX12_emit_25) rfl ?_
  refine okL_cons (ok_iadd dX12_emit_26) rfl ?_
  refine okL_cons (ok_putI kw_801 cf_X12 rfl rfl (by decide) rfl dX12_emit_27) rfl ?_
  exact okL_one (ok_return rfl dX12_emit_30)
theorem dX12_push_0 : decode cX12_push 0 = .ok (.aload_n 0, 1) := by decide +kernel
theorem dX12_push_1 : decode cX12_push 1 = .ok (.getfield 51, 3) := by decide +kernel
theorem dX12_push_4 : decode cX12_push 4 = .ok (.aload_n 0, 1) := by decide +kernel
theorem dX12_push_5 : decode cX12_push 5 = .ok (.getfield 275, 3) := by decide +kernel
theorem dX12_push_8 : decode cX12_push 8 = .ok (.iload_n 1, 1) := by decide +kernel
theorem dX12_push_9 : decode cX12_push 9 = .ok (.iastore, 1) := by decide +kernel
theorem dX12_push_10 : decode cX12_push 10 = .ok (.aload_n 0, 1) := by decide +kernel
theorem dX12_push_11 : decode cX12_push 11 = .ok (.getfield 54, 3) := by decide +kernel
theorem dX12_push_14 : decode cX12_push 14 = .ok (.aload_n 0, 1) := by decide +kernel
theorem dX12_push_15 : decode cX12_push 15 = .ok (.getfield 275, 3) := by decide +kernel
theorem dX12_push_18 : decode cX12_push 18 = .ok (.iload_n 2, 1) := by decide +kernel
theorem dX12_push_19 : decode cX12_push 19 = .ok (.iastore, 1) := by decide +kernel
theorem dX12_push_20 : decode cX12_push 20 = .ok (.aload_n 0, 1) := by decide +kernel
theorem dX12_push_21 : decode cX12_push 21 = .ok (.dup, 1) := by decide +kernel
theorem dX12_push_22 : decode cX12_push 22 = .ok (.getfield 275, 3) := by decide +kernel
theorem dX12_push_25 : decode cX12_push 25 = .ok (.iconst 1, 1) := by decide +kernel
theorem dX12_push_26 : decode cX12_push 26 = .ok (.iadd, 1) := by decide +kernel
theorem dX12_push_27 : decode cX12_push 27 = .ok (.putfield 275, 3) := by decide +kernel
theorem dX12_push_30 : decode cX12_push 30 = .ok (.return_, 1) := by decide +kernel
set_option maxRecDepth 100000 in
theorem okm_X12_push : okL RX12 cX12_push 3 none "push" pcX12_push opX12_push pcX12_push := by
  unfold opX12_push
  refine okL_cons (ok_aload_n rfl dX12_push_0) rfl ?_
  refine okL_cons (ok_getP kw_666 cf_X12 rfl rfl (by decide) dX12_push_1) rfl ?_
  refine okL_cons (ok_aload_n rfl dX12_push_4) rfl ?_
  refine okL_cons (ok_getI kw_802 cf_X12 rfl rfl (by decide) dX12_push_5) rfl ?_
  refine okL_cons (ok_iload_n rfl dX12_push_8) rfl ?_
  refine okL_cons (ok_iastore dX12_push_9) rfl ?_
  refine okL_cons (ok_aload_n rfl dX12_push_10) rfl ?_
  refine okL_cons (ok_getP kw_667 cf_X12 rfl rfl (by decide) dX12_push_11) rfl ?_
  refine okL_cons (ok_aload_n rfl dX12_push_14) rfl ?_
  refine okL_cons (ok_getI kw_802 cf_X12 rfl rfl (by decide) dX12_push_15) rfl ?_
  refine okL_cons (ok_iload_n rfl dX12_push_18) rfl ?_
  refine okL_cons (ok_iastore dX12_push_19) rfl ?_
  refine okL_cons (ok_aload_n rfl dX12_push_20) rfl ?_
  refine okL_cons (ok_dup dX12_push_21) rfl ?_
  refine okL_cons (ok_getI kw_802 cf_X12 rfl rfl (by decide) dX12_push_22) rfl ?_
  refine okL_cons (ok_iconst rfl dX12_push_25) rfl ?_
  refine okL_cons (ok_iadd dX12_push_26) rfl ?_
  refine okL_cons (ok_putI kw_802 cf_X12 rfl rfl (by decide) rfl dX12_push_27) rfl ?_
  exact okL_one (ok_return rfl dX12_push_30)
theorem dX12_binds_0 : decode cX12_binds 0 = .ok (.iload_n 0, 1) := by decide +kernel
theorem dX12_binds_1 : decode cX12_binds 1 = .ok (.bipush 31, 2) := by decide +kernel
theorem dX12_binds_3 : decode cX12_binds 3 = .ok (.if_icmp .lt 7, 3) := by decide +kernel
theorem dX12_binds_6 : decode cX12_binds 6 = .ok (.iconst 0, 1) := by decide +kernel
theorem dX12_binds_7 : decode cX12_binds 7 = .ok (.goto 55, 3) := by decide +kernel
theorem dX12_binds_10 : decode cX12_binds 10 = .ok (.iload_n 0, 1) := by decide +kernel
theorem dX12_binds_11 : decode cX12_binds 11 = .ok (.bipush 30, 2) := by decide +kernel
theorem dX12_binds_13 : decode cX12_binds 13 = .ok (.if_icmp .ne 7, 3) := by decide +kernel
theorem dX12_binds_16 : decode cX12_binds 16 = .ok (.iconst 1, 1) := by decide +kernel
theorem dX12_binds_17 : decode cX12_binds 17 = .ok (.goto 45, 3) := by decide +kernel
theorem dX12_binds_20 : decode cX12_binds 20 = .ok (.iload_n 0, 1) := by decide +kernel
theorem dX12_binds_21 : decode cX12_binds 21 = .ok (.bipush 29, 2) := by decide +kernel
theorem dX12_binds_23 : decode cX12_binds 23 = .ok (.if_icmp .ne 7, 3) := by decide +kernel
theorem dX12_binds_26 : decode cX12_binds 26 = .ok (.iconst 2, 1) := by decide +kernel
theorem dX12_binds_27 : decode cX12_binds 27 = .ok (.goto 35, 3) := by decide +kernel
theorem dX12_binds_30 : decode cX12_binds 30 = .ok (.iload_n 0, 1) := by decide +kernel
theorem dX12_binds_31 : decode cX12_binds 31 = .ok (.bipush 28, 2) := by decide +kernel
theorem dX12_binds_33 : decode cX12_binds 33 = .ok (.if_icmp .ne 7, 3) := by decide +kernel
theorem dX12_binds_36 : decode cX12_binds 36 = .ok (.iconst 3, 1) := by decide +kernel
theorem dX12_binds_37 : decode cX12_binds 37 = .ok (.goto 25, 3) := by decide +kernel
theorem dX12_binds_40 : decode cX12_binds 40 = .ok (.iload_n 0, 1) := by decide +kernel
theorem dX12_binds_41 : decode cX12_binds 41 = .ok (.bipush 25, 2) := by decide +kernel
theorem dX12_binds_43 : decode cX12_binds 43 = .ok (.if_icmp .lt 7, 3) := by decide +kernel
theorem dX12_binds_46 : decode cX12_binds 46 = .ok (.iconst 4, 1) := by decide +kernel
theorem dX12_binds_47 : decode cX12_binds 47 = .ok (.goto 15, 3) := by decide +kernel
theorem dX12_binds_50 : decode cX12_binds 50 = .ok (.iload_n 0, 1) := by decide +kernel
theorem dX12_binds_51 : decode cX12_binds 51 = .ok (.bipush 22, 2) := by decide +kernel
theorem dX12_binds_53 : decode cX12_binds 53 = .ok (.if_icmp .lt 8, 3) := by decide +kernel
theorem dX12_binds_56 : decode cX12_binds 56 = .ok (.bipush 6, 2) := by decide +kernel
theorem dX12_binds_58 : decode cX12_binds 58 = .ok (.goto 4, 3) := by decide +kernel
theorem dX12_binds_61 : decode cX12_binds 61 = .ok (.iconst 5, 1) := by decide +kernel
theorem dX12_binds_62 : decode cX12_binds 62 = .ok (.ireturn, 1) := by decide +kernel
set_option maxRecDepth 100000 in
theorem okm_X12_binds : okL RX12 cX12_binds 1 (some .int) "binds" pcX12_binds opX12_binds pcX12_binds := by
  unfold opX12_binds
  refine okL_cons (ok_iload_n rfl dX12_binds_0) rfl ?_
  refine okL_cons (ok_bipush rfl dX12_binds_1) rfl ?_
  refine okL_cons (ok_icmp_lt rfl dX12_binds_3) rfl ?_
  refine okL_cons (ok_iconst rfl dX12_binds_6) rfl ?_
  refine okL_cons (ok_goto rfl dX12_binds_7) rfl ?_
  refine okL_cons (ok_iload_n rfl dX12_binds_10) rfl ?_
  refine okL_cons (ok_bipush rfl dX12_binds_11) rfl ?_
  refine okL_cons (ok_icmp_ne rfl dX12_binds_13) rfl ?_
  refine okL_cons (ok_iconst rfl dX12_binds_16) rfl ?_
  refine okL_cons (ok_goto rfl dX12_binds_17) rfl ?_
  refine okL_cons (ok_iload_n rfl dX12_binds_20) rfl ?_
  refine okL_cons (ok_bipush rfl dX12_binds_21) rfl ?_
  refine okL_cons (ok_icmp_ne rfl dX12_binds_23) rfl ?_
  refine okL_cons (ok_iconst rfl dX12_binds_26) rfl ?_
  refine okL_cons (ok_goto rfl dX12_binds_27) rfl ?_
  refine okL_cons (ok_iload_n rfl dX12_binds_30) rfl ?_
  refine okL_cons (ok_bipush rfl dX12_binds_31) rfl ?_
  refine okL_cons (ok_icmp_ne rfl dX12_binds_33) rfl ?_
  refine okL_cons (ok_iconst rfl dX12_binds_36) rfl ?_
  refine okL_cons (ok_goto rfl dX12_binds_37) rfl ?_
  refine okL_cons (ok_iload_n rfl dX12_binds_40) rfl ?_
  refine okL_cons (ok_bipush rfl dX12_binds_41) rfl ?_
  refine okL_cons (ok_icmp_lt rfl dX12_binds_43) rfl ?_
  refine okL_cons (ok_iconst rfl dX12_binds_46) rfl ?_
  refine okL_cons (ok_goto rfl dX12_binds_47) rfl ?_
  refine okL_cons (ok_iload_n rfl dX12_binds_50) rfl ?_
  refine okL_cons (ok_bipush rfl dX12_binds_51) rfl ?_
  refine okL_cons (ok_icmp_lt rfl dX12_binds_53) rfl ?_
  refine okL_cons (ok_bipush rfl dX12_binds_56) rfl ?_
  refine okL_cons (ok_goto rfl dX12_binds_58) rfl ?_
  refine okL_cons (ok_iconst rfl dX12_binds_61) rfl ?_
  exact okL_one (ok_ireturn rfl dX12_binds_62)
theorem dX12_settle_0 : decode cX12_settle 0 = .ok (.aload_n 0, 1) := by decide +kernel
theorem dX12_settle_1 : decode cX12_settle 1 = .ok (.getfield 275, 3) := by decide +kernel
theorem dX12_settle_4 : decode cX12_settle 4 = .ok (.ifCond .le 97, 3) := by decide +kernel
theorem dX12_settle_7 : decode cX12_settle 7 = .ok (.aload_n 0, 1) := by decide +kernel
theorem dX12_settle_8 : decode cX12_settle 8 = .ok (.getfield 51, 3) := by decide +kernel
theorem dX12_settle_11 : decode cX12_settle 11 = .ok (.aload_n 0, 1) := by decide +kernel
theorem dX12_settle_12 : decode cX12_settle 12 = .ok (.getfield 275, 3) := by decide +kernel
theorem dX12_settle_15 : decode cX12_settle 15 = .ok (.iconst 1, 1) := by decide +kernel
theorem dX12_settle_16 : decode cX12_settle 16 = .ok (.isub, 1) := by decide +kernel
theorem dX12_settle_17 : decode cX12_settle 17 = .ok (.iaload, 1) := by decide +kernel
theorem dX12_settle_18 : decode cX12_settle 18 = .ok (.invokestatic 278, 3) := by decide +kernel
theorem dX12_settle_21 : decode cX12_settle 21 = .ok (.iload_n 1, 1) := by decide +kernel
theorem dX12_settle_22 : decode cX12_settle 22 = .ok (.if_icmp .lt 79, 3) := by decide +kernel
theorem dX12_settle_25 : decode cX12_settle 25 = .ok (.aload_n 0, 1) := by decide +kernel
theorem dX12_settle_26 : decode cX12_settle 26 = .ok (.dup, 1) := by decide +kernel
theorem dX12_settle_27 : decode cX12_settle 27 = .ok (.getfield 275, 3) := by decide +kernel
theorem dX12_settle_30 : decode cX12_settle 30 = .ok (.iconst 1, 1) := by decide +kernel
theorem dX12_settle_31 : decode cX12_settle 31 = .ok (.isub, 1) := by decide +kernel
theorem dX12_settle_32 : decode cX12_settle 32 = .ok (.putfield 275, 3) := by decide +kernel
theorem dX12_settle_35 : decode cX12_settle 35 = .ok (.aload_n 0, 1) := by decide +kernel
theorem dX12_settle_36 : decode cX12_settle 36 = .ok (.getfield 51, 3) := by decide +kernel
theorem dX12_settle_39 : decode cX12_settle 39 = .ok (.aload_n 0, 1) := by decide +kernel
theorem dX12_settle_40 : decode cX12_settle 40 = .ok (.getfield 275, 3) := by decide +kernel
theorem dX12_settle_43 : decode cX12_settle 43 = .ok (.iaload, 1) := by decide +kernel
theorem dX12_settle_44 : decode cX12_settle 44 = .ok (.bipush 29, 2) := by decide +kernel
theorem dX12_settle_46 : decode cX12_settle 46 = .ok (.if_icmp .eq 17, 3) := by decide +kernel
theorem dX12_settle_49 : decode cX12_settle 49 = .ok (.aload_n 0, 1) := by decide +kernel
theorem dX12_settle_50 : decode cX12_settle 50 = .ok (.getfield 51, 3) := by decide +kernel
theorem dX12_settle_53 : decode cX12_settle 53 = .ok (.aload_n 0, 1) := by decide +kernel
theorem dX12_settle_54 : decode cX12_settle 54 = .ok (.getfield 275, 3) := by decide +kernel
theorem dX12_settle_57 : decode cX12_settle 57 = .ok (.iaload, 1) := by decide +kernel
theorem dX12_settle_58 : decode cX12_settle 58 = .ok (.bipush 30, 2) := by decide +kernel
theorem dX12_settle_60 : decode cX12_settle 60 = .ok (.if_icmp .ne 24, 3) := by decide +kernel
theorem dX12_settle_63 : decode cX12_settle 63 = .ok (.aload_n 0, 1) := by decide +kernel
theorem dX12_settle_64 : decode cX12_settle 64 = .ok (.getfield 48, 3) := by decide +kernel
theorem dX12_settle_67 : decode cX12_settle 67 = .ok (.aload_n 0, 1) := by decide +kernel
theorem dX12_settle_68 : decode cX12_settle 68 = .ok (.getfield 54, 3) := by decide +kernel
theorem dX12_settle_71 : decode cX12_settle 71 = .ok (.aload_n 0, 1) := by decide +kernel
theorem dX12_settle_72 : decode cX12_settle 72 = .ok (.getfield 275, 3) := by decide +kernel
theorem dX12_settle_75 : decode cX12_settle 75 = .ok (.iaload, 1) := by decide +kernel
theorem dX12_settle_76 : decode cX12_settle 76 = .ok (.aload_n 0, 1) := by decide +kernel
theorem dX12_settle_77 : decode cX12_settle 77 = .ok (.getfield 272, 3) := by decide +kernel
theorem dX12_settle_80 : decode cX12_settle 80 = .ok (.iastore, 1) := by decide +kernel
theorem dX12_settle_81 : decode cX12_settle 81 = .ok (.goto (-81), 3) := by decide +kernel
theorem dX12_settle_84 : decode cX12_settle 84 = .ok (.aload_n 0, 1) := by decide +kernel
theorem dX12_settle_85 : decode cX12_settle 85 = .ok (.aload_n 0, 1) := by decide +kernel
theorem dX12_settle_86 : decode cX12_settle 86 = .ok (.getfield 51, 3) := by decide +kernel
theorem dX12_settle_89 : decode cX12_settle 89 = .ok (.aload_n 0, 1) := by decide +kernel
theorem dX12_settle_90 : decode cX12_settle 90 = .ok (.getfield 275, 3) := by decide +kernel
theorem dX12_settle_93 : decode cX12_settle 93 = .ok (.iaload, 1) := by decide +kernel
theorem dX12_settle_94 : decode cX12_settle 94 = .ok (.iconst 0, 1) := by decide +kernel
theorem dX12_settle_95 : decode cX12_settle 95 = .ok (.invokevirtual 281, 3) := by decide +kernel
theorem dX12_settle_98 : decode cX12_settle 98 = .ok (.goto (-98), 3) := by decide +kernel
theorem dX12_settle_101 : decode cX12_settle 101 = .ok (.return_, 1) := by decide +kernel
set_option maxRecDepth 100000 in
theorem okm_X12_settle : okL RX12 cX12_settle 2 none "settle" pcX12_settle opX12_settle pcX12_settle := by
  unfold opX12_settle
  refine okL_cons (ok_aload_n rfl dX12_settle_0) rfl ?_
  refine okL_cons (ok_getI kw_802 cf_X12 rfl rfl (by decide) dX12_settle_1) rfl ?_
  refine okL_cons (ok_if_le rfl dX12_settle_4) rfl ?_
  refine okL_cons (ok_aload_n rfl dX12_settle_7) rfl ?_
  refine okL_cons (ok_getP kw_666 cf_X12 rfl rfl (by decide) dX12_settle_8) rfl ?_
  refine okL_cons (ok_aload_n rfl dX12_settle_11) rfl ?_
  refine okL_cons (ok_getI kw_802 cf_X12 rfl rfl (by decide) dX12_settle_12) rfl ?_
  refine okL_cons (ok_iconst rfl dX12_settle_15) rfl ?_
  refine okL_cons (ok_isub dX12_settle_16) rfl ?_
  refine okL_cons (ok_iaload dX12_settle_17) rfl ?_
  refine okL_cons (ok_invS (M' := 205) kw_803 kw_804 kw_711 kw_805 rfl (by decide +kernel) dX12_settle_18) rfl ?_
  refine okL_cons (ok_iload_n rfl dX12_settle_21) rfl ?_
  refine okL_cons (ok_icmp_lt rfl dX12_settle_22) rfl ?_
  refine okL_cons (ok_aload_n rfl dX12_settle_25) rfl ?_
  refine okL_cons (ok_dup dX12_settle_26) rfl ?_
  refine okL_cons (ok_getI kw_802 cf_X12 rfl rfl (by decide) dX12_settle_27) rfl ?_
  refine okL_cons (ok_iconst rfl dX12_settle_30) rfl ?_
  refine okL_cons (ok_isub dX12_settle_31) rfl ?_
  refine okL_cons (ok_putI kw_802 cf_X12 rfl rfl (by decide) rfl dX12_settle_32) rfl ?_
  refine okL_cons (ok_aload_n rfl dX12_settle_35) rfl ?_
  refine okL_cons (ok_getP kw_666 cf_X12 rfl rfl (by decide) dX12_settle_36) rfl ?_
  refine okL_cons (ok_aload_n rfl dX12_settle_39) rfl ?_
  refine okL_cons (ok_getI kw_802 cf_X12 rfl rfl (by decide) dX12_settle_40) rfl ?_
  refine okL_cons (ok_iaload dX12_settle_43) rfl ?_
  refine okL_cons (ok_bipush rfl dX12_settle_44) rfl ?_
  refine okL_cons (ok_icmp_eq rfl dX12_settle_46) rfl ?_
  refine okL_cons (ok_aload_n rfl dX12_settle_49) rfl ?_
  refine okL_cons (ok_getP kw_666 cf_X12 rfl rfl (by decide) dX12_settle_50) rfl ?_
  refine okL_cons (ok_aload_n rfl dX12_settle_53) rfl ?_
  refine okL_cons (ok_getI kw_802 cf_X12 rfl rfl (by decide) dX12_settle_54) rfl ?_
  refine okL_cons (ok_iaload dX12_settle_57) rfl ?_
  refine okL_cons (ok_bipush rfl dX12_settle_58) rfl ?_
  refine okL_cons (ok_icmp_ne rfl dX12_settle_60) rfl ?_
  refine okL_cons (ok_aload_n rfl dX12_settle_63) rfl ?_
  refine okL_cons (ok_getP kw_665 cf_X12 rfl rfl (by decide) dX12_settle_64) rfl ?_
  refine okL_cons (ok_aload_n rfl dX12_settle_67) rfl ?_
  refine okL_cons (ok_getP kw_667 cf_X12 rfl rfl (by decide) dX12_settle_68) rfl ?_
  refine okL_cons (ok_aload_n rfl dX12_settle_71) rfl ?_
  refine okL_cons (ok_getI kw_802 cf_X12 rfl rfl (by decide) dX12_settle_72) rfl ?_
  refine okL_cons (ok_iaload dX12_settle_75) rfl ?_
  refine okL_cons (ok_aload_n rfl dX12_settle_76) rfl ?_
  refine okL_cons (ok_getI kw_801 cf_X12 rfl rfl (by decide) dX12_settle_77) rfl ?_
  refine okL_cons (ok_iastore dX12_settle_80) rfl ?_
  refine okL_cons (ok_goto rfl dX12_settle_81) rfl ?_
  refine okL_cons (ok_aload_n rfl dX12_settle_84) rfl ?_
  refine okL_cons (ok_aload_n rfl dX12_settle_85) rfl ?_
  refine okL_cons (ok_getP kw_666 cf_X12 rfl rfl (by decide) dX12_settle_86) rfl ?_
  refine okL_cons (ok_aload_n rfl dX12_settle_89) rfl ?_
  refine okL_cons (ok_getI kw_802 cf_X12 rfl rfl (by decide) dX12_settle_90) rfl ?_
  refine okL_cons (ok_iaload dX12_settle_93) rfl ?_
  refine okL_cons (ok_iconst rfl dX12_settle_94) rfl ?_
  refine okL_cons (ok_invV (M' := 203) kw_806 kw_807 kw_808 kw_711 kw_809 cf_X12 rfl (by decide +kernel) dX12_settle_95) rfl ?_
  refine okL_cons (ok_goto rfl dX12_settle_98) rfl ?_
  exact okL_one (ok_return rfl dX12_settle_101)
theorem dX12_inner_0 : decode cX12_inner 0 = .ok (.iconst (-1), 1) := by decide +kernel
theorem dX12_inner_1 : decode cX12_inner 1 = .ok (.istore_n 1, 1) := by decide +kernel
theorem dX12_inner_2 : decode cX12_inner 2 = .ok (.iconst 0, 1) := by decide +kernel
theorem dX12_inner_3 : decode cX12_inner 3 = .ok (.istore_n 2, 1) := by decide +kernel
theorem dX12_inner_4 : decode cX12_inner 4 = .ok (.iload_n 2, 1) := by decide +kernel
theorem dX12_inner_5 : decode cX12_inner 5 = .ok (.aload_n 0, 1) := by decide +kernel
theorem dX12_inner_6 : decode cX12_inner 6 = .ok (.getfield 275, 3) := by decide +kernel
theorem dX12_inner_9 : decode cX12_inner 9 = .ok (.if_icmp .ge 31, 3) := by decide +kernel
theorem dX12_inner_12 : decode cX12_inner 12 = .ok (.aload_n 0, 1) := by decide +kernel
theorem dX12_inner_13 : decode cX12_inner 13 = .ok (.getfield 51, 3) := by decide +kernel
theorem dX12_inner_16 : decode cX12_inner 16 = .ok (.iload_n 2, 1) := by decide +kernel
theorem dX12_inner_17 : decode cX12_inner 17 = .ok (.iaload, 1) := by decide +kernel
theorem dX12_inner_18 : decode cX12_inner 18 = .ok (.bipush 31, 2) := by decide +kernel
theorem dX12_inner_20 : decode cX12_inner 20 = .ok (.if_icmp .lt 12, 3) := by decide +kernel
theorem dX12_inner_23 : decode cX12_inner 23 = .ok (.aload_n 0, 1) := by decide +kernel
theorem dX12_inner_24 : decode cX12_inner 24 = .ok (.getfield 51, 3) := by decide +kernel
theorem dX12_inner_27 : decode cX12_inner 27 = .ok (.iload_n 2, 1) := by decide +kernel
theorem dX12_inner_28 : decode cX12_inner 28 = .ok (.iaload, 1) := by decide +kernel
theorem dX12_inner_29 : decode cX12_inner 29 = .ok (.goto 4, 3) := by decide +kernel
theorem dX12_inner_32 : decode cX12_inner 32 = .ok (.iload_n 1, 1) := by decide +kernel
theorem dX12_inner_33 : decode cX12_inner 33 = .ok (.istore_n 1, 1) := by decide +kernel
theorem dX12_inner_34 : decode cX12_inner 34 = .ok (.iinc 2 1, 3) := by decide +kernel
theorem dX12_inner_37 : decode cX12_inner 37 = .ok (.goto (-33), 3) := by decide +kernel
theorem dX12_inner_40 : decode cX12_inner 40 = .ok (.iload_n 1, 1) := by decide +kernel
theorem dX12_inner_41 : decode cX12_inner 41 = .ok (.ireturn, 1) := by decide +kernel
set_option maxRecDepth 100000 in
theorem okm_X12_inner : okL RX12 cX12_inner 3 (some .int) "inner" pcX12_inner opX12_inner pcX12_inner := by
  unfold opX12_inner
  refine okL_cons (ok_iconst rfl dX12_inner_0) rfl ?_
  refine okL_cons (ok_istore_n rfl dX12_inner_1) rfl ?_
  refine okL_cons (ok_iconst rfl dX12_inner_2) rfl ?_
  refine okL_cons (ok_istore_n rfl dX12_inner_3) rfl ?_
  refine okL_cons (ok_iload_n rfl dX12_inner_4) rfl ?_
  refine okL_cons (ok_aload_n rfl dX12_inner_5) rfl ?_
  refine okL_cons (ok_getI kw_802 cf_X12 rfl rfl (by decide) dX12_inner_6) rfl ?_
  refine okL_cons (ok_icmp_ge rfl dX12_inner_9) rfl ?_
  refine okL_cons (ok_aload_n rfl dX12_inner_12) rfl ?_
  refine okL_cons (ok_getP kw_666 cf_X12 rfl rfl (by decide) dX12_inner_13) rfl ?_
  refine okL_cons (ok_iload_n rfl dX12_inner_16) rfl ?_
  refine okL_cons (ok_iaload dX12_inner_17) rfl ?_
  refine okL_cons (ok_bipush rfl dX12_inner_18) rfl ?_
  refine okL_cons (ok_icmp_lt rfl dX12_inner_20) rfl ?_
  refine okL_cons (ok_aload_n rfl dX12_inner_23) rfl ?_
  refine okL_cons (ok_getP kw_666 cf_X12 rfl rfl (by decide) dX12_inner_24) rfl ?_
  refine okL_cons (ok_iload_n rfl dX12_inner_27) rfl ?_
  refine okL_cons (ok_iaload dX12_inner_28) rfl ?_
  refine okL_cons (ok_goto rfl dX12_inner_29) rfl ?_
  refine okL_cons (ok_iload_n rfl dX12_inner_32) rfl ?_
  refine okL_cons (ok_istore_n rfl dX12_inner_33) rfl ?_
  refine okL_cons (ok_iinc rfl dX12_inner_34) rfl ?_
  refine okL_cons (ok_goto rfl dX12_inner_37) rfl ?_
  refine okL_cons (ok_iload_n rfl dX12_inner_40) rfl ?_
  exact okL_one (ok_ireturn rfl dX12_inner_41)
theorem dX12_isCompared_0 : decode cX12_isCompared 0 = .ok (.aload_n 0, 1) := by decide +kernel
theorem dX12_isCompared_1 : decode cX12_isCompared 1 = .ok (.getfield 275, 3) := by decide +kernel
theorem dX12_isCompared_4 : decode cX12_isCompared 4 = .ok (.iconst 1, 1) := by decide +kernel
theorem dX12_isCompared_5 : decode cX12_isCompared 5 = .ok (.isub, 1) := by decide +kernel
theorem dX12_isCompared_6 : decode cX12_isCompared 6 = .ok (.istore_n 1, 1) := by decide +kernel
theorem dX12_isCompared_7 : decode cX12_isCompared 7 = .ok (.iload_n 1, 1) := by decide +kernel
theorem dX12_isCompared_8 : decode cX12_isCompared 8 = .ok (.ifCond .lt 28, 3) := by decide +kernel
theorem dX12_isCompared_11 : decode cX12_isCompared 11 = .ok (.aload_n 0, 1) := by decide +kernel
theorem dX12_isCompared_12 : decode cX12_isCompared 12 = .ok (.getfield 51, 3) := by decide +kernel
theorem dX12_isCompared_15 : decode cX12_isCompared 15 = .ok (.iload_n 1, 1) := by decide +kernel
theorem dX12_isCompared_16 : decode cX12_isCompared 16 = .ok (.iaload, 1) := by decide +kernel
theorem dX12_isCompared_17 : decode cX12_isCompared 17 = .ok (.i2l, 1) := by decide +kernel
theorem dX12_isCompared_18 : decode cX12_isCompared 18 = .ok (.ldc2_w 284, 3) := by decide +kernel
theorem dX12_isCompared_21 : decode cX12_isCompared 21 = .ok (.ldc2_w 57, 3) := by decide +kernel
theorem dX12_isCompared_24 : decode cX12_isCompared 24 = .ok (.invokestatic 172, 3) := by decide +kernel
theorem dX12_isCompared_27 : decode cX12_isCompared 27 = .ok (.ifCond .eq 9, 3) := by decide +kernel
theorem dX12_isCompared_30 : decode cX12_isCompared 30 = .ok (.iinc 1 (-1), 3) := by decide +kernel
theorem dX12_isCompared_33 : decode cX12_isCompared 33 = .ok (.goto (-26), 3) := by decide +kernel
theorem dX12_isCompared_36 : decode cX12_isCompared 36 = .ok (.iload_n 1, 1) := by decide +kernel
theorem dX12_isCompared_37 : decode cX12_isCompared 37 = .ok (.ifCond .lt 26, 3) := by decide +kernel
theorem dX12_isCompared_40 : decode cX12_isCompared 40 = .ok (.aload_n 0, 1) := by decide +kernel
theorem dX12_isCompared_41 : decode cX12_isCompared 41 = .ok (.getfield 51, 3) := by decide +kernel
theorem dX12_isCompared_44 : decode cX12_isCompared 44 = .ok (.iload_n 1, 1) := by decide +kernel
theorem dX12_isCompared_45 : decode cX12_isCompared 45 = .ok (.iaload, 1) := by decide +kernel
theorem dX12_isCompared_46 : decode cX12_isCompared 46 = .ok (.i2l, 1) := by decide +kernel
theorem dX12_isCompared_47 : decode cX12_isCompared 47 = .ok (.ldc2_w 59, 3) := by decide +kernel
theorem dX12_isCompared_50 : decode cX12_isCompared 50 = .ok (.ldc2_w 286, 3) := by decide +kernel
theorem dX12_isCompared_53 : decode cX12_isCompared 53 = .ok (.invokestatic 172, 3) := by decide +kernel
theorem dX12_isCompared_56 : decode cX12_isCompared 56 = .ok (.ifCond .eq 7, 3) := by decide +kernel
theorem dX12_isCompared_59 : decode cX12_isCompared 59 = .ok (.iconst 1, 1) := by decide +kernel
theorem dX12_isCompared_60 : decode cX12_isCompared 60 = .ok (.goto 4, 3) := by decide +kernel
theorem dX12_isCompared_63 : decode cX12_isCompared 63 = .ok (.iconst 0, 1) := by decide +kernel
theorem dX12_isCompared_64 : decode cX12_isCompared 64 = .ok (.ireturn, 1) := by decide +kernel
set_option maxRecDepth 100000 in
theorem okm_X12_isCompared : okL RX12 cX12_isCompared 2 (some .boolean) "isCompared" pcX12_isCompared opX12_isCompared pcX12_isCompared := by
  unfold opX12_isCompared
  refine okL_cons (ok_aload_n rfl dX12_isCompared_0) rfl ?_
  refine okL_cons (ok_getI kw_802 cf_X12 rfl rfl (by decide) dX12_isCompared_1) rfl ?_
  refine okL_cons (ok_iconst rfl dX12_isCompared_4) rfl ?_
  refine okL_cons (ok_isub dX12_isCompared_5) rfl ?_
  refine okL_cons (ok_istore_n rfl dX12_isCompared_6) rfl ?_
  refine okL_cons (ok_iload_n rfl dX12_isCompared_7) rfl ?_
  refine okL_cons (ok_if_lt rfl dX12_isCompared_8) rfl ?_
  refine okL_cons (ok_aload_n rfl dX12_isCompared_11) rfl ?_
  refine okL_cons (ok_getP kw_666 cf_X12 rfl rfl (by decide) dX12_isCompared_12) rfl ?_
  refine okL_cons (ok_iload_n rfl dX12_isCompared_15) rfl ?_
  refine okL_cons (ok_iaload dX12_isCompared_16) rfl ?_
  refine okL_cons (ok_i2l dX12_isCompared_17) rfl ?_
  refine okL_cons (ok_ldc2 kw_810 dX12_isCompared_18) rfl ?_
  refine okL_cons (ok_ldc2 kw_668 dX12_isCompared_21) rfl ?_
  refine okL_cons (ok_invS (M' := 165) kw_722 kw_723 kw_711 kw_724 rfl (by decide +kernel) dX12_isCompared_24) rfl ?_
  refine okL_cons (ok_if_eq rfl dX12_isCompared_27) rfl ?_
  refine okL_cons (ok_iinc rfl dX12_isCompared_30) rfl ?_
  refine okL_cons (ok_goto rfl dX12_isCompared_33) rfl ?_
  refine okL_cons (ok_iload_n rfl dX12_isCompared_36) rfl ?_
  refine okL_cons (ok_if_lt rfl dX12_isCompared_37) rfl ?_
  refine okL_cons (ok_aload_n rfl dX12_isCompared_40) rfl ?_
  refine okL_cons (ok_getP kw_666 cf_X12 rfl rfl (by decide) dX12_isCompared_41) rfl ?_
  refine okL_cons (ok_iload_n rfl dX12_isCompared_44) rfl ?_
  refine okL_cons (ok_iaload dX12_isCompared_45) rfl ?_
  refine okL_cons (ok_i2l dX12_isCompared_46) rfl ?_
  refine okL_cons (ok_ldc2 kw_669 dX12_isCompared_47) rfl ?_
  refine okL_cons (ok_ldc2 kw_811 dX12_isCompared_50) rfl ?_
  refine okL_cons (ok_invS (M' := 165) kw_722 kw_723 kw_711 kw_724 rfl (by decide +kernel) dX12_isCompared_53) rfl ?_
  refine okL_cons (ok_if_eq rfl dX12_isCompared_56) rfl ?_
  refine okL_cons (ok_iconst rfl dX12_isCompared_59) rfl ?_
  refine okL_cons (ok_goto rfl dX12_isCompared_60) rfl ?_
  refine okL_cons (ok_iconst rfl dX12_isCompared_63) rfl ?_
  exact okL_one (ok_zreturn rfl dX12_isCompared_64)
theorem dX12_partAt_0 : decode cX12_partAt 0 = .ok (.iconst (-1), 1) := by decide +kernel
theorem dX12_partAt_1 : decode cX12_partAt 1 = .ok (.istore_n 1, 1) := by decide +kernel
theorem dX12_partAt_2 : decode cX12_partAt 2 = .ok (.iconst 0, 1) := by decide +kernel
theorem dX12_partAt_3 : decode cX12_partAt 3 = .ok (.istore_n 2, 1) := by decide +kernel
theorem dX12_partAt_4 : decode cX12_partAt 4 = .ok (.iload_n 2, 1) := by decide +kernel
theorem dX12_partAt_5 : decode cX12_partAt 5 = .ok (.bipush 7, 2) := by decide +kernel
theorem dX12_partAt_7 : decode cX12_partAt 7 = .ok (.if_icmp .ge 30, 3) := by decide +kernel
theorem dX12_partAt_10 : decode cX12_partAt 10 = .ok (.aload_n 0, 1) := by decide +kernel
theorem dX12_partAt_11 : decode cX12_partAt 11 = .ok (.aload_n 0, 1) := by decide +kernel
theorem dX12_partAt_12 : decode cX12_partAt 12 = .ok (.getfield 71, 3) := by decide +kernel
theorem dX12_partAt_15 : decode cX12_partAt 15 = .ok (.iload_n 2, 1) := by decide +kernel
theorem dX12_partAt_16 : decode cX12_partAt 16 = .ok (.laload, 1) := by decide +kernel
theorem dX12_partAt_17 : decode cX12_partAt 17 = .ok (.invokevirtual 288, 3) := by decide +kernel
theorem dX12_partAt_20 : decode cX12_partAt 20 = .ok (.ifCond .eq 9, 3) := by decide +kernel
theorem dX12_partAt_23 : decode cX12_partAt 23 = .ok (.iload_n 2, 1) := by decide +kernel
theorem dX12_partAt_24 : decode cX12_partAt 24 = .ok (.iconst 1, 1) := by decide +kernel
theorem dX12_partAt_25 : decode cX12_partAt 25 = .ok (.iadd, 1) := by decide +kernel
theorem dX12_partAt_26 : decode cX12_partAt 26 = .ok (.goto 4, 3) := by decide +kernel
theorem dX12_partAt_29 : decode cX12_partAt 29 = .ok (.iload_n 1, 1) := by decide +kernel
theorem dX12_partAt_30 : decode cX12_partAt 30 = .ok (.istore_n 1, 1) := by decide +kernel
theorem dX12_partAt_31 : decode cX12_partAt 31 = .ok (.iinc 2 1, 3) := by decide +kernel
theorem dX12_partAt_34 : decode cX12_partAt 34 = .ok (.goto (-30), 3) := by decide +kernel
theorem dX12_partAt_37 : decode cX12_partAt 37 = .ok (.iload_n 1, 1) := by decide +kernel
theorem dX12_partAt_38 : decode cX12_partAt 38 = .ok (.ireturn, 1) := by decide +kernel
set_option maxRecDepth 100000 in
theorem okm_X12_partAt : okL RX12 cX12_partAt 3 (some .int) "partAt" pcX12_partAt opX12_partAt pcX12_partAt := by
  unfold opX12_partAt
  refine okL_cons (ok_iconst rfl dX12_partAt_0) rfl ?_
  refine okL_cons (ok_istore_n rfl dX12_partAt_1) rfl ?_
  refine okL_cons (ok_iconst rfl dX12_partAt_2) rfl ?_
  refine okL_cons (ok_istore_n rfl dX12_partAt_3) rfl ?_
  refine okL_cons (ok_iload_n rfl dX12_partAt_4) rfl ?_
  refine okL_cons (ok_bipush rfl dX12_partAt_5) rfl ?_
  refine okL_cons (ok_icmp_ge rfl dX12_partAt_7) rfl ?_
  refine okL_cons (ok_aload_n rfl dX12_partAt_10) rfl ?_
  refine okL_cons (ok_aload_n rfl dX12_partAt_11) rfl ?_
  refine okL_cons (ok_getP kw_675 cf_X12 rfl rfl (by decide) dX12_partAt_12) rfl ?_
  refine okL_cons (ok_iload_n rfl dX12_partAt_15) rfl ?_
  refine okL_cons (ok_laload dX12_partAt_16) rfl ?_
  refine okL_cons (ok_invV (M' := 198) kw_812 kw_813 kw_814 kw_711 kw_815 cf_X12 rfl (by decide +kernel) dX12_partAt_17) rfl ?_
  refine okL_cons (ok_if_eq rfl dX12_partAt_20) rfl ?_
  refine okL_cons (ok_iload_n rfl dX12_partAt_23) rfl ?_
  refine okL_cons (ok_iconst rfl dX12_partAt_24) rfl ?_
  refine okL_cons (ok_iadd dX12_partAt_25) rfl ?_
  refine okL_cons (ok_goto rfl dX12_partAt_26) rfl ?_
  refine okL_cons (ok_iload_n rfl dX12_partAt_29) rfl ?_
  refine okL_cons (ok_istore_n rfl dX12_partAt_30) rfl ?_
  refine okL_cons (ok_iinc rfl dX12_partAt_31) rfl ?_
  refine okL_cons (ok_goto rfl dX12_partAt_34) rfl ?_
  refine okL_cons (ok_iload_n rfl dX12_partAt_37) rfl ?_
  exact okL_one (ok_ireturn rfl dX12_partAt_38)
theorem dX12_orderPartAt_0 : decode cX12_orderPartAt 0 = .ok (.iconst (-1), 1) := by decide +kernel
theorem dX12_orderPartAt_1 : decode cX12_orderPartAt 1 = .ok (.istore_n 1, 1) := by decide +kernel
theorem dX12_orderPartAt_2 : decode cX12_orderPartAt 2 = .ok (.iconst 0, 1) := by decide +kernel
theorem dX12_orderPartAt_3 : decode cX12_orderPartAt 3 = .ok (.istore_n 2, 1) := by decide +kernel
theorem dX12_orderPartAt_4 : decode cX12_orderPartAt 4 = .ok (.iload_n 2, 1) := by decide +kernel
theorem dX12_orderPartAt_5 : decode cX12_orderPartAt 5 = .ok (.bipush 7, 2) := by decide +kernel
theorem dX12_orderPartAt_7 : decode cX12_orderPartAt 7 = .ok (.if_icmp .ge 30, 3) := by decide +kernel
theorem dX12_orderPartAt_10 : decode cX12_orderPartAt 10 = .ok (.aload_n 0, 1) := by decide +kernel
theorem dX12_orderPartAt_11 : decode cX12_orderPartAt 11 = .ok (.aload_n 0, 1) := by decide +kernel
theorem dX12_orderPartAt_12 : decode cX12_orderPartAt 12 = .ok (.getfield 85, 3) := by decide +kernel
theorem dX12_orderPartAt_15 : decode cX12_orderPartAt 15 = .ok (.iload_n 2, 1) := by decide +kernel
theorem dX12_orderPartAt_16 : decode cX12_orderPartAt 16 = .ok (.laload, 1) := by decide +kernel
theorem dX12_orderPartAt_17 : decode cX12_orderPartAt 17 = .ok (.invokevirtual 288, 3) := by decide +kernel
theorem dX12_orderPartAt_20 : decode cX12_orderPartAt 20 = .ok (.ifCond .eq 9, 3) := by decide +kernel
theorem dX12_orderPartAt_23 : decode cX12_orderPartAt 23 = .ok (.iload_n 2, 1) := by decide +kernel
theorem dX12_orderPartAt_24 : decode cX12_orderPartAt 24 = .ok (.iconst 1, 1) := by decide +kernel
theorem dX12_orderPartAt_25 : decode cX12_orderPartAt 25 = .ok (.iadd, 1) := by decide +kernel
theorem dX12_orderPartAt_26 : decode cX12_orderPartAt 26 = .ok (.goto 4, 3) := by decide +kernel
theorem dX12_orderPartAt_29 : decode cX12_orderPartAt 29 = .ok (.iload_n 1, 1) := by decide +kernel
theorem dX12_orderPartAt_30 : decode cX12_orderPartAt 30 = .ok (.istore_n 1, 1) := by decide +kernel
theorem dX12_orderPartAt_31 : decode cX12_orderPartAt 31 = .ok (.iinc 2 1, 3) := by decide +kernel
theorem dX12_orderPartAt_34 : decode cX12_orderPartAt 34 = .ok (.goto (-30), 3) := by decide +kernel
theorem dX12_orderPartAt_37 : decode cX12_orderPartAt 37 = .ok (.iload_n 1, 1) := by decide +kernel
theorem dX12_orderPartAt_38 : decode cX12_orderPartAt 38 = .ok (.ireturn, 1) := by decide +kernel
set_option maxRecDepth 100000 in
theorem okm_X12_orderPartAt : okL RX12 cX12_orderPartAt 3 (some .int) "orderPartAt" pcX12_orderPartAt opX12_orderPartAt pcX12_orderPartAt := by
  unfold opX12_orderPartAt
  refine okL_cons (ok_iconst rfl dX12_orderPartAt_0) rfl ?_
  refine okL_cons (ok_istore_n rfl dX12_orderPartAt_1) rfl ?_
  refine okL_cons (ok_iconst rfl dX12_orderPartAt_2) rfl ?_
  refine okL_cons (ok_istore_n rfl dX12_orderPartAt_3) rfl ?_
  refine okL_cons (ok_iload_n rfl dX12_orderPartAt_4) rfl ?_
  refine okL_cons (ok_bipush rfl dX12_orderPartAt_5) rfl ?_
  refine okL_cons (ok_icmp_ge rfl dX12_orderPartAt_7) rfl ?_
  refine okL_cons (ok_aload_n rfl dX12_orderPartAt_10) rfl ?_
  refine okL_cons (ok_aload_n rfl dX12_orderPartAt_11) rfl ?_
  refine okL_cons (ok_getP kw_681 cf_X12 rfl rfl (by decide) dX12_orderPartAt_12) rfl ?_
  refine okL_cons (ok_iload_n rfl dX12_orderPartAt_15) rfl ?_
  refine okL_cons (ok_laload dX12_orderPartAt_16) rfl ?_
  refine okL_cons (ok_invV (M' := 198) kw_812 kw_813 kw_814 kw_711 kw_815 cf_X12 rfl (by decide +kernel) dX12_orderPartAt_17) rfl ?_
  refine okL_cons (ok_if_eq rfl dX12_orderPartAt_20) rfl ?_
  refine okL_cons (ok_iload_n rfl dX12_orderPartAt_23) rfl ?_
  refine okL_cons (ok_iconst rfl dX12_orderPartAt_24) rfl ?_
  refine okL_cons (ok_iadd dX12_orderPartAt_25) rfl ?_
  refine okL_cons (ok_goto rfl dX12_orderPartAt_26) rfl ?_
  refine okL_cons (ok_iload_n rfl dX12_orderPartAt_29) rfl ?_
  refine okL_cons (ok_istore_n rfl dX12_orderPartAt_30) rfl ?_
  refine okL_cons (ok_iinc rfl dX12_orderPartAt_31) rfl ?_
  refine okL_cons (ok_goto rfl dX12_orderPartAt_34) rfl ?_
  refine okL_cons (ok_iload_n rfl dX12_orderPartAt_37) rfl ?_
  exact okL_one (ok_ireturn rfl dX12_orderPartAt_38)
theorem dX12_openBracket_0 : decode cX12_openBracket 0 = .ok (.aload_n 0, 1) := by decide +kernel
theorem dX12_openBracket_1 : decode cX12_openBracket 1 = .ok (.aload_n 0, 1) := by decide +kernel
theorem dX12_openBracket_2 : decode cX12_openBracket 2 = .ok (.getfield 292, 3) := by decide +kernel
theorem dX12_openBracket_5 : decode cX12_openBracket 5 = .ok (.bipush 8, 2) := by decide +kernel
theorem dX12_openBracket_7 : decode cX12_openBracket 7 = .ok (.if_icmp .ge 7, 3) := by decide +kernel
theorem dX12_openBracket_10 : decode cX12_openBracket 10 = .ok (.iconst 1, 1) := by decide +kernel
theorem dX12_openBracket_11 : decode cX12_openBracket 11 = .ok (.goto 4, 3) := by decide +kernel
theorem dX12_openBracket_14 : decode cX12_openBracket 14 = .ok (.iconst 0, 1) := by decide +kernel
theorem dX12_openBracket_15 : decode cX12_openBracket 15 = .ok (.invokevirtual 268, 3) := by decide +kernel
theorem dX12_openBracket_18 : decode cX12_openBracket 18 = .ok (.aload_n 0, 1) := by decide +kernel
theorem dX12_openBracket_19 : decode cX12_openBracket 19 = .ok (.getfield 235, 3) := by decide +kernel
theorem dX12_openBracket_22 : decode cX12_openBracket 22 = .ok (.ifCond .ne 19, 3) := by decide +kernel
theorem dX12_openBracket_25 : decode cX12_openBracket 25 = .ok (.aload_n 0, 1) := by decide +kernel
theorem dX12_openBracket_26 : decode cX12_openBracket 26 = .ok (.dup, 1) := by decide +kernel
theorem dX12_openBracket_27 : decode cX12_openBracket 27 = .ok (.getfield 292, 3) := by decide +kernel
theorem dX12_openBracket_30 : decode cX12_openBracket 30 = .ok (.iconst 1, 1) := by decide +kernel
theorem dX12_openBracket_31 : decode cX12_openBracket 31 = .ok (.iadd, 1) := by decide +kernel
theorem dX12_openBracket_32 : decode cX12_openBracket 32 = .ok (.putfield 292, 3) := by decide +kernel
theorem dX12_openBracket_35 : decode cX12_openBracket 35 = .ok (.aload_n 0, 1) := by decide +kernel
theorem dX12_openBracket_36 : decode cX12_openBracket 36 = .ok (.iload_n 1, 1) := by decide +kernel
theorem dX12_openBracket_37 : decode cX12_openBracket 37 = .ok (.iconst 0, 1) := by decide +kernel
theorem dX12_openBracket_38 : decode cX12_openBracket 38 = .ok (.invokevirtual 295, 3) := by decide +kernel
theorem dX12_openBracket_41 : decode cX12_openBracket 41 = .ok (.return_, 1) := by decide +kernel
set_option maxRecDepth 100000 in
theorem okm_X12_openBracket : okL RX12 cX12_openBracket 2 none "openBracket" pcX12_openBracket opX12_openBracket pcX12_openBracket := by
  unfold opX12_openBracket
  refine okL_cons (ok_aload_n rfl dX12_openBracket_0) rfl ?_
  refine okL_cons (ok_aload_n rfl dX12_openBracket_1) rfl ?_
  refine okL_cons (ok_getI kw_816 cf_X12 rfl rfl (by decide) dX12_openBracket_2) rfl ?_
  refine okL_cons (ok_bipush rfl dX12_openBracket_5) rfl ?_
  refine okL_cons (ok_icmp_ge rfl dX12_openBracket_7) rfl ?_
  refine okL_cons (ok_iconst rfl dX12_openBracket_10) rfl ?_
  refine okL_cons (ok_goto rfl dX12_openBracket_11) rfl ?_
  refine okL_cons (ok_iconst rfl dX12_openBracket_14) rfl ?_
  refine okL_cons (ok_invV (M' := 200) kw_797 kw_798 kw_799 kw_711 kw_800 cf_X12 rfl (by decide +kernel) dX12_openBracket_15) rfl ?_
  refine okL_cons (ok_aload_n rfl dX12_openBracket_18) rfl ?_
  refine okL_cons (ok_getI kw_778 cf_X12 rfl rfl (by decide) dX12_openBracket_19) rfl ?_
  refine okL_cons (ok_if_ne rfl dX12_openBracket_22) rfl ?_
  refine okL_cons (ok_aload_n rfl dX12_openBracket_25) rfl ?_
  refine okL_cons (ok_dup dX12_openBracket_26) rfl ?_
  refine okL_cons (ok_getI kw_816 cf_X12 rfl rfl (by decide) dX12_openBracket_27) rfl ?_
  refine okL_cons (ok_iconst rfl dX12_openBracket_30) rfl ?_
  refine okL_cons (ok_iadd dX12_openBracket_31) rfl ?_
  refine okL_cons (ok_putI kw_816 cf_X12 rfl rfl (by decide) rfl dX12_openBracket_32) rfl ?_
  refine okL_cons (ok_aload_n rfl dX12_openBracket_35) rfl ?_
  refine okL_cons (ok_iload_n rfl dX12_openBracket_36) rfl ?_
  refine okL_cons (ok_iconst rfl dX12_openBracket_37) rfl ?_
  refine okL_cons (ok_invV (M' := 204) kw_817 kw_818 kw_819 kw_711 kw_820 cf_X12 rfl (by decide +kernel) dX12_openBracket_38) rfl ?_
  exact okL_one (ok_return rfl dX12_openBracket_41)
theorem dX12_leaf_0 : decode cX12_leaf 0 = .ok (.aload_n 0, 1) := by decide +kernel
theorem dX12_leaf_1 : decode cX12_leaf 1 = .ok (.iload_n 1, 1) := by decide +kernel
theorem dX12_leaf_2 : decode cX12_leaf 2 = .ok (.ifCond .eq 16, 3) := by decide +kernel
theorem dX12_leaf_5 : decode cX12_leaf 5 = .ok (.aload_n 0, 1) := by decide +kernel
theorem dX12_leaf_6 : decode cX12_leaf 6 = .ok (.getfield 298, 3) := by decide +kernel
theorem dX12_leaf_9 : decode cX12_leaf 9 = .ok (.bipush 50, 2) := by decide +kernel
theorem dX12_leaf_11 : decode cX12_leaf 11 = .ok (.if_icmp .ge 7, 3) := by decide +kernel
theorem dX12_leaf_14 : decode cX12_leaf 14 = .ok (.iconst 1, 1) := by decide +kernel
theorem dX12_leaf_15 : decode cX12_leaf 15 = .ok (.goto 4, 3) := by decide +kernel
theorem dX12_leaf_18 : decode cX12_leaf 18 = .ok (.iconst 0, 1) := by decide +kernel
theorem dX12_leaf_19 : decode cX12_leaf 19 = .ok (.invokevirtual 268, 3) := by decide +kernel
theorem dX12_leaf_22 : decode cX12_leaf 22 = .ok (.aload_n 0, 1) := by decide +kernel
theorem dX12_leaf_23 : decode cX12_leaf 23 = .ok (.getfield 235, 3) := by decide +kernel
theorem dX12_leaf_26 : decode cX12_leaf 26 = .ok (.ifCond .ne 19, 3) := by decide +kernel
theorem dX12_leaf_29 : decode cX12_leaf 29 = .ok (.aload_n 0, 1) := by decide +kernel
theorem dX12_leaf_30 : decode cX12_leaf 30 = .ok (.iload_n 2, 1) := by decide +kernel
theorem dX12_leaf_31 : decode cX12_leaf 31 = .ok (.iload_n 3, 1) := by decide +kernel
theorem dX12_leaf_32 : decode cX12_leaf 32 = .ok (.invokevirtual 281, 3) := by decide +kernel
theorem dX12_leaf_35 : decode cX12_leaf 35 = .ok (.aload_n 0, 1) := by decide +kernel
theorem dX12_leaf_36 : decode cX12_leaf 36 = .ok (.dup, 1) := by decide +kernel
theorem dX12_leaf_37 : decode cX12_leaf 37 = .ok (.getfield 298, 3) := by decide +kernel
theorem dX12_leaf_40 : decode cX12_leaf 40 = .ok (.iconst 1, 1) := by decide +kernel
theorem dX12_leaf_41 : decode cX12_leaf 41 = .ok (.iadd, 1) := by decide +kernel
theorem dX12_leaf_42 : decode cX12_leaf 42 = .ok (.putfield 298, 3) := by decide +kernel
theorem dX12_leaf_45 : decode cX12_leaf 45 = .ok (.return_, 1) := by decide +kernel
set_option maxRecDepth 100000 in
theorem okm_X12_leaf : okL RX12 cX12_leaf 4 none "leaf" pcX12_leaf opX12_leaf pcX12_leaf := by
  unfold opX12_leaf
  refine okL_cons (ok_aload_n rfl dX12_leaf_0) rfl ?_
  refine okL_cons (ok_iload_n rfl dX12_leaf_1) rfl ?_
  refine okL_cons (ok_if_eq rfl dX12_leaf_2) rfl ?_
  refine okL_cons (ok_aload_n rfl dX12_leaf_5) rfl ?_
  refine okL_cons (ok_getI kw_821 cf_X12 rfl rfl (by decide) dX12_leaf_6) rfl ?_
  refine okL_cons (ok_bipush rfl dX12_leaf_9) rfl ?_
  refine okL_cons (ok_icmp_ge rfl dX12_leaf_11) rfl ?_
  refine okL_cons (ok_iconst rfl dX12_leaf_14) rfl ?_
  refine okL_cons (ok_goto rfl dX12_leaf_15) rfl ?_
  refine okL_cons (ok_iconst rfl dX12_leaf_18) rfl ?_
  refine okL_cons (ok_invV (M' := 200) kw_797 kw_798 kw_799 kw_711 kw_800 cf_X12 rfl (by decide +kernel) dX12_leaf_19) rfl ?_
  refine okL_cons (ok_aload_n rfl dX12_leaf_22) rfl ?_
  refine okL_cons (ok_getI kw_778 cf_X12 rfl rfl (by decide) dX12_leaf_23) rfl ?_
  refine okL_cons (ok_if_ne rfl dX12_leaf_26) rfl ?_
  refine okL_cons (ok_aload_n rfl dX12_leaf_29) rfl ?_
  refine okL_cons (ok_iload_n rfl dX12_leaf_30) rfl ?_
  refine okL_cons (ok_iload_n rfl dX12_leaf_31) rfl ?_
  refine okL_cons (ok_invV (M' := 203) kw_806 kw_807 kw_808 kw_711 kw_809 cf_X12 rfl (by decide +kernel) dX12_leaf_32) rfl ?_
  refine okL_cons (ok_aload_n rfl dX12_leaf_35) rfl ?_
  refine okL_cons (ok_dup dX12_leaf_36) rfl ?_
  refine okL_cons (ok_getI kw_821 cf_X12 rfl rfl (by decide) dX12_leaf_37) rfl ?_
  refine okL_cons (ok_iconst rfl dX12_leaf_40) rfl ?_
  refine okL_cons (ok_iadd dX12_leaf_41) rfl ?_
  refine okL_cons (ok_putI kw_821 cf_X12 rfl rfl (by decide) rfl dX12_leaf_42) rfl ?_
  exact okL_one (ok_return rfl dX12_leaf_45)
theorem dX12_readPart_0 : decode cX12_readPart 0 = .ok (.aload_n 0, 1) := by decide +kernel
theorem dX12_readPart_1 : decode cX12_readPart 1 = .ok (.bipush 91, 2) := by decide +kernel
theorem dX12_readPart_3 : decode cX12_readPart 3 = .ok (.invokevirtual 301, 3) := by decide +kernel
theorem dX12_readPart_6 : decode cX12_readPart 6 = .ok (.ifCond .eq 11, 3) := by decide +kernel
theorem dX12_readPart_9 : decode cX12_readPart 9 = .ok (.aload_n 0, 1) := by decide +kernel
theorem dX12_readPart_10 : decode cX12_readPart 10 = .ok (.bipush 32, 2) := by decide +kernel
theorem dX12_readPart_12 : decode cX12_readPart 12 = .ok (.invokevirtual 304, 3) := by decide +kernel
theorem dX12_readPart_15 : decode cX12_readPart 15 = .ok (.iconst 1, 1) := by decide +kernel
theorem dX12_readPart_16 : decode cX12_readPart 16 = .ok (.ireturn, 1) := by decide +kernel
theorem dX12_readPart_17 : decode cX12_readPart 17 = .ok (.aload_n 0, 1) := by decide +kernel
theorem dX12_readPart_18 : decode cX12_readPart 18 = .ok (.getfield 307, 3) := by decide +kernel
theorem dX12_readPart_21 : decode cX12_readPart 21 = .ok (.ifCond .eq 10, 3) := by decide +kernel
theorem dX12_readPart_24 : decode cX12_readPart 24 = .ok (.aload_n 0, 1) := by decide +kernel
theorem dX12_readPart_25 : decode cX12_readPart 25 = .ok (.invokevirtual 310, 3) := by decide +kernel
theorem dX12_readPart_28 : decode cX12_readPart 28 = .ok (.goto 7, 3) := by decide +kernel
theorem dX12_readPart_31 : decode cX12_readPart 31 = .ok (.aload_n 0, 1) := by decide +kernel
theorem dX12_readPart_32 : decode cX12_readPart 32 = .ok (.invokevirtual 314, 3) := by decide +kernel
theorem dX12_readPart_35 : decode cX12_readPart 35 = .ok (.istore_n 1, 1) := by decide +kernel
theorem dX12_readPart_36 : decode cX12_readPart 36 = .ok (.aload_n 0, 1) := by decide +kernel
theorem dX12_readPart_37 : decode cX12_readPart 37 = .ok (.getfield 255, 3) := by decide +kernel
theorem dX12_readPart_40 : decode cX12_readPart 40 = .ok (.iconst 2, 1) := by decide +kernel
theorem dX12_readPart_41 : decode cX12_readPart 41 = .ok (.if_icmp .ne 18, 3) := by decide +kernel
theorem dX12_readPart_44 : decode cX12_readPart 44 = .ok (.aload_n 0, 1) := by decide +kernel
theorem dX12_readPart_45 : decode cX12_readPart 45 = .ok (.getfield 245, 3) := by decide +kernel
theorem dX12_readPart_48 : decode cX12_readPart 48 = .ok (.ldc2_w 317, 3) := by decide +kernel
theorem dX12_readPart_51 : decode cX12_readPart 51 = .ok (.lcmp, 1) := by decide +kernel
theorem dX12_readPart_52 : decode cX12_readPart 52 = .ok (.ifCond .gt 7, 3) := by decide +kernel
theorem dX12_readPart_55 : decode cX12_readPart 55 = .ok (.iconst 1, 1) := by decide +kernel
theorem dX12_readPart_56 : decode cX12_readPart 56 = .ok (.goto 4, 3) := by decide +kernel
theorem dX12_readPart_59 : decode cX12_readPart 59 = .ok (.iconst 0, 1) := by decide +kernel
theorem dX12_readPart_60 : decode cX12_readPart 60 = .ok (.istore_n 2, 1) := by decide +kernel
theorem dX12_readPart_61 : decode cX12_readPart 61 = .ok (.aload_n 0, 1) := by decide +kernel
theorem dX12_readPart_62 : decode cX12_readPart 62 = .ok (.iload_n 1, 1) := by decide +kernel
theorem dX12_readPart_63 : decode cX12_readPart 63 = .ok (.iconst (-1), 1) := by decide +kernel
theorem dX12_readPart_64 : decode cX12_readPart 64 = .ok (.if_icmp .ne 7, 3) := by decide +kernel
theorem dX12_readPart_67 : decode cX12_readPart 67 = .ok (.iload_n 2, 1) := by decide +kernel
theorem dX12_readPart_68 : decode cX12_readPart 68 = .ok (.ifCond .eq 7, 3) := by decide +kernel
theorem dX12_readPart_71 : decode cX12_readPart 71 = .ok (.iconst 1, 1) := by decide +kernel
theorem dX12_readPart_72 : decode cX12_readPart 72 = .ok (.goto 4, 3) := by decide +kernel
theorem dX12_readPart_75 : decode cX12_readPart 75 = .ok (.iconst 0, 1) := by decide +kernel
theorem dX12_readPart_76 : decode cX12_readPart 76 = .ok (.iload_n 1, 1) := by decide +kernel
theorem dX12_readPart_77 : decode cX12_readPart 77 = .ok (.iconst (-1), 1) := by decide +kernel
theorem dX12_readPart_78 : decode cX12_readPart 78 = .ok (.if_icmp .ne 7, 3) := by decide +kernel
theorem dX12_readPart_81 : decode cX12_readPart 81 = .ok (.iconst 0, 1) := by decide +kernel
theorem dX12_readPart_82 : decode cX12_readPart 82 = .ok (.goto 4, 3) := by decide +kernel
theorem dX12_readPart_85 : decode cX12_readPart 85 = .ok (.iload_n 1, 1) := by decide +kernel
theorem dX12_readPart_86 : decode cX12_readPart 86 = .ok (.iload_n 2, 1) := by decide +kernel
theorem dX12_readPart_87 : decode cX12_readPart 87 = .ok (.ifCond .eq 11, 3) := by decide +kernel
theorem dX12_readPart_90 : decode cX12_readPart 90 = .ok (.aload_n 0, 1) := by decide +kernel
theorem dX12_readPart_91 : decode cX12_readPart 91 = .ok (.getfield 245, 3) := by decide +kernel
theorem dX12_readPart_94 : decode cX12_readPart 94 = .ok (.l2i, 1) := by decide +kernel
theorem dX12_readPart_95 : decode cX12_readPart 95 = .ok (.goto 4, 3) := by decide +kernel
theorem dX12_readPart_98 : decode cX12_readPart 98 = .ok (.iconst 0, 1) := by decide +kernel
theorem dX12_readPart_99 : decode cX12_readPart 99 = .ok (.invokevirtual 319, 3) := by decide +kernel
theorem dX12_readPart_102 : decode cX12_readPart 102 = .ok (.aload_n 0, 1) := by decide +kernel
theorem dX12_readPart_103 : decode cX12_readPart 103 = .ok (.getfield 307, 3) := by decide +kernel
theorem dX12_readPart_106 : decode cX12_readPart 106 = .ok (.ifCond .eq 49, 3) := by decide +kernel
theorem dX12_readPart_109 : decode cX12_readPart 109 = .ok (.iload_n 1, 1) := by decide +kernel
theorem dX12_readPart_110 : decode cX12_readPart 110 = .ok (.bipush 6, 2) := by decide +kernel
theorem dX12_readPart_112 : decode cX12_readPart 112 = .ok (.if_icmp .lt 43, 3) := by decide +kernel
theorem dX12_readPart_115 : decode cX12_readPart 115 = .ok (.aload_n 0, 1) := by decide +kernel
theorem dX12_readPart_116 : decode cX12_readPart 116 = .ok (.getfield 235, 3) := by decide +kernel
theorem dX12_readPart_119 : decode cX12_readPart 119 = .ok (.ifCond .ne 36, 3) := by decide +kernel
theorem dX12_readPart_122 : decode cX12_readPart 122 = .ok (.aload_n 0, 1) := by decide +kernel
theorem dX12_readPart_123 : decode cX12_readPart 123 = .ok (.getfield 272, 3) := by decide +kernel
theorem dX12_readPart_126 : decode cX12_readPart 126 = .ok (.iconst 1, 1) := by decide +kernel
theorem dX12_readPart_127 : decode cX12_readPart 127 = .ok (.isub, 1) := by decide +kernel
theorem dX12_readPart_128 : decode cX12_readPart 128 = .ok (.istore_n 3, 1) := by decide +kernel
theorem dX12_readPart_129 : decode cX12_readPart 129 = .ok (.aload_n 0, 1) := by decide +kernel
theorem dX12_readPart_130 : decode cX12_readPart 130 = .ok (.getfield 48, 3) := by decide +kernel
theorem dX12_readPart_133 : decode cX12_readPart 133 = .ok (.iload_n 3, 1) := by decide +kernel
theorem dX12_readPart_134 : decode cX12_readPart 134 = .ok (.aload_n 0, 1) := by decide +kernel
theorem dX12_readPart_135 : decode cX12_readPart 135 = .ok (.lconst 0, 1) := by decide +kernel
theorem dX12_readPart_136 : decode cX12_readPart 136 = .ok (.iload_n 1, 1) := by decide +kernel
theorem dX12_readPart_137 : decode cX12_readPart 137 = .ok (.bipush 6, 2) := by decide +kernel
theorem dX12_readPart_139 : decode cX12_readPart 139 = .ok (.if_icmp .ne 9, 3) := by decide +kernel
theorem dX12_readPart_142 : decode cX12_readPart 142 = .ok (.ldc2_w 179, 3) := by decide +kernel
theorem dX12_readPart_145 : decode cX12_readPart 145 = .ok (.goto 6, 3) := by decide +kernel
theorem dX12_readPart_148 : decode cX12_readPart 148 = .ok (.ldc2_w 57, 3) := by decide +kernel
theorem dX12_readPart_151 : decode cX12_readPart 151 = .ok (.invokevirtual 323, 3) := by decide +kernel
theorem dX12_readPart_154 : decode cX12_readPart 154 = .ok (.iastore, 1) := by decide +kernel
theorem dX12_readPart_155 : decode cX12_readPart 155 = .ok (.iconst 3, 1) := by decide +kernel
theorem dX12_readPart_156 : decode cX12_readPart 156 = .ok (.ireturn, 1) := by decide +kernel
set_option maxRecDepth 100000 in
theorem okm_X12_readPart : okL RX12 cX12_readPart 4 (some .int) "readPart" pcX12_readPart opX12_readPart pcX12_readPart := by
  unfold opX12_readPart
  refine okL_cons (ok_aload_n rfl dX12_readPart_0) rfl ?_
  refine okL_cons (ok_bipush rfl dX12_readPart_1) rfl ?_
  refine okL_cons (ok_invV (M' := 199) kw_822 kw_823 kw_824 kw_711 kw_825 cf_X12 rfl (by decide +kernel) dX12_readPart_3) rfl ?_
  refine okL_cons (ok_if_eq rfl dX12_readPart_6) rfl ?_
  refine okL_cons (ok_aload_n rfl dX12_readPart_9) rfl ?_
  refine okL_cons (ok_bipush rfl dX12_readPart_10) rfl ?_
  refine okL_cons (ok_invV (M' := 211) kw_826 kw_827 kw_828 kw_711 kw_829 cf_X12 rfl (by decide +kernel) dX12_readPart_12) rfl ?_
  refine okL_cons (ok_iconst rfl dX12_readPart_15) rfl ?_
  refine okL_cons (ok_ireturn rfl dX12_readPart_16) rfl ?_
  refine okL_cons (ok_aload_n rfl dX12_readPart_17) rfl ?_
  refine okL_cons (ok_getI kw_830 cf_X12 rfl rfl (by decide) dX12_readPart_18) rfl ?_
  refine okL_cons (ok_if_eq rfl dX12_readPart_21) rfl ?_
  refine okL_cons (ok_aload_n rfl dX12_readPart_24) rfl ?_
  refine okL_cons (ok_invV (M' := 210) kw_831 kw_832 kw_833 kw_711 kw_834 cf_X12 rfl (by decide +kernel) dX12_readPart_25) rfl ?_
  refine okL_cons (ok_goto rfl dX12_readPart_28) rfl ?_
  refine okL_cons (ok_aload_n rfl dX12_readPart_31) rfl ?_
  refine okL_cons (ok_invV (M' := 209) kw_835 kw_836 kw_837 kw_711 kw_838 cf_X12 rfl (by decide +kernel) dX12_readPart_32) rfl ?_
  refine okL_cons (ok_istore_n rfl dX12_readPart_35) rfl ?_
  refine okL_cons (ok_aload_n rfl dX12_readPart_36) rfl ?_
  refine okL_cons (ok_getI kw_791 cf_X12 rfl rfl (by decide) dX12_readPart_37) rfl ?_
  refine okL_cons (ok_iconst rfl dX12_readPart_40) rfl ?_
  refine okL_cons (ok_icmp_ne rfl dX12_readPart_41) rfl ?_
  refine okL_cons (ok_aload_n rfl dX12_readPart_44) rfl ?_
  refine okL_cons (ok_getJ kw_784 cf_X12 rfl rfl (by decide) dX12_readPart_45) rfl ?_
  refine okL_cons (ok_ldc2 kw_839 dX12_readPart_48) rfl ?_
  refine okL_cons (ok_lcmp dX12_readPart_51) rfl ?_
  refine okL_cons (ok_if_gt rfl dX12_readPart_52) rfl ?_
  refine okL_cons (ok_iconst rfl dX12_readPart_55) rfl ?_
  refine okL_cons (ok_goto rfl dX12_readPart_56) rfl ?_
  refine okL_cons (ok_iconst rfl dX12_readPart_59) rfl ?_
  refine okL_cons (ok_istore_n rfl dX12_readPart_60) rfl ?_
  refine okL_cons (ok_aload_n rfl dX12_readPart_61) rfl ?_
  refine okL_cons (ok_iload_n rfl dX12_readPart_62) rfl ?_
  refine okL_cons (ok_iconst rfl dX12_readPart_63) rfl ?_
  refine okL_cons (ok_icmp_ne rfl dX12_readPart_64) rfl ?_
  refine okL_cons (ok_iload_n rfl dX12_readPart_67) rfl ?_
  refine okL_cons (ok_if_eq rfl dX12_readPart_68) rfl ?_
  refine okL_cons (ok_iconst rfl dX12_readPart_71) rfl ?_
  refine okL_cons (ok_goto rfl dX12_readPart_72) rfl ?_
  refine okL_cons (ok_iconst rfl dX12_readPart_75) rfl ?_
  refine okL_cons (ok_iload_n rfl dX12_readPart_76) rfl ?_
  refine okL_cons (ok_iconst rfl dX12_readPart_77) rfl ?_
  refine okL_cons (ok_icmp_ne rfl dX12_readPart_78) rfl ?_
  refine okL_cons (ok_iconst rfl dX12_readPart_81) rfl ?_
  refine okL_cons (ok_goto rfl dX12_readPart_82) rfl ?_
  refine okL_cons (ok_iload_n rfl dX12_readPart_85) rfl ?_
  refine okL_cons (ok_iload_n rfl dX12_readPart_86) rfl ?_
  refine okL_cons (ok_if_eq rfl dX12_readPart_87) rfl ?_
  refine okL_cons (ok_aload_n rfl dX12_readPart_90) rfl ?_
  refine okL_cons (ok_getJ kw_784 cf_X12 rfl rfl (by decide) dX12_readPart_91) rfl ?_
  refine okL_cons (ok_l2i dX12_readPart_94) rfl ?_
  refine okL_cons (ok_goto rfl dX12_readPart_95) rfl ?_
  refine okL_cons (ok_iconst rfl dX12_readPart_98) rfl ?_
  refine okL_cons (ok_invV (M' := 212) kw_840 kw_841 kw_842 kw_711 kw_843 cf_X12 rfl (by decide +kernel) dX12_readPart_99) rfl ?_
  refine okL_cons (ok_aload_n rfl dX12_readPart_102) rfl ?_
  refine okL_cons (ok_getI kw_830 cf_X12 rfl rfl (by decide) dX12_readPart_103) rfl ?_
  refine okL_cons (ok_if_eq rfl dX12_readPart_106) rfl ?_
  refine okL_cons (ok_iload_n rfl dX12_readPart_109) rfl ?_
  refine okL_cons (ok_bipush rfl dX12_readPart_110) rfl ?_
  refine okL_cons (ok_icmp_lt rfl dX12_readPart_112) rfl ?_
  refine okL_cons (ok_aload_n rfl dX12_readPart_115) rfl ?_
  refine okL_cons (ok_getI kw_778 cf_X12 rfl rfl (by decide) dX12_readPart_116) rfl ?_
  refine okL_cons (ok_if_ne rfl dX12_readPart_119) rfl ?_
  refine okL_cons (ok_aload_n rfl dX12_readPart_122) rfl ?_
  refine okL_cons (ok_getI kw_801 cf_X12 rfl rfl (by decide) dX12_readPart_123) rfl ?_
  refine okL_cons (ok_iconst rfl dX12_readPart_126) rfl ?_
  refine okL_cons (ok_isub dX12_readPart_127) rfl ?_
  refine okL_cons (ok_istore_n rfl dX12_readPart_128) rfl ?_
  refine okL_cons (ok_aload_n rfl dX12_readPart_129) rfl ?_
  refine okL_cons (ok_getP kw_665 cf_X12 rfl rfl (by decide) dX12_readPart_130) rfl ?_
  refine okL_cons (ok_iload_n rfl dX12_readPart_133) rfl ?_
  refine okL_cons (ok_aload_n rfl dX12_readPart_134) rfl ?_
  refine okL_cons (ok_lconst rfl dX12_readPart_135) rfl ?_
  refine okL_cons (ok_iload_n rfl dX12_readPart_136) rfl ?_
  refine okL_cons (ok_bipush rfl dX12_readPart_137) rfl ?_
  refine okL_cons (ok_icmp_ne rfl dX12_readPart_139) rfl ?_
  refine okL_cons (ok_ldc2 kw_729 dX12_readPart_142) rfl ?_
  refine okL_cons (ok_goto rfl dX12_readPart_145) rfl ?_
  refine okL_cons (ok_ldc2 kw_668 dX12_readPart_148) rfl ?_
  refine okL_cons (ok_invV (M' := 201) kw_844 kw_845 kw_846 kw_711 kw_847 cf_X12 rfl (by decide +kernel) dX12_readPart_151) rfl ?_
  refine okL_cons (ok_iastore dX12_readPart_154) rfl ?_
  refine okL_cons (ok_iconst rfl dX12_readPart_155) rfl ?_
  exact okL_one (ok_ireturn rfl dX12_readPart_156)
theorem dX12_readPlain_0 : decode cX12_readPlain 0 = .ok (.aload_n 0, 1) := by decide +kernel
theorem dX12_readPlain_1 : decode cX12_readPlain 1 = .ok (.ldc2_w 327, 3) := by decide +kernel
theorem dX12_readPlain_4 : decode cX12_readPlain 4 = .ok (.invokevirtual 288, 3) := by decide +kernel
theorem dX12_readPlain_7 : decode cX12_readPlain 7 = .ok (.ifCond .eq 16, 3) := by decide +kernel
theorem dX12_readPlain_10 : decode cX12_readPlain 10 = .ok (.aload_n 0, 1) := by decide +kernel
theorem dX12_readPlain_11 : decode cX12_readPlain 11 = .ok (.bipush 28, 2) := by decide +kernel
theorem dX12_readPlain_13 : decode cX12_readPlain 13 = .ok (.iconst 0, 1) := by decide +kernel
theorem dX12_readPlain_14 : decode cX12_readPlain 14 = .ok (.invokevirtual 295, 3) := by decide +kernel
theorem dX12_readPlain_17 : decode cX12_readPlain 17 = .ok (.aload_n 0, 1) := by decide +kernel
theorem dX12_readPlain_18 : decode cX12_readPlain 18 = .ok (.invokevirtual 239, 3) := by decide +kernel
theorem dX12_readPlain_21 : decode cX12_readPlain 21 = .ok (.iconst 0, 1) := by decide +kernel
theorem dX12_readPlain_22 : decode cX12_readPlain 22 = .ok (.ireturn, 1) := by decide +kernel
theorem dX12_readPlain_23 : decode cX12_readPlain 23 = .ok (.aload_n 0, 1) := by decide +kernel
theorem dX12_readPlain_24 : decode cX12_readPlain 24 = .ok (.bipush 40, 2) := by decide +kernel
theorem dX12_readPlain_26 : decode cX12_readPlain 26 = .ok (.invokevirtual 301, 3) := by decide +kernel
theorem dX12_readPlain_29 : decode cX12_readPlain 29 = .ok (.ifCond .eq 11, 3) := by decide +kernel
theorem dX12_readPlain_32 : decode cX12_readPlain 32 = .ok (.aload_n 0, 1) := by decide +kernel
theorem dX12_readPlain_33 : decode cX12_readPlain 33 = .ok (.bipush 31, 2) := by decide +kernel
theorem dX12_readPlain_35 : decode cX12_readPlain 35 = .ok (.invokevirtual 304, 3) := by decide +kernel
theorem dX12_readPlain_38 : decode cX12_readPlain 38 = .ok (.iconst 0, 1) := by decide +kernel
theorem dX12_readPlain_39 : decode cX12_readPlain 39 = .ok (.ireturn, 1) := by decide +kernel
theorem dX12_readPlain_40 : decode cX12_readPlain 40 = .ok (.aload_n 0, 1) := by decide +kernel
theorem dX12_readPlain_41 : decode cX12_readPlain 41 = .ok (.invokevirtual 329, 3) := by decide +kernel
theorem dX12_readPlain_44 : decode cX12_readPlain 44 = .ok (.ireturn, 1) := by decide +kernel
set_option maxRecDepth 100000 in
theorem okm_X12_readPlain : okL RX12 cX12_readPlain 1 (some .int) "readPlain" pcX12_readPlain opX12_readPlain pcX12_readPlain := by
  unfold opX12_readPlain
  refine okL_cons (ok_aload_n rfl dX12_readPlain_0) rfl ?_
  refine okL_cons (ok_ldc2 kw_848 dX12_readPlain_1) rfl ?_
  refine okL_cons (ok_invV (M' := 198) kw_812 kw_813 kw_814 kw_711 kw_815 cf_X12 rfl (by decide +kernel) dX12_readPlain_4) rfl ?_
  refine okL_cons (ok_if_eq rfl dX12_readPlain_7) rfl ?_
  refine okL_cons (ok_aload_n rfl dX12_readPlain_10) rfl ?_
  refine okL_cons (ok_bipush rfl dX12_readPlain_11) rfl ?_
  refine okL_cons (ok_iconst rfl dX12_readPlain_13) rfl ?_
  refine okL_cons (ok_invV (M' := 204) kw_817 kw_818 kw_819 kw_711 kw_820 cf_X12 rfl (by decide +kernel) dX12_readPlain_14) rfl ?_
  refine okL_cons (ok_aload_n rfl dX12_readPlain_17) rfl ?_
  refine okL_cons (ok_invV (M' := 197) kw_779 kw_780 kw_781 kw_711 kw_782 cf_X12 rfl (by decide +kernel) dX12_readPlain_18) rfl ?_
  refine okL_cons (ok_iconst rfl dX12_readPlain_21) rfl ?_
  refine okL_cons (ok_ireturn rfl dX12_readPlain_22) rfl ?_
  refine okL_cons (ok_aload_n rfl dX12_readPlain_23) rfl ?_
  refine okL_cons (ok_bipush rfl dX12_readPlain_24) rfl ?_
  refine okL_cons (ok_invV (M' := 199) kw_822 kw_823 kw_824 kw_711 kw_825 cf_X12 rfl (by decide +kernel) dX12_readPlain_26) rfl ?_
  refine okL_cons (ok_if_eq rfl dX12_readPlain_29) rfl ?_
  refine okL_cons (ok_aload_n rfl dX12_readPlain_32) rfl ?_
  refine okL_cons (ok_bipush rfl dX12_readPlain_33) rfl ?_
  refine okL_cons (ok_invV (M' := 211) kw_826 kw_827 kw_828 kw_711 kw_829 cf_X12 rfl (by decide +kernel) dX12_readPlain_35) rfl ?_
  refine okL_cons (ok_iconst rfl dX12_readPlain_38) rfl ?_
  refine okL_cons (ok_ireturn rfl dX12_readPlain_39) rfl ?_
  refine okL_cons (ok_aload_n rfl dX12_readPlain_40) rfl ?_
  refine okL_cons (ok_invV (M' := 213) kw_849 kw_850 kw_851 kw_711 kw_852 cf_X12 rfl (by decide +kernel) dX12_readPlain_41) rfl ?_
  exact okL_one (ok_ireturn rfl dX12_readPlain_44)
