theorem dX11_attempt_0 : decode cX11_attempt 0 = .ok (.aload_n 0, 1) := by decide +kernel
theorem dX11_attempt_1 : decode cX11_attempt 1 = .ok (.getfield 20, 3) := by decide +kernel
theorem dX11_attempt_4 : decode cX11_attempt 4 = .ok (.iload_n 1, 1) := by decide +kernel
theorem dX11_attempt_5 : decode cX11_attempt 5 = .ok (.iload_n 2, 1) := by decide +kernel
theorem dX11_attempt_6 : decode cX11_attempt 6 = .ok (.iload_n 3, 1) := by decide +kernel
theorem dX11_attempt_7 : decode cX11_attempt 7 = .ok (.invokevirtual 278, 3) := by decide +kernel
theorem dX11_attempt_10 : decode cX11_attempt 10 = .ok (.istore 4, 2) := by decide +kernel
theorem dX11_attempt_12 : decode cX11_attempt 12 = .ok (.iload 4, 2) := by decide +kernel
theorem dX11_attempt_14 : decode cX11_attempt 14 = .ok (.ifCond .eq 6, 3) := by decide +kernel
theorem dX11_attempt_17 : decode cX11_attempt 17 = .ok (.iload 4, 2) := by decide +kernel
theorem dX11_attempt_19 : decode cX11_attempt 19 = .ok (.ireturn, 1) := by decide +kernel
theorem dX11_attempt_20 : decode cX11_attempt 20 = .ok (.aload_n 0, 1) := by decide +kernel
theorem dX11_attempt_21 : decode cX11_attempt 21 = .ok (.getfield 34, 3) := by decide +kernel
theorem dX11_attempt_24 : decode cX11_attempt 24 = .ok (.aload_n 0, 1) := by decide +kernel
theorem dX11_attempt_25 : decode cX11_attempt 25 = .ok (.getfield 20, 3) := by decide +kernel
theorem dX11_attempt_28 : decode cX11_attempt 28 = .ok (.iload_n 1, 1) := by decide +kernel
theorem dX11_attempt_29 : decode cX11_attempt 29 = .ok (.invokevirtual 281, 3) := by decide +kernel
theorem dX11_attempt_32 : decode cX11_attempt 32 = .ok (.iload_n 1, 1) := by decide +kernel
theorem dX11_attempt_33 : decode cX11_attempt 33 = .ok (.iconst 3, 1) := by decide +kernel
theorem dX11_attempt_34 : decode cX11_attempt 34 = .ok (.if_icmp .ne 17, 3) := by decide +kernel
theorem dX11_attempt_37 : decode cX11_attempt 37 = .ok (.aload_n 0, 1) := by decide +kernel
theorem dX11_attempt_38 : decode cX11_attempt 38 = .ok (.getfield 92, 3) := by decide +kernel
theorem dX11_attempt_41 : decode cX11_attempt 41 = .ok (.aload_n 0, 1) := by decide +kernel
theorem dX11_attempt_42 : decode cX11_attempt 42 = .ok (.getfield 20, 3) := by decide +kernel
theorem dX11_attempt_45 : decode cX11_attempt 45 = .ok (.invokevirtual 284, 3) := by decide +kernel
theorem dX11_attempt_48 : decode cX11_attempt 48 = .ok (.goto 13, 3) := by decide +kernel
theorem dX11_attempt_51 : decode cX11_attempt 51 = .ok (.aload_n 0, 1) := by decide +kernel
theorem dX11_attempt_52 : decode cX11_attempt 52 = .ok (.getfield 20, 3) := by decide +kernel
theorem dX11_attempt_55 : decode cX11_attempt 55 = .ok (.iload_n 1, 1) := by decide +kernel
theorem dX11_attempt_56 : decode cX11_attempt 56 = .ok (.iload_n 2, 1) := by decide +kernel
theorem dX11_attempt_57 : decode cX11_attempt 57 = .ok (.iload_n 3, 1) := by decide +kernel
theorem dX11_attempt_58 : decode cX11_attempt 58 = .ok (.invokevirtual 288, 3) := by decide +kernel
theorem dX11_attempt_61 : decode cX11_attempt 61 = .ok (.ireturn, 1) := by decide +kernel
set_option maxRecDepth 100000 in
theorem okm_X11_attempt : okL RX11 cX11_attempt 5 (some .int) "attempt" pcX11_attempt opX11_attempt pcX11_attempt := by
  unfold opX11_attempt
  refine okL_cons (ok_aload_n rfl dX11_attempt_0) rfl ?_
  refine okL_cons (ok_getP kw_395 cf_X11 rfl rfl (by decide) dX11_attempt_1) rfl ?_
  refine okL_cons (ok_iload_n rfl dX11_attempt_4) rfl ?_
  refine okL_cons (ok_iload_n rfl dX11_attempt_5) rfl ?_
  refine okL_cons (ok_iload_n rfl dX11_attempt_6) rfl ?_
  refine okL_cons (ok_invV (M' := 22) kw_533 kw_534 kw_535 kw_47 kw_536 cf_X2 rfl (by decide +kernel) dX11_attempt_7) rfl ?_
  refine okL_cons (ok_istore dX11_attempt_10) rfl ?_
  refine okL_cons (ok_iload dX11_attempt_12) rfl ?_
  refine okL_cons (ok_if_eq rfl dX11_attempt_14) rfl ?_
  refine okL_cons (ok_iload dX11_attempt_17) rfl ?_
  refine okL_cons (ok_ireturn rfl dX11_attempt_19) rfl ?_
  refine okL_cons (ok_aload_n rfl dX11_attempt_20) rfl ?_
  refine okL_cons (ok_getP kw_405 cf_X11 rfl rfl (by decide) dX11_attempt_21) rfl ?_
  refine okL_cons (ok_aload_n rfl dX11_attempt_24) rfl ?_
  refine okL_cons (ok_getP kw_395 cf_X11 rfl rfl (by decide) dX11_attempt_25) rfl ?_
  refine okL_cons (ok_iload_n rfl dX11_attempt_28) rfl ?_
  refine okL_cons (ok_invV (M' := 31) kw_537 kw_538 kw_539 kw_401 kw_540 cf_X4 rfl (by decide +kernel) dX11_attempt_29) rfl ?_
  refine okL_cons (ok_iload_n rfl dX11_attempt_32) rfl ?_
  refine okL_cons (ok_iconst rfl dX11_attempt_33) rfl ?_
  refine okL_cons (ok_icmp_ne rfl dX11_attempt_34) rfl ?_
  refine okL_cons (ok_aload_n rfl dX11_attempt_37) rfl ?_
  refine okL_cons (ok_getP kw_436 cf_X11 rfl rfl (by decide) dX11_attempt_38) rfl ?_
  refine okL_cons (ok_aload_n rfl dX11_attempt_41) rfl ?_
  refine okL_cons (ok_getP kw_395 cf_X11 rfl rfl (by decide) dX11_attempt_42) rfl ?_
  refine okL_cons (ok_invV (M' := 64) kw_541 kw_542 kw_543 kw_252 kw_544 cf_X6 rfl (by decide +kernel) dX11_attempt_45) rfl ?_
  refine okL_cons (ok_goto rfl dX11_attempt_48) rfl ?_
  refine okL_cons (ok_aload_n rfl dX11_attempt_51) rfl ?_
  refine okL_cons (ok_getP kw_395 cf_X11 rfl rfl (by decide) dX11_attempt_52) rfl ?_
  refine okL_cons (ok_iload_n rfl dX11_attempt_55) rfl ?_
  refine okL_cons (ok_iload_n rfl dX11_attempt_56) rfl ?_
  refine okL_cons (ok_iload_n rfl dX11_attempt_57) rfl ?_
  refine okL_cons (ok_invV (M' := 23) kw_545 kw_546 kw_547 kw_47 kw_548 cf_X2 rfl (by decide +kernel) dX11_attempt_58) rfl ?_
  exact okL_one (ok_ireturn rfl dX11_attempt_61)
theorem dX11_undo_0 : decode cX11_undo 0 = .ok (.aload_n 0, 1) := by decide +kernel
theorem dX11_undo_1 : decode cX11_undo 1 = .ok (.getfield 34, 3) := by decide +kernel
theorem dX11_undo_4 : decode cX11_undo 4 = .ok (.getfield 291, 3) := by decide +kernel
theorem dX11_undo_7 : decode cX11_undo 7 = .ok (.ifCond .ne 13, 3) := by decide +kernel
theorem dX11_undo_10 : decode cX11_undo 10 = .ok (.aload_n 0, 1) := by decide +kernel
theorem dX11_undo_11 : decode cX11_undo 11 = .ok (.getfield 117, 3) := by decide +kernel
theorem dX11_undo_14 : decode cX11_undo 14 = .ok (.bipush (-3), 2) := by decide +kernel
theorem dX11_undo_16 : decode cX11_undo 16 = .ok (.invokevirtual 152, 3) := by decide +kernel
theorem dX11_undo_19 : decode cX11_undo 19 = .ok (.ireturn, 1) := by decide +kernel
theorem dX11_undo_20 : decode cX11_undo 20 = .ok (.aload_n 0, 1) := by decide +kernel
theorem dX11_undo_21 : decode cX11_undo 21 = .ok (.getfield 117, 3) := by decide +kernel
theorem dX11_undo_24 : decode cX11_undo 24 = .ok (.aload_n 0, 1) := by decide +kernel
theorem dX11_undo_25 : decode cX11_undo 25 = .ok (.getfield 34, 3) := by decide +kernel
theorem dX11_undo_28 : decode cX11_undo 28 = .ok (.aload_n 0, 1) := by decide +kernel
theorem dX11_undo_29 : decode cX11_undo 29 = .ok (.getfield 20, 3) := by decide +kernel
theorem dX11_undo_32 : decode cX11_undo 32 = .ok (.invokevirtual 292, 3) := by decide +kernel
theorem dX11_undo_35 : decode cX11_undo 35 = .ok (.invokevirtual 159, 3) := by decide +kernel
theorem dX11_undo_38 : decode cX11_undo 38 = .ok (.ireturn, 1) := by decide +kernel
set_option maxRecDepth 100000 in
theorem okm_X11_undo : okL RX11 cX11_undo 1 (some .int) "undo" pcX11_undo opX11_undo pcX11_undo := by
  unfold opX11_undo
  refine okL_cons (ok_aload_n rfl dX11_undo_0) rfl ?_
  refine okL_cons (ok_getP kw_405 cf_X11 rfl rfl (by decide) dX11_undo_1) rfl ?_
  refine okL_cons (ok_getNI 47 cf_X4 rfl rfl rfl (by decide) dX11_undo_4) rfl ?_
  refine okL_cons (ok_if_ne rfl dX11_undo_7) rfl ?_
  refine okL_cons (ok_aload_n rfl dX11_undo_10) rfl ?_
  refine okL_cons (ok_getP kw_453 cf_X11 rfl rfl (by decide) dX11_undo_11) rfl ?_
  refine okL_cons (ok_bipush rfl dX11_undo_14) rfl ?_
  refine okL_cons (ok_invV (M' := 25) kw_467 kw_108 kw_109 kw_110 kw_111 cf_X3 rfl (by decide +kernel) dX11_undo_16) rfl ?_
  refine okL_cons (ok_ireturn rfl dX11_undo_19) rfl ?_
  refine okL_cons (ok_aload_n rfl dX11_undo_20) rfl ?_
  refine okL_cons (ok_getP kw_453 cf_X11 rfl rfl (by decide) dX11_undo_21) rfl ?_
  refine okL_cons (ok_aload_n rfl dX11_undo_24) rfl ?_
  refine okL_cons (ok_getP kw_405 cf_X11 rfl rfl (by decide) dX11_undo_25) rfl ?_
  refine okL_cons (ok_aload_n rfl dX11_undo_28) rfl ?_
  refine okL_cons (ok_getP kw_395 cf_X11 rfl rfl (by decide) dX11_undo_29) rfl ?_
  refine okL_cons (ok_invV (M' := 32) kw_549 kw_550 kw_551 kw_401 kw_552 cf_X4 rfl (by decide +kernel) dX11_undo_32) rfl ?_
  refine okL_cons (ok_invV (M' := 26) kw_472 kw_113 kw_114 kw_110 kw_115 cf_X3 rfl (by decide +kernel) dX11_undo_35) rfl ?_
  exact okL_one (ok_ireturn rfl dX11_undo_38)
theorem dX11_later_0 : decode cX11_later 0 = .ok (.iload_n 1, 1) := by decide +kernel
theorem dX11_later_1 : decode cX11_later 1 = .ok (.invokestatic 295, 3) := by decide +kernel
theorem dX11_later_4 : decode cX11_later 4 = .ok (.ifCond .eq 13, 3) := by decide +kernel
theorem dX11_later_7 : decode cX11_later 7 = .ok (.iload_n 2, 1) := by decide +kernel
theorem dX11_later_8 : decode cX11_later 8 = .ok (.ifCond .lt 9, 3) := by decide +kernel
theorem dX11_later_11 : decode cX11_later 11 = .ok (.iload_n 2, 1) := by decide +kernel
theorem dX11_later_12 : decode cX11_later 12 = .ok (.bipush 60, 2) := by decide +kernel
theorem dX11_later_14 : decode cX11_later 14 = .ok (.if_icmp .le 5, 3) := by decide +kernel
theorem dX11_later_17 : decode cX11_later 17 = .ok (.iconst (-1), 1) := by decide +kernel
theorem dX11_later_18 : decode cX11_later 18 = .ok (.ireturn, 1) := by decide +kernel
theorem dX11_later_19 : decode cX11_later 19 = .ok (.aload_n 0, 1) := by decide +kernel
theorem dX11_later_20 : decode cX11_later 20 = .ok (.iload_n 2, 1) := by decide +kernel
theorem dX11_later_21 : decode cX11_later 21 = .ok (.invokevirtual 298, 3) := by decide +kernel
theorem dX11_later_24 : decode cX11_later 24 = .ok (.aload_n 0, 1) := by decide +kernel
theorem dX11_later_25 : decode cX11_later 25 = .ok (.getfield 47, 3) := by decide +kernel
theorem dX11_later_28 : decode cX11_later 28 = .ok (.getfield 263, 3) := by decide +kernel
theorem dX11_later_31 : decode cX11_later 31 = .ok (.iload_n 1, 1) := by decide +kernel
theorem dX11_later_32 : decode cX11_later 32 = .ok (.iaload, 1) := by decide +kernel
theorem dX11_later_33 : decode cX11_later 33 = .ok (.ireturn, 1) := by decide +kernel
set_option maxRecDepth 100000 in
theorem okm_X11_later : okL RX11 cX11_later 3 (some .int) "later" pcX11_later opX11_later pcX11_later := by
  unfold opX11_later
  refine okL_cons (ok_iload_n rfl dX11_later_0) rfl ?_
  refine okL_cons (ok_invS (M' := 160) kw_553 kw_88 kw_79 kw_89 rfl (by decide +kernel) dX11_later_1) rfl ?_
  refine okL_cons (ok_if_eq rfl dX11_later_4) rfl ?_
  refine okL_cons (ok_iload_n rfl dX11_later_7) rfl ?_
  refine okL_cons (ok_if_lt rfl dX11_later_8) rfl ?_
  refine okL_cons (ok_iload_n rfl dX11_later_11) rfl ?_
  refine okL_cons (ok_bipush rfl dX11_later_12) rfl ?_
  refine okL_cons (ok_icmp_le rfl dX11_later_14) rfl ?_
  refine okL_cons (ok_iconst rfl dX11_later_17) rfl ?_
  refine okL_cons (ok_ireturn rfl dX11_later_18) rfl ?_
  refine okL_cons (ok_aload_n rfl dX11_later_19) rfl ?_
  refine okL_cons (ok_iload_n rfl dX11_later_20) rfl ?_
  refine okL_cons (ok_invV (M' := 130) kw_554 kw_555 kw_556 kw_79 kw_557 cf_X11 rfl (by decide +kernel) dX11_later_21) rfl ?_
  refine okL_cons (ok_aload_n rfl dX11_later_24) rfl ?_
  refine okL_cons (ok_getP kw_410 cf_X11 rfl rfl (by decide) dX11_later_25) rfl ?_
  refine okL_cons (ok_getNP 4 cf_X2 rfl rfl rfl (by decide) dX11_later_28) rfl ?_
  refine okL_cons (ok_iload_n rfl dX11_later_31) rfl ?_
  refine okL_cons (ok_iaload dX11_later_32) rfl ?_
  exact okL_one (ok_ireturn rfl dX11_later_33)
theorem dX11_readWith_0 : decode cX11_readWith 0 = .ok (.iload_n 1, 1) := by decide +kernel
theorem dX11_readWith_1 : decode cX11_readWith 1 = .ok (.invokestatic 295, 3) := by decide +kernel
theorem dX11_readWith_4 : decode cX11_readWith 4 = .ok (.ifCond .ne 5, 3) := by decide +kernel
theorem dX11_readWith_7 : decode cX11_readWith 7 = .ok (.iconst (-1), 1) := by decide +kernel
theorem dX11_readWith_8 : decode cX11_readWith 8 = .ok (.ireturn, 1) := by decide +kernel
theorem dX11_readWith_9 : decode cX11_readWith 9 = .ok (.aload_n 0, 1) := by decide +kernel
theorem dX11_readWith_10 : decode cX11_readWith 10 = .ok (.bipush 60, 2) := by decide +kernel
theorem dX11_readWith_12 : decode cX11_readWith 12 = .ok (.invokevirtual 298, 3) := by decide +kernel
theorem dX11_readWith_15 : decode cX11_readWith 15 = .ok (.aload_n 0, 1) := by decide +kernel
theorem dX11_readWith_16 : decode cX11_readWith 16 = .ok (.getfield 47, 3) := by decide +kernel
theorem dX11_readWith_19 : decode cX11_readWith 19 = .ok (.iload_n 1, 1) := by decide +kernel
theorem dX11_readWith_20 : decode cX11_readWith 20 = .ok (.invokevirtual 301, 3) := by decide +kernel
theorem dX11_readWith_23 : decode cX11_readWith 23 = .ok (.ireturn, 1) := by decide +kernel
set_option maxRecDepth 100000 in
theorem okm_X11_readWith : okL RX11 cX11_readWith 2 (some .int) "readWith" pcX11_readWith opX11_readWith pcX11_readWith := by
  unfold opX11_readWith
  refine okL_cons (ok_iload_n rfl dX11_readWith_0) rfl ?_
  refine okL_cons (ok_invS (M' := 160) kw_553 kw_88 kw_79 kw_89 rfl (by decide +kernel) dX11_readWith_1) rfl ?_
  refine okL_cons (ok_if_ne rfl dX11_readWith_4) rfl ?_
  refine okL_cons (ok_iconst rfl dX11_readWith_7) rfl ?_
  refine okL_cons (ok_ireturn rfl dX11_readWith_8) rfl ?_
  refine okL_cons (ok_aload_n rfl dX11_readWith_9) rfl ?_
  refine okL_cons (ok_bipush rfl dX11_readWith_10) rfl ?_
  refine okL_cons (ok_invV (M' := 130) kw_554 kw_555 kw_556 kw_79 kw_557 cf_X11 rfl (by decide +kernel) dX11_readWith_12) rfl ?_
  refine okL_cons (ok_aload_n rfl dX11_readWith_15) rfl ?_
  refine okL_cons (ok_getP kw_410 cf_X11 rfl rfl (by decide) dX11_readWith_16) rfl ?_
  refine okL_cons (ok_iload_n rfl dX11_readWith_19) rfl ?_
  refine okL_cons (ok_invV (M' := 21) kw_558 kw_559 kw_560 kw_47 kw_561 cf_X2 rfl (by decide +kernel) dX11_readWith_20) rfl ?_
  exact okL_one (ok_ireturn rfl dX11_readWith_23)
theorem dX11_passOnPaper_0 : decode cX11_passOnPaper 0 = .ok (.aload_n 0, 1) := by decide +kernel
theorem dX11_passOnPaper_1 : decode cX11_passOnPaper 1 = .ok (.getfield 47, 3) := by decide +kernel
theorem dX11_passOnPaper_4 : decode cX11_passOnPaper 4 = .ok (.aload_n 0, 1) := by decide +kernel
theorem dX11_passOnPaper_5 : decode cX11_passOnPaper 5 = .ok (.getfield 20, 3) := by decide +kernel
theorem dX11_passOnPaper_8 : decode cX11_passOnPaper 8 = .ok (.invokevirtual 218, 3) := by decide +kernel
theorem dX11_passOnPaper_11 : decode cX11_passOnPaper 11 = .ok (.iconst 0, 1) := by decide +kernel
theorem dX11_passOnPaper_12 : decode cX11_passOnPaper 12 = .ok (.istore_n 2, 1) := by decide +kernel
theorem dX11_passOnPaper_13 : decode cX11_passOnPaper 13 = .ok (.iload_n 2, 1) := by decide +kernel
theorem dX11_passOnPaper_14 : decode cX11_passOnPaper 14 = .ok (.iload_n 1, 1) := by decide +kernel
theorem dX11_passOnPaper_15 : decode cX11_passOnPaper 15 = .ok (.if_icmp .ge 21, 3) := by decide +kernel
theorem dX11_passOnPaper_18 : decode cX11_passOnPaper 18 = .ok (.aload_n 0, 1) := by decide +kernel
theorem dX11_passOnPaper_19 : decode cX11_passOnPaper 19 = .ok (.getfield 92, 3) := by decide +kernel
theorem dX11_passOnPaper_22 : decode cX11_passOnPaper 22 = .ok (.aload_n 0, 1) := by decide +kernel
theorem dX11_passOnPaper_23 : decode cX11_passOnPaper 23 = .ok (.getfield 47, 3) := by decide +kernel
theorem dX11_passOnPaper_26 : decode cX11_passOnPaper 26 = .ok (.invokevirtual 284, 3) := by decide +kernel
theorem dX11_passOnPaper_29 : decode cX11_passOnPaper 29 = .ok (.pop, 1) := by decide +kernel
theorem dX11_passOnPaper_30 : decode cX11_passOnPaper 30 = .ok (.iinc 2 1, 3) := by decide +kernel
theorem dX11_passOnPaper_33 : decode cX11_passOnPaper 33 = .ok (.goto (-20), 3) := by decide +kernel
theorem dX11_passOnPaper_36 : decode cX11_passOnPaper 36 = .ok (.return_, 1) := by decide +kernel
set_option maxRecDepth 100000 in
theorem okm_X11_passOnPaper : okL RX11 cX11_passOnPaper 3 none "passOnPaper" pcX11_passOnPaper opX11_passOnPaper pcX11_passOnPaper := by
  unfold opX11_passOnPaper
  refine okL_cons (ok_aload_n rfl dX11_passOnPaper_0) rfl ?_
  refine okL_cons (ok_getP kw_410 cf_X11 rfl rfl (by decide) dX11_passOnPaper_1) rfl ?_
  refine okL_cons (ok_aload_n rfl dX11_passOnPaper_4) rfl ?_
  refine okL_cons (ok_getP kw_395 cf_X11 rfl rfl (by decide) dX11_passOnPaper_5) rfl ?_
  refine okL_cons (ok_invV (M' := 17) kw_501 kw_63 kw_64 kw_47 kw_65 cf_X2 rfl (by decide +kernel) dX11_passOnPaper_8) rfl ?_
  refine okL_cons (ok_iconst rfl dX11_passOnPaper_11) rfl ?_
  refine okL_cons (ok_istore_n rfl dX11_passOnPaper_12) rfl ?_
  refine okL_cons (ok_iload_n rfl dX11_passOnPaper_13) rfl ?_
  refine okL_cons (ok_iload_n rfl dX11_passOnPaper_14) rfl ?_
  refine okL_cons (ok_icmp_ge rfl dX11_passOnPaper_15) rfl ?_
  refine okL_cons (ok_aload_n rfl dX11_passOnPaper_18) rfl ?_
  refine okL_cons (ok_getP kw_436 cf_X11 rfl rfl (by decide) dX11_passOnPaper_19) rfl ?_
  refine okL_cons (ok_aload_n rfl dX11_passOnPaper_22) rfl ?_
  refine okL_cons (ok_getP kw_410 cf_X11 rfl rfl (by decide) dX11_passOnPaper_23) rfl ?_
  refine okL_cons (ok_invV (M' := 64) kw_541 kw_542 kw_543 kw_252 kw_544 cf_X6 rfl (by decide +kernel) dX11_passOnPaper_26) rfl ?_
  refine okL_cons (ok_pop dX11_passOnPaper_29) rfl ?_
  refine okL_cons (ok_iinc rfl dX11_passOnPaper_30) rfl ?_
  refine okL_cons (ok_goto rfl dX11_passOnPaper_33) rfl ?_
  exact okL_one (ok_return rfl dX11_passOnPaper_36)
theorem dX11_traceRuns_0 : decode cX11_traceRuns 0 = .ok (.aload_n 0, 1) := by decide +kernel
theorem dX11_traceRuns_1 : decode cX11_traceRuns 1 = .ok (.getfield 92, 3) := by decide +kernel
theorem dX11_traceRuns_4 : decode cX11_traceRuns 4 = .ok (.aload_n 0, 1) := by decide +kernel
theorem dX11_traceRuns_5 : decode cX11_traceRuns 5 = .ok (.getfield 20, 3) := by decide +kernel
theorem dX11_traceRuns_8 : decode cX11_traceRuns 8 = .ok (.aload_n 0, 1) := by decide +kernel
theorem dX11_traceRuns_9 : decode cX11_traceRuns 9 = .ok (.getfield 12, 3) := by decide +kernel
theorem dX11_traceRuns_12 : decode cX11_traceRuns 12 = .ok (.getfield 125, 3) := by decide +kernel
theorem dX11_traceRuns_15 : decode cX11_traceRuns 15 = .ok (.invokevirtual 129, 3) := by decide +kernel
theorem dX11_traceRuns_18 : decode cX11_traceRuns 18 = .ok (.aload_n 0, 1) := by decide +kernel
theorem dX11_traceRuns_19 : decode cX11_traceRuns 19 = .ok (.getfield 99, 3) := by decide +kernel
theorem dX11_traceRuns_22 : decode cX11_traceRuns 22 = .ok (.aload_n 0, 1) := by decide +kernel
theorem dX11_traceRuns_23 : decode cX11_traceRuns 23 = .ok (.getfield 92, 3) := by decide +kernel
theorem dX11_traceRuns_26 : decode cX11_traceRuns 26 = .ok (.aload_n 0, 1) := by decide +kernel
theorem dX11_traceRuns_27 : decode cX11_traceRuns 27 = .ok (.getfield 12, 3) := by decide +kernel
theorem dX11_traceRuns_30 : decode cX11_traceRuns 30 = .ok (.getfield 304, 3) := by decide +kernel
theorem dX11_traceRuns_33 : decode cX11_traceRuns 33 = .ok (.invokevirtual 307, 3) := by decide +kernel
theorem dX11_traceRuns_36 : decode cX11_traceRuns 36 = .ok (.return_, 1) := by decide +kernel
set_option maxRecDepth 100000 in
theorem okm_X11_traceRuns : okL RX11 cX11_traceRuns 1 none "traceRuns" pcX11_traceRuns opX11_traceRuns pcX11_traceRuns := by
  unfold opX11_traceRuns
  refine okL_cons (ok_aload_n rfl dX11_traceRuns_0) rfl ?_
  refine okL_cons (ok_getP kw_436 cf_X11 rfl rfl (by decide) dX11_traceRuns_1) rfl ?_
  refine okL_cons (ok_aload_n rfl dX11_traceRuns_4) rfl ?_
  refine okL_cons (ok_getP kw_395 cf_X11 rfl rfl (by decide) dX11_traceRuns_5) rfl ?_
  refine okL_cons (ok_aload_n rfl dX11_traceRuns_8) rfl ?_
  refine okL_cons (ok_getP kw_394 cf_X11 rfl rfl (by decide) dX11_traceRuns_9) rfl ?_
  refine okL_cons (ok_getNI 45 cf_X1 rfl rfl rfl (by decide) dX11_traceRuns_12) rfl ?_
  refine okL_cons (ok_invV (M' := 57) kw_455 kw_278 kw_279 kw_252 kw_280 cf_X6 rfl (by decide +kernel) dX11_traceRuns_15) rfl ?_
  refine okL_cons (ok_aload_n rfl dX11_traceRuns_18) rfl ?_
  refine okL_cons (ok_getP kw_441 cf_X11 rfl rfl (by decide) dX11_traceRuns_19) rfl ?_
  refine okL_cons (ok_aload_n rfl dX11_traceRuns_22) rfl ?_
  refine okL_cons (ok_getP kw_436 cf_X11 rfl rfl (by decide) dX11_traceRuns_23) rfl ?_
  refine okL_cons (ok_aload_n rfl dX11_traceRuns_26) rfl ?_
  refine okL_cons (ok_getP kw_394 cf_X11 rfl rfl (by decide) dX11_traceRuns_27) rfl ?_
  refine okL_cons (ok_getNI 30 cf_X1 rfl rfl rfl (by decide) dX11_traceRuns_30) rfl ?_
  refine okL_cons (ok_invV (M' := 66) kw_562 kw_563 kw_564 kw_292 kw_565 cf_X7 rfl (by decide +kernel) dX11_traceRuns_33) rfl ?_
  exact okL_one (ok_return rfl dX11_traceRuns_36)
theorem dX11_run_0 : decode cX11_run 0 = .ok (.iload_n 1, 1) := by decide +kernel
theorem dX11_run_1 : decode cX11_run 1 = .ok (.invokestatic 121, 3) := by decide +kernel
theorem dX11_run_4 : decode cX11_run 4 = .ok (.ifCond .eq 8, 3) := by decide +kernel
theorem dX11_run_7 : decode cX11_run 7 = .ok (.iload_n 2, 1) := by decide +kernel
theorem dX11_run_8 : decode cX11_run 8 = .ok (.iconst (-1), 1) := by decide +kernel
theorem dX11_run_9 : decode cX11_run 9 = .ok (.if_icmp .ge 5, 3) := by decide +kernel
theorem dX11_run_12 : decode cX11_run 12 = .ok (.iconst (-1), 1) := by decide +kernel
theorem dX11_run_13 : decode cX11_run 13 = .ok (.ireturn, 1) := by decide +kernel
theorem dX11_run_14 : decode cX11_run 14 = .ok (.aload_n 0, 1) := by decide +kernel
theorem dX11_run_15 : decode cX11_run 15 = .ok (.invokevirtual 311, 3) := by decide +kernel
theorem dX11_run_18 : decode cX11_run 18 = .ok (.iload_n 2, 1) := by decide +kernel
theorem dX11_run_19 : decode cX11_run 19 = .ok (.iconst (-1), 1) := by decide +kernel
theorem dX11_run_20 : decode cX11_run 20 = .ok (.if_icmp .ne 15, 3) := by decide +kernel
theorem dX11_run_23 : decode cX11_run 23 = .ok (.aload_n 0, 1) := by decide +kernel
theorem dX11_run_24 : decode cX11_run 24 = .ok (.getfield 99, 3) := by decide +kernel
theorem dX11_run_27 : decode cX11_run 27 = .ok (.getfield 314, 3) := by decide +kernel
theorem dX11_run_30 : decode cX11_run 30 = .ok (.iload_n 1, 1) := by decide +kernel
theorem dX11_run_31 : decode cX11_run 31 = .ok (.iaload, 1) := by decide +kernel
theorem dX11_run_32 : decode cX11_run 32 = .ok (.goto 12, 3) := by decide +kernel
theorem dX11_run_35 : decode cX11_run 35 = .ok (.aload_n 0, 1) := by decide +kernel
theorem dX11_run_36 : decode cX11_run 36 = .ok (.getfield 99, 3) := by decide +kernel
theorem dX11_run_39 : decode cX11_run 39 = .ok (.iload_n 1, 1) := by decide +kernel
theorem dX11_run_40 : decode cX11_run 40 = .ok (.iload_n 2, 1) := by decide +kernel
theorem dX11_run_41 : decode cX11_run 41 = .ok (.invokevirtual 317, 3) := by decide +kernel
theorem dX11_run_44 : decode cX11_run 44 = .ok (.ireturn, 1) := by decide +kernel
set_option maxRecDepth 100000 in
theorem okm_X11_run : okL RX11 cX11_run 3 (some .int) "run" pcX11_run opX11_run pcX11_run := by
  unfold opX11_run
  refine okL_cons (ok_iload_n rfl dX11_run_0) rfl ?_
  refine okL_cons (ok_invS (M' := 159) kw_454 kw_90 kw_79 kw_91 rfl (by decide +kernel) dX11_run_1) rfl ?_
  refine okL_cons (ok_if_eq rfl dX11_run_4) rfl ?_
  refine okL_cons (ok_iload_n rfl dX11_run_7) rfl ?_
  refine okL_cons (ok_iconst rfl dX11_run_8) rfl ?_
  refine okL_cons (ok_icmp_ge rfl dX11_run_9) rfl ?_
  refine okL_cons (ok_iconst rfl dX11_run_12) rfl ?_
  refine okL_cons (ok_ireturn rfl dX11_run_13) rfl ?_
  refine okL_cons (ok_aload_n rfl dX11_run_14) rfl ?_
  refine okL_cons (ok_invV (M' := 131) kw_566 kw_567 kw_568 kw_79 kw_569 cf_X11 rfl (by decide +kernel) dX11_run_15) rfl ?_
  refine okL_cons (ok_iload_n rfl dX11_run_18) rfl ?_
  refine okL_cons (ok_iconst rfl dX11_run_19) rfl ?_
  refine okL_cons (ok_icmp_ne rfl dX11_run_20) rfl ?_
  refine okL_cons (ok_aload_n rfl dX11_run_23) rfl ?_
  refine okL_cons (ok_getP kw_441 cf_X11 rfl rfl (by decide) dX11_run_24) rfl ?_
  refine okL_cons (ok_getNP 53 cf_X7 rfl rfl rfl (by decide) dX11_run_27) rfl ?_
  refine okL_cons (ok_iload_n rfl dX11_run_30) rfl ?_
  refine okL_cons (ok_iaload dX11_run_31) rfl ?_
  refine okL_cons (ok_goto rfl dX11_run_32) rfl ?_
  refine okL_cons (ok_aload_n rfl dX11_run_35) rfl ?_
  refine okL_cons (ok_getP kw_441 cf_X11 rfl rfl (by decide) dX11_run_36) rfl ?_
  refine okL_cons (ok_iload_n rfl dX11_run_39) rfl ?_
  refine okL_cons (ok_iload_n rfl dX11_run_40) rfl ?_
  refine okL_cons (ok_invV (M' := 67) kw_570 kw_290 kw_291 kw_292 kw_293 cf_X7 rfl (by decide +kernel) dX11_run_41) rfl ?_
  exact okL_one (ok_ireturn rfl dX11_run_44)
theorem dX11_basin_0 : decode cX11_basin 0 = .ok (.iload_n 1, 1) := by decide +kernel
theorem dX11_basin_1 : decode cX11_basin 1 = .ok (.invokestatic 121, 3) := by decide +kernel
theorem dX11_basin_4 : decode cX11_basin 4 = .ok (.ifCond .ne 5, 3) := by decide +kernel
theorem dX11_basin_7 : decode cX11_basin 7 = .ok (.iconst (-1), 1) := by decide +kernel
theorem dX11_basin_8 : decode cX11_basin 8 = .ok (.ireturn, 1) := by decide +kernel
theorem dX11_basin_9 : decode cX11_basin 9 = .ok (.aload_n 0, 1) := by decide +kernel
theorem dX11_basin_10 : decode cX11_basin 10 = .ok (.invokevirtual 311, 3) := by decide +kernel
theorem dX11_basin_13 : decode cX11_basin 13 = .ok (.aload_n 0, 1) := by decide +kernel
theorem dX11_basin_14 : decode cX11_basin 14 = .ok (.getfield 99, 3) := by decide +kernel
theorem dX11_basin_17 : decode cX11_basin 17 = .ok (.iload_n 1, 1) := by decide +kernel
theorem dX11_basin_18 : decode cX11_basin 18 = .ok (.invokevirtual 320, 3) := by decide +kernel
theorem dX11_basin_21 : decode cX11_basin 21 = .ok (.ireturn, 1) := by decide +kernel
set_option maxRecDepth 100000 in
theorem okm_X11_basin : okL RX11 cX11_basin 2 (some .int) "basin" pcX11_basin opX11_basin pcX11_basin := by
  unfold opX11_basin
  refine okL_cons (ok_iload_n rfl dX11_basin_0) rfl ?_
  refine okL_cons (ok_invS (M' := 159) kw_454 kw_90 kw_79 kw_91 rfl (by decide +kernel) dX11_basin_1) rfl ?_
  refine okL_cons (ok_if_ne rfl dX11_basin_4) rfl ?_
  refine okL_cons (ok_iconst rfl dX11_basin_7) rfl ?_
  refine okL_cons (ok_ireturn rfl dX11_basin_8) rfl ?_
  refine okL_cons (ok_aload_n rfl dX11_basin_9) rfl ?_
  refine okL_cons (ok_invV (M' := 131) kw_566 kw_567 kw_568 kw_79 kw_569 cf_X11 rfl (by decide +kernel) dX11_basin_10) rfl ?_
  refine okL_cons (ok_aload_n rfl dX11_basin_13) rfl ?_
  refine okL_cons (ok_getP kw_441 cf_X11 rfl rfl (by decide) dX11_basin_14) rfl ?_
  refine okL_cons (ok_iload_n rfl dX11_basin_17) rfl ?_
  refine okL_cons (ok_invV (M' := 69) kw_571 kw_572 kw_573 kw_292 kw_574 cf_X7 rfl (by decide +kernel) dX11_basin_18) rfl ?_
  exact okL_one (ok_ireturn rfl dX11_basin_21)
theorem dX11_meeting_0 : decode cX11_meeting 0 = .ok (.iload_n 1, 1) := by decide +kernel
theorem dX11_meeting_1 : decode cX11_meeting 1 = .ok (.invokestatic 121, 3) := by decide +kernel
theorem dX11_meeting_4 : decode cX11_meeting 4 = .ok (.ifCond .eq 10, 3) := by decide +kernel
theorem dX11_meeting_7 : decode cX11_meeting 7 = .ok (.iload_n 2, 1) := by decide +kernel
theorem dX11_meeting_8 : decode cX11_meeting 8 = .ok (.invokestatic 121, 3) := by decide +kernel
theorem dX11_meeting_11 : decode cX11_meeting 11 = .ok (.ifCond .ne 5, 3) := by decide +kernel
theorem dX11_meeting_14 : decode cX11_meeting 14 = .ok (.iconst (-1), 1) := by decide +kernel
theorem dX11_meeting_15 : decode cX11_meeting 15 = .ok (.ireturn, 1) := by decide +kernel
theorem dX11_meeting_16 : decode cX11_meeting 16 = .ok (.aload_n 0, 1) := by decide +kernel
theorem dX11_meeting_17 : decode cX11_meeting 17 = .ok (.invokevirtual 311, 3) := by decide +kernel
theorem dX11_meeting_20 : decode cX11_meeting 20 = .ok (.aload_n 0, 1) := by decide +kernel
theorem dX11_meeting_21 : decode cX11_meeting 21 = .ok (.getfield 99, 3) := by decide +kernel
theorem dX11_meeting_24 : decode cX11_meeting 24 = .ok (.iload_n 1, 1) := by decide +kernel
theorem dX11_meeting_25 : decode cX11_meeting 25 = .ok (.iload_n 2, 1) := by decide +kernel
theorem dX11_meeting_26 : decode cX11_meeting 26 = .ok (.invokevirtual 323, 3) := by decide +kernel
theorem dX11_meeting_29 : decode cX11_meeting 29 = .ok (.ireturn, 1) := by decide +kernel
set_option maxRecDepth 100000 in
theorem okm_X11_meeting : okL RX11 cX11_meeting 3 (some .int) "meeting" pcX11_meeting opX11_meeting pcX11_meeting := by
  unfold opX11_meeting
  refine okL_cons (ok_iload_n rfl dX11_meeting_0) rfl ?_
  refine okL_cons (ok_invS (M' := 159) kw_454 kw_90 kw_79 kw_91 rfl (by decide +kernel) dX11_meeting_1) rfl ?_
  refine okL_cons (ok_if_eq rfl dX11_meeting_4) rfl ?_
  refine okL_cons (ok_iload_n rfl dX11_meeting_7) rfl ?_
  refine okL_cons (ok_invS (M' := 159) kw_454 kw_90 kw_79 kw_91 rfl (by decide +kernel) dX11_meeting_8) rfl ?_
  refine okL_cons (ok_if_ne rfl dX11_meeting_11) rfl ?_
  refine okL_cons (ok_iconst rfl dX11_meeting_14) rfl ?_
  refine okL_cons (ok_ireturn rfl dX11_meeting_15) rfl ?_
  refine okL_cons (ok_aload_n rfl dX11_meeting_16) rfl ?_
  refine okL_cons (ok_invV (M' := 131) kw_566 kw_567 kw_568 kw_79 kw_569 cf_X11 rfl (by decide +kernel) dX11_meeting_17) rfl ?_
  refine okL_cons (ok_aload_n rfl dX11_meeting_20) rfl ?_
  refine okL_cons (ok_getP kw_441 cf_X11 rfl rfl (by decide) dX11_meeting_21) rfl ?_
  refine okL_cons (ok_iload_n rfl dX11_meeting_24) rfl ?_
  refine okL_cons (ok_iload_n rfl dX11_meeting_25) rfl ?_
  refine okL_cons (ok_invV (M' := 71) kw_575 kw_576 kw_577 kw_292 kw_578 cf_X7 rfl (by decide +kernel) dX11_meeting_26) rfl ?_
  exact okL_one (ok_ireturn rfl dX11_meeting_29)
theorem dX11_delay_0 : decode cX11_delay 0 = .ok (.iload_n 1, 1) := by decide +kernel
theorem dX11_delay_1 : decode cX11_delay 1 = .ok (.invokestatic 121, 3) := by decide +kernel
theorem dX11_delay_4 : decode cX11_delay 4 = .ok (.ifCond .eq 10, 3) := by decide +kernel
theorem dX11_delay_7 : decode cX11_delay 7 = .ok (.iload_n 2, 1) := by decide +kernel
theorem dX11_delay_8 : decode cX11_delay 8 = .ok (.invokestatic 121, 3) := by decide +kernel
theorem dX11_delay_11 : decode cX11_delay 11 = .ok (.ifCond .ne 5, 3) := by decide +kernel
theorem dX11_delay_14 : decode cX11_delay 14 = .ok (.iconst (-1), 1) := by decide +kernel
theorem dX11_delay_15 : decode cX11_delay 15 = .ok (.ireturn, 1) := by decide +kernel
theorem dX11_delay_16 : decode cX11_delay 16 = .ok (.aload_n 0, 1) := by decide +kernel
theorem dX11_delay_17 : decode cX11_delay 17 = .ok (.invokevirtual 311, 3) := by decide +kernel
theorem dX11_delay_20 : decode cX11_delay 20 = .ok (.iconst 0, 1) := by decide +kernel
theorem dX11_delay_21 : decode cX11_delay 21 = .ok (.istore_n 3, 1) := by decide +kernel
theorem dX11_delay_22 : decode cX11_delay 22 = .ok (.iload_n 3, 1) := by decide +kernel
theorem dX11_delay_23 : decode cX11_delay 23 = .ok (.bipush 30, 2) := by decide +kernel
theorem dX11_delay_25 : decode cX11_delay 25 = .ok (.if_icmp .gt 24, 3) := by decide +kernel
theorem dX11_delay_28 : decode cX11_delay 28 = .ok (.aload_n 0, 1) := by decide +kernel
theorem dX11_delay_29 : decode cX11_delay 29 = .ok (.getfield 99, 3) := by decide +kernel
theorem dX11_delay_32 : decode cX11_delay 32 = .ok (.iload_n 1, 1) := by decide +kernel
theorem dX11_delay_33 : decode cX11_delay 33 = .ok (.iload_n 2, 1) := by decide +kernel
theorem dX11_delay_34 : decode cX11_delay 34 = .ok (.iload_n 3, 1) := by decide +kernel
theorem dX11_delay_35 : decode cX11_delay 35 = .ok (.invokevirtual 326, 3) := by decide +kernel
theorem dX11_delay_38 : decode cX11_delay 38 = .ok (.ifCond .ne 5, 3) := by decide +kernel
theorem dX11_delay_41 : decode cX11_delay 41 = .ok (.iload_n 3, 1) := by decide +kernel
theorem dX11_delay_42 : decode cX11_delay 42 = .ok (.ireturn, 1) := by decide +kernel
theorem dX11_delay_43 : decode cX11_delay 43 = .ok (.iinc 3 1, 3) := by decide +kernel
theorem dX11_delay_46 : decode cX11_delay 46 = .ok (.goto (-24), 3) := by decide +kernel
theorem dX11_delay_49 : decode cX11_delay 49 = .ok (.iconst (-1), 1) := by decide +kernel
theorem dX11_delay_50 : decode cX11_delay 50 = .ok (.ireturn, 1) := by decide +kernel
set_option maxRecDepth 100000 in
theorem okm_X11_delay : okL RX11 cX11_delay 4 (some .int) "delay" pcX11_delay opX11_delay pcX11_delay := by
  unfold opX11_delay
  refine okL_cons (ok_iload_n rfl dX11_delay_0) rfl ?_
  refine okL_cons (ok_invS (M' := 159) kw_454 kw_90 kw_79 kw_91 rfl (by decide +kernel) dX11_delay_1) rfl ?_
  refine okL_cons (ok_if_eq rfl dX11_delay_4) rfl ?_
  refine okL_cons (ok_iload_n rfl dX11_delay_7) rfl ?_
  refine okL_cons (ok_invS (M' := 159) kw_454 kw_90 kw_79 kw_91 rfl (by decide +kernel) dX11_delay_8) rfl ?_
  refine okL_cons (ok_if_ne rfl dX11_delay_11) rfl ?_
  refine okL_cons (ok_iconst rfl dX11_delay_14) rfl ?_
  refine okL_cons (ok_ireturn rfl dX11_delay_15) rfl ?_
  refine okL_cons (ok_aload_n rfl dX11_delay_16) rfl ?_
  refine okL_cons (ok_invV (M' := 131) kw_566 kw_567 kw_568 kw_79 kw_569 cf_X11 rfl (by decide +kernel) dX11_delay_17) rfl ?_
  refine okL_cons (ok_iconst rfl dX11_delay_20) rfl ?_
  refine okL_cons (ok_istore_n rfl dX11_delay_21) rfl ?_
  refine okL_cons (ok_iload_n rfl dX11_delay_22) rfl ?_
  refine okL_cons (ok_bipush rfl dX11_delay_23) rfl ?_
  refine okL_cons (ok_icmp_gt rfl dX11_delay_25) rfl ?_
  refine okL_cons (ok_aload_n rfl dX11_delay_28) rfl ?_
  refine okL_cons (ok_getP kw_441 cf_X11 rfl rfl (by decide) dX11_delay_29) rfl ?_
  refine okL_cons (ok_iload_n rfl dX11_delay_32) rfl ?_
  refine okL_cons (ok_iload_n rfl dX11_delay_33) rfl ?_
  refine okL_cons (ok_iload_n rfl dX11_delay_34) rfl ?_
  refine okL_cons (ok_invV (M' := 72) kw_579 kw_308 kw_309 kw_292 kw_310 cf_X7 rfl (by decide +kernel) dX11_delay_35) rfl ?_
  refine okL_cons (ok_if_ne rfl dX11_delay_38) rfl ?_
  refine okL_cons (ok_iload_n rfl dX11_delay_41) rfl ?_
  refine okL_cons (ok_ireturn rfl dX11_delay_42) rfl ?_
  refine okL_cons (ok_iinc rfl dX11_delay_43) rfl ?_
  refine okL_cons (ok_goto rfl dX11_delay_46) rfl ?_
  refine okL_cons (ok_iconst rfl dX11_delay_49) rfl ?_
  exact okL_one (ok_ireturn rfl dX11_delay_50)
theorem dX11_apart_0 : decode cX11_apart 0 = .ok (.iload_n 1, 1) := by decide +kernel
theorem dX11_apart_1 : decode cX11_apart 1 = .ok (.ifCond .lt 15, 3) := by decide +kernel
theorem dX11_apart_4 : decode cX11_apart 4 = .ok (.iload_n 1, 1) := by decide +kernel
theorem dX11_apart_5 : decode cX11_apart 5 = .ok (.ldc_w 330, 3) := by decide +kernel
theorem dX11_apart_8 : decode cX11_apart 8 = .ok (.if_icmp .gt 8, 3) := by decide +kernel
theorem dX11_apart_11 : decode cX11_apart 11 = .ok (.iload_n 2, 1) := by decide +kernel
theorem dX11_apart_12 : decode cX11_apart 12 = .ok (.iconst (-1), 1) := by decide +kernel
theorem dX11_apart_13 : decode cX11_apart 13 = .ok (.if_icmp .ge 5, 3) := by decide +kernel
theorem dX11_apart_16 : decode cX11_apart 16 = .ok (.iconst (-1), 1) := by decide +kernel
theorem dX11_apart_17 : decode cX11_apart 17 = .ok (.ireturn, 1) := by decide +kernel
theorem dX11_apart_18 : decode cX11_apart 18 = .ok (.iload_n 1, 1) := by decide +kernel
theorem dX11_apart_19 : decode cX11_apart 19 = .ok (.invokestatic 331, 3) := by decide +kernel
theorem dX11_apart_22 : decode cX11_apart 22 = .ok (.istore_n 3, 1) := by decide +kernel
theorem dX11_apart_23 : decode cX11_apart 23 = .ok (.iload_n 3, 1) := by decide +kernel
theorem dX11_apart_24 : decode cX11_apart 24 = .ok (.bipush 8, 2) := by decide +kernel
theorem dX11_apart_26 : decode cX11_apart 26 = .ok (.if_icmp .gt 8, 3) := by decide +kernel
theorem dX11_apart_29 : decode cX11_apart 29 = .ok (.iload_n 2, 1) := by decide +kernel
theorem dX11_apart_30 : decode cX11_apart 30 = .ok (.iload_n 3, 1) := by decide +kernel
theorem dX11_apart_31 : decode cX11_apart 31 = .ok (.if_icmp .lt 5, 3) := by decide +kernel
theorem dX11_apart_34 : decode cX11_apart 34 = .ok (.iconst (-1), 1) := by decide +kernel
theorem dX11_apart_35 : decode cX11_apart 35 = .ok (.ireturn, 1) := by decide +kernel
theorem dX11_apart_36 : decode cX11_apart 36 = .ok (.aload_n 0, 1) := by decide +kernel
theorem dX11_apart_37 : decode cX11_apart 37 = .ok (.invokevirtual 311, 3) := by decide +kernel
theorem dX11_apart_40 : decode cX11_apart 40 = .ok (.aload_n 0, 1) := by decide +kernel
theorem dX11_apart_41 : decode cX11_apart 41 = .ok (.getfield 99, 3) := by decide +kernel
theorem dX11_apart_44 : decode cX11_apart 44 = .ok (.iload_n 1, 1) := by decide +kernel
theorem dX11_apart_45 : decode cX11_apart 45 = .ok (.invokevirtual 336, 3) := by decide +kernel
theorem dX11_apart_48 : decode cX11_apart 48 = .ok (.istore 4, 2) := by decide +kernel
theorem dX11_apart_50 : decode cX11_apart 50 = .ok (.iload_n 2, 1) := by decide +kernel
theorem dX11_apart_51 : decode cX11_apart 51 = .ok (.iconst (-1), 1) := by decide +kernel
theorem dX11_apart_52 : decode cX11_apart 52 = .ok (.if_icmp .ne 8, 3) := by decide +kernel
theorem dX11_apart_55 : decode cX11_apart 55 = .ok (.iload 4, 2) := by decide +kernel
theorem dX11_apart_57 : decode cX11_apart 57 = .ok (.goto 12, 3) := by decide +kernel
theorem dX11_apart_60 : decode cX11_apart 60 = .ok (.aload_n 0, 1) := by decide +kernel
theorem dX11_apart_61 : decode cX11_apart 61 = .ok (.getfield 99, 3) := by decide +kernel
theorem dX11_apart_64 : decode cX11_apart 64 = .ok (.getfield 339, 3) := by decide +kernel
theorem dX11_apart_67 : decode cX11_apart 67 = .ok (.iload_n 2, 1) := by decide +kernel
theorem dX11_apart_68 : decode cX11_apart 68 = .ok (.iaload, 1) := by decide +kernel
theorem dX11_apart_69 : decode cX11_apart 69 = .ok (.ireturn, 1) := by decide +kernel
set_option maxRecDepth 100000 in
theorem okm_X11_apart : okL RX11 cX11_apart 5 (some .int) "apart" pcX11_apart opX11_apart pcX11_apart := by
  unfold opX11_apart
  refine okL_cons (ok_iload_n rfl dX11_apart_0) rfl ?_
  refine okL_cons (ok_if_lt rfl dX11_apart_1) rfl ?_
  refine okL_cons (ok_iload_n rfl dX11_apart_4) rfl ?_
  refine okL_cons (ok_ldc_w kw_580 dX11_apart_5) rfl ?_
  refine okL_cons (ok_icmp_gt rfl dX11_apart_8) rfl ?_
  refine okL_cons (ok_iload_n rfl dX11_apart_11) rfl ?_
  refine okL_cons (ok_iconst rfl dX11_apart_12) rfl ?_
  refine okL_cons (ok_icmp_ge rfl dX11_apart_13) rfl ?_
  refine okL_cons (ok_iconst rfl dX11_apart_16) rfl ?_
  refine okL_cons (ok_ireturn rfl dX11_apart_17) rfl ?_
  refine okL_cons (ok_iload_n rfl dX11_apart_18) rfl ?_
  refine okL_cons (ok_invS (M' := 8) kw_581 kw_99 kw_100 kw_101 rfl (by decide +kernel) dX11_apart_19) rfl ?_
  refine okL_cons (ok_istore_n rfl dX11_apart_22) rfl ?_
  refine okL_cons (ok_iload_n rfl dX11_apart_23) rfl ?_
  refine okL_cons (ok_bipush rfl dX11_apart_24) rfl ?_
  refine okL_cons (ok_icmp_gt rfl dX11_apart_26) rfl ?_
  refine okL_cons (ok_iload_n rfl dX11_apart_29) rfl ?_
  refine okL_cons (ok_iload_n rfl dX11_apart_30) rfl ?_
  refine okL_cons (ok_icmp_lt rfl dX11_apart_31) rfl ?_
  refine okL_cons (ok_iconst rfl dX11_apart_34) rfl ?_
  refine okL_cons (ok_ireturn rfl dX11_apart_35) rfl ?_
  refine okL_cons (ok_aload_n rfl dX11_apart_36) rfl ?_
  refine okL_cons (ok_invV (M' := 131) kw_566 kw_567 kw_568 kw_79 kw_569 cf_X11 rfl (by decide +kernel) dX11_apart_37) rfl ?_
  refine okL_cons (ok_aload_n rfl dX11_apart_40) rfl ?_
  refine okL_cons (ok_getP kw_441 cf_X11 rfl rfl (by decide) dX11_apart_41) rfl ?_
  refine okL_cons (ok_iload_n rfl dX11_apart_44) rfl ?_
  refine okL_cons (ok_invV (M' := 73) kw_582 kw_583 kw_584 kw_292 kw_585 cf_X7 rfl (by decide +kernel) dX11_apart_45) rfl ?_
  refine okL_cons (ok_istore dX11_apart_48) rfl ?_
  refine okL_cons (ok_iload_n rfl dX11_apart_50) rfl ?_
  refine okL_cons (ok_iconst rfl dX11_apart_51) rfl ?_
  refine okL_cons (ok_icmp_ne rfl dX11_apart_52) rfl ?_
  refine okL_cons (ok_iload dX11_apart_55) rfl ?_
  refine okL_cons (ok_goto rfl dX11_apart_57) rfl ?_
  refine okL_cons (ok_aload_n rfl dX11_apart_60) rfl ?_
  refine okL_cons (ok_getP kw_441 cf_X11 rfl rfl (by decide) dX11_apart_61) rfl ?_
  refine okL_cons (ok_getNP 54 cf_X7 rfl rfl rfl (by decide) dX11_apart_64) rfl ?_
  refine okL_cons (ok_iload_n rfl dX11_apart_67) rfl ?_
  refine okL_cons (ok_iaload dX11_apart_68) rfl ?_
  exact okL_one (ok_ireturn rfl dX11_apart_69)
theorem dX11_kerbs_0 : decode cX11_kerbs 0 = .ok (.iload_n 1, 1) := by decide +kernel
theorem dX11_kerbs_1 : decode cX11_kerbs 1 = .ok (.invokestatic 121, 3) := by decide +kernel
theorem dX11_kerbs_4 : decode cX11_kerbs 4 = .ok (.ifCond .eq 30, 3) := by decide +kernel
theorem dX11_kerbs_7 : decode cX11_kerbs 7 = .ok (.iload_n 2, 1) := by decide +kernel
theorem dX11_kerbs_8 : decode cX11_kerbs 8 = .ok (.invokestatic 121, 3) := by decide +kernel
theorem dX11_kerbs_11 : decode cX11_kerbs 11 = .ok (.ifCond .eq 23, 3) := by decide +kernel
theorem dX11_kerbs_14 : decode cX11_kerbs 14 = .ok (.iload_n 3, 1) := by decide +kernel
theorem dX11_kerbs_15 : decode cX11_kerbs 15 = .ok (.ifCond .lt 19, 3) := by decide +kernel
theorem dX11_kerbs_18 : decode cX11_kerbs 18 = .ok (.iload_n 3, 1) := by decide +kernel
theorem dX11_kerbs_19 : decode cX11_kerbs 19 = .ok (.iconst 1, 1) := by decide +kernel
theorem dX11_kerbs_20 : decode cX11_kerbs 20 = .ok (.if_icmp .gt 14, 3) := by decide +kernel
theorem dX11_kerbs_23 : decode cX11_kerbs 23 = .ok (.aload_n 0, 1) := by decide +kernel
theorem dX11_kerbs_24 : decode cX11_kerbs 24 = .ok (.getfield 12, 3) := by decide +kernel
theorem dX11_kerbs_27 : decode cX11_kerbs 27 = .ok (.iload_n 2, 1) := by decide +kernel
theorem dX11_kerbs_28 : decode cX11_kerbs 28 = .ok (.invokevirtual 136, 3) := by decide +kernel
theorem dX11_kerbs_31 : decode cX11_kerbs 31 = .ok (.ifCond .ne 5, 3) := by decide +kernel
theorem dX11_kerbs_34 : decode cX11_kerbs 34 = .ok (.iconst (-1), 1) := by decide +kernel
theorem dX11_kerbs_35 : decode cX11_kerbs 35 = .ok (.ireturn, 1) := by decide +kernel
theorem dX11_kerbs_36 : decode cX11_kerbs 36 = .ok (.aload_n 0, 1) := by decide +kernel
theorem dX11_kerbs_37 : decode cX11_kerbs 37 = .ok (.getfield 92, 3) := by decide +kernel
theorem dX11_kerbs_40 : decode cX11_kerbs 40 = .ok (.aload_n 0, 1) := by decide +kernel
theorem dX11_kerbs_41 : decode cX11_kerbs 41 = .ok (.getfield 20, 3) := by decide +kernel
theorem dX11_kerbs_44 : decode cX11_kerbs 44 = .ok (.aload_n 0, 1) := by decide +kernel
theorem dX11_kerbs_45 : decode cX11_kerbs 45 = .ok (.getfield 12, 3) := by decide +kernel
theorem dX11_kerbs_48 : decode cX11_kerbs 48 = .ok (.getfield 125, 3) := by decide +kernel
theorem dX11_kerbs_51 : decode cX11_kerbs 51 = .ok (.invokevirtual 129, 3) := by decide +kernel
theorem dX11_kerbs_54 : decode cX11_kerbs 54 = .ok (.aload_n 0, 1) := by decide +kernel
theorem dX11_kerbs_55 : decode cX11_kerbs 55 = .ok (.iload_n 1, 1) := by decide +kernel
theorem dX11_kerbs_56 : decode cX11_kerbs 56 = .ok (.iload_n 2, 1) := by decide +kernel
theorem dX11_kerbs_57 : decode cX11_kerbs 57 = .ok (.invokevirtual 342, 3) := by decide +kernel
theorem dX11_kerbs_60 : decode cX11_kerbs 60 = .ok (.istore 4, 2) := by decide +kernel
theorem dX11_kerbs_62 : decode cX11_kerbs 62 = .ok (.iload_n 3, 1) := by decide +kernel
theorem dX11_kerbs_63 : decode cX11_kerbs 63 = .ok (.iconst 1, 1) := by decide +kernel
theorem dX11_kerbs_64 : decode cX11_kerbs 64 = .ok (.if_icmp .eq 9, 3) := by decide +kernel
theorem dX11_kerbs_67 : decode cX11_kerbs 67 = .ok (.iload 4, 2) := by decide +kernel
theorem dX11_kerbs_69 : decode cX11_kerbs 69 = .ok (.iconst (-1), 1) := by decide +kernel
theorem dX11_kerbs_70 : decode cX11_kerbs 70 = .ok (.if_icmp .ne 8, 3) := by decide +kernel
theorem dX11_kerbs_73 : decode cX11_kerbs 73 = .ok (.iload 4, 2) := by decide +kernel
theorem dX11_kerbs_75 : decode cX11_kerbs 75 = .ok (.goto 8, 3) := by decide +kernel
theorem dX11_kerbs_78 : decode cX11_kerbs 78 = .ok (.iload 4, 2) := by decide +kernel
theorem dX11_kerbs_80 : decode cX11_kerbs 80 = .ok (.invokestatic 331, 3) := by decide +kernel
theorem dX11_kerbs_83 : decode cX11_kerbs 83 = .ok (.ireturn, 1) := by decide +kernel
set_option maxRecDepth 100000 in
theorem okm_X11_kerbs : okL RX11 cX11_kerbs 5 (some .int) "kerbs" pcX11_kerbs opX11_kerbs pcX11_kerbs := by
  unfold opX11_kerbs
  refine okL_cons (ok_iload_n rfl dX11_kerbs_0) rfl ?_
  refine okL_cons (ok_invS (M' := 159) kw_454 kw_90 kw_79 kw_91 rfl (by decide +kernel) dX11_kerbs_1) rfl ?_
  refine okL_cons (ok_if_eq rfl dX11_kerbs_4) rfl ?_
  refine okL_cons (ok_iload_n rfl dX11_kerbs_7) rfl ?_
  refine okL_cons (ok_invS (M' := 159) kw_454 kw_90 kw_79 kw_91 rfl (by decide +kernel) dX11_kerbs_8) rfl ?_
  refine okL_cons (ok_if_eq rfl dX11_kerbs_11) rfl ?_
  refine okL_cons (ok_iload_n rfl dX11_kerbs_14) rfl ?_
  refine okL_cons (ok_if_lt rfl dX11_kerbs_15) rfl ?_
  refine okL_cons (ok_iload_n rfl dX11_kerbs_18) rfl ?_
  refine okL_cons (ok_iconst rfl dX11_kerbs_19) rfl ?_
  refine okL_cons (ok_icmp_gt rfl dX11_kerbs_20) rfl ?_
  refine okL_cons (ok_aload_n rfl dX11_kerbs_23) rfl ?_
  refine okL_cons (ok_getP kw_394 cf_X11 rfl rfl (by decide) dX11_kerbs_24) rfl ?_
  refine okL_cons (ok_iload_n rfl dX11_kerbs_27) rfl ?_
  refine okL_cons (ok_invV (M' := 14) kw_456 kw_256 kw_257 kw_258 kw_259 cf_X1 rfl (by decide +kernel) dX11_kerbs_28) rfl ?_
  refine okL_cons (ok_if_ne rfl dX11_kerbs_31) rfl ?_
  refine okL_cons (ok_iconst rfl dX11_kerbs_34) rfl ?_
  refine okL_cons (ok_ireturn rfl dX11_kerbs_35) rfl ?_
  refine okL_cons (ok_aload_n rfl dX11_kerbs_36) rfl ?_
  refine okL_cons (ok_getP kw_436 cf_X11 rfl rfl (by decide) dX11_kerbs_37) rfl ?_
  refine okL_cons (ok_aload_n rfl dX11_kerbs_40) rfl ?_
  refine okL_cons (ok_getP kw_395 cf_X11 rfl rfl (by decide) dX11_kerbs_41) rfl ?_
  refine okL_cons (ok_aload_n rfl dX11_kerbs_44) rfl ?_
  refine okL_cons (ok_getP kw_394 cf_X11 rfl rfl (by decide) dX11_kerbs_45) rfl ?_
  refine okL_cons (ok_getNI 45 cf_X1 rfl rfl rfl (by decide) dX11_kerbs_48) rfl ?_
  refine okL_cons (ok_invV (M' := 57) kw_455 kw_278 kw_279 kw_252 kw_280 cf_X6 rfl (by decide +kernel) dX11_kerbs_51) rfl ?_
  refine okL_cons (ok_aload_n rfl dX11_kerbs_54) rfl ?_
  refine okL_cons (ok_iload_n rfl dX11_kerbs_55) rfl ?_
  refine okL_cons (ok_iload_n rfl dX11_kerbs_56) rfl ?_
  refine okL_cons (ok_invV (M' := 138) kw_586 kw_587 kw_588 kw_79 kw_589 cf_X11 rfl (by decide +kernel) dX11_kerbs_57) rfl ?_
  refine okL_cons (ok_istore dX11_kerbs_60) rfl ?_
  refine okL_cons (ok_iload_n rfl dX11_kerbs_62) rfl ?_
  refine okL_cons (ok_iconst rfl dX11_kerbs_63) rfl ?_
  refine okL_cons (ok_icmp_eq rfl dX11_kerbs_64) rfl ?_
  refine okL_cons (ok_iload dX11_kerbs_67) rfl ?_
  refine okL_cons (ok_iconst rfl dX11_kerbs_69) rfl ?_
  refine okL_cons (ok_icmp_ne rfl dX11_kerbs_70) rfl ?_
  refine okL_cons (ok_iload dX11_kerbs_73) rfl ?_
  refine okL_cons (ok_goto rfl dX11_kerbs_75) rfl ?_
  refine okL_cons (ok_iload dX11_kerbs_78) rfl ?_
  refine okL_cons (ok_invS (M' := 8) kw_581 kw_99 kw_100 kw_101 rfl (by decide +kernel) dX11_kerbs_80) rfl ?_
  exact okL_one (ok_ireturn rfl dX11_kerbs_83)
theorem dX11_fewestKerbs_0 : decode cX11_fewestKerbs 0 = .ok (.aload_n 0, 1) := by decide +kernel
theorem dX11_fewestKerbs_1 : decode cX11_fewestKerbs 1 = .ok (.getfield 92, 3) := by decide +kernel
theorem dX11_fewestKerbs_4 : decode cX11_fewestKerbs 4 = .ok (.iload_n 1, 1) := by decide +kernel
theorem dX11_fewestKerbs_5 : decode cX11_fewestKerbs 5 = .ok (.iconst 0, 1) := by decide +kernel
theorem dX11_fewestKerbs_6 : decode cX11_fewestKerbs 6 = .ok (.invokevirtual 345, 3) := by decide +kernel
theorem dX11_fewestKerbs_9 : decode cX11_fewestKerbs 9 = .ok (.iload_n 2, 1) := by decide +kernel
theorem dX11_fewestKerbs_10 : decode cX11_fewestKerbs 10 = .ok (.if_icmp .ne 5, 3) := by decide +kernel
theorem dX11_fewestKerbs_13 : decode cX11_fewestKerbs 13 = .ok (.iconst 0, 1) := by decide +kernel
theorem dX11_fewestKerbs_14 : decode cX11_fewestKerbs 14 = .ok (.ireturn, 1) := by decide +kernel
theorem dX11_fewestKerbs_15 : decode cX11_fewestKerbs 15 = .ok (.aload_n 0, 1) := by decide +kernel
theorem dX11_fewestKerbs_16 : decode cX11_fewestKerbs 16 = .ok (.iload_n 1, 1) := by decide +kernel
theorem dX11_fewestKerbs_17 : decode cX11_fewestKerbs 17 = .ok (.iload_n 2, 1) := by decide +kernel
theorem dX11_fewestKerbs_18 : decode cX11_fewestKerbs 18 = .ok (.invokevirtual 348, 3) := by decide +kernel
theorem dX11_fewestKerbs_21 : decode cX11_fewestKerbs 21 = .ok (.istore_n 3, 1) := by decide +kernel
theorem dX11_fewestKerbs_22 : decode cX11_fewestKerbs 22 = .ok (.iconst 0, 1) := by decide +kernel
theorem dX11_fewestKerbs_23 : decode cX11_fewestKerbs 23 = .ok (.istore 4, 2) := by decide +kernel
theorem dX11_fewestKerbs_25 : decode cX11_fewestKerbs 25 = .ok (.iload 4, 2) := by decide +kernel
theorem dX11_fewestKerbs_27 : decode cX11_fewestKerbs 27 = .ok (.bipush 25, 2) := by decide +kernel
theorem dX11_fewestKerbs_29 : decode cX11_fewestKerbs 29 = .ok (.if_icmp .ge 39, 3) := by decide +kernel
theorem dX11_fewestKerbs_32 : decode cX11_fewestKerbs 32 = .ok (.iload 4, 2) := by decide +kernel
theorem dX11_fewestKerbs_34 : decode cX11_fewestKerbs 34 = .ok (.iload_n 3, 1) := by decide +kernel
theorem dX11_fewestKerbs_35 : decode cX11_fewestKerbs 35 = .ok (.invokestatic 351, 3) := by decide +kernel
theorem dX11_fewestKerbs_38 : decode cX11_fewestKerbs 38 = .ok (.ifCond .eq 24, 3) := by decide +kernel
theorem dX11_fewestKerbs_41 : decode cX11_fewestKerbs 41 = .ok (.aload_n 0, 1) := by decide +kernel
theorem dX11_fewestKerbs_42 : decode cX11_fewestKerbs 42 = .ok (.getfield 92, 3) := by decide +kernel
theorem dX11_fewestKerbs_45 : decode cX11_fewestKerbs 45 = .ok (.iload_n 1, 1) := by decide +kernel
theorem dX11_fewestKerbs_46 : decode cX11_fewestKerbs 46 = .ok (.iconst 1, 1) := by decide +kernel
theorem dX11_fewestKerbs_47 : decode cX11_fewestKerbs 47 = .ok (.iload 4, 2) := by decide +kernel
theorem dX11_fewestKerbs_49 : decode cX11_fewestKerbs 49 = .ok (.ishl, 1) := by decide +kernel
theorem dX11_fewestKerbs_50 : decode cX11_fewestKerbs 50 = .ok (.invokevirtual 345, 3) := by decide +kernel
theorem dX11_fewestKerbs_53 : decode cX11_fewestKerbs 53 = .ok (.iload_n 2, 1) := by decide +kernel
theorem dX11_fewestKerbs_54 : decode cX11_fewestKerbs 54 = .ok (.if_icmp .ne 8, 3) := by decide +kernel
theorem dX11_fewestKerbs_57 : decode cX11_fewestKerbs 57 = .ok (.iconst 1, 1) := by decide +kernel
theorem dX11_fewestKerbs_58 : decode cX11_fewestKerbs 58 = .ok (.iload 4, 2) := by decide +kernel
theorem dX11_fewestKerbs_60 : decode cX11_fewestKerbs 60 = .ok (.ishl, 1) := by decide +kernel
theorem dX11_fewestKerbs_61 : decode cX11_fewestKerbs 61 = .ok (.ireturn, 1) := by decide +kernel
theorem dX11_fewestKerbs_62 : decode cX11_fewestKerbs 62 = .ok (.iinc 4 1, 3) := by decide +kernel
theorem dX11_fewestKerbs_65 : decode cX11_fewestKerbs 65 = .ok (.goto (-40), 3) := by decide +kernel
theorem dX11_fewestKerbs_68 : decode cX11_fewestKerbs 68 = .ok (.iconst 1, 1) := by decide +kernel
theorem dX11_fewestKerbs_69 : decode cX11_fewestKerbs 69 = .ok (.istore 4, 2) := by decide +kernel
theorem dX11_fewestKerbs_71 : decode cX11_fewestKerbs 71 = .ok (.iload 4, 2) := by decide +kernel
theorem dX11_fewestKerbs_73 : decode cX11_fewestKerbs 73 = .ok (.bipush 25, 2) := by decide +kernel
theorem dX11_fewestKerbs_75 : decode cX11_fewestKerbs 75 = .ok (.if_icmp .ge 71, 3) := by decide +kernel
theorem dX11_fewestKerbs_78 : decode cX11_fewestKerbs 78 = .ok (.iconst 0, 1) := by decide +kernel
theorem dX11_fewestKerbs_79 : decode cX11_fewestKerbs 79 = .ok (.istore 5, 2) := by decide +kernel
theorem dX11_fewestKerbs_81 : decode cX11_fewestKerbs 81 = .ok (.iload 5, 2) := by decide +kernel
theorem dX11_fewestKerbs_83 : decode cX11_fewestKerbs 83 = .ok (.iload 4, 2) := by decide +kernel
theorem dX11_fewestKerbs_85 : decode cX11_fewestKerbs 85 = .ok (.if_icmp .ge 55, 3) := by decide +kernel
theorem dX11_fewestKerbs_88 : decode cX11_fewestKerbs 88 = .ok (.iload 4, 2) := by decide +kernel
theorem dX11_fewestKerbs_90 : decode cX11_fewestKerbs 90 = .ok (.iload_n 3, 1) := by decide +kernel
theorem dX11_fewestKerbs_91 : decode cX11_fewestKerbs 91 = .ok (.invokestatic 351, 3) := by decide +kernel
theorem dX11_fewestKerbs_94 : decode cX11_fewestKerbs 94 = .ok (.ifCond .eq 46, 3) := by decide +kernel
theorem dX11_fewestKerbs_97 : decode cX11_fewestKerbs 97 = .ok (.iconst 1, 1) := by decide +kernel
theorem dX11_fewestKerbs_98 : decode cX11_fewestKerbs 98 = .ok (.iload 4, 2) := by decide +kernel
theorem dX11_fewestKerbs_100 : decode cX11_fewestKerbs 100 = .ok (.ishl, 1) := by decide +kernel
theorem dX11_fewestKerbs_101 : decode cX11_fewestKerbs 101 = .ok (.iconst 1, 1) := by decide +kernel
theorem dX11_fewestKerbs_102 : decode cX11_fewestKerbs 102 = .ok (.iload 5, 2) := by decide +kernel
theorem dX11_fewestKerbs_104 : decode cX11_fewestKerbs 104 = .ok (.ishl, 1) := by decide +kernel
theorem dX11_fewestKerbs_105 : decode cX11_fewestKerbs 105 = .ok (.ior, 1) := by decide +kernel
theorem dX11_fewestKerbs_106 : decode cX11_fewestKerbs 106 = .ok (.istore 6, 2) := by decide +kernel
theorem dX11_fewestKerbs_108 : decode cX11_fewestKerbs 108 = .ok (.iload 5, 2) := by decide +kernel
theorem dX11_fewestKerbs_110 : decode cX11_fewestKerbs 110 = .ok (.iload_n 3, 1) := by decide +kernel
theorem dX11_fewestKerbs_111 : decode cX11_fewestKerbs 111 = .ok (.invokestatic 351, 3) := by decide +kernel
theorem dX11_fewestKerbs_114 : decode cX11_fewestKerbs 114 = .ok (.ifCond .eq 20, 3) := by decide +kernel
theorem dX11_fewestKerbs_117 : decode cX11_fewestKerbs 117 = .ok (.aload_n 0, 1) := by decide +kernel
theorem dX11_fewestKerbs_118 : decode cX11_fewestKerbs 118 = .ok (.getfield 92, 3) := by decide +kernel
theorem dX11_fewestKerbs_121 : decode cX11_fewestKerbs 121 = .ok (.iload_n 1, 1) := by decide +kernel
theorem dX11_fewestKerbs_122 : decode cX11_fewestKerbs 122 = .ok (.iload 6, 2) := by decide +kernel
theorem dX11_fewestKerbs_124 : decode cX11_fewestKerbs 124 = .ok (.invokevirtual 345, 3) := by decide +kernel
theorem dX11_fewestKerbs_127 : decode cX11_fewestKerbs 127 = .ok (.iload_n 2, 1) := by decide +kernel
theorem dX11_fewestKerbs_128 : decode cX11_fewestKerbs 128 = .ok (.if_icmp .ne 6, 3) := by decide +kernel
theorem dX11_fewestKerbs_131 : decode cX11_fewestKerbs 131 = .ok (.iload 6, 2) := by decide +kernel
theorem dX11_fewestKerbs_133 : decode cX11_fewestKerbs 133 = .ok (.ireturn, 1) := by decide +kernel
theorem dX11_fewestKerbs_134 : decode cX11_fewestKerbs 134 = .ok (.iinc 5 1, 3) := by decide +kernel
theorem dX11_fewestKerbs_137 : decode cX11_fewestKerbs 137 = .ok (.goto (-56), 3) := by decide +kernel
theorem dX11_fewestKerbs_140 : decode cX11_fewestKerbs 140 = .ok (.iinc 4 1, 3) := by decide +kernel
theorem dX11_fewestKerbs_143 : decode cX11_fewestKerbs 143 = .ok (.goto (-72), 3) := by decide +kernel
theorem dX11_fewestKerbs_146 : decode cX11_fewestKerbs 146 = .ok (.iconst (-1), 1) := by decide +kernel
theorem dX11_fewestKerbs_147 : decode cX11_fewestKerbs 147 = .ok (.ireturn, 1) := by decide +kernel
set_option maxRecDepth 100000 in
theorem okm_X11_fewestKerbs : okL RX11 cX11_fewestKerbs 7 (some .int) "fewestKerbs" pcX11_fewestKerbs opX11_fewestKerbs pcX11_fewestKerbs := by
  unfold opX11_fewestKerbs
  refine okL_cons (ok_aload_n rfl dX11_fewestKerbs_0) rfl ?_
  refine okL_cons (ok_getP kw_436 cf_X11 rfl rfl (by decide) dX11_fewestKerbs_1) rfl ?_
  refine okL_cons (ok_iload_n rfl dX11_fewestKerbs_4) rfl ?_
  refine okL_cons (ok_iconst rfl dX11_fewestKerbs_5) rfl ?_
  refine okL_cons (ok_invV (M' := 63) kw_590 kw_591 kw_592 kw_252 kw_593 cf_X6 rfl (by decide +kernel) dX11_fewestKerbs_6) rfl ?_
  refine okL_cons (ok_iload_n rfl dX11_fewestKerbs_9) rfl ?_
  refine okL_cons (ok_icmp_ne rfl dX11_fewestKerbs_10) rfl ?_
  refine okL_cons (ok_iconst rfl dX11_fewestKerbs_13) rfl ?_
  refine okL_cons (ok_ireturn rfl dX11_fewestKerbs_14) rfl ?_
  refine okL_cons (ok_aload_n rfl dX11_fewestKerbs_15) rfl ?_
  refine okL_cons (ok_iload_n rfl dX11_fewestKerbs_16) rfl ?_
  refine okL_cons (ok_iload_n rfl dX11_fewestKerbs_17) rfl ?_
  refine okL_cons (ok_invV (M' := 139) kw_594 kw_595 kw_596 kw_79 kw_597 cf_X11 rfl (by decide +kernel) dX11_fewestKerbs_18) rfl ?_
  refine okL_cons (ok_istore_n rfl dX11_fewestKerbs_21) rfl ?_
  refine okL_cons (ok_iconst rfl dX11_fewestKerbs_22) rfl ?_
  refine okL_cons (ok_istore dX11_fewestKerbs_23) rfl ?_
  refine okL_cons (ok_iload dX11_fewestKerbs_25) rfl ?_
  refine okL_cons (ok_bipush rfl dX11_fewestKerbs_27) rfl ?_
  refine okL_cons (ok_icmp_ge rfl dX11_fewestKerbs_29) rfl ?_
  refine okL_cons (ok_iload dX11_fewestKerbs_32) rfl ?_
  refine okL_cons (ok_iload_n rfl dX11_fewestKerbs_34) rfl ?_
  refine okL_cons (ok_invS (M' := 162) kw_598 kw_78 kw_79 kw_80 rfl (by decide +kernel) dX11_fewestKerbs_35) rfl ?_
  refine okL_cons (ok_if_eq rfl dX11_fewestKerbs_38) rfl ?_
  refine okL_cons (ok_aload_n rfl dX11_fewestKerbs_41) rfl ?_
  refine okL_cons (ok_getP kw_436 cf_X11 rfl rfl (by decide) dX11_fewestKerbs_42) rfl ?_
  refine okL_cons (ok_iload_n rfl dX11_fewestKerbs_45) rfl ?_
  refine okL_cons (ok_iconst rfl dX11_fewestKerbs_46) rfl ?_
  refine okL_cons (ok_iload dX11_fewestKerbs_47) rfl ?_
  refine okL_cons (ok_ishl dX11_fewestKerbs_49) rfl ?_
  refine okL_cons (ok_invV (M' := 63) kw_590 kw_591 kw_592 kw_252 kw_593 cf_X6 rfl (by decide +kernel) dX11_fewestKerbs_50) rfl ?_
  refine okL_cons (ok_iload_n rfl dX11_fewestKerbs_53) rfl ?_
  refine okL_cons (ok_icmp_ne rfl dX11_fewestKerbs_54) rfl ?_
  refine okL_cons (ok_iconst rfl dX11_fewestKerbs_57) rfl ?_
  refine okL_cons (ok_iload dX11_fewestKerbs_58) rfl ?_
  refine okL_cons (ok_ishl dX11_fewestKerbs_60) rfl ?_
  refine okL_cons (ok_ireturn rfl dX11_fewestKerbs_61) rfl ?_
  refine okL_cons (ok_iinc rfl dX11_fewestKerbs_62) rfl ?_
  refine okL_cons (ok_goto rfl dX11_fewestKerbs_65) rfl ?_
  refine okL_cons (ok_iconst rfl dX11_fewestKerbs_68) rfl ?_
  refine okL_cons (ok_istore dX11_fewestKerbs_69) rfl ?_
  refine okL_cons (ok_iload dX11_fewestKerbs_71) rfl ?_
  refine okL_cons (ok_bipush rfl dX11_fewestKerbs_73) rfl ?_
  refine okL_cons (ok_icmp_ge rfl dX11_fewestKerbs_75) rfl ?_
  refine okL_cons (ok_iconst rfl dX11_fewestKerbs_78) rfl ?_
  refine okL_cons (ok_istore dX11_fewestKerbs_79) rfl ?_
  refine okL_cons (ok_iload dX11_fewestKerbs_81) rfl ?_
  refine okL_cons (ok_iload dX11_fewestKerbs_83) rfl ?_
  refine okL_cons (ok_icmp_ge rfl dX11_fewestKerbs_85) rfl ?_
  refine okL_cons (ok_iload dX11_fewestKerbs_88) rfl ?_
  refine okL_cons (ok_iload_n rfl dX11_fewestKerbs_90) rfl ?_
  refine okL_cons (ok_invS (M' := 162) kw_598 kw_78 kw_79 kw_80 rfl (by decide +kernel) dX11_fewestKerbs_91) rfl ?_
  refine okL_cons (ok_if_eq rfl dX11_fewestKerbs_94) rfl ?_
  refine okL_cons (ok_iconst rfl dX11_fewestKerbs_97) rfl ?_
  refine okL_cons (ok_iload dX11_fewestKerbs_98) rfl ?_
  refine okL_cons (ok_ishl dX11_fewestKerbs_100) rfl ?_
  refine okL_cons (ok_iconst rfl dX11_fewestKerbs_101) rfl ?_
  refine okL_cons (ok_iload dX11_fewestKerbs_102) rfl ?_
  refine okL_cons (ok_ishl dX11_fewestKerbs_104) rfl ?_
  refine okL_cons (ok_ior dX11_fewestKerbs_105) rfl ?_
  refine okL_cons (ok_istore dX11_fewestKerbs_106) rfl ?_
  refine okL_cons (ok_iload dX11_fewestKerbs_108) rfl ?_
  refine okL_cons (ok_iload_n rfl dX11_fewestKerbs_110) rfl ?_
  refine okL_cons (ok_invS (M' := 162) kw_598 kw_78 kw_79 kw_80 rfl (by decide +kernel) dX11_fewestKerbs_111) rfl ?_
  refine okL_cons (ok_if_eq rfl dX11_fewestKerbs_114) rfl ?_
  refine okL_cons (ok_aload_n rfl dX11_fewestKerbs_117) rfl ?_
  refine okL_cons (ok_getP kw_436 cf_X11 rfl rfl (by decide) dX11_fewestKerbs_118) rfl ?_
  refine okL_cons (ok_iload_n rfl dX11_fewestKerbs_121) rfl ?_
  refine okL_cons (ok_iload dX11_fewestKerbs_122) rfl ?_
  refine okL_cons (ok_invV (M' := 63) kw_590 kw_591 kw_592 kw_252 kw_593 cf_X6 rfl (by decide +kernel) dX11_fewestKerbs_124) rfl ?_
  refine okL_cons (ok_iload_n rfl dX11_fewestKerbs_127) rfl ?_
  refine okL_cons (ok_icmp_ne rfl dX11_fewestKerbs_128) rfl ?_
  refine okL_cons (ok_iload dX11_fewestKerbs_131) rfl ?_
  refine okL_cons (ok_ireturn rfl dX11_fewestKerbs_133) rfl ?_
  refine okL_cons (ok_iinc rfl dX11_fewestKerbs_134) rfl ?_
  refine okL_cons (ok_goto rfl dX11_fewestKerbs_137) rfl ?_
  refine okL_cons (ok_iinc rfl dX11_fewestKerbs_140) rfl ?_
  refine okL_cons (ok_goto rfl dX11_fewestKerbs_143) rfl ?_
  refine okL_cons (ok_iconst rfl dX11_fewestKerbs_146) rfl ?_
  exact okL_one (ok_ireturn rfl dX11_fewestKerbs_147)
theorem dX11_freeForKerbs_0 : decode cX11_freeForKerbs 0 = .ok (.iconst 0, 1) := by decide +kernel
theorem dX11_freeForKerbs_1 : decode cX11_freeForKerbs 1 = .ok (.istore_n 3, 1) := by decide +kernel
theorem dX11_freeForKerbs_2 : decode cX11_freeForKerbs 2 = .ok (.iconst 0, 1) := by decide +kernel
theorem dX11_freeForKerbs_3 : decode cX11_freeForKerbs 3 = .ok (.istore 4, 2) := by decide +kernel
theorem dX11_freeForKerbs_5 : decode cX11_freeForKerbs 5 = .ok (.iload 4, 2) := by decide +kernel
theorem dX11_freeForKerbs_7 : decode cX11_freeForKerbs 7 = .ok (.bipush 25, 2) := by decide +kernel
theorem dX11_freeForKerbs_9 : decode cX11_freeForKerbs 9 = .ok (.if_icmp .ge 43, 3) := by decide +kernel
theorem dX11_freeForKerbs_12 : decode cX11_freeForKerbs 12 = .ok (.iload 4, 2) := by decide +kernel
theorem dX11_freeForKerbs_14 : decode cX11_freeForKerbs 14 = .ok (.iload_n 1, 1) := by decide +kernel
theorem dX11_freeForKerbs_15 : decode cX11_freeForKerbs 15 = .ok (.if_icmp .eq 31, 3) := by decide +kernel
theorem dX11_freeForKerbs_18 : decode cX11_freeForKerbs 18 = .ok (.iload 4, 2) := by decide +kernel
theorem dX11_freeForKerbs_20 : decode cX11_freeForKerbs 20 = .ok (.iload_n 2, 1) := by decide +kernel
theorem dX11_freeForKerbs_21 : decode cX11_freeForKerbs 21 = .ok (.if_icmp .eq 25, 3) := by decide +kernel
theorem dX11_freeForKerbs_24 : decode cX11_freeForKerbs 24 = .ok (.aload_n 0, 1) := by decide +kernel
theorem dX11_freeForKerbs_25 : decode cX11_freeForKerbs 25 = .ok (.getfield 20, 3) := by decide +kernel
theorem dX11_freeForKerbs_28 : decode cX11_freeForKerbs 28 = .ok (.getfield 133, 3) := by decide +kernel
theorem dX11_freeForKerbs_31 : decode cX11_freeForKerbs 31 = .ok (.iload 4, 2) := by decide +kernel
theorem dX11_freeForKerbs_33 : decode cX11_freeForKerbs 33 = .ok (.iaload, 1) := by decide +kernel
theorem dX11_freeForKerbs_34 : decode cX11_freeForKerbs 34 = .ok (.bipush 9, 2) := by decide +kernel
theorem dX11_freeForKerbs_36 : decode cX11_freeForKerbs 36 = .ok (.if_icmp .eq 10, 3) := by decide +kernel
theorem dX11_freeForKerbs_39 : decode cX11_freeForKerbs 39 = .ok (.iload_n 3, 1) := by decide +kernel
theorem dX11_freeForKerbs_40 : decode cX11_freeForKerbs 40 = .ok (.iconst 1, 1) := by decide +kernel
theorem dX11_freeForKerbs_41 : decode cX11_freeForKerbs 41 = .ok (.iload 4, 2) := by decide +kernel
theorem dX11_freeForKerbs_43 : decode cX11_freeForKerbs 43 = .ok (.ishl, 1) := by decide +kernel
theorem dX11_freeForKerbs_44 : decode cX11_freeForKerbs 44 = .ok (.ior, 1) := by decide +kernel
theorem dX11_freeForKerbs_45 : decode cX11_freeForKerbs 45 = .ok (.istore_n 3, 1) := by decide +kernel
theorem dX11_freeForKerbs_46 : decode cX11_freeForKerbs 46 = .ok (.iinc 4 1, 3) := by decide +kernel
theorem dX11_freeForKerbs_49 : decode cX11_freeForKerbs 49 = .ok (.goto (-44), 3) := by decide +kernel
theorem dX11_freeForKerbs_52 : decode cX11_freeForKerbs 52 = .ok (.iload_n 3, 1) := by decide +kernel
theorem dX11_freeForKerbs_53 : decode cX11_freeForKerbs 53 = .ok (.ireturn, 1) := by decide +kernel
set_option maxRecDepth 100000 in
theorem okm_X11_freeForKerbs : okL RX11 cX11_freeForKerbs 5 (some .int) "freeForKerbs" pcX11_freeForKerbs opX11_freeForKerbs pcX11_freeForKerbs := by
  unfold opX11_freeForKerbs
  refine okL_cons (ok_iconst rfl dX11_freeForKerbs_0) rfl ?_
  refine okL_cons (ok_istore_n rfl dX11_freeForKerbs_1) rfl ?_
  refine okL_cons (ok_iconst rfl dX11_freeForKerbs_2) rfl ?_
  refine okL_cons (ok_istore dX11_freeForKerbs_3) rfl ?_
  refine okL_cons (ok_iload dX11_freeForKerbs_5) rfl ?_
  refine okL_cons (ok_bipush rfl dX11_freeForKerbs_7) rfl ?_
  refine okL_cons (ok_icmp_ge rfl dX11_freeForKerbs_9) rfl ?_
  refine okL_cons (ok_iload dX11_freeForKerbs_12) rfl ?_
  refine okL_cons (ok_iload_n rfl dX11_freeForKerbs_14) rfl ?_
  refine okL_cons (ok_icmp_eq rfl dX11_freeForKerbs_15) rfl ?_
  refine okL_cons (ok_iload dX11_freeForKerbs_18) rfl ?_
  refine okL_cons (ok_iload_n rfl dX11_freeForKerbs_20) rfl ?_
  refine okL_cons (ok_icmp_eq rfl dX11_freeForKerbs_21) rfl ?_
  refine okL_cons (ok_aload_n rfl dX11_freeForKerbs_24) rfl ?_
  refine okL_cons (ok_getP kw_395 cf_X11 rfl rfl (by decide) dX11_freeForKerbs_25) rfl ?_
  refine okL_cons (ok_getNP 6 cf_X2 rfl rfl rfl (by decide) dX11_freeForKerbs_28) rfl ?_
  refine okL_cons (ok_iload dX11_freeForKerbs_31) rfl ?_
  refine okL_cons (ok_iaload dX11_freeForKerbs_33) rfl ?_
  refine okL_cons (ok_bipush rfl dX11_freeForKerbs_34) rfl ?_
  refine okL_cons (ok_icmp_eq rfl dX11_freeForKerbs_36) rfl ?_
  refine okL_cons (ok_iload_n rfl dX11_freeForKerbs_39) rfl ?_
  refine okL_cons (ok_iconst rfl dX11_freeForKerbs_40) rfl ?_
  refine okL_cons (ok_iload dX11_freeForKerbs_41) rfl ?_
  refine okL_cons (ok_ishl dX11_freeForKerbs_43) rfl ?_
  refine okL_cons (ok_ior dX11_freeForKerbs_44) rfl ?_
  refine okL_cons (ok_istore_n rfl dX11_freeForKerbs_45) rfl ?_
  refine okL_cons (ok_iinc rfl dX11_freeForKerbs_46) rfl ?_
  refine okL_cons (ok_goto rfl dX11_freeForKerbs_49) rfl ?_
  refine okL_cons (ok_iload_n rfl dX11_freeForKerbs_52) rfl ?_
  exact okL_one (ok_ireturn rfl dX11_freeForKerbs_53)
theorem dX11_springs_0 : decode cX11_springs 0 = .ok (.aload_n 0, 1) := by decide +kernel
theorem dX11_springs_1 : decode cX11_springs 1 = .ok (.invokevirtual 311, 3) := by decide +kernel
theorem dX11_springs_4 : decode cX11_springs 4 = .ok (.aload_n 0, 1) := by decide +kernel
theorem dX11_springs_5 : decode cX11_springs 5 = .ok (.getfield 99, 3) := by decide +kernel
theorem dX11_springs_8 : decode cX11_springs 8 = .ok (.invokevirtual 355, 3) := by decide +kernel
theorem dX11_springs_11 : decode cX11_springs 11 = .ok (.ireturn, 1) := by decide +kernel
set_option maxRecDepth 100000 in
theorem okm_X11_springs : okL RX11 cX11_springs 1 (some .int) "springs" pcX11_springs opX11_springs pcX11_springs := by
  unfold opX11_springs
  refine okL_cons (ok_aload_n rfl dX11_springs_0) rfl ?_
  refine okL_cons (ok_invV (M' := 131) kw_566 kw_567 kw_568 kw_79 kw_569 cf_X11 rfl (by decide +kernel) dX11_springs_1) rfl ?_
  refine okL_cons (ok_aload_n rfl dX11_springs_4) rfl ?_
  refine okL_cons (ok_getP kw_441 cf_X11 rfl rfl (by decide) dX11_springs_5) rfl ?_
  refine okL_cons (ok_invV (M' := 75) kw_599 kw_600 kw_601 kw_292 kw_602 cf_X7 rfl (by decide +kernel) dX11_springs_8) rfl ?_
  exact okL_one (ok_ireturn rfl dX11_springs_11)
theorem dX11_pools_0 : decode cX11_pools 0 = .ok (.aload_n 0, 1) := by decide +kernel
theorem dX11_pools_1 : decode cX11_pools 1 = .ok (.invokevirtual 311, 3) := by decide +kernel
theorem dX11_pools_4 : decode cX11_pools 4 = .ok (.aload_n 0, 1) := by decide +kernel
theorem dX11_pools_5 : decode cX11_pools 5 = .ok (.getfield 99, 3) := by decide +kernel
theorem dX11_pools_8 : decode cX11_pools 8 = .ok (.invokevirtual 358, 3) := by decide +kernel
theorem dX11_pools_11 : decode cX11_pools 11 = .ok (.ireturn, 1) := by decide +kernel
set_option maxRecDepth 100000 in
theorem okm_X11_pools : okL RX11 cX11_pools 1 (some .int) "pools" pcX11_pools opX11_pools pcX11_pools := by
  unfold opX11_pools
  refine okL_cons (ok_aload_n rfl dX11_pools_0) rfl ?_
  refine okL_cons (ok_invV (M' := 131) kw_566 kw_567 kw_568 kw_79 kw_569 cf_X11 rfl (by decide +kernel) dX11_pools_1) rfl ?_
  refine okL_cons (ok_aload_n rfl dX11_pools_4) rfl ?_
  refine okL_cons (ok_getP kw_441 cf_X11 rfl rfl (by decide) dX11_pools_5) rfl ?_
  refine okL_cons (ok_invV (M' := 76) kw_603 kw_604 kw_605 kw_292 kw_606 cf_X7 rfl (by decide +kernel) dX11_pools_8) rfl ?_
  exact okL_one (ok_ireturn rfl dX11_pools_11)
theorem dX11_longest_0 : decode cX11_longest 0 = .ok (.iload_n 1, 1) := by decide +kernel
theorem dX11_longest_1 : decode cX11_longest 1 = .ok (.ifCond .lt 8, 3) := by decide +kernel
theorem dX11_longest_4 : decode cX11_longest 4 = .ok (.iload_n 1, 1) := by decide +kernel
theorem dX11_longest_5 : decode cX11_longest 5 = .ok (.iconst 1, 1) := by decide +kernel
theorem dX11_longest_6 : decode cX11_longest 6 = .ok (.if_icmp .le 5, 3) := by decide +kernel
theorem dX11_longest_9 : decode cX11_longest 9 = .ok (.iconst (-1), 1) := by decide +kernel
theorem dX11_longest_10 : decode cX11_longest 10 = .ok (.ireturn, 1) := by decide +kernel
theorem dX11_longest_11 : decode cX11_longest 11 = .ok (.aload_n 0, 1) := by decide +kernel
theorem dX11_longest_12 : decode cX11_longest 12 = .ok (.invokevirtual 311, 3) := by decide +kernel
theorem dX11_longest_15 : decode cX11_longest 15 = .ok (.aload_n 0, 1) := by decide +kernel
theorem dX11_longest_16 : decode cX11_longest 16 = .ok (.getfield 99, 3) := by decide +kernel
theorem dX11_longest_19 : decode cX11_longest 19 = .ok (.invokevirtual 361, 3) := by decide +kernel
theorem dX11_longest_22 : decode cX11_longest 22 = .ok (.istore_n 2, 1) := by decide +kernel
theorem dX11_longest_23 : decode cX11_longest 23 = .ok (.iload_n 1, 1) := by decide +kernel
theorem dX11_longest_24 : decode cX11_longest 24 = .ok (.ifCond .ne 15, 3) := by decide +kernel
theorem dX11_longest_27 : decode cX11_longest 27 = .ok (.aload_n 0, 1) := by decide +kernel
theorem dX11_longest_28 : decode cX11_longest 28 = .ok (.getfield 99, 3) := by decide +kernel
theorem dX11_longest_31 : decode cX11_longest 31 = .ok (.getfield 314, 3) := by decide +kernel
theorem dX11_longest_34 : decode cX11_longest 34 = .ok (.iload_n 2, 1) := by decide +kernel
theorem dX11_longest_35 : decode cX11_longest 35 = .ok (.iaload, 1) := by decide +kernel
theorem dX11_longest_36 : decode cX11_longest 36 = .ok (.goto 4, 3) := by decide +kernel
theorem dX11_longest_39 : decode cX11_longest 39 = .ok (.iload_n 2, 1) := by decide +kernel
theorem dX11_longest_40 : decode cX11_longest 40 = .ok (.ireturn, 1) := by decide +kernel
set_option maxRecDepth 100000 in
theorem okm_X11_longest : okL RX11 cX11_longest 3 (some .int) "longest" pcX11_longest opX11_longest pcX11_longest := by
  unfold opX11_longest
  refine okL_cons (ok_iload_n rfl dX11_longest_0) rfl ?_
  refine okL_cons (ok_if_lt rfl dX11_longest_1) rfl ?_
  refine okL_cons (ok_iload_n rfl dX11_longest_4) rfl ?_
  refine okL_cons (ok_iconst rfl dX11_longest_5) rfl ?_
  refine okL_cons (ok_icmp_le rfl dX11_longest_6) rfl ?_
  refine okL_cons (ok_iconst rfl dX11_longest_9) rfl ?_
  refine okL_cons (ok_ireturn rfl dX11_longest_10) rfl ?_
  refine okL_cons (ok_aload_n rfl dX11_longest_11) rfl ?_
  refine okL_cons (ok_invV (M' := 131) kw_566 kw_567 kw_568 kw_79 kw_569 cf_X11 rfl (by decide +kernel) dX11_longest_12) rfl ?_
  refine okL_cons (ok_aload_n rfl dX11_longest_15) rfl ?_
  refine okL_cons (ok_getP kw_441 cf_X11 rfl rfl (by decide) dX11_longest_16) rfl ?_
  refine okL_cons (ok_invV (M' := 77) kw_607 kw_608 kw_609 kw_292 kw_610 cf_X7 rfl (by decide +kernel) dX11_longest_19) rfl ?_
  refine okL_cons (ok_istore_n rfl dX11_longest_22) rfl ?_
  refine okL_cons (ok_iload_n rfl dX11_longest_23) rfl ?_
  refine okL_cons (ok_if_ne rfl dX11_longest_24) rfl ?_
  refine okL_cons (ok_aload_n rfl dX11_longest_27) rfl ?_
  refine okL_cons (ok_getP kw_441 cf_X11 rfl rfl (by decide) dX11_longest_28) rfl ?_
  refine okL_cons (ok_getNP 53 cf_X7 rfl rfl rfl (by decide) dX11_longest_31) rfl ?_
  refine okL_cons (ok_iload_n rfl dX11_longest_34) rfl ?_
  refine okL_cons (ok_iaload dX11_longest_35) rfl ?_
  refine okL_cons (ok_goto rfl dX11_longest_36) rfl ?_
  refine okL_cons (ok_iload_n rfl dX11_longest_39) rfl ?_
  exact okL_one (ok_ireturn rfl dX11_longest_40)
theorem dX11_seen_0 : decode cX11_seen 0 = .ok (.iload_n 1, 1) := by decide +kernel
theorem dX11_seen_1 : decode cX11_seen 1 = .ok (.ifCond .lt 16, 3) := by decide +kernel
theorem dX11_seen_4 : decode cX11_seen 4 = .ok (.iload_n 1, 1) := by decide +kernel
theorem dX11_seen_5 : decode cX11_seen 5 = .ok (.bipush 30, 2) := by decide +kernel
theorem dX11_seen_7 : decode cX11_seen 7 = .ok (.if_icmp .gt 10, 3) := by decide +kernel
theorem dX11_seen_10 : decode cX11_seen 10 = .ok (.iload_n 2, 1) := by decide +kernel
theorem dX11_seen_11 : decode cX11_seen 11 = .ok (.invokestatic 121, 3) := by decide +kernel
theorem dX11_seen_14 : decode cX11_seen 14 = .ok (.ifCond .ne 12, 3) := by decide +kernel
theorem dX11_seen_17 : decode cX11_seen 17 = .ok (.aload_n 0, 1) := by decide +kernel
theorem dX11_seen_18 : decode cX11_seen 18 = .ok (.getfield 117, 3) := by decide +kernel
theorem dX11_seen_21 : decode cX11_seen 21 = .ok (.iconst (-1), 1) := by decide +kernel
theorem dX11_seen_22 : decode cX11_seen 22 = .ok (.invokevirtual 152, 3) := by decide +kernel
theorem dX11_seen_25 : decode cX11_seen 25 = .ok (.ireturn, 1) := by decide +kernel
theorem dX11_seen_26 : decode cX11_seen 26 = .ok (.aload_n 0, 1) := by decide +kernel
theorem dX11_seen_27 : decode cX11_seen 27 = .ok (.getfield 12, 3) := by decide +kernel
theorem dX11_seen_30 : decode cX11_seen 30 = .ok (.getfield 364, 3) := by decide +kernel
theorem dX11_seen_33 : decode cX11_seen 33 = .ok (.bipush 6, 2) := by decide +kernel
theorem dX11_seen_35 : decode cX11_seen 35 = .ok (.if_icmp .lt 13, 3) := by decide +kernel
theorem dX11_seen_38 : decode cX11_seen 38 = .ok (.aload_n 0, 1) := by decide +kernel
theorem dX11_seen_39 : decode cX11_seen 39 = .ok (.getfield 117, 3) := by decide +kernel
theorem dX11_seen_42 : decode cX11_seen 42 = .ok (.bipush (-5), 2) := by decide +kernel
theorem dX11_seen_44 : decode cX11_seen 44 = .ok (.invokevirtual 152, 3) := by decide +kernel
theorem dX11_seen_47 : decode cX11_seen 47 = .ok (.ireturn, 1) := by decide +kernel
theorem dX11_seen_48 : decode cX11_seen 48 = .ok (.aload_n 0, 1) := by decide +kernel
theorem dX11_seen_49 : decode cX11_seen 49 = .ok (.getfield 12, 3) := by decide +kernel
theorem dX11_seen_52 : decode cX11_seen 52 = .ok (.getfield 367, 3) := by decide +kernel
theorem dX11_seen_55 : decode cX11_seen 55 = .ok (.aload_n 0, 1) := by decide +kernel
theorem dX11_seen_56 : decode cX11_seen 56 = .ok (.getfield 12, 3) := by decide +kernel
theorem dX11_seen_59 : decode cX11_seen 59 = .ok (.getfield 364, 3) := by decide +kernel
theorem dX11_seen_62 : decode cX11_seen 62 = .ok (.iload_n 1, 1) := by decide +kernel
theorem dX11_seen_63 : decode cX11_seen 63 = .ok (.iastore, 1) := by decide +kernel
theorem dX11_seen_64 : decode cX11_seen 64 = .ok (.aload_n 0, 1) := by decide +kernel
theorem dX11_seen_65 : decode cX11_seen 65 = .ok (.getfield 12, 3) := by decide +kernel
theorem dX11_seen_68 : decode cX11_seen 68 = .ok (.getfield 370, 3) := by decide +kernel
theorem dX11_seen_71 : decode cX11_seen 71 = .ok (.aload_n 0, 1) := by decide +kernel
theorem dX11_seen_72 : decode cX11_seen 72 = .ok (.getfield 12, 3) := by decide +kernel
theorem dX11_seen_75 : decode cX11_seen 75 = .ok (.getfield 364, 3) := by decide +kernel
theorem dX11_seen_78 : decode cX11_seen 78 = .ok (.iload_n 2, 1) := by decide +kernel
theorem dX11_seen_79 : decode cX11_seen 79 = .ok (.iastore, 1) := by decide +kernel
theorem dX11_seen_80 : decode cX11_seen 80 = .ok (.aload_n 0, 1) := by decide +kernel
theorem dX11_seen_81 : decode cX11_seen 81 = .ok (.getfield 12, 3) := by decide +kernel
theorem dX11_seen_84 : decode cX11_seen 84 = .ok (.dup, 1) := by decide +kernel
theorem dX11_seen_85 : decode cX11_seen 85 = .ok (.getfield 364, 3) := by decide +kernel
theorem dX11_seen_88 : decode cX11_seen 88 = .ok (.iconst 1, 1) := by decide +kernel
theorem dX11_seen_89 : decode cX11_seen 89 = .ok (.iadd, 1) := by decide +kernel
theorem dX11_seen_90 : decode cX11_seen 90 = .ok (.putfield 364, 3) := by decide +kernel
theorem dX11_seen_93 : decode cX11_seen 93 = .ok (.aload_n 0, 1) := by decide +kernel
theorem dX11_seen_94 : decode cX11_seen 94 = .ok (.getfield 117, 3) := by decide +kernel
theorem dX11_seen_97 : decode cX11_seen 97 = .ok (.aload_n 0, 1) := by decide +kernel
theorem dX11_seen_98 : decode cX11_seen 98 = .ok (.getfield 12, 3) := by decide +kernel
theorem dX11_seen_101 : decode cX11_seen 101 = .ok (.getfield 364, 3) := by decide +kernel
theorem dX11_seen_104 : decode cX11_seen 104 = .ok (.invokevirtual 159, 3) := by decide +kernel
theorem dX11_seen_107 : decode cX11_seen 107 = .ok (.ireturn, 1) := by decide +kernel
set_option maxRecDepth 100000 in
theorem okm_X11_seen : okL RX11 cX11_seen 3 (some .int) "seen" pcX11_seen opX11_seen pcX11_seen := by
  unfold opX11_seen
  refine okL_cons (ok_iload_n rfl dX11_seen_0) rfl ?_
  refine okL_cons (ok_if_lt rfl dX11_seen_1) rfl ?_
  refine okL_cons (ok_iload_n rfl dX11_seen_4) rfl ?_
  refine okL_cons (ok_bipush rfl dX11_seen_5) rfl ?_
  refine okL_cons (ok_icmp_gt rfl dX11_seen_7) rfl ?_
  refine okL_cons (ok_iload_n rfl dX11_seen_10) rfl ?_
  refine okL_cons (ok_invS (M' := 159) kw_454 kw_90 kw_79 kw_91 rfl (by decide +kernel) dX11_seen_11) rfl ?_
  refine okL_cons (ok_if_ne rfl dX11_seen_14) rfl ?_
  refine okL_cons (ok_aload_n rfl dX11_seen_17) rfl ?_
  refine okL_cons (ok_getP kw_453 cf_X11 rfl rfl (by decide) dX11_seen_18) rfl ?_
  refine okL_cons (ok_iconst rfl dX11_seen_21) rfl ?_
  refine okL_cons (ok_invV (M' := 25) kw_467 kw_108 kw_109 kw_110 kw_111 cf_X3 rfl (by decide +kernel) dX11_seen_22) rfl ?_
  refine okL_cons (ok_ireturn rfl dX11_seen_25) rfl ?_
  refine okL_cons (ok_aload_n rfl dX11_seen_26) rfl ?_
  refine okL_cons (ok_getP kw_394 cf_X11 rfl rfl (by decide) dX11_seen_27) rfl ?_
  refine okL_cons (ok_getNI 40 cf_X1 rfl rfl rfl (by decide) dX11_seen_30) rfl ?_
  refine okL_cons (ok_bipush rfl dX11_seen_33) rfl ?_
  refine okL_cons (ok_icmp_lt rfl dX11_seen_35) rfl ?_
  refine okL_cons (ok_aload_n rfl dX11_seen_38) rfl ?_
  refine okL_cons (ok_getP kw_453 cf_X11 rfl rfl (by decide) dX11_seen_39) rfl ?_
  refine okL_cons (ok_bipush rfl dX11_seen_42) rfl ?_
  refine okL_cons (ok_invV (M' := 25) kw_467 kw_108 kw_109 kw_110 kw_111 cf_X3 rfl (by decide +kernel) dX11_seen_44) rfl ?_
  refine okL_cons (ok_ireturn rfl dX11_seen_47) rfl ?_
  refine okL_cons (ok_aload_n rfl dX11_seen_48) rfl ?_
  refine okL_cons (ok_getP kw_394 cf_X11 rfl rfl (by decide) dX11_seen_49) rfl ?_
  refine okL_cons (ok_getNP 36 cf_X1 rfl rfl rfl (by decide) dX11_seen_52) rfl ?_
  refine okL_cons (ok_aload_n rfl dX11_seen_55) rfl ?_
  refine okL_cons (ok_getP kw_394 cf_X11 rfl rfl (by decide) dX11_seen_56) rfl ?_
  refine okL_cons (ok_getNI 40 cf_X1 rfl rfl rfl (by decide) dX11_seen_59) rfl ?_
  refine okL_cons (ok_iload_n rfl dX11_seen_62) rfl ?_
  refine okL_cons (ok_iastore dX11_seen_63) rfl ?_
  refine okL_cons (ok_aload_n rfl dX11_seen_64) rfl ?_
  refine okL_cons (ok_getP kw_394 cf_X11 rfl rfl (by decide) dX11_seen_65) rfl ?_
  refine okL_cons (ok_getNP 38 cf_X1 rfl rfl rfl (by decide) dX11_seen_68) rfl ?_
  refine okL_cons (ok_aload_n rfl dX11_seen_71) rfl ?_
  refine okL_cons (ok_getP kw_394 cf_X11 rfl rfl (by decide) dX11_seen_72) rfl ?_
  refine okL_cons (ok_getNI 40 cf_X1 rfl rfl rfl (by decide) dX11_seen_75) rfl ?_
  refine okL_cons (ok_iload_n rfl dX11_seen_78) rfl ?_
  refine okL_cons (ok_iastore dX11_seen_79) rfl ?_
  refine okL_cons (ok_aload_n rfl dX11_seen_80) rfl ?_
  refine okL_cons (ok_getP kw_394 cf_X11 rfl rfl (by decide) dX11_seen_81) rfl ?_
  refine okL_cons (ok_dup dX11_seen_84) rfl ?_
  refine okL_cons (ok_getNI 40 cf_X1 rfl rfl rfl (by decide) dX11_seen_85) rfl ?_
  refine okL_cons (ok_iconst rfl dX11_seen_88) rfl ?_
  refine okL_cons (ok_iadd dX11_seen_89) rfl ?_
  refine okL_cons (ok_putNI 40 cf_X1 rfl rfl rfl (by decide) rfl dX11_seen_90) rfl ?_
  refine okL_cons (ok_aload_n rfl dX11_seen_93) rfl ?_
  refine okL_cons (ok_getP kw_453 cf_X11 rfl rfl (by decide) dX11_seen_94) rfl ?_
  refine okL_cons (ok_aload_n rfl dX11_seen_97) rfl ?_
  refine okL_cons (ok_getP kw_394 cf_X11 rfl rfl (by decide) dX11_seen_98) rfl ?_
  refine okL_cons (ok_getNI 40 cf_X1 rfl rfl rfl (by decide) dX11_seen_101) rfl ?_
  refine okL_cons (ok_invV (M' := 26) kw_472 kw_113 kw_114 kw_110 kw_115 cf_X3 rfl (by decide +kernel) dX11_seen_104) rfl ?_
  exact okL_one (ok_ireturn rfl dX11_seen_107)
theorem dX11_forget_0 : decode cX11_forget 0 = .ok (.aload_n 0, 1) := by decide +kernel
theorem dX11_forget_1 : decode cX11_forget 1 = .ok (.getfield 12, 3) := by decide +kernel
theorem dX11_forget_4 : decode cX11_forget 4 = .ok (.getfield 364, 3) := by decide +kernel
theorem dX11_forget_7 : decode cX11_forget 7 = .ok (.istore_n 1, 1) := by decide +kernel
theorem dX11_forget_8 : decode cX11_forget 8 = .ok (.aload_n 0, 1) := by decide +kernel
theorem dX11_forget_9 : decode cX11_forget 9 = .ok (.getfield 12, 3) := by decide +kernel
theorem dX11_forget_12 : decode cX11_forget 12 = .ok (.iconst 0, 1) := by decide +kernel
theorem dX11_forget_13 : decode cX11_forget 13 = .ok (.putfield 364, 3) := by decide +kernel
theorem dX11_forget_16 : decode cX11_forget 16 = .ok (.iload_n 1, 1) := by decide +kernel
theorem dX11_forget_17 : decode cX11_forget 17 = .ok (.ireturn, 1) := by decide +kernel
set_option maxRecDepth 100000 in
theorem okm_X11_forget : okL RX11 cX11_forget 2 (some .int) "forget" pcX11_forget opX11_forget pcX11_forget := by
  unfold opX11_forget
  refine okL_cons (ok_aload_n rfl dX11_forget_0) rfl ?_
  refine okL_cons (ok_getP kw_394 cf_X11 rfl rfl (by decide) dX11_forget_1) rfl ?_
  refine okL_cons (ok_getNI 40 cf_X1 rfl rfl rfl (by decide) dX11_forget_4) rfl ?_
  refine okL_cons (ok_istore_n rfl dX11_forget_7) rfl ?_
  refine okL_cons (ok_aload_n rfl dX11_forget_8) rfl ?_
  refine okL_cons (ok_getP kw_394 cf_X11 rfl rfl (by decide) dX11_forget_9) rfl ?_
  refine okL_cons (ok_iconst rfl dX11_forget_12) rfl ?_
  refine okL_cons (ok_putNI 40 cf_X1 rfl rfl rfl (by decide) rfl dX11_forget_13) rfl ?_
  refine okL_cons (ok_iload_n rfl dX11_forget_16) rfl ?_
  exact okL_one (ok_ireturn rfl dX11_forget_17)
theorem dX11_canBe_0 : decode cX11_canBe 0 = .ok (.aload_n 0, 1) := by decide +kernel
theorem dX11_canBe_1 : decode cX11_canBe 1 = .ok (.invokevirtual 373, 3) := by decide +kernel
theorem dX11_canBe_4 : decode cX11_canBe 4 = .ok (.aload_n 0, 1) := by decide +kernel
theorem dX11_canBe_5 : decode cX11_canBe 5 = .ok (.getfield 106, 3) := by decide +kernel
theorem dX11_canBe_8 : decode cX11_canBe 8 = .ok (.aload_n 0, 1) := by decide +kernel
theorem dX11_canBe_9 : decode cX11_canBe 9 = .ok (.getfield 12, 3) := by decide +kernel
theorem dX11_canBe_12 : decode cX11_canBe 12 = .ok (.aload_n 0, 1) := by decide +kernel
theorem dX11_canBe_13 : decode cX11_canBe 13 = .ok (.getfield 20, 3) := by decide +kernel
theorem dX11_canBe_16 : decode cX11_canBe 16 = .ok (.invokevirtual 376, 3) := by decide +kernel
theorem dX11_canBe_19 : decode cX11_canBe 19 = .ok (.ireturn, 1) := by decide +kernel
set_option maxRecDepth 100000 in
theorem okm_X11_canBe : okL RX11 cX11_canBe 1 (some .int) "canBe" pcX11_canBe opX11_canBe pcX11_canBe := by
  unfold opX11_canBe
  refine okL_cons (ok_aload_n rfl dX11_canBe_0) rfl ?_
  refine okL_cons (ok_invV (M' := 147) kw_611 kw_612 kw_613 kw_79 kw_614 cf_X11 rfl (by decide +kernel) dX11_canBe_1) rfl ?_
  refine okL_cons (ok_aload_n rfl dX11_canBe_4) rfl ?_
  refine okL_cons (ok_getP kw_446 cf_X11 rfl rfl (by decide) dX11_canBe_5) rfl ?_
  refine okL_cons (ok_aload_n rfl dX11_canBe_8) rfl ?_
  refine okL_cons (ok_getP kw_394 cf_X11 rfl rfl (by decide) dX11_canBe_9) rfl ?_
  refine okL_cons (ok_aload_n rfl dX11_canBe_12) rfl ?_
  refine okL_cons (ok_getP kw_395 cf_X11 rfl rfl (by decide) dX11_canBe_13) rfl ?_
  refine okL_cons (ok_invV (M' := 99) kw_615 kw_616 kw_617 kw_381 kw_618 cf_X10 rfl (by decide +kernel) dX11_canBe_16) rfl ?_
  exact okL_one (ok_ireturn rfl dX11_canBe_19)
theorem dX11_look_0 : decode cX11_look 0 = .ok (.iload_n 1, 1) := by decide +kernel
theorem dX11_look_1 : decode cX11_look 1 = .ok (.ifCond .lt 8, 3) := by decide +kernel
theorem dX11_look_4 : decode cX11_look 4 = .ok (.iload_n 1, 1) := by decide +kernel
theorem dX11_look_5 : decode cX11_look 5 = .ok (.iconst 1, 1) := by decide +kernel
theorem dX11_look_6 : decode cX11_look 6 = .ok (.if_icmp .le 5, 3) := by decide +kernel
theorem dX11_look_9 : decode cX11_look 9 = .ok (.iconst (-1), 1) := by decide +kernel
theorem dX11_look_10 : decode cX11_look 10 = .ok (.ireturn, 1) := by decide +kernel
theorem dX11_look_11 : decode cX11_look 11 = .ok (.aload_n 0, 1) := by decide +kernel
theorem dX11_look_12 : decode cX11_look 12 = .ok (.invokevirtual 373, 3) := by decide +kernel
theorem dX11_look_15 : decode cX11_look 15 = .ok (.aload_n 0, 1) := by decide +kernel
theorem dX11_look_16 : decode cX11_look 16 = .ok (.getfield 106, 3) := by decide +kernel
theorem dX11_look_19 : decode cX11_look 19 = .ok (.aload_n 0, 1) := by decide +kernel
theorem dX11_look_20 : decode cX11_look 20 = .ok (.getfield 12, 3) := by decide +kernel
theorem dX11_look_23 : decode cX11_look 23 = .ok (.aload_n 0, 1) := by decide +kernel
theorem dX11_look_24 : decode cX11_look 24 = .ok (.getfield 20, 3) := by decide +kernel
theorem dX11_look_27 : decode cX11_look 27 = .ok (.invokevirtual 376, 3) := by decide +kernel
theorem dX11_look_30 : decode cX11_look 30 = .ok (.istore_n 2, 1) := by decide +kernel
theorem dX11_look_31 : decode cX11_look 31 = .ok (.iload_n 2, 1) := by decide +kernel
theorem dX11_look_32 : decode cX11_look 32 = .ok (.ifCond .ne 5, 3) := by decide +kernel
theorem dX11_look_35 : decode cX11_look 35 = .ok (.iconst (-1), 1) := by decide +kernel
theorem dX11_look_36 : decode cX11_look 36 = .ok (.ireturn, 1) := by decide +kernel
theorem dX11_look_37 : decode cX11_look 37 = .ok (.aload_n 0, 1) := by decide +kernel
theorem dX11_look_38 : decode cX11_look 38 = .ok (.getfield 106, 3) := by decide +kernel
theorem dX11_look_41 : decode cX11_look 41 = .ok (.iload_n 2, 1) := by decide +kernel
theorem dX11_look_42 : decode cX11_look 42 = .ok (.invokevirtual 380, 3) := by decide +kernel
theorem dX11_look_45 : decode cX11_look 45 = .ok (.istore_n 3, 1) := by decide +kernel
theorem dX11_look_46 : decode cX11_look 46 = .ok (.iload_n 1, 1) := by decide +kernel
theorem dX11_look_47 : decode cX11_look 47 = .ok (.ifCond .ne 7, 3) := by decide +kernel
theorem dX11_look_50 : decode cX11_look 50 = .ok (.iload_n 3, 1) := by decide +kernel
theorem dX11_look_51 : decode cX11_look 51 = .ok (.goto 12, 3) := by decide +kernel
theorem dX11_look_54 : decode cX11_look 54 = .ok (.aload_n 0, 1) := by decide +kernel
theorem dX11_look_55 : decode cX11_look 55 = .ok (.getfield 106, 3) := by decide +kernel
theorem dX11_look_58 : decode cX11_look 58 = .ok (.iload_n 3, 1) := by decide +kernel
theorem dX11_look_59 : decode cX11_look 59 = .ok (.iload_n 2, 1) := by decide +kernel
theorem dX11_look_60 : decode cX11_look 60 = .ok (.invokevirtual 383, 3) := by decide +kernel
theorem dX11_look_63 : decode cX11_look 63 = .ok (.ireturn, 1) := by decide +kernel
set_option maxRecDepth 100000 in
theorem okm_X11_look : okL RX11 cX11_look 4 (some .int) "look" pcX11_look opX11_look pcX11_look := by
  unfold opX11_look
  refine okL_cons (ok_iload_n rfl dX11_look_0) rfl ?_
  refine okL_cons (ok_if_lt rfl dX11_look_1) rfl ?_
  refine okL_cons (ok_iload_n rfl dX11_look_4) rfl ?_
  refine okL_cons (ok_iconst rfl dX11_look_5) rfl ?_
  refine okL_cons (ok_icmp_le rfl dX11_look_6) rfl ?_
  refine okL_cons (ok_iconst rfl dX11_look_9) rfl ?_
  refine okL_cons (ok_ireturn rfl dX11_look_10) rfl ?_
  refine okL_cons (ok_aload_n rfl dX11_look_11) rfl ?_
  refine okL_cons (ok_invV (M' := 147) kw_611 kw_612 kw_613 kw_79 kw_614 cf_X11 rfl (by decide +kernel) dX11_look_12) rfl ?_
  refine okL_cons (ok_aload_n rfl dX11_look_15) rfl ?_
  refine okL_cons (ok_getP kw_446 cf_X11 rfl rfl (by decide) dX11_look_16) rfl ?_
  refine okL_cons (ok_aload_n rfl dX11_look_19) rfl ?_
  refine okL_cons (ok_getP kw_394 cf_X11 rfl rfl (by decide) dX11_look_20) rfl ?_
  refine okL_cons (ok_aload_n rfl dX11_look_23) rfl ?_
  refine okL_cons (ok_getP kw_395 cf_X11 rfl rfl (by decide) dX11_look_24) rfl ?_
  refine okL_cons (ok_invV (M' := 99) kw_615 kw_616 kw_617 kw_381 kw_618 cf_X10 rfl (by decide +kernel) dX11_look_27) rfl ?_
  refine okL_cons (ok_istore_n rfl dX11_look_30) rfl ?_
  refine okL_cons (ok_iload_n rfl dX11_look_31) rfl ?_
  refine okL_cons (ok_if_ne rfl dX11_look_32) rfl ?_
  refine okL_cons (ok_iconst rfl dX11_look_35) rfl ?_
  refine okL_cons (ok_ireturn rfl dX11_look_36) rfl ?_
  refine okL_cons (ok_aload_n rfl dX11_look_37) rfl ?_
  refine okL_cons (ok_getP kw_446 cf_X11 rfl rfl (by decide) dX11_look_38) rfl ?_
  refine okL_cons (ok_iload_n rfl dX11_look_41) rfl ?_
  refine okL_cons (ok_invV (M' := 102) kw_619 kw_620 kw_621 kw_381 kw_622 cf_X10 rfl (by decide +kernel) dX11_look_42) rfl ?_
  refine okL_cons (ok_istore_n rfl dX11_look_45) rfl ?_
  refine okL_cons (ok_iload_n rfl dX11_look_46) rfl ?_
  refine okL_cons (ok_if_ne rfl dX11_look_47) rfl ?_
  refine okL_cons (ok_iload_n rfl dX11_look_50) rfl ?_
  refine okL_cons (ok_goto rfl dX11_look_51) rfl ?_
  refine okL_cons (ok_aload_n rfl dX11_look_54) rfl ?_
  refine okL_cons (ok_getP kw_446 cf_X11 rfl rfl (by decide) dX11_look_55) rfl ?_
  refine okL_cons (ok_iload_n rfl dX11_look_58) rfl ?_
  refine okL_cons (ok_iload_n rfl dX11_look_59) rfl ?_
  refine okL_cons (ok_invV (M' := 101) kw_623 kw_385 kw_386 kw_381 kw_387 cf_X10 rfl (by decide +kernel) dX11_look_60) rfl ?_
  exact okL_one (ok_ireturn rfl dX11_look_63)
theorem dX11_watchLetters_0 : decode cX11_watchLetters 0 = .ok (.aload_n 0, 1) := by decide +kernel
theorem dX11_watchLetters_1 : decode cX11_watchLetters 1 = .ok (.getfield 47, 3) := by decide +kernel
theorem dX11_watchLetters_4 : decode cX11_watchLetters 4 = .ok (.aload_n 0, 1) := by decide +kernel
theorem dX11_watchLetters_5 : decode cX11_watchLetters 5 = .ok (.getfield 20, 3) := by decide +kernel
theorem dX11_watchLetters_8 : decode cX11_watchLetters 8 = .ok (.invokevirtual 218, 3) := by decide +kernel
theorem dX11_watchLetters_11 : decode cX11_watchLetters 11 = .ok (.iconst 0, 1) := by decide +kernel
theorem dX11_watchLetters_12 : decode cX11_watchLetters 12 = .ok (.istore_n 1, 1) := by decide +kernel
theorem dX11_watchLetters_13 : decode cX11_watchLetters 13 = .ok (.iload_n 1, 1) := by decide +kernel
theorem dX11_watchLetters_14 : decode cX11_watchLetters 14 = .ok (.bipush 30, 2) := by decide +kernel
theorem dX11_watchLetters_16 : decode cX11_watchLetters 16 = .ok (.if_icmp .gt 33, 3) := by decide +kernel
theorem dX11_watchLetters_19 : decode cX11_watchLetters 19 = .ok (.aload_n 0, 1) := by decide +kernel
theorem dX11_watchLetters_20 : decode cX11_watchLetters 20 = .ok (.getfield 106, 3) := by decide +kernel
theorem dX11_watchLetters_23 : decode cX11_watchLetters 23 = .ok (.iload_n 1, 1) := by decide +kernel
theorem dX11_watchLetters_24 : decode cX11_watchLetters 24 = .ok (.aload_n 0, 1) := by decide +kernel
theorem dX11_watchLetters_25 : decode cX11_watchLetters 25 = .ok (.getfield 47, 3) := by decide +kernel
theorem dX11_watchLetters_28 : decode cX11_watchLetters 28 = .ok (.invokevirtual 386, 3) := by decide +kernel
theorem dX11_watchLetters_31 : decode cX11_watchLetters 31 = .ok (.aload_n 0, 1) := by decide +kernel
theorem dX11_watchLetters_32 : decode cX11_watchLetters 32 = .ok (.getfield 92, 3) := by decide +kernel
theorem dX11_watchLetters_35 : decode cX11_watchLetters 35 = .ok (.aload_n 0, 1) := by decide +kernel
theorem dX11_watchLetters_36 : decode cX11_watchLetters 36 = .ok (.getfield 47, 3) := by decide +kernel
theorem dX11_watchLetters_39 : decode cX11_watchLetters 39 = .ok (.invokevirtual 284, 3) := by decide +kernel
theorem dX11_watchLetters_42 : decode cX11_watchLetters 42 = .ok (.pop, 1) := by decide +kernel
theorem dX11_watchLetters_43 : decode cX11_watchLetters 43 = .ok (.iinc 1 1, 3) := by decide +kernel
theorem dX11_watchLetters_46 : decode cX11_watchLetters 46 = .ok (.goto (-33), 3) := by decide +kernel
theorem dX11_watchLetters_49 : decode cX11_watchLetters 49 = .ok (.return_, 1) := by decide +kernel
set_option maxRecDepth 100000 in
theorem okm_X11_watchLetters : okL RX11 cX11_watchLetters 2 none "watchLetters" pcX11_watchLetters opX11_watchLetters pcX11_watchLetters := by
  unfold opX11_watchLetters
  refine okL_cons (ok_aload_n rfl dX11_watchLetters_0) rfl ?_
  refine okL_cons (ok_getP kw_410 cf_X11 rfl rfl (by decide) dX11_watchLetters_1) rfl ?_
  refine okL_cons (ok_aload_n rfl dX11_watchLetters_4) rfl ?_
  refine okL_cons (ok_getP kw_395 cf_X11 rfl rfl (by decide) dX11_watchLetters_5) rfl ?_
  refine okL_cons (ok_invV (M' := 17) kw_501 kw_63 kw_64 kw_47 kw_65 cf_X2 rfl (by decide +kernel) dX11_watchLetters_8) rfl ?_
  refine okL_cons (ok_iconst rfl dX11_watchLetters_11) rfl ?_
  refine okL_cons (ok_istore_n rfl dX11_watchLetters_12) rfl ?_
  refine okL_cons (ok_iload_n rfl dX11_watchLetters_13) rfl ?_
  refine okL_cons (ok_bipush rfl dX11_watchLetters_14) rfl ?_
  refine okL_cons (ok_icmp_gt rfl dX11_watchLetters_16) rfl ?_
  refine okL_cons (ok_aload_n rfl dX11_watchLetters_19) rfl ?_
  refine okL_cons (ok_getP kw_446 cf_X11 rfl rfl (by decide) dX11_watchLetters_20) rfl ?_
  refine okL_cons (ok_iload_n rfl dX11_watchLetters_23) rfl ?_
  refine okL_cons (ok_aload_n rfl dX11_watchLetters_24) rfl ?_
  refine okL_cons (ok_getP kw_410 cf_X11 rfl rfl (by decide) dX11_watchLetters_25) rfl ?_
  refine okL_cons (ok_invV (M' := 98) kw_624 kw_625 kw_626 kw_381 kw_627 cf_X10 rfl (by decide +kernel) dX11_watchLetters_28) rfl ?_
  refine okL_cons (ok_aload_n rfl dX11_watchLetters_31) rfl ?_
  refine okL_cons (ok_getP kw_436 cf_X11 rfl rfl (by decide) dX11_watchLetters_32) rfl ?_
  refine okL_cons (ok_aload_n rfl dX11_watchLetters_35) rfl ?_
  refine okL_cons (ok_getP kw_410 cf_X11 rfl rfl (by decide) dX11_watchLetters_36) rfl ?_
  refine okL_cons (ok_invV (M' := 64) kw_541 kw_542 kw_543 kw_252 kw_544 cf_X6 rfl (by decide +kernel) dX11_watchLetters_39) rfl ?_
  refine okL_cons (ok_pop dX11_watchLetters_42) rfl ?_
  refine okL_cons (ok_iinc rfl dX11_watchLetters_43) rfl ?_
  refine okL_cons (ok_goto rfl dX11_watchLetters_46) rfl ?_
  exact okL_one (ok_return rfl dX11_watchLetters_49)
theorem dX11_few_0 : decode cX11_few 0 = .ok (.iload_n 1, 1) := by decide +kernel
theorem dX11_few_1 : decode cX11_few 1 = .ok (.iconst 1, 1) := by decide +kernel
theorem dX11_few_2 : decode cX11_few 2 = .ok (.if_icmp .lt 19, 3) := by decide +kernel
theorem dX11_few_5 : decode cX11_few 5 = .ok (.iload_n 1, 1) := by decide +kernel
theorem dX11_few_6 : decode cX11_few 6 = .ok (.bipush 20, 2) := by decide +kernel
theorem dX11_few_8 : decode cX11_few 8 = .ok (.if_icmp .gt 13, 3) := by decide +kernel
theorem dX11_few_11 : decode cX11_few 11 = .ok (.iload_n 2, 1) := by decide +kernel
theorem dX11_few_12 : decode cX11_few 12 = .ok (.ifCond .lt 9, 3) := by decide +kernel
theorem dX11_few_15 : decode cX11_few 15 = .ok (.iload_n 2, 1) := by decide +kernel
theorem dX11_few_16 : decode cX11_few 16 = .ok (.bipush 99, 2) := by decide +kernel
theorem dX11_few_18 : decode cX11_few 18 = .ok (.if_icmp .le 7, 3) := by decide +kernel
theorem dX11_few_21 : decode cX11_few 21 = .ok (.ldc2_w 390, 3) := by decide +kernel
theorem dX11_few_24 : decode cX11_few 24 = .ok (.lreturn, 1) := by decide +kernel
theorem dX11_few_25 : decode cX11_few 25 = .ok (.iconst 0, 1) := by decide +kernel
theorem dX11_few_26 : decode cX11_few 26 = .ok (.istore_n 3, 1) := by decide +kernel
theorem dX11_few_27 : decode cX11_few 27 = .ok (.iload_n 3, 1) := by decide +kernel
theorem dX11_few_28 : decode cX11_few 28 = .ok (.iload_n 1, 1) := by decide +kernel
theorem dX11_few_29 : decode cX11_few 29 = .ok (.if_icmp .ge 26, 3) := by decide +kernel
theorem dX11_few_32 : decode cX11_few 32 = .ok (.aload_n 0, 1) := by decide +kernel
theorem dX11_few_33 : decode cX11_few 33 = .ok (.getfield 110, 3) := by decide +kernel
theorem dX11_few_36 : decode cX11_few 36 = .ok (.iload_n 3, 1) := by decide +kernel
theorem dX11_few_37 : decode cX11_few 37 = .ok (.iload_n 3, 1) := by decide +kernel
theorem dX11_few_38 : decode cX11_few 38 = .ok (.ifCond .ne 9, 3) := by decide +kernel
theorem dX11_few_41 : decode cX11_few 41 = .ok (.ldc2_w 392, 3) := by decide +kernel
theorem dX11_few_44 : decode cX11_few 44 = .ok (.goto 4, 3) := by decide +kernel
theorem dX11_few_47 : decode cX11_few 47 = .ok (.lconst 0, 1) := by decide +kernel
theorem dX11_few_48 : decode cX11_few 48 = .ok (.lastore, 1) := by decide +kernel
theorem dX11_few_49 : decode cX11_few 49 = .ok (.iinc 3 1, 3) := by decide +kernel
theorem dX11_few_52 : decode cX11_few 52 = .ok (.goto (-25), 3) := by decide +kernel
theorem dX11_few_55 : decode cX11_few 55 = .ok (.iconst 0, 1) := by decide +kernel
theorem dX11_few_56 : decode cX11_few 56 = .ok (.istore_n 3, 1) := by decide +kernel
theorem dX11_few_57 : decode cX11_few 57 = .ok (.iload_n 3, 1) := by decide +kernel
theorem dX11_few_58 : decode cX11_few 58 = .ok (.iload_n 2, 1) := by decide +kernel
theorem dX11_few_59 : decode cX11_few 59 = .ok (.if_icmp .ge 14, 3) := by decide +kernel
theorem dX11_few_62 : decode cX11_few 62 = .ok (.aload_n 0, 1) := by decide +kernel
theorem dX11_few_63 : decode cX11_few 63 = .ok (.iload_n 1, 1) := by decide +kernel
theorem dX11_few_64 : decode cX11_few 64 = .ok (.invokevirtual 394, 3) := by decide +kernel
theorem dX11_few_67 : decode cX11_few 67 = .ok (.iinc 3 1, 3) := by decide +kernel
theorem dX11_few_70 : decode cX11_few 70 = .ok (.goto (-13), 3) := by decide +kernel
theorem dX11_few_73 : decode cX11_few 73 = .ok (.lconst 0, 1) := by decide +kernel
theorem dX11_few_74 : decode cX11_few 74 = .ok (.lstore_n 3, 1) := by decide +kernel
theorem dX11_few_75 : decode cX11_few 75 = .ok (.iconst 0, 1) := by decide +kernel
theorem dX11_few_76 : decode cX11_few 76 = .ok (.istore 5, 2) := by decide +kernel
theorem dX11_few_78 : decode cX11_few 78 = .ok (.iload 5, 2) := by decide +kernel
theorem dX11_few_80 : decode cX11_few 80 = .ok (.iload_n 1, 1) := by decide +kernel
theorem dX11_few_81 : decode cX11_few 81 = .ok (.if_icmp .ge 19, 3) := by decide +kernel
theorem dX11_few_84 : decode cX11_few 84 = .ok (.lload_n 3, 1) := by decide +kernel
theorem dX11_few_85 : decode cX11_few 85 = .ok (.aload_n 0, 1) := by decide +kernel
theorem dX11_few_86 : decode cX11_few 86 = .ok (.getfield 110, 3) := by decide +kernel
theorem dX11_few_89 : decode cX11_few 89 = .ok (.iload 5, 2) := by decide +kernel
theorem dX11_few_91 : decode cX11_few 91 = .ok (.laload, 1) := by decide +kernel
theorem dX11_few_92 : decode cX11_few 92 = .ok (.ladd, 1) := by decide +kernel
theorem dX11_few_93 : decode cX11_few 93 = .ok (.lstore_n 3, 1) := by decide +kernel
theorem dX11_few_94 : decode cX11_few 94 = .ok (.iinc 5 1, 3) := by decide +kernel
theorem dX11_few_97 : decode cX11_few 97 = .ok (.goto (-19), 3) := by decide +kernel
theorem dX11_few_100 : decode cX11_few 100 = .ok (.lload_n 3, 1) := by decide +kernel
theorem dX11_few_101 : decode cX11_few 101 = .ok (.lreturn, 1) := by decide +kernel
set_option maxRecDepth 100000 in
theorem okm_X11_few : okL RX11 cX11_few 6 (some .long) "few" pcX11_few opX11_few pcX11_few := by
  unfold opX11_few
  refine okL_cons (ok_iload_n rfl dX11_few_0) rfl ?_
  refine okL_cons (ok_iconst rfl dX11_few_1) rfl ?_
  refine okL_cons (ok_icmp_lt rfl dX11_few_2) rfl ?_
  refine okL_cons (ok_iload_n rfl dX11_few_5) rfl ?_
  refine okL_cons (ok_bipush rfl dX11_few_6) rfl ?_
  refine okL_cons (ok_icmp_gt rfl dX11_few_8) rfl ?_
  refine okL_cons (ok_iload_n rfl dX11_few_11) rfl ?_
  refine okL_cons (ok_if_lt rfl dX11_few_12) rfl ?_
  refine okL_cons (ok_iload_n rfl dX11_few_15) rfl ?_
  refine okL_cons (ok_bipush rfl dX11_few_16) rfl ?_
  refine okL_cons (ok_icmp_le rfl dX11_few_18) rfl ?_
  refine okL_cons (ok_ldc2 kw_628 dX11_few_21) rfl ?_
  refine okL_cons (ok_lreturn rfl dX11_few_24) rfl ?_
  refine okL_cons (ok_iconst rfl dX11_few_25) rfl ?_
  refine okL_cons (ok_istore_n rfl dX11_few_26) rfl ?_
  refine okL_cons (ok_iload_n rfl dX11_few_27) rfl ?_
  refine okL_cons (ok_iload_n rfl dX11_few_28) rfl ?_
  refine okL_cons (ok_icmp_ge rfl dX11_few_29) rfl ?_
  refine okL_cons (ok_aload_n rfl dX11_few_32) rfl ?_
  refine okL_cons (ok_getP kw_448 cf_X11 rfl rfl (by decide) dX11_few_33) rfl ?_
  refine okL_cons (ok_iload_n rfl dX11_few_36) rfl ?_
  refine okL_cons (ok_iload_n rfl dX11_few_37) rfl ?_
  refine okL_cons (ok_if_ne rfl dX11_few_38) rfl ?_
  refine okL_cons (ok_ldc2 kw_629 dX11_few_41) rfl ?_
  refine okL_cons (ok_goto rfl dX11_few_44) rfl ?_
  refine okL_cons (ok_lconst rfl dX11_few_47) rfl ?_
  refine okL_cons (ok_lastore dX11_few_48) rfl ?_
  refine okL_cons (ok_iinc rfl dX11_few_49) rfl ?_
  refine okL_cons (ok_goto rfl dX11_few_52) rfl ?_
  refine okL_cons (ok_iconst rfl dX11_few_55) rfl ?_
  refine okL_cons (ok_istore_n rfl dX11_few_56) rfl ?_
  refine okL_cons (ok_iload_n rfl dX11_few_57) rfl ?_
  refine okL_cons (ok_iload_n rfl dX11_few_58) rfl ?_
  refine okL_cons (ok_icmp_ge rfl dX11_few_59) rfl ?_
  refine okL_cons (ok_aload_n rfl dX11_few_62) rfl ?_
  refine okL_cons (ok_iload_n rfl dX11_few_63) rfl ?_
  refine okL_cons (ok_invV (M' := 149) kw_630 kw_631 kw_632 kw_79 kw_633 cf_X11 rfl (by decide +kernel) dX11_few_64) rfl ?_
  refine okL_cons (ok_iinc rfl dX11_few_67) rfl ?_
  refine okL_cons (ok_goto rfl dX11_few_70) rfl ?_
  refine okL_cons (ok_lconst rfl dX11_few_73) rfl ?_
  refine okL_cons (ok_lstore_n rfl dX11_few_74) rfl ?_
  refine okL_cons (ok_iconst rfl dX11_few_75) rfl ?_
  refine okL_cons (ok_istore dX11_few_76) rfl ?_
  refine okL_cons (ok_iload dX11_few_78) rfl ?_
  refine okL_cons (ok_iload_n rfl dX11_few_80) rfl ?_
  refine okL_cons (ok_icmp_ge rfl dX11_few_81) rfl ?_
  refine okL_cons (ok_lload_n rfl dX11_few_84) rfl ?_
  refine okL_cons (ok_aload_n rfl dX11_few_85) rfl ?_
  refine okL_cons (ok_getP kw_448 cf_X11 rfl rfl (by decide) dX11_few_86) rfl ?_
  refine okL_cons (ok_iload dX11_few_89) rfl ?_
  refine okL_cons (ok_laload dX11_few_91) rfl ?_
  refine okL_cons (ok_ladd dX11_few_92) rfl ?_
  refine okL_cons (ok_lstore_n rfl dX11_few_93) rfl ?_
  refine okL_cons (ok_iinc rfl dX11_few_94) rfl ?_
  refine okL_cons (ok_goto rfl dX11_few_97) rfl ?_
  refine okL_cons (ok_lload_n rfl dX11_few_100) rfl ?_
  exact okL_one (ok_lreturn rfl dX11_few_101)
theorem dX11_partBelow_0 : decode cX11_partBelow 0 = .ok (.iload_n 1, 1) := by decide +kernel
theorem dX11_partBelow_1 : decode cX11_partBelow 1 = .ok (.iconst 1, 1) := by decide +kernel
theorem dX11_partBelow_2 : decode cX11_partBelow 2 = .ok (.isub, 1) := by decide +kernel
theorem dX11_partBelow_3 : decode cX11_partBelow 3 = .ok (.istore_n 2, 1) := by decide +kernel
theorem dX11_partBelow_4 : decode cX11_partBelow 4 = .ok (.iload_n 2, 1) := by decide +kernel
theorem dX11_partBelow_5 : decode cX11_partBelow 5 = .ok (.ifCond .lt 69, 3) := by decide +kernel
theorem dX11_partBelow_8 : decode cX11_partBelow 8 = .ok (.iload_n 2, 1) := by decide +kernel
theorem dX11_partBelow_9 : decode cX11_partBelow 9 = .ok (.ifCond .ne 7, 3) := by decide +kernel
theorem dX11_partBelow_12 : decode cX11_partBelow 12 = .ok (.lconst 0, 1) := by decide +kernel
theorem dX11_partBelow_13 : decode cX11_partBelow 13 = .ok (.goto 24, 3) := by decide +kernel
theorem dX11_partBelow_16 : decode cX11_partBelow 16 = .ok (.aload_n 0, 1) := by decide +kernel
theorem dX11_partBelow_17 : decode cX11_partBelow 17 = .ok (.getfield 110, 3) := by decide +kernel
theorem dX11_partBelow_20 : decode cX11_partBelow 20 = .ok (.iload_n 2, 1) := by decide +kernel
theorem dX11_partBelow_21 : decode cX11_partBelow 21 = .ok (.iconst 1, 1) := by decide +kernel
theorem dX11_partBelow_22 : decode cX11_partBelow 22 = .ok (.isub, 1) := by decide +kernel
theorem dX11_partBelow_23 : decode cX11_partBelow 23 = .ok (.laload, 1) := by decide +kernel
theorem dX11_partBelow_24 : decode cX11_partBelow 24 = .ok (.aload_n 0, 1) := by decide +kernel
theorem dX11_partBelow_25 : decode cX11_partBelow 25 = .ok (.getfield 12, 3) := by decide +kernel
theorem dX11_partBelow_28 : decode cX11_partBelow 28 = .ok (.getfield 172, 3) := by decide +kernel
theorem dX11_partBelow_31 : decode cX11_partBelow 31 = .ok (.i2l, 1) := by decide +kernel
theorem dX11_partBelow_32 : decode cX11_partBelow 32 = .ok (.lmul, 1) := by decide +kernel
theorem dX11_partBelow_33 : decode cX11_partBelow 33 = .ok (.ldc2_w 397, 3) := by decide +kernel
theorem dX11_partBelow_36 : decode cX11_partBelow 36 = .ok (.ldiv, 1) := by decide +kernel
theorem dX11_partBelow_37 : decode cX11_partBelow 37 = .ok (.lstore_n 3, 1) := by decide +kernel
theorem dX11_partBelow_38 : decode cX11_partBelow 38 = .ok (.aload_n 0, 1) := by decide +kernel
theorem dX11_partBelow_39 : decode cX11_partBelow 39 = .ok (.getfield 110, 3) := by decide +kernel
theorem dX11_partBelow_42 : decode cX11_partBelow 42 = .ok (.iload_n 2, 1) := by decide +kernel
theorem dX11_partBelow_43 : decode cX11_partBelow 43 = .ok (.aload_n 0, 1) := by decide +kernel
theorem dX11_partBelow_44 : decode cX11_partBelow 44 = .ok (.getfield 110, 3) := by decide +kernel
theorem dX11_partBelow_47 : decode cX11_partBelow 47 = .ok (.iload_n 2, 1) := by decide +kernel
theorem dX11_partBelow_48 : decode cX11_partBelow 48 = .ok (.laload, 1) := by decide +kernel
theorem dX11_partBelow_49 : decode cX11_partBelow 49 = .ok (.bipush 10, 2) := by decide +kernel
theorem dX11_partBelow_51 : decode cX11_partBelow 51 = .ok (.aload_n 0, 1) := by decide +kernel
theorem dX11_partBelow_52 : decode cX11_partBelow 52 = .ok (.getfield 12, 3) := by decide +kernel
theorem dX11_partBelow_55 : decode cX11_partBelow 55 = .ok (.getfield 172, 3) := by decide +kernel
theorem dX11_partBelow_58 : decode cX11_partBelow 58 = .ok (.isub, 1) := by decide +kernel
theorem dX11_partBelow_59 : decode cX11_partBelow 59 = .ok (.i2l, 1) := by decide +kernel
theorem dX11_partBelow_60 : decode cX11_partBelow 60 = .ok (.lmul, 1) := by decide +kernel
theorem dX11_partBelow_61 : decode cX11_partBelow 61 = .ok (.ldc2_w 397, 3) := by decide +kernel
theorem dX11_partBelow_64 : decode cX11_partBelow 64 = .ok (.ldiv, 1) := by decide +kernel
theorem dX11_partBelow_65 : decode cX11_partBelow 65 = .ok (.lload_n 3, 1) := by decide +kernel
theorem dX11_partBelow_66 : decode cX11_partBelow 66 = .ok (.ladd, 1) := by decide +kernel
theorem dX11_partBelow_67 : decode cX11_partBelow 67 = .ok (.lastore, 1) := by decide +kernel
theorem dX11_partBelow_68 : decode cX11_partBelow 68 = .ok (.iinc 2 (-1), 3) := by decide +kernel
theorem dX11_partBelow_71 : decode cX11_partBelow 71 = .ok (.goto (-67), 3) := by decide +kernel
theorem dX11_partBelow_74 : decode cX11_partBelow 74 = .ok (.return_, 1) := by decide +kernel
set_option maxRecDepth 100000 in
theorem okm_X11_partBelow : okL RX11 cX11_partBelow 5 none "partBelow" pcX11_partBelow opX11_partBelow pcX11_partBelow := by
  unfold opX11_partBelow
  refine okL_cons (ok_iload_n rfl dX11_partBelow_0) rfl ?_
  refine okL_cons (ok_iconst rfl dX11_partBelow_1) rfl ?_
  refine okL_cons (ok_isub dX11_partBelow_2) rfl ?_
  refine okL_cons (ok_istore_n rfl dX11_partBelow_3) rfl ?_
  refine okL_cons (ok_iload_n rfl dX11_partBelow_4) rfl ?_
  refine okL_cons (ok_if_lt rfl dX11_partBelow_5) rfl ?_
  refine okL_cons (ok_iload_n rfl dX11_partBelow_8) rfl ?_
  refine okL_cons (ok_if_ne rfl dX11_partBelow_9) rfl ?_
  refine okL_cons (ok_lconst rfl dX11_partBelow_12) rfl ?_
  refine okL_cons (ok_goto rfl dX11_partBelow_13) rfl ?_
  refine okL_cons (ok_aload_n rfl dX11_partBelow_16) rfl ?_
  refine okL_cons (ok_getP kw_448 cf_X11 rfl rfl (by decide) dX11_partBelow_17) rfl ?_
  refine okL_cons (ok_iload_n rfl dX11_partBelow_20) rfl ?_
  refine okL_cons (ok_iconst rfl dX11_partBelow_21) rfl ?_
  refine okL_cons (ok_isub dX11_partBelow_22) rfl ?_
  refine okL_cons (ok_laload dX11_partBelow_23) rfl ?_
  refine okL_cons (ok_aload_n rfl dX11_partBelow_24) rfl ?_
  refine okL_cons (ok_getP kw_394 cf_X11 rfl rfl (by decide) dX11_partBelow_25) rfl ?_
  refine okL_cons (ok_getNI 31 cf_X1 rfl rfl rfl (by decide) dX11_partBelow_28) rfl ?_
  refine okL_cons (ok_i2l dX11_partBelow_31) rfl ?_
  refine okL_cons (ok_lmul dX11_partBelow_32) rfl ?_
  refine okL_cons (ok_ldc2 kw_634 dX11_partBelow_33) rfl ?_
  refine okL_cons (ok_ldiv dX11_partBelow_36) rfl ?_
  refine okL_cons (ok_lstore_n rfl dX11_partBelow_37) rfl ?_
  refine okL_cons (ok_aload_n rfl dX11_partBelow_38) rfl ?_
  refine okL_cons (ok_getP kw_448 cf_X11 rfl rfl (by decide) dX11_partBelow_39) rfl ?_
  refine okL_cons (ok_iload_n rfl dX11_partBelow_42) rfl ?_
  refine okL_cons (ok_aload_n rfl dX11_partBelow_43) rfl ?_
  refine okL_cons (ok_getP kw_448 cf_X11 rfl rfl (by decide) dX11_partBelow_44) rfl ?_
  refine okL_cons (ok_iload_n rfl dX11_partBelow_47) rfl ?_
  refine okL_cons (ok_laload dX11_partBelow_48) rfl ?_
  refine okL_cons (ok_bipush rfl dX11_partBelow_49) rfl ?_
  refine okL_cons (ok_aload_n rfl dX11_partBelow_51) rfl ?_
  refine okL_cons (ok_getP kw_394 cf_X11 rfl rfl (by decide) dX11_partBelow_52) rfl ?_
  refine okL_cons (ok_getNI 31 cf_X1 rfl rfl rfl (by decide) dX11_partBelow_55) rfl ?_
  refine okL_cons (ok_isub dX11_partBelow_58) rfl ?_
  refine okL_cons (ok_i2l dX11_partBelow_59) rfl ?_
  refine okL_cons (ok_lmul dX11_partBelow_60) rfl ?_
  refine okL_cons (ok_ldc2 kw_634 dX11_partBelow_61) rfl ?_
  refine okL_cons (ok_ldiv dX11_partBelow_64) rfl ?_
  refine okL_cons (ok_lload_n rfl dX11_partBelow_65) rfl ?_
  refine okL_cons (ok_ladd dX11_partBelow_66) rfl ?_
  refine okL_cons (ok_lastore dX11_partBelow_67) rfl ?_
  refine okL_cons (ok_iinc rfl dX11_partBelow_68) rfl ?_
  refine okL_cons (ok_goto rfl dX11_partBelow_71) rfl ?_
  exact okL_one (ok_return rfl dX11_partBelow_74)
theorem dX11_compare_0 : decode cX11_compare 0 = .ok (.aload_n 0, 1) := by decide +kernel
theorem dX11_compare_1 : decode cX11_compare 1 = .ok (.iload_n 1, 1) := by decide +kernel
theorem dX11_compare_2 : decode cX11_compare 2 = .ok (.invokevirtual 272, 3) := by decide +kernel
theorem dX11_compare_5 : decode cX11_compare 5 = .ok (.ifCond .eq 10, 3) := by decide +kernel
theorem dX11_compare_8 : decode cX11_compare 8 = .ok (.iload_n 2, 1) := by decide +kernel
theorem dX11_compare_9 : decode cX11_compare 9 = .ok (.invokestatic 121, 3) := by decide +kernel
theorem dX11_compare_12 : decode cX11_compare 12 = .ok (.ifCond .ne 5, 3) := by decide +kernel
theorem dX11_compare_15 : decode cX11_compare 15 = .ok (.iconst (-1), 1) := by decide +kernel
theorem dX11_compare_16 : decode cX11_compare 16 = .ok (.ireturn, 1) := by decide +kernel
theorem dX11_compare_17 : decode cX11_compare 17 = .ok (.aload_n 0, 1) := by decide +kernel
theorem dX11_compare_18 : decode cX11_compare 18 = .ok (.getfield 92, 3) := by decide +kernel
theorem dX11_compare_21 : decode cX11_compare 21 = .ok (.aload_n 0, 1) := by decide +kernel
theorem dX11_compare_22 : decode cX11_compare 22 = .ok (.getfield 20, 3) := by decide +kernel
theorem dX11_compare_25 : decode cX11_compare 25 = .ok (.iload_n 1, 1) := by decide +kernel
theorem dX11_compare_26 : decode cX11_compare 26 = .ok (.invokevirtual 129, 3) := by decide +kernel
theorem dX11_compare_29 : decode cX11_compare 29 = .ok (.aload_n 0, 1) := by decide +kernel
theorem dX11_compare_30 : decode cX11_compare 30 = .ok (.getfield 92, 3) := by decide +kernel
theorem dX11_compare_33 : decode cX11_compare 33 = .ok (.iload_n 2, 1) := by decide +kernel
theorem dX11_compare_34 : decode cX11_compare 34 = .ok (.invokevirtual 149, 3) := by decide +kernel
theorem dX11_compare_37 : decode cX11_compare 37 = .ok (.ireturn, 1) := by decide +kernel
set_option maxRecDepth 100000 in
theorem okm_X11_compare : okL RX11 cX11_compare 3 (some .int) "compare" pcX11_compare opX11_compare pcX11_compare := by
  unfold opX11_compare
  refine okL_cons (ok_aload_n rfl dX11_compare_0) rfl ?_
  refine okL_cons (ok_iload_n rfl dX11_compare_1) rfl ?_
  refine okL_cons (ok_invV (M' := 121) kw_525 kw_526 kw_527 kw_79 kw_528 cf_X11 rfl (by decide +kernel) dX11_compare_2) rfl ?_
  refine okL_cons (ok_if_eq rfl dX11_compare_5) rfl ?_
  refine okL_cons (ok_iload_n rfl dX11_compare_8) rfl ?_
  refine okL_cons (ok_invS (M' := 159) kw_454 kw_90 kw_79 kw_91 rfl (by decide +kernel) dX11_compare_9) rfl ?_
  refine okL_cons (ok_if_ne rfl dX11_compare_12) rfl ?_
  refine okL_cons (ok_iconst rfl dX11_compare_15) rfl ?_
  refine okL_cons (ok_ireturn rfl dX11_compare_16) rfl ?_
  refine okL_cons (ok_aload_n rfl dX11_compare_17) rfl ?_
  refine okL_cons (ok_getP kw_436 cf_X11 rfl rfl (by decide) dX11_compare_18) rfl ?_
  refine okL_cons (ok_aload_n rfl dX11_compare_21) rfl ?_
  refine okL_cons (ok_getP kw_395 cf_X11 rfl rfl (by decide) dX11_compare_22) rfl ?_
  refine okL_cons (ok_iload_n rfl dX11_compare_25) rfl ?_
  refine okL_cons (ok_invV (M' := 57) kw_455 kw_278 kw_279 kw_252 kw_280 cf_X6 rfl (by decide +kernel) dX11_compare_26) rfl ?_
  refine okL_cons (ok_aload_n rfl dX11_compare_29) rfl ?_
  refine okL_cons (ok_getP kw_436 cf_X11 rfl rfl (by decide) dX11_compare_30) rfl ?_
  refine okL_cons (ok_iload_n rfl dX11_compare_33) rfl ?_
  refine okL_cons (ok_invV (M' := 60) kw_466 kw_274 kw_275 kw_252 kw_276 cf_X6 rfl (by decide +kernel) dX11_compare_34) rfl ?_
  exact okL_one (ok_ireturn rfl dX11_compare_37)
theorem dX11_days_0 : decode cX11_days 0 = .ok (.iload_n 1, 1) := by decide +kernel
theorem dX11_days_1 : decode cX11_days 1 = .ok (.ifCond .lt 21, 3) := by decide +kernel
theorem dX11_days_4 : decode cX11_days 4 = .ok (.iload_n 1, 1) := by decide +kernel
theorem dX11_days_5 : decode cX11_days 5 = .ok (.ldc_w 399, 3) := by decide +kernel
theorem dX11_days_8 : decode cX11_days 8 = .ok (.if_icmp .gt 14, 3) := by decide +kernel
theorem dX11_days_11 : decode cX11_days 11 = .ok (.iload_n 2, 1) := by decide +kernel
theorem dX11_days_12 : decode cX11_days 12 = .ok (.iconst 1, 1) := by decide +kernel
theorem dX11_days_13 : decode cX11_days 13 = .ok (.if_icmp .lt 9, 3) := by decide +kernel
theorem dX11_days_16 : decode cX11_days 16 = .ok (.iload_n 2, 1) := by decide +kernel
theorem dX11_days_17 : decode cX11_days 17 = .ok (.bipush 60, 2) := by decide +kernel
theorem dX11_days_19 : decode cX11_days 19 = .ok (.if_icmp .le 12, 3) := by decide +kernel
theorem dX11_days_22 : decode cX11_days 22 = .ok (.aload_n 0, 1) := by decide +kernel
theorem dX11_days_23 : decode cX11_days 23 = .ok (.getfield 117, 3) := by decide +kernel
theorem dX11_days_26 : decode cX11_days 26 = .ok (.iconst (-1), 1) := by decide +kernel
theorem dX11_days_27 : decode cX11_days 27 = .ok (.invokevirtual 152, 3) := by decide +kernel
theorem dX11_days_30 : decode cX11_days 30 = .ok (.ireturn, 1) := by decide +kernel
theorem dX11_days_31 : decode cX11_days 31 = .ok (.aload_n 0, 1) := by decide +kernel
theorem dX11_days_32 : decode cX11_days 32 = .ok (.getfield 50, 3) := by decide +kernel
theorem dX11_days_35 : decode cX11_days 35 = .ok (.aload_n 0, 1) := by decide +kernel
theorem dX11_days_36 : decode cX11_days 36 = .ok (.getfield 20, 3) := by decide +kernel
theorem dX11_days_39 : decode cX11_days 39 = .ok (.invokevirtual 218, 3) := by decide +kernel
theorem dX11_days_42 : decode cX11_days 42 = .ok (.aload_n 0, 1) := by decide +kernel
theorem dX11_days_43 : decode cX11_days 43 = .ok (.iconst 1, 1) := by decide +kernel
theorem dX11_days_44 : decode cX11_days 44 = .ok (.putfield 400, 3) := by decide +kernel
theorem dX11_days_47 : decode cX11_days 47 = .ok (.iload_n 1, 1) := by decide +kernel
theorem dX11_days_48 : decode cX11_days 48 = .ok (.istore_n 3, 1) := by decide +kernel
theorem dX11_days_49 : decode cX11_days 49 = .ok (.iconst 0, 1) := by decide +kernel
theorem dX11_days_50 : decode cX11_days 50 = .ok (.istore 4, 2) := by decide +kernel
theorem dX11_days_52 : decode cX11_days 52 = .ok (.iload 4, 2) := by decide +kernel
theorem dX11_days_54 : decode cX11_days 54 = .ok (.iload_n 2, 1) := by decide +kernel
theorem dX11_days_55 : decode cX11_days 55 = .ok (.if_icmp .ge 72, 3) := by decide +kernel
theorem dX11_days_58 : decode cX11_days 58 = .ok (.aload_n 0, 1) := by decide +kernel
theorem dX11_days_59 : decode cX11_days 59 = .ok (.getfield 50, 3) := by decide +kernel
theorem dX11_days_62 : decode cX11_days 62 = .ok (.getfield 169, 3) := by decide +kernel
theorem dX11_days_65 : decode cX11_days 65 = .ok (.sipush 999, 3) := by decide +kernel
theorem dX11_days_68 : decode cX11_days 68 = .ok (.if_icmp .ge 59, 3) := by decide +kernel
theorem dX11_days_71 : decode cX11_days 71 = .ok (.iload_n 3, 1) := by decide +kernel
theorem dX11_days_72 : decode cX11_days 72 = .ok (.invokestatic 404, 3) := by decide +kernel
theorem dX11_days_75 : decode cX11_days 75 = .ok (.istore_n 3, 1) := by decide +kernel
theorem dX11_days_76 : decode cX11_days 76 = .ok (.iload_n 3, 1) := by decide +kernel
theorem dX11_days_77 : decode cX11_days 77 = .ok (.bipush 8, 2) := by decide +kernel
theorem dX11_days_79 : decode cX11_days 79 = .ok (.irem, 1) := by decide +kernel
theorem dX11_days_80 : decode cX11_days 80 = .ok (.istore 5, 2) := by decide +kernel
theorem dX11_days_82 : decode cX11_days 82 = .ok (.iload_n 3, 1) := by decide +kernel
theorem dX11_days_83 : decode cX11_days 83 = .ok (.invokestatic 404, 3) := by decide +kernel
theorem dX11_days_86 : decode cX11_days 86 = .ok (.istore_n 3, 1) := by decide +kernel
theorem dX11_days_87 : decode cX11_days 87 = .ok (.iload_n 3, 1) := by decide +kernel
theorem dX11_days_88 : decode cX11_days 88 = .ok (.bipush 25, 2) := by decide +kernel
theorem dX11_days_90 : decode cX11_days 90 = .ok (.irem, 1) := by decide +kernel
theorem dX11_days_91 : decode cX11_days 91 = .ok (.istore 6, 2) := by decide +kernel
theorem dX11_days_93 : decode cX11_days 93 = .ok (.iload_n 3, 1) := by decide +kernel
theorem dX11_days_94 : decode cX11_days 94 = .ok (.invokestatic 404, 3) := by decide +kernel
theorem dX11_days_97 : decode cX11_days 97 = .ok (.istore_n 3, 1) := by decide +kernel
theorem dX11_days_98 : decode cX11_days 98 = .ok (.aload_n 0, 1) := by decide +kernel
theorem dX11_days_99 : decode cX11_days 99 = .ok (.iload_n 3, 1) := by decide +kernel
theorem dX11_days_100 : decode cX11_days 100 = .ok (.iconst 4, 1) := by decide +kernel
theorem dX11_days_101 : decode cX11_days 101 = .ok (.irem, 1) := by decide +kernel
theorem dX11_days_102 : decode cX11_days 102 = .ok (.iload 5, 2) := by decide +kernel
theorem dX11_days_104 : decode cX11_days 104 = .ok (.iload 6, 2) := by decide +kernel
theorem dX11_days_106 : decode cX11_days 106 = .ok (.invokevirtual 407, 3) := by decide +kernel
theorem dX11_days_109 : decode cX11_days 109 = .ok (.aload_n 0, 1) := by decide +kernel
theorem dX11_days_110 : decode cX11_days 110 = .ok (.getfield 92, 3) := by decide +kernel
theorem dX11_days_113 : decode cX11_days 113 = .ok (.aload_n 0, 1) := by decide +kernel
theorem dX11_days_114 : decode cX11_days 114 = .ok (.getfield 50, 3) := by decide +kernel
theorem dX11_days_117 : decode cX11_days 117 = .ok (.invokevirtual 284, 3) := by decide +kernel
theorem dX11_days_120 : decode cX11_days 120 = .ok (.pop, 1) := by decide +kernel
theorem dX11_days_121 : decode cX11_days 121 = .ok (.iinc 4 1, 3) := by decide +kernel
theorem dX11_days_124 : decode cX11_days 124 = .ok (.goto (-72), 3) := by decide +kernel
theorem dX11_days_127 : decode cX11_days 127 = .ok (.aload_n 0, 1) := by decide +kernel
theorem dX11_days_128 : decode cX11_days 128 = .ok (.getfield 117, 3) := by decide +kernel
theorem dX11_days_131 : decode cX11_days 131 = .ok (.aload_n 0, 1) := by decide +kernel
theorem dX11_days_132 : decode cX11_days 132 = .ok (.getfield 50, 3) := by decide +kernel
theorem dX11_days_135 : decode cX11_days 135 = .ok (.iconst 2, 1) := by decide +kernel
theorem dX11_days_136 : decode cX11_days 136 = .ok (.invokevirtual 260, 3) := by decide +kernel
theorem dX11_days_139 : decode cX11_days 139 = .ok (.invokevirtual 159, 3) := by decide +kernel
theorem dX11_days_142 : decode cX11_days 142 = .ok (.ireturn, 1) := by decide +kernel
set_option maxRecDepth 100000 in
theorem okm_X11_days : okL RX11 cX11_days 7 (some .int) "days" pcX11_days opX11_days pcX11_days := by
  unfold opX11_days
  refine okL_cons (ok_iload_n rfl dX11_days_0) rfl ?_
  refine okL_cons (ok_if_lt rfl dX11_days_1) rfl ?_
  refine okL_cons (ok_iload_n rfl dX11_days_4) rfl ?_
  refine okL_cons (ok_ldc_w kw_635 dX11_days_5) rfl ?_
  refine okL_cons (ok_icmp_gt rfl dX11_days_8) rfl ?_
  refine okL_cons (ok_iload_n rfl dX11_days_11) rfl ?_
  refine okL_cons (ok_iconst rfl dX11_days_12) rfl ?_
  refine okL_cons (ok_icmp_lt rfl dX11_days_13) rfl ?_
  refine okL_cons (ok_iload_n rfl dX11_days_16) rfl ?_
  refine okL_cons (ok_bipush rfl dX11_days_17) rfl ?_
  refine okL_cons (ok_icmp_le rfl dX11_days_19) rfl ?_
  refine okL_cons (ok_aload_n rfl dX11_days_22) rfl ?_
  refine okL_cons (ok_getP kw_453 cf_X11 rfl rfl (by decide) dX11_days_23) rfl ?_
  refine okL_cons (ok_iconst rfl dX11_days_26) rfl ?_
  refine okL_cons (ok_invV (M' := 25) kw_467 kw_108 kw_109 kw_110 kw_111 cf_X3 rfl (by decide +kernel) dX11_days_27) rfl ?_
  refine okL_cons (ok_ireturn rfl dX11_days_30) rfl ?_
  refine okL_cons (ok_aload_n rfl dX11_days_31) rfl ?_
  refine okL_cons (ok_getP kw_411 cf_X11 rfl rfl (by decide) dX11_days_32) rfl ?_
  refine okL_cons (ok_aload_n rfl dX11_days_35) rfl ?_
  refine okL_cons (ok_getP kw_395 cf_X11 rfl rfl (by decide) dX11_days_36) rfl ?_
  refine okL_cons (ok_invV (M' := 17) kw_501 kw_63 kw_64 kw_47 kw_65 cf_X2 rfl (by decide +kernel) dX11_days_39) rfl ?_
  refine okL_cons (ok_aload_n rfl dX11_days_42) rfl ?_
  refine okL_cons (ok_iconst rfl dX11_days_43) rfl ?_
  refine okL_cons (ok_putZ kw_636 cf_X11 rfl rfl (by decide) rfl dX11_days_44) rfl ?_
  refine okL_cons (ok_iload_n rfl dX11_days_47) rfl ?_
  refine okL_cons (ok_istore_n rfl dX11_days_48) rfl ?_
  refine okL_cons (ok_iconst rfl dX11_days_49) rfl ?_
  refine okL_cons (ok_istore dX11_days_50) rfl ?_
  refine okL_cons (ok_iload dX11_days_52) rfl ?_
  refine okL_cons (ok_iload_n rfl dX11_days_54) rfl ?_
  refine okL_cons (ok_icmp_ge rfl dX11_days_55) rfl ?_
  refine okL_cons (ok_aload_n rfl dX11_days_58) rfl ?_
  refine okL_cons (ok_getP kw_411 cf_X11 rfl rfl (by decide) dX11_days_59) rfl ?_
  refine okL_cons (ok_getNI 8 cf_X2 rfl rfl rfl (by decide) dX11_days_62) rfl ?_
  refine okL_cons (ok_sipush rfl dX11_days_65) rfl ?_
  refine okL_cons (ok_icmp_ge rfl dX11_days_68) rfl ?_
  refine okL_cons (ok_iload_n rfl dX11_days_71) rfl ?_
  refine okL_cons (ok_invS (M' := 152) kw_637 kw_638 kw_79 kw_639 rfl (by decide +kernel) dX11_days_72) rfl ?_
  refine okL_cons (ok_istore_n rfl dX11_days_75) rfl ?_
  refine okL_cons (ok_iload_n rfl dX11_days_76) rfl ?_
  refine okL_cons (ok_bipush rfl dX11_days_77) rfl ?_
  refine okL_cons (ok_irem dX11_days_79) rfl ?_
  refine okL_cons (ok_istore dX11_days_80) rfl ?_
  refine okL_cons (ok_iload_n rfl dX11_days_82) rfl ?_
  refine okL_cons (ok_invS (M' := 152) kw_637 kw_638 kw_79 kw_639 rfl (by decide +kernel) dX11_days_83) rfl ?_
  refine okL_cons (ok_istore_n rfl dX11_days_86) rfl ?_
  refine okL_cons (ok_iload_n rfl dX11_days_87) rfl ?_
  refine okL_cons (ok_bipush rfl dX11_days_88) rfl ?_
  refine okL_cons (ok_irem dX11_days_90) rfl ?_
  refine okL_cons (ok_istore dX11_days_91) rfl ?_
  refine okL_cons (ok_iload_n rfl dX11_days_93) rfl ?_
  refine okL_cons (ok_invS (M' := 152) kw_637 kw_638 kw_79 kw_639 rfl (by decide +kernel) dX11_days_94) rfl ?_
  refine okL_cons (ok_istore_n rfl dX11_days_97) rfl ?_
  refine okL_cons (ok_aload_n rfl dX11_days_98) rfl ?_
  refine okL_cons (ok_iload_n rfl dX11_days_99) rfl ?_
  refine okL_cons (ok_iconst rfl dX11_days_100) rfl ?_
  refine okL_cons (ok_irem dX11_days_101) rfl ?_
  refine okL_cons (ok_iload dX11_days_102) rfl ?_
  refine okL_cons (ok_iload dX11_days_104) rfl ?_
  refine okL_cons (ok_invV (M' := 153) kw_640 kw_641 kw_642 kw_79 kw_643 cf_X11 rfl (by decide +kernel) dX11_days_106) rfl ?_
  refine okL_cons (ok_aload_n rfl dX11_days_109) rfl ?_
  refine okL_cons (ok_getP kw_436 cf_X11 rfl rfl (by decide) dX11_days_110) rfl ?_
  refine okL_cons (ok_aload_n rfl dX11_days_113) rfl ?_
  refine okL_cons (ok_getP kw_411 cf_X11 rfl rfl (by decide) dX11_days_114) rfl ?_
  refine okL_cons (ok_invV (M' := 64) kw_541 kw_542 kw_543 kw_252 kw_544 cf_X6 rfl (by decide +kernel) dX11_days_117) rfl ?_
  refine okL_cons (ok_pop dX11_days_120) rfl ?_
  refine okL_cons (ok_iinc rfl dX11_days_121) rfl ?_
  refine okL_cons (ok_goto rfl dX11_days_124) rfl ?_
  refine okL_cons (ok_aload_n rfl dX11_days_127) rfl ?_
  refine okL_cons (ok_getP kw_453 cf_X11 rfl rfl (by decide) dX11_days_128) rfl ?_
  refine okL_cons (ok_aload_n rfl dX11_days_131) rfl ?_
  refine okL_cons (ok_getP kw_411 cf_X11 rfl rfl (by decide) dX11_days_132) rfl ?_
  refine okL_cons (ok_iconst rfl dX11_days_135) rfl ?_
  refine okL_cons (ok_invV (M' := 20) kw_520 kw_521 kw_522 kw_47 kw_523 cf_X2 rfl (by decide +kernel) dX11_days_136) rfl ?_
  refine okL_cons (ok_invV (M' := 26) kw_472 kw_113 kw_114 kw_110 kw_115 cf_X3 rfl (by decide +kernel) dX11_days_139) rfl ?_
  exact okL_one (ok_ireturn rfl dX11_days_142)
theorem dX11_draw_0 : decode cX11_draw 0 = .ok (.iload_n 0, 1) := by decide +kernel
theorem dX11_draw_1 : decode cX11_draw 1 = .ok (.sipush 1103, 3) := by decide +kernel
theorem dX11_draw_4 : decode cX11_draw 4 = .ok (.imul, 1) := by decide +kernel
theorem dX11_draw_5 : decode cX11_draw 5 = .ok (.sipush 12345, 3) := by decide +kernel
theorem dX11_draw_8 : decode cX11_draw 8 = .ok (.iadd, 1) := by decide +kernel
theorem dX11_draw_9 : decode cX11_draw 9 = .ok (.ldc_w 411, 3) := by decide +kernel
theorem dX11_draw_12 : decode cX11_draw 12 = .ok (.irem, 1) := by decide +kernel
theorem dX11_draw_13 : decode cX11_draw 13 = .ok (.ireturn, 1) := by decide +kernel
set_option maxRecDepth 100000 in
theorem okm_X11_draw : okL RX11 cX11_draw 1 (some .int) "draw" pcX11_draw opX11_draw pcX11_draw := by
  unfold opX11_draw
  refine okL_cons (ok_iload_n rfl dX11_draw_0) rfl ?_
  refine okL_cons (ok_sipush rfl dX11_draw_1) rfl ?_
  refine okL_cons (ok_imul dX11_draw_4) rfl ?_
  refine okL_cons (ok_sipush rfl dX11_draw_5) rfl ?_
  refine okL_cons (ok_iadd dX11_draw_8) rfl ?_
  refine okL_cons (ok_ldc_w kw_644 dX11_draw_9) rfl ?_
  refine okL_cons (ok_irem dX11_draw_12) rfl ?_
  exact okL_one (ok_ireturn rfl dX11_draw_13)
theorem dX11_changeDrawn_0 : decode cX11_changeDrawn 0 = .ok (.iload_n 1, 1) := by decide +kernel
theorem dX11_changeDrawn_1 : decode cX11_changeDrawn 1 = .ok (.iconst 2, 1) := by decide +kernel
theorem dX11_changeDrawn_2 : decode cX11_changeDrawn 2 = .ok (.if_icmp .le 4, 3) := by decide +kernel
theorem dX11_changeDrawn_5 : decode cX11_changeDrawn 5 = .ok (.return_, 1) := by decide +kernel
theorem dX11_changeDrawn_6 : decode cX11_changeDrawn 6 = .ok (.iload_n 1, 1) := by decide +kernel
theorem dX11_changeDrawn_7 : decode cX11_changeDrawn 7 = .ok (.iconst 2, 1) := by decide +kernel
theorem dX11_changeDrawn_8 : decode cX11_changeDrawn 8 = .ok (.if_icmp .ne 7, 3) := by decide +kernel
theorem dX11_changeDrawn_11 : decode cX11_changeDrawn 11 = .ok (.iconst 2, 1) := by decide +kernel
theorem dX11_changeDrawn_12 : decode cX11_changeDrawn 12 = .ok (.goto 4, 3) := by decide +kernel
theorem dX11_changeDrawn_15 : decode cX11_changeDrawn 15 = .ok (.iconst 0, 1) := by decide +kernel
theorem dX11_changeDrawn_16 : decode cX11_changeDrawn 16 = .ok (.istore 4, 2) := by decide +kernel
theorem dX11_changeDrawn_18 : decode cX11_changeDrawn 18 = .ok (.iload_n 1, 1) := by decide +kernel
theorem dX11_changeDrawn_19 : decode cX11_changeDrawn 19 = .ok (.iconst 2, 1) := by decide +kernel
theorem dX11_changeDrawn_20 : decode cX11_changeDrawn 20 = .ok (.if_icmp .ne 9, 3) := by decide +kernel
theorem dX11_changeDrawn_23 : decode cX11_changeDrawn 23 = .ok (.iload_n 3, 1) := by decide +kernel
theorem dX11_changeDrawn_24 : decode cX11_changeDrawn 24 = .ok (.iconst 4, 1) := by decide +kernel
theorem dX11_changeDrawn_25 : decode cX11_changeDrawn 25 = .ok (.irem, 1) := by decide +kernel
theorem dX11_changeDrawn_26 : decode cX11_changeDrawn 26 = .ok (.goto 4, 3) := by decide +kernel
theorem dX11_changeDrawn_29 : decode cX11_changeDrawn 29 = .ok (.iload_n 3, 1) := by decide +kernel
theorem dX11_changeDrawn_30 : decode cX11_changeDrawn 30 = .ok (.istore 5, 2) := by decide +kernel
theorem dX11_changeDrawn_32 : decode cX11_changeDrawn 32 = .ok (.aload_n 0, 1) := by decide +kernel
theorem dX11_changeDrawn_33 : decode cX11_changeDrawn 33 = .ok (.getfield 50, 3) := by decide +kernel
theorem dX11_changeDrawn_36 : decode cX11_changeDrawn 36 = .ok (.iload 4, 2) := by decide +kernel
theorem dX11_changeDrawn_38 : decode cX11_changeDrawn 38 = .ok (.iload_n 2, 1) := by decide +kernel
theorem dX11_changeDrawn_39 : decode cX11_changeDrawn 39 = .ok (.iload 5, 2) := by decide +kernel
theorem dX11_changeDrawn_41 : decode cX11_changeDrawn 41 = .ok (.invokevirtual 278, 3) := by decide +kernel
theorem dX11_changeDrawn_44 : decode cX11_changeDrawn 44 = .ok (.ifCond .ne 16, 3) := by decide +kernel
theorem dX11_changeDrawn_47 : decode cX11_changeDrawn 47 = .ok (.aload_n 0, 1) := by decide +kernel
theorem dX11_changeDrawn_48 : decode cX11_changeDrawn 48 = .ok (.getfield 50, 3) := by decide +kernel
theorem dX11_changeDrawn_51 : decode cX11_changeDrawn 51 = .ok (.iload 4, 2) := by decide +kernel
theorem dX11_changeDrawn_53 : decode cX11_changeDrawn 53 = .ok (.iload_n 2, 1) := by decide +kernel
theorem dX11_changeDrawn_54 : decode cX11_changeDrawn 54 = .ok (.iload 5, 2) := by decide +kernel
theorem dX11_changeDrawn_56 : decode cX11_changeDrawn 56 = .ok (.invokevirtual 288, 3) := by decide +kernel
theorem dX11_changeDrawn_59 : decode cX11_changeDrawn 59 = .ok (.pop, 1) := by decide +kernel
theorem dX11_changeDrawn_60 : decode cX11_changeDrawn 60 = .ok (.return_, 1) := by decide +kernel
set_option maxRecDepth 100000 in
theorem okm_X11_changeDrawn : okL RX11 cX11_changeDrawn 6 none "changeDrawn" pcX11_changeDrawn opX11_changeDrawn pcX11_changeDrawn := by
  unfold opX11_changeDrawn
  refine okL_cons (ok_iload_n rfl dX11_changeDrawn_0) rfl ?_
  refine okL_cons (ok_iconst rfl dX11_changeDrawn_1) rfl ?_
  refine okL_cons (ok_icmp_le rfl dX11_changeDrawn_2) rfl ?_
  refine okL_cons (ok_return rfl dX11_changeDrawn_5) rfl ?_
  refine okL_cons (ok_iload_n rfl dX11_changeDrawn_6) rfl ?_
  refine okL_cons (ok_iconst rfl dX11_changeDrawn_7) rfl ?_
  refine okL_cons (ok_icmp_ne rfl dX11_changeDrawn_8) rfl ?_
  refine okL_cons (ok_iconst rfl dX11_changeDrawn_11) rfl ?_
  refine okL_cons (ok_goto rfl dX11_changeDrawn_12) rfl ?_
  refine okL_cons (ok_iconst rfl dX11_changeDrawn_15) rfl ?_
  refine okL_cons (ok_istore dX11_changeDrawn_16) rfl ?_
  refine okL_cons (ok_iload_n rfl dX11_changeDrawn_18) rfl ?_
  refine okL_cons (ok_iconst rfl dX11_changeDrawn_19) rfl ?_
  refine okL_cons (ok_icmp_ne rfl dX11_changeDrawn_20) rfl ?_
  refine okL_cons (ok_iload_n rfl dX11_changeDrawn_23) rfl ?_
  refine okL_cons (ok_iconst rfl dX11_changeDrawn_24) rfl ?_
  refine okL_cons (ok_irem dX11_changeDrawn_25) rfl ?_
  refine okL_cons (ok_goto rfl dX11_changeDrawn_26) rfl ?_
  refine okL_cons (ok_iload_n rfl dX11_changeDrawn_29) rfl ?_
  refine okL_cons (ok_istore dX11_changeDrawn_30) rfl ?_
  refine okL_cons (ok_aload_n rfl dX11_changeDrawn_32) rfl ?_
  refine okL_cons (ok_getP kw_411 cf_X11 rfl rfl (by decide) dX11_changeDrawn_33) rfl ?_
  refine okL_cons (ok_iload dX11_changeDrawn_36) rfl ?_
  refine okL_cons (ok_iload_n rfl dX11_changeDrawn_38) rfl ?_
  refine okL_cons (ok_iload dX11_changeDrawn_39) rfl ?_
  refine okL_cons (ok_invV (M' := 22) kw_533 kw_534 kw_535 kw_47 kw_536 cf_X2 rfl (by decide +kernel) dX11_changeDrawn_41) rfl ?_
  refine okL_cons (ok_if_ne rfl dX11_changeDrawn_44) rfl ?_
  refine okL_cons (ok_aload_n rfl dX11_changeDrawn_47) rfl ?_
  refine okL_cons (ok_getP kw_411 cf_X11 rfl rfl (by decide) dX11_changeDrawn_48) rfl ?_
  refine okL_cons (ok_iload dX11_changeDrawn_51) rfl ?_
  refine okL_cons (ok_iload_n rfl dX11_changeDrawn_53) rfl ?_
  refine okL_cons (ok_iload dX11_changeDrawn_54) rfl ?_
  refine okL_cons (ok_invV (M' := 23) kw_545 kw_546 kw_547 kw_47 kw_548 cf_X2 rfl (by decide +kernel) dX11_changeDrawn_56) rfl ?_
  refine okL_cons (ok_pop dX11_changeDrawn_59) rfl ?_
  exact okL_one (ok_return rfl dX11_changeDrawn_60)
theorem dX11_drawn_0 : decode cX11_drawn 0 = .ok (.aload_n 0, 1) := by decide +kernel
theorem dX11_drawn_1 : decode cX11_drawn 1 = .ok (.getfield 400, 3) := by decide +kernel
theorem dX11_drawn_4 : decode cX11_drawn 4 = .ok (.ifCond .eq 15, 3) := by decide +kernel
theorem dX11_drawn_7 : decode cX11_drawn 7 = .ok (.aload_n 0, 1) := by decide +kernel
theorem dX11_drawn_8 : decode cX11_drawn 8 = .ok (.getfield 50, 3) := by decide +kernel
theorem dX11_drawn_11 : decode cX11_drawn 11 = .ok (.iload_n 1, 1) := by decide +kernel
theorem dX11_drawn_12 : decode cX11_drawn 12 = .ok (.iload_n 2, 1) := by decide +kernel
theorem dX11_drawn_13 : decode cX11_drawn 13 = .ok (.invokevirtual 162, 3) := by decide +kernel
theorem dX11_drawn_16 : decode cX11_drawn 16 = .ok (.goto 4, 3) := by decide +kernel
theorem dX11_drawn_19 : decode cX11_drawn 19 = .ok (.iconst (-1), 1) := by decide +kernel
theorem dX11_drawn_20 : decode cX11_drawn 20 = .ok (.ireturn, 1) := by decide +kernel
set_option maxRecDepth 100000 in
theorem okm_X11_drawn : okL RX11 cX11_drawn 3 (some .int) "drawn" pcX11_drawn opX11_drawn pcX11_drawn := by
  unfold opX11_drawn
  refine okL_cons (ok_aload_n rfl dX11_drawn_0) rfl ?_
  refine okL_cons (ok_getI kw_636 cf_X11 rfl rfl (by decide) dX11_drawn_1) rfl ?_
  refine okL_cons (ok_if_eq rfl dX11_drawn_4) rfl ?_
  refine okL_cons (ok_aload_n rfl dX11_drawn_7) rfl ?_
  refine okL_cons (ok_getP kw_411 cf_X11 rfl rfl (by decide) dX11_drawn_8) rfl ?_
  refine okL_cons (ok_iload_n rfl dX11_drawn_11) rfl ?_
  refine okL_cons (ok_iload_n rfl dX11_drawn_12) rfl ?_
  refine okL_cons (ok_invV (M' := 18) kw_473 kw_474 kw_475 kw_47 kw_476 cf_X2 rfl (by decide +kernel) dX11_drawn_13) rfl ?_
  refine okL_cons (ok_goto rfl dX11_drawn_16) rfl ?_
  refine okL_cons (ok_iconst rfl dX11_drawn_19) rfl ?_
  exact okL_one (ok_ireturn rfl dX11_drawn_20)
theorem dX11_image_0 : decode cX11_image 0 = .ok (.iload_n 1, 1) := by decide +kernel
theorem dX11_image_1 : decode cX11_image 1 = .ok (.invokestatic 412, 3) := by decide +kernel
theorem dX11_image_4 : decode cX11_image 4 = .ok (.ifCond .ne 12, 3) := by decide +kernel
theorem dX11_image_7 : decode cX11_image 7 = .ok (.aload_n 0, 1) := by decide +kernel
theorem dX11_image_8 : decode cX11_image 8 = .ok (.getfield 117, 3) := by decide +kernel
theorem dX11_image_11 : decode cX11_image 11 = .ok (.iconst (-1), 1) := by decide +kernel
theorem dX11_image_12 : decode cX11_image 12 = .ok (.invokevirtual 152, 3) := by decide +kernel
theorem dX11_image_15 : decode cX11_image 15 = .ok (.ireturn, 1) := by decide +kernel
theorem dX11_image_16 : decode cX11_image 16 = .ok (.aload_n 0, 1) := by decide +kernel
theorem dX11_image_17 : decode cX11_image 17 = .ok (.getfield 23, 3) := by decide +kernel
theorem dX11_image_20 : decode cX11_image 20 = .ok (.iload_n 1, 1) := by decide +kernel
theorem dX11_image_21 : decode cX11_image 21 = .ok (.aaload, 1) := by decide +kernel
theorem dX11_image_22 : decode cX11_image 22 = .ok (.aload_n 0, 1) := by decide +kernel
theorem dX11_image_23 : decode cX11_image 23 = .ok (.getfield 12, 3) := by decide +kernel
theorem dX11_image_26 : decode cX11_image 26 = .ok (.invokevirtual 415, 3) := by decide +kernel
theorem dX11_image_29 : decode cX11_image 29 = .ok (.aload_n 0, 1) := by decide +kernel
theorem dX11_image_30 : decode cX11_image 30 = .ok (.getfield 27, 3) := by decide +kernel
theorem dX11_image_33 : decode cX11_image 33 = .ok (.iload_n 1, 1) := by decide +kernel
theorem dX11_image_34 : decode cX11_image 34 = .ok (.iconst 1, 1) := by decide +kernel
theorem dX11_image_35 : decode cX11_image 35 = .ok (.bastore, 1) := by decide +kernel
theorem dX11_image_36 : decode cX11_image 36 = .ok (.aload_n 0, 1) := by decide +kernel
theorem dX11_image_37 : decode cX11_image 37 = .ok (.getfield 117, 3) := by decide +kernel
theorem dX11_image_40 : decode cX11_image 40 = .ok (.iconst 0, 1) := by decide +kernel
theorem dX11_image_41 : decode cX11_image 41 = .ok (.invokevirtual 159, 3) := by decide +kernel
theorem dX11_image_44 : decode cX11_image 44 = .ok (.ireturn, 1) := by decide +kernel
set_option maxRecDepth 100000 in
theorem okm_X11_image : okL RX11 cX11_image 2 (some .int) "image" pcX11_image opX11_image pcX11_image := by
  unfold opX11_image
  refine okL_cons (ok_iload_n rfl dX11_image_0) rfl ?_
  refine okL_cons (ok_invS (M' := 161) kw_645 kw_646 kw_79 kw_647 rfl (by decide +kernel) dX11_image_1) rfl ?_
  refine okL_cons (ok_if_ne rfl dX11_image_4) rfl ?_
  refine okL_cons (ok_aload_n rfl dX11_image_7) rfl ?_
  refine okL_cons (ok_getP kw_453 cf_X11 rfl rfl (by decide) dX11_image_8) rfl ?_
  refine okL_cons (ok_iconst rfl dX11_image_11) rfl ?_
  refine okL_cons (ok_invV (M' := 25) kw_467 kw_108 kw_109 kw_110 kw_111 cf_X3 rfl (by decide +kernel) dX11_image_12) rfl ?_
  refine okL_cons (ok_ireturn rfl dX11_image_15) rfl ?_
  refine okL_cons (ok_aload_n rfl dX11_image_16) rfl ?_
  refine okL_cons (ok_getP kw_396 cf_X11 rfl rfl (by decide) dX11_image_17) rfl ?_
  refine okL_cons (ok_iload_n rfl dX11_image_20) rfl ?_
  refine okL_cons (ok_aaload (by decide) dX11_image_21) rfl ?_
  refine okL_cons (ok_aload_n rfl dX11_image_22) rfl ?_
  refine okL_cons (ok_getP kw_394 cf_X11 rfl rfl (by decide) dX11_image_23) rfl ?_
  refine okL_cons (ok_invV (M' := 13) kw_648 kw_649 kw_650 kw_258 kw_651 cf_X1 rfl (by decide +kernel) dX11_image_26) rfl ?_
  refine okL_cons (ok_aload_n rfl dX11_image_29) rfl ?_
  refine okL_cons (ok_getP kw_398 cf_X11 rfl rfl (by decide) dX11_image_30) rfl ?_
  refine okL_cons (ok_iload_n rfl dX11_image_33) rfl ?_
  refine okL_cons (ok_iconst rfl dX11_image_34) rfl ?_
  refine okL_cons (ok_bastore dX11_image_35) rfl ?_
  refine okL_cons (ok_aload_n rfl dX11_image_36) rfl ?_
  refine okL_cons (ok_getP kw_453 cf_X11 rfl rfl (by decide) dX11_image_37) rfl ?_
  refine okL_cons (ok_iconst rfl dX11_image_40) rfl ?_
  refine okL_cons (ok_invV (M' := 26) kw_472 kw_113 kw_114 kw_110 kw_115 cf_X3 rfl (by decide +kernel) dX11_image_41) rfl ?_
  exact okL_one (ok_ireturn rfl dX11_image_44)
theorem dX11_back_0 : decode cX11_back 0 = .ok (.iload_n 1, 1) := by decide +kernel
theorem dX11_back_1 : decode cX11_back 1 = .ok (.invokestatic 412, 3) := by decide +kernel
theorem dX11_back_4 : decode cX11_back 4 = .ok (.ifCond .ne 12, 3) := by decide +kernel
theorem dX11_back_7 : decode cX11_back 7 = .ok (.aload_n 0, 1) := by decide +kernel
theorem dX11_back_8 : decode cX11_back 8 = .ok (.getfield 117, 3) := by decide +kernel
theorem dX11_back_11 : decode cX11_back 11 = .ok (.iconst (-1), 1) := by decide +kernel
theorem dX11_back_12 : decode cX11_back 12 = .ok (.invokevirtual 152, 3) := by decide +kernel
theorem dX11_back_15 : decode cX11_back 15 = .ok (.ireturn, 1) := by decide +kernel
theorem dX11_back_16 : decode cX11_back 16 = .ok (.aload_n 0, 1) := by decide +kernel
theorem dX11_back_17 : decode cX11_back 17 = .ok (.getfield 27, 3) := by decide +kernel
theorem dX11_back_20 : decode cX11_back 20 = .ok (.iload_n 1, 1) := by decide +kernel
theorem dX11_back_21 : decode cX11_back 21 = .ok (.baload, 1) := by decide +kernel
theorem dX11_back_22 : decode cX11_back 22 = .ok (.ifCond .ne 13, 3) := by decide +kernel
theorem dX11_back_25 : decode cX11_back 25 = .ok (.aload_n 0, 1) := by decide +kernel
theorem dX11_back_26 : decode cX11_back 26 = .ok (.getfield 117, 3) := by decide +kernel
theorem dX11_back_29 : decode cX11_back 29 = .ok (.bipush (-2), 2) := by decide +kernel
theorem dX11_back_31 : decode cX11_back 31 = .ok (.invokevirtual 152, 3) := by decide +kernel
theorem dX11_back_34 : decode cX11_back 34 = .ok (.ireturn, 1) := by decide +kernel
theorem dX11_back_35 : decode cX11_back 35 = .ok (.aload_n 0, 1) := by decide +kernel
theorem dX11_back_36 : decode cX11_back 36 = .ok (.getfield 12, 3) := by decide +kernel
theorem dX11_back_39 : decode cX11_back 39 = .ok (.aload_n 0, 1) := by decide +kernel
theorem dX11_back_40 : decode cX11_back 40 = .ok (.getfield 23, 3) := by decide +kernel
theorem dX11_back_43 : decode cX11_back 43 = .ok (.iload_n 1, 1) := by decide +kernel
theorem dX11_back_44 : decode cX11_back 44 = .ok (.aaload, 1) := by decide +kernel
theorem dX11_back_45 : decode cX11_back 45 = .ok (.invokevirtual 415, 3) := by decide +kernel
theorem dX11_back_48 : decode cX11_back 48 = .ok (.aload_n 0, 1) := by decide +kernel
theorem dX11_back_49 : decode cX11_back 49 = .ok (.getfield 34, 3) := by decide +kernel
theorem dX11_back_52 : decode cX11_back 52 = .ok (.invokevirtual 178, 3) := by decide +kernel
theorem dX11_back_55 : decode cX11_back 55 = .ok (.aload_n 0, 1) := by decide +kernel
theorem dX11_back_56 : decode cX11_back 56 = .ok (.getfield 117, 3) := by decide +kernel
theorem dX11_back_59 : decode cX11_back 59 = .ok (.iconst 0, 1) := by decide +kernel
theorem dX11_back_60 : decode cX11_back 60 = .ok (.invokevirtual 159, 3) := by decide +kernel
theorem dX11_back_63 : decode cX11_back 63 = .ok (.ireturn, 1) := by decide +kernel
set_option maxRecDepth 100000 in
theorem okm_X11_back : okL RX11 cX11_back 2 (some .int) "back" pcX11_back opX11_back pcX11_back := by
  unfold opX11_back
  refine okL_cons (ok_iload_n rfl dX11_back_0) rfl ?_
  refine okL_cons (ok_invS (M' := 161) kw_645 kw_646 kw_79 kw_647 rfl (by decide +kernel) dX11_back_1) rfl ?_
  refine okL_cons (ok_if_ne rfl dX11_back_4) rfl ?_
  refine okL_cons (ok_aload_n rfl dX11_back_7) rfl ?_
  refine okL_cons (ok_getP kw_453 cf_X11 rfl rfl (by decide) dX11_back_8) rfl ?_
  refine okL_cons (ok_iconst rfl dX11_back_11) rfl ?_
  refine okL_cons (ok_invV (M' := 25) kw_467 kw_108 kw_109 kw_110 kw_111 cf_X3 rfl (by decide +kernel) dX11_back_12) rfl ?_
  refine okL_cons (ok_ireturn rfl dX11_back_15) rfl ?_
  refine okL_cons (ok_aload_n rfl dX11_back_16) rfl ?_
  refine okL_cons (ok_getP kw_398 cf_X11 rfl rfl (by decide) dX11_back_17) rfl ?_
  refine okL_cons (ok_iload_n rfl dX11_back_20) rfl ?_
  refine okL_cons (ok_baload dX11_back_21) rfl ?_
  refine okL_cons (ok_if_ne rfl dX11_back_22) rfl ?_
  refine okL_cons (ok_aload_n rfl dX11_back_25) rfl ?_
  refine okL_cons (ok_getP kw_453 cf_X11 rfl rfl (by decide) dX11_back_26) rfl ?_
  refine okL_cons (ok_bipush rfl dX11_back_29) rfl ?_
  refine okL_cons (ok_invV (M' := 25) kw_467 kw_108 kw_109 kw_110 kw_111 cf_X3 rfl (by decide +kernel) dX11_back_31) rfl ?_
  refine okL_cons (ok_ireturn rfl dX11_back_34) rfl ?_
  refine okL_cons (ok_aload_n rfl dX11_back_35) rfl ?_
  refine okL_cons (ok_getP kw_394 cf_X11 rfl rfl (by decide) dX11_back_36) rfl ?_
  refine okL_cons (ok_aload_n rfl dX11_back_39) rfl ?_
  refine okL_cons (ok_getP kw_396 cf_X11 rfl rfl (by decide) dX11_back_40) rfl ?_
  refine okL_cons (ok_iload_n rfl dX11_back_43) rfl ?_
  refine okL_cons (ok_aaload (by decide) dX11_back_44) rfl ?_
  refine okL_cons (ok_invV (M' := 13) kw_648 kw_649 kw_650 kw_258 kw_651 cf_X1 rfl (by decide +kernel) dX11_back_45) rfl ?_
  refine okL_cons (ok_aload_n rfl dX11_back_48) rfl ?_
  refine okL_cons (ok_getP kw_405 cf_X11 rfl rfl (by decide) dX11_back_49) rfl ?_
  refine okL_cons (ok_invV (M' := 30) kw_481 kw_482 kw_483 kw_401 kw_484 cf_X4 rfl (by decide +kernel) dX11_back_52) rfl ?_
  refine okL_cons (ok_aload_n rfl dX11_back_55) rfl ?_
  refine okL_cons (ok_getP kw_453 cf_X11 rfl rfl (by decide) dX11_back_56) rfl ?_
  refine okL_cons (ok_iconst rfl dX11_back_59) rfl ?_
  refine okL_cons (ok_invV (M' := 26) kw_472 kw_113 kw_114 kw_110 kw_115 cf_X3 rfl (by decide +kernel) dX11_back_60) rfl ?_
  exact okL_one (ok_ireturn rfl dX11_back_63)
theorem dX11_count_0 : decode cX11_count 0 = .ok (.iload_n 1, 1) := by decide +kernel
theorem dX11_count_1 : decode cX11_count 1 = .ok (.tableswitch 179 0 15 #[79, 87, 96, 105, 113, 121, 129, 137, 137, 137, 150, 150, 162, 170, 170, 170], 79) := by decide +kernel
theorem dX11_count_80 : decode cX11_count 80 = .ok (.aload_n 0, 1) := by decide +kernel
theorem dX11_count_81 : decode cX11_count 81 = .ok (.getfield 12, 3) := by decide +kernel
theorem dX11_count_84 : decode cX11_count 84 = .ok (.getfield 304, 3) := by decide +kernel
theorem dX11_count_87 : decode cX11_count 87 = .ok (.ireturn, 1) := by decide +kernel
theorem dX11_count_88 : decode cX11_count 88 = .ok (.aload_n 0, 1) := by decide +kernel
theorem dX11_count_89 : decode cX11_count 89 = .ok (.getfield 20, 3) := by decide +kernel
theorem dX11_count_92 : decode cX11_count 92 = .ok (.iconst 0, 1) := by decide +kernel
theorem dX11_count_93 : decode cX11_count 93 = .ok (.invokevirtual 260, 3) := by decide +kernel
theorem dX11_count_96 : decode cX11_count 96 = .ok (.ireturn, 1) := by decide +kernel
theorem dX11_count_97 : decode cX11_count 97 = .ok (.aload_n 0, 1) := by decide +kernel
theorem dX11_count_98 : decode cX11_count 98 = .ok (.getfield 20, 3) := by decide +kernel
theorem dX11_count_101 : decode cX11_count 101 = .ok (.iconst 2, 1) := by decide +kernel
theorem dX11_count_102 : decode cX11_count 102 = .ok (.invokevirtual 260, 3) := by decide +kernel
theorem dX11_count_105 : decode cX11_count 105 = .ok (.ireturn, 1) := by decide +kernel
theorem dX11_count_106 : decode cX11_count 106 = .ok (.aload_n 0, 1) := by decide +kernel
theorem dX11_count_107 : decode cX11_count 107 = .ok (.getfield 12, 3) := by decide +kernel
theorem dX11_count_110 : decode cX11_count 110 = .ok (.getfield 364, 3) := by decide +kernel
theorem dX11_count_113 : decode cX11_count 113 = .ok (.ireturn, 1) := by decide +kernel
theorem dX11_count_114 : decode cX11_count 114 = .ok (.aload_n 0, 1) := by decide +kernel
theorem dX11_count_115 : decode cX11_count 115 = .ok (.getfield 12, 3) := by decide +kernel
theorem dX11_count_118 : decode cX11_count 118 = .ok (.getfield 201, 3) := by decide +kernel
theorem dX11_count_121 : decode cX11_count 121 = .ok (.ireturn, 1) := by decide +kernel
theorem dX11_count_122 : decode cX11_count 122 = .ok (.aload_n 0, 1) := by decide +kernel
theorem dX11_count_123 : decode cX11_count 123 = .ok (.getfield 34, 3) := by decide +kernel
theorem dX11_count_126 : decode cX11_count 126 = .ok (.getfield 291, 3) := by decide +kernel
theorem dX11_count_129 : decode cX11_count 129 = .ok (.ireturn, 1) := by decide +kernel
theorem dX11_count_130 : decode cX11_count 130 = .ok (.aload_n 0, 1) := by decide +kernel
theorem dX11_count_131 : decode cX11_count 131 = .ok (.getfield 56, 3) := by decide +kernel
theorem dX11_count_134 : decode cX11_count 134 = .ok (.getfield 189, 3) := by decide +kernel
theorem dX11_count_137 : decode cX11_count 137 = .ok (.ireturn, 1) := by decide +kernel
theorem dX11_count_138 : decode cX11_count 138 = .ok (.aload_n 0, 1) := by decide +kernel
theorem dX11_count_139 : decode cX11_count 139 = .ok (.getfield 117, 3) := by decide +kernel
theorem dX11_count_142 : decode cX11_count 142 = .ok (.getfield 418, 3) := by decide +kernel
theorem dX11_count_145 : decode cX11_count 145 = .ok (.iload_n 1, 1) := by decide +kernel
theorem dX11_count_146 : decode cX11_count 146 = .ok (.bipush 6, 2) := by decide +kernel
theorem dX11_count_148 : decode cX11_count 148 = .ok (.isub, 1) := by decide +kernel
theorem dX11_count_149 : decode cX11_count 149 = .ok (.iaload, 1) := by decide +kernel
theorem dX11_count_150 : decode cX11_count 150 = .ok (.ireturn, 1) := by decide +kernel
theorem dX11_count_151 : decode cX11_count 151 = .ok (.aload_n 0, 1) := by decide +kernel
theorem dX11_count_152 : decode cX11_count 152 = .ok (.getfield 117, 3) := by decide +kernel
theorem dX11_count_155 : decode cX11_count 155 = .ok (.getfield 418, 3) := by decide +kernel
theorem dX11_count_158 : decode cX11_count 158 = .ok (.iload_n 1, 1) := by decide +kernel
theorem dX11_count_159 : decode cX11_count 159 = .ok (.iconst 5, 1) := by decide +kernel
theorem dX11_count_160 : decode cX11_count 160 = .ok (.isub, 1) := by decide +kernel
theorem dX11_count_161 : decode cX11_count 161 = .ok (.iaload, 1) := by decide +kernel
theorem dX11_count_162 : decode cX11_count 162 = .ok (.ireturn, 1) := by decide +kernel
theorem dX11_count_163 : decode cX11_count 163 = .ok (.aload_n 0, 1) := by decide +kernel
theorem dX11_count_164 : decode cX11_count 164 = .ok (.getfield 12, 3) := by decide +kernel
theorem dX11_count_167 : decode cX11_count 167 = .ok (.getfield 125, 3) := by decide +kernel
theorem dX11_count_170 : decode cX11_count 170 = .ok (.ireturn, 1) := by decide +kernel
theorem dX11_count_171 : decode cX11_count 171 = .ok (.aload_n 0, 1) := by decide +kernel
theorem dX11_count_172 : decode cX11_count 172 = .ok (.iload_n 1, 1) := by decide +kernel
theorem dX11_count_173 : decode cX11_count 173 = .ok (.bipush 13, 2) := by decide +kernel
theorem dX11_count_175 : decode cX11_count 175 = .ok (.isub, 1) := by decide +kernel
theorem dX11_count_176 : decode cX11_count 176 = .ok (.invokevirtual 166, 3) := by decide +kernel
theorem dX11_count_179 : decode cX11_count 179 = .ok (.ireturn, 1) := by decide +kernel
theorem dX11_count_180 : decode cX11_count 180 = .ok (.iconst (-1), 1) := by decide +kernel
theorem dX11_count_181 : decode cX11_count 181 = .ok (.ireturn, 1) := by decide +kernel
set_option maxRecDepth 100000 in
theorem okm_X11_count : okL RX11 cX11_count 2 (some .int) "count" pcX11_count opX11_count pcX11_count := by
  unfold opX11_count
  refine okL_cons (ok_iload_n rfl dX11_count_0) rfl ?_
  refine okL_cons (ok_sw rfl rfl (sw_all rfl) dX11_count_1) rfl ?_
  refine okL_cons (ok_aload_n rfl dX11_count_80) rfl ?_
  refine okL_cons (ok_getP kw_394 cf_X11 rfl rfl (by decide) dX11_count_81) rfl ?_
  refine okL_cons (ok_getNI 30 cf_X1 rfl rfl rfl (by decide) dX11_count_84) rfl ?_
  refine okL_cons (ok_ireturn rfl dX11_count_87) rfl ?_
  refine okL_cons (ok_aload_n rfl dX11_count_88) rfl ?_
  refine okL_cons (ok_getP kw_395 cf_X11 rfl rfl (by decide) dX11_count_89) rfl ?_
  refine okL_cons (ok_iconst rfl dX11_count_92) rfl ?_
  refine okL_cons (ok_invV (M' := 20) kw_520 kw_521 kw_522 kw_47 kw_523 cf_X2 rfl (by decide +kernel) dX11_count_93) rfl ?_
  refine okL_cons (ok_ireturn rfl dX11_count_96) rfl ?_
  refine okL_cons (ok_aload_n rfl dX11_count_97) rfl ?_
  refine okL_cons (ok_getP kw_395 cf_X11 rfl rfl (by decide) dX11_count_98) rfl ?_
  refine okL_cons (ok_iconst rfl dX11_count_101) rfl ?_
  refine okL_cons (ok_invV (M' := 20) kw_520 kw_521 kw_522 kw_47 kw_523 cf_X2 rfl (by decide +kernel) dX11_count_102) rfl ?_
  refine okL_cons (ok_ireturn rfl dX11_count_105) rfl ?_
  refine okL_cons (ok_aload_n rfl dX11_count_106) rfl ?_
  refine okL_cons (ok_getP kw_394 cf_X11 rfl rfl (by decide) dX11_count_107) rfl ?_
  refine okL_cons (ok_getNI 40 cf_X1 rfl rfl rfl (by decide) dX11_count_110) rfl ?_
  refine okL_cons (ok_ireturn rfl dX11_count_113) rfl ?_
  refine okL_cons (ok_aload_n rfl dX11_count_114) rfl ?_
  refine okL_cons (ok_getP kw_394 cf_X11 rfl rfl (by decide) dX11_count_115) rfl ?_
  refine okL_cons (ok_getNI 44 cf_X1 rfl rfl rfl (by decide) dX11_count_118) rfl ?_
  refine okL_cons (ok_ireturn rfl dX11_count_121) rfl ?_
  refine okL_cons (ok_aload_n rfl dX11_count_122) rfl ?_
  refine okL_cons (ok_getP kw_405 cf_X11 rfl rfl (by decide) dX11_count_123) rfl ?_
  refine okL_cons (ok_getNI 47 cf_X4 rfl rfl rfl (by decide) dX11_count_126) rfl ?_
  refine okL_cons (ok_ireturn rfl dX11_count_129) rfl ?_
  refine okL_cons (ok_aload_n rfl dX11_count_130) rfl ?_
  refine okL_cons (ok_getP kw_416 cf_X11 rfl rfl (by decide) dX11_count_131) rfl ?_
  refine okL_cons (ok_getNI 49 cf_X8 rfl rfl rfl (by decide) dX11_count_134) rfl ?_
  refine okL_cons (ok_ireturn rfl dX11_count_137) rfl ?_
  refine okL_cons (ok_aload_n rfl dX11_count_138) rfl ?_
  refine okL_cons (ok_getP kw_453 cf_X11 rfl rfl (by decide) dX11_count_139) rfl ?_
  refine okL_cons (ok_getNP 55 cf_X3 rfl rfl rfl (by decide) dX11_count_142) rfl ?_
  refine okL_cons (ok_iload_n rfl dX11_count_145) rfl ?_
  refine okL_cons (ok_bipush rfl dX11_count_146) rfl ?_
  refine okL_cons (ok_isub dX11_count_148) rfl ?_
  refine okL_cons (ok_iaload dX11_count_149) rfl ?_
  refine okL_cons (ok_ireturn rfl dX11_count_150) rfl ?_
  refine okL_cons (ok_aload_n rfl dX11_count_151) rfl ?_
  refine okL_cons (ok_getP kw_453 cf_X11 rfl rfl (by decide) dX11_count_152) rfl ?_
  refine okL_cons (ok_getNP 55 cf_X3 rfl rfl rfl (by decide) dX11_count_155) rfl ?_
  refine okL_cons (ok_iload_n rfl dX11_count_158) rfl ?_
  refine okL_cons (ok_iconst rfl dX11_count_159) rfl ?_
  refine okL_cons (ok_isub dX11_count_160) rfl ?_
  refine okL_cons (ok_iaload dX11_count_161) rfl ?_
  refine okL_cons (ok_ireturn rfl dX11_count_162) rfl ?_
  refine okL_cons (ok_aload_n rfl dX11_count_163) rfl ?_
  refine okL_cons (ok_getP kw_394 cf_X11 rfl rfl (by decide) dX11_count_164) rfl ?_
  refine okL_cons (ok_getNI 45 cf_X1 rfl rfl rfl (by decide) dX11_count_167) rfl ?_
  refine okL_cons (ok_ireturn rfl dX11_count_170) rfl ?_
  refine okL_cons (ok_aload_n rfl dX11_count_171) rfl ?_
  refine okL_cons (ok_iload_n rfl dX11_count_172) rfl ?_
  refine okL_cons (ok_bipush rfl dX11_count_173) rfl ?_
  refine okL_cons (ok_isub dX11_count_175) rfl ?_
  refine okL_cons (ok_invV (M' := 108) kw_477 kw_478 kw_479 kw_79 kw_480 cf_X11 rfl (by decide +kernel) dX11_count_176) rfl ?_
  refine okL_cons (ok_ireturn rfl dX11_count_179) rfl ?_
  refine okL_cons (ok_iconst rfl dX11_count_180) rfl ?_
  exact okL_one (ok_ireturn rfl dX11_count_181)
theorem dX11_status_0 : decode cX11_status 0 = .ok (.aload_n 0, 1) := by decide +kernel
theorem dX11_status_1 : decode cX11_status 1 = .ok (.getfield 117, 3) := by decide +kernel
theorem dX11_status_4 : decode cX11_status 4 = .ok (.getfield 421, 3) := by decide +kernel
theorem dX11_status_7 : decode cX11_status 7 = .ok (.ireturn, 1) := by decide +kernel
set_option maxRecDepth 100000 in
theorem okm_X11_status : okL RX11 cX11_status 1 (some .int) "status" pcX11_status opX11_status pcX11_status := by
  unfold opX11_status
  refine okL_cons (ok_aload_n rfl dX11_status_0) rfl ?_
  refine okL_cons (ok_getP kw_453 cf_X11 rfl rfl (by decide) dX11_status_1) rfl ?_
  refine okL_cons (ok_getNI 56 cf_X3 rfl rfl rfl (by decide) dX11_status_4) rfl ?_
  exact okL_one (ok_ireturn rfl dX11_status_7)
theorem dX11_isCell_0 : decode cX11_isCell 0 = .ok (.iload_n 0, 1) := by decide +kernel
theorem dX11_isCell_1 : decode cX11_isCell 1 = .ok (.ifCond .lt 13, 3) := by decide +kernel
theorem dX11_isCell_4 : decode cX11_isCell 4 = .ok (.iload_n 0, 1) := by decide +kernel
theorem dX11_isCell_5 : decode cX11_isCell 5 = .ok (.bipush 25, 2) := by decide +kernel
theorem dX11_isCell_7 : decode cX11_isCell 7 = .ok (.if_icmp .ge 7, 3) := by decide +kernel
theorem dX11_isCell_10 : decode cX11_isCell 10 = .ok (.iconst 1, 1) := by decide +kernel
theorem dX11_isCell_11 : decode cX11_isCell 11 = .ok (.goto 4, 3) := by decide +kernel
theorem dX11_isCell_14 : decode cX11_isCell 14 = .ok (.iconst 0, 1) := by decide +kernel
theorem dX11_isCell_15 : decode cX11_isCell 15 = .ok (.ireturn, 1) := by decide +kernel
set_option maxRecDepth 100000 in
theorem okm_X11_isCell : okL RX11 cX11_isCell 1 (some .boolean) "isCell" pcX11_isCell opX11_isCell pcX11_isCell := by
  unfold opX11_isCell
  refine okL_cons (ok_iload_n rfl dX11_isCell_0) rfl ?_
  refine okL_cons (ok_if_lt rfl dX11_isCell_1) rfl ?_
  refine okL_cons (ok_iload_n rfl dX11_isCell_4) rfl ?_
  refine okL_cons (ok_bipush rfl dX11_isCell_5) rfl ?_
  refine okL_cons (ok_icmp_ge rfl dX11_isCell_7) rfl ?_
  refine okL_cons (ok_iconst rfl dX11_isCell_10) rfl ?_
  refine okL_cons (ok_goto rfl dX11_isCell_11) rfl ?_
  refine okL_cons (ok_iconst rfl dX11_isCell_14) rfl ?_
  exact okL_one (ok_zreturn rfl dX11_isCell_15)
theorem dX11_isLetter_0 : decode cX11_isLetter 0 = .ok (.iload_n 0, 1) := by decide +kernel
theorem dX11_isLetter_1 : decode cX11_isLetter 1 = .ok (.ifCond .lt 13, 3) := by decide +kernel
theorem dX11_isLetter_4 : decode cX11_isLetter 4 = .ok (.iload_n 0, 1) := by decide +kernel
theorem dX11_isLetter_5 : decode cX11_isLetter 5 = .ok (.bipush 8, 2) := by decide +kernel
theorem dX11_isLetter_7 : decode cX11_isLetter 7 = .ok (.if_icmp .ge 7, 3) := by decide +kernel
theorem dX11_isLetter_10 : decode cX11_isLetter 10 = .ok (.iconst 1, 1) := by decide +kernel
theorem dX11_isLetter_11 : decode cX11_isLetter 11 = .ok (.goto 4, 3) := by decide +kernel
theorem dX11_isLetter_14 : decode cX11_isLetter 14 = .ok (.iconst 0, 1) := by decide +kernel
theorem dX11_isLetter_15 : decode cX11_isLetter 15 = .ok (.ireturn, 1) := by decide +kernel
set_option maxRecDepth 100000 in
theorem okm_X11_isLetter : okL RX11 cX11_isLetter 1 (some .boolean) "isLetter" pcX11_isLetter opX11_isLetter pcX11_isLetter := by
  unfold opX11_isLetter
  refine okL_cons (ok_iload_n rfl dX11_isLetter_0) rfl ?_
  refine okL_cons (ok_if_lt rfl dX11_isLetter_1) rfl ?_
  refine okL_cons (ok_iload_n rfl dX11_isLetter_4) rfl ?_
  refine okL_cons (ok_bipush rfl dX11_isLetter_5) rfl ?_
  refine okL_cons (ok_icmp_ge rfl dX11_isLetter_7) rfl ?_
  refine okL_cons (ok_iconst rfl dX11_isLetter_10) rfl ?_
  refine okL_cons (ok_goto rfl dX11_isLetter_11) rfl ?_
  refine okL_cons (ok_iconst rfl dX11_isLetter_14) rfl ?_
  exact okL_one (ok_zreturn rfl dX11_isLetter_15)
theorem dX11_isImage_0 : decode cX11_isImage 0 = .ok (.iload_n 0, 1) := by decide +kernel
theorem dX11_isImage_1 : decode cX11_isImage 1 = .ok (.ifCond .lt 12, 3) := by decide +kernel
theorem dX11_isImage_4 : decode cX11_isImage 4 = .ok (.iload_n 0, 1) := by decide +kernel
theorem dX11_isImage_5 : decode cX11_isImage 5 = .ok (.iconst 2, 1) := by decide +kernel
theorem dX11_isImage_6 : decode cX11_isImage 6 = .ok (.if_icmp .ge 7, 3) := by decide +kernel
theorem dX11_isImage_9 : decode cX11_isImage 9 = .ok (.iconst 1, 1) := by decide +kernel
theorem dX11_isImage_10 : decode cX11_isImage 10 = .ok (.goto 4, 3) := by decide +kernel
theorem dX11_isImage_13 : decode cX11_isImage 13 = .ok (.iconst 0, 1) := by decide +kernel
theorem dX11_isImage_14 : decode cX11_isImage 14 = .ok (.ireturn, 1) := by decide +kernel
set_option maxRecDepth 100000 in
theorem okm_X11_isImage : okL RX11 cX11_isImage 1 (some .boolean) "isImage" pcX11_isImage opX11_isImage pcX11_isImage := by
  unfold opX11_isImage
  refine okL_cons (ok_iload_n rfl dX11_isImage_0) rfl ?_
  refine okL_cons (ok_if_lt rfl dX11_isImage_1) rfl ?_
  refine okL_cons (ok_iload_n rfl dX11_isImage_4) rfl ?_
  refine okL_cons (ok_iconst rfl dX11_isImage_5) rfl ?_
  refine okL_cons (ok_icmp_ge rfl dX11_isImage_6) rfl ?_
  refine okL_cons (ok_iconst rfl dX11_isImage_9) rfl ?_
  refine okL_cons (ok_goto rfl dX11_isImage_10) rfl ?_
  refine okL_cons (ok_iconst rfl dX11_isImage_13) rfl ?_
  exact okL_one (ok_zreturn rfl dX11_isImage_14)
theorem dX11_isAmong_0 : decode cX11_isAmong 0 = .ok (.iload_n 1, 1) := by decide +kernel
theorem dX11_isAmong_1 : decode cX11_isAmong 1 = .ok (.iload_n 0, 1) := by decide +kernel
theorem dX11_isAmong_2 : decode cX11_isAmong 2 = .ok (.ishr, 1) := by decide +kernel
theorem dX11_isAmong_3 : decode cX11_isAmong 3 = .ok (.iconst 1, 1) := by decide +kernel
theorem dX11_isAmong_4 : decode cX11_isAmong 4 = .ok (.iand, 1) := by decide +kernel
theorem dX11_isAmong_5 : decode cX11_isAmong 5 = .ok (.iconst 1, 1) := by decide +kernel
theorem dX11_isAmong_6 : decode cX11_isAmong 6 = .ok (.if_icmp .ne 7, 3) := by decide +kernel
theorem dX11_isAmong_9 : decode cX11_isAmong 9 = .ok (.iconst 1, 1) := by decide +kernel
theorem dX11_isAmong_10 : decode cX11_isAmong 10 = .ok (.goto 4, 3) := by decide +kernel
theorem dX11_isAmong_13 : decode cX11_isAmong 13 = .ok (.iconst 0, 1) := by decide +kernel
theorem dX11_isAmong_14 : decode cX11_isAmong 14 = .ok (.ireturn, 1) := by decide +kernel
set_option maxRecDepth 100000 in
theorem okm_X11_isAmong : okL RX11 cX11_isAmong 2 (some .boolean) "isAmong" pcX11_isAmong opX11_isAmong pcX11_isAmong := by
  unfold opX11_isAmong
  refine okL_cons (ok_iload_n rfl dX11_isAmong_0) rfl ?_
  refine okL_cons (ok_iload_n rfl dX11_isAmong_1) rfl ?_
  refine okL_cons (ok_ishr dX11_isAmong_2) rfl ?_
  refine okL_cons (ok_iconst rfl dX11_isAmong_3) rfl ?_
  refine okL_cons (ok_iand dX11_isAmong_4) rfl ?_
  refine okL_cons (ok_iconst rfl dX11_isAmong_5) rfl ?_
  refine okL_cons (ok_icmp_ne rfl dX11_isAmong_6) rfl ?_
  refine okL_cons (ok_iconst rfl dX11_isAmong_9) rfl ?_
  refine okL_cons (ok_goto rfl dX11_isAmong_10) rfl ?_
  refine okL_cons (ok_iconst rfl dX11_isAmong_13) rfl ?_
  exact okL_one (ok_zreturn rfl dX11_isAmong_14)
theorem dX11_beside_0 : decode cX11_beside 0 = .ok (.iload_n 0, 1) := by decide +kernel
theorem dX11_beside_1 : decode cX11_beside 1 = .ok (.iconst 5, 1) := by decide +kernel
theorem dX11_beside_2 : decode cX11_beside 2 = .ok (.irem, 1) := by decide +kernel
theorem dX11_beside_3 : decode cX11_beside 3 = .ok (.istore_n 2, 1) := by decide +kernel
theorem dX11_beside_4 : decode cX11_beside 4 = .ok (.iload_n 0, 1) := by decide +kernel
theorem dX11_beside_5 : decode cX11_beside 5 = .ok (.iconst 5, 1) := by decide +kernel
theorem dX11_beside_6 : decode cX11_beside 6 = .ok (.idiv, 1) := by decide +kernel
theorem dX11_beside_7 : decode cX11_beside 7 = .ok (.istore_n 3, 1) := by decide +kernel
theorem dX11_beside_8 : decode cX11_beside 8 = .ok (.iload_n 1, 1) := by decide +kernel
theorem dX11_beside_9 : decode cX11_beside 9 = .ok (.tableswitch 81 0 3 #[31, 44, 57, 69], 31) := by decide +kernel
theorem dX11_beside_40 : decode cX11_beside 40 = .ok (.iload_n 3, 1) := by decide +kernel
theorem dX11_beside_41 : decode cX11_beside 41 = .ok (.iconst 4, 1) := by decide +kernel
theorem dX11_beside_42 : decode cX11_beside 42 = .ok (.if_icmp .ge 9, 3) := by decide +kernel
theorem dX11_beside_45 : decode cX11_beside 45 = .ok (.iload_n 0, 1) := by decide +kernel
theorem dX11_beside_46 : decode cX11_beside 46 = .ok (.iconst 5, 1) := by decide +kernel
theorem dX11_beside_47 : decode cX11_beside 47 = .ok (.iadd, 1) := by decide +kernel
theorem dX11_beside_48 : decode cX11_beside 48 = .ok (.goto 4, 3) := by decide +kernel
theorem dX11_beside_51 : decode cX11_beside 51 = .ok (.iconst (-1), 1) := by decide +kernel
theorem dX11_beside_52 : decode cX11_beside 52 = .ok (.ireturn, 1) := by decide +kernel
theorem dX11_beside_53 : decode cX11_beside 53 = .ok (.iload_n 2, 1) := by decide +kernel
theorem dX11_beside_54 : decode cX11_beside 54 = .ok (.iconst 4, 1) := by decide +kernel
theorem dX11_beside_55 : decode cX11_beside 55 = .ok (.if_icmp .ge 9, 3) := by decide +kernel
theorem dX11_beside_58 : decode cX11_beside 58 = .ok (.iload_n 0, 1) := by decide +kernel
theorem dX11_beside_59 : decode cX11_beside 59 = .ok (.iconst 1, 1) := by decide +kernel
theorem dX11_beside_60 : decode cX11_beside 60 = .ok (.iadd, 1) := by decide +kernel
theorem dX11_beside_61 : decode cX11_beside 61 = .ok (.goto 4, 3) := by decide +kernel
theorem dX11_beside_64 : decode cX11_beside 64 = .ok (.iconst (-1), 1) := by decide +kernel
theorem dX11_beside_65 : decode cX11_beside 65 = .ok (.ireturn, 1) := by decide +kernel
theorem dX11_beside_66 : decode cX11_beside 66 = .ok (.iload_n 3, 1) := by decide +kernel
theorem dX11_beside_67 : decode cX11_beside 67 = .ok (.ifCond .le 9, 3) := by decide +kernel
theorem dX11_beside_70 : decode cX11_beside 70 = .ok (.iload_n 0, 1) := by decide +kernel
theorem dX11_beside_71 : decode cX11_beside 71 = .ok (.iconst 5, 1) := by decide +kernel
theorem dX11_beside_72 : decode cX11_beside 72 = .ok (.isub, 1) := by decide +kernel
theorem dX11_beside_73 : decode cX11_beside 73 = .ok (.goto 4, 3) := by decide +kernel
theorem dX11_beside_76 : decode cX11_beside 76 = .ok (.iconst (-1), 1) := by decide +kernel
theorem dX11_beside_77 : decode cX11_beside 77 = .ok (.ireturn, 1) := by decide +kernel
theorem dX11_beside_78 : decode cX11_beside 78 = .ok (.iload_n 2, 1) := by decide +kernel
theorem dX11_beside_79 : decode cX11_beside 79 = .ok (.ifCond .le 9, 3) := by decide +kernel
theorem dX11_beside_82 : decode cX11_beside 82 = .ok (.iload_n 0, 1) := by decide +kernel
theorem dX11_beside_83 : decode cX11_beside 83 = .ok (.iconst 1, 1) := by decide +kernel
theorem dX11_beside_84 : decode cX11_beside 84 = .ok (.isub, 1) := by decide +kernel
theorem dX11_beside_85 : decode cX11_beside 85 = .ok (.goto 4, 3) := by decide +kernel
theorem dX11_beside_88 : decode cX11_beside 88 = .ok (.iconst (-1), 1) := by decide +kernel
theorem dX11_beside_89 : decode cX11_beside 89 = .ok (.ireturn, 1) := by decide +kernel
theorem dX11_beside_90 : decode cX11_beside 90 = .ok (.iconst (-1), 1) := by decide +kernel
theorem dX11_beside_91 : decode cX11_beside 91 = .ok (.ireturn, 1) := by decide +kernel
set_option maxRecDepth 100000 in
theorem okm_X11_beside : okL RX11 cX11_beside 4 (some .int) "beside" pcX11_beside opX11_beside pcX11_beside := by
  unfold opX11_beside
  refine okL_cons (ok_iload_n rfl dX11_beside_0) rfl ?_
  refine okL_cons (ok_iconst rfl dX11_beside_1) rfl ?_
  refine okL_cons (ok_irem dX11_beside_2) rfl ?_
  refine okL_cons (ok_istore_n rfl dX11_beside_3) rfl ?_
  refine okL_cons (ok_iload_n rfl dX11_beside_4) rfl ?_
  refine okL_cons (ok_iconst rfl dX11_beside_5) rfl ?_
  refine okL_cons (ok_idiv dX11_beside_6) rfl ?_
  refine okL_cons (ok_istore_n rfl dX11_beside_7) rfl ?_
  refine okL_cons (ok_iload_n rfl dX11_beside_8) rfl ?_
  refine okL_cons (ok_sw rfl rfl (sw_all rfl) dX11_beside_9) rfl ?_
  refine okL_cons (ok_iload_n rfl dX11_beside_40) rfl ?_
  refine okL_cons (ok_iconst rfl dX11_beside_41) rfl ?_
  refine okL_cons (ok_icmp_ge rfl dX11_beside_42) rfl ?_
  refine okL_cons (ok_iload_n rfl dX11_beside_45) rfl ?_
  refine okL_cons (ok_iconst rfl dX11_beside_46) rfl ?_
  refine okL_cons (ok_iadd dX11_beside_47) rfl ?_
  refine okL_cons (ok_goto rfl dX11_beside_48) rfl ?_
  refine okL_cons (ok_iconst rfl dX11_beside_51) rfl ?_
  refine okL_cons (ok_ireturn rfl dX11_beside_52) rfl ?_
  refine okL_cons (ok_iload_n rfl dX11_beside_53) rfl ?_
  refine okL_cons (ok_iconst rfl dX11_beside_54) rfl ?_
  refine okL_cons (ok_icmp_ge rfl dX11_beside_55) rfl ?_
  refine okL_cons (ok_iload_n rfl dX11_beside_58) rfl ?_
  refine okL_cons (ok_iconst rfl dX11_beside_59) rfl ?_
  refine okL_cons (ok_iadd dX11_beside_60) rfl ?_
  refine okL_cons (ok_goto rfl dX11_beside_61) rfl ?_
  refine okL_cons (ok_iconst rfl dX11_beside_64) rfl ?_
  refine okL_cons (ok_ireturn rfl dX11_beside_65) rfl ?_
  refine okL_cons (ok_iload_n rfl dX11_beside_66) rfl ?_
  refine okL_cons (ok_if_le rfl dX11_beside_67) rfl ?_
  refine okL_cons (ok_iload_n rfl dX11_beside_70) rfl ?_
  refine okL_cons (ok_iconst rfl dX11_beside_71) rfl ?_
  refine okL_cons (ok_isub dX11_beside_72) rfl ?_
  refine okL_cons (ok_goto rfl dX11_beside_73) rfl ?_
  refine okL_cons (ok_iconst rfl dX11_beside_76) rfl ?_
  refine okL_cons (ok_ireturn rfl dX11_beside_77) rfl ?_
  refine okL_cons (ok_iload_n rfl dX11_beside_78) rfl ?_
  refine okL_cons (ok_if_le rfl dX11_beside_79) rfl ?_
  refine okL_cons (ok_iload_n rfl dX11_beside_82) rfl ?_
  refine okL_cons (ok_iconst rfl dX11_beside_83) rfl ?_
  refine okL_cons (ok_isub dX11_beside_84) rfl ?_
  refine okL_cons (ok_goto rfl dX11_beside_85) rfl ?_
  refine okL_cons (ok_iconst rfl dX11_beside_88) rfl ?_
  refine okL_cons (ok_ireturn rfl dX11_beside_89) rfl ?_
  refine okL_cons (ok_iconst rfl dX11_beside_90) rfl ?_
  exact okL_one (ok_ireturn rfl dX11_beside_91)
theorem dX12_init_0 : decode cX12_init 0 = .ok (.aload_n 0, 1) := by decide +kernel
theorem dX12_init_1 : decode cX12_init 1 = .ok (.invokespecial 1, 3) := by decide +kernel
theorem dX12_init_4 : decode cX12_init 4 = .ok (.aload_n 0, 1) := by decide +kernel
theorem dX12_init_5 : decode cX12_init 5 = .ok (.bipush 7, 2) := by decide +kernel
theorem dX12_init_7 : decode cX12_init 7 = .ok (.newarray .int, 2) := by decide +kernel
theorem dX12_init_9 : decode cX12_init 9 = .ok (.putfield 7, 3) := by decide +kernel
theorem dX12_init_12 : decode cX12_init 12 = .ok (.aload_n 0, 1) := by decide +kernel
theorem dX12_init_13 : decode cX12_init 13 = .ok (.sipush 5468, 3) := by decide +kernel
theorem dX12_init_16 : decode cX12_init 16 = .ok (.newarray .int, 2) := by decide +kernel
theorem dX12_init_18 : decode cX12_init 18 = .ok (.putfield 13, 3) := by decide +kernel
theorem dX12_init_21 : decode cX12_init 21 = .ok (.aload_n 0, 1) := by decide +kernel
theorem dX12_init_22 : decode cX12_init 22 = .ok (.sipush 10936, 3) := by decide +kernel
theorem dX12_init_25 : decode cX12_init 25 = .ok (.newarray .int, 2) := by decide +kernel
theorem dX12_init_27 : decode cX12_init 27 = .ok (.putfield 16, 3) := by decide +kernel
theorem dX12_init_30 : decode cX12_init 30 = .ok (.aload_n 0, 1) := by decide +kernel
theorem dX12_init_31 : decode cX12_init 31 = .ok (.iconst 2, 1) := by decide +kernel
theorem dX12_init_32 : decode cX12_init 32 = .ok (.newarray .boolean, 2) := by decide +kernel
theorem dX12_init_34 : decode cX12_init 34 = .ok (.putfield 19, 3) := by decide +kernel
theorem dX12_init_37 : decode cX12_init 37 = .ok (.aload_n 0, 1) := by decide +kernel
theorem dX12_init_38 : decode cX12_init 38 = .ok (.sipush 936, 3) := by decide +kernel
theorem dX12_init_41 : decode cX12_init 41 = .ok (.newarray .int, 2) := by decide +kernel
theorem dX12_init_43 : decode cX12_init 43 = .ok (.putfield 23, 3) := by decide +kernel
theorem dX12_init_46 : decode cX12_init 46 = .ok (.aload_n 0, 1) := by decide +kernel
theorem dX12_init_47 : decode cX12_init 47 = .ok (.bipush 16, 2) := by decide +kernel
theorem dX12_init_49 : decode cX12_init 49 = .ok (.newarray .int, 2) := by decide +kernel
theorem dX12_init_51 : decode cX12_init 51 = .ok (.putfield 26, 3) := by decide +kernel
theorem dX12_init_54 : decode cX12_init 54 = .ok (.aload_n 0, 1) := by decide +kernel
theorem dX12_init_55 : decode cX12_init 55 = .ok (.sipush 832, 3) := by decide +kernel
theorem dX12_init_58 : decode cX12_init 58 = .ok (.newarray .int, 2) := by decide +kernel
theorem dX12_init_60 : decode cX12_init 60 = .ok (.putfield 29, 3) := by decide +kernel
theorem dX12_init_63 : decode cX12_init 63 = .ok (.aload_n 0, 1) := by decide +kernel
theorem dX12_init_64 : decode cX12_init 64 = .ok (.bipush 16, 2) := by decide +kernel
theorem dX12_init_66 : decode cX12_init 66 = .ok (.newarray .int, 2) := by decide +kernel
theorem dX12_init_68 : decode cX12_init 68 = .ok (.putfield 32, 3) := by decide +kernel
theorem dX12_init_71 : decode cX12_init 71 = .ok (.aload_n 0, 1) := by decide +kernel
theorem dX12_init_72 : decode cX12_init 72 = .ok (.sipush 400, 3) := by decide +kernel
theorem dX12_init_75 : decode cX12_init 75 = .ok (.newarray .int, 2) := by decide +kernel
theorem dX12_init_77 : decode cX12_init 77 = .ok (.putfield 35, 3) := by decide +kernel
theorem dX12_init_80 : decode cX12_init 80 = .ok (.aload_n 0, 1) := by decide +kernel
theorem dX12_init_81 : decode cX12_init 81 = .ok (.iconst (-1), 1) := by decide +kernel
theorem dX12_init_82 : decode cX12_init 82 = .ok (.putfield 38, 3) := by decide +kernel
theorem dX12_init_85 : decode cX12_init 85 = .ok (.aload_n 0, 1) := by decide +kernel
theorem dX12_init_86 : decode cX12_init 86 = .ok (.bipush 96, 2) := by decide +kernel
theorem dX12_init_88 : decode cX12_init 88 = .ok (.newarray .int, 2) := by decide +kernel
theorem dX12_init_90 : decode cX12_init 90 = .ok (.putfield 42, 3) := by decide +kernel
theorem dX12_init_93 : decode cX12_init 93 = .ok (.aload_n 0, 1) := by decide +kernel
theorem dX12_init_94 : decode cX12_init 94 = .ok (.sipush 400, 3) := by decide +kernel
theorem dX12_init_97 : decode cX12_init 97 = .ok (.newarray .int, 2) := by decide +kernel
theorem dX12_init_99 : decode cX12_init 99 = .ok (.putfield 45, 3) := by decide +kernel
theorem dX12_init_102 : decode cX12_init 102 = .ok (.aload_n 0, 1) := by decide +kernel
theorem dX12_init_103 : decode cX12_init 103 = .ok (.sipush 400, 3) := by decide +kernel
theorem dX12_init_106 : decode cX12_init 106 = .ok (.newarray .int, 2) := by decide +kernel
theorem dX12_init_108 : decode cX12_init 108 = .ok (.putfield 48, 3) := by decide +kernel
theorem dX12_init_111 : decode cX12_init 111 = .ok (.aload_n 0, 1) := by decide +kernel
theorem dX12_init_112 : decode cX12_init 112 = .ok (.sipush 400, 3) := by decide +kernel
theorem dX12_init_115 : decode cX12_init 115 = .ok (.newarray .int, 2) := by decide +kernel
theorem dX12_init_117 : decode cX12_init 117 = .ok (.putfield 51, 3) := by decide +kernel
theorem dX12_init_120 : decode cX12_init 120 = .ok (.aload_n 0, 1) := by decide +kernel
theorem dX12_init_121 : decode cX12_init 121 = .ok (.sipush 400, 3) := by decide +kernel
theorem dX12_init_124 : decode cX12_init 124 = .ok (.newarray .int, 2) := by decide +kernel
theorem dX12_init_126 : decode cX12_init 126 = .ok (.putfield 54, 3) := by decide +kernel
theorem dX12_init_129 : decode cX12_init 129 = .ok (.aload_n 0, 1) := by decide +kernel
theorem dX12_init_130 : decode cX12_init 130 = .ok (.bipush 7, 2) := by decide +kernel
theorem dX12_init_132 : decode cX12_init 132 = .ok (.newarray .long, 2) := by decide +kernel
theorem dX12_init_134 : decode cX12_init 134 = .ok (.dup, 1) := by decide +kernel
theorem dX12_init_135 : decode cX12_init 135 = .ok (.iconst 0, 1) := by decide +kernel
theorem dX12_init_136 : decode cX12_init 136 = .ok (.ldc2_w 57, 3) := by decide +kernel
theorem dX12_init_139 : decode cX12_init 139 = .ok (.lastore, 1) := by decide +kernel
theorem dX12_init_140 : decode cX12_init 140 = .ok (.dup, 1) := by decide +kernel
theorem dX12_init_141 : decode cX12_init 141 = .ok (.iconst 1, 1) := by decide +kernel
theorem dX12_init_142 : decode cX12_init 142 = .ok (.ldc2_w 59, 3) := by decide +kernel
theorem dX12_init_145 : decode cX12_init 145 = .ok (.lastore, 1) := by decide +kernel
theorem dX12_init_146 : decode cX12_init 146 = .ok (.dup, 1) := by decide +kernel
theorem dX12_init_147 : decode cX12_init 147 = .ok (.iconst 2, 1) := by decide +kernel
theorem dX12_init_148 : decode cX12_init 148 = .ok (.ldc2_w 61, 3) := by decide +kernel
theorem dX12_init_151 : decode cX12_init 151 = .ok (.lastore, 1) := by decide +kernel
theorem dX12_init_152 : decode cX12_init 152 = .ok (.dup, 1) := by decide +kernel
theorem dX12_init_153 : decode cX12_init 153 = .ok (.iconst 3, 1) := by decide +kernel
theorem dX12_init_154 : decode cX12_init 154 = .ok (.ldc2_w 63, 3) := by decide +kernel
theorem dX12_init_157 : decode cX12_init 157 = .ok (.lastore, 1) := by decide +kernel
theorem dX12_init_158 : decode cX12_init 158 = .ok (.dup, 1) := by decide +kernel
theorem dX12_init_159 : decode cX12_init 159 = .ok (.iconst 4, 1) := by decide +kernel
theorem dX12_init_160 : decode cX12_init 160 = .ok (.ldc2_w 65, 3) := by decide +kernel
theorem dX12_init_163 : decode cX12_init 163 = .ok (.lastore, 1) := by decide +kernel
theorem dX12_init_164 : decode cX12_init 164 = .ok (.dup, 1) := by decide +kernel
theorem dX12_init_165 : decode cX12_init 165 = .ok (.iconst 5, 1) := by decide +kernel
theorem dX12_init_166 : decode cX12_init 166 = .ok (.ldc2_w 67, 3) := by decide +kernel
theorem dX12_init_169 : decode cX12_init 169 = .ok (.lastore, 1) := by decide +kernel
theorem dX12_init_170 : decode cX12_init 170 = .ok (.dup, 1) := by decide +kernel
theorem dX12_init_171 : decode cX12_init 171 = .ok (.bipush 6, 2) := by decide +kernel
theorem dX12_init_173 : decode cX12_init 173 = .ok (.ldc2_w 69, 3) := by decide +kernel
theorem dX12_init_176 : decode cX12_init 176 = .ok (.lastore, 1) := by decide +kernel
theorem dX12_init_177 : decode cX12_init 177 = .ok (.putfield 71, 3) := by decide +kernel
theorem dX12_init_180 : decode cX12_init 180 = .ok (.aload_n 0, 1) := by decide +kernel
theorem dX12_init_181 : decode cX12_init 181 = .ok (.bipush 7, 2) := by decide +kernel
theorem dX12_init_183 : decode cX12_init 183 = .ok (.newarray .long, 2) := by decide +kernel
theorem dX12_init_185 : decode cX12_init 185 = .ok (.dup, 1) := by decide +kernel
theorem dX12_init_186 : decode cX12_init 186 = .ok (.iconst 0, 1) := by decide +kernel
theorem dX12_init_187 : decode cX12_init 187 = .ok (.ldc2_w 65, 3) := by decide +kernel
theorem dX12_init_190 : decode cX12_init 190 = .ok (.lastore, 1) := by decide +kernel
theorem dX12_init_191 : decode cX12_init 191 = .ok (.dup, 1) := by decide +kernel
theorem dX12_init_192 : decode cX12_init 192 = .ok (.iconst 1, 1) := by decide +kernel
theorem dX12_init_193 : decode cX12_init 193 = .ok (.ldc2_w 75, 3) := by decide +kernel
theorem dX12_init_196 : decode cX12_init 196 = .ok (.lastore, 1) := by decide +kernel
theorem dX12_init_197 : decode cX12_init 197 = .ok (.dup, 1) := by decide +kernel
theorem dX12_init_198 : decode cX12_init 198 = .ok (.iconst 2, 1) := by decide +kernel
theorem dX12_init_199 : decode cX12_init 199 = .ok (.ldc2_w 77, 3) := by decide +kernel
theorem dX12_init_202 : decode cX12_init 202 = .ok (.lastore, 1) := by decide +kernel
theorem dX12_init_203 : decode cX12_init 203 = .ok (.dup, 1) := by decide +kernel
theorem dX12_init_204 : decode cX12_init 204 = .ok (.iconst 3, 1) := by decide +kernel
theorem dX12_init_205 : decode cX12_init 205 = .ok (.ldc2_w 79, 3) := by decide +kernel
theorem dX12_init_208 : decode cX12_init 208 = .ok (.lastore, 1) := by decide +kernel
theorem dX12_init_209 : decode cX12_init 209 = .ok (.dup, 1) := by decide +kernel
theorem dX12_init_210 : decode cX12_init 210 = .ok (.iconst 4, 1) := by decide +kernel
theorem dX12_init_211 : decode cX12_init 211 = .ok (.ldc2_w 81, 3) := by decide +kernel
theorem dX12_init_214 : decode cX12_init 214 = .ok (.lastore, 1) := by decide +kernel
theorem dX12_init_215 : decode cX12_init 215 = .ok (.dup, 1) := by decide +kernel
theorem dX12_init_216 : decode cX12_init 216 = .ok (.iconst 5, 1) := by decide +kernel
theorem dX12_init_217 : decode cX12_init 217 = .ok (.ldc2_w 83, 3) := by decide +kernel
theorem dX12_init_220 : decode cX12_init 220 = .ok (.lastore, 1) := by decide +kernel
theorem dX12_init_221 : decode cX12_init 221 = .ok (.dup, 1) := by decide +kernel
theorem dX12_init_222 : decode cX12_init 222 = .ok (.bipush 6, 2) := by decide +kernel
theorem dX12_init_224 : decode cX12_init 224 = .ok (.ldc2_w 61, 3) := by decide +kernel
theorem dX12_init_227 : decode cX12_init 227 = .ok (.lastore, 1) := by decide +kernel
theorem dX12_init_228 : decode cX12_init 228 = .ok (.putfield 85, 3) := by decide +kernel
theorem dX12_init_231 : decode cX12_init 231 = .ok (.aload_n 0, 1) := by decide +kernel
theorem dX12_init_232 : decode cX12_init 232 = .ok (.iconst 2, 1) := by decide +kernel
theorem dX12_init_233 : decode cX12_init 233 = .ok (.newarray .long, 2) := by decide +kernel
theorem dX12_init_235 : decode cX12_init 235 = .ok (.dup, 1) := by decide +kernel
theorem dX12_init_236 : decode cX12_init 236 = .ok (.iconst 0, 1) := by decide +kernel
theorem dX12_init_237 : decode cX12_init 237 = .ok (.ldc2_w 88, 3) := by decide +kernel
theorem dX12_init_240 : decode cX12_init 240 = .ok (.lastore, 1) := by decide +kernel
theorem dX12_init_241 : decode cX12_init 241 = .ok (.dup, 1) := by decide +kernel
theorem dX12_init_242 : decode cX12_init 242 = .ok (.iconst 1, 1) := by decide +kernel
theorem dX12_init_243 : decode cX12_init 243 = .ok (.ldc2_w 90, 3) := by decide +kernel
theorem dX12_init_246 : decode cX12_init 246 = .ok (.lastore, 1) := by decide +kernel
theorem dX12_init_247 : decode cX12_init 247 = .ok (.putfield 92, 3) := by decide +kernel
theorem dX12_init_250 : decode cX12_init 250 = .ok (.aload_n 0, 1) := by decide +kernel
theorem dX12_init_251 : decode cX12_init 251 = .ok (.bipush 13, 2) := by decide +kernel
theorem dX12_init_253 : decode cX12_init 253 = .ok (.newarray .long, 2) := by decide +kernel
theorem dX12_init_255 : decode cX12_init 255 = .ok (.putfield 95, 3) := by decide +kernel
theorem dX12_init_258 : decode cX12_init 258 = .ok (.aload_n 0, 1) := by decide +kernel
theorem dX12_init_259 : decode cX12_init 259 = .ok (.bipush 13, 2) := by decide +kernel
theorem dX12_init_261 : decode cX12_init 261 = .ok (.newarray .long, 2) := by decide +kernel
theorem dX12_init_263 : decode cX12_init 263 = .ok (.putfield 98, 3) := by decide +kernel
theorem dX12_init_266 : decode cX12_init 266 = .ok (.aload_n 0, 1) := by decide +kernel
theorem dX12_init_267 : decode cX12_init 267 = .ok (.sipush 400, 3) := by decide +kernel
theorem dX12_init_270 : decode cX12_init 270 = .ok (.newarray .long, 2) := by decide +kernel
theorem dX12_init_272 : decode cX12_init 272 = .ok (.putfield 101, 3) := by decide +kernel
theorem dX12_init_275 : decode cX12_init 275 = .ok (.aload_n 0, 1) := by decide +kernel
theorem dX12_init_276 : decode cX12_init 276 = .ok (.bipush 25, 2) := by decide +kernel
theorem dX12_init_278 : decode cX12_init 278 = .ok (.newarray .int, 2) := by decide +kernel
theorem dX12_init_280 : decode cX12_init 280 = .ok (.putfield 104, 3) := by decide +kernel
theorem dX12_init_283 : decode cX12_init 283 = .ok (.aload_n 0, 1) := by decide +kernel
theorem dX12_init_284 : decode cX12_init 284 = .ok (.bipush 25, 2) := by decide +kernel
theorem dX12_init_286 : decode cX12_init 286 = .ok (.newarray .int, 2) := by decide +kernel
theorem dX12_init_288 : decode cX12_init 288 = .ok (.putfield 107, 3) := by decide +kernel
theorem dX12_init_291 : decode cX12_init 291 = .ok (.aload_n 0, 1) := by decide +kernel
theorem dX12_init_292 : decode cX12_init 292 = .ok (.bipush 8, 2) := by decide +kernel
theorem dX12_init_294 : decode cX12_init 294 = .ok (.newarray .int, 2) := by decide +kernel
theorem dX12_init_296 : decode cX12_init 296 = .ok (.putfield 110, 3) := by decide +kernel
theorem dX12_init_299 : decode cX12_init 299 = .ok (.aload_n 0, 1) := by decide +kernel
theorem dX12_init_300 : decode cX12_init 300 = .ok (.bipush 9, 2) := by decide +kernel
theorem dX12_init_302 : decode cX12_init 302 = .ok (.newarray .int, 2) := by decide +kernel
theorem dX12_init_304 : decode cX12_init 304 = .ok (.putfield 113, 3) := by decide +kernel
theorem dX12_init_307 : decode cX12_init 307 = .ok (.aload_n 0, 1) := by decide +kernel
theorem dX12_init_308 : decode cX12_init 308 = .ok (.bipush 64, 2) := by decide +kernel
theorem dX12_init_310 : decode cX12_init 310 = .ok (.newarray .boolean, 2) := by decide +kernel
theorem dX12_init_312 : decode cX12_init 312 = .ok (.putfield 116, 3) := by decide +kernel
theorem dX12_init_315 : decode cX12_init 315 = .ok (.aload_n 0, 1) := by decide +kernel
theorem dX12_init_316 : decode cX12_init 316 = .ok (.sipush 248, 3) := by decide +kernel
theorem dX12_init_319 : decode cX12_init 319 = .ok (.newarray .int, 2) := by decide +kernel
theorem dX12_init_321 : decode cX12_init 321 = .ok (.putfield 119, 3) := by decide +kernel
theorem dX12_init_324 : decode cX12_init 324 = .ok (.aload_n 0, 1) := by decide +kernel
theorem dX12_init_325 : decode cX12_init 325 = .ok (.bipush 21, 2) := by decide +kernel
theorem dX12_init_327 : decode cX12_init 327 = .ok (.newarray .long, 2) := by decide +kernel
theorem dX12_init_329 : decode cX12_init 329 = .ok (.putfield 122, 3) := by decide +kernel
theorem dX12_init_332 : decode cX12_init 332 = .ok (.aload_n 0, 1) := by decide +kernel
theorem dX12_init_333 : decode cX12_init 333 = .ok (.iconst 4, 1) := by decide +kernel
theorem dX12_init_334 : decode cX12_init 334 = .ok (.newarray .long, 2) := by decide +kernel
theorem dX12_init_336 : decode cX12_init 336 = .ok (.dup, 1) := by decide +kernel
theorem dX12_init_337 : decode cX12_init 337 = .ok (.iconst 0, 1) := by decide +kernel
theorem dX12_init_338 : decode cX12_init 338 = .ok (.ldc2_w 125, 3) := by decide +kernel
theorem dX12_init_341 : decode cX12_init 341 = .ok (.lastore, 1) := by decide +kernel
theorem dX12_init_342 : decode cX12_init 342 = .ok (.dup, 1) := by decide +kernel
theorem dX12_init_343 : decode cX12_init 343 = .ok (.iconst 1, 1) := by decide +kernel
theorem dX12_init_344 : decode cX12_init 344 = .ok (.ldc2_w 127, 3) := by decide +kernel
theorem dX12_init_347 : decode cX12_init 347 = .ok (.lastore, 1) := by decide +kernel
theorem dX12_init_348 : decode cX12_init 348 = .ok (.dup, 1) := by decide +kernel
theorem dX12_init_349 : decode cX12_init 349 = .ok (.iconst 2, 1) := by decide +kernel
theorem dX12_init_350 : decode cX12_init 350 = .ok (.ldc2_w 129, 3) := by decide +kernel
theorem dX12_init_353 : decode cX12_init 353 = .ok (.lastore, 1) := by decide +kernel
theorem dX12_init_354 : decode cX12_init 354 = .ok (.dup, 1) := by decide +kernel
theorem dX12_init_355 : decode cX12_init 355 = .ok (.iconst 3, 1) := by decide +kernel
theorem dX12_init_356 : decode cX12_init 356 = .ok (.ldc2_w 131, 3) := by decide +kernel
theorem dX12_init_359 : decode cX12_init 359 = .ok (.lastore, 1) := by decide +kernel
theorem dX12_init_360 : decode cX12_init 360 = .ok (.putfield 133, 3) := by decide +kernel
theorem dX12_init_363 : decode cX12_init 363 = .ok (.aload_n 0, 1) := by decide +kernel
theorem dX12_init_364 : decode cX12_init 364 = .ok (.iconst 3, 1) := by decide +kernel
theorem dX12_init_365 : decode cX12_init 365 = .ok (.newarray .long, 2) := by decide +kernel
theorem dX12_init_367 : decode cX12_init 367 = .ok (.dup, 1) := by decide +kernel
theorem dX12_init_368 : decode cX12_init 368 = .ok (.iconst 0, 1) := by decide +kernel
theorem dX12_init_369 : decode cX12_init 369 = .ok (.ldc2_w 83, 3) := by decide +kernel
theorem dX12_init_372 : decode cX12_init 372 = .ok (.lastore, 1) := by decide +kernel
theorem dX12_init_373 : decode cX12_init 373 = .ok (.dup, 1) := by decide +kernel
theorem dX12_init_374 : decode cX12_init 374 = .ok (.iconst 1, 1) := by decide +kernel
theorem dX12_init_375 : decode cX12_init 375 = .ok (.ldc2_w 136, 3) := by decide +kernel
theorem dX12_init_378 : decode cX12_init 378 = .ok (.lastore, 1) := by decide +kernel
theorem dX12_init_379 : decode cX12_init 379 = .ok (.dup, 1) := by decide +kernel
theorem dX12_init_380 : decode cX12_init 380 = .ok (.iconst 2, 1) := by decide +kernel
theorem dX12_init_381 : decode cX12_init 381 = .ok (.ldc2_w 138, 3) := by decide +kernel
theorem dX12_init_384 : decode cX12_init 384 = .ok (.lastore, 1) := by decide +kernel
theorem dX12_init_385 : decode cX12_init 385 = .ok (.putfield 140, 3) := by decide +kernel
theorem dX12_init_388 : decode cX12_init 388 = .ok (.aload_n 0, 1) := by decide +kernel
theorem dX12_init_389 : decode cX12_init 389 = .ok (.bipush 96, 2) := by decide +kernel
theorem dX12_init_391 : decode cX12_init 391 = .ok (.newarray .int, 2) := by decide +kernel
theorem dX12_init_393 : decode cX12_init 393 = .ok (.putfield 143, 3) := by decide +kernel
theorem dX12_init_396 : decode cX12_init 396 = .ok (.aload_n 0, 1) := by decide +kernel
theorem dX12_init_397 : decode cX12_init 397 = .ok (.iconst (-1), 1) := by decide +kernel
theorem dX12_init_398 : decode cX12_init 398 = .ok (.putfield 146, 3) := by decide +kernel
theorem dX12_init_401 : decode cX12_init 401 = .ok (.aload_n 0, 1) := by decide +kernel
theorem dX12_init_402 : decode cX12_init 402 = .ok (.bipush 52, 2) := by decide +kernel
theorem dX12_init_404 : decode cX12_init 404 = .ok (.newarray .int, 2) := by decide +kernel
theorem dX12_init_406 : decode cX12_init 406 = .ok (.putfield 149, 3) := by decide +kernel
theorem dX12_init_409 : decode cX12_init 409 = .ok (.aload_n 0, 1) := by decide +kernel
theorem dX12_init_410 : decode cX12_init 410 = .ok (.getfield 13, 3) := by decide +kernel
theorem dX12_init_413 : decode cX12_init 413 = .ok (.iconst 2, 1) := by decide +kernel
theorem dX12_init_414 : decode cX12_init 414 = .ok (.iconst (-1), 1) := by decide +kernel
theorem dX12_init_415 : decode cX12_init 415 = .ok (.iastore, 1) := by decide +kernel
theorem dX12_init_416 : decode cX12_init 416 = .ok (.aload_n 0, 1) := by decide +kernel
theorem dX12_init_417 : decode cX12_init 417 = .ok (.getfield 13, 3) := by decide +kernel
theorem dX12_init_420 : decode cX12_init 420 = .ok (.iconst 5, 1) := by decide +kernel
theorem dX12_init_421 : decode cX12_init 421 = .ok (.iconst 1, 1) := by decide +kernel
theorem dX12_init_422 : decode cX12_init 422 = .ok (.iastore, 1) := by decide +kernel
theorem dX12_init_423 : decode cX12_init 423 = .ok (.iconst 0, 1) := by decide +kernel
theorem dX12_init_424 : decode cX12_init 424 = .ok (.istore_n 1, 1) := by decide +kernel
theorem dX12_init_425 : decode cX12_init 425 = .ok (.iload_n 1, 1) := by decide +kernel
theorem dX12_init_426 : decode cX12_init 426 = .ok (.bipush 8, 2) := by decide +kernel
theorem dX12_init_428 : decode cX12_init 428 = .ok (.if_icmp .ge 29, 3) := by decide +kernel
theorem dX12_init_431 : decode cX12_init 431 = .ok (.aload_n 0, 1) := by decide +kernel
theorem dX12_init_432 : decode cX12_init 432 = .ok (.getfield 13, 3) := by decide +kernel
theorem dX12_init_435 : decode cX12_init 435 = .ok (.bipush 40, 2) := by decide +kernel
theorem dX12_init_437 : decode cX12_init 437 = .ok (.iload_n 1, 1) := by decide +kernel
theorem dX12_init_438 : decode cX12_init 438 = .ok (.iadd, 1) := by decide +kernel
theorem dX12_init_439 : decode cX12_init 439 = .ok (.iconst (-1), 1) := by decide +kernel
theorem dX12_init_440 : decode cX12_init 440 = .ok (.iastore, 1) := by decide +kernel
theorem dX12_init_441 : decode cX12_init 441 = .ok (.aload_n 0, 1) := by decide +kernel
theorem dX12_init_442 : decode cX12_init 442 = .ok (.getfield 13, 3) := by decide +kernel
theorem dX12_init_445 : decode cX12_init 445 = .ok (.bipush 48, 2) := by decide +kernel
theorem dX12_init_447 : decode cX12_init 447 = .ok (.iload_n 1, 1) := by decide +kernel
theorem dX12_init_448 : decode cX12_init 448 = .ok (.iadd, 1) := by decide +kernel
theorem dX12_init_449 : decode cX12_init 449 = .ok (.iconst (-1), 1) := by decide +kernel
theorem dX12_init_450 : decode cX12_init 450 = .ok (.iastore, 1) := by decide +kernel
theorem dX12_init_451 : decode cX12_init 451 = .ok (.iinc 1 1, 3) := by decide +kernel
theorem dX12_init_454 : decode cX12_init 454 = .ok (.goto (-29), 3) := by decide +kernel
theorem dX12_init_457 : decode cX12_init 457 = .ok (.return_, 1) := by decide +kernel
set_option maxRecDepth 100000 in
theorem okm_X12_init : okL RX12 cX12_init 2 none "<init>" pcX12_init opX12_init pcX12_init := by
  unfold opX12_init
  refine okL_cons (ok_aload_n rfl dX12_init_0) rfl ?_
  refine okL_cons (ok_obj kw_652 kw_29 kw_30 dX12_init_1) rfl ?_
  refine okL_cons (ok_aload_n rfl dX12_init_4) rfl ?_
  refine okL_cons (ok_bipush rfl dX12_init_5) rfl ?_
  refine okL_cons (ok_newarray_int kw_31 dX12_init_7) rfl ?_
  refine okL_cons (ok_putPF kw_653 cf_X12 rfl rfl (by decide) rfl rfl rfl dX12_init_9) rfl ?_
  refine okL_cons (ok_aload_n rfl dX12_init_12) rfl ?_
  refine okL_cons (ok_sipush rfl dX12_init_13) rfl ?_
  refine okL_cons (ok_newarray_int kw_31 dX12_init_16) rfl ?_
  refine okL_cons (ok_putPF kw_654 cf_X12 rfl rfl (by decide) rfl rfl rfl dX12_init_18) rfl ?_
  refine okL_cons (ok_aload_n rfl dX12_init_21) rfl ?_
  refine okL_cons (ok_sipush rfl dX12_init_22) rfl ?_
  refine okL_cons (ok_newarray_int kw_31 dX12_init_25) rfl ?_
  refine okL_cons (ok_putPF kw_655 cf_X12 rfl rfl (by decide) rfl rfl rfl dX12_init_27) rfl ?_
  refine okL_cons (ok_aload_n rfl dX12_init_30) rfl ?_
  refine okL_cons (ok_iconst rfl dX12_init_31) rfl ?_
  refine okL_cons (ok_newarray_boolean kw_397 dX12_init_32) rfl ?_
  refine okL_cons (ok_putPF kw_656 cf_X12 rfl rfl (by decide) rfl rfl rfl dX12_init_34) rfl ?_
  refine okL_cons (ok_aload_n rfl dX12_init_37) rfl ?_
  refine okL_cons (ok_sipush rfl dX12_init_38) rfl ?_
  refine okL_cons (ok_newarray_int kw_31 dX12_init_41) rfl ?_
  refine okL_cons (ok_putPF kw_657 cf_X12 rfl rfl (by decide) rfl rfl rfl dX12_init_43) rfl ?_
  refine okL_cons (ok_aload_n rfl dX12_init_46) rfl ?_
  refine okL_cons (ok_bipush rfl dX12_init_47) rfl ?_
  refine okL_cons (ok_newarray_int kw_31 dX12_init_49) rfl ?_
  refine okL_cons (ok_putPF kw_658 cf_X12 rfl rfl (by decide) rfl rfl rfl dX12_init_51) rfl ?_
  refine okL_cons (ok_aload_n rfl dX12_init_54) rfl ?_
  refine okL_cons (ok_sipush rfl dX12_init_55) rfl ?_
  refine okL_cons (ok_newarray_int kw_31 dX12_init_58) rfl ?_
  refine okL_cons (ok_putPF kw_659 cf_X12 rfl rfl (by decide) rfl rfl rfl dX12_init_60) rfl ?_
  refine okL_cons (ok_aload_n rfl dX12_init_63) rfl ?_
  refine okL_cons (ok_bipush rfl dX12_init_64) rfl ?_
  refine okL_cons (ok_newarray_int kw_31 dX12_init_66) rfl ?_
  refine okL_cons (ok_putPF kw_660 cf_X12 rfl rfl (by decide) rfl rfl rfl dX12_init_68) rfl ?_
  refine okL_cons (ok_aload_n rfl dX12_init_71) rfl ?_
  refine okL_cons (ok_sipush rfl dX12_init_72) rfl ?_
  refine okL_cons (ok_newarray_int kw_31 dX12_init_75) rfl ?_
  refine okL_cons (ok_putPF kw_661 cf_X12 rfl rfl (by decide) rfl rfl rfl dX12_init_77) rfl ?_
  refine okL_cons (ok_aload_n rfl dX12_init_80) rfl ?_
  refine okL_cons (ok_iconst rfl dX12_init_81) rfl ?_
  refine okL_cons (ok_putI kw_662 cf_X12 rfl rfl (by decide) rfl dX12_init_82) rfl ?_
  refine okL_cons (ok_aload_n rfl dX12_init_85) rfl ?_
  refine okL_cons (ok_bipush rfl dX12_init_86) rfl ?_
  refine okL_cons (ok_newarray_int kw_31 dX12_init_88) rfl ?_
  refine okL_cons (ok_putPF kw_663 cf_X12 rfl rfl (by decide) rfl rfl rfl dX12_init_90) rfl ?_
  refine okL_cons (ok_aload_n rfl dX12_init_93) rfl ?_
  refine okL_cons (ok_sipush rfl dX12_init_94) rfl ?_
  refine okL_cons (ok_newarray_int kw_31 dX12_init_97) rfl ?_
  refine okL_cons (ok_putPF kw_664 cf_X12 rfl rfl (by decide) rfl rfl rfl dX12_init_99) rfl ?_
  refine okL_cons (ok_aload_n rfl dX12_init_102) rfl ?_
  refine okL_cons (ok_sipush rfl dX12_init_103) rfl ?_
  refine okL_cons (ok_newarray_int kw_31 dX12_init_106) rfl ?_
  refine okL_cons (ok_putPF kw_665 cf_X12 rfl rfl (by decide) rfl rfl rfl dX12_init_108) rfl ?_
  refine okL_cons (ok_aload_n rfl dX12_init_111) rfl ?_
  refine okL_cons (ok_sipush rfl dX12_init_112) rfl ?_
  refine okL_cons (ok_newarray_int kw_31 dX12_init_115) rfl ?_
  refine okL_cons (ok_putPF kw_666 cf_X12 rfl rfl (by decide) rfl rfl rfl dX12_init_117) rfl ?_
  refine okL_cons (ok_aload_n rfl dX12_init_120) rfl ?_
  refine okL_cons (ok_sipush rfl dX12_init_121) rfl ?_
  refine okL_cons (ok_newarray_int kw_31 dX12_init_124) rfl ?_
  refine okL_cons (ok_putPF kw_667 cf_X12 rfl rfl (by decide) rfl rfl rfl dX12_init_126) rfl ?_
  refine okL_cons (ok_aload_n rfl dX12_init_129) rfl ?_
  refine okL_cons (ok_bipush rfl dX12_init_130) rfl ?_
  refine okL_cons (ok_newarray_long kw_447 dX12_init_132) rfl ?_
  refine okL_cons (ok_dup dX12_init_134) rfl ?_
  refine okL_cons (ok_iconst rfl dX12_init_135) rfl ?_
  refine okL_cons (ok_ldc2 kw_668 dX12_init_136) rfl ?_
  refine okL_cons (ok_lastore dX12_init_139) rfl ?_
  refine okL_cons (ok_dup dX12_init_140) rfl ?_
  refine okL_cons (ok_iconst rfl dX12_init_141) rfl ?_
  refine okL_cons (ok_ldc2 kw_669 dX12_init_142) rfl ?_
  refine okL_cons (ok_lastore dX12_init_145) rfl ?_
  refine okL_cons (ok_dup dX12_init_146) rfl ?_
  refine okL_cons (ok_iconst rfl dX12_init_147) rfl ?_
  refine okL_cons (ok_ldc2 kw_670 dX12_init_148) rfl ?_
  refine okL_cons (ok_lastore dX12_init_151) rfl ?_
  refine okL_cons (ok_dup dX12_init_152) rfl ?_
  refine okL_cons (ok_iconst rfl dX12_init_153) rfl ?_
  refine okL_cons (ok_ldc2 kw_671 dX12_init_154) rfl ?_
  refine okL_cons (ok_lastore dX12_init_157) rfl ?_
  refine okL_cons (ok_dup dX12_init_158) rfl ?_
  refine okL_cons (ok_iconst rfl dX12_init_159) rfl ?_
  refine okL_cons (ok_ldc2 kw_672 dX12_init_160) rfl ?_
  refine okL_cons (ok_lastore dX12_init_163) rfl ?_
  refine okL_cons (ok_dup dX12_init_164) rfl ?_
  refine okL_cons (ok_iconst rfl dX12_init_165) rfl ?_
  refine okL_cons (ok_ldc2 kw_673 dX12_init_166) rfl ?_
  refine okL_cons (ok_lastore dX12_init_169) rfl ?_
  refine okL_cons (ok_dup dX12_init_170) rfl ?_
  refine okL_cons (ok_bipush rfl dX12_init_171) rfl ?_
  refine okL_cons (ok_ldc2 kw_674 dX12_init_173) rfl ?_
  refine okL_cons (ok_lastore dX12_init_176) rfl ?_
  refine okL_cons (ok_putPF kw_675 cf_X12 rfl rfl (by decide) rfl rfl rfl dX12_init_177) rfl ?_
  refine okL_cons (ok_aload_n rfl dX12_init_180) rfl ?_
  refine okL_cons (ok_bipush rfl dX12_init_181) rfl ?_
  refine okL_cons (ok_newarray_long kw_447 dX12_init_183) rfl ?_
  refine okL_cons (ok_dup dX12_init_185) rfl ?_
  refine okL_cons (ok_iconst rfl dX12_init_186) rfl ?_
  refine okL_cons (ok_ldc2 kw_672 dX12_init_187) rfl ?_
  refine okL_cons (ok_lastore dX12_init_190) rfl ?_
  refine okL_cons (ok_dup dX12_init_191) rfl ?_
  refine okL_cons (ok_iconst rfl dX12_init_192) rfl ?_
  refine okL_cons (ok_ldc2 kw_676 dX12_init_193) rfl ?_
  refine okL_cons (ok_lastore dX12_init_196) rfl ?_
  refine okL_cons (ok_dup dX12_init_197) rfl ?_
  refine okL_cons (ok_iconst rfl dX12_init_198) rfl ?_
  refine okL_cons (ok_ldc2 kw_677 dX12_init_199) rfl ?_
  refine okL_cons (ok_lastore dX12_init_202) rfl ?_
  refine okL_cons (ok_dup dX12_init_203) rfl ?_
  refine okL_cons (ok_iconst rfl dX12_init_204) rfl ?_
  refine okL_cons (ok_ldc2 kw_678 dX12_init_205) rfl ?_
  refine okL_cons (ok_lastore dX12_init_208) rfl ?_
  refine okL_cons (ok_dup dX12_init_209) rfl ?_
  refine okL_cons (ok_iconst rfl dX12_init_210) rfl ?_
  refine okL_cons (ok_ldc2 kw_679 dX12_init_211) rfl ?_
  refine okL_cons (ok_lastore dX12_init_214) rfl ?_
  refine okL_cons (ok_dup dX12_init_215) rfl ?_
  refine okL_cons (ok_iconst rfl dX12_init_216) rfl ?_
  refine okL_cons (ok_ldc2 kw_680 dX12_init_217) rfl ?_
  refine okL_cons (ok_lastore dX12_init_220) rfl ?_
  refine okL_cons (ok_dup dX12_init_221) rfl ?_
  refine okL_cons (ok_bipush rfl dX12_init_222) rfl ?_
  refine okL_cons (ok_ldc2 kw_670 dX12_init_224) rfl ?_
  refine okL_cons (ok_lastore dX12_init_227) rfl ?_
  refine okL_cons (ok_putPF kw_681 cf_X12 rfl rfl (by decide) rfl rfl rfl dX12_init_228) rfl ?_
  refine okL_cons (ok_aload_n rfl dX12_init_231) rfl ?_
  refine okL_cons (ok_iconst rfl dX12_init_232) rfl ?_
  refine okL_cons (ok_newarray_long kw_447 dX12_init_233) rfl ?_
  refine okL_cons (ok_dup dX12_init_235) rfl ?_
  refine okL_cons (ok_iconst rfl dX12_init_236) rfl ?_
  refine okL_cons (ok_ldc2 kw_682 dX12_init_237) rfl ?_
  refine okL_cons (ok_lastore dX12_init_240) rfl ?_
  refine okL_cons (ok_dup dX12_init_241) rfl ?_
  refine okL_cons (ok_iconst rfl dX12_init_242) rfl ?_
  refine okL_cons (ok_ldc2 kw_683 dX12_init_243) rfl ?_
  refine okL_cons (ok_lastore dX12_init_246) rfl ?_
  refine okL_cons (ok_putPF kw_684 cf_X12 rfl rfl (by decide) rfl rfl rfl dX12_init_247) rfl ?_
  refine okL_cons (ok_aload_n rfl dX12_init_250) rfl ?_
  refine okL_cons (ok_bipush rfl dX12_init_251) rfl ?_
  refine okL_cons (ok_newarray_long kw_447 dX12_init_253) rfl ?_
  refine okL_cons (ok_putPF kw_685 cf_X12 rfl rfl (by decide) rfl rfl rfl dX12_init_255) rfl ?_
  refine okL_cons (ok_aload_n rfl dX12_init_258) rfl ?_
  refine okL_cons (ok_bipush rfl dX12_init_259) rfl ?_
  refine okL_cons (ok_newarray_long kw_447 dX12_init_261) rfl ?_
  refine okL_cons (ok_putPF kw_686 cf_X12 rfl rfl (by decide) rfl rfl rfl dX12_init_263) rfl ?_
  refine okL_cons (ok_aload_n rfl dX12_init_266) rfl ?_
  refine okL_cons (ok_sipush rfl dX12_init_267) rfl ?_
  refine okL_cons (ok_newarray_long kw_447 dX12_init_270) rfl ?_
  refine okL_cons (ok_putPF kw_687 cf_X12 rfl rfl (by decide) rfl rfl rfl dX12_init_272) rfl ?_
  refine okL_cons (ok_aload_n rfl dX12_init_275) rfl ?_
  refine okL_cons (ok_bipush rfl dX12_init_276) rfl ?_
  refine okL_cons (ok_newarray_int kw_31 dX12_init_278) rfl ?_
  refine okL_cons (ok_putPF kw_688 cf_X12 rfl rfl (by decide) rfl rfl rfl dX12_init_280) rfl ?_
  refine okL_cons (ok_aload_n rfl dX12_init_283) rfl ?_
  refine okL_cons (ok_bipush rfl dX12_init_284) rfl ?_
  refine okL_cons (ok_newarray_int kw_31 dX12_init_286) rfl ?_
  refine okL_cons (ok_putPF kw_689 cf_X12 rfl rfl (by decide) rfl rfl rfl dX12_init_288) rfl ?_
  refine okL_cons (ok_aload_n rfl dX12_init_291) rfl ?_
  refine okL_cons (ok_bipush rfl dX12_init_292) rfl ?_
  refine okL_cons (ok_newarray_int kw_31 dX12_init_294) rfl ?_
  refine okL_cons (ok_putPF kw_690 cf_X12 rfl rfl (by decide) rfl rfl rfl dX12_init_296) rfl ?_
  refine okL_cons (ok_aload_n rfl dX12_init_299) rfl ?_
  refine okL_cons (ok_bipush rfl dX12_init_300) rfl ?_
  refine okL_cons (ok_newarray_int kw_31 dX12_init_302) rfl ?_
  refine okL_cons (ok_putPF kw_691 cf_X12 rfl rfl (by decide) rfl rfl rfl dX12_init_304) rfl ?_
  refine okL_cons (ok_aload_n rfl dX12_init_307) rfl ?_
  refine okL_cons (ok_bipush rfl dX12_init_308) rfl ?_
  refine okL_cons (ok_newarray_boolean kw_397 dX12_init_310) rfl ?_
  refine okL_cons (ok_putPF kw_692 cf_X12 rfl rfl (by decide) rfl rfl rfl dX12_init_312) rfl ?_
  refine okL_cons (ok_aload_n rfl dX12_init_315) rfl ?_
  refine okL_cons (ok_sipush rfl dX12_init_316) rfl ?_
  refine okL_cons (ok_newarray_int kw_31 dX12_init_319) rfl ?_
  refine okL_cons (ok_putPF kw_693 cf_X12 rfl rfl (by decide) rfl rfl rfl dX12_init_321) rfl ?_
  refine okL_cons (ok_aload_n rfl dX12_init_324) rfl ?_
  refine okL_cons (ok_bipush rfl dX12_init_325) rfl ?_
  refine okL_cons (ok_newarray_long kw_447 dX12_init_327) rfl ?_
  refine okL_cons (ok_putPF kw_694 cf_X12 rfl rfl (by decide) rfl rfl rfl dX12_init_329) rfl ?_
  refine okL_cons (ok_aload_n rfl dX12_init_332) rfl ?_
  refine okL_cons (ok_iconst rfl dX12_init_333) rfl ?_
  refine okL_cons (ok_newarray_long kw_447 dX12_init_334) rfl ?_
  refine okL_cons (ok_dup dX12_init_336) rfl ?_
  refine okL_cons (ok_iconst rfl dX12_init_337) rfl ?_
  refine okL_cons (ok_ldc2 kw_695 dX12_init_338) rfl ?_
  refine okL_cons (ok_lastore dX12_init_341) rfl ?_
  refine okL_cons (ok_dup dX12_init_342) rfl ?_
  refine okL_cons (ok_iconst rfl dX12_init_343) rfl ?_
  refine okL_cons (ok_ldc2 kw_696 dX12_init_344) rfl ?_
  refine okL_cons (ok_lastore dX12_init_347) rfl ?_
  refine okL_cons (ok_dup dX12_init_348) rfl ?_
  refine okL_cons (ok_iconst rfl dX12_init_349) rfl ?_
  refine okL_cons (ok_ldc2 kw_697 dX12_init_350) rfl ?_
  refine okL_cons (ok_lastore dX12_init_353) rfl ?_
  refine okL_cons (ok_dup dX12_init_354) rfl ?_
  refine okL_cons (ok_iconst rfl dX12_init_355) rfl ?_
  refine okL_cons (ok_ldc2 kw_698 dX12_init_356) rfl ?_
  refine okL_cons (ok_lastore dX12_init_359) rfl ?_
  refine okL_cons (ok_putPF kw_699 cf_X12 rfl rfl (by decide) rfl rfl rfl dX12_init_360) rfl ?_
  refine okL_cons (ok_aload_n rfl dX12_init_363) rfl ?_
  refine okL_cons (ok_iconst rfl dX12_init_364) rfl ?_
  refine okL_cons (ok_newarray_long kw_447 dX12_init_365) rfl ?_
  refine okL_cons (ok_dup dX12_init_367) rfl ?_
  refine okL_cons (ok_iconst rfl dX12_init_368) rfl ?_
  refine okL_cons (ok_ldc2 kw_680 dX12_init_369) rfl ?_
  refine okL_cons (ok_lastore dX12_init_372) rfl ?_
  refine okL_cons (ok_dup dX12_init_373) rfl ?_
  refine okL_cons (ok_iconst rfl dX12_init_374) rfl ?_
  refine okL_cons (ok_ldc2 kw_700 dX12_init_375) rfl ?_
  refine okL_cons (ok_lastore dX12_init_378) rfl ?_
  refine okL_cons (ok_dup dX12_init_379) rfl ?_
  refine okL_cons (ok_iconst rfl dX12_init_380) rfl ?_
  refine okL_cons (ok_ldc2 kw_701 dX12_init_381) rfl ?_
  refine okL_cons (ok_lastore dX12_init_384) rfl ?_
  refine okL_cons (ok_putPF kw_702 cf_X12 rfl rfl (by decide) rfl rfl rfl dX12_init_385) rfl ?_
  refine okL_cons (ok_aload_n rfl dX12_init_388) rfl ?_
  refine okL_cons (ok_bipush rfl dX12_init_389) rfl ?_
  refine okL_cons (ok_newarray_int kw_31 dX12_init_391) rfl ?_
  refine okL_cons (ok_putPF kw_703 cf_X12 rfl rfl (by decide) rfl rfl rfl dX12_init_393) rfl ?_
  refine okL_cons (ok_aload_n rfl dX12_init_396) rfl ?_
  refine okL_cons (ok_iconst rfl dX12_init_397) rfl ?_
  refine okL_cons (ok_putI kw_704 cf_X12 rfl rfl (by decide) rfl dX12_init_398) rfl ?_
  refine okL_cons (ok_aload_n rfl dX12_init_401) rfl ?_
  refine okL_cons (ok_bipush rfl dX12_init_402) rfl ?_
  refine okL_cons (ok_newarray_int kw_31 dX12_init_404) rfl ?_
  refine okL_cons (ok_putPF kw_705 cf_X12 rfl rfl (by decide) rfl rfl rfl dX12_init_406) rfl ?_
  refine okL_cons (ok_aload_n rfl dX12_init_409) rfl ?_
  refine okL_cons (ok_getP kw_654 cf_X12 rfl rfl (by decide) dX12_init_410) rfl ?_
  refine okL_cons (ok_iconst rfl dX12_init_413) rfl ?_
  refine okL_cons (ok_iconst rfl dX12_init_414) rfl ?_
  refine okL_cons (ok_iastore dX12_init_415) rfl ?_
  refine okL_cons (ok_aload_n rfl dX12_init_416) rfl ?_
  refine okL_cons (ok_getP kw_654 cf_X12 rfl rfl (by decide) dX12_init_417) rfl ?_
  refine okL_cons (ok_iconst rfl dX12_init_420) rfl ?_
  refine okL_cons (ok_iconst rfl dX12_init_421) rfl ?_
  refine okL_cons (ok_iastore dX12_init_422) rfl ?_
  refine okL_cons (ok_iconst rfl dX12_init_423) rfl ?_
  refine okL_cons (ok_istore_n rfl dX12_init_424) rfl ?_
  refine okL_cons (ok_iload_n rfl dX12_init_425) rfl ?_
  refine okL_cons (ok_bipush rfl dX12_init_426) rfl ?_
  refine okL_cons (ok_icmp_ge rfl dX12_init_428) rfl ?_
  refine okL_cons (ok_aload_n rfl dX12_init_431) rfl ?_
  refine okL_cons (ok_getP kw_654 cf_X12 rfl rfl (by decide) dX12_init_432) rfl ?_
  refine okL_cons (ok_bipush rfl dX12_init_435) rfl ?_
  refine okL_cons (ok_iload_n rfl dX12_init_437) rfl ?_
  refine okL_cons (ok_iadd dX12_init_438) rfl ?_
  refine okL_cons (ok_iconst rfl dX12_init_439) rfl ?_
  refine okL_cons (ok_iastore dX12_init_440) rfl ?_
  refine okL_cons (ok_aload_n rfl dX12_init_441) rfl ?_
  refine okL_cons (ok_getP kw_654 cf_X12 rfl rfl (by decide) dX12_init_442) rfl ?_
  refine okL_cons (ok_bipush rfl dX12_init_445) rfl ?_
  refine okL_cons (ok_iload_n rfl dX12_init_447) rfl ?_
  refine okL_cons (ok_iadd dX12_init_448) rfl ?_
  refine okL_cons (ok_iconst rfl dX12_init_449) rfl ?_
  refine okL_cons (ok_iastore dX12_init_450) rfl ?_
  refine okL_cons (ok_iinc rfl dX12_init_451) rfl ?_
  refine okL_cons (ok_goto rfl dX12_init_454) rfl ?_
  exact okL_one (ok_return rfl dX12_init_457)
theorem dX12_in_0 : decode cX12_in 0 = .ok (.lload_n 0, 1) := by decide +kernel
theorem dX12_in_1 : decode cX12_in 1 = .ok (.lload_n 2, 1) := by decide +kernel
theorem dX12_in_2 : decode cX12_in 2 = .ok (.lcmp, 1) := by decide +kernel
theorem dX12_in_3 : decode cX12_in 3 = .ok (.ifCond .lt 14, 3) := by decide +kernel
theorem dX12_in_6 : decode cX12_in 6 = .ok (.lload_n 0, 1) := by decide +kernel
theorem dX12_in_7 : decode cX12_in 7 = .ok (.lload 4, 2) := by decide +kernel
theorem dX12_in_9 : decode cX12_in 9 = .ok (.lcmp, 1) := by decide +kernel
theorem dX12_in_10 : decode cX12_in 10 = .ok (.ifCond .gt 7, 3) := by decide +kernel
theorem dX12_in_13 : decode cX12_in 13 = .ok (.iconst 1, 1) := by decide +kernel
theorem dX12_in_14 : decode cX12_in 14 = .ok (.goto 4, 3) := by decide +kernel
theorem dX12_in_17 : decode cX12_in 17 = .ok (.iconst 0, 1) := by decide +kernel
theorem dX12_in_18 : decode cX12_in 18 = .ok (.ireturn, 1) := by decide +kernel
set_option maxRecDepth 100000 in
theorem okm_X12_in : okL RX12 cX12_in 6 (some .boolean) "in" pcX12_in opX12_in pcX12_in := by
  unfold opX12_in
  refine okL_cons (ok_lload_n rfl dX12_in_0) rfl ?_
  refine okL_cons (ok_lload_n rfl dX12_in_1) rfl ?_
  refine okL_cons (ok_lcmp dX12_in_2) rfl ?_
  refine okL_cons (ok_if_lt rfl dX12_in_3) rfl ?_
  refine okL_cons (ok_lload_n rfl dX12_in_6) rfl ?_
  refine okL_cons (ok_lload dX12_in_7) rfl ?_
  refine okL_cons (ok_lcmp dX12_in_9) rfl ?_
  refine okL_cons (ok_if_gt rfl dX12_in_10) rfl ?_
  refine okL_cons (ok_iconst rfl dX12_in_13) rfl ?_
  refine okL_cons (ok_goto rfl dX12_in_14) rfl ?_
  refine okL_cons (ok_iconst rfl dX12_in_17) rfl ?_
  exact okL_one (ok_zreturn rfl dX12_in_18)
theorem dX12_is_0 : decode cX12_is 0 = .ok (.iload_n 0, 1) := by decide +kernel
theorem dX12_is_1 : decode cX12_is 1 = .ok (.iload_n 1, 1) := by decide +kernel
theorem dX12_is_2 : decode cX12_is 2 = .ok (.ishr, 1) := by decide +kernel
theorem dX12_is_3 : decode cX12_is 3 = .ok (.iconst 1, 1) := by decide +kernel
theorem dX12_is_4 : decode cX12_is 4 = .ok (.iand, 1) := by decide +kernel
theorem dX12_is_5 : decode cX12_is 5 = .ok (.iconst 1, 1) := by decide +kernel
theorem dX12_is_6 : decode cX12_is 6 = .ok (.if_icmp .ne 7, 3) := by decide +kernel
theorem dX12_is_9 : decode cX12_is 9 = .ok (.iconst 1, 1) := by decide +kernel
theorem dX12_is_10 : decode cX12_is 10 = .ok (.goto 4, 3) := by decide +kernel
theorem dX12_is_13 : decode cX12_is 13 = .ok (.iconst 0, 1) := by decide +kernel
theorem dX12_is_14 : decode cX12_is 14 = .ok (.ireturn, 1) := by decide +kernel
set_option maxRecDepth 100000 in
theorem okm_X12_is : okL RX12 cX12_is 2 (some .boolean) "is" pcX12_is opX12_is pcX12_is := by
  unfold opX12_is
  refine okL_cons (ok_iload_n rfl dX12_is_0) rfl ?_
  refine okL_cons (ok_iload_n rfl dX12_is_1) rfl ?_
  refine okL_cons (ok_ishr dX12_is_2) rfl ?_
  refine okL_cons (ok_iconst rfl dX12_is_3) rfl ?_
  refine okL_cons (ok_iand dX12_is_4) rfl ?_
  refine okL_cons (ok_iconst rfl dX12_is_5) rfl ?_
  refine okL_cons (ok_icmp_ne rfl dX12_is_6) rfl ?_
  refine okL_cons (ok_iconst rfl dX12_is_9) rfl ?_
  refine okL_cons (ok_goto rfl dX12_is_10) rfl ?_
  refine okL_cons (ok_iconst rfl dX12_is_13) rfl ?_
  exact okL_one (ok_zreturn rfl dX12_is_14)
theorem dX12_ones_0 : decode cX12_ones 0 = .ok (.iconst 0, 1) := by decide +kernel
theorem dX12_ones_1 : decode cX12_ones 1 = .ok (.istore_n 1, 1) := by decide +kernel
theorem dX12_ones_2 : decode cX12_ones 2 = .ok (.iconst 0, 1) := by decide +kernel
theorem dX12_ones_3 : decode cX12_ones 3 = .ok (.istore_n 2, 1) := by decide +kernel
theorem dX12_ones_4 : decode cX12_ones 4 = .ok (.iload_n 2, 1) := by decide +kernel
theorem dX12_ones_5 : decode cX12_ones 5 = .ok (.bipush 25, 2) := by decide +kernel
theorem dX12_ones_7 : decode cX12_ones 7 = .ok (.if_icmp .ge 17, 3) := by decide +kernel
theorem dX12_ones_10 : decode cX12_ones 10 = .ok (.iload_n 1, 1) := by decide +kernel
theorem dX12_ones_11 : decode cX12_ones 11 = .ok (.iload_n 0, 1) := by decide +kernel
theorem dX12_ones_12 : decode cX12_ones 12 = .ok (.iload_n 2, 1) := by decide +kernel
theorem dX12_ones_13 : decode cX12_ones 13 = .ok (.ishr, 1) := by decide +kernel
theorem dX12_ones_14 : decode cX12_ones 14 = .ok (.iconst 1, 1) := by decide +kernel
theorem dX12_ones_15 : decode cX12_ones 15 = .ok (.iand, 1) := by decide +kernel
theorem dX12_ones_16 : decode cX12_ones 16 = .ok (.iadd, 1) := by decide +kernel
theorem dX12_ones_17 : decode cX12_ones 17 = .ok (.istore_n 1, 1) := by decide +kernel
theorem dX12_ones_18 : decode cX12_ones 18 = .ok (.iinc 2 1, 3) := by decide +kernel
theorem dX12_ones_21 : decode cX12_ones 21 = .ok (.goto (-17), 3) := by decide +kernel
theorem dX12_ones_24 : decode cX12_ones 24 = .ok (.iload_n 1, 1) := by decide +kernel
theorem dX12_ones_25 : decode cX12_ones 25 = .ok (.ireturn, 1) := by decide +kernel
set_option maxRecDepth 100000 in
theorem okm_X12_ones : okL RX12 cX12_ones 3 (some .int) "ones" pcX12_ones opX12_ones pcX12_ones := by
  unfold opX12_ones
  refine okL_cons (ok_iconst rfl dX12_ones_0) rfl ?_
  refine okL_cons (ok_istore_n rfl dX12_ones_1) rfl ?_
  refine okL_cons (ok_iconst rfl dX12_ones_2) rfl ?_
  refine okL_cons (ok_istore_n rfl dX12_ones_3) rfl ?_
  refine okL_cons (ok_iload_n rfl dX12_ones_4) rfl ?_
  refine okL_cons (ok_bipush rfl dX12_ones_5) rfl ?_
  refine okL_cons (ok_icmp_ge rfl dX12_ones_7) rfl ?_
  refine okL_cons (ok_iload_n rfl dX12_ones_10) rfl ?_
  refine okL_cons (ok_iload_n rfl dX12_ones_11) rfl ?_
  refine okL_cons (ok_iload_n rfl dX12_ones_12) rfl ?_
  refine okL_cons (ok_ishr dX12_ones_13) rfl ?_
  refine okL_cons (ok_iconst rfl dX12_ones_14) rfl ?_
  refine okL_cons (ok_iand dX12_ones_15) rfl ?_
  refine okL_cons (ok_iadd dX12_ones_16) rfl ?_
  refine okL_cons (ok_istore_n rfl dX12_ones_17) rfl ?_
  refine okL_cons (ok_iinc rfl dX12_ones_18) rfl ?_
  refine okL_cons (ok_goto rfl dX12_ones_21) rfl ?_
  refine okL_cons (ok_iload_n rfl dX12_ones_24) rfl ?_
  exact okL_one (ok_ireturn rfl dX12_ones_25)
theorem dX12_bounded_0 : decode cX12_bounded 0 = .ok (.lload_n 0, 1) := by decide +kernel
theorem dX12_bounded_1 : decode cX12_bounded 1 = .ok (.iload_n 2, 1) := by decide +kernel
theorem dX12_bounded_2 : decode cX12_bounded 2 = .ok (.i2l, 1) := by decide +kernel
theorem dX12_bounded_3 : decode cX12_bounded 3 = .ok (.lcmp, 1) := by decide +kernel
theorem dX12_bounded_4 : decode cX12_bounded 4 = .ok (.ifCond .ge 7, 3) := by decide +kernel
theorem dX12_bounded_7 : decode cX12_bounded 7 = .ok (.iload_n 2, 1) := by decide +kernel
theorem dX12_bounded_8 : decode cX12_bounded 8 = .ok (.goto 16, 3) := by decide +kernel
theorem dX12_bounded_11 : decode cX12_bounded 11 = .ok (.lload_n 0, 1) := by decide +kernel
theorem dX12_bounded_12 : decode cX12_bounded 12 = .ok (.iload_n 3, 1) := by decide +kernel
theorem dX12_bounded_13 : decode cX12_bounded 13 = .ok (.i2l, 1) := by decide +kernel
theorem dX12_bounded_14 : decode cX12_bounded 14 = .ok (.lcmp, 1) := by decide +kernel
theorem dX12_bounded_15 : decode cX12_bounded 15 = .ok (.ifCond .le 7, 3) := by decide +kernel
theorem dX12_bounded_18 : decode cX12_bounded 18 = .ok (.iload_n 3, 1) := by decide +kernel
theorem dX12_bounded_19 : decode cX12_bounded 19 = .ok (.goto 5, 3) := by decide +kernel
theorem dX12_bounded_22 : decode cX12_bounded 22 = .ok (.lload_n 0, 1) := by decide +kernel
theorem dX12_bounded_23 : decode cX12_bounded 23 = .ok (.l2i, 1) := by decide +kernel
theorem dX12_bounded_24 : decode cX12_bounded 24 = .ok (.ireturn, 1) := by decide +kernel
set_option maxRecDepth 100000 in
theorem okm_X12_bounded : okL RX12 cX12_bounded 4 (some .int) "bounded" pcX12_bounded opX12_bounded pcX12_bounded := by
  unfold opX12_bounded
  refine okL_cons (ok_lload_n rfl dX12_bounded_0) rfl ?_
  refine okL_cons (ok_iload_n rfl dX12_bounded_1) rfl ?_
  refine okL_cons (ok_i2l dX12_bounded_2) rfl ?_
  refine okL_cons (ok_lcmp dX12_bounded_3) rfl ?_
  refine okL_cons (ok_if_ge rfl dX12_bounded_4) rfl ?_
  refine okL_cons (ok_iload_n rfl dX12_bounded_7) rfl ?_
  refine okL_cons (ok_goto rfl dX12_bounded_8) rfl ?_
  refine okL_cons (ok_lload_n rfl dX12_bounded_11) rfl ?_
  refine okL_cons (ok_iload_n rfl dX12_bounded_12) rfl ?_
  refine okL_cons (ok_i2l dX12_bounded_13) rfl ?_
  refine okL_cons (ok_lcmp dX12_bounded_14) rfl ?_
  refine okL_cons (ok_if_le rfl dX12_bounded_15) rfl ?_
  refine okL_cons (ok_iload_n rfl dX12_bounded_18) rfl ?_
  refine okL_cons (ok_goto rfl dX12_bounded_19) rfl ?_
  refine okL_cons (ok_lload_n rfl dX12_bounded_22) rfl ?_
  refine okL_cons (ok_l2i dX12_bounded_23) rfl ?_
  exact okL_one (ok_ireturn rfl dX12_bounded_24)
theorem dX12_tell_0 : decode cX12_tell 0 = .ok (.aload_n 0, 1) := by decide +kernel
theorem dX12_tell_1 : decode cX12_tell 1 = .ok (.iload_n 1, 1) := by decide +kernel
theorem dX12_tell_2 : decode cX12_tell 2 = .ok (.ifCond .ge 7, 3) := by decide +kernel
theorem dX12_tell_5 : decode cX12_tell 5 = .ok (.iload_n 1, 1) := by decide +kernel
theorem dX12_tell_6 : decode cX12_tell 6 = .ok (.goto 4, 3) := by decide +kernel
theorem dX12_tell_9 : decode cX12_tell 9 = .ok (.iconst 0, 1) := by decide +kernel
theorem dX12_tell_10 : decode cX12_tell 10 = .ok (.putfield 155, 3) := by decide +kernel
theorem dX12_tell_13 : decode cX12_tell 13 = .ok (.iload_n 1, 1) := by decide +kernel
theorem dX12_tell_14 : decode cX12_tell 14 = .ok (.ifCond .ge 14, 3) := by decide +kernel
theorem dX12_tell_17 : decode cX12_tell 17 = .ok (.aload_n 0, 1) := by decide +kernel
theorem dX12_tell_18 : decode cX12_tell 18 = .ok (.getfield 7, 3) := by decide +kernel
theorem dX12_tell_21 : decode cX12_tell 21 = .ok (.iload_n 1, 1) := by decide +kernel
theorem dX12_tell_22 : decode cX12_tell 22 = .ok (.ineg, 1) := by decide +kernel
theorem dX12_tell_23 : decode cX12_tell 23 = .ok (.dup2, 1) := by decide +kernel
theorem dX12_tell_24 : decode cX12_tell 24 = .ok (.iaload, 1) := by decide +kernel
theorem dX12_tell_25 : decode cX12_tell 25 = .ok (.iconst 1, 1) := by decide +kernel
theorem dX12_tell_26 : decode cX12_tell 26 = .ok (.iadd, 1) := by decide +kernel
theorem dX12_tell_27 : decode cX12_tell 27 = .ok (.iastore, 1) := by decide +kernel
theorem dX12_tell_28 : decode cX12_tell 28 = .ok (.iload_n 1, 1) := by decide +kernel
theorem dX12_tell_29 : decode cX12_tell 29 = .ok (.ireturn, 1) := by decide +kernel
set_option maxRecDepth 100000 in
theorem okm_X12_tell : okL RX12 cX12_tell 2 (some .int) "tell" pcX12_tell opX12_tell pcX12_tell := by
  unfold opX12_tell
  refine okL_cons (ok_aload_n rfl dX12_tell_0) rfl ?_
  refine okL_cons (ok_iload_n rfl dX12_tell_1) rfl ?_
  refine okL_cons (ok_if_ge rfl dX12_tell_2) rfl ?_
  refine okL_cons (ok_iload_n rfl dX12_tell_5) rfl ?_
  refine okL_cons (ok_goto rfl dX12_tell_6) rfl ?_
  refine okL_cons (ok_iconst rfl dX12_tell_9) rfl ?_
  refine okL_cons (ok_putI kw_706 cf_X12 rfl rfl (by decide) rfl dX12_tell_10) rfl ?_
  refine okL_cons (ok_iload_n rfl dX12_tell_13) rfl ?_
  refine okL_cons (ok_if_ge rfl dX12_tell_14) rfl ?_
  refine okL_cons (ok_aload_n rfl dX12_tell_17) rfl ?_
  refine okL_cons (ok_getP kw_653 cf_X12 rfl rfl (by decide) dX12_tell_18) rfl ?_
  refine okL_cons (ok_iload_n rfl dX12_tell_21) rfl ?_
  refine okL_cons (ok_ineg dX12_tell_22) rfl ?_
  refine okL_cons (ok_dup2 dX12_tell_23) rfl ?_
  refine okL_cons (ok_iaload dX12_tell_24) rfl ?_
  refine okL_cons (ok_iconst rfl dX12_tell_25) rfl ?_
  refine okL_cons (ok_iadd dX12_tell_26) rfl ?_
  refine okL_cons (ok_iastore dX12_tell_27) rfl ?_
  refine okL_cons (ok_iload_n rfl dX12_tell_28) rfl ?_
  exact okL_one (ok_ireturn rfl dX12_tell_29)
theorem dX12_change_0 : decode cX12_change 0 = .ok (.aload_n 0, 1) := by decide +kernel
theorem dX12_change_1 : decode cX12_change 1 = .ok (.getfield 13, 3) := by decide +kernel
theorem dX12_change_4 : decode cX12_change 4 = .ok (.iload_n 1, 1) := by decide +kernel
theorem dX12_change_5 : decode cX12_change 5 = .ok (.iaload, 1) := by decide +kernel
theorem dX12_change_6 : decode cX12_change 6 = .ok (.istore_n 3, 1) := by decide +kernel
theorem dX12_change_7 : decode cX12_change 7 = .ok (.aload_n 0, 1) := by decide +kernel
theorem dX12_change_8 : decode cX12_change 8 = .ok (.getfield 13, 3) := by decide +kernel
theorem dX12_change_11 : decode cX12_change 11 = .ok (.iload_n 1, 1) := by decide +kernel
theorem dX12_change_12 : decode cX12_change 12 = .ok (.iload_n 2, 1) := by decide +kernel
theorem dX12_change_13 : decode cX12_change 13 = .ok (.iastore, 1) := by decide +kernel
theorem dX12_change_14 : decode cX12_change 14 = .ok (.aload_n 0, 1) := by decide +kernel
theorem dX12_change_15 : decode cX12_change 15 = .ok (.iconst 0, 1) := by decide +kernel
theorem dX12_change_16 : decode cX12_change 16 = .ok (.putfield 155, 3) := by decide +kernel
theorem dX12_change_19 : decode cX12_change 19 = .ok (.iload_n 3, 1) := by decide +kernel
theorem dX12_change_20 : decode cX12_change 20 = .ok (.ireturn, 1) := by decide +kernel
set_option maxRecDepth 100000 in
theorem okm_X12_change : okL RX12 cX12_change 4 (some .int) "change" pcX12_change opX12_change pcX12_change := by
  unfold opX12_change
  refine okL_cons (ok_aload_n rfl dX12_change_0) rfl ?_
  refine okL_cons (ok_getP kw_654 cf_X12 rfl rfl (by decide) dX12_change_1) rfl ?_
  refine okL_cons (ok_iload_n rfl dX12_change_4) rfl ?_
  refine okL_cons (ok_iaload dX12_change_5) rfl ?_
  refine okL_cons (ok_istore_n rfl dX12_change_6) rfl ?_
  refine okL_cons (ok_aload_n rfl dX12_change_7) rfl ?_
  refine okL_cons (ok_getP kw_654 cf_X12 rfl rfl (by decide) dX12_change_8) rfl ?_
  refine okL_cons (ok_iload_n rfl dX12_change_11) rfl ?_
  refine okL_cons (ok_iload_n rfl dX12_change_12) rfl ?_
  refine okL_cons (ok_iastore dX12_change_13) rfl ?_
  refine okL_cons (ok_aload_n rfl dX12_change_14) rfl ?_
  refine okL_cons (ok_iconst rfl dX12_change_15) rfl ?_
  refine okL_cons (ok_putI kw_706 cf_X12 rfl rfl (by decide) rfl dX12_change_16) rfl ?_
  refine okL_cons (ok_iload_n rfl dX12_change_19) rfl ?_
  exact okL_one (ok_ireturn rfl dX12_change_20)
theorem dX12_lasting_0 : decode cX12_lasting 0 = .ok (.aload_n 0, 1) := by decide +kernel
theorem dX12_lasting_1 : decode cX12_lasting 1 = .ok (.iload_n 1, 1) := by decide +kernel
theorem dX12_lasting_2 : decode cX12_lasting 2 = .ok (.ifCond .ge 10, 3) := by decide +kernel
theorem dX12_lasting_5 : decode cX12_lasting 5 = .ok (.aload_n 0, 1) := by decide +kernel
theorem dX12_lasting_6 : decode cX12_lasting 6 = .ok (.getfield 158, 3) := by decide +kernel
theorem dX12_lasting_9 : decode cX12_lasting 9 = .ok (.goto 4, 3) := by decide +kernel
theorem dX12_lasting_12 : decode cX12_lasting 12 = .ok (.iconst 0, 1) := by decide +kernel
theorem dX12_lasting_13 : decode cX12_lasting 13 = .ok (.putfield 158, 3) := by decide +kernel
theorem dX12_lasting_16 : decode cX12_lasting 16 = .ok (.aload_n 0, 1) := by decide +kernel
theorem dX12_lasting_17 : decode cX12_lasting 17 = .ok (.iload_n 1, 1) := by decide +kernel
theorem dX12_lasting_18 : decode cX12_lasting 18 = .ok (.invokevirtual 161, 3) := by decide +kernel
theorem dX12_lasting_21 : decode cX12_lasting 21 = .ok (.ireturn, 1) := by decide +kernel
set_option maxRecDepth 100000 in
theorem okm_X12_lasting : okL RX12 cX12_lasting 2 (some .int) "lasting" pcX12_lasting opX12_lasting pcX12_lasting := by
  unfold opX12_lasting
  refine okL_cons (ok_aload_n rfl dX12_lasting_0) rfl ?_
  refine okL_cons (ok_iload_n rfl dX12_lasting_1) rfl ?_
  refine okL_cons (ok_if_ge rfl dX12_lasting_2) rfl ?_
  refine okL_cons (ok_aload_n rfl dX12_lasting_5) rfl ?_
  refine okL_cons (ok_getI kw_707 cf_X12 rfl rfl (by decide) dX12_lasting_6) rfl ?_
  refine okL_cons (ok_goto rfl dX12_lasting_9) rfl ?_
  refine okL_cons (ok_iconst rfl dX12_lasting_12) rfl ?_
  refine okL_cons (ok_putI kw_707 cf_X12 rfl rfl (by decide) rfl dX12_lasting_13) rfl ?_
  refine okL_cons (ok_aload_n rfl dX12_lasting_16) rfl ?_
  refine okL_cons (ok_iload_n rfl dX12_lasting_17) rfl ?_
  refine okL_cons (ok_invV (M' := 169) kw_708 kw_709 kw_710 kw_711 kw_712 cf_X12 rfl (by decide +kernel) dX12_lasting_18) rfl ?_
  exact okL_one (ok_ireturn rfl dX12_lasting_21)
