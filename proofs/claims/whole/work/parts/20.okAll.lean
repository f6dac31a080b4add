/-! every method has its rows -/
theorem okp_0 : okP 0 := ⟨by decide +kernel, pcJ0_length_8abf5, rfl, okm_J0_length_8abf5⟩
theorem okp_1 : okP 1 := ⟨by decide +kernel, pcJ0_charAt_5068e, rfl, okm_J0_charAt_5068e⟩
theorem okp_2 : okP 2 := ⟨by decide +kernel, pcJ0_coder_7d493, rfl, okm_J0_coder_7d493⟩
theorem okp_3 : okP 3 := ⟨by decide +kernel, pcJ0_isLatin1_aae02, rfl, okm_J0_isLatin1_aae02⟩
theorem okp_4 : okP 4 := ⟨by decide +kernel, pcJ0_checkIndex_df160, rfl, okm_J0_checkIndex_df160⟩
theorem okp_5 : okP 5 := ⟨by decide +kernel, pcJ1_charAt_3b067, rfl, okm_J1_charAt_3b067⟩
theorem okp_6 : okP 6 := ⟨by decide +kernel, pcJ3_checkIndex_8e157, rfl, okm_J3_checkIndex_8e157⟩
theorem okp_7 : okP 7 := ⟨by decide +kernel, pcJ6_numberOfTrailingZeros_0f7a4, rfl, okm_J6_numberOfTrailingZeros_0f7a4⟩
theorem okp_8 : okP 8 := ⟨by decide +kernel, pcJ6_bitCount_0f7a4, rfl, okm_J6_bitCount_0f7a4⟩
theorem okp_9 : okP 9 := ⟨by decide +kernel, pcX0_init, rfl, okm_X0_init⟩
theorem okp_10 : okP 10 := ⟨by decide +kernel, pcX0_work, rfl, okm_X0_work⟩
theorem okp_11 : okP 11 := ⟨by decide +kernel, pcX0_joined, rfl, okm_X0_joined⟩
theorem okp_12 : okP 12 := ⟨by decide +kernel, pcX1_init, rfl, okm_X1_init⟩
theorem okp_13 : okP 13 := ⟨by decide +kernel, pcX1_copy, rfl, okm_X1_copy⟩
theorem okp_14 : okP 14 := ⟨by decide +kernel, pcX1_hasDoor, rfl, okm_X1_hasDoor⟩
theorem okp_15 : okP 15 := ⟨by decide +kernel, pcX1_setDoor, rfl, okm_X1_setDoor⟩
theorem okp_16 : okP 16 := ⟨by decide +kernel, pcX2_init, rfl, okm_X2_init⟩
theorem okp_17 : okP 17 := ⟨by decide +kernel, pcX2_copy, rfl, okm_X2_copy⟩
theorem okp_18 : okP 18 := ⟨by decide +kernel, pcX2_told, rfl, okm_X2_told⟩
theorem okp_19 : okP 19 := ⟨by decide +kernel, pcX2_lettersOn, rfl, okm_X2_lettersOn⟩
theorem okp_20 : okP 20 := ⟨by decide +kernel, pcX2_howManyAre, rfl, okm_X2_howManyAre⟩
theorem okp_21 : okP 21 := ⟨by decide +kernel, pcX2_readWithIt, rfl, okm_X2_readWithIt⟩
theorem okp_22 : okP 22 := ⟨by decide +kernel, pcX2_refusalOf, rfl, okm_X2_refusalOf⟩
theorem okp_23 : okP 23 := ⟨by decide +kernel, pcX2_change, rfl, okm_X2_change⟩
theorem okp_24 : okP 24 := ⟨by decide +kernel, pcX3_init, rfl, okm_X3_init⟩
theorem okp_25 : okP 25 := ⟨by decide +kernel, pcX3_refuse, rfl, okm_X3_refuse⟩
theorem okp_26 : okP 26 := ⟨by decide +kernel, pcX3_grant, rfl, okm_X3_grant⟩
theorem okp_27 : okP 27 := ⟨by decide +kernel, pcX3_settle, rfl, okm_X3_settle⟩
theorem okp_28 : okP 28 := ⟨by decide +kernel, pcX4_init, rfl, okm_X4_init⟩
theorem okp_29 : okP 29 := ⟨by decide +kernel, pcX4_copy, rfl, okm_X4_copy⟩
theorem okp_30 : okP 30 := ⟨by decide +kernel, pcX4_clear, rfl, okm_X4_clear⟩
theorem okp_31 : okP 31 := ⟨by decide +kernel, pcX4_keep, rfl, okm_X4_keep⟩
theorem okp_32 : okP 32 := ⟨by decide +kernel, pcX4_restore, rfl, okm_X4_restore⟩
theorem okp_33 : okP 33 := ⟨by decide +kernel, pcX5_init, rfl, okm_X5_init⟩
theorem okp_34 : okP 34 := ⟨by decide +kernel, pcX5_read, rfl, okm_X5_read⟩
theorem okp_35 : okP 35 := ⟨by decide +kernel, pcX5_token, rfl, okm_X5_token⟩
theorem okp_36 : okP 36 := ⟨by decide +kernel, pcX5_goOn, rfl, okm_X5_goOn⟩
theorem okp_37 : okP 37 := ⟨by decide +kernel, pcX5_took, rfl, okm_X5_took⟩
theorem okp_38 : okP 38 := ⟨by decide +kernel, pcX5_readRule, rfl, okm_X5_readRule⟩
theorem okp_39 : okP 39 := ⟨by decide +kernel, pcX5_readOrder, rfl, okm_X5_readOrder⟩
theorem okp_40 : okP 40 := ⟨by decide +kernel, pcX5_readTwo, rfl, okm_X5_readTwo⟩
theorem okp_41 : okP 41 := ⟨by decide +kernel, pcX5_readTimes, rfl, okm_X5_readTimes⟩
theorem okp_42 : okP 42 := ⟨by decide +kernel, pcX5_readIf, rfl, okm_X5_readIf⟩
theorem okp_43 : okP 43 := ⟨by decide +kernel, pcX5_endRow, rfl, okm_X5_endRow⟩
theorem okp_44 : okP 44 := ⟨by decide +kernel, pcX5_test, rfl, okm_X5_test⟩
theorem okp_45 : okP 45 := ⟨by decide +kernel, pcX5_both, rfl, okm_X5_both⟩
theorem okp_46 : okP 46 := ⟨by decide +kernel, pcX5_plain, rfl, okm_X5_plain⟩
theorem okp_47 : okP 47 := ⟨by decide +kernel, pcX5_bracketed, rfl, okm_X5_bracketed⟩
theorem okp_48 : okP 48 := ⟨by decide +kernel, pcX5_comparison, rfl, okm_X5_comparison⟩
theorem okp_49 : okP 49 := ⟨by decide +kernel, pcX5_sum, rfl, okm_X5_sum⟩
theorem okp_50 : okP 50 := ⟨by decide +kernel, pcX5_term, rfl, okm_X5_term⟩
theorem okp_51 : okP 51 := ⟨by decide +kernel, pcX5_part, rfl, okm_X5_part⟩
theorem okp_52 : okP 52 := ⟨by decide +kernel, pcX5_write, rfl, okm_X5_write⟩
theorem okp_53 : okP 53 := ⟨by decide +kernel, pcX5_factOf, rfl, okm_X5_factOf⟩
theorem okp_54 : okP 54 := ⟨by decide +kernel, pcX5_lawFact, rfl, okm_X5_lawFact⟩
theorem okp_55 : okP 55 := ⟨by decide +kernel, pcX5_orderFact, rfl, okm_X5_orderFact⟩
theorem okp_56 : okP 56 := ⟨by decide +kernel, pcX6_init, rfl, okm_X6_init⟩
theorem okp_57 : okP 57 := ⟨by decide +kernel, pcX6_face, rfl, okm_X6_face⟩
theorem okp_58 : okP 58 := ⟨by decide +kernel, pcX6_standOf, rfl, okm_X6_standOf⟩
theorem okp_59 : okP 59 := ⟨by decide +kernel, pcX6_holdsAt, rfl, okm_X6_holdsAt⟩
theorem okp_60 : okP 60 := ⟨by decide +kernel, pcX6_next, rfl, okm_X6_next⟩
theorem okp_61 : okP 61 := ⟨by decide +kernel, pcX6_learn, rfl, okm_X6_learn⟩
theorem okp_62 : okP 62 := ⟨by decide +kernel, pcX6_fillFacts, rfl, okm_X6_fillFacts⟩
theorem okp_63 : okP 63 := ⟨by decide +kernel, pcX6_endWithKerbs, rfl, okm_X6_endWithKerbs⟩
theorem okp_64 : okP 64 := ⟨by decide +kernel, pcX6_passHour, rfl, okm_X6_passHour⟩
theorem okp_65 : okP 65 := ⟨by decide +kernel, pcX7_init, rfl, okm_X7_init⟩
theorem okp_66 : okP 66 := ⟨by decide +kernel, pcX7_trace, rfl, okm_X7_trace⟩
theorem okp_67 : okP 67 := ⟨by decide +kernel, pcX7_placeAfter, rfl, okm_X7_placeAfter⟩
theorem okp_68 : okP 68 := ⟨by decide +kernel, pcX7_isGone, rfl, okm_X7_isGone⟩
theorem okp_69 : okP 69 := ⟨by decide +kernel, pcX7_endingAt, rfl, okm_X7_endingAt⟩
theorem okp_70 : okP 70 := ⟨by decide +kernel, pcX7_cellsOf, rfl, okm_X7_cellsOf⟩
theorem okp_71 : okP 71 := ⟨by decide +kernel, pcX7_firstOnBoth, rfl, okm_X7_firstOnBoth⟩
theorem okp_72 : okP 72 := ⟨by decide +kernel, pcX7_everOnOne, rfl, okm_X7_everOnOne⟩
theorem okp_73 : okP 73 := ⟨by decide +kernel, pcX7_sortApart, rfl, okm_X7_sortApart⟩
theorem okp_74 : okP 74 := ⟨by decide +kernel, pcX7_firstFreeKind, rfl, okm_X7_firstFreeKind⟩
theorem okp_75 : okP 75 := ⟨by decide +kernel, pcX7_unreached, rfl, okm_X7_unreached⟩
theorem okp_76 : okP 76 := ⟨by decide +kernel, pcX7_stillWithoutDoor, rfl, okm_X7_stillWithoutDoor⟩
theorem okp_77 : okP 77 := ⟨by decide +kernel, pcX7_farthest, rfl, okm_X7_farthest⟩
theorem okp_78 : okP 78 := ⟨by decide +kernel, pcX8_init, rfl, okm_X8_init⟩
theorem okp_79 : okP 79 := ⟨by decide +kernel, pcX8_hasRoom, rfl, okm_X8_hasRoom⟩
theorem okp_80 : okP 80 := ⟨by decide +kernel, pcX8_add, rfl, okm_X8_add⟩
theorem okp_81 : okP 81 := ⟨by decide +kernel, pcX8_cut, rfl, okm_X8_cut⟩
theorem okp_82 : okP 82 := ⟨by decide +kernel, pcX8_goesOn, rfl, okm_X8_goesOn⟩
theorem okp_83 : okP 83 := ⟨by decide +kernel, pcX8_behindRow, rfl, okm_X8_behindRow⟩
theorem okp_84 : okP 84 := ⟨by decide +kernel, pcX8_isSmall, rfl, okm_X8_isSmall⟩
theorem okp_85 : okP 85 := ⟨by decide +kernel, pcX8_isDigit, rfl, okm_X8_isDigit⟩
theorem okp_86 : okP 86 := ⟨by decide +kernel, pcX8_tokenOf, rfl, okm_X8_tokenOf⟩
theorem okp_87 : okP 87 := ⟨by decide +kernel, pcX8_numberOf, rfl, okm_X8_numberOf⟩
theorem okp_88 : okP 88 := ⟨by decide +kernel, pcX8_joiningWord, rfl, okm_X8_joiningWord⟩
theorem okp_89 : okP 89 := ⟨by decide +kernel, pcX8_askingWord, rfl, okm_X8_askingWord⟩
theorem okp_90 : okP 90 := ⟨by decide +kernel, pcX8_is, rfl, okm_X8_is⟩
theorem okp_91 : okP 91 := ⟨by decide +kernel, pcX9_init, rfl, okm_X9_init⟩
theorem okp_92 : okP 92 := ⟨by decide +kernel, pcX9_copy, rfl, okm_X9_copy⟩
theorem okp_93 : okP 93 := ⟨by decide +kernel, pcX9_clear, rfl, okm_X9_clear⟩
theorem okp_94 : okP 94 := ⟨by decide +kernel, pcX9_open, rfl, okm_X9_open⟩
theorem okp_95 : okP 95 := ⟨by decide +kernel, pcX9_add, rfl, okm_X9_add⟩
theorem okp_96 : okP 96 := ⟨by decide +kernel, pcX9_leadHere, rfl, okm_X9_leadHere⟩
theorem okp_97 : okP 97 := ⟨by decide +kernel, pcX10_init, rfl, okm_X10_init⟩
theorem okp_98 : okP 98 := ⟨by decide +kernel, pcX10_note, rfl, okm_X10_note⟩
theorem okp_99 : okP 99 := ⟨by decide +kernel, pcX10_lettersSeen, rfl, okm_X10_lettersSeen⟩
theorem okp_100 : okP 100 := ⟨by decide +kernel, pcX10_isAtAllSeen, rfl, okm_X10_isAtAllSeen⟩
theorem okp_101 : okP 101 := ⟨by decide +kernel, pcX10_mostAtOne, rfl, okm_X10_mostAtOne⟩
theorem okp_102 : okP 102 := ⟨by decide +kernel, pcX10_bestHour, rfl, okm_X10_bestHour⟩
theorem okp_103 : okP 103 := ⟨by decide +kernel, pcX11_init, rfl, okm_X11_init⟩
theorem okp_104 : okP 104 := ⟨by decide +kernel, pcX11_cell, rfl, okm_X11_cell⟩
theorem okp_105 : okP 105 := ⟨by decide +kernel, pcX11_door, rfl, okm_X11_door⟩
theorem okp_106 : okP 106 := ⟨by decide +kernel, pcX11_letter, rfl, okm_X11_letter⟩
theorem okp_107 : okP 107 := ⟨by decide +kernel, pcX11_terms, rfl, okm_X11_terms⟩
theorem okp_108 : okP 108 := ⟨by decide +kernel, pcX11_termNow, rfl, okm_X11_termNow⟩
theorem okp_109 : okP 109 := ⟨by decide +kernel, pcX11_feed, rfl, okm_X11_feed⟩
theorem okp_110 : okP 110 := ⟨by decide +kernel, pcX11_end, rfl, okm_X11_end⟩
theorem okp_111 : okP 111 := ⟨by decide +kernel, pcX11_row, rfl, okm_X11_row⟩
theorem okp_112 : okP 112 := ⟨by decide +kernel, pcX11_tellCell, rfl, okm_X11_tellCell⟩
theorem okp_113 : okP 113 := ⟨by decide +kernel, pcX11_beads, rfl, okm_X11_beads⟩
theorem okp_114 : okP 114 := ⟨by decide +kernel, pcX11_law, rfl, okm_X11_law⟩
theorem okp_115 : okP 115 := ⟨by decide +kernel, pcX11_orders, rfl, okm_X11_orders⟩
theorem okp_116 : okP 116 := ⟨by decide +kernel, pcX11_carryOut, rfl, okm_X11_carryOut⟩
theorem okp_117 : okP 117 := ⟨by decide +kernel, pcX11_fillOrderFacts, rfl, okm_X11_fillOrderFacts⟩
theorem okp_118 : okP 118 := ⟨by decide +kernel, pcX11_fault, rfl, okm_X11_fault⟩
theorem okp_119 : okP 119 := ⟨by decide +kernel, pcX11_stopped, rfl, okm_X11_stopped⟩
theorem okp_120 : okP 120 := ⟨by decide +kernel, pcX11_force, rfl, okm_X11_force⟩
theorem okp_121 : okP 121 := ⟨by decide +kernel, pcX11_isLawOrNone, rfl, okm_X11_isLawOrNone⟩
theorem okp_122 : okP 122 := ⟨by decide +kernel, pcX11_spill, rfl, okm_X11_spill⟩
theorem okp_123 : okP 123 := ⟨by decide +kernel, pcX11_raise, rfl, okm_X11_raise⟩
theorem okp_124 : okP 124 := ⟨by decide +kernel, pcX11_split, rfl, okm_X11_split⟩
theorem okp_125 : okP 125 := ⟨by decide +kernel, pcX11_pass, rfl, okm_X11_pass⟩
theorem okp_126 : okP 126 := ⟨by decide +kernel, pcX11_attempt, rfl, okm_X11_attempt⟩
theorem okp_127 : okP 127 := ⟨by decide +kernel, pcX11_undo, rfl, okm_X11_undo⟩
theorem okp_128 : okP 128 := ⟨by decide +kernel, pcX11_later, rfl, okm_X11_later⟩
theorem okp_129 : okP 129 := ⟨by decide +kernel, pcX11_readWith, rfl, okm_X11_readWith⟩
theorem okp_130 : okP 130 := ⟨by decide +kernel, pcX11_passOnPaper, rfl, okm_X11_passOnPaper⟩
theorem okp_131 : okP 131 := ⟨by decide +kernel, pcX11_traceRuns, rfl, okm_X11_traceRuns⟩
theorem okp_132 : okP 132 := ⟨by decide +kernel, pcX11_run, rfl, okm_X11_run⟩
theorem okp_133 : okP 133 := ⟨by decide +kernel, pcX11_basin, rfl, okm_X11_basin⟩
theorem okp_134 : okP 134 := ⟨by decide +kernel, pcX11_meeting, rfl, okm_X11_meeting⟩
theorem okp_135 : okP 135 := ⟨by decide +kernel, pcX11_delay, rfl, okm_X11_delay⟩
theorem okp_136 : okP 136 := ⟨by decide +kernel, pcX11_apart, rfl, okm_X11_apart⟩
theorem okp_137 : okP 137 := ⟨by decide +kernel, pcX11_kerbs, rfl, okm_X11_kerbs⟩
theorem okp_138 : okP 138 := ⟨by decide +kernel, pcX11_fewestKerbs, rfl, okm_X11_fewestKerbs⟩
theorem okp_139 : okP 139 := ⟨by decide +kernel, pcX11_freeForKerbs, rfl, okm_X11_freeForKerbs⟩
theorem okp_140 : okP 140 := ⟨by decide +kernel, pcX11_springs, rfl, okm_X11_springs⟩
theorem okp_141 : okP 141 := ⟨by decide +kernel, pcX11_pools, rfl, okm_X11_pools⟩
theorem okp_142 : okP 142 := ⟨by decide +kernel, pcX11_longest, rfl, okm_X11_longest⟩
theorem okp_143 : okP 143 := ⟨by decide +kernel, pcX11_seen, rfl, okm_X11_seen⟩
theorem okp_144 : okP 144 := ⟨by decide +kernel, pcX11_forget, rfl, okm_X11_forget⟩
theorem okp_145 : okP 145 := ⟨by decide +kernel, pcX11_canBe, rfl, okm_X11_canBe⟩
theorem okp_146 : okP 146 := ⟨by decide +kernel, pcX11_look, rfl, okm_X11_look⟩
theorem okp_147 : okP 147 := ⟨by decide +kernel, pcX11_watchLetters, rfl, okm_X11_watchLetters⟩
theorem okp_148 : okP 148 := ⟨by decide +kernel, pcX11_few, rfl, okm_X11_few⟩
theorem okp_149 : okP 149 := ⟨by decide +kernel, pcX11_partBelow, rfl, okm_X11_partBelow⟩
theorem okp_150 : okP 150 := ⟨by decide +kernel, pcX11_compare, rfl, okm_X11_compare⟩
theorem okp_151 : okP 151 := ⟨by decide +kernel, pcX11_days, rfl, okm_X11_days⟩
theorem okp_152 : okP 152 := ⟨by decide +kernel, pcX11_draw, rfl, okm_X11_draw⟩
theorem okp_153 : okP 153 := ⟨by decide +kernel, pcX11_changeDrawn, rfl, okm_X11_changeDrawn⟩
theorem okp_154 : okP 154 := ⟨by decide +kernel, pcX11_drawn, rfl, okm_X11_drawn⟩
theorem okp_155 : okP 155 := ⟨by decide +kernel, pcX11_image, rfl, okm_X11_image⟩
theorem okp_156 : okP 156 := ⟨by decide +kernel, pcX11_back, rfl, okm_X11_back⟩
theorem okp_157 : okP 157 := ⟨by decide +kernel, pcX11_count, rfl, okm_X11_count⟩
theorem okp_158 : okP 158 := ⟨by decide +kernel, pcX11_status, rfl, okm_X11_status⟩
theorem okp_159 : okP 159 := ⟨by decide +kernel, pcX11_isCell, rfl, okm_X11_isCell⟩
theorem okp_160 : okP 160 := ⟨by decide +kernel, pcX11_isLetter, rfl, okm_X11_isLetter⟩
theorem okp_161 : okP 161 := ⟨by decide +kernel, pcX11_isImage, rfl, okm_X11_isImage⟩
theorem okp_162 : okP 162 := ⟨by decide +kernel, pcX11_isAmong, rfl, okm_X11_isAmong⟩
theorem okp_163 : okP 163 := ⟨by decide +kernel, pcX11_beside, rfl, okm_X11_beside⟩
theorem okp_164 : okP 164 := ⟨by decide +kernel, pcX12_init, rfl, okm_X12_init⟩
theorem okp_165 : okP 165 := ⟨by decide +kernel, pcX12_in, rfl, okm_X12_in⟩
theorem okp_166 : okP 166 := ⟨by decide +kernel, pcX12_is, rfl, okm_X12_is⟩
theorem okp_167 : okP 167 := ⟨by decide +kernel, pcX12_ones, rfl, okm_X12_ones⟩
theorem okp_168 : okP 168 := ⟨by decide +kernel, pcX12_bounded, rfl, okm_X12_bounded⟩
theorem okp_169 : okP 169 := ⟨by decide +kernel, pcX12_tell, rfl, okm_X12_tell⟩
theorem okp_170 : okP 170 := ⟨by decide +kernel, pcX12_change, rfl, okm_X12_change⟩
theorem okp_171 : okP 171 := ⟨by decide +kernel, pcX12_lasting, rfl, okm_X12_lasting⟩
theorem okp_172 : okP 172 := ⟨by decide +kernel, pcX12_keepAll, rfl, okm_X12_keepAll⟩
theorem okp_173 : okP 173 := ⟨by decide +kernel, pcX12_putBack, rfl, okm_X12_putBack⟩
theorem okp_174 : okP 174 := ⟨by decide +kernel, pcX12_remember, rfl, okm_X12_remember⟩
theorem okp_175 : okP 175 := ⟨by decide +kernel, pcX12_undo, rfl, okm_X12_undo⟩
theorem okp_176 : okP 176 := ⟨by decide +kernel, pcX12_image, rfl, okm_X12_image⟩
theorem okp_177 : okP 177 := ⟨by decide +kernel, pcX12_back, rfl, okm_X12_back⟩
theorem okp_178 : okP 178 := ⟨by decide +kernel, pcX12_isCell, rfl, okm_X12_isCell⟩
theorem okp_179 : okP 179 := ⟨by decide +kernel, pcX12_isLetter1, rfl, okm_X12_isLetter1⟩
theorem okp_180 : okP 180 := ⟨by decide +kernel, pcX12_hasDoor, rfl, okm_X12_hasDoor⟩
theorem okp_181 : okP 181 := ⟨by decide +kernel, pcX12_lettersOn, rfl, okm_X12_lettersOn⟩
theorem okp_182 : okP 182 := ⟨by decide +kernel, pcX12_howMany, rfl, okm_X12_howMany⟩
theorem okp_183 : okP 183 := ⟨by decide +kernel, pcX12_beside, rfl, okm_X12_beside⟩
theorem okp_184 : okP 184 := ⟨by decide +kernel, pcX12_cell, rfl, okm_X12_cell⟩
theorem okp_185 : okP 185 := ⟨by decide +kernel, pcX12_setDoor, rfl, okm_X12_setDoor⟩
theorem okp_186 : okP 186 := ⟨by decide +kernel, pcX12_door, rfl, okm_X12_door⟩
theorem okp_187 : okP 187 := ⟨by decide +kernel, pcX12_letter, rfl, okm_X12_letter⟩
theorem okp_188 : okP 188 := ⟨by decide +kernel, pcX12_terms, rfl, okm_X12_terms⟩
theorem okp_189 : okP 189 := ⟨by decide +kernel, pcX12_row, rfl, okm_X12_row⟩
theorem okp_190 : okP 190 := ⟨by decide +kernel, pcX12_beads, rfl, okm_X12_beads⟩
theorem okp_191 : okP 191 := ⟨by decide +kernel, pcX12_four, rfl, okm_X12_four⟩
theorem okp_192 : okP 192 := ⟨by decide +kernel, pcX12_feed, rfl, okm_X12_feed⟩
theorem okp_193 : okP 193 := ⟨by decide +kernel, pcX12_end, rfl, okm_X12_end⟩
theorem okp_194 : okP 194 := ⟨by decide +kernel, pcX12_isSmall, rfl, okm_X12_isSmall⟩
theorem okp_195 : okP 195 := ⟨by decide +kernel, pcX12_isDigit, rfl, okm_X12_isDigit⟩
theorem okp_196 : okP 196 := ⟨by decide +kernel, pcX12_begin, rfl, okm_X12_begin⟩
theorem okp_197 : okP 197 := ⟨by decide +kernel, pcX12_next, rfl, okm_X12_next⟩
theorem okp_198 : okP 198 := ⟨by decide +kernel, pcX12_isWord, rfl, okm_X12_isWord⟩
theorem okp_199 : okP 199 := ⟨by decide +kernel, pcX12_isSign, rfl, okm_X12_isSign⟩
theorem okp_200 : okP 200 := ⟨by decide +kernel, pcX12_must, rfl, okm_X12_must⟩
theorem okp_201 : okP 201 := ⟨by decide +kernel, pcX12_number, rfl, okm_X12_number⟩
theorem okp_202 : okP 202 := ⟨by decide +kernel, pcX12_fault, rfl, okm_X12_fault⟩
theorem okp_203 : okP 203 := ⟨by decide +kernel, pcX12_emit, rfl, okm_X12_emit⟩
theorem okp_204 : okP 204 := ⟨by decide +kernel, pcX12_push, rfl, okm_X12_push⟩
theorem okp_205 : okP 205 := ⟨by decide +kernel, pcX12_binds, rfl, okm_X12_binds⟩
theorem okp_206 : okP 206 := ⟨by decide +kernel, pcX12_settle, rfl, okm_X12_settle⟩
theorem okp_207 : okP 207 := ⟨by decide +kernel, pcX12_inner, rfl, okm_X12_inner⟩
theorem okp_208 : okP 208 := ⟨by decide +kernel, pcX12_isCompared, rfl, okm_X12_isCompared⟩
theorem okp_209 : okP 209 := ⟨by decide +kernel, pcX12_partAt, rfl, okm_X12_partAt⟩
theorem okp_210 : okP 210 := ⟨by decide +kernel, pcX12_orderPartAt, rfl, okm_X12_orderPartAt⟩
theorem okp_211 : okP 211 := ⟨by decide +kernel, pcX12_openBracket, rfl, okm_X12_openBracket⟩
theorem okp_212 : okP 212 := ⟨by decide +kernel, pcX12_leaf, rfl, okm_X12_leaf⟩
theorem okp_213 : okP 213 := ⟨by decide +kernel, pcX12_readPart, rfl, okm_X12_readPart⟩
theorem okp_214 : okP 214 := ⟨by decide +kernel, pcX12_readPlain, rfl, okm_X12_readPlain⟩
theorem okp_215 : okP 215 := ⟨by decide +kernel, pcX12_behindSum, rfl, okm_X12_behindSum⟩
theorem okp_216 : okP 216 := ⟨by decide +kernel, pcX12_behindTest, rfl, okm_X12_behindTest⟩
theorem okp_217 : okP 217 := ⟨by decide +kernel, pcX12_readExpression, rfl, okm_X12_readExpression⟩
theorem okp_218 : okP 218 := ⟨by decide +kernel, pcX12_beginText, rfl, okm_X12_beginText⟩
theorem okp_219 : okP 219 := ⟨by decide +kernel, pcX12_endText, rfl, okm_X12_endText⟩
theorem okp_220 : okP 220 := ⟨by decide +kernel, pcX12_readLaw, rfl, okm_X12_readLaw⟩
theorem okp_221 : okP 221 := ⟨by decide +kernel, pcX12_law, rfl, okm_X12_law⟩
theorem okp_222 : okP 222 := ⟨by decide +kernel, pcX12_isLaw, rfl, okm_X12_isLaw⟩
theorem okp_223 : okP 223 := ⟨by decide +kernel, pcX12_force, rfl, okm_X12_force⟩
theorem okp_224 : okP 224 := ⟨by decide +kernel, pcX12_reckon, rfl, okm_X12_reckon⟩
theorem okp_225 : okP 225 := ⟨by decide +kernel, pcX12_reckonAll, rfl, okm_X12_reckonAll⟩
theorem okp_226 : okP 226 := ⟨by decide +kernel, pcX12_isSo, rfl, okm_X12_isSo⟩
theorem okp_227 : okP 227 := ⟨by decide +kernel, pcX12_tells, rfl, okm_X12_tells⟩
theorem okp_228 : okP 228 := ⟨by decide +kernel, pcX12_standsAt, rfl, okm_X12_standsAt⟩
theorem okp_229 : okP 229 := ⟨by decide +kernel, pcX12_isHeld, rfl, okm_X12_isHeld⟩
theorem okp_230 : okP 230 := ⟨by decide +kernel, pcX12_layRuns, rfl, okm_X12_layRuns⟩
theorem okp_231 : okP 231 := ⟨by decide +kernel, pcX12_spillNow, rfl, okm_X12_spillNow⟩
theorem okp_232 : okP 232 := ⟨by decide +kernel, pcX12_spill, rfl, okm_X12_spill⟩
theorem okp_233 : okP 233 := ⟨by decide +kernel, pcX12_raiseNow, rfl, okm_X12_raiseNow⟩
theorem okp_234 : okP 234 := ⟨by decide +kernel, pcX12_raise, rfl, okm_X12_raise⟩
theorem okp_235 : okP 235 := ⟨by decide +kernel, pcX12_splitTo, rfl, okm_X12_splitTo⟩
theorem okp_236 : okP 236 := ⟨by decide +kernel, pcX12_splitNow, rfl, okm_X12_splitNow⟩
theorem okp_237 : okP 237 := ⟨by decide +kernel, pcX12_split, rfl, okm_X12_split⟩
theorem okp_238 : okP 238 := ⟨by decide +kernel, pcX12_passIt, rfl, okm_X12_passIt⟩
theorem okp_239 : okP 239 := ⟨by decide +kernel, pcX12_passNow, rfl, okm_X12_passNow⟩
theorem okp_240 : okP 240 := ⟨by decide +kernel, pcX12_pass, rfl, okm_X12_pass⟩
theorem okp_241 : okP 241 := ⟨by decide +kernel, pcX12_later, rfl, okm_X12_later⟩
theorem okp_242 : okP 242 := ⟨by decide +kernel, pcX12_readWith, rfl, okm_X12_readWith⟩
theorem okp_243 : okP 243 := ⟨by decide +kernel, pcX12_hoursOf, rfl, okm_X12_hoursOf⟩
theorem okp_244 : okP 244 := ⟨by decide +kernel, pcX12_behind, rfl, okm_X12_behind⟩
theorem okp_245 : okP 245 := ⟨by decide +kernel, pcX12_endOf, rfl, okm_X12_endOf⟩
theorem okp_246 : okP 246 := ⟨by decide +kernel, pcX12_run, rfl, okm_X12_run⟩
theorem okp_247 : okP 247 := ⟨by decide +kernel, pcX12_basin, rfl, okm_X12_basin⟩
theorem okp_248 : okP 248 := ⟨by decide +kernel, pcX12_cellsOf, rfl, okm_X12_cellsOf⟩
theorem okp_249 : okP 249 := ⟨by decide +kernel, pcX12_meeting, rfl, okm_X12_meeting⟩
theorem okp_250 : okP 250 := ⟨by decide +kernel, pcX12_liesBehind, rfl, okm_X12_liesBehind⟩
theorem okp_251 : okP 251 := ⟨by decide +kernel, pcX12_clash, rfl, okm_X12_clash⟩
theorem okp_252 : okP 252 := ⟨by decide +kernel, pcX12_delay, rfl, okm_X12_delay⟩
theorem okp_253 : okP 253 := ⟨by decide +kernel, pcX12_fitsKind, rfl, okm_X12_fitsKind⟩
theorem okp_254 : okP 254 := ⟨by decide +kernel, pcX12_kindsAhead, rfl, okm_X12_kindsAhead⟩
theorem okp_255 : okP 255 := ⟨by decide +kernel, pcX12_findKinds, rfl, okm_X12_findKinds⟩
theorem okp_256 : okP 256 := ⟨by decide +kernel, pcX12_apart, rfl, okm_X12_apart⟩
theorem okp_257 : okP 257 := ⟨by decide +kernel, pcX12_endsSo, rfl, okm_X12_endsSo⟩
theorem okp_258 : okP 258 := ⟨by decide +kernel, pcX12_canRaise, rfl, okm_X12_canRaise⟩
theorem okp_259 : okP 259 := ⟨by decide +kernel, pcX12_kerbSet, rfl, okm_X12_kerbSet⟩
theorem okp_260 : okP 260 := ⟨by decide +kernel, pcX12_kerbs, rfl, okm_X12_kerbs⟩
theorem okp_261 : okP 261 := ⟨by decide +kernel, pcX12_springs, rfl, okm_X12_springs⟩
theorem okp_262 : okP 262 := ⟨by decide +kernel, pcX12_pools, rfl, okm_X12_pools⟩
theorem okp_263 : okP 263 := ⟨by decide +kernel, pcX12_longest, rfl, okm_X12_longest⟩
theorem okp_264 : okP 264 := ⟨by decide +kernel, pcX12_compare, rfl, okm_X12_compare⟩
theorem okp_265 : okP 265 := ⟨by decide +kernel, pcX12_seen, rfl, okm_X12_seen⟩
theorem okp_266 : okP 266 := ⟨by decide +kernel, pcX12_forget, rfl, okm_X12_forget⟩
theorem okp_267 : okP 267 := ⟨by decide +kernel, pcX12_layPlaces, rfl, okm_X12_layPlaces⟩
theorem okp_268 : okP 268 := ⟨by decide +kernel, pcX12_thatCanBe, rfl, okm_X12_thatCanBe⟩
theorem okp_269 : okP 269 := ⟨by decide +kernel, pcX12_canBe, rfl, okm_X12_canBe⟩
theorem okp_270 : okP 270 := ⟨by decide +kernel, pcX12_mostAlike, rfl, okm_X12_mostAlike⟩
theorem okp_271 : okP 271 := ⟨by decide +kernel, pcX12_look, rfl, okm_X12_look⟩
theorem okp_272 : okP 272 := ⟨by decide +kernel, pcX12_few, rfl, okm_X12_few⟩
theorem okp_273 : okP 273 := ⟨by decide +kernel, pcX12_readSum, rfl, okm_X12_readSum⟩
theorem okp_274 : okP 274 := ⟨by decide +kernel, pcX12_readOrder, rfl, okm_X12_readOrder⟩
theorem okp_275 : okP 275 := ⟨by decide +kernel, pcX12_sumOf, rfl, okm_X12_sumOf⟩
theorem okp_276 : okP 276 := ⟨by decide +kernel, pcX12_act, rfl, okm_X12_act⟩
theorem okp_277 : okP 277 := ⟨by decide +kernel, pcX12_runOnce, rfl, okm_X12_runOnce⟩
theorem okp_278 : okP 278 := ⟨by decide +kernel, pcX12_orders, rfl, okm_X12_orders⟩
theorem okp_279 : okP 279 := ⟨by decide +kernel, pcX12_giveBack, rfl, okm_X12_giveBack⟩
theorem okp_280 : okP 280 := ⟨by decide +kernel, pcX12_stopped, rfl, okm_X12_stopped⟩
theorem okp_281 : okP 281 := ⟨by decide +kernel, pcX12_draw, rfl, okm_X12_draw⟩
theorem okp_282 : okP 282 := ⟨by decide +kernel, pcX12_days, rfl, okm_X12_days⟩
theorem okp_283 : okP 283 := ⟨by decide +kernel, pcX12_drawn, rfl, okm_X12_drawn⟩
theorem okp_284 : okP 284 := ⟨by decide +kernel, pcX12_count, rfl, okm_X12_count⟩
theorem okp_285 : okP 285 := ⟨by decide +kernel, pcX12_status, rfl, okm_X12_status⟩
theorem okAll : ∀ M, M < 286 → okP M := by
  intro M hM
  by_cases h143 : M < 143
  · by_cases h71 : M < 71
    · by_cases h35 : M < 35
      · by_cases h17 : M < 17
        · by_cases h8 : M < 8
          · by_cases h4 : M < 4
            · by_cases h2 : M < 2
              · by_cases h1 : M < 1
                · have e : M = 0 := by omega
                  subst e
                  exact okp_0
                · have e : M = 1 := by omega
                  subst e
                  exact okp_1
              · by_cases h3 : M < 3
                · have e : M = 2 := by omega
                  subst e
                  exact okp_2
                · have e : M = 3 := by omega
                  subst e
                  exact okp_3
            · by_cases h6 : M < 6
              · by_cases h5 : M < 5
                · have e : M = 4 := by omega
                  subst e
                  exact okp_4
                · have e : M = 5 := by omega
                  subst e
                  exact okp_5
              · by_cases h7 : M < 7
                · have e : M = 6 := by omega
                  subst e
                  exact okp_6
                · have e : M = 7 := by omega
                  subst e
                  exact okp_7
          · by_cases h12 : M < 12
            · by_cases h10 : M < 10
              · by_cases h9 : M < 9
                · have e : M = 8 := by omega
                  subst e
                  exact okp_8
                · have e : M = 9 := by omega
                  subst e
                  exact okp_9
              · by_cases h11 : M < 11
                · have e : M = 10 := by omega
                  subst e
                  exact okp_10
                · have e : M = 11 := by omega
                  subst e
                  exact okp_11
            · by_cases h14 : M < 14
              · by_cases h13 : M < 13
                · have e : M = 12 := by omega
                  subst e
                  exact okp_12
                · have e : M = 13 := by omega
                  subst e
                  exact okp_13
              · by_cases h15 : M < 15
                · have e : M = 14 := by omega
                  subst e
                  exact okp_14
                · by_cases h16 : M < 16
                  · have e : M = 15 := by omega
                    subst e
                    exact okp_15
                  · have e : M = 16 := by omega
                    subst e
                    exact okp_16
        · by_cases h26 : M < 26
          · by_cases h21 : M < 21
            · by_cases h19 : M < 19
              · by_cases h18 : M < 18
                · have e : M = 17 := by omega
                  subst e
                  exact okp_17
                · have e : M = 18 := by omega
                  subst e
                  exact okp_18
              · by_cases h20 : M < 20
                · have e : M = 19 := by omega
                  subst e
                  exact okp_19
                · have e : M = 20 := by omega
                  subst e
                  exact okp_20
            · by_cases h23 : M < 23
              · by_cases h22 : M < 22
                · have e : M = 21 := by omega
                  subst e
                  exact okp_21
                · have e : M = 22 := by omega
                  subst e
                  exact okp_22
              · by_cases h24 : M < 24
                · have e : M = 23 := by omega
                  subst e
                  exact okp_23
                · by_cases h25 : M < 25
                  · have e : M = 24 := by omega
                    subst e
                    exact okp_24
                  · have e : M = 25 := by omega
                    subst e
                    exact okp_25
          · by_cases h30 : M < 30
            · by_cases h28 : M < 28
              · by_cases h27 : M < 27
                · have e : M = 26 := by omega
                  subst e
                  exact okp_26
                · have e : M = 27 := by omega
                  subst e
                  exact okp_27
              · by_cases h29 : M < 29
                · have e : M = 28 := by omega
                  subst e
                  exact okp_28
                · have e : M = 29 := by omega
                  subst e
                  exact okp_29
            · by_cases h32 : M < 32
              · by_cases h31 : M < 31
                · have e : M = 30 := by omega
                  subst e
                  exact okp_30
                · have e : M = 31 := by omega
                  subst e
                  exact okp_31
              · by_cases h33 : M < 33
                · have e : M = 32 := by omega
                  subst e
                  exact okp_32
                · by_cases h34 : M < 34
                  · have e : M = 33 := by omega
                    subst e
                    exact okp_33
                  · have e : M = 34 := by omega
                    subst e
                    exact okp_34
      · by_cases h53 : M < 53
        · by_cases h44 : M < 44
          · by_cases h39 : M < 39
            · by_cases h37 : M < 37
              · by_cases h36 : M < 36
                · have e : M = 35 := by omega
                  subst e
                  exact okp_35
                · have e : M = 36 := by omega
                  subst e
                  exact okp_36
              · by_cases h38 : M < 38
                · have e : M = 37 := by omega
                  subst e
                  exact okp_37
                · have e : M = 38 := by omega
                  subst e
                  exact okp_38
            · by_cases h41 : M < 41
              · by_cases h40 : M < 40
                · have e : M = 39 := by omega
                  subst e
                  exact okp_39
                · have e : M = 40 := by omega
                  subst e
                  exact okp_40
              · by_cases h42 : M < 42
                · have e : M = 41 := by omega
                  subst e
                  exact okp_41
                · by_cases h43 : M < 43
                  · have e : M = 42 := by omega
                    subst e
                    exact okp_42
                  · have e : M = 43 := by omega
                    subst e
                    exact okp_43
          · by_cases h48 : M < 48
            · by_cases h46 : M < 46
              · by_cases h45 : M < 45
                · have e : M = 44 := by omega
                  subst e
                  exact okp_44
                · have e : M = 45 := by omega
                  subst e
                  exact okp_45
              · by_cases h47 : M < 47
                · have e : M = 46 := by omega
                  subst e
                  exact okp_46
                · have e : M = 47 := by omega
                  subst e
                  exact okp_47
            · by_cases h50 : M < 50
              · by_cases h49 : M < 49
                · have e : M = 48 := by omega
                  subst e
                  exact okp_48
                · have e : M = 49 := by omega
                  subst e
                  exact okp_49
              · by_cases h51 : M < 51
                · have e : M = 50 := by omega
                  subst e
                  exact okp_50
                · by_cases h52 : M < 52
                  · have e : M = 51 := by omega
                    subst e
                    exact okp_51
                  · have e : M = 52 := by omega
                    subst e
                    exact okp_52
        · by_cases h62 : M < 62
          · by_cases h57 : M < 57
            · by_cases h55 : M < 55
              · by_cases h54 : M < 54
                · have e : M = 53 := by omega
                  subst e
                  exact okp_53
                · have e : M = 54 := by omega
                  subst e
                  exact okp_54
              · by_cases h56 : M < 56
                · have e : M = 55 := by omega
                  subst e
                  exact okp_55
                · have e : M = 56 := by omega
                  subst e
                  exact okp_56
            · by_cases h59 : M < 59
              · by_cases h58 : M < 58
                · have e : M = 57 := by omega
                  subst e
                  exact okp_57
                · have e : M = 58 := by omega
                  subst e
                  exact okp_58
              · by_cases h60 : M < 60
                · have e : M = 59 := by omega
                  subst e
                  exact okp_59
                · by_cases h61 : M < 61
                  · have e : M = 60 := by omega
                    subst e
                    exact okp_60
                  · have e : M = 61 := by omega
                    subst e
                    exact okp_61
          · by_cases h66 : M < 66
            · by_cases h64 : M < 64
              · by_cases h63 : M < 63
                · have e : M = 62 := by omega
                  subst e
                  exact okp_62
                · have e : M = 63 := by omega
                  subst e
                  exact okp_63
              · by_cases h65 : M < 65
                · have e : M = 64 := by omega
                  subst e
                  exact okp_64
                · have e : M = 65 := by omega
                  subst e
                  exact okp_65
            · by_cases h68 : M < 68
              · by_cases h67 : M < 67
                · have e : M = 66 := by omega
                  subst e
                  exact okp_66
                · have e : M = 67 := by omega
                  subst e
                  exact okp_67
              · by_cases h69 : M < 69
                · have e : M = 68 := by omega
                  subst e
                  exact okp_68
                · by_cases h70 : M < 70
                  · have e : M = 69 := by omega
                    subst e
                    exact okp_69
                  · have e : M = 70 := by omega
                    subst e
                    exact okp_70
    · by_cases h107 : M < 107
      · by_cases h89 : M < 89
        · by_cases h80 : M < 80
          · by_cases h75 : M < 75
            · by_cases h73 : M < 73
              · by_cases h72 : M < 72
                · have e : M = 71 := by omega
                  subst e
                  exact okp_71
                · have e : M = 72 := by omega
                  subst e
                  exact okp_72
              · by_cases h74 : M < 74
                · have e : M = 73 := by omega
                  subst e
                  exact okp_73
                · have e : M = 74 := by omega
                  subst e
                  exact okp_74
            · by_cases h77 : M < 77
              · by_cases h76 : M < 76
                · have e : M = 75 := by omega
                  subst e
                  exact okp_75
                · have e : M = 76 := by omega
                  subst e
                  exact okp_76
              · by_cases h78 : M < 78
                · have e : M = 77 := by omega
                  subst e
                  exact okp_77
                · by_cases h79 : M < 79
                  · have e : M = 78 := by omega
                    subst e
                    exact okp_78
                  · have e : M = 79 := by omega
                    subst e
                    exact okp_79
          · by_cases h84 : M < 84
            · by_cases h82 : M < 82
              · by_cases h81 : M < 81
                · have e : M = 80 := by omega
                  subst e
                  exact okp_80
                · have e : M = 81 := by omega
                  subst e
                  exact okp_81
              · by_cases h83 : M < 83
                · have e : M = 82 := by omega
                  subst e
                  exact okp_82
                · have e : M = 83 := by omega
                  subst e
                  exact okp_83
            · by_cases h86 : M < 86
              · by_cases h85 : M < 85
                · have e : M = 84 := by omega
                  subst e
                  exact okp_84
                · have e : M = 85 := by omega
                  subst e
                  exact okp_85
              · by_cases h87 : M < 87
                · have e : M = 86 := by omega
                  subst e
                  exact okp_86
                · by_cases h88 : M < 88
                  · have e : M = 87 := by omega
                    subst e
                    exact okp_87
                  · have e : M = 88 := by omega
                    subst e
                    exact okp_88
        · by_cases h98 : M < 98
          · by_cases h93 : M < 93
            · by_cases h91 : M < 91
              · by_cases h90 : M < 90
                · have e : M = 89 := by omega
                  subst e
                  exact okp_89
                · have e : M = 90 := by omega
                  subst e
                  exact okp_90
              · by_cases h92 : M < 92
                · have e : M = 91 := by omega
                  subst e
                  exact okp_91
                · have e : M = 92 := by omega
                  subst e
                  exact okp_92
            · by_cases h95 : M < 95
              · by_cases h94 : M < 94
                · have e : M = 93 := by omega
                  subst e
                  exact okp_93
                · have e : M = 94 := by omega
                  subst e
                  exact okp_94
              · by_cases h96 : M < 96
                · have e : M = 95 := by omega
                  subst e
                  exact okp_95
                · by_cases h97 : M < 97
                  · have e : M = 96 := by omega
                    subst e
                    exact okp_96
                  · have e : M = 97 := by omega
                    subst e
                    exact okp_97
          · by_cases h102 : M < 102
            · by_cases h100 : M < 100
              · by_cases h99 : M < 99
                · have e : M = 98 := by omega
                  subst e
                  exact okp_98
                · have e : M = 99 := by omega
                  subst e
                  exact okp_99
              · by_cases h101 : M < 101
                · have e : M = 100 := by omega
                  subst e
                  exact okp_100
                · have e : M = 101 := by omega
                  subst e
                  exact okp_101
            · by_cases h104 : M < 104
              · by_cases h103 : M < 103
                · have e : M = 102 := by omega
                  subst e
                  exact okp_102
                · have e : M = 103 := by omega
                  subst e
                  exact okp_103
              · by_cases h105 : M < 105
                · have e : M = 104 := by omega
                  subst e
                  exact okp_104
                · by_cases h106 : M < 106
                  · have e : M = 105 := by omega
                    subst e
                    exact okp_105
                  · have e : M = 106 := by omega
                    subst e
                    exact okp_106
      · by_cases h125 : M < 125
        · by_cases h116 : M < 116
          · by_cases h111 : M < 111
            · by_cases h109 : M < 109
              · by_cases h108 : M < 108
                · have e : M = 107 := by omega
                  subst e
                  exact okp_107
                · have e : M = 108 := by omega
                  subst e
                  exact okp_108
              · by_cases h110 : M < 110
                · have e : M = 109 := by omega
                  subst e
                  exact okp_109
                · have e : M = 110 := by omega
                  subst e
                  exact okp_110
            · by_cases h113 : M < 113
              · by_cases h112 : M < 112
                · have e : M = 111 := by omega
                  subst e
                  exact okp_111
                · have e : M = 112 := by omega
                  subst e
                  exact okp_112
              · by_cases h114 : M < 114
                · have e : M = 113 := by omega
                  subst e
                  exact okp_113
                · by_cases h115 : M < 115
                  · have e : M = 114 := by omega
                    subst e
                    exact okp_114
                  · have e : M = 115 := by omega
                    subst e
                    exact okp_115
          · by_cases h120 : M < 120
            · by_cases h118 : M < 118
              · by_cases h117 : M < 117
                · have e : M = 116 := by omega
                  subst e
                  exact okp_116
                · have e : M = 117 := by omega
                  subst e
                  exact okp_117
              · by_cases h119 : M < 119
                · have e : M = 118 := by omega
                  subst e
                  exact okp_118
                · have e : M = 119 := by omega
                  subst e
                  exact okp_119
            · by_cases h122 : M < 122
              · by_cases h121 : M < 121
                · have e : M = 120 := by omega
                  subst e
                  exact okp_120
                · have e : M = 121 := by omega
                  subst e
                  exact okp_121
              · by_cases h123 : M < 123
                · have e : M = 122 := by omega
                  subst e
                  exact okp_122
                · by_cases h124 : M < 124
                  · have e : M = 123 := by omega
                    subst e
                    exact okp_123
                  · have e : M = 124 := by omega
                    subst e
                    exact okp_124
        · by_cases h134 : M < 134
          · by_cases h129 : M < 129
            · by_cases h127 : M < 127
              · by_cases h126 : M < 126
                · have e : M = 125 := by omega
                  subst e
                  exact okp_125
                · have e : M = 126 := by omega
                  subst e
                  exact okp_126
              · by_cases h128 : M < 128
                · have e : M = 127 := by omega
                  subst e
                  exact okp_127
                · have e : M = 128 := by omega
                  subst e
                  exact okp_128
            · by_cases h131 : M < 131
              · by_cases h130 : M < 130
                · have e : M = 129 := by omega
                  subst e
                  exact okp_129
                · have e : M = 130 := by omega
                  subst e
                  exact okp_130
              · by_cases h132 : M < 132
                · have e : M = 131 := by omega
                  subst e
                  exact okp_131
                · by_cases h133 : M < 133
                  · have e : M = 132 := by omega
                    subst e
                    exact okp_132
                  · have e : M = 133 := by omega
                    subst e
                    exact okp_133
          · by_cases h138 : M < 138
            · by_cases h136 : M < 136
              · by_cases h135 : M < 135
                · have e : M = 134 := by omega
                  subst e
                  exact okp_134
                · have e : M = 135 := by omega
                  subst e
                  exact okp_135
              · by_cases h137 : M < 137
                · have e : M = 136 := by omega
                  subst e
                  exact okp_136
                · have e : M = 137 := by omega
                  subst e
                  exact okp_137
            · by_cases h140 : M < 140
              · by_cases h139 : M < 139
                · have e : M = 138 := by omega
                  subst e
                  exact okp_138
                · have e : M = 139 := by omega
                  subst e
                  exact okp_139
              · by_cases h141 : M < 141
                · have e : M = 140 := by omega
                  subst e
                  exact okp_140
                · by_cases h142 : M < 142
                  · have e : M = 141 := by omega
                    subst e
                    exact okp_141
                  · have e : M = 142 := by omega
                    subst e
                    exact okp_142
  · by_cases h214 : M < 214
    · by_cases h178 : M < 178
      · by_cases h160 : M < 160
        · by_cases h151 : M < 151
          · by_cases h147 : M < 147
            · by_cases h145 : M < 145
              · by_cases h144 : M < 144
                · have e : M = 143 := by omega
                  subst e
                  exact okp_143
                · have e : M = 144 := by omega
                  subst e
                  exact okp_144
              · by_cases h146 : M < 146
                · have e : M = 145 := by omega
                  subst e
                  exact okp_145
                · have e : M = 146 := by omega
                  subst e
                  exact okp_146
            · by_cases h149 : M < 149
              · by_cases h148 : M < 148
                · have e : M = 147 := by omega
                  subst e
                  exact okp_147
                · have e : M = 148 := by omega
                  subst e
                  exact okp_148
              · by_cases h150 : M < 150
                · have e : M = 149 := by omega
                  subst e
                  exact okp_149
                · have e : M = 150 := by omega
                  subst e
                  exact okp_150
          · by_cases h155 : M < 155
            · by_cases h153 : M < 153
              · by_cases h152 : M < 152
                · have e : M = 151 := by omega
                  subst e
                  exact okp_151
                · have e : M = 152 := by omega
                  subst e
                  exact okp_152
              · by_cases h154 : M < 154
                · have e : M = 153 := by omega
                  subst e
                  exact okp_153
                · have e : M = 154 := by omega
                  subst e
                  exact okp_154
            · by_cases h157 : M < 157
              · by_cases h156 : M < 156
                · have e : M = 155 := by omega
                  subst e
                  exact okp_155
                · have e : M = 156 := by omega
                  subst e
                  exact okp_156
              · by_cases h158 : M < 158
                · have e : M = 157 := by omega
                  subst e
                  exact okp_157
                · by_cases h159 : M < 159
                  · have e : M = 158 := by omega
                    subst e
                    exact okp_158
                  · have e : M = 159 := by omega
                    subst e
                    exact okp_159
        · by_cases h169 : M < 169
          · by_cases h164 : M < 164
            · by_cases h162 : M < 162
              · by_cases h161 : M < 161
                · have e : M = 160 := by omega
                  subst e
                  exact okp_160
                · have e : M = 161 := by omega
                  subst e
                  exact okp_161
              · by_cases h163 : M < 163
                · have e : M = 162 := by omega
                  subst e
                  exact okp_162
                · have e : M = 163 := by omega
                  subst e
                  exact okp_163
            · by_cases h166 : M < 166
              · by_cases h165 : M < 165
                · have e : M = 164 := by omega
                  subst e
                  exact okp_164
                · have e : M = 165 := by omega
                  subst e
                  exact okp_165
              · by_cases h167 : M < 167
                · have e : M = 166 := by omega
                  subst e
                  exact okp_166
                · by_cases h168 : M < 168
                  · have e : M = 167 := by omega
                    subst e
                    exact okp_167
                  · have e : M = 168 := by omega
                    subst e
                    exact okp_168
          · by_cases h173 : M < 173
            · by_cases h171 : M < 171
              · by_cases h170 : M < 170
                · have e : M = 169 := by omega
                  subst e
                  exact okp_169
                · have e : M = 170 := by omega
                  subst e
                  exact okp_170
              · by_cases h172 : M < 172
                · have e : M = 171 := by omega
                  subst e
                  exact okp_171
                · have e : M = 172 := by omega
                  subst e
                  exact okp_172
            · by_cases h175 : M < 175
              · by_cases h174 : M < 174
                · have e : M = 173 := by omega
                  subst e
                  exact okp_173
                · have e : M = 174 := by omega
                  subst e
                  exact okp_174
              · by_cases h176 : M < 176
                · have e : M = 175 := by omega
                  subst e
                  exact okp_175
                · by_cases h177 : M < 177
                  · have e : M = 176 := by omega
                    subst e
                    exact okp_176
                  · have e : M = 177 := by omega
                    subst e
                    exact okp_177
      · by_cases h196 : M < 196
        · by_cases h187 : M < 187
          · by_cases h182 : M < 182
            · by_cases h180 : M < 180
              · by_cases h179 : M < 179
                · have e : M = 178 := by omega
                  subst e
                  exact okp_178
                · have e : M = 179 := by omega
                  subst e
                  exact okp_179
              · by_cases h181 : M < 181
                · have e : M = 180 := by omega
                  subst e
                  exact okp_180
                · have e : M = 181 := by omega
                  subst e
                  exact okp_181
            · by_cases h184 : M < 184
              · by_cases h183 : M < 183
                · have e : M = 182 := by omega
                  subst e
                  exact okp_182
                · have e : M = 183 := by omega
                  subst e
                  exact okp_183
              · by_cases h185 : M < 185
                · have e : M = 184 := by omega
                  subst e
                  exact okp_184
                · by_cases h186 : M < 186
                  · have e : M = 185 := by omega
                    subst e
                    exact okp_185
                  · have e : M = 186 := by omega
                    subst e
                    exact okp_186
          · by_cases h191 : M < 191
            · by_cases h189 : M < 189
              · by_cases h188 : M < 188
                · have e : M = 187 := by omega
                  subst e
                  exact okp_187
                · have e : M = 188 := by omega
                  subst e
                  exact okp_188
              · by_cases h190 : M < 190
                · have e : M = 189 := by omega
                  subst e
                  exact okp_189
                · have e : M = 190 := by omega
                  subst e
                  exact okp_190
            · by_cases h193 : M < 193
              · by_cases h192 : M < 192
                · have e : M = 191 := by omega
                  subst e
                  exact okp_191
                · have e : M = 192 := by omega
                  subst e
                  exact okp_192
              · by_cases h194 : M < 194
                · have e : M = 193 := by omega
                  subst e
                  exact okp_193
                · by_cases h195 : M < 195
                  · have e : M = 194 := by omega
                    subst e
                    exact okp_194
                  · have e : M = 195 := by omega
                    subst e
                    exact okp_195
        · by_cases h205 : M < 205
          · by_cases h200 : M < 200
            · by_cases h198 : M < 198
              · by_cases h197 : M < 197
                · have e : M = 196 := by omega
                  subst e
                  exact okp_196
                · have e : M = 197 := by omega
                  subst e
                  exact okp_197
              · by_cases h199 : M < 199
                · have e : M = 198 := by omega
                  subst e
                  exact okp_198
                · have e : M = 199 := by omega
                  subst e
                  exact okp_199
            · by_cases h202 : M < 202
              · by_cases h201 : M < 201
                · have e : M = 200 := by omega
                  subst e
                  exact okp_200
                · have e : M = 201 := by omega
                  subst e
                  exact okp_201
              · by_cases h203 : M < 203
                · have e : M = 202 := by omega
                  subst e
                  exact okp_202
                · by_cases h204 : M < 204
                  · have e : M = 203 := by omega
                    subst e
                    exact okp_203
                  · have e : M = 204 := by omega
                    subst e
                    exact okp_204
          · by_cases h209 : M < 209
            · by_cases h207 : M < 207
              · by_cases h206 : M < 206
                · have e : M = 205 := by omega
                  subst e
                  exact okp_205
                · have e : M = 206 := by omega
                  subst e
                  exact okp_206
              · by_cases h208 : M < 208
                · have e : M = 207 := by omega
                  subst e
                  exact okp_207
                · have e : M = 208 := by omega
                  subst e
                  exact okp_208
            · by_cases h211 : M < 211
              · by_cases h210 : M < 210
                · have e : M = 209 := by omega
                  subst e
                  exact okp_209
                · have e : M = 210 := by omega
                  subst e
                  exact okp_210
              · by_cases h212 : M < 212
                · have e : M = 211 := by omega
                  subst e
                  exact okp_211
                · by_cases h213 : M < 213
                  · have e : M = 212 := by omega
                    subst e
                    exact okp_212
                  · have e : M = 213 := by omega
                    subst e
                    exact okp_213
    · by_cases h250 : M < 250
      · by_cases h232 : M < 232
        · by_cases h223 : M < 223
          · by_cases h218 : M < 218
            · by_cases h216 : M < 216
              · by_cases h215 : M < 215
                · have e : M = 214 := by omega
                  subst e
                  exact okp_214
                · have e : M = 215 := by omega
                  subst e
                  exact okp_215
              · by_cases h217 : M < 217
                · have e : M = 216 := by omega
                  subst e
                  exact okp_216
                · have e : M = 217 := by omega
                  subst e
                  exact okp_217
            · by_cases h220 : M < 220
              · by_cases h219 : M < 219
                · have e : M = 218 := by omega
                  subst e
                  exact okp_218
                · have e : M = 219 := by omega
                  subst e
                  exact okp_219
              · by_cases h221 : M < 221
                · have e : M = 220 := by omega
                  subst e
                  exact okp_220
                · by_cases h222 : M < 222
                  · have e : M = 221 := by omega
                    subst e
                    exact okp_221
                  · have e : M = 222 := by omega
                    subst e
                    exact okp_222
          · by_cases h227 : M < 227
            · by_cases h225 : M < 225
              · by_cases h224 : M < 224
                · have e : M = 223 := by omega
                  subst e
                  exact okp_223
                · have e : M = 224 := by omega
                  subst e
                  exact okp_224
              · by_cases h226 : M < 226
                · have e : M = 225 := by omega
                  subst e
                  exact okp_225
                · have e : M = 226 := by omega
                  subst e
                  exact okp_226
            · by_cases h229 : M < 229
              · by_cases h228 : M < 228
                · have e : M = 227 := by omega
                  subst e
                  exact okp_227
                · have e : M = 228 := by omega
                  subst e
                  exact okp_228
              · by_cases h230 : M < 230
                · have e : M = 229 := by omega
                  subst e
                  exact okp_229
                · by_cases h231 : M < 231
                  · have e : M = 230 := by omega
                    subst e
                    exact okp_230
                  · have e : M = 231 := by omega
                    subst e
                    exact okp_231
        · by_cases h241 : M < 241
          · by_cases h236 : M < 236
            · by_cases h234 : M < 234
              · by_cases h233 : M < 233
                · have e : M = 232 := by omega
                  subst e
                  exact okp_232
                · have e : M = 233 := by omega
                  subst e
                  exact okp_233
              · by_cases h235 : M < 235
                · have e : M = 234 := by omega
                  subst e
                  exact okp_234
                · have e : M = 235 := by omega
                  subst e
                  exact okp_235
            · by_cases h238 : M < 238
              · by_cases h237 : M < 237
                · have e : M = 236 := by omega
                  subst e
                  exact okp_236
                · have e : M = 237 := by omega
                  subst e
                  exact okp_237
              · by_cases h239 : M < 239
                · have e : M = 238 := by omega
                  subst e
                  exact okp_238
                · by_cases h240 : M < 240
                  · have e : M = 239 := by omega
                    subst e
                    exact okp_239
                  · have e : M = 240 := by omega
                    subst e
                    exact okp_240
          · by_cases h245 : M < 245
            · by_cases h243 : M < 243
              · by_cases h242 : M < 242
                · have e : M = 241 := by omega
                  subst e
                  exact okp_241
                · have e : M = 242 := by omega
                  subst e
                  exact okp_242
              · by_cases h244 : M < 244
                · have e : M = 243 := by omega
                  subst e
                  exact okp_243
                · have e : M = 244 := by omega
                  subst e
                  exact okp_244
            · by_cases h247 : M < 247
              · by_cases h246 : M < 246
                · have e : M = 245 := by omega
                  subst e
                  exact okp_245
                · have e : M = 246 := by omega
                  subst e
                  exact okp_246
              · by_cases h248 : M < 248
                · have e : M = 247 := by omega
                  subst e
                  exact okp_247
                · by_cases h249 : M < 249
                  · have e : M = 248 := by omega
                    subst e
                    exact okp_248
                  · have e : M = 249 := by omega
                    subst e
                    exact okp_249
      · by_cases h268 : M < 268
        · by_cases h259 : M < 259
          · by_cases h254 : M < 254
            · by_cases h252 : M < 252
              · by_cases h251 : M < 251
                · have e : M = 250 := by omega
                  subst e
                  exact okp_250
                · have e : M = 251 := by omega
                  subst e
                  exact okp_251
              · by_cases h253 : M < 253
                · have e : M = 252 := by omega
                  subst e
                  exact okp_252
                · have e : M = 253 := by omega
                  subst e
                  exact okp_253
            · by_cases h256 : M < 256
              · by_cases h255 : M < 255
                · have e : M = 254 := by omega
                  subst e
                  exact okp_254
                · have e : M = 255 := by omega
                  subst e
                  exact okp_255
              · by_cases h257 : M < 257
                · have e : M = 256 := by omega
                  subst e
                  exact okp_256
                · by_cases h258 : M < 258
                  · have e : M = 257 := by omega
                    subst e
                    exact okp_257
                  · have e : M = 258 := by omega
                    subst e
                    exact okp_258
          · by_cases h263 : M < 263
            · by_cases h261 : M < 261
              · by_cases h260 : M < 260
                · have e : M = 259 := by omega
                  subst e
                  exact okp_259
                · have e : M = 260 := by omega
                  subst e
                  exact okp_260
              · by_cases h262 : M < 262
                · have e : M = 261 := by omega
                  subst e
                  exact okp_261
                · have e : M = 262 := by omega
                  subst e
                  exact okp_262
            · by_cases h265 : M < 265
              · by_cases h264 : M < 264
                · have e : M = 263 := by omega
                  subst e
                  exact okp_263
                · have e : M = 264 := by omega
                  subst e
                  exact okp_264
              · by_cases h266 : M < 266
                · have e : M = 265 := by omega
                  subst e
                  exact okp_265
                · by_cases h267 : M < 267
                  · have e : M = 266 := by omega
                    subst e
                    exact okp_266
                  · have e : M = 267 := by omega
                    subst e
                    exact okp_267
        · by_cases h277 : M < 277
          · by_cases h272 : M < 272
            · by_cases h270 : M < 270
              · by_cases h269 : M < 269
                · have e : M = 268 := by omega
                  subst e
                  exact okp_268
                · have e : M = 269 := by omega
                  subst e
                  exact okp_269
              · by_cases h271 : M < 271
                · have e : M = 270 := by omega
                  subst e
                  exact okp_270
                · have e : M = 271 := by omega
                  subst e
                  exact okp_271
            · by_cases h274 : M < 274
              · by_cases h273 : M < 273
                · have e : M = 272 := by omega
                  subst e
                  exact okp_272
                · have e : M = 273 := by omega
                  subst e
                  exact okp_273
              · by_cases h275 : M < 275
                · have e : M = 274 := by omega
                  subst e
                  exact okp_274
                · by_cases h276 : M < 276
                  · have e : M = 275 := by omega
                    subst e
                    exact okp_275
                  · have e : M = 276 := by omega
                    subst e
                    exact okp_276
          · by_cases h281 : M < 281
            · by_cases h279 : M < 279
              · by_cases h278 : M < 278
                · have e : M = 277 := by omega
                  subst e
                  exact okp_277
                · have e : M = 278 := by omega
                  subst e
                  exact okp_278
              · by_cases h280 : M < 280
                · have e : M = 279 := by omega
                  subst e
                  exact okp_279
                · have e : M = 280 := by omega
                  subst e
                  exact okp_280
            · by_cases h283 : M < 283
              · by_cases h282 : M < 282
                · have e : M = 281 := by omega
                  subst e
                  exact okp_281
                · have e : M = 282 := by omega
                  subst e
                  exact okp_282
              · by_cases h284 : M < 284
                · have e : M = 283 := by omega
                  subst e
                  exact okp_283
                · by_cases h285 : M < 285
                  · have e : M = 284 := by omega
                    subst e
                    exact okp_284
                  · have e : M = 285 := by omega
                    subst e
                    exact okp_285
