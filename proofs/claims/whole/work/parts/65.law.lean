theorem mw_2_70 : mGw (.methodLink RL 21 yX9_cube) := mG2 (i := 70) (by decide +kernel) rfl
theorem mw_2_71 : mGw (.instanceMethod yX9_cube) := mG2 (i := 71) (by decide +kernel) rfl
theorem mw_2_72 : mGw (.selects RX9 yX9_cube yX9_cube) := mG2 (i := 72) (by decide +kernel) rfl
theorem mw_2_73 : mGw (.code yX9_cube cX9_cube 6 (some .int)) := mG2 (i := 73) (by decide +kernel) rfl
theorem mw_6_10 : mGw (.methodLink RL 25 yX10_cube) := mG6 (i := 10) (by decide +kernel) rfl
theorem mw_6_11 : mGw (.instanceMethod yX10_cube) := mG6 (i := 11) (by decide +kernel) rfl
theorem mw_6_12 : mGw (.selects RX10 yX10_cube yX10_cube) := mG6 (i := 12) (by decide +kernel) rfl
theorem mw_6_13 : mGw (.code yX10_cube cX10_cube 6 (some .int)) := mG6 (i := 13) (by decide +kernel) rfl
theorem mw_2_103 : mGw (.methodLink RL 26 yX9_about) := mG2 (i := 103) (by decide +kernel) rfl
theorem mw_2_104 : mGw (.instanceMethod yX9_about) := mG2 (i := 104) (by decide +kernel) rfl
theorem mw_2_105 : mGw (.selects RX9 yX9_about yX9_about) := mG2 (i := 105) (by decide +kernel) rfl
theorem mw_2_106 : mGw (.code yX9_about cX9_about 3 (some .int)) := mG2 (i := 106) (by decide +kernel) rfl
theorem mw_6_42 : mGw (.methodLink RL 30 yX10_about) := mG6 (i := 42) (by decide +kernel) rfl
theorem mw_6_43 : mGw (.instanceMethod yX10_about) := mG6 (i := 43) (by decide +kernel) rfl
theorem mw_6_44 : mGw (.selects RX10 yX10_about yX10_about) := mG6 (i := 44) (by decide +kernel) rfl
theorem mw_6_45 : mGw (.code yX10_about cX10_about 3 (some .int)) := mG6 (i := 45) (by decide +kernel) rfl
theorem mw_2_139 : mGw (.methodLink RL 31 yX9_at) := mG2 (i := 139) (by decide +kernel) rfl
theorem mw_2_140 : mGw (.instanceMethod yX9_at) := mG2 (i := 140) (by decide +kernel) rfl
theorem mw_2_141 : mGw (.selects RX9 yX9_at yX9_at) := mG2 (i := 141) (by decide +kernel) rfl
theorem mw_2_142 : mGw (.code yX9_at cX9_at 4 (some .int)) := mG2 (i := 142) (by decide +kernel) rfl
theorem mw_6_74 : mGw (.methodLink RL 34 yX10_at) := mG6 (i := 74) (by decide +kernel) rfl
theorem mw_6_75 : mGw (.instanceMethod yX10_at) := mG6 (i := 75) (by decide +kernel) rfl
theorem mw_6_76 : mGw (.selects RX10 yX10_at yX10_at) := mG6 (i := 76) (by decide +kernel) rfl
theorem mw_6_77 : mGw (.code yX10_at cX10_at 3 (some .int)) := mG6 (i := 77) (by decide +kernel) rfl
theorem mw_2_143 : mGw (.methodLink RL 35 yX9_dead) := mG2 (i := 143) (by decide +kernel) rfl
theorem mw_2_144 : mGw (.instanceMethod yX9_dead) := mG2 (i := 144) (by decide +kernel) rfl
theorem mw_2_145 : mGw (.selects RX9 yX9_dead yX9_dead) := mG2 (i := 145) (by decide +kernel) rfl
theorem mw_2_146 : mGw (.code yX9_dead cX9_dead 3 (some .int)) := mG2 (i := 146) (by decide +kernel) rfl
theorem mw_6_78 : mGw (.methodLink RL 39 yX10_dead) := mG6 (i := 78) (by decide +kernel) rfl
theorem mw_6_79 : mGw (.instanceMethod yX10_dead) := mG6 (i := 79) (by decide +kernel) rfl
theorem mw_6_80 : mGw (.selects RX10 yX10_dead yX10_dead) := mG6 (i := 80) (by decide +kernel) rfl
theorem mw_6_81 : mGw (.code yX10_dead cX10_dead 4 (some .int)) := mG6 (i := 81) (by decide +kernel) rfl
theorem mw_2_151 : mGw (.methodLink RL 40 yX9_charge) := mG2 (i := 151) (by decide +kernel) rfl
theorem mw_2_152 : mGw (.instanceMethod yX9_charge) := mG2 (i := 152) (by decide +kernel) rfl
theorem mw_2_153 : mGw (.selects RX9 yX9_charge yX9_charge) := mG2 (i := 153) (by decide +kernel) rfl
theorem mw_2_154 : mGw (.code yX9_charge cX9_charge 4 (some .int)) := mG2 (i := 154) (by decide +kernel) rfl
theorem mw_6_82 : mGw (.methodLink RL 43 yX10_charge) := mG6 (i := 82) (by decide +kernel) rfl
theorem mw_6_83 : mGw (.instanceMethod yX10_charge) := mG6 (i := 83) (by decide +kernel) rfl
theorem mw_6_84 : mGw (.selects RX10 yX10_charge yX10_charge) := mG6 (i := 84) (by decide +kernel) rfl
theorem mw_6_85 : mGw (.code yX10_charge cX10_charge 4 (some .int)) := mG6 (i := 85) (by decide +kernel) rfl
theorem mw_2_155 : mGw (.methodLink RL 44 yX9_can) := mG2 (i := 155) (by decide +kernel) rfl
theorem mw_2_156 : mGw (.instanceMethod yX9_can) := mG2 (i := 156) (by decide +kernel) rfl
theorem mw_2_157 : mGw (.selects RX9 yX9_can yX9_can) := mG2 (i := 157) (by decide +kernel) rfl
theorem mw_2_158 : mGw (.code yX9_can cX9_can 2 (some .int)) := mG2 (i := 158) (by decide +kernel) rfl
theorem mw_6_86 : mGw (.methodLink RL 48 yX10_can) := mG6 (i := 86) (by decide +kernel) rfl
theorem mw_6_87 : mGw (.instanceMethod yX10_can) := mG6 (i := 87) (by decide +kernel) rfl
theorem mw_6_88 : mGw (.selects RX10 yX10_can yX10_can) := mG6 (i := 88) (by decide +kernel) rfl
theorem mw_6_89 : mGw (.code yX10_can cX10_can 2 (some .int)) := mG6 (i := 89) (by decide +kernel) rfl
theorem mw_2_190 : mGw (.methodLink RL 49 yX9_move) := mG2 (i := 190) (by decide +kernel) rfl
theorem mw_2_191 : mGw (.instanceMethod yX9_move) := mG2 (i := 191) (by decide +kernel) rfl
theorem mw_2_192 : mGw (.selects RX9 yX9_move yX9_move) := mG2 (i := 192) (by decide +kernel) rfl
theorem mw_2_193 : mGw (.code yX9_move cX9_move 3 (some .int)) := mG2 (i := 193) (by decide +kernel) rfl
theorem mw_6_126 : mGw (.methodLink RL 52 yX10_move) := mG6 (i := 126) (by decide +kernel) rfl
theorem mw_6_127 : mGw (.instanceMethod yX10_move) := mG6 (i := 127) (by decide +kernel) rfl
theorem mw_6_128 : mGw (.selects RX10 yX10_move yX10_move) := mG6 (i := 128) (by decide +kernel) rfl
theorem mw_6_129 : mGw (.code yX10_move cX10_move 2 (some .int)) := mG6 (i := 129) (by decide +kernel) rfl
theorem mw_2_202 : mGw (.methodLink RL 53 yX9_moves) := mG2 (i := 202) (by decide +kernel) rfl
theorem mw_2_203 : mGw (.instanceMethod yX9_moves) := mG2 (i := 203) (by decide +kernel) rfl
theorem mw_2_204 : mGw (.selects RX9 yX9_moves yX9_moves) := mG2 (i := 204) (by decide +kernel) rfl
theorem mw_2_205 : mGw (.code yX9_moves cX9_moves 3 (some .int)) := mG2 (i := 205) (by decide +kernel) rfl
theorem mw_6_134 : mGw (.methodLink RL 57 yX10_moves) := mG6 (i := 134) (by decide +kernel) rfl
theorem mw_6_135 : mGw (.instanceMethod yX10_moves) := mG6 (i := 135) (by decide +kernel) rfl
theorem mw_6_136 : mGw (.selects RX10 yX10_moves yX10_moves) := mG6 (i := 136) (by decide +kernel) rfl
theorem mw_6_137 : mGw (.code yX10_moves cX10_moves 3 (some .int)) := mG6 (i := 137) (by decide +kernel) rfl
theorem mw_2_206 : mGw (.methodLink RL 58 yX9_broken) := mG2 (i := 206) (by decide +kernel) rfl
theorem mw_2_207 : mGw (.instanceMethod yX9_broken) := mG2 (i := 207) (by decide +kernel) rfl
theorem mw_2_208 : mGw (.selects RX9 yX9_broken yX9_broken) := mG2 (i := 208) (by decide +kernel) rfl
theorem mw_2_209 : mGw (.code yX9_broken cX9_broken 3 (some .int)) := mG2 (i := 209) (by decide +kernel) rfl
theorem mw_6_138 : mGw (.methodLink RL 61 yX10_broken) := mG6 (i := 138) (by decide +kernel) rfl
theorem mw_6_139 : mGw (.instanceMethod yX10_broken) := mG6 (i := 139) (by decide +kernel) rfl
theorem mw_6_140 : mGw (.selects RX10 yX10_broken yX10_broken) := mG6 (i := 140) (by decide +kernel) rfl
theorem mw_6_141 : mGw (.code yX10_broken cX10_broken 3 (some .int)) := mG6 (i := 141) (by decide +kernel) rfl
theorem mw_2_211 : mGw (.methodLink RL 62 yX9_fault) := mG2 (i := 211) (by decide +kernel) rfl
theorem mw_2_212 : mGw (.instanceMethod yX9_fault) := mG2 (i := 212) (by decide +kernel) rfl
theorem mw_2_213 : mGw (.selects RX9 yX9_fault yX9_fault) := mG2 (i := 213) (by decide +kernel) rfl
theorem mw_2_214 : mGw (.code yX9_fault cX9_fault 4 (some .int)) := mG2 (i := 214) (by decide +kernel) rfl
theorem mw_6_142 : mGw (.methodLink RL 65 yX10_fault) := mG6 (i := 142) (by decide +kernel) rfl
theorem mw_6_143 : mGw (.instanceMethod yX10_fault) := mG6 (i := 143) (by decide +kernel) rfl
theorem mw_6_144 : mGw (.selects RX10 yX10_fault yX10_fault) := mG6 (i := 144) (by decide +kernel) rfl
theorem mw_6_145 : mGw (.code yX10_fault cX10_fault 3 (some .int)) := mG6 (i := 145) (by decide +kernel) rfl
theorem mw_3_162 : mGw (.methodLink RL 66 yX9_shape) := mG3 (i := 162) (by decide +kernel) rfl
theorem mw_3_163 : mGw (.instanceMethod yX9_shape) := mG3 (i := 163) (by decide +kernel) rfl
theorem mw_3_164 : mGw (.selects RX9 yX9_shape yX9_shape) := mG3 (i := 164) (by decide +kernel) rfl
theorem mw_3_165 : mGw (.code yX9_shape cX9_shape 7 (some .int)) := mG3 (i := 165) (by decide +kernel) rfl
theorem mw_6_210 : mGw (.methodLink RL 69 yX10_shape) := mG6 (i := 210) (by decide +kernel) rfl
theorem mw_6_211 : mGw (.instanceMethod yX10_shape) := mG6 (i := 211) (by decide +kernel) rfl
theorem mw_6_212 : mGw (.selects RX10 yX10_shape yX10_shape) := mG6 (i := 212) (by decide +kernel) rfl
theorem mw_6_213 : mGw (.code yX10_shape cX10_shape 2 (some .int)) := mG6 (i := 213) (by decide +kernel) rfl
theorem mw_3_170 : mGw (.methodLink RL 70 yX9_in) := mG3 (i := 170) (by decide +kernel) rfl
theorem mw_3_171 : mGw (.instanceMethod yX9_in) := mG3 (i := 171) (by decide +kernel) rfl
theorem mw_3_172 : mGw (.selects RX9 yX9_in yX9_in) := mG3 (i := 172) (by decide +kernel) rfl
theorem mw_3_173 : mGw (.code yX9_in cX9_in 4 (some .int)) := mG3 (i := 173) (by decide +kernel) rfl
theorem mw_6_222 : mGw (.methodLink RL 74 yX10_in) := mG6 (i := 222) (by decide +kernel) rfl
theorem mw_6_223 : mGw (.instanceMethod yX10_in) := mG6 (i := 223) (by decide +kernel) rfl
theorem mw_6_224 : mGw (.selects RX10 yX10_in yX10_in) := mG6 (i := 224) (by decide +kernel) rfl
theorem mw_6_225 : mGw (.code yX10_in cX10_in 4 (some .int)) := mG6 (i := 225) (by decide +kernel) rfl
theorem mw_3_182 : mGw (.methodLink RL 75 yX9_met) := mG3 (i := 182) (by decide +kernel) rfl
theorem mw_3_183 : mGw (.instanceMethod yX9_met) := mG3 (i := 183) (by decide +kernel) rfl
theorem mw_3_184 : mGw (.selects RX9 yX9_met yX9_met) := mG3 (i := 184) (by decide +kernel) rfl
theorem mw_3_185 : mGw (.code yX9_met cX9_met 3 (some .int)) := mG3 (i := 185) (by decide +kernel) rfl
theorem mw_6_234 : mGw (.methodLink RL 78 yX10_met) := mG6 (i := 234) (by decide +kernel) rfl
theorem mw_6_235 : mGw (.instanceMethod yX10_met) := mG6 (i := 235) (by decide +kernel) rfl
theorem mw_6_236 : mGw (.selects RX10 yX10_met yX10_met) := mG6 (i := 236) (by decide +kernel) rfl
theorem mw_6_237 : mGw (.code yX10_met cX10_met 4 (some .int)) := mG6 (i := 237) (by decide +kernel) rfl
theorem mw_3_210 : mGw (.methodLink RL 79 yX9_plan) := mG3 (i := 210) (by decide +kernel) rfl
theorem mw_3_211 : mGw (.instanceMethod yX9_plan) := mG3 (i := 211) (by decide +kernel) rfl
theorem mw_3_212 : mGw (.selects RX9 yX9_plan yX9_plan) := mG3 (i := 212) (by decide +kernel) rfl
theorem mw_3_213 : mGw (.code yX9_plan cX9_plan 3 (some .int)) := mG3 (i := 213) (by decide +kernel) rfl
theorem mw_7_6 : mGw (.methodLink RL 82 yX10_plan) := mG7 (i := 6) (by decide +kernel) rfl
theorem mw_7_7 : mGw (.instanceMethod yX10_plan) := mG7 (i := 7) (by decide +kernel) rfl
theorem mw_7_8 : mGw (.selects RX10 yX10_plan yX10_plan) := mG7 (i := 8) (by decide +kernel) rfl
theorem mw_7_9 : mGw (.code yX10_plan cX10_plan 3 (some .int)) := mG7 (i := 9) (by decide +kernel) rfl
theorem mw_4_9 : mGw (.methodLink RL 83 yX9_planned) := mG4 (i := 9) (by decide +kernel) rfl
theorem mw_4_10 : mGw (.instanceMethod yX9_planned) := mG4 (i := 10) (by decide +kernel) rfl
theorem mw_4_11 : mGw (.selects RX9 yX9_planned yX9_planned) := mG4 (i := 11) (by decide +kernel) rfl
theorem mw_4_12 : mGw (.code yX9_planned cX9_planned 5 (some .int)) := mG4 (i := 12) (by decide +kernel) rfl
theorem mw_7_22 : mGw (.methodLink RL 86 yX10_planned) := mG7 (i := 22) (by decide +kernel) rfl
theorem mw_7_23 : mGw (.instanceMethod yX10_planned) := mG7 (i := 23) (by decide +kernel) rfl
theorem mw_7_24 : mGw (.selects RX10 yX10_planned yX10_planned) := mG7 (i := 24) (by decide +kernel) rfl
theorem mw_7_25 : mGw (.code yX10_planned cX10_planned 5 (some .int)) := mG7 (i := 25) (by decide +kernel) rfl
theorem mw_4_17 : mGw (.methodLink RL 87 yX9_judge) := mG4 (i := 17) (by decide +kernel) rfl
theorem mw_4_18 : mGw (.instanceMethod yX9_judge) := mG4 (i := 18) (by decide +kernel) rfl
theorem mw_4_19 : mGw (.selects RX9 yX9_judge yX9_judge) := mG4 (i := 19) (by decide +kernel) rfl
theorem mw_4_20 : mGw (.code yX9_judge cX9_judge 6 (some .int)) := mG4 (i := 20) (by decide +kernel) rfl
theorem mw_7_26 : mGw (.methodLink RL 90 yX10_judge) := mG7 (i := 26) (by decide +kernel) rfl
theorem mw_7_27 : mGw (.instanceMethod yX10_judge) := mG7 (i := 27) (by decide +kernel) rfl
theorem mw_7_28 : mGw (.selects RX10 yX10_judge yX10_judge) := mG7 (i := 28) (by decide +kernel) rfl
theorem mw_7_29 : mGw (.code yX10_judge cX10_judge 4 (some .int)) := mG7 (i := 29) (by decide +kernel) rfl
theorem mw_4_22 : mGw (.methodLink RL 91 yX9_program) := mG4 (i := 22) (by decide +kernel) rfl
theorem mw_4_23 : mGw (.instanceMethod yX9_program) := mG4 (i := 23) (by decide +kernel) rfl
theorem mw_4_24 : mGw (.selects RX9 yX9_program yX9_program) := mG4 (i := 24) (by decide +kernel) rfl
theorem mw_4_25 : mGw (.code yX9_program cX9_program 3 (some .int)) := mG4 (i := 25) (by decide +kernel) rfl
theorem mw_6_218 : mGw (.methodLink RL 94 yX10_program) := mG6 (i := 218) (by decide +kernel) rfl
theorem mw_6_219 : mGw (.instanceMethod yX10_program) := mG6 (i := 219) (by decide +kernel) rfl
theorem mw_6_220 : mGw (.selects RX10 yX10_program yX10_program) := mG6 (i := 220) (by decide +kernel) rfl
theorem mw_6_221 : mGw (.code yX10_program cX10_program 2 (some .int)) := mG6 (i := 221) (by decide +kernel) rfl
theorem mw_4_31 : mGw (.methodLink RL 95 yX9_gives) := mG4 (i := 31) (by decide +kernel) rfl
theorem mw_4_32 : mGw (.instanceMethod yX9_gives) := mG4 (i := 32) (by decide +kernel) rfl
theorem mw_4_33 : mGw (.selects RX9 yX9_gives yX9_gives) := mG4 (i := 33) (by decide +kernel) rfl
theorem mw_4_34 : mGw (.code yX9_gives cX9_gives 4 (some .int)) := mG4 (i := 34) (by decide +kernel) rfl
theorem mw_7_30 : mGw (.methodLink RL 98 yX10_gives) := mG7 (i := 30) (by decide +kernel) rfl
theorem mw_7_31 : mGw (.instanceMethod yX10_gives) := mG7 (i := 31) (by decide +kernel) rfl
theorem mw_7_32 : mGw (.selects RX10 yX10_gives yX10_gives) := mG7 (i := 32) (by decide +kernel) rfl
theorem mw_7_33 : mGw (.code yX10_gives cX10_gives 4 (some .int)) := mG7 (i := 33) (by decide +kernel) rfl
theorem mw_4_35 : mGw (.methodLink RL 99 yX9_rule) := mG4 (i := 35) (by decide +kernel) rfl
theorem mw_4_36 : mGw (.instanceMethod yX9_rule) := mG4 (i := 36) (by decide +kernel) rfl
theorem mw_4_37 : mGw (.selects RX9 yX9_rule yX9_rule) := mG4 (i := 37) (by decide +kernel) rfl
theorem mw_4_38 : mGw (.code yX9_rule cX9_rule 2 (some .int)) := mG4 (i := 38) (by decide +kernel) rfl
theorem mw_7_34 : mGw (.methodLink RL 102 yX10_rule) := mG7 (i := 34) (by decide +kernel) rfl
theorem mw_7_35 : mGw (.instanceMethod yX10_rule) := mG7 (i := 35) (by decide +kernel) rfl
theorem mw_7_36 : mGw (.selects RX10 yX10_rule yX10_rule) := mG7 (i := 36) (by decide +kernel) rfl
theorem mw_7_37 : mGw (.code yX10_rule cX10_rule 2 (some .int)) := mG7 (i := 37) (by decide +kernel) rfl
theorem mw_4_89 : mGw (.methodLink RL 103 yX9_ticks) := mG4 (i := 89) (by decide +kernel) rfl
theorem mw_4_90 : mGw (.instanceMethod yX9_ticks) := mG4 (i := 90) (by decide +kernel) rfl
theorem mw_4_91 : mGw (.selects RX9 yX9_ticks yX9_ticks) := mG4 (i := 91) (by decide +kernel) rfl
theorem mw_4_92 : mGw (.code yX9_ticks cX9_ticks 4 (some .int)) := mG4 (i := 92) (by decide +kernel) rfl
theorem mw_7_38 : mGw (.methodLink RL 106 yX10_ticks) := mG7 (i := 38) (by decide +kernel) rfl
theorem mw_7_39 : mGw (.instanceMethod yX10_ticks) := mG7 (i := 39) (by decide +kernel) rfl
theorem mw_7_40 : mGw (.selects RX10 yX10_ticks yX10_ticks) := mG7 (i := 40) (by decide +kernel) rfl
theorem mw_7_41 : mGw (.code yX10_ticks cX10_ticks 4 (some .int)) := mG7 (i := 41) (by decide +kernel) rfl
theorem mw_4_126 : mGw (.methodLink RL 107 yX9_report) := mG4 (i := 126) (by decide +kernel) rfl
theorem mw_4_127 : mGw (.instanceMethod yX9_report) := mG4 (i := 127) (by decide +kernel) rfl
theorem mw_4_128 : mGw (.selects RX9 yX9_report yX9_report) := mG4 (i := 128) (by decide +kernel) rfl
theorem mw_4_129 : mGw (.code yX9_report cX9_report 4 (some .int)) := mG4 (i := 129) (by decide +kernel) rfl
theorem mw_7_54 : mGw (.methodLink RL 111 yX10_report) := mG7 (i := 54) (by decide +kernel) rfl
theorem mw_7_55 : mGw (.instanceMethod yX10_report) := mG7 (i := 55) (by decide +kernel) rfl
theorem mw_7_56 : mGw (.selects RX10 yX10_report yX10_report) := mG7 (i := 56) (by decide +kernel) rfl
theorem mw_7_57 : mGw (.code yX10_report cX10_report 5 (some .int)) := mG7 (i := 57) (by decide +kernel) rfl
theorem mw_4_134 : mGw (.methodLink RL 112 yX9_believed) := mG4 (i := 134) (by decide +kernel) rfl
theorem mw_4_135 : mGw (.instanceMethod yX9_believed) := mG4 (i := 135) (by decide +kernel) rfl
theorem mw_4_136 : mGw (.selects RX9 yX9_believed yX9_believed) := mG4 (i := 136) (by decide +kernel) rfl
theorem mw_4_137 : mGw (.code yX9_believed cX9_believed 4 (some .int)) := mG4 (i := 137) (by decide +kernel) rfl
theorem mw_7_58 : mGw (.methodLink RL 115 yX10_believed) := mG7 (i := 58) (by decide +kernel) rfl
theorem mw_7_59 : mGw (.instanceMethod yX10_believed) := mG7 (i := 59) (by decide +kernel) rfl
theorem mw_7_60 : mGw (.selects RX10 yX10_believed yX10_believed) := mG7 (i := 60) (by decide +kernel) rfl
theorem mw_7_61 : mGw (.code yX10_believed cX10_believed 4 (some .int)) := mG7 (i := 61) (by decide +kernel) rfl
theorem mw_4_150 : mGw (.methodLink RL 116 yX9_wrong) := mG4 (i := 150) (by decide +kernel) rfl
theorem mw_4_151 : mGw (.instanceMethod yX9_wrong) := mG4 (i := 151) (by decide +kernel) rfl
theorem mw_4_152 : mGw (.selects RX9 yX9_wrong yX9_wrong) := mG4 (i := 152) (by decide +kernel) rfl
theorem mw_4_153 : mGw (.code yX9_wrong cX9_wrong 3 (some .int)) := mG4 (i := 153) (by decide +kernel) rfl
theorem mw_7_70 : mGw (.methodLink RL 119 yX10_wrong) := mG7 (i := 70) (by decide +kernel) rfl
theorem mw_7_71 : mGw (.instanceMethod yX10_wrong) := mG7 (i := 71) (by decide +kernel) rfl
theorem mw_7_72 : mGw (.selects RX10 yX10_wrong yX10_wrong) := mG7 (i := 72) (by decide +kernel) rfl
theorem mw_7_73 : mGw (.code yX10_wrong cX10_wrong 5 (some .int)) := mG7 (i := 73) (by decide +kernel) rfl
theorem mw_4_163 : mGw (.methodLink RL 120 yX9_image) := mG4 (i := 163) (by decide +kernel) rfl
theorem mw_4_164 : mGw (.instanceMethod yX9_image) := mG4 (i := 164) (by decide +kernel) rfl
theorem mw_4_165 : mGw (.selects RX9 yX9_image yX9_image) := mG4 (i := 165) (by decide +kernel) rfl
theorem mw_4_166 : mGw (.code yX9_image cX9_image 1 (some .int)) := mG4 (i := 166) (by decide +kernel) rfl
theorem mw_7_78 : mGw (.methodLink RL 123 yX10_image) := mG7 (i := 78) (by decide +kernel) rfl
theorem mw_7_79 : mGw (.instanceMethod yX10_image) := mG7 (i := 79) (by decide +kernel) rfl
theorem mw_7_80 : mGw (.selects RX10 yX10_image yX10_image) := mG7 (i := 80) (by decide +kernel) rfl
theorem mw_7_81 : mGw (.code yX10_image cX10_image 2 (some .int)) := mG7 (i := 81) (by decide +kernel) rfl
theorem mw_4_177 : mGw (.methodLink RL 124 yX9_restore) := mG4 (i := 177) (by decide +kernel) rfl
theorem mw_4_178 : mGw (.instanceMethod yX9_restore) := mG4 (i := 178) (by decide +kernel) rfl
theorem mw_4_179 : mGw (.selects RX9 yX9_restore yX9_restore) := mG4 (i := 179) (by decide +kernel) rfl
theorem mw_4_180 : mGw (.code yX9_restore cX9_restore 1 (some .int)) := mG4 (i := 180) (by decide +kernel) rfl
theorem mw_7_82 : mGw (.methodLink RL 127 yX10_restore) := mG7 (i := 82) (by decide +kernel) rfl
theorem mw_7_83 : mGw (.instanceMethod yX10_restore) := mG7 (i := 83) (by decide +kernel) rfl
theorem mw_7_84 : mGw (.selects RX10 yX10_restore yX10_restore) := mG7 (i := 84) (by decide +kernel) rfl
theorem mw_7_85 : mGw (.code yX10_restore cX10_restore 2 (some .int)) := mG7 (i := 85) (by decide +kernel) rfl
theorem mw_4_181 : mGw (.methodLink RL 128 yX9_count) := mG4 (i := 181) (by decide +kernel) rfl
theorem mw_4_182 : mGw (.instanceMethod yX9_count) := mG4 (i := 182) (by decide +kernel) rfl
theorem mw_4_183 : mGw (.selects RX9 yX9_count yX9_count) := mG4 (i := 183) (by decide +kernel) rfl
theorem mw_4_184 : mGw (.code yX9_count cX9_count 2 (some .int)) := mG4 (i := 184) (by decide +kernel) rfl
theorem mw_7_86 : mGw (.methodLink RL 131 yX10_count) := mG7 (i := 86) (by decide +kernel) rfl
theorem mw_7_87 : mGw (.instanceMethod yX10_count) := mG7 (i := 87) (by decide +kernel) rfl
theorem mw_7_88 : mGw (.selects RX10 yX10_count yX10_count) := mG7 (i := 88) (by decide +kernel) rfl
theorem mw_7_89 : mGw (.code yX10_count cX10_count 4 (some .int)) := mG7 (i := 89) (by decide +kernel) rfl
theorem mw_4_198 : mGw (.methodLink RL 132 yX9_keep) := mG4 (i := 198) (by decide +kernel) rfl
theorem mw_4_199 : mGw (.instanceMethod yX9_keep) := mG4 (i := 199) (by decide +kernel) rfl
theorem mw_4_200 : mGw (.selects RX9 yX9_keep yX9_keep) := mG4 (i := 200) (by decide +kernel) rfl
theorem mw_4_201 : mGw (.code yX9_keep cX9_keep 4 (some .int)) := mG4 (i := 201) (by decide +kernel) rfl
theorem mw_7_90 : mGw (.methodLink RL 135 yX10_keep) := mG7 (i := 90) (by decide +kernel) rfl
theorem mw_7_91 : mGw (.instanceMethod yX10_keep) := mG7 (i := 91) (by decide +kernel) rfl
theorem mw_7_92 : mGw (.selects RX10 yX10_keep yX10_keep) := mG7 (i := 92) (by decide +kernel) rfl
theorem mw_7_93 : mGw (.code yX10_keep cX10_keep 4 (some .int)) := mG7 (i := 93) (by decide +kernel) rfl
theorem mw_4_213 : mGw (.methodLink RL 136 yX9_row) := mG4 (i := 213) (by decide +kernel) rfl
theorem mw_4_214 : mGw (.instanceMethod yX9_row) := mG4 (i := 214) (by decide +kernel) rfl
theorem mw_4_215 : mGw (.selects RX9 yX9_row yX9_row) := mG4 (i := 215) (by decide +kernel) rfl
theorem mw_4_216 : mGw (.code yX9_row cX9_row 4 (some .int)) := mG4 (i := 216) (by decide +kernel) rfl
theorem mw_7_98 : mGw (.methodLink RL 139 yX10_row) := mG7 (i := 98) (by decide +kernel) rfl
theorem mw_7_99 : mGw (.instanceMethod yX10_row) := mG7 (i := 99) (by decide +kernel) rfl
theorem mw_7_100 : mGw (.selects RX10 yX10_row yX10_row) := mG7 (i := 100) (by decide +kernel) rfl
theorem mw_7_101 : mGw (.code yX10_row cX10_row 5 (some .int)) := mG7 (i := 101) (by decide +kernel) rfl
theorem mw_4_221 : mGw (.methodLink RL 140 yX9_put) := mG4 (i := 221) (by decide +kernel) rfl
theorem mw_4_222 : mGw (.instanceMethod yX9_put) := mG4 (i := 222) (by decide +kernel) rfl
theorem mw_4_223 : mGw (.selects RX9 yX9_put yX9_put) := mG4 (i := 223) (by decide +kernel) rfl
theorem mw_4_224 : mGw (.code yX9_put cX9_put 5 (some .int)) := mG4 (i := 224) (by decide +kernel) rfl
theorem mw_7_102 : mGw (.methodLink RL 143 yX10_put) := mG7 (i := 102) (by decide +kernel) rfl
theorem mw_7_103 : mGw (.instanceMethod yX10_put) := mG7 (i := 103) (by decide +kernel) rfl
theorem mw_7_104 : mGw (.selects RX10 yX10_put yX10_put) := mG7 (i := 104) (by decide +kernel) rfl
theorem mw_7_105 : mGw (.code yX10_put cX10_put 4 (some .int)) := mG7 (i := 105) (by decide +kernel) rfl
theorem mw_5_118 : mGw (.methodLink RL 144 yL_element) := mG5 (i := 118) (by decide +kernel) rfl
theorem mw_5_119 : mGw (.static yL_element) := mG5 (i := 119) (by decide +kernel) rfl
theorem mw_1_0 : mGw (.initialized RL) := mG1 (i := 0) (by decide +kernel) rfl
theorem mw_5_120 : mGw (.codeWith yL_element cL_element 5 (some .int) hhL) := mG5 (i := 120) (by decide +kernel) rfl
theorem mw_7_110 : mGw (.methodLink RL 149 yX10_element) := mG7 (i := 110) (by decide +kernel) rfl
theorem mw_7_111 : mGw (.instanceMethod yX10_element) := mG7 (i := 111) (by decide +kernel) rfl
theorem mw_7_112 : mGw (.selects RX10 yX10_element yX10_element) := mG7 (i := 112) (by decide +kernel) rfl
theorem mw_7_113 : mGw (.code yX10_element cX10_element 3 (some .long)) := mG7 (i := 113) (by decide +kernel) rfl
theorem mw_6_6 : mGw (.methodLink RL 150 yX10_thrown) := mG6 (i := 6) (by decide +kernel) rfl
theorem mw_6_7 : mGw (.instanceMethod yX10_thrown) := mG6 (i := 7) (by decide +kernel) rfl
theorem mw_6_8 : mGw (.selects RX10 yX10_thrown yX10_thrown) := mG6 (i := 8) (by decide +kernel) rfl
theorem mw_6_9 : mGw (.code yX10_thrown cX10_thrown 1 (some .int)) := mG6 (i := 9) (by decide +kernel) rfl
theorem mw_4_233 : mGw (.methodLink RL 153 yX9_copy) := mG4 (i := 233) (by decide +kernel) rfl
theorem mw_4_234 : mGw (.instanceMethod yX9_copy) := mG4 (i := 234) (by decide +kernel) rfl
theorem mw_4_235 : mGw (.selects RX9 yX9_copy yX9_copy) := mG4 (i := 235) (by decide +kernel) rfl
theorem mw_4_236 : mGw (.code yX9_copy cX9_copy 8 (some .int)) := mG4 (i := 236) (by decide +kernel) rfl
theorem mw_7_114 : mGw (.methodLink RL 157 yX10_copy) := mG7 (i := 114) (by decide +kernel) rfl
theorem mw_7_115 : mGw (.instanceMethod yX10_copy) := mG7 (i := 115) (by decide +kernel) rfl
theorem mw_7_116 : mGw (.selects RX10 yX10_copy yX10_copy) := mG7 (i := 116) (by decide +kernel) rfl
theorem mw_7_117 : mGw (.code yX10_copy cX10_copy 7 (some .int)) := mG7 (i := 117) (by decide +kernel) rfl
theorem mw_5_3 : mGw (.methodLink RL 158 yX9_sum) := mG5 (i := 3) (by decide +kernel) rfl
theorem mw_5_4 : mGw (.instanceMethod yX9_sum) := mG5 (i := 4) (by decide +kernel) rfl
theorem mw_5_5 : mGw (.selects RX9 yX9_sum yX9_sum) := mG5 (i := 5) (by decide +kernel) rfl
theorem mw_5_6 : mGw (.code yX9_sum cX9_sum 3 (some .int)) := mG5 (i := 6) (by decide +kernel) rfl
theorem mw_7_118 : mGw (.methodLink RL 161 yX10_sum) := mG7 (i := 118) (by decide +kernel) rfl
theorem mw_7_119 : mGw (.instanceMethod yX10_sum) := mG7 (i := 119) (by decide +kernel) rfl
theorem mw_7_120 : mGw (.selects RX10 yX10_sum yX10_sum) := mG7 (i := 120) (by decide +kernel) rfl
theorem mw_7_121 : mGw (.code yX10_sum cX10_sum 4 (some .int)) := mG7 (i := 121) (by decide +kernel) rfl
theorem mw_5_18 : mGw (.methodLink RL 162 yX9_toss) := mG5 (i := 18) (by decide +kernel) rfl
theorem mw_5_19 : mGw (.instanceMethod yX9_toss) := mG5 (i := 19) (by decide +kernel) rfl
theorem mw_5_20 : mGw (.selects RX9 yX9_toss yX9_toss) := mG5 (i := 20) (by decide +kernel) rfl
theorem mw_5_21 : mGw (.code yX9_toss cX9_toss 3 (some .int)) := mG5 (i := 21) (by decide +kernel) rfl
theorem mw_7_126 : mGw (.methodLink RL 165 yX10_toss) := mG7 (i := 126) (by decide +kernel) rfl
theorem mw_7_127 : mGw (.instanceMethod yX10_toss) := mG7 (i := 127) (by decide +kernel) rfl
theorem mw_7_128 : mGw (.selects RX10 yX10_toss yX10_toss) := mG7 (i := 128) (by decide +kernel) rfl
theorem mw_7_129 : mGw (.code yX10_toss cX10_toss 2 (some .int)) := mG7 (i := 129) (by decide +kernel) rfl
theorem hdV_X9_cube : yX9_cube.cls = RX9 ∧ yX9_cube.cls ≠ "java/lang/invoke/MethodHandle" ∧ yX9_cube.cls ≠ "java/lang/invoke/VarHandle" ∧ (parseMethodDescriptor yX9_cube.desc).map (fun d => d.parameters.length) = some 4 := ⟨rfl, by decide +kernel, by decide +kernel, by decide +kernel⟩
theorem hdV_X10_cube : yX10_cube.cls = RX10 ∧ yX10_cube.cls ≠ "java/lang/invoke/MethodHandle" ∧ yX10_cube.cls ≠ "java/lang/invoke/VarHandle" ∧ (parseMethodDescriptor yX10_cube.desc).map (fun d => d.parameters.length) = some 4 := ⟨rfl, by decide +kernel, by decide +kernel, by decide +kernel⟩
theorem hdV_X9_about : yX9_about.cls = RX9 ∧ yX9_about.cls ≠ "java/lang/invoke/MethodHandle" ∧ yX9_about.cls ≠ "java/lang/invoke/VarHandle" ∧ (parseMethodDescriptor yX9_about.desc).map (fun d => d.parameters.length) = some 2 := ⟨rfl, by decide +kernel, by decide +kernel, by decide +kernel⟩
theorem hdV_X10_about : yX10_about.cls = RX10 ∧ yX10_about.cls ≠ "java/lang/invoke/MethodHandle" ∧ yX10_about.cls ≠ "java/lang/invoke/VarHandle" ∧ (parseMethodDescriptor yX10_about.desc).map (fun d => d.parameters.length) = some 2 := ⟨rfl, by decide +kernel, by decide +kernel, by decide +kernel⟩
theorem hdV_X9_at : yX9_at.cls = RX9 ∧ yX9_at.cls ≠ "java/lang/invoke/MethodHandle" ∧ yX9_at.cls ≠ "java/lang/invoke/VarHandle" ∧ (parseMethodDescriptor yX9_at.desc).map (fun d => d.parameters.length) = some 2 := ⟨rfl, by decide +kernel, by decide +kernel, by decide +kernel⟩
theorem hdV_X10_at : yX10_at.cls = RX10 ∧ yX10_at.cls ≠ "java/lang/invoke/MethodHandle" ∧ yX10_at.cls ≠ "java/lang/invoke/VarHandle" ∧ (parseMethodDescriptor yX10_at.desc).map (fun d => d.parameters.length) = some 2 := ⟨rfl, by decide +kernel, by decide +kernel, by decide +kernel⟩
theorem hdV_X9_dead : yX9_dead.cls = RX9 ∧ yX9_dead.cls ≠ "java/lang/invoke/MethodHandle" ∧ yX9_dead.cls ≠ "java/lang/invoke/VarHandle" ∧ (parseMethodDescriptor yX9_dead.desc).map (fun d => d.parameters.length) = some 2 := ⟨rfl, by decide +kernel, by decide +kernel, by decide +kernel⟩
theorem hdV_X10_dead : yX10_dead.cls = RX10 ∧ yX10_dead.cls ≠ "java/lang/invoke/MethodHandle" ∧ yX10_dead.cls ≠ "java/lang/invoke/VarHandle" ∧ (parseMethodDescriptor yX10_dead.desc).map (fun d => d.parameters.length) = some 2 := ⟨rfl, by decide +kernel, by decide +kernel, by decide +kernel⟩
theorem hdV_X9_charge : yX9_charge.cls = RX9 ∧ yX9_charge.cls ≠ "java/lang/invoke/MethodHandle" ∧ yX9_charge.cls ≠ "java/lang/invoke/VarHandle" ∧ (parseMethodDescriptor yX9_charge.desc).map (fun d => d.parameters.length) = some 2 := ⟨rfl, by decide +kernel, by decide +kernel, by decide +kernel⟩
theorem hdV_X10_charge : yX10_charge.cls = RX10 ∧ yX10_charge.cls ≠ "java/lang/invoke/MethodHandle" ∧ yX10_charge.cls ≠ "java/lang/invoke/VarHandle" ∧ (parseMethodDescriptor yX10_charge.desc).map (fun d => d.parameters.length) = some 2 := ⟨rfl, by decide +kernel, by decide +kernel, by decide +kernel⟩
theorem hdV_X9_can : yX9_can.cls = RX9 ∧ yX9_can.cls ≠ "java/lang/invoke/MethodHandle" ∧ yX9_can.cls ≠ "java/lang/invoke/VarHandle" ∧ (parseMethodDescriptor yX9_can.desc).map (fun d => d.parameters.length) = some 1 := ⟨rfl, by decide +kernel, by decide +kernel, by decide +kernel⟩
theorem hdV_X10_can : yX10_can.cls = RX10 ∧ yX10_can.cls ≠ "java/lang/invoke/MethodHandle" ∧ yX10_can.cls ≠ "java/lang/invoke/VarHandle" ∧ (parseMethodDescriptor yX10_can.desc).map (fun d => d.parameters.length) = some 1 := ⟨rfl, by decide +kernel, by decide +kernel, by decide +kernel⟩
theorem hdV_X9_move : yX9_move.cls = RX9 ∧ yX9_move.cls ≠ "java/lang/invoke/MethodHandle" ∧ yX9_move.cls ≠ "java/lang/invoke/VarHandle" ∧ (parseMethodDescriptor yX9_move.desc).map (fun d => d.parameters.length) = some 1 := ⟨rfl, by decide +kernel, by decide +kernel, by decide +kernel⟩
theorem hdV_X10_move : yX10_move.cls = RX10 ∧ yX10_move.cls ≠ "java/lang/invoke/MethodHandle" ∧ yX10_move.cls ≠ "java/lang/invoke/VarHandle" ∧ (parseMethodDescriptor yX10_move.desc).map (fun d => d.parameters.length) = some 1 := ⟨rfl, by decide +kernel, by decide +kernel, by decide +kernel⟩
theorem hdV_X9_moves : yX9_moves.cls = RX9 ∧ yX9_moves.cls ≠ "java/lang/invoke/MethodHandle" ∧ yX9_moves.cls ≠ "java/lang/invoke/VarHandle" ∧ (parseMethodDescriptor yX9_moves.desc).map (fun d => d.parameters.length) = some 0 := ⟨rfl, by decide +kernel, by decide +kernel, by decide +kernel⟩
theorem hdV_X10_moves : yX10_moves.cls = RX10 ∧ yX10_moves.cls ≠ "java/lang/invoke/MethodHandle" ∧ yX10_moves.cls ≠ "java/lang/invoke/VarHandle" ∧ (parseMethodDescriptor yX10_moves.desc).map (fun d => d.parameters.length) = some 0 := ⟨rfl, by decide +kernel, by decide +kernel, by decide +kernel⟩
theorem hdV_X9_broken : yX9_broken.cls = RX9 ∧ yX9_broken.cls ≠ "java/lang/invoke/MethodHandle" ∧ yX9_broken.cls ≠ "java/lang/invoke/VarHandle" ∧ (parseMethodDescriptor yX9_broken.desc).map (fun d => d.parameters.length) = some 0 := ⟨rfl, by decide +kernel, by decide +kernel, by decide +kernel⟩
theorem hdV_X10_broken : yX10_broken.cls = RX10 ∧ yX10_broken.cls ≠ "java/lang/invoke/MethodHandle" ∧ yX10_broken.cls ≠ "java/lang/invoke/VarHandle" ∧ (parseMethodDescriptor yX10_broken.desc).map (fun d => d.parameters.length) = some 0 := ⟨rfl, by decide +kernel, by decide +kernel, by decide +kernel⟩
theorem hdV_X9_fault : yX9_fault.cls = RX9 ∧ yX9_fault.cls ≠ "java/lang/invoke/MethodHandle" ∧ yX9_fault.cls ≠ "java/lang/invoke/VarHandle" ∧ (parseMethodDescriptor yX9_fault.desc).map (fun d => d.parameters.length) = some 2 := ⟨rfl, by decide +kernel, by decide +kernel, by decide +kernel⟩
theorem hdV_X10_fault : yX10_fault.cls = RX10 ∧ yX10_fault.cls ≠ "java/lang/invoke/MethodHandle" ∧ yX10_fault.cls ≠ "java/lang/invoke/VarHandle" ∧ (parseMethodDescriptor yX10_fault.desc).map (fun d => d.parameters.length) = some 2 := ⟨rfl, by decide +kernel, by decide +kernel, by decide +kernel⟩
theorem hdV_X9_shape : yX9_shape.cls = RX9 ∧ yX9_shape.cls ≠ "java/lang/invoke/MethodHandle" ∧ yX9_shape.cls ≠ "java/lang/invoke/VarHandle" ∧ (parseMethodDescriptor yX9_shape.desc).map (fun d => d.parameters.length) = some 1 := ⟨rfl, by decide +kernel, by decide +kernel, by decide +kernel⟩
theorem hdV_X10_shape : yX10_shape.cls = RX10 ∧ yX10_shape.cls ≠ "java/lang/invoke/MethodHandle" ∧ yX10_shape.cls ≠ "java/lang/invoke/VarHandle" ∧ (parseMethodDescriptor yX10_shape.desc).map (fun d => d.parameters.length) = some 1 := ⟨rfl, by decide +kernel, by decide +kernel, by decide +kernel⟩
theorem hdV_X9_in : yX9_in.cls = RX9 ∧ yX9_in.cls ≠ "java/lang/invoke/MethodHandle" ∧ yX9_in.cls ≠ "java/lang/invoke/VarHandle" ∧ (parseMethodDescriptor yX9_in.desc).map (fun d => d.parameters.length) = some 3 := ⟨rfl, by decide +kernel, by decide +kernel, by decide +kernel⟩
theorem hdV_X10_in : yX10_in.cls = RX10 ∧ yX10_in.cls ≠ "java/lang/invoke/MethodHandle" ∧ yX10_in.cls ≠ "java/lang/invoke/VarHandle" ∧ (parseMethodDescriptor yX10_in.desc).map (fun d => d.parameters.length) = some 3 := ⟨rfl, by decide +kernel, by decide +kernel, by decide +kernel⟩
theorem hdV_X9_met : yX9_met.cls = RX9 ∧ yX9_met.cls ≠ "java/lang/invoke/MethodHandle" ∧ yX9_met.cls ≠ "java/lang/invoke/VarHandle" ∧ (parseMethodDescriptor yX9_met.desc).map (fun d => d.parameters.length) = some 2 := ⟨rfl, by decide +kernel, by decide +kernel, by decide +kernel⟩
theorem hdV_X10_met : yX10_met.cls = RX10 ∧ yX10_met.cls ≠ "java/lang/invoke/MethodHandle" ∧ yX10_met.cls ≠ "java/lang/invoke/VarHandle" ∧ (parseMethodDescriptor yX10_met.desc).map (fun d => d.parameters.length) = some 2 := ⟨rfl, by decide +kernel, by decide +kernel, by decide +kernel⟩
theorem hdV_X9_plan : yX9_plan.cls = RX9 ∧ yX9_plan.cls ≠ "java/lang/invoke/MethodHandle" ∧ yX9_plan.cls ≠ "java/lang/invoke/VarHandle" ∧ (parseMethodDescriptor yX9_plan.desc).map (fun d => d.parameters.length) = some 2 := ⟨rfl, by decide +kernel, by decide +kernel, by decide +kernel⟩
theorem hdV_X10_plan : yX10_plan.cls = RX10 ∧ yX10_plan.cls ≠ "java/lang/invoke/MethodHandle" ∧ yX10_plan.cls ≠ "java/lang/invoke/VarHandle" ∧ (parseMethodDescriptor yX10_plan.desc).map (fun d => d.parameters.length) = some 2 := ⟨rfl, by decide +kernel, by decide +kernel, by decide +kernel⟩
theorem hdV_X9_planned : yX9_planned.cls = RX9 ∧ yX9_planned.cls ≠ "java/lang/invoke/MethodHandle" ∧ yX9_planned.cls ≠ "java/lang/invoke/VarHandle" ∧ (parseMethodDescriptor yX9_planned.desc).map (fun d => d.parameters.length) = some 3 := ⟨rfl, by decide +kernel, by decide +kernel, by decide +kernel⟩
theorem hdV_X10_planned : yX10_planned.cls = RX10 ∧ yX10_planned.cls ≠ "java/lang/invoke/MethodHandle" ∧ yX10_planned.cls ≠ "java/lang/invoke/VarHandle" ∧ (parseMethodDescriptor yX10_planned.desc).map (fun d => d.parameters.length) = some 3 := ⟨rfl, by decide +kernel, by decide +kernel, by decide +kernel⟩
theorem hdV_X9_judge : yX9_judge.cls = RX9 ∧ yX9_judge.cls ≠ "java/lang/invoke/MethodHandle" ∧ yX9_judge.cls ≠ "java/lang/invoke/VarHandle" ∧ (parseMethodDescriptor yX9_judge.desc).map (fun d => d.parameters.length) = some 1 := ⟨rfl, by decide +kernel, by decide +kernel, by decide +kernel⟩
theorem hdV_X10_judge : yX10_judge.cls = RX10 ∧ yX10_judge.cls ≠ "java/lang/invoke/MethodHandle" ∧ yX10_judge.cls ≠ "java/lang/invoke/VarHandle" ∧ (parseMethodDescriptor yX10_judge.desc).map (fun d => d.parameters.length) = some 1 := ⟨rfl, by decide +kernel, by decide +kernel, by decide +kernel⟩
theorem hdV_X9_program : yX9_program.cls = RX9 ∧ yX9_program.cls ≠ "java/lang/invoke/MethodHandle" ∧ yX9_program.cls ≠ "java/lang/invoke/VarHandle" ∧ (parseMethodDescriptor yX9_program.desc).map (fun d => d.parameters.length) = some 1 := ⟨rfl, by decide +kernel, by decide +kernel, by decide +kernel⟩
theorem hdV_X10_program : yX10_program.cls = RX10 ∧ yX10_program.cls ≠ "java/lang/invoke/MethodHandle" ∧ yX10_program.cls ≠ "java/lang/invoke/VarHandle" ∧ (parseMethodDescriptor yX10_program.desc).map (fun d => d.parameters.length) = some 1 := ⟨rfl, by decide +kernel, by decide +kernel, by decide +kernel⟩
theorem hdV_X9_gives : yX9_gives.cls = RX9 ∧ yX9_gives.cls ≠ "java/lang/invoke/MethodHandle" ∧ yX9_gives.cls ≠ "java/lang/invoke/VarHandle" ∧ (parseMethodDescriptor yX9_gives.desc).map (fun d => d.parameters.length) = some 2 := ⟨rfl, by decide +kernel, by decide +kernel, by decide +kernel⟩
theorem hdV_X10_gives : yX10_gives.cls = RX10 ∧ yX10_gives.cls ≠ "java/lang/invoke/MethodHandle" ∧ yX10_gives.cls ≠ "java/lang/invoke/VarHandle" ∧ (parseMethodDescriptor yX10_gives.desc).map (fun d => d.parameters.length) = some 2 := ⟨rfl, by decide +kernel, by decide +kernel, by decide +kernel⟩
theorem hdV_X9_rule : yX9_rule.cls = RX9 ∧ yX9_rule.cls ≠ "java/lang/invoke/MethodHandle" ∧ yX9_rule.cls ≠ "java/lang/invoke/VarHandle" ∧ (parseMethodDescriptor yX9_rule.desc).map (fun d => d.parameters.length) = some 1 := ⟨rfl, by decide +kernel, by decide +kernel, by decide +kernel⟩
theorem hdV_X10_rule : yX10_rule.cls = RX10 ∧ yX10_rule.cls ≠ "java/lang/invoke/MethodHandle" ∧ yX10_rule.cls ≠ "java/lang/invoke/VarHandle" ∧ (parseMethodDescriptor yX10_rule.desc).map (fun d => d.parameters.length) = some 1 := ⟨rfl, by decide +kernel, by decide +kernel, by decide +kernel⟩
theorem hdV_X9_ticks : yX9_ticks.cls = RX9 ∧ yX9_ticks.cls ≠ "java/lang/invoke/MethodHandle" ∧ yX9_ticks.cls ≠ "java/lang/invoke/VarHandle" ∧ (parseMethodDescriptor yX9_ticks.desc).map (fun d => d.parameters.length) = some 1 := ⟨rfl, by decide +kernel, by decide +kernel, by decide +kernel⟩
theorem hdV_X10_ticks : yX10_ticks.cls = RX10 ∧ yX10_ticks.cls ≠ "java/lang/invoke/MethodHandle" ∧ yX10_ticks.cls ≠ "java/lang/invoke/VarHandle" ∧ (parseMethodDescriptor yX10_ticks.desc).map (fun d => d.parameters.length) = some 1 := ⟨rfl, by decide +kernel, by decide +kernel, by decide +kernel⟩
theorem hdV_X9_report : yX9_report.cls = RX9 ∧ yX9_report.cls ≠ "java/lang/invoke/MethodHandle" ∧ yX9_report.cls ≠ "java/lang/invoke/VarHandle" ∧ (parseMethodDescriptor yX9_report.desc).map (fun d => d.parameters.length) = some 3 := ⟨rfl, by decide +kernel, by decide +kernel, by decide +kernel⟩
theorem hdV_X10_report : yX10_report.cls = RX10 ∧ yX10_report.cls ≠ "java/lang/invoke/MethodHandle" ∧ yX10_report.cls ≠ "java/lang/invoke/VarHandle" ∧ (parseMethodDescriptor yX10_report.desc).map (fun d => d.parameters.length) = some 3 := ⟨rfl, by decide +kernel, by decide +kernel, by decide +kernel⟩
theorem hdV_X9_believed : yX9_believed.cls = RX9 ∧ yX9_believed.cls ≠ "java/lang/invoke/MethodHandle" ∧ yX9_believed.cls ≠ "java/lang/invoke/VarHandle" ∧ (parseMethodDescriptor yX9_believed.desc).map (fun d => d.parameters.length) = some 3 := ⟨rfl, by decide +kernel, by decide +kernel, by decide +kernel⟩
theorem hdV_X10_believed : yX10_believed.cls = RX10 ∧ yX10_believed.cls ≠ "java/lang/invoke/MethodHandle" ∧ yX10_believed.cls ≠ "java/lang/invoke/VarHandle" ∧ (parseMethodDescriptor yX10_believed.desc).map (fun d => d.parameters.length) = some 3 := ⟨rfl, by decide +kernel, by decide +kernel, by decide +kernel⟩
theorem hdV_X9_wrong : yX9_wrong.cls = RX9 ∧ yX9_wrong.cls ≠ "java/lang/invoke/MethodHandle" ∧ yX9_wrong.cls ≠ "java/lang/invoke/VarHandle" ∧ (parseMethodDescriptor yX9_wrong.desc).map (fun d => d.parameters.length) = some 2 := ⟨rfl, by decide +kernel, by decide +kernel, by decide +kernel⟩
theorem hdV_X10_wrong : yX10_wrong.cls = RX10 ∧ yX10_wrong.cls ≠ "java/lang/invoke/MethodHandle" ∧ yX10_wrong.cls ≠ "java/lang/invoke/VarHandle" ∧ (parseMethodDescriptor yX10_wrong.desc).map (fun d => d.parameters.length) = some 2 := ⟨rfl, by decide +kernel, by decide +kernel, by decide +kernel⟩
theorem hdV_X9_image : yX9_image.cls = RX9 ∧ yX9_image.cls ≠ "java/lang/invoke/MethodHandle" ∧ yX9_image.cls ≠ "java/lang/invoke/VarHandle" ∧ (parseMethodDescriptor yX9_image.desc).map (fun d => d.parameters.length) = some 0 := ⟨rfl, by decide +kernel, by decide +kernel, by decide +kernel⟩
theorem hdV_X10_image : yX10_image.cls = RX10 ∧ yX10_image.cls ≠ "java/lang/invoke/MethodHandle" ∧ yX10_image.cls ≠ "java/lang/invoke/VarHandle" ∧ (parseMethodDescriptor yX10_image.desc).map (fun d => d.parameters.length) = some 0 := ⟨rfl, by decide +kernel, by decide +kernel, by decide +kernel⟩
theorem hdV_X9_restore : yX9_restore.cls = RX9 ∧ yX9_restore.cls ≠ "java/lang/invoke/MethodHandle" ∧ yX9_restore.cls ≠ "java/lang/invoke/VarHandle" ∧ (parseMethodDescriptor yX9_restore.desc).map (fun d => d.parameters.length) = some 0 := ⟨rfl, by decide +kernel, by decide +kernel, by decide +kernel⟩
theorem hdV_X10_restore : yX10_restore.cls = RX10 ∧ yX10_restore.cls ≠ "java/lang/invoke/MethodHandle" ∧ yX10_restore.cls ≠ "java/lang/invoke/VarHandle" ∧ (parseMethodDescriptor yX10_restore.desc).map (fun d => d.parameters.length) = some 0 := ⟨rfl, by decide +kernel, by decide +kernel, by decide +kernel⟩
theorem hdV_X9_count : yX9_count.cls = RX9 ∧ yX9_count.cls ≠ "java/lang/invoke/MethodHandle" ∧ yX9_count.cls ≠ "java/lang/invoke/VarHandle" ∧ (parseMethodDescriptor yX9_count.desc).map (fun d => d.parameters.length) = some 1 := ⟨rfl, by decide +kernel, by decide +kernel, by decide +kernel⟩
theorem hdV_X10_count : yX10_count.cls = RX10 ∧ yX10_count.cls ≠ "java/lang/invoke/MethodHandle" ∧ yX10_count.cls ≠ "java/lang/invoke/VarHandle" ∧ (parseMethodDescriptor yX10_count.desc).map (fun d => d.parameters.length) = some 1 := ⟨rfl, by decide +kernel, by decide +kernel, by decide +kernel⟩
theorem hdV_X9_keep : yX9_keep.cls = RX9 ∧ yX9_keep.cls ≠ "java/lang/invoke/MethodHandle" ∧ yX9_keep.cls ≠ "java/lang/invoke/VarHandle" ∧ (parseMethodDescriptor yX9_keep.desc).map (fun d => d.parameters.length) = some 3 := ⟨rfl, by decide +kernel, by decide +kernel, by decide +kernel⟩
theorem hdV_X10_keep : yX10_keep.cls = RX10 ∧ yX10_keep.cls ≠ "java/lang/invoke/MethodHandle" ∧ yX10_keep.cls ≠ "java/lang/invoke/VarHandle" ∧ (parseMethodDescriptor yX10_keep.desc).map (fun d => d.parameters.length) = some 3 := ⟨rfl, by decide +kernel, by decide +kernel, by decide +kernel⟩
theorem hdV_X9_row : yX9_row.cls = RX9 ∧ yX9_row.cls ≠ "java/lang/invoke/MethodHandle" ∧ yX9_row.cls ≠ "java/lang/invoke/VarHandle" ∧ (parseMethodDescriptor yX9_row.desc).map (fun d => d.parameters.length) = some 3 := ⟨rfl, by decide +kernel, by decide +kernel, by decide +kernel⟩
theorem hdV_X10_row : yX10_row.cls = RX10 ∧ yX10_row.cls ≠ "java/lang/invoke/MethodHandle" ∧ yX10_row.cls ≠ "java/lang/invoke/VarHandle" ∧ (parseMethodDescriptor yX10_row.desc).map (fun d => d.parameters.length) = some 3 := ⟨rfl, by decide +kernel, by decide +kernel, by decide +kernel⟩
theorem hdV_X9_put : yX9_put.cls = RX9 ∧ yX9_put.cls ≠ "java/lang/invoke/MethodHandle" ∧ yX9_put.cls ≠ "java/lang/invoke/VarHandle" ∧ (parseMethodDescriptor yX9_put.desc).map (fun d => d.parameters.length) = some 3 := ⟨rfl, by decide +kernel, by decide +kernel, by decide +kernel⟩
theorem hdV_X10_put : yX10_put.cls = RX10 ∧ yX10_put.cls ≠ "java/lang/invoke/MethodHandle" ∧ yX10_put.cls ≠ "java/lang/invoke/VarHandle" ∧ (parseMethodDescriptor yX10_put.desc).map (fun d => d.parameters.length) = some 3 := ⟨rfl, by decide +kernel, by decide +kernel, by decide +kernel⟩
theorem hdV_X10_element : yX10_element.cls = RX10 ∧ yX10_element.cls ≠ "java/lang/invoke/MethodHandle" ∧ yX10_element.cls ≠ "java/lang/invoke/VarHandle" ∧ (parseMethodDescriptor yX10_element.desc).map (fun d => d.parameters.length) = some 2 := ⟨rfl, by decide +kernel, by decide +kernel, by decide +kernel⟩
theorem hdV_X10_thrown : yX10_thrown.cls = RX10 ∧ yX10_thrown.cls ≠ "java/lang/invoke/MethodHandle" ∧ yX10_thrown.cls ≠ "java/lang/invoke/VarHandle" ∧ (parseMethodDescriptor yX10_thrown.desc).map (fun d => d.parameters.length) = some 0 := ⟨rfl, by decide +kernel, by decide +kernel, by decide +kernel⟩
theorem hdS_L_element : yL_element.cls ≠ "java/lang/invoke/MethodHandle" ∧ yL_element.cls ≠ "java/lang/invoke/VarHandle" ∧ (parseMethodDescriptor yL_element.desc).map (fun d => d.parameters.length) = some 4 := ⟨by decide +kernel, by decide +kernel, by decide +kernel⟩
theorem hdV_X9_copy : yX9_copy.cls = RX9 ∧ yX9_copy.cls ≠ "java/lang/invoke/MethodHandle" ∧ yX9_copy.cls ≠ "java/lang/invoke/VarHandle" ∧ (parseMethodDescriptor yX9_copy.desc).map (fun d => d.parameters.length) = some 5 := ⟨rfl, by decide +kernel, by decide +kernel, by decide +kernel⟩
theorem hdV_X10_copy : yX10_copy.cls = RX10 ∧ yX10_copy.cls ≠ "java/lang/invoke/MethodHandle" ∧ yX10_copy.cls ≠ "java/lang/invoke/VarHandle" ∧ (parseMethodDescriptor yX10_copy.desc).map (fun d => d.parameters.length) = some 5 := ⟨rfl, by decide +kernel, by decide +kernel, by decide +kernel⟩
theorem hdV_X9_sum : yX9_sum.cls = RX9 ∧ yX9_sum.cls ≠ "java/lang/invoke/MethodHandle" ∧ yX9_sum.cls ≠ "java/lang/invoke/VarHandle" ∧ (parseMethodDescriptor yX9_sum.desc).map (fun d => d.parameters.length) = some 1 := ⟨rfl, by decide +kernel, by decide +kernel, by decide +kernel⟩
theorem hdV_X10_sum : yX10_sum.cls = RX10 ∧ yX10_sum.cls ≠ "java/lang/invoke/MethodHandle" ∧ yX10_sum.cls ≠ "java/lang/invoke/VarHandle" ∧ (parseMethodDescriptor yX10_sum.desc).map (fun d => d.parameters.length) = some 1 := ⟨rfl, by decide +kernel, by decide +kernel, by decide +kernel⟩
theorem hdV_X10_toss : yX10_toss.cls = RX10 ∧ yX10_toss.cls ≠ "java/lang/invoke/MethodHandle" ∧ yX10_toss.cls ≠ "java/lang/invoke/VarHandle" ∧ (parseMethodDescriptor yX10_toss.desc).map (fun d => d.parameters.length) = some 1 := ⟨rfl, by decide +kernel, by decide +kernel, by decide +kernel⟩
theorem hdV_X9_toss : yX9_toss.cls = RX9 ∧ yX9_toss.cls ≠ "java/lang/invoke/MethodHandle" ∧ yX9_toss.cls ≠ "java/lang/invoke/VarHandle" ∧ (parseMethodDescriptor yX9_toss.desc).map (fun d => d.parameters.length) = some 1 := ⟨rfl, by decide +kernel, by decide +kernel, by decide +kernel⟩
theorem q_L_21_V : ∀ w ∈ wsV RL 21 RX9 yX9_cube [Cond.code yX9_cube cX9_cube 6 (some .int)], mGw w := w5 mw_2_70 mw_2_71 mw_2_72 mw_1_1 mw_2_73
theorem q_L_25_V : ∀ w ∈ wsV RL 25 RX10 yX10_cube [Cond.code yX10_cube cX10_cube 6 (some .int)], mGw w := w5 mw_6_10 mw_6_11 mw_6_12 mw_1_11 mw_6_13
theorem q_L_26_V : ∀ w ∈ wsV RL 26 RX9 yX9_about [Cond.code yX9_about cX9_about 3 (some .int)], mGw w := w5 mw_2_103 mw_2_104 mw_2_105 mw_1_1 mw_2_106
theorem q_L_30_V : ∀ w ∈ wsV RL 30 RX10 yX10_about [Cond.code yX10_about cX10_about 3 (some .int)], mGw w := w5 mw_6_42 mw_6_43 mw_6_44 mw_1_11 mw_6_45
theorem q_L_31_V : ∀ w ∈ wsV RL 31 RX9 yX9_at [Cond.code yX9_at cX9_at 4 (some .int)], mGw w := w5 mw_2_139 mw_2_140 mw_2_141 mw_1_1 mw_2_142
theorem q_L_34_V : ∀ w ∈ wsV RL 34 RX10 yX10_at [Cond.code yX10_at cX10_at 3 (some .int)], mGw w := w5 mw_6_74 mw_6_75 mw_6_76 mw_1_11 mw_6_77
theorem q_L_35_V : ∀ w ∈ wsV RL 35 RX9 yX9_dead [Cond.code yX9_dead cX9_dead 3 (some .int)], mGw w := w5 mw_2_143 mw_2_144 mw_2_145 mw_1_1 mw_2_146
theorem q_L_39_V : ∀ w ∈ wsV RL 39 RX10 yX10_dead [Cond.code yX10_dead cX10_dead 4 (some .int)], mGw w := w5 mw_6_78 mw_6_79 mw_6_80 mw_1_11 mw_6_81
theorem q_L_40_V : ∀ w ∈ wsV RL 40 RX9 yX9_charge [Cond.code yX9_charge cX9_charge 4 (some .int)], mGw w := w5 mw_2_151 mw_2_152 mw_2_153 mw_1_1 mw_2_154
theorem q_L_43_V : ∀ w ∈ wsV RL 43 RX10 yX10_charge [Cond.code yX10_charge cX10_charge 4 (some .int)], mGw w := w5 mw_6_82 mw_6_83 mw_6_84 mw_1_11 mw_6_85
theorem q_L_44_V : ∀ w ∈ wsV RL 44 RX9 yX9_can [Cond.code yX9_can cX9_can 2 (some .int)], mGw w := w5 mw_2_155 mw_2_156 mw_2_157 mw_1_1 mw_2_158
theorem q_L_48_V : ∀ w ∈ wsV RL 48 RX10 yX10_can [Cond.code yX10_can cX10_can 2 (some .int)], mGw w := w5 mw_6_86 mw_6_87 mw_6_88 mw_1_11 mw_6_89
theorem q_L_49_V : ∀ w ∈ wsV RL 49 RX9 yX9_move [Cond.code yX9_move cX9_move 3 (some .int)], mGw w := w5 mw_2_190 mw_2_191 mw_2_192 mw_1_1 mw_2_193
theorem q_L_52_V : ∀ w ∈ wsV RL 52 RX10 yX10_move [Cond.code yX10_move cX10_move 2 (some .int)], mGw w := w5 mw_6_126 mw_6_127 mw_6_128 mw_1_11 mw_6_129
theorem q_L_53_V : ∀ w ∈ wsV RL 53 RX9 yX9_moves [Cond.code yX9_moves cX9_moves 3 (some .int)], mGw w := w5 mw_2_202 mw_2_203 mw_2_204 mw_1_1 mw_2_205
theorem q_L_57_V : ∀ w ∈ wsV RL 57 RX10 yX10_moves [Cond.code yX10_moves cX10_moves 3 (some .int)], mGw w := w5 mw_6_134 mw_6_135 mw_6_136 mw_1_11 mw_6_137
theorem q_L_58_V : ∀ w ∈ wsV RL 58 RX9 yX9_broken [Cond.code yX9_broken cX9_broken 3 (some .int)], mGw w := w5 mw_2_206 mw_2_207 mw_2_208 mw_1_1 mw_2_209
theorem q_L_61_V : ∀ w ∈ wsV RL 61 RX10 yX10_broken [Cond.code yX10_broken cX10_broken 3 (some .int)], mGw w := w5 mw_6_138 mw_6_139 mw_6_140 mw_1_11 mw_6_141
theorem q_L_62_V : ∀ w ∈ wsV RL 62 RX9 yX9_fault [Cond.code yX9_fault cX9_fault 4 (some .int)], mGw w := w5 mw_2_211 mw_2_212 mw_2_213 mw_1_1 mw_2_214
theorem q_L_65_V : ∀ w ∈ wsV RL 65 RX10 yX10_fault [Cond.code yX10_fault cX10_fault 3 (some .int)], mGw w := w5 mw_6_142 mw_6_143 mw_6_144 mw_1_11 mw_6_145
theorem q_L_66_V : ∀ w ∈ wsV RL 66 RX9 yX9_shape [Cond.code yX9_shape cX9_shape 7 (some .int)], mGw w := w5 mw_3_162 mw_3_163 mw_3_164 mw_1_1 mw_3_165
theorem q_L_69_V : ∀ w ∈ wsV RL 69 RX10 yX10_shape [Cond.code yX10_shape cX10_shape 2 (some .int)], mGw w := w5 mw_6_210 mw_6_211 mw_6_212 mw_1_11 mw_6_213
theorem q_L_70_V : ∀ w ∈ wsV RL 70 RX9 yX9_in [Cond.code yX9_in cX9_in 4 (some .int)], mGw w := w5 mw_3_170 mw_3_171 mw_3_172 mw_1_1 mw_3_173
theorem q_L_74_V : ∀ w ∈ wsV RL 74 RX10 yX10_in [Cond.code yX10_in cX10_in 4 (some .int)], mGw w := w5 mw_6_222 mw_6_223 mw_6_224 mw_1_11 mw_6_225
theorem q_L_75_V : ∀ w ∈ wsV RL 75 RX9 yX9_met [Cond.code yX9_met cX9_met 3 (some .int)], mGw w := w5 mw_3_182 mw_3_183 mw_3_184 mw_1_1 mw_3_185
theorem q_L_78_V : ∀ w ∈ wsV RL 78 RX10 yX10_met [Cond.code yX10_met cX10_met 4 (some .int)], mGw w := w5 mw_6_234 mw_6_235 mw_6_236 mw_1_11 mw_6_237
theorem q_L_79_V : ∀ w ∈ wsV RL 79 RX9 yX9_plan [Cond.code yX9_plan cX9_plan 3 (some .int)], mGw w := w5 mw_3_210 mw_3_211 mw_3_212 mw_1_1 mw_3_213
theorem q_L_82_V : ∀ w ∈ wsV RL 82 RX10 yX10_plan [Cond.code yX10_plan cX10_plan 3 (some .int)], mGw w := w5 mw_7_6 mw_7_7 mw_7_8 mw_1_11 mw_7_9
theorem q_L_83_V : ∀ w ∈ wsV RL 83 RX9 yX9_planned [Cond.code yX9_planned cX9_planned 5 (some .int)], mGw w := w5 mw_4_9 mw_4_10 mw_4_11 mw_1_1 mw_4_12
theorem q_L_86_V : ∀ w ∈ wsV RL 86 RX10 yX10_planned [Cond.code yX10_planned cX10_planned 5 (some .int)], mGw w := w5 mw_7_22 mw_7_23 mw_7_24 mw_1_11 mw_7_25
theorem q_L_87_V : ∀ w ∈ wsV RL 87 RX9 yX9_judge [Cond.code yX9_judge cX9_judge 6 (some .int)], mGw w := w5 mw_4_17 mw_4_18 mw_4_19 mw_1_1 mw_4_20
theorem q_L_90_V : ∀ w ∈ wsV RL 90 RX10 yX10_judge [Cond.code yX10_judge cX10_judge 4 (some .int)], mGw w := w5 mw_7_26 mw_7_27 mw_7_28 mw_1_11 mw_7_29
theorem q_L_91_V : ∀ w ∈ wsV RL 91 RX9 yX9_program [Cond.code yX9_program cX9_program 3 (some .int)], mGw w := w5 mw_4_22 mw_4_23 mw_4_24 mw_1_1 mw_4_25
theorem q_L_94_V : ∀ w ∈ wsV RL 94 RX10 yX10_program [Cond.code yX10_program cX10_program 2 (some .int)], mGw w := w5 mw_6_218 mw_6_219 mw_6_220 mw_1_11 mw_6_221
theorem q_L_95_V : ∀ w ∈ wsV RL 95 RX9 yX9_gives [Cond.code yX9_gives cX9_gives 4 (some .int)], mGw w := w5 mw_4_31 mw_4_32 mw_4_33 mw_1_1 mw_4_34
theorem q_L_98_V : ∀ w ∈ wsV RL 98 RX10 yX10_gives [Cond.code yX10_gives cX10_gives 4 (some .int)], mGw w := w5 mw_7_30 mw_7_31 mw_7_32 mw_1_11 mw_7_33
theorem q_L_99_V : ∀ w ∈ wsV RL 99 RX9 yX9_rule [Cond.code yX9_rule cX9_rule 2 (some .int)], mGw w := w5 mw_4_35 mw_4_36 mw_4_37 mw_1_1 mw_4_38
theorem q_L_102_V : ∀ w ∈ wsV RL 102 RX10 yX10_rule [Cond.code yX10_rule cX10_rule 2 (some .int)], mGw w := w5 mw_7_34 mw_7_35 mw_7_36 mw_1_11 mw_7_37
theorem q_L_103_V : ∀ w ∈ wsV RL 103 RX9 yX9_ticks [Cond.code yX9_ticks cX9_ticks 4 (some .int)], mGw w := w5 mw_4_89 mw_4_90 mw_4_91 mw_1_1 mw_4_92
theorem q_L_106_V : ∀ w ∈ wsV RL 106 RX10 yX10_ticks [Cond.code yX10_ticks cX10_ticks 4 (some .int)], mGw w := w5 mw_7_38 mw_7_39 mw_7_40 mw_1_11 mw_7_41
theorem q_L_107_V : ∀ w ∈ wsV RL 107 RX9 yX9_report [Cond.code yX9_report cX9_report 4 (some .int)], mGw w := w5 mw_4_126 mw_4_127 mw_4_128 mw_1_1 mw_4_129
theorem q_L_111_V : ∀ w ∈ wsV RL 111 RX10 yX10_report [Cond.code yX10_report cX10_report 5 (some .int)], mGw w := w5 mw_7_54 mw_7_55 mw_7_56 mw_1_11 mw_7_57
theorem q_L_112_V : ∀ w ∈ wsV RL 112 RX9 yX9_believed [Cond.code yX9_believed cX9_believed 4 (some .int)], mGw w := w5 mw_4_134 mw_4_135 mw_4_136 mw_1_1 mw_4_137
theorem q_L_115_V : ∀ w ∈ wsV RL 115 RX10 yX10_believed [Cond.code yX10_believed cX10_believed 4 (some .int)], mGw w := w5 mw_7_58 mw_7_59 mw_7_60 mw_1_11 mw_7_61
theorem q_L_116_V : ∀ w ∈ wsV RL 116 RX9 yX9_wrong [Cond.code yX9_wrong cX9_wrong 3 (some .int)], mGw w := w5 mw_4_150 mw_4_151 mw_4_152 mw_1_1 mw_4_153
theorem q_L_119_V : ∀ w ∈ wsV RL 119 RX10 yX10_wrong [Cond.code yX10_wrong cX10_wrong 5 (some .int)], mGw w := w5 mw_7_70 mw_7_71 mw_7_72 mw_1_11 mw_7_73
theorem q_L_120_V : ∀ w ∈ wsV RL 120 RX9 yX9_image [Cond.code yX9_image cX9_image 1 (some .int)], mGw w := w5 mw_4_163 mw_4_164 mw_4_165 mw_1_1 mw_4_166
theorem q_L_123_V : ∀ w ∈ wsV RL 123 RX10 yX10_image [Cond.code yX10_image cX10_image 2 (some .int)], mGw w := w5 mw_7_78 mw_7_79 mw_7_80 mw_1_11 mw_7_81
theorem q_L_124_V : ∀ w ∈ wsV RL 124 RX9 yX9_restore [Cond.code yX9_restore cX9_restore 1 (some .int)], mGw w := w5 mw_4_177 mw_4_178 mw_4_179 mw_1_1 mw_4_180
theorem q_L_127_V : ∀ w ∈ wsV RL 127 RX10 yX10_restore [Cond.code yX10_restore cX10_restore 2 (some .int)], mGw w := w5 mw_7_82 mw_7_83 mw_7_84 mw_1_11 mw_7_85
theorem q_L_128_V : ∀ w ∈ wsV RL 128 RX9 yX9_count [Cond.code yX9_count cX9_count 2 (some .int)], mGw w := w5 mw_4_181 mw_4_182 mw_4_183 mw_1_1 mw_4_184
theorem q_L_131_V : ∀ w ∈ wsV RL 131 RX10 yX10_count [Cond.code yX10_count cX10_count 4 (some .int)], mGw w := w5 mw_7_86 mw_7_87 mw_7_88 mw_1_11 mw_7_89
theorem q_L_132_V : ∀ w ∈ wsV RL 132 RX9 yX9_keep [Cond.code yX9_keep cX9_keep 4 (some .int)], mGw w := w5 mw_4_198 mw_4_199 mw_4_200 mw_1_1 mw_4_201
theorem q_L_135_V : ∀ w ∈ wsV RL 135 RX10 yX10_keep [Cond.code yX10_keep cX10_keep 4 (some .int)], mGw w := w5 mw_7_90 mw_7_91 mw_7_92 mw_1_11 mw_7_93
theorem q_L_136_V : ∀ w ∈ wsV RL 136 RX9 yX9_row [Cond.code yX9_row cX9_row 4 (some .int)], mGw w := w5 mw_4_213 mw_4_214 mw_4_215 mw_1_1 mw_4_216
theorem q_L_139_V : ∀ w ∈ wsV RL 139 RX10 yX10_row [Cond.code yX10_row cX10_row 5 (some .int)], mGw w := w5 mw_7_98 mw_7_99 mw_7_100 mw_1_11 mw_7_101
theorem q_L_140_V : ∀ w ∈ wsV RL 140 RX9 yX9_put [Cond.code yX9_put cX9_put 5 (some .int)], mGw w := w5 mw_4_221 mw_4_222 mw_4_223 mw_1_1 mw_4_224
theorem q_L_143_V : ∀ w ∈ wsV RL 143 RX10 yX10_put [Cond.code yX10_put cX10_put 4 (some .int)], mGw w := w5 mw_7_102 mw_7_103 mw_7_104 mw_1_11 mw_7_105
theorem q_LL_144_S : ∀ w ∈ va_wsS RL 144 yL_element [Cond.codeWith yL_element cL_element 5 (some .int) hhL], mGw w := w4 mw_5_118 mw_5_119 mw_1_0 mw_5_120
theorem q_L_149_V : ∀ w ∈ wsV RL 149 RX10 yX10_element [Cond.code yX10_element cX10_element 3 (some .long)], mGw w := w5 mw_7_110 mw_7_111 mw_7_112 mw_1_11 mw_7_113
theorem q_L_150_V : ∀ w ∈ wsV RL 150 RX10 yX10_thrown [Cond.code yX10_thrown cX10_thrown 1 (some .int)], mGw w := w5 mw_6_6 mw_6_7 mw_6_8 mw_1_11 mw_6_9
theorem q_L_153_V : ∀ w ∈ wsV RL 153 RX9 yX9_copy [Cond.code yX9_copy cX9_copy 8 (some .int)], mGw w := w5 mw_4_233 mw_4_234 mw_4_235 mw_1_1 mw_4_236
theorem q_L_157_V : ∀ w ∈ wsV RL 157 RX10 yX10_copy [Cond.code yX10_copy cX10_copy 7 (some .int)], mGw w := w5 mw_7_114 mw_7_115 mw_7_116 mw_1_11 mw_7_117
theorem q_L_158_V : ∀ w ∈ wsV RL 158 RX9 yX9_sum [Cond.code yX9_sum cX9_sum 3 (some .int)], mGw w := w5 mw_5_3 mw_5_4 mw_5_5 mw_1_1 mw_5_6
theorem q_L_161_V : ∀ w ∈ wsV RL 161 RX10 yX10_sum [Cond.code yX10_sum cX10_sum 4 (some .int)], mGw w := w5 mw_7_118 mw_7_119 mw_7_120 mw_1_11 mw_7_121
theorem q_L_162_V : ∀ w ∈ wsV RL 162 RX9 yX9_toss [Cond.code yX9_toss cX9_toss 3 (some .int)], mGw w := w5 mw_5_18 mw_5_19 mw_5_20 mw_1_1 mw_5_21
theorem q_L_165_V : ∀ w ∈ wsV RL 165 RX10 yX10_toss [Cond.code yX10_toss cX10_toss 2 (some .int)], mGw w := w5 mw_7_126 mw_7_127 mw_7_128 mw_1_11 mw_7_129
theorem law_lald {p : Program} {l : Launch} {e : Env} {R : Room} {s : State} {m : MethodId} {args : Array Value} {below : List Frame} {meth : Method} {c : Code} {H : Heap} {locs : List Loc} {cells slots : Nat} {Q : State → Prop} {cc : ByteArray} {pc k n : Nat} {ls : Array Slot} {rest : List Value} {X : mX} {M : mM} (hx : p.tables.exec = Jvm.exec) (hb : c.code = cc) (hR : mR X s H M) (hk : kd k = (12, n)) {j : Int32} (hin : mIn j n) {jn : Nat} (hj : j.toNatClampNeg = jn) (hdg : decode cc pc = .ok (.laload, 1)) (kk : W p l e R s m args below meth c H locs cells slots Q (F0 m (pc + 1) ls (.long (M.2.1 k jn) :: rest))) : W p l e R s m args below meth c H locs cells slots Q (F0 m pc ls (.int j :: .ref (X.1 k) :: rest)) := by
  subst hj
  exact va_lald hx hb hR.1 hR.2.1 k 2 (mW_e hk (by decide) (ent12 hk)) rfl hin hdg kk
theorem room_le {CB SB k : Nat} (hC : CB ≤ 500 ∧ SB ≤ 20000) (hk : k ≤ 600) : CB + k ≤ room_1.cells ∧ SB + 6 * k ≤ room_1.slots := by
  have h1 : room_1.cells = 601024 := rfl
  have h2 : room_1.slots = 7293034 := rfl
  omega
theorem room_le1 {CB SB k : Nat} (hC : CB ≤ 500 ∧ SB ≤ 20000) (hk : k ≤ 600) : CB + k + 1 ≤ room_1.cells ∧ SB + 6 * k + 6 ≤ room_1.slots := by
  have h1 : room_1.cells = 601024 := rfl
  have h2 : room_1.slots = 7293034 := rfl
  omega
theorem law_ld {p : Program} {l : Launch} {e : Env} {R : Room} {s : State} {m : MethodId} {args : Array Value} {below : List Frame} {meth : Method} {c : Code} {H : Heap} {locs : List Loc} {cells slots : Nat} {Q : State → Prop} {cc : ByteArray} {pc : Nat} {ls : Array Slot} {rest : List Value} {X : mX} (hx : p.tables.exec = Jvm.exec) (hb : c.code = cc) {b L : Nat} {xs : Nat → Int32} (hX : va_X b L xs s s.heap) (hbl : b < s.heap.size) (hbA : ¬ mL X b) (hS : va_S (mL X) s.heap H locs) {i v : Int32} (hin : vp_in i L) (hv : xs i.toNatClampNeg = v) (hdg : decode cc pc = .ok (.iaload, 1))
    (kk : W p l e R s m args below meth c H locs cells slots Q (F0 m (pc + 1) ls (.int v :: rest))) : W p l e R s m args below meth c H locs cells slots Q (F0 m pc ls (.int i :: .ref b :: rest)) := by
  subst hv
  exact va_sld hx hb hX hbl hbA hS hin hdg kk
def f_law_c0 (a1 : Int32) (a2 : Int32) (a3 : Int32) (a4 : Int32) (M : mM) : Option mM :=
  mbw (f_X9_cube a1 a2 a3 a4 M) fun v213 M213 =>
  mbw (f_X10_cube a1 a2 a3 a4 M213) fun v241 M241 =>
  if v213 = v241 then (some M241)
  else (none)
set_option maxRecDepth 100000 in
set_option maxHeartbeats 4000000 in
theorem w_law_c0 {p : Program} {e : Env} {s : State} {m : MethodId} {args : Array Value} {below : List Frame} {meth : Method} {c : Code} {l : Launch} {X : mX} {b L : Nat} {xs : Nat → Int32} {Q : State → Prop} (hlt : l.stackTraces = false) (hx : p.tables.exec = Jvm.exec) (hb : c.code = cL_law) (hml : c.maxLocals = 8) (hown : s.vm.findClass RL = some m.cls) (hF : mF X s s.heap) (hE : mE X s s.heap) (hX : va_X b L xs s s.heap) (hbl : b < s.heap.size) (hbA : ¬ mL X b) {i : Int32} {cells slots : Nat} (hcs0 : cells ≤ room_1.cells ∧ slots ≤ room_1.slots) (hcs : cells + 1 ≤ room_1.cells ∧ slots + 6 ≤ room_1.slots) (a1 : Int32) (a2 : Int32) (a3 : Int32) (a4 : Int32) (hi1 : vp_in (i + 1) L) (h1 : xs (i + 1).toNatClampNeg = a1) (hi2 : vp_in (i + 2) L) (h2 : xs (i + 2).toNatClampNeg = a2) (hi3 : vp_in (i + 3) L) (h3 : xs (i + 3).toNatClampNeg = a3) (hi4 : vp_in (i + 4) L) (h4 : xs (i + 4).toNatClampNeg = a4) {M M9 : mM} (h : f_law_c0 a1 a2 a3 a4 M = some M9) {H : Heap} {locs : List Loc} {ls : Array Slot} (hR : mR X s H M) (hS : va_S (mL X) s.heap H locs) (hl : lv_has ls 8 [(0, .ref b), (1, .ref (X.1 0)), (2, .ref (X.1 96)), (3, .ref (X.1 117)), (4, .int i)]) (kk : ∀ (H : Heap) (locs : List Loc) (ls : Array Slot), mR X s H M9 → va_S (mL X) s.heap H locs → lv_has ls 8 [(0, .ref b), (1, .ref (X.1 0)), (2, .ref (X.1 96)), (3, .ref (X.1 117)), (4, .int i)] → W p l e room_1 s m args below meth c H locs (cells + 1) (slots + 6) Q (F0 m 1399 ls [])) : W p l e room_1 s m args below meth c H locs cells slots Q (F0 m 188 ls []) := by
  refine lv_aload_n hx hb dL_law_188 rfl (lv_at hl 1 rfl) ?_
  refine lv_aload_n hx hb dL_law_189 rfl (lv_at hl 0 rfl) ?_
  refine lv_iload hx hb dL_law_190 (lv_at hl 4 rfl) ?_
  refine lv_iconst (v := 1) hx hb dL_law_192 (by decide) ?_
  refine lv_iadd hx hb dL_law_193 ?_
  refine law_ld hx hb hX hbl hbA hS hi1 h1 dL_law_194 ?_
  refine lv_aload_n hx hb dL_law_195 rfl (lv_at hl 0 rfl) ?_
  refine lv_iload hx hb dL_law_196 (lv_at hl 4 rfl) ?_
  refine lv_iconst (v := 2) hx hb dL_law_198 (by decide) ?_
  refine lv_iadd hx hb dL_law_199 ?_
  refine law_ld hx hb hX hbl hbA hS hi2 h2 dL_law_200 ?_
  refine lv_aload_n hx hb dL_law_201 rfl (lv_at hl 0 rfl) ?_
  refine lv_iload hx hb dL_law_202 (lv_at hl 4 rfl) ?_
  refine lv_iconst (v := 3) hx hb dL_law_204 (by decide) ?_
  refine lv_iadd hx hb dL_law_205 ?_
  refine law_ld hx hb hX hbl hbA hS hi3 h3 dL_law_206 ?_
  refine lv_aload_n hx hb dL_law_207 rfl (lv_at hl 0 rfl) ?_
  refine lv_iload hx hb dL_law_208 (lv_at hl 4 rfl) ?_
  refine lv_iconst (v := 4) hx hb dL_law_210 (by decide) ?_
  refine lv_iadd hx hb dL_law_211 ?_
  refine law_ld hx hb hX hbl hbA hS hi4 h4 dL_law_212 ?_
  obtain ⟨v213, M213, q213, h⟩ := mbw_e h
  refine m_cig (m_rVg hx hb hml hown hF hR hS (ent8 kd_0) kd_0 rfl (c_X9_cube l X a1 a2 a3 a4 M q213) q_L_21_V hdV_X9_cube ⟨Nat.le_of_ble_eq_true rfl, Nat.le_of_ble_eq_true rfl⟩ rfl hl.1 rfl (Nat.le_of_ble_eq_true rfl) dL_law_213 hcs0) hS (fun H locs hR hS => ?_)
  refine lv_aload_n hx hb dL_law_216 rfl (lv_at hl 2 rfl) ?_
  refine lv_aload_n hx hb dL_law_217 rfl (lv_at hl 0 rfl) ?_
  refine lv_iload hx hb dL_law_218 (lv_at hl 4 rfl) ?_
  refine lv_iconst (v := 1) hx hb dL_law_220 (by decide) ?_
  refine lv_iadd hx hb dL_law_221 ?_
  refine law_ld hx hb hX hbl hbA hS hi1 h1 dL_law_222 ?_
  refine lv_aload_n hx hb dL_law_223 rfl (lv_at hl 0 rfl) ?_
  refine lv_iload hx hb dL_law_224 (lv_at hl 4 rfl) ?_
  refine lv_iconst (v := 2) hx hb dL_law_226 (by decide) ?_
  refine lv_iadd hx hb dL_law_227 ?_
  refine law_ld hx hb hX hbl hbA hS hi2 h2 dL_law_228 ?_
  refine lv_aload_n hx hb dL_law_229 rfl (lv_at hl 0 rfl) ?_
  refine lv_iload hx hb dL_law_230 (lv_at hl 4 rfl) ?_
  refine lv_iconst (v := 3) hx hb dL_law_232 (by decide) ?_
  refine lv_iadd hx hb dL_law_233 ?_
  refine law_ld hx hb hX hbl hbA hS hi3 h3 dL_law_234 ?_
  refine lv_aload_n hx hb dL_law_235 rfl (lv_at hl 0 rfl) ?_
  refine lv_iload hx hb dL_law_236 (lv_at hl 4 rfl) ?_
  refine lv_iconst (v := 4) hx hb dL_law_238 (by decide) ?_
  refine lv_iadd hx hb dL_law_239 ?_
  refine law_ld hx hb hX hbl hbA hS hi4 h4 dL_law_240 ?_
  obtain ⟨v241, M241, q241, h⟩ := mbw_e h
  refine m_cig (m_rVg hx hb hml hown hF hR hS (ent9 kd_96) kd_96 rfl (c_X10_cube l X a1 a2 a3 a4 M213 q241) q_L_25_V hdV_X10_cube ⟨Nat.le_of_ble_eq_true rfl, Nat.le_of_ble_eq_true rfl⟩ rfl hl.1 rfl (Nat.le_of_ble_eq_true rfl) dL_law_241 hcs0) hS (fun H locs hR hS => ?_)
  refine lv_icmp_eq (tgt := 1399) hx hb dL_law_244 (by decide) (fun c244 => ?_) (fun c244 => ?_)
  · have h := mif_y h c244
    have h9 := Option.some.inj h
    subst h9
    refine W.widen (k := cells + 1) (n := slots + 6) (Nat.le_succ _) (Nat.le_add_right _ _) ?_
    exact kk H locs ls hR hS (lv_sub hl [0, 1, 2, 3, 4] rfl)
  · have h := mif_n h c244
    refine lv_iconst (v := 0) hx hb dL_law_247 (by decide) ?_
    exact absurd h (fun q => nomatch q)
def f_law_c1 (a1 : Int32) (a2 : Int32) (M : mM) : Option mM :=
  mbw (f_X9_about a1 a2 M) fun v262 M262 =>
  mbw (f_X10_about a1 a2 M262) fun v278 M278 =>
  if v262 = v278 then (some M278)
  else (none)
set_option maxRecDepth 100000 in
set_option maxHeartbeats 4000000 in
theorem w_law_c1 {p : Program} {e : Env} {s : State} {m : MethodId} {args : Array Value} {below : List Frame} {meth : Method} {c : Code} {l : Launch} {X : mX} {b L : Nat} {xs : Nat → Int32} {Q : State → Prop} (hlt : l.stackTraces = false) (hx : p.tables.exec = Jvm.exec) (hb : c.code = cL_law) (hml : c.maxLocals = 8) (hown : s.vm.findClass RL = some m.cls) (hF : mF X s s.heap) (hE : mE X s s.heap) (hX : va_X b L xs s s.heap) (hbl : b < s.heap.size) (hbA : ¬ mL X b) {i : Int32} {cells slots : Nat} (hcs0 : cells ≤ room_1.cells ∧ slots ≤ room_1.slots) (hcs : cells + 1 ≤ room_1.cells ∧ slots + 6 ≤ room_1.slots) (a1 : Int32) (a2 : Int32) (hi1 : vp_in (i + 1) L) (h1 : xs (i + 1).toNatClampNeg = a1) (hi2 : vp_in (i + 2) L) (h2 : xs (i + 2).toNatClampNeg = a2) {M M9 : mM} (h : f_law_c1 a1 a2 M = some M9) {H : Heap} {locs : List Loc} {ls : Array Slot} (hR : mR X s H M) (hS : va_S (mL X) s.heap H locs) (hl : lv_has ls 8 [(0, .ref b), (1, .ref (X.1 0)), (2, .ref (X.1 96)), (3, .ref (X.1 117)), (4, .int i)]) (kk : ∀ (H : Heap) (locs : List Loc) (ls : Array Slot), mR X s H M9 → va_S (mL X) s.heap H locs → lv_has ls 8 [(0, .ref b), (1, .ref (X.1 0)), (2, .ref (X.1 96)), (3, .ref (X.1 117)), (4, .int i)] → W p l e room_1 s m args below meth c H locs (cells + 1) (slots + 6) Q (F0 m 1399 ls [])) : W p l e room_1 s m args below meth c H locs cells slots Q (F0 m 249 ls []) := by
  refine lv_aload_n hx hb dL_law_249 rfl (lv_at hl 1 rfl) ?_
  refine lv_aload_n hx hb dL_law_250 rfl (lv_at hl 0 rfl) ?_
  refine lv_iload hx hb dL_law_251 (lv_at hl 4 rfl) ?_
  refine lv_iconst (v := 1) hx hb dL_law_253 (by decide) ?_
  refine lv_iadd hx hb dL_law_254 ?_
  refine law_ld hx hb hX hbl hbA hS hi1 h1 dL_law_255 ?_
  refine lv_aload_n hx hb dL_law_256 rfl (lv_at hl 0 rfl) ?_
  refine lv_iload hx hb dL_law_257 (lv_at hl 4 rfl) ?_
  refine lv_iconst (v := 2) hx hb dL_law_259 (by decide) ?_
  refine lv_iadd hx hb dL_law_260 ?_
  refine law_ld hx hb hX hbl hbA hS hi2 h2 dL_law_261 ?_
  obtain ⟨v262, M262, q262, h⟩ := mbw_e h
  refine m_cig (m_rVg hx hb hml hown hF hR hS (ent8 kd_0) kd_0 rfl (c_X9_about l X a1 a2 M q262) q_L_26_V hdV_X9_about ⟨Nat.le_of_ble_eq_true rfl, Nat.le_of_ble_eq_true rfl⟩ rfl hl.1 rfl (Nat.le_of_ble_eq_true rfl) dL_law_262 hcs0) hS (fun H locs hR hS => ?_)
  refine lv_aload_n hx hb dL_law_265 rfl (lv_at hl 2 rfl) ?_
  refine lv_aload_n hx hb dL_law_266 rfl (lv_at hl 0 rfl) ?_
  refine lv_iload hx hb dL_law_267 (lv_at hl 4 rfl) ?_
  refine lv_iconst (v := 1) hx hb dL_law_269 (by decide) ?_
  refine lv_iadd hx hb dL_law_270 ?_
  refine law_ld hx hb hX hbl hbA hS hi1 h1 dL_law_271 ?_
  refine lv_aload_n hx hb dL_law_272 rfl (lv_at hl 0 rfl) ?_
  refine lv_iload hx hb dL_law_273 (lv_at hl 4 rfl) ?_
  refine lv_iconst (v := 2) hx hb dL_law_275 (by decide) ?_
  refine lv_iadd hx hb dL_law_276 ?_
  refine law_ld hx hb hX hbl hbA hS hi2 h2 dL_law_277 ?_
  obtain ⟨v278, M278, q278, h⟩ := mbw_e h
  refine m_cig (m_rVg hx hb hml hown hF hR hS (ent9 kd_96) kd_96 rfl (c_X10_about l X a1 a2 M262 q278) q_L_30_V hdV_X10_about ⟨Nat.le_of_ble_eq_true rfl, Nat.le_of_ble_eq_true rfl⟩ rfl hl.1 rfl (Nat.le_of_ble_eq_true rfl) dL_law_278 hcs0) hS (fun H locs hR hS => ?_)
  refine lv_icmp_eq (tgt := 1399) hx hb dL_law_281 (by decide) (fun c281 => ?_) (fun c281 => ?_)
  · have h := mif_y h c281
    have h9 := Option.some.inj h
    subst h9
    refine W.widen (k := cells + 1) (n := slots + 6) (Nat.le_succ _) (Nat.le_add_right _ _) ?_
    exact kk H locs ls hR hS (lv_sub hl [0, 1, 2, 3, 4] rfl)
  · have h := mif_n h c281
    refine lv_iconst (v := 0) hx hb dL_law_284 (by decide) ?_
    exact absurd h (fun q => nomatch q)
def f_law_c2 (a1 : Int32) (a2 : Int32) (M : mM) : Option mM :=
  mbp (f_X9_at a1 a2 M) fun v299 =>
  mbp (f_X10_at a1 a2 M) fun v315 =>
  if v299 = v315 then (some M)
  else (none)
set_option maxRecDepth 100000 in
set_option maxHeartbeats 4000000 in
theorem w_law_c2 {p : Program} {e : Env} {s : State} {m : MethodId} {args : Array Value} {below : List Frame} {meth : Method} {c : Code} {l : Launch} {X : mX} {b L : Nat} {xs : Nat → Int32} {Q : State → Prop} (hlt : l.stackTraces = false) (hx : p.tables.exec = Jvm.exec) (hb : c.code = cL_law) (hml : c.maxLocals = 8) (hown : s.vm.findClass RL = some m.cls) (hF : mF X s s.heap) (hE : mE X s s.heap) (hX : va_X b L xs s s.heap) (hbl : b < s.heap.size) (hbA : ¬ mL X b) {i : Int32} {cells slots : Nat} (hcs0 : cells ≤ room_1.cells ∧ slots ≤ room_1.slots) (hcs : cells + 1 ≤ room_1.cells ∧ slots + 6 ≤ room_1.slots) (a1 : Int32) (a2 : Int32) (hi1 : vp_in (i + 1) L) (h1 : xs (i + 1).toNatClampNeg = a1) (hi2 : vp_in (i + 2) L) (h2 : xs (i + 2).toNatClampNeg = a2) {M M9 : mM} (h : f_law_c2 a1 a2 M = some M9) {H : Heap} {locs : List Loc} {ls : Array Slot} (hR : mR X s H M) (hS : va_S (mL X) s.heap H locs) (hl : lv_has ls 8 [(0, .ref b), (1, .ref (X.1 0)), (2, .ref (X.1 96)), (3, .ref (X.1 117)), (4, .int i)]) (kk : ∀ (H : Heap) (locs : List Loc) (ls : Array Slot), mR X s H M9 → va_S (mL X) s.heap H locs → lv_has ls 8 [(0, .ref b), (1, .ref (X.1 0)), (2, .ref (X.1 96)), (3, .ref (X.1 117)), (4, .int i)] → W p l e room_1 s m args below meth c H locs (cells + 1) (slots + 6) Q (F0 m 1399 ls [])) : W p l e room_1 s m args below meth c H locs cells slots Q (F0 m 286 ls []) := by
  refine lv_aload_n hx hb dL_law_286 rfl (lv_at hl 1 rfl) ?_
  refine lv_aload_n hx hb dL_law_287 rfl (lv_at hl 0 rfl) ?_
  refine lv_iload hx hb dL_law_288 (lv_at hl 4 rfl) ?_
  refine lv_iconst (v := 1) hx hb dL_law_290 (by decide) ?_
  refine lv_iadd hx hb dL_law_291 ?_
  refine law_ld hx hb hX hbl hbA hS hi1 h1 dL_law_292 ?_
  refine lv_aload_n hx hb dL_law_293 rfl (lv_at hl 0 rfl) ?_
  refine lv_iload hx hb dL_law_294 (lv_at hl 4 rfl) ?_
  refine lv_iconst (v := 2) hx hb dL_law_296 (by decide) ?_
  refine lv_iadd hx hb dL_law_297 ?_
  refine law_ld hx hb hX hbl hbA hS hi2 h2 dL_law_298 ?_
  obtain ⟨v299, q299, h⟩ := mbp_e h
  refine m_cig (m_rVg hx hb hml hown hF hR hS (ent8 kd_0) kd_0 rfl (c_X9_at l X a1 a2 M q299) q_L_31_V hdV_X9_at ⟨Nat.le_of_ble_eq_true rfl, Nat.le_of_ble_eq_true rfl⟩ rfl hl.1 rfl (Nat.le_of_ble_eq_true rfl) dL_law_299 hcs0) hS (fun H locs hR hS => ?_)
  refine lv_aload_n hx hb dL_law_302 rfl (lv_at hl 2 rfl) ?_
  refine lv_aload_n hx hb dL_law_303 rfl (lv_at hl 0 rfl) ?_
  refine lv_iload hx hb dL_law_304 (lv_at hl 4 rfl) ?_
  refine lv_iconst (v := 1) hx hb dL_law_306 (by decide) ?_
  refine lv_iadd hx hb dL_law_307 ?_
  refine law_ld hx hb hX hbl hbA hS hi1 h1 dL_law_308 ?_
  refine lv_aload_n hx hb dL_law_309 rfl (lv_at hl 0 rfl) ?_
  refine lv_iload hx hb dL_law_310 (lv_at hl 4 rfl) ?_
  refine lv_iconst (v := 2) hx hb dL_law_312 (by decide) ?_
  refine lv_iadd hx hb dL_law_313 ?_
  refine law_ld hx hb hX hbl hbA hS hi2 h2 dL_law_314 ?_
  obtain ⟨v315, q315, h⟩ := mbp_e h
  refine m_cig (m_rVg hx hb hml hown hF hR hS (ent9 kd_96) kd_96 rfl (c_X10_at l X a1 a2 M q315) q_L_34_V hdV_X10_at ⟨Nat.le_of_ble_eq_true rfl, Nat.le_of_ble_eq_true rfl⟩ rfl hl.1 rfl (Nat.le_of_ble_eq_true rfl) dL_law_315 hcs0) hS (fun H locs hR hS => ?_)
  refine lv_icmp_eq (tgt := 1399) hx hb dL_law_318 (by decide) (fun c318 => ?_) (fun c318 => ?_)
  · have h := mif_y h c318
    have h9 := Option.some.inj h
    subst h9
    refine W.widen (k := cells + 1) (n := slots + 6) (Nat.le_succ _) (Nat.le_add_right _ _) ?_
    exact kk H locs ls hR hS (lv_sub hl [0, 1, 2, 3, 4] rfl)
  · have h := mif_n h c318
    refine lv_iconst (v := 0) hx hb dL_law_321 (by decide) ?_
    exact absurd h (fun q => nomatch q)
def f_law_c3 (a1 : Int32) (a2 : Int32) (M : mM) : Option mM :=
  if a2 = 0 then (mbw (f_X9_dead a1 0 M) fun v344 M344 =>
  if a2 = 0 then (mbw (f_X10_dead a1 0 M344) fun v368 M368 =>
  if v344 = v368 then (some M368)
  else (none))
  else (mbw (f_X10_dead a1 1 M344) fun v368 M368 =>
  if v344 = v368 then (some M368)
  else (none)))
  else (mbw (f_X9_dead a1 1 M) fun v344 M344 =>
  if a2 = 0 then (mbw (f_X10_dead a1 0 M344) fun v368 M368 =>
  if v344 = v368 then (some M368)
  else (none))
  else (mbw (f_X10_dead a1 1 M344) fun v368 M368 =>
  if v344 = v368 then (some M368)
  else (none)))
set_option maxRecDepth 100000 in
set_option maxHeartbeats 4000000 in
theorem w_law_c3 {p : Program} {e : Env} {s : State} {m : MethodId} {args : Array Value} {below : List Frame} {meth : Method} {c : Code} {l : Launch} {X : mX} {b L : Nat} {xs : Nat → Int32} {Q : State → Prop} (hlt : l.stackTraces = false) (hx : p.tables.exec = Jvm.exec) (hb : c.code = cL_law) (hml : c.maxLocals = 8) (hown : s.vm.findClass RL = some m.cls) (hF : mF X s s.heap) (hE : mE X s s.heap) (hX : va_X b L xs s s.heap) (hbl : b < s.heap.size) (hbA : ¬ mL X b) {i : Int32} {cells slots : Nat} (hcs0 : cells ≤ room_1.cells ∧ slots ≤ room_1.slots) (hcs : cells + 1 ≤ room_1.cells ∧ slots + 6 ≤ room_1.slots) (a1 : Int32) (a2 : Int32) (hi1 : vp_in (i + 1) L) (h1 : xs (i + 1).toNatClampNeg = a1) (hi2 : vp_in (i + 2) L) (h2 : xs (i + 2).toNatClampNeg = a2) {M M9 : mM} (h : f_law_c3 a1 a2 M = some M9) {H : Heap} {locs : List Loc} {ls : Array Slot} (hR : mR X s H M) (hS : va_S (mL X) s.heap H locs) (hl : lv_has ls 8 [(0, .ref b), (1, .ref (X.1 0)), (2, .ref (X.1 96)), (3, .ref (X.1 117)), (4, .int i)]) (kk : ∀ (H : Heap) (locs : List Loc) (ls : Array Slot), mR X s H M9 → va_S (mL X) s.heap H locs → lv_has ls 8 [(0, .ref b), (1, .ref (X.1 0)), (2, .ref (X.1 96)), (3, .ref (X.1 117)), (4, .int i)] → W p l e room_1 s m args below meth c H locs (cells + 1) (slots + 6) Q (F0 m 1399 ls [])) : W p l e room_1 s m args below meth c H locs cells slots Q (F0 m 323 ls []) := by
  refine lv_aload_n hx hb dL_law_323 rfl (lv_at hl 1 rfl) ?_
  refine lv_aload_n hx hb dL_law_324 rfl (lv_at hl 0 rfl) ?_
  refine lv_iload hx hb dL_law_325 (lv_at hl 4 rfl) ?_
  refine lv_iconst (v := 1) hx hb dL_law_327 (by decide) ?_
  refine lv_iadd hx hb dL_law_328 ?_
  refine law_ld hx hb hX hbl hbA hS hi1 h1 dL_law_329 ?_
  refine lv_aload_n hx hb dL_law_330 rfl (lv_at hl 0 rfl) ?_
  refine lv_iload hx hb dL_law_331 (lv_at hl 4 rfl) ?_
  refine lv_iconst (v := 2) hx hb dL_law_333 (by decide) ?_
  refine lv_iadd hx hb dL_law_334 ?_
  refine law_ld hx hb hX hbl hbA hS hi2 h2 dL_law_335 ?_
  refine lv_if_eq (tgt := 343) hx hb dL_law_336 (by decide) (fun c336 => ?_) (fun c336 => ?_)
  · have h := mif_y h c336
    refine lv_iconst (v := 0) hx hb dL_law_343 (by decide) ?_
    obtain ⟨v344, M344, q344, h⟩ := mbw_e h
    refine m_cig (m_rVg hx hb hml hown hF hR hS (ent8 kd_0) kd_0 rfl (c_X9_dead l X a1 0 M q344) q_L_35_V hdV_X9_dead ⟨Nat.le_of_ble_eq_true rfl, Nat.le_of_ble_eq_true rfl⟩ rfl hl.1 rfl (Nat.le_of_ble_eq_true rfl) dL_law_344 hcs0) hS (fun H locs hR hS => ?_)
    refine lv_aload_n hx hb dL_law_347 rfl (lv_at hl 2 rfl) ?_
    refine lv_aload_n hx hb dL_law_348 rfl (lv_at hl 0 rfl) ?_
    refine lv_iload hx hb dL_law_349 (lv_at hl 4 rfl) ?_
    refine lv_iconst (v := 1) hx hb dL_law_351 (by decide) ?_
    refine lv_iadd hx hb dL_law_352 ?_
    refine law_ld hx hb hX hbl hbA hS hi1 h1 dL_law_353 ?_
    refine lv_aload_n hx hb dL_law_354 rfl (lv_at hl 0 rfl) ?_
    refine lv_iload hx hb dL_law_355 (lv_at hl 4 rfl) ?_
    refine lv_iconst (v := 2) hx hb dL_law_357 (by decide) ?_
    refine lv_iadd hx hb dL_law_358 ?_
    refine law_ld hx hb hX hbl hbA hS hi2 h2 dL_law_359 ?_
    refine lv_if_eq (tgt := 367) hx hb dL_law_360 (by decide) (fun c360 => ?_) (fun c360 => ?_)
    · have h := mif_y h c360
      refine lv_iconst (v := 0) hx hb dL_law_367 (by decide) ?_
      obtain ⟨v368, M368, q368, h⟩ := mbw_e h
      refine m_cig (m_rVg hx hb hml hown hF hR hS (ent9 kd_96) kd_96 rfl (c_X10_dead l X a1 0 M344 q368) q_L_39_V hdV_X10_dead ⟨Nat.le_of_ble_eq_true rfl, Nat.le_of_ble_eq_true rfl⟩ rfl hl.1 rfl (Nat.le_of_ble_eq_true rfl) dL_law_368 hcs0) hS (fun H locs hR hS => ?_)
      refine lv_icmp_eq (tgt := 1399) hx hb dL_law_371 (by decide) (fun c371 => ?_) (fun c371 => ?_)
      · have h := mif_y h c371
        have h9 := Option.some.inj h
        subst h9
        refine W.widen (k := cells + 1) (n := slots + 6) (Nat.le_succ _) (Nat.le_add_right _ _) ?_
        exact kk H locs ls hR hS (lv_sub hl [0, 1, 2, 3, 4] rfl)
      · have h := mif_n h c371
        refine lv_iconst (v := 0) hx hb dL_law_374 (by decide) ?_
        exact absurd h (fun q => nomatch q)
    · have h := mif_n h c360
      refine lv_iconst (v := 1) hx hb dL_law_363 (by decide) ?_
      refine lv_goto (tgt := 368) hx hb dL_law_364 (by decide) ?_
      obtain ⟨v368, M368, q368, h⟩ := mbw_e h
      refine m_cig (m_rVg hx hb hml hown hF hR hS (ent9 kd_96) kd_96 rfl (c_X10_dead l X a1 1 M344 q368) q_L_39_V hdV_X10_dead ⟨Nat.le_of_ble_eq_true rfl, Nat.le_of_ble_eq_true rfl⟩ rfl hl.1 rfl (Nat.le_of_ble_eq_true rfl) dL_law_368 hcs0) hS (fun H locs hR hS => ?_)
      refine lv_icmp_eq (tgt := 1399) hx hb dL_law_371 (by decide) (fun c371 => ?_) (fun c371 => ?_)
      · have h := mif_y h c371
        have h9 := Option.some.inj h
        subst h9
        refine W.widen (k := cells + 1) (n := slots + 6) (Nat.le_succ _) (Nat.le_add_right _ _) ?_
        exact kk H locs ls hR hS (lv_sub hl [0, 1, 2, 3, 4] rfl)
      · have h := mif_n h c371
        refine lv_iconst (v := 0) hx hb dL_law_374 (by decide) ?_
        exact absurd h (fun q => nomatch q)
  · have h := mif_n h c336
    refine lv_iconst (v := 1) hx hb dL_law_339 (by decide) ?_
    refine lv_goto (tgt := 344) hx hb dL_law_340 (by decide) ?_
    obtain ⟨v344, M344, q344, h⟩ := mbw_e h
    refine m_cig (m_rVg hx hb hml hown hF hR hS (ent8 kd_0) kd_0 rfl (c_X9_dead l X a1 1 M q344) q_L_35_V hdV_X9_dead ⟨Nat.le_of_ble_eq_true rfl, Nat.le_of_ble_eq_true rfl⟩ rfl hl.1 rfl (Nat.le_of_ble_eq_true rfl) dL_law_344 hcs0) hS (fun H locs hR hS => ?_)
    refine lv_aload_n hx hb dL_law_347 rfl (lv_at hl 2 rfl) ?_
    refine lv_aload_n hx hb dL_law_348 rfl (lv_at hl 0 rfl) ?_
    refine lv_iload hx hb dL_law_349 (lv_at hl 4 rfl) ?_
    refine lv_iconst (v := 1) hx hb dL_law_351 (by decide) ?_
    refine lv_iadd hx hb dL_law_352 ?_
    refine law_ld hx hb hX hbl hbA hS hi1 h1 dL_law_353 ?_
    refine lv_aload_n hx hb dL_law_354 rfl (lv_at hl 0 rfl) ?_
    refine lv_iload hx hb dL_law_355 (lv_at hl 4 rfl) ?_
    refine lv_iconst (v := 2) hx hb dL_law_357 (by decide) ?_
    refine lv_iadd hx hb dL_law_358 ?_
    refine law_ld hx hb hX hbl hbA hS hi2 h2 dL_law_359 ?_
    refine lv_if_eq (tgt := 367) hx hb dL_law_360 (by decide) (fun c360 => ?_) (fun c360 => ?_)
    · have h := mif_y h c360
      refine lv_iconst (v := 0) hx hb dL_law_367 (by decide) ?_
      obtain ⟨v368, M368, q368, h⟩ := mbw_e h
      refine m_cig (m_rVg hx hb hml hown hF hR hS (ent9 kd_96) kd_96 rfl (c_X10_dead l X a1 0 M344 q368) q_L_39_V hdV_X10_dead ⟨Nat.le_of_ble_eq_true rfl, Nat.le_of_ble_eq_true rfl⟩ rfl hl.1 rfl (Nat.le_of_ble_eq_true rfl) dL_law_368 hcs0) hS (fun H locs hR hS => ?_)
      refine lv_icmp_eq (tgt := 1399) hx hb dL_law_371 (by decide) (fun c371 => ?_) (fun c371 => ?_)
      · have h := mif_y h c371
        have h9 := Option.some.inj h
        subst h9
        refine W.widen (k := cells + 1) (n := slots + 6) (Nat.le_succ _) (Nat.le_add_right _ _) ?_
        exact kk H locs ls hR hS (lv_sub hl [0, 1, 2, 3, 4] rfl)
      · have h := mif_n h c371
        refine lv_iconst (v := 0) hx hb dL_law_374 (by decide) ?_
        exact absurd h (fun q => nomatch q)
    · have h := mif_n h c360
      refine lv_iconst (v := 1) hx hb dL_law_363 (by decide) ?_
      refine lv_goto (tgt := 368) hx hb dL_law_364 (by decide) ?_
      obtain ⟨v368, M368, q368, h⟩ := mbw_e h
      refine m_cig (m_rVg hx hb hml hown hF hR hS (ent9 kd_96) kd_96 rfl (c_X10_dead l X a1 1 M344 q368) q_L_39_V hdV_X10_dead ⟨Nat.le_of_ble_eq_true rfl, Nat.le_of_ble_eq_true rfl⟩ rfl hl.1 rfl (Nat.le_of_ble_eq_true rfl) dL_law_368 hcs0) hS (fun H locs hR hS => ?_)
      refine lv_icmp_eq (tgt := 1399) hx hb dL_law_371 (by decide) (fun c371 => ?_) (fun c371 => ?_)
      · have h := mif_y h c371
        have h9 := Option.some.inj h
        subst h9
        refine W.widen (k := cells + 1) (n := slots + 6) (Nat.le_succ _) (Nat.le_add_right _ _) ?_
        exact kk H locs ls hR hS (lv_sub hl [0, 1, 2, 3, 4] rfl)
      · have h := mif_n h c371
        refine lv_iconst (v := 0) hx hb dL_law_374 (by decide) ?_
        exact absurd h (fun q => nomatch q)
def f_law_c4 (a1 : Int32) (a2 : Int32) (M : mM) : Option mM :=
  mbw (f_X9_charge a1 a2 M) fun v389 M389 =>
  mbw (f_X10_charge a1 a2 M389) fun v405 M405 =>
  if v389 = v405 then (some M405)
  else (none)
set_option maxRecDepth 100000 in
set_option maxHeartbeats 4000000 in
theorem w_law_c4 {p : Program} {e : Env} {s : State} {m : MethodId} {args : Array Value} {below : List Frame} {meth : Method} {c : Code} {l : Launch} {X : mX} {b L : Nat} {xs : Nat → Int32} {Q : State → Prop} (hlt : l.stackTraces = false) (hx : p.tables.exec = Jvm.exec) (hb : c.code = cL_law) (hml : c.maxLocals = 8) (hown : s.vm.findClass RL = some m.cls) (hF : mF X s s.heap) (hE : mE X s s.heap) (hX : va_X b L xs s s.heap) (hbl : b < s.heap.size) (hbA : ¬ mL X b) {i : Int32} {cells slots : Nat} (hcs0 : cells ≤ room_1.cells ∧ slots ≤ room_1.slots) (hcs : cells + 1 ≤ room_1.cells ∧ slots + 6 ≤ room_1.slots) (a1 : Int32) (a2 : Int32) (hi1 : vp_in (i + 1) L) (h1 : xs (i + 1).toNatClampNeg = a1) (hi2 : vp_in (i + 2) L) (h2 : xs (i + 2).toNatClampNeg = a2) {M M9 : mM} (h : f_law_c4 a1 a2 M = some M9) {H : Heap} {locs : List Loc} {ls : Array Slot} (hR : mR X s H M) (hS : va_S (mL X) s.heap H locs) (hl : lv_has ls 8 [(0, .ref b), (1, .ref (X.1 0)), (2, .ref (X.1 96)), (3, .ref (X.1 117)), (4, .int i)]) (kk : ∀ (H : Heap) (locs : List Loc) (ls : Array Slot), mR X s H M9 → va_S (mL X) s.heap H locs → lv_has ls 8 [(0, .ref b), (1, .ref (X.1 0)), (2, .ref (X.1 96)), (3, .ref (X.1 117)), (4, .int i)] → W p l e room_1 s m args below meth c H locs (cells + 1) (slots + 6) Q (F0 m 1399 ls [])) : W p l e room_1 s m args below meth c H locs cells slots Q (F0 m 376 ls []) := by
  refine lv_aload_n hx hb dL_law_376 rfl (lv_at hl 1 rfl) ?_
  refine lv_aload_n hx hb dL_law_377 rfl (lv_at hl 0 rfl) ?_
  refine lv_iload hx hb dL_law_378 (lv_at hl 4 rfl) ?_
  refine lv_iconst (v := 1) hx hb dL_law_380 (by decide) ?_
  refine lv_iadd hx hb dL_law_381 ?_
  refine law_ld hx hb hX hbl hbA hS hi1 h1 dL_law_382 ?_
  refine lv_aload_n hx hb dL_law_383 rfl (lv_at hl 0 rfl) ?_
  refine lv_iload hx hb dL_law_384 (lv_at hl 4 rfl) ?_
  refine lv_iconst (v := 2) hx hb dL_law_386 (by decide) ?_
  refine lv_iadd hx hb dL_law_387 ?_
  refine law_ld hx hb hX hbl hbA hS hi2 h2 dL_law_388 ?_
  obtain ⟨v389, M389, q389, h⟩ := mbw_e h
  refine m_cig (m_rVg hx hb hml hown hF hR hS (ent8 kd_0) kd_0 rfl (c_X9_charge l X a1 a2 M q389) q_L_40_V hdV_X9_charge ⟨Nat.le_of_ble_eq_true rfl, Nat.le_of_ble_eq_true rfl⟩ rfl hl.1 rfl (Nat.le_of_ble_eq_true rfl) dL_law_389 hcs0) hS (fun H locs hR hS => ?_)
  refine lv_aload_n hx hb dL_law_392 rfl (lv_at hl 2 rfl) ?_
  refine lv_aload_n hx hb dL_law_393 rfl (lv_at hl 0 rfl) ?_
  refine lv_iload hx hb dL_law_394 (lv_at hl 4 rfl) ?_
  refine lv_iconst (v := 1) hx hb dL_law_396 (by decide) ?_
  refine lv_iadd hx hb dL_law_397 ?_
  refine law_ld hx hb hX hbl hbA hS hi1 h1 dL_law_398 ?_
  refine lv_aload_n hx hb dL_law_399 rfl (lv_at hl 0 rfl) ?_
  refine lv_iload hx hb dL_law_400 (lv_at hl 4 rfl) ?_
  refine lv_iconst (v := 2) hx hb dL_law_402 (by decide) ?_
  refine lv_iadd hx hb dL_law_403 ?_
  refine law_ld hx hb hX hbl hbA hS hi2 h2 dL_law_404 ?_
  obtain ⟨v405, M405, q405, h⟩ := mbw_e h
  refine m_cig (m_rVg hx hb hml hown hF hR hS (ent9 kd_96) kd_96 rfl (c_X10_charge l X a1 a2 M389 q405) q_L_43_V hdV_X10_charge ⟨Nat.le_of_ble_eq_true rfl, Nat.le_of_ble_eq_true rfl⟩ rfl hl.1 rfl (Nat.le_of_ble_eq_true rfl) dL_law_405 hcs0) hS (fun H locs hR hS => ?_)
  refine lv_icmp_eq (tgt := 1399) hx hb dL_law_408 (by decide) (fun c408 => ?_) (fun c408 => ?_)
  · have h := mif_y h c408
    have h9 := Option.some.inj h
    subst h9
    refine W.widen (k := cells + 1) (n := slots + 6) (Nat.le_succ _) (Nat.le_add_right _ _) ?_
    exact kk H locs ls hR hS (lv_sub hl [0, 1, 2, 3, 4] rfl)
  · have h := mif_n h c408
    refine lv_iconst (v := 0) hx hb dL_law_411 (by decide) ?_
    exact absurd h (fun q => nomatch q)
def f_law_c5 (a1 : Int32) (M : mM) : Option mM :=
  mbw (f_X9_can a1 M) fun v420 M420 =>
  mbw (f_X10_can a1 M420) fun v430 M430 =>
  if v420 = v430 then (some M430)
  else (none)
set_option maxRecDepth 100000 in
set_option maxHeartbeats 4000000 in
theorem w_law_c5 {p : Program} {e : Env} {s : State} {m : MethodId} {args : Array Value} {below : List Frame} {meth : Method} {c : Code} {l : Launch} {X : mX} {b L : Nat} {xs : Nat → Int32} {Q : State → Prop} (hlt : l.stackTraces = false) (hx : p.tables.exec = Jvm.exec) (hb : c.code = cL_law) (hml : c.maxLocals = 8) (hown : s.vm.findClass RL = some m.cls) (hF : mF X s s.heap) (hE : mE X s s.heap) (hX : va_X b L xs s s.heap) (hbl : b < s.heap.size) (hbA : ¬ mL X b) {i : Int32} {cells slots : Nat} (hcs0 : cells ≤ room_1.cells ∧ slots ≤ room_1.slots) (hcs : cells + 1 ≤ room_1.cells ∧ slots + 6 ≤ room_1.slots) (a1 : Int32) (hi1 : vp_in (i + 1) L) (h1 : xs (i + 1).toNatClampNeg = a1) {M M9 : mM} (h : f_law_c5 a1 M = some M9) {H : Heap} {locs : List Loc} {ls : Array Slot} (hR : mR X s H M) (hS : va_S (mL X) s.heap H locs) (hl : lv_has ls 8 [(0, .ref b), (1, .ref (X.1 0)), (2, .ref (X.1 96)), (3, .ref (X.1 117)), (4, .int i)]) (kk : ∀ (H : Heap) (locs : List Loc) (ls : Array Slot), mR X s H M9 → va_S (mL X) s.heap H locs → lv_has ls 8 [(0, .ref b), (1, .ref (X.1 0)), (2, .ref (X.1 96)), (3, .ref (X.1 117)), (4, .int i)] → W p l e room_1 s m args below meth c H locs (cells + 1) (slots + 6) Q (F0 m 1399 ls [])) : W p l e room_1 s m args below meth c H locs cells slots Q (F0 m 413 ls []) := by
  refine lv_aload_n hx hb dL_law_413 rfl (lv_at hl 1 rfl) ?_
  refine lv_aload_n hx hb dL_law_414 rfl (lv_at hl 0 rfl) ?_
  refine lv_iload hx hb dL_law_415 (lv_at hl 4 rfl) ?_
  refine lv_iconst (v := 1) hx hb dL_law_417 (by decide) ?_
  refine lv_iadd hx hb dL_law_418 ?_
  refine law_ld hx hb hX hbl hbA hS hi1 h1 dL_law_419 ?_
  obtain ⟨v420, M420, q420, h⟩ := mbw_e h
  refine m_cig (m_rVg hx hb hml hown hF hR hS (ent8 kd_0) kd_0 rfl (c_X9_can l X a1 M q420) q_L_44_V hdV_X9_can ⟨Nat.le_of_ble_eq_true rfl, Nat.le_of_ble_eq_true rfl⟩ rfl hl.1 rfl (Nat.le_of_ble_eq_true rfl) dL_law_420 hcs0) hS (fun H locs hR hS => ?_)
  refine lv_aload_n hx hb dL_law_423 rfl (lv_at hl 2 rfl) ?_
  refine lv_aload_n hx hb dL_law_424 rfl (lv_at hl 0 rfl) ?_
  refine lv_iload hx hb dL_law_425 (lv_at hl 4 rfl) ?_
  refine lv_iconst (v := 1) hx hb dL_law_427 (by decide) ?_
  refine lv_iadd hx hb dL_law_428 ?_
  refine law_ld hx hb hX hbl hbA hS hi1 h1 dL_law_429 ?_
  obtain ⟨v430, M430, q430, h⟩ := mbw_e h
  refine m_cig (m_rVg hx hb hml hown hF hR hS (ent9 kd_96) kd_96 rfl (c_X10_can l X a1 M420 q430) q_L_48_V hdV_X10_can ⟨Nat.le_of_ble_eq_true rfl, Nat.le_of_ble_eq_true rfl⟩ rfl hl.1 rfl (Nat.le_of_ble_eq_true rfl) dL_law_430 hcs0) hS (fun H locs hR hS => ?_)
  refine lv_icmp_eq (tgt := 1399) hx hb dL_law_433 (by decide) (fun c433 => ?_) (fun c433 => ?_)
  · have h := mif_y h c433
    have h9 := Option.some.inj h
    subst h9
    refine W.widen (k := cells + 1) (n := slots + 6) (Nat.le_succ _) (Nat.le_add_right _ _) ?_
    exact kk H locs ls hR hS (lv_sub hl [0, 1, 2, 3, 4] rfl)
  · have h := mif_n h c433
    refine lv_iconst (v := 0) hx hb dL_law_436 (by decide) ?_
    exact absurd h (fun q => nomatch q)
def f_law_c6 (a1 : Int32) (M : mM) : Option mM :=
  mbw (f_X9_move a1 M) fun v445 M445 =>
  mbw (f_X10_move a1 M445) fun v455 M455 =>
  if v445 = v455 then (some M455)
  else (none)
set_option maxRecDepth 100000 in
set_option maxHeartbeats 4000000 in
theorem w_law_c6 {p : Program} {e : Env} {s : State} {m : MethodId} {args : Array Value} {below : List Frame} {meth : Method} {c : Code} {l : Launch} {X : mX} {b L : Nat} {xs : Nat → Int32} {Q : State → Prop} (hlt : l.stackTraces = false) (hx : p.tables.exec = Jvm.exec) (hb : c.code = cL_law) (hml : c.maxLocals = 8) (hown : s.vm.findClass RL = some m.cls) (hF : mF X s s.heap) (hE : mE X s s.heap) (hX : va_X b L xs s s.heap) (hbl : b < s.heap.size) (hbA : ¬ mL X b) {i : Int32} {cells slots : Nat} (hcs0 : cells ≤ room_1.cells ∧ slots ≤ room_1.slots) (hcs : cells + 1 ≤ room_1.cells ∧ slots + 6 ≤ room_1.slots) (a1 : Int32) (hi1 : vp_in (i + 1) L) (h1 : xs (i + 1).toNatClampNeg = a1) {M M9 : mM} (h : f_law_c6 a1 M = some M9) {H : Heap} {locs : List Loc} {ls : Array Slot} (hR : mR X s H M) (hS : va_S (mL X) s.heap H locs) (hl : lv_has ls 8 [(0, .ref b), (1, .ref (X.1 0)), (2, .ref (X.1 96)), (3, .ref (X.1 117)), (4, .int i)]) (kk : ∀ (H : Heap) (locs : List Loc) (ls : Array Slot), mR X s H M9 → va_S (mL X) s.heap H locs → lv_has ls 8 [(0, .ref b), (1, .ref (X.1 0)), (2, .ref (X.1 96)), (3, .ref (X.1 117)), (4, .int i)] → W p l e room_1 s m args below meth c H locs (cells + 1) (slots + 6) Q (F0 m 1399 ls [])) : W p l e room_1 s m args below meth c H locs cells slots Q (F0 m 438 ls []) := by
  refine lv_aload_n hx hb dL_law_438 rfl (lv_at hl 1 rfl) ?_
  refine lv_aload_n hx hb dL_law_439 rfl (lv_at hl 0 rfl) ?_
  refine lv_iload hx hb dL_law_440 (lv_at hl 4 rfl) ?_
  refine lv_iconst (v := 1) hx hb dL_law_442 (by decide) ?_
  refine lv_iadd hx hb dL_law_443 ?_
  refine law_ld hx hb hX hbl hbA hS hi1 h1 dL_law_444 ?_
  obtain ⟨v445, M445, q445, h⟩ := mbw_e h
  refine m_cig (m_rVg hx hb hml hown hF hR hS (ent8 kd_0) kd_0 rfl (c_X9_move l X a1 M q445) q_L_49_V hdV_X9_move ⟨Nat.le_of_ble_eq_true rfl, Nat.le_of_ble_eq_true rfl⟩ rfl hl.1 rfl (Nat.le_of_ble_eq_true rfl) dL_law_445 hcs0) hS (fun H locs hR hS => ?_)
  refine lv_aload_n hx hb dL_law_448 rfl (lv_at hl 2 rfl) ?_
  refine lv_aload_n hx hb dL_law_449 rfl (lv_at hl 0 rfl) ?_
  refine lv_iload hx hb dL_law_450 (lv_at hl 4 rfl) ?_
  refine lv_iconst (v := 1) hx hb dL_law_452 (by decide) ?_
  refine lv_iadd hx hb dL_law_453 ?_
  refine law_ld hx hb hX hbl hbA hS hi1 h1 dL_law_454 ?_
  obtain ⟨v455, M455, q455, h⟩ := mbw_e h
  refine m_cig (m_rVg hx hb hml hown hF hR hS (ent9 kd_96) kd_96 rfl (c_X10_move l X a1 M445 q455) q_L_52_V hdV_X10_move ⟨Nat.le_of_ble_eq_true rfl, Nat.le_of_ble_eq_true rfl⟩ rfl hl.1 rfl (Nat.le_of_ble_eq_true rfl) dL_law_455 hcs0) hS (fun H locs hR hS => ?_)
  refine lv_icmp_eq (tgt := 1399) hx hb dL_law_458 (by decide) (fun c458 => ?_) (fun c458 => ?_)
  · have h := mif_y h c458
    have h9 := Option.some.inj h
    subst h9
    refine W.widen (k := cells + 1) (n := slots + 6) (Nat.le_succ _) (Nat.le_add_right _ _) ?_
    exact kk H locs ls hR hS (lv_sub hl [0, 1, 2, 3, 4] rfl)
  · have h := mif_n h c458
    refine lv_iconst (v := 0) hx hb dL_law_461 (by decide) ?_
    exact absurd h (fun q => nomatch q)
def f_law_c7 (M : mM) : Option mM :=
  mbw (f_X9_moves M) fun v464 M464 =>
  mbw (f_X10_moves M464) fun v468 M468 =>
  if v464 = v468 then (some M468)
  else (none)
set_option maxRecDepth 100000 in
set_option maxHeartbeats 4000000 in
theorem w_law_c7 {p : Program} {e : Env} {s : State} {m : MethodId} {args : Array Value} {below : List Frame} {meth : Method} {c : Code} {l : Launch} {X : mX} {b L : Nat} {xs : Nat → Int32} {Q : State → Prop} (hlt : l.stackTraces = false) (hx : p.tables.exec = Jvm.exec) (hb : c.code = cL_law) (hml : c.maxLocals = 8) (hown : s.vm.findClass RL = some m.cls) (hF : mF X s s.heap) (hE : mE X s s.heap) (hX : va_X b L xs s s.heap) (hbl : b < s.heap.size) (hbA : ¬ mL X b) {i : Int32} {cells slots : Nat} (hcs0 : cells ≤ room_1.cells ∧ slots ≤ room_1.slots) (hcs : cells + 1 ≤ room_1.cells ∧ slots + 6 ≤ room_1.slots) {M M9 : mM} (h : f_law_c7 M = some M9) {H : Heap} {locs : List Loc} {ls : Array Slot} (hR : mR X s H M) (hS : va_S (mL X) s.heap H locs) (hl : lv_has ls 8 [(0, .ref b), (1, .ref (X.1 0)), (2, .ref (X.1 96)), (3, .ref (X.1 117)), (4, .int i)]) (kk : ∀ (H : Heap) (locs : List Loc) (ls : Array Slot), mR X s H M9 → va_S (mL X) s.heap H locs → lv_has ls 8 [(0, .ref b), (1, .ref (X.1 0)), (2, .ref (X.1 96)), (3, .ref (X.1 117)), (4, .int i)] → W p l e room_1 s m args below meth c H locs (cells + 1) (slots + 6) Q (F0 m 1399 ls [])) : W p l e room_1 s m args below meth c H locs cells slots Q (F0 m 463 ls []) := by
  refine lv_aload_n hx hb dL_law_463 rfl (lv_at hl 1 rfl) ?_
  obtain ⟨v464, M464, q464, h⟩ := mbw_e h
  refine m_cig (m_rVg hx hb hml hown hF hR hS (ent8 kd_0) kd_0 rfl (c_X9_moves l X M q464) q_L_53_V hdV_X9_moves ⟨Nat.le_of_ble_eq_true rfl, Nat.le_of_ble_eq_true rfl⟩ rfl hl.1 rfl (Nat.le_of_ble_eq_true rfl) dL_law_464 hcs0) hS (fun H locs hR hS => ?_)
  refine lv_aload_n hx hb dL_law_467 rfl (lv_at hl 2 rfl) ?_
  obtain ⟨v468, M468, q468, h⟩ := mbw_e h
  refine m_cig (m_rVg hx hb hml hown hF hR hS (ent9 kd_96) kd_96 rfl (c_X10_moves l X M464 q468) q_L_57_V hdV_X10_moves ⟨Nat.le_of_ble_eq_true rfl, Nat.le_of_ble_eq_true rfl⟩ rfl hl.1 rfl (Nat.le_of_ble_eq_true rfl) dL_law_468 hcs0) hS (fun H locs hR hS => ?_)
  refine lv_icmp_eq (tgt := 1399) hx hb dL_law_471 (by decide) (fun c471 => ?_) (fun c471 => ?_)
  · have h := mif_y h c471
    have h9 := Option.some.inj h
    subst h9
    refine W.widen (k := cells + 1) (n := slots + 6) (Nat.le_succ _) (Nat.le_add_right _ _) ?_
    exact kk H locs ls hR hS (lv_sub hl [0, 1, 2, 3, 4] rfl)
  · have h := mif_n h c471
    refine lv_iconst (v := 0) hx hb dL_law_474 (by decide) ?_
    exact absurd h (fun q => nomatch q)
def f_law_c8 (M : mM) : Option mM :=
  mbw (f_X9_broken M) fun v477 M477 =>
  mbw (f_X10_broken M477) fun v481 M481 =>
  if v477 = v481 then (some M481)
  else (none)
set_option maxRecDepth 100000 in
set_option maxHeartbeats 4000000 in
theorem w_law_c8 {p : Program} {e : Env} {s : State} {m : MethodId} {args : Array Value} {below : List Frame} {meth : Method} {c : Code} {l : Launch} {X : mX} {b L : Nat} {xs : Nat → Int32} {Q : State → Prop} (hlt : l.stackTraces = false) (hx : p.tables.exec = Jvm.exec) (hb : c.code = cL_law) (hml : c.maxLocals = 8) (hown : s.vm.findClass RL = some m.cls) (hF : mF X s s.heap) (hE : mE X s s.heap) (hX : va_X b L xs s s.heap) (hbl : b < s.heap.size) (hbA : ¬ mL X b) {i : Int32} {cells slots : Nat} (hcs0 : cells ≤ room_1.cells ∧ slots ≤ room_1.slots) (hcs : cells + 1 ≤ room_1.cells ∧ slots + 6 ≤ room_1.slots) {M M9 : mM} (h : f_law_c8 M = some M9) {H : Heap} {locs : List Loc} {ls : Array Slot} (hR : mR X s H M) (hS : va_S (mL X) s.heap H locs) (hl : lv_has ls 8 [(0, .ref b), (1, .ref (X.1 0)), (2, .ref (X.1 96)), (3, .ref (X.1 117)), (4, .int i)]) (kk : ∀ (H : Heap) (locs : List Loc) (ls : Array Slot), mR X s H M9 → va_S (mL X) s.heap H locs → lv_has ls 8 [(0, .ref b), (1, .ref (X.1 0)), (2, .ref (X.1 96)), (3, .ref (X.1 117)), (4, .int i)] → W p l e room_1 s m args below meth c H locs (cells + 1) (slots + 6) Q (F0 m 1399 ls [])) : W p l e room_1 s m args below meth c H locs cells slots Q (F0 m 476 ls []) := by
  refine lv_aload_n hx hb dL_law_476 rfl (lv_at hl 1 rfl) ?_
  obtain ⟨v477, M477, q477, h⟩ := mbw_e h
  refine m_cig (m_rVg hx hb hml hown hF hR hS (ent8 kd_0) kd_0 rfl (c_X9_broken l X M q477) q_L_58_V hdV_X9_broken ⟨Nat.le_of_ble_eq_true rfl, Nat.le_of_ble_eq_true rfl⟩ rfl hl.1 rfl (Nat.le_of_ble_eq_true rfl) dL_law_477 hcs0) hS (fun H locs hR hS => ?_)
  refine lv_aload_n hx hb dL_law_480 rfl (lv_at hl 2 rfl) ?_
  obtain ⟨v481, M481, q481, h⟩ := mbw_e h
  refine m_cig (m_rVg hx hb hml hown hF hR hS (ent9 kd_96) kd_96 rfl (c_X10_broken l X M477 q481) q_L_61_V hdV_X10_broken ⟨Nat.le_of_ble_eq_true rfl, Nat.le_of_ble_eq_true rfl⟩ rfl hl.1 rfl (Nat.le_of_ble_eq_true rfl) dL_law_481 hcs0) hS (fun H locs hR hS => ?_)
  refine lv_icmp_eq (tgt := 1399) hx hb dL_law_484 (by decide) (fun c484 => ?_) (fun c484 => ?_)
  · have h := mif_y h c484
    have h9 := Option.some.inj h
    subst h9
    refine W.widen (k := cells + 1) (n := slots + 6) (Nat.le_succ _) (Nat.le_add_right _ _) ?_
    exact kk H locs ls hR hS (lv_sub hl [0, 1, 2, 3, 4] rfl)
  · have h := mif_n h c484
    refine lv_iconst (v := 0) hx hb dL_law_487 (by decide) ?_
    exact absurd h (fun q => nomatch q)
def f_law_c9 (a1 : Int32) (a2 : Int32) (M : mM) : Option mM :=
  mbw (f_X9_fault a1 a2 M) fun v502 M502 =>
  mbw (f_X10_fault a1 a2 M502) fun v518 M518 =>
  if v502 = v518 then (some M518)
  else (none)
set_option maxRecDepth 100000 in
set_option maxHeartbeats 4000000 in
theorem w_law_c9 {p : Program} {e : Env} {s : State} {m : MethodId} {args : Array Value} {below : List Frame} {meth : Method} {c : Code} {l : Launch} {X : mX} {b L : Nat} {xs : Nat → Int32} {Q : State → Prop} (hlt : l.stackTraces = false) (hx : p.tables.exec = Jvm.exec) (hb : c.code = cL_law) (hml : c.maxLocals = 8) (hown : s.vm.findClass RL = some m.cls) (hF : mF X s s.heap) (hE : mE X s s.heap) (hX : va_X b L xs s s.heap) (hbl : b < s.heap.size) (hbA : ¬ mL X b) {i : Int32} {cells slots : Nat} (hcs0 : cells ≤ room_1.cells ∧ slots ≤ room_1.slots) (hcs : cells + 1 ≤ room_1.cells ∧ slots + 6 ≤ room_1.slots) (a1 : Int32) (a2 : Int32) (hi1 : vp_in (i + 1) L) (h1 : xs (i + 1).toNatClampNeg = a1) (hi2 : vp_in (i + 2) L) (h2 : xs (i + 2).toNatClampNeg = a2) {M M9 : mM} (h : f_law_c9 a1 a2 M = some M9) {H : Heap} {locs : List Loc} {ls : Array Slot} (hR : mR X s H M) (hS : va_S (mL X) s.heap H locs) (hl : lv_has ls 8 [(0, .ref b), (1, .ref (X.1 0)), (2, .ref (X.1 96)), (3, .ref (X.1 117)), (4, .int i)]) (kk : ∀ (H : Heap) (locs : List Loc) (ls : Array Slot), mR X s H M9 → va_S (mL X) s.heap H locs → lv_has ls 8 [(0, .ref b), (1, .ref (X.1 0)), (2, .ref (X.1 96)), (3, .ref (X.1 117)), (4, .int i)] → W p l e room_1 s m args below meth c H locs (cells + 1) (slots + 6) Q (F0 m 1399 ls [])) : W p l e room_1 s m args below meth c H locs cells slots Q (F0 m 489 ls []) := by
  refine lv_aload_n hx hb dL_law_489 rfl (lv_at hl 1 rfl) ?_
  refine lv_aload_n hx hb dL_law_490 rfl (lv_at hl 0 rfl) ?_
  refine lv_iload hx hb dL_law_491 (lv_at hl 4 rfl) ?_
  refine lv_iconst (v := 1) hx hb dL_law_493 (by decide) ?_
  refine lv_iadd hx hb dL_law_494 ?_
  refine law_ld hx hb hX hbl hbA hS hi1 h1 dL_law_495 ?_
  refine lv_aload_n hx hb dL_law_496 rfl (lv_at hl 0 rfl) ?_
  refine lv_iload hx hb dL_law_497 (lv_at hl 4 rfl) ?_
  refine lv_iconst (v := 2) hx hb dL_law_499 (by decide) ?_
  refine lv_iadd hx hb dL_law_500 ?_
  refine law_ld hx hb hX hbl hbA hS hi2 h2 dL_law_501 ?_
  obtain ⟨v502, M502, q502, h⟩ := mbw_e h
  refine m_cig (m_rVg hx hb hml hown hF hR hS (ent8 kd_0) kd_0 rfl (c_X9_fault l X a1 a2 M q502) q_L_62_V hdV_X9_fault ⟨Nat.le_of_ble_eq_true rfl, Nat.le_of_ble_eq_true rfl⟩ rfl hl.1 rfl (Nat.le_of_ble_eq_true rfl) dL_law_502 hcs0) hS (fun H locs hR hS => ?_)
  refine lv_aload_n hx hb dL_law_505 rfl (lv_at hl 2 rfl) ?_
  refine lv_aload_n hx hb dL_law_506 rfl (lv_at hl 0 rfl) ?_
  refine lv_iload hx hb dL_law_507 (lv_at hl 4 rfl) ?_
  refine lv_iconst (v := 1) hx hb dL_law_509 (by decide) ?_
  refine lv_iadd hx hb dL_law_510 ?_
  refine law_ld hx hb hX hbl hbA hS hi1 h1 dL_law_511 ?_
  refine lv_aload_n hx hb dL_law_512 rfl (lv_at hl 0 rfl) ?_
  refine lv_iload hx hb dL_law_513 (lv_at hl 4 rfl) ?_
  refine lv_iconst (v := 2) hx hb dL_law_515 (by decide) ?_
  refine lv_iadd hx hb dL_law_516 ?_
  refine law_ld hx hb hX hbl hbA hS hi2 h2 dL_law_517 ?_
  obtain ⟨v518, M518, q518, h⟩ := mbw_e h
  refine m_cig (m_rVg hx hb hml hown hF hR hS (ent9 kd_96) kd_96 rfl (c_X10_fault l X a1 a2 M502 q518) q_L_65_V hdV_X10_fault ⟨Nat.le_of_ble_eq_true rfl, Nat.le_of_ble_eq_true rfl⟩ rfl hl.1 rfl (Nat.le_of_ble_eq_true rfl) dL_law_518 hcs0) hS (fun H locs hR hS => ?_)
  refine lv_icmp_eq (tgt := 1399) hx hb dL_law_521 (by decide) (fun c521 => ?_) (fun c521 => ?_)
  · have h := mif_y h c521
    have h9 := Option.some.inj h
    subst h9
    refine W.widen (k := cells + 1) (n := slots + 6) (Nat.le_succ _) (Nat.le_add_right _ _) ?_
    exact kk H locs ls hR hS (lv_sub hl [0, 1, 2, 3, 4] rfl)
  · have h := mif_n h c521
    refine lv_iconst (v := 0) hx hb dL_law_524 (by decide) ?_
    exact absurd h (fun q => nomatch q)
def f_law_c10 (a1 : Int32) (M : mM) : Option mM :=
  mbw (f_X9_shape a1 M) fun v533 M533 =>
  mbw (f_X10_shape a1 M533) fun v543 M543 =>
  if v533 = v543 then (some M543)
  else (none)
set_option maxRecDepth 100000 in
set_option maxHeartbeats 4000000 in
theorem w_law_c10 {p : Program} {e : Env} {s : State} {m : MethodId} {args : Array Value} {below : List Frame} {meth : Method} {c : Code} {l : Launch} {X : mX} {b L : Nat} {xs : Nat → Int32} {Q : State → Prop} (hlt : l.stackTraces = false) (hx : p.tables.exec = Jvm.exec) (hb : c.code = cL_law) (hml : c.maxLocals = 8) (hown : s.vm.findClass RL = some m.cls) (hF : mF X s s.heap) (hE : mE X s s.heap) (hX : va_X b L xs s s.heap) (hbl : b < s.heap.size) (hbA : ¬ mL X b) {i : Int32} {cells slots : Nat} (hcs0 : cells ≤ room_1.cells ∧ slots ≤ room_1.slots) (hcs : cells + 1 ≤ room_1.cells ∧ slots + 6 ≤ room_1.slots) (a1 : Int32) (hi1 : vp_in (i + 1) L) (h1 : xs (i + 1).toNatClampNeg = a1) {M M9 : mM} (h : f_law_c10 a1 M = some M9) {H : Heap} {locs : List Loc} {ls : Array Slot} (hR : mR X s H M) (hS : va_S (mL X) s.heap H locs) (hl : lv_has ls 8 [(0, .ref b), (1, .ref (X.1 0)), (2, .ref (X.1 96)), (3, .ref (X.1 117)), (4, .int i)]) (kk : ∀ (H : Heap) (locs : List Loc) (ls : Array Slot), mR X s H M9 → va_S (mL X) s.heap H locs → lv_has ls 8 [(0, .ref b), (1, .ref (X.1 0)), (2, .ref (X.1 96)), (3, .ref (X.1 117)), (4, .int i)] → W p l e room_1 s m args below meth c H locs (cells + 1) (slots + 6) Q (F0 m 1399 ls [])) : W p l e room_1 s m args below meth c H locs cells slots Q (F0 m 526 ls []) := by
  refine lv_aload_n hx hb dL_law_526 rfl (lv_at hl 1 rfl) ?_
  refine lv_aload_n hx hb dL_law_527 rfl (lv_at hl 0 rfl) ?_
  refine lv_iload hx hb dL_law_528 (lv_at hl 4 rfl) ?_
  refine lv_iconst (v := 1) hx hb dL_law_530 (by decide) ?_
  refine lv_iadd hx hb dL_law_531 ?_
  refine law_ld hx hb hX hbl hbA hS hi1 h1 dL_law_532 ?_
  obtain ⟨v533, M533, q533, h⟩ := mbw_e h
  refine m_cig (m_rVg hx hb hml hown hF hR hS (ent8 kd_0) kd_0 rfl (c_X9_shape l X a1 M q533) q_L_66_V hdV_X9_shape ⟨Nat.le_of_ble_eq_true rfl, Nat.le_of_ble_eq_true rfl⟩ rfl hl.1 rfl (Nat.le_of_ble_eq_true rfl) dL_law_533 hcs0) hS (fun H locs hR hS => ?_)
  refine lv_aload_n hx hb dL_law_536 rfl (lv_at hl 2 rfl) ?_
  refine lv_aload_n hx hb dL_law_537 rfl (lv_at hl 0 rfl) ?_
  refine lv_iload hx hb dL_law_538 (lv_at hl 4 rfl) ?_
  refine lv_iconst (v := 1) hx hb dL_law_540 (by decide) ?_
  refine lv_iadd hx hb dL_law_541 ?_
  refine law_ld hx hb hX hbl hbA hS hi1 h1 dL_law_542 ?_
  obtain ⟨v543, M543, q543, h⟩ := mbw_e h
  refine m_cig (m_rVg hx hb hml hown hF hR hS (ent9 kd_96) kd_96 rfl (c_X10_shape l X a1 M533 q543) q_L_69_V hdV_X10_shape ⟨Nat.le_of_ble_eq_true rfl, Nat.le_of_ble_eq_true rfl⟩ rfl hl.1 rfl (Nat.le_of_ble_eq_true rfl) dL_law_543 hcs0) hS (fun H locs hR hS => ?_)
  refine lv_icmp_eq (tgt := 1399) hx hb dL_law_546 (by decide) (fun c546 => ?_) (fun c546 => ?_)
  · have h := mif_y h c546
    have h9 := Option.some.inj h
    subst h9
    refine W.widen (k := cells + 1) (n := slots + 6) (Nat.le_succ _) (Nat.le_add_right _ _) ?_
    exact kk H locs ls hR hS (lv_sub hl [0, 1, 2, 3, 4] rfl)
  · have h := mif_n h c546
    refine lv_iconst (v := 0) hx hb dL_law_549 (by decide) ?_
    exact absurd h (fun q => nomatch q)
def f_law_c11 (a1 : Int32) (a2 : Int32) (a3 : Int32) (M : mM) : Option mM :=
  mbp (f_X9_in a1 a2 a3 M) fun v570 =>
  mbw (f_X10_in a1 a2 a3 M) fun v592 M592 =>
  if v570 = v592 then (some M592)
  else (none)
set_option maxRecDepth 100000 in
set_option maxHeartbeats 4000000 in
theorem w_law_c11 {p : Program} {e : Env} {s : State} {m : MethodId} {args : Array Value} {below : List Frame} {meth : Method} {c : Code} {l : Launch} {X : mX} {b L : Nat} {xs : Nat → Int32} {Q : State → Prop} (hlt : l.stackTraces = false) (hx : p.tables.exec = Jvm.exec) (hb : c.code = cL_law) (hml : c.maxLocals = 8) (hown : s.vm.findClass RL = some m.cls) (hF : mF X s s.heap) (hE : mE X s s.heap) (hX : va_X b L xs s s.heap) (hbl : b < s.heap.size) (hbA : ¬ mL X b) {i : Int32} {cells slots : Nat} (hcs0 : cells ≤ room_1.cells ∧ slots ≤ room_1.slots) (hcs : cells + 1 ≤ room_1.cells ∧ slots + 6 ≤ room_1.slots) (a1 : Int32) (a2 : Int32) (a3 : Int32) (hi1 : vp_in (i + 1) L) (h1 : xs (i + 1).toNatClampNeg = a1) (hi2 : vp_in (i + 2) L) (h2 : xs (i + 2).toNatClampNeg = a2) (hi3 : vp_in (i + 3) L) (h3 : xs (i + 3).toNatClampNeg = a3) {M M9 : mM} (h : f_law_c11 a1 a2 a3 M = some M9) {H : Heap} {locs : List Loc} {ls : Array Slot} (hR : mR X s H M) (hS : va_S (mL X) s.heap H locs) (hl : lv_has ls 8 [(0, .ref b), (1, .ref (X.1 0)), (2, .ref (X.1 96)), (3, .ref (X.1 117)), (4, .int i)]) (kk : ∀ (H : Heap) (locs : List Loc) (ls : Array Slot), mR X s H M9 → va_S (mL X) s.heap H locs → lv_has ls 8 [(0, .ref b), (1, .ref (X.1 0)), (2, .ref (X.1 96)), (3, .ref (X.1 117)), (4, .int i)] → W p l e room_1 s m args below meth c H locs (cells + 1) (slots + 6) Q (F0 m 1399 ls [])) : W p l e room_1 s m args below meth c H locs cells slots Q (F0 m 551 ls []) := by
  refine lv_aload_n hx hb dL_law_551 rfl (lv_at hl 1 rfl) ?_
  refine lv_aload_n hx hb dL_law_552 rfl (lv_at hl 0 rfl) ?_
  refine lv_iload hx hb dL_law_553 (lv_at hl 4 rfl) ?_
  refine lv_iconst (v := 1) hx hb dL_law_555 (by decide) ?_
  refine lv_iadd hx hb dL_law_556 ?_
  refine law_ld hx hb hX hbl hbA hS hi1 h1 dL_law_557 ?_
  refine lv_aload_n hx hb dL_law_558 rfl (lv_at hl 0 rfl) ?_
  refine lv_iload hx hb dL_law_559 (lv_at hl 4 rfl) ?_
  refine lv_iconst (v := 2) hx hb dL_law_561 (by decide) ?_
  refine lv_iadd hx hb dL_law_562 ?_
  refine law_ld hx hb hX hbl hbA hS hi2 h2 dL_law_563 ?_
  refine lv_aload_n hx hb dL_law_564 rfl (lv_at hl 0 rfl) ?_
  refine lv_iload hx hb dL_law_565 (lv_at hl 4 rfl) ?_
  refine lv_iconst (v := 3) hx hb dL_law_567 (by decide) ?_
  refine lv_iadd hx hb dL_law_568 ?_
  refine law_ld hx hb hX hbl hbA hS hi3 h3 dL_law_569 ?_
  obtain ⟨v570, q570, h⟩ := mbp_e h
  refine m_cig (m_rVg hx hb hml hown hF hR hS (ent8 kd_0) kd_0 rfl (c_X9_in l X a1 a2 a3 M q570) q_L_70_V hdV_X9_in ⟨Nat.le_of_ble_eq_true rfl, Nat.le_of_ble_eq_true rfl⟩ rfl hl.1 rfl (Nat.le_of_ble_eq_true rfl) dL_law_570 hcs0) hS (fun H locs hR hS => ?_)
  refine lv_aload_n hx hb dL_law_573 rfl (lv_at hl 2 rfl) ?_
  refine lv_aload_n hx hb dL_law_574 rfl (lv_at hl 0 rfl) ?_
  refine lv_iload hx hb dL_law_575 (lv_at hl 4 rfl) ?_
  refine lv_iconst (v := 1) hx hb dL_law_577 (by decide) ?_
  refine lv_iadd hx hb dL_law_578 ?_
  refine law_ld hx hb hX hbl hbA hS hi1 h1 dL_law_579 ?_
  refine lv_aload_n hx hb dL_law_580 rfl (lv_at hl 0 rfl) ?_
  refine lv_iload hx hb dL_law_581 (lv_at hl 4 rfl) ?_
  refine lv_iconst (v := 2) hx hb dL_law_583 (by decide) ?_
  refine lv_iadd hx hb dL_law_584 ?_
  refine law_ld hx hb hX hbl hbA hS hi2 h2 dL_law_585 ?_
  refine lv_aload_n hx hb dL_law_586 rfl (lv_at hl 0 rfl) ?_
  refine lv_iload hx hb dL_law_587 (lv_at hl 4 rfl) ?_
  refine lv_iconst (v := 3) hx hb dL_law_589 (by decide) ?_
  refine lv_iadd hx hb dL_law_590 ?_
  refine law_ld hx hb hX hbl hbA hS hi3 h3 dL_law_591 ?_
  obtain ⟨v592, M592, q592, h⟩ := mbw_e h
  refine m_cig (m_rVg hx hb hml hown hF hR hS (ent9 kd_96) kd_96 rfl (c_X10_in l X a1 a2 a3 M q592) q_L_74_V hdV_X10_in ⟨Nat.le_of_ble_eq_true rfl, Nat.le_of_ble_eq_true rfl⟩ rfl hl.1 rfl (Nat.le_of_ble_eq_true rfl) dL_law_592 hcs0) hS (fun H locs hR hS => ?_)
  refine lv_icmp_eq (tgt := 1399) hx hb dL_law_595 (by decide) (fun c595 => ?_) (fun c595 => ?_)
  · have h := mif_y h c595
    have h9 := Option.some.inj h
    subst h9
    refine W.widen (k := cells + 1) (n := slots + 6) (Nat.le_succ _) (Nat.le_add_right _ _) ?_
    exact kk H locs ls hR hS (lv_sub hl [0, 1, 2, 3, 4] rfl)
  · have h := mif_n h c595
    refine lv_iconst (v := 0) hx hb dL_law_598 (by decide) ?_
    exact absurd h (fun q => nomatch q)
def f_law_c12 (a1 : Int32) (a2 : Int32) (M : mM) : Option mM :=
  mbp (f_X9_met a1 a2 M) fun v613 =>
  mbw (f_X10_met a1 a2 M) fun v629 M629 =>
  if v613 = v629 then (some M629)
  else (none)
set_option maxRecDepth 100000 in
set_option maxHeartbeats 4000000 in
theorem w_law_c12 {p : Program} {e : Env} {s : State} {m : MethodId} {args : Array Value} {below : List Frame} {meth : Method} {c : Code} {l : Launch} {X : mX} {b L : Nat} {xs : Nat → Int32} {Q : State → Prop} (hlt : l.stackTraces = false) (hx : p.tables.exec = Jvm.exec) (hb : c.code = cL_law) (hml : c.maxLocals = 8) (hown : s.vm.findClass RL = some m.cls) (hF : mF X s s.heap) (hE : mE X s s.heap) (hX : va_X b L xs s s.heap) (hbl : b < s.heap.size) (hbA : ¬ mL X b) {i : Int32} {cells slots : Nat} (hcs0 : cells ≤ room_1.cells ∧ slots ≤ room_1.slots) (hcs : cells + 1 ≤ room_1.cells ∧ slots + 6 ≤ room_1.slots) (a1 : Int32) (a2 : Int32) (hi1 : vp_in (i + 1) L) (h1 : xs (i + 1).toNatClampNeg = a1) (hi2 : vp_in (i + 2) L) (h2 : xs (i + 2).toNatClampNeg = a2) {M M9 : mM} (h : f_law_c12 a1 a2 M = some M9) {H : Heap} {locs : List Loc} {ls : Array Slot} (hR : mR X s H M) (hS : va_S (mL X) s.heap H locs) (hl : lv_has ls 8 [(0, .ref b), (1, .ref (X.1 0)), (2, .ref (X.1 96)), (3, .ref (X.1 117)), (4, .int i)]) (kk : ∀ (H : Heap) (locs : List Loc) (ls : Array Slot), mR X s H M9 → va_S (mL X) s.heap H locs → lv_has ls 8 [(0, .ref b), (1, .ref (X.1 0)), (2, .ref (X.1 96)), (3, .ref (X.1 117)), (4, .int i)] → W p l e room_1 s m args below meth c H locs (cells + 1) (slots + 6) Q (F0 m 1399 ls [])) : W p l e room_1 s m args below meth c H locs cells slots Q (F0 m 600 ls []) := by
  refine lv_aload_n hx hb dL_law_600 rfl (lv_at hl 1 rfl) ?_
  refine lv_aload_n hx hb dL_law_601 rfl (lv_at hl 0 rfl) ?_
  refine lv_iload hx hb dL_law_602 (lv_at hl 4 rfl) ?_
  refine lv_iconst (v := 1) hx hb dL_law_604 (by decide) ?_
  refine lv_iadd hx hb dL_law_605 ?_
  refine law_ld hx hb hX hbl hbA hS hi1 h1 dL_law_606 ?_
  refine lv_aload_n hx hb dL_law_607 rfl (lv_at hl 0 rfl) ?_
  refine lv_iload hx hb dL_law_608 (lv_at hl 4 rfl) ?_
  refine lv_iconst (v := 2) hx hb dL_law_610 (by decide) ?_
  refine lv_iadd hx hb dL_law_611 ?_
  refine law_ld hx hb hX hbl hbA hS hi2 h2 dL_law_612 ?_
  obtain ⟨v613, q613, h⟩ := mbp_e h
  refine m_cig (m_rVg hx hb hml hown hF hR hS (ent8 kd_0) kd_0 rfl (c_X9_met l X a1 a2 M q613) q_L_75_V hdV_X9_met ⟨Nat.le_of_ble_eq_true rfl, Nat.le_of_ble_eq_true rfl⟩ rfl hl.1 rfl (Nat.le_of_ble_eq_true rfl) dL_law_613 hcs0) hS (fun H locs hR hS => ?_)
  refine lv_aload_n hx hb dL_law_616 rfl (lv_at hl 2 rfl) ?_
  refine lv_aload_n hx hb dL_law_617 rfl (lv_at hl 0 rfl) ?_
  refine lv_iload hx hb dL_law_618 (lv_at hl 4 rfl) ?_
  refine lv_iconst (v := 1) hx hb dL_law_620 (by decide) ?_
  refine lv_iadd hx hb dL_law_621 ?_
  refine law_ld hx hb hX hbl hbA hS hi1 h1 dL_law_622 ?_
  refine lv_aload_n hx hb dL_law_623 rfl (lv_at hl 0 rfl) ?_
  refine lv_iload hx hb dL_law_624 (lv_at hl 4 rfl) ?_
  refine lv_iconst (v := 2) hx hb dL_law_626 (by decide) ?_
  refine lv_iadd hx hb dL_law_627 ?_
  refine law_ld hx hb hX hbl hbA hS hi2 h2 dL_law_628 ?_
  obtain ⟨v629, M629, q629, h⟩ := mbw_e h
  refine m_cig (m_rVg hx hb hml hown hF hR hS (ent9 kd_96) kd_96 rfl (c_X10_met l X a1 a2 M q629) q_L_78_V hdV_X10_met ⟨Nat.le_of_ble_eq_true rfl, Nat.le_of_ble_eq_true rfl⟩ rfl hl.1 rfl (Nat.le_of_ble_eq_true rfl) dL_law_629 hcs0) hS (fun H locs hR hS => ?_)
  refine lv_icmp_eq (tgt := 1399) hx hb dL_law_632 (by decide) (fun c632 => ?_) (fun c632 => ?_)
  · have h := mif_y h c632
    have h9 := Option.some.inj h
    subst h9
    refine W.widen (k := cells + 1) (n := slots + 6) (Nat.le_succ _) (Nat.le_add_right _ _) ?_
    exact kk H locs ls hR hS (lv_sub hl [0, 1, 2, 3, 4] rfl)
  · have h := mif_n h c632
    refine lv_iconst (v := 0) hx hb dL_law_635 (by decide) ?_
    exact absurd h (fun q => nomatch q)
def f_law_c13 (a1 : Int32) (a2 : Int32) (M : mM) : Option mM :=
  mbw (f_X9_plan a1 a2 M) fun v650 M650 =>
  mbw (f_X10_plan a1 a2 M650) fun v666 M666 =>
  if v650 = v666 then (some M666)
  else (none)
set_option maxRecDepth 100000 in
set_option maxHeartbeats 4000000 in
theorem w_law_c13 {p : Program} {e : Env} {s : State} {m : MethodId} {args : Array Value} {below : List Frame} {meth : Method} {c : Code} {l : Launch} {X : mX} {b L : Nat} {xs : Nat → Int32} {Q : State → Prop} (hlt : l.stackTraces = false) (hx : p.tables.exec = Jvm.exec) (hb : c.code = cL_law) (hml : c.maxLocals = 8) (hown : s.vm.findClass RL = some m.cls) (hF : mF X s s.heap) (hE : mE X s s.heap) (hX : va_X b L xs s s.heap) (hbl : b < s.heap.size) (hbA : ¬ mL X b) {i : Int32} {cells slots : Nat} (hcs0 : cells ≤ room_1.cells ∧ slots ≤ room_1.slots) (hcs : cells + 1 ≤ room_1.cells ∧ slots + 6 ≤ room_1.slots) (a1 : Int32) (a2 : Int32) (hi1 : vp_in (i + 1) L) (h1 : xs (i + 1).toNatClampNeg = a1) (hi2 : vp_in (i + 2) L) (h2 : xs (i + 2).toNatClampNeg = a2) {M M9 : mM} (h : f_law_c13 a1 a2 M = some M9) {H : Heap} {locs : List Loc} {ls : Array Slot} (hR : mR X s H M) (hS : va_S (mL X) s.heap H locs) (hl : lv_has ls 8 [(0, .ref b), (1, .ref (X.1 0)), (2, .ref (X.1 96)), (3, .ref (X.1 117)), (4, .int i)]) (kk : ∀ (H : Heap) (locs : List Loc) (ls : Array Slot), mR X s H M9 → va_S (mL X) s.heap H locs → lv_has ls 8 [(0, .ref b), (1, .ref (X.1 0)), (2, .ref (X.1 96)), (3, .ref (X.1 117)), (4, .int i)] → W p l e room_1 s m args below meth c H locs (cells + 1) (slots + 6) Q (F0 m 1399 ls [])) : W p l e room_1 s m args below meth c H locs cells slots Q (F0 m 637 ls []) := by
  refine lv_aload_n hx hb dL_law_637 rfl (lv_at hl 1 rfl) ?_
  refine lv_aload_n hx hb dL_law_638 rfl (lv_at hl 0 rfl) ?_
  refine lv_iload hx hb dL_law_639 (lv_at hl 4 rfl) ?_
  refine lv_iconst (v := 1) hx hb dL_law_641 (by decide) ?_
  refine lv_iadd hx hb dL_law_642 ?_
  refine law_ld hx hb hX hbl hbA hS hi1 h1 dL_law_643 ?_
  refine lv_aload_n hx hb dL_law_644 rfl (lv_at hl 0 rfl) ?_
  refine lv_iload hx hb dL_law_645 (lv_at hl 4 rfl) ?_
  refine lv_iconst (v := 2) hx hb dL_law_647 (by decide) ?_
  refine lv_iadd hx hb dL_law_648 ?_
  refine law_ld hx hb hX hbl hbA hS hi2 h2 dL_law_649 ?_
  obtain ⟨v650, M650, q650, h⟩ := mbw_e h
  refine m_cig (m_rVg hx hb hml hown hF hR hS (ent8 kd_0) kd_0 rfl (c_X9_plan l X a1 a2 M q650) q_L_79_V hdV_X9_plan ⟨Nat.le_of_ble_eq_true rfl, Nat.le_of_ble_eq_true rfl⟩ rfl hl.1 rfl (Nat.le_of_ble_eq_true rfl) dL_law_650 hcs0) hS (fun H locs hR hS => ?_)
  refine lv_aload_n hx hb dL_law_653 rfl (lv_at hl 2 rfl) ?_
  refine lv_aload_n hx hb dL_law_654 rfl (lv_at hl 0 rfl) ?_
  refine lv_iload hx hb dL_law_655 (lv_at hl 4 rfl) ?_
  refine lv_iconst (v := 1) hx hb dL_law_657 (by decide) ?_
  refine lv_iadd hx hb dL_law_658 ?_
  refine law_ld hx hb hX hbl hbA hS hi1 h1 dL_law_659 ?_
  refine lv_aload_n hx hb dL_law_660 rfl (lv_at hl 0 rfl) ?_
  refine lv_iload hx hb dL_law_661 (lv_at hl 4 rfl) ?_
  refine lv_iconst (v := 2) hx hb dL_law_663 (by decide) ?_
  refine lv_iadd hx hb dL_law_664 ?_
  refine law_ld hx hb hX hbl hbA hS hi2 h2 dL_law_665 ?_
  obtain ⟨v666, M666, q666, h⟩ := mbw_e h
  refine m_cig (m_rVg hx hb hml hown hF hR hS (ent9 kd_96) kd_96 rfl (c_X10_plan l X a1 a2 M650 q666) q_L_82_V hdV_X10_plan ⟨Nat.le_of_ble_eq_true rfl, Nat.le_of_ble_eq_true rfl⟩ rfl hl.1 rfl (Nat.le_of_ble_eq_true rfl) dL_law_666 hcs0) hS (fun H locs hR hS => ?_)
  refine lv_icmp_eq (tgt := 1399) hx hb dL_law_669 (by decide) (fun c669 => ?_) (fun c669 => ?_)
  · have h := mif_y h c669
    have h9 := Option.some.inj h
    subst h9
    refine W.widen (k := cells + 1) (n := slots + 6) (Nat.le_succ _) (Nat.le_add_right _ _) ?_
    exact kk H locs ls hR hS (lv_sub hl [0, 1, 2, 3, 4] rfl)
  · have h := mif_n h c669
    refine lv_iconst (v := 0) hx hb dL_law_672 (by decide) ?_
    exact absurd h (fun q => nomatch q)
def f_law_c14 (a1 : Int32) (a2 : Int32) (a3 : Int32) (M : mM) : Option mM :=
  mbw (f_X9_planned a1 a2 a3 M) fun v693 M693 =>
  mbw (f_X10_planned a1 a2 a3 M693) fun v715 M715 =>
  if v693 = v715 then (some M715)
  else (none)
set_option maxRecDepth 100000 in
set_option maxHeartbeats 4000000 in
theorem w_law_c14 {p : Program} {e : Env} {s : State} {m : MethodId} {args : Array Value} {below : List Frame} {meth : Method} {c : Code} {l : Launch} {X : mX} {b L : Nat} {xs : Nat → Int32} {Q : State → Prop} (hlt : l.stackTraces = false) (hx : p.tables.exec = Jvm.exec) (hb : c.code = cL_law) (hml : c.maxLocals = 8) (hown : s.vm.findClass RL = some m.cls) (hF : mF X s s.heap) (hE : mE X s s.heap) (hX : va_X b L xs s s.heap) (hbl : b < s.heap.size) (hbA : ¬ mL X b) {i : Int32} {cells slots : Nat} (hcs0 : cells ≤ room_1.cells ∧ slots ≤ room_1.slots) (hcs : cells + 1 ≤ room_1.cells ∧ slots + 6 ≤ room_1.slots) (a1 : Int32) (a2 : Int32) (a3 : Int32) (hi1 : vp_in (i + 1) L) (h1 : xs (i + 1).toNatClampNeg = a1) (hi2 : vp_in (i + 2) L) (h2 : xs (i + 2).toNatClampNeg = a2) (hi3 : vp_in (i + 3) L) (h3 : xs (i + 3).toNatClampNeg = a3) {M M9 : mM} (h : f_law_c14 a1 a2 a3 M = some M9) {H : Heap} {locs : List Loc} {ls : Array Slot} (hR : mR X s H M) (hS : va_S (mL X) s.heap H locs) (hl : lv_has ls 8 [(0, .ref b), (1, .ref (X.1 0)), (2, .ref (X.1 96)), (3, .ref (X.1 117)), (4, .int i)]) (kk : ∀ (H : Heap) (locs : List Loc) (ls : Array Slot), mR X s H M9 → va_S (mL X) s.heap H locs → lv_has ls 8 [(0, .ref b), (1, .ref (X.1 0)), (2, .ref (X.1 96)), (3, .ref (X.1 117)), (4, .int i)] → W p l e room_1 s m args below meth c H locs (cells + 1) (slots + 6) Q (F0 m 1399 ls [])) : W p l e room_1 s m args below meth c H locs cells slots Q (F0 m 674 ls []) := by
  refine lv_aload_n hx hb dL_law_674 rfl (lv_at hl 1 rfl) ?_
  refine lv_aload_n hx hb dL_law_675 rfl (lv_at hl 0 rfl) ?_
  refine lv_iload hx hb dL_law_676 (lv_at hl 4 rfl) ?_
  refine lv_iconst (v := 1) hx hb dL_law_678 (by decide) ?_
  refine lv_iadd hx hb dL_law_679 ?_
  refine law_ld hx hb hX hbl hbA hS hi1 h1 dL_law_680 ?_
  refine lv_aload_n hx hb dL_law_681 rfl (lv_at hl 0 rfl) ?_
  refine lv_iload hx hb dL_law_682 (lv_at hl 4 rfl) ?_
  refine lv_iconst (v := 2) hx hb dL_law_684 (by decide) ?_
  refine lv_iadd hx hb dL_law_685 ?_
  refine law_ld hx hb hX hbl hbA hS hi2 h2 dL_law_686 ?_
  refine lv_aload_n hx hb dL_law_687 rfl (lv_at hl 0 rfl) ?_
  refine lv_iload hx hb dL_law_688 (lv_at hl 4 rfl) ?_
  refine lv_iconst (v := 3) hx hb dL_law_690 (by decide) ?_
  refine lv_iadd hx hb dL_law_691 ?_
  refine law_ld hx hb hX hbl hbA hS hi3 h3 dL_law_692 ?_
  obtain ⟨v693, M693, q693, h⟩ := mbw_e h
  refine m_cig (m_rVg hx hb hml hown hF hR hS (ent8 kd_0) kd_0 rfl (c_X9_planned l X a1 a2 a3 M q693) q_L_83_V hdV_X9_planned ⟨Nat.le_of_ble_eq_true rfl, Nat.le_of_ble_eq_true rfl⟩ rfl hl.1 rfl (Nat.le_of_ble_eq_true rfl) dL_law_693 hcs0) hS (fun H locs hR hS => ?_)
  refine lv_aload_n hx hb dL_law_696 rfl (lv_at hl 2 rfl) ?_
  refine lv_aload_n hx hb dL_law_697 rfl (lv_at hl 0 rfl) ?_
  refine lv_iload hx hb dL_law_698 (lv_at hl 4 rfl) ?_
  refine lv_iconst (v := 1) hx hb dL_law_700 (by decide) ?_
  refine lv_iadd hx hb dL_law_701 ?_
  refine law_ld hx hb hX hbl hbA hS hi1 h1 dL_law_702 ?_
  refine lv_aload_n hx hb dL_law_703 rfl (lv_at hl 0 rfl) ?_
  refine lv_iload hx hb dL_law_704 (lv_at hl 4 rfl) ?_
  refine lv_iconst (v := 2) hx hb dL_law_706 (by decide) ?_
  refine lv_iadd hx hb dL_law_707 ?_
  refine law_ld hx hb hX hbl hbA hS hi2 h2 dL_law_708 ?_
  refine lv_aload_n hx hb dL_law_709 rfl (lv_at hl 0 rfl) ?_
  refine lv_iload hx hb dL_law_710 (lv_at hl 4 rfl) ?_
  refine lv_iconst (v := 3) hx hb dL_law_712 (by decide) ?_
  refine lv_iadd hx hb dL_law_713 ?_
  refine law_ld hx hb hX hbl hbA hS hi3 h3 dL_law_714 ?_
  obtain ⟨v715, M715, q715, h⟩ := mbw_e h
  refine m_cig (m_rVg hx hb hml hown hF hR hS (ent9 kd_96) kd_96 rfl (c_X10_planned l X a1 a2 a3 M693 q715) q_L_86_V hdV_X10_planned ⟨Nat.le_of_ble_eq_true rfl, Nat.le_of_ble_eq_true rfl⟩ rfl hl.1 rfl (Nat.le_of_ble_eq_true rfl) dL_law_715 hcs0) hS (fun H locs hR hS => ?_)
  refine lv_icmp_eq (tgt := 1399) hx hb dL_law_718 (by decide) (fun c718 => ?_) (fun c718 => ?_)
  · have h := mif_y h c718
    have h9 := Option.some.inj h
    subst h9
    refine W.widen (k := cells + 1) (n := slots + 6) (Nat.le_succ _) (Nat.le_add_right _ _) ?_
    exact kk H locs ls hR hS (lv_sub hl [0, 1, 2, 3, 4] rfl)
  · have h := mif_n h c718
    refine lv_iconst (v := 0) hx hb dL_law_721 (by decide) ?_
    exact absurd h (fun q => nomatch q)
def f_law_c15 (a1 : Int32) (M : mM) : Option mM :=
  mbw (f_X9_judge a1 M) fun v730 M730 =>
  mbw (f_X10_judge a1 M730) fun v740 M740 =>
  if v730 = v740 then (some M740)
  else (none)
set_option maxRecDepth 100000 in
set_option maxHeartbeats 4000000 in
theorem w_law_c15 {p : Program} {e : Env} {s : State} {m : MethodId} {args : Array Value} {below : List Frame} {meth : Method} {c : Code} {l : Launch} {X : mX} {b L : Nat} {xs : Nat → Int32} {Q : State → Prop} (hlt : l.stackTraces = false) (hx : p.tables.exec = Jvm.exec) (hb : c.code = cL_law) (hml : c.maxLocals = 8) (hown : s.vm.findClass RL = some m.cls) (hF : mF X s s.heap) (hE : mE X s s.heap) (hX : va_X b L xs s s.heap) (hbl : b < s.heap.size) (hbA : ¬ mL X b) {i : Int32} {cells slots : Nat} (hcs0 : cells ≤ room_1.cells ∧ slots ≤ room_1.slots) (hcs : cells + 1 ≤ room_1.cells ∧ slots + 6 ≤ room_1.slots) (a1 : Int32) (hi1 : vp_in (i + 1) L) (h1 : xs (i + 1).toNatClampNeg = a1) {M M9 : mM} (h : f_law_c15 a1 M = some M9) {H : Heap} {locs : List Loc} {ls : Array Slot} (hR : mR X s H M) (hS : va_S (mL X) s.heap H locs) (hl : lv_has ls 8 [(0, .ref b), (1, .ref (X.1 0)), (2, .ref (X.1 96)), (3, .ref (X.1 117)), (4, .int i)]) (kk : ∀ (H : Heap) (locs : List Loc) (ls : Array Slot), mR X s H M9 → va_S (mL X) s.heap H locs → lv_has ls 8 [(0, .ref b), (1, .ref (X.1 0)), (2, .ref (X.1 96)), (3, .ref (X.1 117)), (4, .int i)] → W p l e room_1 s m args below meth c H locs (cells + 1) (slots + 6) Q (F0 m 1399 ls [])) : W p l e room_1 s m args below meth c H locs cells slots Q (F0 m 723 ls []) := by
  refine lv_aload_n hx hb dL_law_723 rfl (lv_at hl 1 rfl) ?_
  refine lv_aload_n hx hb dL_law_724 rfl (lv_at hl 0 rfl) ?_
  refine lv_iload hx hb dL_law_725 (lv_at hl 4 rfl) ?_
  refine lv_iconst (v := 1) hx hb dL_law_727 (by decide) ?_
  refine lv_iadd hx hb dL_law_728 ?_
  refine law_ld hx hb hX hbl hbA hS hi1 h1 dL_law_729 ?_
  obtain ⟨v730, M730, q730, h⟩ := mbw_e h
  refine m_cig (m_rVg hx hb hml hown hF hR hS (ent8 kd_0) kd_0 rfl (c_X9_judge l X a1 M q730) q_L_87_V hdV_X9_judge ⟨Nat.le_of_ble_eq_true rfl, Nat.le_of_ble_eq_true rfl⟩ rfl hl.1 rfl (Nat.le_of_ble_eq_true rfl) dL_law_730 hcs0) hS (fun H locs hR hS => ?_)
  refine lv_aload_n hx hb dL_law_733 rfl (lv_at hl 2 rfl) ?_
  refine lv_aload_n hx hb dL_law_734 rfl (lv_at hl 0 rfl) ?_
  refine lv_iload hx hb dL_law_735 (lv_at hl 4 rfl) ?_
  refine lv_iconst (v := 1) hx hb dL_law_737 (by decide) ?_
  refine lv_iadd hx hb dL_law_738 ?_
  refine law_ld hx hb hX hbl hbA hS hi1 h1 dL_law_739 ?_
  obtain ⟨v740, M740, q740, h⟩ := mbw_e h
  refine m_cig (m_rVg hx hb hml hown hF hR hS (ent9 kd_96) kd_96 rfl (c_X10_judge l X a1 M730 q740) q_L_90_V hdV_X10_judge ⟨Nat.le_of_ble_eq_true rfl, Nat.le_of_ble_eq_true rfl⟩ rfl hl.1 rfl (Nat.le_of_ble_eq_true rfl) dL_law_740 hcs0) hS (fun H locs hR hS => ?_)
  refine lv_icmp_eq (tgt := 1399) hx hb dL_law_743 (by decide) (fun c743 => ?_) (fun c743 => ?_)
  · have h := mif_y h c743
    have h9 := Option.some.inj h
    subst h9
    refine W.widen (k := cells + 1) (n := slots + 6) (Nat.le_succ _) (Nat.le_add_right _ _) ?_
    exact kk H locs ls hR hS (lv_sub hl [0, 1, 2, 3, 4] rfl)
  · have h := mif_n h c743
    refine lv_iconst (v := 0) hx hb dL_law_746 (by decide) ?_
    exact absurd h (fun q => nomatch q)
def f_law_c16 (a1 : Int32) (M : mM) : Option mM :=
  mbw (f_X9_program a1 M) fun v755 M755 =>
  mbw (f_X10_program a1 M755) fun v765 M765 =>
  if v755 = v765 then (some M765)
  else (none)
set_option maxRecDepth 100000 in
set_option maxHeartbeats 4000000 in
theorem w_law_c16 {p : Program} {e : Env} {s : State} {m : MethodId} {args : Array Value} {below : List Frame} {meth : Method} {c : Code} {l : Launch} {X : mX} {b L : Nat} {xs : Nat → Int32} {Q : State → Prop} (hlt : l.stackTraces = false) (hx : p.tables.exec = Jvm.exec) (hb : c.code = cL_law) (hml : c.maxLocals = 8) (hown : s.vm.findClass RL = some m.cls) (hF : mF X s s.heap) (hE : mE X s s.heap) (hX : va_X b L xs s s.heap) (hbl : b < s.heap.size) (hbA : ¬ mL X b) {i : Int32} {cells slots : Nat} (hcs0 : cells ≤ room_1.cells ∧ slots ≤ room_1.slots) (hcs : cells + 1 ≤ room_1.cells ∧ slots + 6 ≤ room_1.slots) (a1 : Int32) (hi1 : vp_in (i + 1) L) (h1 : xs (i + 1).toNatClampNeg = a1) {M M9 : mM} (h : f_law_c16 a1 M = some M9) {H : Heap} {locs : List Loc} {ls : Array Slot} (hR : mR X s H M) (hS : va_S (mL X) s.heap H locs) (hl : lv_has ls 8 [(0, .ref b), (1, .ref (X.1 0)), (2, .ref (X.1 96)), (3, .ref (X.1 117)), (4, .int i)]) (kk : ∀ (H : Heap) (locs : List Loc) (ls : Array Slot), mR X s H M9 → va_S (mL X) s.heap H locs → lv_has ls 8 [(0, .ref b), (1, .ref (X.1 0)), (2, .ref (X.1 96)), (3, .ref (X.1 117)), (4, .int i)] → W p l e room_1 s m args below meth c H locs (cells + 1) (slots + 6) Q (F0 m 1399 ls [])) : W p l e room_1 s m args below meth c H locs cells slots Q (F0 m 748 ls []) := by
  refine lv_aload_n hx hb dL_law_748 rfl (lv_at hl 1 rfl) ?_
  refine lv_aload_n hx hb dL_law_749 rfl (lv_at hl 0 rfl) ?_
  refine lv_iload hx hb dL_law_750 (lv_at hl 4 rfl) ?_
  refine lv_iconst (v := 1) hx hb dL_law_752 (by decide) ?_
  refine lv_iadd hx hb dL_law_753 ?_
  refine law_ld hx hb hX hbl hbA hS hi1 h1 dL_law_754 ?_
  obtain ⟨v755, M755, q755, h⟩ := mbw_e h
  refine m_cig (m_rVg hx hb hml hown hF hR hS (ent8 kd_0) kd_0 rfl (c_X9_program l X a1 M q755) q_L_91_V hdV_X9_program ⟨Nat.le_of_ble_eq_true rfl, Nat.le_of_ble_eq_true rfl⟩ rfl hl.1 rfl (Nat.le_of_ble_eq_true rfl) dL_law_755 hcs0) hS (fun H locs hR hS => ?_)
  refine lv_aload_n hx hb dL_law_758 rfl (lv_at hl 2 rfl) ?_
  refine lv_aload_n hx hb dL_law_759 rfl (lv_at hl 0 rfl) ?_
  refine lv_iload hx hb dL_law_760 (lv_at hl 4 rfl) ?_
  refine lv_iconst (v := 1) hx hb dL_law_762 (by decide) ?_
  refine lv_iadd hx hb dL_law_763 ?_
  refine law_ld hx hb hX hbl hbA hS hi1 h1 dL_law_764 ?_
  obtain ⟨v765, M765, q765, h⟩ := mbw_e h
  refine m_cig (m_rVg hx hb hml hown hF hR hS (ent9 kd_96) kd_96 rfl (c_X10_program l X a1 M755 q765) q_L_94_V hdV_X10_program ⟨Nat.le_of_ble_eq_true rfl, Nat.le_of_ble_eq_true rfl⟩ rfl hl.1 rfl (Nat.le_of_ble_eq_true rfl) dL_law_765 hcs0) hS (fun H locs hR hS => ?_)
  refine lv_icmp_eq (tgt := 1399) hx hb dL_law_768 (by decide) (fun c768 => ?_) (fun c768 => ?_)
  · have h := mif_y h c768
    have h9 := Option.some.inj h
    subst h9
    refine W.widen (k := cells + 1) (n := slots + 6) (Nat.le_succ _) (Nat.le_add_right _ _) ?_
    exact kk H locs ls hR hS (lv_sub hl [0, 1, 2, 3, 4] rfl)
  · have h := mif_n h c768
    refine lv_iconst (v := 0) hx hb dL_law_771 (by decide) ?_
    exact absurd h (fun q => nomatch q)
def f_law_c17 (a1 : Int32) (a2 : Int32) (M : mM) : Option mM :=
  mbw (f_X9_gives a1 a2 M) fun v786 M786 =>
  mbw (f_X10_gives a1 a2 M786) fun v802 M802 =>
  if v786 = v802 then (some M802)
  else (none)
set_option maxRecDepth 100000 in
set_option maxHeartbeats 4000000 in
theorem w_law_c17 {p : Program} {e : Env} {s : State} {m : MethodId} {args : Array Value} {below : List Frame} {meth : Method} {c : Code} {l : Launch} {X : mX} {b L : Nat} {xs : Nat → Int32} {Q : State → Prop} (hlt : l.stackTraces = false) (hx : p.tables.exec = Jvm.exec) (hb : c.code = cL_law) (hml : c.maxLocals = 8) (hown : s.vm.findClass RL = some m.cls) (hF : mF X s s.heap) (hE : mE X s s.heap) (hX : va_X b L xs s s.heap) (hbl : b < s.heap.size) (hbA : ¬ mL X b) {i : Int32} {cells slots : Nat} (hcs0 : cells ≤ room_1.cells ∧ slots ≤ room_1.slots) (hcs : cells + 1 ≤ room_1.cells ∧ slots + 6 ≤ room_1.slots) (a1 : Int32) (a2 : Int32) (hi1 : vp_in (i + 1) L) (h1 : xs (i + 1).toNatClampNeg = a1) (hi2 : vp_in (i + 2) L) (h2 : xs (i + 2).toNatClampNeg = a2) {M M9 : mM} (h : f_law_c17 a1 a2 M = some M9) {H : Heap} {locs : List Loc} {ls : Array Slot} (hR : mR X s H M) (hS : va_S (mL X) s.heap H locs) (hl : lv_has ls 8 [(0, .ref b), (1, .ref (X.1 0)), (2, .ref (X.1 96)), (3, .ref (X.1 117)), (4, .int i)]) (kk : ∀ (H : Heap) (locs : List Loc) (ls : Array Slot), mR X s H M9 → va_S (mL X) s.heap H locs → lv_has ls 8 [(0, .ref b), (1, .ref (X.1 0)), (2, .ref (X.1 96)), (3, .ref (X.1 117)), (4, .int i)] → W p l e room_1 s m args below meth c H locs (cells + 1) (slots + 6) Q (F0 m 1399 ls [])) : W p l e room_1 s m args below meth c H locs cells slots Q (F0 m 773 ls []) := by
  refine lv_aload_n hx hb dL_law_773 rfl (lv_at hl 1 rfl) ?_
  refine lv_aload_n hx hb dL_law_774 rfl (lv_at hl 0 rfl) ?_
  refine lv_iload hx hb dL_law_775 (lv_at hl 4 rfl) ?_
  refine lv_iconst (v := 1) hx hb dL_law_777 (by decide) ?_
  refine lv_iadd hx hb dL_law_778 ?_
  refine law_ld hx hb hX hbl hbA hS hi1 h1 dL_law_779 ?_
  refine lv_aload_n hx hb dL_law_780 rfl (lv_at hl 0 rfl) ?_
  refine lv_iload hx hb dL_law_781 (lv_at hl 4 rfl) ?_
  refine lv_iconst (v := 2) hx hb dL_law_783 (by decide) ?_
  refine lv_iadd hx hb dL_law_784 ?_
  refine law_ld hx hb hX hbl hbA hS hi2 h2 dL_law_785 ?_
  obtain ⟨v786, M786, q786, h⟩ := mbw_e h
  refine m_cig (m_rVg hx hb hml hown hF hR hS (ent8 kd_0) kd_0 rfl (c_X9_gives l X a1 a2 M q786) q_L_95_V hdV_X9_gives ⟨Nat.le_of_ble_eq_true rfl, Nat.le_of_ble_eq_true rfl⟩ rfl hl.1 rfl (Nat.le_of_ble_eq_true rfl) dL_law_786 hcs0) hS (fun H locs hR hS => ?_)
  refine lv_aload_n hx hb dL_law_789 rfl (lv_at hl 2 rfl) ?_
  refine lv_aload_n hx hb dL_law_790 rfl (lv_at hl 0 rfl) ?_
  refine lv_iload hx hb dL_law_791 (lv_at hl 4 rfl) ?_
  refine lv_iconst (v := 1) hx hb dL_law_793 (by decide) ?_
  refine lv_iadd hx hb dL_law_794 ?_
  refine law_ld hx hb hX hbl hbA hS hi1 h1 dL_law_795 ?_
  refine lv_aload_n hx hb dL_law_796 rfl (lv_at hl 0 rfl) ?_
  refine lv_iload hx hb dL_law_797 (lv_at hl 4 rfl) ?_
  refine lv_iconst (v := 2) hx hb dL_law_799 (by decide) ?_
  refine lv_iadd hx hb dL_law_800 ?_
  refine law_ld hx hb hX hbl hbA hS hi2 h2 dL_law_801 ?_
  obtain ⟨v802, M802, q802, h⟩ := mbw_e h
  refine m_cig (m_rVg hx hb hml hown hF hR hS (ent9 kd_96) kd_96 rfl (c_X10_gives l X a1 a2 M786 q802) q_L_98_V hdV_X10_gives ⟨Nat.le_of_ble_eq_true rfl, Nat.le_of_ble_eq_true rfl⟩ rfl hl.1 rfl (Nat.le_of_ble_eq_true rfl) dL_law_802 hcs0) hS (fun H locs hR hS => ?_)
  refine lv_icmp_eq (tgt := 1399) hx hb dL_law_805 (by decide) (fun c805 => ?_) (fun c805 => ?_)
  · have h := mif_y h c805
    have h9 := Option.some.inj h
    subst h9
    refine W.widen (k := cells + 1) (n := slots + 6) (Nat.le_succ _) (Nat.le_add_right _ _) ?_
    exact kk H locs ls hR hS (lv_sub hl [0, 1, 2, 3, 4] rfl)
  · have h := mif_n h c805
    refine lv_iconst (v := 0) hx hb dL_law_808 (by decide) ?_
    exact absurd h (fun q => nomatch q)
def f_law_c18 (a1 : Int32) (M : mM) : Option mM :=
  mbw (f_X9_rule a1 M) fun v817 M817 =>
  mbw (f_X10_rule a1 M817) fun v827 M827 =>
  if v817 = v827 then (some M827)
  else (none)
set_option maxRecDepth 100000 in
set_option maxHeartbeats 4000000 in
theorem w_law_c18 {p : Program} {e : Env} {s : State} {m : MethodId} {args : Array Value} {below : List Frame} {meth : Method} {c : Code} {l : Launch} {X : mX} {b L : Nat} {xs : Nat → Int32} {Q : State → Prop} (hlt : l.stackTraces = false) (hx : p.tables.exec = Jvm.exec) (hb : c.code = cL_law) (hml : c.maxLocals = 8) (hown : s.vm.findClass RL = some m.cls) (hF : mF X s s.heap) (hE : mE X s s.heap) (hX : va_X b L xs s s.heap) (hbl : b < s.heap.size) (hbA : ¬ mL X b) {i : Int32} {cells slots : Nat} (hcs0 : cells ≤ room_1.cells ∧ slots ≤ room_1.slots) (hcs : cells + 1 ≤ room_1.cells ∧ slots + 6 ≤ room_1.slots) (a1 : Int32) (hi1 : vp_in (i + 1) L) (h1 : xs (i + 1).toNatClampNeg = a1) {M M9 : mM} (h : f_law_c18 a1 M = some M9) {H : Heap} {locs : List Loc} {ls : Array Slot} (hR : mR X s H M) (hS : va_S (mL X) s.heap H locs) (hl : lv_has ls 8 [(0, .ref b), (1, .ref (X.1 0)), (2, .ref (X.1 96)), (3, .ref (X.1 117)), (4, .int i)]) (kk : ∀ (H : Heap) (locs : List Loc) (ls : Array Slot), mR X s H M9 → va_S (mL X) s.heap H locs → lv_has ls 8 [(0, .ref b), (1, .ref (X.1 0)), (2, .ref (X.1 96)), (3, .ref (X.1 117)), (4, .int i)] → W p l e room_1 s m args below meth c H locs (cells + 1) (slots + 6) Q (F0 m 1399 ls [])) : W p l e room_1 s m args below meth c H locs cells slots Q (F0 m 810 ls []) := by
  refine lv_aload_n hx hb dL_law_810 rfl (lv_at hl 1 rfl) ?_
  refine lv_aload_n hx hb dL_law_811 rfl (lv_at hl 0 rfl) ?_
  refine lv_iload hx hb dL_law_812 (lv_at hl 4 rfl) ?_
  refine lv_iconst (v := 1) hx hb dL_law_814 (by decide) ?_
  refine lv_iadd hx hb dL_law_815 ?_
  refine law_ld hx hb hX hbl hbA hS hi1 h1 dL_law_816 ?_
  obtain ⟨v817, M817, q817, h⟩ := mbw_e h
  refine m_cig (m_rVg hx hb hml hown hF hR hS (ent8 kd_0) kd_0 rfl (c_X9_rule l X a1 M q817) q_L_99_V hdV_X9_rule ⟨Nat.le_of_ble_eq_true rfl, Nat.le_of_ble_eq_true rfl⟩ rfl hl.1 rfl (Nat.le_of_ble_eq_true rfl) dL_law_817 hcs0) hS (fun H locs hR hS => ?_)
  refine lv_aload_n hx hb dL_law_820 rfl (lv_at hl 2 rfl) ?_
  refine lv_aload_n hx hb dL_law_821 rfl (lv_at hl 0 rfl) ?_
  refine lv_iload hx hb dL_law_822 (lv_at hl 4 rfl) ?_
  refine lv_iconst (v := 1) hx hb dL_law_824 (by decide) ?_
  refine lv_iadd hx hb dL_law_825 ?_
  refine law_ld hx hb hX hbl hbA hS hi1 h1 dL_law_826 ?_
  obtain ⟨v827, M827, q827, h⟩ := mbw_e h
  refine m_cig (m_rVg hx hb hml hown hF hR hS (ent9 kd_96) kd_96 rfl (c_X10_rule l X a1 M817 q827) q_L_102_V hdV_X10_rule ⟨Nat.le_of_ble_eq_true rfl, Nat.le_of_ble_eq_true rfl⟩ rfl hl.1 rfl (Nat.le_of_ble_eq_true rfl) dL_law_827 hcs0) hS (fun H locs hR hS => ?_)
  refine lv_icmp_eq (tgt := 1399) hx hb dL_law_830 (by decide) (fun c830 => ?_) (fun c830 => ?_)
  · have h := mif_y h c830
    have h9 := Option.some.inj h
    subst h9
    refine W.widen (k := cells + 1) (n := slots + 6) (Nat.le_succ _) (Nat.le_add_right _ _) ?_
    exact kk H locs ls hR hS (lv_sub hl [0, 1, 2, 3, 4] rfl)
  · have h := mif_n h c830
    refine lv_iconst (v := 0) hx hb dL_law_833 (by decide) ?_
    exact absurd h (fun q => nomatch q)
def f_law_c19 (a1 : Int32) (M : mM) : Option mM :=
  mbw (f_X9_ticks a1 M) fun v842 M842 =>
  mbw (f_X10_ticks a1 M842) fun v852 M852 =>
  if v842 = v852 then (some M852)
  else (none)
set_option maxRecDepth 100000 in
set_option maxHeartbeats 4000000 in
theorem w_law_c19 {p : Program} {e : Env} {s : State} {m : MethodId} {args : Array Value} {below : List Frame} {meth : Method} {c : Code} {l : Launch} {X : mX} {b L : Nat} {xs : Nat → Int32} {Q : State → Prop} (hlt : l.stackTraces = false) (hx : p.tables.exec = Jvm.exec) (hb : c.code = cL_law) (hml : c.maxLocals = 8) (hown : s.vm.findClass RL = some m.cls) (hF : mF X s s.heap) (hE : mE X s s.heap) (hX : va_X b L xs s s.heap) (hbl : b < s.heap.size) (hbA : ¬ mL X b) {i : Int32} {cells slots : Nat} (hcs0 : cells ≤ room_1.cells ∧ slots ≤ room_1.slots) (hcs : cells + 1 ≤ room_1.cells ∧ slots + 6 ≤ room_1.slots) (a1 : Int32) (hi1 : vp_in (i + 1) L) (h1 : xs (i + 1).toNatClampNeg = a1) {M M9 : mM} (h : f_law_c19 a1 M = some M9) {H : Heap} {locs : List Loc} {ls : Array Slot} (hR : mR X s H M) (hS : va_S (mL X) s.heap H locs) (hl : lv_has ls 8 [(0, .ref b), (1, .ref (X.1 0)), (2, .ref (X.1 96)), (3, .ref (X.1 117)), (4, .int i)]) (kk : ∀ (H : Heap) (locs : List Loc) (ls : Array Slot), mR X s H M9 → va_S (mL X) s.heap H locs → lv_has ls 8 [(0, .ref b), (1, .ref (X.1 0)), (2, .ref (X.1 96)), (3, .ref (X.1 117)), (4, .int i)] → W p l e room_1 s m args below meth c H locs (cells + 1) (slots + 6) Q (F0 m 1399 ls [])) : W p l e room_1 s m args below meth c H locs cells slots Q (F0 m 835 ls []) := by
  refine lv_aload_n hx hb dL_law_835 rfl (lv_at hl 1 rfl) ?_
  refine lv_aload_n hx hb dL_law_836 rfl (lv_at hl 0 rfl) ?_
  refine lv_iload hx hb dL_law_837 (lv_at hl 4 rfl) ?_
  refine lv_iconst (v := 1) hx hb dL_law_839 (by decide) ?_
  refine lv_iadd hx hb dL_law_840 ?_
  refine law_ld hx hb hX hbl hbA hS hi1 h1 dL_law_841 ?_
  obtain ⟨v842, M842, q842, h⟩ := mbw_e h
  refine m_cig (m_rVg hx hb hml hown hF hR hS (ent8 kd_0) kd_0 rfl (c_X9_ticks l X a1 M q842) q_L_103_V hdV_X9_ticks ⟨Nat.le_of_ble_eq_true rfl, Nat.le_of_ble_eq_true rfl⟩ rfl hl.1 rfl (Nat.le_of_ble_eq_true rfl) dL_law_842 hcs0) hS (fun H locs hR hS => ?_)
  refine lv_aload_n hx hb dL_law_845 rfl (lv_at hl 2 rfl) ?_
  refine lv_aload_n hx hb dL_law_846 rfl (lv_at hl 0 rfl) ?_
  refine lv_iload hx hb dL_law_847 (lv_at hl 4 rfl) ?_
  refine lv_iconst (v := 1) hx hb dL_law_849 (by decide) ?_
  refine lv_iadd hx hb dL_law_850 ?_
  refine law_ld hx hb hX hbl hbA hS hi1 h1 dL_law_851 ?_
  obtain ⟨v852, M852, q852, h⟩ := mbw_e h
  refine m_cig (m_rVg hx hb hml hown hF hR hS (ent9 kd_96) kd_96 rfl (c_X10_ticks l X a1 M842 q852) q_L_106_V hdV_X10_ticks ⟨Nat.le_of_ble_eq_true rfl, Nat.le_of_ble_eq_true rfl⟩ rfl hl.1 rfl (Nat.le_of_ble_eq_true rfl) dL_law_852 hcs0) hS (fun H locs hR hS => ?_)
  refine lv_icmp_eq (tgt := 1399) hx hb dL_law_855 (by decide) (fun c855 => ?_) (fun c855 => ?_)
  · have h := mif_y h c855
    have h9 := Option.some.inj h
    subst h9
    refine W.widen (k := cells + 1) (n := slots + 6) (Nat.le_succ _) (Nat.le_add_right _ _) ?_
    exact kk H locs ls hR hS (lv_sub hl [0, 1, 2, 3, 4] rfl)
  · have h := mif_n h c855
    refine lv_iconst (v := 0) hx hb dL_law_858 (by decide) ?_
    exact absurd h (fun q => nomatch q)
def f_law_c20 (a1 : Int32) (a2 : Int32) (a3 : Int32) (M : mM) : Option mM :=
  if a3 = 0 then (mbw (f_X9_report a1 a2 0 M) fun v887 M887 =>
  if a3 = 0 then (mbw (f_X10_report a1 a2 0 M887) fun v917 M917 =>
  if v887 = v917 then (some M917)
  else (none))
  else (mbw (f_X10_report a1 a2 1 M887) fun v917 M917 =>
  if v887 = v917 then (some M917)
  else (none)))
  else (mbw (f_X9_report a1 a2 1 M) fun v887 M887 =>
  if a3 = 0 then (mbw (f_X10_report a1 a2 0 M887) fun v917 M917 =>
  if v887 = v917 then (some M917)
  else (none))
  else (mbw (f_X10_report a1 a2 1 M887) fun v917 M917 =>
  if v887 = v917 then (some M917)
  else (none)))
set_option maxRecDepth 100000 in
set_option maxHeartbeats 4000000 in
theorem w_law_c20 {p : Program} {e : Env} {s : State} {m : MethodId} {args : Array Value} {below : List Frame} {meth : Method} {c : Code} {l : Launch} {X : mX} {b L : Nat} {xs : Nat → Int32} {Q : State → Prop} (hlt : l.stackTraces = false) (hx : p.tables.exec = Jvm.exec) (hb : c.code = cL_law) (hml : c.maxLocals = 8) (hown : s.vm.findClass RL = some m.cls) (hF : mF X s s.heap) (hE : mE X s s.heap) (hX : va_X b L xs s s.heap) (hbl : b < s.heap.size) (hbA : ¬ mL X b) {i : Int32} {cells slots : Nat} (hcs0 : cells ≤ room_1.cells ∧ slots ≤ room_1.slots) (hcs : cells + 1 ≤ room_1.cells ∧ slots + 6 ≤ room_1.slots) (a1 : Int32) (a2 : Int32) (a3 : Int32) (hi1 : vp_in (i + 1) L) (h1 : xs (i + 1).toNatClampNeg = a1) (hi2 : vp_in (i + 2) L) (h2 : xs (i + 2).toNatClampNeg = a2) (hi3 : vp_in (i + 3) L) (h3 : xs (i + 3).toNatClampNeg = a3) {M M9 : mM} (h : f_law_c20 a1 a2 a3 M = some M9) {H : Heap} {locs : List Loc} {ls : Array Slot} (hR : mR X s H M) (hS : va_S (mL X) s.heap H locs) (hl : lv_has ls 8 [(0, .ref b), (1, .ref (X.1 0)), (2, .ref (X.1 96)), (3, .ref (X.1 117)), (4, .int i)]) (kk : ∀ (H : Heap) (locs : List Loc) (ls : Array Slot), mR X s H M9 → va_S (mL X) s.heap H locs → lv_has ls 8 [(0, .ref b), (1, .ref (X.1 0)), (2, .ref (X.1 96)), (3, .ref (X.1 117)), (4, .int i)] → W p l e room_1 s m args below meth c H locs (cells + 1) (slots + 6) Q (F0 m 1399 ls [])) : W p l e room_1 s m args below meth c H locs cells slots Q (F0 m 860 ls []) := by
  refine lv_aload_n hx hb dL_law_860 rfl (lv_at hl 1 rfl) ?_
  refine lv_aload_n hx hb dL_law_861 rfl (lv_at hl 0 rfl) ?_
  refine lv_iload hx hb dL_law_862 (lv_at hl 4 rfl) ?_
  refine lv_iconst (v := 1) hx hb dL_law_864 (by decide) ?_
  refine lv_iadd hx hb dL_law_865 ?_
  refine law_ld hx hb hX hbl hbA hS hi1 h1 dL_law_866 ?_
  refine lv_aload_n hx hb dL_law_867 rfl (lv_at hl 0 rfl) ?_
  refine lv_iload hx hb dL_law_868 (lv_at hl 4 rfl) ?_
  refine lv_iconst (v := 2) hx hb dL_law_870 (by decide) ?_
  refine lv_iadd hx hb dL_law_871 ?_
  refine law_ld hx hb hX hbl hbA hS hi2 h2 dL_law_872 ?_
  refine lv_aload_n hx hb dL_law_873 rfl (lv_at hl 0 rfl) ?_
  refine lv_iload hx hb dL_law_874 (lv_at hl 4 rfl) ?_
  refine lv_iconst (v := 3) hx hb dL_law_876 (by decide) ?_
  refine lv_iadd hx hb dL_law_877 ?_
  refine law_ld hx hb hX hbl hbA hS hi3 h3 dL_law_878 ?_
  refine lv_if_eq (tgt := 886) hx hb dL_law_879 (by decide) (fun c879 => ?_) (fun c879 => ?_)
  · have h := mif_y h c879
    refine lv_iconst (v := 0) hx hb dL_law_886 (by decide) ?_
    obtain ⟨v887, M887, q887, h⟩ := mbw_e h
    refine m_cig (m_rVg hx hb hml hown hF hR hS (ent8 kd_0) kd_0 rfl (c_X9_report l X a1 a2 0 M q887) q_L_107_V hdV_X9_report ⟨Nat.le_of_ble_eq_true rfl, Nat.le_of_ble_eq_true rfl⟩ rfl hl.1 rfl (Nat.le_of_ble_eq_true rfl) dL_law_887 hcs0) hS (fun H locs hR hS => ?_)
    refine lv_aload_n hx hb dL_law_890 rfl (lv_at hl 2 rfl) ?_
    refine lv_aload_n hx hb dL_law_891 rfl (lv_at hl 0 rfl) ?_
    refine lv_iload hx hb dL_law_892 (lv_at hl 4 rfl) ?_
    refine lv_iconst (v := 1) hx hb dL_law_894 (by decide) ?_
    refine lv_iadd hx hb dL_law_895 ?_
    refine law_ld hx hb hX hbl hbA hS hi1 h1 dL_law_896 ?_
    refine lv_aload_n hx hb dL_law_897 rfl (lv_at hl 0 rfl) ?_
    refine lv_iload hx hb dL_law_898 (lv_at hl 4 rfl) ?_
    refine lv_iconst (v := 2) hx hb dL_law_900 (by decide) ?_
    refine lv_iadd hx hb dL_law_901 ?_
    refine law_ld hx hb hX hbl hbA hS hi2 h2 dL_law_902 ?_
    refine lv_aload_n hx hb dL_law_903 rfl (lv_at hl 0 rfl) ?_
    refine lv_iload hx hb dL_law_904 (lv_at hl 4 rfl) ?_
    refine lv_iconst (v := 3) hx hb dL_law_906 (by decide) ?_
    refine lv_iadd hx hb dL_law_907 ?_
    refine law_ld hx hb hX hbl hbA hS hi3 h3 dL_law_908 ?_
    refine lv_if_eq (tgt := 916) hx hb dL_law_909 (by decide) (fun c909 => ?_) (fun c909 => ?_)
    · have h := mif_y h c909
      refine lv_iconst (v := 0) hx hb dL_law_916 (by decide) ?_
      obtain ⟨v917, M917, q917, h⟩ := mbw_e h
      refine m_cig (m_rVg hx hb hml hown hF hR hS (ent9 kd_96) kd_96 rfl (c_X10_report l X a1 a2 0 M887 q917) q_L_111_V hdV_X10_report ⟨Nat.le_of_ble_eq_true rfl, Nat.le_of_ble_eq_true rfl⟩ rfl hl.1 rfl (Nat.le_of_ble_eq_true rfl) dL_law_917 hcs0) hS (fun H locs hR hS => ?_)
      refine lv_icmp_eq (tgt := 1399) hx hb dL_law_920 (by decide) (fun c920 => ?_) (fun c920 => ?_)
      · have h := mif_y h c920
        have h9 := Option.some.inj h
        subst h9
        refine W.widen (k := cells + 1) (n := slots + 6) (Nat.le_succ _) (Nat.le_add_right _ _) ?_
        exact kk H locs ls hR hS (lv_sub hl [0, 1, 2, 3, 4] rfl)
      · have h := mif_n h c920
        refine lv_iconst (v := 0) hx hb dL_law_923 (by decide) ?_
        exact absurd h (fun q => nomatch q)
    · have h := mif_n h c909
      refine lv_iconst (v := 1) hx hb dL_law_912 (by decide) ?_
      refine lv_goto (tgt := 917) hx hb dL_law_913 (by decide) ?_
      obtain ⟨v917, M917, q917, h⟩ := mbw_e h
      refine m_cig (m_rVg hx hb hml hown hF hR hS (ent9 kd_96) kd_96 rfl (c_X10_report l X a1 a2 1 M887 q917) q_L_111_V hdV_X10_report ⟨Nat.le_of_ble_eq_true rfl, Nat.le_of_ble_eq_true rfl⟩ rfl hl.1 rfl (Nat.le_of_ble_eq_true rfl) dL_law_917 hcs0) hS (fun H locs hR hS => ?_)
      refine lv_icmp_eq (tgt := 1399) hx hb dL_law_920 (by decide) (fun c920 => ?_) (fun c920 => ?_)
      · have h := mif_y h c920
        have h9 := Option.some.inj h
        subst h9
        refine W.widen (k := cells + 1) (n := slots + 6) (Nat.le_succ _) (Nat.le_add_right _ _) ?_
        exact kk H locs ls hR hS (lv_sub hl [0, 1, 2, 3, 4] rfl)
      · have h := mif_n h c920
        refine lv_iconst (v := 0) hx hb dL_law_923 (by decide) ?_
        exact absurd h (fun q => nomatch q)
  · have h := mif_n h c879
    refine lv_iconst (v := 1) hx hb dL_law_882 (by decide) ?_
    refine lv_goto (tgt := 887) hx hb dL_law_883 (by decide) ?_
    obtain ⟨v887, M887, q887, h⟩ := mbw_e h
    refine m_cig (m_rVg hx hb hml hown hF hR hS (ent8 kd_0) kd_0 rfl (c_X9_report l X a1 a2 1 M q887) q_L_107_V hdV_X9_report ⟨Nat.le_of_ble_eq_true rfl, Nat.le_of_ble_eq_true rfl⟩ rfl hl.1 rfl (Nat.le_of_ble_eq_true rfl) dL_law_887 hcs0) hS (fun H locs hR hS => ?_)
    refine lv_aload_n hx hb dL_law_890 rfl (lv_at hl 2 rfl) ?_
    refine lv_aload_n hx hb dL_law_891 rfl (lv_at hl 0 rfl) ?_
    refine lv_iload hx hb dL_law_892 (lv_at hl 4 rfl) ?_
    refine lv_iconst (v := 1) hx hb dL_law_894 (by decide) ?_
    refine lv_iadd hx hb dL_law_895 ?_
    refine law_ld hx hb hX hbl hbA hS hi1 h1 dL_law_896 ?_
    refine lv_aload_n hx hb dL_law_897 rfl (lv_at hl 0 rfl) ?_
    refine lv_iload hx hb dL_law_898 (lv_at hl 4 rfl) ?_
    refine lv_iconst (v := 2) hx hb dL_law_900 (by decide) ?_
    refine lv_iadd hx hb dL_law_901 ?_
    refine law_ld hx hb hX hbl hbA hS hi2 h2 dL_law_902 ?_
    refine lv_aload_n hx hb dL_law_903 rfl (lv_at hl 0 rfl) ?_
    refine lv_iload hx hb dL_law_904 (lv_at hl 4 rfl) ?_
    refine lv_iconst (v := 3) hx hb dL_law_906 (by decide) ?_
    refine lv_iadd hx hb dL_law_907 ?_
    refine law_ld hx hb hX hbl hbA hS hi3 h3 dL_law_908 ?_
    refine lv_if_eq (tgt := 916) hx hb dL_law_909 (by decide) (fun c909 => ?_) (fun c909 => ?_)
    · have h := mif_y h c909
      refine lv_iconst (v := 0) hx hb dL_law_916 (by decide) ?_
      obtain ⟨v917, M917, q917, h⟩ := mbw_e h
      refine m_cig (m_rVg hx hb hml hown hF hR hS (ent9 kd_96) kd_96 rfl (c_X10_report l X a1 a2 0 M887 q917) q_L_111_V hdV_X10_report ⟨Nat.le_of_ble_eq_true rfl, Nat.le_of_ble_eq_true rfl⟩ rfl hl.1 rfl (Nat.le_of_ble_eq_true rfl) dL_law_917 hcs0) hS (fun H locs hR hS => ?_)
      refine lv_icmp_eq (tgt := 1399) hx hb dL_law_920 (by decide) (fun c920 => ?_) (fun c920 => ?_)
      · have h := mif_y h c920
        have h9 := Option.some.inj h
        subst h9
        refine W.widen (k := cells + 1) (n := slots + 6) (Nat.le_succ _) (Nat.le_add_right _ _) ?_
        exact kk H locs ls hR hS (lv_sub hl [0, 1, 2, 3, 4] rfl)
      · have h := mif_n h c920
        refine lv_iconst (v := 0) hx hb dL_law_923 (by decide) ?_
        exact absurd h (fun q => nomatch q)
    · have h := mif_n h c909
      refine lv_iconst (v := 1) hx hb dL_law_912 (by decide) ?_
      refine lv_goto (tgt := 917) hx hb dL_law_913 (by decide) ?_
      obtain ⟨v917, M917, q917, h⟩ := mbw_e h
      refine m_cig (m_rVg hx hb hml hown hF hR hS (ent9 kd_96) kd_96 rfl (c_X10_report l X a1 a2 1 M887 q917) q_L_111_V hdV_X10_report ⟨Nat.le_of_ble_eq_true rfl, Nat.le_of_ble_eq_true rfl⟩ rfl hl.1 rfl (Nat.le_of_ble_eq_true rfl) dL_law_917 hcs0) hS (fun H locs hR hS => ?_)
      refine lv_icmp_eq (tgt := 1399) hx hb dL_law_920 (by decide) (fun c920 => ?_) (fun c920 => ?_)
      · have h := mif_y h c920
        have h9 := Option.some.inj h
        subst h9
        refine W.widen (k := cells + 1) (n := slots + 6) (Nat.le_succ _) (Nat.le_add_right _ _) ?_
        exact kk H locs ls hR hS (lv_sub hl [0, 1, 2, 3, 4] rfl)
      · have h := mif_n h c920
        refine lv_iconst (v := 0) hx hb dL_law_923 (by decide) ?_
        exact absurd h (fun q => nomatch q)
def f_law_c21 (a1 : Int32) (a2 : Int32) (a3 : Int32) (M : mM) : Option mM :=
  mbp (f_X9_believed a1 a2 a3 M) fun v944 =>
  mbp (f_X10_believed a1 a2 a3 M) fun v966 =>
  if v944 = v966 then (some M)
  else (none)
set_option maxRecDepth 100000 in
set_option maxHeartbeats 4000000 in
theorem w_law_c21 {p : Program} {e : Env} {s : State} {m : MethodId} {args : Array Value} {below : List Frame} {meth : Method} {c : Code} {l : Launch} {X : mX} {b L : Nat} {xs : Nat → Int32} {Q : State → Prop} (hlt : l.stackTraces = false) (hx : p.tables.exec = Jvm.exec) (hb : c.code = cL_law) (hml : c.maxLocals = 8) (hown : s.vm.findClass RL = some m.cls) (hF : mF X s s.heap) (hE : mE X s s.heap) (hX : va_X b L xs s s.heap) (hbl : b < s.heap.size) (hbA : ¬ mL X b) {i : Int32} {cells slots : Nat} (hcs0 : cells ≤ room_1.cells ∧ slots ≤ room_1.slots) (hcs : cells + 1 ≤ room_1.cells ∧ slots + 6 ≤ room_1.slots) (a1 : Int32) (a2 : Int32) (a3 : Int32) (hi1 : vp_in (i + 1) L) (h1 : xs (i + 1).toNatClampNeg = a1) (hi2 : vp_in (i + 2) L) (h2 : xs (i + 2).toNatClampNeg = a2) (hi3 : vp_in (i + 3) L) (h3 : xs (i + 3).toNatClampNeg = a3) {M M9 : mM} (h : f_law_c21 a1 a2 a3 M = some M9) {H : Heap} {locs : List Loc} {ls : Array Slot} (hR : mR X s H M) (hS : va_S (mL X) s.heap H locs) (hl : lv_has ls 8 [(0, .ref b), (1, .ref (X.1 0)), (2, .ref (X.1 96)), (3, .ref (X.1 117)), (4, .int i)]) (kk : ∀ (H : Heap) (locs : List Loc) (ls : Array Slot), mR X s H M9 → va_S (mL X) s.heap H locs → lv_has ls 8 [(0, .ref b), (1, .ref (X.1 0)), (2, .ref (X.1 96)), (3, .ref (X.1 117)), (4, .int i)] → W p l e room_1 s m args below meth c H locs (cells + 1) (slots + 6) Q (F0 m 1399 ls [])) : W p l e room_1 s m args below meth c H locs cells slots Q (F0 m 925 ls []) := by
  refine lv_aload_n hx hb dL_law_925 rfl (lv_at hl 1 rfl) ?_
  refine lv_aload_n hx hb dL_law_926 rfl (lv_at hl 0 rfl) ?_
  refine lv_iload hx hb dL_law_927 (lv_at hl 4 rfl) ?_
  refine lv_iconst (v := 1) hx hb dL_law_929 (by decide) ?_
  refine lv_iadd hx hb dL_law_930 ?_
  refine law_ld hx hb hX hbl hbA hS hi1 h1 dL_law_931 ?_
  refine lv_aload_n hx hb dL_law_932 rfl (lv_at hl 0 rfl) ?_
  refine lv_iload hx hb dL_law_933 (lv_at hl 4 rfl) ?_
  refine lv_iconst (v := 2) hx hb dL_law_935 (by decide) ?_
  refine lv_iadd hx hb dL_law_936 ?_
  refine law_ld hx hb hX hbl hbA hS hi2 h2 dL_law_937 ?_
  refine lv_aload_n hx hb dL_law_938 rfl (lv_at hl 0 rfl) ?_
  refine lv_iload hx hb dL_law_939 (lv_at hl 4 rfl) ?_
  refine lv_iconst (v := 3) hx hb dL_law_941 (by decide) ?_
  refine lv_iadd hx hb dL_law_942 ?_
  refine law_ld hx hb hX hbl hbA hS hi3 h3 dL_law_943 ?_
  obtain ⟨v944, q944, h⟩ := mbp_e h
  refine m_cig (m_rVg hx hb hml hown hF hR hS (ent8 kd_0) kd_0 rfl (c_X9_believed l X a1 a2 a3 M q944) q_L_112_V hdV_X9_believed ⟨Nat.le_of_ble_eq_true rfl, Nat.le_of_ble_eq_true rfl⟩ rfl hl.1 rfl (Nat.le_of_ble_eq_true rfl) dL_law_944 hcs0) hS (fun H locs hR hS => ?_)
  refine lv_aload_n hx hb dL_law_947 rfl (lv_at hl 2 rfl) ?_
  refine lv_aload_n hx hb dL_law_948 rfl (lv_at hl 0 rfl) ?_
  refine lv_iload hx hb dL_law_949 (lv_at hl 4 rfl) ?_
  refine lv_iconst (v := 1) hx hb dL_law_951 (by decide) ?_
  refine lv_iadd hx hb dL_law_952 ?_
  refine law_ld hx hb hX hbl hbA hS hi1 h1 dL_law_953 ?_
  refine lv_aload_n hx hb dL_law_954 rfl (lv_at hl 0 rfl) ?_
  refine lv_iload hx hb dL_law_955 (lv_at hl 4 rfl) ?_
  refine lv_iconst (v := 2) hx hb dL_law_957 (by decide) ?_
  refine lv_iadd hx hb dL_law_958 ?_
  refine law_ld hx hb hX hbl hbA hS hi2 h2 dL_law_959 ?_
  refine lv_aload_n hx hb dL_law_960 rfl (lv_at hl 0 rfl) ?_
  refine lv_iload hx hb dL_law_961 (lv_at hl 4 rfl) ?_
  refine lv_iconst (v := 3) hx hb dL_law_963 (by decide) ?_
  refine lv_iadd hx hb dL_law_964 ?_
  refine law_ld hx hb hX hbl hbA hS hi3 h3 dL_law_965 ?_
  obtain ⟨v966, q966, h⟩ := mbp_e h
  refine m_cig (m_rVg hx hb hml hown hF hR hS (ent9 kd_96) kd_96 rfl (c_X10_believed l X a1 a2 a3 M q966) q_L_115_V hdV_X10_believed ⟨Nat.le_of_ble_eq_true rfl, Nat.le_of_ble_eq_true rfl⟩ rfl hl.1 rfl (Nat.le_of_ble_eq_true rfl) dL_law_966 hcs0) hS (fun H locs hR hS => ?_)
  refine lv_icmp_eq (tgt := 1399) hx hb dL_law_969 (by decide) (fun c969 => ?_) (fun c969 => ?_)
  · have h := mif_y h c969
    have h9 := Option.some.inj h
    subst h9
    refine W.widen (k := cells + 1) (n := slots + 6) (Nat.le_succ _) (Nat.le_add_right _ _) ?_
    exact kk H locs ls hR hS (lv_sub hl [0, 1, 2, 3, 4] rfl)
  · have h := mif_n h c969
    refine lv_iconst (v := 0) hx hb dL_law_972 (by decide) ?_
    exact absurd h (fun q => nomatch q)
def f_law_c22 (a1 : Int32) (a2 : Int32) (M : mM) : Option mM :=
  mbp (f_X9_wrong a1 a2 M) fun v987 =>
  mbp (f_X10_wrong a1 a2 M) fun v1003 =>
  if v987 = v1003 then (some M)
  else (none)
set_option maxRecDepth 100000 in
set_option maxHeartbeats 4000000 in
theorem w_law_c22 {p : Program} {e : Env} {s : State} {m : MethodId} {args : Array Value} {below : List Frame} {meth : Method} {c : Code} {l : Launch} {X : mX} {b L : Nat} {xs : Nat → Int32} {Q : State → Prop} (hlt : l.stackTraces = false) (hx : p.tables.exec = Jvm.exec) (hb : c.code = cL_law) (hml : c.maxLocals = 8) (hown : s.vm.findClass RL = some m.cls) (hF : mF X s s.heap) (hE : mE X s s.heap) (hX : va_X b L xs s s.heap) (hbl : b < s.heap.size) (hbA : ¬ mL X b) {i : Int32} {cells slots : Nat} (hcs0 : cells ≤ room_1.cells ∧ slots ≤ room_1.slots) (hcs : cells + 1 ≤ room_1.cells ∧ slots + 6 ≤ room_1.slots) (a1 : Int32) (a2 : Int32) (hi1 : vp_in (i + 1) L) (h1 : xs (i + 1).toNatClampNeg = a1) (hi2 : vp_in (i + 2) L) (h2 : xs (i + 2).toNatClampNeg = a2) {M M9 : mM} (h : f_law_c22 a1 a2 M = some M9) {H : Heap} {locs : List Loc} {ls : Array Slot} (hR : mR X s H M) (hS : va_S (mL X) s.heap H locs) (hl : lv_has ls 8 [(0, .ref b), (1, .ref (X.1 0)), (2, .ref (X.1 96)), (3, .ref (X.1 117)), (4, .int i)]) (kk : ∀ (H : Heap) (locs : List Loc) (ls : Array Slot), mR X s H M9 → va_S (mL X) s.heap H locs → lv_has ls 8 [(0, .ref b), (1, .ref (X.1 0)), (2, .ref (X.1 96)), (3, .ref (X.1 117)), (4, .int i)] → W p l e room_1 s m args below meth c H locs (cells + 1) (slots + 6) Q (F0 m 1399 ls [])) : W p l e room_1 s m args below meth c H locs cells slots Q (F0 m 974 ls []) := by
  refine lv_aload_n hx hb dL_law_974 rfl (lv_at hl 1 rfl) ?_
  refine lv_aload_n hx hb dL_law_975 rfl (lv_at hl 0 rfl) ?_
  refine lv_iload hx hb dL_law_976 (lv_at hl 4 rfl) ?_
  refine lv_iconst (v := 1) hx hb dL_law_978 (by decide) ?_
  refine lv_iadd hx hb dL_law_979 ?_
  refine law_ld hx hb hX hbl hbA hS hi1 h1 dL_law_980 ?_
  refine lv_aload_n hx hb dL_law_981 rfl (lv_at hl 0 rfl) ?_
  refine lv_iload hx hb dL_law_982 (lv_at hl 4 rfl) ?_
  refine lv_iconst (v := 2) hx hb dL_law_984 (by decide) ?_
  refine lv_iadd hx hb dL_law_985 ?_
  refine law_ld hx hb hX hbl hbA hS hi2 h2 dL_law_986 ?_
  obtain ⟨v987, q987, h⟩ := mbp_e h
  refine m_cig (m_rVg hx hb hml hown hF hR hS (ent8 kd_0) kd_0 rfl (c_X9_wrong l X a1 a2 M q987) q_L_116_V hdV_X9_wrong ⟨Nat.le_of_ble_eq_true rfl, Nat.le_of_ble_eq_true rfl⟩ rfl hl.1 rfl (Nat.le_of_ble_eq_true rfl) dL_law_987 hcs0) hS (fun H locs hR hS => ?_)
  refine lv_aload_n hx hb dL_law_990 rfl (lv_at hl 2 rfl) ?_
  refine lv_aload_n hx hb dL_law_991 rfl (lv_at hl 0 rfl) ?_
  refine lv_iload hx hb dL_law_992 (lv_at hl 4 rfl) ?_
  refine lv_iconst (v := 1) hx hb dL_law_994 (by decide) ?_
  refine lv_iadd hx hb dL_law_995 ?_
  refine law_ld hx hb hX hbl hbA hS hi1 h1 dL_law_996 ?_
  refine lv_aload_n hx hb dL_law_997 rfl (lv_at hl 0 rfl) ?_
  refine lv_iload hx hb dL_law_998 (lv_at hl 4 rfl) ?_
  refine lv_iconst (v := 2) hx hb dL_law_1000 (by decide) ?_
  refine lv_iadd hx hb dL_law_1001 ?_
  refine law_ld hx hb hX hbl hbA hS hi2 h2 dL_law_1002 ?_
  obtain ⟨v1003, q1003, h⟩ := mbp_e h
  refine m_cig (m_rVg hx hb hml hown hF hR hS (ent9 kd_96) kd_96 rfl (c_X10_wrong l X a1 a2 M q1003) q_L_119_V hdV_X10_wrong ⟨Nat.le_of_ble_eq_true rfl, Nat.le_of_ble_eq_true rfl⟩ rfl hl.1 rfl (Nat.le_of_ble_eq_true rfl) dL_law_1003 hcs0) hS (fun H locs hR hS => ?_)
  refine lv_icmp_eq (tgt := 1399) hx hb dL_law_1006 (by decide) (fun c1006 => ?_) (fun c1006 => ?_)
  · have h := mif_y h c1006
    have h9 := Option.some.inj h
    subst h9
    refine W.widen (k := cells + 1) (n := slots + 6) (Nat.le_succ _) (Nat.le_add_right _ _) ?_
    exact kk H locs ls hR hS (lv_sub hl [0, 1, 2, 3, 4] rfl)
  · have h := mif_n h c1006
    refine lv_iconst (v := 0) hx hb dL_law_1009 (by decide) ?_
    exact absurd h (fun q => nomatch q)
def f_law_c23 (M : mM) : Option mM :=
  mbw (f_X9_image M) fun v1012 M1012 =>
  mbw (f_X10_image M1012) fun v1016 M1016 =>
  if v1012 = v1016 then (some M1016)
  else (none)
set_option maxRecDepth 100000 in
set_option maxHeartbeats 4000000 in
theorem w_law_c23 {p : Program} {e : Env} {s : State} {m : MethodId} {args : Array Value} {below : List Frame} {meth : Method} {c : Code} {l : Launch} {X : mX} {b L : Nat} {xs : Nat → Int32} {Q : State → Prop} (hlt : l.stackTraces = false) (hx : p.tables.exec = Jvm.exec) (hb : c.code = cL_law) (hml : c.maxLocals = 8) (hown : s.vm.findClass RL = some m.cls) (hF : mF X s s.heap) (hE : mE X s s.heap) (hX : va_X b L xs s s.heap) (hbl : b < s.heap.size) (hbA : ¬ mL X b) {i : Int32} {cells slots : Nat} (hcs0 : cells ≤ room_1.cells ∧ slots ≤ room_1.slots) (hcs : cells + 1 ≤ room_1.cells ∧ slots + 6 ≤ room_1.slots) {M M9 : mM} (h : f_law_c23 M = some M9) {H : Heap} {locs : List Loc} {ls : Array Slot} (hR : mR X s H M) (hS : va_S (mL X) s.heap H locs) (hl : lv_has ls 8 [(0, .ref b), (1, .ref (X.1 0)), (2, .ref (X.1 96)), (3, .ref (X.1 117)), (4, .int i)]) (kk : ∀ (H : Heap) (locs : List Loc) (ls : Array Slot), mR X s H M9 → va_S (mL X) s.heap H locs → lv_has ls 8 [(0, .ref b), (1, .ref (X.1 0)), (2, .ref (X.1 96)), (3, .ref (X.1 117)), (4, .int i)] → W p l e room_1 s m args below meth c H locs (cells + 1) (slots + 6) Q (F0 m 1399 ls [])) : W p l e room_1 s m args below meth c H locs cells slots Q (F0 m 1011 ls []) := by
  refine lv_aload_n hx hb dL_law_1011 rfl (lv_at hl 1 rfl) ?_
  obtain ⟨v1012, M1012, q1012, h⟩ := mbw_e h
  refine m_cig (m_rVg hx hb hml hown hF hR hS (ent8 kd_0) kd_0 rfl (c_X9_image l X M q1012) q_L_120_V hdV_X9_image ⟨Nat.le_of_ble_eq_true rfl, Nat.le_of_ble_eq_true rfl⟩ rfl hl.1 rfl (Nat.le_of_ble_eq_true rfl) dL_law_1012 hcs0) hS (fun H locs hR hS => ?_)
  refine lv_aload_n hx hb dL_law_1015 rfl (lv_at hl 2 rfl) ?_
  obtain ⟨v1016, M1016, q1016, h⟩ := mbw_e h
  refine m_cig (m_rVg hx hb hml hown hF hR hS (ent9 kd_96) kd_96 rfl (c_X10_image l X M1012 q1016) q_L_123_V hdV_X10_image ⟨Nat.le_of_ble_eq_true rfl, Nat.le_of_ble_eq_true rfl⟩ rfl hl.1 rfl (Nat.le_of_ble_eq_true rfl) dL_law_1016 hcs0) hS (fun H locs hR hS => ?_)
  refine lv_icmp_eq (tgt := 1399) hx hb dL_law_1019 (by decide) (fun c1019 => ?_) (fun c1019 => ?_)
  · have h := mif_y h c1019
    have h9 := Option.some.inj h
    subst h9
    refine W.widen (k := cells + 1) (n := slots + 6) (Nat.le_succ _) (Nat.le_add_right _ _) ?_
    exact kk H locs ls hR hS (lv_sub hl [0, 1, 2, 3, 4] rfl)
  · have h := mif_n h c1019
    refine lv_iconst (v := 0) hx hb dL_law_1022 (by decide) ?_
    exact absurd h (fun q => nomatch q)
def f_law_c24 (M : mM) : Option mM :=
  mbw (f_X9_restore M) fun v1025 M1025 =>
  mbw (f_X10_restore M1025) fun v1029 M1029 =>
  if v1025 = v1029 then (some M1029)
  else (none)
set_option maxRecDepth 100000 in
set_option maxHeartbeats 4000000 in
theorem w_law_c24 {p : Program} {e : Env} {s : State} {m : MethodId} {args : Array Value} {below : List Frame} {meth : Method} {c : Code} {l : Launch} {X : mX} {b L : Nat} {xs : Nat → Int32} {Q : State → Prop} (hlt : l.stackTraces = false) (hx : p.tables.exec = Jvm.exec) (hb : c.code = cL_law) (hml : c.maxLocals = 8) (hown : s.vm.findClass RL = some m.cls) (hF : mF X s s.heap) (hE : mE X s s.heap) (hX : va_X b L xs s s.heap) (hbl : b < s.heap.size) (hbA : ¬ mL X b) {i : Int32} {cells slots : Nat} (hcs0 : cells ≤ room_1.cells ∧ slots ≤ room_1.slots) (hcs : cells + 1 ≤ room_1.cells ∧ slots + 6 ≤ room_1.slots) {M M9 : mM} (h : f_law_c24 M = some M9) {H : Heap} {locs : List Loc} {ls : Array Slot} (hR : mR X s H M) (hS : va_S (mL X) s.heap H locs) (hl : lv_has ls 8 [(0, .ref b), (1, .ref (X.1 0)), (2, .ref (X.1 96)), (3, .ref (X.1 117)), (4, .int i)]) (kk : ∀ (H : Heap) (locs : List Loc) (ls : Array Slot), mR X s H M9 → va_S (mL X) s.heap H locs → lv_has ls 8 [(0, .ref b), (1, .ref (X.1 0)), (2, .ref (X.1 96)), (3, .ref (X.1 117)), (4, .int i)] → W p l e room_1 s m args below meth c H locs (cells + 1) (slots + 6) Q (F0 m 1399 ls [])) : W p l e room_1 s m args below meth c H locs cells slots Q (F0 m 1024 ls []) := by
  refine lv_aload_n hx hb dL_law_1024 rfl (lv_at hl 1 rfl) ?_
  obtain ⟨v1025, M1025, q1025, h⟩ := mbw_e h
  refine m_cig (m_rVg hx hb hml hown hF hR hS (ent8 kd_0) kd_0 rfl (c_X9_restore l X M q1025) q_L_124_V hdV_X9_restore ⟨Nat.le_of_ble_eq_true rfl, Nat.le_of_ble_eq_true rfl⟩ rfl hl.1 rfl (Nat.le_of_ble_eq_true rfl) dL_law_1025 hcs0) hS (fun H locs hR hS => ?_)
  refine lv_aload_n hx hb dL_law_1028 rfl (lv_at hl 2 rfl) ?_
  obtain ⟨v1029, M1029, q1029, h⟩ := mbw_e h
  refine m_cig (m_rVg hx hb hml hown hF hR hS (ent9 kd_96) kd_96 rfl (c_X10_restore l X M1025 q1029) q_L_127_V hdV_X10_restore ⟨Nat.le_of_ble_eq_true rfl, Nat.le_of_ble_eq_true rfl⟩ rfl hl.1 rfl (Nat.le_of_ble_eq_true rfl) dL_law_1029 hcs0) hS (fun H locs hR hS => ?_)
  refine lv_icmp_eq (tgt := 1399) hx hb dL_law_1032 (by decide) (fun c1032 => ?_) (fun c1032 => ?_)
  · have h := mif_y h c1032
    have h9 := Option.some.inj h
    subst h9
    refine W.widen (k := cells + 1) (n := slots + 6) (Nat.le_succ _) (Nat.le_add_right _ _) ?_
    exact kk H locs ls hR hS (lv_sub hl [0, 1, 2, 3, 4] rfl)
  · have h := mif_n h c1032
    refine lv_iconst (v := 0) hx hb dL_law_1035 (by decide) ?_
    exact absurd h (fun q => nomatch q)
def f_law_c25 (a1 : Int32) (M : mM) : Option mM :=
  mbp (f_X9_count a1 M) fun v1044 =>
  mbp (f_X10_count a1 M) fun v1054 =>
  if v1044 = v1054 then (some M)
  else (none)
set_option maxRecDepth 100000 in
set_option maxHeartbeats 4000000 in
theorem w_law_c25 {p : Program} {e : Env} {s : State} {m : MethodId} {args : Array Value} {below : List Frame} {meth : Method} {c : Code} {l : Launch} {X : mX} {b L : Nat} {xs : Nat → Int32} {Q : State → Prop} (hlt : l.stackTraces = false) (hx : p.tables.exec = Jvm.exec) (hb : c.code = cL_law) (hml : c.maxLocals = 8) (hown : s.vm.findClass RL = some m.cls) (hF : mF X s s.heap) (hE : mE X s s.heap) (hX : va_X b L xs s s.heap) (hbl : b < s.heap.size) (hbA : ¬ mL X b) {i : Int32} {cells slots : Nat} (hcs0 : cells ≤ room_1.cells ∧ slots ≤ room_1.slots) (hcs : cells + 1 ≤ room_1.cells ∧ slots + 6 ≤ room_1.slots) (a1 : Int32) (hi1 : vp_in (i + 1) L) (h1 : xs (i + 1).toNatClampNeg = a1) {M M9 : mM} (h : f_law_c25 a1 M = some M9) {H : Heap} {locs : List Loc} {ls : Array Slot} (hR : mR X s H M) (hS : va_S (mL X) s.heap H locs) (hl : lv_has ls 8 [(0, .ref b), (1, .ref (X.1 0)), (2, .ref (X.1 96)), (3, .ref (X.1 117)), (4, .int i)]) (kk : ∀ (H : Heap) (locs : List Loc) (ls : Array Slot), mR X s H M9 → va_S (mL X) s.heap H locs → lv_has ls 8 [(0, .ref b), (1, .ref (X.1 0)), (2, .ref (X.1 96)), (3, .ref (X.1 117)), (4, .int i)] → W p l e room_1 s m args below meth c H locs (cells + 1) (slots + 6) Q (F0 m 1399 ls [])) : W p l e room_1 s m args below meth c H locs cells slots Q (F0 m 1037 ls []) := by
  refine lv_aload_n hx hb dL_law_1037 rfl (lv_at hl 1 rfl) ?_
  refine lv_aload_n hx hb dL_law_1038 rfl (lv_at hl 0 rfl) ?_
  refine lv_iload hx hb dL_law_1039 (lv_at hl 4 rfl) ?_
  refine lv_iconst (v := 1) hx hb dL_law_1041 (by decide) ?_
  refine lv_iadd hx hb dL_law_1042 ?_
  refine law_ld hx hb hX hbl hbA hS hi1 h1 dL_law_1043 ?_
  obtain ⟨v1044, q1044, h⟩ := mbp_e h
  refine m_cig (m_rVg hx hb hml hown hF hR hS (ent8 kd_0) kd_0 rfl (c_X9_count l X a1 M q1044) q_L_128_V hdV_X9_count ⟨Nat.le_of_ble_eq_true rfl, Nat.le_of_ble_eq_true rfl⟩ rfl hl.1 rfl (Nat.le_of_ble_eq_true rfl) dL_law_1044 hcs0) hS (fun H locs hR hS => ?_)
  refine lv_aload_n hx hb dL_law_1047 rfl (lv_at hl 2 rfl) ?_
  refine lv_aload_n hx hb dL_law_1048 rfl (lv_at hl 0 rfl) ?_
  refine lv_iload hx hb dL_law_1049 (lv_at hl 4 rfl) ?_
  refine lv_iconst (v := 1) hx hb dL_law_1051 (by decide) ?_
  refine lv_iadd hx hb dL_law_1052 ?_
  refine law_ld hx hb hX hbl hbA hS hi1 h1 dL_law_1053 ?_
  obtain ⟨v1054, q1054, h⟩ := mbp_e h
  refine m_cig (m_rVg hx hb hml hown hF hR hS (ent9 kd_96) kd_96 rfl (c_X10_count l X a1 M q1054) q_L_131_V hdV_X10_count ⟨Nat.le_of_ble_eq_true rfl, Nat.le_of_ble_eq_true rfl⟩ rfl hl.1 rfl (Nat.le_of_ble_eq_true rfl) dL_law_1054 hcs0) hS (fun H locs hR hS => ?_)
  refine lv_icmp_eq (tgt := 1399) hx hb dL_law_1057 (by decide) (fun c1057 => ?_) (fun c1057 => ?_)
  · have h := mif_y h c1057
    have h9 := Option.some.inj h
    subst h9
    refine W.widen (k := cells + 1) (n := slots + 6) (Nat.le_succ _) (Nat.le_add_right _ _) ?_
    exact kk H locs ls hR hS (lv_sub hl [0, 1, 2, 3, 4] rfl)
  · have h := mif_n h c1057
    refine lv_iconst (v := 0) hx hb dL_law_1060 (by decide) ?_
    exact absurd h (fun q => nomatch q)
def f_law_c26 (a1 : Int32) (a2 : Int32) (a3 : Int32) (M : mM) : Option mM :=
  mbw (f_X9_keep a1 a2 a3 M) fun v1081 M1081 =>
  mbw (f_X10_keep a1 a2 a3 M1081) fun v1103 M1103 =>
  if v1081 = v1103 then (some M1103)
  else (none)
set_option maxRecDepth 100000 in
set_option maxHeartbeats 4000000 in
theorem w_law_c26 {p : Program} {e : Env} {s : State} {m : MethodId} {args : Array Value} {below : List Frame} {meth : Method} {c : Code} {l : Launch} {X : mX} {b L : Nat} {xs : Nat → Int32} {Q : State → Prop} (hlt : l.stackTraces = false) (hx : p.tables.exec = Jvm.exec) (hb : c.code = cL_law) (hml : c.maxLocals = 8) (hown : s.vm.findClass RL = some m.cls) (hF : mF X s s.heap) (hE : mE X s s.heap) (hX : va_X b L xs s s.heap) (hbl : b < s.heap.size) (hbA : ¬ mL X b) {i : Int32} {cells slots : Nat} (hcs0 : cells ≤ room_1.cells ∧ slots ≤ room_1.slots) (hcs : cells + 1 ≤ room_1.cells ∧ slots + 6 ≤ room_1.slots) (a1 : Int32) (a2 : Int32) (a3 : Int32) (hi1 : vp_in (i + 1) L) (h1 : xs (i + 1).toNatClampNeg = a1) (hi2 : vp_in (i + 2) L) (h2 : xs (i + 2).toNatClampNeg = a2) (hi3 : vp_in (i + 3) L) (h3 : xs (i + 3).toNatClampNeg = a3) {M M9 : mM} (h : f_law_c26 a1 a2 a3 M = some M9) {H : Heap} {locs : List Loc} {ls : Array Slot} (hR : mR X s H M) (hS : va_S (mL X) s.heap H locs) (hl : lv_has ls 8 [(0, .ref b), (1, .ref (X.1 0)), (2, .ref (X.1 96)), (3, .ref (X.1 117)), (4, .int i)]) (kk : ∀ (H : Heap) (locs : List Loc) (ls : Array Slot), mR X s H M9 → va_S (mL X) s.heap H locs → lv_has ls 8 [(0, .ref b), (1, .ref (X.1 0)), (2, .ref (X.1 96)), (3, .ref (X.1 117)), (4, .int i)] → W p l e room_1 s m args below meth c H locs (cells + 1) (slots + 6) Q (F0 m 1399 ls [])) : W p l e room_1 s m args below meth c H locs cells slots Q (F0 m 1062 ls []) := by
  refine lv_aload_n hx hb dL_law_1062 rfl (lv_at hl 1 rfl) ?_
  refine lv_aload_n hx hb dL_law_1063 rfl (lv_at hl 0 rfl) ?_
  refine lv_iload hx hb dL_law_1064 (lv_at hl 4 rfl) ?_
  refine lv_iconst (v := 1) hx hb dL_law_1066 (by decide) ?_
  refine lv_iadd hx hb dL_law_1067 ?_
  refine law_ld hx hb hX hbl hbA hS hi1 h1 dL_law_1068 ?_
  refine lv_aload_n hx hb dL_law_1069 rfl (lv_at hl 0 rfl) ?_
  refine lv_iload hx hb dL_law_1070 (lv_at hl 4 rfl) ?_
  refine lv_iconst (v := 2) hx hb dL_law_1072 (by decide) ?_
  refine lv_iadd hx hb dL_law_1073 ?_
  refine law_ld hx hb hX hbl hbA hS hi2 h2 dL_law_1074 ?_
  refine lv_aload_n hx hb dL_law_1075 rfl (lv_at hl 0 rfl) ?_
  refine lv_iload hx hb dL_law_1076 (lv_at hl 4 rfl) ?_
  refine lv_iconst (v := 3) hx hb dL_law_1078 (by decide) ?_
  refine lv_iadd hx hb dL_law_1079 ?_
  refine law_ld hx hb hX hbl hbA hS hi3 h3 dL_law_1080 ?_
  obtain ⟨v1081, M1081, q1081, h⟩ := mbw_e h
  refine m_cig (m_rVg hx hb hml hown hF hR hS (ent8 kd_0) kd_0 rfl (c_X9_keep l X a1 a2 a3 M q1081) q_L_132_V hdV_X9_keep ⟨Nat.le_of_ble_eq_true rfl, Nat.le_of_ble_eq_true rfl⟩ rfl hl.1 rfl (Nat.le_of_ble_eq_true rfl) dL_law_1081 hcs0) hS (fun H locs hR hS => ?_)
  refine lv_aload_n hx hb dL_law_1084 rfl (lv_at hl 2 rfl) ?_
  refine lv_aload_n hx hb dL_law_1085 rfl (lv_at hl 0 rfl) ?_
  refine lv_iload hx hb dL_law_1086 (lv_at hl 4 rfl) ?_
  refine lv_iconst (v := 1) hx hb dL_law_1088 (by decide) ?_
  refine lv_iadd hx hb dL_law_1089 ?_
  refine law_ld hx hb hX hbl hbA hS hi1 h1 dL_law_1090 ?_
  refine lv_aload_n hx hb dL_law_1091 rfl (lv_at hl 0 rfl) ?_
  refine lv_iload hx hb dL_law_1092 (lv_at hl 4 rfl) ?_
  refine lv_iconst (v := 2) hx hb dL_law_1094 (by decide) ?_
  refine lv_iadd hx hb dL_law_1095 ?_
  refine law_ld hx hb hX hbl hbA hS hi2 h2 dL_law_1096 ?_
  refine lv_aload_n hx hb dL_law_1097 rfl (lv_at hl 0 rfl) ?_
  refine lv_iload hx hb dL_law_1098 (lv_at hl 4 rfl) ?_
  refine lv_iconst (v := 3) hx hb dL_law_1100 (by decide) ?_
  refine lv_iadd hx hb dL_law_1101 ?_
  refine law_ld hx hb hX hbl hbA hS hi3 h3 dL_law_1102 ?_
  obtain ⟨v1103, M1103, q1103, h⟩ := mbw_e h
  refine m_cig (m_rVg hx hb hml hown hF hR hS (ent9 kd_96) kd_96 rfl (c_X10_keep l X a1 a2 a3 M1081 q1103) q_L_135_V hdV_X10_keep ⟨Nat.le_of_ble_eq_true rfl, Nat.le_of_ble_eq_true rfl⟩ rfl hl.1 rfl (Nat.le_of_ble_eq_true rfl) dL_law_1103 hcs0) hS (fun H locs hR hS => ?_)
  refine lv_icmp_eq (tgt := 1399) hx hb dL_law_1106 (by decide) (fun c1106 => ?_) (fun c1106 => ?_)
  · have h := mif_y h c1106
    have h9 := Option.some.inj h
    subst h9
    refine W.widen (k := cells + 1) (n := slots + 6) (Nat.le_succ _) (Nat.le_add_right _ _) ?_
    exact kk H locs ls hR hS (lv_sub hl [0, 1, 2, 3, 4] rfl)
  · have h := mif_n h c1106
    refine lv_iconst (v := 0) hx hb dL_law_1109 (by decide) ?_
    exact absurd h (fun q => nomatch q)
def f_law_c27 (a1 : Int32) (a2 : Int32) (a3 : Int32) (M : mM) : Option mM :=
  mbw (f_X9_row a1 a2 a3 M) fun v1130 M1130 =>
  mbw (f_X10_row a1 a2 a3 M1130) fun v1152 M1152 =>
  if v1130 = v1152 then (some M1152)
  else (none)
set_option maxRecDepth 100000 in
set_option maxHeartbeats 4000000 in
theorem w_law_c27 {p : Program} {e : Env} {s : State} {m : MethodId} {args : Array Value} {below : List Frame} {meth : Method} {c : Code} {l : Launch} {X : mX} {b L : Nat} {xs : Nat → Int32} {Q : State → Prop} (hlt : l.stackTraces = false) (hx : p.tables.exec = Jvm.exec) (hb : c.code = cL_law) (hml : c.maxLocals = 8) (hown : s.vm.findClass RL = some m.cls) (hF : mF X s s.heap) (hE : mE X s s.heap) (hX : va_X b L xs s s.heap) (hbl : b < s.heap.size) (hbA : ¬ mL X b) {i : Int32} {cells slots : Nat} (hcs0 : cells ≤ room_1.cells ∧ slots ≤ room_1.slots) (hcs : cells + 1 ≤ room_1.cells ∧ slots + 6 ≤ room_1.slots) (a1 : Int32) (a2 : Int32) (a3 : Int32) (hi1 : vp_in (i + 1) L) (h1 : xs (i + 1).toNatClampNeg = a1) (hi2 : vp_in (i + 2) L) (h2 : xs (i + 2).toNatClampNeg = a2) (hi3 : vp_in (i + 3) L) (h3 : xs (i + 3).toNatClampNeg = a3) {M M9 : mM} (h : f_law_c27 a1 a2 a3 M = some M9) {H : Heap} {locs : List Loc} {ls : Array Slot} (hR : mR X s H M) (hS : va_S (mL X) s.heap H locs) (hl : lv_has ls 8 [(0, .ref b), (1, .ref (X.1 0)), (2, .ref (X.1 96)), (3, .ref (X.1 117)), (4, .int i)]) (kk : ∀ (H : Heap) (locs : List Loc) (ls : Array Slot), mR X s H M9 → va_S (mL X) s.heap H locs → lv_has ls 8 [(0, .ref b), (1, .ref (X.1 0)), (2, .ref (X.1 96)), (3, .ref (X.1 117)), (4, .int i)] → W p l e room_1 s m args below meth c H locs (cells + 1) (slots + 6) Q (F0 m 1399 ls [])) : W p l e room_1 s m args below meth c H locs cells slots Q (F0 m 1111 ls []) := by
  refine lv_aload_n hx hb dL_law_1111 rfl (lv_at hl 1 rfl) ?_
  refine lv_aload_n hx hb dL_law_1112 rfl (lv_at hl 0 rfl) ?_
  refine lv_iload hx hb dL_law_1113 (lv_at hl 4 rfl) ?_
  refine lv_iconst (v := 1) hx hb dL_law_1115 (by decide) ?_
  refine lv_iadd hx hb dL_law_1116 ?_
  refine law_ld hx hb hX hbl hbA hS hi1 h1 dL_law_1117 ?_
  refine lv_aload_n hx hb dL_law_1118 rfl (lv_at hl 0 rfl) ?_
  refine lv_iload hx hb dL_law_1119 (lv_at hl 4 rfl) ?_
  refine lv_iconst (v := 2) hx hb dL_law_1121 (by decide) ?_
  refine lv_iadd hx hb dL_law_1122 ?_
  refine law_ld hx hb hX hbl hbA hS hi2 h2 dL_law_1123 ?_
  refine lv_aload_n hx hb dL_law_1124 rfl (lv_at hl 0 rfl) ?_
  refine lv_iload hx hb dL_law_1125 (lv_at hl 4 rfl) ?_
  refine lv_iconst (v := 3) hx hb dL_law_1127 (by decide) ?_
  refine lv_iadd hx hb dL_law_1128 ?_
  refine law_ld hx hb hX hbl hbA hS hi3 h3 dL_law_1129 ?_
  obtain ⟨v1130, M1130, q1130, h⟩ := mbw_e h
  refine m_cig (m_rVg hx hb hml hown hF hR hS (ent8 kd_0) kd_0 rfl (c_X9_row l X a1 a2 a3 M q1130) q_L_136_V hdV_X9_row ⟨Nat.le_of_ble_eq_true rfl, Nat.le_of_ble_eq_true rfl⟩ rfl hl.1 rfl (Nat.le_of_ble_eq_true rfl) dL_law_1130 hcs0) hS (fun H locs hR hS => ?_)
  refine lv_aload_n hx hb dL_law_1133 rfl (lv_at hl 2 rfl) ?_
  refine lv_aload_n hx hb dL_law_1134 rfl (lv_at hl 0 rfl) ?_
  refine lv_iload hx hb dL_law_1135 (lv_at hl 4 rfl) ?_
  refine lv_iconst (v := 1) hx hb dL_law_1137 (by decide) ?_
  refine lv_iadd hx hb dL_law_1138 ?_
  refine law_ld hx hb hX hbl hbA hS hi1 h1 dL_law_1139 ?_
  refine lv_aload_n hx hb dL_law_1140 rfl (lv_at hl 0 rfl) ?_
  refine lv_iload hx hb dL_law_1141 (lv_at hl 4 rfl) ?_
  refine lv_iconst (v := 2) hx hb dL_law_1143 (by decide) ?_
  refine lv_iadd hx hb dL_law_1144 ?_
  refine law_ld hx hb hX hbl hbA hS hi2 h2 dL_law_1145 ?_
  refine lv_aload_n hx hb dL_law_1146 rfl (lv_at hl 0 rfl) ?_
  refine lv_iload hx hb dL_law_1147 (lv_at hl 4 rfl) ?_
  refine lv_iconst (v := 3) hx hb dL_law_1149 (by decide) ?_
  refine lv_iadd hx hb dL_law_1150 ?_
  refine law_ld hx hb hX hbl hbA hS hi3 h3 dL_law_1151 ?_
  obtain ⟨v1152, M1152, q1152, h⟩ := mbw_e h
  refine m_cig (m_rVg hx hb hml hown hF hR hS (ent9 kd_96) kd_96 rfl (c_X10_row l X a1 a2 a3 M1130 q1152) q_L_139_V hdV_X10_row ⟨Nat.le_of_ble_eq_true rfl, Nat.le_of_ble_eq_true rfl⟩ rfl hl.1 rfl (Nat.le_of_ble_eq_true rfl) dL_law_1152 hcs0) hS (fun H locs hR hS => ?_)
  refine lv_icmp_eq (tgt := 1399) hx hb dL_law_1155 (by decide) (fun c1155 => ?_) (fun c1155 => ?_)
  · have h := mif_y h c1155
    have h9 := Option.some.inj h
    subst h9
    refine W.widen (k := cells + 1) (n := slots + 6) (Nat.le_succ _) (Nat.le_add_right _ _) ?_
    exact kk H locs ls hR hS (lv_sub hl [0, 1, 2, 3, 4] rfl)
  · have h := mif_n h c1155
    refine lv_iconst (v := 0) hx hb dL_law_1158 (by decide) ?_
    exact absurd h (fun q => nomatch q)
def f_law_c28 (a1 : Int32) (a2 : Int32) (a3 : Int32) (M : mM) : Option mM :=
  mbw (f_X9_put a1 a2 a3 M) fun v1179 M1179 =>
  mbw (f_X10_put a1 a2 a3 M1179) fun v1201 M1201 =>
  if v1179 = v1201 then (some M1201)
  else (none)
set_option maxRecDepth 100000 in
set_option maxHeartbeats 4000000 in
theorem w_law_c28 {p : Program} {e : Env} {s : State} {m : MethodId} {args : Array Value} {below : List Frame} {meth : Method} {c : Code} {l : Launch} {X : mX} {b L : Nat} {xs : Nat → Int32} {Q : State → Prop} (hlt : l.stackTraces = false) (hx : p.tables.exec = Jvm.exec) (hb : c.code = cL_law) (hml : c.maxLocals = 8) (hown : s.vm.findClass RL = some m.cls) (hF : mF X s s.heap) (hE : mE X s s.heap) (hX : va_X b L xs s s.heap) (hbl : b < s.heap.size) (hbA : ¬ mL X b) {i : Int32} {cells slots : Nat} (hcs0 : cells ≤ room_1.cells ∧ slots ≤ room_1.slots) (hcs : cells + 1 ≤ room_1.cells ∧ slots + 6 ≤ room_1.slots) (a1 : Int32) (a2 : Int32) (a3 : Int32) (hi1 : vp_in (i + 1) L) (h1 : xs (i + 1).toNatClampNeg = a1) (hi2 : vp_in (i + 2) L) (h2 : xs (i + 2).toNatClampNeg = a2) (hi3 : vp_in (i + 3) L) (h3 : xs (i + 3).toNatClampNeg = a3) {M M9 : mM} (h : f_law_c28 a1 a2 a3 M = some M9) {H : Heap} {locs : List Loc} {ls : Array Slot} (hR : mR X s H M) (hS : va_S (mL X) s.heap H locs) (hl : lv_has ls 8 [(0, .ref b), (1, .ref (X.1 0)), (2, .ref (X.1 96)), (3, .ref (X.1 117)), (4, .int i)]) (kk : ∀ (H : Heap) (locs : List Loc) (ls : Array Slot), mR X s H M9 → va_S (mL X) s.heap H locs → lv_has ls 8 [(0, .ref b), (1, .ref (X.1 0)), (2, .ref (X.1 96)), (3, .ref (X.1 117)), (4, .int i)] → W p l e room_1 s m args below meth c H locs (cells + 1) (slots + 6) Q (F0 m 1399 ls [])) : W p l e room_1 s m args below meth c H locs cells slots Q (F0 m 1160 ls []) := by
  refine lv_aload_n hx hb dL_law_1160 rfl (lv_at hl 1 rfl) ?_
  refine lv_aload_n hx hb dL_law_1161 rfl (lv_at hl 0 rfl) ?_
  refine lv_iload hx hb dL_law_1162 (lv_at hl 4 rfl) ?_
  refine lv_iconst (v := 1) hx hb dL_law_1164 (by decide) ?_
  refine lv_iadd hx hb dL_law_1165 ?_
  refine law_ld hx hb hX hbl hbA hS hi1 h1 dL_law_1166 ?_
  refine lv_aload_n hx hb dL_law_1167 rfl (lv_at hl 0 rfl) ?_
  refine lv_iload hx hb dL_law_1168 (lv_at hl 4 rfl) ?_
  refine lv_iconst (v := 2) hx hb dL_law_1170 (by decide) ?_
  refine lv_iadd hx hb dL_law_1171 ?_
  refine law_ld hx hb hX hbl hbA hS hi2 h2 dL_law_1172 ?_
  refine lv_aload_n hx hb dL_law_1173 rfl (lv_at hl 0 rfl) ?_
  refine lv_iload hx hb dL_law_1174 (lv_at hl 4 rfl) ?_
  refine lv_iconst (v := 3) hx hb dL_law_1176 (by decide) ?_
  refine lv_iadd hx hb dL_law_1177 ?_
  refine law_ld hx hb hX hbl hbA hS hi3 h3 dL_law_1178 ?_
  obtain ⟨v1179, M1179, q1179, h⟩ := mbw_e h
  refine m_cig (m_rVg hx hb hml hown hF hR hS (ent8 kd_0) kd_0 rfl (c_X9_put l X a1 a2 a3 M q1179) q_L_140_V hdV_X9_put ⟨Nat.le_of_ble_eq_true rfl, Nat.le_of_ble_eq_true rfl⟩ rfl hl.1 rfl (Nat.le_of_ble_eq_true rfl) dL_law_1179 hcs0) hS (fun H locs hR hS => ?_)
  refine lv_aload_n hx hb dL_law_1182 rfl (lv_at hl 2 rfl) ?_
  refine lv_aload_n hx hb dL_law_1183 rfl (lv_at hl 0 rfl) ?_
  refine lv_iload hx hb dL_law_1184 (lv_at hl 4 rfl) ?_
  refine lv_iconst (v := 1) hx hb dL_law_1186 (by decide) ?_
  refine lv_iadd hx hb dL_law_1187 ?_
  refine law_ld hx hb hX hbl hbA hS hi1 h1 dL_law_1188 ?_
  refine lv_aload_n hx hb dL_law_1189 rfl (lv_at hl 0 rfl) ?_
  refine lv_iload hx hb dL_law_1190 (lv_at hl 4 rfl) ?_
  refine lv_iconst (v := 2) hx hb dL_law_1192 (by decide) ?_
  refine lv_iadd hx hb dL_law_1193 ?_
  refine law_ld hx hb hX hbl hbA hS hi2 h2 dL_law_1194 ?_
  refine lv_aload_n hx hb dL_law_1195 rfl (lv_at hl 0 rfl) ?_
  refine lv_iload hx hb dL_law_1196 (lv_at hl 4 rfl) ?_
  refine lv_iconst (v := 3) hx hb dL_law_1198 (by decide) ?_
  refine lv_iadd hx hb dL_law_1199 ?_
  refine law_ld hx hb hX hbl hbA hS hi3 h3 dL_law_1200 ?_
  obtain ⟨v1201, M1201, q1201, h⟩ := mbw_e h
  refine m_cig (m_rVg hx hb hml hown hF hR hS (ent9 kd_96) kd_96 rfl (c_X10_put l X a1 a2 a3 M1179 q1201) q_L_143_V hdV_X10_put ⟨Nat.le_of_ble_eq_true rfl, Nat.le_of_ble_eq_true rfl⟩ rfl hl.1 rfl (Nat.le_of_ble_eq_true rfl) dL_law_1201 hcs0) hS (fun H locs hR hS => ?_)
  refine lv_icmp_eq (tgt := 1399) hx hb dL_law_1204 (by decide) (fun c1204 => ?_) (fun c1204 => ?_)
  · have h := mif_y h c1204
    have h9 := Option.some.inj h
    subst h9
    refine W.widen (k := cells + 1) (n := slots + 6) (Nat.le_succ _) (Nat.le_add_right _ _) ?_
    exact kk H locs ls hR hS (lv_sub hl [0, 1, 2, 3, 4] rfl)
  · have h := mif_n h c1204
    refine lv_iconst (v := 0) hx hb dL_law_1207 (by decide) ?_
    exact absurd h (fun q => nomatch q)
def f_law_c29 (a1 : Int32) (a2 : Int32) (M : mM) : Option mM :=
  mbw (f_L_element a1 a2 M) fun v1223 M1223 =>
  mbw (f_X10_element a1 a2 M1223) fun v1241 M1241 =>
  if (f_X10_thrown M1241) = v1223 then (if v1223 = 0 then (if (lg_cmp (M1241.2.1 117 0) v1241) = 0 then (some M1241)
  else (none))
  else (some M1241))
  else (none)
set_option maxRecDepth 100000 in
set_option maxHeartbeats 4000000 in
theorem w_law_c29 {p : Program} {e : Env} {s : State} {m : MethodId} {args : Array Value} {below : List Frame} {meth : Method} {c : Code} {l : Launch} {X : mX} {b L : Nat} {xs : Nat → Int32} {Q : State → Prop} (hlt : l.stackTraces = false) (hx : p.tables.exec = Jvm.exec) (hb : c.code = cL_law) (hml : c.maxLocals = 8) (hown : s.vm.findClass RL = some m.cls) (hF : mF X s s.heap) (hE : mE X s s.heap) (hX : va_X b L xs s s.heap) (hbl : b < s.heap.size) (hbA : ¬ mL X b) {i : Int32} {cells slots : Nat} (hcs0 : cells ≤ room_1.cells ∧ slots ≤ room_1.slots) (hcs : cells + 1 ≤ room_1.cells ∧ slots + 6 ≤ room_1.slots) (a1 : Int32) (a2 : Int32) (hi1 : vp_in (i + 1) L) (h1 : xs (i + 1).toNatClampNeg = a1) (hi2 : vp_in (i + 2) L) (h2 : xs (i + 2).toNatClampNeg = a2) {M M9 : mM} (h : f_law_c29 a1 a2 M = some M9) {H : Heap} {locs : List Loc} {ls : Array Slot} (hR : mR X s H M) (hS : va_S (mL X) s.heap H locs) (hl : lv_has ls 8 [(0, .ref b), (1, .ref (X.1 0)), (2, .ref (X.1 96)), (3, .ref (X.1 117)), (4, .int i)]) (kk : ∀ (H : Heap) (locs : List Loc) (ls : Array Slot), mR X s H M9 → va_S (mL X) s.heap H locs → lv_has ls 8 [(0, .ref b), (1, .ref (X.1 0)), (2, .ref (X.1 96)), (3, .ref (X.1 117)), (4, .int i)] → W p l e room_1 s m args below meth c H locs (cells + 1) (slots + 6) Q (F0 m 1399 ls [])) : W p l e room_1 s m args below meth c H locs cells slots Q (F0 m 1209 ls []) := by
  refine lv_aload_n hx hb dL_law_1209 rfl (lv_at hl 1 rfl) ?_
  refine lv_aload_n hx hb dL_law_1210 rfl (lv_at hl 0 rfl) ?_
  refine lv_iload hx hb dL_law_1211 (lv_at hl 4 rfl) ?_
  refine lv_iconst (v := 1) hx hb dL_law_1213 (by decide) ?_
  refine lv_iadd hx hb dL_law_1214 ?_
  refine law_ld hx hb hX hbl hbA hS hi1 h1 dL_law_1215 ?_
  refine lv_aload_n hx hb dL_law_1216 rfl (lv_at hl 0 rfl) ?_
  refine lv_iload hx hb dL_law_1217 (lv_at hl 4 rfl) ?_
  refine lv_iconst (v := 2) hx hb dL_law_1219 (by decide) ?_
  refine lv_iadd hx hb dL_law_1220 ?_
  refine law_ld hx hb hX hbl hbA hS hi2 h2 dL_law_1221 ?_
  refine lv_aload_n hx hb dL_law_1222 rfl (lv_at hl 3 rfl) ?_
  obtain ⟨v1223, M1223, q1223, h⟩ := mbw_e h
  refine vx_calli (A0 := mL X) (A1 := mL X) (AX := fun _ => False) (vx_runSW9 hx hb hml hown hF hE hR hS (x_L_element l hlt X a1 a2 M q1223) q_LL_144_S hdS_L_element ⟨Nat.le_of_ble_eq_true rfl, Nat.le_of_ble_eq_true rfl⟩ hl.1 rfl (Nat.le_of_ble_eq_true rfl) dL_law_1223 hcs) hS (fun _ _ h => h) (fun _ h => h) (fun _ _ h => absurd h (fun q => q)) (fun _ _ _ u _ _ _ _ _ hu _ _ _ _ _ _ _ => hu.elim) (fun r9 u9 t9 H1 locs1 ht9 hv9 hp9 hB9 _ _ hS => ?_)
  have hp9 := hp9.symm
  subst hp9
  rw [ht9] at hB9
  have hR := hB9.moved hv9.symm
  refine lv_istore (lv' := [(5, .int v1223), (0, .ref b), (1, .ref (X.1 0)), (2, .ref (X.1 96)), (3, .ref (X.1 117)), (4, .int i)]) hx hb dL_law_1226 hl (by decide) rfl (fun ls hl => ?_)
  refine lv_aload_n hx hb dL_law_1228 rfl (lv_at hl 3 rfl) ?_
  refine lv_aload_n hx hb dL_law_1229 rfl (lv_at hl 1 rfl) ?_
  refine lv_iload hx hb dL_law_1230 (lv_at hl 5 rfl) ?_
  refine lv_iconst (v := 1) hx hb dL_law_1232 (by decide) ?_
  refine lv_iadd hx hb dL_law_1233 ?_
  refine law_ld hx hb hX hbl hbA hS hi1 h1 dL_law_1234 ?_
  refine lv_aload_n hx hb dL_law_1235 rfl (lv_at hl 1 rfl) ?_
  refine lv_iload hx hb dL_law_1236 (lv_at hl 5 rfl) ?_
  refine lv_iconst (v := 2) hx hb dL_law_1238 (by decide) ?_
  refine lv_iadd hx hb dL_law_1239 ?_
  refine law_ld hx hb hX hbl hbA hS hi2 h2 dL_law_1240 ?_
  obtain ⟨v1241, M1241, q1241, h⟩ := mbw_e h
  refine m_clg (m_rVg hx hb hml hown hF hR hS (ent9 kd_96) kd_96 rfl (c_X10_element l X a1 a2 M1223 q1241) q_L_149_V hdV_X10_element ⟨Nat.le_of_ble_eq_true rfl, Nat.le_of_ble_eq_true rfl⟩ rfl hl.1 rfl (Nat.le_of_ble_eq_true rfl) dL_law_1241 hcs) hS (fun H locs hR hS => ?_)
  refine lv_lstore (lv' := [(6, .long v1241), (5, .int v1223), (0, .ref b), (1, .ref (X.1 0)), (2, .ref (X.1 96)), (3, .ref (X.1 117)), (4, .int i)]) hx hb dL_law_1244 hl (by decide) rfl (fun ls hl => ?_)
  refine lv_aload_n hx hb dL_law_1246 rfl (lv_at hl 4 rfl) ?_
  refine m_cig (m_rVg hx hb hml hown hF hR hS (ent9 kd_96) kd_96 rfl (c_X10_thrown l X M1241) q_L_150_V hdV_X10_thrown ⟨Nat.le_of_ble_eq_true rfl, Nat.le_of_ble_eq_true rfl⟩ rfl hl.1 rfl (Nat.le_of_ble_eq_true rfl) dL_law_1247 hcs) hS (fun H locs hR hS => ?_)
  refine lv_iload hx hb dL_law_1250 (lv_at hl 1 rfl) ?_
  refine lv_icmp_eq (tgt := 1257) hx hb dL_law_1252 (by decide) (fun c1252 => ?_) (fun c1252 => ?_)
  · have h := mif_y h c1252
    refine lv_iload hx hb dL_law_1257 (lv_at hl 1 rfl) ?_
    refine lv_if_ne (tgt := 1273) hx hb dL_law_1259 (by decide) (fun c1259 => ?_) (fun c1259 => ?_)
    · have h := mif_n h c1259
      refine lv_goto (tgt := 1399) hx hb dL_law_1273 (by decide) ?_
      have h9 := Option.some.inj h
      subst h9
      exact kk H locs ls hR hS (lv_sub hl [2, 3, 4, 5, 6] rfl)
    · have h := mif_y h c1259
      refine lv_aload_n hx hb dL_law_1262 rfl (lv_at hl 5 rfl) ?_
      refine lv_iconst (v := 0) hx hb dL_law_1263 (by decide) ?_
      refine law_lald hx hb hR kd_117 (show mIn 0 1 from by decide) (jn := 0) (by decide) dL_law_1264 ?_
      refine lv_lload hx hb dL_law_1265 (lv_at hl 0 rfl) ?_
      refine W.lcmp hx hb dL_law_1267 ?_
      refine lv_if_eq (tgt := 1273) hx hb dL_law_1268 (by decide) (fun c1268 => ?_) (fun c1268 => ?_)
      · have h := mif_y h c1268
        refine lv_goto (tgt := 1399) hx hb dL_law_1273 (by decide) ?_
        have h9 := Option.some.inj h
        subst h9
        exact kk H locs ls hR hS (lv_sub hl [2, 3, 4, 5, 6] rfl)
      · have h := mif_n h c1268
        refine lv_iconst (v := 0) hx hb dL_law_1271 (by decide) ?_
        exact absurd h (fun q => nomatch q)
  · have h := mif_n h c1252
    refine lv_iconst (v := 0) hx hb dL_law_1255 (by decide) ?_
    exact absurd h (fun q => nomatch q)
def f_law_c30 (a1 : Int32) (a2 : Int32) (a3 : Int32) (a4 : Int32) (a5 : Int32) (M : mM) : Option mM :=
  mbw (f_X9_copy a1 a2 a3 a4 a5 M) fun v1307 M1307 =>
  mbw (f_X10_copy a1 a2 a3 a4 a5 M1307) fun v1341 M1341 =>
  if v1307 = v1341 then (some M1341)
  else (none)
set_option maxRecDepth 100000 in
set_option maxHeartbeats 4000000 in
theorem w_law_c30 {p : Program} {e : Env} {s : State} {m : MethodId} {args : Array Value} {below : List Frame} {meth : Method} {c : Code} {l : Launch} {X : mX} {b L : Nat} {xs : Nat → Int32} {Q : State → Prop} (hlt : l.stackTraces = false) (hx : p.tables.exec = Jvm.exec) (hb : c.code = cL_law) (hml : c.maxLocals = 8) (hown : s.vm.findClass RL = some m.cls) (hF : mF X s s.heap) (hE : mE X s s.heap) (hX : va_X b L xs s s.heap) (hbl : b < s.heap.size) (hbA : ¬ mL X b) {i : Int32} {cells slots : Nat} (hcs0 : cells ≤ room_1.cells ∧ slots ≤ room_1.slots) (hcs : cells + 1 ≤ room_1.cells ∧ slots + 6 ≤ room_1.slots) (a1 : Int32) (a2 : Int32) (a3 : Int32) (a4 : Int32) (a5 : Int32) (hi1 : vp_in (i + 1) L) (h1 : xs (i + 1).toNatClampNeg = a1) (hi2 : vp_in (i + 2) L) (h2 : xs (i + 2).toNatClampNeg = a2) (hi3 : vp_in (i + 3) L) (h3 : xs (i + 3).toNatClampNeg = a3) (hi4 : vp_in (i + 4) L) (h4 : xs (i + 4).toNatClampNeg = a4) (hi5 : vp_in (i + 5) L) (h5 : xs (i + 5).toNatClampNeg = a5) {M M9 : mM} (h : f_law_c30 a1 a2 a3 a4 a5 M = some M9) {H : Heap} {locs : List Loc} {ls : Array Slot} (hR : mR X s H M) (hS : va_S (mL X) s.heap H locs) (hl : lv_has ls 8 [(0, .ref b), (1, .ref (X.1 0)), (2, .ref (X.1 96)), (3, .ref (X.1 117)), (4, .int i)]) (kk : ∀ (H : Heap) (locs : List Loc) (ls : Array Slot), mR X s H M9 → va_S (mL X) s.heap H locs → lv_has ls 8 [(0, .ref b), (1, .ref (X.1 0)), (2, .ref (X.1 96)), (3, .ref (X.1 117)), (4, .int i)] → W p l e room_1 s m args below meth c H locs (cells + 1) (slots + 6) Q (F0 m 1399 ls [])) : W p l e room_1 s m args below meth c H locs cells slots Q (F0 m 1276 ls []) := by
  refine lv_aload_n hx hb dL_law_1276 rfl (lv_at hl 1 rfl) ?_
  refine lv_aload_n hx hb dL_law_1277 rfl (lv_at hl 0 rfl) ?_
  refine lv_iload hx hb dL_law_1278 (lv_at hl 4 rfl) ?_
  refine lv_iconst (v := 1) hx hb dL_law_1280 (by decide) ?_
  refine lv_iadd hx hb dL_law_1281 ?_
  refine law_ld hx hb hX hbl hbA hS hi1 h1 dL_law_1282 ?_
  refine lv_aload_n hx hb dL_law_1283 rfl (lv_at hl 0 rfl) ?_
  refine lv_iload hx hb dL_law_1284 (lv_at hl 4 rfl) ?_
  refine lv_iconst (v := 2) hx hb dL_law_1286 (by decide) ?_
  refine lv_iadd hx hb dL_law_1287 ?_
  refine law_ld hx hb hX hbl hbA hS hi2 h2 dL_law_1288 ?_
  refine lv_aload_n hx hb dL_law_1289 rfl (lv_at hl 0 rfl) ?_
  refine lv_iload hx hb dL_law_1290 (lv_at hl 4 rfl) ?_
  refine lv_iconst (v := 3) hx hb dL_law_1292 (by decide) ?_
  refine lv_iadd hx hb dL_law_1293 ?_
  refine law_ld hx hb hX hbl hbA hS hi3 h3 dL_law_1294 ?_
  refine lv_aload_n hx hb dL_law_1295 rfl (lv_at hl 0 rfl) ?_
  refine lv_iload hx hb dL_law_1296 (lv_at hl 4 rfl) ?_
  refine lv_iconst (v := 4) hx hb dL_law_1298 (by decide) ?_
  refine lv_iadd hx hb dL_law_1299 ?_
  refine law_ld hx hb hX hbl hbA hS hi4 h4 dL_law_1300 ?_
  refine lv_aload_n hx hb dL_law_1301 rfl (lv_at hl 0 rfl) ?_
  refine lv_iload hx hb dL_law_1302 (lv_at hl 4 rfl) ?_
  refine lv_iconst (v := 5) hx hb dL_law_1304 (by decide) ?_
  refine lv_iadd hx hb dL_law_1305 ?_
  refine law_ld hx hb hX hbl hbA hS hi5 h5 dL_law_1306 ?_
  obtain ⟨v1307, M1307, q1307, h⟩ := mbw_e h
  refine m_cig (m_rVg hx hb hml hown hF hR hS (ent8 kd_0) kd_0 rfl (c_X9_copy l X a1 a2 a3 a4 a5 M q1307) q_L_153_V hdV_X9_copy ⟨Nat.le_of_ble_eq_true rfl, Nat.le_of_ble_eq_true rfl⟩ rfl hl.1 rfl (Nat.le_of_ble_eq_true rfl) dL_law_1307 hcs0) hS (fun H locs hR hS => ?_)
  refine lv_aload_n hx hb dL_law_1310 rfl (lv_at hl 2 rfl) ?_
  refine lv_aload_n hx hb dL_law_1311 rfl (lv_at hl 0 rfl) ?_
  refine lv_iload hx hb dL_law_1312 (lv_at hl 4 rfl) ?_
  refine lv_iconst (v := 1) hx hb dL_law_1314 (by decide) ?_
  refine lv_iadd hx hb dL_law_1315 ?_
  refine law_ld hx hb hX hbl hbA hS hi1 h1 dL_law_1316 ?_
  refine lv_aload_n hx hb dL_law_1317 rfl (lv_at hl 0 rfl) ?_
  refine lv_iload hx hb dL_law_1318 (lv_at hl 4 rfl) ?_
  refine lv_iconst (v := 2) hx hb dL_law_1320 (by decide) ?_
  refine lv_iadd hx hb dL_law_1321 ?_
  refine law_ld hx hb hX hbl hbA hS hi2 h2 dL_law_1322 ?_
  refine lv_aload_n hx hb dL_law_1323 rfl (lv_at hl 0 rfl) ?_
  refine lv_iload hx hb dL_law_1324 (lv_at hl 4 rfl) ?_
  refine lv_iconst (v := 3) hx hb dL_law_1326 (by decide) ?_
  refine lv_iadd hx hb dL_law_1327 ?_
  refine law_ld hx hb hX hbl hbA hS hi3 h3 dL_law_1328 ?_
  refine lv_aload_n hx hb dL_law_1329 rfl (lv_at hl 0 rfl) ?_
  refine lv_iload hx hb dL_law_1330 (lv_at hl 4 rfl) ?_
  refine lv_iconst (v := 4) hx hb dL_law_1332 (by decide) ?_
  refine lv_iadd hx hb dL_law_1333 ?_
  refine law_ld hx hb hX hbl hbA hS hi4 h4 dL_law_1334 ?_
  refine lv_aload_n hx hb dL_law_1335 rfl (lv_at hl 0 rfl) ?_
  refine lv_iload hx hb dL_law_1336 (lv_at hl 4 rfl) ?_
  refine lv_iconst (v := 5) hx hb dL_law_1338 (by decide) ?_
  refine lv_iadd hx hb dL_law_1339 ?_
  refine law_ld hx hb hX hbl hbA hS hi5 h5 dL_law_1340 ?_
  obtain ⟨v1341, M1341, q1341, h⟩ := mbw_e h
  refine m_cig (m_rVg hx hb hml hown hF hR hS (ent9 kd_96) kd_96 rfl (c_X10_copy l X a1 a2 a3 a4 a5 M1307 q1341) q_L_157_V hdV_X10_copy ⟨Nat.le_of_ble_eq_true rfl, Nat.le_of_ble_eq_true rfl⟩ rfl hl.1 rfl (Nat.le_of_ble_eq_true rfl) dL_law_1341 hcs0) hS (fun H locs hR hS => ?_)
  refine lv_icmp_eq (tgt := 1399) hx hb dL_law_1344 (by decide) (fun c1344 => ?_) (fun c1344 => ?_)
  · have h := mif_y h c1344
    have h9 := Option.some.inj h
    subst h9
    refine W.widen (k := cells + 1) (n := slots + 6) (Nat.le_succ _) (Nat.le_add_right _ _) ?_
    exact kk H locs ls hR hS (lv_sub hl [0, 1, 2, 3, 4] rfl)
  · have h := mif_n h c1344
    refine lv_iconst (v := 0) hx hb dL_law_1347 (by decide) ?_
    exact absurd h (fun q => nomatch q)
def f_law_c31 (a1 : Int32) (M : mM) : Option mM :=
  mbp (f_X9_sum a1 M) fun v1356 =>
  mbp (f_X10_sum a1 M) fun v1366 =>
  if v1356 = v1366 then (some M)
  else (none)
set_option maxRecDepth 100000 in
set_option maxHeartbeats 4000000 in
theorem w_law_c31 {p : Program} {e : Env} {s : State} {m : MethodId} {args : Array Value} {below : List Frame} {meth : Method} {c : Code} {l : Launch} {X : mX} {b L : Nat} {xs : Nat → Int32} {Q : State → Prop} (hlt : l.stackTraces = false) (hx : p.tables.exec = Jvm.exec) (hb : c.code = cL_law) (hml : c.maxLocals = 8) (hown : s.vm.findClass RL = some m.cls) (hF : mF X s s.heap) (hE : mE X s s.heap) (hX : va_X b L xs s s.heap) (hbl : b < s.heap.size) (hbA : ¬ mL X b) {i : Int32} {cells slots : Nat} (hcs0 : cells ≤ room_1.cells ∧ slots ≤ room_1.slots) (hcs : cells + 1 ≤ room_1.cells ∧ slots + 6 ≤ room_1.slots) (a1 : Int32) (hi1 : vp_in (i + 1) L) (h1 : xs (i + 1).toNatClampNeg = a1) {M M9 : mM} (h : f_law_c31 a1 M = some M9) {H : Heap} {locs : List Loc} {ls : Array Slot} (hR : mR X s H M) (hS : va_S (mL X) s.heap H locs) (hl : lv_has ls 8 [(0, .ref b), (1, .ref (X.1 0)), (2, .ref (X.1 96)), (3, .ref (X.1 117)), (4, .int i)]) (kk : ∀ (H : Heap) (locs : List Loc) (ls : Array Slot), mR X s H M9 → va_S (mL X) s.heap H locs → lv_has ls 8 [(0, .ref b), (1, .ref (X.1 0)), (2, .ref (X.1 96)), (3, .ref (X.1 117)), (4, .int i)] → W p l e room_1 s m args below meth c H locs (cells + 1) (slots + 6) Q (F0 m 1399 ls [])) : W p l e room_1 s m args below meth c H locs cells slots Q (F0 m 1349 ls []) := by
  refine lv_aload_n hx hb dL_law_1349 rfl (lv_at hl 1 rfl) ?_
  refine lv_aload_n hx hb dL_law_1350 rfl (lv_at hl 0 rfl) ?_
  refine lv_iload hx hb dL_law_1351 (lv_at hl 4 rfl) ?_
  refine lv_iconst (v := 1) hx hb dL_law_1353 (by decide) ?_
  refine lv_iadd hx hb dL_law_1354 ?_
  refine law_ld hx hb hX hbl hbA hS hi1 h1 dL_law_1355 ?_
  obtain ⟨v1356, q1356, h⟩ := mbp_e h
  refine m_cig (m_rVg hx hb hml hown hF hR hS (ent8 kd_0) kd_0 rfl (c_X9_sum l X a1 M q1356) q_L_158_V hdV_X9_sum ⟨Nat.le_of_ble_eq_true rfl, Nat.le_of_ble_eq_true rfl⟩ rfl hl.1 rfl (Nat.le_of_ble_eq_true rfl) dL_law_1356 hcs0) hS (fun H locs hR hS => ?_)
  refine lv_aload_n hx hb dL_law_1359 rfl (lv_at hl 2 rfl) ?_
  refine lv_aload_n hx hb dL_law_1360 rfl (lv_at hl 0 rfl) ?_
  refine lv_iload hx hb dL_law_1361 (lv_at hl 4 rfl) ?_
  refine lv_iconst (v := 1) hx hb dL_law_1363 (by decide) ?_
  refine lv_iadd hx hb dL_law_1364 ?_
  refine law_ld hx hb hX hbl hbA hS hi1 h1 dL_law_1365 ?_
  obtain ⟨v1366, q1366, h⟩ := mbp_e h
  refine m_cig (m_rVg hx hb hml hown hF hR hS (ent9 kd_96) kd_96 rfl (c_X10_sum l X a1 M q1366) q_L_161_V hdV_X10_sum ⟨Nat.le_of_ble_eq_true rfl, Nat.le_of_ble_eq_true rfl⟩ rfl hl.1 rfl (Nat.le_of_ble_eq_true rfl) dL_law_1366 hcs0) hS (fun H locs hR hS => ?_)
  refine lv_icmp_eq (tgt := 1399) hx hb dL_law_1369 (by decide) (fun c1369 => ?_) (fun c1369 => ?_)
  · have h := mif_y h c1369
    have h9 := Option.some.inj h
    subst h9
    refine W.widen (k := cells + 1) (n := slots + 6) (Nat.le_succ _) (Nat.le_add_right _ _) ?_
    exact kk H locs ls hR hS (lv_sub hl [0, 1, 2, 3, 4] rfl)
  · have h := mif_n h c1369
    refine lv_iconst (v := 0) hx hb dL_law_1372 (by decide) ?_
    exact absurd h (fun q => nomatch q)
def f_law_c32 (a1 : Int32) (M : mM) : Option mM :=
  mbp (f_X9_toss a1 M) fun v1381 =>
  mbp (f_X10_toss a1 M) fun v1391 =>
  if v1381 = v1391 then (some M)
  else (none)
set_option maxRecDepth 100000 in
set_option maxHeartbeats 4000000 in
theorem w_law_c32 {p : Program} {e : Env} {s : State} {m : MethodId} {args : Array Value} {below : List Frame} {meth : Method} {c : Code} {l : Launch} {X : mX} {b L : Nat} {xs : Nat → Int32} {Q : State → Prop} (hlt : l.stackTraces = false) (hx : p.tables.exec = Jvm.exec) (hb : c.code = cL_law) (hml : c.maxLocals = 8) (hown : s.vm.findClass RL = some m.cls) (hF : mF X s s.heap) (hE : mE X s s.heap) (hX : va_X b L xs s s.heap) (hbl : b < s.heap.size) (hbA : ¬ mL X b) {i : Int32} {cells slots : Nat} (hcs0 : cells ≤ room_1.cells ∧ slots ≤ room_1.slots) (hcs : cells + 1 ≤ room_1.cells ∧ slots + 6 ≤ room_1.slots) (a1 : Int32) (hi1 : vp_in (i + 1) L) (h1 : xs (i + 1).toNatClampNeg = a1) {M M9 : mM} (h : f_law_c32 a1 M = some M9) {H : Heap} {locs : List Loc} {ls : Array Slot} (hR : mR X s H M) (hS : va_S (mL X) s.heap H locs) (hl : lv_has ls 8 [(0, .ref b), (1, .ref (X.1 0)), (2, .ref (X.1 96)), (3, .ref (X.1 117)), (4, .int i)]) (kk : ∀ (H : Heap) (locs : List Loc) (ls : Array Slot), mR X s H M9 → va_S (mL X) s.heap H locs → lv_has ls 8 [(0, .ref b), (1, .ref (X.1 0)), (2, .ref (X.1 96)), (3, .ref (X.1 117)), (4, .int i)] → W p l e room_1 s m args below meth c H locs (cells + 1) (slots + 6) Q (F0 m 1399 ls [])) : W p l e room_1 s m args below meth c H locs cells slots Q (F0 m 1374 ls []) := by
  refine lv_aload_n hx hb dL_law_1374 rfl (lv_at hl 1 rfl) ?_
  refine lv_aload_n hx hb dL_law_1375 rfl (lv_at hl 0 rfl) ?_
  refine lv_iload hx hb dL_law_1376 (lv_at hl 4 rfl) ?_
  refine lv_iconst (v := 1) hx hb dL_law_1378 (by decide) ?_
  refine lv_iadd hx hb dL_law_1379 ?_
  refine law_ld hx hb hX hbl hbA hS hi1 h1 dL_law_1380 ?_
  obtain ⟨v1381, q1381, h⟩ := mbp_e h
  refine m_cig (m_rVx hx hb hml hown hF hE hR hS (ent8 kd_0) kd_0 rfl (c_X9_toss l hlt X a1 M q1381) q_L_162_V hdV_X9_toss ⟨Nat.le_of_ble_eq_true rfl, Nat.le_of_ble_eq_true rfl⟩ rfl hl.1 rfl (Nat.le_of_ble_eq_true rfl) dL_law_1381 hcs) hS (fun H locs hR hS => ?_)
  refine lv_aload_n hx hb dL_law_1384 rfl (lv_at hl 2 rfl) ?_
  refine lv_aload_n hx hb dL_law_1385 rfl (lv_at hl 0 rfl) ?_
  refine lv_iload hx hb dL_law_1386 (lv_at hl 4 rfl) ?_
  refine lv_iconst (v := 1) hx hb dL_law_1388 (by decide) ?_
  refine lv_iadd hx hb dL_law_1389 ?_
  refine law_ld hx hb hX hbl hbA hS hi1 h1 dL_law_1390 ?_
  obtain ⟨v1391, q1391, h⟩ := mbp_e h
  refine m_cig (m_rVg hx hb hml hown hF hR hS (ent9 kd_96) kd_96 rfl (c_X10_toss l X a1 M q1391) q_L_165_V hdV_X10_toss ⟨Nat.le_of_ble_eq_true rfl, Nat.le_of_ble_eq_true rfl⟩ rfl hl.1 rfl (Nat.le_of_ble_eq_true rfl) dL_law_1391 hcs) hS (fun H locs hR hS => ?_)
  refine lv_icmp_eq (tgt := 1399) hx hb dL_law_1394 (by decide) (fun c1394 => ?_) (fun c1394 => ?_)
  · have h := mif_y h c1394
    have h9 := Option.some.inj h
    subst h9
    exact kk H locs ls hR hS (lv_sub hl [0, 1, 2, 3, 4] rfl)
  · have h := mif_n h c1394
    refine lv_iconst (v := 0) hx hb dL_law_1397 (by decide) ?_
    exact absurd h (fun q => nomatch q)
def f_law_step (w a1 a2 a3 a4 a5 : Int32) (M : mM) : Option mM :=
  if (w &&& 63) = 0 then f_law_c0 a1 a2 a3 a4 M
  else if (w &&& 63) = 1 then f_law_c1 a1 a2 M
  else if (w &&& 63) = 2 then f_law_c2 a1 a2 M
  else if (w &&& 63) = 3 then f_law_c3 a1 a2 M
  else if (w &&& 63) = 4 then f_law_c4 a1 a2 M
  else if (w &&& 63) = 5 then f_law_c5 a1 M
  else if (w &&& 63) = 6 then f_law_c6 a1 M
  else if (w &&& 63) = 7 then f_law_c7 M
  else if (w &&& 63) = 8 then f_law_c8 M
  else if (w &&& 63) = 9 then f_law_c9 a1 a2 M
  else if (w &&& 63) = 10 then f_law_c10 a1 M
  else if (w &&& 63) = 11 then f_law_c11 a1 a2 a3 M
  else if (w &&& 63) = 12 then f_law_c12 a1 a2 M
  else if (w &&& 63) = 13 then f_law_c13 a1 a2 M
  else if (w &&& 63) = 14 then f_law_c14 a1 a2 a3 M
  else if (w &&& 63) = 15 then f_law_c15 a1 M
  else if (w &&& 63) = 16 then f_law_c16 a1 M
  else if (w &&& 63) = 17 then f_law_c17 a1 a2 M
  else if (w &&& 63) = 18 then f_law_c18 a1 M
  else if (w &&& 63) = 19 then f_law_c19 a1 M
  else if (w &&& 63) = 20 then f_law_c20 a1 a2 a3 M
  else if (w &&& 63) = 21 then f_law_c21 a1 a2 a3 M
  else if (w &&& 63) = 22 then f_law_c22 a1 a2 M
  else if (w &&& 63) = 23 then f_law_c23 M
  else if (w &&& 63) = 24 then f_law_c24 M
  else if (w &&& 63) = 25 then f_law_c25 a1 M
  else if (w &&& 63) = 26 then f_law_c26 a1 a2 a3 M
  else if (w &&& 63) = 27 then f_law_c27 a1 a2 a3 M
  else if (w &&& 63) = 28 then f_law_c28 a1 a2 a3 M
  else if (w &&& 63) = 29 then f_law_c29 a1 a2 M
  else if (w &&& 63) = 30 then f_law_c30 a1 a2 a3 a4 a5 M
  else if (w &&& 63) = 31 then f_law_c31 a1 M
  else if (w &&& 63) = 32 then f_law_c32 a1 M
  else some M
set_option maxRecDepth 100000 in
set_option maxHeartbeats 4000000 in
theorem w_law_step {p : Program} {e : Env} {s : State} {m : MethodId} {args : Array Value} {below : List Frame} {meth : Method} {c : Code} {l : Launch} {X : mX} {b L : Nat} {xs : Nat → Int32} {Q : State → Prop} (hlt : l.stackTraces = false) (hx : p.tables.exec = Jvm.exec) (hb : c.code = cL_law) (hml : c.maxLocals = 8) (hown : s.vm.findClass RL = some m.cls) (hF : mF X s s.heap) (hE : mE X s s.heap) (hX : va_X b L xs s s.heap) (hbl : b < s.heap.size) (hbA : ¬ mL X b) {i w a1 a2 a3 a4 a5 : Int32} {cells slots : Nat} (hcs0 : cells ≤ room_1.cells ∧ slots ≤ room_1.slots) (hcs : cells + 1 ≤ room_1.cells ∧ slots + 6 ≤ room_1.slots) (hi1 : vp_in (i + 1) L) (h1 : xs (i + 1).toNatClampNeg = a1) (hi2 : vp_in (i + 2) L) (h2 : xs (i + 2).toNatClampNeg = a2) (hi3 : vp_in (i + 3) L) (h3 : xs (i + 3).toNatClampNeg = a3) (hi4 : vp_in (i + 4) L) (h4 : xs (i + 4).toNatClampNeg = a4) (hi5 : vp_in (i + 5) L) (h5 : xs (i + 5).toNatClampNeg = a5) {M M9 : mM} (h : f_law_step w a1 a2 a3 a4 a5 M = some M9) {H : Heap} {locs : List Loc} {ls : Array Slot} (hR : mR X s H M) (hS : va_S (mL X) s.heap H locs) (hl : lv_has ls 8 [(0, .ref b), (1, .ref (X.1 0)), (2, .ref (X.1 96)), (3, .ref (X.1 117)), (4, .int i)]) (kk : ∀ (H : Heap) (locs : List Loc) (ls : Array Slot), mR X s H M9 → va_S (mL X) s.heap H locs → lv_has ls 8 [(0, .ref b), (1, .ref (X.1 0)), (2, .ref (X.1 96)), (3, .ref (X.1 117)), (4, .int i)] → W p l e room_1 s m args below meth c H locs (cells + 1) (slots + 6) Q (F0 m 1399 ls [])) : W p l e room_1 s m args below meth c H locs cells slots Q (F0 m 40 ls [.int (w &&& 63)]) := by
  unfold f_law_step at h
  generalize w &&& 63 = x40 at h ⊢
  by_cases c0 : x40 = 0
  · have h := mif_y h c0
    refine lv_tableIn (tgt := 188) hx hb dL_law_40 (by rw [c0]; decide) (by rw [c0]; decide) (by rw [c0] <;> rfl) (by decide) ?_
    exact w_law_c0 hlt hx hb hml hown hF hE hX hbl hbA hcs0 hcs a1 a2 a3 a4 hi1 h1 hi2 h2 hi3 h3 hi4 h4 h hR hS hl kk
  have h := mif_n h c0
  by_cases c1 : x40 = 1
  · have h := mif_y h c1
    refine lv_tableIn (tgt := 249) hx hb dL_law_40 (by rw [c1]; decide) (by rw [c1]; decide) (by rw [c1] <;> rfl) (by decide) ?_
    exact w_law_c1 hlt hx hb hml hown hF hE hX hbl hbA hcs0 hcs a1 a2 hi1 h1 hi2 h2 h hR hS hl kk
  have h := mif_n h c1
  by_cases c2 : x40 = 2
  · have h := mif_y h c2
    refine lv_tableIn (tgt := 286) hx hb dL_law_40 (by rw [c2]; decide) (by rw [c2]; decide) (by rw [c2] <;> rfl) (by decide) ?_
    exact w_law_c2 hlt hx hb hml hown hF hE hX hbl hbA hcs0 hcs a1 a2 hi1 h1 hi2 h2 h hR hS hl kk
  have h := mif_n h c2
  by_cases c3 : x40 = 3
  · have h := mif_y h c3
    refine lv_tableIn (tgt := 323) hx hb dL_law_40 (by rw [c3]; decide) (by rw [c3]; decide) (by rw [c3] <;> rfl) (by decide) ?_
    exact w_law_c3 hlt hx hb hml hown hF hE hX hbl hbA hcs0 hcs a1 a2 hi1 h1 hi2 h2 h hR hS hl kk
  have h := mif_n h c3
  by_cases c4 : x40 = 4
  · have h := mif_y h c4
    refine lv_tableIn (tgt := 376) hx hb dL_law_40 (by rw [c4]; decide) (by rw [c4]; decide) (by rw [c4] <;> rfl) (by decide) ?_
    exact w_law_c4 hlt hx hb hml hown hF hE hX hbl hbA hcs0 hcs a1 a2 hi1 h1 hi2 h2 h hR hS hl kk
  have h := mif_n h c4
  by_cases c5 : x40 = 5
  · have h := mif_y h c5
    refine lv_tableIn (tgt := 413) hx hb dL_law_40 (by rw [c5]; decide) (by rw [c5]; decide) (by rw [c5] <;> rfl) (by decide) ?_
    exact w_law_c5 hlt hx hb hml hown hF hE hX hbl hbA hcs0 hcs a1 hi1 h1 h hR hS hl kk
  have h := mif_n h c5
  by_cases c6 : x40 = 6
  · have h := mif_y h c6
    refine lv_tableIn (tgt := 438) hx hb dL_law_40 (by rw [c6]; decide) (by rw [c6]; decide) (by rw [c6] <;> rfl) (by decide) ?_
    exact w_law_c6 hlt hx hb hml hown hF hE hX hbl hbA hcs0 hcs a1 hi1 h1 h hR hS hl kk
  have h := mif_n h c6
  by_cases c7 : x40 = 7
  · have h := mif_y h c7
    refine lv_tableIn (tgt := 463) hx hb dL_law_40 (by rw [c7]; decide) (by rw [c7]; decide) (by rw [c7] <;> rfl) (by decide) ?_
    exact w_law_c7 hlt hx hb hml hown hF hE hX hbl hbA hcs0 hcs h hR hS hl kk
  have h := mif_n h c7
  by_cases c8 : x40 = 8
  · have h := mif_y h c8
    refine lv_tableIn (tgt := 476) hx hb dL_law_40 (by rw [c8]; decide) (by rw [c8]; decide) (by rw [c8] <;> rfl) (by decide) ?_
    exact w_law_c8 hlt hx hb hml hown hF hE hX hbl hbA hcs0 hcs h hR hS hl kk
  have h := mif_n h c8
  by_cases c9 : x40 = 9
  · have h := mif_y h c9
    refine lv_tableIn (tgt := 489) hx hb dL_law_40 (by rw [c9]; decide) (by rw [c9]; decide) (by rw [c9] <;> rfl) (by decide) ?_
    exact w_law_c9 hlt hx hb hml hown hF hE hX hbl hbA hcs0 hcs a1 a2 hi1 h1 hi2 h2 h hR hS hl kk
  have h := mif_n h c9
  by_cases c10 : x40 = 10
  · have h := mif_y h c10
    refine lv_tableIn (tgt := 526) hx hb dL_law_40 (by rw [c10]; decide) (by rw [c10]; decide) (by rw [c10] <;> rfl) (by decide) ?_
    exact w_law_c10 hlt hx hb hml hown hF hE hX hbl hbA hcs0 hcs a1 hi1 h1 h hR hS hl kk
  have h := mif_n h c10
  by_cases c11 : x40 = 11
  · have h := mif_y h c11
    refine lv_tableIn (tgt := 551) hx hb dL_law_40 (by rw [c11]; decide) (by rw [c11]; decide) (by rw [c11] <;> rfl) (by decide) ?_
    exact w_law_c11 hlt hx hb hml hown hF hE hX hbl hbA hcs0 hcs a1 a2 a3 hi1 h1 hi2 h2 hi3 h3 h hR hS hl kk
  have h := mif_n h c11
  by_cases c12 : x40 = 12
  · have h := mif_y h c12
    refine lv_tableIn (tgt := 600) hx hb dL_law_40 (by rw [c12]; decide) (by rw [c12]; decide) (by rw [c12] <;> rfl) (by decide) ?_
    exact w_law_c12 hlt hx hb hml hown hF hE hX hbl hbA hcs0 hcs a1 a2 hi1 h1 hi2 h2 h hR hS hl kk
  have h := mif_n h c12
  by_cases c13 : x40 = 13
  · have h := mif_y h c13
    refine lv_tableIn (tgt := 637) hx hb dL_law_40 (by rw [c13]; decide) (by rw [c13]; decide) (by rw [c13] <;> rfl) (by decide) ?_
    exact w_law_c13 hlt hx hb hml hown hF hE hX hbl hbA hcs0 hcs a1 a2 hi1 h1 hi2 h2 h hR hS hl kk
  have h := mif_n h c13
  by_cases c14 : x40 = 14
  · have h := mif_y h c14
    refine lv_tableIn (tgt := 674) hx hb dL_law_40 (by rw [c14]; decide) (by rw [c14]; decide) (by rw [c14] <;> rfl) (by decide) ?_
    exact w_law_c14 hlt hx hb hml hown hF hE hX hbl hbA hcs0 hcs a1 a2 a3 hi1 h1 hi2 h2 hi3 h3 h hR hS hl kk
  have h := mif_n h c14
  by_cases c15 : x40 = 15
  · have h := mif_y h c15
    refine lv_tableIn (tgt := 723) hx hb dL_law_40 (by rw [c15]; decide) (by rw [c15]; decide) (by rw [c15] <;> rfl) (by decide) ?_
    exact w_law_c15 hlt hx hb hml hown hF hE hX hbl hbA hcs0 hcs a1 hi1 h1 h hR hS hl kk
  have h := mif_n h c15
  by_cases c16 : x40 = 16
  · have h := mif_y h c16
    refine lv_tableIn (tgt := 748) hx hb dL_law_40 (by rw [c16]; decide) (by rw [c16]; decide) (by rw [c16] <;> rfl) (by decide) ?_
    exact w_law_c16 hlt hx hb hml hown hF hE hX hbl hbA hcs0 hcs a1 hi1 h1 h hR hS hl kk
  have h := mif_n h c16
  by_cases c17 : x40 = 17
  · have h := mif_y h c17
    refine lv_tableIn (tgt := 773) hx hb dL_law_40 (by rw [c17]; decide) (by rw [c17]; decide) (by rw [c17] <;> rfl) (by decide) ?_
    exact w_law_c17 hlt hx hb hml hown hF hE hX hbl hbA hcs0 hcs a1 a2 hi1 h1 hi2 h2 h hR hS hl kk
  have h := mif_n h c17
  by_cases c18 : x40 = 18
  · have h := mif_y h c18
    refine lv_tableIn (tgt := 810) hx hb dL_law_40 (by rw [c18]; decide) (by rw [c18]; decide) (by rw [c18] <;> rfl) (by decide) ?_
    exact w_law_c18 hlt hx hb hml hown hF hE hX hbl hbA hcs0 hcs a1 hi1 h1 h hR hS hl kk
  have h := mif_n h c18
  by_cases c19 : x40 = 19
  · have h := mif_y h c19
    refine lv_tableIn (tgt := 835) hx hb dL_law_40 (by rw [c19]; decide) (by rw [c19]; decide) (by rw [c19] <;> rfl) (by decide) ?_
    exact w_law_c19 hlt hx hb hml hown hF hE hX hbl hbA hcs0 hcs a1 hi1 h1 h hR hS hl kk
  have h := mif_n h c19
  by_cases c20 : x40 = 20
  · have h := mif_y h c20
    refine lv_tableIn (tgt := 860) hx hb dL_law_40 (by rw [c20]; decide) (by rw [c20]; decide) (by rw [c20] <;> rfl) (by decide) ?_
    exact w_law_c20 hlt hx hb hml hown hF hE hX hbl hbA hcs0 hcs a1 a2 a3 hi1 h1 hi2 h2 hi3 h3 h hR hS hl kk
  have h := mif_n h c20
  by_cases c21 : x40 = 21
  · have h := mif_y h c21
    refine lv_tableIn (tgt := 925) hx hb dL_law_40 (by rw [c21]; decide) (by rw [c21]; decide) (by rw [c21] <;> rfl) (by decide) ?_
    exact w_law_c21 hlt hx hb hml hown hF hE hX hbl hbA hcs0 hcs a1 a2 a3 hi1 h1 hi2 h2 hi3 h3 h hR hS hl kk
  have h := mif_n h c21
  by_cases c22 : x40 = 22
  · have h := mif_y h c22
    refine lv_tableIn (tgt := 974) hx hb dL_law_40 (by rw [c22]; decide) (by rw [c22]; decide) (by rw [c22] <;> rfl) (by decide) ?_
    exact w_law_c22 hlt hx hb hml hown hF hE hX hbl hbA hcs0 hcs a1 a2 hi1 h1 hi2 h2 h hR hS hl kk
  have h := mif_n h c22
  by_cases c23 : x40 = 23
  · have h := mif_y h c23
    refine lv_tableIn (tgt := 1011) hx hb dL_law_40 (by rw [c23]; decide) (by rw [c23]; decide) (by rw [c23] <;> rfl) (by decide) ?_
    exact w_law_c23 hlt hx hb hml hown hF hE hX hbl hbA hcs0 hcs h hR hS hl kk
  have h := mif_n h c23
  by_cases c24 : x40 = 24
  · have h := mif_y h c24
    refine lv_tableIn (tgt := 1024) hx hb dL_law_40 (by rw [c24]; decide) (by rw [c24]; decide) (by rw [c24] <;> rfl) (by decide) ?_
    exact w_law_c24 hlt hx hb hml hown hF hE hX hbl hbA hcs0 hcs h hR hS hl kk
  have h := mif_n h c24
  by_cases c25 : x40 = 25
  · have h := mif_y h c25
    refine lv_tableIn (tgt := 1037) hx hb dL_law_40 (by rw [c25]; decide) (by rw [c25]; decide) (by rw [c25] <;> rfl) (by decide) ?_
    exact w_law_c25 hlt hx hb hml hown hF hE hX hbl hbA hcs0 hcs a1 hi1 h1 h hR hS hl kk
  have h := mif_n h c25
  by_cases c26 : x40 = 26
  · have h := mif_y h c26
    refine lv_tableIn (tgt := 1062) hx hb dL_law_40 (by rw [c26]; decide) (by rw [c26]; decide) (by rw [c26] <;> rfl) (by decide) ?_
    exact w_law_c26 hlt hx hb hml hown hF hE hX hbl hbA hcs0 hcs a1 a2 a3 hi1 h1 hi2 h2 hi3 h3 h hR hS hl kk
  have h := mif_n h c26
  by_cases c27 : x40 = 27
  · have h := mif_y h c27
    refine lv_tableIn (tgt := 1111) hx hb dL_law_40 (by rw [c27]; decide) (by rw [c27]; decide) (by rw [c27] <;> rfl) (by decide) ?_
    exact w_law_c27 hlt hx hb hml hown hF hE hX hbl hbA hcs0 hcs a1 a2 a3 hi1 h1 hi2 h2 hi3 h3 h hR hS hl kk
  have h := mif_n h c27
  by_cases c28 : x40 = 28
  · have h := mif_y h c28
    refine lv_tableIn (tgt := 1160) hx hb dL_law_40 (by rw [c28]; decide) (by rw [c28]; decide) (by rw [c28] <;> rfl) (by decide) ?_
    exact w_law_c28 hlt hx hb hml hown hF hE hX hbl hbA hcs0 hcs a1 a2 a3 hi1 h1 hi2 h2 hi3 h3 h hR hS hl kk
  have h := mif_n h c28
  by_cases c29 : x40 = 29
  · have h := mif_y h c29
    refine lv_tableIn (tgt := 1209) hx hb dL_law_40 (by rw [c29]; decide) (by rw [c29]; decide) (by rw [c29] <;> rfl) (by decide) ?_
    exact w_law_c29 hlt hx hb hml hown hF hE hX hbl hbA hcs0 hcs a1 a2 hi1 h1 hi2 h2 h hR hS hl kk
  have h := mif_n h c29
  by_cases c30 : x40 = 30
  · have h := mif_y h c30
    refine lv_tableIn (tgt := 1276) hx hb dL_law_40 (by rw [c30]; decide) (by rw [c30]; decide) (by rw [c30] <;> rfl) (by decide) ?_
    exact w_law_c30 hlt hx hb hml hown hF hE hX hbl hbA hcs0 hcs a1 a2 a3 a4 a5 hi1 h1 hi2 h2 hi3 h3 hi4 h4 hi5 h5 h hR hS hl kk
  have h := mif_n h c30
  by_cases c31 : x40 = 31
  · have h := mif_y h c31
    refine lv_tableIn (tgt := 1349) hx hb dL_law_40 (by rw [c31]; decide) (by rw [c31]; decide) (by rw [c31] <;> rfl) (by decide) ?_
    exact w_law_c31 hlt hx hb hml hown hF hE hX hbl hbA hcs0 hcs a1 hi1 h1 h hR hS hl kk
  have h := mif_n h c31
  by_cases c32 : x40 = 32
  · have h := mif_y h c32
    refine lv_tableIn (tgt := 1374) hx hb dL_law_40 (by rw [c32]; decide) (by rw [c32]; decide) (by rw [c32] <;> rfl) (by decide) ?_
    exact w_law_c32 hlt hx hb hml hown hF hE hX hbl hbA hcs0 hcs a1 hi1 h1 h hR hS hl kk
  have h := mif_n h c32
  refine lv_tableOut (tgt := 1399) hx hb dL_law_40 (m_swOut (fun q => by have := q.1; have := q.2; have := lv_neT c0 (a := 0) rfl; have := lv_neT c1 (a := 1) rfl; have := lv_neT c2 (a := 2) rfl; have := lv_neT c3 (a := 3) rfl; have := lv_neT c4 (a := 4) rfl; have := lv_neT c5 (a := 5) rfl; have := lv_neT c6 (a := 6) rfl; have := lv_neT c7 (a := 7) rfl; have := lv_neT c8 (a := 8) rfl; have := lv_neT c9 (a := 9) rfl; have := lv_neT c10 (a := 10) rfl; have := lv_neT c11 (a := 11) rfl; have := lv_neT c12 (a := 12) rfl; have := lv_neT c13 (a := 13) rfl; have := lv_neT c14 (a := 14) rfl; have := lv_neT c15 (a := 15) rfl; have := lv_neT c16 (a := 16) rfl; have := lv_neT c17 (a := 17) rfl; have := lv_neT c18 (a := 18) rfl; have := lv_neT c19 (a := 19) rfl; have := lv_neT c20 (a := 20) rfl; have := lv_neT c21 (a := 21) rfl; have := lv_neT c22 (a := 22) rfl; have := lv_neT c23 (a := 23) rfl; have := lv_neT c24 (a := 24) rfl; have := lv_neT c25 (a := 25) rfl; have := lv_neT c26 (a := 26) rfl; have := lv_neT c27 (a := 27) rfl; have := lv_neT c28 (a := 28) rfl; have := lv_neT c29 (a := 29) rfl; have := lv_neT c30 (a := 30) rfl; have := lv_neT c31 (a := 31) rfl; have := lv_neT c32 (a := 32) rfl; omega)) (by decide) ?_
  have h9 := Option.some.inj h
  subst h9
  refine W.widen (k := cells + 1) (n := slots + 6) (Nat.le_succ _) (Nat.le_add_right _ _) ?_
  exact kk H locs ls hR hS hl
def f_law_run (xs : Nat → Int32) : Nat → Nat → mM → Option mM
  | 0, _, M => some M
  | n + 1, k, M => mbp (f_law_step (xs (6 * k)) (xs (6 * k + 1)) (xs (6 * k + 2)) (xs (6 * k + 3)) (xs (6 * k + 4)) (xs (6 * k + 5)) M) fun M1 => f_law_run xs n (k + 1) M1
theorem law_at {k L j : Nat} (h : 6 * k + 6 ≤ L) (hL : L ≤ 3072) (hj : j ≤ 6) : nI (6 * k) + nI j = nI (6 * k + j) ∧ (j < 6 → vp_in (nI (6 * k) + nI j) L ∧ (nI (6 * k) + nI j).toNatClampNeg = 6 * k + j) := by
  refine ⟨nI_add _ _, fun h6 => ?_⟩
  rw [nI_add]
  exact ⟨nI_in (by omega) (by omega), nI_clamp (by omega)⟩
theorem law_gt {k L : Nat} (hL : L ≤ 3072) (hk : k ≤ 600) : nI L - 6 < nI (6 * k) ↔ L < 6 * k + 6 := by
  have h1 : (nI L - 6).toInt = (L : Int) - 6 := by
    rw [Int32.toInt_sub, nI_toInt (by omega), show (6 : Int32).toInt = 6 from by decide, Int.bmod]
    split <;> omega
  rw [Int32.lt_iff_toInt_lt, h1, nI_toInt (by omega)]
  omega
set_option maxRecDepth 100000 in
set_option maxHeartbeats 4000000 in
theorem w_law_loop {p : Program} {e : Env} {s : State} {m : MethodId} {args : Array Value} {below : List Frame} {meth : Method} {c : Code} {l : Launch} {X : mX} {b L : Nat} {xs : Nat → Int32} {Q : State → Prop} (hlt : l.stackTraces = false) (hx : p.tables.exec = Jvm.exec) (hb : c.code = cL_law) (hml : c.maxLocals = 8) (hown : s.vm.findClass RL = some m.cls) (hF : mF X s s.heap) (hE : mE X s s.heap) (hX : va_X b L xs s s.heap) (hbl : b < s.heap.size) (hbA : ¬ mL X b) (hL : L ≤ 3072) {CB SB : Nat} (hC : CB ≤ 500 ∧ SB ≤ 20000) {M9 : mM} (kk : ∀ (H : Heap) (locs : List Loc) (ls : Array Slot), va_S (mL X) s.heap H locs → W p l e room_1 s m args below meth c H locs (CB + L / 6) (SB + 6 * (L / 6)) Q (F0 m 1405 ls [])) :
    ∀ n k (M : mM), k + n = L / 6 → f_law_run xs n k M = some M9 → ∀ (H : Heap) (locs : List Loc) (ls : Array Slot), mR X s H M → va_S (mL X) s.heap H locs → lv_has ls 8 [(0, .ref b), (1, .ref (X.1 0)), (2, .ref (X.1 96)), (3, .ref (X.1 117)), (4, .int (nI (6 * k)))] → W p l e room_1 s m args below meth c H locs (CB + k) (SB + 6 * k) Q (F0 m 23 ls []) := by
  intro n
  induction n with
  | zero =>
    intro k M hk h H locs ls hR hS hl
    refine lv_iload hx hb dL_law_23 (lv_at hl 4 rfl) ?_
    refine lv_aload_n hx hb dL_law_25 rfl (lv_at hl 0 rfl) ?_
    refine va_slen hx hb hX hbl hbA hS dL_law_26 ?_
    refine lv_bipush (v := 6) hx hb dL_law_27 (by decide) ?_
    refine lv_isub hx hb dL_law_29 ?_
    have h9 : nI L - 6 < nI (6 * k) := (law_gt hL (by omega)).mpr (by omega)
    refine lv_icmp_gt (tgt := 1405) hx hb dL_law_30 (by decide) (fun _ => ?_) (fun q => absurd h9 q)
    have e9 : k = L / 6 := by omega
    subst e9
    exact kk H locs ls hS
  | succ n ih =>
    intro k M hk h H locs ls hR hS hl
    obtain ⟨M1, h1, h2⟩ := mbp_e h
    have hk6 : 6 * k + 6 ≤ L := by omega
    refine lv_iload hx hb dL_law_23 (lv_at hl 4 rfl) ?_
    refine lv_aload_n hx hb dL_law_25 rfl (lv_at hl 0 rfl) ?_
    refine va_slen hx hb hX hbl hbA hS dL_law_26 ?_
    refine lv_bipush (v := 6) hx hb dL_law_27 (by decide) ?_
    refine lv_isub hx hb dL_law_29 ?_
    refine lv_icmp_gt (tgt := 1405) hx hb dL_law_30 (by decide) (fun q => absurd ((law_gt hL (by omega)).mp q) (by omega)) (fun _ => ?_)
    refine lv_aload_n hx hb dL_law_33 rfl (lv_at hl 0 rfl) ?_
    refine lv_iload hx hb dL_law_34 (lv_at hl 4 rfl) ?_
    refine law_ld (v := xs (6 * k)) hx hb hX hbl hbA hS (nI_in (by omega) (by omega)) (by rw [nI_clamp (by omega)]) dL_law_36 ?_
    refine lv_bipush (v := 63) hx hb dL_law_37 (by decide) ?_
    refine lv_iand hx hb dL_law_39 ?_
    refine w_law_step hlt hx hb hml hown hF hE hX hbl hbA (room_le hC (by omega)) (room_le1 hC (by omega)) ((law_at hk6 hL (j := 1) (by decide)).2 (by decide)).1 (by rw [show (1 : Int32) = nI 1 from rfl, ((law_at hk6 hL (j := 1) (by decide)).2 (by decide)).2]) ((law_at hk6 hL (j := 2) (by decide)).2 (by decide)).1 (by rw [show (2 : Int32) = nI 2 from rfl, ((law_at hk6 hL (j := 2) (by decide)).2 (by decide)).2]) ((law_at hk6 hL (j := 3) (by decide)).2 (by decide)).1 (by rw [show (3 : Int32) = nI 3 from rfl, ((law_at hk6 hL (j := 3) (by decide)).2 (by decide)).2]) ((law_at hk6 hL (j := 4) (by decide)).2 (by decide)).1 (by rw [show (4 : Int32) = nI 4 from rfl, ((law_at hk6 hL (j := 4) (by decide)).2 (by decide)).2]) ((law_at hk6 hL (j := 5) (by decide)).2 (by decide)).1 (by rw [show (5 : Int32) = nI 5 from rfl, ((law_at hk6 hL (j := 5) (by decide)).2 (by decide)).2]) h1 hR hS hl (fun H locs ls hR hS hl => ?_)
    refine lv_iinc (v := nI (6 * (k + 1))) (lv' := [(4, .int (nI (6 * (k + 1)))), (0, .ref b), (1, .ref (X.1 0)), (2, .ref (X.1 96)), (3, .ref (X.1 117))]) hx hb dL_law_1399 hl (k := 4) rfl ((law_at hk6 hL (j := 6) (by decide)).1.trans (by rw [show 6 * (k + 1) = 6 * k + 6 from by omega])) (by decide) rfl (fun ls hl => ?_)
    refine lv_goto (tgt := 23) hx hb dL_law_1402 (by decide) ?_
    exact ih (k + 1) M1 (by omega) h2 H locs ls hR hS (lv_sub hl [1, 2, 3, 4, 0] rfl)
