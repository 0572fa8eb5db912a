theorem mw_1_71 : mGw (.fieldLink RX0 28 RX0 "grid" "[I") := mG1 (i := 71) (by decide +kernel) rfl
theorem mw_1_46 : mGw (.fieldLink RX0 41 RX0 "size" "I") := mG1 (i := 46) (by decide +kernel) rfl
theorem mw_2_94 : mGw (.methodLink RX0 51 yX0_inCell) := mG2 (i := 94) (by decide +kernel) rfl
theorem mw_2_81 : mGw (.instanceMethod yX0_inCell) := mG2 (i := 81) (by decide +kernel) rfl
theorem mw_2_82 : mGw (.selects RX0 yX0_inCell yX0_inCell) := mG2 (i := 82) (by decide +kernel) rfl
theorem mw_1_3 : mGw (.initialized RX0) := mG1 (i := 3) (by decide +kernel) rfl
theorem mw_2_83 : mGw (.code yX0_inCell cX0_inCell 2 (some .int)) := mG2 (i := 83) (by decide +kernel) rfl
theorem mw_1_45 : mGw (.code yX9_levelOf cX9_levelOf 1 (some .int)) := mG1 (i := 45) (by decide +kernel) rfl
theorem mw_1_1 : mGw (.initialized RX9) := mG1 (i := 1) (by decide +kernel) rfl
theorem mw_1_44 : mGw (.static yX9_levelOf) := mG1 (i := 44) (by decide +kernel) rfl
theorem mw_2_88 : mGw (.methodLink RX0 54 yX0_has) := mG2 (i := 88) (by decide +kernel) rfl
theorem mw_2_89 : mGw (.instanceMethod yX0_has) := mG2 (i := 89) (by decide +kernel) rfl
theorem mw_2_90 : mGw (.selects RX0 yX0_has yX0_has) := mG2 (i := 90) (by decide +kernel) rfl
theorem mw_2_91 : mGw (.code yX0_has cX0_has 2 (some .boolean)) := mG2 (i := 91) (by decide +kernel) rfl
theorem mw_1_51 : mGw (.fieldLink RX0 9 RX0 "kind" "[I") := mG1 (i := 51) (by decide +kernel) rfl
theorem mw_1_54 : mGw (.fieldLink RX0 15 RX0 "cell" "[I") := mG1 (i := 54) (by decide +kernel) rfl
theorem mw_1_60 : mGw (.fieldLink RX0 18 RX0 "power" "[I") := mG1 (i := 60) (by decide +kernel) rfl
theorem mw_1_65 : mGw (.fieldLink RX0 21 RX0 "dead" "[Z") := mG1 (i := 65) (by decide +kernel) rfl
theorem mw_1_116 : mGw (.fieldLink RX8 12 RX8 "body" "LCubeFolk$Body;") := mG1 (i := 116) (by decide +kernel) rfl
theorem mw_1_49 : mGw (.fieldLink RX8 76 RX0 "size" "I") := mG1 (i := 49) (by decide +kernel) rfl
theorem mw_2_99 : mGw (.methodLink RX8 79 yX0_place) := mG2 (i := 99) (by decide +kernel) rfl
theorem mw_2_100 : mGw (.instanceMethod yX0_place) := mG2 (i := 100) (by decide +kernel) rfl
theorem mw_2_101 : mGw (.selects RX0 yX0_place yX0_place) := mG2 (i := 101) (by decide +kernel) rfl
theorem mw_2_102 : mGw (.code yX0_place cX0_place 4 none) := mG2 (i := 102) (by decide +kernel) rfl
theorem mw_1_123 : mGw (.fieldLink RX8 18 RX8 "memory" "[I") := mG1 (i := 123) (by decide +kernel) rfl
theorem mw_1_126 : mGw (.fieldLink RX8 22 RX8 "said" "[I") := mG1 (i := 126) (by decide +kernel) rfl
theorem mw_1_128 : mGw (.fieldLink RX8 25 RX8 "heard" "[I") := mG1 (i := 128) (by decide +kernel) rfl
theorem mw_1_131 : mGw (.fieldLink RX8 28 RX8 "runs" "[I") := mG1 (i := 131) (by decide +kernel) rfl
theorem mw_2_74 : mGw (.methodLink RX9 65 yX9_onGrid) := mG2 (i := 74) (by decide +kernel) rfl
theorem mw_2_75 : mGw (.static yX9_onGrid) := mG2 (i := 75) (by decide +kernel) rfl
theorem mw_2_76 : mGw (.code yX9_onGrid cX9_onGrid 2 (some .boolean)) := mG2 (i := 76) (by decide +kernel) rfl
theorem mw_2_42 : mGw (.fieldLink RX9 12 RX9 "now" "LCubeFolk$World;") := mG2 (i := 42) (by decide +kernel) rfl
theorem mw_1_118 : mGw (.fieldLink RX9 69 RX8 "body" "LCubeFolk$Body;") := mG1 (i := 118) (by decide +kernel) rfl
theorem mw_1_48 : mGw (.fieldLink RX9 72 RX0 "size" "I") := mG1 (i := 48) (by decide +kernel) rfl
theorem mw_2_77 : mGw (.methodLink RX9 76 yX9_cellOf) := mG2 (i := 77) (by decide +kernel) rfl
theorem mw_2_78 : mGw (.static yX9_cellOf) := mG2 (i := 78) (by decide +kernel) rfl
theorem mw_2_79 : mGw (.code yX9_cellOf cX9_cellOf 2 (some .int)) := mG2 (i := 79) (by decide +kernel) rfl
theorem mw_2_80 : mGw (.methodLink RX9 80 yX0_inCell) := mG2 (i := 80) (by decide +kernel) rfl
theorem mw_2_84 : mGw (.methodLink RX9 84 yX0_holdsOn) := mG2 (i := 84) (by decide +kernel) rfl
theorem mw_2_85 : mGw (.instanceMethod yX0_holdsOn) := mG2 (i := 85) (by decide +kernel) rfl
theorem mw_2_86 : mGw (.selects RX0 yX0_holdsOn yX0_holdsOn) := mG2 (i := 86) (by decide +kernel) rfl
theorem mw_2_87 : mGw (.code yX0_holdsOn cX0_holdsOn 6 (some .boolean)) := mG2 (i := 87) (by decide +kernel) rfl
theorem mw_2_95 : mGw (.methodLink RX9 87 yX8_addCube) := mG2 (i := 95) (by decide +kernel) rfl
theorem mw_2_96 : mGw (.instanceMethod yX8_addCube) := mG2 (i := 96) (by decide +kernel) rfl
theorem mw_2_97 : mGw (.selects RX8 yX8_addCube yX8_addCube) := mG2 (i := 97) (by decide +kernel) rfl
theorem mw_1_2 : mGw (.initialized RX8) := mG1 (i := 2) (by decide +kernel) rfl
theorem mw_2_98 : mGw (.code yX8_addCube cX8_addCube 5 (some .int)) := mG2 (i := 98) (by decide +kernel) rfl
theorem mw_1_69 : mGw (.fieldLink RX0 25 RX0 "load" "[I") := mG1 (i := 69) (by decide +kernel) rfl
theorem mw_2_126 : mGw (.methodLink RX0 101 yX0_hangs) := mG2 (i := 126) (by decide +kernel) rfl
theorem mw_2_127 : mGw (.instanceMethod yX0_hangs) := mG2 (i := 127) (by decide +kernel) rfl
theorem mw_2_128 : mGw (.selects RX0 yX0_hangs yX0_hangs) := mG2 (i := 128) (by decide +kernel) rfl
theorem mw_2_129 : mGw (.code yX0_hangs cX0_hangs 2 (some .boolean)) := mG2 (i := 129) (by decide +kernel) rfl
theorem mw_2_132 : mGw (.methodLink RX0 107 yX0_passOn) := mG2 (i := 132) (by decide +kernel) rfl
theorem mw_2_134 : mGw (.instanceMethod yX0_passOn) := mG2 (i := 134) (by decide +kernel) rfl
theorem mw_p_1 : mGw (.selects RX0 yX0_passOn yX0_passOn) := mGp (i := 1) (by decide +kernel) rfl
theorem mw_2_135 : mGw (.code yX0_passOn cX0_passOn 7 none) := mG2 (i := 135) (by decide +kernel) rfl
theorem mw_2_121 : mGw (.methodLink RX0 93 yX0_passRowOn) := mG2 (i := 121) (by decide +kernel) rfl
theorem mw_2_123 : mGw (.instanceMethod yX0_passRowOn) := mG2 (i := 123) (by decide +kernel) rfl
theorem mw_p_0 : mGw (.selects RX0 yX0_passRowOn yX0_passRowOn) := mGp (i := 0) (by decide +kernel) rfl
theorem mw_2_124 : mGw (.code yX0_passRowOn cX0_passRowOn 6 none) := mG2 (i := 124) (by decide +kernel) rfl
theorem mw_2_117 : mGw (.methodLink RX0 90 yX0_weigh) := mG2 (i := 117) (by decide +kernel) rfl
theorem mw_2_118 : mGw (.instanceMethod yX0_weigh) := mG2 (i := 118) (by decide +kernel) rfl
theorem mw_2_119 : mGw (.selects RX0 yX0_weigh yX0_weigh) := mG2 (i := 119) (by decide +kernel) rfl
theorem mw_2_120 : mGw (.code yX0_weigh cX0_weigh 2 none) := mG2 (i := 120) (by decide +kernel) rfl
theorem mw_2_110 : mGw (.methodLink RX9 115 yX9_oneIf) := mG2 (i := 110) (by decide +kernel) rfl
theorem mw_2_111 : mGw (.static yX9_oneIf) := mG2 (i := 111) (by decide +kernel) rfl
theorem mw_2_112 : mGw (.code yX9_oneIf cX9_oneIf 1 (some .int)) := mG2 (i := 112) (by decide +kernel) rfl
theorem mw_2_107 : mGw (.methodLink RX9 91 yX0_has) := mG2 (i := 107) (by decide +kernel) rfl
theorem mw_1_53 : mGw (.fieldLink RX9 95 RX0 "kind" "[I") := mG1 (i := 53) (by decide +kernel) rfl
theorem mw_1_56 : mGw (.fieldLink RX9 99 RX0 "cell" "[I") := mG1 (i := 56) (by decide +kernel) rfl
theorem mw_2_108 : mGw (.methodLink RX9 102 yX9_columnOf) := mG2 (i := 108) (by decide +kernel) rfl
theorem mw_1_41 : mGw (.static yX9_columnOf) := mG1 (i := 41) (by decide +kernel) rfl
theorem mw_1_42 : mGw (.code yX9_columnOf cX9_columnOf 1 (some .int)) := mG1 (i := 42) (by decide +kernel) rfl
theorem mw_2_109 : mGw (.methodLink RX9 105 yX9_levelOf) := mG2 (i := 109) (by decide +kernel) rfl
theorem mw_1_62 : mGw (.fieldLink RX9 108 RX0 "power" "[I") := mG1 (i := 62) (by decide +kernel) rfl
theorem mw_1_67 : mGw (.fieldLink RX9 111 RX0 "dead" "[Z") := mG1 (i := 67) (by decide +kernel) rfl
theorem mw_2_113 : mGw (.methodLink RX9 119 yX0_loadOf) := mG2 (i := 113) (by decide +kernel) rfl
theorem mw_2_114 : mGw (.instanceMethod yX0_loadOf) := mG2 (i := 114) (by decide +kernel) rfl
theorem mw_2_115 : mGw (.selects RX0 yX0_loadOf yX0_loadOf) := mG2 (i := 115) (by decide +kernel) rfl
theorem mw_2_116 : mGw (.code yX0_loadOf cX0_loadOf 2 (some .int)) := mG2 (i := 116) (by decide +kernel) rfl
theorem mw_2_136 : mGw (.fieldLink RX9 122 "CubeFolk" "BEARS" "[I") := mG2 (i := 136) (by decide +kernel) rfl
theorem mw_1_124 : mGw (.fieldLink RX9 125 RX8 "memory" "[I") := mG1 (i := 124) (by decide +kernel) rfl
theorem mw_1_129 : mGw (.fieldLink RX9 128 RX8 "heard" "[I") := mG1 (i := 129) (by decide +kernel) rfl
theorem mw_1_133 : mGw (.fieldLink RX9 131 RX8 "runs" "[I") := mG1 (i := 133) (by decide +kernel) rfl
theorem mw_2_138 : mGw (.methodLink RX9 134 yX0_hangs) := mG2 (i := 138) (by decide +kernel) rfl
theorem mw_1_100 : mGw (.fieldLink RX2 22 RX2 "size" "I") := mG1 (i := 100) (by decide +kernel) rfl
theorem mw_1_103 : mGw (.fieldLink RX2 9 RX2 "who" "[I") := mG1 (i := 103) (by decide +kernel) rfl
theorem mw_1_104 : mGw (.fieldLink RX2 15 RX2 "when" "[I") := mG1 (i := 104) (by decide +kernel) rfl
theorem mw_1_105 : mGw (.fieldLink RX2 18 RX2 "saysDead" "[Z") := mG1 (i := 105) (by decide +kernel) rfl
theorem mw_1_144 : mGw (.fieldLink RX9 137 RX8 "log" "LCubeFolk$Notes;") := mG1 (i := 144) (by decide +kernel) rfl
theorem mw_1_101 : mGw (.fieldLink RX9 141 RX2 "size" "I") := mG1 (i := 101) (by decide +kernel) rfl
theorem mw_1_121 : mGw (.fieldLink RX9 144 RX8 "time" "I") := mG1 (i := 121) (by decide +kernel) rfl
theorem mw_2_147 : mGw (.methodLink RX9 147 yX2_note) := mG2 (i := 147) (by decide +kernel) rfl
theorem mw_2_148 : mGw (.instanceMethod yX2_note) := mG2 (i := 148) (by decide +kernel) rfl
theorem mw_2_149 : mGw (.selects RX2 yX2_note yX2_note) := mG2 (i := 149) (by decide +kernel) rfl
theorem mw_1_4 : mGw (.initialized RX2) := mG1 (i := 4) (by decide +kernel) rfl
theorem mw_2_150 : mGw (.code yX2_note cX2_note 4 (some .int)) := mG2 (i := 150) (by decide +kernel) rfl
theorem mw_2_173 : mGw (.methodLink RX0 77 yX0_supports) := mG2 (i := 173) (by decide +kernel) rfl
theorem mw_2_175 : mGw (.instanceMethod yX0_supports) := mG2 (i := 175) (by decide +kernel) rfl
theorem mw_p_3 : mGw (.selects RX0 yX0_supports yX0_supports) := mGp (i := 3) (by decide +kernel) rfl
theorem mw_2_176 : mGw (.code yX0_supports cX0_supports 3 (some .boolean)) := mG2 (i := 176) (by decide +kernel) rfl
theorem mw_1_72 : mGw (.fieldLink RX0 31 RX0 "reached" "[I") := mG1 (i := 72) (by decide +kernel) rfl
theorem mw_2_185 : mGw (.methodLink RX0 71 yX0_holdsOn) := mG2 (i := 185) (by decide +kernel) rfl
theorem mw_2_186 : mGw (.methodLink RX0 74 yX0_othersAreWhole) := mG2 (i := 186) (by decide +kernel) rfl
theorem mw_2_188 : mGw (.instanceMethod yX0_othersAreWhole) := mG2 (i := 188) (by decide +kernel) rfl
theorem mw_p_5 : mGw (.selects RX0 yX0_othersAreWhole yX0_othersAreWhole) := mGp (i := 5) (by decide +kernel) rfl
theorem mw_2_189 : mGw (.code yX0_othersAreWhole cX0_othersAreWhole 11 (some .boolean)) := mG2 (i := 189) (by decide +kernel) rfl
theorem mw_2_177 : mGw (.methodLink RX0 68 yX0_turns) := mG2 (i := 177) (by decide +kernel) rfl
theorem mw_2_179 : mGw (.instanceMethod yX0_turns) := mG2 (i := 179) (by decide +kernel) rfl
theorem mw_p_4 : mGw (.selects RX0 yX0_turns yX0_turns) := mGp (i := 4) (by decide +kernel) rfl
theorem mw_2_180 : mGw (.code yX0_turns cX0_turns 3 (some .boolean)) := mG2 (i := 180) (by decide +kernel) rfl
theorem mw_2_169 : mGw (.methodLink RX0 64 yX0_slides) := mG2 (i := 169) (by decide +kernel) rfl
theorem mw_2_171 : mGw (.instanceMethod yX0_slides) := mG2 (i := 171) (by decide +kernel) rfl
theorem mw_p_2 : mGw (.selects RX0 yX0_slides yX0_slides) := mGp (i := 2) (by decide +kernel) rfl
theorem mw_2_172 : mGw (.code yX0_slides cX0_slides 5 (some .boolean)) := mG2 (i := 172) (by decide +kernel) rfl
theorem mw_2_159 : mGw (.methodLink RX9 151 yX0_isMove) := mG2 (i := 159) (by decide +kernel) rfl
theorem mw_2_160 : mGw (.instanceMethod yX0_isMove) := mG2 (i := 160) (by decide +kernel) rfl
theorem mw_2_161 : mGw (.selects RX0 yX0_isMove yX0_isMove) := mG2 (i := 161) (by decide +kernel) rfl
theorem mw_2_162 : mGw (.code yX0_isMove cX0_isMove 2 (some .boolean)) := mG2 (i := 162) (by decide +kernel) rfl
theorem mw_2_163 : mGw (.methodLink RX9 154 yX0_mayGo) := mG2 (i := 163) (by decide +kernel) rfl
theorem mw_2_164 : mGw (.instanceMethod yX0_mayGo) := mG2 (i := 164) (by decide +kernel) rfl
theorem mw_2_165 : mGw (.selects RX0 yX0_mayGo yX0_mayGo) := mG2 (i := 165) (by decide +kernel) rfl
theorem mw_2_166 : mGw (.code yX0_mayGo cX0_mayGo 6 (some .boolean)) := mG2 (i := 166) (by decide +kernel) rfl
theorem mw_2_198 : mGw (.methodLink RX0 86 yX0_shift) := mG2 (i := 198) (by decide +kernel) rfl
theorem mw_2_200 : mGw (.instanceMethod yX0_shift) := mG2 (i := 200) (by decide +kernel) rfl
theorem mw_p_6 : mGw (.selects RX0 yX0_shift yX0_shift) := mGp (i := 6) (by decide +kernel) rfl
theorem mw_2_201 : mGw (.code yX0_shift cX0_shift 3 none) := mG2 (i := 201) (by decide +kernel) rfl
theorem mw_2_194 : mGw (.methodLink RX9 157 yX0_go) := mG2 (i := 194) (by decide +kernel) rfl
theorem mw_2_195 : mGw (.instanceMethod yX0_go) := mG2 (i := 195) (by decide +kernel) rfl
theorem mw_2_196 : mGw (.selects RX0 yX0_go yX0_go) := mG2 (i := 196) (by decide +kernel) rfl
theorem mw_2_197 : mGw (.code yX0_go cX0_go 3 none) := mG2 (i := 197) (by decide +kernel) rfl
theorem mw_1_70 : mGw (.fieldLink RX9 164 RX0 "load" "[I") := mG1 (i := 70) (by decide +kernel) rfl
theorem mw_2_210 : mGw (.methodLink RX9 161 yX0_weigh) := mG2 (i := 210) (by decide +kernel) rfl
theorem mw_2_8 : mGw (.fieldLink RX6 11 RX6 "holds" "I") := mG2 (i := 8) (by decide +kernel) rfl
theorem mw_2_222 : mGw (.methodLink RX6 62 yX6_isRow) := mG2 (i := 222) (by decide +kernel) rfl
theorem mw_2_223 : mGw (.instanceMethod yX6_isRow) := mG2 (i := 223) (by decide +kernel) rfl
theorem mw_2_224 : mGw (.selects RX6 yX6_isRow yX6_isRow) := mG2 (i := 224) (by decide +kernel) rfl
theorem mw_1_10 : mGw (.initialized RX6) := mG1 (i := 10) (by decide +kernel) rfl
theorem mw_2_225 : mGw (.code yX6_isRow cX6_isRow 1 (some .boolean)) := mG2 (i := 225) (by decide +kernel) rfl
theorem mw_1_205 : mGw (.fieldLink RX7 22 RX7 "size" "I") := mG1 (i := 205) (by decide +kernel) rfl
theorem mw_1_206 : mGw (.fieldLink RX7 25 RX7 "place" "I") := mG1 (i := 206) (by decide +kernel) rfl
theorem mw_1_207 : mGw (.fieldLink RX7 18 RX7 "fault" "I") := mG1 (i := 207) (by decide +kernel) rfl
theorem mw_1_204 : mGw (.fieldLink RX7 13 RX7 "text" "[I") := mG1 (i := 204) (by decide +kernel) rfl
theorem mw_3_10 : mGw (.methodLink RX7 28 ⟨RX7, "look", "()I"⟩) := mG3 (i := 10) (by decide +kernel) rfl
theorem mw_3_12 : mGw (.sameMethod RX7 RX7 "look" "()I") := mG3 (i := 12) (by decide +kernel) rfl
theorem mw_3_13 : mGw (.selects RX1 ⟨RX7, "look", "()I"⟩ yX7_look) := mG3 (i := 13) (by decide +kernel) rfl
theorem mw_3_11 : mGw (.instanceMethod yX7_look) := mG3 (i := 11) (by decide +kernel) rfl
theorem mw_1_6 : mGw (.initialized RX7) := mG1 (i := 6) (by decide +kernel) rfl
theorem mw_3_16 : mGw (.code yX7_look cX7_look 1 (some .int)) := mG3 (i := 16) (by decide +kernel) rfl
theorem mw_3_14 : mGw (.selects RX4 ⟨RX7, "look", "()I"⟩ yX7_look) := mG3 (i := 14) (by decide +kernel) rfl
theorem mw_3_15 : mGw (.selects RX5 ⟨RX7, "look", "()I"⟩ yX7_look) := mG3 (i := 15) (by decide +kernel) rfl
theorem mw_3_27 : mGw (.methodLink RX7 32 ⟨RX7, "takeIf", "(C)Z"⟩) := mG3 (i := 27) (by decide +kernel) rfl
theorem mw_7_130 : mGw (.sameMethod RX7 RX7 "takeIf" "(C)Z") := mG7 (i := 130) (by decide +kernel) rfl
theorem mw_7_131 : mGw (.selects RX1 ⟨RX7, "takeIf", "(C)Z"⟩ yX7_takeIf) := mG7 (i := 131) (by decide +kernel) rfl
theorem mw_3_8 : mGw (.instanceMethod yX7_takeIf) := mG3 (i := 8) (by decide +kernel) rfl
theorem mw_3_9 : mGw (.code yX7_takeIf cX7_takeIf 3 (some .boolean)) := mG3 (i := 9) (by decide +kernel) rfl
theorem mw_7_132 : mGw (.selects RX4 ⟨RX7, "takeIf", "(C)Z"⟩ yX7_takeIf) := mG7 (i := 132) (by decide +kernel) rfl
theorem mw_7_133 : mGw (.selects RX5 ⟨RX7, "takeIf", "(C)Z"⟩ yX7_takeIf) := mG7 (i := 133) (by decide +kernel) rfl
theorem mw_3_28 : mGw (.methodLink RX7 36 ⟨RX7, "fail", "()V"⟩) := mG3 (i := 28) (by decide +kernel) rfl
theorem mw_3_30 : mGw (.sameMethod RX7 RX7 "fail" "()V") := mG3 (i := 30) (by decide +kernel) rfl
theorem mw_3_31 : mGw (.selects RX1 ⟨RX7, "fail", "()V"⟩ yX7_fail) := mG3 (i := 31) (by decide +kernel) rfl
theorem mw_3_29 : mGw (.instanceMethod yX7_fail) := mG3 (i := 29) (by decide +kernel) rfl
theorem mw_3_34 : mGw (.code yX7_fail cX7_fail 1 none) := mG3 (i := 34) (by decide +kernel) rfl
theorem mw_3_32 : mGw (.selects RX4 ⟨RX7, "fail", "()V"⟩ yX7_fail) := mG3 (i := 32) (by decide +kernel) rfl
theorem mw_3_33 : mGw (.selects RX5 ⟨RX7, "fail", "()V"⟩ yX7_fail) := mG3 (i := 33) (by decide +kernel) rfl
theorem mw_3_39 : mGw (.methodLink RX5 68 ⟨RX5, "demandDigit", "(II)I"⟩) := mG3 (i := 39) (by decide +kernel) rfl
theorem mw_3_40 : mGw (.sameMethod RX5 RX7 "demandDigit" "(II)I") := mG3 (i := 40) (by decide +kernel) rfl
theorem mw_3_42 : mGw (.selects RX5 ⟨RX5, "demandDigit", "(II)I"⟩ yX7_demandDigit) := mG3 (i := 42) (by decide +kernel) rfl
theorem mw_3_43 : mGw (.instanceMethod yX7_demandDigit) := mG3 (i := 43) (by decide +kernel) rfl
theorem mw_3_44 : mGw (.code yX7_demandDigit cX7_demandDigit 4 (some .int)) := mG3 (i := 44) (by decide +kernel) rfl
theorem mw_3_73 : mGw (.methodLink RX7 39 ⟨RX7, "atEnd", "()Z"⟩) := mG3 (i := 73) (by decide +kernel) rfl
theorem mw_3_75 : mGw (.sameMethod RX7 RX7 "atEnd" "()Z") := mG3 (i := 75) (by decide +kernel) rfl
theorem mw_3_76 : mGw (.selects RX1 ⟨RX7, "atEnd", "()Z"⟩ yX7_atEnd) := mG3 (i := 76) (by decide +kernel) rfl
theorem mw_3_74 : mGw (.instanceMethod yX7_atEnd) := mG3 (i := 74) (by decide +kernel) rfl
theorem mw_3_79 : mGw (.code yX7_atEnd cX7_atEnd 1 (some .boolean)) := mG3 (i := 79) (by decide +kernel) rfl
theorem mw_3_77 : mGw (.selects RX4 ⟨RX7, "atEnd", "()Z"⟩ yX7_atEnd) := mG3 (i := 77) (by decide +kernel) rfl
theorem mw_3_78 : mGw (.selects RX5 ⟨RX7, "atEnd", "()Z"⟩ yX7_atEnd) := mG3 (i := 78) (by decide +kernel) rfl
theorem mw_3_4 : mGw (.methodLink RX5 48 ⟨RX5, "takeIf", "(C)Z"⟩) := mG3 (i := 4) (by decide +kernel) rfl
theorem mw_3_5 : mGw (.sameMethod RX5 RX7 "takeIf" "(C)Z") := mG3 (i := 5) (by decide +kernel) rfl
theorem mw_3_7 : mGw (.selects RX5 ⟨RX5, "takeIf", "(C)Z"⟩ yX7_takeIf) := mG3 (i := 7) (by decide +kernel) rfl
theorem mw_3_45 : mGw (.methodLink RX5 65 ⟨RX5, "fail", "()V"⟩) := mG3 (i := 45) (by decide +kernel) rfl
theorem mw_3_46 : mGw (.sameMethod RX5 RX7 "fail" "()V") := mG3 (i := 46) (by decide +kernel) rfl
theorem mw_3_48 : mGw (.selects RX5 ⟨RX5, "fail", "()V"⟩ yX7_fail) := mG3 (i := 48) (by decide +kernel) rfl
theorem mw_3_35 : mGw (.methodLink RX5 61 yX5_readBox) := mG3 (i := 35) (by decide +kernel) rfl
theorem mw_3_37 : mGw (.instanceMethod yX5_readBox) := mG3 (i := 37) (by decide +kernel) rfl
theorem mw_p_10 : mGw (.selects RX5 yX5_readBox yX5_readBox) := mGp (i := 10) (by decide +kernel) rfl
theorem mw_1_8 : mGw (.initialized RX5) := mG1 (i := 8) (by decide +kernel) rfl
theorem mw_3_38 : mGw (.code yX5_readBox cX5_readBox 12 (some .long)) := mG3 (i := 38) (by decide +kernel) rfl
theorem mw_2_236 : mGw (.methodLink RX5 25 yX5_readParts) := mG2 (i := 236) (by decide +kernel) rfl
theorem mw_2_238 : mGw (.instanceMethod yX5_readParts) := mG2 (i := 238) (by decide +kernel) rfl
theorem mw_p_7 : mGw (.selects RX5 yX5_readParts yX5_readParts) := mGp (i := 7) (by decide +kernel) rfl
theorem mw_2_239 : mGw (.code yX5_readParts cX5_readParts 9 (some .long)) := mG2 (i := 239) (by decide +kernel) rfl
theorem mw_3_21 : mGw (.methodLink RX5 57 ⟨RX5, "demand", "(C)V"⟩) := mG3 (i := 21) (by decide +kernel) rfl
theorem mw_3_22 : mGw (.sameMethod RX5 RX7 "demand" "(C)V") := mG3 (i := 22) (by decide +kernel) rfl
theorem mw_3_24 : mGw (.selects RX5 ⟨RX5, "demand", "(C)V"⟩ yX7_demand) := mG3 (i := 24) (by decide +kernel) rfl
theorem mw_3_25 : mGw (.instanceMethod yX7_demand) := mG3 (i := 25) (by decide +kernel) rfl
theorem mw_3_26 : mGw (.code yX7_demand cX7_demand 2 none) := mG3 (i := 26) (by decide +kernel) rfl
theorem mw_3_17 : mGw (.methodLink RX5 52 yX5_readBoxOrBracket) := mG3 (i := 17) (by decide +kernel) rfl
theorem mw_3_19 : mGw (.instanceMethod yX5_readBoxOrBracket) := mG3 (i := 19) (by decide +kernel) rfl
theorem mw_p_9 : mGw (.selects RX5 yX5_readBoxOrBracket yX5_readBoxOrBracket) := mGp (i := 9) (by decide +kernel) rfl
theorem mw_3_20 : mGw (.code yX5_readBoxOrBracket cX5_readBoxOrBracket 5 (some .long)) := mG3 (i := 20) (by decide +kernel) rfl
theorem mw_3_49 : mGw (.constantLong RX5 55 1099511627775) := mG3 (i := 49) (by decide +kernel) rfl
theorem mw_3_50 : mGw (.constantLong RX5 46 (-1)) := mG3 (i := 50) (by decide +kernel) rfl
theorem mw_3_61 : mGw (.methodLink RX5 43 ⟨RX5, "take", "()I"⟩) := mG3 (i := 61) (by decide +kernel) rfl
theorem mw_3_62 : mGw (.sameMethod RX5 RX7 "take" "()I") := mG3 (i := 62) (by decide +kernel) rfl
theorem mw_3_64 : mGw (.selects RX5 ⟨RX5, "take", "()I"⟩ yX7_take) := mG3 (i := 64) (by decide +kernel) rfl
theorem mw_3_65 : mGw (.instanceMethod yX7_take) := mG3 (i := 65) (by decide +kernel) rfl
theorem mw_3_66 : mGw (.code yX7_take cX7_take 2 (some .int)) := mG3 (i := 66) (by decide +kernel) rfl
theorem mw_3_0 : mGw (.methodLink RX5 32 yX5_readPart) := mG3 (i := 0) (by decide +kernel) rfl
theorem mw_3_2 : mGw (.instanceMethod yX5_readPart) := mG3 (i := 2) (by decide +kernel) rfl
theorem mw_p_8 : mGw (.selects RX5 yX5_readPart yX5_readPart) := mGp (i := 8) (by decide +kernel) rfl
theorem mw_3_3 : mGw (.code yX5_readPart cX5_readPart 6 (some .long)) := mG3 (i := 3) (by decide +kernel) rfl
theorem mw_3_51 : mGw (.methodLink RX5 35 ⟨RX5, "isPlusOrMinus", "()Z"⟩) := mG3 (i := 51) (by decide +kernel) rfl
theorem mw_3_52 : mGw (.sameMethod RX5 RX7 "isPlusOrMinus" "()Z") := mG3 (i := 52) (by decide +kernel) rfl
theorem mw_3_54 : mGw (.selects RX5 ⟨RX5, "isPlusOrMinus", "()Z"⟩ yX7_isPlusOrMinus) := mG3 (i := 54) (by decide +kernel) rfl
theorem mw_3_55 : mGw (.instanceMethod yX7_isPlusOrMinus) := mG3 (i := 55) (by decide +kernel) rfl
theorem mw_3_56 : mGw (.code yX7_isPlusOrMinus cX7_isPlusOrMinus 1 (some .boolean)) := mG3 (i := 56) (by decide +kernel) rfl
theorem mw_3_57 : mGw (.methodLink RX5 39 ⟨RX5, "look", "()I"⟩) := mG3 (i := 57) (by decide +kernel) rfl
theorem mw_3_58 : mGw (.sameMethod RX5 RX7 "look" "()I") := mG3 (i := 58) (by decide +kernel) rfl
theorem mw_3_60 : mGw (.selects RX5 ⟨RX5, "look", "()I"⟩ yX7_look) := mG3 (i := 60) (by decide +kernel) rfl
theorem mw_2_16 : mGw (.fieldLink RX5 9 RX6 "elements" "[I") := mG2 (i := 16) (by decide +kernel) rfl
theorem mw_2_10 : mGw (.fieldLink RX5 15 RX6 "size" "I") := mG2 (i := 10) (by decide +kernel) rfl
theorem mw_2_230 : mGw (.methodLink RX5 19 ⟨RX5, "open", "([II)V"⟩) := mG2 (i := 230) (by decide +kernel) rfl
theorem mw_2_231 : mGw (.sameMethod RX5 RX7 "open" "([II)V") := mG2 (i := 231) (by decide +kernel) rfl
theorem mw_2_233 : mGw (.selects RX5 ⟨RX5, "open", "([II)V"⟩ yX7_open) := mG2 (i := 233) (by decide +kernel) rfl
theorem mw_2_234 : mGw (.instanceMethod yX7_open) := mG2 (i := 234) (by decide +kernel) rfl
theorem mw_2_235 : mGw (.code yX7_open cX7_open 3 none) := mG2 (i := 235) (by decide +kernel) rfl
theorem mw_3_67 : mGw (.methodLink RX5 29 ⟨RX5, "failUnlessAtEnd", "()V"⟩) := mG3 (i := 67) (by decide +kernel) rfl
theorem mw_3_68 : mGw (.sameMethod RX5 RX7 "failUnlessAtEnd" "()V") := mG3 (i := 68) (by decide +kernel) rfl
theorem mw_3_70 : mGw (.selects RX5 ⟨RX5, "failUnlessAtEnd", "()V"⟩ yX7_failUnlessAtEnd) := mG3 (i := 70) (by decide +kernel) rfl
theorem mw_3_71 : mGw (.instanceMethod yX7_failUnlessAtEnd) := mG3 (i := 71) (by decide +kernel) rfl
theorem mw_3_72 : mGw (.code yX7_failUnlessAtEnd cX7_failUnlessAtEnd 1 none) := mG3 (i := 72) (by decide +kernel) rfl
theorem mw_3_119 : mGw (.methodLink RX4 38 ⟨RX4, "takeIf", "(C)Z"⟩) := mG3 (i := 119) (by decide +kernel) rfl
theorem mw_3_120 : mGw (.sameMethod RX4 RX7 "takeIf" "(C)Z") := mG3 (i := 120) (by decide +kernel) rfl
theorem mw_3_121 : mGw (.selects RX4 ⟨RX4, "takeIf", "(C)Z"⟩ yX7_takeIf) := mG3 (i := 121) (by decide +kernel) rfl
theorem mw_3_122 : mGw (.methodLink RX4 62 ⟨RX4, "isDigit", "()Z"⟩) := mG3 (i := 122) (by decide +kernel) rfl
theorem mw_3_123 : mGw (.sameMethod RX4 RX7 "isDigit" "()Z") := mG3 (i := 123) (by decide +kernel) rfl
theorem mw_3_125 : mGw (.selects RX4 ⟨RX4, "isDigit", "()Z"⟩ yX7_isDigit) := mG3 (i := 125) (by decide +kernel) rfl
theorem mw_3_126 : mGw (.instanceMethod yX7_isDigit) := mG3 (i := 126) (by decide +kernel) rfl
theorem mw_3_127 : mGw (.code yX7_isDigit cX7_isDigit 1 (some .boolean)) := mG3 (i := 127) (by decide +kernel) rfl
theorem mw_3_131 : mGw (.methodLink RX4 65 ⟨RX4, "look", "()I"⟩) := mG3 (i := 131) (by decide +kernel) rfl
theorem mw_3_132 : mGw (.sameMethod RX4 RX7 "look" "()I") := mG3 (i := 132) (by decide +kernel) rfl
theorem mw_3_133 : mGw (.selects RX4 ⟨RX4, "look", "()I"⟩ yX7_look) := mG3 (i := 133) (by decide +kernel) rfl
theorem mw_3_134 : mGw (.methodLink RX4 68 yX4_isField) := mG3 (i := 134) (by decide +kernel) rfl
theorem mw_3_135 : mGw (.static yX4_isField) := mG3 (i := 135) (by decide +kernel) rfl
theorem mw_1_9 : mGw (.initialized RX4) := mG1 (i := 9) (by decide +kernel) rfl
theorem mw_3_136 : mGw (.code yX4_isField cX4_isField 1 (some .boolean)) := mG3 (i := 136) (by decide +kernel) rfl
theorem mw_3_137 : mGw (.methodLink RX4 72 ⟨RX4, "fail", "()V"⟩) := mG3 (i := 137) (by decide +kernel) rfl
theorem mw_3_138 : mGw (.sameMethod RX4 RX7 "fail" "()V") := mG3 (i := 138) (by decide +kernel) rfl
theorem mw_3_139 : mGw (.selects RX4 ⟨RX4, "fail", "()V"⟩ yX7_fail) := mG3 (i := 139) (by decide +kernel) rfl
theorem mw_3_128 : mGw (.methodLink RX4 58 ⟨RX4, "take", "()I"⟩) := mG3 (i := 128) (by decide +kernel) rfl
theorem mw_3_129 : mGw (.sameMethod RX4 RX7 "take" "()I") := mG3 (i := 129) (by decide +kernel) rfl
theorem mw_3_130 : mGw (.selects RX4 ⟨RX4, "take", "()I"⟩ yX7_take) := mG3 (i := 130) (by decide +kernel) rfl
theorem mw_3_140 : mGw (.methodLink RX4 55 ⟨RX4, "isPlusOrMinus", "()Z"⟩) := mG3 (i := 140) (by decide +kernel) rfl
theorem mw_3_141 : mGw (.sameMethod RX4 RX7 "isPlusOrMinus" "()Z") := mG3 (i := 141) (by decide +kernel) rfl
theorem mw_3_142 : mGw (.selects RX4 ⟨RX4, "isPlusOrMinus", "()Z"⟩ yX7_isPlusOrMinus) := mG3 (i := 142) (by decide +kernel) rfl
theorem mw_3_115 : mGw (.methodLink RX4 52 yX4_readAtom) := mG3 (i := 115) (by decide +kernel) rfl
theorem mw_3_117 : mGw (.instanceMethod yX4_readAtom) := mG3 (i := 117) (by decide +kernel) rfl
theorem mw_p_14 : mGw (.selects RX4 yX4_readAtom yX4_readAtom) := mGp (i := 14) (by decide +kernel) rfl
theorem mw_3_118 : mGw (.code yX4_readAtom cX4_readAtom 1 none) := mG3 (i := 118) (by decide +kernel) rfl
theorem mw_3_111 : mGw (.methodLink RX4 49 yX4_readSum) := mG3 (i := 111) (by decide +kernel) rfl
theorem mw_3_113 : mGw (.instanceMethod yX4_readSum) := mG3 (i := 113) (by decide +kernel) rfl
theorem mw_p_13 : mGw (.selects RX4 yX4_readSum yX4_readSum) := mGp (i := 13) (by decide +kernel) rfl
theorem mw_3_114 : mGw (.code yX4_readSum cX4_readSum 2 none) := mG3 (i := 114) (by decide +kernel) rfl
theorem mw_3_143 : mGw (.methodLink RX4 42 ⟨RX4, "demand", "(C)V"⟩) := mG3 (i := 143) (by decide +kernel) rfl
theorem mw_3_144 : mGw (.sameMethod RX4 RX7 "demand" "(C)V") := mG3 (i := 144) (by decide +kernel) rfl
theorem mw_3_145 : mGw (.selects RX4 ⟨RX4, "demand", "(C)V"⟩ yX7_demand) := mG3 (i := 145) (by decide +kernel) rfl
theorem mw_3_150 : mGw (.methodLink RX4 75 ⟨RX4, "demandDigit", "(II)I"⟩) := mG3 (i := 150) (by decide +kernel) rfl
theorem mw_3_151 : mGw (.sameMethod RX4 RX7 "demandDigit" "(II)I") := mG3 (i := 151) (by decide +kernel) rfl
theorem mw_3_152 : mGw (.selects RX4 ⟨RX4, "demandDigit", "(II)I"⟩ yX7_demandDigit) := mG3 (i := 152) (by decide +kernel) rfl
theorem mw_3_146 : mGw (.methodLink RX4 46 yX4_readAct) := mG3 (i := 146) (by decide +kernel) rfl
theorem mw_3_148 : mGw (.instanceMethod yX4_readAct) := mG3 (i := 148) (by decide +kernel) rfl
theorem mw_p_15 : mGw (.selects RX4 yX4_readAct yX4_readAct) := mGp (i := 15) (by decide +kernel) rfl
theorem mw_3_149 : mGw (.code yX4_readAct cX4_readAct 1 none) := mG3 (i := 149) (by decide +kernel) rfl
theorem mw_3_107 : mGw (.methodLink RX4 35 yX4_readCheck) := mG3 (i := 107) (by decide +kernel) rfl
theorem mw_3_109 : mGw (.instanceMethod yX4_readCheck) := mG3 (i := 109) (by decide +kernel) rfl
theorem mw_p_12 : mGw (.selects RX4 yX4_readCheck yX4_readCheck) := mGp (i := 12) (by decide +kernel) rfl
theorem mw_3_110 : mGw (.code yX4_readCheck cX4_readCheck 1 none) := mG3 (i := 110) (by decide +kernel) rfl
theorem mw_3_153 : mGw (.methodLink RX4 32 ⟨RX4, "failUnlessAtEnd", "()V"⟩) := mG3 (i := 153) (by decide +kernel) rfl
theorem mw_3_154 : mGw (.sameMethod RX4 RX7 "failUnlessAtEnd" "()V") := mG3 (i := 154) (by decide +kernel) rfl
theorem mw_3_155 : mGw (.selects RX4 ⟨RX4, "failUnlessAtEnd", "()V"⟩ yX7_failUnlessAtEnd) := mG3 (i := 155) (by decide +kernel) rfl
theorem mw_3_103 : mGw (.methodLink RX4 29 yX4_readRule) := mG3 (i := 103) (by decide +kernel) rfl
theorem mw_3_105 : mGw (.instanceMethod yX4_readRule) := mG3 (i := 105) (by decide +kernel) rfl
theorem mw_p_11 : mGw (.selects RX4 yX4_readRule yX4_readRule) := mGp (i := 11) (by decide +kernel) rfl
theorem mw_3_106 : mGw (.code yX4_readRule cX4_readRule 2 none) := mG3 (i := 106) (by decide +kernel) rfl
theorem mw_3_99 : mGw (.methodLink RX4 25 ⟨RX4, "atEnd", "()Z"⟩) := mG3 (i := 99) (by decide +kernel) rfl
theorem mw_3_100 : mGw (.sameMethod RX4 RX7 "atEnd" "()Z") := mG3 (i := 100) (by decide +kernel) rfl
theorem mw_3_102 : mGw (.selects RX4 ⟨RX4, "atEnd", "()Z"⟩ yX7_atEnd) := mG3 (i := 102) (by decide +kernel) rfl
theorem mw_2_17 : mGw (.fieldLink RX4 9 RX6 "elements" "[I") := mG2 (i := 17) (by decide +kernel) rfl
theorem mw_2_11 : mGw (.fieldLink RX4 15 RX6 "size" "I") := mG2 (i := 11) (by decide +kernel) rfl
theorem mw_3_96 : mGw (.methodLink RX4 19 ⟨RX4, "open", "([II)V"⟩) := mG3 (i := 96) (by decide +kernel) rfl
theorem mw_3_97 : mGw (.sameMethod RX4 RX7 "open" "([II)V") := mG3 (i := 97) (by decide +kernel) rfl
theorem mw_3_98 : mGw (.selects RX4 ⟨RX4, "open", "([II)V"⟩ yX7_open) := mG3 (i := 98) (by decide +kernel) rfl
theorem mw_2_215 : mGw (.methodLink RX9 167 yX9_isShelf) := mG2 (i := 215) (by decide +kernel) rfl
theorem mw_2_216 : mGw (.static yX9_isShelf) := mG2 (i := 216) (by decide +kernel) rfl
theorem mw_2_217 : mGw (.code yX9_isShelf cX9_isShelf 1 (some .boolean)) := mG2 (i := 217) (by decide +kernel) rfl
theorem mw_2_50 : mGw (.fieldLink RX9 60 RX9 "shelves" "[LCubeFolk$Shelf;") := mG2 (i := 50) (by decide +kernel) rfl
theorem mw_2_218 : mGw (.methodLink RX9 170 yX6_refusalOfRow) := mG2 (i := 218) (by decide +kernel) rfl
theorem mw_2_219 : mGw (.instanceMethod yX6_refusalOfRow) := mG2 (i := 219) (by decide +kernel) rfl
theorem mw_2_220 : mGw (.selects RX6 yX6_refusalOfRow yX6_refusalOfRow) := mG2 (i := 220) (by decide +kernel) rfl
theorem mw_2_221 : mGw (.code yX6_refusalOfRow cX6_refusalOfRow 3 (some .int)) := mG2 (i := 221) (by decide +kernel) rfl
theorem mw_2_49 : mGw (.fieldLink RX9 54 RX9 "programReader" "LCubeFolk$ProgramReader;") := mG2 (i := 49) (by decide +kernel) rfl
theorem mw_3_92 : mGw (.methodLink RX9 185 yX4_check) := mG3 (i := 92) (by decide +kernel) rfl
theorem mw_3_93 : mGw (.instanceMethod yX4_check) := mG3 (i := 93) (by decide +kernel) rfl
theorem mw_3_94 : mGw (.selects RX4 yX4_check yX4_check) := mG3 (i := 94) (by decide +kernel) rfl
theorem mw_3_95 : mGw (.code yX4_check cX4_check 3 none) := mG3 (i := 95) (by decide +kernel) rfl
theorem mw_3_156 : mGw (.methodLink RX9 189 ⟨RX4, "isFaulty", "()Z"⟩) := mG3 (i := 156) (by decide +kernel) rfl
theorem mw_3_157 : mGw (.sameMethod RX4 RX7 "isFaulty" "()Z") := mG3 (i := 157) (by decide +kernel) rfl
theorem mw_3_158 : mGw (.selects RX4 ⟨RX4, "isFaulty", "()Z"⟩ yX7_isFaulty) := mG3 (i := 158) (by decide +kernel) rfl
theorem mw_3_84 : mGw (.instanceMethod yX7_isFaulty) := mG3 (i := 84) (by decide +kernel) rfl
theorem mw_3_85 : mGw (.code yX7_isFaulty cX7_isFaulty 1 (some .boolean)) := mG3 (i := 85) (by decide +kernel) rfl
theorem mw_3_159 : mGw (.methodLink RX9 190 ⟨RX4, "faultPlace", "()I"⟩) := mG3 (i := 159) (by decide +kernel) rfl
theorem mw_3_160 : mGw (.sameMethod RX4 RX7 "faultPlace" "()I") := mG3 (i := 160) (by decide +kernel) rfl
theorem mw_3_161 : mGw (.selects RX4 ⟨RX4, "faultPlace", "()I"⟩ yX7_faultPlace) := mG3 (i := 161) (by decide +kernel) rfl
theorem mw_3_90 : mGw (.instanceMethod yX7_faultPlace) := mG3 (i := 90) (by decide +kernel) rfl
theorem mw_3_91 : mGw (.code yX7_faultPlace cX7_faultPlace 1 (some .int)) := mG3 (i := 91) (by decide +kernel) rfl
theorem mw_2_48 : mGw (.fieldLink RX9 47 RX9 "shapeReader" "LCubeFolk$ShapeReader;") := mG2 (i := 48) (by decide +kernel) rfl
theorem mw_2_226 : mGw (.methodLink RX9 173 yX5_cellsOf) := mG2 (i := 226) (by decide +kernel) rfl
theorem mw_2_227 : mGw (.instanceMethod yX5_cellsOf) := mG2 (i := 227) (by decide +kernel) rfl
theorem mw_2_228 : mGw (.selects RX5 yX5_cellsOf yX5_cellsOf) := mG2 (i := 228) (by decide +kernel) rfl
theorem mw_2_229 : mGw (.code yX5_cellsOf cX5_cellsOf 5 (some .long)) := mG2 (i := 229) (by decide +kernel) rfl
theorem mw_3_80 : mGw (.methodLink RX9 177 ⟨RX5, "isFaulty", "()Z"⟩) := mG3 (i := 80) (by decide +kernel) rfl
theorem mw_3_81 : mGw (.sameMethod RX5 RX7 "isFaulty" "()Z") := mG3 (i := 81) (by decide +kernel) rfl
theorem mw_3_83 : mGw (.selects RX5 ⟨RX5, "isFaulty", "()Z"⟩ yX7_isFaulty) := mG3 (i := 83) (by decide +kernel) rfl
theorem mw_3_86 : mGw (.methodLink RX9 181 ⟨RX5, "faultPlace", "()I"⟩) := mG3 (i := 86) (by decide +kernel) rfl
theorem mw_3_87 : mGw (.sameMethod RX5 RX7 "faultPlace" "()I") := mG3 (i := 87) (by decide +kernel) rfl
theorem mw_3_89 : mGw (.selects RX5 ⟨RX5, "faultPlace", "()I"⟩ yX7_faultPlace) := mG3 (i := 89) (by decide +kernel) rfl
theorem mw_1_134 : mGw (.fieldLink RX8 67 RX8 "shapes" "I") := mG1 (i := 134) (by decide +kernel) rfl
theorem mw_1_136 : mGw (.fieldLink RX8 31 RX8 "shapeCells" "[J") := mG1 (i := 136) (by decide +kernel) rfl
theorem mw_1_135 : mGw (.fieldLink RX9 191 RX8 "shapes" "I") := mG1 (i := 135) (by decide +kernel) rfl
theorem mw_3_166 : mGw (.methodLink RX9 194 yX8_addShape) := mG3 (i := 166) (by decide +kernel) rfl
theorem mw_3_167 : mGw (.instanceMethod yX8_addShape) := mG3 (i := 167) (by decide +kernel) rfl
theorem mw_3_168 : mGw (.selects RX8 yX8_addShape yX8_addShape) := mG3 (i := 168) (by decide +kernel) rfl
theorem mw_3_169 : mGw (.code yX8_addShape cX8_addShape 5 (some .int)) := mG3 (i := 169) (by decide +kernel) rfl
theorem mw_3_174 : mGw (.methodLink RX9 198 yX8_hasShape) := mG3 (i := 174) (by decide +kernel) rfl
theorem mw_3_175 : mGw (.instanceMethod yX8_hasShape) := mG3 (i := 175) (by decide +kernel) rfl
theorem mw_3_176 : mGw (.selects RX8 yX8_hasShape yX8_hasShape) := mG3 (i := 176) (by decide +kernel) rfl
theorem mw_3_177 : mGw (.code yX8_hasShape cX8_hasShape 2 (some .boolean)) := mG3 (i := 177) (by decide +kernel) rfl
theorem mw_3_178 : mGw (.methodLink RX9 201 yX8_shapeHolds) := mG3 (i := 178) (by decide +kernel) rfl
theorem mw_3_179 : mGw (.instanceMethod yX8_shapeHolds) := mG3 (i := 179) (by decide +kernel) rfl
theorem mw_3_180 : mGw (.selects RX8 yX8_shapeHolds yX8_shapeHolds) := mG3 (i := 180) (by decide +kernel) rfl
theorem mw_3_181 : mGw (.code yX8_shapeHolds cX8_shapeHolds 6 (some .boolean)) := mG3 (i := 181) (by decide +kernel) rfl
theorem mw_3_193 : mGw (.constantLong RJ13 314 6148914691236517205) := mG3 (i := 193) (by decide +kernel) rfl
theorem mw_3_194 : mGw (.constantLong RJ13 316 3689348814741910323) := mG3 (i := 194) (by decide +kernel) rfl
theorem mw_3_195 : mGw (.constantLong RJ13 318 1085102592571150095) := mG3 (i := 195) (by decide +kernel) rfl
theorem mw_3_190 : mGw (.methodLink RX8 89 yJ13_bitCount_95d88) := mG3 (i := 190) (by decide +kernel) rfl
theorem mw_3_191 : mGw (.static yJ13_bitCount_95d88) := mG3 (i := 191) (by decide +kernel) rfl
theorem mw_1_12 : mGw (.initialized RJ13) := mG1 (i := 12) (by decide +kernel) rfl
theorem mw_3_192 : mGw (.code yJ13_bitCount_95d88 cJ13_bitCount_95d88 2 (some .int)) := mG3 (i := 192) (by decide +kernel) rfl
theorem mw_1_59 : mGw (.fieldLink RX8 95 RX0 "cell" "[I") := mG1 (i := 59) (by decide +kernel) rfl
theorem mw_3_207 : mGw (.methodLink RX8 105 yX8_shapeHolds) := mG3 (i := 207) (by decide +kernel) rfl
theorem mw_3_200 : mGw (.methodLink RX8 113 yX8_cellsInShape) := mG3 (i := 200) (by decide +kernel) rfl
theorem mw_3_187 : mGw (.instanceMethod yX8_cellsInShape) := mG3 (i := 187) (by decide +kernel) rfl
theorem mw_3_188 : mGw (.selects RX8 yX8_cellsInShape yX8_cellsInShape) := mG3 (i := 188) (by decide +kernel) rfl
theorem mw_3_189 : mGw (.code yX8_cellsInShape cX8_cellsInShape 2 (some .int)) := mG3 (i := 189) (by decide +kernel) rfl
theorem mw_3_201 : mGw (.methodLink RX8 116 yX8_outsideShape) := mG3 (i := 201) (by decide +kernel) rfl
theorem mw_3_202 : mGw (.instanceMethod yX8_outsideShape) := mG3 (i := 202) (by decide +kernel) rfl
theorem mw_3_203 : mGw (.selects RX8 yX8_outsideShape yX8_outsideShape) := mG3 (i := 203) (by decide +kernel) rfl
theorem mw_3_204 : mGw (.code yX8_outsideShape cX8_outsideShape 4 (some .int)) := mG3 (i := 204) (by decide +kernel) rfl
theorem mw_3_186 : mGw (.methodLink RX9 205 yX8_cellsInShape) := mG3 (i := 186) (by decide +kernel) rfl
theorem mw_3_196 : mGw (.methodLink RX9 208 yX8_emptyInShape) := mG3 (i := 196) (by decide +kernel) rfl
theorem mw_3_197 : mGw (.instanceMethod yX8_emptyInShape) := mG3 (i := 197) (by decide +kernel) rfl
theorem mw_3_198 : mGw (.selects RX8 yX8_emptyInShape yX8_emptyInShape) := mG3 (i := 198) (by decide +kernel) rfl
theorem mw_3_199 : mGw (.code yX8_emptyInShape cX8_emptyInShape 2 (some .int)) := mG3 (i := 199) (by decide +kernel) rfl
theorem mw_3_209 : mGw (.methodLink RX9 211 yX8_outsideShape) := mG3 (i := 209) (by decide +kernel) rfl
theorem mw_3_224 : mGw (.methodLink RX0 45 arraycopyName) := mG3 (i := 224) (by decide +kernel) rfl
theorem mw_3_226 : mGw (.native arraycopyName) := mG3 (i := 226) (by decide +kernel) rfl
theorem mw_3_225 : mGw (.static arraycopyName) := mG3 (i := 225) (by decide +kernel) rfl
theorem mw_1_13 : mGw (.initialized "java/lang/System") := mG1 (i := 13) (by decide +kernel) rfl
theorem mw_1_183 : mGw (.fieldLink RX3 9 RX3 "wanted" "[Z") := mG1 (i := 183) (by decide +kernel) rfl
theorem mw_1_182 : mGw (.fieldLink RX3 19 RX3 "body" "LCubeFolk$Body;") := mG1 (i := 182) (by decide +kernel) rfl
theorem mw_1_57 : mGw (.fieldLink RX3 69 RX0 "cell" "[I") := mG1 (i := 57) (by decide +kernel) rfl
theorem mw_3_237 : mGw (.methodLink RX3 72 yX3_isWanted) := mG3 (i := 237) (by decide +kernel) rfl
theorem mw_3_239 : mGw (.instanceMethod yX3_isWanted) := mG3 (i := 239) (by decide +kernel) rfl
theorem mw_p_18 : mGw (.selects RX3 yX3_isWanted yX3_isWanted) := mGp (i := 18) (by decide +kernel) rfl
theorem mw_1_5 : mGw (.initialized RX3) := mG1 (i := 5) (by decide +kernel) rfl
theorem mw_4_0 : mGw (.code yX3_isWanted cX3_isWanted 2 (some .boolean)) := mG4 (i := 0) (by decide +kernel) rfl
theorem mw_3_233 : mGw (.methodLink RX3 54 yX3_emptyBehind) := mG3 (i := 233) (by decide +kernel) rfl
theorem mw_3_235 : mGw (.instanceMethod yX3_emptyBehind) := mG3 (i := 235) (by decide +kernel) rfl
theorem mw_p_17 : mGw (.selects RX3 yX3_emptyBehind yX3_emptyBehind) := mGp (i := 17) (by decide +kernel) rfl
theorem mw_3_236 : mGw (.code yX3_emptyBehind cX3_emptyBehind 5 (some .int)) := mG3 (i := 236) (by decide +kernel) rfl
theorem mw_4_3 : mGw (.methodLink RX3 58 yX0_mayGo) := mG4 (i := 3) (by decide +kernel) rfl
theorem mw_1_184 : mGw (.fieldLink RX3 15 RX3 "found" "[I") := mG1 (i := 184) (by decide +kernel) rfl
theorem mw_4_4 : mGw (.methodLink RX3 62 yX0_go) := mG4 (i := 4) (by decide +kernel) rfl
theorem mw_3_229 : mGw (.methodLink RX3 47 yX3_completes) := mG3 (i := 229) (by decide +kernel) rfl
theorem mw_3_231 : mGw (.instanceMethod yX3_completes) := mG3 (i := 231) (by decide +kernel) rfl
theorem mw_p_16 : mGw (.selects RX3 yX3_completes yX3_completes) := mGp (i := 16) (by decide +kernel) rfl
theorem mw_3_232 : mGw (.code yX3_completes cX3_completes 8 (some .boolean)) := mG3 (i := 232) (by decide +kernel) rfl
theorem mw_4_5 : mGw (.methodLink RX3 66 yX0_goBack) := mG4 (i := 5) (by decide +kernel) rfl
theorem mw_4_6 : mGw (.instanceMethod yX0_goBack) := mG4 (i := 6) (by decide +kernel) rfl
theorem mw_4_7 : mGw (.selects RX0 yX0_goBack yX0_goBack) := mG4 (i := 7) (by decide +kernel) rfl
theorem mw_4_8 : mGw (.code yX0_goBack cX0_goBack 3 none) := mG4 (i := 8) (by decide +kernel) rfl
theorem mw_1_50 : mGw (.fieldLink RX3 50 RX0 "size" "I") := mG1 (i := 50) (by decide +kernel) rfl
theorem mw_3_228 : mGw (.methodLink RX3 43 yX8_shapeHolds) := mG3 (i := 228) (by decide +kernel) rfl
theorem mw_3_218 : mGw (.methodLink RX3 23 yX8_emptyInShape) := mG3 (i := 218) (by decide +kernel) rfl
theorem mw_3_219 : mGw (.methodLink RX3 29 yX8_outsideShape) := mG3 (i := 219) (by decide +kernel) rfl
theorem mw_1_119 : mGw (.fieldLink RX3 32 RX8 "body" "LCubeFolk$Body;") := mG1 (i := 119) (by decide +kernel) rfl
theorem mw_3_220 : mGw (.methodLink RX3 33 yX0_copyFrom) := mG3 (i := 220) (by decide +kernel) rfl
theorem mw_3_221 : mGw (.instanceMethod yX0_copyFrom) := mG3 (i := 221) (by decide +kernel) rfl
theorem mw_3_222 : mGw (.selects RX0 yX0_copyFrom yX0_copyFrom) := mG3 (i := 222) (by decide +kernel) rfl
theorem mw_3_223 : mGw (.code yX0_copyFrom cX0_copyFrom 2 none) := mG3 (i := 223) (by decide +kernel) rfl
theorem mw_2_46 : mGw (.fieldLink RX9 31 RX9 "planner" "LCubeFolk$Planner;") := mG2 (i := 46) (by decide +kernel) rfl
theorem mw_3_214 : mGw (.methodLink RX9 214 yX3_find) := mG3 (i := 214) (by decide +kernel) rfl
theorem mw_3_215 : mGw (.instanceMethod yX3_find) := mG3 (i := 215) (by decide +kernel) rfl
theorem mw_3_216 : mGw (.selects RX3 yX3_find yX3_find) := mG3 (i := 216) (by decide +kernel) rfl
theorem mw_3_217 : mGw (.code yX3_find cX3_find 7 (some .int)) := mG3 (i := 217) (by decide +kernel) rfl
theorem mw_4_13 : mGw (.methodLink RX9 218 yX3_moveOf) := mG4 (i := 13) (by decide +kernel) rfl
theorem mw_4_14 : mGw (.instanceMethod yX3_moveOf) := mG4 (i := 14) (by decide +kernel) rfl
theorem mw_4_15 : mGw (.selects RX3 yX3_moveOf yX3_moveOf) := mG4 (i := 15) (by decide +kernel) rfl
theorem mw_4_16 : mGw (.code yX3_moveOf cX3_moveOf 2 (some .int)) := mG4 (i := 16) (by decide +kernel) rfl
theorem mw_2_14 : mGw (.fieldLink RX9 224 RX6 "size" "I") := mG2 (i := 14) (by decide +kernel) rfl
theorem mw_2_19 : mGw (.fieldLink RX9 225 RX6 "elements" "[I") := mG2 (i := 19) (by decide +kernel) rfl
theorem mw_2_45 : mGw (.fieldLink RX9 22 RX9 "trial" "LCubeFolk$Body;") := mG2 (i := 45) (by decide +kernel) rfl
theorem mw_4_21 : mGw (.methodLink RX9 221 yX0_copyFrom) := mG4 (i := 21) (by decide +kernel) rfl
theorem mw_1_137 : mGw (.fieldLink RX8 70 RX8 "programs" "I") := mG1 (i := 137) (by decide +kernel) rfl
theorem mw_2_18 : mGw (.fieldLink RX8 83 RX6 "elements" "[I") := mG2 (i := 18) (by decide +kernel) rfl
theorem mw_1_139 : mGw (.fieldLink RX8 37 RX8 "programText" "[[I") := mG1 (i := 139) (by decide +kernel) rfl
theorem mw_4_30 : mGw (.methodLink RX8 61 arraycopyName) := mG4 (i := 30) (by decide +kernel) rfl
theorem mw_1_141 : mGw (.fieldLink RX8 40 RX8 "programSize" "[I") := mG1 (i := 141) (by decide +kernel) rfl
theorem mw_2_13 : mGw (.fieldLink RX8 88 RX6 "size" "I") := mG2 (i := 13) (by decide +kernel) rfl
theorem mw_1_138 : mGw (.fieldLink RX9 228 RX8 "programs" "I") := mG1 (i := 138) (by decide +kernel) rfl
theorem mw_4_26 : mGw (.methodLink RX9 231 yX8_addProgram) := mG4 (i := 26) (by decide +kernel) rfl
theorem mw_4_27 : mGw (.instanceMethod yX8_addProgram) := mG4 (i := 27) (by decide +kernel) rfl
theorem mw_4_28 : mGw (.selects RX8 yX8_addProgram yX8_addProgram) := mG4 (i := 28) (by decide +kernel) rfl
theorem mw_4_29 : mGw (.code yX8_addProgram cX8_addProgram 2 (some .int)) := mG4 (i := 29) (by decide +kernel) rfl
theorem mw_1_68 : mGw (.fieldLink RX8 119 RX0 "dead" "[Z") := mG1 (i := 68) (by decide +kernel) rfl
theorem mw_1_203 : mGw (.fieldLink RX1 9 RX1 "world" "LCubeFolk$World;") := mG1 (i := 203) (by decide +kernel) rfl
theorem mw_1_117 : mGw (.fieldLink RX1 15 RX8 "body" "LCubeFolk$Body;") := mG1 (i := 117) (by decide +kernel) rfl
theorem mw_1_58 : mGw (.fieldLink RX1 99 RX0 "cell" "[I") := mG1 (i := 58) (by decide +kernel) rfl
theorem mw_4_73 : mGw (.methodLink RX1 105 yX0_inCell) := mG4 (i := 73) (by decide +kernel) rfl
theorem mw_1_130 : mGw (.fieldLink RX1 108 RX8 "heard" "[I") := mG1 (i := 130) (by decide +kernel) rfl
theorem mw_4_65 : mGw (.methodLink RX1 63 ⟨RX1, "take", "()I"⟩) := mG4 (i := 65) (by decide +kernel) rfl
theorem mw_4_66 : mGw (.sameMethod RX1 RX7 "take" "()I") := mG4 (i := 66) (by decide +kernel) rfl
theorem mw_4_67 : mGw (.selects RX1 ⟨RX1, "take", "()I"⟩ yX7_take) := mG4 (i := 67) (by decide +kernel) rfl
theorem mw_4_68 : mGw (.methodLink RX1 76 yX1_beside) := mG4 (i := 68) (by decide +kernel) rfl
theorem mw_4_70 : mGw (.instanceMethod yX1_beside) := mG4 (i := 70) (by decide +kernel) rfl
theorem mw_p_22 : mGw (.selects RX1 yX1_beside yX1_beside) := mGp (i := 22) (by decide +kernel) rfl
theorem mw_1_7 : mGw (.initialized RX1) := mG1 (i := 7) (by decide +kernel) rfl
theorem mw_4_71 : mGw (.code yX1_beside cX1_beside 3 (some .int)) := mG4 (i := 71) (by decide +kernel) rfl
theorem mw_4_75 : mGw (.methodLink RX1 84 yX1_heardFrom) := mG4 (i := 75) (by decide +kernel) rfl
theorem mw_4_77 : mGw (.instanceMethod yX1_heardFrom) := mG4 (i := 77) (by decide +kernel) rfl
theorem mw_p_23 : mGw (.selects RX1 yX1_heardFrom yX1_heardFrom) := mGp (i := 23) (by decide +kernel) rfl
theorem mw_4_78 : mGw (.code yX1_heardFrom cX1_heardFrom 2 (some .int)) := mG4 (i := 78) (by decide +kernel) rfl
theorem mw_1_125 : mGw (.fieldLink RX1 93 RX8 "memory" "[I") := mG1 (i := 125) (by decide +kernel) rfl
theorem mw_1_63 : mGw (.fieldLink RX1 87 RX0 "power" "[I") := mG1 (i := 63) (by decide +kernel) rfl
theorem mw_1_122 : mGw (.fieldLink RX1 90 RX8 "time" "I") := mG1 (i := 122) (by decide +kernel) rfl
theorem mw_4_79 : mGw (.methodLink RX1 96 ⟨RX1, "isDigit", "()Z"⟩) := mG4 (i := 79) (by decide +kernel) rfl
theorem mw_4_80 : mGw (.sameMethod RX1 RX7 "isDigit" "()Z") := mG4 (i := 80) (by decide +kernel) rfl
theorem mw_4_81 : mGw (.selects RX1 ⟨RX1, "isDigit", "()Z"⟩ yX7_isDigit) := mG4 (i := 81) (by decide +kernel) rfl
theorem mw_4_82 : mGw (.methodLink RX1 73 ⟨RX1, "isPlusOrMinus", "()Z"⟩) := mG4 (i := 82) (by decide +kernel) rfl
theorem mw_4_83 : mGw (.sameMethod RX1 RX7 "isPlusOrMinus" "()Z") := mG4 (i := 83) (by decide +kernel) rfl
theorem mw_4_84 : mGw (.selects RX1 ⟨RX1, "isPlusOrMinus", "()Z"⟩ yX7_isPlusOrMinus) := mG4 (i := 84) (by decide +kernel) rfl
theorem mw_4_61 : mGw (.methodLink RX1 70 yX1_value) := mG4 (i := 61) (by decide +kernel) rfl
theorem mw_4_63 : mGw (.instanceMethod yX1_value) := mG4 (i := 63) (by decide +kernel) rfl
theorem mw_p_21 : mGw (.selects RX1 yX1_value yX1_value) := mGp (i := 21) (by decide +kernel) rfl
theorem mw_4_64 : mGw (.code yX1_value cX1_value 3 (some .int)) := mG4 (i := 64) (by decide +kernel) rfl
theorem mw_4_57 : mGw (.methodLink RX1 67 yX1_addUp) := mG4 (i := 57) (by decide +kernel) rfl
theorem mw_4_59 : mGw (.instanceMethod yX1_addUp) := mG4 (i := 59) (by decide +kernel) rfl
theorem mw_p_20 : mGw (.selects RX1 yX1_addUp yX1_addUp) := mGp (i := 20) (by decide +kernel) rfl
theorem mw_4_60 : mGw (.code yX1_addUp cX1_addUp 6 (some .int)) := mG4 (i := 60) (by decide +kernel) rfl
theorem mw_4_50 : mGw (.methodLink RX1 53 ⟨RX1, "atEnd", "()Z"⟩) := mG4 (i := 50) (by decide +kernel) rfl
theorem mw_4_51 : mGw (.sameMethod RX1 RX7 "atEnd" "()Z") := mG4 (i := 51) (by decide +kernel) rfl
theorem mw_4_52 : mGw (.selects RX1 ⟨RX1, "atEnd", "()Z"⟩ yX7_atEnd) := mG4 (i := 52) (by decide +kernel) rfl
theorem mw_4_53 : mGw (.methodLink RX1 57 yX1_testHolds) := mG4 (i := 53) (by decide +kernel) rfl
theorem mw_4_55 : mGw (.instanceMethod yX1_testHolds) := mG4 (i := 55) (by decide +kernel) rfl
theorem mw_p_19 : mGw (.selects RX1 yX1_testHolds yX1_testHolds) := mGp (i := 19) (by decide +kernel) rfl
theorem mw_4_56 : mGw (.code yX1_testHolds cX1_testHolds 9 (some .boolean)) := mG4 (i := 56) (by decide +kernel) rfl
theorem mw_4_85 : mGw (.methodLink RX1 60 yX1_passRule) := mG4 (i := 85) (by decide +kernel) rfl
theorem mw_4_87 : mGw (.instanceMethod yX1_passRule) := mG4 (i := 87) (by decide +kernel) rfl
theorem mw_p_24 : mGw (.selects RX1 yX1_passRule yX1_passRule) := mGp (i := 24) (by decide +kernel) rfl
theorem mw_4_88 : mGw (.code yX1_passRule cX1_passRule 3 none) := mG4 (i := 88) (by decide +kernel) rfl
theorem mw_1_132 : mGw (.fieldLink RX1 38 RX8 "runs" "[I") := mG1 (i := 132) (by decide +kernel) rfl
theorem mw_1_140 : mGw (.fieldLink RX1 42 RX8 "programText" "[[I") := mG1 (i := 140) (by decide +kernel) rfl
theorem mw_1_142 : mGw (.fieldLink RX1 46 RX8 "programSize" "[I") := mG1 (i := 142) (by decide +kernel) rfl
theorem mw_4_47 : mGw (.methodLink RX1 49 ⟨RX1, "open", "([II)V"⟩) := mG4 (i := 47) (by decide +kernel) rfl
theorem mw_4_48 : mGw (.sameMethod RX1 RX7 "open" "([II)V") := mG4 (i := 48) (by decide +kernel) rfl
theorem mw_4_49 : mGw (.selects RX1 ⟨RX1, "open", "([II)V"⟩ yX7_open) := mG4 (i := 49) (by decide +kernel) rfl
theorem mw_4_39 : mGw (.methodLink RX9 235 yX8_isRunning) := mG4 (i := 39) (by decide +kernel) rfl
theorem mw_4_40 : mGw (.instanceMethod yX8_isRunning) := mG4 (i := 40) (by decide +kernel) rfl
theorem mw_4_41 : mGw (.selects RX8 yX8_isRunning yX8_isRunning) := mG4 (i := 41) (by decide +kernel) rfl
theorem mw_4_42 : mGw (.code yX8_isRunning cX8_isRunning 2 (some .boolean)) := mG4 (i := 42) (by decide +kernel) rfl
theorem mw_2_47 : mGw (.fieldLink RX9 40 RX9 "mind" "LCubeFolk$Mind;") := mG2 (i := 47) (by decide +kernel) rfl
theorem mw_4_43 : mGw (.methodLink RX9 238 yX1_chooseRule) := mG4 (i := 43) (by decide +kernel) rfl
theorem mw_4_44 : mGw (.instanceMethod yX1_chooseRule) := mG4 (i := 44) (by decide +kernel) rfl
theorem mw_4_45 : mGw (.selects RX1 yX1_chooseRule yX1_chooseRule) := mG4 (i := 45) (by decide +kernel) rfl
theorem mw_4_46 : mGw (.code yX1_chooseRule cX1_chooseRule 4 (some .int)) := mG4 (i := 46) (by decide +kernel) rfl
theorem mw_4_107 : mGw (.methodLink RX1 122 yX0_mayGo) := mG4 (i := 107) (by decide +kernel) rfl
theorem mw_4_108 : mGw (.methodLink RX1 126 yX0_go) := mG4 (i := 108) (by decide +kernel) rfl
theorem mw_4_109 : mGw (.methodLink RX1 114 yJ9_floorMod_7cf53) := mG4 (i := 109) (by decide +kernel) rfl
theorem mw_4_110 : mGw (.static yJ9_floorMod_7cf53) := mG4 (i := 110) (by decide +kernel) rfl
theorem mw_1_14 : mGw (.initialized RJ9) := mG1 (i := 14) (by decide +kernel) rfl
theorem mw_4_111 : mGw (.code yJ9_floorMod_7cf53 cJ9_floorMod_7cf53 3 (some .int)) := mG4 (i := 111) (by decide +kernel) rfl
theorem mw_1_127 : mGw (.fieldLink RX1 119 RX8 "said" "[I") := mG1 (i := 127) (by decide +kernel) rfl
theorem mw_4_103 : mGw (.methodLink RX1 111 yX1_goIfItCan) := mG4 (i := 103) (by decide +kernel) rfl
theorem mw_4_105 : mGw (.instanceMethod yX1_goIfItCan) := mG4 (i := 105) (by decide +kernel) rfl
theorem mw_p_26 : mGw (.selects RX1 yX1_goIfItCan yX1_goIfItCan) := mGp (i := 26) (by decide +kernel) rfl
theorem mw_4_106 : mGw (.code yX1_goIfItCan cX1_goIfItCan 3 (some .int)) := mG4 (i := 106) (by decide +kernel) rfl
theorem mw_1_47 : mGw (.fieldLink RX1 21 RX0 "size" "I") := mG1 (i := 47) (by decide +kernel) rfl
theorem mw_4_97 : mGw (.methodLink RX1 27 yX8_isRunning) := mG4 (i := 97) (by decide +kernel) rfl
theorem mw_4_98 : mGw (.methodLink RX1 31 yX1_chooseRule) := mG4 (i := 98) (by decide +kernel) rfl
theorem mw_4_99 : mGw (.methodLink RX1 35 yX1_act) := mG4 (i := 99) (by decide +kernel) rfl
theorem mw_4_101 : mGw (.instanceMethod yX1_act) := mG4 (i := 101) (by decide +kernel) rfl
theorem mw_p_25 : mGw (.selects RX1 yX1_act yX1_act) := mGp (i := 25) (by decide +kernel) rfl
theorem mw_4_102 : mGw (.code yX1_act cX1_act 4 (some .int)) := mG4 (i := 102) (by decide +kernel) rfl
theorem mw_4_121 : mGw (.methodLink RX8 132 yX0_inCell) := mG4 (i := 121) (by decide +kernel) rfl
theorem mw_1_64 : mGw (.fieldLink RX8 126 RX0 "power" "[I") := mG1 (i := 64) (by decide +kernel) rfl
theorem mw_4_116 : mGw (.methodLink RX8 123 yX8_poorestBeside) := mG4 (i := 116) (by decide +kernel) rfl
theorem mw_4_118 : mGw (.instanceMethod yX8_poorestBeside) := mG4 (i := 118) (by decide +kernel) rfl
theorem mw_p_27 : mGw (.selects RX8 yX8_poorestBeside yX8_poorestBeside) := mGp (i := 27) (by decide +kernel) rfl
theorem mw_4_119 : mGw (.code yX8_poorestBeside cX8_poorestBeside 5 (some .int)) := mG4 (i := 119) (by decide +kernel) rfl
theorem mw_1_120 : mGw (.fieldLink RX8 57 RX8 "time" "I") := mG1 (i := 120) (by decide +kernel) rfl
theorem mw_4_93 : mGw (.methodLink RX9 241 yX1_runAll) := mG4 (i := 93) (by decide +kernel) rfl
theorem mw_4_94 : mGw (.instanceMethod yX1_runAll) := mG4 (i := 94) (by decide +kernel) rfl
theorem mw_4_95 : mGw (.selects RX1 yX1_runAll yX1_runAll) := mG4 (i := 95) (by decide +kernel) rfl
theorem mw_4_96 : mGw (.code yX1_runAll cX1_runAll 3 (some .int)) := mG4 (i := 96) (by decide +kernel) rfl
theorem mw_4_112 : mGw (.methodLink RX9 244 yX8_sharePower) := mG4 (i := 112) (by decide +kernel) rfl
theorem mw_4_113 : mGw (.instanceMethod yX8_sharePower) := mG4 (i := 113) (by decide +kernel) rfl
theorem mw_4_114 : mGw (.selects RX8 yX8_sharePower yX8_sharePower) := mG4 (i := 114) (by decide +kernel) rfl
theorem mw_4_115 : mGw (.code yX8_sharePower cX8_sharePower 3 none) := mG4 (i := 115) (by decide +kernel) rfl
theorem mw_4_122 : mGw (.methodLink RX9 247 yX8_endTick) := mG4 (i := 122) (by decide +kernel) rfl
theorem mw_4_123 : mGw (.instanceMethod yX8_endTick) := mG4 (i := 123) (by decide +kernel) rfl
theorem mw_4_124 : mGw (.selects RX8 yX8_endTick yX8_endTick) := mG4 (i := 124) (by decide +kernel) rfl
theorem mw_4_125 : mGw (.code yX8_endTick cX8_endTick 2 none) := mG4 (i := 125) (by decide +kernel) rfl
theorem mw_4_130 : mGw (.methodLink RX9 250 yX8_isTick) := mG4 (i := 130) (by decide +kernel) rfl
theorem mw_4_131 : mGw (.instanceMethod yX8_isTick) := mG4 (i := 131) (by decide +kernel) rfl
theorem mw_4_132 : mGw (.selects RX8 yX8_isTick yX8_isTick) := mG4 (i := 132) (by decide +kernel) rfl
theorem mw_4_133 : mGw (.code yX8_isTick cX8_isTick 2 (some .boolean)) := mG4 (i := 133) (by decide +kernel) rfl
theorem mw_1_146 : mGw (.fieldLink RX9 253 RX8 "reports" "LCubeFolk$Notes;") := mG1 (i := 146) (by decide +kernel) rfl
theorem mw_1_145 : mGw (.fieldLink RX8 50 RX8 "reports" "LCubeFolk$Notes;") := mG1 (i := 145) (by decide +kernel) rfl
theorem mw_1_102 : mGw (.fieldLink RX8 135 RX2 "size" "I") := mG1 (i := 102) (by decide +kernel) rfl
theorem mw_4_138 : mGw (.methodLink RX9 256 yX8_mayBelieve) := mG4 (i := 138) (by decide +kernel) rfl
theorem mw_4_139 : mGw (.instanceMethod yX8_mayBelieve) := mG4 (i := 139) (by decide +kernel) rfl
theorem mw_4_140 : mGw (.selects RX8 yX8_mayBelieve yX8_mayBelieve) := mG4 (i := 140) (by decide +kernel) rfl
theorem mw_4_141 : mGw (.code yX8_mayBelieve cX8_mayBelieve 2 (some .boolean)) := mG4 (i := 141) (by decide +kernel) rfl
theorem mw_4_142 : mGw (.methodLink RX9 259 yX2_firstOf) := mG4 (i := 142) (by decide +kernel) rfl
theorem mw_4_143 : mGw (.instanceMethod yX2_firstOf) := mG4 (i := 143) (by decide +kernel) rfl
theorem mw_4_144 : mGw (.selects RX2 yX2_firstOf yX2_firstOf) := mG4 (i := 144) (by decide +kernel) rfl
theorem mw_4_145 : mGw (.code yX2_firstOf cX2_firstOf 2 (some .int)) := mG4 (i := 145) (by decide +kernel) rfl
theorem mw_4_146 : mGw (.methodLink RX9 262 yX2_tellDead) := mG4 (i := 146) (by decide +kernel) rfl
theorem mw_4_147 : mGw (.instanceMethod yX2_tellDead) := mG4 (i := 147) (by decide +kernel) rfl
theorem mw_4_148 : mGw (.selects RX2 yX2_tellDead yX2_tellDead) := mG4 (i := 148) (by decide +kernel) rfl
theorem mw_4_149 : mGw (.code yX2_tellDead cX2_tellDead 7 (some .boolean)) := mG4 (i := 149) (by decide +kernel) rfl
theorem mw_1_143 : mGw (.fieldLink RX8 46 RX8 "log" "LCubeFolk$Notes;") := mG1 (i := 143) (by decide +kernel) rfl
theorem mw_4_158 : mGw (.methodLink RX8 136 yX2_nextNoted) := mG4 (i := 158) (by decide +kernel) rfl
theorem mw_4_159 : mGw (.instanceMethod yX2_nextNoted) := mG4 (i := 159) (by decide +kernel) rfl
theorem mw_4_160 : mGw (.selects RX2 yX2_nextNoted yX2_nextNoted) := mG4 (i := 160) (by decide +kernel) rfl
theorem mw_4_161 : mGw (.code yX2_nextNoted cX2_nextNoted 6 (some .int)) := mG4 (i := 161) (by decide +kernel) rfl
theorem mw_4_162 : mGw (.methodLink RX8 140 yX2_tellDead) := mG4 (i := 162) (by decide +kernel) rfl
theorem mw_4_154 : mGw (.methodLink RX9 265 yX8_wrongTicks) := mG4 (i := 154) (by decide +kernel) rfl
theorem mw_4_155 : mGw (.instanceMethod yX8_wrongTicks) := mG4 (i := 155) (by decide +kernel) rfl
theorem mw_4_156 : mGw (.selects RX8 yX8_wrongTicks yX8_wrongTicks) := mG4 (i := 156) (by decide +kernel) rfl
theorem mw_4_157 : mGw (.code yX8_wrongTicks cX8_wrongTicks 7 (some .int)) := mG4 (i := 157) (by decide +kernel) rfl
theorem mw_4_176 : mGw (.methodLink RX2 26 arraycopyName) := mG4 (i := 176) (by decide +kernel) rfl
theorem mw_4_172 : mGw (.methodLink RX8 73 yX2_copyFrom) := mG4 (i := 172) (by decide +kernel) rfl
theorem mw_4_173 : mGw (.instanceMethod yX2_copyFrom) := mG4 (i := 173) (by decide +kernel) rfl
theorem mw_4_174 : mGw (.selects RX2 yX2_copyFrom yX2_copyFrom) := mG4 (i := 174) (by decide +kernel) rfl
theorem mw_4_175 : mGw (.code yX2_copyFrom cX2_copyFrom 2 none) := mG4 (i := 175) (by decide +kernel) rfl
theorem mw_4_171 : mGw (.methodLink RX8 53 yX0_copyFrom) := mG4 (i := 171) (by decide +kernel) rfl
theorem mw_2_43 : mGw (.fieldLink RX9 16 RX9 "imaged" "LCubeFolk$World;") := mG2 (i := 43) (by decide +kernel) rfl
theorem mw_4_167 : mGw (.methodLink RX9 268 yX8_copyFrom) := mG4 (i := 167) (by decide +kernel) rfl
theorem mw_4_168 : mGw (.instanceMethod yX8_copyFrom) := mG4 (i := 168) (by decide +kernel) rfl
theorem mw_4_169 : mGw (.selects RX8 yX8_copyFrom yX8_copyFrom) := mG4 (i := 169) (by decide +kernel) rfl
theorem mw_4_170 : mGw (.code yX8_copyFrom cX8_copyFrom 3 none) := mG4 (i := 170) (by decide +kernel) rfl
theorem mw_2_44 : mGw (.fieldLink RX9 270 RX9 "hasImage" "Z") := mG2 (i := 44) (by decide +kernel) rfl
theorem mw_4_185 : mGw (.methodLink RX9 274 yX0_countDead) := mG4 (i := 185) (by decide +kernel) rfl
theorem mw_4_186 : mGw (.instanceMethod yX0_countDead) := mG4 (i := 186) (by decide +kernel) rfl
theorem mw_4_187 : mGw (.selects RX0 yX0_countDead yX0_countDead) := mG4 (i := 187) (by decide +kernel) rfl
theorem mw_4_188 : mGw (.code yX0_countDead cX0_countDead 3 (some .int)) := mG4 (i := 188) (by decide +kernel) rfl
theorem mw_4_190 : mGw (.methodLink RX9 277 yX0_wholePower) := mG4 (i := 190) (by decide +kernel) rfl
theorem mw_4_191 : mGw (.instanceMethod yX0_wholePower) := mG4 (i := 191) (by decide +kernel) rfl
theorem mw_4_192 : mGw (.selects RX0 yX0_wholePower yX0_wholePower) := mG4 (i := 192) (by decide +kernel) rfl
theorem mw_4_193 : mGw (.code yX0_wholePower cX0_wholePower 3 (some .int)) := mG4 (i := 193) (by decide +kernel) rfl
theorem mw_4_194 : mGw (.methodLink RX9 280 yX0_wholeWeight) := mG4 (i := 194) (by decide +kernel) rfl
theorem mw_4_195 : mGw (.instanceMethod yX0_wholeWeight) := mG4 (i := 195) (by decide +kernel) rfl
theorem mw_4_196 : mGw (.selects RX0 yX0_wholeWeight yX0_wholeWeight) := mG4 (i := 196) (by decide +kernel) rfl
theorem mw_4_197 : mGw (.code yX0_wholeWeight cX0_wholeWeight 3 (some .int)) := mG4 (i := 197) (by decide +kernel) rfl
theorem mw_2_12 : mGw (.fieldLink RX6 19 RX6 "size" "I") := mG2 (i := 12) (by decide +kernel) rfl
theorem mw_4_210 : mGw (.methodLink RX6 22 yX6_hold) := mG4 (i := 210) (by decide +kernel) rfl
theorem mw_4_203 : mGw (.instanceMethod yX6_hold) := mG4 (i := 203) (by decide +kernel) rfl
theorem mw_4_204 : mGw (.selects RX6 yX6_hold yX6_hold) := mG4 (i := 204) (by decide +kernel) rfl
theorem mw_4_205 : mGw (.code yX6_hold cX6_hold 2 none) := mG4 (i := 205) (by decide +kernel) rfl
theorem mw_1_52 : mGw (.fieldLink RX6 26 RX0 "kind" "[I") := mG1 (i := 52) (by decide +kernel) rfl
theorem mw_2_20 : mGw (.fieldLink RX6 31 RX6 "kind" "I") := mG2 (i := 20) (by decide +kernel) rfl
theorem mw_1_55 : mGw (.fieldLink RX6 33 RX0 "cell" "[I") := mG1 (i := 55) (by decide +kernel) rfl
theorem mw_2_21 : mGw (.fieldLink RX6 40 RX6 "x" "I") := mG2 (i := 21) (by decide +kernel) rfl
theorem mw_2_22 : mGw (.fieldLink RX6 46 RX6 "y" "I") := mG2 (i := 22) (by decide +kernel) rfl
theorem mw_1_61 : mGw (.fieldLink RX6 49 RX0 "power" "[I") := mG1 (i := 61) (by decide +kernel) rfl
theorem mw_2_23 : mGw (.fieldLink RX6 52 RX6 "power" "I") := mG2 (i := 23) (by decide +kernel) rfl
theorem mw_1_66 : mGw (.fieldLink RX6 54 RX0 "dead" "[Z") := mG1 (i := 66) (by decide +kernel) rfl
theorem mw_2_24 : mGw (.fieldLink RX6 58 RX6 "wasDead" "Z") := mG2 (i := 24) (by decide +kernel) rfl
theorem mw_4_206 : mGw (.methodLink RX9 287 yX6_holdCube) := mG4 (i := 206) (by decide +kernel) rfl
theorem mw_4_207 : mGw (.instanceMethod yX6_holdCube) := mG4 (i := 207) (by decide +kernel) rfl
theorem mw_4_208 : mGw (.selects RX6 yX6_holdCube yX6_holdCube) := mG4 (i := 208) (by decide +kernel) rfl
theorem mw_4_209 : mGw (.code yX6_holdCube cX6_holdCube 3 none) := mG4 (i := 209) (by decide +kernel) rfl
theorem mw_4_202 : mGw (.methodLink RX9 283 yX6_hold) := mG4 (i := 202) (by decide +kernel) rfl
theorem mw_2_15 : mGw (.fieldLink RX6 15 RX6 "elements" "[I") := mG2 (i := 15) (by decide +kernel) rfl
theorem mw_4_217 : mGw (.methodLink RX9 291 yX6_holdRow) := mG4 (i := 217) (by decide +kernel) rfl
theorem mw_4_218 : mGw (.instanceMethod yX6_holdRow) := mG4 (i := 218) (by decide +kernel) rfl
theorem mw_4_219 : mGw (.selects RX6 yX6_holdRow yX6_holdRow) := mG4 (i := 219) (by decide +kernel) rfl
theorem mw_4_220 : mGw (.code yX6_holdRow cX6_holdRow 4 none) := mG4 (i := 220) (by decide +kernel) rfl
theorem mw_4_225 : mGw (.methodLink RX9 294 yX6_hasPlace) := mG4 (i := 225) (by decide +kernel) rfl
theorem mw_4_226 : mGw (.instanceMethod yX6_hasPlace) := mG4 (i := 226) (by decide +kernel) rfl
theorem mw_4_227 : mGw (.selects RX6 yX6_hasPlace yX6_hasPlace) := mG4 (i := 227) (by decide +kernel) rfl
theorem mw_4_228 : mGw (.code yX6_hasPlace cX6_hasPlace 2 (some .boolean)) := mG4 (i := 228) (by decide +kernel) rfl
theorem mw_4_229 : mGw (.methodLink RX9 297 yX6_lowestBits) := mG4 (i := 229) (by decide +kernel) rfl
theorem mw_4_230 : mGw (.instanceMethod yX6_lowestBits) := mG4 (i := 230) (by decide +kernel) rfl
theorem mw_4_231 : mGw (.selects RX6 yX6_lowestBits yX6_lowestBits) := mG4 (i := 231) (by decide +kernel) rfl
theorem mw_4_232 : mGw (.code yX6_lowestBits cX6_lowestBits 2 (some .int)) := mG4 (i := 232) (by decide +kernel) rfl
theorem mw_2_9 : mGw (.fieldLink RX9 315 RX6 "holds" "I") := mG2 (i := 9) (by decide +kernel) rfl
theorem mw_4_237 : mGw (.methodLink RX9 307 yX6_isRow) := mG4 (i := 237) (by decide +kernel) rfl
theorem mw_4_238 : mGw (.methodLink RX9 318 yX6_hasPlaces) := mG4 (i := 238) (by decide +kernel) rfl
theorem mw_4_239 : mGw (.instanceMethod yX6_hasPlaces) := mG4 (i := 239) (by decide +kernel) rfl
theorem mw_5_0 : mGw (.selects RX6 yX6_hasPlaces yX6_hasPlaces) := mG5 (i := 0) (by decide +kernel) rfl
theorem mw_5_1 : mGw (.code yX6_hasPlaces cX6_hasPlaces 3 (some .boolean)) := mG5 (i := 1) (by decide +kernel) rfl
theorem mw_5_2 : mGw (.methodLink RX9 321 arraycopyName) := mG5 (i := 2) (by decide +kernel) rfl
theorem mw_5_7 : mGw (.methodLink RX9 327 yX6_refusalOfCube) := mG5 (i := 7) (by decide +kernel) rfl
theorem mw_5_8 : mGw (.instanceMethod yX6_refusalOfCube) := mG5 (i := 8) (by decide +kernel) rfl
theorem mw_5_9 : mGw (.selects RX6 yX6_refusalOfCube yX6_refusalOfCube) := mG5 (i := 9) (by decide +kernel) rfl
theorem mw_5_10 : mGw (.code yX6_refusalOfCube cX6_refusalOfCube 1 (some .int)) := mG5 (i := 10) (by decide +kernel) rfl
theorem mw_5_11 : mGw (.methodLink RX9 330 yX6_sumOfCube) := mG5 (i := 11) (by decide +kernel) rfl
theorem mw_5_12 : mGw (.instanceMethod yX6_sumOfCube) := mG5 (i := 12) (by decide +kernel) rfl
theorem mw_5_13 : mGw (.selects RX6 yX6_sumOfCube yX6_sumOfCube) := mG5 (i := 13) (by decide +kernel) rfl
theorem mw_5_14 : mGw (.code yX6_sumOfCube cX6_sumOfCube 2 (some .int)) := mG5 (i := 14) (by decide +kernel) rfl
theorem mw_5_137 : mGw (.fieldLink RX10 7 RX10 "thrown" "I") := mG5 (i := 137) (by decide +kernel) rfl
theorem mw_5_138 : mGw (.fieldLink RX10 13 RX10 "s" "[I") := mG5 (i := 138) (by decide +kernel) rfl
theorem mw_6_14 : mGw (.methodLink RX10 121 yX10_is) := mG6 (i := 14) (by decide +kernel) rfl
theorem mw_6_16 : mGw (.instanceMethod yX10_is) := mG6 (i := 16) (by decide +kernel) rfl
theorem mw_p_29 : mGw (.selects RX10 yX10_is yX10_is) := mGp (i := 29) (by decide +kernel) rfl
theorem mw_1_11 : mGw (.initialized RX10) := mG1 (i := 11) (by decide +kernel) rfl
theorem mw_6_17 : mGw (.code yX10_is cX10_is 4 (some .boolean)) := mG6 (i := 17) (by decide +kernel) rfl
theorem mw_6_18 : mGw (.methodLink RX10 125 yX10_isCell) := mG6 (i := 18) (by decide +kernel) rfl
theorem mw_6_20 : mGw (.instanceMethod yX10_isCell) := mG6 (i := 20) (by decide +kernel) rfl
theorem mw_p_30 : mGw (.selects RX10 yX10_isCell yX10_isCell) := mGp (i := 30) (by decide +kernel) rfl
theorem mw_6_21 : mGw (.code yX10_isCell cX10_isCell 3 (some .boolean)) := mG6 (i := 21) (by decide +kernel) rfl
theorem mw_5_141 : mGw (.fieldLink RX10 24 RX10 "grid" "[I") := mG5 (i := 141) (by decide +kernel) rfl
theorem mw_6_22 : mGw (.methodLink RX10 133 yX10_cubeAt) := mG6 (i := 22) (by decide +kernel) rfl
theorem mw_6_24 : mGw (.instanceMethod yX10_cubeAt) := mG6 (i := 24) (by decide +kernel) rfl
theorem mw_p_31 : mGw (.selects RX10 yX10_cubeAt yX10_cubeAt) := mGp (i := 31) (by decide +kernel) rfl
theorem mw_6_25 : mGw (.code yX10_cubeAt cX10_cubeAt 3 (some .int)) := mG6 (i := 25) (by decide +kernel) rfl
theorem mw_6_38 : mGw (.methodLink RX10 137 yX10_bitAt) := mG6 (i := 38) (by decide +kernel) rfl
theorem mw_6_40 : mGw (.instanceMethod yX10_bitAt) := mG6 (i := 40) (by decide +kernel) rfl
theorem mw_p_35 : mGw (.selects RX10 yX10_bitAt yX10_bitAt) := mGp (i := 35) (by decide +kernel) rfl
theorem mw_6_41 : mGw (.code yX10_bitAt cX10_bitAt 3 (some .int)) := mG6 (i := 41) (by decide +kernel) rfl
theorem mw_6_34 : mGw (.methodLink RX10 129 yX10_besides) := mG6 (i := 34) (by decide +kernel) rfl
theorem mw_6_36 : mGw (.instanceMethod yX10_besides) := mG6 (i := 36) (by decide +kernel) rfl
theorem mw_p_34 : mGw (.selects RX10 yX10_besides yX10_besides) := mGp (i := 34) (by decide +kernel) rfl
theorem mw_6_37 : mGw (.code yX10_besides cX10_besides 2 (some .int)) := mG6 (i := 37) (by decide +kernel) rfl
theorem mw_6_26 : mGw (.methodLink RX10 140 yX10_everyone) := mG6 (i := 26) (by decide +kernel) rfl
theorem mw_6_28 : mGw (.instanceMethod yX10_everyone) := mG6 (i := 28) (by decide +kernel) rfl
theorem mw_p_32 : mGw (.selects RX10 yX10_everyone yX10_everyone) := mGp (i := 32) (by decide +kernel) rfl
theorem mw_6_29 : mGw (.code yX10_everyone cX10_everyone 1 (some .int)) := mG6 (i := 29) (by decide +kernel) rfl
theorem mw_6_30 : mGw (.methodLink RX10 144 yX10_isWhole) := mG6 (i := 30) (by decide +kernel) rfl
theorem mw_6_32 : mGw (.instanceMethod yX10_isWhole) := mG6 (i := 32) (by decide +kernel) rfl
theorem mw_p_33 : mGw (.selects RX10 yX10_isWhole yX10_isWhole) := mGp (i := 33) (by decide +kernel) rfl
theorem mw_6_33 : mGw (.code yX10_isWhole cX10_isWhole 6 (some .boolean)) := mG6 (i := 33) (by decide +kernel) rfl
theorem mw_5_142 : mGw (.fieldLink RX10 27 RX10 "load" "[I") := mG5 (i := 142) (by decide +kernel) rfl
theorem mw_6_62 : mGw (.methodLink RX10 148 yX10_weightOf) := mG6 (i := 62) (by decide +kernel) rfl
theorem mw_6_64 : mGw (.instanceMethod yX10_weightOf) := mG6 (i := 64) (by decide +kernel) rfl
theorem mw_p_40 : mGw (.selects RX10 yX10_weightOf yX10_weightOf) := mGp (i := 40) (by decide +kernel) rfl
theorem mw_6_65 : mGw (.code yX10_weightOf cX10_weightOf 2 (some .int)) := mG6 (i := 65) (by decide +kernel) rfl
theorem mw_6_58 : mGw (.methodLink RX10 154 yX10_givesOn) := mG6 (i := 58) (by decide +kernel) rfl
theorem mw_6_60 : mGw (.instanceMethod yX10_givesOn) := mG6 (i := 60) (by decide +kernel) rfl
theorem mw_p_39 : mGw (.selects RX10 yX10_givesOn yX10_givesOn) := mGp (i := 39) (by decide +kernel) rfl
theorem mw_6_61 : mGw (.code yX10_givesOn cX10_givesOn 8 none) := mG6 (i := 61) (by decide +kernel) rfl
theorem mw_6_54 : mGw (.methodLink RX10 151 yX10_hangs) := mG6 (i := 54) (by decide +kernel) rfl
theorem mw_6_56 : mGw (.instanceMethod yX10_hangs) := mG6 (i := 56) (by decide +kernel) rfl
theorem mw_p_38 : mGw (.selects RX10 yX10_hangs yX10_hangs) := mGp (i := 38) (by decide +kernel) rfl
theorem mw_6_57 : mGw (.code yX10_hangs cX10_hangs 2 (some .boolean)) := mG6 (i := 57) (by decide +kernel) rfl
theorem mw_6_70 : mGw (.methodLink RX10 158 yX10_bearsOf) := mG6 (i := 70) (by decide +kernel) rfl
theorem mw_6_72 : mGw (.instanceMethod yX10_bearsOf) := mG6 (i := 72) (by decide +kernel) rfl
theorem mw_p_42 : mGw (.selects RX10 yX10_bearsOf yX10_bearsOf) := mGp (i := 42) (by decide +kernel) rfl
theorem mw_6_73 : mGw (.code yX10_bearsOf cX10_bearsOf 2 (some .int)) := mG6 (i := 73) (by decide +kernel) rfl
theorem mw_6_46 : mGw (.methodLink RX10 161 yX10_isCube) := mG6 (i := 46) (by decide +kernel) rfl
theorem mw_6_48 : mGw (.instanceMethod yX10_isCube) := mG6 (i := 48) (by decide +kernel) rfl
theorem mw_p_36 : mGw (.selects RX10 yX10_isCube yX10_isCube) := mGp (i := 36) (by decide +kernel) rfl
theorem mw_6_49 : mGw (.code yX10_isCube cX10_isCube 2 (some .boolean)) := mG6 (i := 49) (by decide +kernel) rfl
theorem mw_6_50 : mGw (.methodLink RX10 164 yX10_findLoads) := mG6 (i := 50) (by decide +kernel) rfl
theorem mw_6_52 : mGw (.instanceMethod yX10_findLoads) := mG6 (i := 52) (by decide +kernel) rfl
theorem mw_p_37 : mGw (.selects RX10 yX10_findLoads yX10_findLoads) := mGp (i := 37) (by decide +kernel) rfl
theorem mw_6_53 : mGw (.code yX10_findLoads cX10_findLoads 4 none) := mG6 (i := 53) (by decide +kernel) rfl
theorem mw_6_66 : mGw (.methodLink RX10 167 yX10_isBroken) := mG6 (i := 66) (by decide +kernel) rfl
theorem mw_6_68 : mGw (.instanceMethod yX10_isBroken) := mG6 (i := 68) (by decide +kernel) rfl
theorem mw_p_41 : mGw (.selects RX10 yX10_isBroken yX10_isBroken) := mGp (i := 41) (by decide +kernel) rfl
theorem mw_6_69 : mGw (.code yX10_isBroken cX10_isBroken 2 (some .boolean)) := mG6 (i := 69) (by decide +kernel) rfl
theorem mw_6_118 : mGw (.methodLink RX10 170 yX10_holds) := mG6 (i := 118) (by decide +kernel) rfl
theorem mw_6_120 : mGw (.instanceMethod yX10_holds) := mG6 (i := 120) (by decide +kernel) rfl
theorem mw_p_50 : mGw (.selects RX10 yX10_holds yX10_holds) := mGp (i := 50) (by decide +kernel) rfl
theorem mw_6_121 : mGw (.code yX10_holds cX10_holds 4 (some .boolean)) := mG6 (i := 121) (by decide +kernel) rfl
theorem mw_6_122 : mGw (.methodLink RX10 189 yX10_sets) := mG6 (i := 122) (by decide +kernel) rfl
theorem mw_6_124 : mGw (.instanceMethod yX10_sets) := mG6 (i := 124) (by decide +kernel) rfl
theorem mw_p_51 : mGw (.selects RX10 yX10_sets yX10_sets) := mGp (i := 51) (by decide +kernel) rfl
theorem mw_6_125 : mGw (.code yX10_sets cX10_sets 4 none) := mG6 (i := 125) (by decide +kernel) rfl
theorem mw_6_98 : mGw (.methodLink RX10 173 yX10_east) := mG6 (i := 98) (by decide +kernel) rfl
theorem mw_6_100 : mGw (.instanceMethod yX10_east) := mG6 (i := 100) (by decide +kernel) rfl
theorem mw_p_45 : mGw (.selects RX10 yX10_east yX10_east) := mGp (i := 45) (by decide +kernel) rfl
theorem mw_6_101 : mGw (.code yX10_east cX10_east 2 (some .int)) := mG6 (i := 101) (by decide +kernel) rfl
theorem mw_6_102 : mGw (.methodLink RX10 176 yX10_north) := mG6 (i := 102) (by decide +kernel) rfl
theorem mw_6_104 : mGw (.instanceMethod yX10_north) := mG6 (i := 104) (by decide +kernel) rfl
theorem mw_p_46 : mGw (.selects RX10 yX10_north yX10_north) := mGp (i := 46) (by decide +kernel) rfl
theorem mw_6_105 : mGw (.code yX10_north cX10_north 2 (some .int)) := mG6 (i := 105) (by decide +kernel) rfl
theorem mw_6_106 : mGw (.methodLink RX10 179 yX10_costOf) := mG6 (i := 106) (by decide +kernel) rfl
theorem mw_6_108 : mGw (.instanceMethod yX10_costOf) := mG6 (i := 108) (by decide +kernel) rfl
theorem mw_p_47 : mGw (.selects RX10 yX10_costOf yX10_costOf) := mGp (i := 47) (by decide +kernel) rfl
theorem mw_6_109 : mGw (.code yX10_costOf cX10_costOf 2 (some .int)) := mG6 (i := 109) (by decide +kernel) rfl
theorem mw_6_110 : mGw (.methodLink RX10 182 yX10_isFree) := mG6 (i := 110) (by decide +kernel) rfl
theorem mw_6_112 : mGw (.instanceMethod yX10_isFree) := mG6 (i := 112) (by decide +kernel) rfl
theorem mw_p_48 : mGw (.selects RX10 yX10_isFree yX10_isFree) := mGp (i := 48) (by decide +kernel) rfl
theorem mw_6_113 : mGw (.code yX10_isFree cX10_isFree 3 (some .boolean)) := mG6 (i := 113) (by decide +kernel) rfl
theorem mw_6_114 : mGw (.methodLink RX10 185 yX10_hasSide) := mG6 (i := 114) (by decide +kernel) rfl
theorem mw_6_116 : mGw (.instanceMethod yX10_hasSide) := mG6 (i := 116) (by decide +kernel) rfl
theorem mw_p_49 : mGw (.selects RX10 yX10_hasSide yX10_hasSide) := mGp (i := 49) (by decide +kernel) rfl
theorem mw_6_117 : mGw (.code yX10_hasSide cX10_hasSide 10 (some .boolean)) := mG6 (i := 117) (by decide +kernel) rfl
theorem mw_6_90 : mGw (.methodLink RX10 193 yX10_isMove) := mG6 (i := 90) (by decide +kernel) rfl
theorem mw_6_92 : mGw (.instanceMethod yX10_isMove) := mG6 (i := 92) (by decide +kernel) rfl
theorem mw_p_43 : mGw (.selects RX10 yX10_isMove yX10_isMove) := mGp (i := 43) (by decide +kernel) rfl
theorem mw_6_93 : mGw (.code yX10_isMove cX10_isMove 2 (some .boolean)) := mG6 (i := 93) (by decide +kernel) rfl
theorem mw_6_94 : mGw (.methodLink RX10 196 yX10_canMove) := mG6 (i := 94) (by decide +kernel) rfl
theorem mw_6_96 : mGw (.instanceMethod yX10_canMove) := mG6 (i := 96) (by decide +kernel) rfl
theorem mw_p_44 : mGw (.selects RX10 yX10_canMove yX10_canMove) := mGp (i := 44) (by decide +kernel) rfl
theorem mw_6_97 : mGw (.code yX10_canMove cX10_canMove 9 (some .boolean)) := mG6 (i := 97) (by decide +kernel) rfl
theorem mw_6_130 : mGw (.methodLink RX10 199 yX10_goes) := mG6 (i := 130) (by decide +kernel) rfl
theorem mw_6_132 : mGw (.instanceMethod yX10_goes) := mG6 (i := 132) (by decide +kernel) rfl
theorem mw_p_52 : mGw (.selects RX10 yX10_goes yX10_goes) := mGp (i := 52) (by decide +kernel) rfl
theorem mw_6_133 : mGw (.code yX10_goes cX10_goes 3 none) := mG6 (i := 133) (by decide +kernel) rfl
theorem mw_5_147 : mGw (.fieldLink RX10 42 RX10 "spot" "I") := mG5 (i := 147) (by decide +kernel) rfl
theorem mw_5_146 : mGw (.fieldLink RX10 39 RX10 "many" "I") := mG5 (i := 146) (by decide +kernel) rfl
theorem mw_5_148 : mGw (.fieldLink RX10 45 RX10 "isLook" "Z") := mG5 (i := 148) (by decide +kernel) rfl
theorem mw_5_145 : mGw (.fieldLink RX10 36 RX10 "base" "I") := mG5 (i := 145) (by decide +kernel) rfl
theorem mw_5_143 : mGw (.fieldLink RX10 30 RX10 "look" "[I") := mG5 (i := 143) (by decide +kernel) rfl
theorem mw_5_144 : mGw (.fieldLink RX10 33 RX10 "lookMany" "I") := mG5 (i := 144) (by decide +kernel) rfl
theorem mw_6_166 : mGw (.methodLink RX10 202 yX10_next) := mG6 (i := 166) (by decide +kernel) rfl
theorem mw_6_168 : mGw (.instanceMethod yX10_next) := mG6 (i := 168) (by decide +kernel) rfl
theorem mw_p_58 : mGw (.selects RX10 yX10_next yX10_next) := mGp (i := 58) (by decide +kernel) rfl
theorem mw_6_169 : mGw (.code yX10_next cX10_next 1 (some .int)) := mG6 (i := 169) (by decide +kernel) rfl
theorem mw_5_149 : mGw (.fieldLink RX10 48 RX10 "told" "I") := mG5 (i := 149) (by decide +kernel) rfl
theorem mw_5_151 : mGw (.fieldLink RX10 55 RX10 "turned" "[Z") := mG5 (i := 151) (by decide +kernel) rfl
theorem mw_5_153 : mGw (.fieldLink RX10 61 RX10 "depth" "I") := mG5 (i := 153) (by decide +kernel) rfl
theorem mw_5_150 : mGw (.fieldLink RX10 51 RX10 "so" "[Z") := mG5 (i := 150) (by decide +kernel) rfl
theorem mw_5_152 : mGw (.fieldLink RX10 58 RX10 "sign" "[I") := mG5 (i := 152) (by decide +kernel) rfl
theorem mw_6_178 : mGw (.methodLink RX10 208 yX10_part) := mG6 (i := 178) (by decide +kernel) rfl
theorem mw_6_180 : mGw (.instanceMethod yX10_part) := mG6 (i := 180) (by decide +kernel) rfl
theorem mw_p_61 : mGw (.selects RX10 yX10_part yX10_part) := mGp (i := 61) (by decide +kernel) rfl
theorem mw_6_181 : mGw (.code yX10_part cX10_part 3 none) := mG6 (i := 181) (by decide +kernel) rfl
theorem mw_6_174 : mGw (.methodLink RX10 205 yX10_takes) := mG6 (i := 174) (by decide +kernel) rfl
theorem mw_6_176 : mGw (.instanceMethod yX10_takes) := mG6 (i := 176) (by decide +kernel) rfl
theorem mw_p_60 : mGw (.selects RX10 yX10_takes yX10_takes) := mGp (i := 60) (by decide +kernel) rfl
theorem mw_6_177 : mGw (.code yX10_takes cX10_takes 3 (some .boolean)) := mG6 (i := 177) (by decide +kernel) rfl
theorem mw_6_170 : mGw (.methodLink RX10 218 yX10_takesBox) := mG6 (i := 170) (by decide +kernel) rfl
theorem mw_6_172 : mGw (.instanceMethod yX10_takesBox) := mG6 (i := 172) (by decide +kernel) rfl
theorem mw_p_59 : mGw (.selects RX10 yX10_takesBox yX10_takesBox) := mGp (i := 59) (by decide +kernel) rfl
theorem mw_6_173 : mGw (.code yX10_takesBox cX10_takesBox 8 (some .boolean)) := mG6 (i := 173) (by decide +kernel) rfl
theorem mw_6_162 : mGw (.methodLink RX10 215 yX10_open) := mG6 (i := 162) (by decide +kernel) rfl
theorem mw_6_164 : mGw (.instanceMethod yX10_open) := mG6 (i := 164) (by decide +kernel) rfl
theorem mw_p_57 : mGw (.selects RX10 yX10_open yX10_open) := mGp (i := 57) (by decide +kernel) rfl
theorem mw_6_165 : mGw (.code yX10_open cX10_open 1 none) := mG6 (i := 165) (by decide +kernel) rfl
theorem mw_6_158 : mGw (.methodLink RX10 212 yX10_begin) := mG6 (i := 158) (by decide +kernel) rfl
theorem mw_6_160 : mGw (.instanceMethod yX10_begin) := mG6 (i := 160) (by decide +kernel) rfl
theorem mw_p_56 : mGw (.selects RX10 yX10_begin yX10_begin) := mGp (i := 56) (by decide +kernel) rfl
theorem mw_6_161 : mGw (.code yX10_begin cX10_begin 2 none) := mG6 (i := 161) (by decide +kernel) rfl
theorem mw_6_198 : mGw (.methodLink RX10 221 yX10_isField) := mG6 (i := 198) (by decide +kernel) rfl
theorem mw_6_200 : mGw (.instanceMethod yX10_isField) := mG6 (i := 200) (by decide +kernel) rfl
theorem mw_p_66 : mGw (.selects RX10 yX10_isField yX10_isField) := mGp (i := 66) (by decide +kernel) rfl
theorem mw_6_201 : mGw (.code yX10_isField cX10_isField 2 (some .boolean)) := mG6 (i := 201) (by decide +kernel) rfl
theorem mw_5_159 : mGw (.fieldLink RX10 79 RX10 "atom" "I") := mG5 (i := 159) (by decide +kernel) rfl
theorem mw_6_202 : mGw (.methodLink RX10 224 yX10_fieldOf) := mG6 (i := 202) (by decide +kernel) rfl
theorem mw_6_204 : mGw (.instanceMethod yX10_fieldOf) := mG6 (i := 204) (by decide +kernel) rfl
theorem mw_p_67 : mGw (.selects RX10 yX10_fieldOf yX10_fieldOf) := mGp (i := 67) (by decide +kernel) rfl
theorem mw_6_205 : mGw (.code yX10_fieldOf cX10_fieldOf 8 (some .int)) := mG6 (i := 205) (by decide +kernel) rfl
theorem mw_5_154 : mGw (.fieldLink RX10 64 RX10 "value" "I") := mG5 (i := 154) (by decide +kernel) rfl
theorem mw_6_194 : mGw (.methodLink RX10 227 yX10_takesAtom) := mG6 (i := 194) (by decide +kernel) rfl
theorem mw_6_196 : mGw (.instanceMethod yX10_takesAtom) := mG6 (i := 196) (by decide +kernel) rfl
theorem mw_p_65 : mGw (.selects RX10 yX10_takesAtom yX10_takesAtom) := mGp (i := 65) (by decide +kernel) rfl
theorem mw_6_197 : mGw (.code yX10_takesAtom cX10_takesAtom 3 (some .boolean)) := mG6 (i := 197) (by decide +kernel) rfl
theorem mw_5_158 : mGw (.fieldLink RX10 76 RX10 "holds0" "Z") := mG5 (i := 158) (by decide +kernel) rfl
theorem mw_6_190 : mGw (.methodLink RX10 230 yX10_takesSum) := mG6 (i := 190) (by decide +kernel) rfl
theorem mw_6_192 : mGw (.instanceMethod yX10_takesSum) := mG6 (i := 192) (by decide +kernel) rfl
theorem mw_p_64 : mGw (.selects RX10 yX10_takesSum yX10_takesSum) := mGp (i := 64) (by decide +kernel) rfl
theorem mw_6_193 : mGw (.code yX10_takesSum cX10_takesSum 3 (some .boolean)) := mG6 (i := 193) (by decide +kernel) rfl
theorem mw_5_157 : mGw (.fieldLink RX10 73 RX10 "amount" "I") := mG5 (i := 157) (by decide +kernel) rfl
theorem mw_5_155 : mGw (.fieldLink RX10 67 RX10 "rule0" "I") := mG5 (i := 155) (by decide +kernel) rfl
theorem mw_5_156 : mGw (.fieldLink RX10 70 RX10 "act" "I") := mG5 (i := 156) (by decide +kernel) rfl
theorem mw_6_186 : mGw (.methodLink RX10 233 yX10_takesTest) := mG6 (i := 186) (by decide +kernel) rfl
theorem mw_6_188 : mGw (.instanceMethod yX10_takesTest) := mG6 (i := 188) (by decide +kernel) rfl
theorem mw_p_63 : mGw (.selects RX10 yX10_takesTest yX10_takesTest) := mGp (i := 63) (by decide +kernel) rfl
theorem mw_6_189 : mGw (.code yX10_takesTest cX10_takesTest 5 (some .boolean)) := mG6 (i := 189) (by decide +kernel) rfl
theorem mw_6_206 : mGw (.methodLink RX10 236 yX10_takesAct) := mG6 (i := 206) (by decide +kernel) rfl
theorem mw_6_208 : mGw (.instanceMethod yX10_takesAct) := mG6 (i := 208) (by decide +kernel) rfl
theorem mw_p_68 : mGw (.selects RX10 yX10_takesAct yX10_takesAct) := mGp (i := 68) (by decide +kernel) rfl
theorem mw_6_209 : mGw (.code yX10_takesAct cX10_takesAct 4 (some .boolean)) := mG6 (i := 209) (by decide +kernel) rfl
theorem mw_5_164 : mGw (.fieldLink RX10 94 RX10 "held" "[I") := mG5 (i := 164) (by decide +kernel) rfl
theorem mw_5_169 : mGw (.fieldLink RX10 109 RX10 "sort" "[I") := mG5 (i := 169) (by decide +kernel) rfl
theorem mw_5_170 : mGw (.fieldLink RX10 112 RX10 "size" "[I") := mG5 (i := 170) (by decide +kernel) rfl
theorem mw_5_171 : mGw (.fieldLink RX10 115 RX10 "item" "[I") := mG5 (i := 171) (by decide +kernel) rfl
theorem mw_6_146 : mGw (.methodLink RX10 239 yX10_lacksText) := mG6 (i := 146) (by decide +kernel) rfl
theorem mw_6_148 : mGw (.instanceMethod yX10_lacksText) := mG6 (i := 148) (by decide +kernel) rfl
theorem mw_p_53 : mGw (.selects RX10 yX10_lacksText yX10_lacksText) := mGp (i := 53) (by decide +kernel) rfl
theorem mw_6_149 : mGw (.code yX10_lacksText cX10_lacksText 2 (some .int)) := mG6 (i := 149) (by decide +kernel) rfl
theorem mw_6_150 : mGw (.methodLink RX10 242 yX10_bring) := mG6 (i := 150) (by decide +kernel) rfl
theorem mw_6_152 : mGw (.instanceMethod yX10_bring) := mG6 (i := 152) (by decide +kernel) rfl
theorem mw_p_54 : mGw (.selects RX10 yX10_bring yX10_bring) := mGp (i := 54) (by decide +kernel) rfl
theorem mw_6_153 : mGw (.code yX10_bring cX10_bring 3 none) := mG6 (i := 153) (by decide +kernel) rfl
theorem mw_6_182 : mGw (.methodLink RX10 248 yX10_goesProgram) := mG6 (i := 182) (by decide +kernel) rfl
theorem mw_6_184 : mGw (.instanceMethod yX10_goesProgram) := mG6 (i := 184) (by decide +kernel) rfl
theorem mw_p_62 : mGw (.selects RX10 yX10_goesProgram yX10_goesProgram) := mGp (i := 62) (by decide +kernel) rfl
theorem mw_6_185 : mGw (.code yX10_goesProgram cX10_goesProgram 4 (some .boolean)) := mG6 (i := 185) (by decide +kernel) rfl
theorem mw_6_154 : mGw (.methodLink RX10 245 yX10_goesShape) := mG6 (i := 154) (by decide +kernel) rfl
theorem mw_6_156 : mGw (.instanceMethod yX10_goesShape) := mG6 (i := 156) (by decide +kernel) rfl
theorem mw_p_55 : mGw (.selects RX10 yX10_goesShape yX10_goesShape) := mGp (i := 55) (by decide +kernel) rfl
theorem mw_6_157 : mGw (.code yX10_goesShape cX10_goesShape 7 (some .boolean)) := mG6 (i := 157) (by decide +kernel) rfl
theorem mw_6_214 : mGw (.methodLink RX10 251 yX10_keepText) := mG6 (i := 214) (by decide +kernel) rfl
theorem mw_6_216 : mGw (.instanceMethod yX10_keepText) := mG6 (i := 216) (by decide +kernel) rfl
theorem mw_p_69 : mGw (.selects RX10 yX10_keepText yX10_keepText) := mGp (i := 69) (by decide +kernel) rfl
theorem mw_6_217 : mGw (.code yX10_keepText cX10_keepText 4 (some .int)) := mG6 (i := 217) (by decide +kernel) rfl
theorem mw_6_226 : mGw (.methodLink RX10 254 yX10_isShape) := mG6 (i := 226) (by decide +kernel) rfl
theorem mw_6_228 : mGw (.instanceMethod yX10_isShape) := mG6 (i := 228) (by decide +kernel) rfl
theorem mw_p_70 : mGw (.selects RX10 yX10_isShape yX10_isShape) := mGp (i := 70) (by decide +kernel) rfl
theorem mw_6_229 : mGw (.code yX10_isShape cX10_isShape 2 (some .boolean)) := mG6 (i := 229) (by decide +kernel) rfl
theorem mw_6_230 : mGw (.methodLink RX10 257 yX10_isIn) := mG6 (i := 230) (by decide +kernel) rfl
theorem mw_6_232 : mGw (.instanceMethod yX10_isIn) := mG6 (i := 232) (by decide +kernel) rfl
theorem mw_p_71 : mGw (.selects RX10 yX10_isIn yX10_isIn) := mGp (i := 71) (by decide +kernel) rfl
theorem mw_6_233 : mGw (.code yX10_isIn cX10_isIn 4 (some .boolean)) := mG6 (i := 233) (by decide +kernel) rfl
theorem mw_5_161 : mGw (.fieldLink RX10 85 RX10 "goalMany" "I") := mG5 (i := 161) (by decide +kernel) rfl
theorem mw_5_160 : mGw (.fieldLink RX10 82 RX10 "goal" "[Z") := mG5 (i := 160) (by decide +kernel) rfl
theorem mw_6_238 : mGw (.methodLink RX10 260 yX10_findGoal) := mG6 (i := 238) (by decide +kernel) rfl
theorem mw_7_0 : mGw (.instanceMethod yX10_findGoal) := mG7 (i := 0) (by decide +kernel) rfl
theorem mw_p_72 : mGw (.selects RX10 yX10_findGoal yX10_findGoal) := mGp (i := 72) (by decide +kernel) rfl
theorem mw_7_1 : mGw (.code yX10_findGoal cX10_findGoal 3 none) := mG7 (i := 1) (by decide +kernel) rfl
theorem mw_7_2 : mGw (.methodLink RX10 263 yX10_outside) := mG7 (i := 2) (by decide +kernel) rfl
theorem mw_7_4 : mGw (.instanceMethod yX10_outside) := mG7 (i := 4) (by decide +kernel) rfl
theorem mw_p_73 : mGw (.selects RX10 yX10_outside yX10_outside) := mGp (i := 73) (by decide +kernel) rfl
theorem mw_7_5 : mGw (.code yX10_outside cX10_outside 3 (some .int)) := mG7 (i := 5) (by decide +kernel) rfl
theorem mw_5_162 : mGw (.fieldLink RX10 88 RX10 "row" "[I") := mG5 (i := 162) (by decide +kernel) rfl
theorem mw_7_18 : mGw (.methodLink RX10 266 yX10_comesBack) := mG7 (i := 18) (by decide +kernel) rfl
theorem mw_7_20 : mGw (.instanceMethod yX10_comesBack) := mG7 (i := 20) (by decide +kernel) rfl
theorem mw_p_76 : mGw (.selects RX10 yX10_comesBack yX10_comesBack) := mGp (i := 76) (by decide +kernel) rfl
theorem mw_7_21 : mGw (.code yX10_comesBack cX10_comesBack 3 none) := mG7 (i := 21) (by decide +kernel) rfl
theorem mw_7_14 : mGw (.methodLink RX10 269 yX10_isPlan) := mG7 (i := 14) (by decide +kernel) rfl
theorem mw_7_16 : mGw (.instanceMethod yX10_isPlan) := mG7 (i := 16) (by decide +kernel) rfl
theorem mw_p_75 : mGw (.selects RX10 yX10_isPlan yX10_isPlan) := mGp (i := 75) (by decide +kernel) rfl
theorem mw_7_17 : mGw (.code yX10_isPlan cX10_isPlan 5 (some .boolean)) := mG7 (i := 17) (by decide +kernel) rfl
theorem mw_7_10 : mGw (.methodLink RX10 272 yX10_planIn) := mG7 (i := 10) (by decide +kernel) rfl
theorem mw_7_12 : mGw (.instanceMethod yX10_planIn) := mG7 (i := 12) (by decide +kernel) rfl
theorem mw_p_74 : mGw (.selects RX10 yX10_planIn yX10_planIn) := mGp (i := 74) (by decide +kernel) rfl
theorem mw_7_13 : mGw (.code yX10_planIn cX10_planIn 4 (some .int)) := mG7 (i := 13) (by decide +kernel) rfl
theorem mw_5_163 : mGw (.fieldLink RX10 91 RX10 "says" "[I") := mG5 (i := 163) (by decide +kernel) rfl
theorem mw_7_50 : mGw (.methodLink RX10 278 yX10_shares) := mG7 (i := 50) (by decide +kernel) rfl
theorem mw_7_52 : mGw (.instanceMethod yX10_shares) := mG7 (i := 52) (by decide +kernel) rfl
theorem mw_p_79 : mGw (.selects RX10 yX10_shares yX10_shares) := mGp (i := 79) (by decide +kernel) rfl
theorem mw_7_53 : mGw (.code yX10_shares cX10_shares 5 none) := mG7 (i := 53) (by decide +kernel) rfl
theorem mw_7_46 : mGw (.methodLink RX10 275 yX10_acts) := mG7 (i := 46) (by decide +kernel) rfl
theorem mw_7_48 : mGw (.instanceMethod yX10_acts) := mG7 (i := 48) (by decide +kernel) rfl
theorem mw_p_78 : mGw (.selects RX10 yX10_acts yX10_acts) := mGp (i := 78) (by decide +kernel) rfl
theorem mw_7_49 : mGw (.code yX10_acts cX10_acts 2 (some .boolean)) := mG7 (i := 49) (by decide +kernel) rfl
theorem mw_7_42 : mGw (.methodLink RX10 281 yX10_goTick) := mG7 (i := 42) (by decide +kernel) rfl
theorem mw_7_44 : mGw (.instanceMethod yX10_goTick) := mG7 (i := 44) (by decide +kernel) rfl
theorem mw_p_77 : mGw (.selects RX10 yX10_goTick yX10_goTick) := mGp (i := 77) (by decide +kernel) rfl
theorem mw_7_45 : mGw (.code yX10_goTick cX10_goTick 3 (some .int)) := mG7 (i := 45) (by decide +kernel) rfl
theorem mw_7_62 : mGw (.methodLink RX10 284 yX10_first) := mG7 (i := 62) (by decide +kernel) rfl
theorem mw_7_64 : mGw (.instanceMethod yX10_first) := mG7 (i := 64) (by decide +kernel) rfl
theorem mw_p_80 : mGw (.selects RX10 yX10_first yX10_first) := mGp (i := 80) (by decide +kernel) rfl
theorem mw_7_65 : mGw (.code yX10_first cX10_first 2 (some .int)) := mG7 (i := 65) (by decide +kernel) rfl
theorem mw_7_66 : mGw (.methodLink RX10 287 yX10_believedOf) := mG7 (i := 66) (by decide +kernel) rfl
theorem mw_7_68 : mGw (.instanceMethod yX10_believedOf) := mG7 (i := 68) (by decide +kernel) rfl
theorem mw_p_81 : mGw (.selects RX10 yX10_believedOf yX10_believedOf) := mGp (i := 81) (by decide +kernel) rfl
theorem mw_7_69 : mGw (.code yX10_believedOf cX10_believedOf 6 (some .int)) := mG7 (i := 69) (by decide +kernel) rfl
theorem mw_7_74 : mGw (.methodLink RX10 291 yX10_wasDead) := mG7 (i := 74) (by decide +kernel) rfl
theorem mw_7_76 : mGw (.instanceMethod yX10_wasDead) := mG7 (i := 76) (by decide +kernel) rfl
theorem mw_p_82 : mGw (.selects RX10 yX10_wasDead yX10_wasDead) := mGp (i := 82) (by decide +kernel) rfl
theorem mw_7_77 : mGw (.code yX10_wasDead cX10_wasDead 5 (some .int)) := mG7 (i := 77) (by decide +kernel) rfl
theorem mw_5_140 : mGw (.fieldLink RX10 20 RX10 "isImage" "Z") := mG5 (i := 140) (by decide +kernel) rfl
theorem mw_5_139 : mGw (.fieldLink RX10 17 RX10 "kept" "[I") := mG5 (i := 139) (by decide +kernel) rfl
theorem mw_5_165 : mGw (.fieldLink RX10 97 RX10 "cubeKind" "[I") := mG5 (i := 165) (by decide +kernel) rfl
theorem mw_5_166 : mGw (.fieldLink RX10 100 RX10 "cubePlace" "[I") := mG5 (i := 166) (by decide +kernel) rfl
theorem mw_5_167 : mGw (.fieldLink RX10 103 RX10 "cubePower" "[I") := mG5 (i := 167) (by decide +kernel) rfl
theorem mw_5_168 : mGw (.fieldLink RX10 106 RX10 "cubeDead" "[I") := mG5 (i := 168) (by decide +kernel) rfl
theorem mw_7_94 : mGw (.methodLink RX10 294 yX10_isShelf) := mG7 (i := 94) (by decide +kernel) rfl
theorem mw_7_96 : mGw (.instanceMethod yX10_isShelf) := mG7 (i := 96) (by decide +kernel) rfl
theorem mw_p_83 : mGw (.selects RX10 yX10_isShelf yX10_isShelf) := mGp (i := 83) (by decide +kernel) rfl
theorem mw_7_97 : mGw (.code yX10_isShelf cX10_isShelf 2 (some .boolean)) := mG7 (i := 97) (by decide +kernel) rfl
theorem mw_7_106 : mGw (.methodLink RX10 297 yX10_narrow) := mG7 (i := 106) (by decide +kernel) rfl
theorem mw_7_108 : mGw (.instanceMethod yX10_narrow) := mG7 (i := 108) (by decide +kernel) rfl
theorem mw_p_84 : mGw (.selects RX10 yX10_narrow yX10_narrow) := mGp (i := 84) (by decide +kernel) rfl
theorem mw_7_109 : mGw (.code yX10_narrow cX10_narrow 3 (some .int)) := mG7 (i := 109) (by decide +kernel) rfl
theorem mw_5_172 : mGw (.fieldLink RX10 118 RX10 "aside" "[I") := mG5 (i := 172) (by decide +kernel) rfl
theorem mw_7_122 : mGw (.methodLink RX10 300 yX10_lacksCube) := mG7 (i := 122) (by decide +kernel) rfl
theorem mw_7_124 : mGw (.instanceMethod yX10_lacksCube) := mG7 (i := 124) (by decide +kernel) rfl
theorem mw_p_85 : mGw (.selects RX10 yX10_lacksCube yX10_lacksCube) := mGp (i := 85) (by decide +kernel) rfl
theorem mw_7_125 : mGw (.code yX10_lacksCube cX10_lacksCube 2 (some .int)) := mG7 (i := 125) (by decide +kernel) rfl
theorem hdV_X0_inCell : yX0_inCell.cls = RX0 ∧ yX0_inCell.cls ≠ "java/lang/invoke/MethodHandle" ∧ yX0_inCell.cls ≠ "java/lang/invoke/VarHandle" ∧ (parseMethodDescriptor yX0_inCell.desc).map (fun d => d.parameters.length) = some 1 := ⟨rfl, by decide +kernel, by decide +kernel, by decide +kernel⟩
theorem hdS_X9_levelOf : yX9_levelOf.cls ≠ "java/lang/invoke/MethodHandle" ∧ yX9_levelOf.cls ≠ "java/lang/invoke/VarHandle" ∧ (parseMethodDescriptor yX9_levelOf.desc).map (fun d => d.parameters.length) = some 1 := ⟨by decide +kernel, by decide +kernel, by decide +kernel⟩
theorem hdV_X0_has : yX0_has.cls = RX0 ∧ yX0_has.cls ≠ "java/lang/invoke/MethodHandle" ∧ yX0_has.cls ≠ "java/lang/invoke/VarHandle" ∧ (parseMethodDescriptor yX0_has.desc).map (fun d => d.parameters.length) = some 1 := ⟨rfl, by decide +kernel, by decide +kernel, by decide +kernel⟩
theorem hdV_X0_place : yX0_place.cls = RX0 ∧ yX0_place.cls ≠ "java/lang/invoke/MethodHandle" ∧ yX0_place.cls ≠ "java/lang/invoke/VarHandle" ∧ (parseMethodDescriptor yX0_place.desc).map (fun d => d.parameters.length) = some 3 := ⟨rfl, by decide +kernel, by decide +kernel, by decide +kernel⟩
theorem hdS_X9_onGrid : yX9_onGrid.cls ≠ "java/lang/invoke/MethodHandle" ∧ yX9_onGrid.cls ≠ "java/lang/invoke/VarHandle" ∧ (parseMethodDescriptor yX9_onGrid.desc).map (fun d => d.parameters.length) = some 2 := ⟨by decide +kernel, by decide +kernel, by decide +kernel⟩
theorem hdS_X9_cellOf : yX9_cellOf.cls ≠ "java/lang/invoke/MethodHandle" ∧ yX9_cellOf.cls ≠ "java/lang/invoke/VarHandle" ∧ (parseMethodDescriptor yX9_cellOf.desc).map (fun d => d.parameters.length) = some 2 := ⟨by decide +kernel, by decide +kernel, by decide +kernel⟩
theorem hdV_X0_holdsOn : yX0_holdsOn.cls = RX0 ∧ yX0_holdsOn.cls ≠ "java/lang/invoke/MethodHandle" ∧ yX0_holdsOn.cls ≠ "java/lang/invoke/VarHandle" ∧ (parseMethodDescriptor yX0_holdsOn.desc).map (fun d => d.parameters.length) = some 2 := ⟨rfl, by decide +kernel, by decide +kernel, by decide +kernel⟩
theorem hdV_X8_addCube : yX8_addCube.cls = RX8 ∧ yX8_addCube.cls ≠ "java/lang/invoke/MethodHandle" ∧ yX8_addCube.cls ≠ "java/lang/invoke/VarHandle" ∧ (parseMethodDescriptor yX8_addCube.desc).map (fun d => d.parameters.length) = some 3 := ⟨rfl, by decide +kernel, by decide +kernel, by decide +kernel⟩
theorem hdV_X0_hangs : yX0_hangs.cls = RX0 ∧ yX0_hangs.cls ≠ "java/lang/invoke/MethodHandle" ∧ yX0_hangs.cls ≠ "java/lang/invoke/VarHandle" ∧ (parseMethodDescriptor yX0_hangs.desc).map (fun d => d.parameters.length) = some 1 := ⟨rfl, by decide +kernel, by decide +kernel, by decide +kernel⟩
theorem hdV_X0_passOn : yX0_passOn.cls = RX0 ∧ yX0_passOn.cls ≠ "java/lang/invoke/MethodHandle" ∧ yX0_passOn.cls ≠ "java/lang/invoke/VarHandle" ∧ (parseMethodDescriptor yX0_passOn.desc).map (fun d => d.parameters.length) = some 2 := ⟨rfl, by decide +kernel, by decide +kernel, by decide +kernel⟩
theorem hdV_X0_passRowOn : yX0_passRowOn.cls = RX0 ∧ yX0_passRowOn.cls ≠ "java/lang/invoke/MethodHandle" ∧ yX0_passRowOn.cls ≠ "java/lang/invoke/VarHandle" ∧ (parseMethodDescriptor yX0_passRowOn.desc).map (fun d => d.parameters.length) = some 2 := ⟨rfl, by decide +kernel, by decide +kernel, by decide +kernel⟩
theorem hdV_X0_weigh : yX0_weigh.cls = RX0 ∧ yX0_weigh.cls ≠ "java/lang/invoke/MethodHandle" ∧ yX0_weigh.cls ≠ "java/lang/invoke/VarHandle" ∧ (parseMethodDescriptor yX0_weigh.desc).map (fun d => d.parameters.length) = some 0 := ⟨rfl, by decide +kernel, by decide +kernel, by decide +kernel⟩
theorem hdS_X9_oneIf : yX9_oneIf.cls ≠ "java/lang/invoke/MethodHandle" ∧ yX9_oneIf.cls ≠ "java/lang/invoke/VarHandle" ∧ (parseMethodDescriptor yX9_oneIf.desc).map (fun d => d.parameters.length) = some 1 := ⟨by decide +kernel, by decide +kernel, by decide +kernel⟩
theorem hdS_X9_columnOf : yX9_columnOf.cls ≠ "java/lang/invoke/MethodHandle" ∧ yX9_columnOf.cls ≠ "java/lang/invoke/VarHandle" ∧ (parseMethodDescriptor yX9_columnOf.desc).map (fun d => d.parameters.length) = some 1 := ⟨by decide +kernel, by decide +kernel, by decide +kernel⟩
theorem hdV_X0_loadOf : yX0_loadOf.cls = RX0 ∧ yX0_loadOf.cls ≠ "java/lang/invoke/MethodHandle" ∧ yX0_loadOf.cls ≠ "java/lang/invoke/VarHandle" ∧ (parseMethodDescriptor yX0_loadOf.desc).map (fun d => d.parameters.length) = some 1 := ⟨rfl, by decide +kernel, by decide +kernel, by decide +kernel⟩
theorem hdV_X2_note : yX2_note.cls = RX2 ∧ yX2_note.cls ≠ "java/lang/invoke/MethodHandle" ∧ yX2_note.cls ≠ "java/lang/invoke/VarHandle" ∧ (parseMethodDescriptor yX2_note.desc).map (fun d => d.parameters.length) = some 3 := ⟨rfl, by decide +kernel, by decide +kernel, by decide +kernel⟩
theorem hdV_X0_supports : yX0_supports.cls = RX0 ∧ yX0_supports.cls ≠ "java/lang/invoke/MethodHandle" ∧ yX0_supports.cls ≠ "java/lang/invoke/VarHandle" ∧ (parseMethodDescriptor yX0_supports.desc).map (fun d => d.parameters.length) = some 1 := ⟨rfl, by decide +kernel, by decide +kernel, by decide +kernel⟩
theorem hdV_X0_othersAreWhole : yX0_othersAreWhole.cls = RX0 ∧ yX0_othersAreWhole.cls ≠ "java/lang/invoke/MethodHandle" ∧ yX0_othersAreWhole.cls ≠ "java/lang/invoke/VarHandle" ∧ (parseMethodDescriptor yX0_othersAreWhole.desc).map (fun d => d.parameters.length) = some 1 := ⟨rfl, by decide +kernel, by decide +kernel, by decide +kernel⟩
theorem hdV_X0_turns : yX0_turns.cls = RX0 ∧ yX0_turns.cls ≠ "java/lang/invoke/MethodHandle" ∧ yX0_turns.cls ≠ "java/lang/invoke/VarHandle" ∧ (parseMethodDescriptor yX0_turns.desc).map (fun d => d.parameters.length) = some 2 := ⟨rfl, by decide +kernel, by decide +kernel, by decide +kernel⟩
theorem hdV_X0_slides : yX0_slides.cls = RX0 ∧ yX0_slides.cls ≠ "java/lang/invoke/MethodHandle" ∧ yX0_slides.cls ≠ "java/lang/invoke/VarHandle" ∧ (parseMethodDescriptor yX0_slides.desc).map (fun d => d.parameters.length) = some 2 := ⟨rfl, by decide +kernel, by decide +kernel, by decide +kernel⟩
theorem hdV_X0_isMove : yX0_isMove.cls = RX0 ∧ yX0_isMove.cls ≠ "java/lang/invoke/MethodHandle" ∧ yX0_isMove.cls ≠ "java/lang/invoke/VarHandle" ∧ (parseMethodDescriptor yX0_isMove.desc).map (fun d => d.parameters.length) = some 1 := ⟨rfl, by decide +kernel, by decide +kernel, by decide +kernel⟩
theorem hdV_X0_mayGo : yX0_mayGo.cls = RX0 ∧ yX0_mayGo.cls ≠ "java/lang/invoke/MethodHandle" ∧ yX0_mayGo.cls ≠ "java/lang/invoke/VarHandle" ∧ (parseMethodDescriptor yX0_mayGo.desc).map (fun d => d.parameters.length) = some 2 := ⟨rfl, by decide +kernel, by decide +kernel, by decide +kernel⟩
theorem hdV_X0_shift : yX0_shift.cls = RX0 ∧ yX0_shift.cls ≠ "java/lang/invoke/MethodHandle" ∧ yX0_shift.cls ≠ "java/lang/invoke/VarHandle" ∧ (parseMethodDescriptor yX0_shift.desc).map (fun d => d.parameters.length) = some 2 := ⟨rfl, by decide +kernel, by decide +kernel, by decide +kernel⟩
theorem hdV_X0_go : yX0_go.cls = RX0 ∧ yX0_go.cls ≠ "java/lang/invoke/MethodHandle" ∧ yX0_go.cls ≠ "java/lang/invoke/VarHandle" ∧ (parseMethodDescriptor yX0_go.desc).map (fun d => d.parameters.length) = some 2 := ⟨rfl, by decide +kernel, by decide +kernel, by decide +kernel⟩
theorem hdV_X6_isRow : yX6_isRow.cls = RX6 ∧ yX6_isRow.cls ≠ "java/lang/invoke/MethodHandle" ∧ yX6_isRow.cls ≠ "java/lang/invoke/VarHandle" ∧ (parseMethodDescriptor yX6_isRow.desc).map (fun d => d.parameters.length) = some 0 := ⟨rfl, by decide +kernel, by decide +kernel, by decide +kernel⟩
theorem hdU_X7_look : RX7 ≠ "java/lang/invoke/MethodHandle" ∧ RX7 ≠ "java/lang/invoke/VarHandle" ∧ (parseMethodDescriptor yX7_look.desc).map (fun d => d.parameters.length) = some 0 := ⟨by decide +kernel, by decide +kernel, by decide +kernel⟩
theorem hdU_X7_takeIf : RX7 ≠ "java/lang/invoke/MethodHandle" ∧ RX7 ≠ "java/lang/invoke/VarHandle" ∧ (parseMethodDescriptor yX7_takeIf.desc).map (fun d => d.parameters.length) = some 1 := ⟨by decide +kernel, by decide +kernel, by decide +kernel⟩
theorem hdU_X7_fail : RX7 ≠ "java/lang/invoke/MethodHandle" ∧ RX7 ≠ "java/lang/invoke/VarHandle" ∧ (parseMethodDescriptor yX7_fail.desc).map (fun d => d.parameters.length) = some 0 := ⟨by decide +kernel, by decide +kernel, by decide +kernel⟩
theorem hdU_X7_demandDigit : RX7 ≠ "java/lang/invoke/MethodHandle" ∧ RX7 ≠ "java/lang/invoke/VarHandle" ∧ (parseMethodDescriptor yX7_demandDigit.desc).map (fun d => d.parameters.length) = some 2 := ⟨by decide +kernel, by decide +kernel, by decide +kernel⟩
theorem hdU_X7_atEnd : RX7 ≠ "java/lang/invoke/MethodHandle" ∧ RX7 ≠ "java/lang/invoke/VarHandle" ∧ (parseMethodDescriptor yX7_atEnd.desc).map (fun d => d.parameters.length) = some 0 := ⟨by decide +kernel, by decide +kernel, by decide +kernel⟩
theorem hdV_X5_readBox : yX5_readBox.cls = RX5 ∧ yX5_readBox.cls ≠ "java/lang/invoke/MethodHandle" ∧ yX5_readBox.cls ≠ "java/lang/invoke/VarHandle" ∧ (parseMethodDescriptor yX5_readBox.desc).map (fun d => d.parameters.length) = some 2 := ⟨rfl, by decide +kernel, by decide +kernel, by decide +kernel⟩
theorem hdV_X5_readParts : yX5_readParts.cls = RX5 ∧ yX5_readParts.cls ≠ "java/lang/invoke/MethodHandle" ∧ yX5_readParts.cls ≠ "java/lang/invoke/VarHandle" ∧ (parseMethodDescriptor yX5_readParts.desc).map (fun d => d.parameters.length) = some 2 := ⟨rfl, by decide +kernel, by decide +kernel, by decide +kernel⟩
theorem hdU_X7_demand : RX7 ≠ "java/lang/invoke/MethodHandle" ∧ RX7 ≠ "java/lang/invoke/VarHandle" ∧ (parseMethodDescriptor yX7_demand.desc).map (fun d => d.parameters.length) = some 1 := ⟨by decide +kernel, by decide +kernel, by decide +kernel⟩
theorem hdV_X5_readBoxOrBracket : yX5_readBoxOrBracket.cls = RX5 ∧ yX5_readBoxOrBracket.cls ≠ "java/lang/invoke/MethodHandle" ∧ yX5_readBoxOrBracket.cls ≠ "java/lang/invoke/VarHandle" ∧ (parseMethodDescriptor yX5_readBoxOrBracket.desc).map (fun d => d.parameters.length) = some 2 := ⟨rfl, by decide +kernel, by decide +kernel, by decide +kernel⟩
theorem hdU_X7_take : RX7 ≠ "java/lang/invoke/MethodHandle" ∧ RX7 ≠ "java/lang/invoke/VarHandle" ∧ (parseMethodDescriptor yX7_take.desc).map (fun d => d.parameters.length) = some 0 := ⟨by decide +kernel, by decide +kernel, by decide +kernel⟩
theorem hdV_X5_readPart : yX5_readPart.cls = RX5 ∧ yX5_readPart.cls ≠ "java/lang/invoke/MethodHandle" ∧ yX5_readPart.cls ≠ "java/lang/invoke/VarHandle" ∧ (parseMethodDescriptor yX5_readPart.desc).map (fun d => d.parameters.length) = some 2 := ⟨rfl, by decide +kernel, by decide +kernel, by decide +kernel⟩
theorem hdU_X7_isPlusOrMinus : RX7 ≠ "java/lang/invoke/MethodHandle" ∧ RX7 ≠ "java/lang/invoke/VarHandle" ∧ (parseMethodDescriptor yX7_isPlusOrMinus.desc).map (fun d => d.parameters.length) = some 0 := ⟨by decide +kernel, by decide +kernel, by decide +kernel⟩
theorem hdU_X7_open : RX7 ≠ "java/lang/invoke/MethodHandle" ∧ RX7 ≠ "java/lang/invoke/VarHandle" ∧ (parseMethodDescriptor yX7_open.desc).map (fun d => d.parameters.length) = some 2 := ⟨by decide +kernel, by decide +kernel, by decide +kernel⟩
theorem hdU_X7_failUnlessAtEnd : RX7 ≠ "java/lang/invoke/MethodHandle" ∧ RX7 ≠ "java/lang/invoke/VarHandle" ∧ (parseMethodDescriptor yX7_failUnlessAtEnd.desc).map (fun d => d.parameters.length) = some 0 := ⟨by decide +kernel, by decide +kernel, by decide +kernel⟩
theorem hdU_X7_isDigit : RX7 ≠ "java/lang/invoke/MethodHandle" ∧ RX7 ≠ "java/lang/invoke/VarHandle" ∧ (parseMethodDescriptor yX7_isDigit.desc).map (fun d => d.parameters.length) = some 0 := ⟨by decide +kernel, by decide +kernel, by decide +kernel⟩
theorem hdS_X4_isField : yX4_isField.cls ≠ "java/lang/invoke/MethodHandle" ∧ yX4_isField.cls ≠ "java/lang/invoke/VarHandle" ∧ (parseMethodDescriptor yX4_isField.desc).map (fun d => d.parameters.length) = some 1 := ⟨by decide +kernel, by decide +kernel, by decide +kernel⟩
theorem hdV_X4_readAtom : yX4_readAtom.cls = RX4 ∧ yX4_readAtom.cls ≠ "java/lang/invoke/MethodHandle" ∧ yX4_readAtom.cls ≠ "java/lang/invoke/VarHandle" ∧ (parseMethodDescriptor yX4_readAtom.desc).map (fun d => d.parameters.length) = some 0 := ⟨rfl, by decide +kernel, by decide +kernel, by decide +kernel⟩
theorem hdV_X4_readSum : yX4_readSum.cls = RX4 ∧ yX4_readSum.cls ≠ "java/lang/invoke/MethodHandle" ∧ yX4_readSum.cls ≠ "java/lang/invoke/VarHandle" ∧ (parseMethodDescriptor yX4_readSum.desc).map (fun d => d.parameters.length) = some 0 := ⟨rfl, by decide +kernel, by decide +kernel, by decide +kernel⟩
theorem hdV_X4_readAct : yX4_readAct.cls = RX4 ∧ yX4_readAct.cls ≠ "java/lang/invoke/MethodHandle" ∧ yX4_readAct.cls ≠ "java/lang/invoke/VarHandle" ∧ (parseMethodDescriptor yX4_readAct.desc).map (fun d => d.parameters.length) = some 0 := ⟨rfl, by decide +kernel, by decide +kernel, by decide +kernel⟩
theorem hdV_X4_readCheck : yX4_readCheck.cls = RX4 ∧ yX4_readCheck.cls ≠ "java/lang/invoke/MethodHandle" ∧ yX4_readCheck.cls ≠ "java/lang/invoke/VarHandle" ∧ (parseMethodDescriptor yX4_readCheck.desc).map (fun d => d.parameters.length) = some 0 := ⟨rfl, by decide +kernel, by decide +kernel, by decide +kernel⟩
theorem hdV_X4_readRule : yX4_readRule.cls = RX4 ∧ yX4_readRule.cls ≠ "java/lang/invoke/MethodHandle" ∧ yX4_readRule.cls ≠ "java/lang/invoke/VarHandle" ∧ (parseMethodDescriptor yX4_readRule.desc).map (fun d => d.parameters.length) = some 0 := ⟨rfl, by decide +kernel, by decide +kernel, by decide +kernel⟩
theorem hdS_X9_isShelf : yX9_isShelf.cls ≠ "java/lang/invoke/MethodHandle" ∧ yX9_isShelf.cls ≠ "java/lang/invoke/VarHandle" ∧ (parseMethodDescriptor yX9_isShelf.desc).map (fun d => d.parameters.length) = some 1 := ⟨by decide +kernel, by decide +kernel, by decide +kernel⟩
theorem hdV_X6_refusalOfRow : yX6_refusalOfRow.cls = RX6 ∧ yX6_refusalOfRow.cls ≠ "java/lang/invoke/MethodHandle" ∧ yX6_refusalOfRow.cls ≠ "java/lang/invoke/VarHandle" ∧ (parseMethodDescriptor yX6_refusalOfRow.desc).map (fun d => d.parameters.length) = some 1 := ⟨rfl, by decide +kernel, by decide +kernel, by decide +kernel⟩
theorem hdV_X4_check : yX4_check.cls = RX4 ∧ yX4_check.cls ≠ "java/lang/invoke/MethodHandle" ∧ yX4_check.cls ≠ "java/lang/invoke/VarHandle" ∧ (parseMethodDescriptor yX4_check.desc).map (fun d => d.parameters.length) = some 1 := ⟨rfl, by decide +kernel, by decide +kernel, by decide +kernel⟩
theorem hdU_X7_isFaulty : RX7 ≠ "java/lang/invoke/MethodHandle" ∧ RX7 ≠ "java/lang/invoke/VarHandle" ∧ (parseMethodDescriptor yX7_isFaulty.desc).map (fun d => d.parameters.length) = some 0 := ⟨by decide +kernel, by decide +kernel, by decide +kernel⟩
theorem hdU_X7_faultPlace : RX7 ≠ "java/lang/invoke/MethodHandle" ∧ RX7 ≠ "java/lang/invoke/VarHandle" ∧ (parseMethodDescriptor yX7_faultPlace.desc).map (fun d => d.parameters.length) = some 0 := ⟨by decide +kernel, by decide +kernel, by decide +kernel⟩
theorem hdV_X5_cellsOf : yX5_cellsOf.cls = RX5 ∧ yX5_cellsOf.cls ≠ "java/lang/invoke/MethodHandle" ∧ yX5_cellsOf.cls ≠ "java/lang/invoke/VarHandle" ∧ (parseMethodDescriptor yX5_cellsOf.desc).map (fun d => d.parameters.length) = some 2 := ⟨rfl, by decide +kernel, by decide +kernel, by decide +kernel⟩
theorem hdV_X8_addShape : yX8_addShape.cls = RX8 ∧ yX8_addShape.cls ≠ "java/lang/invoke/MethodHandle" ∧ yX8_addShape.cls ≠ "java/lang/invoke/VarHandle" ∧ (parseMethodDescriptor yX8_addShape.desc).map (fun d => d.parameters.length) = some 2 := ⟨rfl, by decide +kernel, by decide +kernel, by decide +kernel⟩
theorem hdV_X8_hasShape : yX8_hasShape.cls = RX8 ∧ yX8_hasShape.cls ≠ "java/lang/invoke/MethodHandle" ∧ yX8_hasShape.cls ≠ "java/lang/invoke/VarHandle" ∧ (parseMethodDescriptor yX8_hasShape.desc).map (fun d => d.parameters.length) = some 1 := ⟨rfl, by decide +kernel, by decide +kernel, by decide +kernel⟩
theorem hdV_X8_shapeHolds : yX8_shapeHolds.cls = RX8 ∧ yX8_shapeHolds.cls ≠ "java/lang/invoke/MethodHandle" ∧ yX8_shapeHolds.cls ≠ "java/lang/invoke/VarHandle" ∧ (parseMethodDescriptor yX8_shapeHolds.desc).map (fun d => d.parameters.length) = some 3 := ⟨rfl, by decide +kernel, by decide +kernel, by decide +kernel⟩
theorem hdS_J13_bitCount_95d88 : yJ13_bitCount_95d88.cls ≠ "java/lang/invoke/MethodHandle" ∧ yJ13_bitCount_95d88.cls ≠ "java/lang/invoke/VarHandle" ∧ (parseMethodDescriptor yJ13_bitCount_95d88.desc).map (fun d => d.parameters.length) = some 1 := ⟨by decide +kernel, by decide +kernel, by decide +kernel⟩
theorem hdV_X8_cellsInShape : yX8_cellsInShape.cls = RX8 ∧ yX8_cellsInShape.cls ≠ "java/lang/invoke/MethodHandle" ∧ yX8_cellsInShape.cls ≠ "java/lang/invoke/VarHandle" ∧ (parseMethodDescriptor yX8_cellsInShape.desc).map (fun d => d.parameters.length) = some 1 := ⟨rfl, by decide +kernel, by decide +kernel, by decide +kernel⟩
theorem hdV_X8_outsideShape : yX8_outsideShape.cls = RX8 ∧ yX8_outsideShape.cls ≠ "java/lang/invoke/MethodHandle" ∧ yX8_outsideShape.cls ≠ "java/lang/invoke/VarHandle" ∧ (parseMethodDescriptor yX8_outsideShape.desc).map (fun d => d.parameters.length) = some 1 := ⟨rfl, by decide +kernel, by decide +kernel, by decide +kernel⟩
theorem hdV_X8_emptyInShape : yX8_emptyInShape.cls = RX8 ∧ yX8_emptyInShape.cls ≠ "java/lang/invoke/MethodHandle" ∧ yX8_emptyInShape.cls ≠ "java/lang/invoke/VarHandle" ∧ (parseMethodDescriptor yX8_emptyInShape.desc).map (fun d => d.parameters.length) = some 1 := ⟨rfl, by decide +kernel, by decide +kernel, by decide +kernel⟩
theorem hdV_X3_isWanted : yX3_isWanted.cls = RX3 ∧ yX3_isWanted.cls ≠ "java/lang/invoke/MethodHandle" ∧ yX3_isWanted.cls ≠ "java/lang/invoke/VarHandle" ∧ (parseMethodDescriptor yX3_isWanted.desc).map (fun d => d.parameters.length) = some 1 := ⟨rfl, by decide +kernel, by decide +kernel, by decide +kernel⟩
theorem hdV_X3_emptyBehind : yX3_emptyBehind.cls = RX3 ∧ yX3_emptyBehind.cls ≠ "java/lang/invoke/MethodHandle" ∧ yX3_emptyBehind.cls ≠ "java/lang/invoke/VarHandle" ∧ (parseMethodDescriptor yX3_emptyBehind.desc).map (fun d => d.parameters.length) = some 3 := ⟨rfl, by decide +kernel, by decide +kernel, by decide +kernel⟩
theorem hdV_X3_completes : yX3_completes.cls = RX3 ∧ yX3_completes.cls ≠ "java/lang/invoke/MethodHandle" ∧ yX3_completes.cls ≠ "java/lang/invoke/VarHandle" ∧ (parseMethodDescriptor yX3_completes.desc).map (fun d => d.parameters.length) = some 3 := ⟨rfl, by decide +kernel, by decide +kernel, by decide +kernel⟩
theorem hdV_X0_goBack : yX0_goBack.cls = RX0 ∧ yX0_goBack.cls ≠ "java/lang/invoke/MethodHandle" ∧ yX0_goBack.cls ≠ "java/lang/invoke/VarHandle" ∧ (parseMethodDescriptor yX0_goBack.desc).map (fun d => d.parameters.length) = some 2 := ⟨rfl, by decide +kernel, by decide +kernel, by decide +kernel⟩
theorem hdV_X0_copyFrom : yX0_copyFrom.cls = RX0 ∧ yX0_copyFrom.cls ≠ "java/lang/invoke/MethodHandle" ∧ yX0_copyFrom.cls ≠ "java/lang/invoke/VarHandle" ∧ (parseMethodDescriptor yX0_copyFrom.desc).map (fun d => d.parameters.length) = some 1 := ⟨rfl, by decide +kernel, by decide +kernel, by decide +kernel⟩
theorem hdV_X3_find : yX3_find.cls = RX3 ∧ yX3_find.cls ≠ "java/lang/invoke/MethodHandle" ∧ yX3_find.cls ≠ "java/lang/invoke/VarHandle" ∧ (parseMethodDescriptor yX3_find.desc).map (fun d => d.parameters.length) = some 3 := ⟨rfl, by decide +kernel, by decide +kernel, by decide +kernel⟩
theorem hdV_X3_moveOf : yX3_moveOf.cls = RX3 ∧ yX3_moveOf.cls ≠ "java/lang/invoke/MethodHandle" ∧ yX3_moveOf.cls ≠ "java/lang/invoke/VarHandle" ∧ (parseMethodDescriptor yX3_moveOf.desc).map (fun d => d.parameters.length) = some 1 := ⟨rfl, by decide +kernel, by decide +kernel, by decide +kernel⟩
theorem hdV_X8_addProgram : yX8_addProgram.cls = RX8 ∧ yX8_addProgram.cls ≠ "java/lang/invoke/MethodHandle" ∧ yX8_addProgram.cls ≠ "java/lang/invoke/VarHandle" ∧ (parseMethodDescriptor yX8_addProgram.desc).map (fun d => d.parameters.length) = some 1 := ⟨rfl, by decide +kernel, by decide +kernel, by decide +kernel⟩
theorem hdV_X1_beside : yX1_beside.cls = RX1 ∧ yX1_beside.cls ≠ "java/lang/invoke/MethodHandle" ∧ yX1_beside.cls ≠ "java/lang/invoke/VarHandle" ∧ (parseMethodDescriptor yX1_beside.desc).map (fun d => d.parameters.length) = some 2 := ⟨rfl, by decide +kernel, by decide +kernel, by decide +kernel⟩
theorem hdV_X1_heardFrom : yX1_heardFrom.cls = RX1 ∧ yX1_heardFrom.cls ≠ "java/lang/invoke/MethodHandle" ∧ yX1_heardFrom.cls ≠ "java/lang/invoke/VarHandle" ∧ (parseMethodDescriptor yX1_heardFrom.desc).map (fun d => d.parameters.length) = some 1 := ⟨rfl, by decide +kernel, by decide +kernel, by decide +kernel⟩
theorem hdV_X1_value : yX1_value.cls = RX1 ∧ yX1_value.cls ≠ "java/lang/invoke/MethodHandle" ∧ yX1_value.cls ≠ "java/lang/invoke/VarHandle" ∧ (parseMethodDescriptor yX1_value.desc).map (fun d => d.parameters.length) = some 1 := ⟨rfl, by decide +kernel, by decide +kernel, by decide +kernel⟩
theorem hdV_X1_addUp : yX1_addUp.cls = RX1 ∧ yX1_addUp.cls ≠ "java/lang/invoke/MethodHandle" ∧ yX1_addUp.cls ≠ "java/lang/invoke/VarHandle" ∧ (parseMethodDescriptor yX1_addUp.desc).map (fun d => d.parameters.length) = some 1 := ⟨rfl, by decide +kernel, by decide +kernel, by decide +kernel⟩
theorem hdV_X1_testHolds : yX1_testHolds.cls = RX1 ∧ yX1_testHolds.cls ≠ "java/lang/invoke/MethodHandle" ∧ yX1_testHolds.cls ≠ "java/lang/invoke/VarHandle" ∧ (parseMethodDescriptor yX1_testHolds.desc).map (fun d => d.parameters.length) = some 1 := ⟨rfl, by decide +kernel, by decide +kernel, by decide +kernel⟩
theorem hdV_X1_passRule : yX1_passRule.cls = RX1 ∧ yX1_passRule.cls ≠ "java/lang/invoke/MethodHandle" ∧ yX1_passRule.cls ≠ "java/lang/invoke/VarHandle" ∧ (parseMethodDescriptor yX1_passRule.desc).map (fun d => d.parameters.length) = some 0 := ⟨rfl, by decide +kernel, by decide +kernel, by decide +kernel⟩
theorem hdV_X8_isRunning : yX8_isRunning.cls = RX8 ∧ yX8_isRunning.cls ≠ "java/lang/invoke/MethodHandle" ∧ yX8_isRunning.cls ≠ "java/lang/invoke/VarHandle" ∧ (parseMethodDescriptor yX8_isRunning.desc).map (fun d => d.parameters.length) = some 1 := ⟨rfl, by decide +kernel, by decide +kernel, by decide +kernel⟩
theorem hdV_X1_chooseRule : yX1_chooseRule.cls = RX1 ∧ yX1_chooseRule.cls ≠ "java/lang/invoke/MethodHandle" ∧ yX1_chooseRule.cls ≠ "java/lang/invoke/VarHandle" ∧ (parseMethodDescriptor yX1_chooseRule.desc).map (fun d => d.parameters.length) = some 1 := ⟨rfl, by decide +kernel, by decide +kernel, by decide +kernel⟩
theorem hdS_J9_floorMod_7cf53 : yJ9_floorMod_7cf53.cls ≠ "java/lang/invoke/MethodHandle" ∧ yJ9_floorMod_7cf53.cls ≠ "java/lang/invoke/VarHandle" ∧ (parseMethodDescriptor yJ9_floorMod_7cf53.desc).map (fun d => d.parameters.length) = some 2 := ⟨by decide +kernel, by decide +kernel, by decide +kernel⟩
theorem hdV_X1_goIfItCan : yX1_goIfItCan.cls = RX1 ∧ yX1_goIfItCan.cls ≠ "java/lang/invoke/MethodHandle" ∧ yX1_goIfItCan.cls ≠ "java/lang/invoke/VarHandle" ∧ (parseMethodDescriptor yX1_goIfItCan.desc).map (fun d => d.parameters.length) = some 2 := ⟨rfl, by decide +kernel, by decide +kernel, by decide +kernel⟩
theorem hdV_X1_act : yX1_act.cls = RX1 ∧ yX1_act.cls ≠ "java/lang/invoke/MethodHandle" ∧ yX1_act.cls ≠ "java/lang/invoke/VarHandle" ∧ (parseMethodDescriptor yX1_act.desc).map (fun d => d.parameters.length) = some 1 := ⟨rfl, by decide +kernel, by decide +kernel, by decide +kernel⟩
theorem hdV_X8_poorestBeside : yX8_poorestBeside.cls = RX8 ∧ yX8_poorestBeside.cls ≠ "java/lang/invoke/MethodHandle" ∧ yX8_poorestBeside.cls ≠ "java/lang/invoke/VarHandle" ∧ (parseMethodDescriptor yX8_poorestBeside.desc).map (fun d => d.parameters.length) = some 1 := ⟨rfl, by decide +kernel, by decide +kernel, by decide +kernel⟩
theorem hdV_X1_runAll : yX1_runAll.cls = RX1 ∧ yX1_runAll.cls ≠ "java/lang/invoke/MethodHandle" ∧ yX1_runAll.cls ≠ "java/lang/invoke/VarHandle" ∧ (parseMethodDescriptor yX1_runAll.desc).map (fun d => d.parameters.length) = some 0 := ⟨rfl, by decide +kernel, by decide +kernel, by decide +kernel⟩
theorem hdV_X8_sharePower : yX8_sharePower.cls = RX8 ∧ yX8_sharePower.cls ≠ "java/lang/invoke/MethodHandle" ∧ yX8_sharePower.cls ≠ "java/lang/invoke/VarHandle" ∧ (parseMethodDescriptor yX8_sharePower.desc).map (fun d => d.parameters.length) = some 0 := ⟨rfl, by decide +kernel, by decide +kernel, by decide +kernel⟩
theorem hdV_X8_endTick : yX8_endTick.cls = RX8 ∧ yX8_endTick.cls ≠ "java/lang/invoke/MethodHandle" ∧ yX8_endTick.cls ≠ "java/lang/invoke/VarHandle" ∧ (parseMethodDescriptor yX8_endTick.desc).map (fun d => d.parameters.length) = some 0 := ⟨rfl, by decide +kernel, by decide +kernel, by decide +kernel⟩
theorem hdV_X8_isTick : yX8_isTick.cls = RX8 ∧ yX8_isTick.cls ≠ "java/lang/invoke/MethodHandle" ∧ yX8_isTick.cls ≠ "java/lang/invoke/VarHandle" ∧ (parseMethodDescriptor yX8_isTick.desc).map (fun d => d.parameters.length) = some 1 := ⟨rfl, by decide +kernel, by decide +kernel, by decide +kernel⟩
theorem hdV_X8_mayBelieve : yX8_mayBelieve.cls = RX8 ∧ yX8_mayBelieve.cls ≠ "java/lang/invoke/MethodHandle" ∧ yX8_mayBelieve.cls ≠ "java/lang/invoke/VarHandle" ∧ (parseMethodDescriptor yX8_mayBelieve.desc).map (fun d => d.parameters.length) = some 1 := ⟨rfl, by decide +kernel, by decide +kernel, by decide +kernel⟩
theorem hdV_X2_firstOf : yX2_firstOf.cls = RX2 ∧ yX2_firstOf.cls ≠ "java/lang/invoke/MethodHandle" ∧ yX2_firstOf.cls ≠ "java/lang/invoke/VarHandle" ∧ (parseMethodDescriptor yX2_firstOf.desc).map (fun d => d.parameters.length) = some 1 := ⟨rfl, by decide +kernel, by decide +kernel, by decide +kernel⟩
theorem hdV_X2_tellDead : yX2_tellDead.cls = RX2 ∧ yX2_tellDead.cls ≠ "java/lang/invoke/MethodHandle" ∧ yX2_tellDead.cls ≠ "java/lang/invoke/VarHandle" ∧ (parseMethodDescriptor yX2_tellDead.desc).map (fun d => d.parameters.length) = some 3 := ⟨rfl, by decide +kernel, by decide +kernel, by decide +kernel⟩
theorem hdV_X2_nextNoted : yX2_nextNoted.cls = RX2 ∧ yX2_nextNoted.cls ≠ "java/lang/invoke/MethodHandle" ∧ yX2_nextNoted.cls ≠ "java/lang/invoke/VarHandle" ∧ (parseMethodDescriptor yX2_nextNoted.desc).map (fun d => d.parameters.length) = some 3 := ⟨rfl, by decide +kernel, by decide +kernel, by decide +kernel⟩
theorem hdV_X8_wrongTicks : yX8_wrongTicks.cls = RX8 ∧ yX8_wrongTicks.cls ≠ "java/lang/invoke/MethodHandle" ∧ yX8_wrongTicks.cls ≠ "java/lang/invoke/VarHandle" ∧ (parseMethodDescriptor yX8_wrongTicks.desc).map (fun d => d.parameters.length) = some 2 := ⟨rfl, by decide +kernel, by decide +kernel, by decide +kernel⟩
theorem hdV_X2_copyFrom : yX2_copyFrom.cls = RX2 ∧ yX2_copyFrom.cls ≠ "java/lang/invoke/MethodHandle" ∧ yX2_copyFrom.cls ≠ "java/lang/invoke/VarHandle" ∧ (parseMethodDescriptor yX2_copyFrom.desc).map (fun d => d.parameters.length) = some 1 := ⟨rfl, by decide +kernel, by decide +kernel, by decide +kernel⟩
theorem hdV_X8_copyFrom : yX8_copyFrom.cls = RX8 ∧ yX8_copyFrom.cls ≠ "java/lang/invoke/MethodHandle" ∧ yX8_copyFrom.cls ≠ "java/lang/invoke/VarHandle" ∧ (parseMethodDescriptor yX8_copyFrom.desc).map (fun d => d.parameters.length) = some 1 := ⟨rfl, by decide +kernel, by decide +kernel, by decide +kernel⟩
theorem hdV_X0_countDead : yX0_countDead.cls = RX0 ∧ yX0_countDead.cls ≠ "java/lang/invoke/MethodHandle" ∧ yX0_countDead.cls ≠ "java/lang/invoke/VarHandle" ∧ (parseMethodDescriptor yX0_countDead.desc).map (fun d => d.parameters.length) = some 0 := ⟨rfl, by decide +kernel, by decide +kernel, by decide +kernel⟩
theorem hdV_X0_wholePower : yX0_wholePower.cls = RX0 ∧ yX0_wholePower.cls ≠ "java/lang/invoke/MethodHandle" ∧ yX0_wholePower.cls ≠ "java/lang/invoke/VarHandle" ∧ (parseMethodDescriptor yX0_wholePower.desc).map (fun d => d.parameters.length) = some 0 := ⟨rfl, by decide +kernel, by decide +kernel, by decide +kernel⟩
theorem hdV_X0_wholeWeight : yX0_wholeWeight.cls = RX0 ∧ yX0_wholeWeight.cls ≠ "java/lang/invoke/MethodHandle" ∧ yX0_wholeWeight.cls ≠ "java/lang/invoke/VarHandle" ∧ (parseMethodDescriptor yX0_wholeWeight.desc).map (fun d => d.parameters.length) = some 0 := ⟨rfl, by decide +kernel, by decide +kernel, by decide +kernel⟩
theorem hdV_X6_hold : yX6_hold.cls = RX6 ∧ yX6_hold.cls ≠ "java/lang/invoke/MethodHandle" ∧ yX6_hold.cls ≠ "java/lang/invoke/VarHandle" ∧ (parseMethodDescriptor yX6_hold.desc).map (fun d => d.parameters.length) = some 1 := ⟨rfl, by decide +kernel, by decide +kernel, by decide +kernel⟩
theorem hdV_X6_holdCube : yX6_holdCube.cls = RX6 ∧ yX6_holdCube.cls ≠ "java/lang/invoke/MethodHandle" ∧ yX6_holdCube.cls ≠ "java/lang/invoke/VarHandle" ∧ (parseMethodDescriptor yX6_holdCube.desc).map (fun d => d.parameters.length) = some 2 := ⟨rfl, by decide +kernel, by decide +kernel, by decide +kernel⟩
theorem hdV_X6_holdRow : yX6_holdRow.cls = RX6 ∧ yX6_holdRow.cls ≠ "java/lang/invoke/MethodHandle" ∧ yX6_holdRow.cls ≠ "java/lang/invoke/VarHandle" ∧ (parseMethodDescriptor yX6_holdRow.desc).map (fun d => d.parameters.length) = some 2 := ⟨rfl, by decide +kernel, by decide +kernel, by decide +kernel⟩
theorem hdV_X6_hasPlace : yX6_hasPlace.cls = RX6 ∧ yX6_hasPlace.cls ≠ "java/lang/invoke/MethodHandle" ∧ yX6_hasPlace.cls ≠ "java/lang/invoke/VarHandle" ∧ (parseMethodDescriptor yX6_hasPlace.desc).map (fun d => d.parameters.length) = some 1 := ⟨rfl, by decide +kernel, by decide +kernel, by decide +kernel⟩
theorem hdV_X6_lowestBits : yX6_lowestBits.cls = RX6 ∧ yX6_lowestBits.cls ≠ "java/lang/invoke/MethodHandle" ∧ yX6_lowestBits.cls ≠ "java/lang/invoke/VarHandle" ∧ (parseMethodDescriptor yX6_lowestBits.desc).map (fun d => d.parameters.length) = some 1 := ⟨rfl, by decide +kernel, by decide +kernel, by decide +kernel⟩
theorem hdV_X6_hasPlaces : yX6_hasPlaces.cls = RX6 ∧ yX6_hasPlaces.cls ≠ "java/lang/invoke/MethodHandle" ∧ yX6_hasPlaces.cls ≠ "java/lang/invoke/VarHandle" ∧ (parseMethodDescriptor yX6_hasPlaces.desc).map (fun d => d.parameters.length) = some 2 := ⟨rfl, by decide +kernel, by decide +kernel, by decide +kernel⟩
theorem hdV_X6_refusalOfCube : yX6_refusalOfCube.cls = RX6 ∧ yX6_refusalOfCube.cls ≠ "java/lang/invoke/MethodHandle" ∧ yX6_refusalOfCube.cls ≠ "java/lang/invoke/VarHandle" ∧ (parseMethodDescriptor yX6_refusalOfCube.desc).map (fun d => d.parameters.length) = some 0 := ⟨rfl, by decide +kernel, by decide +kernel, by decide +kernel⟩
theorem hdV_X6_sumOfCube : yX6_sumOfCube.cls = RX6 ∧ yX6_sumOfCube.cls ≠ "java/lang/invoke/MethodHandle" ∧ yX6_sumOfCube.cls ≠ "java/lang/invoke/VarHandle" ∧ (parseMethodDescriptor yX6_sumOfCube.desc).map (fun d => d.parameters.length) = some 0 := ⟨rfl, by decide +kernel, by decide +kernel, by decide +kernel⟩
theorem hdV_X10_is : yX10_is.cls = RX10 ∧ yX10_is.cls ≠ "java/lang/invoke/MethodHandle" ∧ yX10_is.cls ≠ "java/lang/invoke/VarHandle" ∧ (parseMethodDescriptor yX10_is.desc).map (fun d => d.parameters.length) = some 3 := ⟨rfl, by decide +kernel, by decide +kernel, by decide +kernel⟩
theorem hdV_X10_isCell : yX10_isCell.cls = RX10 ∧ yX10_isCell.cls ≠ "java/lang/invoke/MethodHandle" ∧ yX10_isCell.cls ≠ "java/lang/invoke/VarHandle" ∧ (parseMethodDescriptor yX10_isCell.desc).map (fun d => d.parameters.length) = some 2 := ⟨rfl, by decide +kernel, by decide +kernel, by decide +kernel⟩
theorem hdV_X10_cubeAt : yX10_cubeAt.cls = RX10 ∧ yX10_cubeAt.cls ≠ "java/lang/invoke/MethodHandle" ∧ yX10_cubeAt.cls ≠ "java/lang/invoke/VarHandle" ∧ (parseMethodDescriptor yX10_cubeAt.desc).map (fun d => d.parameters.length) = some 2 := ⟨rfl, by decide +kernel, by decide +kernel, by decide +kernel⟩
theorem hdV_X10_bitAt : yX10_bitAt.cls = RX10 ∧ yX10_bitAt.cls ≠ "java/lang/invoke/MethodHandle" ∧ yX10_bitAt.cls ≠ "java/lang/invoke/VarHandle" ∧ (parseMethodDescriptor yX10_bitAt.desc).map (fun d => d.parameters.length) = some 2 := ⟨rfl, by decide +kernel, by decide +kernel, by decide +kernel⟩
theorem hdV_X10_besides : yX10_besides.cls = RX10 ∧ yX10_besides.cls ≠ "java/lang/invoke/MethodHandle" ∧ yX10_besides.cls ≠ "java/lang/invoke/VarHandle" ∧ (parseMethodDescriptor yX10_besides.desc).map (fun d => d.parameters.length) = some 1 := ⟨rfl, by decide +kernel, by decide +kernel, by decide +kernel⟩
theorem hdV_X10_everyone : yX10_everyone.cls = RX10 ∧ yX10_everyone.cls ≠ "java/lang/invoke/MethodHandle" ∧ yX10_everyone.cls ≠ "java/lang/invoke/VarHandle" ∧ (parseMethodDescriptor yX10_everyone.desc).map (fun d => d.parameters.length) = some 0 := ⟨rfl, by decide +kernel, by decide +kernel, by decide +kernel⟩
theorem hdV_X10_isWhole : yX10_isWhole.cls = RX10 ∧ yX10_isWhole.cls ≠ "java/lang/invoke/MethodHandle" ∧ yX10_isWhole.cls ≠ "java/lang/invoke/VarHandle" ∧ (parseMethodDescriptor yX10_isWhole.desc).map (fun d => d.parameters.length) = some 1 := ⟨rfl, by decide +kernel, by decide +kernel, by decide +kernel⟩
theorem hdV_X10_weightOf : yX10_weightOf.cls = RX10 ∧ yX10_weightOf.cls ≠ "java/lang/invoke/MethodHandle" ∧ yX10_weightOf.cls ≠ "java/lang/invoke/VarHandle" ∧ (parseMethodDescriptor yX10_weightOf.desc).map (fun d => d.parameters.length) = some 1 := ⟨rfl, by decide +kernel, by decide +kernel, by decide +kernel⟩
theorem hdV_X10_givesOn : yX10_givesOn.cls = RX10 ∧ yX10_givesOn.cls ≠ "java/lang/invoke/MethodHandle" ∧ yX10_givesOn.cls ≠ "java/lang/invoke/VarHandle" ∧ (parseMethodDescriptor yX10_givesOn.desc).map (fun d => d.parameters.length) = some 1 := ⟨rfl, by decide +kernel, by decide +kernel, by decide +kernel⟩
theorem hdV_X10_hangs : yX10_hangs.cls = RX10 ∧ yX10_hangs.cls ≠ "java/lang/invoke/MethodHandle" ∧ yX10_hangs.cls ≠ "java/lang/invoke/VarHandle" ∧ (parseMethodDescriptor yX10_hangs.desc).map (fun d => d.parameters.length) = some 1 := ⟨rfl, by decide +kernel, by decide +kernel, by decide +kernel⟩
theorem hdV_X10_bearsOf : yX10_bearsOf.cls = RX10 ∧ yX10_bearsOf.cls ≠ "java/lang/invoke/MethodHandle" ∧ yX10_bearsOf.cls ≠ "java/lang/invoke/VarHandle" ∧ (parseMethodDescriptor yX10_bearsOf.desc).map (fun d => d.parameters.length) = some 1 := ⟨rfl, by decide +kernel, by decide +kernel, by decide +kernel⟩
theorem hdV_X10_isCube : yX10_isCube.cls = RX10 ∧ yX10_isCube.cls ≠ "java/lang/invoke/MethodHandle" ∧ yX10_isCube.cls ≠ "java/lang/invoke/VarHandle" ∧ (parseMethodDescriptor yX10_isCube.desc).map (fun d => d.parameters.length) = some 1 := ⟨rfl, by decide +kernel, by decide +kernel, by decide +kernel⟩
theorem hdV_X10_findLoads : yX10_findLoads.cls = RX10 ∧ yX10_findLoads.cls ≠ "java/lang/invoke/MethodHandle" ∧ yX10_findLoads.cls ≠ "java/lang/invoke/VarHandle" ∧ (parseMethodDescriptor yX10_findLoads.desc).map (fun d => d.parameters.length) = some 0 := ⟨rfl, by decide +kernel, by decide +kernel, by decide +kernel⟩
theorem hdV_X10_isBroken : yX10_isBroken.cls = RX10 ∧ yX10_isBroken.cls ≠ "java/lang/invoke/MethodHandle" ∧ yX10_isBroken.cls ≠ "java/lang/invoke/VarHandle" ∧ (parseMethodDescriptor yX10_isBroken.desc).map (fun d => d.parameters.length) = some 1 := ⟨rfl, by decide +kernel, by decide +kernel, by decide +kernel⟩
theorem hdV_X10_holds : yX10_holds.cls = RX10 ∧ yX10_holds.cls ≠ "java/lang/invoke/MethodHandle" ∧ yX10_holds.cls ≠ "java/lang/invoke/VarHandle" ∧ (parseMethodDescriptor yX10_holds.desc).map (fun d => d.parameters.length) = some 3 := ⟨rfl, by decide +kernel, by decide +kernel, by decide +kernel⟩
theorem hdV_X10_sets : yX10_sets.cls = RX10 ∧ yX10_sets.cls ≠ "java/lang/invoke/MethodHandle" ∧ yX10_sets.cls ≠ "java/lang/invoke/VarHandle" ∧ (parseMethodDescriptor yX10_sets.desc).map (fun d => d.parameters.length) = some 3 := ⟨rfl, by decide +kernel, by decide +kernel, by decide +kernel⟩
theorem hdV_X10_east : yX10_east.cls = RX10 ∧ yX10_east.cls ≠ "java/lang/invoke/MethodHandle" ∧ yX10_east.cls ≠ "java/lang/invoke/VarHandle" ∧ (parseMethodDescriptor yX10_east.desc).map (fun d => d.parameters.length) = some 1 := ⟨rfl, by decide +kernel, by decide +kernel, by decide +kernel⟩
theorem hdV_X10_north : yX10_north.cls = RX10 ∧ yX10_north.cls ≠ "java/lang/invoke/MethodHandle" ∧ yX10_north.cls ≠ "java/lang/invoke/VarHandle" ∧ (parseMethodDescriptor yX10_north.desc).map (fun d => d.parameters.length) = some 1 := ⟨rfl, by decide +kernel, by decide +kernel, by decide +kernel⟩
theorem hdV_X10_costOf : yX10_costOf.cls = RX10 ∧ yX10_costOf.cls ≠ "java/lang/invoke/MethodHandle" ∧ yX10_costOf.cls ≠ "java/lang/invoke/VarHandle" ∧ (parseMethodDescriptor yX10_costOf.desc).map (fun d => d.parameters.length) = some 1 := ⟨rfl, by decide +kernel, by decide +kernel, by decide +kernel⟩
theorem hdV_X10_isFree : yX10_isFree.cls = RX10 ∧ yX10_isFree.cls ≠ "java/lang/invoke/MethodHandle" ∧ yX10_isFree.cls ≠ "java/lang/invoke/VarHandle" ∧ (parseMethodDescriptor yX10_isFree.desc).map (fun d => d.parameters.length) = some 2 := ⟨rfl, by decide +kernel, by decide +kernel, by decide +kernel⟩
theorem hdV_X10_hasSide : yX10_hasSide.cls = RX10 ∧ yX10_hasSide.cls ≠ "java/lang/invoke/MethodHandle" ∧ yX10_hasSide.cls ≠ "java/lang/invoke/VarHandle" ∧ (parseMethodDescriptor yX10_hasSide.desc).map (fun d => d.parameters.length) = some 5 := ⟨rfl, by decide +kernel, by decide +kernel, by decide +kernel⟩
theorem hdV_X10_isMove : yX10_isMove.cls = RX10 ∧ yX10_isMove.cls ≠ "java/lang/invoke/MethodHandle" ∧ yX10_isMove.cls ≠ "java/lang/invoke/VarHandle" ∧ (parseMethodDescriptor yX10_isMove.desc).map (fun d => d.parameters.length) = some 1 := ⟨rfl, by decide +kernel, by decide +kernel, by decide +kernel⟩
theorem hdV_X10_canMove : yX10_canMove.cls = RX10 ∧ yX10_canMove.cls ≠ "java/lang/invoke/MethodHandle" ∧ yX10_canMove.cls ≠ "java/lang/invoke/VarHandle" ∧ (parseMethodDescriptor yX10_canMove.desc).map (fun d => d.parameters.length) = some 1 := ⟨rfl, by decide +kernel, by decide +kernel, by decide +kernel⟩
theorem hdV_X10_goes : yX10_goes.cls = RX10 ∧ yX10_goes.cls ≠ "java/lang/invoke/MethodHandle" ∧ yX10_goes.cls ≠ "java/lang/invoke/VarHandle" ∧ (parseMethodDescriptor yX10_goes.desc).map (fun d => d.parameters.length) = some 1 := ⟨rfl, by decide +kernel, by decide +kernel, by decide +kernel⟩
theorem hdV_X10_next : yX10_next.cls = RX10 ∧ yX10_next.cls ≠ "java/lang/invoke/MethodHandle" ∧ yX10_next.cls ≠ "java/lang/invoke/VarHandle" ∧ (parseMethodDescriptor yX10_next.desc).map (fun d => d.parameters.length) = some 0 := ⟨rfl, by decide +kernel, by decide +kernel, by decide +kernel⟩
theorem hdV_X10_part : yX10_part.cls = RX10 ∧ yX10_part.cls ≠ "java/lang/invoke/MethodHandle" ∧ yX10_part.cls ≠ "java/lang/invoke/VarHandle" ∧ (parseMethodDescriptor yX10_part.desc).map (fun d => d.parameters.length) = some 1 := ⟨rfl, by decide +kernel, by decide +kernel, by decide +kernel⟩
theorem hdV_X10_takes : yX10_takes.cls = RX10 ∧ yX10_takes.cls ≠ "java/lang/invoke/MethodHandle" ∧ yX10_takes.cls ≠ "java/lang/invoke/VarHandle" ∧ (parseMethodDescriptor yX10_takes.desc).map (fun d => d.parameters.length) = some 2 := ⟨rfl, by decide +kernel, by decide +kernel, by decide +kernel⟩
theorem hdV_X10_takesBox : yX10_takesBox.cls = RX10 ∧ yX10_takesBox.cls ≠ "java/lang/invoke/MethodHandle" ∧ yX10_takesBox.cls ≠ "java/lang/invoke/VarHandle" ∧ (parseMethodDescriptor yX10_takesBox.desc).map (fun d => d.parameters.length) = some 2 := ⟨rfl, by decide +kernel, by decide +kernel, by decide +kernel⟩
theorem hdV_X10_open : yX10_open.cls = RX10 ∧ yX10_open.cls ≠ "java/lang/invoke/MethodHandle" ∧ yX10_open.cls ≠ "java/lang/invoke/VarHandle" ∧ (parseMethodDescriptor yX10_open.desc).map (fun d => d.parameters.length) = some 0 := ⟨rfl, by decide +kernel, by decide +kernel, by decide +kernel⟩
theorem hdV_X10_begin : yX10_begin.cls = RX10 ∧ yX10_begin.cls ≠ "java/lang/invoke/MethodHandle" ∧ yX10_begin.cls ≠ "java/lang/invoke/VarHandle" ∧ (parseMethodDescriptor yX10_begin.desc).map (fun d => d.parameters.length) = some 1 := ⟨rfl, by decide +kernel, by decide +kernel, by decide +kernel⟩
theorem hdV_X10_isField : yX10_isField.cls = RX10 ∧ yX10_isField.cls ≠ "java/lang/invoke/MethodHandle" ∧ yX10_isField.cls ≠ "java/lang/invoke/VarHandle" ∧ (parseMethodDescriptor yX10_isField.desc).map (fun d => d.parameters.length) = some 1 := ⟨rfl, by decide +kernel, by decide +kernel, by decide +kernel⟩
theorem hdV_X10_fieldOf : yX10_fieldOf.cls = RX10 ∧ yX10_fieldOf.cls ≠ "java/lang/invoke/MethodHandle" ∧ yX10_fieldOf.cls ≠ "java/lang/invoke/VarHandle" ∧ (parseMethodDescriptor yX10_fieldOf.desc).map (fun d => d.parameters.length) = some 2 := ⟨rfl, by decide +kernel, by decide +kernel, by decide +kernel⟩
theorem hdV_X10_takesAtom : yX10_takesAtom.cls = RX10 ∧ yX10_takesAtom.cls ≠ "java/lang/invoke/MethodHandle" ∧ yX10_takesAtom.cls ≠ "java/lang/invoke/VarHandle" ∧ (parseMethodDescriptor yX10_takesAtom.desc).map (fun d => d.parameters.length) = some 1 := ⟨rfl, by decide +kernel, by decide +kernel, by decide +kernel⟩
theorem hdV_X10_takesSum : yX10_takesSum.cls = RX10 ∧ yX10_takesSum.cls ≠ "java/lang/invoke/MethodHandle" ∧ yX10_takesSum.cls ≠ "java/lang/invoke/VarHandle" ∧ (parseMethodDescriptor yX10_takesSum.desc).map (fun d => d.parameters.length) = some 1 := ⟨rfl, by decide +kernel, by decide +kernel, by decide +kernel⟩
theorem hdV_X10_takesTest : yX10_takesTest.cls = RX10 ∧ yX10_takesTest.cls ≠ "java/lang/invoke/MethodHandle" ∧ yX10_takesTest.cls ≠ "java/lang/invoke/VarHandle" ∧ (parseMethodDescriptor yX10_takesTest.desc).map (fun d => d.parameters.length) = some 1 := ⟨rfl, by decide +kernel, by decide +kernel, by decide +kernel⟩
theorem hdV_X10_takesAct : yX10_takesAct.cls = RX10 ∧ yX10_takesAct.cls ≠ "java/lang/invoke/MethodHandle" ∧ yX10_takesAct.cls ≠ "java/lang/invoke/VarHandle" ∧ (parseMethodDescriptor yX10_takesAct.desc).map (fun d => d.parameters.length) = some 2 := ⟨rfl, by decide +kernel, by decide +kernel, by decide +kernel⟩
theorem hdV_X10_lacksText : yX10_lacksText.cls = RX10 ∧ yX10_lacksText.cls ≠ "java/lang/invoke/MethodHandle" ∧ yX10_lacksText.cls ≠ "java/lang/invoke/VarHandle" ∧ (parseMethodDescriptor yX10_lacksText.desc).map (fun d => d.parameters.length) = some 1 := ⟨rfl, by decide +kernel, by decide +kernel, by decide +kernel⟩
theorem hdV_X10_bring : yX10_bring.cls = RX10 ∧ yX10_bring.cls ≠ "java/lang/invoke/MethodHandle" ∧ yX10_bring.cls ≠ "java/lang/invoke/VarHandle" ∧ (parseMethodDescriptor yX10_bring.desc).map (fun d => d.parameters.length) = some 1 := ⟨rfl, by decide +kernel, by decide +kernel, by decide +kernel⟩
theorem hdV_X10_goesProgram : yX10_goesProgram.cls = RX10 ∧ yX10_goesProgram.cls ≠ "java/lang/invoke/MethodHandle" ∧ yX10_goesProgram.cls ≠ "java/lang/invoke/VarHandle" ∧ (parseMethodDescriptor yX10_goesProgram.desc).map (fun d => d.parameters.length) = some 2 := ⟨rfl, by decide +kernel, by decide +kernel, by decide +kernel⟩
theorem hdV_X10_goesShape : yX10_goesShape.cls = RX10 ∧ yX10_goesShape.cls ≠ "java/lang/invoke/MethodHandle" ∧ yX10_goesShape.cls ≠ "java/lang/invoke/VarHandle" ∧ (parseMethodDescriptor yX10_goesShape.desc).map (fun d => d.parameters.length) = some 3 := ⟨rfl, by decide +kernel, by decide +kernel, by decide +kernel⟩
theorem hdV_X10_keepText : yX10_keepText.cls = RX10 ∧ yX10_keepText.cls ≠ "java/lang/invoke/MethodHandle" ∧ yX10_keepText.cls ≠ "java/lang/invoke/VarHandle" ∧ (parseMethodDescriptor yX10_keepText.desc).map (fun d => d.parameters.length) = some 2 := ⟨rfl, by decide +kernel, by decide +kernel, by decide +kernel⟩
theorem hdV_X10_isShape : yX10_isShape.cls = RX10 ∧ yX10_isShape.cls ≠ "java/lang/invoke/MethodHandle" ∧ yX10_isShape.cls ≠ "java/lang/invoke/VarHandle" ∧ (parseMethodDescriptor yX10_isShape.desc).map (fun d => d.parameters.length) = some 1 := ⟨rfl, by decide +kernel, by decide +kernel, by decide +kernel⟩
theorem hdV_X10_isIn : yX10_isIn.cls = RX10 ∧ yX10_isIn.cls ≠ "java/lang/invoke/MethodHandle" ∧ yX10_isIn.cls ≠ "java/lang/invoke/VarHandle" ∧ (parseMethodDescriptor yX10_isIn.desc).map (fun d => d.parameters.length) = some 3 := ⟨rfl, by decide +kernel, by decide +kernel, by decide +kernel⟩
theorem hdV_X10_findGoal : yX10_findGoal.cls = RX10 ∧ yX10_findGoal.cls ≠ "java/lang/invoke/MethodHandle" ∧ yX10_findGoal.cls ≠ "java/lang/invoke/VarHandle" ∧ (parseMethodDescriptor yX10_findGoal.desc).map (fun d => d.parameters.length) = some 1 := ⟨rfl, by decide +kernel, by decide +kernel, by decide +kernel⟩
theorem hdV_X10_outside : yX10_outside.cls = RX10 ∧ yX10_outside.cls ≠ "java/lang/invoke/MethodHandle" ∧ yX10_outside.cls ≠ "java/lang/invoke/VarHandle" ∧ (parseMethodDescriptor yX10_outside.desc).map (fun d => d.parameters.length) = some 0 := ⟨rfl, by decide +kernel, by decide +kernel, by decide +kernel⟩
theorem hdV_X10_comesBack : yX10_comesBack.cls = RX10 ∧ yX10_comesBack.cls ≠ "java/lang/invoke/MethodHandle" ∧ yX10_comesBack.cls ≠ "java/lang/invoke/VarHandle" ∧ (parseMethodDescriptor yX10_comesBack.desc).map (fun d => d.parameters.length) = some 1 := ⟨rfl, by decide +kernel, by decide +kernel, by decide +kernel⟩
theorem hdV_X10_isPlan : yX10_isPlan.cls = RX10 ∧ yX10_isPlan.cls ≠ "java/lang/invoke/MethodHandle" ∧ yX10_isPlan.cls ≠ "java/lang/invoke/VarHandle" ∧ (parseMethodDescriptor yX10_isPlan.desc).map (fun d => d.parameters.length) = some 1 := ⟨rfl, by decide +kernel, by decide +kernel, by decide +kernel⟩
theorem hdV_X10_planIn : yX10_planIn.cls = RX10 ∧ yX10_planIn.cls ≠ "java/lang/invoke/MethodHandle" ∧ yX10_planIn.cls ≠ "java/lang/invoke/VarHandle" ∧ (parseMethodDescriptor yX10_planIn.desc).map (fun d => d.parameters.length) = some 2 := ⟨rfl, by decide +kernel, by decide +kernel, by decide +kernel⟩
theorem hdV_X10_shares : yX10_shares.cls = RX10 ∧ yX10_shares.cls ≠ "java/lang/invoke/MethodHandle" ∧ yX10_shares.cls ≠ "java/lang/invoke/VarHandle" ∧ (parseMethodDescriptor yX10_shares.desc).map (fun d => d.parameters.length) = some 1 := ⟨rfl, by decide +kernel, by decide +kernel, by decide +kernel⟩
theorem hdV_X10_acts : yX10_acts.cls = RX10 ∧ yX10_acts.cls ≠ "java/lang/invoke/MethodHandle" ∧ yX10_acts.cls ≠ "java/lang/invoke/VarHandle" ∧ (parseMethodDescriptor yX10_acts.desc).map (fun d => d.parameters.length) = some 1 := ⟨rfl, by decide +kernel, by decide +kernel, by decide +kernel⟩
theorem hdV_X10_goTick : yX10_goTick.cls = RX10 ∧ yX10_goTick.cls ≠ "java/lang/invoke/MethodHandle" ∧ yX10_goTick.cls ≠ "java/lang/invoke/VarHandle" ∧ (parseMethodDescriptor yX10_goTick.desc).map (fun d => d.parameters.length) = some 0 := ⟨rfl, by decide +kernel, by decide +kernel, by decide +kernel⟩
theorem hdV_X10_first : yX10_first.cls = RX10 ∧ yX10_first.cls ≠ "java/lang/invoke/MethodHandle" ∧ yX10_first.cls ≠ "java/lang/invoke/VarHandle" ∧ (parseMethodDescriptor yX10_first.desc).map (fun d => d.parameters.length) = some 1 := ⟨rfl, by decide +kernel, by decide +kernel, by decide +kernel⟩
theorem hdV_X10_believedOf : yX10_believedOf.cls = RX10 ∧ yX10_believedOf.cls ≠ "java/lang/invoke/MethodHandle" ∧ yX10_believedOf.cls ≠ "java/lang/invoke/VarHandle" ∧ (parseMethodDescriptor yX10_believedOf.desc).map (fun d => d.parameters.length) = some 3 := ⟨rfl, by decide +kernel, by decide +kernel, by decide +kernel⟩
theorem hdV_X10_wasDead : yX10_wasDead.cls = RX10 ∧ yX10_wasDead.cls ≠ "java/lang/invoke/MethodHandle" ∧ yX10_wasDead.cls ≠ "java/lang/invoke/VarHandle" ∧ (parseMethodDescriptor yX10_wasDead.desc).map (fun d => d.parameters.length) = some 2 := ⟨rfl, by decide +kernel, by decide +kernel, by decide +kernel⟩
theorem hdV_X10_isShelf : yX10_isShelf.cls = RX10 ∧ yX10_isShelf.cls ≠ "java/lang/invoke/MethodHandle" ∧ yX10_isShelf.cls ≠ "java/lang/invoke/VarHandle" ∧ (parseMethodDescriptor yX10_isShelf.desc).map (fun d => d.parameters.length) = some 1 := ⟨rfl, by decide +kernel, by decide +kernel, by decide +kernel⟩
theorem hdV_X10_narrow : yX10_narrow.cls = RX10 ∧ yX10_narrow.cls ≠ "java/lang/invoke/MethodHandle" ∧ yX10_narrow.cls ≠ "java/lang/invoke/VarHandle" ∧ (parseMethodDescriptor yX10_narrow.desc).map (fun d => d.parameters.length) = some 2 := ⟨rfl, by decide +kernel, by decide +kernel, by decide +kernel⟩
theorem hdV_X10_lacksCube : yX10_lacksCube.cls = RX10 ∧ yX10_lacksCube.cls ≠ "java/lang/invoke/MethodHandle" ∧ yX10_lacksCube.cls ≠ "java/lang/invoke/VarHandle" ∧ (parseMethodDescriptor yX10_lacksCube.desc).map (fun d => d.parameters.length) = some 1 := ⟨rfl, by decide +kernel, by decide +kernel, by decide +kernel⟩
theorem q_X0_51_V : ∀ w ∈ wsV RX0 51 RX0 yX0_inCell [Cond.code yX0_inCell cX0_inCell 2 (some .int)], mGw w := w5 mw_2_94 mw_2_81 mw_2_82 mw_1_3 mw_2_83
theorem q_X0_54_V : ∀ w ∈ wsV RX0 54 RX0 yX0_has [Cond.code yX0_has cX0_has 2 (some .boolean)], mGw w := w5 mw_2_88 mw_2_89 mw_2_90 mw_1_3 mw_2_91
theorem q_X8_79_V : ∀ w ∈ wsV RX8 79 RX0 yX0_place [Cond.code yX0_place cX0_place 4 none], mGw w := w5 mw_2_99 mw_2_100 mw_2_101 mw_1_3 mw_2_102
theorem q_X9_65_S : ∀ w ∈ va_wsS RX9 65 yX9_onGrid [Cond.code yX9_onGrid cX9_onGrid 2 (some .boolean)], mGw w := w4 mw_2_74 mw_2_75 mw_1_1 mw_2_76
theorem q_X9_76_S : ∀ w ∈ va_wsS RX9 76 yX9_cellOf [Cond.code yX9_cellOf cX9_cellOf 2 (some .int)], mGw w := w4 mw_2_77 mw_2_78 mw_1_1 mw_2_79
theorem q_X9_80_V : ∀ w ∈ wsV RX9 80 RX0 yX0_inCell [Cond.code yX0_inCell cX0_inCell 2 (some .int)], mGw w := w5 mw_2_80 mw_2_81 mw_2_82 mw_1_3 mw_2_83
theorem q_X9_84_V : ∀ w ∈ wsV RX9 84 RX0 yX0_holdsOn [Cond.code yX0_holdsOn cX0_holdsOn 6 (some .boolean)], mGw w := w5 mw_2_84 mw_2_85 mw_2_86 mw_1_3 mw_2_87
theorem q_X9_87_V : ∀ w ∈ wsV RX9 87 RX8 yX8_addCube [Cond.code yX8_addCube cX8_addCube 5 (some .int)], mGw w := w5 mw_2_95 mw_2_96 mw_2_97 mw_1_2 mw_2_98
theorem q_X0_101_V : ∀ w ∈ wsV RX0 101 RX0 yX0_hangs [Cond.code yX0_hangs cX0_hangs 2 (some .boolean)], mGw w := w5 mw_2_126 mw_2_127 mw_2_128 mw_1_3 mw_2_129
theorem q_X0_107_V : ∀ w ∈ wsV RX0 107 RX0 yX0_passOn [Cond.code yX0_passOn cX0_passOn 7 none], mGw w := w5 mw_2_132 mw_2_134 mw_p_1 mw_1_3 mw_2_135
theorem q_X0_93_V : ∀ w ∈ wsV RX0 93 RX0 yX0_passRowOn [Cond.code yX0_passRowOn cX0_passRowOn 6 none], mGw w := w5 mw_2_121 mw_2_123 mw_p_0 mw_1_3 mw_2_124
theorem q_X0_90_V : ∀ w ∈ wsV RX0 90 RX0 yX0_weigh [Cond.code yX0_weigh cX0_weigh 2 none], mGw w := w5 mw_2_117 mw_2_118 mw_2_119 mw_1_3 mw_2_120
theorem q_X9_115_S : ∀ w ∈ va_wsS RX9 115 yX9_oneIf [Cond.code yX9_oneIf cX9_oneIf 1 (some .int)], mGw w := w4 mw_2_110 mw_2_111 mw_1_1 mw_2_112
theorem q_X9_91_V : ∀ w ∈ wsV RX9 91 RX0 yX0_has [Cond.code yX0_has cX0_has 2 (some .boolean)], mGw w := w5 mw_2_107 mw_2_89 mw_2_90 mw_1_3 mw_2_91
theorem q_X9_102_S : ∀ w ∈ va_wsS RX9 102 yX9_columnOf [Cond.code yX9_columnOf cX9_columnOf 1 (some .int)], mGw w := w4 mw_2_108 mw_1_41 mw_1_1 mw_1_42
theorem q_X9_105_S : ∀ w ∈ va_wsS RX9 105 yX9_levelOf [Cond.code yX9_levelOf cX9_levelOf 1 (some .int)], mGw w := w4 mw_2_109 mw_1_44 mw_1_1 mw_1_45
theorem q_X9_119_V : ∀ w ∈ wsV RX9 119 RX0 yX0_loadOf [Cond.code yX0_loadOf cX0_loadOf 2 (some .int)], mGw w := w5 mw_2_113 mw_2_114 mw_2_115 mw_1_3 mw_2_116
theorem q_X9_134_V : ∀ w ∈ wsV RX9 134 RX0 yX0_hangs [Cond.code yX0_hangs cX0_hangs 2 (some .boolean)], mGw w := w5 mw_2_138 mw_2_127 mw_2_128 mw_1_3 mw_2_129
theorem q_X9_147_V : ∀ w ∈ wsV RX9 147 RX2 yX2_note [Cond.code yX2_note cX2_note 4 (some .int)], mGw w := w5 mw_2_147 mw_2_148 mw_2_149 mw_1_4 mw_2_150
theorem q_X0_77_V : ∀ w ∈ wsV RX0 77 RX0 yX0_supports [Cond.code yX0_supports cX0_supports 3 (some .boolean)], mGw w := w5 mw_2_173 mw_2_175 mw_p_3 mw_1_3 mw_2_176
theorem q_X0_71_V : ∀ w ∈ wsV RX0 71 RX0 yX0_holdsOn [Cond.code yX0_holdsOn cX0_holdsOn 6 (some .boolean)], mGw w := w5 mw_2_185 mw_2_85 mw_2_86 mw_1_3 mw_2_87
theorem q_X0_74_V : ∀ w ∈ wsV RX0 74 RX0 yX0_othersAreWhole [Cond.code yX0_othersAreWhole cX0_othersAreWhole 11 (some .boolean)], mGw w := w5 mw_2_186 mw_2_188 mw_p_5 mw_1_3 mw_2_189
theorem q_X0_68_V : ∀ w ∈ wsV RX0 68 RX0 yX0_turns [Cond.code yX0_turns cX0_turns 3 (some .boolean)], mGw w := w5 mw_2_177 mw_2_179 mw_p_4 mw_1_3 mw_2_180
theorem q_X0_64_V : ∀ w ∈ wsV RX0 64 RX0 yX0_slides [Cond.code yX0_slides cX0_slides 5 (some .boolean)], mGw w := w5 mw_2_169 mw_2_171 mw_p_2 mw_1_3 mw_2_172
theorem q_X9_151_V : ∀ w ∈ wsV RX9 151 RX0 yX0_isMove [Cond.code yX0_isMove cX0_isMove 2 (some .boolean)], mGw w := w5 mw_2_159 mw_2_160 mw_2_161 mw_1_3 mw_2_162
theorem q_X9_154_V : ∀ w ∈ wsV RX9 154 RX0 yX0_mayGo [Cond.code yX0_mayGo cX0_mayGo 6 (some .boolean)], mGw w := w5 mw_2_163 mw_2_164 mw_2_165 mw_1_3 mw_2_166
theorem q_X0_86_V : ∀ w ∈ wsV RX0 86 RX0 yX0_shift [Cond.code yX0_shift cX0_shift 3 none], mGw w := w5 mw_2_198 mw_2_200 mw_p_6 mw_1_3 mw_2_201
theorem q_X9_157_V : ∀ w ∈ wsV RX9 157 RX0 yX0_go [Cond.code yX0_go cX0_go 3 none], mGw w := w5 mw_2_194 mw_2_195 mw_2_196 mw_1_3 mw_2_197
theorem q_X9_161_V : ∀ w ∈ wsV RX9 161 RX0 yX0_weigh [Cond.code yX0_weigh cX0_weigh 2 none], mGw w := w5 mw_2_210 mw_2_118 mw_2_119 mw_1_3 mw_2_120
theorem q_X6_62_V : ∀ w ∈ wsV RX6 62 RX6 yX6_isRow [Cond.code yX6_isRow cX6_isRow 1 (some .boolean)], mGw w := w5 mw_2_222 mw_2_223 mw_2_224 mw_1_10 mw_2_225
theorem q_X7_28_UX1 : ∀ w ∈ va_wsU RX7 28 RX1 RX7 ⟨RX7, "look", "()I"⟩ yX7_look [Cond.code yX7_look cX7_look 1 (some .int)], mGw w := w6 mw_3_10 mw_3_12 mw_3_13 mw_3_11 mw_1_6 mw_3_16
theorem q_X7_28_UX4 : ∀ w ∈ va_wsU RX7 28 RX4 RX7 ⟨RX7, "look", "()I"⟩ yX7_look [Cond.code yX7_look cX7_look 1 (some .int)], mGw w := w6 mw_3_10 mw_3_12 mw_3_14 mw_3_11 mw_1_6 mw_3_16
theorem q_X7_28_UX5 : ∀ w ∈ va_wsU RX7 28 RX5 RX7 ⟨RX7, "look", "()I"⟩ yX7_look [Cond.code yX7_look cX7_look 1 (some .int)], mGw w := w6 mw_3_10 mw_3_12 mw_3_15 mw_3_11 mw_1_6 mw_3_16
theorem q_X7_32_UX1 : ∀ w ∈ va_wsU RX7 32 RX1 RX7 ⟨RX7, "takeIf", "(C)Z"⟩ yX7_takeIf [Cond.code yX7_takeIf cX7_takeIf 3 (some .boolean)], mGw w := w6 mw_3_27 mw_7_130 mw_7_131 mw_3_8 mw_1_6 mw_3_9
theorem q_X7_32_UX4 : ∀ w ∈ va_wsU RX7 32 RX4 RX7 ⟨RX7, "takeIf", "(C)Z"⟩ yX7_takeIf [Cond.code yX7_takeIf cX7_takeIf 3 (some .boolean)], mGw w := w6 mw_3_27 mw_7_130 mw_7_132 mw_3_8 mw_1_6 mw_3_9
theorem q_X7_32_UX5 : ∀ w ∈ va_wsU RX7 32 RX5 RX7 ⟨RX7, "takeIf", "(C)Z"⟩ yX7_takeIf [Cond.code yX7_takeIf cX7_takeIf 3 (some .boolean)], mGw w := w6 mw_3_27 mw_7_130 mw_7_133 mw_3_8 mw_1_6 mw_3_9
theorem q_X7_36_UX1 : ∀ w ∈ va_wsU RX7 36 RX1 RX7 ⟨RX7, "fail", "()V"⟩ yX7_fail [Cond.code yX7_fail cX7_fail 1 none], mGw w := w6 mw_3_28 mw_3_30 mw_3_31 mw_3_29 mw_1_6 mw_3_34
theorem q_X7_36_UX4 : ∀ w ∈ va_wsU RX7 36 RX4 RX7 ⟨RX7, "fail", "()V"⟩ yX7_fail [Cond.code yX7_fail cX7_fail 1 none], mGw w := w6 mw_3_28 mw_3_30 mw_3_32 mw_3_29 mw_1_6 mw_3_34
theorem q_X7_36_UX5 : ∀ w ∈ va_wsU RX7 36 RX5 RX7 ⟨RX7, "fail", "()V"⟩ yX7_fail [Cond.code yX7_fail cX7_fail 1 none], mGw w := w6 mw_3_28 mw_3_30 mw_3_33 mw_3_29 mw_1_6 mw_3_34
theorem q_X5_68_UX5 : ∀ w ∈ va_wsU RX5 68 RX5 RX7 ⟨RX5, "demandDigit", "(II)I"⟩ yX7_demandDigit [Cond.code yX7_demandDigit cX7_demandDigit 4 (some .int)], mGw w := w6 mw_3_39 mw_3_40 mw_3_42 mw_3_43 mw_1_6 mw_3_44
theorem q_X7_39_UX1 : ∀ w ∈ va_wsU RX7 39 RX1 RX7 ⟨RX7, "atEnd", "()Z"⟩ yX7_atEnd [Cond.code yX7_atEnd cX7_atEnd 1 (some .boolean)], mGw w := w6 mw_3_73 mw_3_75 mw_3_76 mw_3_74 mw_1_6 mw_3_79
theorem q_X7_39_UX4 : ∀ w ∈ va_wsU RX7 39 RX4 RX7 ⟨RX7, "atEnd", "()Z"⟩ yX7_atEnd [Cond.code yX7_atEnd cX7_atEnd 1 (some .boolean)], mGw w := w6 mw_3_73 mw_3_75 mw_3_77 mw_3_74 mw_1_6 mw_3_79
theorem q_X7_39_UX5 : ∀ w ∈ va_wsU RX7 39 RX5 RX7 ⟨RX7, "atEnd", "()Z"⟩ yX7_atEnd [Cond.code yX7_atEnd cX7_atEnd 1 (some .boolean)], mGw w := w6 mw_3_73 mw_3_75 mw_3_78 mw_3_74 mw_1_6 mw_3_79
theorem q_X5_48_UX5 : ∀ w ∈ va_wsU RX5 48 RX5 RX7 ⟨RX5, "takeIf", "(C)Z"⟩ yX7_takeIf [Cond.code yX7_takeIf cX7_takeIf 3 (some .boolean)], mGw w := w6 mw_3_4 mw_3_5 mw_3_7 mw_3_8 mw_1_6 mw_3_9
theorem q_X5_65_UX5 : ∀ w ∈ va_wsU RX5 65 RX5 RX7 ⟨RX5, "fail", "()V"⟩ yX7_fail [Cond.code yX7_fail cX7_fail 1 none], mGw w := w6 mw_3_45 mw_3_46 mw_3_48 mw_3_29 mw_1_6 mw_3_34
theorem q_X5_61_V : ∀ w ∈ wsV RX5 61 RX5 yX5_readBox [Cond.code yX5_readBox cX5_readBox 12 (some .long)], mGw w := w5 mw_3_35 mw_3_37 mw_p_10 mw_1_8 mw_3_38
theorem q_X5_25_V : ∀ w ∈ wsV RX5 25 RX5 yX5_readParts [Cond.code yX5_readParts cX5_readParts 9 (some .long)], mGw w := w5 mw_2_236 mw_2_238 mw_p_7 mw_1_8 mw_2_239
theorem q_X5_57_UX5 : ∀ w ∈ va_wsU RX5 57 RX5 RX7 ⟨RX5, "demand", "(C)V"⟩ yX7_demand [Cond.code yX7_demand cX7_demand 2 none], mGw w := w6 mw_3_21 mw_3_22 mw_3_24 mw_3_25 mw_1_6 mw_3_26
theorem q_X5_52_V : ∀ w ∈ wsV RX5 52 RX5 yX5_readBoxOrBracket [Cond.code yX5_readBoxOrBracket cX5_readBoxOrBracket 5 (some .long)], mGw w := w5 mw_3_17 mw_3_19 mw_p_9 mw_1_8 mw_3_20
theorem q_X5_43_UX5 : ∀ w ∈ va_wsU RX5 43 RX5 RX7 ⟨RX5, "take", "()I"⟩ yX7_take [Cond.code yX7_take cX7_take 2 (some .int)], mGw w := w6 mw_3_61 mw_3_62 mw_3_64 mw_3_65 mw_1_6 mw_3_66
theorem q_X5_32_V : ∀ w ∈ wsV RX5 32 RX5 yX5_readPart [Cond.code yX5_readPart cX5_readPart 6 (some .long)], mGw w := w5 mw_3_0 mw_3_2 mw_p_8 mw_1_8 mw_3_3
theorem q_X5_35_UX5 : ∀ w ∈ va_wsU RX5 35 RX5 RX7 ⟨RX5, "isPlusOrMinus", "()Z"⟩ yX7_isPlusOrMinus [Cond.code yX7_isPlusOrMinus cX7_isPlusOrMinus 1 (some .boolean)], mGw w := w6 mw_3_51 mw_3_52 mw_3_54 mw_3_55 mw_1_6 mw_3_56
theorem q_X5_39_UX5 : ∀ w ∈ va_wsU RX5 39 RX5 RX7 ⟨RX5, "look", "()I"⟩ yX7_look [Cond.code yX7_look cX7_look 1 (some .int)], mGw w := w6 mw_3_57 mw_3_58 mw_3_60 mw_3_11 mw_1_6 mw_3_16
theorem q_X5_19_UX5 : ∀ w ∈ va_wsU RX5 19 RX5 RX7 ⟨RX5, "open", "([II)V"⟩ yX7_open [Cond.code yX7_open cX7_open 3 none], mGw w := w6 mw_2_230 mw_2_231 mw_2_233 mw_2_234 mw_1_6 mw_2_235
theorem q_X5_29_UX5 : ∀ w ∈ va_wsU RX5 29 RX5 RX7 ⟨RX5, "failUnlessAtEnd", "()V"⟩ yX7_failUnlessAtEnd [Cond.code yX7_failUnlessAtEnd cX7_failUnlessAtEnd 1 none], mGw w := w6 mw_3_67 mw_3_68 mw_3_70 mw_3_71 mw_1_6 mw_3_72
theorem q_X4_38_UX4 : ∀ w ∈ va_wsU RX4 38 RX4 RX7 ⟨RX4, "takeIf", "(C)Z"⟩ yX7_takeIf [Cond.code yX7_takeIf cX7_takeIf 3 (some .boolean)], mGw w := w6 mw_3_119 mw_3_120 mw_3_121 mw_3_8 mw_1_6 mw_3_9
theorem q_X4_62_UX4 : ∀ w ∈ va_wsU RX4 62 RX4 RX7 ⟨RX4, "isDigit", "()Z"⟩ yX7_isDigit [Cond.code yX7_isDigit cX7_isDigit 1 (some .boolean)], mGw w := w6 mw_3_122 mw_3_123 mw_3_125 mw_3_126 mw_1_6 mw_3_127
theorem q_X4_65_UX4 : ∀ w ∈ va_wsU RX4 65 RX4 RX7 ⟨RX4, "look", "()I"⟩ yX7_look [Cond.code yX7_look cX7_look 1 (some .int)], mGw w := w6 mw_3_131 mw_3_132 mw_3_133 mw_3_11 mw_1_6 mw_3_16
theorem q_X4_68_S : ∀ w ∈ va_wsS RX4 68 yX4_isField [Cond.code yX4_isField cX4_isField 1 (some .boolean)], mGw w := w4 mw_3_134 mw_3_135 mw_1_9 mw_3_136
theorem q_X4_72_UX4 : ∀ w ∈ va_wsU RX4 72 RX4 RX7 ⟨RX4, "fail", "()V"⟩ yX7_fail [Cond.code yX7_fail cX7_fail 1 none], mGw w := w6 mw_3_137 mw_3_138 mw_3_139 mw_3_29 mw_1_6 mw_3_34
theorem q_X4_58_UX4 : ∀ w ∈ va_wsU RX4 58 RX4 RX7 ⟨RX4, "take", "()I"⟩ yX7_take [Cond.code yX7_take cX7_take 2 (some .int)], mGw w := w6 mw_3_128 mw_3_129 mw_3_130 mw_3_65 mw_1_6 mw_3_66
theorem q_X4_55_UX4 : ∀ w ∈ va_wsU RX4 55 RX4 RX7 ⟨RX4, "isPlusOrMinus", "()Z"⟩ yX7_isPlusOrMinus [Cond.code yX7_isPlusOrMinus cX7_isPlusOrMinus 1 (some .boolean)], mGw w := w6 mw_3_140 mw_3_141 mw_3_142 mw_3_55 mw_1_6 mw_3_56
theorem q_X4_52_V : ∀ w ∈ wsV RX4 52 RX4 yX4_readAtom [Cond.code yX4_readAtom cX4_readAtom 1 none], mGw w := w5 mw_3_115 mw_3_117 mw_p_14 mw_1_9 mw_3_118
theorem q_X4_49_V : ∀ w ∈ wsV RX4 49 RX4 yX4_readSum [Cond.code yX4_readSum cX4_readSum 2 none], mGw w := w5 mw_3_111 mw_3_113 mw_p_13 mw_1_9 mw_3_114
theorem q_X4_42_UX4 : ∀ w ∈ va_wsU RX4 42 RX4 RX7 ⟨RX4, "demand", "(C)V"⟩ yX7_demand [Cond.code yX7_demand cX7_demand 2 none], mGw w := w6 mw_3_143 mw_3_144 mw_3_145 mw_3_25 mw_1_6 mw_3_26
theorem q_X4_75_UX4 : ∀ w ∈ va_wsU RX4 75 RX4 RX7 ⟨RX4, "demandDigit", "(II)I"⟩ yX7_demandDigit [Cond.code yX7_demandDigit cX7_demandDigit 4 (some .int)], mGw w := w6 mw_3_150 mw_3_151 mw_3_152 mw_3_43 mw_1_6 mw_3_44
theorem q_X4_46_V : ∀ w ∈ wsV RX4 46 RX4 yX4_readAct [Cond.code yX4_readAct cX4_readAct 1 none], mGw w := w5 mw_3_146 mw_3_148 mw_p_15 mw_1_9 mw_3_149
theorem q_X4_35_V : ∀ w ∈ wsV RX4 35 RX4 yX4_readCheck [Cond.code yX4_readCheck cX4_readCheck 1 none], mGw w := w5 mw_3_107 mw_3_109 mw_p_12 mw_1_9 mw_3_110
theorem q_X4_32_UX4 : ∀ w ∈ va_wsU RX4 32 RX4 RX7 ⟨RX4, "failUnlessAtEnd", "()V"⟩ yX7_failUnlessAtEnd [Cond.code yX7_failUnlessAtEnd cX7_failUnlessAtEnd 1 none], mGw w := w6 mw_3_153 mw_3_154 mw_3_155 mw_3_71 mw_1_6 mw_3_72
theorem q_X4_29_V : ∀ w ∈ wsV RX4 29 RX4 yX4_readRule [Cond.code yX4_readRule cX4_readRule 2 none], mGw w := w5 mw_3_103 mw_3_105 mw_p_11 mw_1_9 mw_3_106
theorem q_X4_25_UX4 : ∀ w ∈ va_wsU RX4 25 RX4 RX7 ⟨RX4, "atEnd", "()Z"⟩ yX7_atEnd [Cond.code yX7_atEnd cX7_atEnd 1 (some .boolean)], mGw w := w6 mw_3_99 mw_3_100 mw_3_102 mw_3_74 mw_1_6 mw_3_79
theorem q_X4_19_UX4 : ∀ w ∈ va_wsU RX4 19 RX4 RX7 ⟨RX4, "open", "([II)V"⟩ yX7_open [Cond.code yX7_open cX7_open 3 none], mGw w := w6 mw_3_96 mw_3_97 mw_3_98 mw_2_234 mw_1_6 mw_2_235
theorem q_X9_167_S : ∀ w ∈ va_wsS RX9 167 yX9_isShelf [Cond.code yX9_isShelf cX9_isShelf 1 (some .boolean)], mGw w := w4 mw_2_215 mw_2_216 mw_1_1 mw_2_217
theorem q_X9_170_V : ∀ w ∈ wsV RX9 170 RX6 yX6_refusalOfRow [Cond.code yX6_refusalOfRow cX6_refusalOfRow 3 (some .int)], mGw w := w5 mw_2_218 mw_2_219 mw_2_220 mw_1_10 mw_2_221
theorem q_X9_185_V : ∀ w ∈ wsV RX9 185 RX4 yX4_check [Cond.code yX4_check cX4_check 3 none], mGw w := w5 mw_3_92 mw_3_93 mw_3_94 mw_1_9 mw_3_95
theorem q_X9_189_UX4 : ∀ w ∈ va_wsU RX9 189 RX4 RX7 ⟨RX4, "isFaulty", "()Z"⟩ yX7_isFaulty [Cond.code yX7_isFaulty cX7_isFaulty 1 (some .boolean)], mGw w := w6 mw_3_156 mw_3_157 mw_3_158 mw_3_84 mw_1_6 mw_3_85
theorem q_X9_190_UX4 : ∀ w ∈ va_wsU RX9 190 RX4 RX7 ⟨RX4, "faultPlace", "()I"⟩ yX7_faultPlace [Cond.code yX7_faultPlace cX7_faultPlace 1 (some .int)], mGw w := w6 mw_3_159 mw_3_160 mw_3_161 mw_3_90 mw_1_6 mw_3_91
theorem q_X9_173_V : ∀ w ∈ wsV RX9 173 RX5 yX5_cellsOf [Cond.code yX5_cellsOf cX5_cellsOf 5 (some .long)], mGw w := w5 mw_2_226 mw_2_227 mw_2_228 mw_1_8 mw_2_229
theorem q_X9_177_UX5 : ∀ w ∈ va_wsU RX9 177 RX5 RX7 ⟨RX5, "isFaulty", "()Z"⟩ yX7_isFaulty [Cond.code yX7_isFaulty cX7_isFaulty 1 (some .boolean)], mGw w := w6 mw_3_80 mw_3_81 mw_3_83 mw_3_84 mw_1_6 mw_3_85
theorem q_X9_181_UX5 : ∀ w ∈ va_wsU RX9 181 RX5 RX7 ⟨RX5, "faultPlace", "()I"⟩ yX7_faultPlace [Cond.code yX7_faultPlace cX7_faultPlace 1 (some .int)], mGw w := w6 mw_3_86 mw_3_87 mw_3_89 mw_3_90 mw_1_6 mw_3_91
theorem q_X9_194_V : ∀ w ∈ wsV RX9 194 RX8 yX8_addShape [Cond.code yX8_addShape cX8_addShape 5 (some .int)], mGw w := w5 mw_3_166 mw_3_167 mw_3_168 mw_1_2 mw_3_169
theorem q_X9_198_V : ∀ w ∈ wsV RX9 198 RX8 yX8_hasShape [Cond.code yX8_hasShape cX8_hasShape 2 (some .boolean)], mGw w := w5 mw_3_174 mw_3_175 mw_3_176 mw_1_2 mw_3_177
theorem q_X9_201_V : ∀ w ∈ wsV RX9 201 RX8 yX8_shapeHolds [Cond.code yX8_shapeHolds cX8_shapeHolds 6 (some .boolean)], mGw w := w5 mw_3_178 mw_3_179 mw_3_180 mw_1_2 mw_3_181
theorem q_X8_89_S : ∀ w ∈ va_wsS RX8 89 yJ13_bitCount_95d88 [Cond.code yJ13_bitCount_95d88 cJ13_bitCount_95d88 2 (some .int)], mGw w := w4 mw_3_190 mw_3_191 mw_1_12 mw_3_192
theorem q_X8_105_V : ∀ w ∈ wsV RX8 105 RX8 yX8_shapeHolds [Cond.code yX8_shapeHolds cX8_shapeHolds 6 (some .boolean)], mGw w := w5 mw_3_207 mw_3_179 mw_3_180 mw_1_2 mw_3_181
theorem q_X8_113_V : ∀ w ∈ wsV RX8 113 RX8 yX8_cellsInShape [Cond.code yX8_cellsInShape cX8_cellsInShape 2 (some .int)], mGw w := w5 mw_3_200 mw_3_187 mw_3_188 mw_1_2 mw_3_189
theorem q_X8_116_V : ∀ w ∈ wsV RX8 116 RX8 yX8_outsideShape [Cond.code yX8_outsideShape cX8_outsideShape 4 (some .int)], mGw w := w5 mw_3_201 mw_3_202 mw_3_203 mw_1_2 mw_3_204
theorem q_X9_205_V : ∀ w ∈ wsV RX9 205 RX8 yX8_cellsInShape [Cond.code yX8_cellsInShape cX8_cellsInShape 2 (some .int)], mGw w := w5 mw_3_186 mw_3_187 mw_3_188 mw_1_2 mw_3_189
theorem q_X9_208_V : ∀ w ∈ wsV RX9 208 RX8 yX8_emptyInShape [Cond.code yX8_emptyInShape cX8_emptyInShape 2 (some .int)], mGw w := w5 mw_3_196 mw_3_197 mw_3_198 mw_1_2 mw_3_199
theorem q_X9_211_V : ∀ w ∈ wsV RX9 211 RX8 yX8_outsideShape [Cond.code yX8_outsideShape cX8_outsideShape 4 (some .int)], mGw w := w5 mw_3_209 mw_3_202 mw_3_203 mw_1_2 mw_3_204
theorem q_X3_72_V : ∀ w ∈ wsV RX3 72 RX3 yX3_isWanted [Cond.code yX3_isWanted cX3_isWanted 2 (some .boolean)], mGw w := w5 mw_3_237 mw_3_239 mw_p_18 mw_1_5 mw_4_0
theorem q_X3_54_V : ∀ w ∈ wsV RX3 54 RX3 yX3_emptyBehind [Cond.code yX3_emptyBehind cX3_emptyBehind 5 (some .int)], mGw w := w5 mw_3_233 mw_3_235 mw_p_17 mw_1_5 mw_3_236
theorem q_X3_58_V : ∀ w ∈ wsV RX3 58 RX0 yX0_mayGo [Cond.code yX0_mayGo cX0_mayGo 6 (some .boolean)], mGw w := w5 mw_4_3 mw_2_164 mw_2_165 mw_1_3 mw_2_166
theorem q_X3_62_V : ∀ w ∈ wsV RX3 62 RX0 yX0_go [Cond.code yX0_go cX0_go 3 none], mGw w := w5 mw_4_4 mw_2_195 mw_2_196 mw_1_3 mw_2_197
theorem q_X3_47_V : ∀ w ∈ wsV RX3 47 RX3 yX3_completes [Cond.code yX3_completes cX3_completes 8 (some .boolean)], mGw w := w5 mw_3_229 mw_3_231 mw_p_16 mw_1_5 mw_3_232
theorem q_X3_66_V : ∀ w ∈ wsV RX3 66 RX0 yX0_goBack [Cond.code yX0_goBack cX0_goBack 3 none], mGw w := w5 mw_4_5 mw_4_6 mw_4_7 mw_1_3 mw_4_8
theorem q_X3_43_V : ∀ w ∈ wsV RX3 43 RX8 yX8_shapeHolds [Cond.code yX8_shapeHolds cX8_shapeHolds 6 (some .boolean)], mGw w := w5 mw_3_228 mw_3_179 mw_3_180 mw_1_2 mw_3_181
theorem q_X3_23_V : ∀ w ∈ wsV RX3 23 RX8 yX8_emptyInShape [Cond.code yX8_emptyInShape cX8_emptyInShape 2 (some .int)], mGw w := w5 mw_3_218 mw_3_197 mw_3_198 mw_1_2 mw_3_199
theorem q_X3_29_V : ∀ w ∈ wsV RX3 29 RX8 yX8_outsideShape [Cond.code yX8_outsideShape cX8_outsideShape 4 (some .int)], mGw w := w5 mw_3_219 mw_3_202 mw_3_203 mw_1_2 mw_3_204
theorem q_X3_33_V : ∀ w ∈ wsV RX3 33 RX0 yX0_copyFrom [Cond.code yX0_copyFrom cX0_copyFrom 2 none], mGw w := w5 mw_3_220 mw_3_221 mw_3_222 mw_1_3 mw_3_223
theorem q_X9_214_V : ∀ w ∈ wsV RX9 214 RX3 yX3_find [Cond.code yX3_find cX3_find 7 (some .int)], mGw w := w5 mw_3_214 mw_3_215 mw_3_216 mw_1_5 mw_3_217
theorem q_X9_218_V : ∀ w ∈ wsV RX9 218 RX3 yX3_moveOf [Cond.code yX3_moveOf cX3_moveOf 2 (some .int)], mGw w := w5 mw_4_13 mw_4_14 mw_4_15 mw_1_5 mw_4_16
theorem q_X9_221_V : ∀ w ∈ wsV RX9 221 RX0 yX0_copyFrom [Cond.code yX0_copyFrom cX0_copyFrom 2 none], mGw w := w5 mw_4_21 mw_3_221 mw_3_222 mw_1_3 mw_3_223
theorem q_X9_231_V : ∀ w ∈ wsV RX9 231 RX8 yX8_addProgram [Cond.code yX8_addProgram cX8_addProgram 2 (some .int)], mGw w := w5 mw_4_26 mw_4_27 mw_4_28 mw_1_2 mw_4_29
theorem q_X1_105_V : ∀ w ∈ wsV RX1 105 RX0 yX0_inCell [Cond.code yX0_inCell cX0_inCell 2 (some .int)], mGw w := w5 mw_4_73 mw_2_81 mw_2_82 mw_1_3 mw_2_83
theorem q_X1_63_UX1 : ∀ w ∈ va_wsU RX1 63 RX1 RX7 ⟨RX1, "take", "()I"⟩ yX7_take [Cond.code yX7_take cX7_take 2 (some .int)], mGw w := w6 mw_4_65 mw_4_66 mw_4_67 mw_3_65 mw_1_6 mw_3_66
theorem q_X1_76_V : ∀ w ∈ wsV RX1 76 RX1 yX1_beside [Cond.code yX1_beside cX1_beside 3 (some .int)], mGw w := w5 mw_4_68 mw_4_70 mw_p_22 mw_1_7 mw_4_71
theorem q_X1_84_V : ∀ w ∈ wsV RX1 84 RX1 yX1_heardFrom [Cond.code yX1_heardFrom cX1_heardFrom 2 (some .int)], mGw w := w5 mw_4_75 mw_4_77 mw_p_23 mw_1_7 mw_4_78
theorem q_X1_96_UX1 : ∀ w ∈ va_wsU RX1 96 RX1 RX7 ⟨RX1, "isDigit", "()Z"⟩ yX7_isDigit [Cond.code yX7_isDigit cX7_isDigit 1 (some .boolean)], mGw w := w6 mw_4_79 mw_4_80 mw_4_81 mw_3_126 mw_1_6 mw_3_127
theorem q_X1_73_UX1 : ∀ w ∈ va_wsU RX1 73 RX1 RX7 ⟨RX1, "isPlusOrMinus", "()Z"⟩ yX7_isPlusOrMinus [Cond.code yX7_isPlusOrMinus cX7_isPlusOrMinus 1 (some .boolean)], mGw w := w6 mw_4_82 mw_4_83 mw_4_84 mw_3_55 mw_1_6 mw_3_56
theorem q_X1_70_V : ∀ w ∈ wsV RX1 70 RX1 yX1_value [Cond.code yX1_value cX1_value 3 (some .int)], mGw w := w5 mw_4_61 mw_4_63 mw_p_21 mw_1_7 mw_4_64
theorem q_X1_67_V : ∀ w ∈ wsV RX1 67 RX1 yX1_addUp [Cond.code yX1_addUp cX1_addUp 6 (some .int)], mGw w := w5 mw_4_57 mw_4_59 mw_p_20 mw_1_7 mw_4_60
theorem q_X1_53_UX1 : ∀ w ∈ va_wsU RX1 53 RX1 RX7 ⟨RX1, "atEnd", "()Z"⟩ yX7_atEnd [Cond.code yX7_atEnd cX7_atEnd 1 (some .boolean)], mGw w := w6 mw_4_50 mw_4_51 mw_4_52 mw_3_74 mw_1_6 mw_3_79
theorem q_X1_57_V : ∀ w ∈ wsV RX1 57 RX1 yX1_testHolds [Cond.code yX1_testHolds cX1_testHolds 9 (some .boolean)], mGw w := w5 mw_4_53 mw_4_55 mw_p_19 mw_1_7 mw_4_56
theorem q_X1_60_V : ∀ w ∈ wsV RX1 60 RX1 yX1_passRule [Cond.code yX1_passRule cX1_passRule 3 none], mGw w := w5 mw_4_85 mw_4_87 mw_p_24 mw_1_7 mw_4_88
theorem q_X1_49_UX1 : ∀ w ∈ va_wsU RX1 49 RX1 RX7 ⟨RX1, "open", "([II)V"⟩ yX7_open [Cond.code yX7_open cX7_open 3 none], mGw w := w6 mw_4_47 mw_4_48 mw_4_49 mw_2_234 mw_1_6 mw_2_235
theorem q_X9_235_V : ∀ w ∈ wsV RX9 235 RX8 yX8_isRunning [Cond.code yX8_isRunning cX8_isRunning 2 (some .boolean)], mGw w := w5 mw_4_39 mw_4_40 mw_4_41 mw_1_2 mw_4_42
theorem q_X9_238_V : ∀ w ∈ wsV RX9 238 RX1 yX1_chooseRule [Cond.code yX1_chooseRule cX1_chooseRule 4 (some .int)], mGw w := w5 mw_4_43 mw_4_44 mw_4_45 mw_1_7 mw_4_46
theorem q_X1_122_V : ∀ w ∈ wsV RX1 122 RX0 yX0_mayGo [Cond.code yX0_mayGo cX0_mayGo 6 (some .boolean)], mGw w := w5 mw_4_107 mw_2_164 mw_2_165 mw_1_3 mw_2_166
theorem q_X1_126_V : ∀ w ∈ wsV RX1 126 RX0 yX0_go [Cond.code yX0_go cX0_go 3 none], mGw w := w5 mw_4_108 mw_2_195 mw_2_196 mw_1_3 mw_2_197
theorem q_X1_114_S : ∀ w ∈ va_wsS RX1 114 yJ9_floorMod_7cf53 [Cond.code yJ9_floorMod_7cf53 cJ9_floorMod_7cf53 3 (some .int)], mGw w := w4 mw_4_109 mw_4_110 mw_1_14 mw_4_111
theorem q_X1_111_V : ∀ w ∈ wsV RX1 111 RX1 yX1_goIfItCan [Cond.code yX1_goIfItCan cX1_goIfItCan 3 (some .int)], mGw w := w5 mw_4_103 mw_4_105 mw_p_26 mw_1_7 mw_4_106
theorem q_X1_27_V : ∀ w ∈ wsV RX1 27 RX8 yX8_isRunning [Cond.code yX8_isRunning cX8_isRunning 2 (some .boolean)], mGw w := w5 mw_4_97 mw_4_40 mw_4_41 mw_1_2 mw_4_42
theorem q_X1_31_V : ∀ w ∈ wsV RX1 31 RX1 yX1_chooseRule [Cond.code yX1_chooseRule cX1_chooseRule 4 (some .int)], mGw w := w5 mw_4_98 mw_4_44 mw_4_45 mw_1_7 mw_4_46
theorem q_X1_35_V : ∀ w ∈ wsV RX1 35 RX1 yX1_act [Cond.code yX1_act cX1_act 4 (some .int)], mGw w := w5 mw_4_99 mw_4_101 mw_p_25 mw_1_7 mw_4_102
theorem q_X8_132_V : ∀ w ∈ wsV RX8 132 RX0 yX0_inCell [Cond.code yX0_inCell cX0_inCell 2 (some .int)], mGw w := w5 mw_4_121 mw_2_81 mw_2_82 mw_1_3 mw_2_83
theorem q_X8_123_V : ∀ w ∈ wsV RX8 123 RX8 yX8_poorestBeside [Cond.code yX8_poorestBeside cX8_poorestBeside 5 (some .int)], mGw w := w5 mw_4_116 mw_4_118 mw_p_27 mw_1_2 mw_4_119
theorem q_X9_241_V : ∀ w ∈ wsV RX9 241 RX1 yX1_runAll [Cond.code yX1_runAll cX1_runAll 3 (some .int)], mGw w := w5 mw_4_93 mw_4_94 mw_4_95 mw_1_7 mw_4_96
theorem q_X9_244_V : ∀ w ∈ wsV RX9 244 RX8 yX8_sharePower [Cond.code yX8_sharePower cX8_sharePower 3 none], mGw w := w5 mw_4_112 mw_4_113 mw_4_114 mw_1_2 mw_4_115
theorem q_X9_247_V : ∀ w ∈ wsV RX9 247 RX8 yX8_endTick [Cond.code yX8_endTick cX8_endTick 2 none], mGw w := w5 mw_4_122 mw_4_123 mw_4_124 mw_1_2 mw_4_125
theorem q_X9_250_V : ∀ w ∈ wsV RX9 250 RX8 yX8_isTick [Cond.code yX8_isTick cX8_isTick 2 (some .boolean)], mGw w := w5 mw_4_130 mw_4_131 mw_4_132 mw_1_2 mw_4_133
theorem q_X9_256_V : ∀ w ∈ wsV RX9 256 RX8 yX8_mayBelieve [Cond.code yX8_mayBelieve cX8_mayBelieve 2 (some .boolean)], mGw w := w5 mw_4_138 mw_4_139 mw_4_140 mw_1_2 mw_4_141
theorem q_X9_259_V : ∀ w ∈ wsV RX9 259 RX2 yX2_firstOf [Cond.code yX2_firstOf cX2_firstOf 2 (some .int)], mGw w := w5 mw_4_142 mw_4_143 mw_4_144 mw_1_4 mw_4_145
theorem q_X9_262_V : ∀ w ∈ wsV RX9 262 RX2 yX2_tellDead [Cond.code yX2_tellDead cX2_tellDead 7 (some .boolean)], mGw w := w5 mw_4_146 mw_4_147 mw_4_148 mw_1_4 mw_4_149
theorem q_X8_136_V : ∀ w ∈ wsV RX8 136 RX2 yX2_nextNoted [Cond.code yX2_nextNoted cX2_nextNoted 6 (some .int)], mGw w := w5 mw_4_158 mw_4_159 mw_4_160 mw_1_4 mw_4_161
theorem q_X8_140_V : ∀ w ∈ wsV RX8 140 RX2 yX2_tellDead [Cond.code yX2_tellDead cX2_tellDead 7 (some .boolean)], mGw w := w5 mw_4_162 mw_4_147 mw_4_148 mw_1_4 mw_4_149
theorem q_X9_265_V : ∀ w ∈ wsV RX9 265 RX8 yX8_wrongTicks [Cond.code yX8_wrongTicks cX8_wrongTicks 7 (some .int)], mGw w := w5 mw_4_154 mw_4_155 mw_4_156 mw_1_2 mw_4_157
theorem q_X8_73_V : ∀ w ∈ wsV RX8 73 RX2 yX2_copyFrom [Cond.code yX2_copyFrom cX2_copyFrom 2 none], mGw w := w5 mw_4_172 mw_4_173 mw_4_174 mw_1_4 mw_4_175
theorem q_X8_53_V : ∀ w ∈ wsV RX8 53 RX0 yX0_copyFrom [Cond.code yX0_copyFrom cX0_copyFrom 2 none], mGw w := w5 mw_4_171 mw_3_221 mw_3_222 mw_1_3 mw_3_223
theorem q_X9_268_V : ∀ w ∈ wsV RX9 268 RX8 yX8_copyFrom [Cond.code yX8_copyFrom cX8_copyFrom 3 none], mGw w := w5 mw_4_167 mw_4_168 mw_4_169 mw_1_2 mw_4_170
theorem q_X9_274_V : ∀ w ∈ wsV RX9 274 RX0 yX0_countDead [Cond.code yX0_countDead cX0_countDead 3 (some .int)], mGw w := w5 mw_4_185 mw_4_186 mw_4_187 mw_1_3 mw_4_188
theorem q_X9_277_V : ∀ w ∈ wsV RX9 277 RX0 yX0_wholePower [Cond.code yX0_wholePower cX0_wholePower 3 (some .int)], mGw w := w5 mw_4_190 mw_4_191 mw_4_192 mw_1_3 mw_4_193
theorem q_X9_280_V : ∀ w ∈ wsV RX9 280 RX0 yX0_wholeWeight [Cond.code yX0_wholeWeight cX0_wholeWeight 3 (some .int)], mGw w := w5 mw_4_194 mw_4_195 mw_4_196 mw_1_3 mw_4_197
theorem q_X6_22_V : ∀ w ∈ wsV RX6 22 RX6 yX6_hold [Cond.code yX6_hold cX6_hold 2 none], mGw w := w5 mw_4_210 mw_4_203 mw_4_204 mw_1_10 mw_4_205
theorem q_X9_287_V : ∀ w ∈ wsV RX9 287 RX6 yX6_holdCube [Cond.code yX6_holdCube cX6_holdCube 3 none], mGw w := w5 mw_4_206 mw_4_207 mw_4_208 mw_1_10 mw_4_209
theorem q_X9_283_V : ∀ w ∈ wsV RX9 283 RX6 yX6_hold [Cond.code yX6_hold cX6_hold 2 none], mGw w := w5 mw_4_202 mw_4_203 mw_4_204 mw_1_10 mw_4_205
theorem q_X9_291_V : ∀ w ∈ wsV RX9 291 RX6 yX6_holdRow [Cond.code yX6_holdRow cX6_holdRow 4 none], mGw w := w5 mw_4_217 mw_4_218 mw_4_219 mw_1_10 mw_4_220
theorem q_X9_294_V : ∀ w ∈ wsV RX9 294 RX6 yX6_hasPlace [Cond.code yX6_hasPlace cX6_hasPlace 2 (some .boolean)], mGw w := w5 mw_4_225 mw_4_226 mw_4_227 mw_1_10 mw_4_228
theorem q_X9_297_V : ∀ w ∈ wsV RX9 297 RX6 yX6_lowestBits [Cond.code yX6_lowestBits cX6_lowestBits 2 (some .int)], mGw w := w5 mw_4_229 mw_4_230 mw_4_231 mw_1_10 mw_4_232
theorem q_X9_307_V : ∀ w ∈ wsV RX9 307 RX6 yX6_isRow [Cond.code yX6_isRow cX6_isRow 1 (some .boolean)], mGw w := w5 mw_4_237 mw_2_223 mw_2_224 mw_1_10 mw_2_225
theorem q_X9_318_V : ∀ w ∈ wsV RX9 318 RX6 yX6_hasPlaces [Cond.code yX6_hasPlaces cX6_hasPlaces 3 (some .boolean)], mGw w := w5 mw_4_238 mw_4_239 mw_5_0 mw_1_10 mw_5_1
theorem q_X9_327_V : ∀ w ∈ wsV RX9 327 RX6 yX6_refusalOfCube [Cond.code yX6_refusalOfCube cX6_refusalOfCube 1 (some .int)], mGw w := w5 mw_5_7 mw_5_8 mw_5_9 mw_1_10 mw_5_10
theorem q_X9_330_V : ∀ w ∈ wsV RX9 330 RX6 yX6_sumOfCube [Cond.code yX6_sumOfCube cX6_sumOfCube 2 (some .int)], mGw w := w5 mw_5_11 mw_5_12 mw_5_13 mw_1_10 mw_5_14
theorem q_X10_121_V : ∀ w ∈ wsV RX10 121 RX10 yX10_is [Cond.code yX10_is cX10_is 4 (some .boolean)], mGw w := w5 mw_6_14 mw_6_16 mw_p_29 mw_1_11 mw_6_17
theorem q_X10_125_V : ∀ w ∈ wsV RX10 125 RX10 yX10_isCell [Cond.code yX10_isCell cX10_isCell 3 (some .boolean)], mGw w := w5 mw_6_18 mw_6_20 mw_p_30 mw_1_11 mw_6_21
theorem q_X10_133_V : ∀ w ∈ wsV RX10 133 RX10 yX10_cubeAt [Cond.code yX10_cubeAt cX10_cubeAt 3 (some .int)], mGw w := w5 mw_6_22 mw_6_24 mw_p_31 mw_1_11 mw_6_25
theorem q_X10_137_V : ∀ w ∈ wsV RX10 137 RX10 yX10_bitAt [Cond.code yX10_bitAt cX10_bitAt 3 (some .int)], mGw w := w5 mw_6_38 mw_6_40 mw_p_35 mw_1_11 mw_6_41
theorem q_X10_129_V : ∀ w ∈ wsV RX10 129 RX10 yX10_besides [Cond.code yX10_besides cX10_besides 2 (some .int)], mGw w := w5 mw_6_34 mw_6_36 mw_p_34 mw_1_11 mw_6_37
theorem q_X10_140_V : ∀ w ∈ wsV RX10 140 RX10 yX10_everyone [Cond.code yX10_everyone cX10_everyone 1 (some .int)], mGw w := w5 mw_6_26 mw_6_28 mw_p_32 mw_1_11 mw_6_29
theorem q_X10_144_V : ∀ w ∈ wsV RX10 144 RX10 yX10_isWhole [Cond.code yX10_isWhole cX10_isWhole 6 (some .boolean)], mGw w := w5 mw_6_30 mw_6_32 mw_p_33 mw_1_11 mw_6_33
theorem q_X10_148_V : ∀ w ∈ wsV RX10 148 RX10 yX10_weightOf [Cond.code yX10_weightOf cX10_weightOf 2 (some .int)], mGw w := w5 mw_6_62 mw_6_64 mw_p_40 mw_1_11 mw_6_65
theorem q_X10_154_V : ∀ w ∈ wsV RX10 154 RX10 yX10_givesOn [Cond.code yX10_givesOn cX10_givesOn 8 none], mGw w := w5 mw_6_58 mw_6_60 mw_p_39 mw_1_11 mw_6_61
theorem q_X10_151_V : ∀ w ∈ wsV RX10 151 RX10 yX10_hangs [Cond.code yX10_hangs cX10_hangs 2 (some .boolean)], mGw w := w5 mw_6_54 mw_6_56 mw_p_38 mw_1_11 mw_6_57
theorem q_X10_158_V : ∀ w ∈ wsV RX10 158 RX10 yX10_bearsOf [Cond.code yX10_bearsOf cX10_bearsOf 2 (some .int)], mGw w := w5 mw_6_70 mw_6_72 mw_p_42 mw_1_11 mw_6_73
theorem q_X10_161_V : ∀ w ∈ wsV RX10 161 RX10 yX10_isCube [Cond.code yX10_isCube cX10_isCube 2 (some .boolean)], mGw w := w5 mw_6_46 mw_6_48 mw_p_36 mw_1_11 mw_6_49
theorem q_X10_164_V : ∀ w ∈ wsV RX10 164 RX10 yX10_findLoads [Cond.code yX10_findLoads cX10_findLoads 4 none], mGw w := w5 mw_6_50 mw_6_52 mw_p_37 mw_1_11 mw_6_53
theorem q_X10_167_V : ∀ w ∈ wsV RX10 167 RX10 yX10_isBroken [Cond.code yX10_isBroken cX10_isBroken 2 (some .boolean)], mGw w := w5 mw_6_66 mw_6_68 mw_p_41 mw_1_11 mw_6_69
theorem q_X10_170_V : ∀ w ∈ wsV RX10 170 RX10 yX10_holds [Cond.code yX10_holds cX10_holds 4 (some .boolean)], mGw w := w5 mw_6_118 mw_6_120 mw_p_50 mw_1_11 mw_6_121
theorem q_X10_189_V : ∀ w ∈ wsV RX10 189 RX10 yX10_sets [Cond.code yX10_sets cX10_sets 4 none], mGw w := w5 mw_6_122 mw_6_124 mw_p_51 mw_1_11 mw_6_125
theorem q_X10_173_V : ∀ w ∈ wsV RX10 173 RX10 yX10_east [Cond.code yX10_east cX10_east 2 (some .int)], mGw w := w5 mw_6_98 mw_6_100 mw_p_45 mw_1_11 mw_6_101
theorem q_X10_176_V : ∀ w ∈ wsV RX10 176 RX10 yX10_north [Cond.code yX10_north cX10_north 2 (some .int)], mGw w := w5 mw_6_102 mw_6_104 mw_p_46 mw_1_11 mw_6_105
theorem q_X10_179_V : ∀ w ∈ wsV RX10 179 RX10 yX10_costOf [Cond.code yX10_costOf cX10_costOf 2 (some .int)], mGw w := w5 mw_6_106 mw_6_108 mw_p_47 mw_1_11 mw_6_109
theorem q_X10_182_V : ∀ w ∈ wsV RX10 182 RX10 yX10_isFree [Cond.code yX10_isFree cX10_isFree 3 (some .boolean)], mGw w := w5 mw_6_110 mw_6_112 mw_p_48 mw_1_11 mw_6_113
theorem q_X10_185_V : ∀ w ∈ wsV RX10 185 RX10 yX10_hasSide [Cond.code yX10_hasSide cX10_hasSide 10 (some .boolean)], mGw w := w5 mw_6_114 mw_6_116 mw_p_49 mw_1_11 mw_6_117
theorem q_X10_193_V : ∀ w ∈ wsV RX10 193 RX10 yX10_isMove [Cond.code yX10_isMove cX10_isMove 2 (some .boolean)], mGw w := w5 mw_6_90 mw_6_92 mw_p_43 mw_1_11 mw_6_93
theorem q_X10_196_V : ∀ w ∈ wsV RX10 196 RX10 yX10_canMove [Cond.code yX10_canMove cX10_canMove 9 (some .boolean)], mGw w := w5 mw_6_94 mw_6_96 mw_p_44 mw_1_11 mw_6_97
theorem q_X10_199_V : ∀ w ∈ wsV RX10 199 RX10 yX10_goes [Cond.code yX10_goes cX10_goes 3 none], mGw w := w5 mw_6_130 mw_6_132 mw_p_52 mw_1_11 mw_6_133
theorem q_X10_202_V : ∀ w ∈ wsV RX10 202 RX10 yX10_next [Cond.code yX10_next cX10_next 1 (some .int)], mGw w := w5 mw_6_166 mw_6_168 mw_p_58 mw_1_11 mw_6_169
theorem q_X10_208_V : ∀ w ∈ wsV RX10 208 RX10 yX10_part [Cond.code yX10_part cX10_part 3 none], mGw w := w5 mw_6_178 mw_6_180 mw_p_61 mw_1_11 mw_6_181
theorem q_X10_205_V : ∀ w ∈ wsV RX10 205 RX10 yX10_takes [Cond.code yX10_takes cX10_takes 3 (some .boolean)], mGw w := w5 mw_6_174 mw_6_176 mw_p_60 mw_1_11 mw_6_177
theorem q_X10_218_V : ∀ w ∈ wsV RX10 218 RX10 yX10_takesBox [Cond.code yX10_takesBox cX10_takesBox 8 (some .boolean)], mGw w := w5 mw_6_170 mw_6_172 mw_p_59 mw_1_11 mw_6_173
theorem q_X10_215_V : ∀ w ∈ wsV RX10 215 RX10 yX10_open [Cond.code yX10_open cX10_open 1 none], mGw w := w5 mw_6_162 mw_6_164 mw_p_57 mw_1_11 mw_6_165
theorem q_X10_212_V : ∀ w ∈ wsV RX10 212 RX10 yX10_begin [Cond.code yX10_begin cX10_begin 2 none], mGw w := w5 mw_6_158 mw_6_160 mw_p_56 mw_1_11 mw_6_161
theorem q_X10_221_V : ∀ w ∈ wsV RX10 221 RX10 yX10_isField [Cond.code yX10_isField cX10_isField 2 (some .boolean)], mGw w := w5 mw_6_198 mw_6_200 mw_p_66 mw_1_11 mw_6_201
theorem q_X10_224_V : ∀ w ∈ wsV RX10 224 RX10 yX10_fieldOf [Cond.code yX10_fieldOf cX10_fieldOf 8 (some .int)], mGw w := w5 mw_6_202 mw_6_204 mw_p_67 mw_1_11 mw_6_205
theorem q_X10_227_V : ∀ w ∈ wsV RX10 227 RX10 yX10_takesAtom [Cond.code yX10_takesAtom cX10_takesAtom 3 (some .boolean)], mGw w := w5 mw_6_194 mw_6_196 mw_p_65 mw_1_11 mw_6_197
theorem q_X10_230_V : ∀ w ∈ wsV RX10 230 RX10 yX10_takesSum [Cond.code yX10_takesSum cX10_takesSum 3 (some .boolean)], mGw w := w5 mw_6_190 mw_6_192 mw_p_64 mw_1_11 mw_6_193
theorem q_X10_233_V : ∀ w ∈ wsV RX10 233 RX10 yX10_takesTest [Cond.code yX10_takesTest cX10_takesTest 5 (some .boolean)], mGw w := w5 mw_6_186 mw_6_188 mw_p_63 mw_1_11 mw_6_189
theorem q_X10_236_V : ∀ w ∈ wsV RX10 236 RX10 yX10_takesAct [Cond.code yX10_takesAct cX10_takesAct 4 (some .boolean)], mGw w := w5 mw_6_206 mw_6_208 mw_p_68 mw_1_11 mw_6_209
theorem q_X10_239_V : ∀ w ∈ wsV RX10 239 RX10 yX10_lacksText [Cond.code yX10_lacksText cX10_lacksText 2 (some .int)], mGw w := w5 mw_6_146 mw_6_148 mw_p_53 mw_1_11 mw_6_149
theorem q_X10_242_V : ∀ w ∈ wsV RX10 242 RX10 yX10_bring [Cond.code yX10_bring cX10_bring 3 none], mGw w := w5 mw_6_150 mw_6_152 mw_p_54 mw_1_11 mw_6_153
theorem q_X10_248_V : ∀ w ∈ wsV RX10 248 RX10 yX10_goesProgram [Cond.code yX10_goesProgram cX10_goesProgram 4 (some .boolean)], mGw w := w5 mw_6_182 mw_6_184 mw_p_62 mw_1_11 mw_6_185
theorem q_X10_245_V : ∀ w ∈ wsV RX10 245 RX10 yX10_goesShape [Cond.code yX10_goesShape cX10_goesShape 7 (some .boolean)], mGw w := w5 mw_6_154 mw_6_156 mw_p_55 mw_1_11 mw_6_157
theorem q_X10_251_V : ∀ w ∈ wsV RX10 251 RX10 yX10_keepText [Cond.code yX10_keepText cX10_keepText 4 (some .int)], mGw w := w5 mw_6_214 mw_6_216 mw_p_69 mw_1_11 mw_6_217
theorem q_X10_254_V : ∀ w ∈ wsV RX10 254 RX10 yX10_isShape [Cond.code yX10_isShape cX10_isShape 2 (some .boolean)], mGw w := w5 mw_6_226 mw_6_228 mw_p_70 mw_1_11 mw_6_229
theorem q_X10_257_V : ∀ w ∈ wsV RX10 257 RX10 yX10_isIn [Cond.code yX10_isIn cX10_isIn 4 (some .boolean)], mGw w := w5 mw_6_230 mw_6_232 mw_p_71 mw_1_11 mw_6_233
theorem q_X10_260_V : ∀ w ∈ wsV RX10 260 RX10 yX10_findGoal [Cond.code yX10_findGoal cX10_findGoal 3 none], mGw w := w5 mw_6_238 mw_7_0 mw_p_72 mw_1_11 mw_7_1
theorem q_X10_263_V : ∀ w ∈ wsV RX10 263 RX10 yX10_outside [Cond.code yX10_outside cX10_outside 3 (some .int)], mGw w := w5 mw_7_2 mw_7_4 mw_p_73 mw_1_11 mw_7_5
theorem q_X10_266_V : ∀ w ∈ wsV RX10 266 RX10 yX10_comesBack [Cond.code yX10_comesBack cX10_comesBack 3 none], mGw w := w5 mw_7_18 mw_7_20 mw_p_76 mw_1_11 mw_7_21
theorem q_X10_269_V : ∀ w ∈ wsV RX10 269 RX10 yX10_isPlan [Cond.code yX10_isPlan cX10_isPlan 5 (some .boolean)], mGw w := w5 mw_7_14 mw_7_16 mw_p_75 mw_1_11 mw_7_17
theorem q_X10_272_V : ∀ w ∈ wsV RX10 272 RX10 yX10_planIn [Cond.code yX10_planIn cX10_planIn 4 (some .int)], mGw w := w5 mw_7_10 mw_7_12 mw_p_74 mw_1_11 mw_7_13
theorem q_X10_278_V : ∀ w ∈ wsV RX10 278 RX10 yX10_shares [Cond.code yX10_shares cX10_shares 5 none], mGw w := w5 mw_7_50 mw_7_52 mw_p_79 mw_1_11 mw_7_53
theorem q_X10_275_V : ∀ w ∈ wsV RX10 275 RX10 yX10_acts [Cond.code yX10_acts cX10_acts 2 (some .boolean)], mGw w := w5 mw_7_46 mw_7_48 mw_p_78 mw_1_11 mw_7_49
theorem q_X10_281_V : ∀ w ∈ wsV RX10 281 RX10 yX10_goTick [Cond.code yX10_goTick cX10_goTick 3 (some .int)], mGw w := w5 mw_7_42 mw_7_44 mw_p_77 mw_1_11 mw_7_45
theorem q_X10_284_V : ∀ w ∈ wsV RX10 284 RX10 yX10_first [Cond.code yX10_first cX10_first 2 (some .int)], mGw w := w5 mw_7_62 mw_7_64 mw_p_80 mw_1_11 mw_7_65
theorem q_X10_287_V : ∀ w ∈ wsV RX10 287 RX10 yX10_believedOf [Cond.code yX10_believedOf cX10_believedOf 6 (some .int)], mGw w := w5 mw_7_66 mw_7_68 mw_p_81 mw_1_11 mw_7_69
theorem q_X10_291_V : ∀ w ∈ wsV RX10 291 RX10 yX10_wasDead [Cond.code yX10_wasDead cX10_wasDead 5 (some .int)], mGw w := w5 mw_7_74 mw_7_76 mw_p_82 mw_1_11 mw_7_77
theorem q_X10_294_V : ∀ w ∈ wsV RX10 294 RX10 yX10_isShelf [Cond.code yX10_isShelf cX10_isShelf 2 (some .boolean)], mGw w := w5 mw_7_94 mw_7_96 mw_p_83 mw_1_11 mw_7_97
theorem q_X10_297_V : ∀ w ∈ wsV RX10 297 RX10 yX10_narrow [Cond.code yX10_narrow cX10_narrow 3 (some .int)], mGw w := w5 mw_7_106 mw_7_108 mw_p_84 mw_1_11 mw_7_109
theorem q_X10_300_V : ∀ w ∈ wsV RX10 300 RX10 yX10_lacksCube [Cond.code yX10_lacksCube cX10_lacksCube 2 (some .int)], mGw w := w5 mw_7_122 mw_7_124 mw_p_85 mw_1_11 mw_7_125
