theorem mw_1_39 : mGw (.methodLink RX0 3 objectInit) := mG1 (i := 39) (by decide +kernel) rfl
theorem mw_1_26 : mGw (.instanceMethod objectInit) := mG1 (i := 26) (by decide +kernel) rfl
theorem mw_1_27 : mGw (.code objectInit ⟨#[0xb1]⟩ 1 none) := mG1 (i := 27) (by decide +kernel) rfl
theorem mw_1_99 : mGw (.methodLink RX2 3 objectInit) := mG1 (i := 99) (by decide +kernel) rfl
theorem mw_2_7 : mGw (.methodLink RX6 3 objectInit) := mG2 (i := 7) (by decide +kernel) rfl
theorem mw_1_181 : mGw (.methodLink RX3 3 objectInit) := mG1 (i := 181) (by decide +kernel) rfl
theorem mw_1_200 : mGw (.methodLink RX7 3 objectInit) := mG1 (i := 200) (by decide +kernel) rfl
theorem mw_1_199 : mGw (.code yX7_init cX7_init 1 none) := mG1 (i := 199) (by decide +kernel) rfl
theorem mw_1_198 : mGw (.instanceMethod yX7_init) := mG1 (i := 198) (by decide +kernel) rfl
theorem mw_1_33 : mGw (.methodLink RX8 3 objectInit) := mG1 (i := 33) (by decide +kernel) rfl
theorem mw_1_34 : mGw (.classLink RX8 9 RX0) := mG1 (i := 34) (by decide +kernel) rfl
theorem mw_1_35 : mGw (.instantiable RX0 8) := mG1 (i := 35) (by decide +kernel) rfl
theorem mw_1_38 : mGw (.code yX0_init cX0_init 3 none) := mG1 (i := 38) (by decide +kernel) rfl
theorem mw_1_37 : mGw (.instanceMethod yX0_init) := mG1 (i := 37) (by decide +kernel) rfl
theorem mw_1_36 : mGw (.methodLink RX8 11 yX0_init) := mG1 (i := 36) (by decide +kernel) rfl
theorem mw_1_92 : mGw (.classLink RX8 35 "[[I") := mG1 (i := 92) (by decide +kernel) rfl
theorem mw_1_94 : mGw (.classLink RX8 43 RX2) := mG1 (i := 94) (by decide +kernel) rfl
theorem mw_1_95 : mGw (.instantiable RX2 4) := mG1 (i := 95) (by decide +kernel) rfl
theorem mw_1_98 : mGw (.code yX2_init cX2_init 1 none) := mG1 (i := 98) (by decide +kernel) rfl
theorem mw_1_97 : mGw (.instanceMethod yX2_init) := mG1 (i := 97) (by decide +kernel) rfl
theorem mw_1_25 : mGw (.methodLink RX9 3 objectInit) := mG1 (i := 25) (by decide +kernel) rfl
theorem mw_1_28 : mGw (.classLink RX9 9 RX8) := mG1 (i := 28) (by decide +kernel) rfl
theorem mw_1_29 : mGw (.instantiable RX8 13) := mG1 (i := 29) (by decide +kernel) rfl
theorem mw_1_32 : mGw (.code yX8_init cX8_init 1 none) := mG1 (i := 32) (by decide +kernel) rfl
theorem mw_1_31 : mGw (.instanceMethod yX8_init) := mG1 (i := 31) (by decide +kernel) rfl
theorem mw_1_174 : mGw (.classLink RX9 19 RX0) := mG1 (i := 174) (by decide +kernel) rfl
theorem mw_1_175 : mGw (.methodLink RX9 21 yX0_init) := mG1 (i := 175) (by decide +kernel) rfl
theorem mw_1_176 : mGw (.classLink RX9 26 RX3) := mG1 (i := 176) (by decide +kernel) rfl
theorem mw_1_177 : mGw (.instantiable RX3 3) := mG1 (i := 177) (by decide +kernel) rfl
theorem mw_1_180 : mGw (.code yX3_init cX3_init 2 none) := mG1 (i := 180) (by decide +kernel) rfl
theorem mw_1_179 : mGw (.instanceMethod yX3_init) := mG1 (i := 179) (by decide +kernel) rfl
theorem mw_1_178 : mGw (.methodLink RX9 28 yX3_init) := mG1 (i := 178) (by decide +kernel) rfl
theorem mw_1_192 : mGw (.classLink RX9 35 RX1) := mG1 (i := 192) (by decide +kernel) rfl
theorem mw_1_193 : mGw (.instantiable RX1 5) := mG1 (i := 193) (by decide +kernel) rfl
theorem mw_1_196 : mGw (.code yX1_init cX1_init 2 none) := mG1 (i := 196) (by decide +kernel) rfl
theorem mw_1_195 : mGw (.instanceMethod yX1_init) := mG1 (i := 195) (by decide +kernel) rfl
theorem mw_1_194 : mGw (.methodLink RX9 37 yX1_init) := mG1 (i := 194) (by decide +kernel) rfl
theorem mw_1_219 : mGw (.classLink RX9 44 RX5) := mG1 (i := 219) (by decide +kernel) rfl
theorem mw_1_220 : mGw (.instantiable RX5 4) := mG1 (i := 220) (by decide +kernel) rfl
theorem mw_1_223 : mGw (.code yX5_init cX5_init 1 none) := mG1 (i := 223) (by decide +kernel) rfl
theorem mw_1_222 : mGw (.instanceMethod yX5_init) := mG1 (i := 222) (by decide +kernel) rfl
theorem mw_1_230 : mGw (.classLink RX9 51 RX4) := mG1 (i := 230) (by decide +kernel) rfl
theorem mw_1_231 : mGw (.instantiable RX4 4) := mG1 (i := 231) (by decide +kernel) rfl
theorem mw_1_234 : mGw (.code yX4_init cX4_init 1 none) := mG1 (i := 234) (by decide +kernel) rfl
theorem mw_1_233 : mGw (.instanceMethod yX4_init) := mG1 (i := 233) (by decide +kernel) rfl
theorem mw_2_1 : mGw (.classLink RX9 58 "CubeFolk$Shelf") := mG2 (i := 1) (by decide +kernel) rfl
theorem mw_2_3 : mGw (.instantiable RX6 8) := mG2 (i := 3) (by decide +kernel) rfl
theorem mw_2_6 : mGw (.code yX6_init cX6_init 1 none) := mG2 (i := 6) (by decide +kernel) rfl
theorem mw_2_5 : mGw (.instanceMethod yX6_init) := mG2 (i := 5) (by decide +kernel) rfl
theorem mw_5_136 : mGw (.methodLink RX10 1 objectInit) := mG5 (i := 136) (by decide +kernel) rfl
theorem hdS_X7_init : yX7_init.cls ≠ "java/lang/invoke/MethodHandle" ∧ yX7_init.cls ≠ "java/lang/invoke/VarHandle" ∧ (parseMethodDescriptor yX7_init.desc).map (fun d => d.parameters.length) = some 0 := ⟨by decide +kernel, by decide +kernel, by decide +kernel⟩
theorem hdS_X0_init : yX0_init.cls ≠ "java/lang/invoke/MethodHandle" ∧ yX0_init.cls ≠ "java/lang/invoke/VarHandle" ∧ (parseMethodDescriptor yX0_init.desc).map (fun d => d.parameters.length) = some 0 := ⟨by decide +kernel, by decide +kernel, by decide +kernel⟩
theorem hdS_X2_init : yX2_init.cls ≠ "java/lang/invoke/MethodHandle" ∧ yX2_init.cls ≠ "java/lang/invoke/VarHandle" ∧ (parseMethodDescriptor yX2_init.desc).map (fun d => d.parameters.length) = some 0 := ⟨by decide +kernel, by decide +kernel, by decide +kernel⟩
theorem hdS_X8_init : yX8_init.cls ≠ "java/lang/invoke/MethodHandle" ∧ yX8_init.cls ≠ "java/lang/invoke/VarHandle" ∧ (parseMethodDescriptor yX8_init.desc).map (fun d => d.parameters.length) = some 0 := ⟨by decide +kernel, by decide +kernel, by decide +kernel⟩
theorem hdS_X3_init : yX3_init.cls ≠ "java/lang/invoke/MethodHandle" ∧ yX3_init.cls ≠ "java/lang/invoke/VarHandle" ∧ (parseMethodDescriptor yX3_init.desc).map (fun d => d.parameters.length) = some 1 := ⟨by decide +kernel, by decide +kernel, by decide +kernel⟩
theorem hdS_X1_init : yX1_init.cls ≠ "java/lang/invoke/MethodHandle" ∧ yX1_init.cls ≠ "java/lang/invoke/VarHandle" ∧ (parseMethodDescriptor yX1_init.desc).map (fun d => d.parameters.length) = some 1 := ⟨by decide +kernel, by decide +kernel, by decide +kernel⟩
theorem hdS_X5_init : yX5_init.cls ≠ "java/lang/invoke/MethodHandle" ∧ yX5_init.cls ≠ "java/lang/invoke/VarHandle" ∧ (parseMethodDescriptor yX5_init.desc).map (fun d => d.parameters.length) = some 0 := ⟨by decide +kernel, by decide +kernel, by decide +kernel⟩
theorem hdS_X4_init : yX4_init.cls ≠ "java/lang/invoke/MethodHandle" ∧ yX4_init.cls ≠ "java/lang/invoke/VarHandle" ∧ (parseMethodDescriptor yX4_init.desc).map (fun d => d.parameters.length) = some 0 := ⟨by decide +kernel, by decide +kernel, by decide +kernel⟩
theorem hdS_X6_init : yX6_init.cls ≠ "java/lang/invoke/MethodHandle" ∧ yX6_init.cls ≠ "java/lang/invoke/VarHandle" ∧ (parseMethodDescriptor yX6_init.desc).map (fun d => d.parameters.length) = some 0 := ⟨by decide +kernel, by decide +kernel, by decide +kernel⟩
