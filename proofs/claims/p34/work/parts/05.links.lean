/-! The words of the tables, each by its place; the methods. -/
theorem tl_in1 {w : Cond} (h : w ∈ tables_1_1) : w ∈ tables_1 := List.mem_append_left _ h
theorem tl_in2 {w : Cond} (h : w ∈ tables_1_2) : w ∈ tables_1 := List.mem_append_right _ (List.mem_append_left _ h)
theorem tl_in3 {w : Cond} (h : w ∈ tables_1_3) : w ∈ tables_1 := List.mem_append_right _ (List.mem_append_right _ (List.mem_append_left _ h))
theorem tl_in4 {w : Cond} (h : w ∈ tables_1_4) : w ∈ tables_1 := List.mem_append_right _ (List.mem_append_right _ (List.mem_append_right _ (List.mem_append_left _ h)))
theorem tl_in5 {w : Cond} (h : w ∈ tables_1_5) : w ∈ tables_1 := List.mem_append_right _ (List.mem_append_right _ (List.mem_append_right _ (List.mem_append_right _ h)))
theorem in_L : Cond.initialized RL ∈ tl_GW := tl_inGW (tl_in1 (List.mem_of_getElem? (i := 0) rfl)) rfl
theorem in_X9 : Cond.initialized RX9 ∈ tl_GW := tl_inGW (tl_in1 (List.mem_of_getElem? (i := 1) rfl)) rfl
theorem in_X6 : Cond.initialized RX6 ∈ tl_GW := tl_inGW (tl_in1 (List.mem_of_getElem? (i := 2) rfl)) rfl
theorem in_X0 : Cond.initialized RX0 ∈ tl_GW := tl_inGW (tl_in1 (List.mem_of_getElem? (i := 3) rfl)) rfl
theorem in_X5 : Cond.initialized RX5 ∈ tl_GW := tl_inGW (tl_in1 (List.mem_of_getElem? (i := 4) rfl)) rfl
theorem in_X3 : Cond.initialized RX3 ∈ tl_GW := tl_inGW (tl_in1 (List.mem_of_getElem? (i := 5) rfl)) rfl
theorem in_X8 : Cond.initialized RX8 ∈ tl_GW := tl_inGW (tl_in1 (List.mem_of_getElem? (i := 6) rfl)) rfl
theorem in_X1 : Cond.initialized RX1 ∈ tl_GW := tl_inGW (tl_in1 (List.mem_of_getElem? (i := 7) rfl)) rfl
theorem in_X7 : Cond.initialized RX7 ∈ tl_GW := tl_inGW (tl_in1 (List.mem_of_getElem? (i := 8) rfl)) rfl
theorem in_X4 : Cond.initialized RX4 ∈ tl_GW := tl_inGW (tl_in1 (List.mem_of_getElem? (i := 9) rfl)) rfl
theorem in_X2 : Cond.initialized RX2 ∈ tl_GW := tl_inGW (tl_in1 (List.mem_of_getElem? (i := 10) rfl)) rfl
theorem in_java_lang_Throwable : Cond.initialized "java/lang/Throwable" ∈ tl_GW := tl_inGW (tl_in1 (List.mem_of_getElem? (i := 11) rfl)) rfl
theorem in_java_lang_Exception : Cond.initialized "java/lang/Exception" ∈ tl_GW := tl_inGW (tl_in1 (List.mem_of_getElem? (i := 12) rfl)) rfl
theorem in_java_lang_RuntimeException : Cond.initialized "java/lang/RuntimeException" ∈ tl_GW := tl_inGW (tl_in1 (List.mem_of_getElem? (i := 13) rfl)) rfl
theorem in_java_lang_IndexOutOfBoundsException : Cond.initialized "java/lang/IndexOutOfBoundsException" ∈ tl_GW := tl_inGW (tl_in1 (List.mem_of_getElem? (i := 14) rfl)) rfl
theorem in_java_lang_IllegalArgumentException : Cond.initialized "java/lang/IllegalArgumentException" ∈ tl_GW := tl_inGW (tl_in1 (List.mem_of_getElem? (i := 15) rfl)) rfl
theorem in_java_lang_IllegalStateException : Cond.initialized "java/lang/IllegalStateException" ∈ tl_GW := tl_inGW (tl_in1 (List.mem_of_getElem? (i := 16) rfl)) rfl
theorem in_J9 : Cond.initialized RJ9 ∈ tl_GW := tl_inGW (tl_in1 (List.mem_of_getElem? (i := 17) rfl)) rfl
theorem kk_L_8 : Cond.classLink RL 8 RX9 ∈ tl_GW := tl_inGW (tl_in1 (List.mem_of_getElem? (i := 18) rfl)) rfl
theorem ia_X9 : Cond.instantiable RX9 8 ∈ tl_GW := tl_inGW (tl_in1 (List.mem_of_getElem? (i := 19) rfl)) rfl
theorem ml_L_212 : Cond.methodLink RL 212 yX9_init ∈ tl_GW := tl_inGW (tl_in1 (List.mem_of_getElem? (i := 20) rfl)) rfl
theorem im_X9_init : Cond.instanceMethod yX9_init ∈ tl_GW := tl_inGW (tl_in1 (List.mem_of_getElem? (i := 21) rfl)) rfl
theorem cd_X9_init : Cond.code yX9_init cX9_init 2 none ∈ tl_GW := tl_inGW (tl_in1 (List.mem_of_getElem? (i := 22) rfl)) rfl
theorem ml_X9_3 : Cond.methodLink RX9 3 Lib.objectInit ∈ tl_GW := tl_inGW (tl_in1 (List.mem_of_getElem? (i := 23) rfl)) rfl
theorem im_objInit : Cond.instanceMethod Lib.objectInit ∈ tl_GW := tl_inGW (tl_in1 (List.mem_of_getElem? (i := 24) rfl)) rfl
theorem cd_objInit : Cond.code Lib.objectInit ⟨#[0xb1]⟩ 1 none ∈ tl_GW := tl_inGW (tl_in1 (List.mem_of_getElem? (i := 25) rfl)) rfl
theorem kk_X9_9 : Cond.classLink RX9 9 RX6 ∈ tl_GW := tl_inGW (tl_in1 (List.mem_of_getElem? (i := 26) rfl)) rfl
theorem ia_X6 : Cond.instantiable RX6 3 ∈ tl_GW := tl_inGW (tl_in1 (List.mem_of_getElem? (i := 27) rfl)) rfl
theorem im_X6_init : Cond.instanceMethod yX6_init ∈ tl_GW := tl_inGW (tl_in1 (List.mem_of_getElem? (i := 29) rfl)) rfl
theorem cd_X6_init : Cond.code yX6_init cX6_init 1 none ∈ tl_GW := tl_inGW (tl_in1 (List.mem_of_getElem? (i := 30) rfl)) rfl
theorem ml_X6_3 : Cond.methodLink RX6 3 Lib.objectInit ∈ tl_GW := tl_inGW (tl_in1 (List.mem_of_getElem? (i := 31) rfl)) rfl
theorem fl_X6_9 : Cond.fieldLink RX6 9 "TunnelLamps$MineText" "characters" "[C" ∈ tl_GW := tl_inGW (tl_in1 (List.mem_of_getElem? (i := 32) rfl)) rfl
theorem fl_X6_15 : Cond.fieldLink RX6 15 "TunnelLamps$MineText" "length" "I" ∈ tl_GW := tl_inGW (tl_in1 (List.mem_of_getElem? (i := 33) rfl)) rfl
theorem fl_X6_19 : Cond.fieldLink RX6 19 "TunnelLamps$MineText" "position" "I" ∈ tl_GW := tl_inGW (tl_in1 (List.mem_of_getElem? (i := 34) rfl)) rfl
theorem ac_char : Cond.arrayClass .char ∈ tl_GW := tl_inGW (tl_in1 (List.mem_of_getElem? (i := 42) rfl)) rfl
theorem kk_X9_16 : Cond.classLink RX9 16 RX0 ∈ tl_GW := tl_inGW (tl_in1 (List.mem_of_getElem? (i := 43) rfl)) rfl
theorem ia_X0 : Cond.instantiable RX0 5 ∈ tl_GW := tl_inGW (tl_in1 (List.mem_of_getElem? (i := 44) rfl)) rfl
theorem im_X0_init : Cond.instanceMethod yX0_init ∈ tl_GW := tl_inGW (tl_in1 (List.mem_of_getElem? (i := 46) rfl)) rfl
theorem cd_X0_init : Cond.code yX0_init cX0_init 1 none ∈ tl_GW := tl_inGW (tl_in1 (List.mem_of_getElem? (i := 47) rfl)) rfl
theorem ml_X0_1 : Cond.methodLink RX0 1 Lib.objectInit ∈ tl_GW := tl_inGW (tl_in1 (List.mem_of_getElem? (i := 48) rfl)) rfl
theorem fl_X0_7 : Cond.fieldLink RX0 7 "TunnelLamps$Command" "action" "I" ∈ tl_GW := tl_inGW (tl_in1 (List.mem_of_getElem? (i := 49) rfl)) rfl
theorem fl_X6_29 : Cond.fieldLink RX6 29 "TunnelLamps$Command" "action" "I" ∈ tl_GW := tl_inGW (tl_in1 (List.mem_of_getElem? (i := 50) rfl)) rfl
theorem fl_X5_135 : Cond.fieldLink RX5 135 "TunnelLamps$Command" "action" "I" ∈ tl_GW := tl_inGW (tl_in1 (List.mem_of_getElem? (i := 51) rfl)) rfl
theorem fl_X0_13 : Cond.fieldLink RX0 13 "TunnelLamps$Command" "a" "I" ∈ tl_GW := tl_inGW (tl_in1 (List.mem_of_getElem? (i := 52) rfl)) rfl
theorem fl_X6_59 : Cond.fieldLink RX6 59 "TunnelLamps$Command" "a" "I" ∈ tl_GW := tl_inGW (tl_in1 (List.mem_of_getElem? (i := 53) rfl)) rfl
theorem fl_X5_140 : Cond.fieldLink RX5 140 "TunnelLamps$Command" "a" "I" ∈ tl_GW := tl_inGW (tl_in1 (List.mem_of_getElem? (i := 54) rfl)) rfl
theorem fl_X0_16 : Cond.fieldLink RX0 16 "TunnelLamps$Command" "b" "I" ∈ tl_GW := tl_inGW (tl_in1 (List.mem_of_getElem? (i := 55) rfl)) rfl
theorem fl_X5_151 : Cond.fieldLink RX5 151 "TunnelLamps$Command" "b" "I" ∈ tl_GW := tl_inGW (tl_in1 (List.mem_of_getElem? (i := 56) rfl)) rfl
theorem fl_X0_19 : Cond.fieldLink RX0 19 "TunnelLamps$Command" "c" "I" ∈ tl_GW := tl_inGW (tl_in1 (List.mem_of_getElem? (i := 57) rfl)) rfl
theorem fl_X5_160 : Cond.fieldLink RX5 160 "TunnelLamps$Command" "c" "I" ∈ tl_GW := tl_inGW (tl_in1 (List.mem_of_getElem? (i := 58) rfl)) rfl
theorem fl_X0_22 : Cond.fieldLink RX0 22 "TunnelLamps$Command" "d" "I" ∈ tl_GW := tl_inGW (tl_in1 (List.mem_of_getElem? (i := 59) rfl)) rfl
theorem fl_X5_163 : Cond.fieldLink RX5 163 "TunnelLamps$Command" "d" "I" ∈ tl_GW := tl_inGW (tl_in1 (List.mem_of_getElem? (i := 60) rfl)) rfl
theorem kk_X9_23 : Cond.classLink RX9 23 RX5 ∈ tl_GW := tl_inGW (tl_in1 (List.mem_of_getElem? (i := 72) rfl)) rfl
theorem ia_X5 : Cond.instantiable RX5 16 ∈ tl_GW := tl_inGW (tl_in1 (List.mem_of_getElem? (i := 73) rfl)) rfl
theorem ml_X9_25 : Cond.methodLink RX9 25 yX5_init ∈ tl_GW := tl_inGW (tl_in1 (List.mem_of_getElem? (i := 74) rfl)) rfl
theorem im_X5_init : Cond.instanceMethod yX5_init ∈ tl_GW := tl_inGW (tl_in1 (List.mem_of_getElem? (i := 75) rfl)) rfl
theorem cd_X5_init : Cond.code yX5_init cX5_init 2 none ∈ tl_GW := tl_inGW (tl_in1 (List.mem_of_getElem? (i := 76) rfl)) rfl
theorem ml_X5_3 : Cond.methodLink RX5 3 Lib.objectInit ∈ tl_GW := tl_inGW (tl_in1 (List.mem_of_getElem? (i := 77) rfl)) rfl
theorem kk_X5_9 : Cond.classLink RX5 9 RX1 ∈ tl_GW := tl_inGW (tl_in1 (List.mem_of_getElem? (i := 78) rfl)) rfl
theorem kk_X5_17 : Cond.classLink RX5 17 RX7 ∈ tl_GW := tl_inGW (tl_in1 (List.mem_of_getElem? (i := 80) rfl)) rfl
theorem kk_X5_23 : Cond.classLink RX5 23 RX4 ∈ tl_GW := tl_inGW (tl_in1 (List.mem_of_getElem? (i := 82) rfl)) rfl
theorem kk_X5_29 : Cond.classLink RX5 29 RX3 ∈ tl_GW := tl_inGW (tl_in1 (List.mem_of_getElem? (i := 84) rfl)) rfl
theorem ia_X3 : Cond.instantiable RX3 7 ∈ tl_GW := tl_inGW (tl_in1 (List.mem_of_getElem? (i := 85) rfl)) rfl
theorem ml_X5_31 : Cond.methodLink RX5 31 yX3_init ∈ tl_GW := tl_inGW (tl_in1 (List.mem_of_getElem? (i := 86) rfl)) rfl
theorem im_X3_init : Cond.instanceMethod yX3_init ∈ tl_GW := tl_inGW (tl_in1 (List.mem_of_getElem? (i := 87) rfl)) rfl
theorem cd_X3_init : Cond.code yX3_init cX3_init 2 none ∈ tl_GW := tl_inGW (tl_in1 (List.mem_of_getElem? (i := 88) rfl)) rfl
theorem ml_X3_3 : Cond.methodLink RX3 3 Lib.objectInit ∈ tl_GW := tl_inGW (tl_in1 (List.mem_of_getElem? (i := 89) rfl)) rfl
theorem kk_X3_9 : Cond.classLink RX3 9 RX8 ∈ tl_GW := tl_inGW (tl_in1 (List.mem_of_getElem? (i := 90) rfl)) rfl
theorem ia_X8 : Cond.instantiable RX8 5 ∈ tl_GW := tl_inGW (tl_in1 (List.mem_of_getElem? (i := 92) rfl)) rfl
theorem im_X8_init : Cond.instanceMethod yX8_init ∈ tl_GW := tl_inGW (tl_in1 (List.mem_of_getElem? (i := 94) rfl)) rfl
theorem cd_X8_init : Cond.code yX8_init cX8_init 1 none ∈ tl_GW := tl_inGW (tl_in1 (List.mem_of_getElem? (i := 95) rfl)) rfl
theorem ml_X8_1 : Cond.methodLink RX8 1 Lib.objectInit ∈ tl_GW := tl_inGW (tl_in1 (List.mem_of_getElem? (i := 96) rfl)) rfl
theorem fl_X8_7 : Cond.fieldLink RX8 7 "TunnelLamps$Order" "kind" "I" ∈ tl_GW := tl_inGW (tl_in1 (List.mem_of_getElem? (i := 97) rfl)) rfl
theorem fl_X3_50 : Cond.fieldLink RX3 50 "TunnelLamps$Order" "kind" "I" ∈ tl_GW := tl_inGW (tl_in1 (List.mem_of_getElem? (i := 98) rfl)) rfl
theorem fl_X9_218 : Cond.fieldLink RX9 218 "TunnelLamps$Order" "kind" "I" ∈ tl_GW := tl_inGW (tl_in1 (List.mem_of_getElem? (i := 99) rfl)) rfl
theorem fl_X5_256 : Cond.fieldLink RX5 256 "TunnelLamps$Order" "kind" "I" ∈ tl_GW := tl_inGW (tl_in1 (List.mem_of_getElem? (i := 100) rfl)) rfl
theorem fl_X8_13 : Cond.fieldLink RX8 13 "TunnelLamps$Order" "lamp" "I" ∈ tl_GW := tl_inGW (tl_in1 (List.mem_of_getElem? (i := 101) rfl)) rfl
theorem fl_X3_53 : Cond.fieldLink RX3 53 "TunnelLamps$Order" "lamp" "I" ∈ tl_GW := tl_inGW (tl_in1 (List.mem_of_getElem? (i := 102) rfl)) rfl
theorem fl_X9_223 : Cond.fieldLink RX9 223 "TunnelLamps$Order" "lamp" "I" ∈ tl_GW := tl_inGW (tl_in1 (List.mem_of_getElem? (i := 103) rfl)) rfl
theorem fl_X5_251 : Cond.fieldLink RX5 251 "TunnelLamps$Order" "lamp" "I" ∈ tl_GW := tl_inGW (tl_in1 (List.mem_of_getElem? (i := 104) rfl)) rfl
theorem fl_X8_16 : Cond.fieldLink RX8 16 "TunnelLamps$Order" "gallery" "I" ∈ tl_GW := tl_inGW (tl_in1 (List.mem_of_getElem? (i := 105) rfl)) rfl
theorem fl_X3_54 : Cond.fieldLink RX3 54 "TunnelLamps$Order" "gallery" "I" ∈ tl_GW := tl_inGW (tl_in1 (List.mem_of_getElem? (i := 106) rfl)) rfl
theorem fl_X9_224 : Cond.fieldLink RX9 224 "TunnelLamps$Order" "gallery" "I" ∈ tl_GW := tl_inGW (tl_in1 (List.mem_of_getElem? (i := 107) rfl)) rfl
theorem fl_X5_283 : Cond.fieldLink RX5 283 "TunnelLamps$Order" "gallery" "I" ∈ tl_GW := tl_inGW (tl_in1 (List.mem_of_getElem? (i := 108) rfl)) rfl
theorem fl_X8_19 : Cond.fieldLink RX8 19 "TunnelLamps$Order" "cell" "I" ∈ tl_GW := tl_inGW (tl_in1 (List.mem_of_getElem? (i := 109) rfl)) rfl
theorem fl_X3_55 : Cond.fieldLink RX3 55 "TunnelLamps$Order" "cell" "I" ∈ tl_GW := tl_inGW (tl_in1 (List.mem_of_getElem? (i := 110) rfl)) rfl
theorem fl_X9_228 : Cond.fieldLink RX9 228 "TunnelLamps$Order" "cell" "I" ∈ tl_GW := tl_inGW (tl_in1 (List.mem_of_getElem? (i := 111) rfl)) rfl
theorem fl_X5_284 : Cond.fieldLink RX5 284 "TunnelLamps$Order" "cell" "I" ∈ tl_GW := tl_inGW (tl_in1 (List.mem_of_getElem? (i := 112) rfl)) rfl
theorem fl_X8_22 : Cond.fieldLink RX8 22 "TunnelLamps$Order" "amount" "I" ∈ tl_GW := tl_inGW (tl_in1 (List.mem_of_getElem? (i := 113) rfl)) rfl
theorem fl_X3_56 : Cond.fieldLink RX3 56 "TunnelLamps$Order" "amount" "I" ∈ tl_GW := tl_inGW (tl_in1 (List.mem_of_getElem? (i := 114) rfl)) rfl
theorem fl_X9_225 : Cond.fieldLink RX9 225 "TunnelLamps$Order" "amount" "I" ∈ tl_GW := tl_inGW (tl_in1 (List.mem_of_getElem? (i := 115) rfl)) rfl
theorem fl_X5_286 : Cond.fieldLink RX5 286 "TunnelLamps$Order" "amount" "I" ∈ tl_GW := tl_inGW (tl_in1 (List.mem_of_getElem? (i := 116) rfl)) rfl
theorem fl_X3_11 : Cond.fieldLink RX3 11 "TunnelLamps$Lad" "orders" "[LTunnelLamps$Order;" ∈ tl_GW := tl_inGW (tl_in1 (List.mem_of_getElem? (i := 128) rfl)) rfl
theorem fl_X9_214 : Cond.fieldLink RX9 214 "TunnelLamps$Lad" "orders" "[LTunnelLamps$Order;" ∈ tl_GW := tl_inGW (tl_in1 (List.mem_of_getElem? (i := 129) rfl)) rfl
theorem fl_X5_247 : Cond.fieldLink RX5 247 "TunnelLamps$Lad" "orders" "[LTunnelLamps$Order;" ∈ tl_GW := tl_inGW (tl_in1 (List.mem_of_getElem? (i := 130) rfl)) rfl
theorem fl_X3_26 : Cond.fieldLink RX3 26 "TunnelLamps$Lad" "orderCount" "I" ∈ tl_GW := tl_inGW (tl_in1 (List.mem_of_getElem? (i := 131) rfl)) rfl
theorem fl_X9_129 : Cond.fieldLink RX9 129 "TunnelLamps$Lad" "orderCount" "I" ∈ tl_GW := tl_inGW (tl_in1 (List.mem_of_getElem? (i := 132) rfl)) rfl
theorem fl_X5_223 : Cond.fieldLink RX5 223 "TunnelLamps$Lad" "orderCount" "I" ∈ tl_GW := tl_inGW (tl_in1 (List.mem_of_getElem? (i := 133) rfl)) rfl
theorem fl_X3_29 : Cond.fieldLink RX3 29 "TunnelLamps$Lad" "gallery" "I" ∈ tl_GW := tl_inGW (tl_in1 (List.mem_of_getElem? (i := 134) rfl)) rfl
theorem fl_X9_203 : Cond.fieldLink RX9 203 "TunnelLamps$Lad" "gallery" "I" ∈ tl_GW := tl_inGW (tl_in1 (List.mem_of_getElem? (i := 135) rfl)) rfl
theorem fl_X5_282 : Cond.fieldLink RX5 282 "TunnelLamps$Lad" "gallery" "I" ∈ tl_GW := tl_inGW (tl_in1 (List.mem_of_getElem? (i := 136) rfl)) rfl
theorem fl_X3_32 : Cond.fieldLink RX3 32 "TunnelLamps$Lad" "cell" "I" ∈ tl_GW := tl_inGW (tl_in1 (List.mem_of_getElem? (i := 137) rfl)) rfl
theorem fl_X9_204 : Cond.fieldLink RX9 204 "TunnelLamps$Lad" "cell" "I" ∈ tl_GW := tl_inGW (tl_in1 (List.mem_of_getElem? (i := 138) rfl)) rfl
theorem fl_X5_285 : Cond.fieldLink RX5 285 "TunnelLamps$Lad" "cell" "I" ∈ tl_GW := tl_inGW (tl_in1 (List.mem_of_getElem? (i := 139) rfl)) rfl
theorem fl_X3_17 : Cond.fieldLink RX3 17 "TunnelLamps$Lad" "lamp" "I" ∈ tl_GW := tl_inGW (tl_in1 (List.mem_of_getElem? (i := 140) rfl)) rfl
theorem fl_X9_205 : Cond.fieldLink RX9 205 "TunnelLamps$Lad" "lamp" "I" ∈ tl_GW := tl_inGW (tl_in1 (List.mem_of_getElem? (i := 141) rfl)) rfl
theorem fl_X5_259 : Cond.fieldLink RX5 259 "TunnelLamps$Lad" "lamp" "I" ∈ tl_GW := tl_inGW (tl_in1 (List.mem_of_getElem? (i := 142) rfl)) rfl
theorem fl_X3_35 : Cond.fieldLink RX3 35 "TunnelLamps$Lad" "oil" "I" ∈ tl_GW := tl_inGW (tl_in1 (List.mem_of_getElem? (i := 143) rfl)) rfl
theorem fl_X9_115 : Cond.fieldLink RX9 115 "TunnelLamps$Lad" "oil" "I" ∈ tl_GW := tl_inGW (tl_in1 (List.mem_of_getElem? (i := 144) rfl)) rfl
theorem fl_X5_289 : Cond.fieldLink RX5 289 "TunnelLamps$Lad" "oil" "I" ∈ tl_GW := tl_inGW (tl_in1 (List.mem_of_getElem? (i := 145) rfl)) rfl
theorem fl_X3_38 : Cond.fieldLink RX3 38 "TunnelLamps$Lad" "hasFetched" "Z" ∈ tl_GW := tl_inGW (tl_in1 (List.mem_of_getElem? (i := 146) rfl)) rfl
theorem fl_X5_267 : Cond.fieldLink RX5 267 "TunnelLamps$Lad" "hasFetched" "Z" ∈ tl_GW := tl_inGW (tl_in1 (List.mem_of_getElem? (i := 147) rfl)) rfl
theorem ia_X1 : Cond.instantiable RX1 2 ∈ tl_GW := tl_inGW (tl_in1 (List.mem_of_getElem? (i := 163) rfl)) rfl
theorem im_X1_init : Cond.instanceMethod yX1_init ∈ tl_GW := tl_inGW (tl_in1 (List.mem_of_getElem? (i := 165) rfl)) rfl
theorem cd_X1_init : Cond.code yX1_init cX1_init 1 none ∈ tl_GW := tl_inGW (tl_in1 (List.mem_of_getElem? (i := 166) rfl)) rfl
theorem ml_X1_3 : Cond.methodLink RX1 3 Lib.objectInit ∈ tl_GW := tl_inGW (tl_in1 (List.mem_of_getElem? (i := 167) rfl)) rfl
theorem fl_X1_9 : Cond.fieldLink RX1 9 "TunnelLamps$Gallery" "depth" "I" ∈ tl_GW := tl_inGW (tl_in1 (List.mem_of_getElem? (i := 168) rfl)) rfl
theorem fl_X5_93 : Cond.fieldLink RX5 93 "TunnelLamps$Gallery" "depth" "I" ∈ tl_GW := tl_inGW (tl_in1 (List.mem_of_getElem? (i := 169) rfl)) rfl
theorem fl_X9_146 : Cond.fieldLink RX9 146 "TunnelLamps$Gallery" "depth" "I" ∈ tl_GW := tl_inGW (tl_in1 (List.mem_of_getElem? (i := 170) rfl)) rfl
theorem fl_X1_15 : Cond.fieldLink RX1 15 "TunnelLamps$Gallery" "strokes" "I" ∈ tl_GW := tl_inGW (tl_in1 (List.mem_of_getElem? (i := 171) rfl)) rfl
theorem fl_X9_151 : Cond.fieldLink RX9 151 "TunnelLamps$Gallery" "strokes" "I" ∈ tl_GW := tl_inGW (tl_in1 (List.mem_of_getElem? (i := 172) rfl)) rfl
theorem fl_X5_215 : Cond.fieldLink RX5 215 "TunnelLamps$Gallery" "strokes" "I" ∈ tl_GW := tl_inGW (tl_in1 (List.mem_of_getElem? (i := 173) rfl)) rfl
theorem ia_X7 : Cond.instantiable RX7 4 ∈ tl_GW := tl_inGW (tl_in1 (List.mem_of_getElem? (i := 179) rfl)) rfl
theorem im_X7_init : Cond.instanceMethod yX7_init ∈ tl_GW := tl_inGW (tl_in1 (List.mem_of_getElem? (i := 181) rfl)) rfl
theorem cd_X7_init : Cond.code yX7_init cX7_init 1 none ∈ tl_GW := tl_inGW (tl_in1 (List.mem_of_getElem? (i := 182) rfl)) rfl
theorem ml_X7_1 : Cond.methodLink RX7 1 Lib.objectInit ∈ tl_GW := tl_inGW (tl_in1 (List.mem_of_getElem? (i := 183) rfl)) rfl
theorem fl_X7_7 : Cond.fieldLink RX7 7 "TunnelLamps$Miner" "gallery" "I" ∈ tl_GW := tl_inGW (tl_in1 (List.mem_of_getElem? (i := 184) rfl)) rfl
theorem fl_X5_99 : Cond.fieldLink RX5 99 "TunnelLamps$Miner" "gallery" "I" ∈ tl_GW := tl_inGW (tl_in1 (List.mem_of_getElem? (i := 185) rfl)) rfl
theorem fl_X9_176 : Cond.fieldLink RX9 176 "TunnelLamps$Miner" "gallery" "I" ∈ tl_GW := tl_inGW (tl_in1 (List.mem_of_getElem? (i := 186) rfl)) rfl
theorem fl_X7_13 : Cond.fieldLink RX7 13 "TunnelLamps$Miner" "pace" "I" ∈ tl_GW := tl_inGW (tl_in1 (List.mem_of_getElem? (i := 187) rfl)) rfl
theorem fl_X9_181 : Cond.fieldLink RX9 181 "TunnelLamps$Miner" "pace" "I" ∈ tl_GW := tl_inGW (tl_in1 (List.mem_of_getElem? (i := 188) rfl)) rfl
theorem fl_X5_218 : Cond.fieldLink RX5 218 "TunnelLamps$Miner" "pace" "I" ∈ tl_GW := tl_inGW (tl_in1 (List.mem_of_getElem? (i := 189) rfl)) rfl
theorem fl_X7_16 : Cond.fieldLink RX7 16 "TunnelLamps$Miner" "strokes" "I" ∈ tl_GW := tl_inGW (tl_in1 (List.mem_of_getElem? (i := 190) rfl)) rfl
theorem fl_X9_184 : Cond.fieldLink RX9 184 "TunnelLamps$Miner" "strokes" "I" ∈ tl_GW := tl_inGW (tl_in1 (List.mem_of_getElem? (i := 191) rfl)) rfl
theorem fl_X5_221 : Cond.fieldLink RX5 221 "TunnelLamps$Miner" "strokes" "I" ∈ tl_GW := tl_inGW (tl_in1 (List.mem_of_getElem? (i := 192) rfl)) rfl
theorem fl_X7_19 : Cond.fieldLink RX7 19 "TunnelLamps$Miner" "darkHours" "I" ∈ tl_GW := tl_inGW (tl_in1 (List.mem_of_getElem? (i := 193) rfl)) rfl
theorem fl_X9_185 : Cond.fieldLink RX9 185 "TunnelLamps$Miner" "darkHours" "I" ∈ tl_GW := tl_inGW (tl_in1 (List.mem_of_getElem? (i := 194) rfl)) rfl
theorem fl_X5_222 : Cond.fieldLink RX5 222 "TunnelLamps$Miner" "darkHours" "I" ∈ tl_GW := tl_inGW (tl_in1 (List.mem_of_getElem? (i := 195) rfl)) rfl
theorem ia_X4 : Cond.instantiable RX4 4 ∈ tl_GW := tl_inGW (tl_in1 (List.mem_of_getElem? (i := 205) rfl)) rfl
theorem im_X4_init : Cond.instanceMethod yX4_init ∈ tl_GW := tl_inGW (tl_in1 (List.mem_of_getElem? (i := 207) rfl)) rfl
theorem cd_X4_init : Cond.code yX4_init cX4_init 1 none ∈ tl_GW := tl_inGW (tl_in1 (List.mem_of_getElem? (i := 208) rfl)) rfl
theorem ml_X4_1 : Cond.methodLink RX4 1 Lib.objectInit ∈ tl_GW := tl_inGW (tl_in1 (List.mem_of_getElem? (i := 209) rfl)) rfl
theorem fl_X4_7 : Cond.fieldLink RX4 7 "TunnelLamps$Lamp" "gallery" "I" ∈ tl_GW := tl_inGW (tl_in1 (List.mem_of_getElem? (i := 210) rfl)) rfl
theorem fl_X5_102 : Cond.fieldLink RX5 102 "TunnelLamps$Lamp" "gallery" "I" ∈ tl_GW := tl_inGW (tl_in1 (List.mem_of_getElem? (i := 211) rfl)) rfl
theorem fl_X9_199 : Cond.fieldLink RX9 199 "TunnelLamps$Lamp" "gallery" "I" ∈ tl_GW := tl_inGW (tl_in1 (List.mem_of_getElem? (i := 212) rfl)) rfl
theorem fl_X4_13 : Cond.fieldLink RX4 13 "TunnelLamps$Lamp" "cell" "I" ∈ tl_GW := tl_inGW (tl_in1 (List.mem_of_getElem? (i := 213) rfl)) rfl
theorem fl_X9_200 : Cond.fieldLink RX9 200 "TunnelLamps$Lamp" "cell" "I" ∈ tl_GW := tl_inGW (tl_in1 (List.mem_of_getElem? (i := 214) rfl)) rfl
theorem fl_X5_110 : Cond.fieldLink RX5 110 "TunnelLamps$Lamp" "cell" "I" ∈ tl_GW := tl_inGW (tl_in1 (List.mem_of_getElem? (i := 215) rfl)) rfl
theorem fl_X4_16 : Cond.fieldLink RX4 16 "TunnelLamps$Lamp" "reach" "I" ∈ tl_GW := tl_inGW (tl_in1 (List.mem_of_getElem? (i := 216) rfl)) rfl
theorem fl_X9_193 : Cond.fieldLink RX9 193 "TunnelLamps$Lamp" "reach" "I" ∈ tl_GW := tl_inGW (tl_in1 (List.mem_of_getElem? (i := 217) rfl)) rfl
theorem fl_X5_113 : Cond.fieldLink RX5 113 "TunnelLamps$Lamp" "reach" "I" ∈ tl_GW := tl_inGW (tl_in1 (List.mem_of_getElem? (i := 218) rfl)) rfl
theorem fl_X4_19 : Cond.fieldLink RX4 19 "TunnelLamps$Lamp" "oil" "I" ∈ tl_GW := tl_inGW (tl_in1 (List.mem_of_getElem? (i := 219) rfl)) rfl
theorem fl_X5_96 : Cond.fieldLink RX5 96 "TunnelLamps$Lamp" "oil" "I" ∈ tl_GW := tl_inGW (tl_in1 (List.mem_of_getElem? (i := 220) rfl)) rfl
theorem fl_X9_198 : Cond.fieldLink RX9 198 "TunnelLamps$Lamp" "oil" "I" ∈ tl_GW := tl_inGW (tl_in1 (List.mem_of_getElem? (i := 221) rfl)) rfl
theorem fl_X5_11 : Cond.fieldLink RX5 11 "TunnelLamps$Mine" "galleries" "[LTunnelLamps$Gallery;" ∈ tl_GW := tl_inGW (tl_in1 (List.mem_of_getElem? (i := 231) rfl)) rfl
theorem fl_X9_142 : Cond.fieldLink RX9 142 "TunnelLamps$Mine" "galleries" "[LTunnelLamps$Gallery;" ∈ tl_GW := tl_inGW (tl_in1 (List.mem_of_getElem? (i := 232) rfl)) rfl
theorem fl_X5_19 : Cond.fieldLink RX5 19 "TunnelLamps$Mine" "miners" "[LTunnelLamps$Miner;" ∈ tl_GW := tl_inGW (tl_in1 (List.mem_of_getElem? (i := 233) rfl)) rfl
theorem fl_X9_172 : Cond.fieldLink RX9 172 "TunnelLamps$Mine" "miners" "[LTunnelLamps$Miner;" ∈ tl_GW := tl_inGW (tl_in1 (List.mem_of_getElem? (i := 234) rfl)) rfl
theorem fl_X5_25 : Cond.fieldLink RX5 25 "TunnelLamps$Mine" "lamps" "[LTunnelLamps$Lamp;" ∈ tl_GW := tl_inGW (tl_in1 (List.mem_of_getElem? (i := 235) rfl)) rfl
theorem fl_X9_189 : Cond.fieldLink RX9 189 "TunnelLamps$Mine" "lamps" "[LTunnelLamps$Lamp;" ∈ tl_GW := tl_inGW (tl_in1 (List.mem_of_getElem? (i := 236) rfl)) rfl
theorem fl_X5_32 : Cond.fieldLink RX5 32 "TunnelLamps$Mine" "lad" "LTunnelLamps$Lad;" ∈ tl_GW := tl_inGW (tl_in1 (List.mem_of_getElem? (i := 237) rfl)) rfl
theorem fl_X9_111 : Cond.fieldLink RX9 111 "TunnelLamps$Mine" "lad" "LTunnelLamps$Lad;" ∈ tl_GW := tl_inGW (tl_in1 (List.mem_of_getElem? (i := 238) rfl)) rfl
theorem fl_X5_56 : Cond.fieldLink RX5 56 "TunnelLamps$Mine" "galleryCount" "I" ∈ tl_GW := tl_inGW (tl_in1 (List.mem_of_getElem? (i := 239) rfl)) rfl
theorem fl_X9_92 : Cond.fieldLink RX9 92 "TunnelLamps$Mine" "galleryCount" "I" ∈ tl_GW := tl_inGW (tl_in2 (List.mem_of_getElem? (i := 0) rfl)) rfl
theorem fl_X5_59 : Cond.fieldLink RX5 59 "TunnelLamps$Mine" "minerCount" "I" ∈ tl_GW := tl_inGW (tl_in2 (List.mem_of_getElem? (i := 1) rfl)) rfl
theorem fl_X9_96 : Cond.fieldLink RX9 96 "TunnelLamps$Mine" "minerCount" "I" ∈ tl_GW := tl_inGW (tl_in2 (List.mem_of_getElem? (i := 2) rfl)) rfl
theorem fl_X5_62 : Cond.fieldLink RX5 62 "TunnelLamps$Mine" "lampCount" "I" ∈ tl_GW := tl_inGW (tl_in2 (List.mem_of_getElem? (i := 3) rfl)) rfl
theorem fl_X9_99 : Cond.fieldLink RX9 99 "TunnelLamps$Mine" "lampCount" "I" ∈ tl_GW := tl_inGW (tl_in2 (List.mem_of_getElem? (i := 4) rfl)) rfl
theorem fl_X5_65 : Cond.fieldLink RX5 65 "TunnelLamps$Mine" "time" "I" ∈ tl_GW := tl_inGW (tl_in2 (List.mem_of_getElem? (i := 5) rfl)) rfl
theorem fl_X9_102 : Cond.fieldLink RX9 102 "TunnelLamps$Mine" "time" "I" ∈ tl_GW := tl_inGW (tl_in2 (List.mem_of_getElem? (i := 6) rfl)) rfl
theorem fl_X5_68 : Cond.fieldLink RX5 68 "TunnelLamps$Mine" "store" "I" ∈ tl_GW := tl_inGW (tl_in2 (List.mem_of_getElem? (i := 7) rfl)) rfl
theorem fl_X9_105 : Cond.fieldLink RX9 105 "TunnelLamps$Mine" "store" "I" ∈ tl_GW := tl_inGW (tl_in2 (List.mem_of_getElem? (i := 8) rfl)) rfl
theorem fl_X5_71 : Cond.fieldLink RX5 71 "TunnelLamps$Mine" "burnt" "I" ∈ tl_GW := tl_inGW (tl_in2 (List.mem_of_getElem? (i := 9) rfl)) rfl
theorem fl_X9_120 : Cond.fieldLink RX9 120 "TunnelLamps$Mine" "burnt" "I" ∈ tl_GW := tl_inGW (tl_in2 (List.mem_of_getElem? (i := 10) rfl)) rfl
theorem fl_X5_74 : Cond.fieldLink RX5 74 "TunnelLamps$Mine" "spilled" "I" ∈ tl_GW := tl_inGW (tl_in2 (List.mem_of_getElem? (i := 11) rfl)) rfl
theorem fl_X9_123 : Cond.fieldLink RX9 123 "TunnelLamps$Mine" "spilled" "I" ∈ tl_GW := tl_inGW (tl_in2 (List.mem_of_getElem? (i := 12) rfl)) rfl
theorem fl_X5_77 : Cond.fieldLink RX5 77 "TunnelLamps$Mine" "came" "I" ∈ tl_GW := tl_inGW (tl_in2 (List.mem_of_getElem? (i := 13) rfl)) rfl
theorem fl_X9_126 : Cond.fieldLink RX9 126 "TunnelLamps$Mine" "came" "I" ∈ tl_GW := tl_inGW (tl_in2 (List.mem_of_getElem? (i := 14) rfl)) rfl
theorem fl_X5_80 : Cond.fieldLink RX5 80 "TunnelLamps$Mine" "darkHours" "I" ∈ tl_GW := tl_inGW (tl_in2 (List.mem_of_getElem? (i := 15) rfl)) rfl
theorem fl_X9_132 : Cond.fieldLink RX9 132 "TunnelLamps$Mine" "darkHours" "I" ∈ tl_GW := tl_inGW (tl_in2 (List.mem_of_getElem? (i := 16) rfl)) rfl
theorem fl_X5_83 : Cond.fieldLink RX5 83 "TunnelLamps$Mine" "dug" "I" ∈ tl_GW := tl_inGW (tl_in2 (List.mem_of_getElem? (i := 17) rfl)) rfl
theorem fl_X9_135 : Cond.fieldLink RX9 135 "TunnelLamps$Mine" "dug" "I" ∈ tl_GW := tl_inGW (tl_in2 (List.mem_of_getElem? (i := 18) rfl)) rfl
theorem fl_X5_36 : Cond.fieldLink RX5 36 "TunnelLamps$Mine" "stepsAnHour" "I" ∈ tl_GW := tl_inGW (tl_in2 (List.mem_of_getElem? (i := 19) rfl)) rfl
theorem fl_X5_86 : Cond.fieldLink RX5 86 "TunnelLamps$Mine" "ladLooksAround" "I" ∈ tl_GW := tl_inGW (tl_in2 (List.mem_of_getElem? (i := 20) rfl)) rfl
theorem fl_X9_248 : Cond.fieldLink RX9 248 "TunnelLamps$Mine" "ladLooksAround" "I" ∈ tl_GW := tl_inGW (tl_in2 (List.mem_of_getElem? (i := 21) rfl)) rfl
theorem kk_X9_36 : Cond.classLink RX9 36 RX2 ∈ tl_GW := tl_inGW (tl_in2 (List.mem_of_getElem? (i := 55) rfl)) rfl
theorem ia_X2 : Cond.instantiable RX2 3 ∈ tl_GW := tl_inGW (tl_in2 (List.mem_of_getElem? (i := 56) rfl)) rfl
theorem ml_X9_38 : Cond.methodLink RX9 38 yX2_init ∈ tl_GW := tl_inGW (tl_in2 (List.mem_of_getElem? (i := 57) rfl)) rfl
theorem im_X2_init : Cond.instanceMethod yX2_init ∈ tl_GW := tl_inGW (tl_in2 (List.mem_of_getElem? (i := 58) rfl)) rfl
theorem cd_X2_init : Cond.code yX2_init cX2_init 2 none ∈ tl_GW := tl_inGW (tl_in2 (List.mem_of_getElem? (i := 59) rfl)) rfl
theorem ml_X2_3 : Cond.methodLink RX2 3 Lib.objectInit ∈ tl_GW := tl_inGW (tl_in2 (List.mem_of_getElem? (i := 60) rfl)) rfl
theorem kk_X2_9 : Cond.classLink RX2 9 RX5 ∈ tl_GW := tl_inGW (tl_in2 (List.mem_of_getElem? (i := 61) rfl)) rfl
theorem ml_X2_17 : Cond.methodLink RX2 17 yX5_init ∈ tl_GW := tl_inGW (tl_in2 (List.mem_of_getElem? (i := 63) rfl)) rfl
theorem fl_X2_11 : Cond.fieldLink RX2 11 "TunnelLamps$History" "states" "[LTunnelLamps$Mine;" ∈ tl_GW := tl_inGW (tl_in2 (List.mem_of_getElem? (i := 64) rfl)) rfl
theorem fl_X2_22 : Cond.fieldLink RX2 22 "TunnelLamps$History" "oldest" "I" ∈ tl_GW := tl_inGW (tl_in2 (List.mem_of_getElem? (i := 65) rfl)) rfl
theorem fl_X2_18 : Cond.fieldLink RX2 18 "TunnelLamps$History" "count" "I" ∈ tl_GW := tl_inGW (tl_in2 (List.mem_of_getElem? (i := 66) rfl)) rfl
theorem fl_X9_239 : Cond.fieldLink RX9 239 "TunnelLamps$History" "count" "I" ∈ tl_GW := tl_inGW (tl_in2 (List.mem_of_getElem? (i := 67) rfl)) rfl
theorem fl_X9_12 : Cond.fieldLink RX9 12 "TunnelLamps" "text" "LTunnelLamps$MineText;" ∈ tl_GW := tl_inGW (tl_in2 (List.mem_of_getElem? (i := 75) rfl)) rfl
theorem fl_X9_19 : Cond.fieldLink RX9 19 "TunnelLamps" "command" "LTunnelLamps$Command;" ∈ tl_GW := tl_inGW (tl_in2 (List.mem_of_getElem? (i := 76) rfl)) rfl
theorem fl_X9_26 : Cond.fieldLink RX9 26 "TunnelLamps" "mine" "LTunnelLamps$Mine;" ∈ tl_GW := tl_inGW (tl_in2 (List.mem_of_getElem? (i := 77) rfl)) rfl
theorem fl_X9_30 : Cond.fieldLink RX9 30 "TunnelLamps" "fresh" "LTunnelLamps$Mine;" ∈ tl_GW := tl_inGW (tl_in2 (List.mem_of_getElem? (i := 78) rfl)) rfl
theorem fl_X9_33 : Cond.fieldLink RX9 33 "TunnelLamps" "copy" "LTunnelLamps$Mine;" ∈ tl_GW := tl_inGW (tl_in2 (List.mem_of_getElem? (i := 79) rfl)) rfl
theorem fl_X9_39 : Cond.fieldLink RX9 39 "TunnelLamps" "history" "LTunnelLamps$History;" ∈ tl_GW := tl_inGW (tl_in2 (List.mem_of_getElem? (i := 80) rfl)) rfl
theorem fl_X9_43 : Cond.fieldLink RX9 43 "TunnelLamps" "slots" "[LTunnelLamps$Mine;" ∈ tl_GW := tl_inGW (tl_in2 (List.mem_of_getElem? (i := 81) rfl)) rfl
theorem fl_X9_47 : Cond.fieldLink RX9 47 "TunnelLamps" "slotIsUsed" "[Z" ∈ tl_GW := tl_inGW (tl_in2 (List.mem_of_getElem? (i := 82) rfl)) rfl
theorem ac_boolean : Cond.arrayClass .boolean ∈ tl_GW := tl_inGW (tl_in2 (List.mem_of_getElem? (i := 100) rfl)) rfl
theorem ml_L_189 : Cond.methodLink RL 189 yL_call ∈ tl_GW := tl_inGW (tl_in2 (List.mem_of_getElem? (i := 101) rfl)) rfl
theorem sm_L_call : Cond.static yL_call ∈ tl_GW := tl_inGW (tl_in2 (List.mem_of_getElem? (i := 102) rfl)) rfl
theorem cd_L_call : Cond.code yL_call cL_call 5 (some .int) ∈ tl_GW := tl_inGW (tl_in2 (List.mem_of_getElem? (i := 103) rfl)) rfl
theorem ml_L_109 : Cond.methodLink RL 109 yL_tryAppend ∈ tl_GW := tl_inGW (tl_in2 (List.mem_of_getElem? (i := 104) rfl)) rfl
theorem sm_L_tryAppend : Cond.static yL_tryAppend ∈ tl_GW := tl_inGW (tl_in2 (List.mem_of_getElem? (i := 105) rfl)) rfl
theorem kk_L_16 : Cond.classLink RL 16 "java/lang/IllegalArgumentException" ∈ tl_GW := tl_inGW (tl_in2 (List.mem_of_getElem? (i := 107) rfl)) rfl
theorem kk_L_19 : Cond.classLink RL 19 "java/lang/IllegalStateException" ∈ tl_GW := tl_inGW (tl_in2 (List.mem_of_getElem? (i := 108) rfl)) rfl
theorem ml_L_33 : Cond.methodLink RL 33 yX9_append ∈ tl_GW := tl_inGW (tl_in2 (List.mem_of_getElem? (i := 109) rfl)) rfl
theorem im_X9_append : Cond.instanceMethod yX9_append ∈ tl_GW := tl_inGW (tl_in2 (List.mem_of_getElem? (i := 110) rfl)) rfl
theorem se_X9_append : Cond.selects RX9 yX9_append yX9_append ∈ tl_GW := tl_inGW (tl_in2 (List.mem_of_getElem? (i := 111) rfl)) rfl
theorem cd_X9_append : Cond.code yX9_append cX9_append 2 (some .int) ∈ tl_GW := tl_inGW (tl_in2 (List.mem_of_getElem? (i := 112) rfl)) rfl
theorem ml_X9_51 : Cond.methodLink RX9 51 yX9_isWithin ∈ tl_GW := tl_inGW (tl_in2 (List.mem_of_getElem? (i := 113) rfl)) rfl
theorem sm_X9_isWithin : Cond.static yX9_isWithin ∈ tl_GW := tl_inGW (tl_in2 (List.mem_of_getElem? (i := 114) rfl)) rfl
theorem cd_X9_isWithin : Cond.code yX9_isWithin cX9_isWithin 3 (some .boolean) ∈ tl_GW := tl_inGW (tl_in2 (List.mem_of_getElem? (i := 115) rfl)) rfl
theorem ml_X9_55 : Cond.methodLink RX9 55 yX6_isFull ∈ tl_GW := tl_inGW (tl_in2 (List.mem_of_getElem? (i := 116) rfl)) rfl
theorem im_X6_isFull : Cond.instanceMethod yX6_isFull ∈ tl_GW := tl_inGW (tl_in2 (List.mem_of_getElem? (i := 117) rfl)) rfl
theorem se_X6_isFull : Cond.selects RX6 yX6_isFull yX6_isFull ∈ tl_GW := tl_inGW (tl_in2 (List.mem_of_getElem? (i := 118) rfl)) rfl
theorem cd_X6_isFull : Cond.code yX6_isFull cX6_isFull 1 (some .boolean) ∈ tl_GW := tl_inGW (tl_in2 (List.mem_of_getElem? (i := 119) rfl)) rfl
theorem ml_X9_59 : Cond.methodLink RX9 59 yX9_demand ∈ tl_GW := tl_inGW (tl_in2 (List.mem_of_getElem? (i := 120) rfl)) rfl
theorem sm_X9_demand : Cond.static yX9_demand ∈ tl_GW := tl_inGW (tl_in2 (List.mem_of_getElem? (i := 121) rfl)) rfl
theorem cd_X9_demand : Cond.code yX9_demand cX9_demand 3 none ∈ tl_GW := tl_inGW (tl_in2 (List.mem_of_getElem? (i := 122) rfl)) rfl
theorem ml_X9_308 : Cond.methodLink RX9 308 yX9_refusalOf ∈ tl_GW := tl_inGW (tl_in2 (List.mem_of_getElem? (i := 123) rfl)) rfl
theorem sm_X9_refusalOf : Cond.static yX9_refusalOf ∈ tl_GW := tl_inGW (tl_in2 (List.mem_of_getElem? (i := 124) rfl)) rfl
theorem cd_X9_refusalOf : Cond.code yX9_refusalOf cX9_refusalOf 3 (some .int) ∈ tl_GW := tl_inGW (tl_in2 (List.mem_of_getElem? (i := 125) rfl)) rfl
theorem ml_X9_299 : Cond.methodLink RX9 299 yX9_throwFor ∈ tl_GW := tl_inGW (tl_in2 (List.mem_of_getElem? (i := 126) rfl)) rfl
theorem sm_X9_throwFor : Cond.static yX9_throwFor ∈ tl_GW := tl_inGW (tl_in2 (List.mem_of_getElem? (i := 127) rfl)) rfl
theorem cd_X9_throwFor : Cond.code yX9_throwFor cX9_throwFor 1 none ∈ tl_GW := tl_inGW (tl_in2 (List.mem_of_getElem? (i := 128) rfl)) rfl
theorem kk_X9_312 : Cond.classLink RX9 312 "java/lang/IndexOutOfBoundsException" ∈ tl_GW := tl_inGW (tl_in2 (List.mem_of_getElem? (i := 129) rfl)) rfl
theorem ia_java_lang_IndexOutOfBoundsException : Cond.instantiable "java/lang/IndexOutOfBoundsException" 6 ∈ tl_GW := tl_inGW (tl_in2 (List.mem_of_getElem? (i := 130) rfl)) rfl
theorem ia_java_lang_Throwable : Cond.instantiable "java/lang/Throwable" 6 ∈ tl_GW := tl_inGW (tl_in2 (List.mem_of_getElem? (i := 168) rfl)) rfl
theorem ml_X9_316 : Cond.methodLink RX9 316 ⟨"java/lang/IndexOutOfBoundsException", "<init>", "(Ljava/lang/String;)V"⟩ ∈ tl_GW := tl_inGW (tl_in2 (List.mem_of_getElem? (i := 171) rfl)) rfl
theorem ac_byte : Cond.arrayClass .byte ∈ tl_GW := tl_inGW (tl_in2 (List.mem_of_getElem? (i := 196) rfl)) rfl
theorem kk_X9_319 : Cond.classLink RX9 319 "java/lang/IllegalArgumentException" ∈ tl_GW := tl_inGW (tl_in2 (List.mem_of_getElem? (i := 197) rfl)) rfl
theorem ia_java_lang_IllegalArgumentException : Cond.instantiable "java/lang/IllegalArgumentException" 6 ∈ tl_GW := tl_inGW (tl_in2 (List.mem_of_getElem? (i := 198) rfl)) rfl
theorem ml_X9_323 : Cond.methodLink RX9 323 ⟨"java/lang/IllegalArgumentException", "<init>", "(Ljava/lang/String;)V"⟩ ∈ tl_GW := tl_inGW (tl_in2 (List.mem_of_getElem? (i := 207) rfl)) rfl
theorem kk_X9_324 : Cond.classLink RX9 324 "java/lang/IllegalStateException" ∈ tl_GW := tl_inGW (tl_in2 (List.mem_of_getElem? (i := 213) rfl)) rfl
theorem ia_java_lang_IllegalStateException : Cond.instantiable "java/lang/IllegalStateException" 6 ∈ tl_GW := tl_inGW (tl_in2 (List.mem_of_getElem? (i := 214) rfl)) rfl
theorem ml_X9_328 : Cond.methodLink RX9 328 ⟨"java/lang/IllegalStateException", "<init>", "(Ljava/lang/String;)V"⟩ ∈ tl_GW := tl_inGW (tl_in2 (List.mem_of_getElem? (i := 223) rfl)) rfl
theorem ml_X9_63 : Cond.methodLink RX9 63 yX6_add ∈ tl_GW := tl_inGW (tl_in2 (List.mem_of_getElem? (i := 229) rfl)) rfl
theorem im_X6_add : Cond.instanceMethod yX6_add ∈ tl_GW := tl_inGW (tl_in2 (List.mem_of_getElem? (i := 230) rfl)) rfl
theorem se_X6_add : Cond.selects RX6 yX6_add yX6_add ∈ tl_GW := tl_inGW (tl_in2 (List.mem_of_getElem? (i := 231) rfl)) rfl
theorem cd_X6_add : Cond.code yX6_add cX6_add 2 (some .int) ∈ tl_GW := tl_inGW (tl_in2 (List.mem_of_getElem? (i := 232) rfl)) rfl
theorem kc_L_18 : Cond.constant RL 18 (-9999002) ∈ tl_GW := tl_inGW (tl_in2 (List.mem_of_getElem? (i := 233) rfl)) rfl
theorem kc_L_21 : Cond.constant RL 21 (-9999003) ∈ tl_GW := tl_inGW (tl_in2 (List.mem_of_getElem? (i := 234) rfl)) rfl
theorem ml_L_115 : Cond.methodLink RL 115 yL_tryLoad ∈ tl_GW := tl_inGW (tl_in2 (List.mem_of_getElem? (i := 235) rfl)) rfl
theorem sm_L_tryLoad : Cond.static yL_tryLoad ∈ tl_GW := tl_inGW (tl_in2 (List.mem_of_getElem? (i := 236) rfl)) rfl
theorem ml_L_37 : Cond.methodLink RL 37 yX9_load ∈ tl_GW := tl_inGW (tl_in2 (List.mem_of_getElem? (i := 238) rfl)) rfl
theorem im_X9_load : Cond.instanceMethod yX9_load ∈ tl_GW := tl_inGW (tl_in2 (List.mem_of_getElem? (i := 239) rfl)) rfl
theorem se_X9_load : Cond.selects RX9 yX9_load yX9_load ∈ tl_GW := tl_inGW (tl_in3 (List.mem_of_getElem? (i := 0) rfl)) rfl
theorem cd_X9_load : Cond.code yX9_load cX9_load 3 (some .int) ∈ tl_GW := tl_inGW (tl_in3 (List.mem_of_getElem? (i := 1) rfl)) rfl
theorem ml_X9_71 : Cond.methodLink RX9 71 yX6_findError ∈ tl_GW := tl_inGW (tl_in3 (List.mem_of_getElem? (i := 2) rfl)) rfl
theorem im_X6_findError : Cond.instanceMethod yX6_findError ∈ tl_GW := tl_inGW (tl_in3 (List.mem_of_getElem? (i := 3) rfl)) rfl
theorem se_X6_findError : Cond.selects RX6 yX6_findError yX6_findError ∈ tl_GW := tl_inGW (tl_in3 (List.mem_of_getElem? (i := 4) rfl)) rfl
theorem cd_X6_findError : Cond.code yX6_findError cX6_findError 4 (some .int) ∈ tl_GW := tl_inGW (tl_in3 (List.mem_of_getElem? (i := 5) rfl)) rfl
theorem ml_X6_22 : Cond.methodLink RX6 22 yX6_startCommands ∈ tl_GW := tl_inGW (tl_in3 (List.mem_of_getElem? (i := 6) rfl)) rfl
theorem im_X6_startCommands : Cond.instanceMethod yX6_startCommands ∈ tl_GW := tl_inGW (tl_in3 (List.mem_of_getElem? (i := 7) rfl)) rfl
theorem se_X6_startCommands : Cond.selects RX6 yX6_startCommands yX6_startCommands ∈ tl_GW := tl_inGW (tl_in3 (List.mem_of_getElem? (i := 8) rfl)) rfl
theorem cd_X6_startCommands : Cond.code yX6_startCommands cX6_startCommands 1 none ∈ tl_GW := tl_inGW (tl_in3 (List.mem_of_getElem? (i := 9) rfl)) rfl
theorem ml_X6_25 : Cond.methodLink RX6 25 yX6_readCommand ∈ tl_GW := tl_inGW (tl_in3 (List.mem_of_getElem? (i := 10) rfl)) rfl
theorem im_X6_readCommand : Cond.instanceMethod yX6_readCommand ∈ tl_GW := tl_inGW (tl_in3 (List.mem_of_getElem? (i := 11) rfl)) rfl
theorem se_X6_readCommand : Cond.selects RX6 yX6_readCommand yX6_readCommand ∈ tl_GW := tl_inGW (tl_in3 (List.mem_of_getElem? (i := 12) rfl)) rfl
theorem cd_X6_readCommand : Cond.code yX6_readCommand cX6_readCommand 2 (some .boolean) ∈ tl_GW := tl_inGW (tl_in3 (List.mem_of_getElem? (i := 13) rfl)) rfl
theorem ml_X6_34 : Cond.methodLink RX6 34 yX0_become ∈ tl_GW := tl_inGW (tl_in3 (List.mem_of_getElem? (i := 14) rfl)) rfl
theorem im_X0_become : Cond.instanceMethod yX0_become ∈ tl_GW := tl_inGW (tl_in3 (List.mem_of_getElem? (i := 15) rfl)) rfl
theorem se_X0_become : Cond.selects RX0 yX0_become yX0_become ∈ tl_GW := tl_inGW (tl_in3 (List.mem_of_getElem? (i := 16) rfl)) rfl
theorem cd_X0_become : Cond.code yX0_become cX0_become 6 none ∈ tl_GW := tl_inGW (tl_in3 (List.mem_of_getElem? (i := 17) rfl)) rfl
theorem ml_X6_38 : Cond.methodLink RX6 38 yX6_actionOf ∈ tl_GW := tl_inGW (tl_in3 (List.mem_of_getElem? (i := 18) rfl)) rfl
theorem sm_X6_actionOf : Cond.static yX6_actionOf ∈ tl_GW := tl_inGW (tl_in3 (List.mem_of_getElem? (i := 19) rfl)) rfl
theorem cd_X6_actionOf : Cond.code yX6_actionOf cX6_actionOf 1 (some .int) ∈ tl_GW := tl_inGW (tl_in3 (List.mem_of_getElem? (i := 20) rfl)) rfl
theorem ml_X6_42 : Cond.methodLink RX6 42 yX6_readNumbers ∈ tl_GW := tl_inGW (tl_in3 (List.mem_of_getElem? (i := 21) rfl)) rfl
theorem im_X6_readNumbers : Cond.instanceMethod yX6_readNumbers ∈ tl_GW := tl_inGW (tl_in3 (List.mem_of_getElem? (i := 23) rfl)) rfl
theorem cd_X6_readNumbers : Cond.code yX6_readNumbers cX6_readNumbers 2 (some .boolean) ∈ tl_GW := tl_inGW (tl_in3 (List.mem_of_getElem? (i := 24) rfl)) rfl
theorem ml_X6_45 : Cond.methodLink RX6 45 yX6_readNumber ∈ tl_GW := tl_inGW (tl_in3 (List.mem_of_getElem? (i := 25) rfl)) rfl
theorem im_X6_readNumber : Cond.instanceMethod yX6_readNumber ∈ tl_GW := tl_inGW (tl_in3 (List.mem_of_getElem? (i := 27) rfl)) rfl
theorem cd_X6_readNumber : Cond.code yX6_readNumber cX6_readNumber 11 (some .boolean) ∈ tl_GW := tl_inGW (tl_in3 (List.mem_of_getElem? (i := 28) rfl)) rfl
theorem ml_X6_66 : Cond.methodLink RX6 66 yX0_putNumber ∈ tl_GW := tl_inGW (tl_in3 (List.mem_of_getElem? (i := 30) rfl)) rfl
theorem im_X0_putNumber : Cond.instanceMethod yX0_putNumber ∈ tl_GW := tl_inGW (tl_in3 (List.mem_of_getElem? (i := 31) rfl)) rfl
theorem se_X0_putNumber : Cond.selects RX0 yX0_putNumber yX0_putNumber ∈ tl_GW := tl_inGW (tl_in3 (List.mem_of_getElem? (i := 32) rfl)) rfl
theorem cd_X0_putNumber : Cond.code yX0_putNumber cX0_putNumber 3 none ∈ tl_GW := tl_inGW (tl_in3 (List.mem_of_getElem? (i := 33) rfl)) rfl
theorem ml_X6_49 : Cond.methodLink RX6 49 yX6_readGallery ∈ tl_GW := tl_inGW (tl_in3 (List.mem_of_getElem? (i := 34) rfl)) rfl
theorem im_X6_readGallery : Cond.instanceMethod yX6_readGallery ∈ tl_GW := tl_inGW (tl_in3 (List.mem_of_getElem? (i := 36) rfl)) rfl
theorem cd_X6_readGallery : Cond.code yX6_readGallery cX6_readGallery 3 (some .boolean) ∈ tl_GW := tl_inGW (tl_in3 (List.mem_of_getElem? (i := 37) rfl)) rfl
theorem ml_X6_53 : Cond.methodLink RX6 53 yX6_readCell ∈ tl_GW := tl_inGW (tl_in3 (List.mem_of_getElem? (i := 38) rfl)) rfl
theorem im_X6_readCell : Cond.instanceMethod yX6_readCell ∈ tl_GW := tl_inGW (tl_in3 (List.mem_of_getElem? (i := 40) rfl)) rfl
theorem cd_X6_readCell : Cond.code yX6_readCell cX6_readCell 3 (some .boolean) ∈ tl_GW := tl_inGW (tl_in3 (List.mem_of_getElem? (i := 41) rfl)) rfl
theorem ml_X6_56 : Cond.methodLink RX6 56 yX6_readLamp ∈ tl_GW := tl_inGW (tl_in3 (List.mem_of_getElem? (i := 42) rfl)) rfl
theorem im_X6_readLamp : Cond.instanceMethod yX6_readLamp ∈ tl_GW := tl_inGW (tl_in3 (List.mem_of_getElem? (i := 44) rfl)) rfl
theorem cd_X6_readLamp : Cond.code yX6_readLamp cX6_readLamp 2 (some .boolean) ∈ tl_GW := tl_inGW (tl_in3 (List.mem_of_getElem? (i := 45) rfl)) rfl
theorem ml_X9_75 : Cond.methodLink RX9 75 yX5_copyFrom ∈ tl_GW := tl_inGW (tl_in3 (List.mem_of_getElem? (i := 46) rfl)) rfl
theorem im_X5_copyFrom : Cond.instanceMethod yX5_copyFrom ∈ tl_GW := tl_inGW (tl_in3 (List.mem_of_getElem? (i := 47) rfl)) rfl
theorem se_X5_copyFrom : Cond.selects RX5 yX5_copyFrom yX5_copyFrom ∈ tl_GW := tl_inGW (tl_in3 (List.mem_of_getElem? (i := 48) rfl)) rfl
theorem cd_X5_copyFrom : Cond.code yX5_copyFrom cX5_copyFrom 3 none ∈ tl_GW := tl_inGW (tl_in3 (List.mem_of_getElem? (i := 49) rfl)) rfl
theorem ml_X5_43 : Cond.methodLink RX5 43 yX1_copyFrom ∈ tl_GW := tl_inGW (tl_in3 (List.mem_of_getElem? (i := 50) rfl)) rfl
theorem im_X1_copyFrom : Cond.instanceMethod yX1_copyFrom ∈ tl_GW := tl_inGW (tl_in3 (List.mem_of_getElem? (i := 51) rfl)) rfl
theorem se_X1_copyFrom : Cond.selects RX1 yX1_copyFrom yX1_copyFrom ∈ tl_GW := tl_inGW (tl_in3 (List.mem_of_getElem? (i := 52) rfl)) rfl
theorem cd_X1_copyFrom : Cond.code yX1_copyFrom cX1_copyFrom 2 none ∈ tl_GW := tl_inGW (tl_in3 (List.mem_of_getElem? (i := 53) rfl)) rfl
theorem ml_X5_47 : Cond.methodLink RX5 47 yX7_copyFrom ∈ tl_GW := tl_inGW (tl_in3 (List.mem_of_getElem? (i := 54) rfl)) rfl
theorem im_X7_copyFrom : Cond.instanceMethod yX7_copyFrom ∈ tl_GW := tl_inGW (tl_in3 (List.mem_of_getElem? (i := 55) rfl)) rfl
theorem se_X7_copyFrom : Cond.selects RX7 yX7_copyFrom yX7_copyFrom ∈ tl_GW := tl_inGW (tl_in3 (List.mem_of_getElem? (i := 56) rfl)) rfl
theorem cd_X7_copyFrom : Cond.code yX7_copyFrom cX7_copyFrom 2 none ∈ tl_GW := tl_inGW (tl_in3 (List.mem_of_getElem? (i := 57) rfl)) rfl
theorem ml_X5_50 : Cond.methodLink RX5 50 yX4_copyFrom ∈ tl_GW := tl_inGW (tl_in3 (List.mem_of_getElem? (i := 58) rfl)) rfl
theorem im_X4_copyFrom : Cond.instanceMethod yX4_copyFrom ∈ tl_GW := tl_inGW (tl_in3 (List.mem_of_getElem? (i := 59) rfl)) rfl
theorem se_X4_copyFrom : Cond.selects RX4 yX4_copyFrom yX4_copyFrom ∈ tl_GW := tl_inGW (tl_in3 (List.mem_of_getElem? (i := 60) rfl)) rfl
theorem cd_X4_copyFrom : Cond.code yX4_copyFrom cX4_copyFrom 2 none ∈ tl_GW := tl_inGW (tl_in3 (List.mem_of_getElem? (i := 61) rfl)) rfl
theorem ml_X5_53 : Cond.methodLink RX5 53 yX3_copyFrom ∈ tl_GW := tl_inGW (tl_in3 (List.mem_of_getElem? (i := 62) rfl)) rfl
theorem im_X3_copyFrom : Cond.instanceMethod yX3_copyFrom ∈ tl_GW := tl_inGW (tl_in3 (List.mem_of_getElem? (i := 63) rfl)) rfl
theorem se_X3_copyFrom : Cond.selects RX3 yX3_copyFrom yX3_copyFrom ∈ tl_GW := tl_inGW (tl_in3 (List.mem_of_getElem? (i := 64) rfl)) rfl
theorem cd_X3_copyFrom : Cond.code yX3_copyFrom cX3_copyFrom 3 none ∈ tl_GW := tl_inGW (tl_in3 (List.mem_of_getElem? (i := 65) rfl)) rfl
theorem ml_X3_22 : Cond.methodLink RX3 22 yX8_copyFrom ∈ tl_GW := tl_inGW (tl_in3 (List.mem_of_getElem? (i := 66) rfl)) rfl
theorem im_X8_copyFrom : Cond.instanceMethod yX8_copyFrom ∈ tl_GW := tl_inGW (tl_in3 (List.mem_of_getElem? (i := 67) rfl)) rfl
theorem se_X8_copyFrom : Cond.selects RX8 yX8_copyFrom yX8_copyFrom ∈ tl_GW := tl_inGW (tl_in3 (List.mem_of_getElem? (i := 68) rfl)) rfl
theorem cd_X8_copyFrom : Cond.code yX8_copyFrom cX8_copyFrom 2 none ∈ tl_GW := tl_inGW (tl_in3 (List.mem_of_getElem? (i := 69) rfl)) rfl
theorem ml_X9_79 : Cond.methodLink RX9 79 yX2_forgetAll ∈ tl_GW := tl_inGW (tl_in3 (List.mem_of_getElem? (i := 70) rfl)) rfl
theorem im_X2_forgetAll : Cond.instanceMethod yX2_forgetAll ∈ tl_GW := tl_inGW (tl_in3 (List.mem_of_getElem? (i := 71) rfl)) rfl
theorem se_X2_forgetAll : Cond.selects RX2 yX2_forgetAll yX2_forgetAll ∈ tl_GW := tl_inGW (tl_in3 (List.mem_of_getElem? (i := 72) rfl)) rfl
theorem cd_X2_forgetAll : Cond.code yX2_forgetAll cX2_forgetAll 1 none ∈ tl_GW := tl_inGW (tl_in3 (List.mem_of_getElem? (i := 73) rfl)) rfl
theorem ml_X9_82 : Cond.methodLink RX9 82 yX6_startCommands ∈ tl_GW := tl_inGW (tl_in3 (List.mem_of_getElem? (i := 74) rfl)) rfl
theorem ml_X9_85 : Cond.methodLink RX9 85 yX6_readCommand ∈ tl_GW := tl_inGW (tl_in3 (List.mem_of_getElem? (i := 75) rfl)) rfl
theorem ml_X9_89 : Cond.methodLink RX9 89 yX5_attempt ∈ tl_GW := tl_inGW (tl_in3 (List.mem_of_getElem? (i := 76) rfl)) rfl
theorem im_X5_attempt : Cond.instanceMethod yX5_attempt ∈ tl_GW := tl_inGW (tl_in3 (List.mem_of_getElem? (i := 77) rfl)) rfl
theorem se_X5_attempt : Cond.selects RX5 yX5_attempt yX5_attempt ∈ tl_GW := tl_inGW (tl_in3 (List.mem_of_getElem? (i := 78) rfl)) rfl
theorem cd_X5_attempt : Cond.code yX5_attempt cX5_attempt 2 (some .boolean) ∈ tl_GW := tl_inGW (tl_in3 (List.mem_of_getElem? (i := 79) rfl)) rfl
theorem ml_X5_128 : Cond.methodLink RX5 128 yX5_refusal ∈ tl_GW := tl_inGW (tl_in3 (List.mem_of_getElem? (i := 80) rfl)) rfl
theorem im_X5_refusal : Cond.instanceMethod yX5_refusal ∈ tl_GW := tl_inGW (tl_in3 (List.mem_of_getElem? (i := 81) rfl)) rfl
theorem se_X5_refusal : Cond.selects RX5 yX5_refusal yX5_refusal ∈ tl_GW := tl_inGW (tl_in3 (List.mem_of_getElem? (i := 82) rfl)) rfl
theorem cd_X5_refusal : Cond.code yX5_refusal cX5_refusal 2 (some .int) ∈ tl_GW := tl_inGW (tl_in3 (List.mem_of_getElem? (i := 83) rfl)) rfl
theorem ml_X5_89 : Cond.methodLink RX5 89 yX5_hasGallery ∈ tl_GW := tl_inGW (tl_in3 (List.mem_of_getElem? (i := 86) rfl)) rfl
theorem im_X5_hasGallery : Cond.instanceMethod yX5_hasGallery ∈ tl_GW := tl_inGW (tl_in3 (List.mem_of_getElem? (i := 87) rfl)) rfl
theorem se_X5_hasGallery : Cond.selects RX5 yX5_hasGallery yX5_hasGallery ∈ tl_GW := tl_inGW (tl_in3 (List.mem_of_getElem? (i := 88) rfl)) rfl
theorem cd_X5_hasGallery : Cond.code yX5_hasGallery cX5_hasGallery 2 (some .boolean) ∈ tl_GW := tl_inGW (tl_in3 (List.mem_of_getElem? (i := 89) rfl)) rfl
theorem ml_X5_154 : Cond.methodLink RX5 154 yX5_hasMiner ∈ tl_GW := tl_inGW (tl_in3 (List.mem_of_getElem? (i := 90) rfl)) rfl
theorem im_X5_hasMiner : Cond.instanceMethod yX5_hasMiner ∈ tl_GW := tl_inGW (tl_in3 (List.mem_of_getElem? (i := 91) rfl)) rfl
theorem se_X5_hasMiner : Cond.selects RX5 yX5_hasMiner yX5_hasMiner ∈ tl_GW := tl_inGW (tl_in3 (List.mem_of_getElem? (i := 92) rfl)) rfl
theorem cd_X5_hasMiner : Cond.code yX5_hasMiner cX5_hasMiner 2 (some .boolean) ∈ tl_GW := tl_inGW (tl_in3 (List.mem_of_getElem? (i := 93) rfl)) rfl
theorem ml_X5_157 : Cond.methodLink RX5 157 yX5_hasCell ∈ tl_GW := tl_inGW (tl_in3 (List.mem_of_getElem? (i := 94) rfl)) rfl
theorem im_X5_hasCell : Cond.instanceMethod yX5_hasCell ∈ tl_GW := tl_inGW (tl_in3 (List.mem_of_getElem? (i := 95) rfl)) rfl
theorem se_X5_hasCell : Cond.selects RX5 yX5_hasCell yX5_hasCell ∈ tl_GW := tl_inGW (tl_in3 (List.mem_of_getElem? (i := 96) rfl)) rfl
theorem cd_X5_hasCell : Cond.code yX5_hasCell cX5_hasCell 3 (some .boolean) ∈ tl_GW := tl_inGW (tl_in3 (List.mem_of_getElem? (i := 97) rfl)) rfl
theorem ml_X5_166 : Cond.methodLink RX5 166 yX5_hasLamp ∈ tl_GW := tl_inGW (tl_in3 (List.mem_of_getElem? (i := 98) rfl)) rfl
theorem im_X5_hasLamp : Cond.instanceMethod yX5_hasLamp ∈ tl_GW := tl_inGW (tl_in3 (List.mem_of_getElem? (i := 99) rfl)) rfl
theorem se_X5_hasLamp : Cond.selects RX5 yX5_hasLamp yX5_hasLamp ∈ tl_GW := tl_inGW (tl_in3 (List.mem_of_getElem? (i := 100) rfl)) rfl
theorem cd_X5_hasLamp : Cond.code yX5_hasLamp cX5_hasLamp 2 (some .boolean) ∈ tl_GW := tl_inGW (tl_in3 (List.mem_of_getElem? (i := 101) rfl)) rfl
theorem ml_X5_169 : Cond.methodLink RX5 169 yX3_hasRoomForOrder ∈ tl_GW := tl_inGW (tl_in3 (List.mem_of_getElem? (i := 102) rfl)) rfl
theorem im_X3_hasRoomForOrder : Cond.instanceMethod yX3_hasRoomForOrder ∈ tl_GW := tl_inGW (tl_in3 (List.mem_of_getElem? (i := 103) rfl)) rfl
theorem se_X3_hasRoomForOrder : Cond.selects RX3 yX3_hasRoomForOrder yX3_hasRoomForOrder ∈ tl_GW := tl_inGW (tl_in3 (List.mem_of_getElem? (i := 104) rfl)) rfl
theorem cd_X3_hasRoomForOrder : Cond.code yX3_hasRoomForOrder cX3_hasRoomForOrder 1 (some .boolean) ∈ tl_GW := tl_inGW (tl_in3 (List.mem_of_getElem? (i := 105) rfl)) rfl
theorem ml_X5_173 : Cond.methodLink RX5 173 yX3_hasOrder ∈ tl_GW := tl_inGW (tl_in3 (List.mem_of_getElem? (i := 106) rfl)) rfl
theorem im_X3_hasOrder : Cond.instanceMethod yX3_hasOrder ∈ tl_GW := tl_inGW (tl_in3 (List.mem_of_getElem? (i := 107) rfl)) rfl
theorem se_X3_hasOrder : Cond.selects RX3 yX3_hasOrder yX3_hasOrder ∈ tl_GW := tl_inGW (tl_in3 (List.mem_of_getElem? (i := 108) rfl)) rfl
theorem cd_X3_hasOrder : Cond.code yX3_hasOrder cX3_hasOrder 2 (some .boolean) ∈ tl_GW := tl_inGW (tl_in3 (List.mem_of_getElem? (i := 109) rfl)) rfl
theorem ml_X5_176 : Cond.methodLink RX5 176 yX3_handsAreFree ∈ tl_GW := tl_inGW (tl_in3 (List.mem_of_getElem? (i := 110) rfl)) rfl
theorem im_X3_handsAreFree : Cond.instanceMethod yX3_handsAreFree ∈ tl_GW := tl_inGW (tl_in3 (List.mem_of_getElem? (i := 111) rfl)) rfl
theorem se_X3_handsAreFree : Cond.selects RX3 yX3_handsAreFree yX3_handsAreFree ∈ tl_GW := tl_inGW (tl_in3 (List.mem_of_getElem? (i := 112) rfl)) rfl
theorem cd_X3_handsAreFree : Cond.code yX3_handsAreFree cX3_handsAreFree 1 (some .boolean) ∈ tl_GW := tl_inGW (tl_in3 (List.mem_of_getElem? (i := 113) rfl)) rfl
theorem ml_X5_179 : Cond.methodLink RX5 179 yX5_isSetting ∈ tl_GW := tl_inGW (tl_in3 (List.mem_of_getElem? (i := 114) rfl)) rfl
theorem sm_X5_isSetting : Cond.static yX5_isSetting ∈ tl_GW := tl_inGW (tl_in3 (List.mem_of_getElem? (i := 115) rfl)) rfl
theorem cd_X5_isSetting : Cond.code yX5_isSetting cX5_isSetting 2 (some .boolean) ∈ tl_GW := tl_inGW (tl_in3 (List.mem_of_getElem? (i := 116) rfl)) rfl
theorem ml_X5_132 : Cond.methodLink RX5 132 yX5_perform ∈ tl_GW := tl_inGW (tl_in3 (List.mem_of_getElem? (i := 117) rfl)) rfl
theorem im_X5_perform : Cond.instanceMethod yX5_perform ∈ tl_GW := tl_inGW (tl_in3 (List.mem_of_getElem? (i := 118) rfl)) rfl
theorem se_X5_perform : Cond.selects RX5 yX5_perform yX5_perform ∈ tl_GW := tl_inGW (tl_in3 (List.mem_of_getElem? (i := 119) rfl)) rfl
theorem cd_X5_perform : Cond.code yX5_perform cX5_perform 2 (some .int) ∈ tl_GW := tl_inGW (tl_in3 (List.mem_of_getElem? (i := 120) rfl)) rfl
theorem ml_X5_182 : Cond.methodLink RX5 182 yX5_addGallery ∈ tl_GW := tl_inGW (tl_in3 (List.mem_of_getElem? (i := 121) rfl)) rfl
theorem im_X5_addGallery : Cond.instanceMethod yX5_addGallery ∈ tl_GW := tl_inGW (tl_in3 (List.mem_of_getElem? (i := 123) rfl)) rfl
theorem cd_X5_addGallery : Cond.code yX5_addGallery cX5_addGallery 3 (some .int) ∈ tl_GW := tl_inGW (tl_in3 (List.mem_of_getElem? (i := 124) rfl)) rfl
theorem ml_X5_186 : Cond.methodLink RX5 186 yX5_addMiner ∈ tl_GW := tl_inGW (tl_in3 (List.mem_of_getElem? (i := 125) rfl)) rfl
theorem im_X5_addMiner : Cond.instanceMethod yX5_addMiner ∈ tl_GW := tl_inGW (tl_in3 (List.mem_of_getElem? (i := 127) rfl)) rfl
theorem cd_X5_addMiner : Cond.code yX5_addMiner cX5_addMiner 4 (some .int) ∈ tl_GW := tl_inGW (tl_in3 (List.mem_of_getElem? (i := 128) rfl)) rfl
theorem ml_X5_189 : Cond.methodLink RX5 189 yX5_sendMiner ∈ tl_GW := tl_inGW (tl_in3 (List.mem_of_getElem? (i := 129) rfl)) rfl
theorem im_X5_sendMiner : Cond.instanceMethod yX5_sendMiner ∈ tl_GW := tl_inGW (tl_in3 (List.mem_of_getElem? (i := 131) rfl)) rfl
theorem cd_X5_sendMiner : Cond.code yX5_sendMiner cX5_sendMiner 4 (some .int) ∈ tl_GW := tl_inGW (tl_in3 (List.mem_of_getElem? (i := 132) rfl)) rfl
theorem ml_X5_192 : Cond.methodLink RX5 192 yX5_addLamp ∈ tl_GW := tl_inGW (tl_in3 (List.mem_of_getElem? (i := 133) rfl)) rfl
theorem im_X5_addLamp : Cond.instanceMethod yX5_addLamp ∈ tl_GW := tl_inGW (tl_in3 (List.mem_of_getElem? (i := 135) rfl)) rfl
theorem cd_X5_addLamp : Cond.code yX5_addLamp cX5_addLamp 6 (some .int) ∈ tl_GW := tl_inGW (tl_in3 (List.mem_of_getElem? (i := 136) rfl)) rfl
theorem ml_X5_196 : Cond.methodLink RX5 196 yX5_bringOil ∈ tl_GW := tl_inGW (tl_in3 (List.mem_of_getElem? (i := 137) rfl)) rfl
theorem im_X5_bringOil : Cond.instanceMethod yX5_bringOil ∈ tl_GW := tl_inGW (tl_in3 (List.mem_of_getElem? (i := 139) rfl)) rfl
theorem cd_X5_bringOil : Cond.code yX5_bringOil cX5_bringOil 2 (some .int) ∈ tl_GW := tl_inGW (tl_in3 (List.mem_of_getElem? (i := 140) rfl)) rfl
theorem ml_X5_199 : Cond.methodLink RX5 199 yX3_addHang ∈ tl_GW := tl_inGW (tl_in3 (List.mem_of_getElem? (i := 141) rfl)) rfl
theorem im_X3_addHang : Cond.instanceMethod yX3_addHang ∈ tl_GW := tl_inGW (tl_in3 (List.mem_of_getElem? (i := 142) rfl)) rfl
theorem se_X3_addHang : Cond.selects RX3 yX3_addHang yX3_addHang ∈ tl_GW := tl_inGW (tl_in3 (List.mem_of_getElem? (i := 143) rfl)) rfl
theorem cd_X3_addHang : Cond.code yX3_addHang cX3_addHang 4 (some .int) ∈ tl_GW := tl_inGW (tl_in3 (List.mem_of_getElem? (i := 144) rfl)) rfl
theorem ml_X3_42 : Cond.methodLink RX3 42 yX3_addOrder ∈ tl_GW := tl_inGW (tl_in3 (List.mem_of_getElem? (i := 145) rfl)) rfl
theorem im_X3_addOrder : Cond.instanceMethod yX3_addOrder ∈ tl_GW := tl_inGW (tl_in3 (List.mem_of_getElem? (i := 147) rfl)) rfl
theorem cd_X3_addOrder : Cond.code yX3_addOrder cX3_addOrder 7 (some .int) ∈ tl_GW := tl_inGW (tl_in3 (List.mem_of_getElem? (i := 148) rfl)) rfl
theorem ml_X3_46 : Cond.methodLink RX3 46 yX3_hasRoomForOrder ∈ tl_GW := tl_inGW (tl_in3 (List.mem_of_getElem? (i := 149) rfl)) rfl
theorem ml_X5_203 : Cond.methodLink RX5 203 yX3_addFill ∈ tl_GW := tl_inGW (tl_in3 (List.mem_of_getElem? (i := 150) rfl)) rfl
theorem im_X3_addFill : Cond.instanceMethod yX3_addFill ∈ tl_GW := tl_inGW (tl_in3 (List.mem_of_getElem? (i := 151) rfl)) rfl
theorem se_X3_addFill : Cond.selects RX3 yX3_addFill yX3_addFill ∈ tl_GW := tl_inGW (tl_in3 (List.mem_of_getElem? (i := 152) rfl)) rfl
theorem cd_X3_addFill : Cond.code yX3_addFill cX3_addFill 3 (some .int) ∈ tl_GW := tl_inGW (tl_in3 (List.mem_of_getElem? (i := 153) rfl)) rfl
theorem ml_X5_206 : Cond.methodLink RX5 206 yX3_removeOrder ∈ tl_GW := tl_inGW (tl_in3 (List.mem_of_getElem? (i := 154) rfl)) rfl
theorem im_X3_removeOrder : Cond.instanceMethod yX3_removeOrder ∈ tl_GW := tl_inGW (tl_in3 (List.mem_of_getElem? (i := 155) rfl)) rfl
theorem se_X3_removeOrder : Cond.selects RX3 yX3_removeOrder yX3_removeOrder ∈ tl_GW := tl_inGW (tl_in3 (List.mem_of_getElem? (i := 156) rfl)) rfl
theorem cd_X3_removeOrder : Cond.code yX3_removeOrder cX3_removeOrder 4 (some .int) ∈ tl_GW := tl_inGW (tl_in3 (List.mem_of_getElem? (i := 157) rfl)) rfl
theorem ml_X5_209 : Cond.methodLink RX5 209 yX5_changeSetting ∈ tl_GW := tl_inGW (tl_in3 (List.mem_of_getElem? (i := 158) rfl)) rfl
theorem im_X5_changeSetting : Cond.instanceMethod yX5_changeSetting ∈ tl_GW := tl_inGW (tl_in3 (List.mem_of_getElem? (i := 160) rfl)) rfl
theorem cd_X5_changeSetting : Cond.code yX5_changeSetting cX5_changeSetting 4 (some .int) ∈ tl_GW := tl_inGW (tl_in3 (List.mem_of_getElem? (i := 161) rfl)) rfl
theorem ml_X5_212 : Cond.methodLink RX5 212 yX5_letHoursGo ∈ tl_GW := tl_inGW (tl_in3 (List.mem_of_getElem? (i := 162) rfl)) rfl
theorem im_X5_letHoursGo : Cond.instanceMethod yX5_letHoursGo ∈ tl_GW := tl_inGW (tl_in3 (List.mem_of_getElem? (i := 163) rfl)) rfl
theorem se_X5_letHoursGo : Cond.selects RX5 yX5_letHoursGo yX5_letHoursGo ∈ tl_GW := tl_inGW (tl_in3 (List.mem_of_getElem? (i := 164) rfl)) rfl
theorem cd_X5_letHoursGo : Cond.code yX5_letHoursGo cX5_letHoursGo 4 (some .int) ∈ tl_GW := tl_inGW (tl_in3 (List.mem_of_getElem? (i := 165) rfl)) rfl
theorem ml_X5_226 : Cond.methodLink RX5 226 yX5_minersWork ∈ tl_GW := tl_inGW (tl_in3 (List.mem_of_getElem? (i := 166) rfl)) rfl
theorem im_X5_minersWork : Cond.instanceMethod yX5_minersWork ∈ tl_GW := tl_inGW (tl_in3 (List.mem_of_getElem? (i := 168) rfl)) rfl
theorem cd_X5_minersWork : Cond.code yX5_minersWork cX5_minersWork 4 none ∈ tl_GW := tl_inGW (tl_in3 (List.mem_of_getElem? (i := 169) rfl)) rfl
theorem ml_X5_107 : Cond.methodLink RX5 107 yX5_isLit ∈ tl_GW := tl_inGW (tl_in3 (List.mem_of_getElem? (i := 170) rfl)) rfl
theorem im_X5_isLit : Cond.instanceMethod yX5_isLit ∈ tl_GW := tl_inGW (tl_in3 (List.mem_of_getElem? (i := 171) rfl)) rfl
theorem se_X5_isLit : Cond.selects RX5 yX5_isLit yX5_isLit ∈ tl_GW := tl_inGW (tl_in3 (List.mem_of_getElem? (i := 172) rfl)) rfl
theorem cd_X5_isLit : Cond.code yX5_isLit cX5_isLit 4 (some .boolean) ∈ tl_GW := tl_inGW (tl_in3 (List.mem_of_getElem? (i := 173) rfl)) rfl
theorem ml_X5_103 : Cond.methodLink RX5 103 yX4_lights ∈ tl_GW := tl_inGW (tl_in3 (List.mem_of_getElem? (i := 174) rfl)) rfl
theorem im_X4_lights : Cond.instanceMethod yX4_lights ∈ tl_GW := tl_inGW (tl_in3 (List.mem_of_getElem? (i := 175) rfl)) rfl
theorem se_X4_lights : Cond.selects RX4 yX4_lights yX4_lights ∈ tl_GW := tl_inGW (tl_in3 (List.mem_of_getElem? (i := 176) rfl)) rfl
theorem cd_X4_lights : Cond.code yX4_lights cX4_lights 3 (some .boolean) ∈ tl_GW := tl_inGW (tl_in3 (List.mem_of_getElem? (i := 177) rfl)) rfl
theorem ml_X4_22 : Cond.methodLink RX4 22 yX4_burnsIn ∈ tl_GW := tl_inGW (tl_in3 (List.mem_of_getElem? (i := 178) rfl)) rfl
theorem im_X4_burnsIn : Cond.instanceMethod yX4_burnsIn ∈ tl_GW := tl_inGW (tl_in3 (List.mem_of_getElem? (i := 179) rfl)) rfl
theorem se_X4_burnsIn : Cond.selects RX4 yX4_burnsIn yX4_burnsIn ∈ tl_GW := tl_inGW (tl_in3 (List.mem_of_getElem? (i := 180) rfl)) rfl
theorem cd_X4_burnsIn : Cond.code yX4_burnsIn cX4_burnsIn 2 (some .boolean) ∈ tl_GW := tl_inGW (tl_in3 (List.mem_of_getElem? (i := 181) rfl)) rfl
theorem ml_X5_238 : Cond.methodLink RX5 238 yX1_strike ∈ tl_GW := tl_inGW (tl_in3 (List.mem_of_getElem? (i := 182) rfl)) rfl
theorem im_X1_strike : Cond.instanceMethod yX1_strike ∈ tl_GW := tl_inGW (tl_in3 (List.mem_of_getElem? (i := 183) rfl)) rfl
theorem se_X1_strike : Cond.selects RX1 yX1_strike yX1_strike ∈ tl_GW := tl_inGW (tl_in3 (List.mem_of_getElem? (i := 184) rfl)) rfl
theorem cd_X1_strike : Cond.code yX1_strike cX1_strike 4 (some .int) ∈ tl_GW := tl_inGW (tl_in3 (List.mem_of_getElem? (i := 185) rfl)) rfl
theorem sm_X9_strokesFor : Cond.static yX9_strokesFor ∈ tl_GW := tl_inGW (tl_in3 (List.mem_of_getElem? (i := 187) rfl)) rfl
theorem cd_X9_strokesFor : Cond.code yX9_strokesFor cX9_strokesFor 2 (some .int) ∈ tl_GW := tl_inGW (tl_in3 (List.mem_of_getElem? (i := 188) rfl)) rfl
theorem ml_X5_229 : Cond.methodLink RX5 229 yX5_lampsBurn ∈ tl_GW := tl_inGW (tl_in3 (List.mem_of_getElem? (i := 189) rfl)) rfl
theorem im_X5_lampsBurn : Cond.instanceMethod yX5_lampsBurn ∈ tl_GW := tl_inGW (tl_in3 (List.mem_of_getElem? (i := 191) rfl)) rfl
theorem cd_X5_lampsBurn : Cond.code yX5_lampsBurn cX5_lampsBurn 2 none ∈ tl_GW := tl_inGW (tl_in3 (List.mem_of_getElem? (i := 192) rfl)) rfl
theorem ml_X5_232 : Cond.methodLink RX5 232 yX5_ladWorks ∈ tl_GW := tl_inGW (tl_in3 (List.mem_of_getElem? (i := 193) rfl)) rfl
theorem im_X5_ladWorks : Cond.instanceMethod yX5_ladWorks ∈ tl_GW := tl_inGW (tl_in3 (List.mem_of_getElem? (i := 194) rfl)) rfl
theorem se_X5_ladWorks : Cond.selects RX5 yX5_ladWorks yX5_ladWorks ∈ tl_GW := tl_inGW (tl_in3 (List.mem_of_getElem? (i := 195) rfl)) rfl
theorem cd_X5_ladWorks : Cond.code yX5_ladWorks cX5_ladWorks 4 (some .int) ∈ tl_GW := tl_inGW (tl_in3 (List.mem_of_getElem? (i := 196) rfl)) rfl
theorem ml_X5_241 : Cond.methodLink RX5 241 yX5_doesWhatNeedsNoStep ∈ tl_GW := tl_inGW (tl_in3 (List.mem_of_getElem? (i := 197) rfl)) rfl
theorem im_X5_doesWhatNeedsNoStep : Cond.instanceMethod yX5_doesWhatNeedsNoStep ∈ tl_GW := tl_inGW (tl_in3 (List.mem_of_getElem? (i := 199) rfl)) rfl
theorem cd_X5_doesWhatNeedsNoStep : Cond.code yX5_doesWhatNeedsNoStep cX5_doesWhatNeedsNoStep 3 (some .boolean) ∈ tl_GW := tl_inGW (tl_in3 (List.mem_of_getElem? (i := 200) rfl)) rfl
theorem ml_X5_260 : Cond.methodLink RX5 260 yX5_takesLamp ∈ tl_GW := tl_inGW (tl_in3 (List.mem_of_getElem? (i := 201) rfl)) rfl
theorem im_X5_takesLamp : Cond.instanceMethod yX5_takesLamp ∈ tl_GW := tl_inGW (tl_in3 (List.mem_of_getElem? (i := 203) rfl)) rfl
theorem cd_X5_takesLamp : Cond.code yX5_takesLamp cX5_takesLamp 3 (some .boolean) ∈ tl_GW := tl_inGW (tl_in3 (List.mem_of_getElem? (i := 204) rfl)) rfl
theorem ml_X5_279 : Cond.methodLink RX5 279 yX3_isAt ∈ tl_GW := tl_inGW (tl_in3 (List.mem_of_getElem? (i := 205) rfl)) rfl
theorem im_X3_isAt : Cond.instanceMethod yX3_isAt ∈ tl_GW := tl_inGW (tl_in3 (List.mem_of_getElem? (i := 206) rfl)) rfl
theorem se_X3_isAt : Cond.selects RX3 yX3_isAt yX3_isAt ∈ tl_GW := tl_inGW (tl_in3 (List.mem_of_getElem? (i := 207) rfl)) rfl
theorem cd_X3_isAt : Cond.code yX3_isAt cX3_isAt 3 (some .boolean) ∈ tl_GW := tl_inGW (tl_in3 (List.mem_of_getElem? (i := 208) rfl)) rfl
theorem ml_X5_264 : Cond.methodLink RX5 264 yX5_hangsLamp ∈ tl_GW := tl_inGW (tl_in3 (List.mem_of_getElem? (i := 209) rfl)) rfl
theorem im_X5_hangsLamp : Cond.instanceMethod yX5_hangsLamp ∈ tl_GW := tl_inGW (tl_in3 (List.mem_of_getElem? (i := 211) rfl)) rfl
theorem cd_X5_hangsLamp : Cond.code yX5_hangsLamp cX5_hangsLamp 3 (some .boolean) ∈ tl_GW := tl_inGW (tl_in3 (List.mem_of_getElem? (i := 212) rfl)) rfl
theorem ml_X5_271 : Cond.methodLink RX5 271 yX5_poursOil ∈ tl_GW := tl_inGW (tl_in3 (List.mem_of_getElem? (i := 213) rfl)) rfl
theorem im_X5_poursOil : Cond.instanceMethod yX5_poursOil ∈ tl_GW := tl_inGW (tl_in3 (List.mem_of_getElem? (i := 215) rfl)) rfl
theorem cd_X5_poursOil : Cond.code yX5_poursOil cX5_poursOil 3 (some .boolean) ∈ tl_GW := tl_inGW (tl_in3 (List.mem_of_getElem? (i := 216) rfl)) rfl
theorem ml_X5_122 : Cond.methodLink RX5 122 yJ9_min_7cf53 ∈ tl_GW := tl_inGW (tl_in3 (List.mem_of_getElem? (i := 217) rfl)) rfl
theorem sm_J9_min_7cf53 : Cond.static yJ9_min_7cf53 ∈ tl_GW := tl_inGW (tl_in3 (List.mem_of_getElem? (i := 218) rfl)) rfl
theorem cd_J9_min_7cf53 : Cond.code yJ9_min_7cf53 cJ9_min_7cf53 2 (some .int) ∈ tl_GW := tl_inGW (tl_in3 (List.mem_of_getElem? (i := 219) rfl)) rfl
theorem ml_X5_275 : Cond.methodLink RX5 275 yX5_fetchesOil ∈ tl_GW := tl_inGW (tl_in3 (List.mem_of_getElem? (i := 220) rfl)) rfl
theorem im_X5_fetchesOil : Cond.instanceMethod yX5_fetchesOil ∈ tl_GW := tl_inGW (tl_in3 (List.mem_of_getElem? (i := 222) rfl)) rfl
theorem cd_X5_fetchesOil : Cond.code yX5_fetchesOil cX5_fetchesOil 2 (some .boolean) ∈ tl_GW := tl_inGW (tl_in3 (List.mem_of_getElem? (i := 223) rfl)) rfl
theorem ml_X5_244 : Cond.methodLink RX5 244 yX5_makesStep ∈ tl_GW := tl_inGW (tl_in3 (List.mem_of_getElem? (i := 224) rfl)) rfl
theorem im_X5_makesStep : Cond.instanceMethod yX5_makesStep ∈ tl_GW := tl_inGW (tl_in3 (List.mem_of_getElem? (i := 226) rfl)) rfl
theorem cd_X5_makesStep : Cond.code yX5_makesStep cX5_makesStep 2 none ∈ tl_GW := tl_inGW (tl_in3 (List.mem_of_getElem? (i := 227) rfl)) rfl
theorem ml_X5_290 : Cond.methodLink RX5 290 yX3_stepTowards ∈ tl_GW := tl_inGW (tl_in3 (List.mem_of_getElem? (i := 228) rfl)) rfl
theorem im_X3_stepTowards : Cond.instanceMethod yX3_stepTowards ∈ tl_GW := tl_inGW (tl_in3 (List.mem_of_getElem? (i := 229) rfl)) rfl
theorem se_X3_stepTowards : Cond.selects RX3 yX3_stepTowards yX3_stepTowards ∈ tl_GW := tl_inGW (tl_in3 (List.mem_of_getElem? (i := 230) rfl)) rfl
theorem cd_X3_stepTowards : Cond.code yX3_stepTowards cX3_stepTowards 3 none ∈ tl_GW := tl_inGW (tl_in3 (List.mem_of_getElem? (i := 231) rfl)) rfl
theorem ml_X5_235 : Cond.methodLink RX5 235 yX5_ladSeesTheDark ∈ tl_GW := tl_inGW (tl_in3 (List.mem_of_getElem? (i := 232) rfl)) rfl
theorem im_X5_ladSeesTheDark : Cond.instanceMethod yX5_ladSeesTheDark ∈ tl_GW := tl_inGW (tl_in3 (List.mem_of_getElem? (i := 234) rfl)) rfl
theorem cd_X5_ladSeesTheDark : Cond.code yX5_ladSeesTheDark cX5_ladSeesTheDark 4 none ∈ tl_GW := tl_inGW (tl_in3 (List.mem_of_getElem? (i := 235) rfl)) rfl
theorem ml_X5_294 : Cond.methodLink RX5 294 yX5_minersIn ∈ tl_GW := tl_inGW (tl_in3 (List.mem_of_getElem? (i := 236) rfl)) rfl
theorem im_X5_minersIn : Cond.instanceMethod yX5_minersIn ∈ tl_GW := tl_inGW (tl_in3 (List.mem_of_getElem? (i := 237) rfl)) rfl
theorem se_X5_minersIn : Cond.selects RX5 yX5_minersIn yX5_minersIn ∈ tl_GW := tl_inGW (tl_in3 (List.mem_of_getElem? (i := 238) rfl)) rfl
theorem cd_X5_minersIn : Cond.code yX5_minersIn cX5_minersIn 4 (some .int) ∈ tl_GW := tl_inGW (tl_in3 (List.mem_of_getElem? (i := 239) rfl)) rfl
theorem ml_X5_297 : Cond.methodLink RX5 297 yX5_fullestLampBelow ∈ tl_GW := tl_inGW (tl_in4 (List.mem_of_getElem? (i := 0) rfl)) rfl
theorem im_X5_fullestLampBelow : Cond.instanceMethod yX5_fullestLampBelow ∈ tl_GW := tl_inGW (tl_in4 (List.mem_of_getElem? (i := 2) rfl)) rfl
theorem cd_X5_fullestLampBelow : Cond.code yX5_fullestLampBelow cX5_fullestLampBelow 6 (some .int) ∈ tl_GW := tl_inGW (tl_in4 (List.mem_of_getElem? (i := 3) rfl)) rfl
theorem ml_X5_125 : Cond.methodLink RX5 125 yX4_burnsIn ∈ tl_GW := tl_inGW (tl_in4 (List.mem_of_getElem? (i := 4) rfl)) rfl
theorem ml_L_119 : Cond.methodLink RL 119 yL_tryAbout ∈ tl_GW := tl_inGW (tl_in4 (List.mem_of_getElem? (i := 5) rfl)) rfl
theorem sm_L_tryAbout : Cond.static yL_tryAbout ∈ tl_GW := tl_inGW (tl_in4 (List.mem_of_getElem? (i := 6) rfl)) rfl
theorem ml_L_41 : Cond.methodLink RL 41 yX9_about ∈ tl_GW := tl_inGW (tl_in4 (List.mem_of_getElem? (i := 8) rfl)) rfl
theorem im_X9_about : Cond.instanceMethod yX9_about ∈ tl_GW := tl_inGW (tl_in4 (List.mem_of_getElem? (i := 9) rfl)) rfl
theorem se_X9_about : Cond.selects RX9 yX9_about yX9_about ∈ tl_GW := tl_inGW (tl_in4 (List.mem_of_getElem? (i := 10) rfl)) rfl
theorem cd_X9_about : Cond.code yX9_about cX9_about 2 (some .int) ∈ tl_GW := tl_inGW (tl_in4 (List.mem_of_getElem? (i := 11) rfl)) rfl
theorem ml_X9_108 : Cond.methodLink RX9 108 yX5_oilInLamps ∈ tl_GW := tl_inGW (tl_in4 (List.mem_of_getElem? (i := 12) rfl)) rfl
theorem im_X5_oilInLamps : Cond.instanceMethod yX5_oilInLamps ∈ tl_GW := tl_inGW (tl_in4 (List.mem_of_getElem? (i := 13) rfl)) rfl
theorem se_X5_oilInLamps : Cond.selects RX5 yX5_oilInLamps yX5_oilInLamps ∈ tl_GW := tl_inGW (tl_in4 (List.mem_of_getElem? (i := 14) rfl)) rfl
theorem cd_X5_oilInLamps : Cond.code yX5_oilInLamps cX5_oilInLamps 3 (some .int) ∈ tl_GW := tl_inGW (tl_in4 (List.mem_of_getElem? (i := 15) rfl)) rfl
theorem ml_L_122 : Cond.methodLink RL 122 yL_tryTold ∈ tl_GW := tl_inGW (tl_in4 (List.mem_of_getElem? (i := 16) rfl)) rfl
theorem sm_L_tryTold : Cond.static yL_tryTold ∈ tl_GW := tl_inGW (tl_in4 (List.mem_of_getElem? (i := 17) rfl)) rfl
theorem kk_L_13 : Cond.classLink RL 13 "java/lang/IndexOutOfBoundsException" ∈ tl_GW := tl_inGW (tl_in4 (List.mem_of_getElem? (i := 19) rfl)) rfl
theorem ml_L_44 : Cond.methodLink RL 44 yX9_galleryOf ∈ tl_GW := tl_inGW (tl_in4 (List.mem_of_getElem? (i := 20) rfl)) rfl
theorem im_X9_galleryOf : Cond.instanceMethod yX9_galleryOf ∈ tl_GW := tl_inGW (tl_in4 (List.mem_of_getElem? (i := 21) rfl)) rfl
theorem se_X9_galleryOf : Cond.selects RX9 yX9_galleryOf yX9_galleryOf ∈ tl_GW := tl_inGW (tl_in4 (List.mem_of_getElem? (i := 22) rfl)) rfl
theorem cd_X9_galleryOf : Cond.code yX9_galleryOf cX9_galleryOf 4 (some .int) ∈ tl_GW := tl_inGW (tl_in4 (List.mem_of_getElem? (i := 23) rfl)) rfl
theorem ml_X9_138 : Cond.methodLink RX9 138 yX5_hasGallery ∈ tl_GW := tl_inGW (tl_in4 (List.mem_of_getElem? (i := 24) rfl)) rfl
theorem ml_X9_154 : Cond.methodLink RX9 154 yX9_strokesFor ∈ tl_GW := tl_inGW (tl_in4 (List.mem_of_getElem? (i := 25) rfl)) rfl
theorem ml_X9_158 : Cond.methodLink RX9 158 yX5_isLit ∈ tl_GW := tl_inGW (tl_in4 (List.mem_of_getElem? (i := 26) rfl)) rfl
theorem ml_X9_162 : Cond.methodLink RX9 162 yX5_minersIn ∈ tl_GW := tl_inGW (tl_in4 (List.mem_of_getElem? (i := 27) rfl)) rfl
theorem ml_X9_166 : Cond.methodLink RX9 166 yX5_lampsIn ∈ tl_GW := tl_inGW (tl_in4 (List.mem_of_getElem? (i := 28) rfl)) rfl
theorem im_X5_lampsIn : Cond.instanceMethod yX5_lampsIn ∈ tl_GW := tl_inGW (tl_in4 (List.mem_of_getElem? (i := 29) rfl)) rfl
theorem se_X5_lampsIn : Cond.selects RX5 yX5_lampsIn yX5_lampsIn ∈ tl_GW := tl_inGW (tl_in4 (List.mem_of_getElem? (i := 30) rfl)) rfl
theorem cd_X5_lampsIn : Cond.code yX5_lampsIn cX5_lampsIn 4 (some .int) ∈ tl_GW := tl_inGW (tl_in4 (List.mem_of_getElem? (i := 31) rfl)) rfl
theorem kc_L_15 : Cond.constant RL 15 (-9999001) ∈ tl_GW := tl_inGW (tl_in4 (List.mem_of_getElem? (i := 32) rfl)) rfl
theorem ml_L_126 : Cond.methodLink RL 126 yL_tryWorker ∈ tl_GW := tl_inGW (tl_in4 (List.mem_of_getElem? (i := 33) rfl)) rfl
theorem sm_L_tryWorker : Cond.static yL_tryWorker ∈ tl_GW := tl_inGW (tl_in4 (List.mem_of_getElem? (i := 34) rfl)) rfl
theorem ml_L_48 : Cond.methodLink RL 48 yX9_minerOf ∈ tl_GW := tl_inGW (tl_in4 (List.mem_of_getElem? (i := 36) rfl)) rfl
theorem im_X9_minerOf : Cond.instanceMethod yX9_minerOf ∈ tl_GW := tl_inGW (tl_in4 (List.mem_of_getElem? (i := 37) rfl)) rfl
theorem se_X9_minerOf : Cond.selects RX9 yX9_minerOf yX9_minerOf ∈ tl_GW := tl_inGW (tl_in4 (List.mem_of_getElem? (i := 38) rfl)) rfl
theorem cd_X9_minerOf : Cond.code yX9_minerOf cX9_minerOf 4 (some .int) ∈ tl_GW := tl_inGW (tl_in4 (List.mem_of_getElem? (i := 39) rfl)) rfl
theorem ml_X9_169 : Cond.methodLink RX9 169 yX5_hasMiner ∈ tl_GW := tl_inGW (tl_in4 (List.mem_of_getElem? (i := 40) rfl)) rfl
theorem ml_L_129 : Cond.methodLink RL 129 yL_tryGlow ∈ tl_GW := tl_inGW (tl_in4 (List.mem_of_getElem? (i := 41) rfl)) rfl
theorem sm_L_tryGlow : Cond.static yL_tryGlow ∈ tl_GW := tl_inGW (tl_in4 (List.mem_of_getElem? (i := 42) rfl)) rfl
theorem ml_L_51 : Cond.methodLink RL 51 yX9_lampOf ∈ tl_GW := tl_inGW (tl_in4 (List.mem_of_getElem? (i := 44) rfl)) rfl
theorem im_X9_lampOf : Cond.instanceMethod yX9_lampOf ∈ tl_GW := tl_inGW (tl_in4 (List.mem_of_getElem? (i := 45) rfl)) rfl
theorem se_X9_lampOf : Cond.selects RX9 yX9_lampOf yX9_lampOf ∈ tl_GW := tl_inGW (tl_in4 (List.mem_of_getElem? (i := 46) rfl)) rfl
theorem cd_X9_lampOf : Cond.code yX9_lampOf cX9_lampOf 4 (some .int) ∈ tl_GW := tl_inGW (tl_in4 (List.mem_of_getElem? (i := 47) rfl)) rfl
theorem ml_X9_186 : Cond.methodLink RX9 186 yX5_hasLamp ∈ tl_GW := tl_inGW (tl_in4 (List.mem_of_getElem? (i := 48) rfl)) rfl
theorem ml_L_132 : Cond.methodLink RL 132 yL_tryLad ∈ tl_GW := tl_inGW (tl_in4 (List.mem_of_getElem? (i := 49) rfl)) rfl
theorem sm_L_tryLad : Cond.static yL_tryLad ∈ tl_GW := tl_inGW (tl_in4 (List.mem_of_getElem? (i := 50) rfl)) rfl
theorem ml_L_54 : Cond.methodLink RL 54 yX9_lad ∈ tl_GW := tl_inGW (tl_in4 (List.mem_of_getElem? (i := 52) rfl)) rfl
theorem im_X9_lad : Cond.instanceMethod yX9_lad ∈ tl_GW := tl_inGW (tl_in4 (List.mem_of_getElem? (i := 53) rfl)) rfl
theorem se_X9_lad : Cond.selects RX9 yX9_lad yX9_lad ∈ tl_GW := tl_inGW (tl_in4 (List.mem_of_getElem? (i := 54) rfl)) rfl
theorem cd_X9_lad : Cond.code yX9_lad cX9_lad 2 (some .int) ∈ tl_GW := tl_inGW (tl_in4 (List.mem_of_getElem? (i := 55) rfl)) rfl
theorem ml_X9_208 : Cond.methodLink RX9 208 yX5_ladWorks ∈ tl_GW := tl_inGW (tl_in4 (List.mem_of_getElem? (i := 56) rfl)) rfl
theorem ml_L_135 : Cond.methodLink RL 135 yL_tryOrder ∈ tl_GW := tl_inGW (tl_in4 (List.mem_of_getElem? (i := 57) rfl)) rfl
theorem sm_L_tryOrder : Cond.static yL_tryOrder ∈ tl_GW := tl_inGW (tl_in4 (List.mem_of_getElem? (i := 58) rfl)) rfl
theorem ml_L_57 : Cond.methodLink RL 57 yX9_orderOf ∈ tl_GW := tl_inGW (tl_in4 (List.mem_of_getElem? (i := 60) rfl)) rfl
theorem im_X9_orderOf : Cond.instanceMethod yX9_orderOf ∈ tl_GW := tl_inGW (tl_in4 (List.mem_of_getElem? (i := 61) rfl)) rfl
theorem se_X9_orderOf : Cond.selects RX9 yX9_orderOf yX9_orderOf ∈ tl_GW := tl_inGW (tl_in4 (List.mem_of_getElem? (i := 62) rfl)) rfl
theorem cd_X9_orderOf : Cond.code yX9_orderOf cX9_orderOf 5 (some .int) ∈ tl_GW := tl_inGW (tl_in4 (List.mem_of_getElem? (i := 63) rfl)) rfl
theorem ml_X9_211 : Cond.methodLink RX9 211 yX3_hasOrder ∈ tl_GW := tl_inGW (tl_in4 (List.mem_of_getElem? (i := 64) rfl)) rfl
theorem ml_L_138 : Cond.methodLink RL 138 yL_tryLit ∈ tl_GW := tl_inGW (tl_in4 (List.mem_of_getElem? (i := 65) rfl)) rfl
theorem sm_L_tryLit : Cond.static yL_tryLit ∈ tl_GW := tl_inGW (tl_in4 (List.mem_of_getElem? (i := 66) rfl)) rfl
theorem ml_L_60 : Cond.methodLink RL 60 yX9_lit ∈ tl_GW := tl_inGW (tl_in4 (List.mem_of_getElem? (i := 68) rfl)) rfl
theorem im_X9_lit : Cond.instanceMethod yX9_lit ∈ tl_GW := tl_inGW (tl_in4 (List.mem_of_getElem? (i := 69) rfl)) rfl
theorem se_X9_lit : Cond.selects RX9 yX9_lit yX9_lit ∈ tl_GW := tl_inGW (tl_in4 (List.mem_of_getElem? (i := 70) rfl)) rfl
theorem cd_X9_lit : Cond.code yX9_lit cX9_lit 3 (some .int) ∈ tl_GW := tl_inGW (tl_in4 (List.mem_of_getElem? (i := 71) rfl)) rfl
theorem ml_X9_229 : Cond.methodLink RX9 229 yX5_litCellByCell ∈ tl_GW := tl_inGW (tl_in4 (List.mem_of_getElem? (i := 72) rfl)) rfl
theorem im_X5_litCellByCell : Cond.instanceMethod yX5_litCellByCell ∈ tl_GW := tl_inGW (tl_in4 (List.mem_of_getElem? (i := 73) rfl)) rfl
theorem se_X5_litCellByCell : Cond.selects RX5 yX5_litCellByCell yX5_litCellByCell ∈ tl_GW := tl_inGW (tl_in4 (List.mem_of_getElem? (i := 74) rfl)) rfl
theorem cd_X5_litCellByCell : Cond.code yX5_litCellByCell cX5_litCellByCell 5 (some .int) ∈ tl_GW := tl_inGW (tl_in4 (List.mem_of_getElem? (i := 75) rfl)) rfl
theorem ml_X9_232 : Cond.methodLink RX9 232 yX5_litBySpans ∈ tl_GW := tl_inGW (tl_in4 (List.mem_of_getElem? (i := 76) rfl)) rfl
theorem im_X5_litBySpans : Cond.instanceMethod yX5_litBySpans ∈ tl_GW := tl_inGW (tl_in4 (List.mem_of_getElem? (i := 77) rfl)) rfl
theorem se_X5_litBySpans : Cond.selects RX5 yX5_litBySpans yX5_litBySpans ∈ tl_GW := tl_inGW (tl_in4 (List.mem_of_getElem? (i := 78) rfl)) rfl
theorem cd_X5_litBySpans : Cond.code yX5_litBySpans cX5_litBySpans 11 (some .int) ∈ tl_GW := tl_inGW (tl_in4 (List.mem_of_getElem? (i := 79) rfl)) rfl
theorem ml_X5_116 : Cond.methodLink RX5 116 yJ9_max_7cf53 ∈ tl_GW := tl_inGW (tl_in4 (List.mem_of_getElem? (i := 80) rfl)) rfl
theorem sm_J9_max_7cf53 : Cond.static yJ9_max_7cf53 ∈ tl_GW := tl_inGW (tl_in4 (List.mem_of_getElem? (i := 81) rfl)) rfl
theorem cd_J9_max_7cf53 : Cond.code yJ9_max_7cf53 cJ9_max_7cf53 2 (some .int) ∈ tl_GW := tl_inGW (tl_in4 (List.mem_of_getElem? (i := 82) rfl)) rfl
theorem ml_L_141 : Cond.methodLink RL 141 yL_tryGallery ∈ tl_GW := tl_inGW (tl_in4 (List.mem_of_getElem? (i := 83) rfl)) rfl
theorem sm_L_tryGallery : Cond.static yL_tryGallery ∈ tl_GW := tl_inGW (tl_in4 (List.mem_of_getElem? (i := 84) rfl)) rfl
theorem ml_L_63 : Cond.methodLink RL 63 yX9_gallery ∈ tl_GW := tl_inGW (tl_in4 (List.mem_of_getElem? (i := 86) rfl)) rfl
theorem im_X9_gallery : Cond.instanceMethod yX9_gallery ∈ tl_GW := tl_inGW (tl_in4 (List.mem_of_getElem? (i := 87) rfl)) rfl
theorem se_X9_gallery : Cond.selects RX9 yX9_gallery yX9_gallery ∈ tl_GW := tl_inGW (tl_in4 (List.mem_of_getElem? (i := 88) rfl)) rfl
theorem cd_X9_gallery : Cond.code yX9_gallery cX9_gallery 2 (some .int) ∈ tl_GW := tl_inGW (tl_in4 (List.mem_of_getElem? (i := 89) rfl)) rfl
theorem ml_X9_235 : Cond.methodLink RX9 235 yX9_act ∈ tl_GW := tl_inGW (tl_in4 (List.mem_of_getElem? (i := 90) rfl)) rfl
theorem im_X9_act : Cond.instanceMethod yX9_act ∈ tl_GW := tl_inGW (tl_in4 (List.mem_of_getElem? (i := 92) rfl)) rfl
theorem cd_X9_act : Cond.code yX9_act cX9_act 6 (some .int) ∈ tl_GW := tl_inGW (tl_in4 (List.mem_of_getElem? (i := 93) rfl)) rfl
theorem ml_X9_292 : Cond.methodLink RX9 292 yX0_become ∈ tl_GW := tl_inGW (tl_in4 (List.mem_of_getElem? (i := 94) rfl)) rfl
theorem ml_X9_296 : Cond.methodLink RX9 296 yX5_refusal ∈ tl_GW := tl_inGW (tl_in4 (List.mem_of_getElem? (i := 95) rfl)) rfl
theorem ml_X9_302 : Cond.methodLink RX9 302 yX2_remember ∈ tl_GW := tl_inGW (tl_in4 (List.mem_of_getElem? (i := 96) rfl)) rfl
theorem im_X2_remember : Cond.instanceMethod yX2_remember ∈ tl_GW := tl_inGW (tl_in4 (List.mem_of_getElem? (i := 97) rfl)) rfl
theorem se_X2_remember : Cond.selects RX2 yX2_remember yX2_remember ∈ tl_GW := tl_inGW (tl_in4 (List.mem_of_getElem? (i := 98) rfl)) rfl
theorem cd_X2_remember : Cond.code yX2_remember cX2_remember 2 none ∈ tl_GW := tl_inGW (tl_in4 (List.mem_of_getElem? (i := 99) rfl)) rfl
theorem ml_X2_25 : Cond.methodLink RX2 25 yX5_copyFrom ∈ tl_GW := tl_inGW (tl_in4 (List.mem_of_getElem? (i := 100) rfl)) rfl
theorem ml_X9_305 : Cond.methodLink RX9 305 yX5_perform ∈ tl_GW := tl_inGW (tl_in4 (List.mem_of_getElem? (i := 101) rfl)) rfl
theorem ml_L_144 : Cond.methodLink RL 144 yL_tryMiner ∈ tl_GW := tl_inGW (tl_in4 (List.mem_of_getElem? (i := 102) rfl)) rfl
theorem sm_L_tryMiner : Cond.static yL_tryMiner ∈ tl_GW := tl_inGW (tl_in4 (List.mem_of_getElem? (i := 103) rfl)) rfl
theorem ml_L_66 : Cond.methodLink RL 66 yX9_miner ∈ tl_GW := tl_inGW (tl_in4 (List.mem_of_getElem? (i := 105) rfl)) rfl
theorem im_X9_miner : Cond.instanceMethod yX9_miner ∈ tl_GW := tl_inGW (tl_in4 (List.mem_of_getElem? (i := 106) rfl)) rfl
theorem se_X9_miner : Cond.selects RX9 yX9_miner yX9_miner ∈ tl_GW := tl_inGW (tl_in4 (List.mem_of_getElem? (i := 107) rfl)) rfl
theorem cd_X9_miner : Cond.code yX9_miner cX9_miner 3 (some .int) ∈ tl_GW := tl_inGW (tl_in4 (List.mem_of_getElem? (i := 108) rfl)) rfl
theorem ml_L_147 : Cond.methodLink RL 147 yL_trySend ∈ tl_GW := tl_inGW (tl_in4 (List.mem_of_getElem? (i := 109) rfl)) rfl
theorem sm_L_trySend : Cond.static yL_trySend ∈ tl_GW := tl_inGW (tl_in4 (List.mem_of_getElem? (i := 110) rfl)) rfl
theorem ml_L_69 : Cond.methodLink RL 69 yX9_send ∈ tl_GW := tl_inGW (tl_in4 (List.mem_of_getElem? (i := 112) rfl)) rfl
theorem im_X9_send : Cond.instanceMethod yX9_send ∈ tl_GW := tl_inGW (tl_in4 (List.mem_of_getElem? (i := 113) rfl)) rfl
theorem se_X9_send : Cond.selects RX9 yX9_send yX9_send ∈ tl_GW := tl_inGW (tl_in4 (List.mem_of_getElem? (i := 114) rfl)) rfl
theorem cd_X9_send : Cond.code yX9_send cX9_send 3 (some .int) ∈ tl_GW := tl_inGW (tl_in4 (List.mem_of_getElem? (i := 115) rfl)) rfl
theorem ml_L_150 : Cond.methodLink RL 150 yL_tryStore ∈ tl_GW := tl_inGW (tl_in4 (List.mem_of_getElem? (i := 116) rfl)) rfl
theorem sm_L_tryStore : Cond.static yL_tryStore ∈ tl_GW := tl_inGW (tl_in4 (List.mem_of_getElem? (i := 117) rfl)) rfl
theorem ml_L_72 : Cond.methodLink RL 72 yX9_store ∈ tl_GW := tl_inGW (tl_in4 (List.mem_of_getElem? (i := 119) rfl)) rfl
theorem im_X9_store : Cond.instanceMethod yX9_store ∈ tl_GW := tl_inGW (tl_in4 (List.mem_of_getElem? (i := 120) rfl)) rfl
theorem se_X9_store : Cond.selects RX9 yX9_store yX9_store ∈ tl_GW := tl_inGW (tl_in4 (List.mem_of_getElem? (i := 121) rfl)) rfl
theorem cd_X9_store : Cond.code yX9_store cX9_store 2 (some .int) ∈ tl_GW := tl_inGW (tl_in4 (List.mem_of_getElem? (i := 122) rfl)) rfl
theorem ml_L_153 : Cond.methodLink RL 153 yL_tryHang ∈ tl_GW := tl_inGW (tl_in4 (List.mem_of_getElem? (i := 123) rfl)) rfl
theorem sm_L_tryHang : Cond.static yL_tryHang ∈ tl_GW := tl_inGW (tl_in4 (List.mem_of_getElem? (i := 124) rfl)) rfl
theorem ml_L_75 : Cond.methodLink RL 75 yX9_hang ∈ tl_GW := tl_inGW (tl_in4 (List.mem_of_getElem? (i := 126) rfl)) rfl
theorem im_X9_hang : Cond.instanceMethod yX9_hang ∈ tl_GW := tl_inGW (tl_in4 (List.mem_of_getElem? (i := 127) rfl)) rfl
theorem se_X9_hang : Cond.selects RX9 yX9_hang yX9_hang ∈ tl_GW := tl_inGW (tl_in4 (List.mem_of_getElem? (i := 128) rfl)) rfl
theorem cd_X9_hang : Cond.code yX9_hang cX9_hang 4 (some .int) ∈ tl_GW := tl_inGW (tl_in4 (List.mem_of_getElem? (i := 129) rfl)) rfl
theorem ml_L_157 : Cond.methodLink RL 157 yL_tryFill ∈ tl_GW := tl_inGW (tl_in4 (List.mem_of_getElem? (i := 130) rfl)) rfl
theorem sm_L_tryFill : Cond.static yL_tryFill ∈ tl_GW := tl_inGW (tl_in4 (List.mem_of_getElem? (i := 131) rfl)) rfl
theorem ml_L_79 : Cond.methodLink RL 79 yX9_fill ∈ tl_GW := tl_inGW (tl_in4 (List.mem_of_getElem? (i := 133) rfl)) rfl
theorem im_X9_fill : Cond.instanceMethod yX9_fill ∈ tl_GW := tl_inGW (tl_in4 (List.mem_of_getElem? (i := 134) rfl)) rfl
theorem se_X9_fill : Cond.selects RX9 yX9_fill yX9_fill ∈ tl_GW := tl_inGW (tl_in4 (List.mem_of_getElem? (i := 135) rfl)) rfl
theorem cd_X9_fill : Cond.code yX9_fill cX9_fill 3 (some .int) ∈ tl_GW := tl_inGW (tl_in4 (List.mem_of_getElem? (i := 136) rfl)) rfl
theorem ml_L_160 : Cond.methodLink RL 160 yL_tryDrop ∈ tl_GW := tl_inGW (tl_in4 (List.mem_of_getElem? (i := 137) rfl)) rfl
theorem sm_L_tryDrop : Cond.static yL_tryDrop ∈ tl_GW := tl_inGW (tl_in4 (List.mem_of_getElem? (i := 138) rfl)) rfl
theorem ml_L_82 : Cond.methodLink RL 82 yX9_drop ∈ tl_GW := tl_inGW (tl_in4 (List.mem_of_getElem? (i := 140) rfl)) rfl
theorem im_X9_drop : Cond.instanceMethod yX9_drop ∈ tl_GW := tl_inGW (tl_in4 (List.mem_of_getElem? (i := 141) rfl)) rfl
theorem se_X9_drop : Cond.selects RX9 yX9_drop yX9_drop ∈ tl_GW := tl_inGW (tl_in4 (List.mem_of_getElem? (i := 142) rfl)) rfl
theorem cd_X9_drop : Cond.code yX9_drop cX9_drop 2 (some .int) ∈ tl_GW := tl_inGW (tl_in4 (List.mem_of_getElem? (i := 143) rfl)) rfl
theorem ml_L_163 : Cond.methodLink RL 163 yL_tryLay ∈ tl_GW := tl_inGW (tl_in4 (List.mem_of_getElem? (i := 144) rfl)) rfl
theorem sm_L_tryLay : Cond.static yL_tryLay ∈ tl_GW := tl_inGW (tl_in4 (List.mem_of_getElem? (i := 145) rfl)) rfl
theorem ml_L_85 : Cond.methodLink RL 85 yX9_set ∈ tl_GW := tl_inGW (tl_in4 (List.mem_of_getElem? (i := 147) rfl)) rfl
theorem im_X9_set : Cond.instanceMethod yX9_set ∈ tl_GW := tl_inGW (tl_in4 (List.mem_of_getElem? (i := 148) rfl)) rfl
theorem se_X9_set : Cond.selects RX9 yX9_set yX9_set ∈ tl_GW := tl_inGW (tl_in4 (List.mem_of_getElem? (i := 149) rfl)) rfl
theorem cd_X9_set : Cond.code yX9_set cX9_set 3 (some .int) ∈ tl_GW := tl_inGW (tl_in4 (List.mem_of_getElem? (i := 150) rfl)) rfl
theorem ml_L_166 : Cond.methodLink RL 166 yL_tryHours ∈ tl_GW := tl_inGW (tl_in4 (List.mem_of_getElem? (i := 151) rfl)) rfl
theorem sm_L_tryHours : Cond.static yL_tryHours ∈ tl_GW := tl_inGW (tl_in4 (List.mem_of_getElem? (i := 152) rfl)) rfl
theorem ml_L_88 : Cond.methodLink RL 88 yX9_hours ∈ tl_GW := tl_inGW (tl_in4 (List.mem_of_getElem? (i := 154) rfl)) rfl
theorem im_X9_hours : Cond.instanceMethod yX9_hours ∈ tl_GW := tl_inGW (tl_in4 (List.mem_of_getElem? (i := 155) rfl)) rfl
theorem se_X9_hours : Cond.selects RX9 yX9_hours yX9_hours ∈ tl_GW := tl_inGW (tl_in4 (List.mem_of_getElem? (i := 156) rfl)) rfl
theorem cd_X9_hours : Cond.code yX9_hours cX9_hours 2 (some .int) ∈ tl_GW := tl_inGW (tl_in4 (List.mem_of_getElem? (i := 157) rfl)) rfl
theorem ml_L_169 : Cond.methodLink RL 169 yL_tryUndo ∈ tl_GW := tl_inGW (tl_in4 (List.mem_of_getElem? (i := 158) rfl)) rfl
theorem sm_L_tryUndo : Cond.static yL_tryUndo ∈ tl_GW := tl_inGW (tl_in4 (List.mem_of_getElem? (i := 159) rfl)) rfl
theorem ml_L_91 : Cond.methodLink RL 91 yX9_undo ∈ tl_GW := tl_inGW (tl_in4 (List.mem_of_getElem? (i := 161) rfl)) rfl
theorem im_X9_undo : Cond.instanceMethod yX9_undo ∈ tl_GW := tl_inGW (tl_in4 (List.mem_of_getElem? (i := 162) rfl)) rfl
theorem se_X9_undo : Cond.selects RX9 yX9_undo yX9_undo ∈ tl_GW := tl_inGW (tl_in4 (List.mem_of_getElem? (i := 163) rfl)) rfl
theorem cd_X9_undo : Cond.code yX9_undo cX9_undo 1 (some .int) ∈ tl_GW := tl_inGW (tl_in4 (List.mem_of_getElem? (i := 164) rfl)) rfl
theorem ml_X9_242 : Cond.methodLink RX9 242 yX2_takeBack ∈ tl_GW := tl_inGW (tl_in4 (List.mem_of_getElem? (i := 165) rfl)) rfl
theorem im_X2_takeBack : Cond.instanceMethod yX2_takeBack ∈ tl_GW := tl_inGW (tl_in4 (List.mem_of_getElem? (i := 166) rfl)) rfl
theorem se_X2_takeBack : Cond.selects RX2 yX2_takeBack yX2_takeBack ∈ tl_GW := tl_inGW (tl_in4 (List.mem_of_getElem? (i := 167) rfl)) rfl
theorem cd_X2_takeBack : Cond.code yX2_takeBack cX2_takeBack 2 none ∈ tl_GW := tl_inGW (tl_in4 (List.mem_of_getElem? (i := 168) rfl)) rfl
theorem ml_L_172 : Cond.methodLink RL 172 yL_tryDark ∈ tl_GW := tl_inGW (tl_in4 (List.mem_of_getElem? (i := 169) rfl)) rfl
theorem sm_L_tryDark : Cond.static yL_tryDark ∈ tl_GW := tl_inGW (tl_in4 (List.mem_of_getElem? (i := 170) rfl)) rfl
theorem ml_L_94 : Cond.methodLink RL 94 yX9_darkIn ∈ tl_GW := tl_inGW (tl_in4 (List.mem_of_getElem? (i := 172) rfl)) rfl
theorem im_X9_darkIn : Cond.instanceMethod yX9_darkIn ∈ tl_GW := tl_inGW (tl_in4 (List.mem_of_getElem? (i := 173) rfl)) rfl
theorem se_X9_darkIn : Cond.selects RX9 yX9_darkIn yX9_darkIn ∈ tl_GW := tl_inGW (tl_in4 (List.mem_of_getElem? (i := 174) rfl)) rfl
theorem cd_X9_darkIn : Cond.code yX9_darkIn cX9_darkIn 3 (some .int) ∈ tl_GW := tl_inGW (tl_in4 (List.mem_of_getElem? (i := 175) rfl)) rfl
theorem ml_X9_245 : Cond.methodLink RX9 245 yX5_letHoursGo ∈ tl_GW := tl_inGW (tl_in4 (List.mem_of_getElem? (i := 176) rfl)) rfl
theorem ml_L_175 : Cond.methodLink RL 175 yL_tryDeep ∈ tl_GW := tl_inGW (tl_in4 (List.mem_of_getElem? (i := 177) rfl)) rfl
theorem sm_L_tryDeep : Cond.static yL_tryDeep ∈ tl_GW := tl_inGW (tl_in4 (List.mem_of_getElem? (i := 178) rfl)) rfl
theorem ml_L_97 : Cond.methodLink RL 97 yX9_depthIn ∈ tl_GW := tl_inGW (tl_in4 (List.mem_of_getElem? (i := 180) rfl)) rfl
theorem im_X9_depthIn : Cond.instanceMethod yX9_depthIn ∈ tl_GW := tl_inGW (tl_in4 (List.mem_of_getElem? (i := 181) rfl)) rfl
theorem se_X9_depthIn : Cond.selects RX9 yX9_depthIn yX9_depthIn ∈ tl_GW := tl_inGW (tl_in4 (List.mem_of_getElem? (i := 182) rfl)) rfl
theorem cd_X9_depthIn : Cond.code yX9_depthIn cX9_depthIn 3 (some .int) ∈ tl_GW := tl_inGW (tl_in4 (List.mem_of_getElem? (i := 183) rfl)) rfl
theorem ml_L_178 : Cond.methodLink RL 178 yL_tryBest ∈ tl_GW := tl_inGW (tl_in4 (List.mem_of_getElem? (i := 184) rfl)) rfl
theorem sm_L_tryBest : Cond.static yL_tryBest ∈ tl_GW := tl_inGW (tl_in4 (List.mem_of_getElem? (i := 185) rfl)) rfl
theorem ml_L_100 : Cond.methodLink RL 100 yX9_bestCell ∈ tl_GW := tl_inGW (tl_in4 (List.mem_of_getElem? (i := 187) rfl)) rfl
theorem im_X9_bestCell : Cond.instanceMethod yX9_bestCell ∈ tl_GW := tl_inGW (tl_in4 (List.mem_of_getElem? (i := 188) rfl)) rfl
theorem se_X9_bestCell : Cond.selects RX9 yX9_bestCell yX9_bestCell ∈ tl_GW := tl_inGW (tl_in4 (List.mem_of_getElem? (i := 189) rfl)) rfl
theorem cd_X9_bestCell : Cond.code yX9_bestCell cX9_bestCell 8 (some .int) ∈ tl_GW := tl_inGW (tl_in4 (List.mem_of_getElem? (i := 190) rfl)) rfl
theorem ml_X9_251 : Cond.methodLink RX9 251 yX3_hasRoomForOrder ∈ tl_GW := tl_inGW (tl_in4 (List.mem_of_getElem? (i := 191) rfl)) rfl
theorem ml_X9_254 : Cond.methodLink RX9 254 yX3_addHang ∈ tl_GW := tl_inGW (tl_in4 (List.mem_of_getElem? (i := 192) rfl)) rfl
theorem ml_L_181 : Cond.methodLink RL 181 yL_tryKeep ∈ tl_GW := tl_inGW (tl_in4 (List.mem_of_getElem? (i := 193) rfl)) rfl
theorem sm_L_tryKeep : Cond.static yL_tryKeep ∈ tl_GW := tl_inGW (tl_in4 (List.mem_of_getElem? (i := 194) rfl)) rfl
theorem ml_L_103 : Cond.methodLink RL 103 yX9_save ∈ tl_GW := tl_inGW (tl_in4 (List.mem_of_getElem? (i := 196) rfl)) rfl
theorem im_X9_save : Cond.instanceMethod yX9_save ∈ tl_GW := tl_inGW (tl_in4 (List.mem_of_getElem? (i := 197) rfl)) rfl
theorem se_X9_save : Cond.selects RX9 yX9_save yX9_save ∈ tl_GW := tl_inGW (tl_in4 (List.mem_of_getElem? (i := 198) rfl)) rfl
theorem cd_X9_save : Cond.code yX9_save cX9_save 2 (some .int) ∈ tl_GW := tl_inGW (tl_in4 (List.mem_of_getElem? (i := 199) rfl)) rfl
theorem ml_L_184 : Cond.methodLink RL 184 yL_tryBack ∈ tl_GW := tl_inGW (tl_in4 (List.mem_of_getElem? (i := 200) rfl)) rfl
theorem sm_L_tryBack : Cond.static yL_tryBack ∈ tl_GW := tl_inGW (tl_in4 (List.mem_of_getElem? (i := 201) rfl)) rfl
theorem ml_L_106 : Cond.methodLink RL 106 yX9_restore ∈ tl_GW := tl_inGW (tl_in4 (List.mem_of_getElem? (i := 203) rfl)) rfl
theorem im_X9_restore : Cond.instanceMethod yX9_restore ∈ tl_GW := tl_inGW (tl_in4 (List.mem_of_getElem? (i := 204) rfl)) rfl
theorem se_X9_restore : Cond.selects RX9 yX9_restore yX9_restore ∈ tl_GW := tl_inGW (tl_in4 (List.mem_of_getElem? (i := 205) rfl)) rfl
theorem cd_X9_restore : Cond.code yX9_restore cX9_restore 3 (some .int) ∈ tl_GW := tl_inGW (tl_in4 (List.mem_of_getElem? (i := 206) rfl)) rfl
theorem ml_L_213 : Cond.methodLink RL 213 yL_cell ∈ tl_GW := tl_inGW (tl_in4 (List.mem_of_getElem? (i := 207) rfl)) rfl
theorem sm_L_cell : Cond.static yL_cell ∈ tl_GW := tl_inGW (tl_in4 (List.mem_of_getElem? (i := 208) rfl)) rfl
theorem cd_L_cell : Cond.code yL_cell cL_cell 2 (some .int) ∈ tl_GW := tl_inGW (tl_in4 (List.mem_of_getElem? (i := 209) rfl)) rfl
theorem kc_L_187 : Cond.constant RL 187 (15519781) ∈ tl_GW := tl_inGW (tl_in4 (List.mem_of_getElem? (i := 210) rfl)) rfl
theorem kc_L_188 : Cond.constant RL 188 (2147483647) ∈ tl_GW := tl_inGW (tl_in4 (List.mem_of_getElem? (i := 211) rfl)) rfl
theorem ml_L_221 : Cond.methodLink RL 221 yL_refuses ∈ tl_GW := tl_inGW (tl_in4 (List.mem_of_getElem? (i := 212) rfl)) rfl
theorem sm_L_refuses : Cond.static yL_refuses ∈ tl_GW := tl_inGW (tl_in4 (List.mem_of_getElem? (i := 213) rfl)) rfl
theorem cd_L_refuses : Cond.code yL_refuses cL_refuses 11 (some .boolean) ∈ tl_GW := tl_inGW (tl_in4 (List.mem_of_getElem? (i := 214) rfl)) rfl
theorem ml_L_193 : Cond.methodLink RL 193 yL_lamps ∈ tl_GW := tl_inGW (tl_in4 (List.mem_of_getElem? (i := 215) rfl)) rfl
theorem sm_L_lamps : Cond.static yL_lamps ∈ tl_GW := tl_inGW (tl_in4 (List.mem_of_getElem? (i := 216) rfl)) rfl
theorem ml_L_7 : Cond.methodLink RL 7 yX9_lamp ∈ tl_GW := tl_inGW (tl_in4 (List.mem_of_getElem? (i := 218) rfl)) rfl
theorem im_X9_lamp : Cond.instanceMethod yX9_lamp ∈ tl_GW := tl_inGW (tl_in4 (List.mem_of_getElem? (i := 219) rfl)) rfl
theorem se_X9_lamp : Cond.selects RX9 yX9_lamp yX9_lamp ∈ tl_GW := tl_inGW (tl_in4 (List.mem_of_getElem? (i := 220) rfl)) rfl
theorem cd_X9_lamp : Cond.code yX9_lamp cX9_lamp 5 (some .int) ∈ tl_GW := tl_inGW (tl_in4 (List.mem_of_getElem? (i := 221) rfl)) rfl
theorem ml_L_196 : Cond.methodLink RL 196 yL_ways ∈ tl_GW := tl_inGW (tl_in4 (List.mem_of_getElem? (i := 222) rfl)) rfl
theorem sm_L_ways : Cond.static yL_ways ∈ tl_GW := tl_inGW (tl_in4 (List.mem_of_getElem? (i := 223) rfl)) rfl
theorem ml_L_22 : Cond.methodLink RL 22 yX9_steps ∈ tl_GW := tl_inGW (tl_in4 (List.mem_of_getElem? (i := 225) rfl)) rfl
theorem im_X9_steps : Cond.instanceMethod yX9_steps ∈ tl_GW := tl_inGW (tl_in4 (List.mem_of_getElem? (i := 226) rfl)) rfl
theorem se_X9_steps : Cond.selects RX9 yX9_steps yX9_steps ∈ tl_GW := tl_inGW (tl_in4 (List.mem_of_getElem? (i := 227) rfl)) rfl
theorem cd_X9_steps : Cond.code yX9_steps cX9_steps 5 (some .int) ∈ tl_GW := tl_inGW (tl_in4 (List.mem_of_getElem? (i := 228) rfl)) rfl
theorem ml_X9_258 : Cond.methodLink RX9 258 yX5_hasCell ∈ tl_GW := tl_inGW (tl_in4 (List.mem_of_getElem? (i := 229) rfl)) rfl
theorem ml_X9_261 : Cond.methodLink RX9 261 yJ9_abs_0f7a4 ∈ tl_GW := tl_inGW (tl_in4 (List.mem_of_getElem? (i := 230) rfl)) rfl
theorem sm_J9_abs_0f7a4 : Cond.static yJ9_abs_0f7a4 ∈ tl_GW := tl_inGW (tl_in4 (List.mem_of_getElem? (i := 231) rfl)) rfl
theorem cd_J9_abs_0f7a4 : Cond.code yJ9_abs_0f7a4 cJ9_abs_0f7a4 1 (some .int) ∈ tl_GW := tl_inGW (tl_in4 (List.mem_of_getElem? (i := 232) rfl)) rfl
theorem ml_L_199 : Cond.methodLink RL 199 yL_doScript ∈ tl_GW := tl_inGW (tl_in4 (List.mem_of_getElem? (i := 233) rfl)) rfl
theorem sm_L_doScript : Cond.static yL_doScript ∈ tl_GW := tl_inGW (tl_in4 (List.mem_of_getElem? (i := 234) rfl)) rfl
theorem ml_L_25 : Cond.methodLink RL 25 yX9_runScript ∈ tl_GW := tl_inGW (tl_in4 (List.mem_of_getElem? (i := 236) rfl)) rfl
theorem im_X9_runScript : Cond.instanceMethod yX9_runScript ∈ tl_GW := tl_inGW (tl_in4 (List.mem_of_getElem? (i := 237) rfl)) rfl
theorem se_X9_runScript : Cond.selects RX9 yX9_runScript yX9_runScript ∈ tl_GW := tl_inGW (tl_in4 (List.mem_of_getElem? (i := 238) rfl)) rfl
theorem cd_X9_runScript : Cond.code yX9_runScript cX9_runScript 6 (some .int) ∈ tl_GW := tl_inGW (tl_in4 (List.mem_of_getElem? (i := 239) rfl)) rfl
theorem ml_X9_266 : Cond.methodLink RX9 266 yX9_numbersOf ∈ tl_GW := tl_inGW (tl_in5 (List.mem_of_getElem? (i := 0) rfl)) rfl
theorem sm_X9_numbersOf : Cond.static yX9_numbersOf ∈ tl_GW := tl_inGW (tl_in5 (List.mem_of_getElem? (i := 1) rfl)) rfl
theorem cd_X9_numbersOf : Cond.code yX9_numbersOf cX9_numbersOf 1 (some .long) ∈ tl_GW := tl_inGW (tl_in5 (List.mem_of_getElem? (i := 2) rfl)) rfl
theorem kl_X9_270 : Cond.constantLong RX9 270 (1000000) ∈ tl_GW := tl_inGW (tl_in5 (List.mem_of_getElem? (i := 3) rfl)) rfl
theorem kl_X9_329 : Cond.constantLong RX9 329 (1000000000000) ∈ tl_GW := tl_inGW (tl_in5 (List.mem_of_getElem? (i := 4) rfl)) rfl
theorem kl_X9_331 : Cond.constantLong RX9 331 (1000000000000000000) ∈ tl_GW := tl_inGW (tl_in5 (List.mem_of_getElem? (i := 5) rfl)) rfl
theorem ml_X9_272 : Cond.methodLink RX9 272 yX0_readGroup ∈ tl_GW := tl_inGW (tl_in5 (List.mem_of_getElem? (i := 6) rfl)) rfl
theorem im_X0_readGroup : Cond.instanceMethod yX0_readGroup ∈ tl_GW := tl_inGW (tl_in5 (List.mem_of_getElem? (i := 7) rfl)) rfl
theorem se_X0_readGroup : Cond.selects RX0 yX0_readGroup yX0_readGroup ∈ tl_GW := tl_inGW (tl_in5 (List.mem_of_getElem? (i := 8) rfl)) rfl
theorem cd_X0_readGroup : Cond.code yX0_readGroup cX0_readGroup 9 (some .boolean) ∈ tl_GW := tl_inGW (tl_in5 (List.mem_of_getElem? (i := 9) rfl)) rfl
theorem kc_X0_25 : Cond.constant RX0 25 (100000) ∈ tl_GW := tl_inGW (tl_in5 (List.mem_of_getElem? (i := 10) rfl)) rfl
theorem ml_X0_26 : Cond.methodLink RX0 26 yX0_become ∈ tl_GW := tl_inGW (tl_in5 (List.mem_of_getElem? (i := 11) rfl)) rfl
theorem ml_X9_275 : Cond.methodLink RX9 275 yX0_isTest ∈ tl_GW := tl_inGW (tl_in5 (List.mem_of_getElem? (i := 12) rfl)) rfl
theorem im_X0_isTest : Cond.instanceMethod yX0_isTest ∈ tl_GW := tl_inGW (tl_in5 (List.mem_of_getElem? (i := 13) rfl)) rfl
theorem se_X0_isTest : Cond.selects RX0 yX0_isTest yX0_isTest ∈ tl_GW := tl_inGW (tl_in5 (List.mem_of_getElem? (i := 14) rfl)) rfl
theorem cd_X0_isTest : Cond.code yX0_isTest cX0_isTest 1 (some .boolean) ∈ tl_GW := tl_inGW (tl_in5 (List.mem_of_getElem? (i := 15) rfl)) rfl
theorem ml_X9_278 : Cond.methodLink RX9 278 yX5_passes ∈ tl_GW := tl_inGW (tl_in5 (List.mem_of_getElem? (i := 16) rfl)) rfl
theorem im_X5_passes : Cond.instanceMethod yX5_passes ∈ tl_GW := tl_inGW (tl_in5 (List.mem_of_getElem? (i := 17) rfl)) rfl
theorem se_X5_passes : Cond.selects RX5 yX5_passes yX5_passes ∈ tl_GW := tl_inGW (tl_in5 (List.mem_of_getElem? (i := 18) rfl)) rfl
theorem cd_X5_passes : Cond.code yX5_passes cX5_passes 2 (some .boolean) ∈ tl_GW := tl_inGW (tl_in5 (List.mem_of_getElem? (i := 19) rfl)) rfl
theorem kl_L_203 : Cond.constantLong RL 203 (1000000) ∈ tl_GW := tl_inGW (tl_in5 (List.mem_of_getElem? (i := 20) rfl)) rfl
theorem ml_L_205 : Cond.methodLink RL 205 yL_doSimulate ∈ tl_GW := tl_inGW (tl_in5 (List.mem_of_getElem? (i := 21) rfl)) rfl
theorem sm_L_doSimulate : Cond.static yL_doSimulate ∈ tl_GW := tl_inGW (tl_in5 (List.mem_of_getElem? (i := 22) rfl)) rfl
theorem ml_L_29 : Cond.methodLink RL 29 yX9_simulate ∈ tl_GW := tl_inGW (tl_in5 (List.mem_of_getElem? (i := 24) rfl)) rfl
theorem im_X9_simulate : Cond.instanceMethod yX9_simulate ∈ tl_GW := tl_inGW (tl_in5 (List.mem_of_getElem? (i := 25) rfl)) rfl
theorem se_X9_simulate : Cond.selects RX9 yX9_simulate yX9_simulate ∈ tl_GW := tl_inGW (tl_in5 (List.mem_of_getElem? (i := 26) rfl)) rfl
theorem cd_X9_simulate : Cond.code yX9_simulate cX9_simulate 7 (some .int) ∈ tl_GW := tl_inGW (tl_in5 (List.mem_of_getElem? (i := 27) rfl)) rfl
theorem kl_X9_281 : Cond.constantLong RX9 281 (6364136223846793005) ∈ tl_GW := tl_inGW (tl_in5 (List.mem_of_getElem? (i := 28) rfl)) rfl
theorem kl_X9_283 : Cond.constantLong RX9 283 (1442695040888963407) ∈ tl_GW := tl_inGW (tl_in5 (List.mem_of_getElem? (i := 29) rfl)) rfl
theorem ml_X9_285 : Cond.methodLink RX9 285 yX0_readTurn ∈ tl_GW := tl_inGW (tl_in5 (List.mem_of_getElem? (i := 30) rfl)) rfl
theorem im_X0_readTurn : Cond.instanceMethod yX0_readTurn ∈ tl_GW := tl_inGW (tl_in5 (List.mem_of_getElem? (i := 31) rfl)) rfl
theorem se_X0_readTurn : Cond.selects RX0 yX0_readTurn yX0_readTurn ∈ tl_GW := tl_inGW (tl_in5 (List.mem_of_getElem? (i := 32) rfl)) rfl
theorem cd_X0_readTurn : Cond.code yX0_readTurn cX0_readTurn 3 none ∈ tl_GW := tl_inGW (tl_in5 (List.mem_of_getElem? (i := 33) rfl)) rfl
theorem ml_X9_289 : Cond.methodLink RX9 289 yJ9_min_7cf53 ∈ tl_GW := tl_inGW (tl_in5 (List.mem_of_getElem? (i := 34) rfl)) rfl
theorem ml_L_229 : Cond.methodLink RL 229 yL_holds ∈ tl_GW := tl_inGW (tl_in5 (List.mem_of_getElem? (i := 35) rfl)) rfl
theorem sm_L_holds : Cond.static yL_holds ∈ tl_GW := tl_inGW (tl_in5 (List.mem_of_getElem? (i := 36) rfl)) rfl
theorem cd_L_holds : Cond.code yL_holds cL_holds 22 (some .boolean) ∈ tl_GW := tl_inGW (tl_in5 (List.mem_of_getElem? (i := 37) rfl)) rfl
theorem ml_L_209 : Cond.methodLink RL 209 yX9_doneIn ∈ tl_GW := tl_inGW (tl_in5 (List.mem_of_getElem? (i := 38) rfl)) rfl
theorem im_X9_doneIn : Cond.instanceMethod yX9_doneIn ∈ tl_GW := tl_inGW (tl_in5 (List.mem_of_getElem? (i := 39) rfl)) rfl
theorem se_X9_doneIn : Cond.selects RX9 yX9_doneIn yX9_doneIn ∈ tl_GW := tl_inGW (tl_in5 (List.mem_of_getElem? (i := 40) rfl)) rfl
theorem cd_X9_doneIn : Cond.code yX9_doneIn cX9_doneIn 2 (some .int) ∈ tl_GW := tl_inGW (tl_in5 (List.mem_of_getElem? (i := 41) rfl)) rfl
theorem ml_L_217 : Cond.methodLink RL 217 yL_act ∈ tl_GW := tl_inGW (tl_in5 (List.mem_of_getElem? (i := 42) rfl)) rfl
theorem sm_L_act : Cond.static yL_act ∈ tl_GW := tl_inGW (tl_in5 (List.mem_of_getElem? (i := 43) rfl)) rfl
theorem cd_L_act : Cond.code yL_act cL_act 8 (some .int) ∈ tl_GW := tl_inGW (tl_in5 (List.mem_of_getElem? (i := 44) rfl)) rfl
theorem ml_L_225 : Cond.methodLink RL 225 yL_alike ∈ tl_GW := tl_inGW (tl_in5 (List.mem_of_getElem? (i := 45) rfl)) rfl
theorem sm_L_alike : Cond.static yL_alike ∈ tl_GW := tl_inGW (tl_in5 (List.mem_of_getElem? (i := 46) rfl)) rfl
theorem cd_L_alike : Cond.code yL_alike cL_alike 5 (some .boolean) ∈ tl_GW := tl_inGW (tl_in5 (List.mem_of_getElem? (i := 47) rfl)) rfl
theorem ml_L_233 : Cond.methodLink RL 233 yL_dark ∈ tl_GW := tl_inGW (tl_in5 (List.mem_of_getElem? (i := 48) rfl)) rfl
theorem sm_L_dark : Cond.static yL_dark ∈ tl_GW := tl_inGW (tl_in5 (List.mem_of_getElem? (i := 49) rfl)) rfl
theorem cd_L_dark : Cond.code yL_dark cL_dark 11 (some .boolean) ∈ tl_GW := tl_inGW (tl_in5 (List.mem_of_getElem? (i := 50) rfl)) rfl
theorem ml_L_247 : Cond.methodLink RL 247 yL_waits ∈ tl_GW := tl_inGW (tl_in5 (List.mem_of_getElem? (i := 51) rfl)) rfl
theorem sm_L_waits : Cond.static yL_waits ∈ tl_GW := tl_inGW (tl_in5 (List.mem_of_getElem? (i := 52) rfl)) rfl
theorem cd_L_waits : Cond.code yL_waits cL_waits 7 (some .boolean) ∈ tl_GW := tl_inGW (tl_in5 (List.mem_of_getElem? (i := 53) rfl)) rfl
theorem ml_L_250 : Cond.methodLink RL 250 yL_undoes ∈ tl_GW := tl_inGW (tl_in5 (List.mem_of_getElem? (i := 54) rfl)) rfl
theorem sm_L_undoes : Cond.static yL_undoes ∈ tl_GW := tl_inGW (tl_in5 (List.mem_of_getElem? (i := 55) rfl)) rfl
theorem cd_L_undoes : Cond.code yL_undoes cL_undoes 5 (some .boolean) ∈ tl_GW := tl_inGW (tl_in5 (List.mem_of_getElem? (i := 56) rfl)) rfl
theorem ml_L_243 : Cond.methodLink RL 243 yL_thrown ∈ tl_GW := tl_inGW (tl_in5 (List.mem_of_getElem? (i := 57) rfl)) rfl
theorem sm_L_thrown : Cond.static yL_thrown ∈ tl_GW := tl_inGW (tl_in5 (List.mem_of_getElem? (i := 58) rfl)) rfl
theorem cd_L_thrown : Cond.code yL_thrown cL_thrown 1 (some .boolean) ∈ tl_GW := tl_inGW (tl_in5 (List.mem_of_getElem? (i := 59) rfl)) rfl
theorem ml_L_236 : Cond.methodLink RL 236 yL_done ∈ tl_GW := tl_inGW (tl_in5 (List.mem_of_getElem? (i := 60) rfl)) rfl
theorem sm_L_done : Cond.static yL_done ∈ tl_GW := tl_inGW (tl_in5 (List.mem_of_getElem? (i := 61) rfl)) rfl
theorem cd_L_done : Cond.code yL_done cL_done 8 (some .boolean) ∈ tl_GW := tl_inGW (tl_in5 (List.mem_of_getElem? (i := 62) rfl)) rfl
theorem ml_L_240 : Cond.methodLink RL 240 yL_best ∈ tl_GW := tl_inGW (tl_in5 (List.mem_of_getElem? (i := 63) rfl)) rfl
theorem sm_L_best : Cond.static yL_best ∈ tl_GW := tl_inGW (tl_in5 (List.mem_of_getElem? (i := 64) rfl)) rfl
theorem cd_L_best : Cond.code yL_best cL_best 12 (some .boolean) ∈ tl_GW := tl_inGW (tl_in5 (List.mem_of_getElem? (i := 65) rfl)) rfl
theorem kc_L_220 : Cond.constant RL 220 (100000) ∈ tl_GW := tl_inGW (tl_in5 (List.mem_of_getElem? (i := 66) rfl)) rfl
theorem se_X6_readNumbers : Cond.selects RX6 yX6_readNumbers yX6_readNumbers ∈ tl_GW := tl_inGWs (List.mem_of_getElem? (i := 1) (by decide +kernel)) rfl
theorem se_X6_readNumber : Cond.selects RX6 yX6_readNumber yX6_readNumber ∈ tl_GW := tl_inGWs (List.mem_of_getElem? (i := 2) (by decide +kernel)) rfl
theorem se_X6_readGallery : Cond.selects RX6 yX6_readGallery yX6_readGallery ∈ tl_GW := tl_inGWs (List.mem_of_getElem? (i := 3) (by decide +kernel)) rfl
theorem se_X6_readCell : Cond.selects RX6 yX6_readCell yX6_readCell ∈ tl_GW := tl_inGWs (List.mem_of_getElem? (i := 4) (by decide +kernel)) rfl
theorem se_X6_readLamp : Cond.selects RX6 yX6_readLamp yX6_readLamp ∈ tl_GW := tl_inGWs (List.mem_of_getElem? (i := 5) (by decide +kernel)) rfl
theorem se_X5_addGallery : Cond.selects RX5 yX5_addGallery yX5_addGallery ∈ tl_GW := tl_inGWs (List.mem_of_getElem? (i := 6) (by decide +kernel)) rfl
theorem se_X5_addMiner : Cond.selects RX5 yX5_addMiner yX5_addMiner ∈ tl_GW := tl_inGWs (List.mem_of_getElem? (i := 7) (by decide +kernel)) rfl
theorem se_X5_sendMiner : Cond.selects RX5 yX5_sendMiner yX5_sendMiner ∈ tl_GW := tl_inGWs (List.mem_of_getElem? (i := 8) (by decide +kernel)) rfl
theorem se_X5_addLamp : Cond.selects RX5 yX5_addLamp yX5_addLamp ∈ tl_GW := tl_inGWs (List.mem_of_getElem? (i := 9) (by decide +kernel)) rfl
theorem se_X5_bringOil : Cond.selects RX5 yX5_bringOil yX5_bringOil ∈ tl_GW := tl_inGWs (List.mem_of_getElem? (i := 10) (by decide +kernel)) rfl
theorem se_X3_addOrder : Cond.selects RX3 yX3_addOrder yX3_addOrder ∈ tl_GW := tl_inGWs (List.mem_of_getElem? (i := 11) (by decide +kernel)) rfl
theorem se_X5_changeSetting : Cond.selects RX5 yX5_changeSetting yX5_changeSetting ∈ tl_GW := tl_inGWs (List.mem_of_getElem? (i := 12) (by decide +kernel)) rfl
theorem se_X5_minersWork : Cond.selects RX5 yX5_minersWork yX5_minersWork ∈ tl_GW := tl_inGWs (List.mem_of_getElem? (i := 13) (by decide +kernel)) rfl
theorem se_X5_lampsBurn : Cond.selects RX5 yX5_lampsBurn yX5_lampsBurn ∈ tl_GW := tl_inGWs (List.mem_of_getElem? (i := 14) (by decide +kernel)) rfl
theorem se_X5_doesWhatNeedsNoStep : Cond.selects RX5 yX5_doesWhatNeedsNoStep yX5_doesWhatNeedsNoStep ∈ tl_GW := tl_inGWs (List.mem_of_getElem? (i := 15) (by decide +kernel)) rfl
theorem se_X5_takesLamp : Cond.selects RX5 yX5_takesLamp yX5_takesLamp ∈ tl_GW := tl_inGWs (List.mem_of_getElem? (i := 16) (by decide +kernel)) rfl
theorem se_X5_hangsLamp : Cond.selects RX5 yX5_hangsLamp yX5_hangsLamp ∈ tl_GW := tl_inGWs (List.mem_of_getElem? (i := 17) (by decide +kernel)) rfl
theorem se_X5_poursOil : Cond.selects RX5 yX5_poursOil yX5_poursOil ∈ tl_GW := tl_inGWs (List.mem_of_getElem? (i := 18) (by decide +kernel)) rfl
theorem se_X5_fetchesOil : Cond.selects RX5 yX5_fetchesOil yX5_fetchesOil ∈ tl_GW := tl_inGWs (List.mem_of_getElem? (i := 19) (by decide +kernel)) rfl
theorem se_X5_makesStep : Cond.selects RX5 yX5_makesStep yX5_makesStep ∈ tl_GW := tl_inGWs (List.mem_of_getElem? (i := 20) (by decide +kernel)) rfl
theorem se_X5_ladSeesTheDark : Cond.selects RX5 yX5_ladSeesTheDark yX5_ladSeesTheDark ∈ tl_GW := tl_inGWs (List.mem_of_getElem? (i := 21) (by decide +kernel)) rfl
theorem se_X5_fullestLampBelow : Cond.selects RX5 yX5_fullestLampBelow yX5_fullestLampBelow ∈ tl_GW := tl_inGWs (List.mem_of_getElem? (i := 22) (by decide +kernel)) rfl
theorem se_X9_act : Cond.selects RX9 yX9_act yX9_act ∈ tl_GW := tl_inGWs (List.mem_of_getElem? (i := 23) (by decide +kernel)) rfl
abbrev mX0_init : tl_M := (yX0_init, cX0_init, 1, none, tl_rm 1 0 0)
abbrev mX0_become : tl_M := (yX0_become, cX0_become, 6, none, tl_rm 0 0 0)
abbrev mX0_putNumber : tl_M := (yX0_putNumber, cX0_putNumber, 3, none, tl_rm 0 0 0)
abbrev mX0_isTest : tl_M := (yX0_isTest, cX0_isTest, 1, (some .boolean), tl_rm 0 0 0)
abbrev mX0_readGroup : tl_M := (yX0_readGroup, cX0_readGroup, 9, (some .boolean), tl_rm 1 0 0)
abbrev mX0_readTurn : tl_M := (yX0_readTurn, cX0_readTurn, 3, none, tl_rm 1 0 0)
abbrev mX4_init : tl_M := (yX4_init, cX4_init, 1, none, tl_rm 1 0 0)
abbrev mX4_copyFrom : tl_M := (yX4_copyFrom, cX4_copyFrom, 2, none, tl_rm 0 0 0)
abbrev mX4_lights : tl_M := (yX4_lights, cX4_lights, 3, (some .boolean), tl_rm 1 0 0)
abbrev mX4_burnsIn : tl_M := (yX4_burnsIn, cX4_burnsIn, 2, (some .boolean), tl_rm 0 0 0)
abbrev mX7_init : tl_M := (yX7_init, cX7_init, 1, none, tl_rm 1 0 0)
abbrev mX7_copyFrom : tl_M := (yX7_copyFrom, cX7_copyFrom, 2, none, tl_rm 0 0 0)
abbrev mX8_init : tl_M := (yX8_init, cX8_init, 1, none, tl_rm 1 0 0)
abbrev mX8_copyFrom : tl_M := (yX8_copyFrom, cX8_copyFrom, 2, none, tl_rm 0 0 0)
abbrev mX3_init : tl_M := (yX3_init, cX3_init, 2, none, tl_rm 2 7 36)
abbrev mX3_copyFrom : tl_M := (yX3_copyFrom, cX3_copyFrom, 3, none, tl_rm 1 0 0)
abbrev mX3_hasOrder : tl_M := (yX3_hasOrder, cX3_hasOrder, 2, (some .boolean), tl_rm 0 0 0)
abbrev mX3_hasRoomForOrder : tl_M := (yX3_hasRoomForOrder, cX3_hasRoomForOrder, 1, (some .boolean), tl_rm 0 0 0)
abbrev mX3_addHang : tl_M := (yX3_addHang, cX3_addHang, 4, (some .int), tl_rm 2 0 0)
abbrev mX3_addFill : tl_M := (yX3_addFill, cX3_addFill, 3, (some .int), tl_rm 2 0 0)
abbrev mX3_addOrder : tl_M := (yX3_addOrder, cX3_addOrder, 7, (some .int), tl_rm 1 0 0)
abbrev mX3_removeOrder : tl_M := (yX3_removeOrder, cX3_removeOrder, 4, (some .int), tl_rm 0 0 0)
abbrev mX3_handsAreFree : tl_M := (yX3_handsAreFree, cX3_handsAreFree, 1, (some .boolean), tl_rm 0 0 0)
abbrev mX3_isAt : tl_M := (yX3_isAt, cX3_isAt, 3, (some .boolean), tl_rm 0 0 0)
abbrev mX3_stepTowards : tl_M := (yX3_stepTowards, cX3_stepTowards, 3, none, tl_rm 0 0 0)
abbrev mX1_init : tl_M := (yX1_init, cX1_init, 1, none, tl_rm 1 0 0)
abbrev mX1_copyFrom : tl_M := (yX1_copyFrom, cX1_copyFrom, 2, none, tl_rm 0 0 0)
abbrev mX1_strike : tl_M := (yX1_strike, cX1_strike, 4, (some .int), tl_rm 1 0 0)
abbrev mX2_init : tl_M := (yX2_init, cX2_init, 2, none, tl_rm 4 407 1946)
abbrev mX2_remember : tl_M := (yX2_remember, cX2_remember, 2, none, tl_rm 3 0 0)
abbrev mX2_takeBack : tl_M := (yX2_takeBack, cX2_takeBack, 2, none, tl_rm 3 0 0)
abbrev mX2_forgetAll : tl_M := (yX2_forgetAll, cX2_forgetAll, 1, none, tl_rm 0 0 0)
abbrev mX6_init : tl_M := (yX6_init, cX6_init, 1, none, tl_rm 1 1 120)
abbrev mX6_isFull : tl_M := (yX6_isFull, cX6_isFull, 1, (some .boolean), tl_rm 0 0 0)
abbrev mX6_add : tl_M := (yX6_add, cX6_add, 2, (some .int), tl_rm 0 0 0)
abbrev mX6_startCommands : tl_M := (yX6_startCommands, cX6_startCommands, 1, none, tl_rm 0 0 0)
abbrev mX6_findError : tl_M := (yX6_findError, cX6_findError, 4, (some .int), tl_rm 5 0 0)
abbrev mX6_readCommand : tl_M := (yX6_readCommand, cX6_readCommand, 2, (some .boolean), tl_rm 4 0 0)
abbrev mX6_actionOf : tl_M := (yX6_actionOf, cX6_actionOf, 1, (some .int), tl_rm 0 0 0)
abbrev mX6_readNumbers : tl_M := (yX6_readNumbers, cX6_readNumbers, 2, (some .boolean), tl_rm 3 0 0)
abbrev mX6_readGallery : tl_M := (yX6_readGallery, cX6_readGallery, 3, (some .boolean), tl_rm 2 0 0)
abbrev mX6_readCell : tl_M := (yX6_readCell, cX6_readCell, 3, (some .boolean), tl_rm 2 0 0)
abbrev mX6_readLamp : tl_M := (yX6_readLamp, cX6_readLamp, 2, (some .boolean), tl_rm 2 0 0)
abbrev mX6_readNumber : tl_M := (yX6_readNumber, cX6_readNumber, 11, (some .boolean), tl_rm 1 0 0)
abbrev mX9_init : tl_M := (yX9_init, cX9_init, 2, none, tl_rm 5 558 2771)
abbrev mX9_append : tl_M := (yX9_append, cX9_append, 2, (some .int), tl_rm 8 1 6)
abbrev mX9_load : tl_M := (yX9_load, cX9_load, 3, (some .int), tl_rm 8 1 6)
abbrev mX9_about : tl_M := (yX9_about, cX9_about, 2, (some .int), tl_rm 8 1 6)
abbrev mX9_galleryOf : tl_M := (yX9_galleryOf, cX9_galleryOf, 4, (some .int), tl_rm 8 1 6)
abbrev mX9_minerOf : tl_M := (yX9_minerOf, cX9_minerOf, 4, (some .int), tl_rm 8 1 6)
abbrev mX9_lampOf : tl_M := (yX9_lampOf, cX9_lampOf, 4, (some .int), tl_rm 8 1 6)
abbrev mX9_lad : tl_M := (yX9_lad, cX9_lad, 2, (some .int), tl_rm 8 1 6)
abbrev mX9_orderOf : tl_M := (yX9_orderOf, cX9_orderOf, 5, (some .int), tl_rm 8 1 6)
abbrev mX9_lit : tl_M := (yX9_lit, cX9_lit, 3, (some .int), tl_rm 8 1 6)
abbrev mX9_gallery : tl_M := (yX9_gallery, cX9_gallery, 2, (some .int), tl_rm 8 1 6)
abbrev mX9_miner : tl_M := (yX9_miner, cX9_miner, 3, (some .int), tl_rm 8 1 6)
abbrev mX9_send : tl_M := (yX9_send, cX9_send, 3, (some .int), tl_rm 8 1 6)
abbrev mX9_lamp : tl_M := (yX9_lamp, cX9_lamp, 5, (some .int), tl_rm 8 1 6)
abbrev mX9_store : tl_M := (yX9_store, cX9_store, 2, (some .int), tl_rm 8 1 6)
abbrev mX9_hang : tl_M := (yX9_hang, cX9_hang, 4, (some .int), tl_rm 8 1 6)
abbrev mX9_fill : tl_M := (yX9_fill, cX9_fill, 3, (some .int), tl_rm 8 1 6)
abbrev mX9_drop : tl_M := (yX9_drop, cX9_drop, 2, (some .int), tl_rm 8 1 6)
abbrev mX9_set : tl_M := (yX9_set, cX9_set, 3, (some .int), tl_rm 8 1 6)
abbrev mX9_hours : tl_M := (yX9_hours, cX9_hours, 2, (some .int), tl_rm 8 1 6)
abbrev mX9_undo : tl_M := (yX9_undo, cX9_undo, 1, (some .int), tl_rm 8 1 6)
abbrev mX9_darkIn : tl_M := (yX9_darkIn, cX9_darkIn, 3, (some .int), tl_rm 8 1 6)
abbrev mX9_depthIn : tl_M := (yX9_depthIn, cX9_depthIn, 3, (some .int), tl_rm 8 1 6)
abbrev mX9_doneIn : tl_M := (yX9_doneIn, cX9_doneIn, 2, (some .int), tl_rm 5 0 0)
abbrev mX9_bestCell : tl_M := (yX9_bestCell, cX9_bestCell, 8, (some .int), tl_rm 8 1 6)
abbrev mX9_steps : tl_M := (yX9_steps, cX9_steps, 5, (some .int), tl_rm 8 1 6)
abbrev mX9_runScript : tl_M := (yX9_runScript, cX9_runScript, 6, (some .int), tl_rm 8 1 6)
abbrev mX9_simulate : tl_M := (yX9_simulate, cX9_simulate, 7, (some .int), tl_rm 8 1 6)
abbrev mX9_save : tl_M := (yX9_save, cX9_save, 2, (some .int), tl_rm 8 1 6)
abbrev mX9_restore : tl_M := (yX9_restore, cX9_restore, 3, (some .int), tl_rm 8 1 6)
abbrev mX9_act : tl_M := (yX9_act, cX9_act, 6, (some .int), tl_rm 7 1 6)
abbrev mX9_demand : tl_M := (yX9_demand, cX9_demand, 3, none, tl_rm 7 1 6)
abbrev mX9_throwFor : tl_M := (yX9_throwFor, cX9_throwFor, 1, none, tl_rm 6 1 6)
abbrev mX9_refusalOf : tl_M := (yX9_refusalOf, cX9_refusalOf, 3, (some .int), tl_rm 0 0 0)
abbrev mX9_isWithin : tl_M := (yX9_isWithin, cX9_isWithin, 3, (some .boolean), tl_rm 0 0 0)
abbrev mX9_strokesFor : tl_M := (yX9_strokesFor, cX9_strokesFor, 2, (some .int), tl_rm 0 0 0)
abbrev mX9_numbersOf : tl_M := (yX9_numbersOf, cX9_numbersOf, 1, (some .long), tl_rm 0 0 0)
abbrev mX5_init : tl_M := (yX5_init, cX5_init, 2, none, tl_rm 3 28 122)
abbrev mX5_copyFrom : tl_M := (yX5_copyFrom, cX5_copyFrom, 3, none, tl_rm 2 0 0)
abbrev mX5_hasGallery : tl_M := (yX5_hasGallery, cX5_hasGallery, 2, (some .boolean), tl_rm 0 0 0)
abbrev mX5_hasCell : tl_M := (yX5_hasCell, cX5_hasCell, 3, (some .boolean), tl_rm 1 0 0)
abbrev mX5_hasMiner : tl_M := (yX5_hasMiner, cX5_hasMiner, 2, (some .boolean), tl_rm 0 0 0)
abbrev mX5_hasLamp : tl_M := (yX5_hasLamp, cX5_hasLamp, 2, (some .boolean), tl_rm 0 0 0)
abbrev mX5_oilInLamps : tl_M := (yX5_oilInLamps, cX5_oilInLamps, 3, (some .int), tl_rm 0 0 0)
abbrev mX5_minersIn : tl_M := (yX5_minersIn, cX5_minersIn, 4, (some .int), tl_rm 0 0 0)
abbrev mX5_lampsIn : tl_M := (yX5_lampsIn, cX5_lampsIn, 4, (some .int), tl_rm 0 0 0)
abbrev mX5_isLit : tl_M := (yX5_isLit, cX5_isLit, 4, (some .boolean), tl_rm 2 0 0)
abbrev mX5_litCellByCell : tl_M := (yX5_litCellByCell, cX5_litCellByCell, 5, (some .int), tl_rm 3 0 0)
abbrev mX5_litBySpans : tl_M := (yX5_litBySpans, cX5_litBySpans, 11, (some .int), tl_rm 1 0 0)
abbrev mX5_attempt : tl_M := (yX5_attempt, cX5_attempt, 2, (some .boolean), tl_rm 6 0 0)
abbrev mX5_refusal : tl_M := (yX5_refusal, cX5_refusal, 2, (some .int), tl_rm 2 0 0)
abbrev mX5_isSetting : tl_M := (yX5_isSetting, cX5_isSetting, 2, (some .boolean), tl_rm 1 0 0)
abbrev mX5_perform : tl_M := (yX5_perform, cX5_perform, 2, (some .int), tl_rm 5 0 0)
abbrev mX5_addGallery : tl_M := (yX5_addGallery, cX5_addGallery, 3, (some .int), tl_rm 0 0 0)
abbrev mX5_addMiner : tl_M := (yX5_addMiner, cX5_addMiner, 4, (some .int), tl_rm 0 0 0)
abbrev mX5_sendMiner : tl_M := (yX5_sendMiner, cX5_sendMiner, 4, (some .int), tl_rm 1 0 0)
abbrev mX5_addLamp : tl_M := (yX5_addLamp, cX5_addLamp, 6, (some .int), tl_rm 0 0 0)
abbrev mX5_bringOil : tl_M := (yX5_bringOil, cX5_bringOil, 2, (some .int), tl_rm 0 0 0)
abbrev mX5_changeSetting : tl_M := (yX5_changeSetting, cX5_changeSetting, 4, (some .int), tl_rm 0 0 0)
abbrev mX5_passes : tl_M := (yX5_passes, cX5_passes, 2, (some .boolean), tl_rm 3 0 0)
abbrev mX5_letHoursGo : tl_M := (yX5_letHoursGo, cX5_letHoursGo, 4, (some .int), tl_rm 4 0 0)
abbrev mX5_minersWork : tl_M := (yX5_minersWork, cX5_minersWork, 4, none, tl_rm 3 0 0)
abbrev mX5_lampsBurn : tl_M := (yX5_lampsBurn, cX5_lampsBurn, 2, none, tl_rm 0 0 0)
abbrev mX5_ladWorks : tl_M := (yX5_ladWorks, cX5_ladWorks, 4, (some .int), tl_rm 3 0 0)
abbrev mX5_doesWhatNeedsNoStep : tl_M := (yX5_doesWhatNeedsNoStep, cX5_doesWhatNeedsNoStep, 3, (some .boolean), tl_rm 2 0 0)
abbrev mX5_takesLamp : tl_M := (yX5_takesLamp, cX5_takesLamp, 3, (some .boolean), tl_rm 1 0 0)
abbrev mX5_hangsLamp : tl_M := (yX5_hangsLamp, cX5_hangsLamp, 3, (some .boolean), tl_rm 1 0 0)
abbrev mX5_fetchesOil : tl_M := (yX5_fetchesOil, cX5_fetchesOil, 2, (some .boolean), tl_rm 1 0 0)
abbrev mX5_poursOil : tl_M := (yX5_poursOil, cX5_poursOil, 3, (some .boolean), tl_rm 1 0 0)
abbrev mX5_makesStep : tl_M := (yX5_makesStep, cX5_makesStep, 2, none, tl_rm 1 0 0)
abbrev mX5_ladSeesTheDark : tl_M := (yX5_ladSeesTheDark, cX5_ladSeesTheDark, 4, none, tl_rm 3 0 0)
abbrev mX5_fullestLampBelow : tl_M := (yX5_fullestLampBelow, cX5_fullestLampBelow, 6, (some .int), tl_rm 1 0 0)
