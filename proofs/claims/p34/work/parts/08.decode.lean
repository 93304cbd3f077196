/-! Constants and instructions. -/
theorem bp_6 : (Int8.ofInt 6).toInt32 = 6 := by decide
theorem bp_7 : (Int8.ofInt 7).toInt32 = 7 := by decide
theorem bp_8 : (Int8.ofInt 8).toInt32 = 8 := by decide
theorem bp_9 : (Int8.ofInt 9).toInt32 = 9 := by decide
theorem bp_10 : (Int8.ofInt 10).toInt32 = 10 := by decide
theorem bp_11 : (Int8.ofInt 11).toInt32 = 11 := by decide
theorem bp_12 : (Int8.ofInt 12).toInt32 = 12 := by decide
theorem bp_13 : (Int8.ofInt 13).toInt32 = 13 := by decide
theorem bp_14 : (Int8.ofInt 14).toInt32 = 14 := by decide
theorem bp_16 : (Int8.ofInt 16).toInt32 = 16 := by decide
theorem bp_30 : (Int8.ofInt 30).toInt32 = 30 := by decide
theorem bp_32 : (Int8.ofInt 32).toInt32 = 32 := by decide
theorem bp_33 : (Int8.ofInt 33).toInt32 = 33 := by decide
theorem bp_40 : (Int8.ofInt 40).toInt32 = 40 := by decide
theorem bp_48 : (Int8.ofInt 48).toInt32 = 48 := by decide
theorem bp_59 : (Int8.ofInt 59).toInt32 = 59 := by decide
theorem bp_60 : (Int8.ofInt 60).toInt32 = 60 := by decide
theorem bp_84 : (Int8.ofInt 84).toInt32 = 84 := by decide
theorem bp_99 : (Int8.ofInt 99).toInt32 = 99 := by decide
theorem bp_100 : (Int8.ofInt 100).toInt32 = 100 := by decide
theorem bp_120 : (Int8.ofInt 120).toInt32 = 120 := by decide
theorem ic_m1 : Int32.ofInt (-1) = (-1) := by decide
theorem ic_0 : Int32.ofInt 0 = 0 := by decide
theorem ic_1 : Int32.ofInt 1 = 1 := by decide
theorem ic_2 : Int32.ofInt 2 = 2 := by decide
theorem ic_3 : Int32.ofInt 3 = 3 := by decide
theorem ic_4 : Int32.ofInt 4 = 4 := by decide
theorem ic_5 : Int32.ofInt 5 = 5 := by decide
theorem ii_1 (x : Int32) : x + Int32.ofInt 1 = x + 1 := congrArg (x + ·) (by decide)
theorem lc_0 : Int64.ofNat ((0 : Fin 2) : Nat) = 0 := by decide
theorem lc_1 : Int64.ofNat ((1 : Fin 2) : Nat) = 1 := by decide
theorem lti_0 : ((0 : Int32)).toInt = 0 := by decide
theorem li_0 (N : Nat) (h : Nat.blt 0 N = true) : vp_in 0 N := vp_in_iff.mpr ⟨by decide, by rw [lti_0]; exact Int.ofNat_lt.mpr (Nat.le_of_ble_eq_true h)⟩
theorem lx_0 : ((0 : Int32)).toNatClampNeg = 0 := by decide
theorem sp_128 : (Int16.ofInt 128).toInt32 = 128 := by decide
theorem sp_200 : (Int16.ofInt 200).toInt32 = 200 := by decide
theorem sp_255 : (Int16.ofInt 255).toInt32 = 255 := by decide
theorem sp_999 : (Int16.ofInt 999).toInt32 = 999 := by decide
theorem sp_1000 : (Int16.ofInt 1000).toInt32 = 1000 := by decide
theorem sp_1440 : (Int16.ofInt 1440).toInt32 = 1440 := by decide
theorem sp_2048 : (Int16.ofInt 2048).toInt32 = 2048 := by decide
theorem sp_9999 : (Int16.ofInt 9999).toInt32 = 9999 := by decide
theorem sp_10000 : (Int16.ofInt 10000).toInt32 = 10000 := by decide
theorem dX0_init_0 : decode cX0_init 0 = .ok (.aload_n 0, 1) := by decide +kernel
theorem dX0_init_1 : decode cX0_init 1 = .ok (.invokespecial 1, 3) := by decide +kernel
theorem dX0_init_4 : decode cX0_init 4 = .ok (.return_, 1) := by decide +kernel
theorem dX0_become_0 : decode cX0_become 0 = .ok (.aload_n 0, 1) := by decide +kernel
theorem dX0_become_1 : decode cX0_become 1 = .ok (.iload_n 1, 1) := by decide +kernel
theorem dX0_become_2 : decode cX0_become 2 = .ok (.putfield 7, 3) := by decide +kernel
theorem dX0_become_5 : decode cX0_become 5 = .ok (.aload_n 0, 1) := by decide +kernel
theorem dX0_become_6 : decode cX0_become 6 = .ok (.iload_n 2, 1) := by decide +kernel
theorem dX0_become_7 : decode cX0_become 7 = .ok (.putfield 13, 3) := by decide +kernel
theorem dX0_become_10 : decode cX0_become 10 = .ok (.aload_n 0, 1) := by decide +kernel
theorem dX0_become_11 : decode cX0_become 11 = .ok (.iload_n 3, 1) := by decide +kernel
theorem dX0_become_12 : decode cX0_become 12 = .ok (.putfield 16, 3) := by decide +kernel
theorem dX0_become_15 : decode cX0_become 15 = .ok (.aload_n 0, 1) := by decide +kernel
theorem dX0_become_16 : decode cX0_become 16 = .ok (.iload 4, 2) := by decide +kernel
theorem dX0_become_18 : decode cX0_become 18 = .ok (.putfield 19, 3) := by decide +kernel
theorem dX0_become_21 : decode cX0_become 21 = .ok (.aload_n 0, 1) := by decide +kernel
theorem dX0_become_22 : decode cX0_become 22 = .ok (.iload 5, 2) := by decide +kernel
theorem dX0_become_24 : decode cX0_become 24 = .ok (.putfield 22, 3) := by decide +kernel
theorem dX0_become_27 : decode cX0_become 27 = .ok (.return_, 1) := by decide +kernel
theorem dX0_putNumber_0 : decode cX0_putNumber 0 = .ok (.iload_n 1, 1) := by decide +kernel
theorem dX0_putNumber_1 : decode cX0_putNumber 1 = .ok (.tableswitch 51 0 2 #[27, 35, 43], 27) := by decide +kernel
theorem dX0_putNumber_28 : decode cX0_putNumber 28 = .ok (.aload_n 0, 1) := by decide +kernel
theorem dX0_putNumber_29 : decode cX0_putNumber 29 = .ok (.iload_n 2, 1) := by decide +kernel
theorem dX0_putNumber_30 : decode cX0_putNumber 30 = .ok (.putfield 13, 3) := by decide +kernel
theorem dX0_putNumber_33 : decode cX0_putNumber 33 = .ok (.goto 24, 3) := by decide +kernel
theorem dX0_putNumber_36 : decode cX0_putNumber 36 = .ok (.aload_n 0, 1) := by decide +kernel
theorem dX0_putNumber_37 : decode cX0_putNumber 37 = .ok (.iload_n 2, 1) := by decide +kernel
theorem dX0_putNumber_38 : decode cX0_putNumber 38 = .ok (.putfield 16, 3) := by decide +kernel
theorem dX0_putNumber_41 : decode cX0_putNumber 41 = .ok (.goto 16, 3) := by decide +kernel
theorem dX0_putNumber_44 : decode cX0_putNumber 44 = .ok (.aload_n 0, 1) := by decide +kernel
theorem dX0_putNumber_45 : decode cX0_putNumber 45 = .ok (.iload_n 2, 1) := by decide +kernel
theorem dX0_putNumber_46 : decode cX0_putNumber 46 = .ok (.putfield 19, 3) := by decide +kernel
theorem dX0_putNumber_49 : decode cX0_putNumber 49 = .ok (.goto 8, 3) := by decide +kernel
theorem dX0_putNumber_52 : decode cX0_putNumber 52 = .ok (.aload_n 0, 1) := by decide +kernel
theorem dX0_putNumber_53 : decode cX0_putNumber 53 = .ok (.iload_n 2, 1) := by decide +kernel
theorem dX0_putNumber_54 : decode cX0_putNumber 54 = .ok (.putfield 22, 3) := by decide +kernel
theorem dX0_putNumber_57 : decode cX0_putNumber 57 = .ok (.return_, 1) := by decide +kernel
theorem dX0_isTest_0 : decode cX0_isTest 0 = .ok (.aload_n 0, 1) := by decide +kernel
theorem dX0_isTest_1 : decode cX0_isTest 1 = .ok (.getfield 7, 3) := by decide +kernel
theorem dX0_isTest_4 : decode cX0_isTest 4 = .ok (.bipush 11, 2) := by decide +kernel
theorem dX0_isTest_6 : decode cX0_isTest 6 = .ok (.if_icmp .lt 7, 3) := by decide +kernel
theorem dX0_isTest_9 : decode cX0_isTest 9 = .ok (.iconst 1, 1) := by decide +kernel
theorem dX0_isTest_10 : decode cX0_isTest 10 = .ok (.goto 4, 3) := by decide +kernel
theorem dX0_isTest_13 : decode cX0_isTest 13 = .ok (.iconst 0, 1) := by decide +kernel
theorem dX0_isTest_14 : decode cX0_isTest 14 = .ok (.ireturn, 1) := by decide +kernel
theorem dX0_readGroup_0 : decode cX0_readGroup 0 = .ok (.iload_n 1, 1) := by decide +kernel
theorem dX0_readGroup_1 : decode cX0_readGroup 1 = .ok (.sipush 10000, 3) := by decide +kernel
theorem dX0_readGroup_4 : decode cX0_readGroup 4 = .ok (.idiv, 1) := by decide +kernel
theorem dX0_readGroup_5 : decode cX0_readGroup 5 = .ok (.bipush 10, 2) := by decide +kernel
theorem dX0_readGroup_7 : decode cX0_readGroup 7 = .ok (.irem, 1) := by decide +kernel
theorem dX0_readGroup_8 : decode cX0_readGroup 8 = .ok (.istore_n 2, 1) := by decide +kernel
theorem dX0_readGroup_9 : decode cX0_readGroup 9 = .ok (.iload_n 1, 1) := by decide +kernel
theorem dX0_readGroup_10 : decode cX0_readGroup 10 = .ok (.sipush 1000, 3) := by decide +kernel
theorem dX0_readGroup_13 : decode cX0_readGroup 13 = .ok (.idiv, 1) := by decide +kernel
theorem dX0_readGroup_14 : decode cX0_readGroup 14 = .ok (.bipush 10, 2) := by decide +kernel
theorem dX0_readGroup_16 : decode cX0_readGroup 16 = .ok (.irem, 1) := by decide +kernel
theorem dX0_readGroup_17 : decode cX0_readGroup 17 = .ok (.istore_n 3, 1) := by decide +kernel
theorem dX0_readGroup_18 : decode cX0_readGroup 18 = .ok (.iload_n 1, 1) := by decide +kernel
theorem dX0_readGroup_19 : decode cX0_readGroup 19 = .ok (.bipush 10, 2) := by decide +kernel
theorem dX0_readGroup_21 : decode cX0_readGroup 21 = .ok (.idiv, 1) := by decide +kernel
theorem dX0_readGroup_22 : decode cX0_readGroup 22 = .ok (.bipush 100, 2) := by decide +kernel
theorem dX0_readGroup_24 : decode cX0_readGroup 24 = .ok (.irem, 1) := by decide +kernel
theorem dX0_readGroup_25 : decode cX0_readGroup 25 = .ok (.istore 4, 2) := by decide +kernel
theorem dX0_readGroup_27 : decode cX0_readGroup 27 = .ok (.iload_n 1, 1) := by decide +kernel
theorem dX0_readGroup_28 : decode cX0_readGroup 28 = .ok (.bipush 100, 2) := by decide +kernel
theorem dX0_readGroup_30 : decode cX0_readGroup 30 = .ok (.irem, 1) := by decide +kernel
theorem dX0_readGroup_31 : decode cX0_readGroup 31 = .ok (.istore 5, 2) := by decide +kernel
theorem dX0_readGroup_33 : decode cX0_readGroup 33 = .ok (.iload_n 1, 1) := by decide +kernel
theorem dX0_readGroup_34 : decode cX0_readGroup 34 = .ok (.bipush 10, 2) := by decide +kernel
theorem dX0_readGroup_36 : decode cX0_readGroup 36 = .ok (.irem, 1) := by decide +kernel
theorem dX0_readGroup_37 : decode cX0_readGroup 37 = .ok (.istore 6, 2) := by decide +kernel
theorem dX0_readGroup_39 : decode cX0_readGroup 39 = .ok (.iload_n 3, 1) := by decide +kernel
theorem dX0_readGroup_40 : decode cX0_readGroup 40 = .ok (.ifCond .ne 12, 3) := by decide +kernel
theorem dX0_readGroup_43 : decode cX0_readGroup 43 = .ok (.iload 6, 2) := by decide +kernel
theorem dX0_readGroup_45 : decode cX0_readGroup 45 = .ok (.ifCond .ne 7, 3) := by decide +kernel
theorem dX0_readGroup_48 : decode cX0_readGroup 48 = .ok (.iconst 1, 1) := by decide +kernel
theorem dX0_readGroup_49 : decode cX0_readGroup 49 = .ok (.goto 4, 3) := by decide +kernel
theorem dX0_readGroup_52 : decode cX0_readGroup 52 = .ok (.iconst 0, 1) := by decide +kernel
theorem dX0_readGroup_53 : decode cX0_readGroup 53 = .ok (.istore 7, 2) := by decide +kernel
theorem dX0_readGroup_55 : decode cX0_readGroup 55 = .ok (.iload_n 1, 1) := by decide +kernel
theorem dX0_readGroup_56 : decode cX0_readGroup 56 = .ok (.bipush 100, 2) := by decide +kernel
theorem dX0_readGroup_58 : decode cX0_readGroup 58 = .ok (.idiv, 1) := by decide +kernel
theorem dX0_readGroup_59 : decode cX0_readGroup 59 = .ok (.bipush 100, 2) := by decide +kernel
theorem dX0_readGroup_61 : decode cX0_readGroup 61 = .ok (.irem, 1) := by decide +kernel
theorem dX0_readGroup_62 : decode cX0_readGroup 62 = .ok (.ifCond .ne 7, 3) := by decide +kernel
theorem dX0_readGroup_65 : decode cX0_readGroup 65 = .ok (.iconst 1, 1) := by decide +kernel
theorem dX0_readGroup_66 : decode cX0_readGroup 66 = .ok (.goto 4, 3) := by decide +kernel
theorem dX0_readGroup_69 : decode cX0_readGroup 69 = .ok (.iconst 0, 1) := by decide +kernel
theorem dX0_readGroup_70 : decode cX0_readGroup 70 = .ok (.istore 8, 2) := by decide +kernel
theorem dX0_readGroup_72 : decode cX0_readGroup 72 = .ok (.iload_n 1, 1) := by decide +kernel
theorem dX0_readGroup_73 : decode cX0_readGroup 73 = .ok (.ldc 25, 2) := by decide +kernel
theorem dX0_readGroup_75 : decode cX0_readGroup 75 = .ok (.idiv, 1) := by decide +kernel
theorem dX0_readGroup_76 : decode cX0_readGroup 76 = .ok (.tableswitch 241 1 9 #[52, 78, 100, 114, 128, 151, 183, 197, 211], 52) := by decide +kernel
theorem dX0_readGroup_128 : decode cX0_readGroup 128 = .ok (.aload_n 0, 1) := by decide +kernel
theorem dX0_readGroup_129 : decode cX0_readGroup 129 = .ok (.bipush 10, 2) := by decide +kernel
theorem dX0_readGroup_131 : decode cX0_readGroup 131 = .ok (.iload 5, 2) := by decide +kernel
theorem dX0_readGroup_133 : decode cX0_readGroup 133 = .ok (.iconst 0, 1) := by decide +kernel
theorem dX0_readGroup_134 : decode cX0_readGroup 134 = .ok (.iconst 0, 1) := by decide +kernel
theorem dX0_readGroup_135 : decode cX0_readGroup 135 = .ok (.iconst 0, 1) := by decide +kernel
theorem dX0_readGroup_136 : decode cX0_readGroup 136 = .ok (.invokevirtual 26, 3) := by decide +kernel
theorem dX0_readGroup_139 : decode cX0_readGroup 139 = .ok (.iload_n 2, 1) := by decide +kernel
theorem dX0_readGroup_140 : decode cX0_readGroup 140 = .ok (.ifCond .ne 12, 3) := by decide +kernel
theorem dX0_readGroup_143 : decode cX0_readGroup 143 = .ok (.iload 8, 2) := by decide +kernel
theorem dX0_readGroup_145 : decode cX0_readGroup 145 = .ok (.ifCond .eq 7, 3) := by decide +kernel
theorem dX0_readGroup_148 : decode cX0_readGroup 148 = .ok (.iconst 1, 1) := by decide +kernel
theorem dX0_readGroup_149 : decode cX0_readGroup 149 = .ok (.goto 4, 3) := by decide +kernel
theorem dX0_readGroup_152 : decode cX0_readGroup 152 = .ok (.iconst 0, 1) := by decide +kernel
theorem dX0_readGroup_153 : decode cX0_readGroup 153 = .ok (.ireturn, 1) := by decide +kernel
theorem dX0_readGroup_154 : decode cX0_readGroup 154 = .ok (.aload_n 0, 1) := by decide +kernel
theorem dX0_readGroup_155 : decode cX0_readGroup 155 = .ok (.bipush 6, 2) := by decide +kernel
theorem dX0_readGroup_157 : decode cX0_readGroup 157 = .ok (.iload_n 2, 1) := by decide +kernel
theorem dX0_readGroup_158 : decode cX0_readGroup 158 = .ok (.iload_n 3, 1) := by decide +kernel
theorem dX0_readGroup_159 : decode cX0_readGroup 159 = .ok (.iload 4, 2) := by decide +kernel
theorem dX0_readGroup_161 : decode cX0_readGroup 161 = .ok (.iconst 0, 1) := by decide +kernel
theorem dX0_readGroup_162 : decode cX0_readGroup 162 = .ok (.invokevirtual 26, 3) := by decide +kernel
theorem dX0_readGroup_165 : decode cX0_readGroup 165 = .ok (.iload 6, 2) := by decide +kernel
theorem dX0_readGroup_167 : decode cX0_readGroup 167 = .ok (.ifCond .ne 7, 3) := by decide +kernel
theorem dX0_readGroup_170 : decode cX0_readGroup 170 = .ok (.iconst 1, 1) := by decide +kernel
theorem dX0_readGroup_171 : decode cX0_readGroup 171 = .ok (.goto 4, 3) := by decide +kernel
theorem dX0_readGroup_174 : decode cX0_readGroup 174 = .ok (.iconst 0, 1) := by decide +kernel
theorem dX0_readGroup_175 : decode cX0_readGroup 175 = .ok (.ireturn, 1) := by decide +kernel
theorem dX0_readGroup_176 : decode cX0_readGroup 176 = .ok (.aload_n 0, 1) := by decide +kernel
theorem dX0_readGroup_177 : decode cX0_readGroup 177 = .ok (.bipush 7, 2) := by decide +kernel
theorem dX0_readGroup_179 : decode cX0_readGroup 179 = .ok (.iload_n 2, 1) := by decide +kernel
theorem dX0_readGroup_180 : decode cX0_readGroup 180 = .ok (.iload 4, 2) := by decide +kernel
theorem dX0_readGroup_182 : decode cX0_readGroup 182 = .ok (.iconst 0, 1) := by decide +kernel
theorem dX0_readGroup_183 : decode cX0_readGroup 183 = .ok (.iconst 0, 1) := by decide +kernel
theorem dX0_readGroup_184 : decode cX0_readGroup 184 = .ok (.invokevirtual 26, 3) := by decide +kernel
theorem dX0_readGroup_187 : decode cX0_readGroup 187 = .ok (.iload 7, 2) := by decide +kernel
theorem dX0_readGroup_189 : decode cX0_readGroup 189 = .ok (.ireturn, 1) := by decide +kernel
theorem dX0_readGroup_190 : decode cX0_readGroup 190 = .ok (.aload_n 0, 1) := by decide +kernel
theorem dX0_readGroup_191 : decode cX0_readGroup 191 = .ok (.bipush 9, 2) := by decide +kernel
theorem dX0_readGroup_193 : decode cX0_readGroup 193 = .ok (.iload_n 2, 1) := by decide +kernel
theorem dX0_readGroup_194 : decode cX0_readGroup 194 = .ok (.iload 4, 2) := by decide +kernel
theorem dX0_readGroup_196 : decode cX0_readGroup 196 = .ok (.iconst 0, 1) := by decide +kernel
theorem dX0_readGroup_197 : decode cX0_readGroup 197 = .ok (.iconst 0, 1) := by decide +kernel
theorem dX0_readGroup_198 : decode cX0_readGroup 198 = .ok (.invokevirtual 26, 3) := by decide +kernel
theorem dX0_readGroup_201 : decode cX0_readGroup 201 = .ok (.iload 7, 2) := by decide +kernel
theorem dX0_readGroup_203 : decode cX0_readGroup 203 = .ok (.ireturn, 1) := by decide +kernel
theorem dX0_readGroup_204 : decode cX0_readGroup 204 = .ok (.aload_n 0, 1) := by decide +kernel
theorem dX0_readGroup_205 : decode cX0_readGroup 205 = .ok (.iconst 3, 1) := by decide +kernel
theorem dX0_readGroup_206 : decode cX0_readGroup 206 = .ok (.iload_n 2, 1) := by decide +kernel
theorem dX0_readGroup_207 : decode cX0_readGroup 207 = .ok (.iload_n 3, 1) := by decide +kernel
theorem dX0_readGroup_208 : decode cX0_readGroup 208 = .ok (.iconst 0, 1) := by decide +kernel
theorem dX0_readGroup_209 : decode cX0_readGroup 209 = .ok (.iconst 0, 1) := by decide +kernel
theorem dX0_readGroup_210 : decode cX0_readGroup 210 = .ok (.invokevirtual 26, 3) := by decide +kernel
theorem dX0_readGroup_213 : decode cX0_readGroup 213 = .ok (.iload_n 1, 1) := by decide +kernel
theorem dX0_readGroup_214 : decode cX0_readGroup 214 = .ok (.sipush 1000, 3) := by decide +kernel
theorem dX0_readGroup_217 : decode cX0_readGroup 217 = .ok (.irem, 1) := by decide +kernel
theorem dX0_readGroup_218 : decode cX0_readGroup 218 = .ok (.ifCond .ne 7, 3) := by decide +kernel
theorem dX0_readGroup_221 : decode cX0_readGroup 221 = .ok (.iconst 1, 1) := by decide +kernel
theorem dX0_readGroup_222 : decode cX0_readGroup 222 = .ok (.goto 4, 3) := by decide +kernel
theorem dX0_readGroup_225 : decode cX0_readGroup 225 = .ok (.iconst 0, 1) := by decide +kernel
theorem dX0_readGroup_226 : decode cX0_readGroup 226 = .ok (.ireturn, 1) := by decide +kernel
theorem dX0_readGroup_227 : decode cX0_readGroup 227 = .ok (.aload_n 0, 1) := by decide +kernel
theorem dX0_readGroup_228 : decode cX0_readGroup 228 = .ok (.bipush 11, 2) := by decide +kernel
theorem dX0_readGroup_230 : decode cX0_readGroup 230 = .ok (.iload_n 2, 1) := by decide +kernel
theorem dX0_readGroup_231 : decode cX0_readGroup 231 = .ok (.iload 6, 2) := by decide +kernel
theorem dX0_readGroup_233 : decode cX0_readGroup 233 = .ok (.iconst 0, 1) := by decide +kernel
theorem dX0_readGroup_234 : decode cX0_readGroup 234 = .ok (.iconst 0, 1) := by decide +kernel
theorem dX0_readGroup_235 : decode cX0_readGroup 235 = .ok (.invokevirtual 26, 3) := by decide +kernel
theorem dX0_readGroup_238 : decode cX0_readGroup 238 = .ok (.iload_n 3, 1) := by decide +kernel
theorem dX0_readGroup_239 : decode cX0_readGroup 239 = .ok (.ifCond .ne 18, 3) := by decide +kernel
theorem dX0_readGroup_242 : decode cX0_readGroup 242 = .ok (.iload 4, 2) := by decide +kernel
theorem dX0_readGroup_244 : decode cX0_readGroup 244 = .ok (.ifCond .ne 13, 3) := by decide +kernel
theorem dX0_readGroup_247 : decode cX0_readGroup 247 = .ok (.iload 6, 2) := by decide +kernel
theorem dX0_readGroup_249 : decode cX0_readGroup 249 = .ok (.iconst 1, 1) := by decide +kernel
theorem dX0_readGroup_250 : decode cX0_readGroup 250 = .ok (.if_icmp .gt 7, 3) := by decide +kernel
theorem dX0_readGroup_253 : decode cX0_readGroup 253 = .ok (.iconst 1, 1) := by decide +kernel
theorem dX0_readGroup_254 : decode cX0_readGroup 254 = .ok (.goto 4, 3) := by decide +kernel
theorem dX0_readGroup_257 : decode cX0_readGroup 257 = .ok (.iconst 0, 1) := by decide +kernel
theorem dX0_readGroup_258 : decode cX0_readGroup 258 = .ok (.ireturn, 1) := by decide +kernel
theorem dX0_readGroup_259 : decode cX0_readGroup 259 = .ok (.aload_n 0, 1) := by decide +kernel
theorem dX0_readGroup_260 : decode cX0_readGroup 260 = .ok (.bipush 12, 2) := by decide +kernel
theorem dX0_readGroup_262 : decode cX0_readGroup 262 = .ok (.iload_n 2, 1) := by decide +kernel
theorem dX0_readGroup_263 : decode cX0_readGroup 263 = .ok (.iload 5, 2) := by decide +kernel
theorem dX0_readGroup_265 : decode cX0_readGroup 265 = .ok (.iconst 0, 1) := by decide +kernel
theorem dX0_readGroup_266 : decode cX0_readGroup 266 = .ok (.iconst 0, 1) := by decide +kernel
theorem dX0_readGroup_267 : decode cX0_readGroup 267 = .ok (.invokevirtual 26, 3) := by decide +kernel
theorem dX0_readGroup_270 : decode cX0_readGroup 270 = .ok (.iload 8, 2) := by decide +kernel
theorem dX0_readGroup_272 : decode cX0_readGroup 272 = .ok (.ireturn, 1) := by decide +kernel
theorem dX0_readGroup_273 : decode cX0_readGroup 273 = .ok (.aload_n 0, 1) := by decide +kernel
theorem dX0_readGroup_274 : decode cX0_readGroup 274 = .ok (.bipush 13, 2) := by decide +kernel
theorem dX0_readGroup_276 : decode cX0_readGroup 276 = .ok (.iload_n 2, 1) := by decide +kernel
theorem dX0_readGroup_277 : decode cX0_readGroup 277 = .ok (.iload 5, 2) := by decide +kernel
theorem dX0_readGroup_279 : decode cX0_readGroup 279 = .ok (.iconst 0, 1) := by decide +kernel
theorem dX0_readGroup_280 : decode cX0_readGroup 280 = .ok (.iconst 0, 1) := by decide +kernel
theorem dX0_readGroup_281 : decode cX0_readGroup 281 = .ok (.invokevirtual 26, 3) := by decide +kernel
theorem dX0_readGroup_284 : decode cX0_readGroup 284 = .ok (.iload 8, 2) := by decide +kernel
theorem dX0_readGroup_286 : decode cX0_readGroup 286 = .ok (.ireturn, 1) := by decide +kernel
theorem dX0_readGroup_287 : decode cX0_readGroup 287 = .ok (.aload_n 0, 1) := by decide +kernel
theorem dX0_readGroup_288 : decode cX0_readGroup 288 = .ok (.bipush 14, 2) := by decide +kernel
theorem dX0_readGroup_290 : decode cX0_readGroup 290 = .ok (.iload 6, 2) := by decide +kernel
theorem dX0_readGroup_292 : decode cX0_readGroup 292 = .ok (.iconst 0, 1) := by decide +kernel
theorem dX0_readGroup_293 : decode cX0_readGroup 293 = .ok (.iconst 0, 1) := by decide +kernel
theorem dX0_readGroup_294 : decode cX0_readGroup 294 = .ok (.iconst 0, 1) := by decide +kernel
theorem dX0_readGroup_295 : decode cX0_readGroup 295 = .ok (.invokevirtual 26, 3) := by decide +kernel
theorem dX0_readGroup_298 : decode cX0_readGroup 298 = .ok (.iload_n 2, 1) := by decide +kernel
theorem dX0_readGroup_299 : decode cX0_readGroup 299 = .ok (.ifCond .ne 16, 3) := by decide +kernel
theorem dX0_readGroup_302 : decode cX0_readGroup 302 = .ok (.iload_n 3, 1) := by decide +kernel
theorem dX0_readGroup_303 : decode cX0_readGroup 303 = .ok (.ifCond .ne 12, 3) := by decide +kernel
theorem dX0_readGroup_306 : decode cX0_readGroup 306 = .ok (.iload 4, 2) := by decide +kernel
theorem dX0_readGroup_308 : decode cX0_readGroup 308 = .ok (.ifCond .ne 7, 3) := by decide +kernel
theorem dX0_readGroup_311 : decode cX0_readGroup 311 = .ok (.iconst 1, 1) := by decide +kernel
theorem dX0_readGroup_312 : decode cX0_readGroup 312 = .ok (.goto 4, 3) := by decide +kernel
theorem dX0_readGroup_315 : decode cX0_readGroup 315 = .ok (.iconst 0, 1) := by decide +kernel
theorem dX0_readGroup_316 : decode cX0_readGroup 316 = .ok (.ireturn, 1) := by decide +kernel
theorem dX0_readGroup_317 : decode cX0_readGroup 317 = .ok (.iconst 0, 1) := by decide +kernel
theorem dX0_readGroup_318 : decode cX0_readGroup 318 = .ok (.ireturn, 1) := by decide +kernel
theorem dX0_readTurn_0 : decode cX0_readTurn 0 = .ok (.iload_n 1, 1) := by decide +kernel
theorem dX0_readTurn_1 : decode cX0_readTurn 1 = .ok (.bipush 16, 2) := by decide +kernel
theorem dX0_readTurn_3 : decode cX0_readTurn 3 = .ok (.idiv, 1) := by decide +kernel
theorem dX0_readTurn_4 : decode cX0_readTurn 4 = .ok (.istore_n 2, 1) := by decide +kernel
theorem dX0_readTurn_5 : decode cX0_readTurn 5 = .ok (.iload_n 1, 1) := by decide +kernel
theorem dX0_readTurn_6 : decode cX0_readTurn 6 = .ok (.bipush 16, 2) := by decide +kernel
theorem dX0_readTurn_8 : decode cX0_readTurn 8 = .ok (.irem, 1) := by decide +kernel
theorem dX0_readTurn_9 : decode cX0_readTurn 9 = .ok (.tableswitch 254 0 9 #[55, 72, 72, 92, 127, 143, 143, 170, 194, 234], 55) := by decide +kernel
theorem dX0_readTurn_64 : decode cX0_readTurn 64 = .ok (.aload_n 0, 1) := by decide +kernel
theorem dX0_readTurn_65 : decode cX0_readTurn 65 = .ok (.iconst 1, 1) := by decide +kernel
theorem dX0_readTurn_66 : decode cX0_readTurn 66 = .ok (.iconst 1, 1) := by decide +kernel
theorem dX0_readTurn_67 : decode cX0_readTurn 67 = .ok (.iload_n 2, 1) := by decide +kernel
theorem dX0_readTurn_68 : decode cX0_readTurn 68 = .ok (.bipush 30, 2) := by decide +kernel
theorem dX0_readTurn_70 : decode cX0_readTurn 70 = .ok (.irem, 1) := by decide +kernel
theorem dX0_readTurn_71 : decode cX0_readTurn 71 = .ok (.iadd, 1) := by decide +kernel
theorem dX0_readTurn_72 : decode cX0_readTurn 72 = .ok (.iconst 0, 1) := by decide +kernel
theorem dX0_readTurn_73 : decode cX0_readTurn 73 = .ok (.iconst 0, 1) := by decide +kernel
theorem dX0_readTurn_74 : decode cX0_readTurn 74 = .ok (.iconst 0, 1) := by decide +kernel
theorem dX0_readTurn_75 : decode cX0_readTurn 75 = .ok (.invokevirtual 26, 3) := by decide +kernel
theorem dX0_readTurn_78 : decode cX0_readTurn 78 = .ok (.goto 200, 3) := by decide +kernel
theorem dX0_readTurn_81 : decode cX0_readTurn 81 = .ok (.aload_n 0, 1) := by decide +kernel
theorem dX0_readTurn_82 : decode cX0_readTurn 82 = .ok (.iconst 2, 1) := by decide +kernel
theorem dX0_readTurn_83 : decode cX0_readTurn 83 = .ok (.iload_n 2, 1) := by decide +kernel
theorem dX0_readTurn_84 : decode cX0_readTurn 84 = .ok (.iconst 3, 1) := by decide +kernel
theorem dX0_readTurn_85 : decode cX0_readTurn 85 = .ok (.irem, 1) := by decide +kernel
theorem dX0_readTurn_86 : decode cX0_readTurn 86 = .ok (.iconst 1, 1) := by decide +kernel
theorem dX0_readTurn_87 : decode cX0_readTurn 87 = .ok (.iload_n 2, 1) := by decide +kernel
theorem dX0_readTurn_88 : decode cX0_readTurn 88 = .ok (.iconst 4, 1) := by decide +kernel
theorem dX0_readTurn_89 : decode cX0_readTurn 89 = .ok (.idiv, 1) := by decide +kernel
theorem dX0_readTurn_90 : decode cX0_readTurn 90 = .ok (.iconst 5, 1) := by decide +kernel
theorem dX0_readTurn_91 : decode cX0_readTurn 91 = .ok (.irem, 1) := by decide +kernel
theorem dX0_readTurn_92 : decode cX0_readTurn 92 = .ok (.iadd, 1) := by decide +kernel
theorem dX0_readTurn_93 : decode cX0_readTurn 93 = .ok (.iconst 0, 1) := by decide +kernel
theorem dX0_readTurn_94 : decode cX0_readTurn 94 = .ok (.iconst 0, 1) := by decide +kernel
theorem dX0_readTurn_95 : decode cX0_readTurn 95 = .ok (.invokevirtual 26, 3) := by decide +kernel
theorem dX0_readTurn_98 : decode cX0_readTurn 98 = .ok (.goto 180, 3) := by decide +kernel
theorem dX0_readTurn_101 : decode cX0_readTurn 101 = .ok (.aload_n 0, 1) := by decide +kernel
theorem dX0_readTurn_102 : decode cX0_readTurn 102 = .ok (.iconst 4, 1) := by decide +kernel
theorem dX0_readTurn_103 : decode cX0_readTurn 103 = .ok (.iload_n 2, 1) := by decide +kernel
theorem dX0_readTurn_104 : decode cX0_readTurn 104 = .ok (.iconst 3, 1) := by decide +kernel
theorem dX0_readTurn_105 : decode cX0_readTurn 105 = .ok (.irem, 1) := by decide +kernel
theorem dX0_readTurn_106 : decode cX0_readTurn 106 = .ok (.iload_n 2, 1) := by decide +kernel
theorem dX0_readTurn_107 : decode cX0_readTurn 107 = .ok (.iconst 4, 1) := by decide +kernel
theorem dX0_readTurn_108 : decode cX0_readTurn 108 = .ok (.idiv, 1) := by decide +kernel
theorem dX0_readTurn_109 : decode cX0_readTurn 109 = .ok (.bipush 30, 2) := by decide +kernel
theorem dX0_readTurn_111 : decode cX0_readTurn 111 = .ok (.irem, 1) := by decide +kernel
theorem dX0_readTurn_112 : decode cX0_readTurn 112 = .ok (.iconst 1, 1) := by decide +kernel
theorem dX0_readTurn_113 : decode cX0_readTurn 113 = .ok (.iload_n 2, 1) := by decide +kernel
theorem dX0_readTurn_114 : decode cX0_readTurn 114 = .ok (.sipush 128, 3) := by decide +kernel
theorem dX0_readTurn_117 : decode cX0_readTurn 117 = .ok (.idiv, 1) := by decide +kernel
theorem dX0_readTurn_118 : decode cX0_readTurn 118 = .ok (.bipush 9, 2) := by decide +kernel
theorem dX0_readTurn_120 : decode cX0_readTurn 120 = .ok (.irem, 1) := by decide +kernel
theorem dX0_readTurn_121 : decode cX0_readTurn 121 = .ok (.iadd, 1) := by decide +kernel
theorem dX0_readTurn_122 : decode cX0_readTurn 122 = .ok (.iload_n 2, 1) := by decide +kernel
theorem dX0_readTurn_123 : decode cX0_readTurn 123 = .ok (.sipush 2048, 3) := by decide +kernel
theorem dX0_readTurn_126 : decode cX0_readTurn 126 = .ok (.idiv, 1) := by decide +kernel
theorem dX0_readTurn_127 : decode cX0_readTurn 127 = .ok (.bipush 100, 2) := by decide +kernel
theorem dX0_readTurn_129 : decode cX0_readTurn 129 = .ok (.irem, 1) := by decide +kernel
theorem dX0_readTurn_130 : decode cX0_readTurn 130 = .ok (.invokevirtual 26, 3) := by decide +kernel
theorem dX0_readTurn_133 : decode cX0_readTurn 133 = .ok (.goto 145, 3) := by decide +kernel
theorem dX0_readTurn_136 : decode cX0_readTurn 136 = .ok (.aload_n 0, 1) := by decide +kernel
theorem dX0_readTurn_137 : decode cX0_readTurn 137 = .ok (.iconst 5, 1) := by decide +kernel
theorem dX0_readTurn_138 : decode cX0_readTurn 138 = .ok (.iload_n 2, 1) := by decide +kernel
theorem dX0_readTurn_139 : decode cX0_readTurn 139 = .ok (.sipush 200, 3) := by decide +kernel
theorem dX0_readTurn_142 : decode cX0_readTurn 142 = .ok (.irem, 1) := by decide +kernel
theorem dX0_readTurn_143 : decode cX0_readTurn 143 = .ok (.iconst 0, 1) := by decide +kernel
theorem dX0_readTurn_144 : decode cX0_readTurn 144 = .ok (.iconst 0, 1) := by decide +kernel
theorem dX0_readTurn_145 : decode cX0_readTurn 145 = .ok (.iconst 0, 1) := by decide +kernel
theorem dX0_readTurn_146 : decode cX0_readTurn 146 = .ok (.invokevirtual 26, 3) := by decide +kernel
theorem dX0_readTurn_149 : decode cX0_readTurn 149 = .ok (.goto 129, 3) := by decide +kernel
theorem dX0_readTurn_152 : decode cX0_readTurn 152 = .ok (.aload_n 0, 1) := by decide +kernel
theorem dX0_readTurn_153 : decode cX0_readTurn 153 = .ok (.bipush 6, 2) := by decide +kernel
theorem dX0_readTurn_155 : decode cX0_readTurn 155 = .ok (.iload_n 2, 1) := by decide +kernel
theorem dX0_readTurn_156 : decode cX0_readTurn 156 = .ok (.bipush 8, 2) := by decide +kernel
theorem dX0_readTurn_158 : decode cX0_readTurn 158 = .ok (.irem, 1) := by decide +kernel
theorem dX0_readTurn_159 : decode cX0_readTurn 159 = .ok (.iload_n 2, 1) := by decide +kernel
theorem dX0_readTurn_160 : decode cX0_readTurn 160 = .ok (.bipush 8, 2) := by decide +kernel
theorem dX0_readTurn_162 : decode cX0_readTurn 162 = .ok (.idiv, 1) := by decide +kernel
theorem dX0_readTurn_163 : decode cX0_readTurn 163 = .ok (.iconst 3, 1) := by decide +kernel
theorem dX0_readTurn_164 : decode cX0_readTurn 164 = .ok (.irem, 1) := by decide +kernel
theorem dX0_readTurn_165 : decode cX0_readTurn 165 = .ok (.iload_n 2, 1) := by decide +kernel
theorem dX0_readTurn_166 : decode cX0_readTurn 166 = .ok (.bipush 32, 2) := by decide +kernel
theorem dX0_readTurn_168 : decode cX0_readTurn 168 = .ok (.idiv, 1) := by decide +kernel
theorem dX0_readTurn_169 : decode cX0_readTurn 169 = .ok (.bipush 40, 2) := by decide +kernel
theorem dX0_readTurn_171 : decode cX0_readTurn 171 = .ok (.irem, 1) := by decide +kernel
theorem dX0_readTurn_172 : decode cX0_readTurn 172 = .ok (.iconst 0, 1) := by decide +kernel
theorem dX0_readTurn_173 : decode cX0_readTurn 173 = .ok (.invokevirtual 26, 3) := by decide +kernel
theorem dX0_readTurn_176 : decode cX0_readTurn 176 = .ok (.goto 102, 3) := by decide +kernel
theorem dX0_readTurn_179 : decode cX0_readTurn 179 = .ok (.aload_n 0, 1) := by decide +kernel
theorem dX0_readTurn_180 : decode cX0_readTurn 180 = .ok (.bipush 7, 2) := by decide +kernel
theorem dX0_readTurn_182 : decode cX0_readTurn 182 = .ok (.iload_n 2, 1) := by decide +kernel
theorem dX0_readTurn_183 : decode cX0_readTurn 183 = .ok (.bipush 8, 2) := by decide +kernel
theorem dX0_readTurn_185 : decode cX0_readTurn 185 = .ok (.irem, 1) := by decide +kernel
theorem dX0_readTurn_186 : decode cX0_readTurn 186 = .ok (.iconst 1, 1) := by decide +kernel
theorem dX0_readTurn_187 : decode cX0_readTurn 187 = .ok (.iload_n 2, 1) := by decide +kernel
theorem dX0_readTurn_188 : decode cX0_readTurn 188 = .ok (.bipush 8, 2) := by decide +kernel
theorem dX0_readTurn_190 : decode cX0_readTurn 190 = .ok (.idiv, 1) := by decide +kernel
theorem dX0_readTurn_191 : decode cX0_readTurn 191 = .ok (.bipush 99, 2) := by decide +kernel
theorem dX0_readTurn_193 : decode cX0_readTurn 193 = .ok (.irem, 1) := by decide +kernel
theorem dX0_readTurn_194 : decode cX0_readTurn 194 = .ok (.iadd, 1) := by decide +kernel
theorem dX0_readTurn_195 : decode cX0_readTurn 195 = .ok (.iconst 0, 1) := by decide +kernel
theorem dX0_readTurn_196 : decode cX0_readTurn 196 = .ok (.iconst 0, 1) := by decide +kernel
theorem dX0_readTurn_197 : decode cX0_readTurn 197 = .ok (.invokevirtual 26, 3) := by decide +kernel
theorem dX0_readTurn_200 : decode cX0_readTurn 200 = .ok (.goto 78, 3) := by decide +kernel
theorem dX0_readTurn_203 : decode cX0_readTurn 203 = .ok (.iload_n 2, 1) := by decide +kernel
theorem dX0_readTurn_204 : decode cX0_readTurn 204 = .ok (.bipush 16, 2) := by decide +kernel
theorem dX0_readTurn_206 : decode cX0_readTurn 206 = .ok (.idiv, 1) := by decide +kernel
theorem dX0_readTurn_207 : decode cX0_readTurn 207 = .ok (.iconst 2, 1) := by decide +kernel
theorem dX0_readTurn_208 : decode cX0_readTurn 208 = .ok (.irem, 1) := by decide +kernel
theorem dX0_readTurn_209 : decode cX0_readTurn 209 = .ok (.ifCond .ne 19, 3) := by decide +kernel
theorem dX0_readTurn_212 : decode cX0_readTurn 212 = .ok (.aload_n 0, 1) := by decide +kernel
theorem dX0_readTurn_213 : decode cX0_readTurn 213 = .ok (.bipush 9, 2) := by decide +kernel
theorem dX0_readTurn_215 : decode cX0_readTurn 215 = .ok (.iconst 0, 1) := by decide +kernel
theorem dX0_readTurn_216 : decode cX0_readTurn 216 = .ok (.iload_n 2, 1) := by decide +kernel
theorem dX0_readTurn_217 : decode cX0_readTurn 217 = .ok (.bipush 13, 2) := by decide +kernel
theorem dX0_readTurn_219 : decode cX0_readTurn 219 = .ok (.irem, 1) := by decide +kernel
theorem dX0_readTurn_220 : decode cX0_readTurn 220 = .ok (.iconst 0, 1) := by decide +kernel
theorem dX0_readTurn_221 : decode cX0_readTurn 221 = .ok (.iconst 0, 1) := by decide +kernel
theorem dX0_readTurn_222 : decode cX0_readTurn 222 = .ok (.invokevirtual 26, 3) := by decide +kernel
theorem dX0_readTurn_225 : decode cX0_readTurn 225 = .ok (.goto 53, 3) := by decide +kernel
theorem dX0_readTurn_228 : decode cX0_readTurn 228 = .ok (.aload_n 0, 1) := by decide +kernel
theorem dX0_readTurn_229 : decode cX0_readTurn 229 = .ok (.bipush 9, 2) := by decide +kernel
theorem dX0_readTurn_231 : decode cX0_readTurn 231 = .ok (.iconst 1, 1) := by decide +kernel
theorem dX0_readTurn_232 : decode cX0_readTurn 232 = .ok (.iload_n 2, 1) := by decide +kernel
theorem dX0_readTurn_233 : decode cX0_readTurn 233 = .ok (.iconst 2, 1) := by decide +kernel
theorem dX0_readTurn_234 : decode cX0_readTurn 234 = .ok (.irem, 1) := by decide +kernel
theorem dX0_readTurn_235 : decode cX0_readTurn 235 = .ok (.iconst 0, 1) := by decide +kernel
theorem dX0_readTurn_236 : decode cX0_readTurn 236 = .ok (.iconst 0, 1) := by decide +kernel
theorem dX0_readTurn_237 : decode cX0_readTurn 237 = .ok (.invokevirtual 26, 3) := by decide +kernel
theorem dX0_readTurn_240 : decode cX0_readTurn 240 = .ok (.goto 38, 3) := by decide +kernel
theorem dX0_readTurn_243 : decode cX0_readTurn 243 = .ok (.aload_n 0, 1) := by decide +kernel
theorem dX0_readTurn_244 : decode cX0_readTurn 244 = .ok (.iconst 3, 1) := by decide +kernel
theorem dX0_readTurn_245 : decode cX0_readTurn 245 = .ok (.iload_n 2, 1) := by decide +kernel
theorem dX0_readTurn_246 : decode cX0_readTurn 246 = .ok (.bipush 6, 2) := by decide +kernel
theorem dX0_readTurn_248 : decode cX0_readTurn 248 = .ok (.irem, 1) := by decide +kernel
theorem dX0_readTurn_249 : decode cX0_readTurn 249 = .ok (.iload_n 2, 1) := by decide +kernel
theorem dX0_readTurn_250 : decode cX0_readTurn 250 = .ok (.bipush 8, 2) := by decide +kernel
theorem dX0_readTurn_252 : decode cX0_readTurn 252 = .ok (.idiv, 1) := by decide +kernel
theorem dX0_readTurn_253 : decode cX0_readTurn 253 = .ok (.iconst 3, 1) := by decide +kernel
theorem dX0_readTurn_254 : decode cX0_readTurn 254 = .ok (.irem, 1) := by decide +kernel
theorem dX0_readTurn_255 : decode cX0_readTurn 255 = .ok (.iconst 0, 1) := by decide +kernel
theorem dX0_readTurn_256 : decode cX0_readTurn 256 = .ok (.iconst 0, 1) := by decide +kernel
theorem dX0_readTurn_257 : decode cX0_readTurn 257 = .ok (.invokevirtual 26, 3) := by decide +kernel
theorem dX0_readTurn_260 : decode cX0_readTurn 260 = .ok (.goto 18, 3) := by decide +kernel
theorem dX0_readTurn_263 : decode cX0_readTurn 263 = .ok (.aload_n 0, 1) := by decide +kernel
theorem dX0_readTurn_264 : decode cX0_readTurn 264 = .ok (.bipush 10, 2) := by decide +kernel
theorem dX0_readTurn_266 : decode cX0_readTurn 266 = .ok (.iconst 1, 1) := by decide +kernel
theorem dX0_readTurn_267 : decode cX0_readTurn 267 = .ok (.iload_n 2, 1) := by decide +kernel
theorem dX0_readTurn_268 : decode cX0_readTurn 268 = .ok (.bipush 12, 2) := by decide +kernel
theorem dX0_readTurn_270 : decode cX0_readTurn 270 = .ok (.irem, 1) := by decide +kernel
theorem dX0_readTurn_271 : decode cX0_readTurn 271 = .ok (.iadd, 1) := by decide +kernel
theorem dX0_readTurn_272 : decode cX0_readTurn 272 = .ok (.iconst 0, 1) := by decide +kernel
theorem dX0_readTurn_273 : decode cX0_readTurn 273 = .ok (.iconst 0, 1) := by decide +kernel
theorem dX0_readTurn_274 : decode cX0_readTurn 274 = .ok (.iconst 0, 1) := by decide +kernel
theorem dX0_readTurn_275 : decode cX0_readTurn 275 = .ok (.invokevirtual 26, 3) := by decide +kernel
theorem dX0_readTurn_278 : decode cX0_readTurn 278 = .ok (.return_, 1) := by decide +kernel
theorem dX1_init_0 : decode cX1_init 0 = .ok (.aload_n 0, 1) := by decide +kernel
theorem dX1_init_1 : decode cX1_init 1 = .ok (.invokespecial 3, 3) := by decide +kernel
theorem dX1_init_4 : decode cX1_init 4 = .ok (.return_, 1) := by decide +kernel
theorem dX1_copyFrom_0 : decode cX1_copyFrom 0 = .ok (.aload_n 0, 1) := by decide +kernel
theorem dX1_copyFrom_1 : decode cX1_copyFrom 1 = .ok (.aload_n 1, 1) := by decide +kernel
theorem dX1_copyFrom_2 : decode cX1_copyFrom 2 = .ok (.getfield 9, 3) := by decide +kernel
theorem dX1_copyFrom_5 : decode cX1_copyFrom 5 = .ok (.putfield 9, 3) := by decide +kernel
theorem dX1_copyFrom_8 : decode cX1_copyFrom 8 = .ok (.aload_n 0, 1) := by decide +kernel
theorem dX1_copyFrom_9 : decode cX1_copyFrom 9 = .ok (.aload_n 1, 1) := by decide +kernel
theorem dX1_copyFrom_10 : decode cX1_copyFrom 10 = .ok (.getfield 15, 3) := by decide +kernel
theorem dX1_copyFrom_13 : decode cX1_copyFrom 13 = .ok (.putfield 15, 3) := by decide +kernel
theorem dX1_copyFrom_16 : decode cX1_copyFrom 16 = .ok (.return_, 1) := by decide +kernel
theorem dX1_strike_0 : decode cX1_strike 0 = .ok (.aload_n 0, 1) := by decide +kernel
theorem dX1_strike_1 : decode cX1_strike 1 = .ok (.getfield 9, 3) := by decide +kernel
theorem dX1_strike_4 : decode cX1_strike 4 = .ok (.istore_n 3, 1) := by decide +kernel
theorem dX1_strike_5 : decode cX1_strike 5 = .ok (.aload_n 0, 1) := by decide +kernel
theorem dX1_strike_6 : decode cX1_strike 6 = .ok (.dup, 1) := by decide +kernel
theorem dX1_strike_7 : decode cX1_strike 7 = .ok (.getfield 15, 3) := by decide +kernel
theorem dX1_strike_10 : decode cX1_strike 10 = .ok (.iload_n 2, 1) := by decide +kernel
theorem dX1_strike_11 : decode cX1_strike 11 = .ok (.iadd, 1) := by decide +kernel
theorem dX1_strike_12 : decode cX1_strike 12 = .ok (.putfield 15, 3) := by decide +kernel
theorem dX1_strike_15 : decode cX1_strike 15 = .ok (.aload_n 0, 1) := by decide +kernel
theorem dX1_strike_16 : decode cX1_strike 16 = .ok (.getfield 9, 3) := by decide +kernel
theorem dX1_strike_19 : decode cX1_strike 19 = .ok (.bipush 60, 2) := by decide +kernel
theorem dX1_strike_21 : decode cX1_strike 21 = .ok (.if_icmp .ge 48, 3) := by decide +kernel
theorem dX1_strike_24 : decode cX1_strike 24 = .ok (.aload_n 0, 1) := by decide +kernel
theorem dX1_strike_25 : decode cX1_strike 25 = .ok (.getfield 15, 3) := by decide +kernel
theorem dX1_strike_28 : decode cX1_strike 28 = .ok (.iload_n 1, 1) := by decide +kernel
theorem dX1_strike_29 : decode cX1_strike 29 = .ok (.aload_n 0, 1) := by decide +kernel
theorem dX1_strike_30 : decode cX1_strike 30 = .ok (.getfield 9, 3) := by decide +kernel
theorem dX1_strike_33 : decode cX1_strike 33 = .ok (.invokestatic 18, 3) := by decide +kernel
theorem dX1_strike_36 : decode cX1_strike 36 = .ok (.if_icmp .lt 33, 3) := by decide +kernel
theorem dX1_strike_39 : decode cX1_strike 39 = .ok (.aload_n 0, 1) := by decide +kernel
theorem dX1_strike_40 : decode cX1_strike 40 = .ok (.dup, 1) := by decide +kernel
theorem dX1_strike_41 : decode cX1_strike 41 = .ok (.getfield 15, 3) := by decide +kernel
theorem dX1_strike_44 : decode cX1_strike 44 = .ok (.iload_n 1, 1) := by decide +kernel
theorem dX1_strike_45 : decode cX1_strike 45 = .ok (.aload_n 0, 1) := by decide +kernel
theorem dX1_strike_46 : decode cX1_strike 46 = .ok (.getfield 9, 3) := by decide +kernel
theorem dX1_strike_49 : decode cX1_strike 49 = .ok (.invokestatic 18, 3) := by decide +kernel
theorem dX1_strike_52 : decode cX1_strike 52 = .ok (.isub, 1) := by decide +kernel
theorem dX1_strike_53 : decode cX1_strike 53 = .ok (.putfield 15, 3) := by decide +kernel
theorem dX1_strike_56 : decode cX1_strike 56 = .ok (.aload_n 0, 1) := by decide +kernel
theorem dX1_strike_57 : decode cX1_strike 57 = .ok (.dup, 1) := by decide +kernel
theorem dX1_strike_58 : decode cX1_strike 58 = .ok (.getfield 9, 3) := by decide +kernel
theorem dX1_strike_61 : decode cX1_strike 61 = .ok (.iconst 1, 1) := by decide +kernel
theorem dX1_strike_62 : decode cX1_strike 62 = .ok (.iadd, 1) := by decide +kernel
theorem dX1_strike_63 : decode cX1_strike 63 = .ok (.putfield 9, 3) := by decide +kernel
theorem dX1_strike_66 : decode cX1_strike 66 = .ok (.goto (-51), 3) := by decide +kernel
theorem dX1_strike_69 : decode cX1_strike 69 = .ok (.aload_n 0, 1) := by decide +kernel
theorem dX1_strike_70 : decode cX1_strike 70 = .ok (.getfield 9, 3) := by decide +kernel
theorem dX1_strike_73 : decode cX1_strike 73 = .ok (.iload_n 3, 1) := by decide +kernel
theorem dX1_strike_74 : decode cX1_strike 74 = .ok (.isub, 1) := by decide +kernel
theorem dX1_strike_75 : decode cX1_strike 75 = .ok (.ireturn, 1) := by decide +kernel
theorem dX2_init_0 : decode cX2_init 0 = .ok (.aload_n 0, 1) := by decide +kernel
theorem dX2_init_1 : decode cX2_init 1 = .ok (.invokespecial 3, 3) := by decide +kernel
theorem dX2_init_4 : decode cX2_init 4 = .ok (.aload_n 0, 1) := by decide +kernel
theorem dX2_init_5 : decode cX2_init 5 = .ok (.bipush 14, 2) := by decide +kernel
theorem dX2_init_7 : decode cX2_init 7 = .ok (.anewarray 9, 3) := by decide +kernel
theorem dX2_init_10 : decode cX2_init 10 = .ok (.putfield 11, 3) := by decide +kernel
theorem dX2_init_13 : decode cX2_init 13 = .ok (.iconst 0, 1) := by decide +kernel
theorem dX2_init_14 : decode cX2_init 14 = .ok (.istore_n 1, 1) := by decide +kernel
theorem dX2_init_15 : decode cX2_init 15 = .ok (.iload_n 1, 1) := by decide +kernel
theorem dX2_init_16 : decode cX2_init 16 = .ok (.bipush 14, 2) := by decide +kernel
theorem dX2_init_18 : decode cX2_init 18 = .ok (.if_icmp .ge 22, 3) := by decide +kernel
theorem dX2_init_21 : decode cX2_init 21 = .ok (.aload_n 0, 1) := by decide +kernel
theorem dX2_init_22 : decode cX2_init 22 = .ok (.getfield 11, 3) := by decide +kernel
theorem dX2_init_25 : decode cX2_init 25 = .ok (.iload_n 1, 1) := by decide +kernel
theorem dX2_init_26 : decode cX2_init 26 = .ok (.new 9, 3) := by decide +kernel
theorem dX2_init_29 : decode cX2_init 29 = .ok (.dup, 1) := by decide +kernel
theorem dX2_init_30 : decode cX2_init 30 = .ok (.invokespecial 17, 3) := by decide +kernel
theorem dX2_init_33 : decode cX2_init 33 = .ok (.aastore, 1) := by decide +kernel
theorem dX2_init_34 : decode cX2_init 34 = .ok (.iinc 1 1, 3) := by decide +kernel
theorem dX2_init_37 : decode cX2_init 37 = .ok (.goto (-22), 3) := by decide +kernel
theorem dX2_init_40 : decode cX2_init 40 = .ok (.return_, 1) := by decide +kernel
theorem dX2_remember_0 : decode cX2_remember 0 = .ok (.aload_n 0, 1) := by decide +kernel
theorem dX2_remember_1 : decode cX2_remember 1 = .ok (.getfield 18, 3) := by decide +kernel
theorem dX2_remember_4 : decode cX2_remember 4 = .ok (.bipush 14, 2) := by decide +kernel
theorem dX2_remember_6 : decode cX2_remember 6 = .ok (.if_icmp .ne 26, 3) := by decide +kernel
theorem dX2_remember_9 : decode cX2_remember 9 = .ok (.aload_n 0, 1) := by decide +kernel
theorem dX2_remember_10 : decode cX2_remember 10 = .ok (.aload_n 0, 1) := by decide +kernel
theorem dX2_remember_11 : decode cX2_remember 11 = .ok (.getfield 22, 3) := by decide +kernel
theorem dX2_remember_14 : decode cX2_remember 14 = .ok (.iconst 1, 1) := by decide +kernel
theorem dX2_remember_15 : decode cX2_remember 15 = .ok (.iadd, 1) := by decide +kernel
theorem dX2_remember_16 : decode cX2_remember 16 = .ok (.bipush 14, 2) := by decide +kernel
theorem dX2_remember_18 : decode cX2_remember 18 = .ok (.irem, 1) := by decide +kernel
theorem dX2_remember_19 : decode cX2_remember 19 = .ok (.putfield 22, 3) := by decide +kernel
theorem dX2_remember_22 : decode cX2_remember 22 = .ok (.aload_n 0, 1) := by decide +kernel
theorem dX2_remember_23 : decode cX2_remember 23 = .ok (.dup, 1) := by decide +kernel
theorem dX2_remember_24 : decode cX2_remember 24 = .ok (.getfield 18, 3) := by decide +kernel
theorem dX2_remember_27 : decode cX2_remember 27 = .ok (.iconst 1, 1) := by decide +kernel
theorem dX2_remember_28 : decode cX2_remember 28 = .ok (.isub, 1) := by decide +kernel
theorem dX2_remember_29 : decode cX2_remember 29 = .ok (.putfield 18, 3) := by decide +kernel
theorem dX2_remember_32 : decode cX2_remember 32 = .ok (.aload_n 0, 1) := by decide +kernel
theorem dX2_remember_33 : decode cX2_remember 33 = .ok (.getfield 11, 3) := by decide +kernel
theorem dX2_remember_36 : decode cX2_remember 36 = .ok (.aload_n 0, 1) := by decide +kernel
theorem dX2_remember_37 : decode cX2_remember 37 = .ok (.getfield 22, 3) := by decide +kernel
theorem dX2_remember_40 : decode cX2_remember 40 = .ok (.aload_n 0, 1) := by decide +kernel
theorem dX2_remember_41 : decode cX2_remember 41 = .ok (.getfield 18, 3) := by decide +kernel
theorem dX2_remember_44 : decode cX2_remember 44 = .ok (.iadd, 1) := by decide +kernel
theorem dX2_remember_45 : decode cX2_remember 45 = .ok (.bipush 14, 2) := by decide +kernel
theorem dX2_remember_47 : decode cX2_remember 47 = .ok (.irem, 1) := by decide +kernel
theorem dX2_remember_48 : decode cX2_remember 48 = .ok (.aaload, 1) := by decide +kernel
theorem dX2_remember_49 : decode cX2_remember 49 = .ok (.aload_n 1, 1) := by decide +kernel
theorem dX2_remember_50 : decode cX2_remember 50 = .ok (.invokevirtual 25, 3) := by decide +kernel
theorem dX2_remember_53 : decode cX2_remember 53 = .ok (.aload_n 0, 1) := by decide +kernel
theorem dX2_remember_54 : decode cX2_remember 54 = .ok (.dup, 1) := by decide +kernel
theorem dX2_remember_55 : decode cX2_remember 55 = .ok (.getfield 18, 3) := by decide +kernel
theorem dX2_remember_58 : decode cX2_remember 58 = .ok (.iconst 1, 1) := by decide +kernel
theorem dX2_remember_59 : decode cX2_remember 59 = .ok (.iadd, 1) := by decide +kernel
theorem dX2_remember_60 : decode cX2_remember 60 = .ok (.putfield 18, 3) := by decide +kernel
theorem dX2_remember_63 : decode cX2_remember 63 = .ok (.return_, 1) := by decide +kernel
theorem dX2_takeBack_0 : decode cX2_takeBack 0 = .ok (.aload_n 0, 1) := by decide +kernel
theorem dX2_takeBack_1 : decode cX2_takeBack 1 = .ok (.getfield 18, 3) := by decide +kernel
theorem dX2_takeBack_4 : decode cX2_takeBack 4 = .ok (.ifCond .le 34, 3) := by decide +kernel
theorem dX2_takeBack_7 : decode cX2_takeBack 7 = .ok (.aload_n 0, 1) := by decide +kernel
theorem dX2_takeBack_8 : decode cX2_takeBack 8 = .ok (.dup, 1) := by decide +kernel
theorem dX2_takeBack_9 : decode cX2_takeBack 9 = .ok (.getfield 18, 3) := by decide +kernel
theorem dX2_takeBack_12 : decode cX2_takeBack 12 = .ok (.iconst 1, 1) := by decide +kernel
theorem dX2_takeBack_13 : decode cX2_takeBack 13 = .ok (.isub, 1) := by decide +kernel
theorem dX2_takeBack_14 : decode cX2_takeBack 14 = .ok (.putfield 18, 3) := by decide +kernel
theorem dX2_takeBack_17 : decode cX2_takeBack 17 = .ok (.aload_n 1, 1) := by decide +kernel
theorem dX2_takeBack_18 : decode cX2_takeBack 18 = .ok (.aload_n 0, 1) := by decide +kernel
theorem dX2_takeBack_19 : decode cX2_takeBack 19 = .ok (.getfield 11, 3) := by decide +kernel
theorem dX2_takeBack_22 : decode cX2_takeBack 22 = .ok (.aload_n 0, 1) := by decide +kernel
theorem dX2_takeBack_23 : decode cX2_takeBack 23 = .ok (.getfield 22, 3) := by decide +kernel
theorem dX2_takeBack_26 : decode cX2_takeBack 26 = .ok (.aload_n 0, 1) := by decide +kernel
theorem dX2_takeBack_27 : decode cX2_takeBack 27 = .ok (.getfield 18, 3) := by decide +kernel
theorem dX2_takeBack_30 : decode cX2_takeBack 30 = .ok (.iadd, 1) := by decide +kernel
theorem dX2_takeBack_31 : decode cX2_takeBack 31 = .ok (.bipush 14, 2) := by decide +kernel
theorem dX2_takeBack_33 : decode cX2_takeBack 33 = .ok (.irem, 1) := by decide +kernel
theorem dX2_takeBack_34 : decode cX2_takeBack 34 = .ok (.aaload, 1) := by decide +kernel
theorem dX2_takeBack_35 : decode cX2_takeBack 35 = .ok (.invokevirtual 25, 3) := by decide +kernel
theorem dX2_takeBack_38 : decode cX2_takeBack 38 = .ok (.return_, 1) := by decide +kernel
theorem dX2_forgetAll_0 : decode cX2_forgetAll 0 = .ok (.aload_n 0, 1) := by decide +kernel
theorem dX2_forgetAll_1 : decode cX2_forgetAll 1 = .ok (.iconst 0, 1) := by decide +kernel
theorem dX2_forgetAll_2 : decode cX2_forgetAll 2 = .ok (.putfield 22, 3) := by decide +kernel
theorem dX2_forgetAll_5 : decode cX2_forgetAll 5 = .ok (.aload_n 0, 1) := by decide +kernel
theorem dX2_forgetAll_6 : decode cX2_forgetAll 6 = .ok (.iconst 0, 1) := by decide +kernel
theorem dX2_forgetAll_7 : decode cX2_forgetAll 7 = .ok (.putfield 18, 3) := by decide +kernel
theorem dX2_forgetAll_10 : decode cX2_forgetAll 10 = .ok (.return_, 1) := by decide +kernel
theorem dX3_init_0 : decode cX3_init 0 = .ok (.aload_n 0, 1) := by decide +kernel
theorem dX3_init_1 : decode cX3_init 1 = .ok (.invokespecial 3, 3) := by decide +kernel
theorem dX3_init_4 : decode cX3_init 4 = .ok (.aload_n 0, 1) := by decide +kernel
theorem dX3_init_5 : decode cX3_init 5 = .ok (.bipush 6, 2) := by decide +kernel
theorem dX3_init_7 : decode cX3_init 7 = .ok (.anewarray 9, 3) := by decide +kernel
theorem dX3_init_10 : decode cX3_init 10 = .ok (.putfield 11, 3) := by decide +kernel
theorem dX3_init_13 : decode cX3_init 13 = .ok (.aload_n 0, 1) := by decide +kernel
theorem dX3_init_14 : decode cX3_init 14 = .ok (.iconst (-1), 1) := by decide +kernel
theorem dX3_init_15 : decode cX3_init 15 = .ok (.putfield 17, 3) := by decide +kernel
theorem dX3_init_18 : decode cX3_init 18 = .ok (.iconst 0, 1) := by decide +kernel
theorem dX3_init_19 : decode cX3_init 19 = .ok (.istore_n 1, 1) := by decide +kernel
theorem dX3_init_20 : decode cX3_init 20 = .ok (.iload_n 1, 1) := by decide +kernel
theorem dX3_init_21 : decode cX3_init 21 = .ok (.bipush 6, 2) := by decide +kernel
theorem dX3_init_23 : decode cX3_init 23 = .ok (.if_icmp .ge 22, 3) := by decide +kernel
theorem dX3_init_26 : decode cX3_init 26 = .ok (.aload_n 0, 1) := by decide +kernel
theorem dX3_init_27 : decode cX3_init 27 = .ok (.getfield 11, 3) := by decide +kernel
theorem dX3_init_30 : decode cX3_init 30 = .ok (.iload_n 1, 1) := by decide +kernel
theorem dX3_init_31 : decode cX3_init 31 = .ok (.new 9, 3) := by decide +kernel
theorem dX3_init_34 : decode cX3_init 34 = .ok (.dup, 1) := by decide +kernel
theorem dX3_init_35 : decode cX3_init 35 = .ok (.invokespecial 21, 3) := by decide +kernel
theorem dX3_init_38 : decode cX3_init 38 = .ok (.aastore, 1) := by decide +kernel
theorem dX3_init_39 : decode cX3_init 39 = .ok (.iinc 1 1, 3) := by decide +kernel
theorem dX3_init_42 : decode cX3_init 42 = .ok (.goto (-22), 3) := by decide +kernel
theorem dX3_init_45 : decode cX3_init 45 = .ok (.return_, 1) := by decide +kernel
theorem dX3_copyFrom_0 : decode cX3_copyFrom 0 = .ok (.iconst 0, 1) := by decide +kernel
theorem dX3_copyFrom_1 : decode cX3_copyFrom 1 = .ok (.istore_n 2, 1) := by decide +kernel
theorem dX3_copyFrom_2 : decode cX3_copyFrom 2 = .ok (.iload_n 2, 1) := by decide +kernel
theorem dX3_copyFrom_3 : decode cX3_copyFrom 3 = .ok (.bipush 6, 2) := by decide +kernel
theorem dX3_copyFrom_5 : decode cX3_copyFrom 5 = .ok (.if_icmp .ge 24, 3) := by decide +kernel
theorem dX3_copyFrom_8 : decode cX3_copyFrom 8 = .ok (.aload_n 0, 1) := by decide +kernel
theorem dX3_copyFrom_9 : decode cX3_copyFrom 9 = .ok (.getfield 11, 3) := by decide +kernel
theorem dX3_copyFrom_12 : decode cX3_copyFrom 12 = .ok (.iload_n 2, 1) := by decide +kernel
theorem dX3_copyFrom_13 : decode cX3_copyFrom 13 = .ok (.aaload, 1) := by decide +kernel
theorem dX3_copyFrom_14 : decode cX3_copyFrom 14 = .ok (.aload_n 1, 1) := by decide +kernel
theorem dX3_copyFrom_15 : decode cX3_copyFrom 15 = .ok (.getfield 11, 3) := by decide +kernel
theorem dX3_copyFrom_18 : decode cX3_copyFrom 18 = .ok (.iload_n 2, 1) := by decide +kernel
theorem dX3_copyFrom_19 : decode cX3_copyFrom 19 = .ok (.aaload, 1) := by decide +kernel
theorem dX3_copyFrom_20 : decode cX3_copyFrom 20 = .ok (.invokevirtual 22, 3) := by decide +kernel
theorem dX3_copyFrom_23 : decode cX3_copyFrom 23 = .ok (.iinc 2 1, 3) := by decide +kernel
theorem dX3_copyFrom_26 : decode cX3_copyFrom 26 = .ok (.goto (-24), 3) := by decide +kernel
theorem dX3_copyFrom_29 : decode cX3_copyFrom 29 = .ok (.aload_n 0, 1) := by decide +kernel
theorem dX3_copyFrom_30 : decode cX3_copyFrom 30 = .ok (.aload_n 1, 1) := by decide +kernel
theorem dX3_copyFrom_31 : decode cX3_copyFrom 31 = .ok (.getfield 26, 3) := by decide +kernel
theorem dX3_copyFrom_34 : decode cX3_copyFrom 34 = .ok (.putfield 26, 3) := by decide +kernel
theorem dX3_copyFrom_37 : decode cX3_copyFrom 37 = .ok (.aload_n 0, 1) := by decide +kernel
theorem dX3_copyFrom_38 : decode cX3_copyFrom 38 = .ok (.aload_n 1, 1) := by decide +kernel
theorem dX3_copyFrom_39 : decode cX3_copyFrom 39 = .ok (.getfield 29, 3) := by decide +kernel
theorem dX3_copyFrom_42 : decode cX3_copyFrom 42 = .ok (.putfield 29, 3) := by decide +kernel
theorem dX3_copyFrom_45 : decode cX3_copyFrom 45 = .ok (.aload_n 0, 1) := by decide +kernel
theorem dX3_copyFrom_46 : decode cX3_copyFrom 46 = .ok (.aload_n 1, 1) := by decide +kernel
theorem dX3_copyFrom_47 : decode cX3_copyFrom 47 = .ok (.getfield 32, 3) := by decide +kernel
theorem dX3_copyFrom_50 : decode cX3_copyFrom 50 = .ok (.putfield 32, 3) := by decide +kernel
theorem dX3_copyFrom_53 : decode cX3_copyFrom 53 = .ok (.aload_n 0, 1) := by decide +kernel
theorem dX3_copyFrom_54 : decode cX3_copyFrom 54 = .ok (.aload_n 1, 1) := by decide +kernel
theorem dX3_copyFrom_55 : decode cX3_copyFrom 55 = .ok (.getfield 17, 3) := by decide +kernel
theorem dX3_copyFrom_58 : decode cX3_copyFrom 58 = .ok (.putfield 17, 3) := by decide +kernel
theorem dX3_copyFrom_61 : decode cX3_copyFrom 61 = .ok (.aload_n 0, 1) := by decide +kernel
theorem dX3_copyFrom_62 : decode cX3_copyFrom 62 = .ok (.aload_n 1, 1) := by decide +kernel
theorem dX3_copyFrom_63 : decode cX3_copyFrom 63 = .ok (.getfield 35, 3) := by decide +kernel
theorem dX3_copyFrom_66 : decode cX3_copyFrom 66 = .ok (.putfield 35, 3) := by decide +kernel
theorem dX3_copyFrom_69 : decode cX3_copyFrom 69 = .ok (.aload_n 0, 1) := by decide +kernel
theorem dX3_copyFrom_70 : decode cX3_copyFrom 70 = .ok (.aload_n 1, 1) := by decide +kernel
theorem dX3_copyFrom_71 : decode cX3_copyFrom 71 = .ok (.getfield 38, 3) := by decide +kernel
theorem dX3_copyFrom_74 : decode cX3_copyFrom 74 = .ok (.putfield 38, 3) := by decide +kernel
theorem dX3_copyFrom_77 : decode cX3_copyFrom 77 = .ok (.return_, 1) := by decide +kernel
theorem dX3_hasOrder_0 : decode cX3_hasOrder 0 = .ok (.iload_n 1, 1) := by decide +kernel
theorem dX3_hasOrder_1 : decode cX3_hasOrder 1 = .ok (.ifCond .lt 15, 3) := by decide +kernel
theorem dX3_hasOrder_4 : decode cX3_hasOrder 4 = .ok (.iload_n 1, 1) := by decide +kernel
theorem dX3_hasOrder_5 : decode cX3_hasOrder 5 = .ok (.aload_n 0, 1) := by decide +kernel
theorem dX3_hasOrder_6 : decode cX3_hasOrder 6 = .ok (.getfield 26, 3) := by decide +kernel
theorem dX3_hasOrder_9 : decode cX3_hasOrder 9 = .ok (.if_icmp .ge 7, 3) := by decide +kernel
theorem dX3_hasOrder_12 : decode cX3_hasOrder 12 = .ok (.iconst 1, 1) := by decide +kernel
theorem dX3_hasOrder_13 : decode cX3_hasOrder 13 = .ok (.goto 4, 3) := by decide +kernel
theorem dX3_hasOrder_16 : decode cX3_hasOrder 16 = .ok (.iconst 0, 1) := by decide +kernel
theorem dX3_hasOrder_17 : decode cX3_hasOrder 17 = .ok (.ireturn, 1) := by decide +kernel
theorem dX3_hasRoomForOrder_0 : decode cX3_hasRoomForOrder 0 = .ok (.aload_n 0, 1) := by decide +kernel
theorem dX3_hasRoomForOrder_1 : decode cX3_hasRoomForOrder 1 = .ok (.getfield 26, 3) := by decide +kernel
theorem dX3_hasRoomForOrder_4 : decode cX3_hasRoomForOrder 4 = .ok (.bipush 6, 2) := by decide +kernel
theorem dX3_hasRoomForOrder_6 : decode cX3_hasRoomForOrder 6 = .ok (.if_icmp .ge 7, 3) := by decide +kernel
theorem dX3_hasRoomForOrder_9 : decode cX3_hasRoomForOrder 9 = .ok (.iconst 1, 1) := by decide +kernel
theorem dX3_hasRoomForOrder_10 : decode cX3_hasRoomForOrder 10 = .ok (.goto 4, 3) := by decide +kernel
theorem dX3_hasRoomForOrder_13 : decode cX3_hasRoomForOrder 13 = .ok (.iconst 0, 1) := by decide +kernel
theorem dX3_hasRoomForOrder_14 : decode cX3_hasRoomForOrder 14 = .ok (.ireturn, 1) := by decide +kernel
theorem dX3_addHang_0 : decode cX3_addHang 0 = .ok (.aload_n 0, 1) := by decide +kernel
theorem dX3_addHang_1 : decode cX3_addHang 1 = .ok (.iconst 0, 1) := by decide +kernel
theorem dX3_addHang_2 : decode cX3_addHang 2 = .ok (.iload_n 1, 1) := by decide +kernel
theorem dX3_addHang_3 : decode cX3_addHang 3 = .ok (.iload_n 2, 1) := by decide +kernel
theorem dX3_addHang_4 : decode cX3_addHang 4 = .ok (.iload_n 3, 1) := by decide +kernel
theorem dX3_addHang_5 : decode cX3_addHang 5 = .ok (.iconst 0, 1) := by decide +kernel
theorem dX3_addHang_6 : decode cX3_addHang 6 = .ok (.invokevirtual 42, 3) := by decide +kernel
theorem dX3_addHang_9 : decode cX3_addHang 9 = .ok (.ireturn, 1) := by decide +kernel
theorem dX3_addFill_0 : decode cX3_addFill 0 = .ok (.aload_n 0, 1) := by decide +kernel
theorem dX3_addFill_1 : decode cX3_addFill 1 = .ok (.iconst 1, 1) := by decide +kernel
theorem dX3_addFill_2 : decode cX3_addFill 2 = .ok (.iload_n 1, 1) := by decide +kernel
theorem dX3_addFill_3 : decode cX3_addFill 3 = .ok (.iconst (-1), 1) := by decide +kernel
theorem dX3_addFill_4 : decode cX3_addFill 4 = .ok (.iconst (-1), 1) := by decide +kernel
theorem dX3_addFill_5 : decode cX3_addFill 5 = .ok (.iload_n 2, 1) := by decide +kernel
theorem dX3_addFill_6 : decode cX3_addFill 6 = .ok (.invokevirtual 42, 3) := by decide +kernel
theorem dX3_addFill_9 : decode cX3_addFill 9 = .ok (.ireturn, 1) := by decide +kernel
theorem dX3_addOrder_0 : decode cX3_addOrder 0 = .ok (.aload_n 0, 1) := by decide +kernel
theorem dX3_addOrder_1 : decode cX3_addOrder 1 = .ok (.invokevirtual 46, 3) := by decide +kernel
theorem dX3_addOrder_4 : decode cX3_addOrder 4 = .ok (.ifCond .eq 56, 3) := by decide +kernel
theorem dX3_addOrder_7 : decode cX3_addOrder 7 = .ok (.aload_n 0, 1) := by decide +kernel
theorem dX3_addOrder_8 : decode cX3_addOrder 8 = .ok (.getfield 11, 3) := by decide +kernel
theorem dX3_addOrder_11 : decode cX3_addOrder 11 = .ok (.aload_n 0, 1) := by decide +kernel
theorem dX3_addOrder_12 : decode cX3_addOrder 12 = .ok (.getfield 26, 3) := by decide +kernel
theorem dX3_addOrder_15 : decode cX3_addOrder 15 = .ok (.aaload, 1) := by decide +kernel
theorem dX3_addOrder_16 : decode cX3_addOrder 16 = .ok (.astore 6, 2) := by decide +kernel
theorem dX3_addOrder_18 : decode cX3_addOrder 18 = .ok (.aload 6, 2) := by decide +kernel
theorem dX3_addOrder_20 : decode cX3_addOrder 20 = .ok (.iload_n 1, 1) := by decide +kernel
theorem dX3_addOrder_21 : decode cX3_addOrder 21 = .ok (.putfield 50, 3) := by decide +kernel
theorem dX3_addOrder_24 : decode cX3_addOrder 24 = .ok (.aload 6, 2) := by decide +kernel
theorem dX3_addOrder_26 : decode cX3_addOrder 26 = .ok (.iload_n 2, 1) := by decide +kernel
theorem dX3_addOrder_27 : decode cX3_addOrder 27 = .ok (.putfield 53, 3) := by decide +kernel
theorem dX3_addOrder_30 : decode cX3_addOrder 30 = .ok (.aload 6, 2) := by decide +kernel
theorem dX3_addOrder_32 : decode cX3_addOrder 32 = .ok (.iload_n 3, 1) := by decide +kernel
theorem dX3_addOrder_33 : decode cX3_addOrder 33 = .ok (.putfield 54, 3) := by decide +kernel
theorem dX3_addOrder_36 : decode cX3_addOrder 36 = .ok (.aload 6, 2) := by decide +kernel
theorem dX3_addOrder_38 : decode cX3_addOrder 38 = .ok (.iload 4, 2) := by decide +kernel
theorem dX3_addOrder_40 : decode cX3_addOrder 40 = .ok (.putfield 55, 3) := by decide +kernel
theorem dX3_addOrder_43 : decode cX3_addOrder 43 = .ok (.aload 6, 2) := by decide +kernel
theorem dX3_addOrder_45 : decode cX3_addOrder 45 = .ok (.iload 5, 2) := by decide +kernel
theorem dX3_addOrder_47 : decode cX3_addOrder 47 = .ok (.putfield 56, 3) := by decide +kernel
theorem dX3_addOrder_50 : decode cX3_addOrder 50 = .ok (.aload_n 0, 1) := by decide +kernel
theorem dX3_addOrder_51 : decode cX3_addOrder 51 = .ok (.dup, 1) := by decide +kernel
theorem dX3_addOrder_52 : decode cX3_addOrder 52 = .ok (.getfield 26, 3) := by decide +kernel
theorem dX3_addOrder_55 : decode cX3_addOrder 55 = .ok (.iconst 1, 1) := by decide +kernel
theorem dX3_addOrder_56 : decode cX3_addOrder 56 = .ok (.iadd, 1) := by decide +kernel
theorem dX3_addOrder_57 : decode cX3_addOrder 57 = .ok (.putfield 26, 3) := by decide +kernel
theorem dX3_addOrder_60 : decode cX3_addOrder 60 = .ok (.aload_n 0, 1) := by decide +kernel
theorem dX3_addOrder_61 : decode cX3_addOrder 61 = .ok (.getfield 26, 3) := by decide +kernel
theorem dX3_addOrder_64 : decode cX3_addOrder 64 = .ok (.ireturn, 1) := by decide +kernel
theorem dX3_removeOrder_0 : decode cX3_removeOrder 0 = .ok (.iload_n 1, 1) := by decide +kernel
theorem dX3_removeOrder_1 : decode cX3_removeOrder 1 = .ok (.ifCond .lt 90, 3) := by decide +kernel
theorem dX3_removeOrder_4 : decode cX3_removeOrder 4 = .ok (.iload_n 1, 1) := by decide +kernel
theorem dX3_removeOrder_5 : decode cX3_removeOrder 5 = .ok (.aload_n 0, 1) := by decide +kernel
theorem dX3_removeOrder_6 : decode cX3_removeOrder 6 = .ok (.getfield 26, 3) := by decide +kernel
theorem dX3_removeOrder_9 : decode cX3_removeOrder 9 = .ok (.if_icmp .ge 82, 3) := by decide +kernel
theorem dX3_removeOrder_12 : decode cX3_removeOrder 12 = .ok (.aload_n 0, 1) := by decide +kernel
theorem dX3_removeOrder_13 : decode cX3_removeOrder 13 = .ok (.getfield 11, 3) := by decide +kernel
theorem dX3_removeOrder_16 : decode cX3_removeOrder 16 = .ok (.iload_n 1, 1) := by decide +kernel
theorem dX3_removeOrder_17 : decode cX3_removeOrder 17 = .ok (.aaload, 1) := by decide +kernel
theorem dX3_removeOrder_18 : decode cX3_removeOrder 18 = .ok (.astore_n 2, 1) := by decide +kernel
theorem dX3_removeOrder_19 : decode cX3_removeOrder 19 = .ok (.iload_n 1, 1) := by decide +kernel
theorem dX3_removeOrder_20 : decode cX3_removeOrder 20 = .ok (.iconst 1, 1) := by decide +kernel
theorem dX3_removeOrder_21 : decode cX3_removeOrder 21 = .ok (.iadd, 1) := by decide +kernel
theorem dX3_removeOrder_22 : decode cX3_removeOrder 22 = .ok (.istore_n 3, 1) := by decide +kernel
theorem dX3_removeOrder_23 : decode cX3_removeOrder 23 = .ok (.iload_n 3, 1) := by decide +kernel
theorem dX3_removeOrder_24 : decode cX3_removeOrder 24 = .ok (.aload_n 0, 1) := by decide +kernel
theorem dX3_removeOrder_25 : decode cX3_removeOrder 25 = .ok (.getfield 26, 3) := by decide +kernel
theorem dX3_removeOrder_28 : decode cX3_removeOrder 28 = .ok (.if_icmp .ge 23, 3) := by decide +kernel
theorem dX3_removeOrder_31 : decode cX3_removeOrder 31 = .ok (.aload_n 0, 1) := by decide +kernel
theorem dX3_removeOrder_32 : decode cX3_removeOrder 32 = .ok (.getfield 11, 3) := by decide +kernel
theorem dX3_removeOrder_35 : decode cX3_removeOrder 35 = .ok (.iload_n 3, 1) := by decide +kernel
theorem dX3_removeOrder_36 : decode cX3_removeOrder 36 = .ok (.iconst 1, 1) := by decide +kernel
theorem dX3_removeOrder_37 : decode cX3_removeOrder 37 = .ok (.isub, 1) := by decide +kernel
theorem dX3_removeOrder_38 : decode cX3_removeOrder 38 = .ok (.aload_n 0, 1) := by decide +kernel
theorem dX3_removeOrder_39 : decode cX3_removeOrder 39 = .ok (.getfield 11, 3) := by decide +kernel
theorem dX3_removeOrder_42 : decode cX3_removeOrder 42 = .ok (.iload_n 3, 1) := by decide +kernel
theorem dX3_removeOrder_43 : decode cX3_removeOrder 43 = .ok (.aaload, 1) := by decide +kernel
theorem dX3_removeOrder_44 : decode cX3_removeOrder 44 = .ok (.aastore, 1) := by decide +kernel
theorem dX3_removeOrder_45 : decode cX3_removeOrder 45 = .ok (.iinc 3 1, 3) := by decide +kernel
theorem dX3_removeOrder_48 : decode cX3_removeOrder 48 = .ok (.goto (-25), 3) := by decide +kernel
theorem dX3_removeOrder_51 : decode cX3_removeOrder 51 = .ok (.aload_n 0, 1) := by decide +kernel
theorem dX3_removeOrder_52 : decode cX3_removeOrder 52 = .ok (.dup, 1) := by decide +kernel
theorem dX3_removeOrder_53 : decode cX3_removeOrder 53 = .ok (.getfield 26, 3) := by decide +kernel
theorem dX3_removeOrder_56 : decode cX3_removeOrder 56 = .ok (.iconst 1, 1) := by decide +kernel
theorem dX3_removeOrder_57 : decode cX3_removeOrder 57 = .ok (.isub, 1) := by decide +kernel
theorem dX3_removeOrder_58 : decode cX3_removeOrder 58 = .ok (.putfield 26, 3) := by decide +kernel
theorem dX3_removeOrder_61 : decode cX3_removeOrder 61 = .ok (.aload_n 0, 1) := by decide +kernel
theorem dX3_removeOrder_62 : decode cX3_removeOrder 62 = .ok (.getfield 11, 3) := by decide +kernel
theorem dX3_removeOrder_65 : decode cX3_removeOrder 65 = .ok (.aload_n 0, 1) := by decide +kernel
theorem dX3_removeOrder_66 : decode cX3_removeOrder 66 = .ok (.getfield 26, 3) := by decide +kernel
theorem dX3_removeOrder_69 : decode cX3_removeOrder 69 = .ok (.aload_n 2, 1) := by decide +kernel
theorem dX3_removeOrder_70 : decode cX3_removeOrder 70 = .ok (.aastore, 1) := by decide +kernel
theorem dX3_removeOrder_71 : decode cX3_removeOrder 71 = .ok (.aload_n 0, 1) := by decide +kernel
theorem dX3_removeOrder_72 : decode cX3_removeOrder 72 = .ok (.aload_n 0, 1) := by decide +kernel
theorem dX3_removeOrder_73 : decode cX3_removeOrder 73 = .ok (.getfield 38, 3) := by decide +kernel
theorem dX3_removeOrder_76 : decode cX3_removeOrder 76 = .ok (.ifCond .eq 11, 3) := by decide +kernel
theorem dX3_removeOrder_79 : decode cX3_removeOrder 79 = .ok (.iload_n 1, 1) := by decide +kernel
theorem dX3_removeOrder_80 : decode cX3_removeOrder 80 = .ok (.ifCond .le 7, 3) := by decide +kernel
theorem dX3_removeOrder_83 : decode cX3_removeOrder 83 = .ok (.iconst 1, 1) := by decide +kernel
theorem dX3_removeOrder_84 : decode cX3_removeOrder 84 = .ok (.goto 4, 3) := by decide +kernel
theorem dX3_removeOrder_87 : decode cX3_removeOrder 87 = .ok (.iconst 0, 1) := by decide +kernel
theorem dX3_removeOrder_88 : decode cX3_removeOrder 88 = .ok (.putfield 38, 3) := by decide +kernel
theorem dX3_removeOrder_91 : decode cX3_removeOrder 91 = .ok (.aload_n 0, 1) := by decide +kernel
theorem dX3_removeOrder_92 : decode cX3_removeOrder 92 = .ok (.getfield 26, 3) := by decide +kernel
theorem dX3_removeOrder_95 : decode cX3_removeOrder 95 = .ok (.ireturn, 1) := by decide +kernel
theorem dX3_handsAreFree_0 : decode cX3_handsAreFree 0 = .ok (.aload_n 0, 1) := by decide +kernel
theorem dX3_handsAreFree_1 : decode cX3_handsAreFree 1 = .ok (.getfield 17, 3) := by decide +kernel
theorem dX3_handsAreFree_4 : decode cX3_handsAreFree 4 = .ok (.iconst (-1), 1) := by decide +kernel
theorem dX3_handsAreFree_5 : decode cX3_handsAreFree 5 = .ok (.if_icmp .ne 14, 3) := by decide +kernel
theorem dX3_handsAreFree_8 : decode cX3_handsAreFree 8 = .ok (.aload_n 0, 1) := by decide +kernel
theorem dX3_handsAreFree_9 : decode cX3_handsAreFree 9 = .ok (.getfield 35, 3) := by decide +kernel
theorem dX3_handsAreFree_12 : decode cX3_handsAreFree 12 = .ok (.ifCond .ne 7, 3) := by decide +kernel
theorem dX3_handsAreFree_15 : decode cX3_handsAreFree 15 = .ok (.iconst 1, 1) := by decide +kernel
theorem dX3_handsAreFree_16 : decode cX3_handsAreFree 16 = .ok (.goto 4, 3) := by decide +kernel
theorem dX3_handsAreFree_19 : decode cX3_handsAreFree 19 = .ok (.iconst 0, 1) := by decide +kernel
theorem dX3_handsAreFree_20 : decode cX3_handsAreFree 20 = .ok (.ireturn, 1) := by decide +kernel
theorem dX3_isAt_0 : decode cX3_isAt 0 = .ok (.aload_n 0, 1) := by decide +kernel
theorem dX3_isAt_1 : decode cX3_isAt 1 = .ok (.getfield 32, 3) := by decide +kernel
theorem dX3_isAt_4 : decode cX3_isAt 4 = .ok (.iload_n 2, 1) := by decide +kernel
theorem dX3_isAt_5 : decode cX3_isAt 5 = .ok (.if_icmp .ne 19, 3) := by decide +kernel
theorem dX3_isAt_8 : decode cX3_isAt 8 = .ok (.iload_n 2, 1) := by decide +kernel
theorem dX3_isAt_9 : decode cX3_isAt 9 = .ok (.ifCond .eq 11, 3) := by decide +kernel
theorem dX3_isAt_12 : decode cX3_isAt 12 = .ok (.aload_n 0, 1) := by decide +kernel
theorem dX3_isAt_13 : decode cX3_isAt 13 = .ok (.getfield 29, 3) := by decide +kernel
theorem dX3_isAt_16 : decode cX3_isAt 16 = .ok (.iload_n 1, 1) := by decide +kernel
theorem dX3_isAt_17 : decode cX3_isAt 17 = .ok (.if_icmp .ne 7, 3) := by decide +kernel
theorem dX3_isAt_20 : decode cX3_isAt 20 = .ok (.iconst 1, 1) := by decide +kernel
theorem dX3_isAt_21 : decode cX3_isAt 21 = .ok (.goto 4, 3) := by decide +kernel
theorem dX3_isAt_24 : decode cX3_isAt 24 = .ok (.iconst 0, 1) := by decide +kernel
theorem dX3_isAt_25 : decode cX3_isAt 25 = .ok (.ireturn, 1) := by decide +kernel
theorem dX3_stepTowards_0 : decode cX3_stepTowards 0 = .ok (.aload_n 0, 1) := by decide +kernel
theorem dX3_stepTowards_1 : decode cX3_stepTowards 1 = .ok (.getfield 29, 3) := by decide +kernel
theorem dX3_stepTowards_4 : decode cX3_stepTowards 4 = .ok (.iload_n 1, 1) := by decide +kernel
theorem dX3_stepTowards_5 : decode cX3_stepTowards 5 = .ok (.if_icmp .eq 27, 3) := by decide +kernel
theorem dX3_stepTowards_8 : decode cX3_stepTowards 8 = .ok (.aload_n 0, 1) := by decide +kernel
theorem dX3_stepTowards_9 : decode cX3_stepTowards 9 = .ok (.getfield 32, 3) := by decide +kernel
theorem dX3_stepTowards_12 : decode cX3_stepTowards 12 = .ok (.ifCond .ne 20, 3) := by decide +kernel
theorem dX3_stepTowards_15 : decode cX3_stepTowards 15 = .ok (.iload_n 2, 1) := by decide +kernel
theorem dX3_stepTowards_16 : decode cX3_stepTowards 16 = .ok (.ifCond .le 16, 3) := by decide +kernel
theorem dX3_stepTowards_19 : decode cX3_stepTowards 19 = .ok (.aload_n 0, 1) := by decide +kernel
theorem dX3_stepTowards_20 : decode cX3_stepTowards 20 = .ok (.iload_n 1, 1) := by decide +kernel
theorem dX3_stepTowards_21 : decode cX3_stepTowards 21 = .ok (.putfield 29, 3) := by decide +kernel
theorem dX3_stepTowards_24 : decode cX3_stepTowards 24 = .ok (.aload_n 0, 1) := by decide +kernel
theorem dX3_stepTowards_25 : decode cX3_stepTowards 25 = .ok (.iconst 1, 1) := by decide +kernel
theorem dX3_stepTowards_26 : decode cX3_stepTowards 26 = .ok (.putfield 32, 3) := by decide +kernel
theorem dX3_stepTowards_29 : decode cX3_stepTowards 29 = .ok (.goto 49, 3) := by decide +kernel
theorem dX3_stepTowards_32 : decode cX3_stepTowards 32 = .ok (.aload_n 0, 1) := by decide +kernel
theorem dX3_stepTowards_33 : decode cX3_stepTowards 33 = .ok (.getfield 29, 3) := by decide +kernel
theorem dX3_stepTowards_36 : decode cX3_stepTowards 36 = .ok (.iload_n 1, 1) := by decide +kernel
theorem dX3_stepTowards_37 : decode cX3_stepTowards 37 = .ok (.if_icmp .ne 24, 3) := by decide +kernel
theorem dX3_stepTowards_40 : decode cX3_stepTowards 40 = .ok (.aload_n 0, 1) := by decide +kernel
theorem dX3_stepTowards_41 : decode cX3_stepTowards 41 = .ok (.getfield 32, 3) := by decide +kernel
theorem dX3_stepTowards_44 : decode cX3_stepTowards 44 = .ok (.iload_n 2, 1) := by decide +kernel
theorem dX3_stepTowards_45 : decode cX3_stepTowards 45 = .ok (.if_icmp .ge 16, 3) := by decide +kernel
theorem dX3_stepTowards_48 : decode cX3_stepTowards 48 = .ok (.aload_n 0, 1) := by decide +kernel
theorem dX3_stepTowards_49 : decode cX3_stepTowards 49 = .ok (.dup, 1) := by decide +kernel
theorem dX3_stepTowards_50 : decode cX3_stepTowards 50 = .ok (.getfield 32, 3) := by decide +kernel
theorem dX3_stepTowards_53 : decode cX3_stepTowards 53 = .ok (.iconst 1, 1) := by decide +kernel
theorem dX3_stepTowards_54 : decode cX3_stepTowards 54 = .ok (.iadd, 1) := by decide +kernel
theorem dX3_stepTowards_55 : decode cX3_stepTowards 55 = .ok (.putfield 32, 3) := by decide +kernel
theorem dX3_stepTowards_58 : decode cX3_stepTowards 58 = .ok (.goto 20, 3) := by decide +kernel
theorem dX3_stepTowards_61 : decode cX3_stepTowards 61 = .ok (.aload_n 0, 1) := by decide +kernel
theorem dX3_stepTowards_62 : decode cX3_stepTowards 62 = .ok (.getfield 32, 3) := by decide +kernel
theorem dX3_stepTowards_65 : decode cX3_stepTowards 65 = .ok (.ifCond .le 13, 3) := by decide +kernel
theorem dX3_stepTowards_68 : decode cX3_stepTowards 68 = .ok (.aload_n 0, 1) := by decide +kernel
theorem dX3_stepTowards_69 : decode cX3_stepTowards 69 = .ok (.dup, 1) := by decide +kernel
theorem dX3_stepTowards_70 : decode cX3_stepTowards 70 = .ok (.getfield 32, 3) := by decide +kernel
theorem dX3_stepTowards_73 : decode cX3_stepTowards 73 = .ok (.iconst 1, 1) := by decide +kernel
theorem dX3_stepTowards_74 : decode cX3_stepTowards 74 = .ok (.isub, 1) := by decide +kernel
theorem dX3_stepTowards_75 : decode cX3_stepTowards 75 = .ok (.putfield 32, 3) := by decide +kernel
theorem dX3_stepTowards_78 : decode cX3_stepTowards 78 = .ok (.return_, 1) := by decide +kernel
theorem dX4_init_0 : decode cX4_init 0 = .ok (.aload_n 0, 1) := by decide +kernel
theorem dX4_init_1 : decode cX4_init 1 = .ok (.invokespecial 1, 3) := by decide +kernel
theorem dX4_init_4 : decode cX4_init 4 = .ok (.return_, 1) := by decide +kernel
theorem dX4_copyFrom_0 : decode cX4_copyFrom 0 = .ok (.aload_n 0, 1) := by decide +kernel
theorem dX4_copyFrom_1 : decode cX4_copyFrom 1 = .ok (.aload_n 1, 1) := by decide +kernel
theorem dX4_copyFrom_2 : decode cX4_copyFrom 2 = .ok (.getfield 7, 3) := by decide +kernel
theorem dX4_copyFrom_5 : decode cX4_copyFrom 5 = .ok (.putfield 7, 3) := by decide +kernel
theorem dX4_copyFrom_8 : decode cX4_copyFrom 8 = .ok (.aload_n 0, 1) := by decide +kernel
theorem dX4_copyFrom_9 : decode cX4_copyFrom 9 = .ok (.aload_n 1, 1) := by decide +kernel
theorem dX4_copyFrom_10 : decode cX4_copyFrom 10 = .ok (.getfield 13, 3) := by decide +kernel
theorem dX4_copyFrom_13 : decode cX4_copyFrom 13 = .ok (.putfield 13, 3) := by decide +kernel
theorem dX4_copyFrom_16 : decode cX4_copyFrom 16 = .ok (.aload_n 0, 1) := by decide +kernel
theorem dX4_copyFrom_17 : decode cX4_copyFrom 17 = .ok (.aload_n 1, 1) := by decide +kernel
theorem dX4_copyFrom_18 : decode cX4_copyFrom 18 = .ok (.getfield 16, 3) := by decide +kernel
theorem dX4_copyFrom_21 : decode cX4_copyFrom 21 = .ok (.putfield 16, 3) := by decide +kernel
theorem dX4_copyFrom_24 : decode cX4_copyFrom 24 = .ok (.aload_n 0, 1) := by decide +kernel
theorem dX4_copyFrom_25 : decode cX4_copyFrom 25 = .ok (.aload_n 1, 1) := by decide +kernel
theorem dX4_copyFrom_26 : decode cX4_copyFrom 26 = .ok (.getfield 19, 3) := by decide +kernel
theorem dX4_copyFrom_29 : decode cX4_copyFrom 29 = .ok (.putfield 19, 3) := by decide +kernel
theorem dX4_copyFrom_32 : decode cX4_copyFrom 32 = .ok (.return_, 1) := by decide +kernel
theorem dX4_lights_0 : decode cX4_lights 0 = .ok (.aload_n 0, 1) := by decide +kernel
theorem dX4_lights_1 : decode cX4_lights 1 = .ok (.iload_n 1, 1) := by decide +kernel
theorem dX4_lights_2 : decode cX4_lights 2 = .ok (.invokevirtual 22, 3) := by decide +kernel
theorem dX4_lights_5 : decode cX4_lights 5 = .ok (.ifCond .eq 33, 3) := by decide +kernel
theorem dX4_lights_8 : decode cX4_lights 8 = .ok (.iload_n 2, 1) := by decide +kernel
theorem dX4_lights_9 : decode cX4_lights 9 = .ok (.aload_n 0, 1) := by decide +kernel
theorem dX4_lights_10 : decode cX4_lights 10 = .ok (.getfield 13, 3) := by decide +kernel
theorem dX4_lights_13 : decode cX4_lights 13 = .ok (.isub, 1) := by decide +kernel
theorem dX4_lights_14 : decode cX4_lights 14 = .ok (.aload_n 0, 1) := by decide +kernel
theorem dX4_lights_15 : decode cX4_lights 15 = .ok (.getfield 16, 3) := by decide +kernel
theorem dX4_lights_18 : decode cX4_lights 18 = .ok (.if_icmp .gt 20, 3) := by decide +kernel
theorem dX4_lights_21 : decode cX4_lights 21 = .ok (.aload_n 0, 1) := by decide +kernel
theorem dX4_lights_22 : decode cX4_lights 22 = .ok (.getfield 13, 3) := by decide +kernel
theorem dX4_lights_25 : decode cX4_lights 25 = .ok (.iload_n 2, 1) := by decide +kernel
theorem dX4_lights_26 : decode cX4_lights 26 = .ok (.isub, 1) := by decide +kernel
theorem dX4_lights_27 : decode cX4_lights 27 = .ok (.aload_n 0, 1) := by decide +kernel
theorem dX4_lights_28 : decode cX4_lights 28 = .ok (.getfield 16, 3) := by decide +kernel
theorem dX4_lights_31 : decode cX4_lights 31 = .ok (.if_icmp .gt 7, 3) := by decide +kernel
theorem dX4_lights_34 : decode cX4_lights 34 = .ok (.iconst 1, 1) := by decide +kernel
theorem dX4_lights_35 : decode cX4_lights 35 = .ok (.goto 4, 3) := by decide +kernel
theorem dX4_lights_38 : decode cX4_lights 38 = .ok (.iconst 0, 1) := by decide +kernel
theorem dX4_lights_39 : decode cX4_lights 39 = .ok (.ireturn, 1) := by decide +kernel
theorem dX4_burnsIn_0 : decode cX4_burnsIn 0 = .ok (.aload_n 0, 1) := by decide +kernel
theorem dX4_burnsIn_1 : decode cX4_burnsIn 1 = .ok (.getfield 7, 3) := by decide +kernel
theorem dX4_burnsIn_4 : decode cX4_burnsIn 4 = .ok (.iload_n 1, 1) := by decide +kernel
theorem dX4_burnsIn_5 : decode cX4_burnsIn 5 = .ok (.if_icmp .ne 14, 3) := by decide +kernel
theorem dX4_burnsIn_8 : decode cX4_burnsIn 8 = .ok (.aload_n 0, 1) := by decide +kernel
theorem dX4_burnsIn_9 : decode cX4_burnsIn 9 = .ok (.getfield 19, 3) := by decide +kernel
theorem dX4_burnsIn_12 : decode cX4_burnsIn 12 = .ok (.ifCond .le 7, 3) := by decide +kernel
theorem dX4_burnsIn_15 : decode cX4_burnsIn 15 = .ok (.iconst 1, 1) := by decide +kernel
theorem dX4_burnsIn_16 : decode cX4_burnsIn 16 = .ok (.goto 4, 3) := by decide +kernel
theorem dX4_burnsIn_19 : decode cX4_burnsIn 19 = .ok (.iconst 0, 1) := by decide +kernel
theorem dX4_burnsIn_20 : decode cX4_burnsIn 20 = .ok (.ireturn, 1) := by decide +kernel
theorem dX5_init_0 : decode cX5_init 0 = .ok (.aload_n 0, 1) := by decide +kernel
theorem dX5_init_1 : decode cX5_init 1 = .ok (.invokespecial 3, 3) := by decide +kernel
theorem dX5_init_4 : decode cX5_init 4 = .ok (.aload_n 0, 1) := by decide +kernel
theorem dX5_init_5 : decode cX5_init 5 = .ok (.iconst 3, 1) := by decide +kernel
theorem dX5_init_6 : decode cX5_init 6 = .ok (.anewarray 9, 3) := by decide +kernel
theorem dX5_init_9 : decode cX5_init 9 = .ok (.putfield 11, 3) := by decide +kernel
theorem dX5_init_12 : decode cX5_init 12 = .ok (.aload_n 0, 1) := by decide +kernel
theorem dX5_init_13 : decode cX5_init 13 = .ok (.bipush 6, 2) := by decide +kernel
theorem dX5_init_15 : decode cX5_init 15 = .ok (.anewarray 17, 3) := by decide +kernel
theorem dX5_init_18 : decode cX5_init 18 = .ok (.putfield 19, 3) := by decide +kernel
theorem dX5_init_21 : decode cX5_init 21 = .ok (.aload_n 0, 1) := by decide +kernel
theorem dX5_init_22 : decode cX5_init 22 = .ok (.bipush 8, 2) := by decide +kernel
theorem dX5_init_24 : decode cX5_init 24 = .ok (.anewarray 23, 3) := by decide +kernel
theorem dX5_init_27 : decode cX5_init 27 = .ok (.putfield 25, 3) := by decide +kernel
theorem dX5_init_30 : decode cX5_init 30 = .ok (.aload_n 0, 1) := by decide +kernel
theorem dX5_init_31 : decode cX5_init 31 = .ok (.new 29, 3) := by decide +kernel
theorem dX5_init_34 : decode cX5_init 34 = .ok (.dup, 1) := by decide +kernel
theorem dX5_init_35 : decode cX5_init 35 = .ok (.invokespecial 31, 3) := by decide +kernel
theorem dX5_init_38 : decode cX5_init 38 = .ok (.putfield 32, 3) := by decide +kernel
theorem dX5_init_41 : decode cX5_init 41 = .ok (.aload_n 0, 1) := by decide +kernel
theorem dX5_init_42 : decode cX5_init 42 = .ok (.iconst 4, 1) := by decide +kernel
theorem dX5_init_43 : decode cX5_init 43 = .ok (.putfield 36, 3) := by decide +kernel
theorem dX5_init_46 : decode cX5_init 46 = .ok (.iconst 0, 1) := by decide +kernel
theorem dX5_init_47 : decode cX5_init 47 = .ok (.istore_n 1, 1) := by decide +kernel
theorem dX5_init_48 : decode cX5_init 48 = .ok (.iload_n 1, 1) := by decide +kernel
theorem dX5_init_49 : decode cX5_init 49 = .ok (.iconst 3, 1) := by decide +kernel
theorem dX5_init_50 : decode cX5_init 50 = .ok (.if_icmp .ge 22, 3) := by decide +kernel
theorem dX5_init_53 : decode cX5_init 53 = .ok (.aload_n 0, 1) := by decide +kernel
theorem dX5_init_54 : decode cX5_init 54 = .ok (.getfield 11, 3) := by decide +kernel
theorem dX5_init_57 : decode cX5_init 57 = .ok (.iload_n 1, 1) := by decide +kernel
theorem dX5_init_58 : decode cX5_init 58 = .ok (.new 9, 3) := by decide +kernel
theorem dX5_init_61 : decode cX5_init 61 = .ok (.dup, 1) := by decide +kernel
theorem dX5_init_62 : decode cX5_init 62 = .ok (.invokespecial 40, 3) := by decide +kernel
theorem dX5_init_65 : decode cX5_init 65 = .ok (.aastore, 1) := by decide +kernel
theorem dX5_init_66 : decode cX5_init 66 = .ok (.iinc 1 1, 3) := by decide +kernel
theorem dX5_init_69 : decode cX5_init 69 = .ok (.goto (-21), 3) := by decide +kernel
theorem dX5_init_72 : decode cX5_init 72 = .ok (.iconst 0, 1) := by decide +kernel
theorem dX5_init_73 : decode cX5_init 73 = .ok (.istore_n 1, 1) := by decide +kernel
theorem dX5_init_74 : decode cX5_init 74 = .ok (.iload_n 1, 1) := by decide +kernel
theorem dX5_init_75 : decode cX5_init 75 = .ok (.bipush 6, 2) := by decide +kernel
theorem dX5_init_77 : decode cX5_init 77 = .ok (.if_icmp .ge 22, 3) := by decide +kernel
theorem dX5_init_80 : decode cX5_init 80 = .ok (.aload_n 0, 1) := by decide +kernel
theorem dX5_init_81 : decode cX5_init 81 = .ok (.getfield 19, 3) := by decide +kernel
theorem dX5_init_84 : decode cX5_init 84 = .ok (.iload_n 1, 1) := by decide +kernel
theorem dX5_init_85 : decode cX5_init 85 = .ok (.new 17, 3) := by decide +kernel
theorem dX5_init_88 : decode cX5_init 88 = .ok (.dup, 1) := by decide +kernel
theorem dX5_init_89 : decode cX5_init 89 = .ok (.invokespecial 41, 3) := by decide +kernel
theorem dX5_init_92 : decode cX5_init 92 = .ok (.aastore, 1) := by decide +kernel
theorem dX5_init_93 : decode cX5_init 93 = .ok (.iinc 1 1, 3) := by decide +kernel
theorem dX5_init_96 : decode cX5_init 96 = .ok (.goto (-22), 3) := by decide +kernel
theorem dX5_init_99 : decode cX5_init 99 = .ok (.iconst 0, 1) := by decide +kernel
theorem dX5_init_100 : decode cX5_init 100 = .ok (.istore_n 1, 1) := by decide +kernel
theorem dX5_init_101 : decode cX5_init 101 = .ok (.iload_n 1, 1) := by decide +kernel
theorem dX5_init_102 : decode cX5_init 102 = .ok (.bipush 8, 2) := by decide +kernel
theorem dX5_init_104 : decode cX5_init 104 = .ok (.if_icmp .ge 22, 3) := by decide +kernel
theorem dX5_init_107 : decode cX5_init 107 = .ok (.aload_n 0, 1) := by decide +kernel
theorem dX5_init_108 : decode cX5_init 108 = .ok (.getfield 25, 3) := by decide +kernel
theorem dX5_init_111 : decode cX5_init 111 = .ok (.iload_n 1, 1) := by decide +kernel
theorem dX5_init_112 : decode cX5_init 112 = .ok (.new 23, 3) := by decide +kernel
theorem dX5_init_115 : decode cX5_init 115 = .ok (.dup, 1) := by decide +kernel
theorem dX5_init_116 : decode cX5_init 116 = .ok (.invokespecial 42, 3) := by decide +kernel
theorem dX5_init_119 : decode cX5_init 119 = .ok (.aastore, 1) := by decide +kernel
theorem dX5_init_120 : decode cX5_init 120 = .ok (.iinc 1 1, 3) := by decide +kernel
theorem dX5_init_123 : decode cX5_init 123 = .ok (.goto (-22), 3) := by decide +kernel
theorem dX5_init_126 : decode cX5_init 126 = .ok (.return_, 1) := by decide +kernel
theorem dX5_copyFrom_0 : decode cX5_copyFrom 0 = .ok (.iconst 0, 1) := by decide +kernel
theorem dX5_copyFrom_1 : decode cX5_copyFrom 1 = .ok (.istore_n 2, 1) := by decide +kernel
theorem dX5_copyFrom_2 : decode cX5_copyFrom 2 = .ok (.iload_n 2, 1) := by decide +kernel
theorem dX5_copyFrom_3 : decode cX5_copyFrom 3 = .ok (.iconst 3, 1) := by decide +kernel
theorem dX5_copyFrom_4 : decode cX5_copyFrom 4 = .ok (.if_icmp .ge 24, 3) := by decide +kernel
theorem dX5_copyFrom_7 : decode cX5_copyFrom 7 = .ok (.aload_n 0, 1) := by decide +kernel
theorem dX5_copyFrom_8 : decode cX5_copyFrom 8 = .ok (.getfield 11, 3) := by decide +kernel
theorem dX5_copyFrom_11 : decode cX5_copyFrom 11 = .ok (.iload_n 2, 1) := by decide +kernel
theorem dX5_copyFrom_12 : decode cX5_copyFrom 12 = .ok (.aaload, 1) := by decide +kernel
theorem dX5_copyFrom_13 : decode cX5_copyFrom 13 = .ok (.aload_n 1, 1) := by decide +kernel
theorem dX5_copyFrom_14 : decode cX5_copyFrom 14 = .ok (.getfield 11, 3) := by decide +kernel
theorem dX5_copyFrom_17 : decode cX5_copyFrom 17 = .ok (.iload_n 2, 1) := by decide +kernel
theorem dX5_copyFrom_18 : decode cX5_copyFrom 18 = .ok (.aaload, 1) := by decide +kernel
theorem dX5_copyFrom_19 : decode cX5_copyFrom 19 = .ok (.invokevirtual 43, 3) := by decide +kernel
theorem dX5_copyFrom_22 : decode cX5_copyFrom 22 = .ok (.iinc 2 1, 3) := by decide +kernel
theorem dX5_copyFrom_25 : decode cX5_copyFrom 25 = .ok (.goto (-23), 3) := by decide +kernel
theorem dX5_copyFrom_28 : decode cX5_copyFrom 28 = .ok (.iconst 0, 1) := by decide +kernel
theorem dX5_copyFrom_29 : decode cX5_copyFrom 29 = .ok (.istore_n 2, 1) := by decide +kernel
theorem dX5_copyFrom_30 : decode cX5_copyFrom 30 = .ok (.iload_n 2, 1) := by decide +kernel
theorem dX5_copyFrom_31 : decode cX5_copyFrom 31 = .ok (.bipush 6, 2) := by decide +kernel
theorem dX5_copyFrom_33 : decode cX5_copyFrom 33 = .ok (.if_icmp .ge 24, 3) := by decide +kernel
theorem dX5_copyFrom_36 : decode cX5_copyFrom 36 = .ok (.aload_n 0, 1) := by decide +kernel
theorem dX5_copyFrom_37 : decode cX5_copyFrom 37 = .ok (.getfield 19, 3) := by decide +kernel
theorem dX5_copyFrom_40 : decode cX5_copyFrom 40 = .ok (.iload_n 2, 1) := by decide +kernel
theorem dX5_copyFrom_41 : decode cX5_copyFrom 41 = .ok (.aaload, 1) := by decide +kernel
theorem dX5_copyFrom_42 : decode cX5_copyFrom 42 = .ok (.aload_n 1, 1) := by decide +kernel
theorem dX5_copyFrom_43 : decode cX5_copyFrom 43 = .ok (.getfield 19, 3) := by decide +kernel
theorem dX5_copyFrom_46 : decode cX5_copyFrom 46 = .ok (.iload_n 2, 1) := by decide +kernel
theorem dX5_copyFrom_47 : decode cX5_copyFrom 47 = .ok (.aaload, 1) := by decide +kernel
theorem dX5_copyFrom_48 : decode cX5_copyFrom 48 = .ok (.invokevirtual 47, 3) := by decide +kernel
theorem dX5_copyFrom_51 : decode cX5_copyFrom 51 = .ok (.iinc 2 1, 3) := by decide +kernel
theorem dX5_copyFrom_54 : decode cX5_copyFrom 54 = .ok (.goto (-24), 3) := by decide +kernel
theorem dX5_copyFrom_57 : decode cX5_copyFrom 57 = .ok (.iconst 0, 1) := by decide +kernel
theorem dX5_copyFrom_58 : decode cX5_copyFrom 58 = .ok (.istore_n 2, 1) := by decide +kernel
theorem dX5_copyFrom_59 : decode cX5_copyFrom 59 = .ok (.iload_n 2, 1) := by decide +kernel
theorem dX5_copyFrom_60 : decode cX5_copyFrom 60 = .ok (.bipush 8, 2) := by decide +kernel
theorem dX5_copyFrom_62 : decode cX5_copyFrom 62 = .ok (.if_icmp .ge 24, 3) := by decide +kernel
theorem dX5_copyFrom_65 : decode cX5_copyFrom 65 = .ok (.aload_n 0, 1) := by decide +kernel
theorem dX5_copyFrom_66 : decode cX5_copyFrom 66 = .ok (.getfield 25, 3) := by decide +kernel
theorem dX5_copyFrom_69 : decode cX5_copyFrom 69 = .ok (.iload_n 2, 1) := by decide +kernel
theorem dX5_copyFrom_70 : decode cX5_copyFrom 70 = .ok (.aaload, 1) := by decide +kernel
theorem dX5_copyFrom_71 : decode cX5_copyFrom 71 = .ok (.aload_n 1, 1) := by decide +kernel
theorem dX5_copyFrom_72 : decode cX5_copyFrom 72 = .ok (.getfield 25, 3) := by decide +kernel
theorem dX5_copyFrom_75 : decode cX5_copyFrom 75 = .ok (.iload_n 2, 1) := by decide +kernel
theorem dX5_copyFrom_76 : decode cX5_copyFrom 76 = .ok (.aaload, 1) := by decide +kernel
theorem dX5_copyFrom_77 : decode cX5_copyFrom 77 = .ok (.invokevirtual 50, 3) := by decide +kernel
theorem dX5_copyFrom_80 : decode cX5_copyFrom 80 = .ok (.iinc 2 1, 3) := by decide +kernel
theorem dX5_copyFrom_83 : decode cX5_copyFrom 83 = .ok (.goto (-24), 3) := by decide +kernel
theorem dX5_copyFrom_86 : decode cX5_copyFrom 86 = .ok (.aload_n 0, 1) := by decide +kernel
theorem dX5_copyFrom_87 : decode cX5_copyFrom 87 = .ok (.getfield 32, 3) := by decide +kernel
theorem dX5_copyFrom_90 : decode cX5_copyFrom 90 = .ok (.aload_n 1, 1) := by decide +kernel
theorem dX5_copyFrom_91 : decode cX5_copyFrom 91 = .ok (.getfield 32, 3) := by decide +kernel
theorem dX5_copyFrom_94 : decode cX5_copyFrom 94 = .ok (.invokevirtual 53, 3) := by decide +kernel
theorem dX5_copyFrom_97 : decode cX5_copyFrom 97 = .ok (.aload_n 0, 1) := by decide +kernel
theorem dX5_copyFrom_98 : decode cX5_copyFrom 98 = .ok (.aload_n 1, 1) := by decide +kernel
theorem dX5_copyFrom_99 : decode cX5_copyFrom 99 = .ok (.getfield 56, 3) := by decide +kernel
theorem dX5_copyFrom_102 : decode cX5_copyFrom 102 = .ok (.putfield 56, 3) := by decide +kernel
theorem dX5_copyFrom_105 : decode cX5_copyFrom 105 = .ok (.aload_n 0, 1) := by decide +kernel
theorem dX5_copyFrom_106 : decode cX5_copyFrom 106 = .ok (.aload_n 1, 1) := by decide +kernel
theorem dX5_copyFrom_107 : decode cX5_copyFrom 107 = .ok (.getfield 59, 3) := by decide +kernel
theorem dX5_copyFrom_110 : decode cX5_copyFrom 110 = .ok (.putfield 59, 3) := by decide +kernel
theorem dX5_copyFrom_113 : decode cX5_copyFrom 113 = .ok (.aload_n 0, 1) := by decide +kernel
theorem dX5_copyFrom_114 : decode cX5_copyFrom 114 = .ok (.aload_n 1, 1) := by decide +kernel
theorem dX5_copyFrom_115 : decode cX5_copyFrom 115 = .ok (.getfield 62, 3) := by decide +kernel
theorem dX5_copyFrom_118 : decode cX5_copyFrom 118 = .ok (.putfield 62, 3) := by decide +kernel
theorem dX5_copyFrom_121 : decode cX5_copyFrom 121 = .ok (.aload_n 0, 1) := by decide +kernel
theorem dX5_copyFrom_122 : decode cX5_copyFrom 122 = .ok (.aload_n 1, 1) := by decide +kernel
theorem dX5_copyFrom_123 : decode cX5_copyFrom 123 = .ok (.getfield 65, 3) := by decide +kernel
theorem dX5_copyFrom_126 : decode cX5_copyFrom 126 = .ok (.putfield 65, 3) := by decide +kernel
theorem dX5_copyFrom_129 : decode cX5_copyFrom 129 = .ok (.aload_n 0, 1) := by decide +kernel
theorem dX5_copyFrom_130 : decode cX5_copyFrom 130 = .ok (.aload_n 1, 1) := by decide +kernel
theorem dX5_copyFrom_131 : decode cX5_copyFrom 131 = .ok (.getfield 68, 3) := by decide +kernel
theorem dX5_copyFrom_134 : decode cX5_copyFrom 134 = .ok (.putfield 68, 3) := by decide +kernel
theorem dX5_copyFrom_137 : decode cX5_copyFrom 137 = .ok (.aload_n 0, 1) := by decide +kernel
theorem dX5_copyFrom_138 : decode cX5_copyFrom 138 = .ok (.aload_n 1, 1) := by decide +kernel
theorem dX5_copyFrom_139 : decode cX5_copyFrom 139 = .ok (.getfield 71, 3) := by decide +kernel
theorem dX5_copyFrom_142 : decode cX5_copyFrom 142 = .ok (.putfield 71, 3) := by decide +kernel
theorem dX5_copyFrom_145 : decode cX5_copyFrom 145 = .ok (.aload_n 0, 1) := by decide +kernel
theorem dX5_copyFrom_146 : decode cX5_copyFrom 146 = .ok (.aload_n 1, 1) := by decide +kernel
theorem dX5_copyFrom_147 : decode cX5_copyFrom 147 = .ok (.getfield 74, 3) := by decide +kernel
theorem dX5_copyFrom_150 : decode cX5_copyFrom 150 = .ok (.putfield 74, 3) := by decide +kernel
theorem dX5_copyFrom_153 : decode cX5_copyFrom 153 = .ok (.aload_n 0, 1) := by decide +kernel
theorem dX5_copyFrom_154 : decode cX5_copyFrom 154 = .ok (.aload_n 1, 1) := by decide +kernel
theorem dX5_copyFrom_155 : decode cX5_copyFrom 155 = .ok (.getfield 77, 3) := by decide +kernel
theorem dX5_copyFrom_158 : decode cX5_copyFrom 158 = .ok (.putfield 77, 3) := by decide +kernel
theorem dX5_copyFrom_161 : decode cX5_copyFrom 161 = .ok (.aload_n 0, 1) := by decide +kernel
theorem dX5_copyFrom_162 : decode cX5_copyFrom 162 = .ok (.aload_n 1, 1) := by decide +kernel
theorem dX5_copyFrom_163 : decode cX5_copyFrom 163 = .ok (.getfield 80, 3) := by decide +kernel
theorem dX5_copyFrom_166 : decode cX5_copyFrom 166 = .ok (.putfield 80, 3) := by decide +kernel
theorem dX5_copyFrom_169 : decode cX5_copyFrom 169 = .ok (.aload_n 0, 1) := by decide +kernel
theorem dX5_copyFrom_170 : decode cX5_copyFrom 170 = .ok (.aload_n 1, 1) := by decide +kernel
theorem dX5_copyFrom_171 : decode cX5_copyFrom 171 = .ok (.getfield 83, 3) := by decide +kernel
theorem dX5_copyFrom_174 : decode cX5_copyFrom 174 = .ok (.putfield 83, 3) := by decide +kernel
theorem dX5_copyFrom_177 : decode cX5_copyFrom 177 = .ok (.aload_n 0, 1) := by decide +kernel
theorem dX5_copyFrom_178 : decode cX5_copyFrom 178 = .ok (.aload_n 1, 1) := by decide +kernel
theorem dX5_copyFrom_179 : decode cX5_copyFrom 179 = .ok (.getfield 36, 3) := by decide +kernel
theorem dX5_copyFrom_182 : decode cX5_copyFrom 182 = .ok (.putfield 36, 3) := by decide +kernel
theorem dX5_copyFrom_185 : decode cX5_copyFrom 185 = .ok (.aload_n 0, 1) := by decide +kernel
theorem dX5_copyFrom_186 : decode cX5_copyFrom 186 = .ok (.aload_n 1, 1) := by decide +kernel
theorem dX5_copyFrom_187 : decode cX5_copyFrom 187 = .ok (.getfield 86, 3) := by decide +kernel
theorem dX5_copyFrom_190 : decode cX5_copyFrom 190 = .ok (.putfield 86, 3) := by decide +kernel
theorem dX5_copyFrom_193 : decode cX5_copyFrom 193 = .ok (.return_, 1) := by decide +kernel
theorem dX5_hasGallery_0 : decode cX5_hasGallery 0 = .ok (.iload_n 1, 1) := by decide +kernel
theorem dX5_hasGallery_1 : decode cX5_hasGallery 1 = .ok (.ifCond .lt 15, 3) := by decide +kernel
theorem dX5_hasGallery_4 : decode cX5_hasGallery 4 = .ok (.iload_n 1, 1) := by decide +kernel
theorem dX5_hasGallery_5 : decode cX5_hasGallery 5 = .ok (.aload_n 0, 1) := by decide +kernel
theorem dX5_hasGallery_6 : decode cX5_hasGallery 6 = .ok (.getfield 56, 3) := by decide +kernel
theorem dX5_hasGallery_9 : decode cX5_hasGallery 9 = .ok (.if_icmp .ge 7, 3) := by decide +kernel
theorem dX5_hasGallery_12 : decode cX5_hasGallery 12 = .ok (.iconst 1, 1) := by decide +kernel
theorem dX5_hasGallery_13 : decode cX5_hasGallery 13 = .ok (.goto 4, 3) := by decide +kernel
theorem dX5_hasGallery_16 : decode cX5_hasGallery 16 = .ok (.iconst 0, 1) := by decide +kernel
theorem dX5_hasGallery_17 : decode cX5_hasGallery 17 = .ok (.ireturn, 1) := by decide +kernel
theorem dX5_hasCell_0 : decode cX5_hasCell 0 = .ok (.aload_n 0, 1) := by decide +kernel
theorem dX5_hasCell_1 : decode cX5_hasCell 1 = .ok (.iload_n 1, 1) := by decide +kernel
theorem dX5_hasCell_2 : decode cX5_hasCell 2 = .ok (.invokevirtual 89, 3) := by decide +kernel
theorem dX5_hasCell_5 : decode cX5_hasCell 5 = .ok (.ifCond .eq 24, 3) := by decide +kernel
theorem dX5_hasCell_8 : decode cX5_hasCell 8 = .ok (.iload_n 2, 1) := by decide +kernel
theorem dX5_hasCell_9 : decode cX5_hasCell 9 = .ok (.ifCond .lt 20, 3) := by decide +kernel
theorem dX5_hasCell_12 : decode cX5_hasCell 12 = .ok (.iload_n 2, 1) := by decide +kernel
theorem dX5_hasCell_13 : decode cX5_hasCell 13 = .ok (.aload_n 0, 1) := by decide +kernel
theorem dX5_hasCell_14 : decode cX5_hasCell 14 = .ok (.getfield 11, 3) := by decide +kernel
theorem dX5_hasCell_17 : decode cX5_hasCell 17 = .ok (.iload_n 1, 1) := by decide +kernel
theorem dX5_hasCell_18 : decode cX5_hasCell 18 = .ok (.aaload, 1) := by decide +kernel
theorem dX5_hasCell_19 : decode cX5_hasCell 19 = .ok (.getfield 93, 3) := by decide +kernel
theorem dX5_hasCell_22 : decode cX5_hasCell 22 = .ok (.if_icmp .ge 7, 3) := by decide +kernel
theorem dX5_hasCell_25 : decode cX5_hasCell 25 = .ok (.iconst 1, 1) := by decide +kernel
theorem dX5_hasCell_26 : decode cX5_hasCell 26 = .ok (.goto 4, 3) := by decide +kernel
theorem dX5_hasCell_29 : decode cX5_hasCell 29 = .ok (.iconst 0, 1) := by decide +kernel
theorem dX5_hasCell_30 : decode cX5_hasCell 30 = .ok (.ireturn, 1) := by decide +kernel
theorem dX5_hasMiner_0 : decode cX5_hasMiner 0 = .ok (.iload_n 1, 1) := by decide +kernel
theorem dX5_hasMiner_1 : decode cX5_hasMiner 1 = .ok (.ifCond .lt 15, 3) := by decide +kernel
theorem dX5_hasMiner_4 : decode cX5_hasMiner 4 = .ok (.iload_n 1, 1) := by decide +kernel
theorem dX5_hasMiner_5 : decode cX5_hasMiner 5 = .ok (.aload_n 0, 1) := by decide +kernel
theorem dX5_hasMiner_6 : decode cX5_hasMiner 6 = .ok (.getfield 59, 3) := by decide +kernel
theorem dX5_hasMiner_9 : decode cX5_hasMiner 9 = .ok (.if_icmp .ge 7, 3) := by decide +kernel
theorem dX5_hasMiner_12 : decode cX5_hasMiner 12 = .ok (.iconst 1, 1) := by decide +kernel
theorem dX5_hasMiner_13 : decode cX5_hasMiner 13 = .ok (.goto 4, 3) := by decide +kernel
theorem dX5_hasMiner_16 : decode cX5_hasMiner 16 = .ok (.iconst 0, 1) := by decide +kernel
theorem dX5_hasMiner_17 : decode cX5_hasMiner 17 = .ok (.ireturn, 1) := by decide +kernel
theorem dX5_hasLamp_0 : decode cX5_hasLamp 0 = .ok (.iload_n 1, 1) := by decide +kernel
theorem dX5_hasLamp_1 : decode cX5_hasLamp 1 = .ok (.ifCond .lt 15, 3) := by decide +kernel
theorem dX5_hasLamp_4 : decode cX5_hasLamp 4 = .ok (.iload_n 1, 1) := by decide +kernel
theorem dX5_hasLamp_5 : decode cX5_hasLamp 5 = .ok (.aload_n 0, 1) := by decide +kernel
theorem dX5_hasLamp_6 : decode cX5_hasLamp 6 = .ok (.getfield 62, 3) := by decide +kernel
theorem dX5_hasLamp_9 : decode cX5_hasLamp 9 = .ok (.if_icmp .ge 7, 3) := by decide +kernel
theorem dX5_hasLamp_12 : decode cX5_hasLamp 12 = .ok (.iconst 1, 1) := by decide +kernel
theorem dX5_hasLamp_13 : decode cX5_hasLamp 13 = .ok (.goto 4, 3) := by decide +kernel
theorem dX5_hasLamp_16 : decode cX5_hasLamp 16 = .ok (.iconst 0, 1) := by decide +kernel
theorem dX5_hasLamp_17 : decode cX5_hasLamp 17 = .ok (.ireturn, 1) := by decide +kernel
theorem dX5_oilInLamps_0 : decode cX5_oilInLamps 0 = .ok (.iconst 0, 1) := by decide +kernel
theorem dX5_oilInLamps_1 : decode cX5_oilInLamps 1 = .ok (.istore_n 1, 1) := by decide +kernel
theorem dX5_oilInLamps_2 : decode cX5_oilInLamps 2 = .ok (.iconst 0, 1) := by decide +kernel
theorem dX5_oilInLamps_3 : decode cX5_oilInLamps 3 = .ok (.istore_n 2, 1) := by decide +kernel
theorem dX5_oilInLamps_4 : decode cX5_oilInLamps 4 = .ok (.iload_n 2, 1) := by decide +kernel
theorem dX5_oilInLamps_5 : decode cX5_oilInLamps 5 = .ok (.aload_n 0, 1) := by decide +kernel
theorem dX5_oilInLamps_6 : decode cX5_oilInLamps 6 = .ok (.getfield 62, 3) := by decide +kernel
theorem dX5_oilInLamps_9 : decode cX5_oilInLamps 9 = .ok (.if_icmp .ge 21, 3) := by decide +kernel
theorem dX5_oilInLamps_12 : decode cX5_oilInLamps 12 = .ok (.iload_n 1, 1) := by decide +kernel
theorem dX5_oilInLamps_13 : decode cX5_oilInLamps 13 = .ok (.aload_n 0, 1) := by decide +kernel
theorem dX5_oilInLamps_14 : decode cX5_oilInLamps 14 = .ok (.getfield 25, 3) := by decide +kernel
theorem dX5_oilInLamps_17 : decode cX5_oilInLamps 17 = .ok (.iload_n 2, 1) := by decide +kernel
theorem dX5_oilInLamps_18 : decode cX5_oilInLamps 18 = .ok (.aaload, 1) := by decide +kernel
theorem dX5_oilInLamps_19 : decode cX5_oilInLamps 19 = .ok (.getfield 96, 3) := by decide +kernel
theorem dX5_oilInLamps_22 : decode cX5_oilInLamps 22 = .ok (.iadd, 1) := by decide +kernel
theorem dX5_oilInLamps_23 : decode cX5_oilInLamps 23 = .ok (.istore_n 1, 1) := by decide +kernel
theorem dX5_oilInLamps_24 : decode cX5_oilInLamps 24 = .ok (.iinc 2 1, 3) := by decide +kernel
theorem dX5_oilInLamps_27 : decode cX5_oilInLamps 27 = .ok (.goto (-23), 3) := by decide +kernel
theorem dX5_oilInLamps_30 : decode cX5_oilInLamps 30 = .ok (.iload_n 1, 1) := by decide +kernel
theorem dX5_oilInLamps_31 : decode cX5_oilInLamps 31 = .ok (.ireturn, 1) := by decide +kernel
theorem dX5_minersIn_0 : decode cX5_minersIn 0 = .ok (.iconst 0, 1) := by decide +kernel
theorem dX5_minersIn_1 : decode cX5_minersIn 1 = .ok (.istore_n 2, 1) := by decide +kernel
theorem dX5_minersIn_2 : decode cX5_minersIn 2 = .ok (.iconst 0, 1) := by decide +kernel
theorem dX5_minersIn_3 : decode cX5_minersIn 3 = .ok (.istore_n 3, 1) := by decide +kernel
theorem dX5_minersIn_4 : decode cX5_minersIn 4 = .ok (.iload_n 3, 1) := by decide +kernel
theorem dX5_minersIn_5 : decode cX5_minersIn 5 = .ok (.aload_n 0, 1) := by decide +kernel
theorem dX5_minersIn_6 : decode cX5_minersIn 6 = .ok (.getfield 59, 3) := by decide +kernel
theorem dX5_minersIn_9 : decode cX5_minersIn 9 = .ok (.if_icmp .ge 25, 3) := by decide +kernel
theorem dX5_minersIn_12 : decode cX5_minersIn 12 = .ok (.aload_n 0, 1) := by decide +kernel
theorem dX5_minersIn_13 : decode cX5_minersIn 13 = .ok (.getfield 19, 3) := by decide +kernel
theorem dX5_minersIn_16 : decode cX5_minersIn 16 = .ok (.iload_n 3, 1) := by decide +kernel
theorem dX5_minersIn_17 : decode cX5_minersIn 17 = .ok (.aaload, 1) := by decide +kernel
theorem dX5_minersIn_18 : decode cX5_minersIn 18 = .ok (.getfield 99, 3) := by decide +kernel
theorem dX5_minersIn_21 : decode cX5_minersIn 21 = .ok (.iload_n 1, 1) := by decide +kernel
theorem dX5_minersIn_22 : decode cX5_minersIn 22 = .ok (.if_icmp .ne 6, 3) := by decide +kernel
theorem dX5_minersIn_25 : decode cX5_minersIn 25 = .ok (.iinc 2 1, 3) := by decide +kernel
theorem dX5_minersIn_28 : decode cX5_minersIn 28 = .ok (.iinc 3 1, 3) := by decide +kernel
theorem dX5_minersIn_31 : decode cX5_minersIn 31 = .ok (.goto (-27), 3) := by decide +kernel
theorem dX5_minersIn_34 : decode cX5_minersIn 34 = .ok (.iload_n 2, 1) := by decide +kernel
theorem dX5_minersIn_35 : decode cX5_minersIn 35 = .ok (.ireturn, 1) := by decide +kernel
theorem dX5_lampsIn_0 : decode cX5_lampsIn 0 = .ok (.iconst 0, 1) := by decide +kernel
theorem dX5_lampsIn_1 : decode cX5_lampsIn 1 = .ok (.istore_n 2, 1) := by decide +kernel
theorem dX5_lampsIn_2 : decode cX5_lampsIn 2 = .ok (.iconst 0, 1) := by decide +kernel
theorem dX5_lampsIn_3 : decode cX5_lampsIn 3 = .ok (.istore_n 3, 1) := by decide +kernel
theorem dX5_lampsIn_4 : decode cX5_lampsIn 4 = .ok (.iload_n 3, 1) := by decide +kernel
theorem dX5_lampsIn_5 : decode cX5_lampsIn 5 = .ok (.aload_n 0, 1) := by decide +kernel
theorem dX5_lampsIn_6 : decode cX5_lampsIn 6 = .ok (.getfield 62, 3) := by decide +kernel
theorem dX5_lampsIn_9 : decode cX5_lampsIn 9 = .ok (.if_icmp .ge 25, 3) := by decide +kernel
theorem dX5_lampsIn_12 : decode cX5_lampsIn 12 = .ok (.aload_n 0, 1) := by decide +kernel
theorem dX5_lampsIn_13 : decode cX5_lampsIn 13 = .ok (.getfield 25, 3) := by decide +kernel
theorem dX5_lampsIn_16 : decode cX5_lampsIn 16 = .ok (.iload_n 3, 1) := by decide +kernel
theorem dX5_lampsIn_17 : decode cX5_lampsIn 17 = .ok (.aaload, 1) := by decide +kernel
theorem dX5_lampsIn_18 : decode cX5_lampsIn 18 = .ok (.getfield 102, 3) := by decide +kernel
theorem dX5_lampsIn_21 : decode cX5_lampsIn 21 = .ok (.iload_n 1, 1) := by decide +kernel
theorem dX5_lampsIn_22 : decode cX5_lampsIn 22 = .ok (.if_icmp .ne 6, 3) := by decide +kernel
theorem dX5_lampsIn_25 : decode cX5_lampsIn 25 = .ok (.iinc 2 1, 3) := by decide +kernel
theorem dX5_lampsIn_28 : decode cX5_lampsIn 28 = .ok (.iinc 3 1, 3) := by decide +kernel
theorem dX5_lampsIn_31 : decode cX5_lampsIn 31 = .ok (.goto (-27), 3) := by decide +kernel
theorem dX5_lampsIn_34 : decode cX5_lampsIn 34 = .ok (.iload_n 2, 1) := by decide +kernel
theorem dX5_lampsIn_35 : decode cX5_lampsIn 35 = .ok (.ireturn, 1) := by decide +kernel
theorem dX5_isLit_0 : decode cX5_isLit 0 = .ok (.iconst 0, 1) := by decide +kernel
theorem dX5_isLit_1 : decode cX5_isLit 1 = .ok (.istore_n 3, 1) := by decide +kernel
theorem dX5_isLit_2 : decode cX5_isLit 2 = .ok (.iload_n 3, 1) := by decide +kernel
theorem dX5_isLit_3 : decode cX5_isLit 3 = .ok (.aload_n 0, 1) := by decide +kernel
theorem dX5_isLit_4 : decode cX5_isLit 4 = .ok (.getfield 62, 3) := by decide +kernel
theorem dX5_isLit_7 : decode cX5_isLit 7 = .ok (.if_icmp .ge 25, 3) := by decide +kernel
theorem dX5_isLit_10 : decode cX5_isLit 10 = .ok (.aload_n 0, 1) := by decide +kernel
theorem dX5_isLit_11 : decode cX5_isLit 11 = .ok (.getfield 25, 3) := by decide +kernel
theorem dX5_isLit_14 : decode cX5_isLit 14 = .ok (.iload_n 3, 1) := by decide +kernel
theorem dX5_isLit_15 : decode cX5_isLit 15 = .ok (.aaload, 1) := by decide +kernel
theorem dX5_isLit_16 : decode cX5_isLit 16 = .ok (.iload_n 1, 1) := by decide +kernel
theorem dX5_isLit_17 : decode cX5_isLit 17 = .ok (.iload_n 2, 1) := by decide +kernel
theorem dX5_isLit_18 : decode cX5_isLit 18 = .ok (.invokevirtual 103, 3) := by decide +kernel
theorem dX5_isLit_21 : decode cX5_isLit 21 = .ok (.ifCond .eq 5, 3) := by decide +kernel
theorem dX5_isLit_24 : decode cX5_isLit 24 = .ok (.iconst 1, 1) := by decide +kernel
theorem dX5_isLit_25 : decode cX5_isLit 25 = .ok (.ireturn, 1) := by decide +kernel
theorem dX5_isLit_26 : decode cX5_isLit 26 = .ok (.iinc 3 1, 3) := by decide +kernel
theorem dX5_isLit_29 : decode cX5_isLit 29 = .ok (.goto (-27), 3) := by decide +kernel
theorem dX5_isLit_32 : decode cX5_isLit 32 = .ok (.iconst 0, 1) := by decide +kernel
theorem dX5_isLit_33 : decode cX5_isLit 33 = .ok (.ireturn, 1) := by decide +kernel
theorem dX5_litCellByCell_0 : decode cX5_litCellByCell 0 = .ok (.aload_n 0, 1) := by decide +kernel
theorem dX5_litCellByCell_1 : decode cX5_litCellByCell 1 = .ok (.iload_n 1, 1) := by decide +kernel
theorem dX5_litCellByCell_2 : decode cX5_litCellByCell 2 = .ok (.invokevirtual 89, 3) := by decide +kernel
theorem dX5_litCellByCell_5 : decode cX5_litCellByCell 5 = .ok (.ifCond .eq 15, 3) := by decide +kernel
theorem dX5_litCellByCell_8 : decode cX5_litCellByCell 8 = .ok (.aload_n 0, 1) := by decide +kernel
theorem dX5_litCellByCell_9 : decode cX5_litCellByCell 9 = .ok (.getfield 11, 3) := by decide +kernel
theorem dX5_litCellByCell_12 : decode cX5_litCellByCell 12 = .ok (.iload_n 1, 1) := by decide +kernel
theorem dX5_litCellByCell_13 : decode cX5_litCellByCell 13 = .ok (.aaload, 1) := by decide +kernel
theorem dX5_litCellByCell_14 : decode cX5_litCellByCell 14 = .ok (.getfield 93, 3) := by decide +kernel
theorem dX5_litCellByCell_17 : decode cX5_litCellByCell 17 = .ok (.goto 4, 3) := by decide +kernel
theorem dX5_litCellByCell_20 : decode cX5_litCellByCell 20 = .ok (.iconst 0, 1) := by decide +kernel
theorem dX5_litCellByCell_21 : decode cX5_litCellByCell 21 = .ok (.istore_n 2, 1) := by decide +kernel
theorem dX5_litCellByCell_22 : decode cX5_litCellByCell 22 = .ok (.iconst 0, 1) := by decide +kernel
theorem dX5_litCellByCell_23 : decode cX5_litCellByCell 23 = .ok (.istore_n 3, 1) := by decide +kernel
theorem dX5_litCellByCell_24 : decode cX5_litCellByCell 24 = .ok (.iconst 0, 1) := by decide +kernel
theorem dX5_litCellByCell_25 : decode cX5_litCellByCell 25 = .ok (.istore 4, 2) := by decide +kernel
theorem dX5_litCellByCell_27 : decode cX5_litCellByCell 27 = .ok (.iload 4, 2) := by decide +kernel
theorem dX5_litCellByCell_29 : decode cX5_litCellByCell 29 = .ok (.iload_n 2, 1) := by decide +kernel
theorem dX5_litCellByCell_30 : decode cX5_litCellByCell 30 = .ok (.if_icmp .ge 22, 3) := by decide +kernel
theorem dX5_litCellByCell_33 : decode cX5_litCellByCell 33 = .ok (.aload_n 0, 1) := by decide +kernel
theorem dX5_litCellByCell_34 : decode cX5_litCellByCell 34 = .ok (.iload_n 1, 1) := by decide +kernel
theorem dX5_litCellByCell_35 : decode cX5_litCellByCell 35 = .ok (.iload 4, 2) := by decide +kernel
theorem dX5_litCellByCell_37 : decode cX5_litCellByCell 37 = .ok (.invokevirtual 107, 3) := by decide +kernel
theorem dX5_litCellByCell_40 : decode cX5_litCellByCell 40 = .ok (.ifCond .eq 6, 3) := by decide +kernel
theorem dX5_litCellByCell_43 : decode cX5_litCellByCell 43 = .ok (.iinc 3 1, 3) := by decide +kernel
theorem dX5_litCellByCell_46 : decode cX5_litCellByCell 46 = .ok (.iinc 4 1, 3) := by decide +kernel
theorem dX5_litCellByCell_49 : decode cX5_litCellByCell 49 = .ok (.goto (-22), 3) := by decide +kernel
theorem dX5_litCellByCell_52 : decode cX5_litCellByCell 52 = .ok (.iload_n 3, 1) := by decide +kernel
theorem dX5_litCellByCell_53 : decode cX5_litCellByCell 53 = .ok (.ireturn, 1) := by decide +kernel
theorem dX5_litBySpans_0 : decode cX5_litBySpans 0 = .ok (.aload_n 0, 1) := by decide +kernel
theorem dX5_litBySpans_1 : decode cX5_litBySpans 1 = .ok (.iload_n 1, 1) := by decide +kernel
theorem dX5_litBySpans_2 : decode cX5_litBySpans 2 = .ok (.invokevirtual 89, 3) := by decide +kernel
theorem dX5_litBySpans_5 : decode cX5_litBySpans 5 = .ok (.ifCond .eq 15, 3) := by decide +kernel
theorem dX5_litBySpans_8 : decode cX5_litBySpans 8 = .ok (.aload_n 0, 1) := by decide +kernel
theorem dX5_litBySpans_9 : decode cX5_litBySpans 9 = .ok (.getfield 11, 3) := by decide +kernel
theorem dX5_litBySpans_12 : decode cX5_litBySpans 12 = .ok (.iload_n 1, 1) := by decide +kernel
theorem dX5_litBySpans_13 : decode cX5_litBySpans 13 = .ok (.aaload, 1) := by decide +kernel
theorem dX5_litBySpans_14 : decode cX5_litBySpans 14 = .ok (.getfield 93, 3) := by decide +kernel
theorem dX5_litBySpans_17 : decode cX5_litBySpans 17 = .ok (.goto 4, 3) := by decide +kernel
theorem dX5_litBySpans_20 : decode cX5_litBySpans 20 = .ok (.iconst 0, 1) := by decide +kernel
theorem dX5_litBySpans_21 : decode cX5_litBySpans 21 = .ok (.istore_n 2, 1) := by decide +kernel
theorem dX5_litBySpans_22 : decode cX5_litBySpans 22 = .ok (.iconst 0, 1) := by decide +kernel
theorem dX5_litBySpans_23 : decode cX5_litBySpans 23 = .ok (.istore_n 3, 1) := by decide +kernel
theorem dX5_litBySpans_24 : decode cX5_litBySpans 24 = .ok (.iconst 0, 1) := by decide +kernel
theorem dX5_litBySpans_25 : decode cX5_litBySpans 25 = .ok (.istore 4, 2) := by decide +kernel
theorem dX5_litBySpans_27 : decode cX5_litBySpans 27 = .ok (.iconst 0, 1) := by decide +kernel
theorem dX5_litBySpans_28 : decode cX5_litBySpans 28 = .ok (.istore 5, 2) := by decide +kernel
theorem dX5_litBySpans_30 : decode cX5_litBySpans 30 = .ok (.iload 5, 2) := by decide +kernel
theorem dX5_litBySpans_32 : decode cX5_litBySpans 32 = .ok (.aload_n 0, 1) := by decide +kernel
theorem dX5_litBySpans_33 : decode cX5_litBySpans 33 = .ok (.getfield 62, 3) := by decide +kernel
theorem dX5_litBySpans_36 : decode cX5_litBySpans 36 = .ok (.if_icmp .ge 138, 3) := by decide +kernel
theorem dX5_litBySpans_39 : decode cX5_litBySpans 39 = .ok (.iload_n 2, 1) := by decide +kernel
theorem dX5_litBySpans_40 : decode cX5_litBySpans 40 = .ok (.istore 6, 2) := by decide +kernel
theorem dX5_litBySpans_42 : decode cX5_litBySpans 42 = .ok (.iload_n 2, 1) := by decide +kernel
theorem dX5_litBySpans_43 : decode cX5_litBySpans 43 = .ok (.istore 7, 2) := by decide +kernel
theorem dX5_litBySpans_45 : decode cX5_litBySpans 45 = .ok (.iconst 0, 1) := by decide +kernel
theorem dX5_litBySpans_46 : decode cX5_litBySpans 46 = .ok (.istore 8, 2) := by decide +kernel
theorem dX5_litBySpans_48 : decode cX5_litBySpans 48 = .ok (.iload 8, 2) := by decide +kernel
theorem dX5_litBySpans_50 : decode cX5_litBySpans 50 = .ok (.aload_n 0, 1) := by decide +kernel
theorem dX5_litBySpans_51 : decode cX5_litBySpans 51 = .ok (.getfield 62, 3) := by decide +kernel
theorem dX5_litBySpans_54 : decode cX5_litBySpans 54 = .ok (.if_icmp .ge 102, 3) := by decide +kernel
theorem dX5_litBySpans_57 : decode cX5_litBySpans 57 = .ok (.iload 4, 2) := by decide +kernel
theorem dX5_litBySpans_59 : decode cX5_litBySpans 59 = .ok (.aload_n 0, 1) := by decide +kernel
theorem dX5_litBySpans_60 : decode cX5_litBySpans 60 = .ok (.getfield 25, 3) := by decide +kernel
theorem dX5_litBySpans_63 : decode cX5_litBySpans 63 = .ok (.iload 8, 2) := by decide +kernel
theorem dX5_litBySpans_65 : decode cX5_litBySpans 65 = .ok (.aaload, 1) := by decide +kernel
theorem dX5_litBySpans_66 : decode cX5_litBySpans 66 = .ok (.getfield 110, 3) := by decide +kernel
theorem dX5_litBySpans_69 : decode cX5_litBySpans 69 = .ok (.aload_n 0, 1) := by decide +kernel
theorem dX5_litBySpans_70 : decode cX5_litBySpans 70 = .ok (.getfield 25, 3) := by decide +kernel
theorem dX5_litBySpans_73 : decode cX5_litBySpans 73 = .ok (.iload 8, 2) := by decide +kernel
theorem dX5_litBySpans_75 : decode cX5_litBySpans 75 = .ok (.aaload, 1) := by decide +kernel
theorem dX5_litBySpans_76 : decode cX5_litBySpans 76 = .ok (.getfield 113, 3) := by decide +kernel
theorem dX5_litBySpans_79 : decode cX5_litBySpans 79 = .ok (.isub, 1) := by decide +kernel
theorem dX5_litBySpans_80 : decode cX5_litBySpans 80 = .ok (.invokestatic 116, 3) := by decide +kernel
theorem dX5_litBySpans_83 : decode cX5_litBySpans 83 = .ok (.istore 9, 2) := by decide +kernel
theorem dX5_litBySpans_85 : decode cX5_litBySpans 85 = .ok (.iload_n 2, 1) := by decide +kernel
theorem dX5_litBySpans_86 : decode cX5_litBySpans 86 = .ok (.aload_n 0, 1) := by decide +kernel
theorem dX5_litBySpans_87 : decode cX5_litBySpans 87 = .ok (.getfield 25, 3) := by decide +kernel
theorem dX5_litBySpans_90 : decode cX5_litBySpans 90 = .ok (.iload 8, 2) := by decide +kernel
theorem dX5_litBySpans_92 : decode cX5_litBySpans 92 = .ok (.aaload, 1) := by decide +kernel
theorem dX5_litBySpans_93 : decode cX5_litBySpans 93 = .ok (.getfield 110, 3) := by decide +kernel
theorem dX5_litBySpans_96 : decode cX5_litBySpans 96 = .ok (.aload_n 0, 1) := by decide +kernel
theorem dX5_litBySpans_97 : decode cX5_litBySpans 97 = .ok (.getfield 25, 3) := by decide +kernel
theorem dX5_litBySpans_100 : decode cX5_litBySpans 100 = .ok (.iload 8, 2) := by decide +kernel
theorem dX5_litBySpans_102 : decode cX5_litBySpans 102 = .ok (.aaload, 1) := by decide +kernel
theorem dX5_litBySpans_103 : decode cX5_litBySpans 103 = .ok (.getfield 113, 3) := by decide +kernel
theorem dX5_litBySpans_106 : decode cX5_litBySpans 106 = .ok (.iadd, 1) := by decide +kernel
theorem dX5_litBySpans_107 : decode cX5_litBySpans 107 = .ok (.iconst 1, 1) := by decide +kernel
theorem dX5_litBySpans_108 : decode cX5_litBySpans 108 = .ok (.iadd, 1) := by decide +kernel
theorem dX5_litBySpans_109 : decode cX5_litBySpans 109 = .ok (.invokestatic 122, 3) := by decide +kernel
theorem dX5_litBySpans_112 : decode cX5_litBySpans 112 = .ok (.istore 10, 2) := by decide +kernel
theorem dX5_litBySpans_114 : decode cX5_litBySpans 114 = .ok (.aload_n 0, 1) := by decide +kernel
theorem dX5_litBySpans_115 : decode cX5_litBySpans 115 = .ok (.getfield 25, 3) := by decide +kernel
theorem dX5_litBySpans_118 : decode cX5_litBySpans 118 = .ok (.iload 8, 2) := by decide +kernel
theorem dX5_litBySpans_120 : decode cX5_litBySpans 120 = .ok (.aaload, 1) := by decide +kernel
theorem dX5_litBySpans_121 : decode cX5_litBySpans 121 = .ok (.iload_n 1, 1) := by decide +kernel
theorem dX5_litBySpans_122 : decode cX5_litBySpans 122 = .ok (.invokevirtual 125, 3) := by decide +kernel
theorem dX5_litBySpans_125 : decode cX5_litBySpans 125 = .ok (.ifCond .eq 25, 3) := by decide +kernel
theorem dX5_litBySpans_128 : decode cX5_litBySpans 128 = .ok (.iload 9, 2) := by decide +kernel
theorem dX5_litBySpans_130 : decode cX5_litBySpans 130 = .ok (.iload 10, 2) := by decide +kernel
theorem dX5_litBySpans_132 : decode cX5_litBySpans 132 = .ok (.if_icmp .ge 18, 3) := by decide +kernel
theorem dX5_litBySpans_135 : decode cX5_litBySpans 135 = .ok (.iload 9, 2) := by decide +kernel
theorem dX5_litBySpans_137 : decode cX5_litBySpans 137 = .ok (.iload 6, 2) := by decide +kernel
theorem dX5_litBySpans_139 : decode cX5_litBySpans 139 = .ok (.if_icmp .ge 11, 3) := by decide +kernel
theorem dX5_litBySpans_142 : decode cX5_litBySpans 142 = .ok (.iload 9, 2) := by decide +kernel
theorem dX5_litBySpans_144 : decode cX5_litBySpans 144 = .ok (.istore 6, 2) := by decide +kernel
theorem dX5_litBySpans_146 : decode cX5_litBySpans 146 = .ok (.iload 10, 2) := by decide +kernel
theorem dX5_litBySpans_148 : decode cX5_litBySpans 148 = .ok (.istore 7, 2) := by decide +kernel
theorem dX5_litBySpans_150 : decode cX5_litBySpans 150 = .ok (.iinc 8 1, 3) := by decide +kernel
theorem dX5_litBySpans_153 : decode cX5_litBySpans 153 = .ok (.goto (-105), 3) := by decide +kernel
theorem dX5_litBySpans_156 : decode cX5_litBySpans 156 = .ok (.iload_n 3, 1) := by decide +kernel
theorem dX5_litBySpans_157 : decode cX5_litBySpans 157 = .ok (.iload 7, 2) := by decide +kernel
theorem dX5_litBySpans_159 : decode cX5_litBySpans 159 = .ok (.iload 6, 2) := by decide +kernel
theorem dX5_litBySpans_161 : decode cX5_litBySpans 161 = .ok (.isub, 1) := by decide +kernel
theorem dX5_litBySpans_162 : decode cX5_litBySpans 162 = .ok (.iadd, 1) := by decide +kernel
theorem dX5_litBySpans_163 : decode cX5_litBySpans 163 = .ok (.istore_n 3, 1) := by decide +kernel
theorem dX5_litBySpans_164 : decode cX5_litBySpans 164 = .ok (.iload 7, 2) := by decide +kernel
theorem dX5_litBySpans_166 : decode cX5_litBySpans 166 = .ok (.istore 4, 2) := by decide +kernel
theorem dX5_litBySpans_168 : decode cX5_litBySpans 168 = .ok (.iinc 5 1, 3) := by decide +kernel
theorem dX5_litBySpans_171 : decode cX5_litBySpans 171 = .ok (.goto (-141), 3) := by decide +kernel
theorem dX5_litBySpans_174 : decode cX5_litBySpans 174 = .ok (.iload_n 3, 1) := by decide +kernel
theorem dX5_litBySpans_175 : decode cX5_litBySpans 175 = .ok (.ireturn, 1) := by decide +kernel
theorem dX5_attempt_0 : decode cX5_attempt 0 = .ok (.aload_n 0, 1) := by decide +kernel
theorem dX5_attempt_1 : decode cX5_attempt 1 = .ok (.aload_n 1, 1) := by decide +kernel
theorem dX5_attempt_2 : decode cX5_attempt 2 = .ok (.invokevirtual 128, 3) := by decide +kernel
theorem dX5_attempt_5 : decode cX5_attempt 5 = .ok (.ifCond .eq 5, 3) := by decide +kernel
theorem dX5_attempt_8 : decode cX5_attempt 8 = .ok (.iconst 0, 1) := by decide +kernel
theorem dX5_attempt_9 : decode cX5_attempt 9 = .ok (.ireturn, 1) := by decide +kernel
theorem dX5_attempt_10 : decode cX5_attempt 10 = .ok (.aload_n 0, 1) := by decide +kernel
theorem dX5_attempt_11 : decode cX5_attempt 11 = .ok (.aload_n 1, 1) := by decide +kernel
theorem dX5_attempt_12 : decode cX5_attempt 12 = .ok (.invokevirtual 132, 3) := by decide +kernel
theorem dX5_attempt_15 : decode cX5_attempt 15 = .ok (.pop, 1) := by decide +kernel
theorem dX5_attempt_16 : decode cX5_attempt 16 = .ok (.iconst 1, 1) := by decide +kernel
theorem dX5_attempt_17 : decode cX5_attempt 17 = .ok (.ireturn, 1) := by decide +kernel
theorem dX5_refusal_0 : decode cX5_refusal 0 = .ok (.aload_n 1, 1) := by decide +kernel
theorem dX5_refusal_1 : decode cX5_refusal 1 = .ok (.getfield 135, 3) := by decide +kernel
theorem dX5_refusal_4 : decode cX5_refusal 4 = .ok (.tableswitch 372 1 9 #[52, 80, 115, 148, 209, 245, 288, 317, 355], 52) := by decide +kernel
theorem dX5_refusal_56 : decode cX5_refusal 56 = .ok (.iconst 1, 1) := by decide +kernel
theorem dX5_refusal_57 : decode cX5_refusal 57 = .ok (.aload_n 1, 1) := by decide +kernel
theorem dX5_refusal_58 : decode cX5_refusal 58 = .ok (.getfield 140, 3) := by decide +kernel
theorem dX5_refusal_61 : decode cX5_refusal 61 = .ok (.iconst 1, 1) := by decide +kernel
theorem dX5_refusal_62 : decode cX5_refusal 62 = .ok (.bipush 60, 2) := by decide +kernel
theorem dX5_refusal_64 : decode cX5_refusal 64 = .ok (.invokestatic 143, 3) := by decide +kernel
theorem dX5_refusal_67 : decode cX5_refusal 67 = .ok (.aload_n 0, 1) := by decide +kernel
theorem dX5_refusal_68 : decode cX5_refusal 68 = .ok (.getfield 56, 3) := by decide +kernel
theorem dX5_refusal_71 : decode cX5_refusal 71 = .ok (.iconst 3, 1) := by decide +kernel
theorem dX5_refusal_72 : decode cX5_refusal 72 = .ok (.if_icmp .ge 7, 3) := by decide +kernel
theorem dX5_refusal_75 : decode cX5_refusal 75 = .ok (.iconst 1, 1) := by decide +kernel
theorem dX5_refusal_76 : decode cX5_refusal 76 = .ok (.goto 4, 3) := by decide +kernel
theorem dX5_refusal_79 : decode cX5_refusal 79 = .ok (.iconst 0, 1) := by decide +kernel
theorem dX5_refusal_80 : decode cX5_refusal 80 = .ok (.invokestatic 147, 3) := by decide +kernel
theorem dX5_refusal_83 : decode cX5_refusal 83 = .ok (.ireturn, 1) := by decide +kernel
theorem dX5_refusal_84 : decode cX5_refusal 84 = .ok (.aload_n 0, 1) := by decide +kernel
theorem dX5_refusal_85 : decode cX5_refusal 85 = .ok (.aload_n 1, 1) := by decide +kernel
theorem dX5_refusal_86 : decode cX5_refusal 86 = .ok (.getfield 140, 3) := by decide +kernel
theorem dX5_refusal_89 : decode cX5_refusal 89 = .ok (.invokevirtual 89, 3) := by decide +kernel
theorem dX5_refusal_92 : decode cX5_refusal 92 = .ok (.aload_n 1, 1) := by decide +kernel
theorem dX5_refusal_93 : decode cX5_refusal 93 = .ok (.getfield 151, 3) := by decide +kernel
theorem dX5_refusal_96 : decode cX5_refusal 96 = .ok (.iconst 1, 1) := by decide +kernel
theorem dX5_refusal_97 : decode cX5_refusal 97 = .ok (.iconst 5, 1) := by decide +kernel
theorem dX5_refusal_98 : decode cX5_refusal 98 = .ok (.invokestatic 143, 3) := by decide +kernel
theorem dX5_refusal_101 : decode cX5_refusal 101 = .ok (.aload_n 0, 1) := by decide +kernel
theorem dX5_refusal_102 : decode cX5_refusal 102 = .ok (.getfield 59, 3) := by decide +kernel
theorem dX5_refusal_105 : decode cX5_refusal 105 = .ok (.bipush 6, 2) := by decide +kernel
theorem dX5_refusal_107 : decode cX5_refusal 107 = .ok (.if_icmp .ge 7, 3) := by decide +kernel
theorem dX5_refusal_110 : decode cX5_refusal 110 = .ok (.iconst 1, 1) := by decide +kernel
theorem dX5_refusal_111 : decode cX5_refusal 111 = .ok (.goto 4, 3) := by decide +kernel
theorem dX5_refusal_114 : decode cX5_refusal 114 = .ok (.iconst 0, 1) := by decide +kernel
theorem dX5_refusal_115 : decode cX5_refusal 115 = .ok (.invokestatic 147, 3) := by decide +kernel
theorem dX5_refusal_118 : decode cX5_refusal 118 = .ok (.ireturn, 1) := by decide +kernel
theorem dX5_refusal_119 : decode cX5_refusal 119 = .ok (.aload_n 0, 1) := by decide +kernel
theorem dX5_refusal_120 : decode cX5_refusal 120 = .ok (.aload_n 1, 1) := by decide +kernel
theorem dX5_refusal_121 : decode cX5_refusal 121 = .ok (.getfield 140, 3) := by decide +kernel
theorem dX5_refusal_124 : decode cX5_refusal 124 = .ok (.invokevirtual 154, 3) := by decide +kernel
theorem dX5_refusal_127 : decode cX5_refusal 127 = .ok (.ifCond .eq 18, 3) := by decide +kernel
theorem dX5_refusal_130 : decode cX5_refusal 130 = .ok (.aload_n 0, 1) := by decide +kernel
theorem dX5_refusal_131 : decode cX5_refusal 131 = .ok (.aload_n 1, 1) := by decide +kernel
theorem dX5_refusal_132 : decode cX5_refusal 132 = .ok (.getfield 151, 3) := by decide +kernel
theorem dX5_refusal_135 : decode cX5_refusal 135 = .ok (.invokevirtual 89, 3) := by decide +kernel
theorem dX5_refusal_138 : decode cX5_refusal 138 = .ok (.ifCond .eq 7, 3) := by decide +kernel
theorem dX5_refusal_141 : decode cX5_refusal 141 = .ok (.iconst 1, 1) := by decide +kernel
theorem dX5_refusal_142 : decode cX5_refusal 142 = .ok (.goto 4, 3) := by decide +kernel
theorem dX5_refusal_145 : decode cX5_refusal 145 = .ok (.iconst 0, 1) := by decide +kernel
theorem dX5_refusal_146 : decode cX5_refusal 146 = .ok (.iconst 1, 1) := by decide +kernel
theorem dX5_refusal_147 : decode cX5_refusal 147 = .ok (.iconst 1, 1) := by decide +kernel
theorem dX5_refusal_148 : decode cX5_refusal 148 = .ok (.invokestatic 147, 3) := by decide +kernel
theorem dX5_refusal_151 : decode cX5_refusal 151 = .ok (.ireturn, 1) := by decide +kernel
theorem dX5_refusal_152 : decode cX5_refusal 152 = .ok (.aload_n 0, 1) := by decide +kernel
theorem dX5_refusal_153 : decode cX5_refusal 153 = .ok (.aload_n 1, 1) := by decide +kernel
theorem dX5_refusal_154 : decode cX5_refusal 154 = .ok (.getfield 140, 3) := by decide +kernel
theorem dX5_refusal_157 : decode cX5_refusal 157 = .ok (.aload_n 1, 1) := by decide +kernel
theorem dX5_refusal_158 : decode cX5_refusal 158 = .ok (.getfield 151, 3) := by decide +kernel
theorem dX5_refusal_161 : decode cX5_refusal 161 = .ok (.invokevirtual 157, 3) := by decide +kernel
theorem dX5_refusal_164 : decode cX5_refusal 164 = .ok (.aload_n 1, 1) := by decide +kernel
theorem dX5_refusal_165 : decode cX5_refusal 165 = .ok (.getfield 160, 3) := by decide +kernel
theorem dX5_refusal_168 : decode cX5_refusal 168 = .ok (.iconst 1, 1) := by decide +kernel
theorem dX5_refusal_169 : decode cX5_refusal 169 = .ok (.bipush 9, 2) := by decide +kernel
theorem dX5_refusal_171 : decode cX5_refusal 171 = .ok (.invokestatic 143, 3) := by decide +kernel
theorem dX5_refusal_174 : decode cX5_refusal 174 = .ok (.ifCond .eq 20, 3) := by decide +kernel
theorem dX5_refusal_177 : decode cX5_refusal 177 = .ok (.aload_n 1, 1) := by decide +kernel
theorem dX5_refusal_178 : decode cX5_refusal 178 = .ok (.getfield 163, 3) := by decide +kernel
theorem dX5_refusal_181 : decode cX5_refusal 181 = .ok (.iconst 0, 1) := by decide +kernel
theorem dX5_refusal_182 : decode cX5_refusal 182 = .ok (.bipush 99, 2) := by decide +kernel
theorem dX5_refusal_184 : decode cX5_refusal 184 = .ok (.invokestatic 143, 3) := by decide +kernel
theorem dX5_refusal_187 : decode cX5_refusal 187 = .ok (.ifCond .eq 7, 3) := by decide +kernel
theorem dX5_refusal_190 : decode cX5_refusal 190 = .ok (.iconst 1, 1) := by decide +kernel
theorem dX5_refusal_191 : decode cX5_refusal 191 = .ok (.goto 4, 3) := by decide +kernel
theorem dX5_refusal_194 : decode cX5_refusal 194 = .ok (.iconst 0, 1) := by decide +kernel
theorem dX5_refusal_195 : decode cX5_refusal 195 = .ok (.aload_n 0, 1) := by decide +kernel
theorem dX5_refusal_196 : decode cX5_refusal 196 = .ok (.getfield 62, 3) := by decide +kernel
theorem dX5_refusal_199 : decode cX5_refusal 199 = .ok (.bipush 8, 2) := by decide +kernel
theorem dX5_refusal_201 : decode cX5_refusal 201 = .ok (.if_icmp .ge 7, 3) := by decide +kernel
theorem dX5_refusal_204 : decode cX5_refusal 204 = .ok (.iconst 1, 1) := by decide +kernel
theorem dX5_refusal_205 : decode cX5_refusal 205 = .ok (.goto 4, 3) := by decide +kernel
theorem dX5_refusal_208 : decode cX5_refusal 208 = .ok (.iconst 0, 1) := by decide +kernel
theorem dX5_refusal_209 : decode cX5_refusal 209 = .ok (.invokestatic 147, 3) := by decide +kernel
theorem dX5_refusal_212 : decode cX5_refusal 212 = .ok (.ireturn, 1) := by decide +kernel
theorem dX5_refusal_213 : decode cX5_refusal 213 = .ok (.iconst 1, 1) := by decide +kernel
theorem dX5_refusal_214 : decode cX5_refusal 214 = .ok (.aload_n 1, 1) := by decide +kernel
theorem dX5_refusal_215 : decode cX5_refusal 215 = .ok (.getfield 140, 3) := by decide +kernel
theorem dX5_refusal_218 : decode cX5_refusal 218 = .ok (.iconst 0, 1) := by decide +kernel
theorem dX5_refusal_219 : decode cX5_refusal 219 = .ok (.sipush 999, 3) := by decide +kernel
theorem dX5_refusal_222 : decode cX5_refusal 222 = .ok (.invokestatic 143, 3) := by decide +kernel
theorem dX5_refusal_225 : decode cX5_refusal 225 = .ok (.aload_n 1, 1) := by decide +kernel
theorem dX5_refusal_226 : decode cX5_refusal 226 = .ok (.getfield 140, 3) := by decide +kernel
theorem dX5_refusal_229 : decode cX5_refusal 229 = .ok (.sipush 9999, 3) := by decide +kernel
theorem dX5_refusal_232 : decode cX5_refusal 232 = .ok (.aload_n 0, 1) := by decide +kernel
theorem dX5_refusal_233 : decode cX5_refusal 233 = .ok (.getfield 68, 3) := by decide +kernel
theorem dX5_refusal_236 : decode cX5_refusal 236 = .ok (.isub, 1) := by decide +kernel
theorem dX5_refusal_237 : decode cX5_refusal 237 = .ok (.if_icmp .gt 7, 3) := by decide +kernel
theorem dX5_refusal_240 : decode cX5_refusal 240 = .ok (.iconst 1, 1) := by decide +kernel
theorem dX5_refusal_241 : decode cX5_refusal 241 = .ok (.goto 4, 3) := by decide +kernel
theorem dX5_refusal_244 : decode cX5_refusal 244 = .ok (.iconst 0, 1) := by decide +kernel
theorem dX5_refusal_245 : decode cX5_refusal 245 = .ok (.invokestatic 147, 3) := by decide +kernel
theorem dX5_refusal_248 : decode cX5_refusal 248 = .ok (.ireturn, 1) := by decide +kernel
theorem dX5_refusal_249 : decode cX5_refusal 249 = .ok (.aload_n 0, 1) := by decide +kernel
theorem dX5_refusal_250 : decode cX5_refusal 250 = .ok (.aload_n 1, 1) := by decide +kernel
theorem dX5_refusal_251 : decode cX5_refusal 251 = .ok (.getfield 140, 3) := by decide +kernel
theorem dX5_refusal_254 : decode cX5_refusal 254 = .ok (.invokevirtual 166, 3) := by decide +kernel
theorem dX5_refusal_257 : decode cX5_refusal 257 = .ok (.ifCond .eq 22, 3) := by decide +kernel
theorem dX5_refusal_260 : decode cX5_refusal 260 = .ok (.aload_n 0, 1) := by decide +kernel
theorem dX5_refusal_261 : decode cX5_refusal 261 = .ok (.aload_n 1, 1) := by decide +kernel
theorem dX5_refusal_262 : decode cX5_refusal 262 = .ok (.getfield 151, 3) := by decide +kernel
theorem dX5_refusal_265 : decode cX5_refusal 265 = .ok (.aload_n 1, 1) := by decide +kernel
theorem dX5_refusal_266 : decode cX5_refusal 266 = .ok (.getfield 160, 3) := by decide +kernel
theorem dX5_refusal_269 : decode cX5_refusal 269 = .ok (.invokevirtual 157, 3) := by decide +kernel
theorem dX5_refusal_272 : decode cX5_refusal 272 = .ok (.ifCond .eq 7, 3) := by decide +kernel
theorem dX5_refusal_275 : decode cX5_refusal 275 = .ok (.iconst 1, 1) := by decide +kernel
theorem dX5_refusal_276 : decode cX5_refusal 276 = .ok (.goto 4, 3) := by decide +kernel
theorem dX5_refusal_279 : decode cX5_refusal 279 = .ok (.iconst 0, 1) := by decide +kernel
theorem dX5_refusal_280 : decode cX5_refusal 280 = .ok (.iconst 1, 1) := by decide +kernel
theorem dX5_refusal_281 : decode cX5_refusal 281 = .ok (.aload_n 0, 1) := by decide +kernel
theorem dX5_refusal_282 : decode cX5_refusal 282 = .ok (.getfield 32, 3) := by decide +kernel
theorem dX5_refusal_285 : decode cX5_refusal 285 = .ok (.invokevirtual 169, 3) := by decide +kernel
theorem dX5_refusal_288 : decode cX5_refusal 288 = .ok (.invokestatic 147, 3) := by decide +kernel
theorem dX5_refusal_291 : decode cX5_refusal 291 = .ok (.ireturn, 1) := by decide +kernel
theorem dX5_refusal_292 : decode cX5_refusal 292 = .ok (.aload_n 0, 1) := by decide +kernel
theorem dX5_refusal_293 : decode cX5_refusal 293 = .ok (.aload_n 1, 1) := by decide +kernel
theorem dX5_refusal_294 : decode cX5_refusal 294 = .ok (.getfield 140, 3) := by decide +kernel
theorem dX5_refusal_297 : decode cX5_refusal 297 = .ok (.invokevirtual 166, 3) := by decide +kernel
theorem dX5_refusal_300 : decode cX5_refusal 300 = .ok (.aload_n 1, 1) := by decide +kernel
theorem dX5_refusal_301 : decode cX5_refusal 301 = .ok (.getfield 151, 3) := by decide +kernel
theorem dX5_refusal_304 : decode cX5_refusal 304 = .ok (.iconst 1, 1) := by decide +kernel
theorem dX5_refusal_305 : decode cX5_refusal 305 = .ok (.bipush 99, 2) := by decide +kernel
theorem dX5_refusal_307 : decode cX5_refusal 307 = .ok (.invokestatic 143, 3) := by decide +kernel
theorem dX5_refusal_310 : decode cX5_refusal 310 = .ok (.aload_n 0, 1) := by decide +kernel
theorem dX5_refusal_311 : decode cX5_refusal 311 = .ok (.getfield 32, 3) := by decide +kernel
theorem dX5_refusal_314 : decode cX5_refusal 314 = .ok (.invokevirtual 169, 3) := by decide +kernel
theorem dX5_refusal_317 : decode cX5_refusal 317 = .ok (.invokestatic 147, 3) := by decide +kernel
theorem dX5_refusal_320 : decode cX5_refusal 320 = .ok (.ireturn, 1) := by decide +kernel
theorem dX5_refusal_321 : decode cX5_refusal 321 = .ok (.aload_n 0, 1) := by decide +kernel
theorem dX5_refusal_322 : decode cX5_refusal 322 = .ok (.getfield 32, 3) := by decide +kernel
theorem dX5_refusal_325 : decode cX5_refusal 325 = .ok (.aload_n 1, 1) := by decide +kernel
theorem dX5_refusal_326 : decode cX5_refusal 326 = .ok (.getfield 140, 3) := by decide +kernel
theorem dX5_refusal_329 : decode cX5_refusal 329 = .ok (.invokevirtual 173, 3) := by decide +kernel
theorem dX5_refusal_332 : decode cX5_refusal 332 = .ok (.iconst 1, 1) := by decide +kernel
theorem dX5_refusal_333 : decode cX5_refusal 333 = .ok (.aload_n 1, 1) := by decide +kernel
theorem dX5_refusal_334 : decode cX5_refusal 334 = .ok (.getfield 140, 3) := by decide +kernel
theorem dX5_refusal_337 : decode cX5_refusal 337 = .ok (.ifCond .ne 13, 3) := by decide +kernel
theorem dX5_refusal_340 : decode cX5_refusal 340 = .ok (.aload_n 0, 1) := by decide +kernel
theorem dX5_refusal_341 : decode cX5_refusal 341 = .ok (.getfield 32, 3) := by decide +kernel
theorem dX5_refusal_344 : decode cX5_refusal 344 = .ok (.invokevirtual 176, 3) := by decide +kernel
theorem dX5_refusal_347 : decode cX5_refusal 347 = .ok (.ifCond .eq 7, 3) := by decide +kernel
theorem dX5_refusal_350 : decode cX5_refusal 350 = .ok (.iconst 1, 1) := by decide +kernel
theorem dX5_refusal_351 : decode cX5_refusal 351 = .ok (.goto 4, 3) := by decide +kernel
theorem dX5_refusal_354 : decode cX5_refusal 354 = .ok (.iconst 0, 1) := by decide +kernel
theorem dX5_refusal_355 : decode cX5_refusal 355 = .ok (.invokestatic 147, 3) := by decide +kernel
theorem dX5_refusal_358 : decode cX5_refusal 358 = .ok (.ireturn, 1) := by decide +kernel
theorem dX5_refusal_359 : decode cX5_refusal 359 = .ok (.iconst 1, 1) := by decide +kernel
theorem dX5_refusal_360 : decode cX5_refusal 360 = .ok (.aload_n 1, 1) := by decide +kernel
theorem dX5_refusal_361 : decode cX5_refusal 361 = .ok (.getfield 140, 3) := by decide +kernel
theorem dX5_refusal_364 : decode cX5_refusal 364 = .ok (.aload_n 1, 1) := by decide +kernel
theorem dX5_refusal_365 : decode cX5_refusal 365 = .ok (.getfield 151, 3) := by decide +kernel
theorem dX5_refusal_368 : decode cX5_refusal 368 = .ok (.invokestatic 179, 3) := by decide +kernel
theorem dX5_refusal_371 : decode cX5_refusal 371 = .ok (.iconst 1, 1) := by decide +kernel
theorem dX5_refusal_372 : decode cX5_refusal 372 = .ok (.invokestatic 147, 3) := by decide +kernel
theorem dX5_refusal_375 : decode cX5_refusal 375 = .ok (.ireturn, 1) := by decide +kernel
theorem dX5_refusal_376 : decode cX5_refusal 376 = .ok (.iconst 1, 1) := by decide +kernel
theorem dX5_refusal_377 : decode cX5_refusal 377 = .ok (.aload_n 1, 1) := by decide +kernel
theorem dX5_refusal_378 : decode cX5_refusal 378 = .ok (.getfield 140, 3) := by decide +kernel
theorem dX5_refusal_381 : decode cX5_refusal 381 = .ok (.iconst 1, 1) := by decide +kernel
theorem dX5_refusal_382 : decode cX5_refusal 382 = .ok (.bipush 60, 2) := by decide +kernel
theorem dX5_refusal_384 : decode cX5_refusal 384 = .ok (.invokestatic 143, 3) := by decide +kernel
theorem dX5_refusal_387 : decode cX5_refusal 387 = .ok (.iconst 1, 1) := by decide +kernel
theorem dX5_refusal_388 : decode cX5_refusal 388 = .ok (.invokestatic 147, 3) := by decide +kernel
theorem dX5_refusal_391 : decode cX5_refusal 391 = .ok (.ireturn, 1) := by decide +kernel
theorem dX5_isSetting_0 : decode cX5_isSetting 0 = .ok (.iload_n 0, 1) := by decide +kernel
theorem dX5_isSetting_1 : decode cX5_isSetting 1 = .ok (.ifCond .ne 13, 3) := by decide +kernel
theorem dX5_isSetting_4 : decode cX5_isSetting 4 = .ok (.iload_n 1, 1) := by decide +kernel
theorem dX5_isSetting_5 : decode cX5_isSetting 5 = .ok (.iconst 0, 1) := by decide +kernel
theorem dX5_isSetting_6 : decode cX5_isSetting 6 = .ok (.bipush 12, 2) := by decide +kernel
theorem dX5_isSetting_8 : decode cX5_isSetting 8 = .ok (.invokestatic 143, 3) := by decide +kernel
theorem dX5_isSetting_11 : decode cX5_isSetting 11 = .ok (.ifCond .ne 17, 3) := by decide +kernel
theorem dX5_isSetting_14 : decode cX5_isSetting 14 = .ok (.iload_n 0, 1) := by decide +kernel
theorem dX5_isSetting_15 : decode cX5_isSetting 15 = .ok (.iconst 1, 1) := by decide +kernel
theorem dX5_isSetting_16 : decode cX5_isSetting 16 = .ok (.if_icmp .ne 16, 3) := by decide +kernel
theorem dX5_isSetting_19 : decode cX5_isSetting 19 = .ok (.iload_n 1, 1) := by decide +kernel
theorem dX5_isSetting_20 : decode cX5_isSetting 20 = .ok (.iconst 0, 1) := by decide +kernel
theorem dX5_isSetting_21 : decode cX5_isSetting 21 = .ok (.iconst 1, 1) := by decide +kernel
theorem dX5_isSetting_22 : decode cX5_isSetting 22 = .ok (.invokestatic 143, 3) := by decide +kernel
theorem dX5_isSetting_25 : decode cX5_isSetting 25 = .ok (.ifCond .eq 7, 3) := by decide +kernel
theorem dX5_isSetting_28 : decode cX5_isSetting 28 = .ok (.iconst 1, 1) := by decide +kernel
theorem dX5_isSetting_29 : decode cX5_isSetting 29 = .ok (.goto 4, 3) := by decide +kernel
theorem dX5_isSetting_32 : decode cX5_isSetting 32 = .ok (.iconst 0, 1) := by decide +kernel
theorem dX5_isSetting_33 : decode cX5_isSetting 33 = .ok (.ireturn, 1) := by decide +kernel
theorem dX5_perform_0 : decode cX5_perform 0 = .ok (.aload_n 1, 1) := by decide +kernel
theorem dX5_perform_1 : decode cX5_perform 1 = .ok (.getfield 135, 3) := by decide +kernel
theorem dX5_perform_4 : decode cX5_perform 4 = .ok (.tableswitch 178 1 9 #[52, 61, 74, 87, 108, 117, 137, 153, 165], 52) := by decide +kernel
theorem dX5_perform_56 : decode cX5_perform 56 = .ok (.aload_n 0, 1) := by decide +kernel
theorem dX5_perform_57 : decode cX5_perform 57 = .ok (.aload_n 1, 1) := by decide +kernel
theorem dX5_perform_58 : decode cX5_perform 58 = .ok (.getfield 140, 3) := by decide +kernel
theorem dX5_perform_61 : decode cX5_perform 61 = .ok (.invokevirtual 182, 3) := by decide +kernel
theorem dX5_perform_64 : decode cX5_perform 64 = .ok (.ireturn, 1) := by decide +kernel
theorem dX5_perform_65 : decode cX5_perform 65 = .ok (.aload_n 0, 1) := by decide +kernel
theorem dX5_perform_66 : decode cX5_perform 66 = .ok (.aload_n 1, 1) := by decide +kernel
theorem dX5_perform_67 : decode cX5_perform 67 = .ok (.getfield 140, 3) := by decide +kernel
theorem dX5_perform_70 : decode cX5_perform 70 = .ok (.aload_n 1, 1) := by decide +kernel
theorem dX5_perform_71 : decode cX5_perform 71 = .ok (.getfield 151, 3) := by decide +kernel
theorem dX5_perform_74 : decode cX5_perform 74 = .ok (.invokevirtual 186, 3) := by decide +kernel
theorem dX5_perform_77 : decode cX5_perform 77 = .ok (.ireturn, 1) := by decide +kernel
theorem dX5_perform_78 : decode cX5_perform 78 = .ok (.aload_n 0, 1) := by decide +kernel
theorem dX5_perform_79 : decode cX5_perform 79 = .ok (.aload_n 1, 1) := by decide +kernel
theorem dX5_perform_80 : decode cX5_perform 80 = .ok (.getfield 140, 3) := by decide +kernel
theorem dX5_perform_83 : decode cX5_perform 83 = .ok (.aload_n 1, 1) := by decide +kernel
theorem dX5_perform_84 : decode cX5_perform 84 = .ok (.getfield 151, 3) := by decide +kernel
theorem dX5_perform_87 : decode cX5_perform 87 = .ok (.invokevirtual 189, 3) := by decide +kernel
theorem dX5_perform_90 : decode cX5_perform 90 = .ok (.ireturn, 1) := by decide +kernel
theorem dX5_perform_91 : decode cX5_perform 91 = .ok (.aload_n 0, 1) := by decide +kernel
theorem dX5_perform_92 : decode cX5_perform 92 = .ok (.aload_n 1, 1) := by decide +kernel
theorem dX5_perform_93 : decode cX5_perform 93 = .ok (.getfield 140, 3) := by decide +kernel
theorem dX5_perform_96 : decode cX5_perform 96 = .ok (.aload_n 1, 1) := by decide +kernel
theorem dX5_perform_97 : decode cX5_perform 97 = .ok (.getfield 151, 3) := by decide +kernel
theorem dX5_perform_100 : decode cX5_perform 100 = .ok (.aload_n 1, 1) := by decide +kernel
theorem dX5_perform_101 : decode cX5_perform 101 = .ok (.getfield 160, 3) := by decide +kernel
theorem dX5_perform_104 : decode cX5_perform 104 = .ok (.aload_n 1, 1) := by decide +kernel
theorem dX5_perform_105 : decode cX5_perform 105 = .ok (.getfield 163, 3) := by decide +kernel
theorem dX5_perform_108 : decode cX5_perform 108 = .ok (.invokevirtual 192, 3) := by decide +kernel
theorem dX5_perform_111 : decode cX5_perform 111 = .ok (.ireturn, 1) := by decide +kernel
theorem dX5_perform_112 : decode cX5_perform 112 = .ok (.aload_n 0, 1) := by decide +kernel
theorem dX5_perform_113 : decode cX5_perform 113 = .ok (.aload_n 1, 1) := by decide +kernel
theorem dX5_perform_114 : decode cX5_perform 114 = .ok (.getfield 140, 3) := by decide +kernel
theorem dX5_perform_117 : decode cX5_perform 117 = .ok (.invokevirtual 196, 3) := by decide +kernel
theorem dX5_perform_120 : decode cX5_perform 120 = .ok (.ireturn, 1) := by decide +kernel
theorem dX5_perform_121 : decode cX5_perform 121 = .ok (.aload_n 0, 1) := by decide +kernel
theorem dX5_perform_122 : decode cX5_perform 122 = .ok (.getfield 32, 3) := by decide +kernel
theorem dX5_perform_125 : decode cX5_perform 125 = .ok (.aload_n 1, 1) := by decide +kernel
theorem dX5_perform_126 : decode cX5_perform 126 = .ok (.getfield 140, 3) := by decide +kernel
theorem dX5_perform_129 : decode cX5_perform 129 = .ok (.aload_n 1, 1) := by decide +kernel
theorem dX5_perform_130 : decode cX5_perform 130 = .ok (.getfield 151, 3) := by decide +kernel
theorem dX5_perform_133 : decode cX5_perform 133 = .ok (.aload_n 1, 1) := by decide +kernel
theorem dX5_perform_134 : decode cX5_perform 134 = .ok (.getfield 160, 3) := by decide +kernel
theorem dX5_perform_137 : decode cX5_perform 137 = .ok (.invokevirtual 199, 3) := by decide +kernel
theorem dX5_perform_140 : decode cX5_perform 140 = .ok (.ireturn, 1) := by decide +kernel
theorem dX5_perform_141 : decode cX5_perform 141 = .ok (.aload_n 0, 1) := by decide +kernel
theorem dX5_perform_142 : decode cX5_perform 142 = .ok (.getfield 32, 3) := by decide +kernel
theorem dX5_perform_145 : decode cX5_perform 145 = .ok (.aload_n 1, 1) := by decide +kernel
theorem dX5_perform_146 : decode cX5_perform 146 = .ok (.getfield 140, 3) := by decide +kernel
theorem dX5_perform_149 : decode cX5_perform 149 = .ok (.aload_n 1, 1) := by decide +kernel
theorem dX5_perform_150 : decode cX5_perform 150 = .ok (.getfield 151, 3) := by decide +kernel
theorem dX5_perform_153 : decode cX5_perform 153 = .ok (.invokevirtual 203, 3) := by decide +kernel
theorem dX5_perform_156 : decode cX5_perform 156 = .ok (.ireturn, 1) := by decide +kernel
theorem dX5_perform_157 : decode cX5_perform 157 = .ok (.aload_n 0, 1) := by decide +kernel
theorem dX5_perform_158 : decode cX5_perform 158 = .ok (.getfield 32, 3) := by decide +kernel
theorem dX5_perform_161 : decode cX5_perform 161 = .ok (.aload_n 1, 1) := by decide +kernel
theorem dX5_perform_162 : decode cX5_perform 162 = .ok (.getfield 140, 3) := by decide +kernel
theorem dX5_perform_165 : decode cX5_perform 165 = .ok (.invokevirtual 206, 3) := by decide +kernel
theorem dX5_perform_168 : decode cX5_perform 168 = .ok (.ireturn, 1) := by decide +kernel
theorem dX5_perform_169 : decode cX5_perform 169 = .ok (.aload_n 0, 1) := by decide +kernel
theorem dX5_perform_170 : decode cX5_perform 170 = .ok (.aload_n 1, 1) := by decide +kernel
theorem dX5_perform_171 : decode cX5_perform 171 = .ok (.getfield 140, 3) := by decide +kernel
theorem dX5_perform_174 : decode cX5_perform 174 = .ok (.aload_n 1, 1) := by decide +kernel
theorem dX5_perform_175 : decode cX5_perform 175 = .ok (.getfield 151, 3) := by decide +kernel
theorem dX5_perform_178 : decode cX5_perform 178 = .ok (.invokevirtual 209, 3) := by decide +kernel
theorem dX5_perform_181 : decode cX5_perform 181 = .ok (.ireturn, 1) := by decide +kernel
theorem dX5_perform_182 : decode cX5_perform 182 = .ok (.aload_n 0, 1) := by decide +kernel
theorem dX5_perform_183 : decode cX5_perform 183 = .ok (.aload_n 1, 1) := by decide +kernel
theorem dX5_perform_184 : decode cX5_perform 184 = .ok (.getfield 140, 3) := by decide +kernel
theorem dX5_perform_187 : decode cX5_perform 187 = .ok (.invokevirtual 212, 3) := by decide +kernel
theorem dX5_perform_190 : decode cX5_perform 190 = .ok (.ireturn, 1) := by decide +kernel
theorem dX5_addGallery_0 : decode cX5_addGallery 0 = .ok (.aload_n 0, 1) := by decide +kernel
theorem dX5_addGallery_1 : decode cX5_addGallery 1 = .ok (.getfield 56, 3) := by decide +kernel
theorem dX5_addGallery_4 : decode cX5_addGallery 4 = .ok (.iconst 3, 1) := by decide +kernel
theorem dX5_addGallery_5 : decode cX5_addGallery 5 = .ok (.if_icmp .lt 5, 3) := by decide +kernel
theorem dX5_addGallery_8 : decode cX5_addGallery 8 = .ok (.iconst (-1), 1) := by decide +kernel
theorem dX5_addGallery_9 : decode cX5_addGallery 9 = .ok (.ireturn, 1) := by decide +kernel
theorem dX5_addGallery_10 : decode cX5_addGallery 10 = .ok (.aload_n 0, 1) := by decide +kernel
theorem dX5_addGallery_11 : decode cX5_addGallery 11 = .ok (.getfield 11, 3) := by decide +kernel
theorem dX5_addGallery_14 : decode cX5_addGallery 14 = .ok (.aload_n 0, 1) := by decide +kernel
theorem dX5_addGallery_15 : decode cX5_addGallery 15 = .ok (.getfield 56, 3) := by decide +kernel
theorem dX5_addGallery_18 : decode cX5_addGallery 18 = .ok (.aaload, 1) := by decide +kernel
theorem dX5_addGallery_19 : decode cX5_addGallery 19 = .ok (.astore_n 2, 1) := by decide +kernel
theorem dX5_addGallery_20 : decode cX5_addGallery 20 = .ok (.aload_n 2, 1) := by decide +kernel
theorem dX5_addGallery_21 : decode cX5_addGallery 21 = .ok (.iload_n 1, 1) := by decide +kernel
theorem dX5_addGallery_22 : decode cX5_addGallery 22 = .ok (.putfield 93, 3) := by decide +kernel
theorem dX5_addGallery_25 : decode cX5_addGallery 25 = .ok (.aload_n 2, 1) := by decide +kernel
theorem dX5_addGallery_26 : decode cX5_addGallery 26 = .ok (.iconst 0, 1) := by decide +kernel
theorem dX5_addGallery_27 : decode cX5_addGallery 27 = .ok (.putfield 215, 3) := by decide +kernel
theorem dX5_addGallery_30 : decode cX5_addGallery 30 = .ok (.aload_n 0, 1) := by decide +kernel
theorem dX5_addGallery_31 : decode cX5_addGallery 31 = .ok (.dup, 1) := by decide +kernel
theorem dX5_addGallery_32 : decode cX5_addGallery 32 = .ok (.getfield 56, 3) := by decide +kernel
theorem dX5_addGallery_35 : decode cX5_addGallery 35 = .ok (.iconst 1, 1) := by decide +kernel
theorem dX5_addGallery_36 : decode cX5_addGallery 36 = .ok (.iadd, 1) := by decide +kernel
theorem dX5_addGallery_37 : decode cX5_addGallery 37 = .ok (.putfield 56, 3) := by decide +kernel
theorem dX5_addGallery_40 : decode cX5_addGallery 40 = .ok (.aload_n 0, 1) := by decide +kernel
theorem dX5_addGallery_41 : decode cX5_addGallery 41 = .ok (.getfield 56, 3) := by decide +kernel
theorem dX5_addGallery_44 : decode cX5_addGallery 44 = .ok (.iconst 1, 1) := by decide +kernel
theorem dX5_addGallery_45 : decode cX5_addGallery 45 = .ok (.isub, 1) := by decide +kernel
theorem dX5_addGallery_46 : decode cX5_addGallery 46 = .ok (.ireturn, 1) := by decide +kernel
theorem dX5_addMiner_0 : decode cX5_addMiner 0 = .ok (.aload_n 0, 1) := by decide +kernel
theorem dX5_addMiner_1 : decode cX5_addMiner 1 = .ok (.getfield 59, 3) := by decide +kernel
theorem dX5_addMiner_4 : decode cX5_addMiner 4 = .ok (.bipush 6, 2) := by decide +kernel
theorem dX5_addMiner_6 : decode cX5_addMiner 6 = .ok (.if_icmp .lt 5, 3) := by decide +kernel
theorem dX5_addMiner_9 : decode cX5_addMiner 9 = .ok (.iconst (-1), 1) := by decide +kernel
theorem dX5_addMiner_10 : decode cX5_addMiner 10 = .ok (.ireturn, 1) := by decide +kernel
theorem dX5_addMiner_11 : decode cX5_addMiner 11 = .ok (.aload_n 0, 1) := by decide +kernel
theorem dX5_addMiner_12 : decode cX5_addMiner 12 = .ok (.getfield 19, 3) := by decide +kernel
theorem dX5_addMiner_15 : decode cX5_addMiner 15 = .ok (.aload_n 0, 1) := by decide +kernel
theorem dX5_addMiner_16 : decode cX5_addMiner 16 = .ok (.getfield 59, 3) := by decide +kernel
theorem dX5_addMiner_19 : decode cX5_addMiner 19 = .ok (.aaload, 1) := by decide +kernel
theorem dX5_addMiner_20 : decode cX5_addMiner 20 = .ok (.astore_n 3, 1) := by decide +kernel
theorem dX5_addMiner_21 : decode cX5_addMiner 21 = .ok (.aload_n 3, 1) := by decide +kernel
theorem dX5_addMiner_22 : decode cX5_addMiner 22 = .ok (.iload_n 1, 1) := by decide +kernel
theorem dX5_addMiner_23 : decode cX5_addMiner 23 = .ok (.putfield 99, 3) := by decide +kernel
theorem dX5_addMiner_26 : decode cX5_addMiner 26 = .ok (.aload_n 3, 1) := by decide +kernel
theorem dX5_addMiner_27 : decode cX5_addMiner 27 = .ok (.iload_n 2, 1) := by decide +kernel
theorem dX5_addMiner_28 : decode cX5_addMiner 28 = .ok (.putfield 218, 3) := by decide +kernel
theorem dX5_addMiner_31 : decode cX5_addMiner 31 = .ok (.aload_n 3, 1) := by decide +kernel
theorem dX5_addMiner_32 : decode cX5_addMiner 32 = .ok (.iconst 0, 1) := by decide +kernel
theorem dX5_addMiner_33 : decode cX5_addMiner 33 = .ok (.putfield 221, 3) := by decide +kernel
theorem dX5_addMiner_36 : decode cX5_addMiner 36 = .ok (.aload_n 3, 1) := by decide +kernel
theorem dX5_addMiner_37 : decode cX5_addMiner 37 = .ok (.iconst 0, 1) := by decide +kernel
theorem dX5_addMiner_38 : decode cX5_addMiner 38 = .ok (.putfield 222, 3) := by decide +kernel
theorem dX5_addMiner_41 : decode cX5_addMiner 41 = .ok (.aload_n 0, 1) := by decide +kernel
theorem dX5_addMiner_42 : decode cX5_addMiner 42 = .ok (.dup, 1) := by decide +kernel
theorem dX5_addMiner_43 : decode cX5_addMiner 43 = .ok (.getfield 59, 3) := by decide +kernel
theorem dX5_addMiner_46 : decode cX5_addMiner 46 = .ok (.iconst 1, 1) := by decide +kernel
theorem dX5_addMiner_47 : decode cX5_addMiner 47 = .ok (.iadd, 1) := by decide +kernel
theorem dX5_addMiner_48 : decode cX5_addMiner 48 = .ok (.putfield 59, 3) := by decide +kernel
theorem dX5_addMiner_51 : decode cX5_addMiner 51 = .ok (.aload_n 0, 1) := by decide +kernel
theorem dX5_addMiner_52 : decode cX5_addMiner 52 = .ok (.getfield 59, 3) := by decide +kernel
theorem dX5_addMiner_55 : decode cX5_addMiner 55 = .ok (.iconst 1, 1) := by decide +kernel
theorem dX5_addMiner_56 : decode cX5_addMiner 56 = .ok (.isub, 1) := by decide +kernel
theorem dX5_addMiner_57 : decode cX5_addMiner 57 = .ok (.ireturn, 1) := by decide +kernel
theorem dX5_sendMiner_0 : decode cX5_sendMiner 0 = .ok (.aload_n 0, 1) := by decide +kernel
theorem dX5_sendMiner_1 : decode cX5_sendMiner 1 = .ok (.iload_n 1, 1) := by decide +kernel
theorem dX5_sendMiner_2 : decode cX5_sendMiner 2 = .ok (.invokevirtual 154, 3) := by decide +kernel
theorem dX5_sendMiner_5 : decode cX5_sendMiner 5 = .ok (.ifCond .ne 5, 3) := by decide +kernel
theorem dX5_sendMiner_8 : decode cX5_sendMiner 8 = .ok (.iconst (-1), 1) := by decide +kernel
theorem dX5_sendMiner_9 : decode cX5_sendMiner 9 = .ok (.ireturn, 1) := by decide +kernel
theorem dX5_sendMiner_10 : decode cX5_sendMiner 10 = .ok (.aload_n 0, 1) := by decide +kernel
theorem dX5_sendMiner_11 : decode cX5_sendMiner 11 = .ok (.getfield 19, 3) := by decide +kernel
theorem dX5_sendMiner_14 : decode cX5_sendMiner 14 = .ok (.iload_n 1, 1) := by decide +kernel
theorem dX5_sendMiner_15 : decode cX5_sendMiner 15 = .ok (.aaload, 1) := by decide +kernel
theorem dX5_sendMiner_16 : decode cX5_sendMiner 16 = .ok (.getfield 99, 3) := by decide +kernel
theorem dX5_sendMiner_19 : decode cX5_sendMiner 19 = .ok (.istore_n 3, 1) := by decide +kernel
theorem dX5_sendMiner_20 : decode cX5_sendMiner 20 = .ok (.aload_n 0, 1) := by decide +kernel
theorem dX5_sendMiner_21 : decode cX5_sendMiner 21 = .ok (.getfield 19, 3) := by decide +kernel
theorem dX5_sendMiner_24 : decode cX5_sendMiner 24 = .ok (.iload_n 1, 1) := by decide +kernel
theorem dX5_sendMiner_25 : decode cX5_sendMiner 25 = .ok (.aaload, 1) := by decide +kernel
theorem dX5_sendMiner_26 : decode cX5_sendMiner 26 = .ok (.iload_n 2, 1) := by decide +kernel
theorem dX5_sendMiner_27 : decode cX5_sendMiner 27 = .ok (.putfield 99, 3) := by decide +kernel
theorem dX5_sendMiner_30 : decode cX5_sendMiner 30 = .ok (.iload_n 3, 1) := by decide +kernel
theorem dX5_sendMiner_31 : decode cX5_sendMiner 31 = .ok (.ireturn, 1) := by decide +kernel
theorem dX5_addLamp_0 : decode cX5_addLamp 0 = .ok (.aload_n 0, 1) := by decide +kernel
theorem dX5_addLamp_1 : decode cX5_addLamp 1 = .ok (.getfield 62, 3) := by decide +kernel
theorem dX5_addLamp_4 : decode cX5_addLamp 4 = .ok (.bipush 8, 2) := by decide +kernel
theorem dX5_addLamp_6 : decode cX5_addLamp 6 = .ok (.if_icmp .lt 5, 3) := by decide +kernel
theorem dX5_addLamp_9 : decode cX5_addLamp 9 = .ok (.iconst (-1), 1) := by decide +kernel
theorem dX5_addLamp_10 : decode cX5_addLamp 10 = .ok (.ireturn, 1) := by decide +kernel
theorem dX5_addLamp_11 : decode cX5_addLamp 11 = .ok (.aload_n 0, 1) := by decide +kernel
theorem dX5_addLamp_12 : decode cX5_addLamp 12 = .ok (.getfield 25, 3) := by decide +kernel
theorem dX5_addLamp_15 : decode cX5_addLamp 15 = .ok (.aload_n 0, 1) := by decide +kernel
theorem dX5_addLamp_16 : decode cX5_addLamp 16 = .ok (.getfield 62, 3) := by decide +kernel
theorem dX5_addLamp_19 : decode cX5_addLamp 19 = .ok (.aaload, 1) := by decide +kernel
theorem dX5_addLamp_20 : decode cX5_addLamp 20 = .ok (.astore 5, 2) := by decide +kernel
theorem dX5_addLamp_22 : decode cX5_addLamp 22 = .ok (.aload 5, 2) := by decide +kernel
theorem dX5_addLamp_24 : decode cX5_addLamp 24 = .ok (.iload_n 1, 1) := by decide +kernel
theorem dX5_addLamp_25 : decode cX5_addLamp 25 = .ok (.putfield 102, 3) := by decide +kernel
theorem dX5_addLamp_28 : decode cX5_addLamp 28 = .ok (.aload 5, 2) := by decide +kernel
theorem dX5_addLamp_30 : decode cX5_addLamp 30 = .ok (.iload_n 2, 1) := by decide +kernel
theorem dX5_addLamp_31 : decode cX5_addLamp 31 = .ok (.putfield 110, 3) := by decide +kernel
theorem dX5_addLamp_34 : decode cX5_addLamp 34 = .ok (.aload 5, 2) := by decide +kernel
theorem dX5_addLamp_36 : decode cX5_addLamp 36 = .ok (.iload_n 3, 1) := by decide +kernel
theorem dX5_addLamp_37 : decode cX5_addLamp 37 = .ok (.putfield 113, 3) := by decide +kernel
theorem dX5_addLamp_40 : decode cX5_addLamp 40 = .ok (.aload 5, 2) := by decide +kernel
theorem dX5_addLamp_42 : decode cX5_addLamp 42 = .ok (.iload 4, 2) := by decide +kernel
theorem dX5_addLamp_44 : decode cX5_addLamp 44 = .ok (.putfield 96, 3) := by decide +kernel
theorem dX5_addLamp_47 : decode cX5_addLamp 47 = .ok (.aload_n 0, 1) := by decide +kernel
theorem dX5_addLamp_48 : decode cX5_addLamp 48 = .ok (.dup, 1) := by decide +kernel
theorem dX5_addLamp_49 : decode cX5_addLamp 49 = .ok (.getfield 77, 3) := by decide +kernel
theorem dX5_addLamp_52 : decode cX5_addLamp 52 = .ok (.iload 4, 2) := by decide +kernel
theorem dX5_addLamp_54 : decode cX5_addLamp 54 = .ok (.iadd, 1) := by decide +kernel
theorem dX5_addLamp_55 : decode cX5_addLamp 55 = .ok (.putfield 77, 3) := by decide +kernel
theorem dX5_addLamp_58 : decode cX5_addLamp 58 = .ok (.aload_n 0, 1) := by decide +kernel
theorem dX5_addLamp_59 : decode cX5_addLamp 59 = .ok (.dup, 1) := by decide +kernel
theorem dX5_addLamp_60 : decode cX5_addLamp 60 = .ok (.getfield 62, 3) := by decide +kernel
theorem dX5_addLamp_63 : decode cX5_addLamp 63 = .ok (.iconst 1, 1) := by decide +kernel
theorem dX5_addLamp_64 : decode cX5_addLamp 64 = .ok (.iadd, 1) := by decide +kernel
theorem dX5_addLamp_65 : decode cX5_addLamp 65 = .ok (.putfield 62, 3) := by decide +kernel
theorem dX5_addLamp_68 : decode cX5_addLamp 68 = .ok (.aload_n 0, 1) := by decide +kernel
theorem dX5_addLamp_69 : decode cX5_addLamp 69 = .ok (.getfield 62, 3) := by decide +kernel
theorem dX5_addLamp_72 : decode cX5_addLamp 72 = .ok (.iconst 1, 1) := by decide +kernel
theorem dX5_addLamp_73 : decode cX5_addLamp 73 = .ok (.isub, 1) := by decide +kernel
theorem dX5_addLamp_74 : decode cX5_addLamp 74 = .ok (.ireturn, 1) := by decide +kernel
theorem dX5_bringOil_0 : decode cX5_bringOil 0 = .ok (.aload_n 0, 1) := by decide +kernel
theorem dX5_bringOil_1 : decode cX5_bringOil 1 = .ok (.dup, 1) := by decide +kernel
theorem dX5_bringOil_2 : decode cX5_bringOil 2 = .ok (.getfield 68, 3) := by decide +kernel
theorem dX5_bringOil_5 : decode cX5_bringOil 5 = .ok (.iload_n 1, 1) := by decide +kernel
theorem dX5_bringOil_6 : decode cX5_bringOil 6 = .ok (.iadd, 1) := by decide +kernel
theorem dX5_bringOil_7 : decode cX5_bringOil 7 = .ok (.putfield 68, 3) := by decide +kernel
theorem dX5_bringOil_10 : decode cX5_bringOil 10 = .ok (.aload_n 0, 1) := by decide +kernel
theorem dX5_bringOil_11 : decode cX5_bringOil 11 = .ok (.dup, 1) := by decide +kernel
theorem dX5_bringOil_12 : decode cX5_bringOil 12 = .ok (.getfield 77, 3) := by decide +kernel
theorem dX5_bringOil_15 : decode cX5_bringOil 15 = .ok (.iload_n 1, 1) := by decide +kernel
theorem dX5_bringOil_16 : decode cX5_bringOil 16 = .ok (.iadd, 1) := by decide +kernel
theorem dX5_bringOil_17 : decode cX5_bringOil 17 = .ok (.putfield 77, 3) := by decide +kernel
theorem dX5_bringOil_20 : decode cX5_bringOil 20 = .ok (.aload_n 0, 1) := by decide +kernel
theorem dX5_bringOil_21 : decode cX5_bringOil 21 = .ok (.getfield 68, 3) := by decide +kernel
theorem dX5_bringOil_24 : decode cX5_bringOil 24 = .ok (.ireturn, 1) := by decide +kernel
theorem dX5_changeSetting_0 : decode cX5_changeSetting 0 = .ok (.iload_n 1, 1) := by decide +kernel
theorem dX5_changeSetting_1 : decode cX5_changeSetting 1 = .ok (.ifCond .ne 10, 3) := by decide +kernel
theorem dX5_changeSetting_4 : decode cX5_changeSetting 4 = .ok (.aload_n 0, 1) := by decide +kernel
theorem dX5_changeSetting_5 : decode cX5_changeSetting 5 = .ok (.getfield 36, 3) := by decide +kernel
theorem dX5_changeSetting_8 : decode cX5_changeSetting 8 = .ok (.goto 7, 3) := by decide +kernel
theorem dX5_changeSetting_11 : decode cX5_changeSetting 11 = .ok (.aload_n 0, 1) := by decide +kernel
theorem dX5_changeSetting_12 : decode cX5_changeSetting 12 = .ok (.getfield 86, 3) := by decide +kernel
theorem dX5_changeSetting_15 : decode cX5_changeSetting 15 = .ok (.istore_n 3, 1) := by decide +kernel
theorem dX5_changeSetting_16 : decode cX5_changeSetting 16 = .ok (.iload_n 1, 1) := by decide +kernel
theorem dX5_changeSetting_17 : decode cX5_changeSetting 17 = .ok (.ifCond .ne 11, 3) := by decide +kernel
theorem dX5_changeSetting_20 : decode cX5_changeSetting 20 = .ok (.aload_n 0, 1) := by decide +kernel
theorem dX5_changeSetting_21 : decode cX5_changeSetting 21 = .ok (.iload_n 2, 1) := by decide +kernel
theorem dX5_changeSetting_22 : decode cX5_changeSetting 22 = .ok (.putfield 36, 3) := by decide +kernel
theorem dX5_changeSetting_25 : decode cX5_changeSetting 25 = .ok (.goto 8, 3) := by decide +kernel
theorem dX5_changeSetting_28 : decode cX5_changeSetting 28 = .ok (.aload_n 0, 1) := by decide +kernel
theorem dX5_changeSetting_29 : decode cX5_changeSetting 29 = .ok (.iload_n 2, 1) := by decide +kernel
theorem dX5_changeSetting_30 : decode cX5_changeSetting 30 = .ok (.putfield 86, 3) := by decide +kernel
theorem dX5_changeSetting_33 : decode cX5_changeSetting 33 = .ok (.iload_n 3, 1) := by decide +kernel
theorem dX5_changeSetting_34 : decode cX5_changeSetting 34 = .ok (.ireturn, 1) := by decide +kernel
theorem dX5_passes_0 : decode cX5_passes 0 = .ok (.aload_n 1, 1) := by decide +kernel
theorem dX5_passes_1 : decode cX5_passes 1 = .ok (.getfield 135, 3) := by decide +kernel
theorem dX5_passes_4 : decode cX5_passes 4 = .ok (.tableswitch 153 11 13 #[28, 81, 117], 28) := by decide +kernel
theorem dX5_passes_32 : decode cX5_passes 32 = .ok (.aload_n 0, 1) := by decide +kernel
theorem dX5_passes_33 : decode cX5_passes 33 = .ok (.aload_n 1, 1) := by decide +kernel
theorem dX5_passes_34 : decode cX5_passes 34 = .ok (.getfield 140, 3) := by decide +kernel
theorem dX5_passes_37 : decode cX5_passes 37 = .ok (.invokevirtual 89, 3) := by decide +kernel
theorem dX5_passes_40 : decode cX5_passes 40 = .ok (.ifCond .eq 43, 3) := by decide +kernel
theorem dX5_passes_43 : decode cX5_passes 43 = .ok (.aload_n 0, 1) := by decide +kernel
theorem dX5_passes_44 : decode cX5_passes 44 = .ok (.aload_n 1, 1) := by decide +kernel
theorem dX5_passes_45 : decode cX5_passes 45 = .ok (.getfield 140, 3) := by decide +kernel
theorem dX5_passes_48 : decode cX5_passes 48 = .ok (.aload_n 0, 1) := by decide +kernel
theorem dX5_passes_49 : decode cX5_passes 49 = .ok (.getfield 11, 3) := by decide +kernel
theorem dX5_passes_52 : decode cX5_passes 52 = .ok (.aload_n 1, 1) := by decide +kernel
theorem dX5_passes_53 : decode cX5_passes 53 = .ok (.getfield 140, 3) := by decide +kernel
theorem dX5_passes_56 : decode cX5_passes 56 = .ok (.aaload, 1) := by decide +kernel
theorem dX5_passes_57 : decode cX5_passes 57 = .ok (.getfield 93, 3) := by decide +kernel
theorem dX5_passes_60 : decode cX5_passes 60 = .ok (.invokevirtual 107, 3) := by decide +kernel
theorem dX5_passes_63 : decode cX5_passes 63 = .ok (.aload_n 1, 1) := by decide +kernel
theorem dX5_passes_64 : decode cX5_passes 64 = .ok (.getfield 151, 3) := by decide +kernel
theorem dX5_passes_67 : decode cX5_passes 67 = .ok (.iconst 1, 1) := by decide +kernel
theorem dX5_passes_68 : decode cX5_passes 68 = .ok (.if_icmp .ne 7, 3) := by decide +kernel
theorem dX5_passes_71 : decode cX5_passes 71 = .ok (.iconst 1, 1) := by decide +kernel
theorem dX5_passes_72 : decode cX5_passes 72 = .ok (.goto 4, 3) := by decide +kernel
theorem dX5_passes_75 : decode cX5_passes 75 = .ok (.iconst 0, 1) := by decide +kernel
theorem dX5_passes_76 : decode cX5_passes 76 = .ok (.if_icmp .ne 7, 3) := by decide +kernel
theorem dX5_passes_79 : decode cX5_passes 79 = .ok (.iconst 1, 1) := by decide +kernel
theorem dX5_passes_80 : decode cX5_passes 80 = .ok (.goto 4, 3) := by decide +kernel
theorem dX5_passes_83 : decode cX5_passes 83 = .ok (.iconst 0, 1) := by decide +kernel
theorem dX5_passes_84 : decode cX5_passes 84 = .ok (.ireturn, 1) := by decide +kernel
theorem dX5_passes_85 : decode cX5_passes 85 = .ok (.aload_n 0, 1) := by decide +kernel
theorem dX5_passes_86 : decode cX5_passes 86 = .ok (.aload_n 1, 1) := by decide +kernel
theorem dX5_passes_87 : decode cX5_passes 87 = .ok (.getfield 140, 3) := by decide +kernel
theorem dX5_passes_90 : decode cX5_passes 90 = .ok (.invokevirtual 89, 3) := by decide +kernel
theorem dX5_passes_93 : decode cX5_passes 93 = .ok (.ifCond .eq 26, 3) := by decide +kernel
theorem dX5_passes_96 : decode cX5_passes 96 = .ok (.aload_n 0, 1) := by decide +kernel
theorem dX5_passes_97 : decode cX5_passes 97 = .ok (.getfield 11, 3) := by decide +kernel
theorem dX5_passes_100 : decode cX5_passes 100 = .ok (.aload_n 1, 1) := by decide +kernel
theorem dX5_passes_101 : decode cX5_passes 101 = .ok (.getfield 140, 3) := by decide +kernel
theorem dX5_passes_104 : decode cX5_passes 104 = .ok (.aaload, 1) := by decide +kernel
theorem dX5_passes_105 : decode cX5_passes 105 = .ok (.getfield 93, 3) := by decide +kernel
theorem dX5_passes_108 : decode cX5_passes 108 = .ok (.aload_n 1, 1) := by decide +kernel
theorem dX5_passes_109 : decode cX5_passes 109 = .ok (.getfield 151, 3) := by decide +kernel
theorem dX5_passes_112 : decode cX5_passes 112 = .ok (.if_icmp .lt 7, 3) := by decide +kernel
theorem dX5_passes_115 : decode cX5_passes 115 = .ok (.iconst 1, 1) := by decide +kernel
theorem dX5_passes_116 : decode cX5_passes 116 = .ok (.goto 4, 3) := by decide +kernel
theorem dX5_passes_119 : decode cX5_passes 119 = .ok (.iconst 0, 1) := by decide +kernel
theorem dX5_passes_120 : decode cX5_passes 120 = .ok (.ireturn, 1) := by decide +kernel
theorem dX5_passes_121 : decode cX5_passes 121 = .ok (.aload_n 0, 1) := by decide +kernel
theorem dX5_passes_122 : decode cX5_passes 122 = .ok (.aload_n 1, 1) := by decide +kernel
theorem dX5_passes_123 : decode cX5_passes 123 = .ok (.getfield 140, 3) := by decide +kernel
theorem dX5_passes_126 : decode cX5_passes 126 = .ok (.invokevirtual 166, 3) := by decide +kernel
theorem dX5_passes_129 : decode cX5_passes 129 = .ok (.ifCond .eq 26, 3) := by decide +kernel
theorem dX5_passes_132 : decode cX5_passes 132 = .ok (.aload_n 0, 1) := by decide +kernel
theorem dX5_passes_133 : decode cX5_passes 133 = .ok (.getfield 25, 3) := by decide +kernel
theorem dX5_passes_136 : decode cX5_passes 136 = .ok (.aload_n 1, 1) := by decide +kernel
theorem dX5_passes_137 : decode cX5_passes 137 = .ok (.getfield 140, 3) := by decide +kernel
theorem dX5_passes_140 : decode cX5_passes 140 = .ok (.aaload, 1) := by decide +kernel
theorem dX5_passes_141 : decode cX5_passes 141 = .ok (.getfield 96, 3) := by decide +kernel
theorem dX5_passes_144 : decode cX5_passes 144 = .ok (.aload_n 1, 1) := by decide +kernel
theorem dX5_passes_145 : decode cX5_passes 145 = .ok (.getfield 151, 3) := by decide +kernel
theorem dX5_passes_148 : decode cX5_passes 148 = .ok (.if_icmp .lt 7, 3) := by decide +kernel
theorem dX5_passes_151 : decode cX5_passes 151 = .ok (.iconst 1, 1) := by decide +kernel
theorem dX5_passes_152 : decode cX5_passes 152 = .ok (.goto 4, 3) := by decide +kernel
theorem dX5_passes_155 : decode cX5_passes 155 = .ok (.iconst 0, 1) := by decide +kernel
theorem dX5_passes_156 : decode cX5_passes 156 = .ok (.ireturn, 1) := by decide +kernel
theorem dX5_passes_157 : decode cX5_passes 157 = .ok (.aload_n 0, 1) := by decide +kernel
theorem dX5_passes_158 : decode cX5_passes 158 = .ok (.getfield 32, 3) := by decide +kernel
theorem dX5_passes_161 : decode cX5_passes 161 = .ok (.getfield 223, 3) := by decide +kernel
theorem dX5_passes_164 : decode cX5_passes 164 = .ok (.aload_n 1, 1) := by decide +kernel
theorem dX5_passes_165 : decode cX5_passes 165 = .ok (.getfield 140, 3) := by decide +kernel
theorem dX5_passes_168 : decode cX5_passes 168 = .ok (.if_icmp .gt 7, 3) := by decide +kernel
theorem dX5_passes_171 : decode cX5_passes 171 = .ok (.iconst 1, 1) := by decide +kernel
theorem dX5_passes_172 : decode cX5_passes 172 = .ok (.goto 4, 3) := by decide +kernel
theorem dX5_passes_175 : decode cX5_passes 175 = .ok (.iconst 0, 1) := by decide +kernel
theorem dX5_passes_176 : decode cX5_passes 176 = .ok (.ireturn, 1) := by decide +kernel
theorem dX5_letHoursGo_0 : decode cX5_letHoursGo 0 = .ok (.aload_n 0, 1) := by decide +kernel
theorem dX5_letHoursGo_1 : decode cX5_letHoursGo 1 = .ok (.getfield 83, 3) := by decide +kernel
theorem dX5_letHoursGo_4 : decode cX5_letHoursGo 4 = .ok (.istore_n 2, 1) := by decide +kernel
theorem dX5_letHoursGo_5 : decode cX5_letHoursGo 5 = .ok (.iconst 0, 1) := by decide +kernel
theorem dX5_letHoursGo_6 : decode cX5_letHoursGo 6 = .ok (.istore_n 3, 1) := by decide +kernel
theorem dX5_letHoursGo_7 : decode cX5_letHoursGo 7 = .ok (.iload_n 3, 1) := by decide +kernel
theorem dX5_letHoursGo_8 : decode cX5_letHoursGo 8 = .ok (.iload_n 1, 1) := by decide +kernel
theorem dX5_letHoursGo_9 : decode cX5_letHoursGo 9 = .ok (.if_icmp .ge 58, 3) := by decide +kernel
theorem dX5_letHoursGo_12 : decode cX5_letHoursGo 12 = .ok (.aload_n 0, 1) := by decide +kernel
theorem dX5_letHoursGo_13 : decode cX5_letHoursGo 13 = .ok (.dup, 1) := by decide +kernel
theorem dX5_letHoursGo_14 : decode cX5_letHoursGo 14 = .ok (.getfield 65, 3) := by decide +kernel
theorem dX5_letHoursGo_17 : decode cX5_letHoursGo 17 = .ok (.iconst 1, 1) := by decide +kernel
theorem dX5_letHoursGo_18 : decode cX5_letHoursGo 18 = .ok (.iadd, 1) := by decide +kernel
theorem dX5_letHoursGo_19 : decode cX5_letHoursGo 19 = .ok (.putfield 65, 3) := by decide +kernel
theorem dX5_letHoursGo_22 : decode cX5_letHoursGo 22 = .ok (.aload_n 0, 1) := by decide +kernel
theorem dX5_letHoursGo_23 : decode cX5_letHoursGo 23 = .ok (.invokevirtual 226, 3) := by decide +kernel
theorem dX5_letHoursGo_26 : decode cX5_letHoursGo 26 = .ok (.aload_n 0, 1) := by decide +kernel
theorem dX5_letHoursGo_27 : decode cX5_letHoursGo 27 = .ok (.invokevirtual 229, 3) := by decide +kernel
theorem dX5_letHoursGo_30 : decode cX5_letHoursGo 30 = .ok (.aload_n 0, 1) := by decide +kernel
theorem dX5_letHoursGo_31 : decode cX5_letHoursGo 31 = .ok (.aload_n 0, 1) := by decide +kernel
theorem dX5_letHoursGo_32 : decode cX5_letHoursGo 32 = .ok (.getfield 36, 3) := by decide +kernel
theorem dX5_letHoursGo_35 : decode cX5_letHoursGo 35 = .ok (.invokevirtual 232, 3) := by decide +kernel
theorem dX5_letHoursGo_38 : decode cX5_letHoursGo 38 = .ok (.pop, 1) := by decide +kernel
theorem dX5_letHoursGo_39 : decode cX5_letHoursGo 39 = .ok (.aload_n 0, 1) := by decide +kernel
theorem dX5_letHoursGo_40 : decode cX5_letHoursGo 40 = .ok (.getfield 86, 3) := by decide +kernel
theorem dX5_letHoursGo_43 : decode cX5_letHoursGo 43 = .ok (.iconst 1, 1) := by decide +kernel
theorem dX5_letHoursGo_44 : decode cX5_letHoursGo 44 = .ok (.if_icmp .ne 17, 3) := by decide +kernel
theorem dX5_letHoursGo_47 : decode cX5_letHoursGo 47 = .ok (.aload_n 0, 1) := by decide +kernel
theorem dX5_letHoursGo_48 : decode cX5_letHoursGo 48 = .ok (.getfield 32, 3) := by decide +kernel
theorem dX5_letHoursGo_51 : decode cX5_letHoursGo 51 = .ok (.getfield 223, 3) := by decide +kernel
theorem dX5_letHoursGo_54 : decode cX5_letHoursGo 54 = .ok (.ifCond .ne 7, 3) := by decide +kernel
theorem dX5_letHoursGo_57 : decode cX5_letHoursGo 57 = .ok (.aload_n 0, 1) := by decide +kernel
theorem dX5_letHoursGo_58 : decode cX5_letHoursGo 58 = .ok (.invokevirtual 235, 3) := by decide +kernel
theorem dX5_letHoursGo_61 : decode cX5_letHoursGo 61 = .ok (.iinc 3 1, 3) := by decide +kernel
theorem dX5_letHoursGo_64 : decode cX5_letHoursGo 64 = .ok (.goto (-57), 3) := by decide +kernel
theorem dX5_letHoursGo_67 : decode cX5_letHoursGo 67 = .ok (.aload_n 0, 1) := by decide +kernel
theorem dX5_letHoursGo_68 : decode cX5_letHoursGo 68 = .ok (.getfield 83, 3) := by decide +kernel
theorem dX5_letHoursGo_71 : decode cX5_letHoursGo 71 = .ok (.iload_n 2, 1) := by decide +kernel
theorem dX5_letHoursGo_72 : decode cX5_letHoursGo 72 = .ok (.isub, 1) := by decide +kernel
theorem dX5_letHoursGo_73 : decode cX5_letHoursGo 73 = .ok (.ireturn, 1) := by decide +kernel
theorem dX5_minersWork_0 : decode cX5_minersWork 0 = .ok (.iconst 0, 1) := by decide +kernel
theorem dX5_minersWork_1 : decode cX5_minersWork 1 = .ok (.istore_n 1, 1) := by decide +kernel
theorem dX5_minersWork_2 : decode cX5_minersWork 2 = .ok (.iload_n 1, 1) := by decide +kernel
theorem dX5_minersWork_3 : decode cX5_minersWork 3 = .ok (.aload_n 0, 1) := by decide +kernel
theorem dX5_minersWork_4 : decode cX5_minersWork 4 = .ok (.getfield 59, 3) := by decide +kernel
theorem dX5_minersWork_7 : decode cX5_minersWork 7 = .ok (.if_icmp .ge 119, 3) := by decide +kernel
theorem dX5_minersWork_10 : decode cX5_minersWork 10 = .ok (.aload_n 0, 1) := by decide +kernel
theorem dX5_minersWork_11 : decode cX5_minersWork 11 = .ok (.getfield 19, 3) := by decide +kernel
theorem dX5_minersWork_14 : decode cX5_minersWork 14 = .ok (.iload_n 1, 1) := by decide +kernel
theorem dX5_minersWork_15 : decode cX5_minersWork 15 = .ok (.aaload, 1) := by decide +kernel
theorem dX5_minersWork_16 : decode cX5_minersWork 16 = .ok (.astore_n 2, 1) := by decide +kernel
theorem dX5_minersWork_17 : decode cX5_minersWork 17 = .ok (.aload_n 2, 1) := by decide +kernel
theorem dX5_minersWork_18 : decode cX5_minersWork 18 = .ok (.getfield 99, 3) := by decide +kernel
theorem dX5_minersWork_21 : decode cX5_minersWork 21 = .ok (.istore_n 3, 1) := by decide +kernel
theorem dX5_minersWork_22 : decode cX5_minersWork 22 = .ok (.aload_n 0, 1) := by decide +kernel
theorem dX5_minersWork_23 : decode cX5_minersWork 23 = .ok (.iload_n 3, 1) := by decide +kernel
theorem dX5_minersWork_24 : decode cX5_minersWork 24 = .ok (.invokevirtual 89, 3) := by decide +kernel
theorem dX5_minersWork_27 : decode cX5_minersWork 27 = .ok (.ifCond .eq 93, 3) := by decide +kernel
theorem dX5_minersWork_30 : decode cX5_minersWork 30 = .ok (.aload_n 0, 1) := by decide +kernel
theorem dX5_minersWork_31 : decode cX5_minersWork 31 = .ok (.getfield 11, 3) := by decide +kernel
theorem dX5_minersWork_34 : decode cX5_minersWork 34 = .ok (.iload_n 3, 1) := by decide +kernel
theorem dX5_minersWork_35 : decode cX5_minersWork 35 = .ok (.aaload, 1) := by decide +kernel
theorem dX5_minersWork_36 : decode cX5_minersWork 36 = .ok (.getfield 93, 3) := by decide +kernel
theorem dX5_minersWork_39 : decode cX5_minersWork 39 = .ok (.bipush 60, 2) := by decide +kernel
theorem dX5_minersWork_41 : decode cX5_minersWork 41 = .ok (.if_icmp .ge 79, 3) := by decide +kernel
theorem dX5_minersWork_44 : decode cX5_minersWork 44 = .ok (.aload_n 0, 1) := by decide +kernel
theorem dX5_minersWork_45 : decode cX5_minersWork 45 = .ok (.iload_n 3, 1) := by decide +kernel
theorem dX5_minersWork_46 : decode cX5_minersWork 46 = .ok (.aload_n 0, 1) := by decide +kernel
theorem dX5_minersWork_47 : decode cX5_minersWork 47 = .ok (.getfield 11, 3) := by decide +kernel
theorem dX5_minersWork_50 : decode cX5_minersWork 50 = .ok (.iload_n 3, 1) := by decide +kernel
theorem dX5_minersWork_51 : decode cX5_minersWork 51 = .ok (.aaload, 1) := by decide +kernel
theorem dX5_minersWork_52 : decode cX5_minersWork 52 = .ok (.getfield 93, 3) := by decide +kernel
theorem dX5_minersWork_55 : decode cX5_minersWork 55 = .ok (.invokevirtual 107, 3) := by decide +kernel
theorem dX5_minersWork_58 : decode cX5_minersWork 58 = .ok (.ifCond .eq 42, 3) := by decide +kernel
theorem dX5_minersWork_61 : decode cX5_minersWork 61 = .ok (.aload_n 2, 1) := by decide +kernel
theorem dX5_minersWork_62 : decode cX5_minersWork 62 = .ok (.dup, 1) := by decide +kernel
theorem dX5_minersWork_63 : decode cX5_minersWork 63 = .ok (.getfield 221, 3) := by decide +kernel
theorem dX5_minersWork_66 : decode cX5_minersWork 66 = .ok (.aload_n 2, 1) := by decide +kernel
theorem dX5_minersWork_67 : decode cX5_minersWork 67 = .ok (.getfield 218, 3) := by decide +kernel
theorem dX5_minersWork_70 : decode cX5_minersWork 70 = .ok (.iadd, 1) := by decide +kernel
theorem dX5_minersWork_71 : decode cX5_minersWork 71 = .ok (.putfield 221, 3) := by decide +kernel
theorem dX5_minersWork_74 : decode cX5_minersWork 74 = .ok (.aload_n 0, 1) := by decide +kernel
theorem dX5_minersWork_75 : decode cX5_minersWork 75 = .ok (.dup, 1) := by decide +kernel
theorem dX5_minersWork_76 : decode cX5_minersWork 76 = .ok (.getfield 83, 3) := by decide +kernel
theorem dX5_minersWork_79 : decode cX5_minersWork 79 = .ok (.aload_n 0, 1) := by decide +kernel
theorem dX5_minersWork_80 : decode cX5_minersWork 80 = .ok (.getfield 11, 3) := by decide +kernel
theorem dX5_minersWork_83 : decode cX5_minersWork 83 = .ok (.iload_n 3, 1) := by decide +kernel
theorem dX5_minersWork_84 : decode cX5_minersWork 84 = .ok (.aaload, 1) := by decide +kernel
theorem dX5_minersWork_85 : decode cX5_minersWork 85 = .ok (.iload_n 3, 1) := by decide +kernel
theorem dX5_minersWork_86 : decode cX5_minersWork 86 = .ok (.aload_n 2, 1) := by decide +kernel
theorem dX5_minersWork_87 : decode cX5_minersWork 87 = .ok (.getfield 218, 3) := by decide +kernel
theorem dX5_minersWork_90 : decode cX5_minersWork 90 = .ok (.invokevirtual 238, 3) := by decide +kernel
theorem dX5_minersWork_93 : decode cX5_minersWork 93 = .ok (.iadd, 1) := by decide +kernel
theorem dX5_minersWork_94 : decode cX5_minersWork 94 = .ok (.putfield 83, 3) := by decide +kernel
theorem dX5_minersWork_97 : decode cX5_minersWork 97 = .ok (.goto 23, 3) := by decide +kernel
theorem dX5_minersWork_100 : decode cX5_minersWork 100 = .ok (.aload_n 2, 1) := by decide +kernel
theorem dX5_minersWork_101 : decode cX5_minersWork 101 = .ok (.dup, 1) := by decide +kernel
theorem dX5_minersWork_102 : decode cX5_minersWork 102 = .ok (.getfield 222, 3) := by decide +kernel
theorem dX5_minersWork_105 : decode cX5_minersWork 105 = .ok (.iconst 1, 1) := by decide +kernel
theorem dX5_minersWork_106 : decode cX5_minersWork 106 = .ok (.iadd, 1) := by decide +kernel
theorem dX5_minersWork_107 : decode cX5_minersWork 107 = .ok (.putfield 222, 3) := by decide +kernel
theorem dX5_minersWork_110 : decode cX5_minersWork 110 = .ok (.aload_n 0, 1) := by decide +kernel
theorem dX5_minersWork_111 : decode cX5_minersWork 111 = .ok (.dup, 1) := by decide +kernel
theorem dX5_minersWork_112 : decode cX5_minersWork 112 = .ok (.getfield 80, 3) := by decide +kernel
theorem dX5_minersWork_115 : decode cX5_minersWork 115 = .ok (.iconst 1, 1) := by decide +kernel
theorem dX5_minersWork_116 : decode cX5_minersWork 116 = .ok (.iadd, 1) := by decide +kernel
theorem dX5_minersWork_117 : decode cX5_minersWork 117 = .ok (.putfield 80, 3) := by decide +kernel
theorem dX5_minersWork_120 : decode cX5_minersWork 120 = .ok (.iinc 1 1, 3) := by decide +kernel
theorem dX5_minersWork_123 : decode cX5_minersWork 123 = .ok (.goto (-121), 3) := by decide +kernel
theorem dX5_minersWork_126 : decode cX5_minersWork 126 = .ok (.return_, 1) := by decide +kernel
theorem dX5_lampsBurn_0 : decode cX5_lampsBurn 0 = .ok (.iconst 0, 1) := by decide +kernel
theorem dX5_lampsBurn_1 : decode cX5_lampsBurn 1 = .ok (.istore_n 1, 1) := by decide +kernel
theorem dX5_lampsBurn_2 : decode cX5_lampsBurn 2 = .ok (.iload_n 1, 1) := by decide +kernel
theorem dX5_lampsBurn_3 : decode cX5_lampsBurn 3 = .ok (.aload_n 0, 1) := by decide +kernel
theorem dX5_lampsBurn_4 : decode cX5_lampsBurn 4 = .ok (.getfield 62, 3) := by decide +kernel
theorem dX5_lampsBurn_7 : decode cX5_lampsBurn 7 = .ok (.if_icmp .ge 46, 3) := by decide +kernel
theorem dX5_lampsBurn_10 : decode cX5_lampsBurn 10 = .ok (.aload_n 0, 1) := by decide +kernel
theorem dX5_lampsBurn_11 : decode cX5_lampsBurn 11 = .ok (.getfield 25, 3) := by decide +kernel
theorem dX5_lampsBurn_14 : decode cX5_lampsBurn 14 = .ok (.iload_n 1, 1) := by decide +kernel
theorem dX5_lampsBurn_15 : decode cX5_lampsBurn 15 = .ok (.aaload, 1) := by decide +kernel
theorem dX5_lampsBurn_16 : decode cX5_lampsBurn 16 = .ok (.getfield 96, 3) := by decide +kernel
theorem dX5_lampsBurn_19 : decode cX5_lampsBurn 19 = .ok (.ifCond .le 28, 3) := by decide +kernel
theorem dX5_lampsBurn_22 : decode cX5_lampsBurn 22 = .ok (.aload_n 0, 1) := by decide +kernel
theorem dX5_lampsBurn_23 : decode cX5_lampsBurn 23 = .ok (.getfield 25, 3) := by decide +kernel
theorem dX5_lampsBurn_26 : decode cX5_lampsBurn 26 = .ok (.iload_n 1, 1) := by decide +kernel
theorem dX5_lampsBurn_27 : decode cX5_lampsBurn 27 = .ok (.aaload, 1) := by decide +kernel
theorem dX5_lampsBurn_28 : decode cX5_lampsBurn 28 = .ok (.dup, 1) := by decide +kernel
theorem dX5_lampsBurn_29 : decode cX5_lampsBurn 29 = .ok (.getfield 96, 3) := by decide +kernel
theorem dX5_lampsBurn_32 : decode cX5_lampsBurn 32 = .ok (.iconst 1, 1) := by decide +kernel
theorem dX5_lampsBurn_33 : decode cX5_lampsBurn 33 = .ok (.isub, 1) := by decide +kernel
theorem dX5_lampsBurn_34 : decode cX5_lampsBurn 34 = .ok (.putfield 96, 3) := by decide +kernel
theorem dX5_lampsBurn_37 : decode cX5_lampsBurn 37 = .ok (.aload_n 0, 1) := by decide +kernel
theorem dX5_lampsBurn_38 : decode cX5_lampsBurn 38 = .ok (.dup, 1) := by decide +kernel
theorem dX5_lampsBurn_39 : decode cX5_lampsBurn 39 = .ok (.getfield 71, 3) := by decide +kernel
theorem dX5_lampsBurn_42 : decode cX5_lampsBurn 42 = .ok (.iconst 1, 1) := by decide +kernel
theorem dX5_lampsBurn_43 : decode cX5_lampsBurn 43 = .ok (.iadd, 1) := by decide +kernel
theorem dX5_lampsBurn_44 : decode cX5_lampsBurn 44 = .ok (.putfield 71, 3) := by decide +kernel
theorem dX5_lampsBurn_47 : decode cX5_lampsBurn 47 = .ok (.iinc 1 1, 3) := by decide +kernel
theorem dX5_lampsBurn_50 : decode cX5_lampsBurn 50 = .ok (.goto (-48), 3) := by decide +kernel
theorem dX5_lampsBurn_53 : decode cX5_lampsBurn 53 = .ok (.return_, 1) := by decide +kernel
theorem dX5_ladWorks_0 : decode cX5_ladWorks 0 = .ok (.iconst 0, 1) := by decide +kernel
theorem dX5_ladWorks_1 : decode cX5_ladWorks 1 = .ok (.istore_n 2, 1) := by decide +kernel
theorem dX5_ladWorks_2 : decode cX5_ladWorks 2 = .ok (.iconst 0, 1) := by decide +kernel
theorem dX5_ladWorks_3 : decode cX5_ladWorks 3 = .ok (.istore_n 3, 1) := by decide +kernel
theorem dX5_ladWorks_4 : decode cX5_ladWorks 4 = .ok (.iload_n 3, 1) := by decide +kernel
theorem dX5_ladWorks_5 : decode cX5_ladWorks 5 = .ok (.iload_n 1, 1) := by decide +kernel
theorem dX5_ladWorks_6 : decode cX5_ladWorks 6 = .ok (.bipush 12, 2) := by decide +kernel
theorem dX5_ladWorks_8 : decode cX5_ladWorks 8 = .ok (.iadd, 1) := by decide +kernel
theorem dX5_ladWorks_9 : decode cX5_ladWorks 9 = .ok (.if_icmp .gt 40, 3) := by decide +kernel
theorem dX5_ladWorks_12 : decode cX5_ladWorks 12 = .ok (.aload_n 0, 1) := by decide +kernel
theorem dX5_ladWorks_13 : decode cX5_ladWorks 13 = .ok (.getfield 32, 3) := by decide +kernel
theorem dX5_ladWorks_16 : decode cX5_ladWorks 16 = .ok (.getfield 223, 3) := by decide +kernel
theorem dX5_ladWorks_19 : decode cX5_ladWorks 19 = .ok (.ifCond .le 30, 3) := by decide +kernel
theorem dX5_ladWorks_22 : decode cX5_ladWorks 22 = .ok (.aload_n 0, 1) := by decide +kernel
theorem dX5_ladWorks_23 : decode cX5_ladWorks 23 = .ok (.invokevirtual 241, 3) := by decide +kernel
theorem dX5_ladWorks_26 : decode cX5_ladWorks 26 = .ok (.ifCond .ne 17, 3) := by decide +kernel
theorem dX5_ladWorks_29 : decode cX5_ladWorks 29 = .ok (.iload_n 2, 1) := by decide +kernel
theorem dX5_ladWorks_30 : decode cX5_ladWorks 30 = .ok (.iload_n 1, 1) := by decide +kernel
theorem dX5_ladWorks_31 : decode cX5_ladWorks 31 = .ok (.if_icmp .ne 5, 3) := by decide +kernel
theorem dX5_ladWorks_34 : decode cX5_ladWorks 34 = .ok (.iload_n 2, 1) := by decide +kernel
theorem dX5_ladWorks_35 : decode cX5_ladWorks 35 = .ok (.ireturn, 1) := by decide +kernel
theorem dX5_ladWorks_36 : decode cX5_ladWorks 36 = .ok (.aload_n 0, 1) := by decide +kernel
theorem dX5_ladWorks_37 : decode cX5_ladWorks 37 = .ok (.invokevirtual 244, 3) := by decide +kernel
theorem dX5_ladWorks_40 : decode cX5_ladWorks 40 = .ok (.iinc 2 1, 3) := by decide +kernel
theorem dX5_ladWorks_43 : decode cX5_ladWorks 43 = .ok (.iinc 3 1, 3) := by decide +kernel
theorem dX5_ladWorks_46 : decode cX5_ladWorks 46 = .ok (.goto (-42), 3) := by decide +kernel
theorem dX5_ladWorks_49 : decode cX5_ladWorks 49 = .ok (.iload_n 2, 1) := by decide +kernel
theorem dX5_ladWorks_50 : decode cX5_ladWorks 50 = .ok (.ireturn, 1) := by decide +kernel
theorem dX5_doesWhatNeedsNoStep_0 : decode cX5_doesWhatNeedsNoStep 0 = .ok (.aload_n 0, 1) := by decide +kernel
theorem dX5_doesWhatNeedsNoStep_1 : decode cX5_doesWhatNeedsNoStep 1 = .ok (.getfield 32, 3) := by decide +kernel
theorem dX5_doesWhatNeedsNoStep_4 : decode cX5_doesWhatNeedsNoStep 4 = .ok (.getfield 247, 3) := by decide +kernel
theorem dX5_doesWhatNeedsNoStep_7 : decode cX5_doesWhatNeedsNoStep 7 = .ok (.iconst 0, 1) := by decide +kernel
theorem dX5_doesWhatNeedsNoStep_8 : decode cX5_doesWhatNeedsNoStep 8 = .ok (.aaload, 1) := by decide +kernel
theorem dX5_doesWhatNeedsNoStep_9 : decode cX5_doesWhatNeedsNoStep 9 = .ok (.astore_n 1, 1) := by decide +kernel
theorem dX5_doesWhatNeedsNoStep_10 : decode cX5_doesWhatNeedsNoStep 10 = .ok (.aload_n 0, 1) := by decide +kernel
theorem dX5_doesWhatNeedsNoStep_11 : decode cX5_doesWhatNeedsNoStep 11 = .ok (.getfield 32, 3) := by decide +kernel
theorem dX5_doesWhatNeedsNoStep_14 : decode cX5_doesWhatNeedsNoStep 14 = .ok (.getfield 223, 3) := by decide +kernel
theorem dX5_doesWhatNeedsNoStep_17 : decode cX5_doesWhatNeedsNoStep 17 = .ok (.ifCond .eq 14, 3) := by decide +kernel
theorem dX5_doesWhatNeedsNoStep_20 : decode cX5_doesWhatNeedsNoStep 20 = .ok (.aload_n 0, 1) := by decide +kernel
theorem dX5_doesWhatNeedsNoStep_21 : decode cX5_doesWhatNeedsNoStep 21 = .ok (.aload_n 1, 1) := by decide +kernel
theorem dX5_doesWhatNeedsNoStep_22 : decode cX5_doesWhatNeedsNoStep 22 = .ok (.getfield 251, 3) := by decide +kernel
theorem dX5_doesWhatNeedsNoStep_25 : decode cX5_doesWhatNeedsNoStep 25 = .ok (.invokevirtual 166, 3) := by decide +kernel
theorem dX5_doesWhatNeedsNoStep_28 : decode cX5_doesWhatNeedsNoStep 28 = .ok (.ifCond .ne 5, 3) := by decide +kernel
theorem dX5_doesWhatNeedsNoStep_31 : decode cX5_doesWhatNeedsNoStep 31 = .ok (.iconst 0, 1) := by decide +kernel
theorem dX5_doesWhatNeedsNoStep_32 : decode cX5_doesWhatNeedsNoStep 32 = .ok (.ireturn, 1) := by decide +kernel
theorem dX5_doesWhatNeedsNoStep_33 : decode cX5_doesWhatNeedsNoStep 33 = .ok (.aload_n 0, 1) := by decide +kernel
theorem dX5_doesWhatNeedsNoStep_34 : decode cX5_doesWhatNeedsNoStep 34 = .ok (.getfield 25, 3) := by decide +kernel
theorem dX5_doesWhatNeedsNoStep_37 : decode cX5_doesWhatNeedsNoStep 37 = .ok (.aload_n 1, 1) := by decide +kernel
theorem dX5_doesWhatNeedsNoStep_38 : decode cX5_doesWhatNeedsNoStep 38 = .ok (.getfield 251, 3) := by decide +kernel
theorem dX5_doesWhatNeedsNoStep_41 : decode cX5_doesWhatNeedsNoStep 41 = .ok (.aaload, 1) := by decide +kernel
theorem dX5_doesWhatNeedsNoStep_42 : decode cX5_doesWhatNeedsNoStep 42 = .ok (.astore_n 2, 1) := by decide +kernel
theorem dX5_doesWhatNeedsNoStep_43 : decode cX5_doesWhatNeedsNoStep 43 = .ok (.aload_n 1, 1) := by decide +kernel
theorem dX5_doesWhatNeedsNoStep_44 : decode cX5_doesWhatNeedsNoStep 44 = .ok (.getfield 256, 3) := by decide +kernel
theorem dX5_doesWhatNeedsNoStep_47 : decode cX5_doesWhatNeedsNoStep 47 = .ok (.ifCond .ne 30, 3) := by decide +kernel
theorem dX5_doesWhatNeedsNoStep_50 : decode cX5_doesWhatNeedsNoStep 50 = .ok (.aload_n 0, 1) := by decide +kernel
theorem dX5_doesWhatNeedsNoStep_51 : decode cX5_doesWhatNeedsNoStep 51 = .ok (.getfield 32, 3) := by decide +kernel
theorem dX5_doesWhatNeedsNoStep_54 : decode cX5_doesWhatNeedsNoStep 54 = .ok (.getfield 259, 3) := by decide +kernel
theorem dX5_doesWhatNeedsNoStep_57 : decode cX5_doesWhatNeedsNoStep 57 = .ok (.iconst (-1), 1) := by decide +kernel
theorem dX5_doesWhatNeedsNoStep_58 : decode cX5_doesWhatNeedsNoStep 58 = .ok (.if_icmp .ne 12, 3) := by decide +kernel
theorem dX5_doesWhatNeedsNoStep_61 : decode cX5_doesWhatNeedsNoStep 61 = .ok (.aload_n 0, 1) := by decide +kernel
theorem dX5_doesWhatNeedsNoStep_62 : decode cX5_doesWhatNeedsNoStep 62 = .ok (.aload_n 1, 1) := by decide +kernel
theorem dX5_doesWhatNeedsNoStep_63 : decode cX5_doesWhatNeedsNoStep 63 = .ok (.aload_n 2, 1) := by decide +kernel
theorem dX5_doesWhatNeedsNoStep_64 : decode cX5_doesWhatNeedsNoStep 64 = .ok (.invokevirtual 260, 3) := by decide +kernel
theorem dX5_doesWhatNeedsNoStep_67 : decode cX5_doesWhatNeedsNoStep 67 = .ok (.goto 9, 3) := by decide +kernel
theorem dX5_doesWhatNeedsNoStep_70 : decode cX5_doesWhatNeedsNoStep 70 = .ok (.aload_n 0, 1) := by decide +kernel
theorem dX5_doesWhatNeedsNoStep_71 : decode cX5_doesWhatNeedsNoStep 71 = .ok (.aload_n 1, 1) := by decide +kernel
theorem dX5_doesWhatNeedsNoStep_72 : decode cX5_doesWhatNeedsNoStep 72 = .ok (.aload_n 2, 1) := by decide +kernel
theorem dX5_doesWhatNeedsNoStep_73 : decode cX5_doesWhatNeedsNoStep 73 = .ok (.invokevirtual 264, 3) := by decide +kernel
theorem dX5_doesWhatNeedsNoStep_76 : decode cX5_doesWhatNeedsNoStep 76 = .ok (.ireturn, 1) := by decide +kernel
theorem dX5_doesWhatNeedsNoStep_77 : decode cX5_doesWhatNeedsNoStep 77 = .ok (.aload_n 0, 1) := by decide +kernel
theorem dX5_doesWhatNeedsNoStep_78 : decode cX5_doesWhatNeedsNoStep 78 = .ok (.getfield 32, 3) := by decide +kernel
theorem dX5_doesWhatNeedsNoStep_81 : decode cX5_doesWhatNeedsNoStep 81 = .ok (.getfield 267, 3) := by decide +kernel
theorem dX5_doesWhatNeedsNoStep_84 : decode cX5_doesWhatNeedsNoStep 84 = .ok (.ifCond .eq 11, 3) := by decide +kernel
theorem dX5_doesWhatNeedsNoStep_87 : decode cX5_doesWhatNeedsNoStep 87 = .ok (.aload_n 0, 1) := by decide +kernel
theorem dX5_doesWhatNeedsNoStep_88 : decode cX5_doesWhatNeedsNoStep 88 = .ok (.aload_n 2, 1) := by decide +kernel
theorem dX5_doesWhatNeedsNoStep_89 : decode cX5_doesWhatNeedsNoStep 89 = .ok (.invokevirtual 271, 3) := by decide +kernel
theorem dX5_doesWhatNeedsNoStep_92 : decode cX5_doesWhatNeedsNoStep 92 = .ok (.goto 8, 3) := by decide +kernel
theorem dX5_doesWhatNeedsNoStep_95 : decode cX5_doesWhatNeedsNoStep 95 = .ok (.aload_n 0, 1) := by decide +kernel
theorem dX5_doesWhatNeedsNoStep_96 : decode cX5_doesWhatNeedsNoStep 96 = .ok (.aload_n 1, 1) := by decide +kernel
theorem dX5_doesWhatNeedsNoStep_97 : decode cX5_doesWhatNeedsNoStep 97 = .ok (.invokevirtual 275, 3) := by decide +kernel
theorem dX5_doesWhatNeedsNoStep_100 : decode cX5_doesWhatNeedsNoStep 100 = .ok (.ireturn, 1) := by decide +kernel
theorem dX5_takesLamp_0 : decode cX5_takesLamp 0 = .ok (.aload_n 0, 1) := by decide +kernel
theorem dX5_takesLamp_1 : decode cX5_takesLamp 1 = .ok (.getfield 32, 3) := by decide +kernel
theorem dX5_takesLamp_4 : decode cX5_takesLamp 4 = .ok (.aload_n 2, 1) := by decide +kernel
theorem dX5_takesLamp_5 : decode cX5_takesLamp 5 = .ok (.getfield 102, 3) := by decide +kernel
theorem dX5_takesLamp_8 : decode cX5_takesLamp 8 = .ok (.aload_n 2, 1) := by decide +kernel
theorem dX5_takesLamp_9 : decode cX5_takesLamp 9 = .ok (.getfield 110, 3) := by decide +kernel
theorem dX5_takesLamp_12 : decode cX5_takesLamp 12 = .ok (.invokevirtual 279, 3) := by decide +kernel
theorem dX5_takesLamp_15 : decode cX5_takesLamp 15 = .ok (.ifCond .ne 5, 3) := by decide +kernel
theorem dX5_takesLamp_18 : decode cX5_takesLamp 18 = .ok (.iconst 0, 1) := by decide +kernel
theorem dX5_takesLamp_19 : decode cX5_takesLamp 19 = .ok (.ireturn, 1) := by decide +kernel
theorem dX5_takesLamp_20 : decode cX5_takesLamp 20 = .ok (.aload_n 0, 1) := by decide +kernel
theorem dX5_takesLamp_21 : decode cX5_takesLamp 21 = .ok (.getfield 32, 3) := by decide +kernel
theorem dX5_takesLamp_24 : decode cX5_takesLamp 24 = .ok (.aload_n 2, 1) := by decide +kernel
theorem dX5_takesLamp_25 : decode cX5_takesLamp 25 = .ok (.getfield 102, 3) := by decide +kernel
theorem dX5_takesLamp_28 : decode cX5_takesLamp 28 = .ok (.putfield 282, 3) := by decide +kernel
theorem dX5_takesLamp_31 : decode cX5_takesLamp 31 = .ok (.aload_n 0, 1) := by decide +kernel
theorem dX5_takesLamp_32 : decode cX5_takesLamp 32 = .ok (.getfield 32, 3) := by decide +kernel
theorem dX5_takesLamp_35 : decode cX5_takesLamp 35 = .ok (.aload_n 1, 1) := by decide +kernel
theorem dX5_takesLamp_36 : decode cX5_takesLamp 36 = .ok (.getfield 251, 3) := by decide +kernel
theorem dX5_takesLamp_39 : decode cX5_takesLamp 39 = .ok (.putfield 259, 3) := by decide +kernel
theorem dX5_takesLamp_42 : decode cX5_takesLamp 42 = .ok (.aload_n 2, 1) := by decide +kernel
theorem dX5_takesLamp_43 : decode cX5_takesLamp 43 = .ok (.iconst (-1), 1) := by decide +kernel
theorem dX5_takesLamp_44 : decode cX5_takesLamp 44 = .ok (.putfield 102, 3) := by decide +kernel
theorem dX5_takesLamp_47 : decode cX5_takesLamp 47 = .ok (.aload_n 2, 1) := by decide +kernel
theorem dX5_takesLamp_48 : decode cX5_takesLamp 48 = .ok (.iconst (-1), 1) := by decide +kernel
theorem dX5_takesLamp_49 : decode cX5_takesLamp 49 = .ok (.putfield 110, 3) := by decide +kernel
theorem dX5_takesLamp_52 : decode cX5_takesLamp 52 = .ok (.iconst 1, 1) := by decide +kernel
theorem dX5_takesLamp_53 : decode cX5_takesLamp 53 = .ok (.ireturn, 1) := by decide +kernel
theorem dX5_hangsLamp_0 : decode cX5_hangsLamp 0 = .ok (.aload_n 0, 1) := by decide +kernel
theorem dX5_hangsLamp_1 : decode cX5_hangsLamp 1 = .ok (.getfield 32, 3) := by decide +kernel
theorem dX5_hangsLamp_4 : decode cX5_hangsLamp 4 = .ok (.aload_n 1, 1) := by decide +kernel
theorem dX5_hangsLamp_5 : decode cX5_hangsLamp 5 = .ok (.getfield 283, 3) := by decide +kernel
theorem dX5_hangsLamp_8 : decode cX5_hangsLamp 8 = .ok (.aload_n 1, 1) := by decide +kernel
theorem dX5_hangsLamp_9 : decode cX5_hangsLamp 9 = .ok (.getfield 284, 3) := by decide +kernel
theorem dX5_hangsLamp_12 : decode cX5_hangsLamp 12 = .ok (.invokevirtual 279, 3) := by decide +kernel
theorem dX5_hangsLamp_15 : decode cX5_hangsLamp 15 = .ok (.ifCond .ne 5, 3) := by decide +kernel
theorem dX5_hangsLamp_18 : decode cX5_hangsLamp 18 = .ok (.iconst 0, 1) := by decide +kernel
theorem dX5_hangsLamp_19 : decode cX5_hangsLamp 19 = .ok (.ireturn, 1) := by decide +kernel
theorem dX5_hangsLamp_20 : decode cX5_hangsLamp 20 = .ok (.aload_n 0, 1) := by decide +kernel
theorem dX5_hangsLamp_21 : decode cX5_hangsLamp 21 = .ok (.getfield 32, 3) := by decide +kernel
theorem dX5_hangsLamp_24 : decode cX5_hangsLamp 24 = .ok (.aload_n 1, 1) := by decide +kernel
theorem dX5_hangsLamp_25 : decode cX5_hangsLamp 25 = .ok (.getfield 283, 3) := by decide +kernel
theorem dX5_hangsLamp_28 : decode cX5_hangsLamp 28 = .ok (.putfield 282, 3) := by decide +kernel
theorem dX5_hangsLamp_31 : decode cX5_hangsLamp 31 = .ok (.aload_n 0, 1) := by decide +kernel
theorem dX5_hangsLamp_32 : decode cX5_hangsLamp 32 = .ok (.getfield 32, 3) := by decide +kernel
theorem dX5_hangsLamp_35 : decode cX5_hangsLamp 35 = .ok (.iconst (-1), 1) := by decide +kernel
theorem dX5_hangsLamp_36 : decode cX5_hangsLamp 36 = .ok (.putfield 259, 3) := by decide +kernel
theorem dX5_hangsLamp_39 : decode cX5_hangsLamp 39 = .ok (.aload_n 2, 1) := by decide +kernel
theorem dX5_hangsLamp_40 : decode cX5_hangsLamp 40 = .ok (.aload_n 1, 1) := by decide +kernel
theorem dX5_hangsLamp_41 : decode cX5_hangsLamp 41 = .ok (.getfield 283, 3) := by decide +kernel
theorem dX5_hangsLamp_44 : decode cX5_hangsLamp 44 = .ok (.putfield 102, 3) := by decide +kernel
theorem dX5_hangsLamp_47 : decode cX5_hangsLamp 47 = .ok (.aload_n 2, 1) := by decide +kernel
theorem dX5_hangsLamp_48 : decode cX5_hangsLamp 48 = .ok (.aload_n 1, 1) := by decide +kernel
theorem dX5_hangsLamp_49 : decode cX5_hangsLamp 49 = .ok (.getfield 284, 3) := by decide +kernel
theorem dX5_hangsLamp_52 : decode cX5_hangsLamp 52 = .ok (.putfield 110, 3) := by decide +kernel
theorem dX5_hangsLamp_55 : decode cX5_hangsLamp 55 = .ok (.aload_n 0, 1) := by decide +kernel
theorem dX5_hangsLamp_56 : decode cX5_hangsLamp 56 = .ok (.getfield 32, 3) := by decide +kernel
theorem dX5_hangsLamp_59 : decode cX5_hangsLamp 59 = .ok (.iconst 0, 1) := by decide +kernel
theorem dX5_hangsLamp_60 : decode cX5_hangsLamp 60 = .ok (.invokevirtual 206, 3) := by decide +kernel
theorem dX5_hangsLamp_63 : decode cX5_hangsLamp 63 = .ok (.pop, 1) := by decide +kernel
theorem dX5_hangsLamp_64 : decode cX5_hangsLamp 64 = .ok (.iconst 1, 1) := by decide +kernel
theorem dX5_hangsLamp_65 : decode cX5_hangsLamp 65 = .ok (.ireturn, 1) := by decide +kernel
theorem dX5_fetchesOil_0 : decode cX5_fetchesOil 0 = .ok (.aload_n 0, 1) := by decide +kernel
theorem dX5_fetchesOil_1 : decode cX5_fetchesOil 1 = .ok (.getfield 32, 3) := by decide +kernel
theorem dX5_fetchesOil_4 : decode cX5_fetchesOil 4 = .ok (.getfield 285, 3) := by decide +kernel
theorem dX5_fetchesOil_7 : decode cX5_fetchesOil 7 = .ok (.ifCond .eq 5, 3) := by decide +kernel
theorem dX5_fetchesOil_10 : decode cX5_fetchesOil 10 = .ok (.iconst 0, 1) := by decide +kernel
theorem dX5_fetchesOil_11 : decode cX5_fetchesOil 11 = .ok (.ireturn, 1) := by decide +kernel
theorem dX5_fetchesOil_12 : decode cX5_fetchesOil 12 = .ok (.aload_n 0, 1) := by decide +kernel
theorem dX5_fetchesOil_13 : decode cX5_fetchesOil 13 = .ok (.getfield 32, 3) := by decide +kernel
theorem dX5_fetchesOil_16 : decode cX5_fetchesOil 16 = .ok (.aload_n 1, 1) := by decide +kernel
theorem dX5_fetchesOil_17 : decode cX5_fetchesOil 17 = .ok (.getfield 286, 3) := by decide +kernel
theorem dX5_fetchesOil_20 : decode cX5_fetchesOil 20 = .ok (.aload_n 0, 1) := by decide +kernel
theorem dX5_fetchesOil_21 : decode cX5_fetchesOil 21 = .ok (.getfield 68, 3) := by decide +kernel
theorem dX5_fetchesOil_24 : decode cX5_fetchesOil 24 = .ok (.invokestatic 122, 3) := by decide +kernel
theorem dX5_fetchesOil_27 : decode cX5_fetchesOil 27 = .ok (.putfield 289, 3) := by decide +kernel
theorem dX5_fetchesOil_30 : decode cX5_fetchesOil 30 = .ok (.aload_n 0, 1) := by decide +kernel
theorem dX5_fetchesOil_31 : decode cX5_fetchesOil 31 = .ok (.getfield 32, 3) := by decide +kernel
theorem dX5_fetchesOil_34 : decode cX5_fetchesOil 34 = .ok (.iconst 1, 1) := by decide +kernel
theorem dX5_fetchesOil_35 : decode cX5_fetchesOil 35 = .ok (.putfield 267, 3) := by decide +kernel
theorem dX5_fetchesOil_38 : decode cX5_fetchesOil 38 = .ok (.aload_n 0, 1) := by decide +kernel
theorem dX5_fetchesOil_39 : decode cX5_fetchesOil 39 = .ok (.dup, 1) := by decide +kernel
theorem dX5_fetchesOil_40 : decode cX5_fetchesOil 40 = .ok (.getfield 68, 3) := by decide +kernel
theorem dX5_fetchesOil_43 : decode cX5_fetchesOil 43 = .ok (.aload_n 0, 1) := by decide +kernel
theorem dX5_fetchesOil_44 : decode cX5_fetchesOil 44 = .ok (.getfield 32, 3) := by decide +kernel
theorem dX5_fetchesOil_47 : decode cX5_fetchesOil 47 = .ok (.getfield 289, 3) := by decide +kernel
theorem dX5_fetchesOil_50 : decode cX5_fetchesOil 50 = .ok (.isub, 1) := by decide +kernel
theorem dX5_fetchesOil_51 : decode cX5_fetchesOil 51 = .ok (.putfield 68, 3) := by decide +kernel
theorem dX5_fetchesOil_54 : decode cX5_fetchesOil 54 = .ok (.iconst 1, 1) := by decide +kernel
theorem dX5_fetchesOil_55 : decode cX5_fetchesOil 55 = .ok (.ireturn, 1) := by decide +kernel
theorem dX5_poursOil_0 : decode cX5_poursOil 0 = .ok (.aload_n 0, 1) := by decide +kernel
theorem dX5_poursOil_1 : decode cX5_poursOil 1 = .ok (.getfield 32, 3) := by decide +kernel
theorem dX5_poursOil_4 : decode cX5_poursOil 4 = .ok (.aload_n 1, 1) := by decide +kernel
theorem dX5_poursOil_5 : decode cX5_poursOil 5 = .ok (.getfield 102, 3) := by decide +kernel
theorem dX5_poursOil_8 : decode cX5_poursOil 8 = .ok (.aload_n 1, 1) := by decide +kernel
theorem dX5_poursOil_9 : decode cX5_poursOil 9 = .ok (.getfield 110, 3) := by decide +kernel
theorem dX5_poursOil_12 : decode cX5_poursOil 12 = .ok (.invokevirtual 279, 3) := by decide +kernel
theorem dX5_poursOil_15 : decode cX5_poursOil 15 = .ok (.ifCond .ne 5, 3) := by decide +kernel
theorem dX5_poursOil_18 : decode cX5_poursOil 18 = .ok (.iconst 0, 1) := by decide +kernel
theorem dX5_poursOil_19 : decode cX5_poursOil 19 = .ok (.ireturn, 1) := by decide +kernel
theorem dX5_poursOil_20 : decode cX5_poursOil 20 = .ok (.aload_n 0, 1) := by decide +kernel
theorem dX5_poursOil_21 : decode cX5_poursOil 21 = .ok (.getfield 32, 3) := by decide +kernel
theorem dX5_poursOil_24 : decode cX5_poursOil 24 = .ok (.getfield 289, 3) := by decide +kernel
theorem dX5_poursOil_27 : decode cX5_poursOil 27 = .ok (.bipush 99, 2) := by decide +kernel
theorem dX5_poursOil_29 : decode cX5_poursOil 29 = .ok (.aload_n 1, 1) := by decide +kernel
theorem dX5_poursOil_30 : decode cX5_poursOil 30 = .ok (.getfield 96, 3) := by decide +kernel
theorem dX5_poursOil_33 : decode cX5_poursOil 33 = .ok (.isub, 1) := by decide +kernel
theorem dX5_poursOil_34 : decode cX5_poursOil 34 = .ok (.invokestatic 122, 3) := by decide +kernel
theorem dX5_poursOil_37 : decode cX5_poursOil 37 = .ok (.istore_n 2, 1) := by decide +kernel
theorem dX5_poursOil_38 : decode cX5_poursOil 38 = .ok (.aload_n 0, 1) := by decide +kernel
theorem dX5_poursOil_39 : decode cX5_poursOil 39 = .ok (.getfield 32, 3) := by decide +kernel
theorem dX5_poursOil_42 : decode cX5_poursOil 42 = .ok (.aload_n 1, 1) := by decide +kernel
theorem dX5_poursOil_43 : decode cX5_poursOil 43 = .ok (.getfield 102, 3) := by decide +kernel
theorem dX5_poursOil_46 : decode cX5_poursOil 46 = .ok (.putfield 282, 3) := by decide +kernel
theorem dX5_poursOil_49 : decode cX5_poursOil 49 = .ok (.aload_n 1, 1) := by decide +kernel
theorem dX5_poursOil_50 : decode cX5_poursOil 50 = .ok (.dup, 1) := by decide +kernel
theorem dX5_poursOil_51 : decode cX5_poursOil 51 = .ok (.getfield 96, 3) := by decide +kernel
theorem dX5_poursOil_54 : decode cX5_poursOil 54 = .ok (.iload_n 2, 1) := by decide +kernel
theorem dX5_poursOil_55 : decode cX5_poursOil 55 = .ok (.iadd, 1) := by decide +kernel
theorem dX5_poursOil_56 : decode cX5_poursOil 56 = .ok (.putfield 96, 3) := by decide +kernel
theorem dX5_poursOil_59 : decode cX5_poursOil 59 = .ok (.aload_n 0, 1) := by decide +kernel
theorem dX5_poursOil_60 : decode cX5_poursOil 60 = .ok (.dup, 1) := by decide +kernel
theorem dX5_poursOil_61 : decode cX5_poursOil 61 = .ok (.getfield 74, 3) := by decide +kernel
theorem dX5_poursOil_64 : decode cX5_poursOil 64 = .ok (.aload_n 0, 1) := by decide +kernel
theorem dX5_poursOil_65 : decode cX5_poursOil 65 = .ok (.getfield 32, 3) := by decide +kernel
theorem dX5_poursOil_68 : decode cX5_poursOil 68 = .ok (.getfield 289, 3) := by decide +kernel
theorem dX5_poursOil_71 : decode cX5_poursOil 71 = .ok (.iload_n 2, 1) := by decide +kernel
theorem dX5_poursOil_72 : decode cX5_poursOil 72 = .ok (.isub, 1) := by decide +kernel
theorem dX5_poursOil_73 : decode cX5_poursOil 73 = .ok (.iadd, 1) := by decide +kernel
theorem dX5_poursOil_74 : decode cX5_poursOil 74 = .ok (.putfield 74, 3) := by decide +kernel
theorem dX5_poursOil_77 : decode cX5_poursOil 77 = .ok (.aload_n 0, 1) := by decide +kernel
theorem dX5_poursOil_78 : decode cX5_poursOil 78 = .ok (.getfield 32, 3) := by decide +kernel
theorem dX5_poursOil_81 : decode cX5_poursOil 81 = .ok (.iconst 0, 1) := by decide +kernel
theorem dX5_poursOil_82 : decode cX5_poursOil 82 = .ok (.putfield 289, 3) := by decide +kernel
theorem dX5_poursOil_85 : decode cX5_poursOil 85 = .ok (.aload_n 0, 1) := by decide +kernel
theorem dX5_poursOil_86 : decode cX5_poursOil 86 = .ok (.getfield 32, 3) := by decide +kernel
theorem dX5_poursOil_89 : decode cX5_poursOil 89 = .ok (.iconst 0, 1) := by decide +kernel
theorem dX5_poursOil_90 : decode cX5_poursOil 90 = .ok (.invokevirtual 206, 3) := by decide +kernel
theorem dX5_poursOil_93 : decode cX5_poursOil 93 = .ok (.pop, 1) := by decide +kernel
theorem dX5_poursOil_94 : decode cX5_poursOil 94 = .ok (.iconst 1, 1) := by decide +kernel
theorem dX5_poursOil_95 : decode cX5_poursOil 95 = .ok (.ireturn, 1) := by decide +kernel
theorem dX5_makesStep_0 : decode cX5_makesStep 0 = .ok (.aload_n 0, 1) := by decide +kernel
theorem dX5_makesStep_1 : decode cX5_makesStep 1 = .ok (.getfield 32, 3) := by decide +kernel
theorem dX5_makesStep_4 : decode cX5_makesStep 4 = .ok (.getfield 247, 3) := by decide +kernel
theorem dX5_makesStep_7 : decode cX5_makesStep 7 = .ok (.iconst 0, 1) := by decide +kernel
theorem dX5_makesStep_8 : decode cX5_makesStep 8 = .ok (.aaload, 1) := by decide +kernel
theorem dX5_makesStep_9 : decode cX5_makesStep 9 = .ok (.astore_n 1, 1) := by decide +kernel
theorem dX5_makesStep_10 : decode cX5_makesStep 10 = .ok (.aload_n 1, 1) := by decide +kernel
theorem dX5_makesStep_11 : decode cX5_makesStep 11 = .ok (.getfield 256, 3) := by decide +kernel
theorem dX5_makesStep_14 : decode cX5_makesStep 14 = .ok (.iconst 1, 1) := by decide +kernel
theorem dX5_makesStep_15 : decode cX5_makesStep 15 = .ok (.if_icmp .ne 31, 3) := by decide +kernel
theorem dX5_makesStep_18 : decode cX5_makesStep 18 = .ok (.aload_n 0, 1) := by decide +kernel
theorem dX5_makesStep_19 : decode cX5_makesStep 19 = .ok (.getfield 32, 3) := by decide +kernel
theorem dX5_makesStep_22 : decode cX5_makesStep 22 = .ok (.getfield 267, 3) := by decide +kernel
theorem dX5_makesStep_25 : decode cX5_makesStep 25 = .ok (.ifCond .ne 21, 3) := by decide +kernel
theorem dX5_makesStep_28 : decode cX5_makesStep 28 = .ok (.aload_n 0, 1) := by decide +kernel
theorem dX5_makesStep_29 : decode cX5_makesStep 29 = .ok (.getfield 32, 3) := by decide +kernel
theorem dX5_makesStep_32 : decode cX5_makesStep 32 = .ok (.aload_n 0, 1) := by decide +kernel
theorem dX5_makesStep_33 : decode cX5_makesStep 33 = .ok (.getfield 32, 3) := by decide +kernel
theorem dX5_makesStep_36 : decode cX5_makesStep 36 = .ok (.getfield 282, 3) := by decide +kernel
theorem dX5_makesStep_39 : decode cX5_makesStep 39 = .ok (.iconst 0, 1) := by decide +kernel
theorem dX5_makesStep_40 : decode cX5_makesStep 40 = .ok (.invokevirtual 290, 3) := by decide +kernel
theorem dX5_makesStep_43 : decode cX5_makesStep 43 = .ok (.goto 81, 3) := by decide +kernel
theorem dX5_makesStep_46 : decode cX5_makesStep 46 = .ok (.aload_n 1, 1) := by decide +kernel
theorem dX5_makesStep_47 : decode cX5_makesStep 47 = .ok (.getfield 256, 3) := by decide +kernel
theorem dX5_makesStep_50 : decode cX5_makesStep 50 = .ok (.ifCond .ne 32, 3) := by decide +kernel
theorem dX5_makesStep_53 : decode cX5_makesStep 53 = .ok (.aload_n 0, 1) := by decide +kernel
theorem dX5_makesStep_54 : decode cX5_makesStep 54 = .ok (.getfield 32, 3) := by decide +kernel
theorem dX5_makesStep_57 : decode cX5_makesStep 57 = .ok (.getfield 259, 3) := by decide +kernel
theorem dX5_makesStep_60 : decode cX5_makesStep 60 = .ok (.iconst (-1), 1) := by decide +kernel
theorem dX5_makesStep_61 : decode cX5_makesStep 61 = .ok (.if_icmp .eq 21, 3) := by decide +kernel
theorem dX5_makesStep_64 : decode cX5_makesStep 64 = .ok (.aload_n 0, 1) := by decide +kernel
theorem dX5_makesStep_65 : decode cX5_makesStep 65 = .ok (.getfield 32, 3) := by decide +kernel
theorem dX5_makesStep_68 : decode cX5_makesStep 68 = .ok (.aload_n 1, 1) := by decide +kernel
theorem dX5_makesStep_69 : decode cX5_makesStep 69 = .ok (.getfield 283, 3) := by decide +kernel
theorem dX5_makesStep_72 : decode cX5_makesStep 72 = .ok (.aload_n 1, 1) := by decide +kernel
theorem dX5_makesStep_73 : decode cX5_makesStep 73 = .ok (.getfield 284, 3) := by decide +kernel
theorem dX5_makesStep_76 : decode cX5_makesStep 76 = .ok (.invokevirtual 290, 3) := by decide +kernel
theorem dX5_makesStep_79 : decode cX5_makesStep 79 = .ok (.goto 45, 3) := by decide +kernel
theorem dX5_makesStep_82 : decode cX5_makesStep 82 = .ok (.aload_n 0, 1) := by decide +kernel
theorem dX5_makesStep_83 : decode cX5_makesStep 83 = .ok (.aload_n 1, 1) := by decide +kernel
theorem dX5_makesStep_84 : decode cX5_makesStep 84 = .ok (.getfield 251, 3) := by decide +kernel
theorem dX5_makesStep_87 : decode cX5_makesStep 87 = .ok (.invokevirtual 166, 3) := by decide +kernel
theorem dX5_makesStep_90 : decode cX5_makesStep 90 = .ok (.ifCond .eq 34, 3) := by decide +kernel
theorem dX5_makesStep_93 : decode cX5_makesStep 93 = .ok (.aload_n 0, 1) := by decide +kernel
theorem dX5_makesStep_94 : decode cX5_makesStep 94 = .ok (.getfield 32, 3) := by decide +kernel
theorem dX5_makesStep_97 : decode cX5_makesStep 97 = .ok (.aload_n 0, 1) := by decide +kernel
theorem dX5_makesStep_98 : decode cX5_makesStep 98 = .ok (.getfield 25, 3) := by decide +kernel
theorem dX5_makesStep_101 : decode cX5_makesStep 101 = .ok (.aload_n 1, 1) := by decide +kernel
theorem dX5_makesStep_102 : decode cX5_makesStep 102 = .ok (.getfield 251, 3) := by decide +kernel
theorem dX5_makesStep_105 : decode cX5_makesStep 105 = .ok (.aaload, 1) := by decide +kernel
theorem dX5_makesStep_106 : decode cX5_makesStep 106 = .ok (.getfield 102, 3) := by decide +kernel
theorem dX5_makesStep_109 : decode cX5_makesStep 109 = .ok (.aload_n 0, 1) := by decide +kernel
theorem dX5_makesStep_110 : decode cX5_makesStep 110 = .ok (.getfield 25, 3) := by decide +kernel
theorem dX5_makesStep_113 : decode cX5_makesStep 113 = .ok (.aload_n 1, 1) := by decide +kernel
theorem dX5_makesStep_114 : decode cX5_makesStep 114 = .ok (.getfield 251, 3) := by decide +kernel
theorem dX5_makesStep_117 : decode cX5_makesStep 117 = .ok (.aaload, 1) := by decide +kernel
theorem dX5_makesStep_118 : decode cX5_makesStep 118 = .ok (.getfield 110, 3) := by decide +kernel
theorem dX5_makesStep_121 : decode cX5_makesStep 121 = .ok (.invokevirtual 290, 3) := by decide +kernel
theorem dX5_makesStep_124 : decode cX5_makesStep 124 = .ok (.return_, 1) := by decide +kernel
theorem dX5_ladSeesTheDark_0 : decode cX5_ladSeesTheDark 0 = .ok (.iconst 0, 1) := by decide +kernel
theorem dX5_ladSeesTheDark_1 : decode cX5_ladSeesTheDark 1 = .ok (.istore_n 1, 1) := by decide +kernel
theorem dX5_ladSeesTheDark_2 : decode cX5_ladSeesTheDark 2 = .ok (.iload_n 1, 1) := by decide +kernel
theorem dX5_ladSeesTheDark_3 : decode cX5_ladSeesTheDark 3 = .ok (.aload_n 0, 1) := by decide +kernel
theorem dX5_ladSeesTheDark_4 : decode cX5_ladSeesTheDark 4 = .ok (.getfield 56, 3) := by decide +kernel
theorem dX5_ladSeesTheDark_7 : decode cX5_ladSeesTheDark 7 = .ok (.if_icmp .ge 75, 3) := by decide +kernel
theorem dX5_ladSeesTheDark_10 : decode cX5_ladSeesTheDark 10 = .ok (.aload_n 0, 1) := by decide +kernel
theorem dX5_ladSeesTheDark_11 : decode cX5_ladSeesTheDark 11 = .ok (.getfield 11, 3) := by decide +kernel
theorem dX5_ladSeesTheDark_14 : decode cX5_ladSeesTheDark 14 = .ok (.iload_n 1, 1) := by decide +kernel
theorem dX5_ladSeesTheDark_15 : decode cX5_ladSeesTheDark 15 = .ok (.aaload, 1) := by decide +kernel
theorem dX5_ladSeesTheDark_16 : decode cX5_ladSeesTheDark 16 = .ok (.getfield 93, 3) := by decide +kernel
theorem dX5_ladSeesTheDark_19 : decode cX5_ladSeesTheDark 19 = .ok (.istore_n 2, 1) := by decide +kernel
theorem dX5_ladSeesTheDark_20 : decode cX5_ladSeesTheDark 20 = .ok (.iload_n 2, 1) := by decide +kernel
theorem dX5_ladSeesTheDark_21 : decode cX5_ladSeesTheDark 21 = .ok (.iconst 1, 1) := by decide +kernel
theorem dX5_ladSeesTheDark_22 : decode cX5_ladSeesTheDark 22 = .ok (.if_icmp .le 54, 3) := by decide +kernel
theorem dX5_ladSeesTheDark_25 : decode cX5_ladSeesTheDark 25 = .ok (.iload_n 2, 1) := by decide +kernel
theorem dX5_ladSeesTheDark_26 : decode cX5_ladSeesTheDark 26 = .ok (.bipush 60, 2) := by decide +kernel
theorem dX5_ladSeesTheDark_28 : decode cX5_ladSeesTheDark 28 = .ok (.if_icmp .ge 48, 3) := by decide +kernel
theorem dX5_ladSeesTheDark_31 : decode cX5_ladSeesTheDark 31 = .ok (.aload_n 0, 1) := by decide +kernel
theorem dX5_ladSeesTheDark_32 : decode cX5_ladSeesTheDark 32 = .ok (.iload_n 1, 1) := by decide +kernel
theorem dX5_ladSeesTheDark_33 : decode cX5_ladSeesTheDark 33 = .ok (.invokevirtual 294, 3) := by decide +kernel
theorem dX5_ladSeesTheDark_36 : decode cX5_ladSeesTheDark 36 = .ok (.ifCond .le 40, 3) := by decide +kernel
theorem dX5_ladSeesTheDark_39 : decode cX5_ladSeesTheDark 39 = .ok (.aload_n 0, 1) := by decide +kernel
theorem dX5_ladSeesTheDark_40 : decode cX5_ladSeesTheDark 40 = .ok (.iload_n 1, 1) := by decide +kernel
theorem dX5_ladSeesTheDark_41 : decode cX5_ladSeesTheDark 41 = .ok (.iload_n 2, 1) := by decide +kernel
theorem dX5_ladSeesTheDark_42 : decode cX5_ladSeesTheDark 42 = .ok (.invokevirtual 107, 3) := by decide +kernel
theorem dX5_ladSeesTheDark_45 : decode cX5_ladSeesTheDark 45 = .ok (.ifCond .ne 31, 3) := by decide +kernel
theorem dX5_ladSeesTheDark_48 : decode cX5_ladSeesTheDark 48 = .ok (.aload_n 0, 1) := by decide +kernel
theorem dX5_ladSeesTheDark_49 : decode cX5_ladSeesTheDark 49 = .ok (.iload_n 1, 1) := by decide +kernel
theorem dX5_ladSeesTheDark_50 : decode cX5_ladSeesTheDark 50 = .ok (.iload_n 2, 1) := by decide +kernel
theorem dX5_ladSeesTheDark_51 : decode cX5_ladSeesTheDark 51 = .ok (.iconst 1, 1) := by decide +kernel
theorem dX5_ladSeesTheDark_52 : decode cX5_ladSeesTheDark 52 = .ok (.isub, 1) := by decide +kernel
theorem dX5_ladSeesTheDark_53 : decode cX5_ladSeesTheDark 53 = .ok (.invokevirtual 297, 3) := by decide +kernel
theorem dX5_ladSeesTheDark_56 : decode cX5_ladSeesTheDark 56 = .ok (.istore_n 3, 1) := by decide +kernel
theorem dX5_ladSeesTheDark_57 : decode cX5_ladSeesTheDark 57 = .ok (.iload_n 3, 1) := by decide +kernel
theorem dX5_ladSeesTheDark_58 : decode cX5_ladSeesTheDark 58 = .ok (.iconst (-1), 1) := by decide +kernel
theorem dX5_ladSeesTheDark_59 : decode cX5_ladSeesTheDark 59 = .ok (.if_icmp .eq 17, 3) := by decide +kernel
theorem dX5_ladSeesTheDark_62 : decode cX5_ladSeesTheDark 62 = .ok (.aload_n 0, 1) := by decide +kernel
theorem dX5_ladSeesTheDark_63 : decode cX5_ladSeesTheDark 63 = .ok (.getfield 32, 3) := by decide +kernel
theorem dX5_ladSeesTheDark_66 : decode cX5_ladSeesTheDark 66 = .ok (.iload_n 3, 1) := by decide +kernel
theorem dX5_ladSeesTheDark_67 : decode cX5_ladSeesTheDark 67 = .ok (.iload_n 1, 1) := by decide +kernel
theorem dX5_ladSeesTheDark_68 : decode cX5_ladSeesTheDark 68 = .ok (.iload_n 2, 1) := by decide +kernel
theorem dX5_ladSeesTheDark_69 : decode cX5_ladSeesTheDark 69 = .ok (.iconst 1, 1) := by decide +kernel
theorem dX5_ladSeesTheDark_70 : decode cX5_ladSeesTheDark 70 = .ok (.isub, 1) := by decide +kernel
theorem dX5_ladSeesTheDark_71 : decode cX5_ladSeesTheDark 71 = .ok (.invokevirtual 199, 3) := by decide +kernel
theorem dX5_ladSeesTheDark_74 : decode cX5_ladSeesTheDark 74 = .ok (.pop, 1) := by decide +kernel
theorem dX5_ladSeesTheDark_75 : decode cX5_ladSeesTheDark 75 = .ok (.return_, 1) := by decide +kernel
theorem dX5_ladSeesTheDark_76 : decode cX5_ladSeesTheDark 76 = .ok (.iinc 1 1, 3) := by decide +kernel
theorem dX5_ladSeesTheDark_79 : decode cX5_ladSeesTheDark 79 = .ok (.goto (-77), 3) := by decide +kernel
theorem dX5_ladSeesTheDark_82 : decode cX5_ladSeesTheDark 82 = .ok (.return_, 1) := by decide +kernel
theorem dX5_fullestLampBelow_0 : decode cX5_fullestLampBelow 0 = .ok (.iconst (-1), 1) := by decide +kernel
theorem dX5_fullestLampBelow_1 : decode cX5_fullestLampBelow 1 = .ok (.istore_n 3, 1) := by decide +kernel
theorem dX5_fullestLampBelow_2 : decode cX5_fullestLampBelow 2 = .ok (.iconst 0, 1) := by decide +kernel
theorem dX5_fullestLampBelow_3 : decode cX5_fullestLampBelow 3 = .ok (.istore 4, 2) := by decide +kernel
theorem dX5_fullestLampBelow_5 : decode cX5_fullestLampBelow 5 = .ok (.iconst 0, 1) := by decide +kernel
theorem dX5_fullestLampBelow_6 : decode cX5_fullestLampBelow 6 = .ok (.istore 5, 2) := by decide +kernel
theorem dX5_fullestLampBelow_8 : decode cX5_fullestLampBelow 8 = .ok (.iload 5, 2) := by decide +kernel
theorem dX5_fullestLampBelow_10 : decode cX5_fullestLampBelow 10 = .ok (.aload_n 0, 1) := by decide +kernel
theorem dX5_fullestLampBelow_11 : decode cX5_fullestLampBelow 11 = .ok (.getfield 62, 3) := by decide +kernel
theorem dX5_fullestLampBelow_14 : decode cX5_fullestLampBelow 14 = .ok (.if_icmp .ge 67, 3) := by decide +kernel
theorem dX5_fullestLampBelow_17 : decode cX5_fullestLampBelow 17 = .ok (.aload_n 0, 1) := by decide +kernel
theorem dX5_fullestLampBelow_18 : decode cX5_fullestLampBelow 18 = .ok (.getfield 25, 3) := by decide +kernel
theorem dX5_fullestLampBelow_21 : decode cX5_fullestLampBelow 21 = .ok (.iload 5, 2) := by decide +kernel
theorem dX5_fullestLampBelow_23 : decode cX5_fullestLampBelow 23 = .ok (.aaload, 1) := by decide +kernel
theorem dX5_fullestLampBelow_24 : decode cX5_fullestLampBelow 24 = .ok (.iload_n 1, 1) := by decide +kernel
theorem dX5_fullestLampBelow_25 : decode cX5_fullestLampBelow 25 = .ok (.invokevirtual 125, 3) := by decide +kernel
theorem dX5_fullestLampBelow_28 : decode cX5_fullestLampBelow 28 = .ok (.ifCond .eq 47, 3) := by decide +kernel
theorem dX5_fullestLampBelow_31 : decode cX5_fullestLampBelow 31 = .ok (.aload_n 0, 1) := by decide +kernel
theorem dX5_fullestLampBelow_32 : decode cX5_fullestLampBelow 32 = .ok (.getfield 25, 3) := by decide +kernel
theorem dX5_fullestLampBelow_35 : decode cX5_fullestLampBelow 35 = .ok (.iload 5, 2) := by decide +kernel
theorem dX5_fullestLampBelow_37 : decode cX5_fullestLampBelow 37 = .ok (.aaload, 1) := by decide +kernel
theorem dX5_fullestLampBelow_38 : decode cX5_fullestLampBelow 38 = .ok (.getfield 110, 3) := by decide +kernel
theorem dX5_fullestLampBelow_41 : decode cX5_fullestLampBelow 41 = .ok (.iload_n 2, 1) := by decide +kernel
theorem dX5_fullestLampBelow_42 : decode cX5_fullestLampBelow 42 = .ok (.if_icmp .ge 33, 3) := by decide +kernel
theorem dX5_fullestLampBelow_45 : decode cX5_fullestLampBelow 45 = .ok (.aload_n 0, 1) := by decide +kernel
theorem dX5_fullestLampBelow_46 : decode cX5_fullestLampBelow 46 = .ok (.getfield 25, 3) := by decide +kernel
theorem dX5_fullestLampBelow_49 : decode cX5_fullestLampBelow 49 = .ok (.iload 5, 2) := by decide +kernel
theorem dX5_fullestLampBelow_51 : decode cX5_fullestLampBelow 51 = .ok (.aaload, 1) := by decide +kernel
theorem dX5_fullestLampBelow_52 : decode cX5_fullestLampBelow 52 = .ok (.getfield 96, 3) := by decide +kernel
theorem dX5_fullestLampBelow_55 : decode cX5_fullestLampBelow 55 = .ok (.iload 4, 2) := by decide +kernel
theorem dX5_fullestLampBelow_57 : decode cX5_fullestLampBelow 57 = .ok (.if_icmp .le 18, 3) := by decide +kernel
theorem dX5_fullestLampBelow_60 : decode cX5_fullestLampBelow 60 = .ok (.iload 5, 2) := by decide +kernel
theorem dX5_fullestLampBelow_62 : decode cX5_fullestLampBelow 62 = .ok (.istore_n 3, 1) := by decide +kernel
theorem dX5_fullestLampBelow_63 : decode cX5_fullestLampBelow 63 = .ok (.aload_n 0, 1) := by decide +kernel
theorem dX5_fullestLampBelow_64 : decode cX5_fullestLampBelow 64 = .ok (.getfield 25, 3) := by decide +kernel
theorem dX5_fullestLampBelow_67 : decode cX5_fullestLampBelow 67 = .ok (.iload 5, 2) := by decide +kernel
theorem dX5_fullestLampBelow_69 : decode cX5_fullestLampBelow 69 = .ok (.aaload, 1) := by decide +kernel
theorem dX5_fullestLampBelow_70 : decode cX5_fullestLampBelow 70 = .ok (.getfield 96, 3) := by decide +kernel
theorem dX5_fullestLampBelow_73 : decode cX5_fullestLampBelow 73 = .ok (.istore 4, 2) := by decide +kernel
theorem dX5_fullestLampBelow_75 : decode cX5_fullestLampBelow 75 = .ok (.iinc 5 1, 3) := by decide +kernel
theorem dX5_fullestLampBelow_78 : decode cX5_fullestLampBelow 78 = .ok (.goto (-70), 3) := by decide +kernel
theorem dX5_fullestLampBelow_81 : decode cX5_fullestLampBelow 81 = .ok (.iload_n 3, 1) := by decide +kernel
theorem dX5_fullestLampBelow_82 : decode cX5_fullestLampBelow 82 = .ok (.ireturn, 1) := by decide +kernel
theorem dX6_init_0 : decode cX6_init 0 = .ok (.aload_n 0, 1) := by decide +kernel
theorem dX6_init_1 : decode cX6_init 1 = .ok (.invokespecial 3, 3) := by decide +kernel
theorem dX6_init_4 : decode cX6_init 4 = .ok (.aload_n 0, 1) := by decide +kernel
theorem dX6_init_5 : decode cX6_init 5 = .ok (.bipush 120, 2) := by decide +kernel
theorem dX6_init_7 : decode cX6_init 7 = .ok (.newarray .char, 2) := by decide +kernel
theorem dX6_init_9 : decode cX6_init 9 = .ok (.putfield 9, 3) := by decide +kernel
theorem dX6_init_12 : decode cX6_init 12 = .ok (.return_, 1) := by decide +kernel
theorem dX6_isFull_0 : decode cX6_isFull 0 = .ok (.aload_n 0, 1) := by decide +kernel
theorem dX6_isFull_1 : decode cX6_isFull 1 = .ok (.getfield 15, 3) := by decide +kernel
theorem dX6_isFull_4 : decode cX6_isFull 4 = .ok (.bipush 120, 2) := by decide +kernel
theorem dX6_isFull_6 : decode cX6_isFull 6 = .ok (.if_icmp .lt 7, 3) := by decide +kernel
theorem dX6_isFull_9 : decode cX6_isFull 9 = .ok (.iconst 1, 1) := by decide +kernel
theorem dX6_isFull_10 : decode cX6_isFull 10 = .ok (.goto 4, 3) := by decide +kernel
theorem dX6_isFull_13 : decode cX6_isFull 13 = .ok (.iconst 0, 1) := by decide +kernel
theorem dX6_isFull_14 : decode cX6_isFull 14 = .ok (.ireturn, 1) := by decide +kernel
theorem dX6_add_0 : decode cX6_add 0 = .ok (.aload_n 0, 1) := by decide +kernel
theorem dX6_add_1 : decode cX6_add 1 = .ok (.getfield 15, 3) := by decide +kernel
theorem dX6_add_4 : decode cX6_add 4 = .ok (.aload_n 0, 1) := by decide +kernel
theorem dX6_add_5 : decode cX6_add 5 = .ok (.getfield 9, 3) := by decide +kernel
theorem dX6_add_8 : decode cX6_add 8 = .ok (.arraylength, 1) := by decide +kernel
theorem dX6_add_9 : decode cX6_add 9 = .ok (.if_icmp .ge 23, 3) := by decide +kernel
theorem dX6_add_12 : decode cX6_add 12 = .ok (.aload_n 0, 1) := by decide +kernel
theorem dX6_add_13 : decode cX6_add 13 = .ok (.getfield 9, 3) := by decide +kernel
theorem dX6_add_16 : decode cX6_add 16 = .ok (.aload_n 0, 1) := by decide +kernel
theorem dX6_add_17 : decode cX6_add 17 = .ok (.getfield 15, 3) := by decide +kernel
theorem dX6_add_20 : decode cX6_add 20 = .ok (.iload_n 1, 1) := by decide +kernel
theorem dX6_add_21 : decode cX6_add 21 = .ok (.castore, 1) := by decide +kernel
theorem dX6_add_22 : decode cX6_add 22 = .ok (.aload_n 0, 1) := by decide +kernel
theorem dX6_add_23 : decode cX6_add 23 = .ok (.dup, 1) := by decide +kernel
theorem dX6_add_24 : decode cX6_add 24 = .ok (.getfield 15, 3) := by decide +kernel
theorem dX6_add_27 : decode cX6_add 27 = .ok (.iconst 1, 1) := by decide +kernel
theorem dX6_add_28 : decode cX6_add 28 = .ok (.iadd, 1) := by decide +kernel
theorem dX6_add_29 : decode cX6_add 29 = .ok (.putfield 15, 3) := by decide +kernel
theorem dX6_add_32 : decode cX6_add 32 = .ok (.aload_n 0, 1) := by decide +kernel
theorem dX6_add_33 : decode cX6_add 33 = .ok (.getfield 15, 3) := by decide +kernel
theorem dX6_add_36 : decode cX6_add 36 = .ok (.ireturn, 1) := by decide +kernel
theorem dX6_startCommands_0 : decode cX6_startCommands 0 = .ok (.aload_n 0, 1) := by decide +kernel
theorem dX6_startCommands_1 : decode cX6_startCommands 1 = .ok (.iconst 1, 1) := by decide +kernel
theorem dX6_startCommands_2 : decode cX6_startCommands 2 = .ok (.putfield 19, 3) := by decide +kernel
theorem dX6_startCommands_5 : decode cX6_startCommands 5 = .ok (.return_, 1) := by decide +kernel
theorem dX6_findError_0 : decode cX6_findError 0 = .ok (.aload_n 0, 1) := by decide +kernel
theorem dX6_findError_1 : decode cX6_findError 1 = .ok (.getfield 15, 3) := by decide +kernel
theorem dX6_findError_4 : decode cX6_findError 4 = .ok (.ifCond .eq 14, 3) := by decide +kernel
theorem dX6_findError_7 : decode cX6_findError 7 = .ok (.aload_n 0, 1) := by decide +kernel
theorem dX6_findError_8 : decode cX6_findError 8 = .ok (.getfield 9, 3) := by decide +kernel
theorem dX6_findError_11 : decode cX6_findError 11 = .ok (.iconst 0, 1) := by decide +kernel
theorem dX6_findError_12 : decode cX6_findError 12 = .ok (.caload, 1) := by decide +kernel
theorem dX6_findError_13 : decode cX6_findError 13 = .ok (.bipush 84, 2) := by decide +kernel
theorem dX6_findError_15 : decode cX6_findError 15 = .ok (.if_icmp .eq 5, 3) := by decide +kernel
theorem dX6_findError_18 : decode cX6_findError 18 = .ok (.iconst 0, 1) := by decide +kernel
theorem dX6_findError_19 : decode cX6_findError 19 = .ok (.ireturn, 1) := by decide +kernel
theorem dX6_findError_20 : decode cX6_findError 20 = .ok (.aload_n 0, 1) := by decide +kernel
theorem dX6_findError_21 : decode cX6_findError 21 = .ok (.invokevirtual 22, 3) := by decide +kernel
theorem dX6_findError_24 : decode cX6_findError 24 = .ok (.iconst 1, 1) := by decide +kernel
theorem dX6_findError_25 : decode cX6_findError 25 = .ok (.istore_n 2, 1) := by decide +kernel
theorem dX6_findError_26 : decode cX6_findError 26 = .ok (.iconst 0, 1) := by decide +kernel
theorem dX6_findError_27 : decode cX6_findError 27 = .ok (.istore_n 3, 1) := by decide +kernel
theorem dX6_findError_28 : decode cX6_findError 28 = .ok (.iload_n 3, 1) := by decide +kernel
theorem dX6_findError_29 : decode cX6_findError 29 = .ok (.bipush 120, 2) := by decide +kernel
theorem dX6_findError_31 : decode cX6_findError 31 = .ok (.if_icmp .ge 19, 3) := by decide +kernel
theorem dX6_findError_34 : decode cX6_findError 34 = .ok (.iload_n 2, 1) := by decide +kernel
theorem dX6_findError_35 : decode cX6_findError 35 = .ok (.ifCond .eq 15, 3) := by decide +kernel
theorem dX6_findError_38 : decode cX6_findError 38 = .ok (.aload_n 0, 1) := by decide +kernel
theorem dX6_findError_39 : decode cX6_findError 39 = .ok (.aload_n 1, 1) := by decide +kernel
theorem dX6_findError_40 : decode cX6_findError 40 = .ok (.invokevirtual 25, 3) := by decide +kernel
theorem dX6_findError_43 : decode cX6_findError 43 = .ok (.istore_n 2, 1) := by decide +kernel
theorem dX6_findError_44 : decode cX6_findError 44 = .ok (.iinc 3 1, 3) := by decide +kernel
theorem dX6_findError_47 : decode cX6_findError 47 = .ok (.goto (-19), 3) := by decide +kernel
theorem dX6_findError_50 : decode cX6_findError 50 = .ok (.aload_n 1, 1) := by decide +kernel
theorem dX6_findError_51 : decode cX6_findError 51 = .ok (.getfield 29, 3) := by decide +kernel
theorem dX6_findError_54 : decode cX6_findError 54 = .ok (.ifCond .ne 18, 3) := by decide +kernel
theorem dX6_findError_57 : decode cX6_findError 57 = .ok (.aload_n 0, 1) := by decide +kernel
theorem dX6_findError_58 : decode cX6_findError 58 = .ok (.getfield 19, 3) := by decide +kernel
theorem dX6_findError_61 : decode cX6_findError 61 = .ok (.aload_n 0, 1) := by decide +kernel
theorem dX6_findError_62 : decode cX6_findError 62 = .ok (.getfield 15, 3) := by decide +kernel
theorem dX6_findError_65 : decode cX6_findError 65 = .ok (.if_icmp .lt 7, 3) := by decide +kernel
theorem dX6_findError_68 : decode cX6_findError 68 = .ok (.iconst (-1), 1) := by decide +kernel
theorem dX6_findError_69 : decode cX6_findError 69 = .ok (.goto 7, 3) := by decide +kernel
theorem dX6_findError_72 : decode cX6_findError 72 = .ok (.aload_n 0, 1) := by decide +kernel
theorem dX6_findError_73 : decode cX6_findError 73 = .ok (.getfield 19, 3) := by decide +kernel
theorem dX6_findError_76 : decode cX6_findError 76 = .ok (.ireturn, 1) := by decide +kernel
theorem dX6_readCommand_0 : decode cX6_readCommand 0 = .ok (.aload_n 1, 1) := by decide +kernel
theorem dX6_readCommand_1 : decode cX6_readCommand 1 = .ok (.iconst 0, 1) := by decide +kernel
theorem dX6_readCommand_2 : decode cX6_readCommand 2 = .ok (.iconst 0, 1) := by decide +kernel
theorem dX6_readCommand_3 : decode cX6_readCommand 3 = .ok (.iconst 0, 1) := by decide +kernel
theorem dX6_readCommand_4 : decode cX6_readCommand 4 = .ok (.iconst 0, 1) := by decide +kernel
theorem dX6_readCommand_5 : decode cX6_readCommand 5 = .ok (.iconst 0, 1) := by decide +kernel
theorem dX6_readCommand_6 : decode cX6_readCommand 6 = .ok (.invokevirtual 34, 3) := by decide +kernel
theorem dX6_readCommand_9 : decode cX6_readCommand 9 = .ok (.aload_n 0, 1) := by decide +kernel
theorem dX6_readCommand_10 : decode cX6_readCommand 10 = .ok (.getfield 19, 3) := by decide +kernel
theorem dX6_readCommand_13 : decode cX6_readCommand 13 = .ok (.ifCond .lt 14, 3) := by decide +kernel
theorem dX6_readCommand_16 : decode cX6_readCommand 16 = .ok (.aload_n 0, 1) := by decide +kernel
theorem dX6_readCommand_17 : decode cX6_readCommand 17 = .ok (.getfield 19, 3) := by decide +kernel
theorem dX6_readCommand_20 : decode cX6_readCommand 20 = .ok (.aload_n 0, 1) := by decide +kernel
theorem dX6_readCommand_21 : decode cX6_readCommand 21 = .ok (.getfield 15, 3) := by decide +kernel
theorem dX6_readCommand_24 : decode cX6_readCommand 24 = .ok (.if_icmp .lt 5, 3) := by decide +kernel
theorem dX6_readCommand_27 : decode cX6_readCommand 27 = .ok (.iconst 0, 1) := by decide +kernel
theorem dX6_readCommand_28 : decode cX6_readCommand 28 = .ok (.ireturn, 1) := by decide +kernel
theorem dX6_readCommand_29 : decode cX6_readCommand 29 = .ok (.aload_n 1, 1) := by decide +kernel
theorem dX6_readCommand_30 : decode cX6_readCommand 30 = .ok (.aload_n 0, 1) := by decide +kernel
theorem dX6_readCommand_31 : decode cX6_readCommand 31 = .ok (.getfield 9, 3) := by decide +kernel
theorem dX6_readCommand_34 : decode cX6_readCommand 34 = .ok (.aload_n 0, 1) := by decide +kernel
theorem dX6_readCommand_35 : decode cX6_readCommand 35 = .ok (.getfield 19, 3) := by decide +kernel
theorem dX6_readCommand_38 : decode cX6_readCommand 38 = .ok (.caload, 1) := by decide +kernel
theorem dX6_readCommand_39 : decode cX6_readCommand 39 = .ok (.invokestatic 38, 3) := by decide +kernel
theorem dX6_readCommand_42 : decode cX6_readCommand 42 = .ok (.putfield 29, 3) := by decide +kernel
theorem dX6_readCommand_45 : decode cX6_readCommand 45 = .ok (.aload_n 1, 1) := by decide +kernel
theorem dX6_readCommand_46 : decode cX6_readCommand 46 = .ok (.getfield 29, 3) := by decide +kernel
theorem dX6_readCommand_49 : decode cX6_readCommand 49 = .ok (.ifCond .ne 5, 3) := by decide +kernel
theorem dX6_readCommand_52 : decode cX6_readCommand 52 = .ok (.iconst 0, 1) := by decide +kernel
theorem dX6_readCommand_53 : decode cX6_readCommand 53 = .ok (.ireturn, 1) := by decide +kernel
theorem dX6_readCommand_54 : decode cX6_readCommand 54 = .ok (.aload_n 0, 1) := by decide +kernel
theorem dX6_readCommand_55 : decode cX6_readCommand 55 = .ok (.dup, 1) := by decide +kernel
theorem dX6_readCommand_56 : decode cX6_readCommand 56 = .ok (.getfield 19, 3) := by decide +kernel
theorem dX6_readCommand_59 : decode cX6_readCommand 59 = .ok (.iconst 1, 1) := by decide +kernel
theorem dX6_readCommand_60 : decode cX6_readCommand 60 = .ok (.iadd, 1) := by decide +kernel
theorem dX6_readCommand_61 : decode cX6_readCommand 61 = .ok (.putfield 19, 3) := by decide +kernel
theorem dX6_readCommand_64 : decode cX6_readCommand 64 = .ok (.aload_n 0, 1) := by decide +kernel
theorem dX6_readCommand_65 : decode cX6_readCommand 65 = .ok (.aload_n 1, 1) := by decide +kernel
theorem dX6_readCommand_66 : decode cX6_readCommand 66 = .ok (.invokevirtual 42, 3) := by decide +kernel
theorem dX6_readCommand_69 : decode cX6_readCommand 69 = .ok (.ireturn, 1) := by decide +kernel
theorem dX6_actionOf_0 : decode cX6_actionOf 0 = .ok (.iload_n 0, 1) := by decide +kernel
theorem dX6_actionOf_1 : decode cX6_actionOf 1 = .ok (.tableswitch 115 97 116 #[109, 115, 115, 115, 115, 106, 95, 103, 115, 115, 115, 99, 97, 115, 115, 115, 115, 115, 101, 112], 95) := by decide +kernel
theorem dX6_actionOf_96 : decode cX6_actionOf 96 = .ok (.iconst 1, 1) := by decide +kernel
theorem dX6_actionOf_97 : decode cX6_actionOf 97 = .ok (.ireturn, 1) := by decide +kernel
theorem dX6_actionOf_98 : decode cX6_actionOf 98 = .ok (.iconst 2, 1) := by decide +kernel
theorem dX6_actionOf_99 : decode cX6_actionOf 99 = .ok (.ireturn, 1) := by decide +kernel
theorem dX6_actionOf_100 : decode cX6_actionOf 100 = .ok (.iconst 4, 1) := by decide +kernel
theorem dX6_actionOf_101 : decode cX6_actionOf 101 = .ok (.ireturn, 1) := by decide +kernel
theorem dX6_actionOf_102 : decode cX6_actionOf 102 = .ok (.iconst 5, 1) := by decide +kernel
theorem dX6_actionOf_103 : decode cX6_actionOf 103 = .ok (.ireturn, 1) := by decide +kernel
theorem dX6_actionOf_104 : decode cX6_actionOf 104 = .ok (.bipush 6, 2) := by decide +kernel
theorem dX6_actionOf_106 : decode cX6_actionOf 106 = .ok (.ireturn, 1) := by decide +kernel
theorem dX6_actionOf_107 : decode cX6_actionOf 107 = .ok (.bipush 7, 2) := by decide +kernel
theorem dX6_actionOf_109 : decode cX6_actionOf 109 = .ok (.ireturn, 1) := by decide +kernel
theorem dX6_actionOf_110 : decode cX6_actionOf 110 = .ok (.bipush 9, 2) := by decide +kernel
theorem dX6_actionOf_112 : decode cX6_actionOf 112 = .ok (.ireturn, 1) := by decide +kernel
theorem dX6_actionOf_113 : decode cX6_actionOf 113 = .ok (.bipush 10, 2) := by decide +kernel
theorem dX6_actionOf_115 : decode cX6_actionOf 115 = .ok (.ireturn, 1) := by decide +kernel
theorem dX6_actionOf_116 : decode cX6_actionOf 116 = .ok (.iconst 0, 1) := by decide +kernel
theorem dX6_actionOf_117 : decode cX6_actionOf 117 = .ok (.ireturn, 1) := by decide +kernel
theorem dX6_readNumbers_0 : decode cX6_readNumbers 0 = .ok (.aload_n 1, 1) := by decide +kernel
theorem dX6_readNumbers_1 : decode cX6_readNumbers 1 = .ok (.getfield 29, 3) := by decide +kernel
theorem dX6_readNumbers_4 : decode cX6_readNumbers 4 = .ok (.tableswitch 226 1 9 #[52, 63, 226, 90, 140, 152, 184, 226, 211], 52) := by decide +kernel
theorem dX6_readNumbers_56 : decode cX6_readNumbers 56 = .ok (.aload_n 0, 1) := by decide +kernel
theorem dX6_readNumbers_57 : decode cX6_readNumbers 57 = .ok (.aload_n 1, 1) := by decide +kernel
theorem dX6_readNumbers_58 : decode cX6_readNumbers 58 = .ok (.iconst 0, 1) := by decide +kernel
theorem dX6_readNumbers_59 : decode cX6_readNumbers 59 = .ok (.iconst 2, 1) := by decide +kernel
theorem dX6_readNumbers_60 : decode cX6_readNumbers 60 = .ok (.iconst 1, 1) := by decide +kernel
theorem dX6_readNumbers_61 : decode cX6_readNumbers 61 = .ok (.bipush 60, 2) := by decide +kernel
theorem dX6_readNumbers_63 : decode cX6_readNumbers 63 = .ok (.invokevirtual 45, 3) := by decide +kernel
theorem dX6_readNumbers_66 : decode cX6_readNumbers 66 = .ok (.ireturn, 1) := by decide +kernel
theorem dX6_readNumbers_67 : decode cX6_readNumbers 67 = .ok (.aload_n 0, 1) := by decide +kernel
theorem dX6_readNumbers_68 : decode cX6_readNumbers 68 = .ok (.aload_n 1, 1) := by decide +kernel
theorem dX6_readNumbers_69 : decode cX6_readNumbers 69 = .ok (.iconst 0, 1) := by decide +kernel
theorem dX6_readNumbers_70 : decode cX6_readNumbers 70 = .ok (.invokevirtual 49, 3) := by decide +kernel
theorem dX6_readNumbers_73 : decode cX6_readNumbers 73 = .ok (.ifCond .eq 19, 3) := by decide +kernel
theorem dX6_readNumbers_76 : decode cX6_readNumbers 76 = .ok (.aload_n 0, 1) := by decide +kernel
theorem dX6_readNumbers_77 : decode cX6_readNumbers 77 = .ok (.aload_n 1, 1) := by decide +kernel
theorem dX6_readNumbers_78 : decode cX6_readNumbers 78 = .ok (.iconst 1, 1) := by decide +kernel
theorem dX6_readNumbers_79 : decode cX6_readNumbers 79 = .ok (.iconst 1, 1) := by decide +kernel
theorem dX6_readNumbers_80 : decode cX6_readNumbers 80 = .ok (.iconst 1, 1) := by decide +kernel
theorem dX6_readNumbers_81 : decode cX6_readNumbers 81 = .ok (.iconst 5, 1) := by decide +kernel
theorem dX6_readNumbers_82 : decode cX6_readNumbers 82 = .ok (.invokevirtual 45, 3) := by decide +kernel
theorem dX6_readNumbers_85 : decode cX6_readNumbers 85 = .ok (.ifCond .eq 7, 3) := by decide +kernel
theorem dX6_readNumbers_88 : decode cX6_readNumbers 88 = .ok (.iconst 1, 1) := by decide +kernel
theorem dX6_readNumbers_89 : decode cX6_readNumbers 89 = .ok (.goto 4, 3) := by decide +kernel
theorem dX6_readNumbers_92 : decode cX6_readNumbers 92 = .ok (.iconst 0, 1) := by decide +kernel
theorem dX6_readNumbers_93 : decode cX6_readNumbers 93 = .ok (.ireturn, 1) := by decide +kernel
theorem dX6_readNumbers_94 : decode cX6_readNumbers 94 = .ok (.aload_n 0, 1) := by decide +kernel
theorem dX6_readNumbers_95 : decode cX6_readNumbers 95 = .ok (.aload_n 1, 1) := by decide +kernel
theorem dX6_readNumbers_96 : decode cX6_readNumbers 96 = .ok (.iconst 0, 1) := by decide +kernel
theorem dX6_readNumbers_97 : decode cX6_readNumbers 97 = .ok (.invokevirtual 49, 3) := by decide +kernel
theorem dX6_readNumbers_100 : decode cX6_readNumbers 100 = .ok (.ifCond .eq 42, 3) := by decide +kernel
theorem dX6_readNumbers_103 : decode cX6_readNumbers 103 = .ok (.aload_n 0, 1) := by decide +kernel
theorem dX6_readNumbers_104 : decode cX6_readNumbers 104 = .ok (.aload_n 1, 1) := by decide +kernel
theorem dX6_readNumbers_105 : decode cX6_readNumbers 105 = .ok (.iconst 1, 1) := by decide +kernel
theorem dX6_readNumbers_106 : decode cX6_readNumbers 106 = .ok (.invokevirtual 53, 3) := by decide +kernel
theorem dX6_readNumbers_109 : decode cX6_readNumbers 109 = .ok (.ifCond .eq 33, 3) := by decide +kernel
theorem dX6_readNumbers_112 : decode cX6_readNumbers 112 = .ok (.aload_n 0, 1) := by decide +kernel
theorem dX6_readNumbers_113 : decode cX6_readNumbers 113 = .ok (.aload_n 1, 1) := by decide +kernel
theorem dX6_readNumbers_114 : decode cX6_readNumbers 114 = .ok (.iconst 2, 1) := by decide +kernel
theorem dX6_readNumbers_115 : decode cX6_readNumbers 115 = .ok (.iconst 1, 1) := by decide +kernel
theorem dX6_readNumbers_116 : decode cX6_readNumbers 116 = .ok (.iconst 1, 1) := by decide +kernel
theorem dX6_readNumbers_117 : decode cX6_readNumbers 117 = .ok (.bipush 9, 2) := by decide +kernel
theorem dX6_readNumbers_119 : decode cX6_readNumbers 119 = .ok (.invokevirtual 45, 3) := by decide +kernel
theorem dX6_readNumbers_122 : decode cX6_readNumbers 122 = .ok (.ifCond .eq 20, 3) := by decide +kernel
theorem dX6_readNumbers_125 : decode cX6_readNumbers 125 = .ok (.aload_n 0, 1) := by decide +kernel
theorem dX6_readNumbers_126 : decode cX6_readNumbers 126 = .ok (.aload_n 1, 1) := by decide +kernel
theorem dX6_readNumbers_127 : decode cX6_readNumbers 127 = .ok (.iconst 3, 1) := by decide +kernel
theorem dX6_readNumbers_128 : decode cX6_readNumbers 128 = .ok (.iconst 2, 1) := by decide +kernel
theorem dX6_readNumbers_129 : decode cX6_readNumbers 129 = .ok (.iconst 0, 1) := by decide +kernel
theorem dX6_readNumbers_130 : decode cX6_readNumbers 130 = .ok (.bipush 99, 2) := by decide +kernel
theorem dX6_readNumbers_132 : decode cX6_readNumbers 132 = .ok (.invokevirtual 45, 3) := by decide +kernel
theorem dX6_readNumbers_135 : decode cX6_readNumbers 135 = .ok (.ifCond .eq 7, 3) := by decide +kernel
theorem dX6_readNumbers_138 : decode cX6_readNumbers 138 = .ok (.iconst 1, 1) := by decide +kernel
theorem dX6_readNumbers_139 : decode cX6_readNumbers 139 = .ok (.goto 4, 3) := by decide +kernel
theorem dX6_readNumbers_142 : decode cX6_readNumbers 142 = .ok (.iconst 0, 1) := by decide +kernel
theorem dX6_readNumbers_143 : decode cX6_readNumbers 143 = .ok (.ireturn, 1) := by decide +kernel
theorem dX6_readNumbers_144 : decode cX6_readNumbers 144 = .ok (.aload_n 0, 1) := by decide +kernel
theorem dX6_readNumbers_145 : decode cX6_readNumbers 145 = .ok (.aload_n 1, 1) := by decide +kernel
theorem dX6_readNumbers_146 : decode cX6_readNumbers 146 = .ok (.iconst 0, 1) := by decide +kernel
theorem dX6_readNumbers_147 : decode cX6_readNumbers 147 = .ok (.iconst 3, 1) := by decide +kernel
theorem dX6_readNumbers_148 : decode cX6_readNumbers 148 = .ok (.iconst 0, 1) := by decide +kernel
theorem dX6_readNumbers_149 : decode cX6_readNumbers 149 = .ok (.sipush 999, 3) := by decide +kernel
theorem dX6_readNumbers_152 : decode cX6_readNumbers 152 = .ok (.invokevirtual 45, 3) := by decide +kernel
theorem dX6_readNumbers_155 : decode cX6_readNumbers 155 = .ok (.ireturn, 1) := by decide +kernel
theorem dX6_readNumbers_156 : decode cX6_readNumbers 156 = .ok (.aload_n 0, 1) := by decide +kernel
theorem dX6_readNumbers_157 : decode cX6_readNumbers 157 = .ok (.aload_n 1, 1) := by decide +kernel
theorem dX6_readNumbers_158 : decode cX6_readNumbers 158 = .ok (.invokevirtual 56, 3) := by decide +kernel
theorem dX6_readNumbers_161 : decode cX6_readNumbers 161 = .ok (.ifCond .eq 25, 3) := by decide +kernel
theorem dX6_readNumbers_164 : decode cX6_readNumbers 164 = .ok (.aload_n 0, 1) := by decide +kernel
theorem dX6_readNumbers_165 : decode cX6_readNumbers 165 = .ok (.aload_n 1, 1) := by decide +kernel
theorem dX6_readNumbers_166 : decode cX6_readNumbers 166 = .ok (.iconst 1, 1) := by decide +kernel
theorem dX6_readNumbers_167 : decode cX6_readNumbers 167 = .ok (.invokevirtual 49, 3) := by decide +kernel
theorem dX6_readNumbers_170 : decode cX6_readNumbers 170 = .ok (.ifCond .eq 16, 3) := by decide +kernel
theorem dX6_readNumbers_173 : decode cX6_readNumbers 173 = .ok (.aload_n 0, 1) := by decide +kernel
theorem dX6_readNumbers_174 : decode cX6_readNumbers 174 = .ok (.aload_n 1, 1) := by decide +kernel
theorem dX6_readNumbers_175 : decode cX6_readNumbers 175 = .ok (.iconst 2, 1) := by decide +kernel
theorem dX6_readNumbers_176 : decode cX6_readNumbers 176 = .ok (.invokevirtual 53, 3) := by decide +kernel
theorem dX6_readNumbers_179 : decode cX6_readNumbers 179 = .ok (.ifCond .eq 7, 3) := by decide +kernel
theorem dX6_readNumbers_182 : decode cX6_readNumbers 182 = .ok (.iconst 1, 1) := by decide +kernel
theorem dX6_readNumbers_183 : decode cX6_readNumbers 183 = .ok (.goto 4, 3) := by decide +kernel
theorem dX6_readNumbers_186 : decode cX6_readNumbers 186 = .ok (.iconst 0, 1) := by decide +kernel
theorem dX6_readNumbers_187 : decode cX6_readNumbers 187 = .ok (.ireturn, 1) := by decide +kernel
theorem dX6_readNumbers_188 : decode cX6_readNumbers 188 = .ok (.aload_n 0, 1) := by decide +kernel
theorem dX6_readNumbers_189 : decode cX6_readNumbers 189 = .ok (.aload_n 1, 1) := by decide +kernel
theorem dX6_readNumbers_190 : decode cX6_readNumbers 190 = .ok (.invokevirtual 56, 3) := by decide +kernel
theorem dX6_readNumbers_193 : decode cX6_readNumbers 193 = .ok (.ifCond .eq 20, 3) := by decide +kernel
theorem dX6_readNumbers_196 : decode cX6_readNumbers 196 = .ok (.aload_n 0, 1) := by decide +kernel
theorem dX6_readNumbers_197 : decode cX6_readNumbers 197 = .ok (.aload_n 1, 1) := by decide +kernel
theorem dX6_readNumbers_198 : decode cX6_readNumbers 198 = .ok (.iconst 1, 1) := by decide +kernel
theorem dX6_readNumbers_199 : decode cX6_readNumbers 199 = .ok (.iconst 2, 1) := by decide +kernel
theorem dX6_readNumbers_200 : decode cX6_readNumbers 200 = .ok (.iconst 1, 1) := by decide +kernel
theorem dX6_readNumbers_201 : decode cX6_readNumbers 201 = .ok (.bipush 99, 2) := by decide +kernel
theorem dX6_readNumbers_203 : decode cX6_readNumbers 203 = .ok (.invokevirtual 45, 3) := by decide +kernel
theorem dX6_readNumbers_206 : decode cX6_readNumbers 206 = .ok (.ifCond .eq 7, 3) := by decide +kernel
theorem dX6_readNumbers_209 : decode cX6_readNumbers 209 = .ok (.iconst 1, 1) := by decide +kernel
theorem dX6_readNumbers_210 : decode cX6_readNumbers 210 = .ok (.goto 4, 3) := by decide +kernel
theorem dX6_readNumbers_213 : decode cX6_readNumbers 213 = .ok (.iconst 0, 1) := by decide +kernel
theorem dX6_readNumbers_214 : decode cX6_readNumbers 214 = .ok (.ireturn, 1) := by decide +kernel
theorem dX6_readNumbers_215 : decode cX6_readNumbers 215 = .ok (.aload_n 1, 1) := by decide +kernel
theorem dX6_readNumbers_216 : decode cX6_readNumbers 216 = .ok (.iconst 1, 1) := by decide +kernel
theorem dX6_readNumbers_217 : decode cX6_readNumbers 217 = .ok (.putfield 59, 3) := by decide +kernel
theorem dX6_readNumbers_220 : decode cX6_readNumbers 220 = .ok (.aload_n 0, 1) := by decide +kernel
theorem dX6_readNumbers_221 : decode cX6_readNumbers 221 = .ok (.aload_n 1, 1) := by decide +kernel
theorem dX6_readNumbers_222 : decode cX6_readNumbers 222 = .ok (.iconst 1, 1) := by decide +kernel
theorem dX6_readNumbers_223 : decode cX6_readNumbers 223 = .ok (.iconst 1, 1) := by decide +kernel
theorem dX6_readNumbers_224 : decode cX6_readNumbers 224 = .ok (.iconst 0, 1) := by decide +kernel
theorem dX6_readNumbers_225 : decode cX6_readNumbers 225 = .ok (.iconst 1, 1) := by decide +kernel
theorem dX6_readNumbers_226 : decode cX6_readNumbers 226 = .ok (.invokevirtual 45, 3) := by decide +kernel
theorem dX6_readNumbers_229 : decode cX6_readNumbers 229 = .ok (.ireturn, 1) := by decide +kernel
theorem dX6_readNumbers_230 : decode cX6_readNumbers 230 = .ok (.aload_n 0, 1) := by decide +kernel
theorem dX6_readNumbers_231 : decode cX6_readNumbers 231 = .ok (.aload_n 1, 1) := by decide +kernel
theorem dX6_readNumbers_232 : decode cX6_readNumbers 232 = .ok (.iconst 0, 1) := by decide +kernel
theorem dX6_readNumbers_233 : decode cX6_readNumbers 233 = .ok (.iconst 2, 1) := by decide +kernel
theorem dX6_readNumbers_234 : decode cX6_readNumbers 234 = .ok (.iconst 1, 1) := by decide +kernel
theorem dX6_readNumbers_235 : decode cX6_readNumbers 235 = .ok (.bipush 60, 2) := by decide +kernel
theorem dX6_readNumbers_237 : decode cX6_readNumbers 237 = .ok (.invokevirtual 45, 3) := by decide +kernel
theorem dX6_readNumbers_240 : decode cX6_readNumbers 240 = .ok (.ireturn, 1) := by decide +kernel
theorem dX6_readGallery_0 : decode cX6_readGallery 0 = .ok (.aload_n 0, 1) := by decide +kernel
theorem dX6_readGallery_1 : decode cX6_readGallery 1 = .ok (.aload_n 1, 1) := by decide +kernel
theorem dX6_readGallery_2 : decode cX6_readGallery 2 = .ok (.iload_n 2, 1) := by decide +kernel
theorem dX6_readGallery_3 : decode cX6_readGallery 3 = .ok (.iconst 1, 1) := by decide +kernel
theorem dX6_readGallery_4 : decode cX6_readGallery 4 = .ok (.iconst 0, 1) := by decide +kernel
theorem dX6_readGallery_5 : decode cX6_readGallery 5 = .ok (.iconst 2, 1) := by decide +kernel
theorem dX6_readGallery_6 : decode cX6_readGallery 6 = .ok (.invokevirtual 45, 3) := by decide +kernel
theorem dX6_readGallery_9 : decode cX6_readGallery 9 = .ok (.ireturn, 1) := by decide +kernel
theorem dX6_readCell_0 : decode cX6_readCell 0 = .ok (.aload_n 0, 1) := by decide +kernel
theorem dX6_readCell_1 : decode cX6_readCell 1 = .ok (.aload_n 1, 1) := by decide +kernel
theorem dX6_readCell_2 : decode cX6_readCell 2 = .ok (.iload_n 2, 1) := by decide +kernel
theorem dX6_readCell_3 : decode cX6_readCell 3 = .ok (.iconst 2, 1) := by decide +kernel
theorem dX6_readCell_4 : decode cX6_readCell 4 = .ok (.iconst 0, 1) := by decide +kernel
theorem dX6_readCell_5 : decode cX6_readCell 5 = .ok (.bipush 59, 2) := by decide +kernel
theorem dX6_readCell_7 : decode cX6_readCell 7 = .ok (.invokevirtual 45, 3) := by decide +kernel
theorem dX6_readCell_10 : decode cX6_readCell 10 = .ok (.ireturn, 1) := by decide +kernel
theorem dX6_readLamp_0 : decode cX6_readLamp 0 = .ok (.aload_n 0, 1) := by decide +kernel
theorem dX6_readLamp_1 : decode cX6_readLamp 1 = .ok (.aload_n 1, 1) := by decide +kernel
theorem dX6_readLamp_2 : decode cX6_readLamp 2 = .ok (.iconst 0, 1) := by decide +kernel
theorem dX6_readLamp_3 : decode cX6_readLamp 3 = .ok (.iconst 1, 1) := by decide +kernel
theorem dX6_readLamp_4 : decode cX6_readLamp 4 = .ok (.iconst 0, 1) := by decide +kernel
theorem dX6_readLamp_5 : decode cX6_readLamp 5 = .ok (.bipush 7, 2) := by decide +kernel
theorem dX6_readLamp_7 : decode cX6_readLamp 7 = .ok (.invokevirtual 45, 3) := by decide +kernel
theorem dX6_readLamp_10 : decode cX6_readLamp 10 = .ok (.ireturn, 1) := by decide +kernel
theorem dX6_readNumber_0 : decode cX6_readNumber 0 = .ok (.iload_n 3, 1) := by decide +kernel
theorem dX6_readNumber_1 : decode cX6_readNumber 1 = .ok (.iconst 3, 1) := by decide +kernel
theorem dX6_readNumber_2 : decode cX6_readNumber 2 = .ok (.if_icmp .ne 8, 3) := by decide +kernel
theorem dX6_readNumber_5 : decode cX6_readNumber 5 = .ok (.bipush 100, 2) := by decide +kernel
theorem dX6_readNumber_7 : decode cX6_readNumber 7 = .ok (.goto 14, 3) := by decide +kernel
theorem dX6_readNumber_10 : decode cX6_readNumber 10 = .ok (.iload_n 3, 1) := by decide +kernel
theorem dX6_readNumber_11 : decode cX6_readNumber 11 = .ok (.iconst 2, 1) := by decide +kernel
theorem dX6_readNumber_12 : decode cX6_readNumber 12 = .ok (.if_icmp .ne 8, 3) := by decide +kernel
theorem dX6_readNumber_15 : decode cX6_readNumber 15 = .ok (.bipush 10, 2) := by decide +kernel
theorem dX6_readNumber_17 : decode cX6_readNumber 17 = .ok (.goto 4, 3) := by decide +kernel
theorem dX6_readNumber_20 : decode cX6_readNumber 20 = .ok (.iconst 1, 1) := by decide +kernel
theorem dX6_readNumber_21 : decode cX6_readNumber 21 = .ok (.istore 6, 2) := by decide +kernel
theorem dX6_readNumber_23 : decode cX6_readNumber 23 = .ok (.iconst 0, 1) := by decide +kernel
theorem dX6_readNumber_24 : decode cX6_readNumber 24 = .ok (.istore 7, 2) := by decide +kernel
theorem dX6_readNumber_26 : decode cX6_readNumber 26 = .ok (.iconst 0, 1) := by decide +kernel
theorem dX6_readNumber_27 : decode cX6_readNumber 27 = .ok (.istore 8, 2) := by decide +kernel
theorem dX6_readNumber_29 : decode cX6_readNumber 29 = .ok (.iload 8, 2) := by decide +kernel
theorem dX6_readNumber_31 : decode cX6_readNumber 31 = .ok (.iload_n 3, 1) := by decide +kernel
theorem dX6_readNumber_32 : decode cX6_readNumber 32 = .ok (.if_icmp .ge 109, 3) := by decide +kernel
theorem dX6_readNumber_35 : decode cX6_readNumber 35 = .ok (.aload_n 0, 1) := by decide +kernel
theorem dX6_readNumber_36 : decode cX6_readNumber 36 = .ok (.getfield 19, 3) := by decide +kernel
theorem dX6_readNumber_39 : decode cX6_readNumber 39 = .ok (.ifCond .lt 14, 3) := by decide +kernel
theorem dX6_readNumber_42 : decode cX6_readNumber 42 = .ok (.aload_n 0, 1) := by decide +kernel
theorem dX6_readNumber_43 : decode cX6_readNumber 43 = .ok (.getfield 19, 3) := by decide +kernel
theorem dX6_readNumber_46 : decode cX6_readNumber 46 = .ok (.aload_n 0, 1) := by decide +kernel
theorem dX6_readNumber_47 : decode cX6_readNumber 47 = .ok (.getfield 15, 3) := by decide +kernel
theorem dX6_readNumber_50 : decode cX6_readNumber 50 = .ok (.if_icmp .lt 5, 3) := by decide +kernel
theorem dX6_readNumber_53 : decode cX6_readNumber 53 = .ok (.iconst 0, 1) := by decide +kernel
theorem dX6_readNumber_54 : decode cX6_readNumber 54 = .ok (.ireturn, 1) := by decide +kernel
theorem dX6_readNumber_55 : decode cX6_readNumber 55 = .ok (.aload_n 0, 1) := by decide +kernel
theorem dX6_readNumber_56 : decode cX6_readNumber 56 = .ok (.getfield 9, 3) := by decide +kernel
theorem dX6_readNumber_59 : decode cX6_readNumber 59 = .ok (.aload_n 0, 1) := by decide +kernel
theorem dX6_readNumber_60 : decode cX6_readNumber 60 = .ok (.getfield 19, 3) := by decide +kernel
theorem dX6_readNumber_63 : decode cX6_readNumber 63 = .ok (.caload, 1) := by decide +kernel
theorem dX6_readNumber_64 : decode cX6_readNumber 64 = .ok (.bipush 48, 2) := by decide +kernel
theorem dX6_readNumber_66 : decode cX6_readNumber 66 = .ok (.isub, 1) := by decide +kernel
theorem dX6_readNumber_67 : decode cX6_readNumber 67 = .ok (.istore 9, 2) := by decide +kernel
theorem dX6_readNumber_69 : decode cX6_readNumber 69 = .ok (.iload 7, 2) := by decide +kernel
theorem dX6_readNumber_71 : decode cX6_readNumber 71 = .ok (.bipush 10, 2) := by decide +kernel
theorem dX6_readNumber_73 : decode cX6_readNumber 73 = .ok (.imul, 1) := by decide +kernel
theorem dX6_readNumber_74 : decode cX6_readNumber 74 = .ok (.iload 9, 2) := by decide +kernel
theorem dX6_readNumber_76 : decode cX6_readNumber 76 = .ok (.iadd, 1) := by decide +kernel
theorem dX6_readNumber_77 : decode cX6_readNumber 77 = .ok (.istore 7, 2) := by decide +kernel
theorem dX6_readNumber_79 : decode cX6_readNumber 79 = .ok (.iload 7, 2) := by decide +kernel
theorem dX6_readNumber_81 : decode cX6_readNumber 81 = .ok (.iload 6, 2) := by decide +kernel
theorem dX6_readNumber_83 : decode cX6_readNumber 83 = .ok (.imul, 1) := by decide +kernel
theorem dX6_readNumber_84 : decode cX6_readNumber 84 = .ok (.istore 10, 2) := by decide +kernel
theorem dX6_readNumber_86 : decode cX6_readNumber 86 = .ok (.iload 9, 2) := by decide +kernel
theorem dX6_readNumber_88 : decode cX6_readNumber 88 = .ok (.iconst 0, 1) := by decide +kernel
theorem dX6_readNumber_89 : decode cX6_readNumber 89 = .ok (.bipush 9, 2) := by decide +kernel
theorem dX6_readNumber_91 : decode cX6_readNumber 91 = .ok (.invokestatic 62, 3) := by decide +kernel
theorem dX6_readNumber_94 : decode cX6_readNumber 94 = .ok (.ifCond .eq 22, 3) := by decide +kernel
theorem dX6_readNumber_97 : decode cX6_readNumber 97 = .ok (.iload 10, 2) := by decide +kernel
theorem dX6_readNumber_99 : decode cX6_readNumber 99 = .ok (.iload 5, 2) := by decide +kernel
theorem dX6_readNumber_101 : decode cX6_readNumber 101 = .ok (.if_icmp .gt 15, 3) := by decide +kernel
theorem dX6_readNumber_104 : decode cX6_readNumber 104 = .ok (.iload 10, 2) := by decide +kernel
theorem dX6_readNumber_106 : decode cX6_readNumber 106 = .ok (.iload 6, 2) := by decide +kernel
theorem dX6_readNumber_108 : decode cX6_readNumber 108 = .ok (.iadd, 1) := by decide +kernel
theorem dX6_readNumber_109 : decode cX6_readNumber 109 = .ok (.iconst 1, 1) := by decide +kernel
theorem dX6_readNumber_110 : decode cX6_readNumber 110 = .ok (.isub, 1) := by decide +kernel
theorem dX6_readNumber_111 : decode cX6_readNumber 111 = .ok (.iload 4, 2) := by decide +kernel
theorem dX6_readNumber_113 : decode cX6_readNumber 113 = .ok (.if_icmp .ge 5, 3) := by decide +kernel
theorem dX6_readNumber_116 : decode cX6_readNumber 116 = .ok (.iconst 0, 1) := by decide +kernel
theorem dX6_readNumber_117 : decode cX6_readNumber 117 = .ok (.ireturn, 1) := by decide +kernel
theorem dX6_readNumber_118 : decode cX6_readNumber 118 = .ok (.iload 6, 2) := by decide +kernel
theorem dX6_readNumber_120 : decode cX6_readNumber 120 = .ok (.bipush 10, 2) := by decide +kernel
theorem dX6_readNumber_122 : decode cX6_readNumber 122 = .ok (.idiv, 1) := by decide +kernel
theorem dX6_readNumber_123 : decode cX6_readNumber 123 = .ok (.istore 6, 2) := by decide +kernel
theorem dX6_readNumber_125 : decode cX6_readNumber 125 = .ok (.aload_n 0, 1) := by decide +kernel
theorem dX6_readNumber_126 : decode cX6_readNumber 126 = .ok (.dup, 1) := by decide +kernel
theorem dX6_readNumber_127 : decode cX6_readNumber 127 = .ok (.getfield 19, 3) := by decide +kernel
theorem dX6_readNumber_130 : decode cX6_readNumber 130 = .ok (.iconst 1, 1) := by decide +kernel
theorem dX6_readNumber_131 : decode cX6_readNumber 131 = .ok (.iadd, 1) := by decide +kernel
theorem dX6_readNumber_132 : decode cX6_readNumber 132 = .ok (.putfield 19, 3) := by decide +kernel
theorem dX6_readNumber_135 : decode cX6_readNumber 135 = .ok (.iinc 8 1, 3) := by decide +kernel
theorem dX6_readNumber_138 : decode cX6_readNumber 138 = .ok (.goto (-109), 3) := by decide +kernel
theorem dX6_readNumber_141 : decode cX6_readNumber 141 = .ok (.aload_n 1, 1) := by decide +kernel
theorem dX6_readNumber_142 : decode cX6_readNumber 142 = .ok (.iload_n 2, 1) := by decide +kernel
theorem dX6_readNumber_143 : decode cX6_readNumber 143 = .ok (.iload 7, 2) := by decide +kernel
theorem dX6_readNumber_145 : decode cX6_readNumber 145 = .ok (.invokevirtual 66, 3) := by decide +kernel
theorem dX6_readNumber_148 : decode cX6_readNumber 148 = .ok (.iconst 1, 1) := by decide +kernel
theorem dX6_readNumber_149 : decode cX6_readNumber 149 = .ok (.ireturn, 1) := by decide +kernel
theorem dX7_init_0 : decode cX7_init 0 = .ok (.aload_n 0, 1) := by decide +kernel
theorem dX7_init_1 : decode cX7_init 1 = .ok (.invokespecial 1, 3) := by decide +kernel
theorem dX7_init_4 : decode cX7_init 4 = .ok (.return_, 1) := by decide +kernel
theorem dX7_copyFrom_0 : decode cX7_copyFrom 0 = .ok (.aload_n 0, 1) := by decide +kernel
theorem dX7_copyFrom_1 : decode cX7_copyFrom 1 = .ok (.aload_n 1, 1) := by decide +kernel
theorem dX7_copyFrom_2 : decode cX7_copyFrom 2 = .ok (.getfield 7, 3) := by decide +kernel
theorem dX7_copyFrom_5 : decode cX7_copyFrom 5 = .ok (.putfield 7, 3) := by decide +kernel
theorem dX7_copyFrom_8 : decode cX7_copyFrom 8 = .ok (.aload_n 0, 1) := by decide +kernel
theorem dX7_copyFrom_9 : decode cX7_copyFrom 9 = .ok (.aload_n 1, 1) := by decide +kernel
theorem dX7_copyFrom_10 : decode cX7_copyFrom 10 = .ok (.getfield 13, 3) := by decide +kernel
theorem dX7_copyFrom_13 : decode cX7_copyFrom 13 = .ok (.putfield 13, 3) := by decide +kernel
theorem dX7_copyFrom_16 : decode cX7_copyFrom 16 = .ok (.aload_n 0, 1) := by decide +kernel
theorem dX7_copyFrom_17 : decode cX7_copyFrom 17 = .ok (.aload_n 1, 1) := by decide +kernel
theorem dX7_copyFrom_18 : decode cX7_copyFrom 18 = .ok (.getfield 16, 3) := by decide +kernel
theorem dX7_copyFrom_21 : decode cX7_copyFrom 21 = .ok (.putfield 16, 3) := by decide +kernel
theorem dX7_copyFrom_24 : decode cX7_copyFrom 24 = .ok (.aload_n 0, 1) := by decide +kernel
theorem dX7_copyFrom_25 : decode cX7_copyFrom 25 = .ok (.aload_n 1, 1) := by decide +kernel
theorem dX7_copyFrom_26 : decode cX7_copyFrom 26 = .ok (.getfield 19, 3) := by decide +kernel
theorem dX7_copyFrom_29 : decode cX7_copyFrom 29 = .ok (.putfield 19, 3) := by decide +kernel
theorem dX7_copyFrom_32 : decode cX7_copyFrom 32 = .ok (.return_, 1) := by decide +kernel
theorem dX8_init_0 : decode cX8_init 0 = .ok (.aload_n 0, 1) := by decide +kernel
theorem dX8_init_1 : decode cX8_init 1 = .ok (.invokespecial 1, 3) := by decide +kernel
theorem dX8_init_4 : decode cX8_init 4 = .ok (.return_, 1) := by decide +kernel
theorem dX8_copyFrom_0 : decode cX8_copyFrom 0 = .ok (.aload_n 0, 1) := by decide +kernel
theorem dX8_copyFrom_1 : decode cX8_copyFrom 1 = .ok (.aload_n 1, 1) := by decide +kernel
theorem dX8_copyFrom_2 : decode cX8_copyFrom 2 = .ok (.getfield 7, 3) := by decide +kernel
theorem dX8_copyFrom_5 : decode cX8_copyFrom 5 = .ok (.putfield 7, 3) := by decide +kernel
theorem dX8_copyFrom_8 : decode cX8_copyFrom 8 = .ok (.aload_n 0, 1) := by decide +kernel
theorem dX8_copyFrom_9 : decode cX8_copyFrom 9 = .ok (.aload_n 1, 1) := by decide +kernel
theorem dX8_copyFrom_10 : decode cX8_copyFrom 10 = .ok (.getfield 13, 3) := by decide +kernel
theorem dX8_copyFrom_13 : decode cX8_copyFrom 13 = .ok (.putfield 13, 3) := by decide +kernel
theorem dX8_copyFrom_16 : decode cX8_copyFrom 16 = .ok (.aload_n 0, 1) := by decide +kernel
theorem dX8_copyFrom_17 : decode cX8_copyFrom 17 = .ok (.aload_n 1, 1) := by decide +kernel
theorem dX8_copyFrom_18 : decode cX8_copyFrom 18 = .ok (.getfield 16, 3) := by decide +kernel
theorem dX8_copyFrom_21 : decode cX8_copyFrom 21 = .ok (.putfield 16, 3) := by decide +kernel
theorem dX8_copyFrom_24 : decode cX8_copyFrom 24 = .ok (.aload_n 0, 1) := by decide +kernel
theorem dX8_copyFrom_25 : decode cX8_copyFrom 25 = .ok (.aload_n 1, 1) := by decide +kernel
theorem dX8_copyFrom_26 : decode cX8_copyFrom 26 = .ok (.getfield 19, 3) := by decide +kernel
theorem dX8_copyFrom_29 : decode cX8_copyFrom 29 = .ok (.putfield 19, 3) := by decide +kernel
theorem dX8_copyFrom_32 : decode cX8_copyFrom 32 = .ok (.aload_n 0, 1) := by decide +kernel
theorem dX8_copyFrom_33 : decode cX8_copyFrom 33 = .ok (.aload_n 1, 1) := by decide +kernel
theorem dX8_copyFrom_34 : decode cX8_copyFrom 34 = .ok (.getfield 22, 3) := by decide +kernel
theorem dX8_copyFrom_37 : decode cX8_copyFrom 37 = .ok (.putfield 22, 3) := by decide +kernel
theorem dX8_copyFrom_40 : decode cX8_copyFrom 40 = .ok (.return_, 1) := by decide +kernel
theorem dX9_init_0 : decode cX9_init 0 = .ok (.aload_n 0, 1) := by decide +kernel
theorem dX9_init_1 : decode cX9_init 1 = .ok (.invokespecial 3, 3) := by decide +kernel
theorem dX9_init_4 : decode cX9_init 4 = .ok (.aload_n 0, 1) := by decide +kernel
theorem dX9_init_5 : decode cX9_init 5 = .ok (.new 9, 3) := by decide +kernel
theorem dX9_init_8 : decode cX9_init 8 = .ok (.dup, 1) := by decide +kernel
theorem dX9_init_9 : decode cX9_init 9 = .ok (.invokespecial 11, 3) := by decide +kernel
theorem dX9_init_12 : decode cX9_init 12 = .ok (.putfield 12, 3) := by decide +kernel
theorem dX9_init_15 : decode cX9_init 15 = .ok (.aload_n 0, 1) := by decide +kernel
theorem dX9_init_16 : decode cX9_init 16 = .ok (.new 16, 3) := by decide +kernel
theorem dX9_init_19 : decode cX9_init 19 = .ok (.dup, 1) := by decide +kernel
theorem dX9_init_20 : decode cX9_init 20 = .ok (.invokespecial 18, 3) := by decide +kernel
theorem dX9_init_23 : decode cX9_init 23 = .ok (.putfield 19, 3) := by decide +kernel
theorem dX9_init_26 : decode cX9_init 26 = .ok (.aload_n 0, 1) := by decide +kernel
theorem dX9_init_27 : decode cX9_init 27 = .ok (.new 23, 3) := by decide +kernel
theorem dX9_init_30 : decode cX9_init 30 = .ok (.dup, 1) := by decide +kernel
theorem dX9_init_31 : decode cX9_init 31 = .ok (.invokespecial 25, 3) := by decide +kernel
theorem dX9_init_34 : decode cX9_init 34 = .ok (.putfield 26, 3) := by decide +kernel
theorem dX9_init_37 : decode cX9_init 37 = .ok (.aload_n 0, 1) := by decide +kernel
theorem dX9_init_38 : decode cX9_init 38 = .ok (.new 23, 3) := by decide +kernel
theorem dX9_init_41 : decode cX9_init 41 = .ok (.dup, 1) := by decide +kernel
theorem dX9_init_42 : decode cX9_init 42 = .ok (.invokespecial 25, 3) := by decide +kernel
theorem dX9_init_45 : decode cX9_init 45 = .ok (.putfield 30, 3) := by decide +kernel
theorem dX9_init_48 : decode cX9_init 48 = .ok (.aload_n 0, 1) := by decide +kernel
theorem dX9_init_49 : decode cX9_init 49 = .ok (.new 23, 3) := by decide +kernel
theorem dX9_init_52 : decode cX9_init 52 = .ok (.dup, 1) := by decide +kernel
theorem dX9_init_53 : decode cX9_init 53 = .ok (.invokespecial 25, 3) := by decide +kernel
theorem dX9_init_56 : decode cX9_init 56 = .ok (.putfield 33, 3) := by decide +kernel
theorem dX9_init_59 : decode cX9_init 59 = .ok (.aload_n 0, 1) := by decide +kernel
theorem dX9_init_60 : decode cX9_init 60 = .ok (.new 36, 3) := by decide +kernel
theorem dX9_init_63 : decode cX9_init 63 = .ok (.dup, 1) := by decide +kernel
theorem dX9_init_64 : decode cX9_init 64 = .ok (.invokespecial 38, 3) := by decide +kernel
theorem dX9_init_67 : decode cX9_init 67 = .ok (.putfield 39, 3) := by decide +kernel
theorem dX9_init_70 : decode cX9_init 70 = .ok (.aload_n 0, 1) := by decide +kernel
theorem dX9_init_71 : decode cX9_init 71 = .ok (.iconst 2, 1) := by decide +kernel
theorem dX9_init_72 : decode cX9_init 72 = .ok (.anewarray 23, 3) := by decide +kernel
theorem dX9_init_75 : decode cX9_init 75 = .ok (.putfield 43, 3) := by decide +kernel
theorem dX9_init_78 : decode cX9_init 78 = .ok (.aload_n 0, 1) := by decide +kernel
theorem dX9_init_79 : decode cX9_init 79 = .ok (.iconst 2, 1) := by decide +kernel
theorem dX9_init_80 : decode cX9_init 80 = .ok (.newarray .boolean, 2) := by decide +kernel
theorem dX9_init_82 : decode cX9_init 82 = .ok (.putfield 47, 3) := by decide +kernel
theorem dX9_init_85 : decode cX9_init 85 = .ok (.iconst 0, 1) := by decide +kernel
theorem dX9_init_86 : decode cX9_init 86 = .ok (.istore_n 1, 1) := by decide +kernel
theorem dX9_init_87 : decode cX9_init 87 = .ok (.iload_n 1, 1) := by decide +kernel
theorem dX9_init_88 : decode cX9_init 88 = .ok (.iconst 2, 1) := by decide +kernel
theorem dX9_init_89 : decode cX9_init 89 = .ok (.if_icmp .ge 22, 3) := by decide +kernel
theorem dX9_init_92 : decode cX9_init 92 = .ok (.aload_n 0, 1) := by decide +kernel
theorem dX9_init_93 : decode cX9_init 93 = .ok (.getfield 43, 3) := by decide +kernel
theorem dX9_init_96 : decode cX9_init 96 = .ok (.iload_n 1, 1) := by decide +kernel
theorem dX9_init_97 : decode cX9_init 97 = .ok (.new 23, 3) := by decide +kernel
theorem dX9_init_100 : decode cX9_init 100 = .ok (.dup, 1) := by decide +kernel
theorem dX9_init_101 : decode cX9_init 101 = .ok (.invokespecial 25, 3) := by decide +kernel
theorem dX9_init_104 : decode cX9_init 104 = .ok (.aastore, 1) := by decide +kernel
theorem dX9_init_105 : decode cX9_init 105 = .ok (.iinc 1 1, 3) := by decide +kernel
theorem dX9_init_108 : decode cX9_init 108 = .ok (.goto (-21), 3) := by decide +kernel
theorem dX9_init_111 : decode cX9_init 111 = .ok (.return_, 1) := by decide +kernel
theorem dX9_append_0 : decode cX9_append 0 = .ok (.iconst 1, 1) := by decide +kernel
theorem dX9_append_1 : decode cX9_append 1 = .ok (.iload_n 1, 1) := by decide +kernel
theorem dX9_append_2 : decode cX9_append 2 = .ok (.iconst 0, 1) := by decide +kernel
theorem dX9_append_3 : decode cX9_append 3 = .ok (.sipush 255, 3) := by decide +kernel
theorem dX9_append_6 : decode cX9_append 6 = .ok (.invokestatic 51, 3) := by decide +kernel
theorem dX9_append_9 : decode cX9_append 9 = .ok (.aload_n 0, 1) := by decide +kernel
theorem dX9_append_10 : decode cX9_append 10 = .ok (.getfield 12, 3) := by decide +kernel
theorem dX9_append_13 : decode cX9_append 13 = .ok (.invokevirtual 55, 3) := by decide +kernel
theorem dX9_append_16 : decode cX9_append 16 = .ok (.ifCond .ne 7, 3) := by decide +kernel
theorem dX9_append_19 : decode cX9_append 19 = .ok (.iconst 1, 1) := by decide +kernel
theorem dX9_append_20 : decode cX9_append 20 = .ok (.goto 4, 3) := by decide +kernel
theorem dX9_append_23 : decode cX9_append 23 = .ok (.iconst 0, 1) := by decide +kernel
theorem dX9_append_24 : decode cX9_append 24 = .ok (.invokestatic 59, 3) := by decide +kernel
theorem dX9_append_27 : decode cX9_append 27 = .ok (.aload_n 0, 1) := by decide +kernel
theorem dX9_append_28 : decode cX9_append 28 = .ok (.getfield 12, 3) := by decide +kernel
theorem dX9_append_31 : decode cX9_append 31 = .ok (.iload_n 1, 1) := by decide +kernel
theorem dX9_append_32 : decode cX9_append 32 = .ok (.i2c, 1) := by decide +kernel
theorem dX9_append_33 : decode cX9_append 33 = .ok (.invokevirtual 63, 3) := by decide +kernel
theorem dX9_append_36 : decode cX9_append 36 = .ok (.ireturn, 1) := by decide +kernel
theorem dX9_load_0 : decode cX9_load 0 = .ok (.iconst 1, 1) := by decide +kernel
theorem dX9_load_1 : decode cX9_load 1 = .ok (.iconst 1, 1) := by decide +kernel
theorem dX9_load_2 : decode cX9_load 2 = .ok (.aload_n 0, 1) := by decide +kernel
theorem dX9_load_3 : decode cX9_load 3 = .ok (.getfield 12, 3) := by decide +kernel
theorem dX9_load_6 : decode cX9_load 6 = .ok (.aload_n 0, 1) := by decide +kernel
theorem dX9_load_7 : decode cX9_load 7 = .ok (.getfield 19, 3) := by decide +kernel
theorem dX9_load_10 : decode cX9_load 10 = .ok (.invokevirtual 71, 3) := by decide +kernel
theorem dX9_load_13 : decode cX9_load 13 = .ok (.iconst (-1), 1) := by decide +kernel
theorem dX9_load_14 : decode cX9_load 14 = .ok (.if_icmp .ne 7, 3) := by decide +kernel
theorem dX9_load_17 : decode cX9_load 17 = .ok (.iconst 1, 1) := by decide +kernel
theorem dX9_load_18 : decode cX9_load 18 = .ok (.goto 4, 3) := by decide +kernel
theorem dX9_load_21 : decode cX9_load 21 = .ok (.iconst 0, 1) := by decide +kernel
theorem dX9_load_22 : decode cX9_load 22 = .ok (.invokestatic 59, 3) := by decide +kernel
theorem dX9_load_25 : decode cX9_load 25 = .ok (.aload_n 0, 1) := by decide +kernel
theorem dX9_load_26 : decode cX9_load 26 = .ok (.getfield 26, 3) := by decide +kernel
theorem dX9_load_29 : decode cX9_load 29 = .ok (.aload_n 0, 1) := by decide +kernel
theorem dX9_load_30 : decode cX9_load 30 = .ok (.getfield 30, 3) := by decide +kernel
theorem dX9_load_33 : decode cX9_load 33 = .ok (.invokevirtual 75, 3) := by decide +kernel
theorem dX9_load_36 : decode cX9_load 36 = .ok (.aload_n 0, 1) := by decide +kernel
theorem dX9_load_37 : decode cX9_load 37 = .ok (.getfield 39, 3) := by decide +kernel
theorem dX9_load_40 : decode cX9_load 40 = .ok (.invokevirtual 79, 3) := by decide +kernel
theorem dX9_load_43 : decode cX9_load 43 = .ok (.iconst 0, 1) := by decide +kernel
theorem dX9_load_44 : decode cX9_load 44 = .ok (.istore_n 1, 1) := by decide +kernel
theorem dX9_load_45 : decode cX9_load 45 = .ok (.iload_n 1, 1) := by decide +kernel
theorem dX9_load_46 : decode cX9_load 46 = .ok (.iconst 2, 1) := by decide +kernel
theorem dX9_load_47 : decode cX9_load 47 = .ok (.if_icmp .ge 16, 3) := by decide +kernel
theorem dX9_load_50 : decode cX9_load 50 = .ok (.aload_n 0, 1) := by decide +kernel
theorem dX9_load_51 : decode cX9_load 51 = .ok (.getfield 47, 3) := by decide +kernel
theorem dX9_load_54 : decode cX9_load 54 = .ok (.iload_n 1, 1) := by decide +kernel
theorem dX9_load_55 : decode cX9_load 55 = .ok (.iconst 0, 1) := by decide +kernel
theorem dX9_load_56 : decode cX9_load 56 = .ok (.bastore, 1) := by decide +kernel
theorem dX9_load_57 : decode cX9_load 57 = .ok (.iinc 1 1, 3) := by decide +kernel
theorem dX9_load_60 : decode cX9_load 60 = .ok (.goto (-15), 3) := by decide +kernel
theorem dX9_load_63 : decode cX9_load 63 = .ok (.iconst 0, 1) := by decide +kernel
theorem dX9_load_64 : decode cX9_load 64 = .ok (.istore_n 1, 1) := by decide +kernel
theorem dX9_load_65 : decode cX9_load 65 = .ok (.aload_n 0, 1) := by decide +kernel
theorem dX9_load_66 : decode cX9_load 66 = .ok (.getfield 12, 3) := by decide +kernel
theorem dX9_load_69 : decode cX9_load 69 = .ok (.invokevirtual 82, 3) := by decide +kernel
theorem dX9_load_72 : decode cX9_load 72 = .ok (.iconst 0, 1) := by decide +kernel
theorem dX9_load_73 : decode cX9_load 73 = .ok (.istore_n 2, 1) := by decide +kernel
theorem dX9_load_74 : decode cX9_load 74 = .ok (.iload_n 2, 1) := by decide +kernel
theorem dX9_load_75 : decode cX9_load 75 = .ok (.bipush 120, 2) := by decide +kernel
theorem dX9_load_77 : decode cX9_load 77 = .ok (.if_icmp .ge 40, 3) := by decide +kernel
theorem dX9_load_80 : decode cX9_load 80 = .ok (.aload_n 0, 1) := by decide +kernel
theorem dX9_load_81 : decode cX9_load 81 = .ok (.getfield 12, 3) := by decide +kernel
theorem dX9_load_84 : decode cX9_load 84 = .ok (.aload_n 0, 1) := by decide +kernel
theorem dX9_load_85 : decode cX9_load 85 = .ok (.getfield 19, 3) := by decide +kernel
theorem dX9_load_88 : decode cX9_load 88 = .ok (.invokevirtual 85, 3) := by decide +kernel
theorem dX9_load_91 : decode cX9_load 91 = .ok (.ifCond .eq 26, 3) := by decide +kernel
theorem dX9_load_94 : decode cX9_load 94 = .ok (.aload_n 0, 1) := by decide +kernel
theorem dX9_load_95 : decode cX9_load 95 = .ok (.getfield 26, 3) := by decide +kernel
theorem dX9_load_98 : decode cX9_load 98 = .ok (.aload_n 0, 1) := by decide +kernel
theorem dX9_load_99 : decode cX9_load 99 = .ok (.getfield 19, 3) := by decide +kernel
theorem dX9_load_102 : decode cX9_load 102 = .ok (.invokevirtual 89, 3) := by decide +kernel
theorem dX9_load_105 : decode cX9_load 105 = .ok (.ifCond .ne 6, 3) := by decide +kernel
theorem dX9_load_108 : decode cX9_load 108 = .ok (.iinc 1 1, 3) := by decide +kernel
theorem dX9_load_111 : decode cX9_load 111 = .ok (.iinc 2 1, 3) := by decide +kernel
theorem dX9_load_114 : decode cX9_load 114 = .ok (.goto (-40), 3) := by decide +kernel
theorem dX9_load_117 : decode cX9_load 117 = .ok (.iload_n 1, 1) := by decide +kernel
theorem dX9_load_118 : decode cX9_load 118 = .ok (.ireturn, 1) := by decide +kernel
theorem dX9_about_0 : decode cX9_about 0 = .ok (.iconst 1, 1) := by decide +kernel
theorem dX9_about_1 : decode cX9_about 1 = .ok (.iload_n 1, 1) := by decide +kernel
theorem dX9_about_2 : decode cX9_about 2 = .ok (.iconst 0, 1) := by decide +kernel
theorem dX9_about_3 : decode cX9_about 3 = .ok (.bipush 12, 2) := by decide +kernel
theorem dX9_about_5 : decode cX9_about 5 = .ok (.invokestatic 51, 3) := by decide +kernel
theorem dX9_about_8 : decode cX9_about 8 = .ok (.iconst 1, 1) := by decide +kernel
theorem dX9_about_9 : decode cX9_about 9 = .ok (.invokestatic 59, 3) := by decide +kernel
theorem dX9_about_12 : decode cX9_about 12 = .ok (.iload_n 1, 1) := by decide +kernel
theorem dX9_about_13 : decode cX9_about 13 = .ok (.tableswitch 165 0 11 #[63, 71, 79, 87, 95, 103, 111, 122, 130, 138, 146, 157], 63) := by decide +kernel
theorem dX9_about_76 : decode cX9_about 76 = .ok (.aload_n 0, 1) := by decide +kernel
theorem dX9_about_77 : decode cX9_about 77 = .ok (.getfield 26, 3) := by decide +kernel
theorem dX9_about_80 : decode cX9_about 80 = .ok (.getfield 92, 3) := by decide +kernel
theorem dX9_about_83 : decode cX9_about 83 = .ok (.ireturn, 1) := by decide +kernel
theorem dX9_about_84 : decode cX9_about 84 = .ok (.aload_n 0, 1) := by decide +kernel
theorem dX9_about_85 : decode cX9_about 85 = .ok (.getfield 26, 3) := by decide +kernel
theorem dX9_about_88 : decode cX9_about 88 = .ok (.getfield 96, 3) := by decide +kernel
theorem dX9_about_91 : decode cX9_about 91 = .ok (.ireturn, 1) := by decide +kernel
theorem dX9_about_92 : decode cX9_about 92 = .ok (.aload_n 0, 1) := by decide +kernel
theorem dX9_about_93 : decode cX9_about 93 = .ok (.getfield 26, 3) := by decide +kernel
theorem dX9_about_96 : decode cX9_about 96 = .ok (.getfield 99, 3) := by decide +kernel
theorem dX9_about_99 : decode cX9_about 99 = .ok (.ireturn, 1) := by decide +kernel
theorem dX9_about_100 : decode cX9_about 100 = .ok (.aload_n 0, 1) := by decide +kernel
theorem dX9_about_101 : decode cX9_about 101 = .ok (.getfield 26, 3) := by decide +kernel
theorem dX9_about_104 : decode cX9_about 104 = .ok (.getfield 102, 3) := by decide +kernel
theorem dX9_about_107 : decode cX9_about 107 = .ok (.ireturn, 1) := by decide +kernel
theorem dX9_about_108 : decode cX9_about 108 = .ok (.aload_n 0, 1) := by decide +kernel
theorem dX9_about_109 : decode cX9_about 109 = .ok (.getfield 26, 3) := by decide +kernel
theorem dX9_about_112 : decode cX9_about 112 = .ok (.getfield 105, 3) := by decide +kernel
theorem dX9_about_115 : decode cX9_about 115 = .ok (.ireturn, 1) := by decide +kernel
theorem dX9_about_116 : decode cX9_about 116 = .ok (.aload_n 0, 1) := by decide +kernel
theorem dX9_about_117 : decode cX9_about 117 = .ok (.getfield 26, 3) := by decide +kernel
theorem dX9_about_120 : decode cX9_about 120 = .ok (.invokevirtual 108, 3) := by decide +kernel
theorem dX9_about_123 : decode cX9_about 123 = .ok (.ireturn, 1) := by decide +kernel
theorem dX9_about_124 : decode cX9_about 124 = .ok (.aload_n 0, 1) := by decide +kernel
theorem dX9_about_125 : decode cX9_about 125 = .ok (.getfield 26, 3) := by decide +kernel
theorem dX9_about_128 : decode cX9_about 128 = .ok (.getfield 111, 3) := by decide +kernel
theorem dX9_about_131 : decode cX9_about 131 = .ok (.getfield 115, 3) := by decide +kernel
theorem dX9_about_134 : decode cX9_about 134 = .ok (.ireturn, 1) := by decide +kernel
theorem dX9_about_135 : decode cX9_about 135 = .ok (.aload_n 0, 1) := by decide +kernel
theorem dX9_about_136 : decode cX9_about 136 = .ok (.getfield 26, 3) := by decide +kernel
theorem dX9_about_139 : decode cX9_about 139 = .ok (.getfield 120, 3) := by decide +kernel
theorem dX9_about_142 : decode cX9_about 142 = .ok (.ireturn, 1) := by decide +kernel
theorem dX9_about_143 : decode cX9_about 143 = .ok (.aload_n 0, 1) := by decide +kernel
theorem dX9_about_144 : decode cX9_about 144 = .ok (.getfield 26, 3) := by decide +kernel
theorem dX9_about_147 : decode cX9_about 147 = .ok (.getfield 123, 3) := by decide +kernel
theorem dX9_about_150 : decode cX9_about 150 = .ok (.ireturn, 1) := by decide +kernel
theorem dX9_about_151 : decode cX9_about 151 = .ok (.aload_n 0, 1) := by decide +kernel
theorem dX9_about_152 : decode cX9_about 152 = .ok (.getfield 26, 3) := by decide +kernel
theorem dX9_about_155 : decode cX9_about 155 = .ok (.getfield 126, 3) := by decide +kernel
theorem dX9_about_158 : decode cX9_about 158 = .ok (.ireturn, 1) := by decide +kernel
theorem dX9_about_159 : decode cX9_about 159 = .ok (.aload_n 0, 1) := by decide +kernel
theorem dX9_about_160 : decode cX9_about 160 = .ok (.getfield 26, 3) := by decide +kernel
theorem dX9_about_163 : decode cX9_about 163 = .ok (.getfield 111, 3) := by decide +kernel
theorem dX9_about_166 : decode cX9_about 166 = .ok (.getfield 129, 3) := by decide +kernel
theorem dX9_about_169 : decode cX9_about 169 = .ok (.ireturn, 1) := by decide +kernel
theorem dX9_about_170 : decode cX9_about 170 = .ok (.aload_n 0, 1) := by decide +kernel
theorem dX9_about_171 : decode cX9_about 171 = .ok (.getfield 26, 3) := by decide +kernel
theorem dX9_about_174 : decode cX9_about 174 = .ok (.getfield 132, 3) := by decide +kernel
theorem dX9_about_177 : decode cX9_about 177 = .ok (.ireturn, 1) := by decide +kernel
theorem dX9_about_178 : decode cX9_about 178 = .ok (.aload_n 0, 1) := by decide +kernel
theorem dX9_about_179 : decode cX9_about 179 = .ok (.getfield 26, 3) := by decide +kernel
theorem dX9_about_182 : decode cX9_about 182 = .ok (.getfield 135, 3) := by decide +kernel
theorem dX9_about_185 : decode cX9_about 185 = .ok (.ireturn, 1) := by decide +kernel
theorem dX9_galleryOf_0 : decode cX9_galleryOf 0 = .ok (.aload_n 0, 1) := by decide +kernel
theorem dX9_galleryOf_1 : decode cX9_galleryOf 1 = .ok (.getfield 26, 3) := by decide +kernel
theorem dX9_galleryOf_4 : decode cX9_galleryOf 4 = .ok (.iload_n 1, 1) := by decide +kernel
theorem dX9_galleryOf_5 : decode cX9_galleryOf 5 = .ok (.invokevirtual 138, 3) := by decide +kernel
theorem dX9_galleryOf_8 : decode cX9_galleryOf 8 = .ok (.iload_n 2, 1) := by decide +kernel
theorem dX9_galleryOf_9 : decode cX9_galleryOf 9 = .ok (.iconst 0, 1) := by decide +kernel
theorem dX9_galleryOf_10 : decode cX9_galleryOf 10 = .ok (.iconst 5, 1) := by decide +kernel
theorem dX9_galleryOf_11 : decode cX9_galleryOf 11 = .ok (.invokestatic 51, 3) := by decide +kernel
theorem dX9_galleryOf_14 : decode cX9_galleryOf 14 = .ok (.iconst 1, 1) := by decide +kernel
theorem dX9_galleryOf_15 : decode cX9_galleryOf 15 = .ok (.invokestatic 59, 3) := by decide +kernel
theorem dX9_galleryOf_18 : decode cX9_galleryOf 18 = .ok (.aload_n 0, 1) := by decide +kernel
theorem dX9_galleryOf_19 : decode cX9_galleryOf 19 = .ok (.getfield 26, 3) := by decide +kernel
theorem dX9_galleryOf_22 : decode cX9_galleryOf 22 = .ok (.getfield 142, 3) := by decide +kernel
theorem dX9_galleryOf_25 : decode cX9_galleryOf 25 = .ok (.iload_n 1, 1) := by decide +kernel
theorem dX9_galleryOf_26 : decode cX9_galleryOf 26 = .ok (.aaload, 1) := by decide +kernel
theorem dX9_galleryOf_27 : decode cX9_galleryOf 27 = .ok (.astore_n 3, 1) := by decide +kernel
theorem dX9_galleryOf_28 : decode cX9_galleryOf 28 = .ok (.iload_n 2, 1) := by decide +kernel
theorem dX9_galleryOf_29 : decode cX9_galleryOf 29 = .ok (.tableswitch 84 0 4 #[35, 40, 45, 54, 75], 35) := by decide +kernel
theorem dX9_galleryOf_64 : decode cX9_galleryOf 64 = .ok (.aload_n 3, 1) := by decide +kernel
theorem dX9_galleryOf_65 : decode cX9_galleryOf 65 = .ok (.getfield 146, 3) := by decide +kernel
theorem dX9_galleryOf_68 : decode cX9_galleryOf 68 = .ok (.ireturn, 1) := by decide +kernel
theorem dX9_galleryOf_69 : decode cX9_galleryOf 69 = .ok (.aload_n 3, 1) := by decide +kernel
theorem dX9_galleryOf_70 : decode cX9_galleryOf 70 = .ok (.getfield 151, 3) := by decide +kernel
theorem dX9_galleryOf_73 : decode cX9_galleryOf 73 = .ok (.ireturn, 1) := by decide +kernel
theorem dX9_galleryOf_74 : decode cX9_galleryOf 74 = .ok (.iload_n 1, 1) := by decide +kernel
theorem dX9_galleryOf_75 : decode cX9_galleryOf 75 = .ok (.aload_n 3, 1) := by decide +kernel
theorem dX9_galleryOf_76 : decode cX9_galleryOf 76 = .ok (.getfield 146, 3) := by decide +kernel
theorem dX9_galleryOf_79 : decode cX9_galleryOf 79 = .ok (.invokestatic 154, 3) := by decide +kernel
theorem dX9_galleryOf_82 : decode cX9_galleryOf 82 = .ok (.ireturn, 1) := by decide +kernel
theorem dX9_galleryOf_83 : decode cX9_galleryOf 83 = .ok (.aload_n 0, 1) := by decide +kernel
theorem dX9_galleryOf_84 : decode cX9_galleryOf 84 = .ok (.getfield 26, 3) := by decide +kernel
theorem dX9_galleryOf_87 : decode cX9_galleryOf 87 = .ok (.iload_n 1, 1) := by decide +kernel
theorem dX9_galleryOf_88 : decode cX9_galleryOf 88 = .ok (.aload_n 3, 1) := by decide +kernel
theorem dX9_galleryOf_89 : decode cX9_galleryOf 89 = .ok (.getfield 146, 3) := by decide +kernel
theorem dX9_galleryOf_92 : decode cX9_galleryOf 92 = .ok (.invokevirtual 158, 3) := by decide +kernel
theorem dX9_galleryOf_95 : decode cX9_galleryOf 95 = .ok (.ifCond .eq 7, 3) := by decide +kernel
theorem dX9_galleryOf_98 : decode cX9_galleryOf 98 = .ok (.iconst 1, 1) := by decide +kernel
theorem dX9_galleryOf_99 : decode cX9_galleryOf 99 = .ok (.goto 4, 3) := by decide +kernel
theorem dX9_galleryOf_102 : decode cX9_galleryOf 102 = .ok (.iconst 0, 1) := by decide +kernel
theorem dX9_galleryOf_103 : decode cX9_galleryOf 103 = .ok (.ireturn, 1) := by decide +kernel
theorem dX9_galleryOf_104 : decode cX9_galleryOf 104 = .ok (.aload_n 0, 1) := by decide +kernel
theorem dX9_galleryOf_105 : decode cX9_galleryOf 105 = .ok (.getfield 26, 3) := by decide +kernel
theorem dX9_galleryOf_108 : decode cX9_galleryOf 108 = .ok (.iload_n 1, 1) := by decide +kernel
theorem dX9_galleryOf_109 : decode cX9_galleryOf 109 = .ok (.invokevirtual 162, 3) := by decide +kernel
theorem dX9_galleryOf_112 : decode cX9_galleryOf 112 = .ok (.ireturn, 1) := by decide +kernel
theorem dX9_galleryOf_113 : decode cX9_galleryOf 113 = .ok (.aload_n 0, 1) := by decide +kernel
theorem dX9_galleryOf_114 : decode cX9_galleryOf 114 = .ok (.getfield 26, 3) := by decide +kernel
theorem dX9_galleryOf_117 : decode cX9_galleryOf 117 = .ok (.iload_n 1, 1) := by decide +kernel
theorem dX9_galleryOf_118 : decode cX9_galleryOf 118 = .ok (.invokevirtual 166, 3) := by decide +kernel
theorem dX9_galleryOf_121 : decode cX9_galleryOf 121 = .ok (.ireturn, 1) := by decide +kernel
theorem dX9_minerOf_0 : decode cX9_minerOf 0 = .ok (.aload_n 0, 1) := by decide +kernel
theorem dX9_minerOf_1 : decode cX9_minerOf 1 = .ok (.getfield 26, 3) := by decide +kernel
theorem dX9_minerOf_4 : decode cX9_minerOf 4 = .ok (.iload_n 1, 1) := by decide +kernel
theorem dX9_minerOf_5 : decode cX9_minerOf 5 = .ok (.invokevirtual 169, 3) := by decide +kernel
theorem dX9_minerOf_8 : decode cX9_minerOf 8 = .ok (.iload_n 2, 1) := by decide +kernel
theorem dX9_minerOf_9 : decode cX9_minerOf 9 = .ok (.iconst 0, 1) := by decide +kernel
theorem dX9_minerOf_10 : decode cX9_minerOf 10 = .ok (.iconst 3, 1) := by decide +kernel
theorem dX9_minerOf_11 : decode cX9_minerOf 11 = .ok (.invokestatic 51, 3) := by decide +kernel
theorem dX9_minerOf_14 : decode cX9_minerOf 14 = .ok (.iconst 1, 1) := by decide +kernel
theorem dX9_minerOf_15 : decode cX9_minerOf 15 = .ok (.invokestatic 59, 3) := by decide +kernel
theorem dX9_minerOf_18 : decode cX9_minerOf 18 = .ok (.aload_n 0, 1) := by decide +kernel
theorem dX9_minerOf_19 : decode cX9_minerOf 19 = .ok (.getfield 26, 3) := by decide +kernel
theorem dX9_minerOf_22 : decode cX9_minerOf 22 = .ok (.getfield 172, 3) := by decide +kernel
theorem dX9_minerOf_25 : decode cX9_minerOf 25 = .ok (.iload_n 1, 1) := by decide +kernel
theorem dX9_minerOf_26 : decode cX9_minerOf 26 = .ok (.aaload, 1) := by decide +kernel
theorem dX9_minerOf_27 : decode cX9_minerOf 27 = .ok (.astore_n 3, 1) := by decide +kernel
theorem dX9_minerOf_28 : decode cX9_minerOf 28 = .ok (.iload_n 2, 1) := by decide +kernel
theorem dX9_minerOf_29 : decode cX9_minerOf 29 = .ok (.tableswitch 42 0 2 #[27, 32, 37], 27) := by decide +kernel
theorem dX9_minerOf_56 : decode cX9_minerOf 56 = .ok (.aload_n 3, 1) := by decide +kernel
theorem dX9_minerOf_57 : decode cX9_minerOf 57 = .ok (.getfield 176, 3) := by decide +kernel
theorem dX9_minerOf_60 : decode cX9_minerOf 60 = .ok (.ireturn, 1) := by decide +kernel
theorem dX9_minerOf_61 : decode cX9_minerOf 61 = .ok (.aload_n 3, 1) := by decide +kernel
theorem dX9_minerOf_62 : decode cX9_minerOf 62 = .ok (.getfield 181, 3) := by decide +kernel
theorem dX9_minerOf_65 : decode cX9_minerOf 65 = .ok (.ireturn, 1) := by decide +kernel
theorem dX9_minerOf_66 : decode cX9_minerOf 66 = .ok (.aload_n 3, 1) := by decide +kernel
theorem dX9_minerOf_67 : decode cX9_minerOf 67 = .ok (.getfield 184, 3) := by decide +kernel
theorem dX9_minerOf_70 : decode cX9_minerOf 70 = .ok (.ireturn, 1) := by decide +kernel
theorem dX9_minerOf_71 : decode cX9_minerOf 71 = .ok (.aload_n 3, 1) := by decide +kernel
theorem dX9_minerOf_72 : decode cX9_minerOf 72 = .ok (.getfield 185, 3) := by decide +kernel
theorem dX9_minerOf_75 : decode cX9_minerOf 75 = .ok (.ireturn, 1) := by decide +kernel
theorem dX9_lampOf_0 : decode cX9_lampOf 0 = .ok (.aload_n 0, 1) := by decide +kernel
theorem dX9_lampOf_1 : decode cX9_lampOf 1 = .ok (.getfield 26, 3) := by decide +kernel
theorem dX9_lampOf_4 : decode cX9_lampOf 4 = .ok (.iload_n 1, 1) := by decide +kernel
theorem dX9_lampOf_5 : decode cX9_lampOf 5 = .ok (.invokevirtual 186, 3) := by decide +kernel
theorem dX9_lampOf_8 : decode cX9_lampOf 8 = .ok (.iload_n 2, 1) := by decide +kernel
theorem dX9_lampOf_9 : decode cX9_lampOf 9 = .ok (.iconst 0, 1) := by decide +kernel
theorem dX9_lampOf_10 : decode cX9_lampOf 10 = .ok (.iconst 4, 1) := by decide +kernel
theorem dX9_lampOf_11 : decode cX9_lampOf 11 = .ok (.invokestatic 51, 3) := by decide +kernel
theorem dX9_lampOf_14 : decode cX9_lampOf 14 = .ok (.iconst 1, 1) := by decide +kernel
theorem dX9_lampOf_15 : decode cX9_lampOf 15 = .ok (.invokestatic 59, 3) := by decide +kernel
theorem dX9_lampOf_18 : decode cX9_lampOf 18 = .ok (.aload_n 0, 1) := by decide +kernel
theorem dX9_lampOf_19 : decode cX9_lampOf 19 = .ok (.getfield 26, 3) := by decide +kernel
theorem dX9_lampOf_22 : decode cX9_lampOf 22 = .ok (.getfield 189, 3) := by decide +kernel
theorem dX9_lampOf_25 : decode cX9_lampOf 25 = .ok (.iload_n 1, 1) := by decide +kernel
theorem dX9_lampOf_26 : decode cX9_lampOf 26 = .ok (.aaload, 1) := by decide +kernel
theorem dX9_lampOf_27 : decode cX9_lampOf 27 = .ok (.astore_n 3, 1) := by decide +kernel
theorem dX9_lampOf_28 : decode cX9_lampOf 28 = .ok (.iload_n 2, 1) := by decide +kernel
theorem dX9_lampOf_29 : decode cX9_lampOf 29 = .ok (.tableswitch 51 0 3 #[31, 36, 41, 46], 31) := by decide +kernel
theorem dX9_lampOf_60 : decode cX9_lampOf 60 = .ok (.aload_n 3, 1) := by decide +kernel
theorem dX9_lampOf_61 : decode cX9_lampOf 61 = .ok (.getfield 193, 3) := by decide +kernel
theorem dX9_lampOf_64 : decode cX9_lampOf 64 = .ok (.ireturn, 1) := by decide +kernel
theorem dX9_lampOf_65 : decode cX9_lampOf 65 = .ok (.aload_n 3, 1) := by decide +kernel
theorem dX9_lampOf_66 : decode cX9_lampOf 66 = .ok (.getfield 198, 3) := by decide +kernel
theorem dX9_lampOf_69 : decode cX9_lampOf 69 = .ok (.ireturn, 1) := by decide +kernel
theorem dX9_lampOf_70 : decode cX9_lampOf 70 = .ok (.aload_n 3, 1) := by decide +kernel
theorem dX9_lampOf_71 : decode cX9_lampOf 71 = .ok (.getfield 199, 3) := by decide +kernel
theorem dX9_lampOf_74 : decode cX9_lampOf 74 = .ok (.ireturn, 1) := by decide +kernel
theorem dX9_lampOf_75 : decode cX9_lampOf 75 = .ok (.aload_n 3, 1) := by decide +kernel
theorem dX9_lampOf_76 : decode cX9_lampOf 76 = .ok (.getfield 200, 3) := by decide +kernel
theorem dX9_lampOf_79 : decode cX9_lampOf 79 = .ok (.ireturn, 1) := by decide +kernel
theorem dX9_lampOf_80 : decode cX9_lampOf 80 = .ok (.aload_n 3, 1) := by decide +kernel
theorem dX9_lampOf_81 : decode cX9_lampOf 81 = .ok (.getfield 198, 3) := by decide +kernel
theorem dX9_lampOf_84 : decode cX9_lampOf 84 = .ok (.ifCond .le 7, 3) := by decide +kernel
theorem dX9_lampOf_87 : decode cX9_lampOf 87 = .ok (.iconst 1, 1) := by decide +kernel
theorem dX9_lampOf_88 : decode cX9_lampOf 88 = .ok (.goto 4, 3) := by decide +kernel
theorem dX9_lampOf_91 : decode cX9_lampOf 91 = .ok (.iconst 0, 1) := by decide +kernel
theorem dX9_lampOf_92 : decode cX9_lampOf 92 = .ok (.ireturn, 1) := by decide +kernel
theorem dX9_lad_0 : decode cX9_lad 0 = .ok (.iconst 1, 1) := by decide +kernel
theorem dX9_lad_1 : decode cX9_lad 1 = .ok (.iload_n 1, 1) := by decide +kernel
theorem dX9_lad_2 : decode cX9_lad 2 = .ok (.iconst 0, 1) := by decide +kernel
theorem dX9_lad_3 : decode cX9_lad 3 = .ok (.iconst 3, 1) := by decide +kernel
theorem dX9_lad_4 : decode cX9_lad 4 = .ok (.invokestatic 51, 3) := by decide +kernel
theorem dX9_lad_7 : decode cX9_lad 7 = .ok (.iconst 1, 1) := by decide +kernel
theorem dX9_lad_8 : decode cX9_lad 8 = .ok (.invokestatic 59, 3) := by decide +kernel
theorem dX9_lad_11 : decode cX9_lad 11 = .ok (.iload_n 1, 1) := by decide +kernel
theorem dX9_lad_12 : decode cX9_lad 12 = .ok (.tableswitch 61 0 2 #[28, 39, 50], 28) := by decide +kernel
theorem dX9_lad_40 : decode cX9_lad 40 = .ok (.aload_n 0, 1) := by decide +kernel
theorem dX9_lad_41 : decode cX9_lad 41 = .ok (.getfield 26, 3) := by decide +kernel
theorem dX9_lad_44 : decode cX9_lad 44 = .ok (.getfield 111, 3) := by decide +kernel
theorem dX9_lad_47 : decode cX9_lad 47 = .ok (.getfield 203, 3) := by decide +kernel
theorem dX9_lad_50 : decode cX9_lad 50 = .ok (.ireturn, 1) := by decide +kernel
theorem dX9_lad_51 : decode cX9_lad 51 = .ok (.aload_n 0, 1) := by decide +kernel
theorem dX9_lad_52 : decode cX9_lad 52 = .ok (.getfield 26, 3) := by decide +kernel
theorem dX9_lad_55 : decode cX9_lad 55 = .ok (.getfield 111, 3) := by decide +kernel
theorem dX9_lad_58 : decode cX9_lad 58 = .ok (.getfield 204, 3) := by decide +kernel
theorem dX9_lad_61 : decode cX9_lad 61 = .ok (.ireturn, 1) := by decide +kernel
theorem dX9_lad_62 : decode cX9_lad 62 = .ok (.aload_n 0, 1) := by decide +kernel
theorem dX9_lad_63 : decode cX9_lad 63 = .ok (.getfield 26, 3) := by decide +kernel
theorem dX9_lad_66 : decode cX9_lad 66 = .ok (.getfield 111, 3) := by decide +kernel
theorem dX9_lad_69 : decode cX9_lad 69 = .ok (.getfield 205, 3) := by decide +kernel
theorem dX9_lad_72 : decode cX9_lad 72 = .ok (.ireturn, 1) := by decide +kernel
theorem dX9_lad_73 : decode cX9_lad 73 = .ok (.aload_n 0, 1) := by decide +kernel
theorem dX9_lad_74 : decode cX9_lad 74 = .ok (.getfield 33, 3) := by decide +kernel
theorem dX9_lad_77 : decode cX9_lad 77 = .ok (.aload_n 0, 1) := by decide +kernel
theorem dX9_lad_78 : decode cX9_lad 78 = .ok (.getfield 26, 3) := by decide +kernel
theorem dX9_lad_81 : decode cX9_lad 81 = .ok (.invokevirtual 75, 3) := by decide +kernel
theorem dX9_lad_84 : decode cX9_lad 84 = .ok (.aload_n 0, 1) := by decide +kernel
theorem dX9_lad_85 : decode cX9_lad 85 = .ok (.getfield 33, 3) := by decide +kernel
theorem dX9_lad_88 : decode cX9_lad 88 = .ok (.sipush 1440, 3) := by decide +kernel
theorem dX9_lad_91 : decode cX9_lad 91 = .ok (.invokevirtual 208, 3) := by decide +kernel
theorem dX9_lad_94 : decode cX9_lad 94 = .ok (.ireturn, 1) := by decide +kernel
theorem dX9_orderOf_0 : decode cX9_orderOf 0 = .ok (.aload_n 0, 1) := by decide +kernel
theorem dX9_orderOf_1 : decode cX9_orderOf 1 = .ok (.getfield 26, 3) := by decide +kernel
theorem dX9_orderOf_4 : decode cX9_orderOf 4 = .ok (.getfield 111, 3) := by decide +kernel
theorem dX9_orderOf_7 : decode cX9_orderOf 7 = .ok (.iload_n 1, 1) := by decide +kernel
theorem dX9_orderOf_8 : decode cX9_orderOf 8 = .ok (.invokevirtual 211, 3) := by decide +kernel
theorem dX9_orderOf_11 : decode cX9_orderOf 11 = .ok (.iload_n 2, 1) := by decide +kernel
theorem dX9_orderOf_12 : decode cX9_orderOf 12 = .ok (.iconst 0, 1) := by decide +kernel
theorem dX9_orderOf_13 : decode cX9_orderOf 13 = .ok (.iconst 3, 1) := by decide +kernel
theorem dX9_orderOf_14 : decode cX9_orderOf 14 = .ok (.invokestatic 51, 3) := by decide +kernel
theorem dX9_orderOf_17 : decode cX9_orderOf 17 = .ok (.iconst 1, 1) := by decide +kernel
theorem dX9_orderOf_18 : decode cX9_orderOf 18 = .ok (.invokestatic 59, 3) := by decide +kernel
theorem dX9_orderOf_21 : decode cX9_orderOf 21 = .ok (.aload_n 0, 1) := by decide +kernel
theorem dX9_orderOf_22 : decode cX9_orderOf 22 = .ok (.getfield 26, 3) := by decide +kernel
theorem dX9_orderOf_25 : decode cX9_orderOf 25 = .ok (.getfield 111, 3) := by decide +kernel
theorem dX9_orderOf_28 : decode cX9_orderOf 28 = .ok (.getfield 214, 3) := by decide +kernel
theorem dX9_orderOf_31 : decode cX9_orderOf 31 = .ok (.iload_n 1, 1) := by decide +kernel
theorem dX9_orderOf_32 : decode cX9_orderOf 32 = .ok (.aaload, 1) := by decide +kernel
theorem dX9_orderOf_33 : decode cX9_orderOf 33 = .ok (.astore_n 3, 1) := by decide +kernel
theorem dX9_orderOf_34 : decode cX9_orderOf 34 = .ok (.aload_n 3, 1) := by decide +kernel
theorem dX9_orderOf_35 : decode cX9_orderOf 35 = .ok (.getfield 218, 3) := by decide +kernel
theorem dX9_orderOf_38 : decode cX9_orderOf 38 = .ok (.ifCond .ne 7, 3) := by decide +kernel
theorem dX9_orderOf_41 : decode cX9_orderOf 41 = .ok (.iconst 1, 1) := by decide +kernel
theorem dX9_orderOf_42 : decode cX9_orderOf 42 = .ok (.goto 4, 3) := by decide +kernel
theorem dX9_orderOf_45 : decode cX9_orderOf 45 = .ok (.iconst 0, 1) := by decide +kernel
theorem dX9_orderOf_46 : decode cX9_orderOf 46 = .ok (.istore 4, 2) := by decide +kernel
theorem dX9_orderOf_48 : decode cX9_orderOf 48 = .ok (.iload_n 2, 1) := by decide +kernel
theorem dX9_orderOf_49 : decode cX9_orderOf 49 = .ok (.tableswitch 54 0 2 #[27, 32, 37], 27) := by decide +kernel
theorem dX9_orderOf_76 : decode cX9_orderOf 76 = .ok (.aload_n 3, 1) := by decide +kernel
theorem dX9_orderOf_77 : decode cX9_orderOf 77 = .ok (.getfield 218, 3) := by decide +kernel
theorem dX9_orderOf_80 : decode cX9_orderOf 80 = .ok (.ireturn, 1) := by decide +kernel
theorem dX9_orderOf_81 : decode cX9_orderOf 81 = .ok (.aload_n 3, 1) := by decide +kernel
theorem dX9_orderOf_82 : decode cX9_orderOf 82 = .ok (.getfield 223, 3) := by decide +kernel
theorem dX9_orderOf_85 : decode cX9_orderOf 85 = .ok (.ireturn, 1) := by decide +kernel
theorem dX9_orderOf_86 : decode cX9_orderOf 86 = .ok (.iload 4, 2) := by decide +kernel
theorem dX9_orderOf_88 : decode cX9_orderOf 88 = .ok (.ifCond .eq 10, 3) := by decide +kernel
theorem dX9_orderOf_91 : decode cX9_orderOf 91 = .ok (.aload_n 3, 1) := by decide +kernel
theorem dX9_orderOf_92 : decode cX9_orderOf 92 = .ok (.getfield 224, 3) := by decide +kernel
theorem dX9_orderOf_95 : decode cX9_orderOf 95 = .ok (.goto 7, 3) := by decide +kernel
theorem dX9_orderOf_98 : decode cX9_orderOf 98 = .ok (.aload_n 3, 1) := by decide +kernel
theorem dX9_orderOf_99 : decode cX9_orderOf 99 = .ok (.getfield 225, 3) := by decide +kernel
theorem dX9_orderOf_102 : decode cX9_orderOf 102 = .ok (.ireturn, 1) := by decide +kernel
theorem dX9_orderOf_103 : decode cX9_orderOf 103 = .ok (.iload 4, 2) := by decide +kernel
theorem dX9_orderOf_105 : decode cX9_orderOf 105 = .ok (.ifCond .eq 10, 3) := by decide +kernel
theorem dX9_orderOf_108 : decode cX9_orderOf 108 = .ok (.aload_n 3, 1) := by decide +kernel
theorem dX9_orderOf_109 : decode cX9_orderOf 109 = .ok (.getfield 228, 3) := by decide +kernel
theorem dX9_orderOf_112 : decode cX9_orderOf 112 = .ok (.goto 4, 3) := by decide +kernel
theorem dX9_orderOf_115 : decode cX9_orderOf 115 = .ok (.iconst (-1), 1) := by decide +kernel
theorem dX9_orderOf_116 : decode cX9_orderOf 116 = .ok (.ireturn, 1) := by decide +kernel
theorem dX9_lit_0 : decode cX9_lit 0 = .ok (.aload_n 0, 1) := by decide +kernel
theorem dX9_lit_1 : decode cX9_lit 1 = .ok (.getfield 26, 3) := by decide +kernel
theorem dX9_lit_4 : decode cX9_lit 4 = .ok (.iload_n 1, 1) := by decide +kernel
theorem dX9_lit_5 : decode cX9_lit 5 = .ok (.invokevirtual 138, 3) := by decide +kernel
theorem dX9_lit_8 : decode cX9_lit 8 = .ok (.iload_n 2, 1) := by decide +kernel
theorem dX9_lit_9 : decode cX9_lit 9 = .ok (.iconst 0, 1) := by decide +kernel
theorem dX9_lit_10 : decode cX9_lit 10 = .ok (.iconst 1, 1) := by decide +kernel
theorem dX9_lit_11 : decode cX9_lit 11 = .ok (.invokestatic 51, 3) := by decide +kernel
theorem dX9_lit_14 : decode cX9_lit 14 = .ok (.iconst 1, 1) := by decide +kernel
theorem dX9_lit_15 : decode cX9_lit 15 = .ok (.invokestatic 59, 3) := by decide +kernel
theorem dX9_lit_18 : decode cX9_lit 18 = .ok (.iload_n 2, 1) := by decide +kernel
theorem dX9_lit_19 : decode cX9_lit 19 = .ok (.ifCond .ne 14, 3) := by decide +kernel
theorem dX9_lit_22 : decode cX9_lit 22 = .ok (.aload_n 0, 1) := by decide +kernel
theorem dX9_lit_23 : decode cX9_lit 23 = .ok (.getfield 26, 3) := by decide +kernel
theorem dX9_lit_26 : decode cX9_lit 26 = .ok (.iload_n 1, 1) := by decide +kernel
theorem dX9_lit_27 : decode cX9_lit 27 = .ok (.invokevirtual 229, 3) := by decide +kernel
theorem dX9_lit_30 : decode cX9_lit 30 = .ok (.goto 11, 3) := by decide +kernel
theorem dX9_lit_33 : decode cX9_lit 33 = .ok (.aload_n 0, 1) := by decide +kernel
theorem dX9_lit_34 : decode cX9_lit 34 = .ok (.getfield 26, 3) := by decide +kernel
theorem dX9_lit_37 : decode cX9_lit 37 = .ok (.iload_n 1, 1) := by decide +kernel
theorem dX9_lit_38 : decode cX9_lit 38 = .ok (.invokevirtual 232, 3) := by decide +kernel
theorem dX9_lit_41 : decode cX9_lit 41 = .ok (.ireturn, 1) := by decide +kernel
theorem dX9_gallery_0 : decode cX9_gallery 0 = .ok (.aload_n 0, 1) := by decide +kernel
theorem dX9_gallery_1 : decode cX9_gallery 1 = .ok (.iconst 1, 1) := by decide +kernel
theorem dX9_gallery_2 : decode cX9_gallery 2 = .ok (.iload_n 1, 1) := by decide +kernel
theorem dX9_gallery_3 : decode cX9_gallery 3 = .ok (.iconst 0, 1) := by decide +kernel
theorem dX9_gallery_4 : decode cX9_gallery 4 = .ok (.iconst 0, 1) := by decide +kernel
theorem dX9_gallery_5 : decode cX9_gallery 5 = .ok (.iconst 0, 1) := by decide +kernel
theorem dX9_gallery_6 : decode cX9_gallery 6 = .ok (.invokevirtual 235, 3) := by decide +kernel
theorem dX9_gallery_9 : decode cX9_gallery 9 = .ok (.ireturn, 1) := by decide +kernel
theorem dX9_miner_0 : decode cX9_miner 0 = .ok (.aload_n 0, 1) := by decide +kernel
theorem dX9_miner_1 : decode cX9_miner 1 = .ok (.iconst 2, 1) := by decide +kernel
theorem dX9_miner_2 : decode cX9_miner 2 = .ok (.iload_n 1, 1) := by decide +kernel
theorem dX9_miner_3 : decode cX9_miner 3 = .ok (.iload_n 2, 1) := by decide +kernel
theorem dX9_miner_4 : decode cX9_miner 4 = .ok (.iconst 0, 1) := by decide +kernel
theorem dX9_miner_5 : decode cX9_miner 5 = .ok (.iconst 0, 1) := by decide +kernel
theorem dX9_miner_6 : decode cX9_miner 6 = .ok (.invokevirtual 235, 3) := by decide +kernel
theorem dX9_miner_9 : decode cX9_miner 9 = .ok (.ireturn, 1) := by decide +kernel
theorem dX9_send_0 : decode cX9_send 0 = .ok (.aload_n 0, 1) := by decide +kernel
theorem dX9_send_1 : decode cX9_send 1 = .ok (.iconst 3, 1) := by decide +kernel
theorem dX9_send_2 : decode cX9_send 2 = .ok (.iload_n 1, 1) := by decide +kernel
theorem dX9_send_3 : decode cX9_send 3 = .ok (.iload_n 2, 1) := by decide +kernel
theorem dX9_send_4 : decode cX9_send 4 = .ok (.iconst 0, 1) := by decide +kernel
theorem dX9_send_5 : decode cX9_send 5 = .ok (.iconst 0, 1) := by decide +kernel
theorem dX9_send_6 : decode cX9_send 6 = .ok (.invokevirtual 235, 3) := by decide +kernel
theorem dX9_send_9 : decode cX9_send 9 = .ok (.ireturn, 1) := by decide +kernel
theorem dX9_lamp_0 : decode cX9_lamp 0 = .ok (.aload_n 0, 1) := by decide +kernel
theorem dX9_lamp_1 : decode cX9_lamp 1 = .ok (.iconst 4, 1) := by decide +kernel
theorem dX9_lamp_2 : decode cX9_lamp 2 = .ok (.iload_n 1, 1) := by decide +kernel
theorem dX9_lamp_3 : decode cX9_lamp 3 = .ok (.iload_n 2, 1) := by decide +kernel
theorem dX9_lamp_4 : decode cX9_lamp 4 = .ok (.iload_n 3, 1) := by decide +kernel
theorem dX9_lamp_5 : decode cX9_lamp 5 = .ok (.iload 4, 2) := by decide +kernel
theorem dX9_lamp_7 : decode cX9_lamp 7 = .ok (.invokevirtual 235, 3) := by decide +kernel
theorem dX9_lamp_10 : decode cX9_lamp 10 = .ok (.ireturn, 1) := by decide +kernel
theorem dX9_store_0 : decode cX9_store 0 = .ok (.aload_n 0, 1) := by decide +kernel
theorem dX9_store_1 : decode cX9_store 1 = .ok (.iconst 5, 1) := by decide +kernel
theorem dX9_store_2 : decode cX9_store 2 = .ok (.iload_n 1, 1) := by decide +kernel
theorem dX9_store_3 : decode cX9_store 3 = .ok (.iconst 0, 1) := by decide +kernel
theorem dX9_store_4 : decode cX9_store 4 = .ok (.iconst 0, 1) := by decide +kernel
theorem dX9_store_5 : decode cX9_store 5 = .ok (.iconst 0, 1) := by decide +kernel
theorem dX9_store_6 : decode cX9_store 6 = .ok (.invokevirtual 235, 3) := by decide +kernel
theorem dX9_store_9 : decode cX9_store 9 = .ok (.ireturn, 1) := by decide +kernel
theorem dX9_hang_0 : decode cX9_hang 0 = .ok (.aload_n 0, 1) := by decide +kernel
theorem dX9_hang_1 : decode cX9_hang 1 = .ok (.bipush 6, 2) := by decide +kernel
theorem dX9_hang_3 : decode cX9_hang 3 = .ok (.iload_n 1, 1) := by decide +kernel
theorem dX9_hang_4 : decode cX9_hang 4 = .ok (.iload_n 2, 1) := by decide +kernel
theorem dX9_hang_5 : decode cX9_hang 5 = .ok (.iload_n 3, 1) := by decide +kernel
theorem dX9_hang_6 : decode cX9_hang 6 = .ok (.iconst 0, 1) := by decide +kernel
theorem dX9_hang_7 : decode cX9_hang 7 = .ok (.invokevirtual 235, 3) := by decide +kernel
theorem dX9_hang_10 : decode cX9_hang 10 = .ok (.ireturn, 1) := by decide +kernel
theorem dX9_fill_0 : decode cX9_fill 0 = .ok (.aload_n 0, 1) := by decide +kernel
theorem dX9_fill_1 : decode cX9_fill 1 = .ok (.bipush 7, 2) := by decide +kernel
theorem dX9_fill_3 : decode cX9_fill 3 = .ok (.iload_n 1, 1) := by decide +kernel
theorem dX9_fill_4 : decode cX9_fill 4 = .ok (.iload_n 2, 1) := by decide +kernel
theorem dX9_fill_5 : decode cX9_fill 5 = .ok (.iconst 0, 1) := by decide +kernel
theorem dX9_fill_6 : decode cX9_fill 6 = .ok (.iconst 0, 1) := by decide +kernel
theorem dX9_fill_7 : decode cX9_fill 7 = .ok (.invokevirtual 235, 3) := by decide +kernel
theorem dX9_fill_10 : decode cX9_fill 10 = .ok (.ireturn, 1) := by decide +kernel
theorem dX9_drop_0 : decode cX9_drop 0 = .ok (.aload_n 0, 1) := by decide +kernel
theorem dX9_drop_1 : decode cX9_drop 1 = .ok (.bipush 8, 2) := by decide +kernel
theorem dX9_drop_3 : decode cX9_drop 3 = .ok (.iload_n 1, 1) := by decide +kernel
theorem dX9_drop_4 : decode cX9_drop 4 = .ok (.iconst 0, 1) := by decide +kernel
theorem dX9_drop_5 : decode cX9_drop 5 = .ok (.iconst 0, 1) := by decide +kernel
theorem dX9_drop_6 : decode cX9_drop 6 = .ok (.iconst 0, 1) := by decide +kernel
theorem dX9_drop_7 : decode cX9_drop 7 = .ok (.invokevirtual 235, 3) := by decide +kernel
theorem dX9_drop_10 : decode cX9_drop 10 = .ok (.ireturn, 1) := by decide +kernel
theorem dX9_set_0 : decode cX9_set 0 = .ok (.aload_n 0, 1) := by decide +kernel
theorem dX9_set_1 : decode cX9_set 1 = .ok (.bipush 9, 2) := by decide +kernel
theorem dX9_set_3 : decode cX9_set 3 = .ok (.iload_n 1, 1) := by decide +kernel
theorem dX9_set_4 : decode cX9_set 4 = .ok (.iload_n 2, 1) := by decide +kernel
theorem dX9_set_5 : decode cX9_set 5 = .ok (.iconst 0, 1) := by decide +kernel
theorem dX9_set_6 : decode cX9_set 6 = .ok (.iconst 0, 1) := by decide +kernel
theorem dX9_set_7 : decode cX9_set 7 = .ok (.invokevirtual 235, 3) := by decide +kernel
theorem dX9_set_10 : decode cX9_set 10 = .ok (.ireturn, 1) := by decide +kernel
theorem dX9_hours_0 : decode cX9_hours 0 = .ok (.aload_n 0, 1) := by decide +kernel
theorem dX9_hours_1 : decode cX9_hours 1 = .ok (.bipush 10, 2) := by decide +kernel
theorem dX9_hours_3 : decode cX9_hours 3 = .ok (.iload_n 1, 1) := by decide +kernel
theorem dX9_hours_4 : decode cX9_hours 4 = .ok (.iconst 0, 1) := by decide +kernel
theorem dX9_hours_5 : decode cX9_hours 5 = .ok (.iconst 0, 1) := by decide +kernel
theorem dX9_hours_6 : decode cX9_hours 6 = .ok (.iconst 0, 1) := by decide +kernel
theorem dX9_hours_7 : decode cX9_hours 7 = .ok (.invokevirtual 235, 3) := by decide +kernel
theorem dX9_hours_10 : decode cX9_hours 10 = .ok (.ireturn, 1) := by decide +kernel
theorem dX9_undo_0 : decode cX9_undo 0 = .ok (.iconst 1, 1) := by decide +kernel
theorem dX9_undo_1 : decode cX9_undo 1 = .ok (.iconst 1, 1) := by decide +kernel
theorem dX9_undo_2 : decode cX9_undo 2 = .ok (.aload_n 0, 1) := by decide +kernel
theorem dX9_undo_3 : decode cX9_undo 3 = .ok (.getfield 39, 3) := by decide +kernel
theorem dX9_undo_6 : decode cX9_undo 6 = .ok (.getfield 239, 3) := by decide +kernel
theorem dX9_undo_9 : decode cX9_undo 9 = .ok (.ifCond .le 7, 3) := by decide +kernel
theorem dX9_undo_12 : decode cX9_undo 12 = .ok (.iconst 1, 1) := by decide +kernel
theorem dX9_undo_13 : decode cX9_undo 13 = .ok (.goto 4, 3) := by decide +kernel
theorem dX9_undo_16 : decode cX9_undo 16 = .ok (.iconst 0, 1) := by decide +kernel
theorem dX9_undo_17 : decode cX9_undo 17 = .ok (.invokestatic 59, 3) := by decide +kernel
theorem dX9_undo_20 : decode cX9_undo 20 = .ok (.aload_n 0, 1) := by decide +kernel
theorem dX9_undo_21 : decode cX9_undo 21 = .ok (.getfield 39, 3) := by decide +kernel
theorem dX9_undo_24 : decode cX9_undo 24 = .ok (.aload_n 0, 1) := by decide +kernel
theorem dX9_undo_25 : decode cX9_undo 25 = .ok (.getfield 26, 3) := by decide +kernel
theorem dX9_undo_28 : decode cX9_undo 28 = .ok (.invokevirtual 242, 3) := by decide +kernel
theorem dX9_undo_31 : decode cX9_undo 31 = .ok (.aload_n 0, 1) := by decide +kernel
theorem dX9_undo_32 : decode cX9_undo 32 = .ok (.getfield 39, 3) := by decide +kernel
theorem dX9_undo_35 : decode cX9_undo 35 = .ok (.getfield 239, 3) := by decide +kernel
theorem dX9_undo_38 : decode cX9_undo 38 = .ok (.ireturn, 1) := by decide +kernel
theorem dX9_darkIn_0 : decode cX9_darkIn 0 = .ok (.aload_n 0, 1) := by decide +kernel
theorem dX9_darkIn_1 : decode cX9_darkIn 1 = .ok (.getfield 26, 3) := by decide +kernel
theorem dX9_darkIn_4 : decode cX9_darkIn 4 = .ok (.iload_n 1, 1) := by decide +kernel
theorem dX9_darkIn_5 : decode cX9_darkIn 5 = .ok (.invokevirtual 138, 3) := by decide +kernel
theorem dX9_darkIn_8 : decode cX9_darkIn 8 = .ok (.iconst 1, 1) := by decide +kernel
theorem dX9_darkIn_9 : decode cX9_darkIn 9 = .ok (.iconst 1, 1) := by decide +kernel
theorem dX9_darkIn_10 : decode cX9_darkIn 10 = .ok (.invokestatic 59, 3) := by decide +kernel
theorem dX9_darkIn_13 : decode cX9_darkIn 13 = .ok (.aload_n 0, 1) := by decide +kernel
theorem dX9_darkIn_14 : decode cX9_darkIn 14 = .ok (.getfield 33, 3) := by decide +kernel
theorem dX9_darkIn_17 : decode cX9_darkIn 17 = .ok (.aload_n 0, 1) := by decide +kernel
theorem dX9_darkIn_18 : decode cX9_darkIn 18 = .ok (.getfield 26, 3) := by decide +kernel
theorem dX9_darkIn_21 : decode cX9_darkIn 21 = .ok (.invokevirtual 75, 3) := by decide +kernel
theorem dX9_darkIn_24 : decode cX9_darkIn 24 = .ok (.iconst 0, 1) := by decide +kernel
theorem dX9_darkIn_25 : decode cX9_darkIn 25 = .ok (.istore_n 2, 1) := by decide +kernel
theorem dX9_darkIn_26 : decode cX9_darkIn 26 = .ok (.iload_n 2, 1) := by decide +kernel
theorem dX9_darkIn_27 : decode cX9_darkIn 27 = .ok (.sipush 200, 3) := by decide +kernel
theorem dX9_darkIn_30 : decode cX9_darkIn 30 = .ok (.if_icmp .gt 43, 3) := by decide +kernel
theorem dX9_darkIn_33 : decode cX9_darkIn 33 = .ok (.aload_n 0, 1) := by decide +kernel
theorem dX9_darkIn_34 : decode cX9_darkIn 34 = .ok (.getfield 33, 3) := by decide +kernel
theorem dX9_darkIn_37 : decode cX9_darkIn 37 = .ok (.iload_n 1, 1) := by decide +kernel
theorem dX9_darkIn_38 : decode cX9_darkIn 38 = .ok (.aload_n 0, 1) := by decide +kernel
theorem dX9_darkIn_39 : decode cX9_darkIn 39 = .ok (.getfield 33, 3) := by decide +kernel
theorem dX9_darkIn_42 : decode cX9_darkIn 42 = .ok (.getfield 142, 3) := by decide +kernel
theorem dX9_darkIn_45 : decode cX9_darkIn 45 = .ok (.iload_n 1, 1) := by decide +kernel
theorem dX9_darkIn_46 : decode cX9_darkIn 46 = .ok (.aaload, 1) := by decide +kernel
theorem dX9_darkIn_47 : decode cX9_darkIn 47 = .ok (.getfield 146, 3) := by decide +kernel
theorem dX9_darkIn_50 : decode cX9_darkIn 50 = .ok (.invokevirtual 158, 3) := by decide +kernel
theorem dX9_darkIn_53 : decode cX9_darkIn 53 = .ok (.ifCond .ne 5, 3) := by decide +kernel
theorem dX9_darkIn_56 : decode cX9_darkIn 56 = .ok (.iload_n 2, 1) := by decide +kernel
theorem dX9_darkIn_57 : decode cX9_darkIn 57 = .ok (.ireturn, 1) := by decide +kernel
theorem dX9_darkIn_58 : decode cX9_darkIn 58 = .ok (.aload_n 0, 1) := by decide +kernel
theorem dX9_darkIn_59 : decode cX9_darkIn 59 = .ok (.getfield 33, 3) := by decide +kernel
theorem dX9_darkIn_62 : decode cX9_darkIn 62 = .ok (.iconst 1, 1) := by decide +kernel
theorem dX9_darkIn_63 : decode cX9_darkIn 63 = .ok (.invokevirtual 245, 3) := by decide +kernel
theorem dX9_darkIn_66 : decode cX9_darkIn 66 = .ok (.pop, 1) := by decide +kernel
theorem dX9_darkIn_67 : decode cX9_darkIn 67 = .ok (.iinc 2 1, 3) := by decide +kernel
theorem dX9_darkIn_70 : decode cX9_darkIn 70 = .ok (.goto (-44), 3) := by decide +kernel
theorem dX9_darkIn_73 : decode cX9_darkIn 73 = .ok (.iconst (-1), 1) := by decide +kernel
theorem dX9_darkIn_74 : decode cX9_darkIn 74 = .ok (.ireturn, 1) := by decide +kernel
theorem dX9_depthIn_0 : decode cX9_depthIn 0 = .ok (.aload_n 0, 1) := by decide +kernel
theorem dX9_depthIn_1 : decode cX9_depthIn 1 = .ok (.getfield 26, 3) := by decide +kernel
theorem dX9_depthIn_4 : decode cX9_depthIn 4 = .ok (.iload_n 1, 1) := by decide +kernel
theorem dX9_depthIn_5 : decode cX9_depthIn 5 = .ok (.invokevirtual 138, 3) := by decide +kernel
theorem dX9_depthIn_8 : decode cX9_depthIn 8 = .ok (.iload_n 2, 1) := by decide +kernel
theorem dX9_depthIn_9 : decode cX9_depthIn 9 = .ok (.iconst 1, 1) := by decide +kernel
theorem dX9_depthIn_10 : decode cX9_depthIn 10 = .ok (.sipush 200, 3) := by decide +kernel
theorem dX9_depthIn_13 : decode cX9_depthIn 13 = .ok (.invokestatic 51, 3) := by decide +kernel
theorem dX9_depthIn_16 : decode cX9_depthIn 16 = .ok (.iconst 1, 1) := by decide +kernel
theorem dX9_depthIn_17 : decode cX9_depthIn 17 = .ok (.invokestatic 59, 3) := by decide +kernel
theorem dX9_depthIn_20 : decode cX9_depthIn 20 = .ok (.aload_n 0, 1) := by decide +kernel
theorem dX9_depthIn_21 : decode cX9_depthIn 21 = .ok (.getfield 33, 3) := by decide +kernel
theorem dX9_depthIn_24 : decode cX9_depthIn 24 = .ok (.aload_n 0, 1) := by decide +kernel
theorem dX9_depthIn_25 : decode cX9_depthIn 25 = .ok (.getfield 26, 3) := by decide +kernel
theorem dX9_depthIn_28 : decode cX9_depthIn 28 = .ok (.invokevirtual 75, 3) := by decide +kernel
theorem dX9_depthIn_31 : decode cX9_depthIn 31 = .ok (.aload_n 0, 1) := by decide +kernel
theorem dX9_depthIn_32 : decode cX9_depthIn 32 = .ok (.getfield 33, 3) := by decide +kernel
theorem dX9_depthIn_35 : decode cX9_depthIn 35 = .ok (.iload_n 2, 1) := by decide +kernel
theorem dX9_depthIn_36 : decode cX9_depthIn 36 = .ok (.invokevirtual 245, 3) := by decide +kernel
theorem dX9_depthIn_39 : decode cX9_depthIn 39 = .ok (.pop, 1) := by decide +kernel
theorem dX9_depthIn_40 : decode cX9_depthIn 40 = .ok (.aload_n 0, 1) := by decide +kernel
theorem dX9_depthIn_41 : decode cX9_depthIn 41 = .ok (.getfield 33, 3) := by decide +kernel
theorem dX9_depthIn_44 : decode cX9_depthIn 44 = .ok (.getfield 142, 3) := by decide +kernel
theorem dX9_depthIn_47 : decode cX9_depthIn 47 = .ok (.iload_n 1, 1) := by decide +kernel
theorem dX9_depthIn_48 : decode cX9_depthIn 48 = .ok (.aaload, 1) := by decide +kernel
theorem dX9_depthIn_49 : decode cX9_depthIn 49 = .ok (.getfield 146, 3) := by decide +kernel
theorem dX9_depthIn_52 : decode cX9_depthIn 52 = .ok (.ireturn, 1) := by decide +kernel
theorem dX9_doneIn_0 : decode cX9_doneIn 0 = .ok (.aload_n 0, 1) := by decide +kernel
theorem dX9_doneIn_1 : decode cX9_doneIn 1 = .ok (.getfield 33, 3) := by decide +kernel
theorem dX9_doneIn_4 : decode cX9_doneIn 4 = .ok (.aload_n 0, 1) := by decide +kernel
theorem dX9_doneIn_5 : decode cX9_doneIn 5 = .ok (.getfield 26, 3) := by decide +kernel
theorem dX9_doneIn_8 : decode cX9_doneIn 8 = .ok (.invokevirtual 75, 3) := by decide +kernel
theorem dX9_doneIn_11 : decode cX9_doneIn 11 = .ok (.aload_n 0, 1) := by decide +kernel
theorem dX9_doneIn_12 : decode cX9_doneIn 12 = .ok (.getfield 33, 3) := by decide +kernel
theorem dX9_doneIn_15 : decode cX9_doneIn 15 = .ok (.iconst 0, 1) := by decide +kernel
theorem dX9_doneIn_16 : decode cX9_doneIn 16 = .ok (.putfield 248, 3) := by decide +kernel
theorem dX9_doneIn_19 : decode cX9_doneIn 19 = .ok (.iconst 0, 1) := by decide +kernel
theorem dX9_doneIn_20 : decode cX9_doneIn 20 = .ok (.istore_n 1, 1) := by decide +kernel
theorem dX9_doneIn_21 : decode cX9_doneIn 21 = .ok (.iload_n 1, 1) := by decide +kernel
theorem dX9_doneIn_22 : decode cX9_doneIn 22 = .ok (.sipush 200, 3) := by decide +kernel
theorem dX9_doneIn_25 : decode cX9_doneIn 25 = .ok (.if_icmp .gt 33, 3) := by decide +kernel
theorem dX9_doneIn_28 : decode cX9_doneIn 28 = .ok (.aload_n 0, 1) := by decide +kernel
theorem dX9_doneIn_29 : decode cX9_doneIn 29 = .ok (.getfield 33, 3) := by decide +kernel
theorem dX9_doneIn_32 : decode cX9_doneIn 32 = .ok (.getfield 111, 3) := by decide +kernel
theorem dX9_doneIn_35 : decode cX9_doneIn 35 = .ok (.getfield 129, 3) := by decide +kernel
theorem dX9_doneIn_38 : decode cX9_doneIn 38 = .ok (.ifCond .ne 5, 3) := by decide +kernel
theorem dX9_doneIn_41 : decode cX9_doneIn 41 = .ok (.iload_n 1, 1) := by decide +kernel
theorem dX9_doneIn_42 : decode cX9_doneIn 42 = .ok (.ireturn, 1) := by decide +kernel
theorem dX9_doneIn_43 : decode cX9_doneIn 43 = .ok (.aload_n 0, 1) := by decide +kernel
theorem dX9_doneIn_44 : decode cX9_doneIn 44 = .ok (.getfield 33, 3) := by decide +kernel
theorem dX9_doneIn_47 : decode cX9_doneIn 47 = .ok (.iconst 1, 1) := by decide +kernel
theorem dX9_doneIn_48 : decode cX9_doneIn 48 = .ok (.invokevirtual 245, 3) := by decide +kernel
theorem dX9_doneIn_51 : decode cX9_doneIn 51 = .ok (.pop, 1) := by decide +kernel
theorem dX9_doneIn_52 : decode cX9_doneIn 52 = .ok (.iinc 1 1, 3) := by decide +kernel
theorem dX9_doneIn_55 : decode cX9_doneIn 55 = .ok (.goto (-34), 3) := by decide +kernel
theorem dX9_doneIn_58 : decode cX9_doneIn 58 = .ok (.iconst (-1), 1) := by decide +kernel
theorem dX9_doneIn_59 : decode cX9_doneIn 59 = .ok (.ireturn, 1) := by decide +kernel
theorem dX9_bestCell_0 : decode cX9_bestCell 0 = .ok (.aload_n 0, 1) := by decide +kernel
theorem dX9_bestCell_1 : decode cX9_bestCell 1 = .ok (.getfield 26, 3) := by decide +kernel
theorem dX9_bestCell_4 : decode cX9_bestCell 4 = .ok (.iload_n 1, 1) := by decide +kernel
theorem dX9_bestCell_5 : decode cX9_bestCell 5 = .ok (.invokevirtual 186, 3) := by decide +kernel
theorem dX9_bestCell_8 : decode cX9_bestCell 8 = .ok (.ifCond .eq 18, 3) := by decide +kernel
theorem dX9_bestCell_11 : decode cX9_bestCell 11 = .ok (.aload_n 0, 1) := by decide +kernel
theorem dX9_bestCell_12 : decode cX9_bestCell 12 = .ok (.getfield 26, 3) := by decide +kernel
theorem dX9_bestCell_15 : decode cX9_bestCell 15 = .ok (.iload_n 2, 1) := by decide +kernel
theorem dX9_bestCell_16 : decode cX9_bestCell 16 = .ok (.invokevirtual 138, 3) := by decide +kernel
theorem dX9_bestCell_19 : decode cX9_bestCell 19 = .ok (.ifCond .eq 7, 3) := by decide +kernel
theorem dX9_bestCell_22 : decode cX9_bestCell 22 = .ok (.iconst 1, 1) := by decide +kernel
theorem dX9_bestCell_23 : decode cX9_bestCell 23 = .ok (.goto 4, 3) := by decide +kernel
theorem dX9_bestCell_26 : decode cX9_bestCell 26 = .ok (.iconst 0, 1) := by decide +kernel
theorem dX9_bestCell_27 : decode cX9_bestCell 27 = .ok (.iload_n 3, 1) := by decide +kernel
theorem dX9_bestCell_28 : decode cX9_bestCell 28 = .ok (.iconst 1, 1) := by decide +kernel
theorem dX9_bestCell_29 : decode cX9_bestCell 29 = .ok (.bipush 100, 2) := by decide +kernel
theorem dX9_bestCell_31 : decode cX9_bestCell 31 = .ok (.invokestatic 51, 3) := by decide +kernel
theorem dX9_bestCell_34 : decode cX9_bestCell 34 = .ok (.aload_n 0, 1) := by decide +kernel
theorem dX9_bestCell_35 : decode cX9_bestCell 35 = .ok (.getfield 26, 3) := by decide +kernel
theorem dX9_bestCell_38 : decode cX9_bestCell 38 = .ok (.getfield 111, 3) := by decide +kernel
theorem dX9_bestCell_41 : decode cX9_bestCell 41 = .ok (.invokevirtual 251, 3) := by decide +kernel
theorem dX9_bestCell_44 : decode cX9_bestCell 44 = .ok (.invokestatic 59, 3) := by decide +kernel
theorem dX9_bestCell_47 : decode cX9_bestCell 47 = .ok (.iconst (-1), 1) := by decide +kernel
theorem dX9_bestCell_48 : decode cX9_bestCell 48 = .ok (.istore 4, 2) := by decide +kernel
theorem dX9_bestCell_50 : decode cX9_bestCell 50 = .ok (.iconst 0, 1) := by decide +kernel
theorem dX9_bestCell_51 : decode cX9_bestCell 51 = .ok (.istore 5, 2) := by decide +kernel
theorem dX9_bestCell_53 : decode cX9_bestCell 53 = .ok (.iconst 0, 1) := by decide +kernel
theorem dX9_bestCell_54 : decode cX9_bestCell 54 = .ok (.istore 6, 2) := by decide +kernel
theorem dX9_bestCell_56 : decode cX9_bestCell 56 = .ok (.iload 6, 2) := by decide +kernel
theorem dX9_bestCell_58 : decode cX9_bestCell 58 = .ok (.aload_n 0, 1) := by decide +kernel
theorem dX9_bestCell_59 : decode cX9_bestCell 59 = .ok (.getfield 26, 3) := by decide +kernel
theorem dX9_bestCell_62 : decode cX9_bestCell 62 = .ok (.getfield 142, 3) := by decide +kernel
theorem dX9_bestCell_65 : decode cX9_bestCell 65 = .ok (.iload_n 2, 1) := by decide +kernel
theorem dX9_bestCell_66 : decode cX9_bestCell 66 = .ok (.aaload, 1) := by decide +kernel
theorem dX9_bestCell_67 : decode cX9_bestCell 67 = .ok (.getfield 146, 3) := by decide +kernel
theorem dX9_bestCell_70 : decode cX9_bestCell 70 = .ok (.if_icmp .ge 60, 3) := by decide +kernel
theorem dX9_bestCell_73 : decode cX9_bestCell 73 = .ok (.aload_n 0, 1) := by decide +kernel
theorem dX9_bestCell_74 : decode cX9_bestCell 74 = .ok (.getfield 33, 3) := by decide +kernel
theorem dX9_bestCell_77 : decode cX9_bestCell 77 = .ok (.aload_n 0, 1) := by decide +kernel
theorem dX9_bestCell_78 : decode cX9_bestCell 78 = .ok (.getfield 26, 3) := by decide +kernel
theorem dX9_bestCell_81 : decode cX9_bestCell 81 = .ok (.invokevirtual 75, 3) := by decide +kernel
theorem dX9_bestCell_84 : decode cX9_bestCell 84 = .ok (.aload_n 0, 1) := by decide +kernel
theorem dX9_bestCell_85 : decode cX9_bestCell 85 = .ok (.getfield 33, 3) := by decide +kernel
theorem dX9_bestCell_88 : decode cX9_bestCell 88 = .ok (.getfield 111, 3) := by decide +kernel
theorem dX9_bestCell_91 : decode cX9_bestCell 91 = .ok (.iload_n 1, 1) := by decide +kernel
theorem dX9_bestCell_92 : decode cX9_bestCell 92 = .ok (.iload_n 2, 1) := by decide +kernel
theorem dX9_bestCell_93 : decode cX9_bestCell 93 = .ok (.iload 6, 2) := by decide +kernel
theorem dX9_bestCell_95 : decode cX9_bestCell 95 = .ok (.invokevirtual 254, 3) := by decide +kernel
theorem dX9_bestCell_98 : decode cX9_bestCell 98 = .ok (.pop, 1) := by decide +kernel
theorem dX9_bestCell_99 : decode cX9_bestCell 99 = .ok (.aload_n 0, 1) := by decide +kernel
theorem dX9_bestCell_100 : decode cX9_bestCell 100 = .ok (.getfield 33, 3) := by decide +kernel
theorem dX9_bestCell_103 : decode cX9_bestCell 103 = .ok (.iload_n 3, 1) := by decide +kernel
theorem dX9_bestCell_104 : decode cX9_bestCell 104 = .ok (.invokevirtual 245, 3) := by decide +kernel
theorem dX9_bestCell_107 : decode cX9_bestCell 107 = .ok (.istore 7, 2) := by decide +kernel
theorem dX9_bestCell_109 : decode cX9_bestCell 109 = .ok (.iload 7, 2) := by decide +kernel
theorem dX9_bestCell_111 : decode cX9_bestCell 111 = .ok (.iload 5, 2) := by decide +kernel
theorem dX9_bestCell_113 : decode cX9_bestCell 113 = .ok (.if_icmp .lt 11, 3) := by decide +kernel
theorem dX9_bestCell_116 : decode cX9_bestCell 116 = .ok (.iload 7, 2) := by decide +kernel
theorem dX9_bestCell_118 : decode cX9_bestCell 118 = .ok (.istore 5, 2) := by decide +kernel
theorem dX9_bestCell_120 : decode cX9_bestCell 120 = .ok (.iload 6, 2) := by decide +kernel
theorem dX9_bestCell_122 : decode cX9_bestCell 122 = .ok (.istore 4, 2) := by decide +kernel
theorem dX9_bestCell_124 : decode cX9_bestCell 124 = .ok (.iinc 6 1, 3) := by decide +kernel
theorem dX9_bestCell_127 : decode cX9_bestCell 127 = .ok (.goto (-71), 3) := by decide +kernel
theorem dX9_bestCell_130 : decode cX9_bestCell 130 = .ok (.iload 4, 2) := by decide +kernel
theorem dX9_bestCell_132 : decode cX9_bestCell 132 = .ok (.ireturn, 1) := by decide +kernel
theorem dX9_steps_0 : decode cX9_steps 0 = .ok (.aload_n 0, 1) := by decide +kernel
theorem dX9_steps_1 : decode cX9_steps 1 = .ok (.getfield 26, 3) := by decide +kernel
theorem dX9_steps_4 : decode cX9_steps 4 = .ok (.iload_n 1, 1) := by decide +kernel
theorem dX9_steps_5 : decode cX9_steps 5 = .ok (.iload_n 2, 1) := by decide +kernel
theorem dX9_steps_6 : decode cX9_steps 6 = .ok (.invokevirtual 258, 3) := by decide +kernel
theorem dX9_steps_9 : decode cX9_steps 9 = .ok (.ifCond .eq 20, 3) := by decide +kernel
theorem dX9_steps_12 : decode cX9_steps 12 = .ok (.aload_n 0, 1) := by decide +kernel
theorem dX9_steps_13 : decode cX9_steps 13 = .ok (.getfield 26, 3) := by decide +kernel
theorem dX9_steps_16 : decode cX9_steps 16 = .ok (.iload_n 3, 1) := by decide +kernel
theorem dX9_steps_17 : decode cX9_steps 17 = .ok (.iload 4, 2) := by decide +kernel
theorem dX9_steps_19 : decode cX9_steps 19 = .ok (.invokevirtual 258, 3) := by decide +kernel
theorem dX9_steps_22 : decode cX9_steps 22 = .ok (.ifCond .eq 7, 3) := by decide +kernel
theorem dX9_steps_25 : decode cX9_steps 25 = .ok (.iconst 1, 1) := by decide +kernel
theorem dX9_steps_26 : decode cX9_steps 26 = .ok (.goto 4, 3) := by decide +kernel
theorem dX9_steps_29 : decode cX9_steps 29 = .ok (.iconst 0, 1) := by decide +kernel
theorem dX9_steps_30 : decode cX9_steps 30 = .ok (.iconst 1, 1) := by decide +kernel
theorem dX9_steps_31 : decode cX9_steps 31 = .ok (.iconst 1, 1) := by decide +kernel
theorem dX9_steps_32 : decode cX9_steps 32 = .ok (.invokestatic 59, 3) := by decide +kernel
theorem dX9_steps_35 : decode cX9_steps 35 = .ok (.iload_n 1, 1) := by decide +kernel
theorem dX9_steps_36 : decode cX9_steps 36 = .ok (.iload_n 3, 1) := by decide +kernel
theorem dX9_steps_37 : decode cX9_steps 37 = .ok (.if_icmp .ne 13, 3) := by decide +kernel
theorem dX9_steps_40 : decode cX9_steps 40 = .ok (.iload_n 2, 1) := by decide +kernel
theorem dX9_steps_41 : decode cX9_steps 41 = .ok (.iload 4, 2) := by decide +kernel
theorem dX9_steps_43 : decode cX9_steps 43 = .ok (.isub, 1) := by decide +kernel
theorem dX9_steps_44 : decode cX9_steps 44 = .ok (.invokestatic 261, 3) := by decide +kernel
theorem dX9_steps_47 : decode cX9_steps 47 = .ok (.goto 7, 3) := by decide +kernel
theorem dX9_steps_50 : decode cX9_steps 50 = .ok (.iload_n 2, 1) := by decide +kernel
theorem dX9_steps_51 : decode cX9_steps 51 = .ok (.iload 4, 2) := by decide +kernel
theorem dX9_steps_53 : decode cX9_steps 53 = .ok (.iadd, 1) := by decide +kernel
theorem dX9_steps_54 : decode cX9_steps 54 = .ok (.ireturn, 1) := by decide +kernel
theorem dX9_runScript_0 : decode cX9_runScript 0 = .ok (.iconst 1, 1) := by decide +kernel
theorem dX9_runScript_1 : decode cX9_runScript 1 = .ok (.iload_n 1, 1) := by decide +kernel
theorem dX9_runScript_2 : decode cX9_runScript 2 = .ok (.iconst 1, 1) := by decide +kernel
theorem dX9_runScript_3 : decode cX9_runScript 3 = .ok (.iconst 3, 1) := by decide +kernel
theorem dX9_runScript_4 : decode cX9_runScript 4 = .ok (.invokestatic 51, 3) := by decide +kernel
theorem dX9_runScript_7 : decode cX9_runScript 7 = .ok (.ifCond .eq 22, 3) := by decide +kernel
theorem dX9_runScript_10 : decode cX9_runScript 10 = .ok (.lload_n 2, 1) := by decide +kernel
theorem dX9_runScript_11 : decode cX9_runScript 11 = .ok (.lconst 0, 1) := by decide +kernel
theorem dX9_runScript_12 : decode cX9_runScript 12 = .ok (.lcmp, 1) := by decide +kernel
theorem dX9_runScript_13 : decode cX9_runScript 13 = .ok (.ifCond .lt 16, 3) := by decide +kernel
theorem dX9_runScript_16 : decode cX9_runScript 16 = .ok (.lload_n 2, 1) := by decide +kernel
theorem dX9_runScript_17 : decode cX9_runScript 17 = .ok (.iload_n 1, 1) := by decide +kernel
theorem dX9_runScript_18 : decode cX9_runScript 18 = .ok (.invokestatic 266, 3) := by decide +kernel
theorem dX9_runScript_21 : decode cX9_runScript 21 = .ok (.lcmp, 1) := by decide +kernel
theorem dX9_runScript_22 : decode cX9_runScript 22 = .ok (.ifCond .ge 7, 3) := by decide +kernel
theorem dX9_runScript_25 : decode cX9_runScript 25 = .ok (.iconst 1, 1) := by decide +kernel
theorem dX9_runScript_26 : decode cX9_runScript 26 = .ok (.goto 4, 3) := by decide +kernel
theorem dX9_runScript_29 : decode cX9_runScript 29 = .ok (.iconst 0, 1) := by decide +kernel
theorem dX9_runScript_30 : decode cX9_runScript 30 = .ok (.iconst 1, 1) := by decide +kernel
theorem dX9_runScript_31 : decode cX9_runScript 31 = .ok (.invokestatic 59, 3) := by decide +kernel
theorem dX9_runScript_34 : decode cX9_runScript 34 = .ok (.aload_n 0, 1) := by decide +kernel
theorem dX9_runScript_35 : decode cX9_runScript 35 = .ok (.getfield 33, 3) := by decide +kernel
theorem dX9_runScript_38 : decode cX9_runScript 38 = .ok (.aload_n 0, 1) := by decide +kernel
theorem dX9_runScript_39 : decode cX9_runScript 39 = .ok (.getfield 26, 3) := by decide +kernel
theorem dX9_runScript_42 : decode cX9_runScript 42 = .ok (.invokevirtual 75, 3) := by decide +kernel
theorem dX9_runScript_45 : decode cX9_runScript 45 = .ok (.iconst 0, 1) := by decide +kernel
theorem dX9_runScript_46 : decode cX9_runScript 46 = .ok (.istore 4, 2) := by decide +kernel
theorem dX9_runScript_48 : decode cX9_runScript 48 = .ok (.iload 4, 2) := by decide +kernel
theorem dX9_runScript_50 : decode cX9_runScript 50 = .ok (.iload_n 1, 1) := by decide +kernel
theorem dX9_runScript_51 : decode cX9_runScript 51 = .ok (.if_icmp .ge 86, 3) := by decide +kernel
theorem dX9_runScript_54 : decode cX9_runScript 54 = .ok (.lload_n 2, 1) := by decide +kernel
theorem dX9_runScript_55 : decode cX9_runScript 55 = .ok (.iload_n 1, 1) := by decide +kernel
theorem dX9_runScript_56 : decode cX9_runScript 56 = .ok (.iconst 1, 1) := by decide +kernel
theorem dX9_runScript_57 : decode cX9_runScript 57 = .ok (.isub, 1) := by decide +kernel
theorem dX9_runScript_58 : decode cX9_runScript 58 = .ok (.iload 4, 2) := by decide +kernel
theorem dX9_runScript_60 : decode cX9_runScript 60 = .ok (.isub, 1) := by decide +kernel
theorem dX9_runScript_61 : decode cX9_runScript 61 = .ok (.invokestatic 266, 3) := by decide +kernel
theorem dX9_runScript_64 : decode cX9_runScript 64 = .ok (.ldiv, 1) := by decide +kernel
theorem dX9_runScript_65 : decode cX9_runScript 65 = .ok (.ldc2_w 270, 3) := by decide +kernel
theorem dX9_runScript_68 : decode cX9_runScript 68 = .ok (.lrem, 1) := by decide +kernel
theorem dX9_runScript_69 : decode cX9_runScript 69 = .ok (.l2i, 1) := by decide +kernel
theorem dX9_runScript_70 : decode cX9_runScript 70 = .ok (.istore 5, 2) := by decide +kernel
theorem dX9_runScript_72 : decode cX9_runScript 72 = .ok (.aload_n 0, 1) := by decide +kernel
theorem dX9_runScript_73 : decode cX9_runScript 73 = .ok (.getfield 19, 3) := by decide +kernel
theorem dX9_runScript_76 : decode cX9_runScript 76 = .ok (.iload 5, 2) := by decide +kernel
theorem dX9_runScript_78 : decode cX9_runScript 78 = .ok (.invokevirtual 272, 3) := by decide +kernel
theorem dX9_runScript_81 : decode cX9_runScript 81 = .ok (.ifCond .ne 6, 3) := by decide +kernel
theorem dX9_runScript_84 : decode cX9_runScript 84 = .ok (.iload 4, 2) := by decide +kernel
theorem dX9_runScript_86 : decode cX9_runScript 86 = .ok (.ireturn, 1) := by decide +kernel
theorem dX9_runScript_87 : decode cX9_runScript 87 = .ok (.aload_n 0, 1) := by decide +kernel
theorem dX9_runScript_88 : decode cX9_runScript 88 = .ok (.getfield 19, 3) := by decide +kernel
theorem dX9_runScript_91 : decode cX9_runScript 91 = .ok (.invokevirtual 275, 3) := by decide +kernel
theorem dX9_runScript_94 : decode cX9_runScript 94 = .ok (.ifCond .eq 20, 3) := by decide +kernel
theorem dX9_runScript_97 : decode cX9_runScript 97 = .ok (.aload_n 0, 1) := by decide +kernel
theorem dX9_runScript_98 : decode cX9_runScript 98 = .ok (.getfield 33, 3) := by decide +kernel
theorem dX9_runScript_101 : decode cX9_runScript 101 = .ok (.aload_n 0, 1) := by decide +kernel
theorem dX9_runScript_102 : decode cX9_runScript 102 = .ok (.getfield 19, 3) := by decide +kernel
theorem dX9_runScript_105 : decode cX9_runScript 105 = .ok (.invokevirtual 278, 3) := by decide +kernel
theorem dX9_runScript_108 : decode cX9_runScript 108 = .ok (.ifCond .eq 20, 3) := by decide +kernel
theorem dX9_runScript_111 : decode cX9_runScript 111 = .ok (.goto 20, 3) := by decide +kernel
theorem dX9_runScript_114 : decode cX9_runScript 114 = .ok (.aload_n 0, 1) := by decide +kernel
theorem dX9_runScript_115 : decode cX9_runScript 115 = .ok (.getfield 33, 3) := by decide +kernel
theorem dX9_runScript_118 : decode cX9_runScript 118 = .ok (.aload_n 0, 1) := by decide +kernel
theorem dX9_runScript_119 : decode cX9_runScript 119 = .ok (.getfield 19, 3) := by decide +kernel
theorem dX9_runScript_122 : decode cX9_runScript 122 = .ok (.invokevirtual 89, 3) := by decide +kernel
theorem dX9_runScript_125 : decode cX9_runScript 125 = .ok (.ifCond .ne 6, 3) := by decide +kernel
theorem dX9_runScript_128 : decode cX9_runScript 128 = .ok (.iload 4, 2) := by decide +kernel
theorem dX9_runScript_130 : decode cX9_runScript 130 = .ok (.ireturn, 1) := by decide +kernel
theorem dX9_runScript_131 : decode cX9_runScript 131 = .ok (.iinc 4 1, 3) := by decide +kernel
theorem dX9_runScript_134 : decode cX9_runScript 134 = .ok (.goto (-86), 3) := by decide +kernel
theorem dX9_runScript_137 : decode cX9_runScript 137 = .ok (.iconst (-1), 1) := by decide +kernel
theorem dX9_runScript_138 : decode cX9_runScript 138 = .ok (.ireturn, 1) := by decide +kernel
theorem dX9_simulate_0 : decode cX9_simulate 0 = .ok (.iconst 1, 1) := by decide +kernel
theorem dX9_simulate_1 : decode cX9_simulate 1 = .ok (.iload_n 3, 1) := by decide +kernel
theorem dX9_simulate_2 : decode cX9_simulate 2 = .ok (.iconst 1, 1) := by decide +kernel
theorem dX9_simulate_3 : decode cX9_simulate 3 = .ok (.bipush 60, 2) := by decide +kernel
theorem dX9_simulate_5 : decode cX9_simulate 5 = .ok (.invokestatic 51, 3) := by decide +kernel
theorem dX9_simulate_8 : decode cX9_simulate 8 = .ok (.iconst 1, 1) := by decide +kernel
theorem dX9_simulate_9 : decode cX9_simulate 9 = .ok (.invokestatic 59, 3) := by decide +kernel
theorem dX9_simulate_12 : decode cX9_simulate 12 = .ok (.aload_n 0, 1) := by decide +kernel
theorem dX9_simulate_13 : decode cX9_simulate 13 = .ok (.getfield 33, 3) := by decide +kernel
theorem dX9_simulate_16 : decode cX9_simulate 16 = .ok (.aload_n 0, 1) := by decide +kernel
theorem dX9_simulate_17 : decode cX9_simulate 17 = .ok (.getfield 26, 3) := by decide +kernel
theorem dX9_simulate_20 : decode cX9_simulate 20 = .ok (.invokevirtual 75, 3) := by decide +kernel
theorem dX9_simulate_23 : decode cX9_simulate 23 = .ok (.lload_n 1, 1) := by decide +kernel
theorem dX9_simulate_24 : decode cX9_simulate 24 = .ok (.lstore 4, 2) := by decide +kernel
theorem dX9_simulate_26 : decode cX9_simulate 26 = .ok (.iconst 0, 1) := by decide +kernel
theorem dX9_simulate_27 : decode cX9_simulate 27 = .ok (.istore 6, 2) := by decide +kernel
theorem dX9_simulate_29 : decode cX9_simulate 29 = .ok (.iload 6, 2) := by decide +kernel
theorem dX9_simulate_31 : decode cX9_simulate 31 = .ok (.iload_n 3, 1) := by decide +kernel
theorem dX9_simulate_32 : decode cX9_simulate 32 = .ok (.if_icmp .ge 46, 3) := by decide +kernel
theorem dX9_simulate_35 : decode cX9_simulate 35 = .ok (.lload 4, 2) := by decide +kernel
theorem dX9_simulate_37 : decode cX9_simulate 37 = .ok (.ldc2_w 281, 3) := by decide +kernel
theorem dX9_simulate_40 : decode cX9_simulate 40 = .ok (.lmul, 1) := by decide +kernel
theorem dX9_simulate_41 : decode cX9_simulate 41 = .ok (.ldc2_w 283, 3) := by decide +kernel
theorem dX9_simulate_44 : decode cX9_simulate 44 = .ok (.ladd, 1) := by decide +kernel
theorem dX9_simulate_45 : decode cX9_simulate 45 = .ok (.lstore 4, 2) := by decide +kernel
theorem dX9_simulate_47 : decode cX9_simulate 47 = .ok (.aload_n 0, 1) := by decide +kernel
theorem dX9_simulate_48 : decode cX9_simulate 48 = .ok (.getfield 19, 3) := by decide +kernel
theorem dX9_simulate_51 : decode cX9_simulate 51 = .ok (.lload 4, 2) := by decide +kernel
theorem dX9_simulate_53 : decode cX9_simulate 53 = .ok (.bipush 33, 2) := by decide +kernel
theorem dX9_simulate_55 : decode cX9_simulate 55 = .ok (.lushr, 1) := by decide +kernel
theorem dX9_simulate_56 : decode cX9_simulate 56 = .ok (.l2i, 1) := by decide +kernel
theorem dX9_simulate_57 : decode cX9_simulate 57 = .ok (.invokevirtual 285, 3) := by decide +kernel
theorem dX9_simulate_60 : decode cX9_simulate 60 = .ok (.aload_n 0, 1) := by decide +kernel
theorem dX9_simulate_61 : decode cX9_simulate 61 = .ok (.getfield 33, 3) := by decide +kernel
theorem dX9_simulate_64 : decode cX9_simulate 64 = .ok (.aload_n 0, 1) := by decide +kernel
theorem dX9_simulate_65 : decode cX9_simulate 65 = .ok (.getfield 19, 3) := by decide +kernel
theorem dX9_simulate_68 : decode cX9_simulate 68 = .ok (.invokevirtual 89, 3) := by decide +kernel
theorem dX9_simulate_71 : decode cX9_simulate 71 = .ok (.pop, 1) := by decide +kernel
theorem dX9_simulate_72 : decode cX9_simulate 72 = .ok (.iinc 6 1, 3) := by decide +kernel
theorem dX9_simulate_75 : decode cX9_simulate 75 = .ok (.goto (-46), 3) := by decide +kernel
theorem dX9_simulate_78 : decode cX9_simulate 78 = .ok (.aload_n 0, 1) := by decide +kernel
theorem dX9_simulate_79 : decode cX9_simulate 79 = .ok (.getfield 33, 3) := by decide +kernel
theorem dX9_simulate_82 : decode cX9_simulate 82 = .ok (.getfield 132, 3) := by decide +kernel
theorem dX9_simulate_85 : decode cX9_simulate 85 = .ok (.aload_n 0, 1) := by decide +kernel
theorem dX9_simulate_86 : decode cX9_simulate 86 = .ok (.getfield 26, 3) := by decide +kernel
theorem dX9_simulate_89 : decode cX9_simulate 89 = .ok (.getfield 132, 3) := by decide +kernel
theorem dX9_simulate_92 : decode cX9_simulate 92 = .ok (.isub, 1) := by decide +kernel
theorem dX9_simulate_93 : decode cX9_simulate 93 = .ok (.istore 6, 2) := by decide +kernel
theorem dX9_simulate_95 : decode cX9_simulate 95 = .ok (.sipush 1000, 3) := by decide +kernel
theorem dX9_simulate_98 : decode cX9_simulate 98 = .ok (.aload_n 0, 1) := by decide +kernel
theorem dX9_simulate_99 : decode cX9_simulate 99 = .ok (.getfield 33, 3) := by decide +kernel
theorem dX9_simulate_102 : decode cX9_simulate 102 = .ok (.getfield 135, 3) := by decide +kernel
theorem dX9_simulate_105 : decode cX9_simulate 105 = .ok (.aload_n 0, 1) := by decide +kernel
theorem dX9_simulate_106 : decode cX9_simulate 106 = .ok (.getfield 26, 3) := by decide +kernel
theorem dX9_simulate_109 : decode cX9_simulate 109 = .ok (.getfield 135, 3) := by decide +kernel
theorem dX9_simulate_112 : decode cX9_simulate 112 = .ok (.isub, 1) := by decide +kernel
theorem dX9_simulate_113 : decode cX9_simulate 113 = .ok (.imul, 1) := by decide +kernel
theorem dX9_simulate_114 : decode cX9_simulate 114 = .ok (.iload 6, 2) := by decide +kernel
theorem dX9_simulate_116 : decode cX9_simulate 116 = .ok (.sipush 999, 3) := by decide +kernel
theorem dX9_simulate_119 : decode cX9_simulate 119 = .ok (.invokestatic 289, 3) := by decide +kernel
theorem dX9_simulate_122 : decode cX9_simulate 122 = .ok (.iadd, 1) := by decide +kernel
theorem dX9_simulate_123 : decode cX9_simulate 123 = .ok (.ireturn, 1) := by decide +kernel
theorem dX9_save_0 : decode cX9_save 0 = .ok (.iload_n 1, 1) := by decide +kernel
theorem dX9_save_1 : decode cX9_save 1 = .ok (.iconst 0, 1) := by decide +kernel
theorem dX9_save_2 : decode cX9_save 2 = .ok (.iconst 1, 1) := by decide +kernel
theorem dX9_save_3 : decode cX9_save 3 = .ok (.invokestatic 51, 3) := by decide +kernel
theorem dX9_save_6 : decode cX9_save 6 = .ok (.iconst 1, 1) := by decide +kernel
theorem dX9_save_7 : decode cX9_save 7 = .ok (.iconst 1, 1) := by decide +kernel
theorem dX9_save_8 : decode cX9_save 8 = .ok (.invokestatic 59, 3) := by decide +kernel
theorem dX9_save_11 : decode cX9_save 11 = .ok (.aload_n 0, 1) := by decide +kernel
theorem dX9_save_12 : decode cX9_save 12 = .ok (.getfield 43, 3) := by decide +kernel
theorem dX9_save_15 : decode cX9_save 15 = .ok (.iload_n 1, 1) := by decide +kernel
theorem dX9_save_16 : decode cX9_save 16 = .ok (.aaload, 1) := by decide +kernel
theorem dX9_save_17 : decode cX9_save 17 = .ok (.aload_n 0, 1) := by decide +kernel
theorem dX9_save_18 : decode cX9_save 18 = .ok (.getfield 26, 3) := by decide +kernel
theorem dX9_save_21 : decode cX9_save 21 = .ok (.invokevirtual 75, 3) := by decide +kernel
theorem dX9_save_24 : decode cX9_save 24 = .ok (.aload_n 0, 1) := by decide +kernel
theorem dX9_save_25 : decode cX9_save 25 = .ok (.getfield 47, 3) := by decide +kernel
theorem dX9_save_28 : decode cX9_save 28 = .ok (.iload_n 1, 1) := by decide +kernel
theorem dX9_save_29 : decode cX9_save 29 = .ok (.iconst 1, 1) := by decide +kernel
theorem dX9_save_30 : decode cX9_save 30 = .ok (.bastore, 1) := by decide +kernel
theorem dX9_save_31 : decode cX9_save 31 = .ok (.aload_n 0, 1) := by decide +kernel
theorem dX9_save_32 : decode cX9_save 32 = .ok (.getfield 26, 3) := by decide +kernel
theorem dX9_save_35 : decode cX9_save 35 = .ok (.getfield 102, 3) := by decide +kernel
theorem dX9_save_38 : decode cX9_save 38 = .ok (.ireturn, 1) := by decide +kernel
theorem dX9_restore_0 : decode cX9_restore 0 = .ok (.iload_n 1, 1) := by decide +kernel
theorem dX9_restore_1 : decode cX9_restore 1 = .ok (.iconst 0, 1) := by decide +kernel
theorem dX9_restore_2 : decode cX9_restore 2 = .ok (.iconst 1, 1) := by decide +kernel
theorem dX9_restore_3 : decode cX9_restore 3 = .ok (.invokestatic 51, 3) := by decide +kernel
theorem dX9_restore_6 : decode cX9_restore 6 = .ok (.istore_n 2, 1) := by decide +kernel
theorem dX9_restore_7 : decode cX9_restore 7 = .ok (.iload_n 2, 1) := by decide +kernel
theorem dX9_restore_8 : decode cX9_restore 8 = .ok (.iconst 1, 1) := by decide +kernel
theorem dX9_restore_9 : decode cX9_restore 9 = .ok (.iload_n 2, 1) := by decide +kernel
theorem dX9_restore_10 : decode cX9_restore 10 = .ok (.ifCond .eq 16, 3) := by decide +kernel
theorem dX9_restore_13 : decode cX9_restore 13 = .ok (.aload_n 0, 1) := by decide +kernel
theorem dX9_restore_14 : decode cX9_restore 14 = .ok (.getfield 47, 3) := by decide +kernel
theorem dX9_restore_17 : decode cX9_restore 17 = .ok (.iload_n 1, 1) := by decide +kernel
theorem dX9_restore_18 : decode cX9_restore 18 = .ok (.baload, 1) := by decide +kernel
theorem dX9_restore_19 : decode cX9_restore 19 = .ok (.ifCond .eq 7, 3) := by decide +kernel
theorem dX9_restore_22 : decode cX9_restore 22 = .ok (.iconst 1, 1) := by decide +kernel
theorem dX9_restore_23 : decode cX9_restore 23 = .ok (.goto 4, 3) := by decide +kernel
theorem dX9_restore_26 : decode cX9_restore 26 = .ok (.iconst 0, 1) := by decide +kernel
theorem dX9_restore_27 : decode cX9_restore 27 = .ok (.invokestatic 59, 3) := by decide +kernel
theorem dX9_restore_30 : decode cX9_restore 30 = .ok (.aload_n 0, 1) := by decide +kernel
theorem dX9_restore_31 : decode cX9_restore 31 = .ok (.getfield 26, 3) := by decide +kernel
theorem dX9_restore_34 : decode cX9_restore 34 = .ok (.aload_n 0, 1) := by decide +kernel
theorem dX9_restore_35 : decode cX9_restore 35 = .ok (.getfield 43, 3) := by decide +kernel
theorem dX9_restore_38 : decode cX9_restore 38 = .ok (.iload_n 1, 1) := by decide +kernel
theorem dX9_restore_39 : decode cX9_restore 39 = .ok (.aaload, 1) := by decide +kernel
theorem dX9_restore_40 : decode cX9_restore 40 = .ok (.invokevirtual 75, 3) := by decide +kernel
theorem dX9_restore_43 : decode cX9_restore 43 = .ok (.aload_n 0, 1) := by decide +kernel
theorem dX9_restore_44 : decode cX9_restore 44 = .ok (.getfield 39, 3) := by decide +kernel
theorem dX9_restore_47 : decode cX9_restore 47 = .ok (.invokevirtual 79, 3) := by decide +kernel
theorem dX9_restore_50 : decode cX9_restore 50 = .ok (.aload_n 0, 1) := by decide +kernel
theorem dX9_restore_51 : decode cX9_restore 51 = .ok (.getfield 26, 3) := by decide +kernel
theorem dX9_restore_54 : decode cX9_restore 54 = .ok (.getfield 102, 3) := by decide +kernel
theorem dX9_restore_57 : decode cX9_restore 57 = .ok (.ireturn, 1) := by decide +kernel
theorem dX9_act_0 : decode cX9_act 0 = .ok (.aload_n 0, 1) := by decide +kernel
theorem dX9_act_1 : decode cX9_act 1 = .ok (.getfield 19, 3) := by decide +kernel
theorem dX9_act_4 : decode cX9_act 4 = .ok (.iload_n 1, 1) := by decide +kernel
theorem dX9_act_5 : decode cX9_act 5 = .ok (.iload_n 2, 1) := by decide +kernel
theorem dX9_act_6 : decode cX9_act 6 = .ok (.iload_n 3, 1) := by decide +kernel
theorem dX9_act_7 : decode cX9_act 7 = .ok (.iload 4, 2) := by decide +kernel
theorem dX9_act_9 : decode cX9_act 9 = .ok (.iload 5, 2) := by decide +kernel
theorem dX9_act_11 : decode cX9_act 11 = .ok (.invokevirtual 292, 3) := by decide +kernel
theorem dX9_act_14 : decode cX9_act 14 = .ok (.aload_n 0, 1) := by decide +kernel
theorem dX9_act_15 : decode cX9_act 15 = .ok (.getfield 26, 3) := by decide +kernel
theorem dX9_act_18 : decode cX9_act 18 = .ok (.aload_n 0, 1) := by decide +kernel
theorem dX9_act_19 : decode cX9_act 19 = .ok (.getfield 19, 3) := by decide +kernel
theorem dX9_act_22 : decode cX9_act 22 = .ok (.invokevirtual 296, 3) := by decide +kernel
theorem dX9_act_25 : decode cX9_act 25 = .ok (.invokestatic 299, 3) := by decide +kernel
theorem dX9_act_28 : decode cX9_act 28 = .ok (.aload_n 0, 1) := by decide +kernel
theorem dX9_act_29 : decode cX9_act 29 = .ok (.getfield 39, 3) := by decide +kernel
theorem dX9_act_32 : decode cX9_act 32 = .ok (.aload_n 0, 1) := by decide +kernel
theorem dX9_act_33 : decode cX9_act 33 = .ok (.getfield 26, 3) := by decide +kernel
theorem dX9_act_36 : decode cX9_act 36 = .ok (.invokevirtual 302, 3) := by decide +kernel
theorem dX9_act_39 : decode cX9_act 39 = .ok (.aload_n 0, 1) := by decide +kernel
theorem dX9_act_40 : decode cX9_act 40 = .ok (.getfield 26, 3) := by decide +kernel
theorem dX9_act_43 : decode cX9_act 43 = .ok (.aload_n 0, 1) := by decide +kernel
theorem dX9_act_44 : decode cX9_act 44 = .ok (.getfield 19, 3) := by decide +kernel
theorem dX9_act_47 : decode cX9_act 47 = .ok (.invokevirtual 305, 3) := by decide +kernel
theorem dX9_act_50 : decode cX9_act 50 = .ok (.ireturn, 1) := by decide +kernel
theorem dX9_demand_0 : decode cX9_demand 0 = .ok (.iload_n 0, 1) := by decide +kernel
theorem dX9_demand_1 : decode cX9_demand 1 = .ok (.iload_n 1, 1) := by decide +kernel
theorem dX9_demand_2 : decode cX9_demand 2 = .ok (.iload_n 2, 1) := by decide +kernel
theorem dX9_demand_3 : decode cX9_demand 3 = .ok (.invokestatic 308, 3) := by decide +kernel
theorem dX9_demand_6 : decode cX9_demand 6 = .ok (.invokestatic 299, 3) := by decide +kernel
theorem dX9_demand_9 : decode cX9_demand 9 = .ok (.return_, 1) := by decide +kernel
theorem dX9_throwFor_0 : decode cX9_throwFor 0 = .ok (.iload_n 0, 1) := by decide +kernel
theorem dX9_throwFor_1 : decode cX9_throwFor 1 = .ok (.tableswitch 50 0 2 #[27, 28, 39], 27) := by decide +kernel
theorem dX9_throwFor_28 : decode cX9_throwFor 28 = .ok (.return_, 1) := by decide +kernel
theorem dX9_throwFor_29 : decode cX9_throwFor 29 = .ok (.new 312, 3) := by decide +kernel
theorem dX9_throwFor_32 : decode cX9_throwFor 32 = .ok (.dup, 1) := by decide +kernel
theorem dX9_throwFor_33 : decode cX9_throwFor 33 = .ok (.ldc_w 314, 3) := by decide +kernel
theorem dX9_throwFor_36 : decode cX9_throwFor 36 = .ok (.invokespecial 316, 3) := by decide +kernel
theorem dX9_throwFor_39 : decode cX9_throwFor 39 = .ok (.athrow, 1) := by decide +kernel
theorem dX9_throwFor_40 : decode cX9_throwFor 40 = .ok (.new 319, 3) := by decide +kernel
theorem dX9_throwFor_43 : decode cX9_throwFor 43 = .ok (.dup, 1) := by decide +kernel
theorem dX9_throwFor_44 : decode cX9_throwFor 44 = .ok (.ldc_w 321, 3) := by decide +kernel
theorem dX9_throwFor_47 : decode cX9_throwFor 47 = .ok (.invokespecial 323, 3) := by decide +kernel
theorem dX9_throwFor_50 : decode cX9_throwFor 50 = .ok (.athrow, 1) := by decide +kernel
theorem dX9_throwFor_51 : decode cX9_throwFor 51 = .ok (.new 324, 3) := by decide +kernel
theorem dX9_throwFor_54 : decode cX9_throwFor 54 = .ok (.dup, 1) := by decide +kernel
theorem dX9_throwFor_55 : decode cX9_throwFor 55 = .ok (.ldc_w 326, 3) := by decide +kernel
theorem dX9_throwFor_58 : decode cX9_throwFor 58 = .ok (.invokespecial 328, 3) := by decide +kernel
theorem dX9_throwFor_61 : decode cX9_throwFor 61 = .ok (.athrow, 1) := by decide +kernel
theorem dX9_refusalOf_0 : decode cX9_refusalOf 0 = .ok (.iload_n 0, 1) := by decide +kernel
theorem dX9_refusalOf_1 : decode cX9_refusalOf 1 = .ok (.ifCond .ne 5, 3) := by decide +kernel
theorem dX9_refusalOf_4 : decode cX9_refusalOf 4 = .ok (.iconst 1, 1) := by decide +kernel
theorem dX9_refusalOf_5 : decode cX9_refusalOf 5 = .ok (.ireturn, 1) := by decide +kernel
theorem dX9_refusalOf_6 : decode cX9_refusalOf 6 = .ok (.iload_n 1, 1) := by decide +kernel
theorem dX9_refusalOf_7 : decode cX9_refusalOf 7 = .ok (.ifCond .ne 5, 3) := by decide +kernel
theorem dX9_refusalOf_10 : decode cX9_refusalOf 10 = .ok (.iconst 2, 1) := by decide +kernel
theorem dX9_refusalOf_11 : decode cX9_refusalOf 11 = .ok (.ireturn, 1) := by decide +kernel
theorem dX9_refusalOf_12 : decode cX9_refusalOf 12 = .ok (.iload_n 2, 1) := by decide +kernel
theorem dX9_refusalOf_13 : decode cX9_refusalOf 13 = .ok (.ifCond .eq 7, 3) := by decide +kernel
theorem dX9_refusalOf_16 : decode cX9_refusalOf 16 = .ok (.iconst 0, 1) := by decide +kernel
theorem dX9_refusalOf_17 : decode cX9_refusalOf 17 = .ok (.goto 4, 3) := by decide +kernel
theorem dX9_refusalOf_20 : decode cX9_refusalOf 20 = .ok (.iconst 3, 1) := by decide +kernel
theorem dX9_refusalOf_21 : decode cX9_refusalOf 21 = .ok (.ireturn, 1) := by decide +kernel
theorem dX9_isWithin_0 : decode cX9_isWithin 0 = .ok (.iload_n 0, 1) := by decide +kernel
theorem dX9_isWithin_1 : decode cX9_isWithin 1 = .ok (.iload_n 1, 1) := by decide +kernel
theorem dX9_isWithin_2 : decode cX9_isWithin 2 = .ok (.if_icmp .lt 12, 3) := by decide +kernel
theorem dX9_isWithin_5 : decode cX9_isWithin 5 = .ok (.iload_n 0, 1) := by decide +kernel
theorem dX9_isWithin_6 : decode cX9_isWithin 6 = .ok (.iload_n 2, 1) := by decide +kernel
theorem dX9_isWithin_7 : decode cX9_isWithin 7 = .ok (.if_icmp .gt 7, 3) := by decide +kernel
theorem dX9_isWithin_10 : decode cX9_isWithin 10 = .ok (.iconst 1, 1) := by decide +kernel
theorem dX9_isWithin_11 : decode cX9_isWithin 11 = .ok (.goto 4, 3) := by decide +kernel
theorem dX9_isWithin_14 : decode cX9_isWithin 14 = .ok (.iconst 0, 1) := by decide +kernel
theorem dX9_isWithin_15 : decode cX9_isWithin 15 = .ok (.ireturn, 1) := by decide +kernel
theorem dX9_strokesFor_0 : decode cX9_strokesFor 0 = .ok (.iconst 3, 1) := by decide +kernel
theorem dX9_strokesFor_1 : decode cX9_strokesFor 1 = .ok (.bipush 7, 2) := by decide +kernel
theorem dX9_strokesFor_3 : decode cX9_strokesFor 3 = .ok (.iload_n 1, 1) := by decide +kernel
theorem dX9_strokesFor_4 : decode cX9_strokesFor 4 = .ok (.imul, 1) := by decide +kernel
theorem dX9_strokesFor_5 : decode cX9_strokesFor 5 = .ok (.iconst 5, 1) := by decide +kernel
theorem dX9_strokesFor_6 : decode cX9_strokesFor 6 = .ok (.iload_n 0, 1) := by decide +kernel
theorem dX9_strokesFor_7 : decode cX9_strokesFor 7 = .ok (.imul, 1) := by decide +kernel
theorem dX9_strokesFor_8 : decode cX9_strokesFor 8 = .ok (.iadd, 1) := by decide +kernel
theorem dX9_strokesFor_9 : decode cX9_strokesFor 9 = .ok (.bipush 6, 2) := by decide +kernel
theorem dX9_strokesFor_11 : decode cX9_strokesFor 11 = .ok (.irem, 1) := by decide +kernel
theorem dX9_strokesFor_12 : decode cX9_strokesFor 12 = .ok (.iadd, 1) := by decide +kernel
theorem dX9_strokesFor_13 : decode cX9_strokesFor 13 = .ok (.ireturn, 1) := by decide +kernel
theorem dX9_numbersOf_0 : decode cX9_numbersOf 0 = .ok (.iload_n 0, 1) := by decide +kernel
theorem dX9_numbersOf_1 : decode cX9_numbersOf 1 = .ok (.tableswitch 37 0 2 #[27, 29, 33], 27) := by decide +kernel
theorem dX9_numbersOf_28 : decode cX9_numbersOf 28 = .ok (.lconst 1, 1) := by decide +kernel
theorem dX9_numbersOf_29 : decode cX9_numbersOf 29 = .ok (.lreturn, 1) := by decide +kernel
theorem dX9_numbersOf_30 : decode cX9_numbersOf 30 = .ok (.ldc2_w 270, 3) := by decide +kernel
theorem dX9_numbersOf_33 : decode cX9_numbersOf 33 = .ok (.lreturn, 1) := by decide +kernel
theorem dX9_numbersOf_34 : decode cX9_numbersOf 34 = .ok (.ldc2_w 329, 3) := by decide +kernel
theorem dX9_numbersOf_37 : decode cX9_numbersOf 37 = .ok (.lreturn, 1) := by decide +kernel
theorem dX9_numbersOf_38 : decode cX9_numbersOf 38 = .ok (.ldc2_w 331, 3) := by decide +kernel
theorem dX9_numbersOf_41 : decode cX9_numbersOf 41 = .ok (.lreturn, 1) := by decide +kernel
